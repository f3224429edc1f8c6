section
-- ===== PART A: goes FIRST, ahead of the names: the tables' words, and 'selects' of the private methods out of them =====
/-- a private method of a class that the tables say can be made, by its rows of tables_1 -/
def lw_okq (q : MethodName × Nat) : Prop := (q.1.cls ≠ "java/lang/invoke/MethodHandle" ∧ q.1.cls ≠ "java/lang/invoke/VarHandle") ∧ Cond.instantiable q.1.cls q.2 ∈ tables_1 ∧ Cond.privateMethod q.1 ∈ tables_1 ∧ Cond.instanceMethod q.1 ∈ tables_1
theorem lw_p0 : lw_okq (⟨"java/lang/Throwable", "fillInStackTrace", "(I)Ljava/lang/Throwable;"⟩, 6) := ⟨⟨by decide +kernel, by decide +kernel⟩, List.mem_of_getElem? (i := 528) (by decide +kernel), List.mem_of_getElem? (i := 526) (by decide +kernel), List.mem_of_getElem? (i := 527) (by decide +kernel)⟩
theorem lw_p1 : lw_okq (⟨"SpillslotWorks", "forget", "()V"⟩, 10) := ⟨⟨by decide +kernel, by decide +kernel⟩, List.mem_of_getElem? (i := 24) (by decide +kernel), List.mem_of_getElem? (i := 558) (by decide +kernel), List.mem_of_getElem? (i := 559) (by decide +kernel)⟩
theorem lw_p2 : lw_okq (⟨"SpillslotWorks", "builtNow", "()LSpillslotWorks$Works;"⟩, 10) := ⟨⟨by decide +kernel, by decide +kernel⟩, List.mem_of_getElem? (i := 24) (by decide +kernel), List.mem_of_getElem? (i := 597) (by decide +kernel), List.mem_of_getElem? (i := 598) (by decide +kernel)⟩
theorem lw_p3 : lw_okq (⟨"SpillslotWorks$Choice", "coverLeaf", "(II)V"⟩, 12) := ⟨⟨by decide +kernel, by decide +kernel⟩, List.mem_of_getElem? (i := 149) (by decide +kernel), List.mem_of_getElem? (i := 611) (by decide +kernel), List.mem_of_getElem? (i := 612) (by decide +kernel)⟩
theorem lw_p4 : lw_okq (⟨"SpillslotWorks$Choice", "coverPlain", "(II)V"⟩, 12) := ⟨⟨by decide +kernel, by decide +kernel⟩, List.mem_of_getElem? (i := 149) (by decide +kernel), List.mem_of_getElem? (i := 625) (by decide +kernel), List.mem_of_getElem? (i := 626) (by decide +kernel)⟩
theorem lw_p5 : lw_okq (⟨"SpillslotWorks$Choice", "coverSmall", "(II)V"⟩, 12) := ⟨⟨by decide +kernel, by decide +kernel⟩, List.mem_of_getElem? (i := 149) (by decide +kernel), List.mem_of_getElem? (i := 629) (by decide +kernel), List.mem_of_getElem? (i := 630) (by decide +kernel)⟩
theorem lw_p6 : lw_okq (⟨"SpillslotWorks$Choice", "isSmall", "(I)Z"⟩, 12) := ⟨⟨by decide +kernel, by decide +kernel⟩, List.mem_of_getElem? (i := 149) (by decide +kernel), List.mem_of_getElem? (i := 633) (by decide +kernel), List.mem_of_getElem? (i := 634) (by decide +kernel)⟩
theorem lw_p7 : lw_okq (⟨"SpillslotWorks$Choice", "coverFused", "(II)V"⟩, 12) := ⟨⟨by decide +kernel, by decide +kernel⟩, List.mem_of_getElem? (i := 149) (by decide +kernel), List.mem_of_getElem? (i := 637) (by decide +kernel), List.mem_of_getElem? (i := 638) (by decide +kernel)⟩
theorem lw_p8 : lw_okq (⟨"SpillslotWorks$Plan", "chooseAll", "()V"⟩, 9) := ⟨⟨by decide +kernel, by decide +kernel⟩, List.mem_of_getElem? (i := 143) (by decide +kernel), List.mem_of_getElem? (i := 641) (by decide +kernel), List.mem_of_getElem? (i := 642) (by decide +kernel)⟩
theorem lw_p9 : lw_okq (⟨"SpillslotWorks$Choice", "gather", "(I)I"⟩, 12) := ⟨⟨by decide +kernel, by decide +kernel⟩, List.mem_of_getElem? (i := 149) (by decide +kernel), List.mem_of_getElem? (i := 666) (by decide +kernel), List.mem_of_getElem? (i := 667) (by decide +kernel)⟩
theorem lw_p10 : lw_okq (⟨"SpillslotWorks$Choice", "push", "(I)V"⟩, 12) := ⟨⟨by decide +kernel, by decide +kernel⟩, List.mem_of_getElem? (i := 149) (by decide +kernel), List.mem_of_getElem? (i := 670) (by decide +kernel), List.mem_of_getElem? (i := 671) (by decide +kernel)⟩
theorem lw_p11 : lw_okq (⟨"SpillslotWorks$Choice", "emit", "(LSpillslotWorks$Instructions;III)V"⟩, 12) := ⟨⟨by decide +kernel, by decide +kernel⟩, List.mem_of_getElem? (i := 149) (by decide +kernel), List.mem_of_getElem? (i := 674) (by decide +kernel), List.mem_of_getElem? (i := 675) (by decide +kernel)⟩
theorem lw_p12 : lw_okq (⟨"SpillslotWorks$Choice", "valueRead", "(II)I"⟩, 12) := ⟨⟨by decide +kernel, by decide +kernel⟩, List.mem_of_getElem? (i := 149) (by decide +kernel), List.mem_of_getElem? (i := 691) (by decide +kernel), List.mem_of_getElem? (i := 692) (by decide +kernel)⟩
theorem lw_p13 : lw_okq (⟨"SpillslotWorks$Plan", "addEntry", "()V"⟩, 9) := ⟨⟨by decide +kernel, by decide +kernel⟩, List.mem_of_getElem? (i := 143) (by decide +kernel), List.mem_of_getElem? (i := 699) (by decide +kernel), List.mem_of_getElem? (i := 700) (by decide +kernel)⟩
theorem lw_p14 : lw_okq (⟨"SpillslotWorks$Plan", "earlyVariables", "()I"⟩, 9) := ⟨⟨by decide +kernel, by decide +kernel⟩, List.mem_of_getElem? (i := 143) (by decide +kernel), List.mem_of_getElem? (i := 703) (by decide +kernel), List.mem_of_getElem? (i := 704) (by decide +kernel)⟩
theorem lw_p15 : lw_okq (⟨"SpillslotWorks$Plan", "measureHeights", "(II)V"⟩, 9) := ⟨⟨by decide +kernel, by decide +kernel⟩, List.mem_of_getElem? (i := 143) (by decide +kernel), List.mem_of_getElem? (i := 727) (by decide +kernel), List.mem_of_getElem? (i := 728) (by decide +kernel)⟩
def lw_privs_1 : List (MethodName × Nat) := [(⟨"java/lang/Throwable", "fillInStackTrace", "(I)Ljava/lang/Throwable;"⟩, 6), (⟨"SpillslotWorks", "forget", "()V"⟩, 10), (⟨"SpillslotWorks", "builtNow", "()LSpillslotWorks$Works;"⟩, 10), (⟨"SpillslotWorks$Choice", "coverLeaf", "(II)V"⟩, 12), (⟨"SpillslotWorks$Choice", "coverPlain", "(II)V"⟩, 12), (⟨"SpillslotWorks$Choice", "coverSmall", "(II)V"⟩, 12), (⟨"SpillslotWorks$Choice", "isSmall", "(I)Z"⟩, 12), (⟨"SpillslotWorks$Choice", "coverFused", "(II)V"⟩, 12), (⟨"SpillslotWorks$Plan", "chooseAll", "()V"⟩, 9), (⟨"SpillslotWorks$Choice", "gather", "(I)I"⟩, 12), (⟨"SpillslotWorks$Choice", "push", "(I)V"⟩, 12), (⟨"SpillslotWorks$Choice", "emit", "(LSpillslotWorks$Instructions;III)V"⟩, 12), (⟨"SpillslotWorks$Choice", "valueRead", "(II)I"⟩, 12), (⟨"SpillslotWorks$Plan", "addEntry", "()V"⟩, 9), (⟨"SpillslotWorks$Plan", "earlyVariables", "()I"⟩, 9), (⟨"SpillslotWorks$Plan", "measureHeights", "(II)V"⟩, 9)]
theorem lw_r1 : ∀ q ∈ lw_privs_1, lw_okq q := List.forall_mem_cons.mpr ⟨lw_p0, List.forall_mem_cons.mpr ⟨lw_p1, List.forall_mem_cons.mpr ⟨lw_p2, List.forall_mem_cons.mpr ⟨lw_p3, List.forall_mem_cons.mpr ⟨lw_p4, List.forall_mem_cons.mpr ⟨lw_p5, List.forall_mem_cons.mpr ⟨lw_p6, List.forall_mem_cons.mpr ⟨lw_p7, List.forall_mem_cons.mpr ⟨lw_p8, List.forall_mem_cons.mpr ⟨lw_p9, List.forall_mem_cons.mpr ⟨lw_p10, List.forall_mem_cons.mpr ⟨lw_p11, List.forall_mem_cons.mpr ⟨lw_p12, List.forall_mem_cons.mpr ⟨lw_p13, List.forall_mem_cons.mpr ⟨lw_p14, List.forall_mem_cons.mpr ⟨lw_p15, fun _ h => absurd h List.not_mem_nil⟩⟩⟩⟩⟩⟩⟩⟩⟩⟩⟩⟩⟩⟩⟩⟩
theorem lw_p16 : lw_okq (⟨"SpillslotWorks$Plan", "isNeeding", "(II)Z"⟩, 9) := ⟨⟨by decide +kernel, by decide +kernel⟩, List.mem_of_getElem? (i := 143) (by decide +kernel), List.mem_of_getElem? (i := 735) (by decide +kernel), List.mem_of_getElem? (i := 736) (by decide +kernel)⟩
theorem lw_p17 : lw_okq (⟨"SpillslotWorks$Plan", "placeByHeight", "(II)V"⟩, 9) := ⟨⟨by decide +kernel, by decide +kernel⟩, List.mem_of_getElem? (i := 143) (by decide +kernel), List.mem_of_getElem? (i := 752) (by decide +kernel), List.mem_of_getElem? (i := 753) (by decide +kernel)⟩
theorem lw_p18 : lw_okq (⟨"SpillslotWorks$Plan", "countMissing", "(II)V"⟩, 9) := ⟨⟨by decide +kernel, by decide +kernel⟩, List.mem_of_getElem? (i := 143) (by decide +kernel), List.mem_of_getElem? (i := 756) (by decide +kernel), List.mem_of_getElem? (i := 757) (by decide +kernel)⟩
theorem lw_p19 : lw_okq (⟨"SpillslotWorks$Plan", "highestReady", "(II)I"⟩, 9) := ⟨⟨by decide +kernel, by decide +kernel⟩, List.mem_of_getElem? (i := 143) (by decide +kernel), List.mem_of_getElem? (i := 760) (by decide +kernel), List.mem_of_getElem? (i := 761) (by decide +kernel)⟩
theorem lw_p20 : lw_okq (⟨"SpillslotWorks$Plan", "placeAsChosen", "(II)V"⟩, 9) := ⟨⟨by decide +kernel, by decide +kernel⟩, List.mem_of_getElem? (i := 143) (by decide +kernel), List.mem_of_getElem? (i := 784) (by decide +kernel), List.mem_of_getElem? (i := 785) (by decide +kernel)⟩
theorem lw_p21 : lw_okq (⟨"SpillslotWorks$Lives", "touch", "(LSpillslotWorks$Instructions;I)V"⟩, 12) := ⟨⟨by decide +kernel, by decide +kernel⟩, List.mem_of_getElem? (i := 226) (by decide +kernel), List.mem_of_getElem? (i := 795) (by decide +kernel), List.mem_of_getElem? (i := 796) (by decide +kernel)⟩
theorem lw_p22 : lw_okq (⟨"SpillslotWorks$Lives", "touchValue", "(III)V"⟩, 12) := ⟨⟨by decide +kernel, by decide +kernel⟩, List.mem_of_getElem? (i := 226) (by decide +kernel), List.mem_of_getElem? (i := 807) (by decide +kernel), List.mem_of_getElem? (i := 808) (by decide +kernel)⟩
theorem lw_p23 : lw_okq (⟨"SpillslotWorks$Lives", "endOf", "(ILSpillslotWorks$Instructions;[I)I"⟩, 12) := ⟨⟨by decide +kernel, by decide +kernel⟩, List.mem_of_getElem? (i := 226) (by decide +kernel), List.mem_of_getElem? (i := 821) (by decide +kernel), List.mem_of_getElem? (i := 822) (by decide +kernel)⟩
theorem lw_p24 : lw_okq (⟨"SpillslotWorks$Lives", "weigh", "(I)I"⟩, 12) := ⟨⟨by decide +kernel, by decide +kernel⟩, List.mem_of_getElem? (i := 226) (by decide +kernel), List.mem_of_getElem? (i := 834) (by decide +kernel), List.mem_of_getElem? (i := 835) (by decide +kernel)⟩
theorem lw_p25 : lw_okq (⟨"SpillslotWorks$Lives", "countCrossed", "(I)I"⟩, 12) := ⟨⟨by decide +kernel, by decide +kernel⟩, List.mem_of_getElem? (i := 226) (by decide +kernel), List.mem_of_getElem? (i := 838) (by decide +kernel), List.mem_of_getElem? (i := 839) (by decide +kernel)⟩
theorem lw_p26 : lw_okq (⟨"SpillslotWorks$Homes", "giveRegister", "(LSpillslotWorks$Instructions;LSpillslotWorks$Lives;I)V"⟩, 10) := ⟨⟨by decide +kernel, by decide +kernel⟩, List.mem_of_getElem? (i := 314) (by decide +kernel), List.mem_of_getElem? (i := 860) (by decide +kernel), List.mem_of_getElem? (i := 861) (by decide +kernel)⟩
theorem lw_p27 : lw_okq (⟨"SpillslotWorks$Homes", "takenBehind", "(LSpillslotWorks$Lives;I)I"⟩, 10) := ⟨⟨by decide +kernel, by decide +kernel⟩, List.mem_of_getElem? (i := 314) (by decide +kernel), List.mem_of_getElem? (i := 873) (by decide +kernel), List.mem_of_getElem? (i := 874) (by decide +kernel)⟩
theorem lw_p28 : lw_okq (⟨"SpillslotWorks$Homes", "spillOne", "(LSpillslotWorks$Lives;II)V"⟩, 10) := ⟨⟨by decide +kernel, by decide +kernel⟩, List.mem_of_getElem? (i := 314) (by decide +kernel), List.mem_of_getElem? (i := 879) (by decide +kernel), List.mem_of_getElem? (i := 880) (by decide +kernel)⟩
theorem lw_p29 : lw_okq (⟨"SpillslotWorks$Homes", "likedRegister", "(LSpillslotWorks$Instructions;I)I"⟩, 10) := ⟨⟨by decide +kernel, by decide +kernel⟩, List.mem_of_getElem? (i := 314) (by decide +kernel), List.mem_of_getElem? (i := 888) (by decide +kernel), List.mem_of_getElem? (i := 889) (by decide +kernel)⟩
theorem lw_p30 : lw_okq (⟨"SpillslotWorks$Homes", "giveSlot", "(LSpillslotWorks$Instructions;LSpillslotWorks$Lives;I)V"⟩, 10) := ⟨⟨by decide +kernel, by decide +kernel⟩, List.mem_of_getElem? (i := 314) (by decide +kernel), List.mem_of_getElem? (i := 905) (by decide +kernel), List.mem_of_getElem? (i := 906) (by decide +kernel)⟩
theorem lw_p31 : lw_okq (⟨"SpillslotWorks$Homes", "firstSlotFree", "(LSpillslotWorks$Lives;I)I"⟩, 10) := ⟨⟨by decide +kernel, by decide +kernel⟩, List.mem_of_getElem? (i := 314) (by decide +kernel), List.mem_of_getElem? (i := 914) (by decide +kernel), List.mem_of_getElem? (i := 915) (by decide +kernel)⟩
def lw_privs_2 : List (MethodName × Nat) := [(⟨"SpillslotWorks$Plan", "isNeeding", "(II)Z"⟩, 9), (⟨"SpillslotWorks$Plan", "placeByHeight", "(II)V"⟩, 9), (⟨"SpillslotWorks$Plan", "countMissing", "(II)V"⟩, 9), (⟨"SpillslotWorks$Plan", "highestReady", "(II)I"⟩, 9), (⟨"SpillslotWorks$Plan", "placeAsChosen", "(II)V"⟩, 9), (⟨"SpillslotWorks$Lives", "touch", "(LSpillslotWorks$Instructions;I)V"⟩, 12), (⟨"SpillslotWorks$Lives", "touchValue", "(III)V"⟩, 12), (⟨"SpillslotWorks$Lives", "endOf", "(ILSpillslotWorks$Instructions;[I)I"⟩, 12), (⟨"SpillslotWorks$Lives", "weigh", "(I)I"⟩, 12), (⟨"SpillslotWorks$Lives", "countCrossed", "(I)I"⟩, 12), (⟨"SpillslotWorks$Homes", "giveRegister", "(LSpillslotWorks$Instructions;LSpillslotWorks$Lives;I)V"⟩, 10), (⟨"SpillslotWorks$Homes", "takenBehind", "(LSpillslotWorks$Lives;I)I"⟩, 10), (⟨"SpillslotWorks$Homes", "spillOne", "(LSpillslotWorks$Lives;II)V"⟩, 10), (⟨"SpillslotWorks$Homes", "likedRegister", "(LSpillslotWorks$Instructions;I)I"⟩, 10), (⟨"SpillslotWorks$Homes", "giveSlot", "(LSpillslotWorks$Instructions;LSpillslotWorks$Lives;I)V"⟩, 10), (⟨"SpillslotWorks$Homes", "firstSlotFree", "(LSpillslotWorks$Lives;I)I"⟩, 10)]
theorem lw_r2 : ∀ q ∈ lw_privs_2, lw_okq q := List.forall_mem_cons.mpr ⟨lw_p16, List.forall_mem_cons.mpr ⟨lw_p17, List.forall_mem_cons.mpr ⟨lw_p18, List.forall_mem_cons.mpr ⟨lw_p19, List.forall_mem_cons.mpr ⟨lw_p20, List.forall_mem_cons.mpr ⟨lw_p21, List.forall_mem_cons.mpr ⟨lw_p22, List.forall_mem_cons.mpr ⟨lw_p23, List.forall_mem_cons.mpr ⟨lw_p24, List.forall_mem_cons.mpr ⟨lw_p25, List.forall_mem_cons.mpr ⟨lw_p26, List.forall_mem_cons.mpr ⟨lw_p27, List.forall_mem_cons.mpr ⟨lw_p28, List.forall_mem_cons.mpr ⟨lw_p29, List.forall_mem_cons.mpr ⟨lw_p30, List.forall_mem_cons.mpr ⟨lw_p31, fun _ h => absurd h List.not_mem_nil⟩⟩⟩⟩⟩⟩⟩⟩⟩⟩⟩⟩⟩⟩⟩⟩
theorem lw_p32 : lw_okq (⟨"SpillslotWorks$Homes", "keptInUse", "(I)I"⟩, 10) := ⟨⟨by decide +kernel, by decide +kernel⟩, List.mem_of_getElem? (i := 314) (by decide +kernel), List.mem_of_getElem? (i := 919) (by decide +kernel), List.mem_of_getElem? (i := 920) (by decide +kernel)⟩
theorem lw_p33 : lw_okq (⟨"SpillslotWorks$Code", "makeCall", "(LSpillslotWorks$Instructions;LSpillslotWorks$Homes;)V"⟩, 7) := ⟨⟨by decide +kernel, by decide +kernel⟩, List.mem_of_getElem? (i := 359) (by decide +kernel), List.mem_of_getElem? (i := 935) (by decide +kernel), List.mem_of_getElem? (i := 936) (by decide +kernel)⟩
theorem lw_p34 : lw_okq (⟨"SpillslotWorks$Code", "addMove", "(II)V"⟩, 7) := ⟨⟨by decide +kernel, by decide +kernel⟩, List.mem_of_getElem? (i := 359) (by decide +kernel), List.mem_of_getElem? (i := 943) (by decide +kernel), List.mem_of_getElem? (i := 944) (by decide +kernel)⟩
theorem lw_p35 : lw_okq (⟨"SpillslotWorks$Code", "add", "(IIIII)V"⟩, 7) := ⟨⟨by decide +kernel, by decide +kernel⟩, List.mem_of_getElem? (i := 359) (by decide +kernel), List.mem_of_getElem? (i := 947) (by decide +kernel), List.mem_of_getElem? (i := 948) (by decide +kernel)⟩
theorem lw_p36 : lw_okq (⟨"SpillslotWorks$Code", "bring", "(LSpillslotWorks$Homes;II)V"⟩, 7) := ⟨⟨by decide +kernel, by decide +kernel⟩, List.mem_of_getElem? (i := 359) (by decide +kernel), List.mem_of_getElem? (i := 951) (by decide +kernel), List.mem_of_getElem? (i := 952) (by decide +kernel)⟩
theorem lw_p37 : lw_okq (⟨"SpillslotWorks$Code", "addLoad", "(LSpillslotWorks$Homes;II)V"⟩, 7) := ⟨⟨by decide +kernel, by decide +kernel⟩, List.mem_of_getElem? (i := 359) (by decide +kernel), List.mem_of_getElem? (i := 956) (by decide +kernel), List.mem_of_getElem? (i := 957) (by decide +kernel)⟩
theorem lw_p38 : lw_okq (⟨"SpillslotWorks$Code", "makeOne", "(LSpillslotWorks$Instructions;LSpillslotWorks$Homes;)V"⟩, 7) := ⟨⟨by decide +kernel, by decide +kernel⟩, List.mem_of_getElem? (i := 359) (by decide +kernel), List.mem_of_getElem? (i := 969) (by decide +kernel), List.mem_of_getElem? (i := 970) (by decide +kernel)⟩
theorem lw_p39 : lw_okq (⟨"SpillslotWorks$Code", "fetch", "(LSpillslotWorks$Instructions;LSpillslotWorks$Homes;I)I"⟩, 7) := ⟨⟨by decide +kernel, by decide +kernel⟩, List.mem_of_getElem? (i := 359) (by decide +kernel), List.mem_of_getElem? (i := 973) (by decide +kernel), List.mem_of_getElem? (i := 974) (by decide +kernel)⟩
theorem lw_p40 : lw_okq (⟨"SpillslotWorks$Code", "operate", "(IIIIII)V"⟩, 7) := ⟨⟨by decide +kernel, by decide +kernel⟩, List.mem_of_getElem? (i := 359) (by decide +kernel), List.mem_of_getElem? (i := 978) (by decide +kernel), List.mem_of_getElem? (i := 979) (by decide +kernel)⟩
theorem lw_p41 : lw_okq (⟨"SpillslotWorks$Code", "addOperation", "(IIIIII)V"⟩, 7) := ⟨⟨by decide +kernel, by decide +kernel⟩, List.mem_of_getElem? (i := 359) (by decide +kernel), List.mem_of_getElem? (i := 982) (by decide +kernel), List.mem_of_getElem? (i := 983) (by decide +kernel)⟩
theorem lw_p42 : lw_okq (⟨"SpillslotWorks$Run", "goThrough", "(LSpillslotWorks$Code;II)V"⟩, 10) := ⟨⟨by decide +kernel, by decide +kernel⟩, List.mem_of_getElem? (i := 389) (by decide +kernel), List.mem_of_getElem? (i := 996) (by decide +kernel), List.mem_of_getElem? (i := 997) (by decide +kernel)⟩
theorem lw_p43 : lw_okq (⟨"SpillslotWorks$Run", "readyFor", "(IIIII)I"⟩, 10) := ⟨⟨by decide +kernel, by decide +kernel⟩, List.mem_of_getElem? (i := 389) (by decide +kernel), List.mem_of_getElem? (i := 1008) (by decide +kernel), List.mem_of_getElem? (i := 1009) (by decide +kernel)⟩
theorem lw_p44 : lw_okq (⟨"SpillslotWorks$Run", "perform", "(IIIII)V"⟩, 10) := ⟨⟨by decide +kernel, by decide +kernel⟩, List.mem_of_getElem? (i := 389) (by decide +kernel), List.mem_of_getElem? (i := 1015) (by decide +kernel), List.mem_of_getElem? (i := 1016) (by decide +kernel)⟩
theorem lw_p45 : lw_okq (⟨"SpillslotWorks$Run", "performCall", "()V"⟩, 10) := ⟨⟨by decide +kernel, by decide +kernel⟩, List.mem_of_getElem? (i := 389) (by decide +kernel), List.mem_of_getElem? (i := 1019) (by decide +kernel), List.mem_of_getElem? (i := 1020) (by decide +kernel)⟩
theorem lw_p46 : lw_okq (⟨"SpillslotWorks$Run", "resultOf", "(IIII)I"⟩, 10) := ⟨⟨by decide +kernel, by decide +kernel⟩, List.mem_of_getElem? (i := 389) (by decide +kernel), List.mem_of_getElem? (i := 1025) (by decide +kernel), List.mem_of_getElem? (i := 1026) (by decide +kernel)⟩
theorem lw_p47 : lw_okq (⟨"SpillslotWorks", "builtWith", "(IIZ)LSpillslotWorks$Works;"⟩, 10) := ⟨⟨by decide +kernel, by decide +kernel⟩, List.mem_of_getElem? (i := 24) (by decide +kernel), List.mem_of_getElem? (i := 1057) (by decide +kernel), List.mem_of_getElem? (i := 1058) (by decide +kernel)⟩
def lw_privs_3 : List (MethodName × Nat) := [(⟨"SpillslotWorks$Homes", "keptInUse", "(I)I"⟩, 10), (⟨"SpillslotWorks$Code", "makeCall", "(LSpillslotWorks$Instructions;LSpillslotWorks$Homes;)V"⟩, 7), (⟨"SpillslotWorks$Code", "addMove", "(II)V"⟩, 7), (⟨"SpillslotWorks$Code", "add", "(IIIII)V"⟩, 7), (⟨"SpillslotWorks$Code", "bring", "(LSpillslotWorks$Homes;II)V"⟩, 7), (⟨"SpillslotWorks$Code", "addLoad", "(LSpillslotWorks$Homes;II)V"⟩, 7), (⟨"SpillslotWorks$Code", "makeOne", "(LSpillslotWorks$Instructions;LSpillslotWorks$Homes;)V"⟩, 7), (⟨"SpillslotWorks$Code", "fetch", "(LSpillslotWorks$Instructions;LSpillslotWorks$Homes;I)I"⟩, 7), (⟨"SpillslotWorks$Code", "operate", "(IIIIII)V"⟩, 7), (⟨"SpillslotWorks$Code", "addOperation", "(IIIIII)V"⟩, 7), (⟨"SpillslotWorks$Run", "goThrough", "(LSpillslotWorks$Code;II)V"⟩, 10), (⟨"SpillslotWorks$Run", "readyFor", "(IIIII)I"⟩, 10), (⟨"SpillslotWorks$Run", "perform", "(IIIII)V"⟩, 10), (⟨"SpillslotWorks$Run", "performCall", "()V"⟩, 10), (⟨"SpillslotWorks$Run", "resultOf", "(IIII)I"⟩, 10), (⟨"SpillslotWorks", "builtWith", "(IIZ)LSpillslotWorks$Works;"⟩, 10)]
theorem lw_r3 : ∀ q ∈ lw_privs_3, lw_okq q := List.forall_mem_cons.mpr ⟨lw_p32, List.forall_mem_cons.mpr ⟨lw_p33, List.forall_mem_cons.mpr ⟨lw_p34, List.forall_mem_cons.mpr ⟨lw_p35, List.forall_mem_cons.mpr ⟨lw_p36, List.forall_mem_cons.mpr ⟨lw_p37, List.forall_mem_cons.mpr ⟨lw_p38, List.forall_mem_cons.mpr ⟨lw_p39, List.forall_mem_cons.mpr ⟨lw_p40, List.forall_mem_cons.mpr ⟨lw_p41, List.forall_mem_cons.mpr ⟨lw_p42, List.forall_mem_cons.mpr ⟨lw_p43, List.forall_mem_cons.mpr ⟨lw_p44, List.forall_mem_cons.mpr ⟨lw_p45, List.forall_mem_cons.mpr ⟨lw_p46, List.forall_mem_cons.mpr ⟨lw_p47, fun _ h => absurd h List.not_mem_nil⟩⟩⟩⟩⟩⟩⟩⟩⟩⟩⟩⟩⟩⟩⟩⟩
theorem lw_p48 : lw_okq (⟨"SpillslotWorks", "fewestRegisters", "()I"⟩, 10) := ⟨⟨by decide +kernel, by decide +kernel⟩, List.mem_of_getElem? (i := 24) (by decide +kernel), List.mem_of_getElem? (i := 1074) (by decide +kernel), List.mem_of_getElem? (i := 1075) (by decide +kernel)⟩
theorem lw_p49 : lw_okq (⟨"SpillslotWorks", "cyclesUnordered", "()I"⟩, 10) := ⟨⟨by decide +kernel, by decide +kernel⟩, List.mem_of_getElem? (i := 24) (by decide +kernel), List.mem_of_getElem? (i := 1084) (by decide +kernel), List.mem_of_getElem? (i := 1085) (by decide +kernel)⟩
theorem lw_p50 : lw_okq (⟨"SpillslotWorks", "mixVariables", "(JLSpillslotWorks$Works;)J"⟩, 10) := ⟨⟨by decide +kernel, by decide +kernel⟩, List.mem_of_getElem? (i := 24) (by decide +kernel), List.mem_of_getElem? (i := 1097) (by decide +kernel), List.mem_of_getElem? (i := 1098) (by decide +kernel)⟩
theorem lw_p51 : lw_okq (⟨"SpillslotWorks", "meantNow", "()LSpillslotWorks$Meaning;"⟩, 10) := ⟨⟨by decide +kernel, by decide +kernel⟩, List.mem_of_getElem? (i := 24) (by decide +kernel), List.mem_of_getElem? (i := 1101) (by decide +kernel), List.mem_of_getElem? (i := 1102) (by decide +kernel)⟩
theorem lw_p52 : lw_okq (⟨"SpillslotWorks$Meaning", "workBlock", "(I)V"⟩, 3) := ⟨⟨by decide +kernel, by decide +kernel⟩, List.mem_of_getElem? (i := 88) (by decide +kernel), List.mem_of_getElem? (i := 1111) (by decide +kernel), List.mem_of_getElem? (i := 1112) (by decide +kernel)⟩
theorem lw_p53 : lw_okq (⟨"SpillslotWorks$Meaning", "valueOf", "(I)I"⟩, 3) := ⟨⟨by decide +kernel, by decide +kernel⟩, List.mem_of_getElem? (i := 88) (by decide +kernel), List.mem_of_getElem? (i := 1117) (by decide +kernel), List.mem_of_getElem? (i := 1118) (by decide +kernel)⟩
theorem lw_p54 : lw_okq (⟨"SpillslotWorks", "mixLines", "(JLSpillslotWorks$Works;)J"⟩, 10) := ⟨⟨by decide +kernel, by decide +kernel⟩, List.mem_of_getElem? (i := 24) (by decide +kernel), List.mem_of_getElem? (i := 1139) (by decide +kernel), List.mem_of_getElem? (i := 1140) (by decide +kernel)⟩
theorem lw_p55 : lw_okq (⟨"SpillslotWorks", "mixValues", "(JLSpillslotWorks$Works;)J"⟩, 10) := ⟨⟨by decide +kernel, by decide +kernel⟩, List.mem_of_getElem? (i := 24) (by decide +kernel), List.mem_of_getElem? (i := 1153) (by decide +kernel), List.mem_of_getElem? (i := 1154) (by decide +kernel)⟩
theorem lw_p56 : lw_okq (⟨"SpillslotWorks", "mixCalls", "(JLSpillslotWorks$Works;)J"⟩, 10) := ⟨⟨by decide +kernel, by decide +kernel⟩, List.mem_of_getElem? (i := 24) (by decide +kernel), List.mem_of_getElem? (i := 1173) (by decide +kernel), List.mem_of_getElem? (i := 1174) (by decide +kernel)⟩
def lw_privs_4 : List (MethodName × Nat) := [(⟨"SpillslotWorks", "fewestRegisters", "()I"⟩, 10), (⟨"SpillslotWorks", "cyclesUnordered", "()I"⟩, 10), (⟨"SpillslotWorks", "mixVariables", "(JLSpillslotWorks$Works;)J"⟩, 10), (⟨"SpillslotWorks", "meantNow", "()LSpillslotWorks$Meaning;"⟩, 10), (⟨"SpillslotWorks$Meaning", "workBlock", "(I)V"⟩, 3), (⟨"SpillslotWorks$Meaning", "valueOf", "(I)I"⟩, 3), (⟨"SpillslotWorks", "mixLines", "(JLSpillslotWorks$Works;)J"⟩, 10), (⟨"SpillslotWorks", "mixValues", "(JLSpillslotWorks$Works;)J"⟩, 10), (⟨"SpillslotWorks", "mixCalls", "(JLSpillslotWorks$Works;)J"⟩, 10)]
theorem lw_r4 : ∀ q ∈ lw_privs_4, lw_okq q := List.forall_mem_cons.mpr ⟨lw_p48, List.forall_mem_cons.mpr ⟨lw_p49, List.forall_mem_cons.mpr ⟨lw_p50, List.forall_mem_cons.mpr ⟨lw_p51, List.forall_mem_cons.mpr ⟨lw_p52, List.forall_mem_cons.mpr ⟨lw_p53, List.forall_mem_cons.mpr ⟨lw_p54, List.forall_mem_cons.mpr ⟨lw_p55, List.forall_mem_cons.mpr ⟨lw_p56, fun _ h => absurd h List.not_mem_nil⟩⟩⟩⟩⟩⟩⟩⟩⟩
def lw_privs : List (MethodName × Nat) := lw_privs_1 ++ (lw_privs_2 ++ (lw_privs_3 ++ (lw_privs_4)))
def lw_tbl : List Cond := k2_sels lw_privs ++ tables_1
theorem lw_privs_ok : ∀ q ∈ lw_privs, lw_okq q := by
  show ∀ q ∈ lw_privs_1 ++ (lw_privs_2 ++ (lw_privs_3 ++ (lw_privs_4))), lw_okq q
  exact List.forall_mem_append.mpr ⟨lw_r1, List.forall_mem_append.mpr ⟨lw_r2, List.forall_mem_append.mpr ⟨lw_r3, lw_r4⟩⟩⟩
-- ===== end of PART A; then your names; then what follows =====
end
section
def RX0 : String := "SpillslotWorks$Choice"
def TX0 : u_T := fun k => match k with
  | 0 => ("SpillslotWorks$Choice", "costs", "[I", true)
  | 1 => ("SpillslotWorks$Choice", "program", "LSpillslotWorks$Program;", true)
  | 2 => ("SpillslotWorks$Choice", "machine", "LSpillslotWorks$Machine;", true)
  | 3 => ("SpillslotWorks$Choice", "kinds", "[I", true)
  | 4 => ("SpillslotWorks$Choice", "numbers", "[I", true)
  | 5 => ("SpillslotWorks$Choice", "reads", "[I", true)
  | 6 => ("SpillslotWorks$Choice", "parts", "[I", true)
  | 7 => ("SpillslotWorks$Choice", "values", "[I", true)
  | 8 => ("SpillslotWorks$Choice", "pending", "[I", true)
  | 9 => ("SpillslotWorks$Choice", "sequence", "[I", true)
  | 10 => ("SpillslotWorks$Choice", "pendingCount", "I", false)
  | _ => ("SpillslotWorks$Choice", "nextValue", "I", false)
def tyX0 : Nat → FieldType := fun k => match k with
  | 0 => .array .int
  | 1 => .object "SpillslotWorks$Program"
  | 2 => .object "SpillslotWorks$Machine"
  | 3 => .array .int
  | 4 => .array .int
  | 5 => .array .int
  | 6 => .array .int
  | 7 => .array .int
  | 8 => .array .int
  | 9 => .array .int
  | 10 => .int
  | _ => .int
abbrev wsX00 : List Cond := u_ws RX0 TX0 12
theorem nmX0 : ∀ a, a < 12 → ∀ b, b < 12 → a ≠ b → (TX0 a).2.1 ≠ (TX0 b).2.1 := by decide +kernel
theorem tyX0_ok : ∀ k, k < 12 → parseFieldDescriptor (TX0 k).2.2.1 = some (tyX0 k) := by decide +kernel
abbrev cX0_init : ByteArray := prog_2_method_1_code
def yX0_init : MethodName := ⟨RX0, "<init>", "(LSpillslotWorks$Program;LSpillslotWorks$Machine;)V"⟩
abbrev cX0_coverAll : ByteArray := prog_2_method_2_code
def yX0_coverAll : MethodName := ⟨RX0, "coverAll", "()V"⟩
abbrev cX0_coverLeaf : ByteArray := prog_2_method_3_code
def yX0_coverLeaf : MethodName := ⟨RX0, "coverLeaf", "(II)V"⟩
abbrev cX0_coverPlain : ByteArray := prog_2_method_4_code
def yX0_coverPlain : MethodName := ⟨RX0, "coverPlain", "(II)V"⟩
abbrev cX0_coverSmall : ByteArray := prog_2_method_5_code
def yX0_coverSmall : MethodName := ⟨RX0, "coverSmall", "(II)V"⟩
abbrev cX0_isSmall : ByteArray := prog_2_method_6_code
def yX0_isSmall : MethodName := ⟨RX0, "isSmall", "(I)Z"⟩
abbrev cX0_coverFused : ByteArray := prog_2_method_7_code
def yX0_coverFused : MethodName := ⟨RX0, "coverFused", "(II)V"⟩
abbrev cX0_setNodes : ByteArray := prog_2_method_8_code
def yX0_setNodes : MethodName := ⟨RX0, "setNodes", "([IIIII)V"⟩
abbrev cX0_chooseStatement : ByteArray := prog_2_method_9_code
def yX0_chooseStatement : MethodName := ⟨RX0, "chooseStatement", "(LSpillslotWorks$Instructions;II)V"⟩
abbrev cX0_gather : ByteArray := prog_2_method_10_code
def yX0_gather : MethodName := ⟨RX0, "gather", "(I)I"⟩
abbrev cX0_push : ByteArray := prog_2_method_11_code
def yX0_push : MethodName := ⟨RX0, "push", "(I)V"⟩
abbrev cX0_emit : ByteArray := prog_2_method_12_code
def yX0_emit : MethodName := ⟨RX0, "emit", "(LSpillslotWorks$Instructions;III)V"⟩
abbrev cX0_valueRead : ByteArray := prog_2_method_13_code
def yX0_valueRead : MethodName := ⟨RX0, "valueRead", "(II)I"⟩
def RX1 : String := "SpillslotWorks$Code"
def TX1 : u_T := fun k => match k with
  | 0 => ("SpillslotWorks$Code", "length", "I", false)
  | 1 => ("SpillslotWorks$Code", "machine", "LSpillslotWorks$Machine;", true)
  | 2 => ("SpillslotWorks$Code", "kinds", "[I", true)
  | 3 => ("SpillslotWorks$Code", "operands", "[I", true)
  | 4 => ("SpillslotWorks$Code", "points", "[I", true)
  | 5 => ("SpillslotWorks$Code", "starts", "[I", true)
  | _ => ("SpillslotWorks$Code", "point", "I", false)
def tyX1 : Nat → FieldType := fun k => match k with
  | 0 => .int
  | 1 => .object "SpillslotWorks$Machine"
  | 2 => .array .int
  | 3 => .array .int
  | 4 => .array .int
  | 5 => .array .int
  | _ => .int
abbrev wsX10 : List Cond := u_ws RX1 TX1 7
theorem nmX1 : ∀ a, a < 7 → ∀ b, b < 7 → a ≠ b → (TX1 a).2.1 ≠ (TX1 b).2.1 := by decide +kernel
theorem tyX1_ok : ∀ k, k < 7 → parseFieldDescriptor (TX1 k).2.2.1 = some (tyX1 k) := by decide +kernel
abbrev cX1_init : ByteArray := prog_3_method_1_code
def yX1_init : MethodName := ⟨RX1, "<init>", "(LSpillslotWorks$Machine;)V"⟩
abbrev cX1_make : ByteArray := prog_3_method_2_code
def yX1_make : MethodName := ⟨RX1, "make", "(LSpillslotWorks$Instructions;LSpillslotWorks$Homes;)V"⟩
abbrev cX1_makeOne : ByteArray := prog_3_method_3_code
def yX1_makeOne : MethodName := ⟨RX1, "makeOne", "(LSpillslotWorks$Instructions;LSpillslotWorks$Homes;)V"⟩
abbrev cX1_fetch : ByteArray := prog_3_method_4_code
def yX1_fetch : MethodName := ⟨RX1, "fetch", "(LSpillslotWorks$Instructions;LSpillslotWorks$Homes;I)I"⟩
abbrev cX1_bring : ByteArray := prog_3_method_5_code
def yX1_bring : MethodName := ⟨RX1, "bring", "(LSpillslotWorks$Homes;II)V"⟩
abbrev cX1_addLoad : ByteArray := prog_3_method_6_code
def yX1_addLoad : MethodName := ⟨RX1, "addLoad", "(LSpillslotWorks$Homes;II)V"⟩
abbrev cX1_operate : ByteArray := prog_3_method_7_code
def yX1_operate : MethodName := ⟨RX1, "operate", "(IIIIII)V"⟩
abbrev cX1_addOperation : ByteArray := prog_3_method_8_code
def yX1_addOperation : MethodName := ⟨RX1, "addOperation", "(IIIIII)V"⟩
abbrev cX1_makeCall : ByteArray := prog_3_method_9_code
def yX1_makeCall : MethodName := ⟨RX1, "makeCall", "(LSpillslotWorks$Instructions;LSpillslotWorks$Homes;)V"⟩
abbrev cX1_addMove : ByteArray := prog_3_method_10_code
def yX1_addMove : MethodName := ⟨RX1, "addMove", "(II)V"⟩
abbrev cX1_add : ByteArray := prog_3_method_11_code
def yX1_add : MethodName := ⟨RX1, "add", "(IIIII)V"⟩
abbrev cX1_kindOf : ByteArray := prog_3_method_12_code
def yX1_kindOf : MethodName := ⟨RX1, "kindOf", "(I)I"⟩
abbrev cX1_operandOf : ByteArray := prog_3_method_13_code
def yX1_operandOf : MethodName := ⟨RX1, "operandOf", "(II)I"⟩
abbrev cX1_startOf : ByteArray := prog_3_method_14_code
def yX1_startOf : MethodName := ⟨RX1, "startOf", "(I)I"⟩
abbrev cX1_tellPlace : ByteArray := prog_3_method_15_code
def yX1_tellPlace : MethodName := ⟨RX1, "tellPlace", "(II)I"⟩
abbrev cX1_countOf : ByteArray := prog_3_method_16_code
def yX1_countOf : MethodName := ⟨RX1, "countOf", "(I)I"⟩
def RX2 : String := "SpillslotWorks$Homes"
def TX2 : u_T := fun k => match k with
  | 0 => ("SpillslotWorks$Homes", "spilledCount", "I", false)
  | 1 => ("SpillslotWorks$Homes", "remadeCount", "I", false)
  | 2 => ("SpillslotWorks$Homes", "slotCount", "I", false)
  | 3 => ("SpillslotWorks$Homes", "frame", "I", false)
  | 4 => ("SpillslotWorks$Homes", "machine", "LSpillslotWorks$Machine;", true)
  | 5 => ("SpillslotWorks$Homes", "registers", "[I", true)
  | 6 => ("SpillslotWorks$Homes", "slots", "[I", true)
  | 7 => ("SpillslotWorks$Homes", "isMadeAnew", "[I", true)
  | 8 => ("SpillslotWorks$Homes", "numbers", "[I", true)
  | _ => ("SpillslotWorks$Homes", "isSlotTaken", "[I", true)
def tyX2 : Nat → FieldType := fun k => match k with
  | 0 => .int
  | 1 => .int
  | 2 => .int
  | 3 => .int
  | 4 => .object "SpillslotWorks$Machine"
  | 5 => .array .int
  | 6 => .array .int
  | 7 => .array .int
  | 8 => .array .int
  | _ => .array .int
abbrev wsX20 : List Cond := u_ws RX2 TX2 10
theorem nmX2 : ∀ a, a < 10 → ∀ b, b < 10 → a ≠ b → (TX2 a).2.1 ≠ (TX2 b).2.1 := by decide +kernel
theorem tyX2_ok : ∀ k, k < 10 → parseFieldDescriptor (TX2 k).2.2.1 = some (tyX2 k) := by decide +kernel
abbrev cX2_init : ByteArray := prog_4_method_1_code
def yX2_init : MethodName := ⟨RX2, "<init>", "(LSpillslotWorks$Machine;)V"⟩
abbrev cX2_give : ByteArray := prog_4_method_2_code
def yX2_give : MethodName := ⟨RX2, "give", "(LSpillslotWorks$Instructions;LSpillslotWorks$Lives;)V"⟩
abbrev cX2_isBirth : ByteArray := prog_4_method_3_code
def yX2_isBirth : MethodName := ⟨RX2, "isBirth", "(LSpillslotWorks$Instructions;LSpillslotWorks$Lives;I)Z"⟩
abbrev cX2_giveRegister : ByteArray := prog_4_method_4_code
def yX2_giveRegister : MethodName := ⟨RX2, "giveRegister", "(LSpillslotWorks$Instructions;LSpillslotWorks$Lives;I)V"⟩
abbrev cX2_takenBehind : ByteArray := prog_4_method_5_code
def yX2_takenBehind : MethodName := ⟨RX2, "takenBehind", "(LSpillslotWorks$Lives;I)I"⟩
abbrev cX2_likedRegister : ByteArray := prog_4_method_6_code
def yX2_likedRegister : MethodName := ⟨RX2, "likedRegister", "(LSpillslotWorks$Instructions;I)I"⟩
abbrev cX2_smallestOf : ByteArray := prog_4_method_7_code
def yX2_smallestOf : MethodName := ⟨RX2, "smallestOf", "(I)I"⟩
abbrev cX2_spillOne : ByteArray := prog_4_method_8_code
def yX2_spillOne : MethodName := ⟨RX2, "spillOne", "(LSpillslotWorks$Lives;II)V"⟩
abbrev cX2_isLighter : ByteArray := prog_4_method_9_code
def yX2_isLighter : MethodName := ⟨RX2, "isLighter", "(LSpillslotWorks$Lives;II)Z"⟩
abbrev cX2_giveSlot : ByteArray := prog_4_method_10_code
def yX2_giveSlot : MethodName := ⟨RX2, "giveSlot", "(LSpillslotWorks$Instructions;LSpillslotWorks$Lives;I)V"⟩
abbrev cX2_firstSlotFree : ByteArray := prog_4_method_11_code
def yX2_firstSlotFree : MethodName := ⟨RX2, "firstSlotFree", "(LSpillslotWorks$Lives;I)I"⟩
abbrev cX2_keptInUse : ByteArray := prog_4_method_12_code
def yX2_keptInUse : MethodName := ⟨RX2, "keptInUse", "(I)I"⟩
abbrev cX2_isSpilled : ByteArray := prog_4_method_13_code
def yX2_isSpilled : MethodName := ⟨RX2, "isSpilled", "(I)Z"⟩
abbrev cX2_registerOf : ByteArray := prog_4_method_14_code
def yX2_registerOf : MethodName := ⟨RX2, "registerOf", "(I)I"⟩
abbrev cX2_slotOf : ByteArray := prog_4_method_15_code
def yX2_slotOf : MethodName := ⟨RX2, "slotOf", "(I)I"⟩
abbrev cX2_isRemade : ByteArray := prog_4_method_16_code
def yX2_isRemade : MethodName := ⟨RX2, "isRemade", "(I)Z"⟩
abbrev cX2_numberOf : ByteArray := prog_4_method_17_code
def yX2_numberOf : MethodName := ⟨RX2, "numberOf", "(I)I"⟩
def RX3 : String := "SpillslotWorks$Instructions"
def TX3 : u_T := fun k => match k with
  | 0 => ("SpillslotWorks$Instructions", "count", "I", false)
  | 1 => ("SpillslotWorks$Instructions", "kinds", "[I", true)
  | 2 => ("SpillslotWorks$Instructions", "writes", "[I", true)
  | 3 => ("SpillslotWorks$Instructions", "reads", "[I", true)
  | 4 => ("SpillslotWorks$Instructions", "numbers", "[I", true)
  | 5 => ("SpillslotWorks$Instructions", "blocks", "[I", true)
  | _ => ("SpillslotWorks$Instructions", "heights", "[I", true)
def tyX3 : Nat → FieldType := fun k => match k with
  | 0 => .int
  | 1 => .array .int
  | 2 => .array .int
  | 3 => .array .int
  | 4 => .array .int
  | 5 => .array .int
  | _ => .array .int
abbrev wsX30 : List Cond := u_ws RX3 TX3 7
theorem nmX3 : ∀ a, a < 7 → ∀ b, b < 7 → a ≠ b → (TX3 a).2.1 ≠ (TX3 b).2.1 := by decide +kernel
theorem tyX3_ok : ∀ k, k < 7 → parseFieldDescriptor (TX3 k).2.2.1 = some (tyX3 k) := by decide +kernel
abbrev cX3_init : ByteArray := prog_5_method_1_code
def yX3_init : MethodName := ⟨RX3, "<init>", "()V"⟩
abbrev cX3_clear : ByteArray := prog_5_method_2_code
def yX3_clear : MethodName := ⟨RX3, "clear", "()V"⟩
abbrev cX3_add : ByteArray := prog_5_method_3_code
def yX3_add : MethodName := ⟨RX3, "add", "(III)V"⟩
abbrev cX3_setReads : ByteArray := prog_5_method_4_code
def yX3_setReads : MethodName := ⟨RX3, "setReads", "(III)V"⟩
abbrev cX3_setNumber : ByteArray := prog_5_method_5_code
def yX3_setNumber : MethodName := ⟨RX3, "setNumber", "(I)V"⟩
abbrev cX3_setHeight : ByteArray := prog_5_method_6_code
def yX3_setHeight : MethodName := ⟨RX3, "setHeight", "(II)V"⟩
abbrev cX3_addCopy : ByteArray := prog_5_method_7_code
def yX3_addCopy : MethodName := ⟨RX3, "addCopy", "(LSpillslotWorks$Instructions;I)V"⟩
abbrev cX3_kindOf : ByteArray := prog_5_method_8_code
def yX3_kindOf : MethodName := ⟨RX3, "kindOf", "(I)I"⟩
abbrev cX3_writtenBy : ByteArray := prog_5_method_9_code
def yX3_writtenBy : MethodName := ⟨RX3, "writtenBy", "(I)I"⟩
abbrev cX3_readBy : ByteArray := prog_5_method_10_code
def yX3_readBy : MethodName := ⟨RX3, "readBy", "(II)I"⟩
abbrev cX3_isReading : ByteArray := prog_5_method_11_code
def yX3_isReading : MethodName := ⟨RX3, "isReading", "(II)Z"⟩
abbrev cX3_numberOf : ByteArray := prog_5_method_12_code
def yX3_numberOf : MethodName := ⟨RX3, "numberOf", "(I)I"⟩
abbrev cX3_blockOf : ByteArray := prog_5_method_13_code
def yX3_blockOf : MethodName := ⟨RX3, "blockOf", "(I)I"⟩
abbrev cX3_heightOf : ByteArray := prog_5_method_14_code
def yX3_heightOf : MethodName := ⟨RX3, "heightOf", "(I)I"⟩
def RX4 : String := "SpillslotWorks$Lives"
def TX4 : u_T := fun k => match k with
  | 0 => ("SpillslotWorks$Lives", "valueCount", "I", false)
  | 1 => ("SpillslotWorks$Lives", "livingCount", "I", false)
  | 2 => ("SpillslotWorks$Lives", "callCount", "I", false)
  | 3 => ("SpillslotWorks$Lives", "program", "LSpillslotWorks$Program;", true)
  | 4 => ("SpillslotWorks$Lives", "firsts", "[I", true)
  | 5 => ("SpillslotWorks$Lives", "lasts", "[I", true)
  | 6 => ("SpillslotWorks$Lives", "sums", "[I", true)
  | 7 => ("SpillslotWorks$Lives", "weights", "[I", true)
  | 8 => ("SpillslotWorks$Lives", "writes", "[I", true)
  | 9 => ("SpillslotWorks$Lives", "reads", "[I", true)
  | 10 => ("SpillslotWorks$Lives", "crossed", "[I", true)
  | _ => ("SpillslotWorks$Lives", "callPoints", "[I", true)
def tyX4 : Nat → FieldType := fun k => match k with
  | 0 => .int
  | 1 => .int
  | 2 => .int
  | 3 => .object "SpillslotWorks$Program"
  | 4 => .array .int
  | 5 => .array .int
  | 6 => .array .int
  | 7 => .array .int
  | 8 => .array .int
  | 9 => .array .int
  | 10 => .array .int
  | _ => .array .int
abbrev wsX40 : List Cond := u_ws RX4 TX4 12
theorem nmX4 : ∀ a, a < 12 → ∀ b, b < 12 → a ≠ b → (TX4 a).2.1 ≠ (TX4 b).2.1 := by decide +kernel
theorem tyX4_ok : ∀ k, k < 12 → parseFieldDescriptor (TX4 k).2.2.1 = some (tyX4 k) := by decide +kernel
abbrev cX4_init : ByteArray := prog_6_method_1_code
def yX4_init : MethodName := ⟨RX4, "<init>", "(LSpillslotWorks$Program;)V"⟩
abbrev cX4_measure : ByteArray := prog_6_method_2_code
def yX4_measure : MethodName := ⟨RX4, "measure", "(LSpillslotWorks$Instructions;[I)V"⟩
abbrev cX4_touch : ByteArray := prog_6_method_3_code
def yX4_touch : MethodName := ⟨RX4, "touch", "(LSpillslotWorks$Instructions;I)V"⟩
abbrev cX4_touchValue : ByteArray := prog_6_method_4_code
def yX4_touchValue : MethodName := ⟨RX4, "touchValue", "(III)V"⟩
abbrev cX4_endOf : ByteArray := prog_6_method_5_code
def yX4_endOf : MethodName := ⟨RX4, "endOf", "(ILSpillslotWorks$Instructions;[I)I"⟩
abbrev cX4_weigh : ByteArray := prog_6_method_6_code
def yX4_weigh : MethodName := ⟨RX4, "weigh", "(I)I"⟩
abbrev cX4_countCrossed : ByteArray := prog_6_method_7_code
def yX4_countCrossed : MethodName := ⟨RX4, "countCrossed", "(I)I"⟩
abbrev cX4_isLiving : ByteArray := prog_6_method_8_code
def yX4_isLiving : MethodName := ⟨RX4, "isLiving", "(I)Z"⟩
abbrev cX4_isCrossing : ByteArray := prog_6_method_9_code
def yX4_isCrossing : MethodName := ⟨RX4, "isCrossing", "(II)Z"⟩
abbrev cX4_firstOf : ByteArray := prog_6_method_10_code
def yX4_firstOf : MethodName := ⟨RX4, "firstOf", "(I)I"⟩
abbrev cX4_lastOf : ByteArray := prog_6_method_11_code
def yX4_lastOf : MethodName := ⟨RX4, "lastOf", "(I)I"⟩
abbrev cX4_weightOf : ByteArray := prog_6_method_12_code
def yX4_weightOf : MethodName := ⟨RX4, "weightOf", "(I)I"⟩
abbrev cX4_crossedBy : ByteArray := prog_6_method_13_code
def yX4_crossedBy : MethodName := ⟨RX4, "crossedBy", "(I)I"⟩
abbrev cX4_writesOf : ByteArray := prog_6_method_14_code
def yX4_writesOf : MethodName := ⟨RX4, "writesOf", "(I)I"⟩
abbrev cX4_touchesOf : ByteArray := prog_6_method_15_code
def yX4_touchesOf : MethodName := ⟨RX4, "touchesOf", "(I)I"⟩
abbrev cX4_pointOfCall : ByteArray := prog_6_method_16_code
def yX4_pointOfCall : MethodName := ⟨RX4, "pointOfCall", "(I)I"⟩
abbrev cX4_mostAtOnce : ByteArray := prog_6_method_17_code
def yX4_mostAtOnce : MethodName := ⟨RX4, "mostAtOnce", "(I)I"⟩
def RX5 : String := "SpillslotWorks$Machine"
def TX5 : u_T := fun k => match k with
  | 0 => ("SpillslotWorks$Machine", "registers", "I", false)
  | 1 => ("SpillslotWorks$Machine", "kept", "I", false)
  | 2 => ("SpillslotWorks$Machine", "small", "I", false)
  | 3 => ("SpillslotWorks$Machine", "isFused", "Z", false)
  | 4 => ("SpillslotWorks$Machine", "isTwo", "Z", false)
  | _ => ("SpillslotWorks$Machine", "latencies", "[I", true)
def tyX5 : Nat → FieldType := fun k => match k with
  | 0 => .int
  | 1 => .int
  | 2 => .int
  | 3 => .boolean
  | 4 => .boolean
  | _ => .array .int
abbrev wsX50 : List Cond := u_ws RX5 TX5 6
theorem nmX5 : ∀ a, a < 6 → ∀ b, b < 6 → a ≠ b → (TX5 a).2.1 ≠ (TX5 b).2.1 := by decide +kernel
theorem tyX5_ok : ∀ k, k < 6 → parseFieldDescriptor (TX5 k).2.2.1 = some (tyX5 k) := by decide +kernel
abbrev cX5_init : ByteArray := prog_7_method_1_code
def yX5_init : MethodName := ⟨RX5, "<init>", "()V"⟩
abbrev cX5_beLike : ByteArray := prog_7_method_2_code
def yX5_beLike : MethodName := ⟨RX5, "beLike", "(LSpillslotWorks$Machine;)V"⟩
abbrev cX5_scratch : ByteArray := prog_7_method_3_code
def yX5_scratch : MethodName := ⟨RX5, "scratch", "()I"⟩
abbrev cX5_cyclesOf : ByteArray := prog_7_method_4_code
def yX5_cyclesOf : MethodName := ⟨RX5, "cyclesOf", "(I)I"⟩
def RX6 : String := "SpillslotWorks$Meaning"
def TX6 : u_T := fun k => match k with
  | 0 => ("SpillslotWorks$Meaning", "variables", "[I", true)
  | 1 => ("SpillslotWorks$Meaning", "nodes", "[I", true)
  | _ => ("SpillslotWorks$Meaning", "program", "LSpillslotWorks$Program;", true)
def tyX6 : Nat → FieldType := fun k => match k with
  | 0 => .array .int
  | 1 => .array .int
  | _ => .object "SpillslotWorks$Program"
abbrev wsX60 : List Cond := u_ws RX6 TX6 3
theorem nmX6 : ∀ a, a < 3 → ∀ b, b < 3 → a ≠ b → (TX6 a).2.1 ≠ (TX6 b).2.1 := by decide +kernel
theorem tyX6_ok : ∀ k, k < 3 → parseFieldDescriptor (TX6 k).2.2.1 = some (tyX6 k) := by decide +kernel
abbrev cX6_init : ByteArray := prog_8_method_1_code
def yX6_init : MethodName := ⟨RX6, "<init>", "(LSpillslotWorks$Program;)V"⟩
abbrev cX6_work : ByteArray := prog_8_method_2_code
def yX6_work : MethodName := ⟨RX6, "work", "()V"⟩
abbrev cX6_workBlock : ByteArray := prog_8_method_3_code
def yX6_workBlock : MethodName := ⟨RX6, "workBlock", "(I)V"⟩
abbrev cX6_valueOf : ByteArray := prog_8_method_4_code
def yX6_valueOf : MethodName := ⟨RX6, "valueOf", "(I)I"⟩
def RX7 : String := "SpillslotWorks$Plan"
def TX7 : u_T := fun k => match k with
  | 0 => ("SpillslotWorks$Plan", "choice", "LSpillslotWorks$Choice;", true)
  | 1 => ("SpillslotWorks$Plan", "lines", "LSpillslotWorks$Instructions;", true)
  | 2 => ("SpillslotWorks$Plan", "lives", "LSpillslotWorks$Lives;", true)
  | 3 => ("SpillslotWorks$Plan", "starts", "[I", true)
  | 4 => ("SpillslotWorks$Plan", "program", "LSpillslotWorks$Program;", true)
  | 5 => ("SpillslotWorks$Plan", "machine", "LSpillslotWorks$Machine;", true)
  | 6 => ("SpillslotWorks$Plan", "raw", "LSpillslotWorks$Instructions;", true)
  | 7 => ("SpillslotWorks$Plan", "rawStarts", "[I", true)
  | _ => ("SpillslotWorks$Plan", "missing", "[I", true)
def tyX7 : Nat → FieldType := fun k => match k with
  | 0 => .object "SpillslotWorks$Choice"
  | 1 => .object "SpillslotWorks$Instructions"
  | 2 => .object "SpillslotWorks$Lives"
  | 3 => .array .int
  | 4 => .object "SpillslotWorks$Program"
  | 5 => .object "SpillslotWorks$Machine"
  | 6 => .object "SpillslotWorks$Instructions"
  | 7 => .array .int
  | _ => .array .int
abbrev wsX70 : List Cond := u_ws RX7 TX7 9
theorem nmX7 : ∀ a, a < 9 → ∀ b, b < 9 → a ≠ b → (TX7 a).2.1 ≠ (TX7 b).2.1 := by decide +kernel
theorem tyX7_ok : ∀ k, k < 9 → parseFieldDescriptor (TX7 k).2.2.1 = some (tyX7 k) := by decide +kernel
abbrev cX7_init : ByteArray := prog_9_method_1_code
def yX7_init : MethodName := ⟨RX7, "<init>", "(LSpillslotWorks$Program;LSpillslotWorks$Machine;)V"⟩
abbrev cX7_build : ByteArray := prog_9_method_2_code
def yX7_build : MethodName := ⟨RX7, "build", "(Z)V"⟩
abbrev cX7_chooseAll : ByteArray := prog_9_method_3_code
def yX7_chooseAll : MethodName := ⟨RX7, "chooseAll", "()V"⟩
abbrev cX7_addEntry : ByteArray := prog_9_method_4_code
def yX7_addEntry : MethodName := ⟨RX7, "addEntry", "()V"⟩
abbrev cX7_earlyVariables : ByteArray := prog_9_method_5_code
def yX7_earlyVariables : MethodName := ⟨RX7, "earlyVariables", "()I"⟩
abbrev cX7_variableBit : ByteArray := prog_9_method_6_code
def yX7_variableBit : MethodName := ⟨RX7, "variableBit", "(I)I"⟩
abbrev cX7_isNeeding : ByteArray := prog_9_method_7_code
def yX7_isNeeding : MethodName := ⟨RX7, "isNeeding", "(II)Z"⟩
abbrev cX7_measureHeights : ByteArray := prog_9_method_8_code
def yX7_measureHeights : MethodName := ⟨RX7, "measureHeights", "(II)V"⟩
abbrev cX7_placeAsChosen : ByteArray := prog_9_method_9_code
def yX7_placeAsChosen : MethodName := ⟨RX7, "placeAsChosen", "(II)V"⟩
abbrev cX7_placeByHeight : ByteArray := prog_9_method_10_code
def yX7_placeByHeight : MethodName := ⟨RX7, "placeByHeight", "(II)V"⟩
abbrev cX7_countMissing : ByteArray := prog_9_method_11_code
def yX7_countMissing : MethodName := ⟨RX7, "countMissing", "(II)V"⟩
abbrev cX7_highestReady : ByteArray := prog_9_method_12_code
def yX7_highestReady : MethodName := ⟨RX7, "highestReady", "(II)I"⟩
def RX8 : String := "SpillslotWorks$Program"
def TX8 : u_T := fun k => match k with
  | 0 => ("SpillslotWorks$Program", "nodeCount", "I", false)
  | 1 => ("SpillslotWorks$Program", "statementCount", "I", false)
  | 2 => ("SpillslotWorks$Program", "asked", "I", false)
  | 3 => ("SpillslotWorks$Program", "rounds", "[I", true)
  | 4 => ("SpillslotWorks$Program", "kinds", "[I", true)
  | 5 => ("SpillslotWorks$Program", "firstParts", "[I", true)
  | 6 => ("SpillslotWorks$Program", "secondParts", "[I", true)
  | 7 => ("SpillslotWorks$Program", "isPart", "[I", true)
  | 8 => ("SpillslotWorks$Program", "counts", "[I", true)
  | 9 => ("SpillslotWorks$Program", "variables", "[I", true)
  | _ => ("SpillslotWorks$Program", "roots", "[I", true)
def tyX8 : Nat → FieldType := fun k => match k with
  | 0 => .int
  | 1 => .int
  | 2 => .int
  | 3 => .array .int
  | 4 => .array .int
  | 5 => .array .int
  | 6 => .array .int
  | 7 => .array .int
  | 8 => .array .int
  | 9 => .array .int
  | _ => .array .int
abbrev wsX80 : List Cond := u_ws RX8 TX8 11
theorem nmX8 : ∀ a, a < 11 → ∀ b, b < 11 → a ≠ b → (TX8 a).2.1 ≠ (TX8 b).2.1 := by decide +kernel
theorem tyX8_ok : ∀ k, k < 11 → parseFieldDescriptor (TX8 k).2.2.1 = some (tyX8 k) := by decide +kernel
abbrev cX8_init : ByteArray := prog_10_method_1_code
def yX8_init : MethodName := ⟨RX8, "<init>", "()V"⟩
abbrev cX8_canBeNode : ByteArray := prog_10_method_2_code
def yX8_canBeNode : MethodName := ⟨RX8, "canBeNode", "(III)Z"⟩
abbrev cX8_isLoose : ByteArray := prog_10_method_3_code
def yX8_isLoose : MethodName := ⟨RX8, "isLoose", "(I)Z"⟩
abbrev cX8_addNode : ByteArray := prog_10_method_4_code
def yX8_addNode : MethodName := ⟨RX8, "addNode", "(III)I"⟩
abbrev cX8_addStatement : ByteArray := prog_10_method_5_code
def yX8_addStatement : MethodName := ⟨RX8, "addStatement", "(III)I"⟩
abbrev cX8_looseCount : ByteArray := prog_10_method_7_code
def yX8_looseCount : MethodName := ⟨RX8, "looseCount", "()I"⟩
abbrev cX8_statementsIn : ByteArray := prog_10_method_8_code
def yX8_statementsIn : MethodName := ⟨RX8, "statementsIn", "(I)I"⟩
abbrev cX8_variableOf : ByteArray := prog_10_method_9_code
def yX8_variableOf : MethodName := ⟨RX8, "variableOf", "(II)I"⟩
abbrev cX8_rootOf : ByteArray := prog_10_method_10_code
def yX8_rootOf : MethodName := ⟨RX8, "rootOf", "(II)I"⟩
abbrev cX8_roundsOf : ByteArray := prog_10_method_11_code
def yX8_roundsOf : MethodName := ⟨RX8, "roundsOf", "(I)I"⟩
abbrev cX8_placeOf : ByteArray := prog_10_method_12_code
def yX8_placeOf : MethodName := ⟨RX8, "placeOf", "(II)I"⟩
def RX9 : String := "SpillslotWorks$Run"
def TX9 : u_T := fun k => match k with
  | 0 => ("SpillslotWorks$Run", "steps", "I", false)
  | 1 => ("SpillslotWorks$Run", "cycles", "I", false)
  | 2 => ("SpillslotWorks$Run", "stalls", "I", false)
  | 3 => ("SpillslotWorks$Run", "begins", "[I", true)
  | 4 => ("SpillslotWorks$Run", "registers", "[I", true)
  | 5 => ("SpillslotWorks$Run", "slots", "[I", true)
  | 6 => ("SpillslotWorks$Run", "program", "LSpillslotWorks$Program;", true)
  | 7 => ("SpillslotWorks$Run", "machine", "LSpillslotWorks$Machine;", true)
  | 8 => ("SpillslotWorks$Run", "ready", "[I", true)
  | _ => ("SpillslotWorks$Run", "lastBegin", "I", false)
def tyX9 : Nat → FieldType := fun k => match k with
  | 0 => .int
  | 1 => .int
  | 2 => .int
  | 3 => .array .int
  | 4 => .array .int
  | 5 => .array .int
  | 6 => .object "SpillslotWorks$Program"
  | 7 => .object "SpillslotWorks$Machine"
  | 8 => .array .int
  | _ => .int
abbrev wsX90 : List Cond := u_ws RX9 TX9 10
theorem nmX9 : ∀ a, a < 10 → ∀ b, b < 10 → a ≠ b → (TX9 a).2.1 ≠ (TX9 b).2.1 := by decide +kernel
theorem tyX9_ok : ∀ k, k < 10 → parseFieldDescriptor (TX9 k).2.2.1 = some (tyX9 k) := by decide +kernel
abbrev cX9_init : ByteArray := prog_11_method_1_code
def yX9_init : MethodName := ⟨RX9, "<init>", "(LSpillslotWorks$Program;LSpillslotWorks$Machine;)V"⟩
abbrev cX9_go : ByteArray := prog_11_method_2_code
def yX9_go : MethodName := ⟨RX9, "go", "(LSpillslotWorks$Code;[I)V"⟩
abbrev cX9_goThrough : ByteArray := prog_11_method_3_code
def yX9_goThrough : MethodName := ⟨RX9, "goThrough", "(LSpillslotWorks$Code;II)V"⟩
abbrev cX9_readyFor : ByteArray := prog_11_method_4_code
def yX9_readyFor : MethodName := ⟨RX9, "readyFor", "(IIIII)I"⟩
abbrev cX9_perform : ByteArray := prog_11_method_5_code
def yX9_perform : MethodName := ⟨RX9, "perform", "(IIIII)V"⟩
abbrev cX9_resultOf : ByteArray := prog_11_method_6_code
def yX9_resultOf : MethodName := ⟨RX9, "resultOf", "(IIII)I"⟩
abbrev cX9_performCall : ByteArray := prog_11_method_7_code
def yX9_performCall : MethodName := ⟨RX9, "performCall", "()V"⟩
def RX10 : String := "SpillslotWorks$Works"
def TX10 : u_T := fun k => match k with
  | 0 => ("SpillslotWorks$Works", "homes", "LSpillslotWorks$Homes;", true)
  | 1 => ("SpillslotWorks$Works", "code", "LSpillslotWorks$Code;", true)
  | 2 => ("SpillslotWorks$Works", "run", "LSpillslotWorks$Run;", true)
  | _ => ("SpillslotWorks$Works", "program", "LSpillslotWorks$Program;", true)
def tyX10 : Nat → FieldType := fun k => match k with
  | 0 => .object "SpillslotWorks$Homes"
  | 1 => .object "SpillslotWorks$Code"
  | 2 => .object "SpillslotWorks$Run"
  | _ => .object "SpillslotWorks$Program"
abbrev wsX100 : List Cond := u_ws RX10 TX10 4
theorem nmX10 : ∀ a, a < 4 → ∀ b, b < 4 → a ≠ b → (TX10 a).2.1 ≠ (TX10 b).2.1 := by decide +kernel
theorem tyX10_ok : ∀ k, k < 4 → parseFieldDescriptor (TX10 k).2.2.1 = some (tyX10 k) := by decide +kernel
abbrev cX10_init : ByteArray := prog_12_method_1_code
def yX10_init : MethodName := ⟨RX10, "<init>", "(LSpillslotWorks$Program;LSpillslotWorks$Machine;)V"⟩
abbrev cX10_build : ByteArray := prog_12_method_2_code
def yX10_build : MethodName := ⟨RX10, "build", "(LSpillslotWorks$Plan;)V"⟩
abbrev cX10_tellLine : ByteArray := prog_12_method_3_code
def yX10_tellLine : MethodName := ⟨RX10, "tellLine", "(LSpillslotWorks$Plan;II)I"⟩
abbrev cX10_tellValue : ByteArray := prog_12_method_4_code
def yX10_tellValue : MethodName := ⟨RX10, "tellValue", "(LSpillslotWorks$Plan;II)I"⟩
abbrev cX10_tellCall : ByteArray := prog_12_method_5_code
def yX10_tellCall : MethodName := ⟨RX10, "tellCall", "(LSpillslotWorks$Plan;II)I"⟩
abbrev cX10_tellAnswer : ByteArray := prog_12_method_6_code
def yX10_tellAnswer : MethodName := ⟨RX10, "tellAnswer", "(LSpillslotWorks$Plan;I)I"⟩
abbrev cX10_tellMany : ByteArray := prog_12_method_7_code
def yX10_tellMany : MethodName := ⟨RX10, "tellMany", "(LSpillslotWorks$Plan;I)I"⟩
def RX11 : String := "SpillslotWorks"
def TX11 : u_T := fun k => match k with
  | 0 => ("SpillslotWorks", "program", "LSpillslotWorks$Program;", true)
  | 1 => ("SpillslotWorks", "meaning", "LSpillslotWorks$Meaning;", true)
  | 2 => ("SpillslotWorks", "machineNow", "LSpillslotWorks$Machine;", true)
  | 3 => ("SpillslotWorks", "machineThen", "LSpillslotWorks$Machine;", true)
  | 4 => ("SpillslotWorks", "planNow", "LSpillslotWorks$Plan;", true)
  | 5 => ("SpillslotWorks", "planThen", "LSpillslotWorks$Plan;", true)
  | 6 => ("SpillslotWorks", "worksNow", "LSpillslotWorks$Works;", true)
  | 7 => ("SpillslotWorks", "worksThen", "LSpillslotWorks$Works;", true)
  | 8 => ("SpillslotWorks", "isBuilt", "Z", false)
  | _ => ("SpillslotWorks", "isMeant", "Z", false)
def tyX11 : Nat → FieldType := fun k => match k with
  | 0 => .object "SpillslotWorks$Program"
  | 1 => .object "SpillslotWorks$Meaning"
  | 2 => .object "SpillslotWorks$Machine"
  | 3 => .object "SpillslotWorks$Machine"
  | 4 => .object "SpillslotWorks$Plan"
  | 5 => .object "SpillslotWorks$Plan"
  | 6 => .object "SpillslotWorks$Works"
  | 7 => .object "SpillslotWorks$Works"
  | 8 => .boolean
  | _ => .boolean
abbrev wsX110 : List Cond := u_ws RX11 TX11 10
theorem nmX11 : ∀ a, a < 10 → ∀ b, b < 10 → a ≠ b → (TX11 a).2.1 ≠ (TX11 b).2.1 := by decide +kernel
theorem tyX11_ok : ∀ k, k < 10 → parseFieldDescriptor (TX11 k).2.2.1 = some (tyX11 k) := by decide +kernel
abbrev cX11_init : ByteArray := prog_1_method_1_code
def yX11_init : MethodName := ⟨RX11, "<init>", "()V"⟩
abbrev cX11_machine : ByteArray := prog_1_method_2_code
def yX11_machine : MethodName := ⟨RX11, "machine", "(IIIZZ)I"⟩
abbrev cX11_latency : ByteArray := prog_1_method_3_code
def yX11_latency : MethodName := ⟨RX11, "latency", "(II)I"⟩
abbrev cX11_node : ByteArray := prog_1_method_4_code
def yX11_node : MethodName := ⟨RX11, "node", "(III)I"⟩
abbrev cX11_statement : ByteArray := prog_1_method_5_code
def yX11_statement : MethodName := ⟨RX11, "statement", "(III)I"⟩
abbrev cX11_times : ByteArray := prog_1_method_7_code
def yX11_times : MethodName := ⟨RX11, "times", "(II)I"⟩
abbrev cX11_out : ByteArray := prog_1_method_8_code
def yX11_out : MethodName := ⟨RX11, "out", "(I)I"⟩
abbrev cX11_meant : ByteArray := prog_1_method_9_code
def yX11_meant : MethodName := ⟨RX11, "meant", "(I)I"⟩
abbrev cX11_chosen : ByteArray := prog_1_method_10_code
def yX11_chosen : MethodName := ⟨RX11, "chosen", "(II)I"⟩
abbrev cX11_ofValue : ByteArray := prog_1_method_11_code
def yX11_ofValue : MethodName := ⟨RX11, "ofValue", "(II)I"⟩
abbrev cX11_answer : ByteArray := prog_1_method_16_code
def yX11_answer : MethodName := ⟨RX11, "answer", "(I)I"⟩
abbrev cX11_many : ByteArray := prog_1_method_17_code
def yX11_many : MethodName := ⟨RX11, "many", "(I)I"⟩
abbrev cX11_with : ByteArray := prog_1_method_19_code
def yX11_with : MethodName := ⟨RX11, "with", "(IIZI)I"⟩
abbrev cX11_cyclesWith : ByteArray := prog_1_method_20_code
def yX11_cyclesWith : MethodName := ⟨RX11, "cyclesWith", "(II)I"⟩
abbrev cX11_enough : ByteArray := prog_1_method_21_code
def yX11_enough : MethodName := ⟨RX11, "enough", "()I"⟩
abbrev cX11_unordered : ByteArray := prog_1_method_22_code
def yX11_unordered : MethodName := ⟨RX11, "unordered", "()I"⟩
abbrev cX11_digest : ByteArray := prog_1_method_23_code
def yX11_digest : MethodName := ⟨RX11, "digest", "()J"⟩
abbrev cX11_forget : ByteArray := prog_1_method_24_code
def yX11_forget : MethodName := ⟨RX11, "forget", "()V"⟩
abbrev cX11_builtNow : ByteArray := prog_1_method_25_code
def yX11_builtNow : MethodName := ⟨RX11, "builtNow", "()LSpillslotWorks$Works;"⟩
abbrev cX11_meantNow : ByteArray := prog_1_method_26_code
def yX11_meantNow : MethodName := ⟨RX11, "meantNow", "()LSpillslotWorks$Meaning;"⟩
abbrev cX11_builtWith : ByteArray := prog_1_method_27_code
def yX11_builtWith : MethodName := ⟨RX11, "builtWith", "(IIZ)LSpillslotWorks$Works;"⟩
abbrev cX11_fewestRegisters : ByteArray := prog_1_method_28_code
def yX11_fewestRegisters : MethodName := ⟨RX11, "fewestRegisters", "()I"⟩
abbrev cX11_cyclesUnordered : ByteArray := prog_1_method_29_code
def yX11_cyclesUnordered : MethodName := ⟨RX11, "cyclesUnordered", "()I"⟩
abbrev cX11_mixVariables : ByteArray := prog_1_method_30_code
def yX11_mixVariables : MethodName := ⟨RX11, "mixVariables", "(JLSpillslotWorks$Works;)J"⟩
abbrev cX11_mixLines : ByteArray := prog_1_method_31_code
def yX11_mixLines : MethodName := ⟨RX11, "mixLines", "(JLSpillslotWorks$Works;)J"⟩
abbrev cX11_mixValues : ByteArray := prog_1_method_32_code
def yX11_mixValues : MethodName := ⟨RX11, "mixValues", "(JLSpillslotWorks$Works;)J"⟩
abbrev cX11_mixCalls : ByteArray := prog_1_method_33_code
def yX11_mixCalls : MethodName := ⟨RX11, "mixCalls", "(JLSpillslotWorks$Works;)J"⟩
abbrev cX11_mixCode : ByteArray := prog_1_method_34_code
def yX11_mixCode : MethodName := ⟨RX11, "mixCode", "(JLSpillslotWorks$Works;)J"⟩
abbrev cX11_mix : ByteArray := prog_1_method_35_code
def yX11_mix : MethodName := ⟨RX11, "mix", "(JJ)J"⟩
abbrev cX11_isMachine : ByteArray := prog_1_method_36_code
def yX11_isMachine : MethodName := ⟨RX11, "isMachine", "(II)Z"⟩
abbrev cX11_isBelow : ByteArray := prog_1_method_37_code
def yX11_isBelow : MethodName := ⟨RX11, "isBelow", "(II)Z"⟩
abbrev cX11_bit : ByteArray := prog_1_method_38_code
def yX11_bit : MethodName := ⟨RX11, "bit", "(I)I"⟩
abbrev cX11_hasBit : ByteArray := prog_1_method_39_code
def yX11_hasBit : MethodName := ⟨RX11, "hasBit", "(II)Z"⟩
abbrev cX11_at : ByteArray := prog_1_method_40_code
def yX11_at : MethodName := ⟨RX11, "at", "([II)I"⟩
abbrev cX11_put : ByteArray := prog_1_method_41_code
def yX11_put : MethodName := ⟨RX11, "put", "([III)V"⟩
abbrev cX11_fill : ByteArray := prog_1_method_42_code
def yX11_fill : MethodName := ⟨RX11, "fill", "([II)V"⟩
def RX12 : String := "SpillslotWorksLaw$Own"
def TX12 : u_T := fun k => match k with
  | 0 => ("SpillslotWorksLaw$Own", "nodes", "[[I", false)
  | 1 => ("SpillslotWorksLaw$Own", "statements", "[[I", false)
  | 2 => ("SpillslotWorksLaw$Own", "times", "[I", false)
  | 3 => ("SpillslotWorksLaw$Own", "latencies", "[I", false)
  | 4 => ("SpillslotWorksLaw$Own", "registers", "I", false)
  | 5 => ("SpillslotWorksLaw$Own", "kept", "I", false)
  | 6 => ("SpillslotWorksLaw$Own", "small", "I", false)
  | 7 => ("SpillslotWorksLaw$Own", "isFused", "Z", false)
  | 8 => ("SpillslotWorksLaw$Own", "isTwo", "Z", false)
  | _ => ("SpillslotWorksLaw$Own", "out", "I", false)
def tyX12 : Nat → FieldType := fun k => match k with
  | 0 => .array (.array .int)
  | 1 => .array (.array .int)
  | 2 => .array .int
  | 3 => .array .int
  | 4 => .int
  | 5 => .int
  | 6 => .int
  | 7 => .boolean
  | 8 => .boolean
  | _ => .int
abbrev wsX120 : List Cond := u_ws RX12 TX12 10
theorem nmX12 : ∀ a, a < 10 → ∀ b, b < 10 → a ≠ b → (TX12 a).2.1 ≠ (TX12 b).2.1 := by decide +kernel
theorem tyX12_ok : ∀ k, k < 10 → parseFieldDescriptor (TX12 k).2.2.1 = some (tyX12 k) := by decide +kernel
abbrev cX12_init : ByteArray := prog_14_method_1_code
def yX12_init : MethodName := ⟨RX12, "<init>", "()V"⟩
abbrev cX12_with : ByteArray := prog_14_method_2_code
def yX12_with : MethodName := ⟨RX12, "with", "([[I[I)[[I"⟩
abbrev cX12_value : ByteArray := prog_14_method_3_code
def yX12_value : MethodName := ⟨RX12, "value", "(I[I)I"⟩
abbrev cX12_meant : ByteArray := prog_14_method_4_code
def yX12_meant : MethodName := ⟨RX12, "meant", "()[I"⟩
def RX13 : String := "SpillslotWorksModel$Chooser"
def TX13 : u_T := fun k => match k with
  | _ => ("", "", "", false)
def tyX13 : Nat → FieldType := fun k => match k with
  | _ => .int
abbrev wsX130 : List Cond := u_ws RX13 TX13 0
theorem nmX13 : ∀ a, a < 0 → ∀ b, b < 0 → a ≠ b → (TX13 a).2.1 ≠ (TX13 b).2.1 := by decide +kernel
theorem tyX13_ok : ∀ k, k < 0 → parseFieldDescriptor (TX13 k).2.2.1 = some (tyX13 k) := by decide +kernel
def RX14 : String := "SpillslotWorksModel$Life"
def TX14 : u_T := fun k => match k with
  | _ => ("", "", "", false)
def tyX14 : Nat → FieldType := fun k => match k with
  | _ => .int
abbrev wsX140 : List Cond := u_ws RX14 TX14 0
theorem nmX14 : ∀ a, a < 0 → ∀ b, b < 0 → a ≠ b → (TX14 a).2.1 ≠ (TX14 b).2.1 := by decide +kernel
theorem tyX14_ok : ∀ k, k < 0 → parseFieldDescriptor (TX14 k).2.2.1 = some (tyX14 k) := by decide +kernel
def RX15 : String := "SpillslotWorksModel$Machine"
def TX15 : u_T := fun k => match k with
  | _ => ("", "", "", false)
def tyX15 : Nat → FieldType := fun k => match k with
  | _ => .int
abbrev wsX150 : List Cond := u_ws RX15 TX15 0
theorem nmX15 : ∀ a, a < 0 → ∀ b, b < 0 → a ≠ b → (TX15 a).2.1 ≠ (TX15 b).2.1 := by decide +kernel
theorem tyX15_ok : ∀ k, k < 0 → parseFieldDescriptor (TX15 k).2.2.1 = some (tyX15 k) := by decide +kernel
def RX16 : String := "SpillslotWorksModel$Node"
def TX16 : u_T := fun k => match k with
  | _ => ("", "", "", false)
def tyX16 : Nat → FieldType := fun k => match k with
  | _ => .int
abbrev wsX160 : List Cond := u_ws RX16 TX16 0
theorem nmX16 : ∀ a, a < 0 → ∀ b, b < 0 → a ≠ b → (TX16 a).2.1 ≠ (TX16 b).2.1 := by decide +kernel
theorem tyX16_ok : ∀ k, k < 0 → parseFieldDescriptor (TX16 k).2.2.1 = some (tyX16 k) := by decide +kernel
def RX17 : String := "SpillslotWorksModel$Op"
def TX17 : u_T := fun k => match k with
  | _ => ("", "", "", false)
def tyX17 : Nat → FieldType := fun k => match k with
  | _ => .int
abbrev wsX170 : List Cond := u_ws RX17 TX17 0
theorem nmX17 : ∀ a, a < 0 → ∀ b, b < 0 → a ≠ b → (TX17 a).2.1 ≠ (TX17 b).2.1 := by decide +kernel
theorem tyX17_ok : ∀ k, k < 0 → parseFieldDescriptor (TX17 k).2.2.1 = some (tyX17 k) := by decide +kernel
def RX18 : String := "SpillslotWorksModel$Plan$Layer"
def TX18 : u_T := fun k => match k with
  | _ => ("", "", "", false)
def tyX18 : Nat → FieldType := fun k => match k with
  | _ => .int
abbrev wsX180 : List Cond := u_ws RX18 TX18 0
theorem nmX18 : ∀ a, a < 0 → ∀ b, b < 0 → a ≠ b → (TX18 a).2.1 ≠ (TX18 b).2.1 := by decide +kernel
theorem tyX18_ok : ∀ k, k < 0 → parseFieldDescriptor (TX18 k).2.2.1 = some (tyX18 k) := by decide +kernel
def RX19 : String := "SpillslotWorksModel$Plan$Runner"
def TX19 : u_T := fun k => match k with
  | _ => ("", "", "", false)
def tyX19 : Nat → FieldType := fun k => match k with
  | _ => .int
abbrev wsX190 : List Cond := u_ws RX19 TX19 0
theorem nmX19 : ∀ a, a < 0 → ∀ b, b < 0 → a ≠ b → (TX19 a).2.1 ≠ (TX19 b).2.1 := by decide +kernel
theorem tyX19_ok : ∀ k, k < 0 → parseFieldDescriptor (TX19 k).2.2.1 = some (tyX19 k) := by decide +kernel
def RX20 : String := "SpillslotWorksModel$Plan"
def TX20 : u_T := fun k => match k with
  | _ => ("", "", "", false)
def tyX20 : Nat → FieldType := fun k => match k with
  | _ => .int
abbrev wsX200 : List Cond := u_ws RX20 TX20 0
theorem nmX20 : ∀ a, a < 0 → ∀ b, b < 0 → a ≠ b → (TX20 a).2.1 ≠ (TX20 b).2.1 := by decide +kernel
theorem tyX20_ok : ∀ k, k < 0 → parseFieldDescriptor (TX20 k).2.2.1 = some (tyX20 k) := by decide +kernel
def RX21 : String := "SpillslotWorksModel$Program"
def TX21 : u_T := fun k => match k with
  | _ => ("", "", "", false)
def tyX21 : Nat → FieldType := fun k => match k with
  | _ => .int
abbrev wsX210 : List Cond := u_ws RX21 TX21 0
theorem nmX21 : ∀ a, a < 0 → ∀ b, b < 0 → a ≠ b → (TX21 a).2.1 ≠ (TX21 b).2.1 := by decide +kernel
theorem tyX21_ok : ∀ k, k < 0 → parseFieldDescriptor (TX21 k).2.2.1 = some (tyX21 k) := by decide +kernel
def RX22 : String := "SpillslotWorksModel"
def TX22 : u_T := fun k => match k with
  | _ => ("", "", "", false)
def tyX22 : Nat → FieldType := fun k => match k with
  | _ => .int
abbrev wsX220 : List Cond := u_ws RX22 TX22 0
theorem nmX22 : ∀ a, a < 0 → ∀ b, b < 0 → a ≠ b → (TX22 a).2.1 ≠ (TX22 b).2.1 := by decide +kernel
theorem tyX22_ok : ∀ k, k < 0 → parseFieldDescriptor (TX22 k).2.2.1 = some (tyX22 k) := by decide +kernel
def RJ6 : String := "java/lang/Integer"
abbrev cJ6_bitCount_0f7a4 : ByteArray := prog_29_method_49_code
def yJ6_bitCount_0f7a4 : MethodName := ⟨RJ6, "bitCount", "(I)I"⟩
def RJ9 : String := "java/lang/Math"
abbrev cJ9_max_7cf53 : ByteArray := prog_30_method_65_code
def yJ9_max_7cf53 : MethodName := ⟨RJ9, "max", "(II)I"⟩
abbrev cJ9_min_7cf53 : ByteArray := prog_30_method_69_code
def yJ9_min_7cf53 : MethodName := ⟨RJ9, "min", "(II)I"⟩
def RJ10 : String := "java/lang/System"
def RL : String := "SpillslotWorksLaw"
abbrev cL_below : ByteArray := method_2_code
def yL_below : MethodName := ⟨RL, "below", "(II)I"⟩
abbrev cL_cell : ByteArray := method_3_code
def yL_cell : MethodName := ⟨RL, "cell", "([II)I"⟩
abbrev cL_node : ByteArray := method_4_code
def yL_node : MethodName := ⟨RL, "node", "(LSpillslotWorks;LSpillslotWorksLaw$Own;III)I"⟩
abbrev cL_tree : ByteArray := method_5_code
def yL_tree : MethodName := ⟨RL, "tree", "(LSpillslotWorks;LSpillslotWorksLaw$Own;[III)I"⟩
abbrev cL_write : ByteArray := method_6_code
def yL_write : MethodName := ⟨RL, "write", "(LSpillslotWorks;LSpillslotWorksLaw$Own;[II)Z"⟩
abbrev cL_machine : ByteArray := method_7_code
def yL_machine : MethodName := ⟨RL, "machine", "(LSpillslotWorks;LSpillslotWorksLaw$Own;[II)Z"⟩
abbrev cL_law : ByteArray := code
def yL_law : MethodName := ⟨RL, "law", "([I)Z"⟩
abbrev cL_isMeant : ByteArray := method_9_code
def yL_isMeant : MethodName := ⟨RL, "isMeant", "(LSpillslotWorks;LSpillslotWorksLaw$Own;)Z"⟩
abbrev cL_isWhole : ByteArray := method_10_code
def yL_isWhole : MethodName := ⟨RL, "isWhole", "(LSpillslotWorks;LSpillslotWorksLaw$Own;I)Z"⟩
abbrev vwCl : List vw_C := [(RX0, TX0, 12), (RX1, TX1, 7), (RX2, TX2, 10), (RX3, TX3, 7), (RX4, TX4, 12), (RX5, TX5, 6), (RX6, TX6, 3), (RX7, TX7, 9), (RX8, TX8, 11), (RX9, TX9, 10), (RX10, TX10, 4), (RX11, TX11, 10), (RX12, TX12, 10)]
end
section
theorem dX0_init_0 : decode cX0_init 0 = .ok (.aload_n 0, 1) := by decide +kernel
theorem dX0_init_1 : decode cX0_init 1 = .ok (.invokespecial 3, 3) := by decide +kernel
theorem dX0_init_4 : decode cX0_init 4 = .ok (.aload_n 0, 1) := by decide +kernel
theorem dX0_init_5 : decode cX0_init 5 = .ok (.aload_n 1, 1) := by decide +kernel
theorem dX0_init_6 : decode cX0_init 6 = .ok (.putfield 9, 3) := by decide +kernel
theorem dX0_init_9 : decode cX0_init 9 = .ok (.aload_n 0, 1) := by decide +kernel
theorem dX0_init_10 : decode cX0_init 10 = .ok (.aload_n 2, 1) := by decide +kernel
theorem dX0_init_11 : decode cX0_init 11 = .ok (.putfield 15, 3) := by decide +kernel
theorem dX0_init_14 : decode cX0_init 14 = .ok (.aload_n 0, 1) := by decide +kernel
theorem dX0_init_15 : decode cX0_init 15 = .ok (.bipush 80, 2) := by decide +kernel
theorem dX0_init_17 : decode cX0_init 17 = .ok (.newarray .int, 2) := by decide +kernel
theorem dX0_init_19 : decode cX0_init 19 = .ok (.putfield 19, 3) := by decide +kernel
theorem dX0_init_22 : decode cX0_init 22 = .ok (.aload_n 0, 1) := by decide +kernel
theorem dX0_init_23 : decode cX0_init 23 = .ok (.bipush 80, 2) := by decide +kernel
theorem dX0_init_25 : decode cX0_init 25 = .ok (.newarray .int, 2) := by decide +kernel
theorem dX0_init_27 : decode cX0_init 27 = .ok (.putfield 23, 3) := by decide +kernel
theorem dX0_init_30 : decode cX0_init 30 = .ok (.aload_n 0, 1) := by decide +kernel
theorem dX0_init_31 : decode cX0_init 31 = .ok (.bipush 80, 2) := by decide +kernel
theorem dX0_init_33 : decode cX0_init 33 = .ok (.newarray .int, 2) := by decide +kernel
theorem dX0_init_35 : decode cX0_init 35 = .ok (.putfield 26, 3) := by decide +kernel
theorem dX0_init_38 : decode cX0_init 38 = .ok (.aload_n 0, 1) := by decide +kernel
theorem dX0_init_39 : decode cX0_init 39 = .ok (.sipush 240, 3) := by decide +kernel
theorem dX0_init_42 : decode cX0_init 42 = .ok (.newarray .int, 2) := by decide +kernel
theorem dX0_init_44 : decode cX0_init 44 = .ok (.putfield 29, 3) := by decide +kernel
theorem dX0_init_47 : decode cX0_init 47 = .ok (.aload_n 0, 1) := by decide +kernel
theorem dX0_init_48 : decode cX0_init 48 = .ok (.sipush 240, 3) := by decide +kernel
theorem dX0_init_51 : decode cX0_init 51 = .ok (.newarray .int, 2) := by decide +kernel
theorem dX0_init_53 : decode cX0_init 53 = .ok (.putfield 32, 3) := by decide +kernel
theorem dX0_init_56 : decode cX0_init 56 = .ok (.aload_n 0, 1) := by decide +kernel
theorem dX0_init_57 : decode cX0_init 57 = .ok (.bipush 80, 2) := by decide +kernel
theorem dX0_init_59 : decode cX0_init 59 = .ok (.newarray .int, 2) := by decide +kernel
theorem dX0_init_61 : decode cX0_init 61 = .ok (.putfield 35, 3) := by decide +kernel
theorem dX0_init_64 : decode cX0_init 64 = .ok (.aload_n 0, 1) := by decide +kernel
theorem dX0_init_65 : decode cX0_init 65 = .ok (.bipush 80, 2) := by decide +kernel
theorem dX0_init_67 : decode cX0_init 67 = .ok (.newarray .int, 2) := by decide +kernel
theorem dX0_init_69 : decode cX0_init 69 = .ok (.putfield 38, 3) := by decide +kernel
theorem dX0_init_72 : decode cX0_init 72 = .ok (.aload_n 0, 1) := by decide +kernel
theorem dX0_init_73 : decode cX0_init 73 = .ok (.bipush 80, 2) := by decide +kernel
theorem dX0_init_75 : decode cX0_init 75 = .ok (.newarray .int, 2) := by decide +kernel
theorem dX0_init_77 : decode cX0_init 77 = .ok (.putfield 41, 3) := by decide +kernel
theorem dX0_init_80 : decode cX0_init 80 = .ok (.return_, 1) := by decide +kernel
theorem dX0_coverAll_0 : decode cX0_coverAll 0 = .ok (.aload_n 0, 1) := by decide +kernel
theorem dX0_coverAll_1 : decode cX0_coverAll 1 = .ok (.bipush 8, 2) := by decide +kernel
theorem dX0_coverAll_3 : decode cX0_coverAll 3 = .ok (.putfield 44, 3) := by decide +kernel
theorem dX0_coverAll_6 : decode cX0_coverAll 6 = .ok (.iconst 0, 1) := by decide +kernel
theorem dX0_coverAll_7 : decode cX0_coverAll 7 = .ok (.istore_n 1, 1) := by decide +kernel
theorem dX0_coverAll_8 : decode cX0_coverAll 8 = .ok (.iload_n 1, 1) := by decide +kernel
theorem dX0_coverAll_9 : decode cX0_coverAll 9 = .ok (.aload_n 0, 1) := by decide +kernel
theorem dX0_coverAll_10 : decode cX0_coverAll 10 = .ok (.getfield 9, 3) := by decide +kernel
theorem dX0_coverAll_13 : decode cX0_coverAll 13 = .ok (.getfield 48, 3) := by decide +kernel
theorem dX0_coverAll_16 : decode cX0_coverAll 16 = .ok (.if_icmp .ge 72, 3) := by decide +kernel
theorem dX0_coverAll_19 : decode cX0_coverAll 19 = .ok (.aload_n 0, 1) := by decide +kernel
theorem dX0_coverAll_20 : decode cX0_coverAll 20 = .ok (.getfield 9, 3) := by decide +kernel
theorem dX0_coverAll_23 : decode cX0_coverAll 23 = .ok (.getfield 53, 3) := by decide +kernel
theorem dX0_coverAll_26 : decode cX0_coverAll 26 = .ok (.iload_n 1, 1) := by decide +kernel
theorem dX0_coverAll_27 : decode cX0_coverAll 27 = .ok (.invokestatic 54, 3) := by decide +kernel
theorem dX0_coverAll_30 : decode cX0_coverAll 30 = .ok (.istore_n 2, 1) := by decide +kernel
theorem dX0_coverAll_31 : decode cX0_coverAll 31 = .ok (.aload_n 0, 1) := by decide +kernel
theorem dX0_coverAll_32 : decode cX0_coverAll 32 = .ok (.getfield 26, 3) := by decide +kernel
theorem dX0_coverAll_35 : decode cX0_coverAll 35 = .ok (.iload_n 1, 1) := by decide +kernel
theorem dX0_coverAll_36 : decode cX0_coverAll 36 = .ok (.iconst 0, 1) := by decide +kernel
theorem dX0_coverAll_37 : decode cX0_coverAll 37 = .ok (.invokestatic 58, 3) := by decide +kernel
theorem dX0_coverAll_40 : decode cX0_coverAll 40 = .ok (.iload_n 2, 1) := by decide +kernel
theorem dX0_coverAll_41 : decode cX0_coverAll 41 = .ok (.iconst 2, 1) := by decide +kernel
theorem dX0_coverAll_42 : decode cX0_coverAll 42 = .ok (.if_icmp .ge 12, 3) := by decide +kernel
theorem dX0_coverAll_45 : decode cX0_coverAll 45 = .ok (.aload_n 0, 1) := by decide +kernel
theorem dX0_coverAll_46 : decode cX0_coverAll 46 = .ok (.iload_n 1, 1) := by decide +kernel
theorem dX0_coverAll_47 : decode cX0_coverAll 47 = .ok (.iload_n 2, 1) := by decide +kernel
theorem dX0_coverAll_48 : decode cX0_coverAll 48 = .ok (.invokevirtual 62, 3) := by decide +kernel
theorem dX0_coverAll_51 : decode cX0_coverAll 51 = .ok (.goto 31, 3) := by decide +kernel
theorem dX0_coverAll_54 : decode cX0_coverAll 54 = .ok (.aload_n 0, 1) := by decide +kernel
theorem dX0_coverAll_55 : decode cX0_coverAll 55 = .ok (.iload_n 1, 1) := by decide +kernel
theorem dX0_coverAll_56 : decode cX0_coverAll 56 = .ok (.iload_n 2, 1) := by decide +kernel
theorem dX0_coverAll_57 : decode cX0_coverAll 57 = .ok (.iconst 5, 1) := by decide +kernel
theorem dX0_coverAll_58 : decode cX0_coverAll 58 = .ok (.if_icmp .ne 8, 3) := by decide +kernel
theorem dX0_coverAll_61 : decode cX0_coverAll 61 = .ok (.bipush 9, 2) := by decide +kernel
theorem dX0_coverAll_63 : decode cX0_coverAll 63 = .ok (.goto 4, 3) := by decide +kernel
theorem dX0_coverAll_66 : decode cX0_coverAll 66 = .ok (.iload_n 2, 1) := by decide +kernel
theorem dX0_coverAll_67 : decode cX0_coverAll 67 = .ok (.invokevirtual 66, 3) := by decide +kernel
theorem dX0_coverAll_70 : decode cX0_coverAll 70 = .ok (.aload_n 0, 1) := by decide +kernel
theorem dX0_coverAll_71 : decode cX0_coverAll 71 = .ok (.iload_n 1, 1) := by decide +kernel
theorem dX0_coverAll_72 : decode cX0_coverAll 72 = .ok (.iload_n 2, 1) := by decide +kernel
theorem dX0_coverAll_73 : decode cX0_coverAll 73 = .ok (.invokevirtual 69, 3) := by decide +kernel
theorem dX0_coverAll_76 : decode cX0_coverAll 76 = .ok (.aload_n 0, 1) := by decide +kernel
theorem dX0_coverAll_77 : decode cX0_coverAll 77 = .ok (.iload_n 1, 1) := by decide +kernel
theorem dX0_coverAll_78 : decode cX0_coverAll 78 = .ok (.iload_n 2, 1) := by decide +kernel
theorem dX0_coverAll_79 : decode cX0_coverAll 79 = .ok (.invokevirtual 72, 3) := by decide +kernel
theorem dX0_coverAll_82 : decode cX0_coverAll 82 = .ok (.iinc 1 1, 3) := by decide +kernel
theorem dX0_coverAll_85 : decode cX0_coverAll 85 = .ok (.goto (-77), 3) := by decide +kernel
theorem dX0_coverAll_88 : decode cX0_coverAll 88 = .ok (.return_, 1) := by decide +kernel
theorem dX0_coverLeaf_0 : decode cX0_coverLeaf 0 = .ok (.aload_n 0, 1) := by decide +kernel
theorem dX0_coverLeaf_1 : decode cX0_coverLeaf 1 = .ok (.getfield 29, 3) := by decide +kernel
theorem dX0_coverLeaf_4 : decode cX0_coverLeaf 4 = .ok (.iload_n 1, 1) := by decide +kernel
theorem dX0_coverLeaf_5 : decode cX0_coverLeaf 5 = .ok (.iconst (-1), 1) := by decide +kernel
theorem dX0_coverLeaf_6 : decode cX0_coverLeaf 6 = .ok (.iconst (-1), 1) := by decide +kernel
theorem dX0_coverLeaf_7 : decode cX0_coverLeaf 7 = .ok (.iconst (-1), 1) := by decide +kernel
theorem dX0_coverLeaf_8 : decode cX0_coverLeaf 8 = .ok (.invokestatic 75, 3) := by decide +kernel
theorem dX0_coverLeaf_11 : decode cX0_coverLeaf 11 = .ok (.aload_n 0, 1) := by decide +kernel
theorem dX0_coverLeaf_12 : decode cX0_coverLeaf 12 = .ok (.getfield 32, 3) := by decide +kernel
theorem dX0_coverLeaf_15 : decode cX0_coverLeaf 15 = .ok (.iload_n 1, 1) := by decide +kernel
theorem dX0_coverLeaf_16 : decode cX0_coverLeaf 16 = .ok (.iconst (-1), 1) := by decide +kernel
theorem dX0_coverLeaf_17 : decode cX0_coverLeaf 17 = .ok (.iconst (-1), 1) := by decide +kernel
theorem dX0_coverLeaf_18 : decode cX0_coverLeaf 18 = .ok (.iconst (-1), 1) := by decide +kernel
theorem dX0_coverLeaf_19 : decode cX0_coverLeaf 19 = .ok (.invokestatic 75, 3) := by decide +kernel
theorem dX0_coverLeaf_22 : decode cX0_coverLeaf 22 = .ok (.iload_n 2, 1) := by decide +kernel
theorem dX0_coverLeaf_23 : decode cX0_coverLeaf 23 = .ok (.iconst 1, 1) := by decide +kernel
theorem dX0_coverLeaf_24 : decode cX0_coverLeaf 24 = .ok (.if_icmp .ne 24, 3) := by decide +kernel
theorem dX0_coverLeaf_27 : decode cX0_coverLeaf 27 = .ok (.aload_n 0, 1) := by decide +kernel
theorem dX0_coverLeaf_28 : decode cX0_coverLeaf 28 = .ok (.getfield 23, 3) := by decide +kernel
theorem dX0_coverLeaf_31 : decode cX0_coverLeaf 31 = .ok (.iload_n 1, 1) := by decide +kernel
theorem dX0_coverLeaf_32 : decode cX0_coverLeaf 32 = .ok (.iconst 1, 1) := by decide +kernel
theorem dX0_coverLeaf_33 : decode cX0_coverLeaf 33 = .ok (.invokestatic 58, 3) := by decide +kernel
theorem dX0_coverLeaf_36 : decode cX0_coverLeaf 36 = .ok (.aload_n 0, 1) := by decide +kernel
theorem dX0_coverLeaf_37 : decode cX0_coverLeaf 37 = .ok (.getfield 19, 3) := by decide +kernel
theorem dX0_coverLeaf_40 : decode cX0_coverLeaf 40 = .ok (.iload_n 1, 1) := by decide +kernel
theorem dX0_coverLeaf_41 : decode cX0_coverLeaf 41 = .ok (.iconst 0, 1) := by decide +kernel
theorem dX0_coverLeaf_42 : decode cX0_coverLeaf 42 = .ok (.invokestatic 58, 3) := by decide +kernel
theorem dX0_coverLeaf_45 : decode cX0_coverLeaf 45 = .ok (.goto 47, 3) := by decide +kernel
theorem dX0_coverLeaf_48 : decode cX0_coverLeaf 48 = .ok (.aload_n 0, 1) := by decide +kernel
theorem dX0_coverLeaf_49 : decode cX0_coverLeaf 49 = .ok (.getfield 23, 3) := by decide +kernel
theorem dX0_coverLeaf_52 : decode cX0_coverLeaf 52 = .ok (.iload_n 1, 1) := by decide +kernel
theorem dX0_coverLeaf_53 : decode cX0_coverLeaf 53 = .ok (.iconst 0, 1) := by decide +kernel
theorem dX0_coverLeaf_54 : decode cX0_coverLeaf 54 = .ok (.invokestatic 58, 3) := by decide +kernel
theorem dX0_coverLeaf_57 : decode cX0_coverLeaf 57 = .ok (.aload_n 0, 1) := by decide +kernel
theorem dX0_coverLeaf_58 : decode cX0_coverLeaf 58 = .ok (.getfield 19, 3) := by decide +kernel
theorem dX0_coverLeaf_61 : decode cX0_coverLeaf 61 = .ok (.iload_n 1, 1) := by decide +kernel
theorem dX0_coverLeaf_62 : decode cX0_coverLeaf 62 = .ok (.aload_n 0, 1) := by decide +kernel
theorem dX0_coverLeaf_63 : decode cX0_coverLeaf 63 = .ok (.getfield 15, 3) := by decide +kernel
theorem dX0_coverLeaf_66 : decode cX0_coverLeaf 66 = .ok (.iconst 0, 1) := by decide +kernel
theorem dX0_coverLeaf_67 : decode cX0_coverLeaf 67 = .ok (.invokevirtual 79, 3) := by decide +kernel
theorem dX0_coverLeaf_70 : decode cX0_coverLeaf 70 = .ok (.invokestatic 58, 3) := by decide +kernel
theorem dX0_coverLeaf_73 : decode cX0_coverLeaf 73 = .ok (.aload_n 0, 1) := by decide +kernel
theorem dX0_coverLeaf_74 : decode cX0_coverLeaf 74 = .ok (.getfield 26, 3) := by decide +kernel
theorem dX0_coverLeaf_77 : decode cX0_coverLeaf 77 = .ok (.iload_n 1, 1) := by decide +kernel
theorem dX0_coverLeaf_78 : decode cX0_coverLeaf 78 = .ok (.aload_n 0, 1) := by decide +kernel
theorem dX0_coverLeaf_79 : decode cX0_coverLeaf 79 = .ok (.getfield 9, 3) := by decide +kernel
theorem dX0_coverLeaf_82 : decode cX0_coverLeaf 82 = .ok (.getfield 85, 3) := by decide +kernel
theorem dX0_coverLeaf_85 : decode cX0_coverLeaf 85 = .ok (.iload_n 1, 1) := by decide +kernel
theorem dX0_coverLeaf_86 : decode cX0_coverLeaf 86 = .ok (.invokestatic 54, 3) := by decide +kernel
theorem dX0_coverLeaf_89 : decode cX0_coverLeaf 89 = .ok (.invokestatic 58, 3) := by decide +kernel
theorem dX0_coverLeaf_92 : decode cX0_coverLeaf 92 = .ok (.return_, 1) := by decide +kernel
theorem dX0_coverPlain_0 : decode cX0_coverPlain 0 = .ok (.aload_n 0, 1) := by decide +kernel
theorem dX0_coverPlain_1 : decode cX0_coverPlain 1 = .ok (.getfield 9, 3) := by decide +kernel
theorem dX0_coverPlain_4 : decode cX0_coverPlain 4 = .ok (.getfield 85, 3) := by decide +kernel
theorem dX0_coverPlain_7 : decode cX0_coverPlain 7 = .ok (.iload_n 1, 1) := by decide +kernel
theorem dX0_coverPlain_8 : decode cX0_coverPlain 8 = .ok (.invokestatic 54, 3) := by decide +kernel
theorem dX0_coverPlain_11 : decode cX0_coverPlain 11 = .ok (.istore_n 3, 1) := by decide +kernel
theorem dX0_coverPlain_12 : decode cX0_coverPlain 12 = .ok (.aload_n 0, 1) := by decide +kernel
theorem dX0_coverPlain_13 : decode cX0_coverPlain 13 = .ok (.getfield 9, 3) := by decide +kernel
theorem dX0_coverPlain_16 : decode cX0_coverPlain 16 = .ok (.getfield 88, 3) := by decide +kernel
theorem dX0_coverPlain_19 : decode cX0_coverPlain 19 = .ok (.iload_n 1, 1) := by decide +kernel
theorem dX0_coverPlain_20 : decode cX0_coverPlain 20 = .ok (.invokestatic 54, 3) := by decide +kernel
theorem dX0_coverPlain_23 : decode cX0_coverPlain 23 = .ok (.istore 4, 2) := by decide +kernel
theorem dX0_coverPlain_25 : decode cX0_coverPlain 25 = .ok (.aload_n 0, 1) := by decide +kernel
theorem dX0_coverPlain_26 : decode cX0_coverPlain 26 = .ok (.getfield 23, 3) := by decide +kernel
theorem dX0_coverPlain_29 : decode cX0_coverPlain 29 = .ok (.iload_n 1, 1) := by decide +kernel
theorem dX0_coverPlain_30 : decode cX0_coverPlain 30 = .ok (.iload_n 2, 1) := by decide +kernel
theorem dX0_coverPlain_31 : decode cX0_coverPlain 31 = .ok (.invokestatic 58, 3) := by decide +kernel
theorem dX0_coverPlain_34 : decode cX0_coverPlain 34 = .ok (.aload_n 0, 1) := by decide +kernel
theorem dX0_coverPlain_35 : decode cX0_coverPlain 35 = .ok (.getfield 19, 3) := by decide +kernel
theorem dX0_coverPlain_38 : decode cX0_coverPlain 38 = .ok (.iload_n 1, 1) := by decide +kernel
theorem dX0_coverPlain_39 : decode cX0_coverPlain 39 = .ok (.aload_n 0, 1) := by decide +kernel
theorem dX0_coverPlain_40 : decode cX0_coverPlain 40 = .ok (.getfield 15, 3) := by decide +kernel
theorem dX0_coverPlain_43 : decode cX0_coverPlain 43 = .ok (.iload_n 2, 1) := by decide +kernel
theorem dX0_coverPlain_44 : decode cX0_coverPlain 44 = .ok (.invokevirtual 79, 3) := by decide +kernel
theorem dX0_coverPlain_47 : decode cX0_coverPlain 47 = .ok (.aload_n 0, 1) := by decide +kernel
theorem dX0_coverPlain_48 : decode cX0_coverPlain 48 = .ok (.getfield 19, 3) := by decide +kernel
theorem dX0_coverPlain_51 : decode cX0_coverPlain 51 = .ok (.iload_n 3, 1) := by decide +kernel
theorem dX0_coverPlain_52 : decode cX0_coverPlain 52 = .ok (.invokestatic 54, 3) := by decide +kernel
theorem dX0_coverPlain_55 : decode cX0_coverPlain 55 = .ok (.iadd, 1) := by decide +kernel
theorem dX0_coverPlain_56 : decode cX0_coverPlain 56 = .ok (.aload_n 0, 1) := by decide +kernel
theorem dX0_coverPlain_57 : decode cX0_coverPlain 57 = .ok (.getfield 19, 3) := by decide +kernel
theorem dX0_coverPlain_60 : decode cX0_coverPlain 60 = .ok (.iload 4, 2) := by decide +kernel
theorem dX0_coverPlain_62 : decode cX0_coverPlain 62 = .ok (.invokestatic 54, 3) := by decide +kernel
theorem dX0_coverPlain_65 : decode cX0_coverPlain 65 = .ok (.iadd, 1) := by decide +kernel
theorem dX0_coverPlain_66 : decode cX0_coverPlain 66 = .ok (.invokestatic 58, 3) := by decide +kernel
theorem dX0_coverPlain_69 : decode cX0_coverPlain 69 = .ok (.aload_n 0, 1) := by decide +kernel
theorem dX0_coverPlain_70 : decode cX0_coverPlain 70 = .ok (.getfield 29, 3) := by decide +kernel
theorem dX0_coverPlain_73 : decode cX0_coverPlain 73 = .ok (.iload_n 1, 1) := by decide +kernel
theorem dX0_coverPlain_74 : decode cX0_coverPlain 74 = .ok (.iload_n 3, 1) := by decide +kernel
theorem dX0_coverPlain_75 : decode cX0_coverPlain 75 = .ok (.iload 4, 2) := by decide +kernel
theorem dX0_coverPlain_77 : decode cX0_coverPlain 77 = .ok (.iconst (-1), 1) := by decide +kernel
theorem dX0_coverPlain_78 : decode cX0_coverPlain 78 = .ok (.invokestatic 75, 3) := by decide +kernel
theorem dX0_coverPlain_81 : decode cX0_coverPlain 81 = .ok (.aload_n 0, 1) := by decide +kernel
theorem dX0_coverPlain_82 : decode cX0_coverPlain 82 = .ok (.getfield 32, 3) := by decide +kernel
theorem dX0_coverPlain_85 : decode cX0_coverPlain 85 = .ok (.iload_n 1, 1) := by decide +kernel
theorem dX0_coverPlain_86 : decode cX0_coverPlain 86 = .ok (.iload_n 3, 1) := by decide +kernel
theorem dX0_coverPlain_87 : decode cX0_coverPlain 87 = .ok (.iload 4, 2) := by decide +kernel
theorem dX0_coverPlain_89 : decode cX0_coverPlain 89 = .ok (.iconst (-1), 1) := by decide +kernel
theorem dX0_coverPlain_90 : decode cX0_coverPlain 90 = .ok (.invokestatic 75, 3) := by decide +kernel
theorem dX0_coverPlain_93 : decode cX0_coverPlain 93 = .ok (.return_, 1) := by decide +kernel
theorem dX0_coverSmall_0 : decode cX0_coverSmall 0 = .ok (.aload_n 0, 1) := by decide +kernel
theorem dX0_coverSmall_1 : decode cX0_coverSmall 1 = .ok (.getfield 9, 3) := by decide +kernel
theorem dX0_coverSmall_4 : decode cX0_coverSmall 4 = .ok (.getfield 85, 3) := by decide +kernel
theorem dX0_coverSmall_7 : decode cX0_coverSmall 7 = .ok (.iload_n 1, 1) := by decide +kernel
theorem dX0_coverSmall_8 : decode cX0_coverSmall 8 = .ok (.invokestatic 54, 3) := by decide +kernel
theorem dX0_coverSmall_11 : decode cX0_coverSmall 11 = .ok (.istore_n 3, 1) := by decide +kernel
theorem dX0_coverSmall_12 : decode cX0_coverSmall 12 = .ok (.aload_n 0, 1) := by decide +kernel
theorem dX0_coverSmall_13 : decode cX0_coverSmall 13 = .ok (.getfield 9, 3) := by decide +kernel
theorem dX0_coverSmall_16 : decode cX0_coverSmall 16 = .ok (.getfield 88, 3) := by decide +kernel
theorem dX0_coverSmall_19 : decode cX0_coverSmall 19 = .ok (.iload_n 1, 1) := by decide +kernel
theorem dX0_coverSmall_20 : decode cX0_coverSmall 20 = .ok (.invokestatic 54, 3) := by decide +kernel
theorem dX0_coverSmall_23 : decode cX0_coverSmall 23 = .ok (.istore 4, 2) := by decide +kernel
theorem dX0_coverSmall_25 : decode cX0_coverSmall 25 = .ok (.iload_n 2, 1) := by decide +kernel
theorem dX0_coverSmall_26 : decode cX0_coverSmall 26 = .ok (.iconst 2, 1) := by decide +kernel
theorem dX0_coverSmall_27 : decode cX0_coverSmall 27 = .ok (.if_icmp .eq 8, 3) := by decide +kernel
theorem dX0_coverSmall_30 : decode cX0_coverSmall 30 = .ok (.iload_n 2, 1) := by decide +kernel
theorem dX0_coverSmall_31 : decode cX0_coverSmall 31 = .ok (.iconst 3, 1) := by decide +kernel
theorem dX0_coverSmall_32 : decode cX0_coverSmall 32 = .ok (.if_icmp .ne 16, 3) := by decide +kernel
theorem dX0_coverSmall_35 : decode cX0_coverSmall 35 = .ok (.aload_n 0, 1) := by decide +kernel
theorem dX0_coverSmall_36 : decode cX0_coverSmall 36 = .ok (.iload 4, 2) := by decide +kernel
theorem dX0_coverSmall_38 : decode cX0_coverSmall 38 = .ok (.invokevirtual 91, 3) := by decide +kernel
theorem dX0_coverSmall_41 : decode cX0_coverSmall 41 = .ok (.ifCond .eq 7, 3) := by decide +kernel
theorem dX0_coverSmall_44 : decode cX0_coverSmall 44 = .ok (.iconst 1, 1) := by decide +kernel
theorem dX0_coverSmall_45 : decode cX0_coverSmall 45 = .ok (.goto 4, 3) := by decide +kernel
theorem dX0_coverSmall_48 : decode cX0_coverSmall 48 = .ok (.iconst 0, 1) := by decide +kernel
theorem dX0_coverSmall_49 : decode cX0_coverSmall 49 = .ok (.istore 5, 2) := by decide +kernel
theorem dX0_coverSmall_51 : decode cX0_coverSmall 51 = .ok (.iload 5, 2) := by decide +kernel
theorem dX0_coverSmall_53 : decode cX0_coverSmall 53 = .ok (.ifCond .ne 17, 3) := by decide +kernel
theorem dX0_coverSmall_56 : decode cX0_coverSmall 56 = .ok (.iload_n 2, 1) := by decide +kernel
theorem dX0_coverSmall_57 : decode cX0_coverSmall 57 = .ok (.iconst 2, 1) := by decide +kernel
theorem dX0_coverSmall_58 : decode cX0_coverSmall 58 = .ok (.if_icmp .ne 11, 3) := by decide +kernel
theorem dX0_coverSmall_61 : decode cX0_coverSmall 61 = .ok (.aload_n 0, 1) := by decide +kernel
theorem dX0_coverSmall_62 : decode cX0_coverSmall 62 = .ok (.iload_n 3, 1) := by decide +kernel
theorem dX0_coverSmall_63 : decode cX0_coverSmall 63 = .ok (.invokevirtual 91, 3) := by decide +kernel
theorem dX0_coverSmall_66 : decode cX0_coverSmall 66 = .ok (.ifCond .ne 4, 3) := by decide +kernel
theorem dX0_coverSmall_69 : decode cX0_coverSmall 69 = .ok (.return_, 1) := by decide +kernel
theorem dX0_coverSmall_70 : decode cX0_coverSmall 70 = .ok (.iload 5, 2) := by decide +kernel
theorem dX0_coverSmall_72 : decode cX0_coverSmall 72 = .ok (.ifCond .eq 7, 3) := by decide +kernel
theorem dX0_coverSmall_75 : decode cX0_coverSmall 75 = .ok (.iload_n 3, 1) := by decide +kernel
theorem dX0_coverSmall_76 : decode cX0_coverSmall 76 = .ok (.goto 5, 3) := by decide +kernel
theorem dX0_coverSmall_79 : decode cX0_coverSmall 79 = .ok (.iload 4, 2) := by decide +kernel
theorem dX0_coverSmall_81 : decode cX0_coverSmall 81 = .ok (.istore 6, 2) := by decide +kernel
theorem dX0_coverSmall_83 : decode cX0_coverSmall 83 = .ok (.aload_n 0, 1) := by decide +kernel
theorem dX0_coverSmall_84 : decode cX0_coverSmall 84 = .ok (.getfield 15, 3) := by decide +kernel
theorem dX0_coverSmall_87 : decode cX0_coverSmall 87 = .ok (.iconst 5, 1) := by decide +kernel
theorem dX0_coverSmall_88 : decode cX0_coverSmall 88 = .ok (.invokevirtual 79, 3) := by decide +kernel
theorem dX0_coverSmall_91 : decode cX0_coverSmall 91 = .ok (.aload_n 0, 1) := by decide +kernel
theorem dX0_coverSmall_92 : decode cX0_coverSmall 92 = .ok (.getfield 19, 3) := by decide +kernel
theorem dX0_coverSmall_95 : decode cX0_coverSmall 95 = .ok (.iload 6, 2) := by decide +kernel
theorem dX0_coverSmall_97 : decode cX0_coverSmall 97 = .ok (.invokestatic 54, 3) := by decide +kernel
theorem dX0_coverSmall_100 : decode cX0_coverSmall 100 = .ok (.iadd, 1) := by decide +kernel
theorem dX0_coverSmall_101 : decode cX0_coverSmall 101 = .ok (.istore 7, 2) := by decide +kernel
theorem dX0_coverSmall_103 : decode cX0_coverSmall 103 = .ok (.iload 7, 2) := by decide +kernel
theorem dX0_coverSmall_105 : decode cX0_coverSmall 105 = .ok (.aload_n 0, 1) := by decide +kernel
theorem dX0_coverSmall_106 : decode cX0_coverSmall 106 = .ok (.getfield 19, 3) := by decide +kernel
theorem dX0_coverSmall_109 : decode cX0_coverSmall 109 = .ok (.iload_n 1, 1) := by decide +kernel
theorem dX0_coverSmall_110 : decode cX0_coverSmall 110 = .ok (.invokestatic 54, 3) := by decide +kernel
theorem dX0_coverSmall_113 : decode cX0_coverSmall 113 = .ok (.if_icmp .ge 90, 3) := by decide +kernel
theorem dX0_coverSmall_116 : decode cX0_coverSmall 116 = .ok (.aload_n 0, 1) := by decide +kernel
theorem dX0_coverSmall_117 : decode cX0_coverSmall 117 = .ok (.getfield 9, 3) := by decide +kernel
theorem dX0_coverSmall_120 : decode cX0_coverSmall 120 = .ok (.getfield 85, 3) := by decide +kernel
theorem dX0_coverSmall_123 : decode cX0_coverSmall 123 = .ok (.iload 5, 2) := by decide +kernel
theorem dX0_coverSmall_125 : decode cX0_coverSmall 125 = .ok (.ifCond .eq 8, 3) := by decide +kernel
theorem dX0_coverSmall_128 : decode cX0_coverSmall 128 = .ok (.iload 4, 2) := by decide +kernel
theorem dX0_coverSmall_130 : decode cX0_coverSmall 130 = .ok (.goto 4, 3) := by decide +kernel
theorem dX0_coverSmall_133 : decode cX0_coverSmall 133 = .ok (.iload_n 3, 1) := by decide +kernel
theorem dX0_coverSmall_134 : decode cX0_coverSmall 134 = .ok (.invokestatic 54, 3) := by decide +kernel
theorem dX0_coverSmall_137 : decode cX0_coverSmall 137 = .ok (.istore 8, 2) := by decide +kernel
theorem dX0_coverSmall_139 : decode cX0_coverSmall 139 = .ok (.aload_n 0, 1) := by decide +kernel
theorem dX0_coverSmall_140 : decode cX0_coverSmall 140 = .ok (.getfield 23, 3) := by decide +kernel
theorem dX0_coverSmall_143 : decode cX0_coverSmall 143 = .ok (.iload_n 1, 1) := by decide +kernel
theorem dX0_coverSmall_144 : decode cX0_coverSmall 144 = .ok (.iconst 5, 1) := by decide +kernel
theorem dX0_coverSmall_145 : decode cX0_coverSmall 145 = .ok (.invokestatic 58, 3) := by decide +kernel
theorem dX0_coverSmall_148 : decode cX0_coverSmall 148 = .ok (.aload_n 0, 1) := by decide +kernel
theorem dX0_coverSmall_149 : decode cX0_coverSmall 149 = .ok (.getfield 19, 3) := by decide +kernel
theorem dX0_coverSmall_152 : decode cX0_coverSmall 152 = .ok (.iload_n 1, 1) := by decide +kernel
theorem dX0_coverSmall_153 : decode cX0_coverSmall 153 = .ok (.iload 7, 2) := by decide +kernel
theorem dX0_coverSmall_155 : decode cX0_coverSmall 155 = .ok (.invokestatic 58, 3) := by decide +kernel
theorem dX0_coverSmall_158 : decode cX0_coverSmall 158 = .ok (.aload_n 0, 1) := by decide +kernel
theorem dX0_coverSmall_159 : decode cX0_coverSmall 159 = .ok (.getfield 26, 3) := by decide +kernel
theorem dX0_coverSmall_162 : decode cX0_coverSmall 162 = .ok (.iload_n 1, 1) := by decide +kernel
theorem dX0_coverSmall_163 : decode cX0_coverSmall 163 = .ok (.iload_n 2, 1) := by decide +kernel
theorem dX0_coverSmall_164 : decode cX0_coverSmall 164 = .ok (.iconst 3, 1) := by decide +kernel
theorem dX0_coverSmall_165 : decode cX0_coverSmall 165 = .ok (.if_icmp .ne 9, 3) := by decide +kernel
theorem dX0_coverSmall_168 : decode cX0_coverSmall 168 = .ok (.iload 8, 2) := by decide +kernel
theorem dX0_coverSmall_170 : decode cX0_coverSmall 170 = .ok (.ineg, 1) := by decide +kernel
theorem dX0_coverSmall_171 : decode cX0_coverSmall 171 = .ok (.goto 5, 3) := by decide +kernel
theorem dX0_coverSmall_174 : decode cX0_coverSmall 174 = .ok (.iload 8, 2) := by decide +kernel
theorem dX0_coverSmall_176 : decode cX0_coverSmall 176 = .ok (.invokestatic 58, 3) := by decide +kernel
theorem dX0_coverSmall_179 : decode cX0_coverSmall 179 = .ok (.aload_n 0, 1) := by decide +kernel
theorem dX0_coverSmall_180 : decode cX0_coverSmall 180 = .ok (.getfield 29, 3) := by decide +kernel
theorem dX0_coverSmall_183 : decode cX0_coverSmall 183 = .ok (.iload_n 1, 1) := by decide +kernel
theorem dX0_coverSmall_184 : decode cX0_coverSmall 184 = .ok (.iload 6, 2) := by decide +kernel
theorem dX0_coverSmall_186 : decode cX0_coverSmall 186 = .ok (.iconst (-1), 1) := by decide +kernel
theorem dX0_coverSmall_187 : decode cX0_coverSmall 187 = .ok (.iconst (-1), 1) := by decide +kernel
theorem dX0_coverSmall_188 : decode cX0_coverSmall 188 = .ok (.invokestatic 75, 3) := by decide +kernel
theorem dX0_coverSmall_191 : decode cX0_coverSmall 191 = .ok (.aload_n 0, 1) := by decide +kernel
theorem dX0_coverSmall_192 : decode cX0_coverSmall 192 = .ok (.getfield 32, 3) := by decide +kernel
theorem dX0_coverSmall_195 : decode cX0_coverSmall 195 = .ok (.iload_n 1, 1) := by decide +kernel
theorem dX0_coverSmall_196 : decode cX0_coverSmall 196 = .ok (.iload 6, 2) := by decide +kernel
theorem dX0_coverSmall_198 : decode cX0_coverSmall 198 = .ok (.iconst (-1), 1) := by decide +kernel
theorem dX0_coverSmall_199 : decode cX0_coverSmall 199 = .ok (.iconst (-1), 1) := by decide +kernel
theorem dX0_coverSmall_200 : decode cX0_coverSmall 200 = .ok (.invokestatic 75, 3) := by decide +kernel
theorem dX0_coverSmall_203 : decode cX0_coverSmall 203 = .ok (.return_, 1) := by decide +kernel
theorem dX0_isSmall_0 : decode cX0_isSmall 0 = .ok (.aload_n 0, 1) := by decide +kernel
theorem dX0_isSmall_1 : decode cX0_isSmall 1 = .ok (.getfield 9, 3) := by decide +kernel
theorem dX0_isSmall_4 : decode cX0_isSmall 4 = .ok (.getfield 85, 3) := by decide +kernel
theorem dX0_isSmall_7 : decode cX0_isSmall 7 = .ok (.iload_n 1, 1) := by decide +kernel
theorem dX0_isSmall_8 : decode cX0_isSmall 8 = .ok (.invokestatic 54, 3) := by decide +kernel
theorem dX0_isSmall_11 : decode cX0_isSmall 11 = .ok (.istore_n 2, 1) := by decide +kernel
theorem dX0_isSmall_12 : decode cX0_isSmall 12 = .ok (.aload_n 0, 1) := by decide +kernel
theorem dX0_isSmall_13 : decode cX0_isSmall 13 = .ok (.getfield 9, 3) := by decide +kernel
theorem dX0_isSmall_16 : decode cX0_isSmall 16 = .ok (.getfield 53, 3) := by decide +kernel
theorem dX0_isSmall_19 : decode cX0_isSmall 19 = .ok (.iload_n 1, 1) := by decide +kernel
theorem dX0_isSmall_20 : decode cX0_isSmall 20 = .ok (.invokestatic 54, 3) := by decide +kernel
theorem dX0_isSmall_23 : decode cX0_isSmall 23 = .ok (.ifCond .ne 30, 3) := by decide +kernel
theorem dX0_isSmall_26 : decode cX0_isSmall 26 = .ok (.iload_n 2, 1) := by decide +kernel
theorem dX0_isSmall_27 : decode cX0_isSmall 27 = .ok (.aload_n 0, 1) := by decide +kernel
theorem dX0_isSmall_28 : decode cX0_isSmall 28 = .ok (.getfield 15, 3) := by decide +kernel
theorem dX0_isSmall_31 : decode cX0_isSmall 31 = .ok (.getfield 95, 3) := by decide +kernel
theorem dX0_isSmall_34 : decode cX0_isSmall 34 = .ok (.ineg, 1) := by decide +kernel
theorem dX0_isSmall_35 : decode cX0_isSmall 35 = .ok (.if_icmp .lt 18, 3) := by decide +kernel
theorem dX0_isSmall_38 : decode cX0_isSmall 38 = .ok (.iload_n 2, 1) := by decide +kernel
theorem dX0_isSmall_39 : decode cX0_isSmall 39 = .ok (.aload_n 0, 1) := by decide +kernel
theorem dX0_isSmall_40 : decode cX0_isSmall 40 = .ok (.getfield 15, 3) := by decide +kernel
theorem dX0_isSmall_43 : decode cX0_isSmall 43 = .ok (.getfield 95, 3) := by decide +kernel
theorem dX0_isSmall_46 : decode cX0_isSmall 46 = .ok (.if_icmp .gt 7, 3) := by decide +kernel
theorem dX0_isSmall_49 : decode cX0_isSmall 49 = .ok (.iconst 1, 1) := by decide +kernel
theorem dX0_isSmall_50 : decode cX0_isSmall 50 = .ok (.goto 4, 3) := by decide +kernel
theorem dX0_isSmall_53 : decode cX0_isSmall 53 = .ok (.iconst 0, 1) := by decide +kernel
theorem dX0_isSmall_54 : decode cX0_isSmall 54 = .ok (.ireturn, 1) := by decide +kernel
theorem dX0_coverFused_0 : decode cX0_coverFused 0 = .ok (.aload_n 0, 1) := by decide +kernel
theorem dX0_coverFused_1 : decode cX0_coverFused 1 = .ok (.getfield 9, 3) := by decide +kernel
theorem dX0_coverFused_4 : decode cX0_coverFused 4 = .ok (.getfield 85, 3) := by decide +kernel
theorem dX0_coverFused_7 : decode cX0_coverFused 7 = .ok (.iload_n 1, 1) := by decide +kernel
theorem dX0_coverFused_8 : decode cX0_coverFused 8 = .ok (.invokestatic 54, 3) := by decide +kernel
theorem dX0_coverFused_11 : decode cX0_coverFused 11 = .ok (.istore_n 3, 1) := by decide +kernel
theorem dX0_coverFused_12 : decode cX0_coverFused 12 = .ok (.aload_n 0, 1) := by decide +kernel
theorem dX0_coverFused_13 : decode cX0_coverFused 13 = .ok (.getfield 9, 3) := by decide +kernel
theorem dX0_coverFused_16 : decode cX0_coverFused 16 = .ok (.getfield 88, 3) := by decide +kernel
theorem dX0_coverFused_19 : decode cX0_coverFused 19 = .ok (.iload_n 1, 1) := by decide +kernel
theorem dX0_coverFused_20 : decode cX0_coverFused 20 = .ok (.invokestatic 54, 3) := by decide +kernel
theorem dX0_coverFused_23 : decode cX0_coverFused 23 = .ok (.istore 4, 2) := by decide +kernel
theorem dX0_coverFused_25 : decode cX0_coverFused 25 = .ok (.aload_n 0, 1) := by decide +kernel
theorem dX0_coverFused_26 : decode cX0_coverFused 26 = .ok (.getfield 9, 3) := by decide +kernel
theorem dX0_coverFused_29 : decode cX0_coverFused 29 = .ok (.getfield 53, 3) := by decide +kernel
theorem dX0_coverFused_32 : decode cX0_coverFused 32 = .ok (.iload_n 3, 1) := by decide +kernel
theorem dX0_coverFused_33 : decode cX0_coverFused 33 = .ok (.invokestatic 54, 3) := by decide +kernel
theorem dX0_coverFused_36 : decode cX0_coverFused 36 = .ok (.iconst 4, 1) := by decide +kernel
theorem dX0_coverFused_37 : decode cX0_coverFused 37 = .ok (.if_icmp .ne 7, 3) := by decide +kernel
theorem dX0_coverFused_40 : decode cX0_coverFused 40 = .ok (.iconst 1, 1) := by decide +kernel
theorem dX0_coverFused_41 : decode cX0_coverFused 41 = .ok (.goto 4, 3) := by decide +kernel
theorem dX0_coverFused_44 : decode cX0_coverFused 44 = .ok (.iconst 0, 1) := by decide +kernel
theorem dX0_coverFused_45 : decode cX0_coverFused 45 = .ok (.istore 5, 2) := by decide +kernel
theorem dX0_coverFused_47 : decode cX0_coverFused 47 = .ok (.aload_n 0, 1) := by decide +kernel
theorem dX0_coverFused_48 : decode cX0_coverFused 48 = .ok (.getfield 15, 3) := by decide +kernel
theorem dX0_coverFused_51 : decode cX0_coverFused 51 = .ok (.getfield 98, 3) := by decide +kernel
theorem dX0_coverFused_54 : decode cX0_coverFused 54 = .ok (.ifCond .eq 29, 3) := by decide +kernel
theorem dX0_coverFused_57 : decode cX0_coverFused 57 = .ok (.iload_n 2, 1) := by decide +kernel
theorem dX0_coverFused_58 : decode cX0_coverFused 58 = .ok (.iconst 2, 1) := by decide +kernel
theorem dX0_coverFused_59 : decode cX0_coverFused 59 = .ok (.if_icmp .ne 24, 3) := by decide +kernel
theorem dX0_coverFused_62 : decode cX0_coverFused 62 = .ok (.iload 5, 2) := by decide +kernel
theorem dX0_coverFused_64 : decode cX0_coverFused 64 = .ok (.ifCond .ne 20, 3) := by decide +kernel
theorem dX0_coverFused_67 : decode cX0_coverFused 67 = .ok (.aload_n 0, 1) := by decide +kernel
theorem dX0_coverFused_68 : decode cX0_coverFused 68 = .ok (.getfield 9, 3) := by decide +kernel
theorem dX0_coverFused_71 : decode cX0_coverFused 71 = .ok (.getfield 53, 3) := by decide +kernel
theorem dX0_coverFused_74 : decode cX0_coverFused 74 = .ok (.iload 4, 2) := by decide +kernel
theorem dX0_coverFused_76 : decode cX0_coverFused 76 = .ok (.invokestatic 54, 3) := by decide +kernel
theorem dX0_coverFused_79 : decode cX0_coverFused 79 = .ok (.iconst 4, 1) := by decide +kernel
theorem dX0_coverFused_80 : decode cX0_coverFused 80 = .ok (.if_icmp .eq 4, 3) := by decide +kernel
theorem dX0_coverFused_83 : decode cX0_coverFused 83 = .ok (.return_, 1) := by decide +kernel
theorem dX0_coverFused_84 : decode cX0_coverFused 84 = .ok (.aload_n 0, 1) := by decide +kernel
theorem dX0_coverFused_85 : decode cX0_coverFused 85 = .ok (.getfield 9, 3) := by decide +kernel
theorem dX0_coverFused_88 : decode cX0_coverFused 88 = .ok (.getfield 85, 3) := by decide +kernel
theorem dX0_coverFused_91 : decode cX0_coverFused 91 = .ok (.iload 5, 2) := by decide +kernel
theorem dX0_coverFused_93 : decode cX0_coverFused 93 = .ok (.ifCond .eq 7, 3) := by decide +kernel
theorem dX0_coverFused_96 : decode cX0_coverFused 96 = .ok (.iload_n 3, 1) := by decide +kernel
theorem dX0_coverFused_97 : decode cX0_coverFused 97 = .ok (.goto 5, 3) := by decide +kernel
theorem dX0_coverFused_100 : decode cX0_coverFused 100 = .ok (.iload 4, 2) := by decide +kernel
theorem dX0_coverFused_102 : decode cX0_coverFused 102 = .ok (.invokestatic 54, 3) := by decide +kernel
theorem dX0_coverFused_105 : decode cX0_coverFused 105 = .ok (.istore 6, 2) := by decide +kernel
theorem dX0_coverFused_107 : decode cX0_coverFused 107 = .ok (.aload_n 0, 1) := by decide +kernel
theorem dX0_coverFused_108 : decode cX0_coverFused 108 = .ok (.getfield 9, 3) := by decide +kernel
theorem dX0_coverFused_111 : decode cX0_coverFused 111 = .ok (.getfield 88, 3) := by decide +kernel
theorem dX0_coverFused_114 : decode cX0_coverFused 114 = .ok (.iload 5, 2) := by decide +kernel
theorem dX0_coverFused_116 : decode cX0_coverFused 116 = .ok (.ifCond .eq 7, 3) := by decide +kernel
theorem dX0_coverFused_119 : decode cX0_coverFused 119 = .ok (.iload_n 3, 1) := by decide +kernel
theorem dX0_coverFused_120 : decode cX0_coverFused 120 = .ok (.goto 5, 3) := by decide +kernel
theorem dX0_coverFused_123 : decode cX0_coverFused 123 = .ok (.iload 4, 2) := by decide +kernel
theorem dX0_coverFused_125 : decode cX0_coverFused 125 = .ok (.invokestatic 54, 3) := by decide +kernel
theorem dX0_coverFused_128 : decode cX0_coverFused 128 = .ok (.istore 7, 2) := by decide +kernel
theorem dX0_coverFused_130 : decode cX0_coverFused 130 = .ok (.iload 5, 2) := by decide +kernel
theorem dX0_coverFused_132 : decode cX0_coverFused 132 = .ok (.ifCond .eq 8, 3) := by decide +kernel
theorem dX0_coverFused_135 : decode cX0_coverFused 135 = .ok (.iload 4, 2) := by decide +kernel
theorem dX0_coverFused_137 : decode cX0_coverFused 137 = .ok (.goto 4, 3) := by decide +kernel
theorem dX0_coverFused_140 : decode cX0_coverFused 140 = .ok (.iload_n 3, 1) := by decide +kernel
theorem dX0_coverFused_141 : decode cX0_coverFused 141 = .ok (.istore 8, 2) := by decide +kernel
theorem dX0_coverFused_143 : decode cX0_coverFused 143 = .ok (.aload_n 0, 1) := by decide +kernel
theorem dX0_coverFused_144 : decode cX0_coverFused 144 = .ok (.getfield 15, 3) := by decide +kernel
theorem dX0_coverFused_147 : decode cX0_coverFused 147 = .ok (.bipush 6, 2) := by decide +kernel
theorem dX0_coverFused_149 : decode cX0_coverFused 149 = .ok (.invokevirtual 79, 3) := by decide +kernel
theorem dX0_coverFused_152 : decode cX0_coverFused 152 = .ok (.aload_n 0, 1) := by decide +kernel
theorem dX0_coverFused_153 : decode cX0_coverFused 153 = .ok (.getfield 19, 3) := by decide +kernel
theorem dX0_coverFused_156 : decode cX0_coverFused 156 = .ok (.iload 6, 2) := by decide +kernel
theorem dX0_coverFused_158 : decode cX0_coverFused 158 = .ok (.invokestatic 54, 3) := by decide +kernel
theorem dX0_coverFused_161 : decode cX0_coverFused 161 = .ok (.iadd, 1) := by decide +kernel
theorem dX0_coverFused_162 : decode cX0_coverFused 162 = .ok (.aload_n 0, 1) := by decide +kernel
theorem dX0_coverFused_163 : decode cX0_coverFused 163 = .ok (.getfield 19, 3) := by decide +kernel
theorem dX0_coverFused_166 : decode cX0_coverFused 166 = .ok (.iload 7, 2) := by decide +kernel
theorem dX0_coverFused_168 : decode cX0_coverFused 168 = .ok (.invokestatic 54, 3) := by decide +kernel
theorem dX0_coverFused_171 : decode cX0_coverFused 171 = .ok (.iadd, 1) := by decide +kernel
theorem dX0_coverFused_172 : decode cX0_coverFused 172 = .ok (.aload_n 0, 1) := by decide +kernel
theorem dX0_coverFused_173 : decode cX0_coverFused 173 = .ok (.getfield 19, 3) := by decide +kernel
theorem dX0_coverFused_176 : decode cX0_coverFused 176 = .ok (.iload 8, 2) := by decide +kernel
theorem dX0_coverFused_178 : decode cX0_coverFused 178 = .ok (.invokestatic 54, 3) := by decide +kernel
theorem dX0_coverFused_181 : decode cX0_coverFused 181 = .ok (.iadd, 1) := by decide +kernel
theorem dX0_coverFused_182 : decode cX0_coverFused 182 = .ok (.istore 9, 2) := by decide +kernel
theorem dX0_coverFused_184 : decode cX0_coverFused 184 = .ok (.iload 9, 2) := by decide +kernel
theorem dX0_coverFused_186 : decode cX0_coverFused 186 = .ok (.aload_n 0, 1) := by decide +kernel
theorem dX0_coverFused_187 : decode cX0_coverFused 187 = .ok (.getfield 19, 3) := by decide +kernel
theorem dX0_coverFused_190 : decode cX0_coverFused 190 = .ok (.iload_n 1, 1) := by decide +kernel
theorem dX0_coverFused_191 : decode cX0_coverFused 191 = .ok (.invokestatic 54, 3) := by decide +kernel
theorem dX0_coverFused_194 : decode cX0_coverFused 194 = .ok (.if_icmp .ge 82, 3) := by decide +kernel
theorem dX0_coverFused_197 : decode cX0_coverFused 197 = .ok (.aload_n 0, 1) := by decide +kernel
theorem dX0_coverFused_198 : decode cX0_coverFused 198 = .ok (.getfield 23, 3) := by decide +kernel
theorem dX0_coverFused_201 : decode cX0_coverFused 201 = .ok (.iload_n 1, 1) := by decide +kernel
theorem dX0_coverFused_202 : decode cX0_coverFused 202 = .ok (.bipush 6, 2) := by decide +kernel
theorem dX0_coverFused_204 : decode cX0_coverFused 204 = .ok (.invokestatic 58, 3) := by decide +kernel
theorem dX0_coverFused_207 : decode cX0_coverFused 207 = .ok (.aload_n 0, 1) := by decide +kernel
theorem dX0_coverFused_208 : decode cX0_coverFused 208 = .ok (.getfield 19, 3) := by decide +kernel
theorem dX0_coverFused_211 : decode cX0_coverFused 211 = .ok (.iload_n 1, 1) := by decide +kernel
theorem dX0_coverFused_212 : decode cX0_coverFused 212 = .ok (.iload 9, 2) := by decide +kernel
theorem dX0_coverFused_214 : decode cX0_coverFused 214 = .ok (.invokestatic 58, 3) := by decide +kernel
theorem dX0_coverFused_217 : decode cX0_coverFused 217 = .ok (.aload_n 0, 1) := by decide +kernel
theorem dX0_coverFused_218 : decode cX0_coverFused 218 = .ok (.getfield 26, 3) := by decide +kernel
theorem dX0_coverFused_221 : decode cX0_coverFused 221 = .ok (.iload_n 1, 1) := by decide +kernel
theorem dX0_coverFused_222 : decode cX0_coverFused 222 = .ok (.iconst 0, 1) := by decide +kernel
theorem dX0_coverFused_223 : decode cX0_coverFused 223 = .ok (.invokestatic 58, 3) := by decide +kernel
theorem dX0_coverFused_226 : decode cX0_coverFused 226 = .ok (.aload_n 0, 1) := by decide +kernel
theorem dX0_coverFused_227 : decode cX0_coverFused 227 = .ok (.getfield 29, 3) := by decide +kernel
theorem dX0_coverFused_230 : decode cX0_coverFused 230 = .ok (.iload_n 1, 1) := by decide +kernel
theorem dX0_coverFused_231 : decode cX0_coverFused 231 = .ok (.iload 6, 2) := by decide +kernel
theorem dX0_coverFused_233 : decode cX0_coverFused 233 = .ok (.iload 7, 2) := by decide +kernel
theorem dX0_coverFused_235 : decode cX0_coverFused 235 = .ok (.iload 8, 2) := by decide +kernel
theorem dX0_coverFused_237 : decode cX0_coverFused 237 = .ok (.invokestatic 75, 3) := by decide +kernel
theorem dX0_coverFused_240 : decode cX0_coverFused 240 = .ok (.iload 5, 2) := by decide +kernel
theorem dX0_coverFused_242 : decode cX0_coverFused 242 = .ok (.ifCond .eq 20, 3) := by decide +kernel
theorem dX0_coverFused_245 : decode cX0_coverFused 245 = .ok (.aload_n 0, 1) := by decide +kernel
theorem dX0_coverFused_246 : decode cX0_coverFused 246 = .ok (.getfield 32, 3) := by decide +kernel
theorem dX0_coverFused_249 : decode cX0_coverFused 249 = .ok (.iload_n 1, 1) := by decide +kernel
theorem dX0_coverFused_250 : decode cX0_coverFused 250 = .ok (.iload 6, 2) := by decide +kernel
theorem dX0_coverFused_252 : decode cX0_coverFused 252 = .ok (.iload 7, 2) := by decide +kernel
theorem dX0_coverFused_254 : decode cX0_coverFused 254 = .ok (.iload 8, 2) := by decide +kernel
theorem dX0_coverFused_256 : decode cX0_coverFused 256 = .ok (.invokestatic 75, 3) := by decide +kernel
theorem dX0_coverFused_259 : decode cX0_coverFused 259 = .ok (.goto 17, 3) := by decide +kernel
theorem dX0_coverFused_262 : decode cX0_coverFused 262 = .ok (.aload_n 0, 1) := by decide +kernel
theorem dX0_coverFused_263 : decode cX0_coverFused 263 = .ok (.getfield 32, 3) := by decide +kernel
theorem dX0_coverFused_266 : decode cX0_coverFused 266 = .ok (.iload_n 1, 1) := by decide +kernel
theorem dX0_coverFused_267 : decode cX0_coverFused 267 = .ok (.iload 8, 2) := by decide +kernel
theorem dX0_coverFused_269 : decode cX0_coverFused 269 = .ok (.iload 6, 2) := by decide +kernel
theorem dX0_coverFused_271 : decode cX0_coverFused 271 = .ok (.iload 7, 2) := by decide +kernel
theorem dX0_coverFused_273 : decode cX0_coverFused 273 = .ok (.invokestatic 75, 3) := by decide +kernel
theorem dX0_coverFused_276 : decode cX0_coverFused 276 = .ok (.return_, 1) := by decide +kernel
theorem dX0_setNodes_0 : decode cX0_setNodes 0 = .ok (.aload_n 0, 1) := by decide +kernel
theorem dX0_setNodes_1 : decode cX0_setNodes 1 = .ok (.iconst 3, 1) := by decide +kernel
theorem dX0_setNodes_2 : decode cX0_setNodes 2 = .ok (.iload_n 1, 1) := by decide +kernel
theorem dX0_setNodes_3 : decode cX0_setNodes 3 = .ok (.imul, 1) := by decide +kernel
theorem dX0_setNodes_4 : decode cX0_setNodes 4 = .ok (.iload_n 2, 1) := by decide +kernel
theorem dX0_setNodes_5 : decode cX0_setNodes 5 = .ok (.invokestatic 58, 3) := by decide +kernel
theorem dX0_setNodes_8 : decode cX0_setNodes 8 = .ok (.aload_n 0, 1) := by decide +kernel
theorem dX0_setNodes_9 : decode cX0_setNodes 9 = .ok (.iconst 3, 1) := by decide +kernel
theorem dX0_setNodes_10 : decode cX0_setNodes 10 = .ok (.iload_n 1, 1) := by decide +kernel
theorem dX0_setNodes_11 : decode cX0_setNodes 11 = .ok (.imul, 1) := by decide +kernel
theorem dX0_setNodes_12 : decode cX0_setNodes 12 = .ok (.iconst 1, 1) := by decide +kernel
theorem dX0_setNodes_13 : decode cX0_setNodes 13 = .ok (.iadd, 1) := by decide +kernel
theorem dX0_setNodes_14 : decode cX0_setNodes 14 = .ok (.iload_n 3, 1) := by decide +kernel
theorem dX0_setNodes_15 : decode cX0_setNodes 15 = .ok (.invokestatic 58, 3) := by decide +kernel
theorem dX0_setNodes_18 : decode cX0_setNodes 18 = .ok (.aload_n 0, 1) := by decide +kernel
theorem dX0_setNodes_19 : decode cX0_setNodes 19 = .ok (.iconst 3, 1) := by decide +kernel
theorem dX0_setNodes_20 : decode cX0_setNodes 20 = .ok (.iload_n 1, 1) := by decide +kernel
theorem dX0_setNodes_21 : decode cX0_setNodes 21 = .ok (.imul, 1) := by decide +kernel
theorem dX0_setNodes_22 : decode cX0_setNodes 22 = .ok (.iconst 2, 1) := by decide +kernel
theorem dX0_setNodes_23 : decode cX0_setNodes 23 = .ok (.iadd, 1) := by decide +kernel
theorem dX0_setNodes_24 : decode cX0_setNodes 24 = .ok (.iload 4, 2) := by decide +kernel
theorem dX0_setNodes_26 : decode cX0_setNodes 26 = .ok (.invokestatic 58, 3) := by decide +kernel
theorem dX0_setNodes_29 : decode cX0_setNodes 29 = .ok (.return_, 1) := by decide +kernel
theorem dX0_chooseStatement_0 : decode cX0_chooseStatement 0 = .ok (.aload_n 0, 1) := by decide +kernel
theorem dX0_chooseStatement_1 : decode cX0_chooseStatement 1 = .ok (.aload_n 0, 1) := by decide +kernel
theorem dX0_chooseStatement_2 : decode cX0_chooseStatement 2 = .ok (.getfield 9, 3) := by decide +kernel
theorem dX0_chooseStatement_5 : decode cX0_chooseStatement 5 = .ok (.iload_n 2, 1) := by decide +kernel
theorem dX0_chooseStatement_6 : decode cX0_chooseStatement 6 = .ok (.iload_n 3, 1) := by decide +kernel
theorem dX0_chooseStatement_7 : decode cX0_chooseStatement 7 = .ok (.invokevirtual 102, 3) := by decide +kernel
theorem dX0_chooseStatement_10 : decode cX0_chooseStatement 10 = .ok (.invokevirtual 106, 3) := by decide +kernel
theorem dX0_chooseStatement_13 : decode cX0_chooseStatement 13 = .ok (.istore 4, 2) := by decide +kernel
theorem dX0_chooseStatement_15 : decode cX0_chooseStatement 15 = .ok (.iload 4, 2) := by decide +kernel
theorem dX0_chooseStatement_17 : decode cX0_chooseStatement 17 = .ok (.iconst 1, 1) := by decide +kernel
theorem dX0_chooseStatement_18 : decode cX0_chooseStatement 18 = .ok (.isub, 1) := by decide +kernel
theorem dX0_chooseStatement_19 : decode cX0_chooseStatement 19 = .ok (.istore 5, 2) := by decide +kernel
theorem dX0_chooseStatement_21 : decode cX0_chooseStatement 21 = .ok (.iload 5, 2) := by decide +kernel
theorem dX0_chooseStatement_23 : decode cX0_chooseStatement 23 = .ok (.ifCond .le 95, 3) := by decide +kernel
theorem dX0_chooseStatement_26 : decode cX0_chooseStatement 26 = .ok (.aload_n 0, 1) := by decide +kernel
theorem dX0_chooseStatement_27 : decode cX0_chooseStatement 27 = .ok (.getfield 41, 3) := by decide +kernel
theorem dX0_chooseStatement_30 : decode cX0_chooseStatement 30 = .ok (.iload 5, 2) := by decide +kernel
theorem dX0_chooseStatement_32 : decode cX0_chooseStatement 32 = .ok (.invokestatic 54, 3) := by decide +kernel
theorem dX0_chooseStatement_35 : decode cX0_chooseStatement 35 = .ok (.istore 6, 2) := by decide +kernel
theorem dX0_chooseStatement_37 : decode cX0_chooseStatement 37 = .ok (.aload_n 0, 1) := by decide +kernel
theorem dX0_chooseStatement_38 : decode cX0_chooseStatement 38 = .ok (.getfield 9, 3) := by decide +kernel
theorem dX0_chooseStatement_41 : decode cX0_chooseStatement 41 = .ok (.getfield 53, 3) := by decide +kernel
theorem dX0_chooseStatement_44 : decode cX0_chooseStatement 44 = .ok (.iload 6, 2) := by decide +kernel
theorem dX0_chooseStatement_46 : decode cX0_chooseStatement 46 = .ok (.invokestatic 54, 3) := by decide +kernel
theorem dX0_chooseStatement_49 : decode cX0_chooseStatement 49 = .ok (.iconst 1, 1) := by decide +kernel
theorem dX0_chooseStatement_50 : decode cX0_chooseStatement 50 = .ok (.if_icmp .ne 27, 3) := by decide +kernel
theorem dX0_chooseStatement_53 : decode cX0_chooseStatement 53 = .ok (.aload_n 0, 1) := by decide +kernel
theorem dX0_chooseStatement_54 : decode cX0_chooseStatement 54 = .ok (.getfield 35, 3) := by decide +kernel
theorem dX0_chooseStatement_57 : decode cX0_chooseStatement 57 = .ok (.iload 6, 2) := by decide +kernel
theorem dX0_chooseStatement_59 : decode cX0_chooseStatement 59 = .ok (.aload_n 0, 1) := by decide +kernel
theorem dX0_chooseStatement_60 : decode cX0_chooseStatement 60 = .ok (.getfield 9, 3) := by decide +kernel
theorem dX0_chooseStatement_63 : decode cX0_chooseStatement 63 = .ok (.getfield 85, 3) := by decide +kernel
theorem dX0_chooseStatement_66 : decode cX0_chooseStatement 66 = .ok (.iload 6, 2) := by decide +kernel
theorem dX0_chooseStatement_68 : decode cX0_chooseStatement 68 = .ok (.invokestatic 54, 3) := by decide +kernel
theorem dX0_chooseStatement_71 : decode cX0_chooseStatement 71 = .ok (.invokestatic 58, 3) := by decide +kernel
theorem dX0_chooseStatement_74 : decode cX0_chooseStatement 74 = .ok (.goto 38, 3) := by decide +kernel
theorem dX0_chooseStatement_77 : decode cX0_chooseStatement 77 = .ok (.aload_n 0, 1) := by decide +kernel
theorem dX0_chooseStatement_78 : decode cX0_chooseStatement 78 = .ok (.getfield 35, 3) := by decide +kernel
theorem dX0_chooseStatement_81 : decode cX0_chooseStatement 81 = .ok (.iload 6, 2) := by decide +kernel
theorem dX0_chooseStatement_83 : decode cX0_chooseStatement 83 = .ok (.aload_n 0, 1) := by decide +kernel
theorem dX0_chooseStatement_84 : decode cX0_chooseStatement 84 = .ok (.getfield 44, 3) := by decide +kernel
theorem dX0_chooseStatement_87 : decode cX0_chooseStatement 87 = .ok (.invokestatic 58, 3) := by decide +kernel
theorem dX0_chooseStatement_90 : decode cX0_chooseStatement 90 = .ok (.aload_n 0, 1) := by decide +kernel
theorem dX0_chooseStatement_91 : decode cX0_chooseStatement 91 = .ok (.aload_n 1, 1) := by decide +kernel
theorem dX0_chooseStatement_92 : decode cX0_chooseStatement 92 = .ok (.iload 6, 2) := by decide +kernel
theorem dX0_chooseStatement_94 : decode cX0_chooseStatement 94 = .ok (.aload_n 0, 1) := by decide +kernel
theorem dX0_chooseStatement_95 : decode cX0_chooseStatement 95 = .ok (.getfield 44, 3) := by decide +kernel
theorem dX0_chooseStatement_98 : decode cX0_chooseStatement 98 = .ok (.iload_n 2, 1) := by decide +kernel
theorem dX0_chooseStatement_99 : decode cX0_chooseStatement 99 = .ok (.invokevirtual 109, 3) := by decide +kernel
theorem dX0_chooseStatement_102 : decode cX0_chooseStatement 102 = .ok (.aload_n 0, 1) := by decide +kernel
theorem dX0_chooseStatement_103 : decode cX0_chooseStatement 103 = .ok (.dup, 1) := by decide +kernel
theorem dX0_chooseStatement_104 : decode cX0_chooseStatement 104 = .ok (.getfield 44, 3) := by decide +kernel
theorem dX0_chooseStatement_107 : decode cX0_chooseStatement 107 = .ok (.iconst 1, 1) := by decide +kernel
theorem dX0_chooseStatement_108 : decode cX0_chooseStatement 108 = .ok (.iadd, 1) := by decide +kernel
theorem dX0_chooseStatement_109 : decode cX0_chooseStatement 109 = .ok (.putfield 44, 3) := by decide +kernel
theorem dX0_chooseStatement_112 : decode cX0_chooseStatement 112 = .ok (.iinc 5 (-1), 3) := by decide +kernel
theorem dX0_chooseStatement_115 : decode cX0_chooseStatement 115 = .ok (.goto (-94), 3) := by decide +kernel
theorem dX0_chooseStatement_118 : decode cX0_chooseStatement 118 = .ok (.aload_n 0, 1) := by decide +kernel
theorem dX0_chooseStatement_119 : decode cX0_chooseStatement 119 = .ok (.aload_n 1, 1) := by decide +kernel
theorem dX0_chooseStatement_120 : decode cX0_chooseStatement 120 = .ok (.aload_n 0, 1) := by decide +kernel
theorem dX0_chooseStatement_121 : decode cX0_chooseStatement 121 = .ok (.getfield 41, 3) := by decide +kernel
theorem dX0_chooseStatement_124 : decode cX0_chooseStatement 124 = .ok (.iconst 0, 1) := by decide +kernel
theorem dX0_chooseStatement_125 : decode cX0_chooseStatement 125 = .ok (.invokestatic 54, 3) := by decide +kernel
theorem dX0_chooseStatement_128 : decode cX0_chooseStatement 128 = .ok (.aload_n 0, 1) := by decide +kernel
theorem dX0_chooseStatement_129 : decode cX0_chooseStatement 129 = .ok (.getfield 9, 3) := by decide +kernel
theorem dX0_chooseStatement_132 : decode cX0_chooseStatement 132 = .ok (.iload_n 2, 1) := by decide +kernel
theorem dX0_chooseStatement_133 : decode cX0_chooseStatement 133 = .ok (.iload_n 3, 1) := by decide +kernel
theorem dX0_chooseStatement_134 : decode cX0_chooseStatement 134 = .ok (.invokevirtual 113, 3) := by decide +kernel
theorem dX0_chooseStatement_137 : decode cX0_chooseStatement 137 = .ok (.iload_n 2, 1) := by decide +kernel
theorem dX0_chooseStatement_138 : decode cX0_chooseStatement 138 = .ok (.invokevirtual 109, 3) := by decide +kernel
theorem dX0_chooseStatement_141 : decode cX0_chooseStatement 141 = .ok (.return_, 1) := by decide +kernel
theorem dX0_gather_0 : decode cX0_gather 0 = .ok (.iconst 0, 1) := by decide +kernel
theorem dX0_gather_1 : decode cX0_gather 1 = .ok (.istore_n 2, 1) := by decide +kernel
theorem dX0_gather_2 : decode cX0_gather 2 = .ok (.aload_n 0, 1) := by decide +kernel
theorem dX0_gather_3 : decode cX0_gather 3 = .ok (.iconst 0, 1) := by decide +kernel
theorem dX0_gather_4 : decode cX0_gather 4 = .ok (.putfield 116, 3) := by decide +kernel
theorem dX0_gather_7 : decode cX0_gather 7 = .ok (.aload_n 0, 1) := by decide +kernel
theorem dX0_gather_8 : decode cX0_gather 8 = .ok (.iload_n 1, 1) := by decide +kernel
theorem dX0_gather_9 : decode cX0_gather 9 = .ok (.invokevirtual 119, 3) := by decide +kernel
theorem dX0_gather_12 : decode cX0_gather 12 = .ok (.aload_n 0, 1) := by decide +kernel
theorem dX0_gather_13 : decode cX0_gather 13 = .ok (.getfield 116, 3) := by decide +kernel
theorem dX0_gather_16 : decode cX0_gather 16 = .ok (.ifCond .le 78, 3) := by decide +kernel
theorem dX0_gather_19 : decode cX0_gather 19 = .ok (.iload_n 2, 1) := by decide +kernel
theorem dX0_gather_20 : decode cX0_gather 20 = .ok (.bipush 80, 2) := by decide +kernel
theorem dX0_gather_22 : decode cX0_gather 22 = .ok (.if_icmp .ge 72, 3) := by decide +kernel
theorem dX0_gather_25 : decode cX0_gather 25 = .ok (.aload_n 0, 1) := by decide +kernel
theorem dX0_gather_26 : decode cX0_gather 26 = .ok (.dup, 1) := by decide +kernel
theorem dX0_gather_27 : decode cX0_gather 27 = .ok (.getfield 116, 3) := by decide +kernel
theorem dX0_gather_30 : decode cX0_gather 30 = .ok (.iconst 1, 1) := by decide +kernel
theorem dX0_gather_31 : decode cX0_gather 31 = .ok (.isub, 1) := by decide +kernel
theorem dX0_gather_32 : decode cX0_gather 32 = .ok (.putfield 116, 3) := by decide +kernel
theorem dX0_gather_35 : decode cX0_gather 35 = .ok (.aload_n 0, 1) := by decide +kernel
theorem dX0_gather_36 : decode cX0_gather 36 = .ok (.getfield 38, 3) := by decide +kernel
theorem dX0_gather_39 : decode cX0_gather 39 = .ok (.aload_n 0, 1) := by decide +kernel
theorem dX0_gather_40 : decode cX0_gather 40 = .ok (.getfield 116, 3) := by decide +kernel
theorem dX0_gather_43 : decode cX0_gather 43 = .ok (.invokestatic 54, 3) := by decide +kernel
theorem dX0_gather_46 : decode cX0_gather 46 = .ok (.istore_n 3, 1) := by decide +kernel
theorem dX0_gather_47 : decode cX0_gather 47 = .ok (.aload_n 0, 1) := by decide +kernel
theorem dX0_gather_48 : decode cX0_gather 48 = .ok (.getfield 41, 3) := by decide +kernel
theorem dX0_gather_51 : decode cX0_gather 51 = .ok (.iload_n 2, 1) := by decide +kernel
theorem dX0_gather_52 : decode cX0_gather 52 = .ok (.iload_n 3, 1) := by decide +kernel
theorem dX0_gather_53 : decode cX0_gather 53 = .ok (.invokestatic 58, 3) := by decide +kernel
theorem dX0_gather_56 : decode cX0_gather 56 = .ok (.iinc 2 1, 3) := by decide +kernel
theorem dX0_gather_59 : decode cX0_gather 59 = .ok (.iconst 0, 1) := by decide +kernel
theorem dX0_gather_60 : decode cX0_gather 60 = .ok (.istore 4, 2) := by decide +kernel
theorem dX0_gather_62 : decode cX0_gather 62 = .ok (.iload 4, 2) := by decide +kernel
theorem dX0_gather_64 : decode cX0_gather 64 = .ok (.iconst 3, 1) := by decide +kernel
theorem dX0_gather_65 : decode cX0_gather 65 = .ok (.if_icmp .ge 26, 3) := by decide +kernel
theorem dX0_gather_68 : decode cX0_gather 68 = .ok (.aload_n 0, 1) := by decide +kernel
theorem dX0_gather_69 : decode cX0_gather 69 = .ok (.aload_n 0, 1) := by decide +kernel
theorem dX0_gather_70 : decode cX0_gather 70 = .ok (.getfield 32, 3) := by decide +kernel
theorem dX0_gather_73 : decode cX0_gather 73 = .ok (.iconst 3, 1) := by decide +kernel
theorem dX0_gather_74 : decode cX0_gather 74 = .ok (.iload_n 3, 1) := by decide +kernel
theorem dX0_gather_75 : decode cX0_gather 75 = .ok (.imul, 1) := by decide +kernel
theorem dX0_gather_76 : decode cX0_gather 76 = .ok (.iload 4, 2) := by decide +kernel
theorem dX0_gather_78 : decode cX0_gather 78 = .ok (.iadd, 1) := by decide +kernel
theorem dX0_gather_79 : decode cX0_gather 79 = .ok (.invokestatic 54, 3) := by decide +kernel
theorem dX0_gather_82 : decode cX0_gather 82 = .ok (.invokevirtual 119, 3) := by decide +kernel
theorem dX0_gather_85 : decode cX0_gather 85 = .ok (.iinc 4 1, 3) := by decide +kernel
theorem dX0_gather_88 : decode cX0_gather 88 = .ok (.goto (-26), 3) := by decide +kernel
theorem dX0_gather_91 : decode cX0_gather 91 = .ok (.goto (-79), 3) := by decide +kernel
theorem dX0_gather_94 : decode cX0_gather 94 = .ok (.iload_n 2, 1) := by decide +kernel
theorem dX0_gather_95 : decode cX0_gather 95 = .ok (.ireturn, 1) := by decide +kernel
theorem dX0_push_0 : decode cX0_push 0 = .ok (.iload_n 1, 1) := by decide +kernel
theorem dX0_push_1 : decode cX0_push 1 = .ok (.iconst (-1), 1) := by decide +kernel
theorem dX0_push_2 : decode cX0_push 2 = .ok (.if_icmp .eq 25, 3) := by decide +kernel
theorem dX0_push_5 : decode cX0_push 5 = .ok (.aload_n 0, 1) := by decide +kernel
theorem dX0_push_6 : decode cX0_push 6 = .ok (.getfield 38, 3) := by decide +kernel
theorem dX0_push_9 : decode cX0_push 9 = .ok (.aload_n 0, 1) := by decide +kernel
theorem dX0_push_10 : decode cX0_push 10 = .ok (.getfield 116, 3) := by decide +kernel
theorem dX0_push_13 : decode cX0_push 13 = .ok (.iload_n 1, 1) := by decide +kernel
theorem dX0_push_14 : decode cX0_push 14 = .ok (.invokestatic 58, 3) := by decide +kernel
theorem dX0_push_17 : decode cX0_push 17 = .ok (.aload_n 0, 1) := by decide +kernel
theorem dX0_push_18 : decode cX0_push 18 = .ok (.dup, 1) := by decide +kernel
theorem dX0_push_19 : decode cX0_push 19 = .ok (.getfield 116, 3) := by decide +kernel
theorem dX0_push_22 : decode cX0_push 22 = .ok (.iconst 1, 1) := by decide +kernel
theorem dX0_push_23 : decode cX0_push 23 = .ok (.iadd, 1) := by decide +kernel
theorem dX0_push_24 : decode cX0_push 24 = .ok (.putfield 116, 3) := by decide +kernel
theorem dX0_push_27 : decode cX0_push 27 = .ok (.return_, 1) := by decide +kernel
theorem dX0_emit_0 : decode cX0_emit 0 = .ok (.aload_n 0, 1) := by decide +kernel
theorem dX0_emit_1 : decode cX0_emit 1 = .ok (.getfield 23, 3) := by decide +kernel
theorem dX0_emit_4 : decode cX0_emit 4 = .ok (.iload_n 2, 1) := by decide +kernel
theorem dX0_emit_5 : decode cX0_emit 5 = .ok (.invokestatic 54, 3) := by decide +kernel
theorem dX0_emit_8 : decode cX0_emit 8 = .ok (.istore 5, 2) := by decide +kernel
theorem dX0_emit_10 : decode cX0_emit 10 = .ok (.aload_n 1, 1) := by decide +kernel
theorem dX0_emit_11 : decode cX0_emit 11 = .ok (.iload 5, 2) := by decide +kernel
theorem dX0_emit_13 : decode cX0_emit 13 = .ok (.iload_n 3, 1) := by decide +kernel
theorem dX0_emit_14 : decode cX0_emit 14 = .ok (.iload 4, 2) := by decide +kernel
theorem dX0_emit_16 : decode cX0_emit 16 = .ok (.invokevirtual 123, 3) := by decide +kernel
theorem dX0_emit_19 : decode cX0_emit 19 = .ok (.aload_n 1, 1) := by decide +kernel
theorem dX0_emit_20 : decode cX0_emit 20 = .ok (.aload_n 0, 1) := by decide +kernel
theorem dX0_emit_21 : decode cX0_emit 21 = .ok (.getfield 26, 3) := by decide +kernel
theorem dX0_emit_24 : decode cX0_emit 24 = .ok (.iload_n 2, 1) := by decide +kernel
theorem dX0_emit_25 : decode cX0_emit 25 = .ok (.invokestatic 54, 3) := by decide +kernel
theorem dX0_emit_28 : decode cX0_emit 28 = .ok (.invokevirtual 129, 3) := by decide +kernel
theorem dX0_emit_31 : decode cX0_emit 31 = .ok (.iload 5, 2) := by decide +kernel
theorem dX0_emit_33 : decode cX0_emit 33 = .ok (.iconst 1, 1) := by decide +kernel
theorem dX0_emit_34 : decode cX0_emit 34 = .ok (.if_icmp .ne 23, 3) := by decide +kernel
theorem dX0_emit_37 : decode cX0_emit 37 = .ok (.aload_n 1, 1) := by decide +kernel
theorem dX0_emit_38 : decode cX0_emit 38 = .ok (.aload_n 0, 1) := by decide +kernel
theorem dX0_emit_39 : decode cX0_emit 39 = .ok (.getfield 9, 3) := by decide +kernel
theorem dX0_emit_42 : decode cX0_emit 42 = .ok (.getfield 85, 3) := by decide +kernel
theorem dX0_emit_45 : decode cX0_emit 45 = .ok (.iload_n 2, 1) := by decide +kernel
theorem dX0_emit_46 : decode cX0_emit 46 = .ok (.invokestatic 54, 3) := by decide +kernel
theorem dX0_emit_49 : decode cX0_emit 49 = .ok (.iconst (-1), 1) := by decide +kernel
theorem dX0_emit_50 : decode cX0_emit 50 = .ok (.iconst (-1), 1) := by decide +kernel
theorem dX0_emit_51 : decode cX0_emit 51 = .ok (.invokevirtual 132, 3) := by decide +kernel
theorem dX0_emit_54 : decode cX0_emit 54 = .ok (.goto 25, 3) := by decide +kernel
theorem dX0_emit_57 : decode cX0_emit 57 = .ok (.aload_n 1, 1) := by decide +kernel
theorem dX0_emit_58 : decode cX0_emit 58 = .ok (.aload_n 0, 1) := by decide +kernel
theorem dX0_emit_59 : decode cX0_emit 59 = .ok (.iload_n 2, 1) := by decide +kernel
theorem dX0_emit_60 : decode cX0_emit 60 = .ok (.iconst 0, 1) := by decide +kernel
theorem dX0_emit_61 : decode cX0_emit 61 = .ok (.invokevirtual 135, 3) := by decide +kernel
theorem dX0_emit_64 : decode cX0_emit 64 = .ok (.aload_n 0, 1) := by decide +kernel
theorem dX0_emit_65 : decode cX0_emit 65 = .ok (.iload_n 2, 1) := by decide +kernel
theorem dX0_emit_66 : decode cX0_emit 66 = .ok (.iconst 1, 1) := by decide +kernel
theorem dX0_emit_67 : decode cX0_emit 67 = .ok (.invokevirtual 135, 3) := by decide +kernel
theorem dX0_emit_70 : decode cX0_emit 70 = .ok (.aload_n 0, 1) := by decide +kernel
theorem dX0_emit_71 : decode cX0_emit 71 = .ok (.iload_n 2, 1) := by decide +kernel
theorem dX0_emit_72 : decode cX0_emit 72 = .ok (.iconst 2, 1) := by decide +kernel
theorem dX0_emit_73 : decode cX0_emit 73 = .ok (.invokevirtual 135, 3) := by decide +kernel
theorem dX0_emit_76 : decode cX0_emit 76 = .ok (.invokevirtual 132, 3) := by decide +kernel
theorem dX0_emit_79 : decode cX0_emit 79 = .ok (.return_, 1) := by decide +kernel
theorem dX0_valueRead_0 : decode cX0_valueRead 0 = .ok (.aload_n 0, 1) := by decide +kernel
theorem dX0_valueRead_1 : decode cX0_valueRead 1 = .ok (.getfield 35, 3) := by decide +kernel
theorem dX0_valueRead_4 : decode cX0_valueRead 4 = .ok (.aload_n 0, 1) := by decide +kernel
theorem dX0_valueRead_5 : decode cX0_valueRead 5 = .ok (.getfield 29, 3) := by decide +kernel
theorem dX0_valueRead_8 : decode cX0_valueRead 8 = .ok (.iconst 3, 1) := by decide +kernel
theorem dX0_valueRead_9 : decode cX0_valueRead 9 = .ok (.iload_n 1, 1) := by decide +kernel
theorem dX0_valueRead_10 : decode cX0_valueRead 10 = .ok (.imul, 1) := by decide +kernel
theorem dX0_valueRead_11 : decode cX0_valueRead 11 = .ok (.iload_n 2, 1) := by decide +kernel
theorem dX0_valueRead_12 : decode cX0_valueRead 12 = .ok (.iadd, 1) := by decide +kernel
theorem dX0_valueRead_13 : decode cX0_valueRead 13 = .ok (.invokestatic 54, 3) := by decide +kernel
theorem dX0_valueRead_16 : decode cX0_valueRead 16 = .ok (.invokestatic 54, 3) := by decide +kernel
theorem dX0_valueRead_19 : decode cX0_valueRead 19 = .ok (.ireturn, 1) := by decide +kernel
theorem dX1_init_0 : decode cX1_init 0 = .ok (.aload_n 0, 1) := by decide +kernel
theorem dX1_init_1 : decode cX1_init 1 = .ok (.invokespecial 3, 3) := by decide +kernel
theorem dX1_init_4 : decode cX1_init 4 = .ok (.aload_n 0, 1) := by decide +kernel
theorem dX1_init_5 : decode cX1_init 5 = .ok (.aload_n 1, 1) := by decide +kernel
theorem dX1_init_6 : decode cX1_init 6 = .ok (.putfield 9, 3) := by decide +kernel
theorem dX1_init_9 : decode cX1_init 9 = .ok (.aload_n 0, 1) := by decide +kernel
theorem dX1_init_10 : decode cX1_init 10 = .ok (.sipush 528, 3) := by decide +kernel
theorem dX1_init_13 : decode cX1_init 13 = .ok (.newarray .int, 2) := by decide +kernel
theorem dX1_init_15 : decode cX1_init 15 = .ok (.putfield 15, 3) := by decide +kernel
theorem dX1_init_18 : decode cX1_init 18 = .ok (.aload_n 0, 1) := by decide +kernel
theorem dX1_init_19 : decode cX1_init 19 = .ok (.sipush 2112, 3) := by decide +kernel
theorem dX1_init_22 : decode cX1_init 22 = .ok (.newarray .int, 2) := by decide +kernel
theorem dX1_init_24 : decode cX1_init 24 = .ok (.putfield 19, 3) := by decide +kernel
theorem dX1_init_27 : decode cX1_init 27 = .ok (.aload_n 0, 1) := by decide +kernel
theorem dX1_init_28 : decode cX1_init 28 = .ok (.sipush 528, 3) := by decide +kernel
theorem dX1_init_31 : decode cX1_init 31 = .ok (.newarray .int, 2) := by decide +kernel
theorem dX1_init_33 : decode cX1_init 33 = .ok (.putfield 22, 3) := by decide +kernel
theorem dX1_init_36 : decode cX1_init 36 = .ok (.aload_n 0, 1) := by decide +kernel
theorem dX1_init_37 : decode cX1_init 37 = .ok (.bipush 89, 2) := by decide +kernel
theorem dX1_init_39 : decode cX1_init 39 = .ok (.newarray .int, 2) := by decide +kernel
theorem dX1_init_41 : decode cX1_init 41 = .ok (.putfield 25, 3) := by decide +kernel
theorem dX1_init_44 : decode cX1_init 44 = .ok (.return_, 1) := by decide +kernel
theorem dX1_make_0 : decode cX1_make 0 = .ok (.aload_n 0, 1) := by decide +kernel
theorem dX1_make_1 : decode cX1_make 1 = .ok (.iconst 0, 1) := by decide +kernel
theorem dX1_make_2 : decode cX1_make 2 = .ok (.putfield 28, 3) := by decide +kernel
theorem dX1_make_5 : decode cX1_make 5 = .ok (.iconst 0, 1) := by decide +kernel
theorem dX1_make_6 : decode cX1_make 6 = .ok (.istore_n 3, 1) := by decide +kernel
theorem dX1_make_7 : decode cX1_make 7 = .ok (.iload_n 3, 1) := by decide +kernel
theorem dX1_make_8 : decode cX1_make 8 = .ok (.aload_n 1, 1) := by decide +kernel
theorem dX1_make_9 : decode cX1_make 9 = .ok (.getfield 32, 3) := by decide +kernel
theorem dX1_make_12 : decode cX1_make 12 = .ok (.if_icmp .ge 72, 3) := by decide +kernel
theorem dX1_make_15 : decode cX1_make 15 = .ok (.aload_n 0, 1) := by decide +kernel
theorem dX1_make_16 : decode cX1_make 16 = .ok (.iload_n 3, 1) := by decide +kernel
theorem dX1_make_17 : decode cX1_make 17 = .ok (.putfield 37, 3) := by decide +kernel
theorem dX1_make_20 : decode cX1_make 20 = .ok (.aload_n 0, 1) := by decide +kernel
theorem dX1_make_21 : decode cX1_make 21 = .ok (.getfield 25, 3) := by decide +kernel
theorem dX1_make_24 : decode cX1_make 24 = .ok (.aload_n 0, 1) := by decide +kernel
theorem dX1_make_25 : decode cX1_make 25 = .ok (.getfield 37, 3) := by decide +kernel
theorem dX1_make_28 : decode cX1_make 28 = .ok (.aload_n 0, 1) := by decide +kernel
theorem dX1_make_29 : decode cX1_make 29 = .ok (.getfield 28, 3) := by decide +kernel
theorem dX1_make_32 : decode cX1_make 32 = .ok (.invokestatic 40, 3) := by decide +kernel
theorem dX1_make_35 : decode cX1_make 35 = .ok (.aload_n 1, 1) := by decide +kernel
theorem dX1_make_36 : decode cX1_make 36 = .ok (.aload_n 0, 1) := by decide +kernel
theorem dX1_make_37 : decode cX1_make 37 = .ok (.getfield 37, 3) := by decide +kernel
theorem dX1_make_40 : decode cX1_make 40 = .ok (.invokevirtual 44, 3) := by decide +kernel
theorem dX1_make_43 : decode cX1_make 43 = .ok (.bipush 9, 2) := by decide +kernel
theorem dX1_make_45 : decode cX1_make 45 = .ok (.if_icmp .ne 12, 3) := by decide +kernel
theorem dX1_make_48 : decode cX1_make 48 = .ok (.aload_n 0, 1) := by decide +kernel
theorem dX1_make_49 : decode cX1_make 49 = .ok (.aload_n 1, 1) := by decide +kernel
theorem dX1_make_50 : decode cX1_make 50 = .ok (.aload_n 2, 1) := by decide +kernel
theorem dX1_make_51 : decode cX1_make 51 = .ok (.invokevirtual 48, 3) := by decide +kernel
theorem dX1_make_54 : decode cX1_make 54 = .ok (.goto 24, 3) := by decide +kernel
theorem dX1_make_57 : decode cX1_make 57 = .ok (.aload_n 2, 1) := by decide +kernel
theorem dX1_make_58 : decode cX1_make 58 = .ok (.aload_n 1, 1) := by decide +kernel
theorem dX1_make_59 : decode cX1_make 59 = .ok (.aload_n 0, 1) := by decide +kernel
theorem dX1_make_60 : decode cX1_make 60 = .ok (.getfield 37, 3) := by decide +kernel
theorem dX1_make_63 : decode cX1_make 63 = .ok (.invokevirtual 52, 3) := by decide +kernel
theorem dX1_make_66 : decode cX1_make 66 = .ok (.invokevirtual 55, 3) := by decide +kernel
theorem dX1_make_69 : decode cX1_make 69 = .ok (.ifCond .ne 9, 3) := by decide +kernel
theorem dX1_make_72 : decode cX1_make 72 = .ok (.aload_n 0, 1) := by decide +kernel
theorem dX1_make_73 : decode cX1_make 73 = .ok (.aload_n 1, 1) := by decide +kernel
theorem dX1_make_74 : decode cX1_make 74 = .ok (.aload_n 2, 1) := by decide +kernel
theorem dX1_make_75 : decode cX1_make 75 = .ok (.invokevirtual 61, 3) := by decide +kernel
theorem dX1_make_78 : decode cX1_make 78 = .ok (.iinc 3 1, 3) := by decide +kernel
theorem dX1_make_81 : decode cX1_make 81 = .ok (.goto (-74), 3) := by decide +kernel
theorem dX1_make_84 : decode cX1_make 84 = .ok (.aload_n 0, 1) := by decide +kernel
theorem dX1_make_85 : decode cX1_make 85 = .ok (.getfield 25, 3) := by decide +kernel
theorem dX1_make_88 : decode cX1_make 88 = .ok (.aload_n 1, 1) := by decide +kernel
theorem dX1_make_89 : decode cX1_make 89 = .ok (.getfield 32, 3) := by decide +kernel
theorem dX1_make_92 : decode cX1_make 92 = .ok (.aload_n 0, 1) := by decide +kernel
theorem dX1_make_93 : decode cX1_make 93 = .ok (.getfield 28, 3) := by decide +kernel
theorem dX1_make_96 : decode cX1_make 96 = .ok (.invokestatic 40, 3) := by decide +kernel
theorem dX1_make_99 : decode cX1_make 99 = .ok (.return_, 1) := by decide +kernel
theorem dX1_makeOne_0 : decode cX1_makeOne 0 = .ok (.aload_n 1, 1) := by decide +kernel
theorem dX1_makeOne_1 : decode cX1_makeOne 1 = .ok (.aload_n 0, 1) := by decide +kernel
theorem dX1_makeOne_2 : decode cX1_makeOne 2 = .ok (.getfield 37, 3) := by decide +kernel
theorem dX1_makeOne_5 : decode cX1_makeOne 5 = .ok (.invokevirtual 52, 3) := by decide +kernel
theorem dX1_makeOne_8 : decode cX1_makeOne 8 = .ok (.istore_n 3, 1) := by decide +kernel
theorem dX1_makeOne_9 : decode cX1_makeOne 9 = .ok (.aload_n 0, 1) := by decide +kernel
theorem dX1_makeOne_10 : decode cX1_makeOne 10 = .ok (.aload_n 1, 1) := by decide +kernel
theorem dX1_makeOne_11 : decode cX1_makeOne 11 = .ok (.aload_n 2, 1) := by decide +kernel
theorem dX1_makeOne_12 : decode cX1_makeOne 12 = .ok (.iconst 0, 1) := by decide +kernel
theorem dX1_makeOne_13 : decode cX1_makeOne 13 = .ok (.invokevirtual 64, 3) := by decide +kernel
theorem dX1_makeOne_16 : decode cX1_makeOne 16 = .ok (.istore 4, 2) := by decide +kernel
theorem dX1_makeOne_18 : decode cX1_makeOne 18 = .ok (.aload_n 0, 1) := by decide +kernel
theorem dX1_makeOne_19 : decode cX1_makeOne 19 = .ok (.aload_n 1, 1) := by decide +kernel
theorem dX1_makeOne_20 : decode cX1_makeOne 20 = .ok (.aload_n 2, 1) := by decide +kernel
theorem dX1_makeOne_21 : decode cX1_makeOne 21 = .ok (.iconst 1, 1) := by decide +kernel
theorem dX1_makeOne_22 : decode cX1_makeOne 22 = .ok (.invokevirtual 64, 3) := by decide +kernel
theorem dX1_makeOne_25 : decode cX1_makeOne 25 = .ok (.istore 5, 2) := by decide +kernel
theorem dX1_makeOne_27 : decode cX1_makeOne 27 = .ok (.aload_n 0, 1) := by decide +kernel
theorem dX1_makeOne_28 : decode cX1_makeOne 28 = .ok (.aload_n 1, 1) := by decide +kernel
theorem dX1_makeOne_29 : decode cX1_makeOne 29 = .ok (.aload_n 2, 1) := by decide +kernel
theorem dX1_makeOne_30 : decode cX1_makeOne 30 = .ok (.iconst 2, 1) := by decide +kernel
theorem dX1_makeOne_31 : decode cX1_makeOne 31 = .ok (.invokevirtual 64, 3) := by decide +kernel
theorem dX1_makeOne_34 : decode cX1_makeOne 34 = .ok (.istore 6, 2) := by decide +kernel
theorem dX1_makeOne_36 : decode cX1_makeOne 36 = .ok (.aload_n 2, 1) := by decide +kernel
theorem dX1_makeOne_37 : decode cX1_makeOne 37 = .ok (.iload_n 3, 1) := by decide +kernel
theorem dX1_makeOne_38 : decode cX1_makeOne 38 = .ok (.invokevirtual 68, 3) := by decide +kernel
theorem dX1_makeOne_41 : decode cX1_makeOne 41 = .ok (.ifCond .eq 13, 3) := by decide +kernel
theorem dX1_makeOne_44 : decode cX1_makeOne 44 = .ok (.aload_n 0, 1) := by decide +kernel
theorem dX1_makeOne_45 : decode cX1_makeOne 45 = .ok (.getfield 9, 3) := by decide +kernel
theorem dX1_makeOne_48 : decode cX1_makeOne 48 = .ok (.invokevirtual 71, 3) := by decide +kernel
theorem dX1_makeOne_51 : decode cX1_makeOne 51 = .ok (.goto 8, 3) := by decide +kernel
theorem dX1_makeOne_54 : decode cX1_makeOne 54 = .ok (.aload_n 2, 1) := by decide +kernel
theorem dX1_makeOne_55 : decode cX1_makeOne 55 = .ok (.iload_n 3, 1) := by decide +kernel
theorem dX1_makeOne_56 : decode cX1_makeOne 56 = .ok (.invokevirtual 77, 3) := by decide +kernel
theorem dX1_makeOne_59 : decode cX1_makeOne 59 = .ok (.istore 7, 2) := by decide +kernel
theorem dX1_makeOne_61 : decode cX1_makeOne 61 = .ok (.aload_n 1, 1) := by decide +kernel
theorem dX1_makeOne_62 : decode cX1_makeOne 62 = .ok (.aload_n 0, 1) := by decide +kernel
theorem dX1_makeOne_63 : decode cX1_makeOne 63 = .ok (.getfield 37, 3) := by decide +kernel
theorem dX1_makeOne_66 : decode cX1_makeOne 66 = .ok (.invokevirtual 44, 3) := by decide +kernel
theorem dX1_makeOne_69 : decode cX1_makeOne 69 = .ok (.lookupswitch 88 #[(0, 35), (1, 55), (5, 66)], 35) := by decide +kernel
theorem dX1_makeOne_104 : decode cX1_makeOne 104 = .ok (.aload_n 0, 1) := by decide +kernel
theorem dX1_makeOne_105 : decode cX1_makeOne 105 = .ok (.iconst 0, 1) := by decide +kernel
theorem dX1_makeOne_106 : decode cX1_makeOne 106 = .ok (.iload 7, 2) := by decide +kernel
theorem dX1_makeOne_108 : decode cX1_makeOne 108 = .ok (.aload_n 1, 1) := by decide +kernel
theorem dX1_makeOne_109 : decode cX1_makeOne 109 = .ok (.aload_n 0, 1) := by decide +kernel
theorem dX1_makeOne_110 : decode cX1_makeOne 110 = .ok (.getfield 37, 3) := by decide +kernel
theorem dX1_makeOne_113 : decode cX1_makeOne 113 = .ok (.invokevirtual 80, 3) := by decide +kernel
theorem dX1_makeOne_116 : decode cX1_makeOne 116 = .ok (.iconst 0, 1) := by decide +kernel
theorem dX1_makeOne_117 : decode cX1_makeOne 117 = .ok (.iconst 0, 1) := by decide +kernel
theorem dX1_makeOne_118 : decode cX1_makeOne 118 = .ok (.invokevirtual 83, 3) := by decide +kernel
theorem dX1_makeOne_121 : decode cX1_makeOne 121 = .ok (.goto 57, 3) := by decide +kernel
theorem dX1_makeOne_124 : decode cX1_makeOne 124 = .ok (.aload_n 0, 1) := by decide +kernel
theorem dX1_makeOne_125 : decode cX1_makeOne 125 = .ok (.iload 7, 2) := by decide +kernel
theorem dX1_makeOne_127 : decode cX1_makeOne 127 = .ok (.iload 4, 2) := by decide +kernel
theorem dX1_makeOne_129 : decode cX1_makeOne 129 = .ok (.invokevirtual 87, 3) := by decide +kernel
theorem dX1_makeOne_132 : decode cX1_makeOne 132 = .ok (.goto 46, 3) := by decide +kernel
theorem dX1_makeOne_135 : decode cX1_makeOne 135 = .ok (.aload_n 0, 1) := by decide +kernel
theorem dX1_makeOne_136 : decode cX1_makeOne 136 = .ok (.iconst 5, 1) := by decide +kernel
theorem dX1_makeOne_137 : decode cX1_makeOne 137 = .ok (.iload 7, 2) := by decide +kernel
theorem dX1_makeOne_139 : decode cX1_makeOne 139 = .ok (.iload 4, 2) := by decide +kernel
theorem dX1_makeOne_141 : decode cX1_makeOne 141 = .ok (.iconst (-1), 1) := by decide +kernel
theorem dX1_makeOne_142 : decode cX1_makeOne 142 = .ok (.iconst (-1), 1) := by decide +kernel
theorem dX1_makeOne_143 : decode cX1_makeOne 143 = .ok (.aload_n 1, 1) := by decide +kernel
theorem dX1_makeOne_144 : decode cX1_makeOne 144 = .ok (.aload_n 0, 1) := by decide +kernel
theorem dX1_makeOne_145 : decode cX1_makeOne 145 = .ok (.getfield 37, 3) := by decide +kernel
theorem dX1_makeOne_148 : decode cX1_makeOne 148 = .ok (.invokevirtual 80, 3) := by decide +kernel
theorem dX1_makeOne_151 : decode cX1_makeOne 151 = .ok (.invokevirtual 91, 3) := by decide +kernel
theorem dX1_makeOne_154 : decode cX1_makeOne 154 = .ok (.goto 24, 3) := by decide +kernel
theorem dX1_makeOne_157 : decode cX1_makeOne 157 = .ok (.aload_n 0, 1) := by decide +kernel
theorem dX1_makeOne_158 : decode cX1_makeOne 158 = .ok (.aload_n 1, 1) := by decide +kernel
theorem dX1_makeOne_159 : decode cX1_makeOne 159 = .ok (.aload_n 0, 1) := by decide +kernel
theorem dX1_makeOne_160 : decode cX1_makeOne 160 = .ok (.getfield 37, 3) := by decide +kernel
theorem dX1_makeOne_163 : decode cX1_makeOne 163 = .ok (.invokevirtual 44, 3) := by decide +kernel
theorem dX1_makeOne_166 : decode cX1_makeOne 166 = .ok (.iload 7, 2) := by decide +kernel
theorem dX1_makeOne_168 : decode cX1_makeOne 168 = .ok (.iload 4, 2) := by decide +kernel
theorem dX1_makeOne_170 : decode cX1_makeOne 170 = .ok (.iload 5, 2) := by decide +kernel
theorem dX1_makeOne_172 : decode cX1_makeOne 172 = .ok (.iload 6, 2) := by decide +kernel
theorem dX1_makeOne_174 : decode cX1_makeOne 174 = .ok (.iconst 0, 1) := by decide +kernel
theorem dX1_makeOne_175 : decode cX1_makeOne 175 = .ok (.invokevirtual 91, 3) := by decide +kernel
theorem dX1_makeOne_178 : decode cX1_makeOne 178 = .ok (.aload_n 2, 1) := by decide +kernel
theorem dX1_makeOne_179 : decode cX1_makeOne 179 = .ok (.iload_n 3, 1) := by decide +kernel
theorem dX1_makeOne_180 : decode cX1_makeOne 180 = .ok (.invokevirtual 68, 3) := by decide +kernel
theorem dX1_makeOne_183 : decode cX1_makeOne 183 = .ok (.ifCond .eq 18, 3) := by decide +kernel
theorem dX1_makeOne_186 : decode cX1_makeOne 186 = .ok (.aload_n 0, 1) := by decide +kernel
theorem dX1_makeOne_187 : decode cX1_makeOne 187 = .ok (.bipush 8, 2) := by decide +kernel
theorem dX1_makeOne_189 : decode cX1_makeOne 189 = .ok (.iload 7, 2) := by decide +kernel
theorem dX1_makeOne_191 : decode cX1_makeOne 191 = .ok (.aload_n 2, 1) := by decide +kernel
theorem dX1_makeOne_192 : decode cX1_makeOne 192 = .ok (.iload_n 3, 1) := by decide +kernel
theorem dX1_makeOne_193 : decode cX1_makeOne 193 = .ok (.invokevirtual 95, 3) := by decide +kernel
theorem dX1_makeOne_196 : decode cX1_makeOne 196 = .ok (.iconst 0, 1) := by decide +kernel
theorem dX1_makeOne_197 : decode cX1_makeOne 197 = .ok (.iconst 0, 1) := by decide +kernel
theorem dX1_makeOne_198 : decode cX1_makeOne 198 = .ok (.invokevirtual 83, 3) := by decide +kernel
theorem dX1_makeOne_201 : decode cX1_makeOne 201 = .ok (.return_, 1) := by decide +kernel
theorem dX1_fetch_0 : decode cX1_fetch 0 = .ok (.aload_n 1, 1) := by decide +kernel
theorem dX1_fetch_1 : decode cX1_fetch 1 = .ok (.aload_n 0, 1) := by decide +kernel
theorem dX1_fetch_2 : decode cX1_fetch 2 = .ok (.getfield 37, 3) := by decide +kernel
theorem dX1_fetch_5 : decode cX1_fetch 5 = .ok (.iload_n 3, 1) := by decide +kernel
theorem dX1_fetch_6 : decode cX1_fetch 6 = .ok (.invokevirtual 98, 3) := by decide +kernel
theorem dX1_fetch_9 : decode cX1_fetch 9 = .ok (.istore 4, 2) := by decide +kernel
theorem dX1_fetch_11 : decode cX1_fetch 11 = .ok (.iload 4, 2) := by decide +kernel
theorem dX1_fetch_13 : decode cX1_fetch 13 = .ok (.iconst (-1), 1) := by decide +kernel
theorem dX1_fetch_14 : decode cX1_fetch 14 = .ok (.if_icmp .eq 12, 3) := by decide +kernel
theorem dX1_fetch_17 : decode cX1_fetch 17 = .ok (.aload_n 2, 1) := by decide +kernel
theorem dX1_fetch_18 : decode cX1_fetch 18 = .ok (.iload 4, 2) := by decide +kernel
theorem dX1_fetch_20 : decode cX1_fetch 20 = .ok (.invokevirtual 68, 3) := by decide +kernel
theorem dX1_fetch_23 : decode cX1_fetch 23 = .ok (.ifCond .ne 10, 3) := by decide +kernel
theorem dX1_fetch_26 : decode cX1_fetch 26 = .ok (.aload_n 2, 1) := by decide +kernel
theorem dX1_fetch_27 : decode cX1_fetch 27 = .ok (.iload 4, 2) := by decide +kernel
theorem dX1_fetch_29 : decode cX1_fetch 29 = .ok (.invokevirtual 77, 3) := by decide +kernel
theorem dX1_fetch_32 : decode cX1_fetch 32 = .ok (.ireturn, 1) := by decide +kernel
theorem dX1_fetch_33 : decode cX1_fetch 33 = .ok (.aload_n 0, 1) := by decide +kernel
theorem dX1_fetch_34 : decode cX1_fetch 34 = .ok (.aload_n 2, 1) := by decide +kernel
theorem dX1_fetch_35 : decode cX1_fetch 35 = .ok (.iload 4, 2) := by decide +kernel
theorem dX1_fetch_37 : decode cX1_fetch 37 = .ok (.aload_n 0, 1) := by decide +kernel
theorem dX1_fetch_38 : decode cX1_fetch 38 = .ok (.getfield 9, 3) := by decide +kernel
theorem dX1_fetch_41 : decode cX1_fetch 41 = .ok (.invokevirtual 71, 3) := by decide +kernel
theorem dX1_fetch_44 : decode cX1_fetch 44 = .ok (.iload_n 3, 1) := by decide +kernel
theorem dX1_fetch_45 : decode cX1_fetch 45 = .ok (.iadd, 1) := by decide +kernel
theorem dX1_fetch_46 : decode cX1_fetch 46 = .ok (.invokevirtual 102, 3) := by decide +kernel
theorem dX1_fetch_49 : decode cX1_fetch 49 = .ok (.aload_n 0, 1) := by decide +kernel
theorem dX1_fetch_50 : decode cX1_fetch 50 = .ok (.getfield 9, 3) := by decide +kernel
theorem dX1_fetch_53 : decode cX1_fetch 53 = .ok (.invokevirtual 71, 3) := by decide +kernel
theorem dX1_fetch_56 : decode cX1_fetch 56 = .ok (.iload_n 3, 1) := by decide +kernel
theorem dX1_fetch_57 : decode cX1_fetch 57 = .ok (.iadd, 1) := by decide +kernel
theorem dX1_fetch_58 : decode cX1_fetch 58 = .ok (.ireturn, 1) := by decide +kernel
theorem dX1_bring_0 : decode cX1_bring 0 = .ok (.aload_n 1, 1) := by decide +kernel
theorem dX1_bring_1 : decode cX1_bring 1 = .ok (.iload_n 2, 1) := by decide +kernel
theorem dX1_bring_2 : decode cX1_bring 2 = .ok (.invokevirtual 68, 3) := by decide +kernel
theorem dX1_bring_5 : decode cX1_bring 5 = .ok (.ifCond .eq 13, 3) := by decide +kernel
theorem dX1_bring_8 : decode cX1_bring 8 = .ok (.aload_n 0, 1) := by decide +kernel
theorem dX1_bring_9 : decode cX1_bring 9 = .ok (.aload_n 1, 1) := by decide +kernel
theorem dX1_bring_10 : decode cX1_bring 10 = .ok (.iload_n 2, 1) := by decide +kernel
theorem dX1_bring_11 : decode cX1_bring 11 = .ok (.iload_n 3, 1) := by decide +kernel
theorem dX1_bring_12 : decode cX1_bring 12 = .ok (.invokevirtual 102, 3) := by decide +kernel
theorem dX1_bring_15 : decode cX1_bring 15 = .ok (.goto 13, 3) := by decide +kernel
theorem dX1_bring_18 : decode cX1_bring 18 = .ok (.aload_n 0, 1) := by decide +kernel
theorem dX1_bring_19 : decode cX1_bring 19 = .ok (.iload_n 3, 1) := by decide +kernel
theorem dX1_bring_20 : decode cX1_bring 20 = .ok (.aload_n 1, 1) := by decide +kernel
theorem dX1_bring_21 : decode cX1_bring 21 = .ok (.iload_n 2, 1) := by decide +kernel
theorem dX1_bring_22 : decode cX1_bring 22 = .ok (.invokevirtual 77, 3) := by decide +kernel
theorem dX1_bring_25 : decode cX1_bring 25 = .ok (.invokevirtual 87, 3) := by decide +kernel
theorem dX1_bring_28 : decode cX1_bring 28 = .ok (.return_, 1) := by decide +kernel
theorem dX1_addLoad_0 : decode cX1_addLoad 0 = .ok (.aload_n 1, 1) := by decide +kernel
theorem dX1_addLoad_1 : decode cX1_addLoad 1 = .ok (.getfield 106, 3) := by decide +kernel
theorem dX1_addLoad_4 : decode cX1_addLoad 4 = .ok (.iload_n 2, 1) := by decide +kernel
theorem dX1_addLoad_5 : decode cX1_addLoad 5 = .ok (.invokestatic 109, 3) := by decide +kernel
theorem dX1_addLoad_8 : decode cX1_addLoad 8 = .ok (.iconst 1, 1) := by decide +kernel
theorem dX1_addLoad_9 : decode cX1_addLoad 9 = .ok (.if_icmp .ne 22, 3) := by decide +kernel
theorem dX1_addLoad_12 : decode cX1_addLoad 12 = .ok (.aload_n 0, 1) := by decide +kernel
theorem dX1_addLoad_13 : decode cX1_addLoad 13 = .ok (.iconst 0, 1) := by decide +kernel
theorem dX1_addLoad_14 : decode cX1_addLoad 14 = .ok (.iload_n 3, 1) := by decide +kernel
theorem dX1_addLoad_15 : decode cX1_addLoad 15 = .ok (.aload_n 1, 1) := by decide +kernel
theorem dX1_addLoad_16 : decode cX1_addLoad 16 = .ok (.getfield 113, 3) := by decide +kernel
theorem dX1_addLoad_19 : decode cX1_addLoad 19 = .ok (.iload_n 2, 1) := by decide +kernel
theorem dX1_addLoad_20 : decode cX1_addLoad 20 = .ok (.invokestatic 109, 3) := by decide +kernel
theorem dX1_addLoad_23 : decode cX1_addLoad 23 = .ok (.iconst 0, 1) := by decide +kernel
theorem dX1_addLoad_24 : decode cX1_addLoad 24 = .ok (.iconst 0, 1) := by decide +kernel
theorem dX1_addLoad_25 : decode cX1_addLoad 25 = .ok (.invokevirtual 83, 3) := by decide +kernel
theorem dX1_addLoad_28 : decode cX1_addLoad 28 = .ok (.goto 20, 3) := by decide +kernel
theorem dX1_addLoad_31 : decode cX1_addLoad 31 = .ok (.aload_n 0, 1) := by decide +kernel
theorem dX1_addLoad_32 : decode cX1_addLoad 32 = .ok (.bipush 7, 2) := by decide +kernel
theorem dX1_addLoad_34 : decode cX1_addLoad 34 = .ok (.iload_n 3, 1) := by decide +kernel
theorem dX1_addLoad_35 : decode cX1_addLoad 35 = .ok (.aload_n 1, 1) := by decide +kernel
theorem dX1_addLoad_36 : decode cX1_addLoad 36 = .ok (.getfield 116, 3) := by decide +kernel
theorem dX1_addLoad_39 : decode cX1_addLoad 39 = .ok (.iload_n 2, 1) := by decide +kernel
theorem dX1_addLoad_40 : decode cX1_addLoad 40 = .ok (.invokestatic 109, 3) := by decide +kernel
theorem dX1_addLoad_43 : decode cX1_addLoad 43 = .ok (.iconst 0, 1) := by decide +kernel
theorem dX1_addLoad_44 : decode cX1_addLoad 44 = .ok (.iconst 0, 1) := by decide +kernel
theorem dX1_addLoad_45 : decode cX1_addLoad 45 = .ok (.invokevirtual 83, 3) := by decide +kernel
theorem dX1_addLoad_48 : decode cX1_addLoad 48 = .ok (.return_, 1) := by decide +kernel
theorem dX1_operate_0 : decode cX1_operate 0 = .ok (.aload_n 0, 1) := by decide +kernel
theorem dX1_operate_1 : decode cX1_operate 1 = .ok (.getfield 9, 3) := by decide +kernel
theorem dX1_operate_4 : decode cX1_operate 4 = .ok (.invokevirtual 71, 3) := by decide +kernel
theorem dX1_operate_7 : decode cX1_operate 7 = .ok (.istore 7, 2) := by decide +kernel
theorem dX1_operate_9 : decode cX1_operate 9 = .ok (.aload_n 0, 1) := by decide +kernel
theorem dX1_operate_10 : decode cX1_operate 10 = .ok (.getfield 9, 3) := by decide +kernel
theorem dX1_operate_13 : decode cX1_operate 13 = .ok (.getfield 119, 3) := by decide +kernel
theorem dX1_operate_16 : decode cX1_operate 16 = .ok (.ifCond .eq 8, 3) := by decide +kernel
theorem dX1_operate_19 : decode cX1_operate 19 = .ok (.iload_n 3, 1) := by decide +kernel
theorem dX1_operate_20 : decode cX1_operate 20 = .ok (.iload_n 2, 1) := by decide +kernel
theorem dX1_operate_21 : decode cX1_operate 21 = .ok (.if_icmp .ne 19, 3) := by decide +kernel
theorem dX1_operate_24 : decode cX1_operate 24 = .ok (.aload_n 0, 1) := by decide +kernel
theorem dX1_operate_25 : decode cX1_operate 25 = .ok (.iload_n 1, 1) := by decide +kernel
theorem dX1_operate_26 : decode cX1_operate 26 = .ok (.iload_n 2, 1) := by decide +kernel
theorem dX1_operate_27 : decode cX1_operate 27 = .ok (.iload_n 3, 1) := by decide +kernel
theorem dX1_operate_28 : decode cX1_operate 28 = .ok (.iload 4, 2) := by decide +kernel
theorem dX1_operate_30 : decode cX1_operate 30 = .ok (.iload 5, 2) := by decide +kernel
theorem dX1_operate_32 : decode cX1_operate 32 = .ok (.iload 6, 2) := by decide +kernel
theorem dX1_operate_34 : decode cX1_operate 34 = .ok (.invokevirtual 123, 3) := by decide +kernel
theorem dX1_operate_37 : decode cX1_operate 37 = .ok (.goto 92, 3) := by decide +kernel
theorem dX1_operate_40 : decode cX1_operate 40 = .ok (.iload_n 2, 1) := by decide +kernel
theorem dX1_operate_41 : decode cX1_operate 41 = .ok (.iload 4, 2) := by decide +kernel
theorem dX1_operate_43 : decode cX1_operate 43 = .ok (.if_icmp .eq 31, 3) := by decide +kernel
theorem dX1_operate_46 : decode cX1_operate 46 = .ok (.iload_n 2, 1) := by decide +kernel
theorem dX1_operate_47 : decode cX1_operate 47 = .ok (.iload 5, 2) := by decide +kernel
theorem dX1_operate_49 : decode cX1_operate 49 = .ok (.if_icmp .eq 25, 3) := by decide +kernel
theorem dX1_operate_52 : decode cX1_operate 52 = .ok (.aload_n 0, 1) := by decide +kernel
theorem dX1_operate_53 : decode cX1_operate 53 = .ok (.iload_n 2, 1) := by decide +kernel
theorem dX1_operate_54 : decode cX1_operate 54 = .ok (.iload_n 3, 1) := by decide +kernel
theorem dX1_operate_55 : decode cX1_operate 55 = .ok (.invokevirtual 87, 3) := by decide +kernel
theorem dX1_operate_58 : decode cX1_operate 58 = .ok (.aload_n 0, 1) := by decide +kernel
theorem dX1_operate_59 : decode cX1_operate 59 = .ok (.iload_n 1, 1) := by decide +kernel
theorem dX1_operate_60 : decode cX1_operate 60 = .ok (.iload_n 2, 1) := by decide +kernel
theorem dX1_operate_61 : decode cX1_operate 61 = .ok (.iload_n 2, 1) := by decide +kernel
theorem dX1_operate_62 : decode cX1_operate 62 = .ok (.iload 4, 2) := by decide +kernel
theorem dX1_operate_64 : decode cX1_operate 64 = .ok (.iload 5, 2) := by decide +kernel
theorem dX1_operate_66 : decode cX1_operate 66 = .ok (.iload 6, 2) := by decide +kernel
theorem dX1_operate_68 : decode cX1_operate 68 = .ok (.invokevirtual 123, 3) := by decide +kernel
theorem dX1_operate_71 : decode cX1_operate 71 = .ok (.goto 58, 3) := by decide +kernel
theorem dX1_operate_74 : decode cX1_operate 74 = .ok (.iload_n 1, 1) := by decide +kernel
theorem dX1_operate_75 : decode cX1_operate 75 = .ok (.iconst 2, 1) := by decide +kernel
theorem dX1_operate_76 : decode cX1_operate 76 = .ok (.if_icmp .eq 8, 3) := by decide +kernel
theorem dX1_operate_79 : decode cX1_operate 79 = .ok (.iload_n 1, 1) := by decide +kernel
theorem dX1_operate_80 : decode cX1_operate 80 = .ok (.iconst 4, 1) := by decide +kernel
theorem dX1_operate_81 : decode cX1_operate 81 = .ok (.if_icmp .ne 19, 3) := by decide +kernel
theorem dX1_operate_84 : decode cX1_operate 84 = .ok (.aload_n 0, 1) := by decide +kernel
theorem dX1_operate_85 : decode cX1_operate 85 = .ok (.iload_n 1, 1) := by decide +kernel
theorem dX1_operate_86 : decode cX1_operate 86 = .ok (.iload_n 2, 1) := by decide +kernel
theorem dX1_operate_87 : decode cX1_operate 87 = .ok (.iload 4, 2) := by decide +kernel
theorem dX1_operate_89 : decode cX1_operate 89 = .ok (.iload_n 3, 1) := by decide +kernel
theorem dX1_operate_90 : decode cX1_operate 90 = .ok (.iload 5, 2) := by decide +kernel
theorem dX1_operate_92 : decode cX1_operate 92 = .ok (.iload 6, 2) := by decide +kernel
theorem dX1_operate_94 : decode cX1_operate 94 = .ok (.invokevirtual 123, 3) := by decide +kernel
theorem dX1_operate_97 : decode cX1_operate 97 = .ok (.goto 32, 3) := by decide +kernel
theorem dX1_operate_100 : decode cX1_operate 100 = .ok (.aload_n 0, 1) := by decide +kernel
theorem dX1_operate_101 : decode cX1_operate 101 = .ok (.iload 7, 2) := by decide +kernel
theorem dX1_operate_103 : decode cX1_operate 103 = .ok (.iload_n 3, 1) := by decide +kernel
theorem dX1_operate_104 : decode cX1_operate 104 = .ok (.invokevirtual 87, 3) := by decide +kernel
theorem dX1_operate_107 : decode cX1_operate 107 = .ok (.aload_n 0, 1) := by decide +kernel
theorem dX1_operate_108 : decode cX1_operate 108 = .ok (.iload_n 1, 1) := by decide +kernel
theorem dX1_operate_109 : decode cX1_operate 109 = .ok (.iload 7, 2) := by decide +kernel
theorem dX1_operate_111 : decode cX1_operate 111 = .ok (.iload 7, 2) := by decide +kernel
theorem dX1_operate_113 : decode cX1_operate 113 = .ok (.iload 4, 2) := by decide +kernel
theorem dX1_operate_115 : decode cX1_operate 115 = .ok (.iload 5, 2) := by decide +kernel
theorem dX1_operate_117 : decode cX1_operate 117 = .ok (.iload 6, 2) := by decide +kernel
theorem dX1_operate_119 : decode cX1_operate 119 = .ok (.invokevirtual 123, 3) := by decide +kernel
theorem dX1_operate_122 : decode cX1_operate 122 = .ok (.aload_n 0, 1) := by decide +kernel
theorem dX1_operate_123 : decode cX1_operate 123 = .ok (.iload_n 2, 1) := by decide +kernel
theorem dX1_operate_124 : decode cX1_operate 124 = .ok (.iload 7, 2) := by decide +kernel
theorem dX1_operate_126 : decode cX1_operate 126 = .ok (.invokevirtual 87, 3) := by decide +kernel
theorem dX1_operate_129 : decode cX1_operate 129 = .ok (.return_, 1) := by decide +kernel
theorem dX1_addOperation_0 : decode cX1_addOperation 0 = .ok (.iload_n 1, 1) := by decide +kernel
theorem dX1_addOperation_1 : decode cX1_addOperation 1 = .ok (.iconst 5, 1) := by decide +kernel
theorem dX1_addOperation_2 : decode cX1_addOperation 2 = .ok (.if_icmp .ne 16, 3) := by decide +kernel
theorem dX1_addOperation_5 : decode cX1_addOperation 5 = .ok (.aload_n 0, 1) := by decide +kernel
theorem dX1_addOperation_6 : decode cX1_addOperation 6 = .ok (.iconst 5, 1) := by decide +kernel
theorem dX1_addOperation_7 : decode cX1_addOperation 7 = .ok (.iload_n 2, 1) := by decide +kernel
theorem dX1_addOperation_8 : decode cX1_addOperation 8 = .ok (.iload_n 3, 1) := by decide +kernel
theorem dX1_addOperation_9 : decode cX1_addOperation 9 = .ok (.iload 6, 2) := by decide +kernel
theorem dX1_addOperation_11 : decode cX1_addOperation 11 = .ok (.iconst 0, 1) := by decide +kernel
theorem dX1_addOperation_12 : decode cX1_addOperation 12 = .ok (.invokevirtual 83, 3) := by decide +kernel
theorem dX1_addOperation_15 : decode cX1_addOperation 15 = .ok (.goto 24, 3) := by decide +kernel
theorem dX1_addOperation_18 : decode cX1_addOperation 18 = .ok (.aload_n 0, 1) := by decide +kernel
theorem dX1_addOperation_19 : decode cX1_addOperation 19 = .ok (.iload_n 1, 1) := by decide +kernel
theorem dX1_addOperation_20 : decode cX1_addOperation 20 = .ok (.iload_n 2, 1) := by decide +kernel
theorem dX1_addOperation_21 : decode cX1_addOperation 21 = .ok (.iload_n 3, 1) := by decide +kernel
theorem dX1_addOperation_22 : decode cX1_addOperation 22 = .ok (.iload 4, 2) := by decide +kernel
theorem dX1_addOperation_24 : decode cX1_addOperation 24 = .ok (.iload_n 1, 1) := by decide +kernel
theorem dX1_addOperation_25 : decode cX1_addOperation 25 = .ok (.bipush 6, 2) := by decide +kernel
theorem dX1_addOperation_27 : decode cX1_addOperation 27 = .ok (.if_icmp .ne 8, 3) := by decide +kernel
theorem dX1_addOperation_30 : decode cX1_addOperation 30 = .ok (.iload 5, 2) := by decide +kernel
theorem dX1_addOperation_32 : decode cX1_addOperation 32 = .ok (.goto 4, 3) := by decide +kernel
theorem dX1_addOperation_35 : decode cX1_addOperation 35 = .ok (.iconst 0, 1) := by decide +kernel
theorem dX1_addOperation_36 : decode cX1_addOperation 36 = .ok (.invokevirtual 83, 3) := by decide +kernel
theorem dX1_addOperation_39 : decode cX1_addOperation 39 = .ok (.return_, 1) := by decide +kernel
theorem dX1_makeCall_0 : decode cX1_makeCall 0 = .ok (.aload_n 1, 1) := by decide +kernel
theorem dX1_makeCall_1 : decode cX1_makeCall 1 = .ok (.aload_n 0, 1) := by decide +kernel
theorem dX1_makeCall_2 : decode cX1_makeCall 2 = .ok (.getfield 37, 3) := by decide +kernel
theorem dX1_makeCall_5 : decode cX1_makeCall 5 = .ok (.invokevirtual 52, 3) := by decide +kernel
theorem dX1_makeCall_8 : decode cX1_makeCall 8 = .ok (.istore_n 3, 1) := by decide +kernel
theorem dX1_makeCall_9 : decode cX1_makeCall 9 = .ok (.aload_n 1, 1) := by decide +kernel
theorem dX1_makeCall_10 : decode cX1_makeCall 10 = .ok (.aload_n 0, 1) := by decide +kernel
theorem dX1_makeCall_11 : decode cX1_makeCall 11 = .ok (.getfield 37, 3) := by decide +kernel
theorem dX1_makeCall_14 : decode cX1_makeCall 14 = .ok (.iconst 0, 1) := by decide +kernel
theorem dX1_makeCall_15 : decode cX1_makeCall 15 = .ok (.invokevirtual 98, 3) := by decide +kernel
theorem dX1_makeCall_18 : decode cX1_makeCall 18 = .ok (.istore 4, 2) := by decide +kernel
theorem dX1_makeCall_20 : decode cX1_makeCall 20 = .ok (.aload_n 1, 1) := by decide +kernel
theorem dX1_makeCall_21 : decode cX1_makeCall 21 = .ok (.aload_n 0, 1) := by decide +kernel
theorem dX1_makeCall_22 : decode cX1_makeCall 22 = .ok (.getfield 37, 3) := by decide +kernel
theorem dX1_makeCall_25 : decode cX1_makeCall 25 = .ok (.iconst 1, 1) := by decide +kernel
theorem dX1_makeCall_26 : decode cX1_makeCall 26 = .ok (.invokevirtual 98, 3) := by decide +kernel
theorem dX1_makeCall_29 : decode cX1_makeCall 29 = .ok (.istore 5, 2) := by decide +kernel
theorem dX1_makeCall_31 : decode cX1_makeCall 31 = .ok (.aload_n 2, 1) := by decide +kernel
theorem dX1_makeCall_32 : decode cX1_makeCall 32 = .ok (.iload 5, 2) := by decide +kernel
theorem dX1_makeCall_34 : decode cX1_makeCall 34 = .ok (.invokevirtual 77, 3) := by decide +kernel
theorem dX1_makeCall_37 : decode cX1_makeCall 37 = .ok (.ifCond .ne 7, 3) := by decide +kernel
theorem dX1_makeCall_40 : decode cX1_makeCall 40 = .ok (.iconst 1, 1) := by decide +kernel
theorem dX1_makeCall_41 : decode cX1_makeCall 41 = .ok (.goto 4, 3) := by decide +kernel
theorem dX1_makeCall_44 : decode cX1_makeCall 44 = .ok (.iconst 0, 1) := by decide +kernel
theorem dX1_makeCall_45 : decode cX1_makeCall 45 = .ok (.istore 6, 2) := by decide +kernel
theorem dX1_makeCall_47 : decode cX1_makeCall 47 = .ok (.iload 6, 2) := by decide +kernel
theorem dX1_makeCall_49 : decode cX1_makeCall 49 = .ok (.ifCond .eq 46, 3) := by decide +kernel
theorem dX1_makeCall_52 : decode cX1_makeCall 52 = .ok (.aload_n 2, 1) := by decide +kernel
theorem dX1_makeCall_53 : decode cX1_makeCall 53 = .ok (.iload 4, 2) := by decide +kernel
theorem dX1_makeCall_55 : decode cX1_makeCall 55 = .ok (.invokevirtual 77, 3) := by decide +kernel
theorem dX1_makeCall_58 : decode cX1_makeCall 58 = .ok (.iconst 1, 1) := by decide +kernel
theorem dX1_makeCall_59 : decode cX1_makeCall 59 = .ok (.if_icmp .ne 36, 3) := by decide +kernel
theorem dX1_makeCall_62 : decode cX1_makeCall 62 = .ok (.aload_n 0, 1) := by decide +kernel
theorem dX1_makeCall_63 : decode cX1_makeCall 63 = .ok (.aload_n 0, 1) := by decide +kernel
theorem dX1_makeCall_64 : decode cX1_makeCall 64 = .ok (.getfield 9, 3) := by decide +kernel
theorem dX1_makeCall_67 : decode cX1_makeCall 67 = .ok (.invokevirtual 71, 3) := by decide +kernel
theorem dX1_makeCall_70 : decode cX1_makeCall 70 = .ok (.iconst 0, 1) := by decide +kernel
theorem dX1_makeCall_71 : decode cX1_makeCall 71 = .ok (.invokevirtual 87, 3) := by decide +kernel
theorem dX1_makeCall_74 : decode cX1_makeCall 74 = .ok (.aload_n 0, 1) := by decide +kernel
theorem dX1_makeCall_75 : decode cX1_makeCall 75 = .ok (.iconst 0, 1) := by decide +kernel
theorem dX1_makeCall_76 : decode cX1_makeCall 76 = .ok (.iconst 1, 1) := by decide +kernel
theorem dX1_makeCall_77 : decode cX1_makeCall 77 = .ok (.invokevirtual 87, 3) := by decide +kernel
theorem dX1_makeCall_80 : decode cX1_makeCall 80 = .ok (.aload_n 0, 1) := by decide +kernel
theorem dX1_makeCall_81 : decode cX1_makeCall 81 = .ok (.iconst 1, 1) := by decide +kernel
theorem dX1_makeCall_82 : decode cX1_makeCall 82 = .ok (.aload_n 0, 1) := by decide +kernel
theorem dX1_makeCall_83 : decode cX1_makeCall 83 = .ok (.getfield 9, 3) := by decide +kernel
theorem dX1_makeCall_86 : decode cX1_makeCall 86 = .ok (.invokevirtual 71, 3) := by decide +kernel
theorem dX1_makeCall_89 : decode cX1_makeCall 89 = .ok (.invokevirtual 87, 3) := by decide +kernel
theorem dX1_makeCall_92 : decode cX1_makeCall 92 = .ok (.goto 41, 3) := by decide +kernel
theorem dX1_makeCall_95 : decode cX1_makeCall 95 = .ok (.iload 6, 2) := by decide +kernel
theorem dX1_makeCall_97 : decode cX1_makeCall 97 = .ok (.ifCond .eq 20, 3) := by decide +kernel
theorem dX1_makeCall_100 : decode cX1_makeCall 100 = .ok (.aload_n 0, 1) := by decide +kernel
theorem dX1_makeCall_101 : decode cX1_makeCall 101 = .ok (.iconst 1, 1) := by decide +kernel
theorem dX1_makeCall_102 : decode cX1_makeCall 102 = .ok (.iconst 0, 1) := by decide +kernel
theorem dX1_makeCall_103 : decode cX1_makeCall 103 = .ok (.invokevirtual 87, 3) := by decide +kernel
theorem dX1_makeCall_106 : decode cX1_makeCall 106 = .ok (.aload_n 0, 1) := by decide +kernel
theorem dX1_makeCall_107 : decode cX1_makeCall 107 = .ok (.aload_n 2, 1) := by decide +kernel
theorem dX1_makeCall_108 : decode cX1_makeCall 108 = .ok (.iload 4, 2) := by decide +kernel
theorem dX1_makeCall_110 : decode cX1_makeCall 110 = .ok (.iconst 0, 1) := by decide +kernel
theorem dX1_makeCall_111 : decode cX1_makeCall 111 = .ok (.invokevirtual 126, 3) := by decide +kernel
theorem dX1_makeCall_114 : decode cX1_makeCall 114 = .ok (.goto 19, 3) := by decide +kernel
theorem dX1_makeCall_117 : decode cX1_makeCall 117 = .ok (.aload_n 0, 1) := by decide +kernel
theorem dX1_makeCall_118 : decode cX1_makeCall 118 = .ok (.aload_n 2, 1) := by decide +kernel
theorem dX1_makeCall_119 : decode cX1_makeCall 119 = .ok (.iload 4, 2) := by decide +kernel
theorem dX1_makeCall_121 : decode cX1_makeCall 121 = .ok (.iconst 0, 1) := by decide +kernel
theorem dX1_makeCall_122 : decode cX1_makeCall 122 = .ok (.invokevirtual 126, 3) := by decide +kernel
theorem dX1_makeCall_125 : decode cX1_makeCall 125 = .ok (.aload_n 0, 1) := by decide +kernel
theorem dX1_makeCall_126 : decode cX1_makeCall 126 = .ok (.aload_n 2, 1) := by decide +kernel
theorem dX1_makeCall_127 : decode cX1_makeCall 127 = .ok (.iload 5, 2) := by decide +kernel
theorem dX1_makeCall_129 : decode cX1_makeCall 129 = .ok (.iconst 1, 1) := by decide +kernel
theorem dX1_makeCall_130 : decode cX1_makeCall 130 = .ok (.invokevirtual 126, 3) := by decide +kernel
theorem dX1_makeCall_133 : decode cX1_makeCall 133 = .ok (.aload_n 0, 1) := by decide +kernel
theorem dX1_makeCall_134 : decode cX1_makeCall 134 = .ok (.bipush 9, 2) := by decide +kernel
theorem dX1_makeCall_136 : decode cX1_makeCall 136 = .ok (.iconst 0, 1) := by decide +kernel
theorem dX1_makeCall_137 : decode cX1_makeCall 137 = .ok (.iconst 0, 1) := by decide +kernel
theorem dX1_makeCall_138 : decode cX1_makeCall 138 = .ok (.iconst 0, 1) := by decide +kernel
theorem dX1_makeCall_139 : decode cX1_makeCall 139 = .ok (.iconst 0, 1) := by decide +kernel
theorem dX1_makeCall_140 : decode cX1_makeCall 140 = .ok (.invokevirtual 83, 3) := by decide +kernel
theorem dX1_makeCall_143 : decode cX1_makeCall 143 = .ok (.aload_n 2, 1) := by decide +kernel
theorem dX1_makeCall_144 : decode cX1_makeCall 144 = .ok (.iload_n 3, 1) := by decide +kernel
theorem dX1_makeCall_145 : decode cX1_makeCall 145 = .ok (.invokevirtual 68, 3) := by decide +kernel
theorem dX1_makeCall_148 : decode cX1_makeCall 148 = .ok (.ifCond .eq 20, 3) := by decide +kernel
theorem dX1_makeCall_151 : decode cX1_makeCall 151 = .ok (.aload_n 0, 1) := by decide +kernel
theorem dX1_makeCall_152 : decode cX1_makeCall 152 = .ok (.bipush 8, 2) := by decide +kernel
theorem dX1_makeCall_154 : decode cX1_makeCall 154 = .ok (.iconst 0, 1) := by decide +kernel
theorem dX1_makeCall_155 : decode cX1_makeCall 155 = .ok (.aload_n 2, 1) := by decide +kernel
theorem dX1_makeCall_156 : decode cX1_makeCall 156 = .ok (.iload_n 3, 1) := by decide +kernel
theorem dX1_makeCall_157 : decode cX1_makeCall 157 = .ok (.invokevirtual 95, 3) := by decide +kernel
theorem dX1_makeCall_160 : decode cX1_makeCall 160 = .ok (.iconst 0, 1) := by decide +kernel
theorem dX1_makeCall_161 : decode cX1_makeCall 161 = .ok (.iconst 0, 1) := by decide +kernel
theorem dX1_makeCall_162 : decode cX1_makeCall 162 = .ok (.invokevirtual 83, 3) := by decide +kernel
theorem dX1_makeCall_165 : decode cX1_makeCall 165 = .ok (.goto 13, 3) := by decide +kernel
theorem dX1_makeCall_168 : decode cX1_makeCall 168 = .ok (.aload_n 0, 1) := by decide +kernel
theorem dX1_makeCall_169 : decode cX1_makeCall 169 = .ok (.aload_n 2, 1) := by decide +kernel
theorem dX1_makeCall_170 : decode cX1_makeCall 170 = .ok (.iload_n 3, 1) := by decide +kernel
theorem dX1_makeCall_171 : decode cX1_makeCall 171 = .ok (.invokevirtual 77, 3) := by decide +kernel
theorem dX1_makeCall_174 : decode cX1_makeCall 174 = .ok (.iconst 0, 1) := by decide +kernel
theorem dX1_makeCall_175 : decode cX1_makeCall 175 = .ok (.invokevirtual 87, 3) := by decide +kernel
theorem dX1_makeCall_178 : decode cX1_makeCall 178 = .ok (.return_, 1) := by decide +kernel
theorem dX1_addMove_0 : decode cX1_addMove 0 = .ok (.iload_n 1, 1) := by decide +kernel
theorem dX1_addMove_1 : decode cX1_addMove 1 = .ok (.iload_n 2, 1) := by decide +kernel
theorem dX1_addMove_2 : decode cX1_addMove 2 = .ok (.if_icmp .eq 12, 3) := by decide +kernel
theorem dX1_addMove_5 : decode cX1_addMove 5 = .ok (.aload_n 0, 1) := by decide +kernel
theorem dX1_addMove_6 : decode cX1_addMove 6 = .ok (.iconst 1, 1) := by decide +kernel
theorem dX1_addMove_7 : decode cX1_addMove 7 = .ok (.iload_n 1, 1) := by decide +kernel
theorem dX1_addMove_8 : decode cX1_addMove 8 = .ok (.iload_n 2, 1) := by decide +kernel
theorem dX1_addMove_9 : decode cX1_addMove 9 = .ok (.iconst 0, 1) := by decide +kernel
theorem dX1_addMove_10 : decode cX1_addMove 10 = .ok (.iconst 0, 1) := by decide +kernel
theorem dX1_addMove_11 : decode cX1_addMove 11 = .ok (.invokevirtual 83, 3) := by decide +kernel
theorem dX1_addMove_14 : decode cX1_addMove 14 = .ok (.return_, 1) := by decide +kernel
theorem dX1_add_0 : decode cX1_add 0 = .ok (.aload_n 0, 1) := by decide +kernel
theorem dX1_add_1 : decode cX1_add 1 = .ok (.getfield 28, 3) := by decide +kernel
theorem dX1_add_4 : decode cX1_add 4 = .ok (.ifCond .lt 13, 3) := by decide +kernel
theorem dX1_add_7 : decode cX1_add 7 = .ok (.aload_n 0, 1) := by decide +kernel
theorem dX1_add_8 : decode cX1_add 8 = .ok (.getfield 28, 3) := by decide +kernel
theorem dX1_add_11 : decode cX1_add 11 = .ok (.sipush 528, 3) := by decide +kernel
theorem dX1_add_14 : decode cX1_add 14 = .ok (.if_icmp .lt 4, 3) := by decide +kernel
theorem dX1_add_17 : decode cX1_add 17 = .ok (.return_, 1) := by decide +kernel
theorem dX1_add_18 : decode cX1_add 18 = .ok (.iconst 4, 1) := by decide +kernel
theorem dX1_add_19 : decode cX1_add 19 = .ok (.aload_n 0, 1) := by decide +kernel
theorem dX1_add_20 : decode cX1_add 20 = .ok (.getfield 28, 3) := by decide +kernel
theorem dX1_add_23 : decode cX1_add 23 = .ok (.imul, 1) := by decide +kernel
theorem dX1_add_24 : decode cX1_add 24 = .ok (.istore 6, 2) := by decide +kernel
theorem dX1_add_26 : decode cX1_add 26 = .ok (.aload_n 0, 1) := by decide +kernel
theorem dX1_add_27 : decode cX1_add 27 = .ok (.getfield 15, 3) := by decide +kernel
theorem dX1_add_30 : decode cX1_add 30 = .ok (.aload_n 0, 1) := by decide +kernel
theorem dX1_add_31 : decode cX1_add 31 = .ok (.getfield 28, 3) := by decide +kernel
theorem dX1_add_34 : decode cX1_add 34 = .ok (.iload_n 1, 1) := by decide +kernel
theorem dX1_add_35 : decode cX1_add 35 = .ok (.iastore, 1) := by decide +kernel
theorem dX1_add_36 : decode cX1_add 36 = .ok (.aload_n 0, 1) := by decide +kernel
theorem dX1_add_37 : decode cX1_add 37 = .ok (.getfield 19, 3) := by decide +kernel
theorem dX1_add_40 : decode cX1_add 40 = .ok (.iload 6, 2) := by decide +kernel
theorem dX1_add_42 : decode cX1_add 42 = .ok (.iload_n 2, 1) := by decide +kernel
theorem dX1_add_43 : decode cX1_add 43 = .ok (.iastore, 1) := by decide +kernel
theorem dX1_add_44 : decode cX1_add 44 = .ok (.aload_n 0, 1) := by decide +kernel
theorem dX1_add_45 : decode cX1_add 45 = .ok (.getfield 19, 3) := by decide +kernel
theorem dX1_add_48 : decode cX1_add 48 = .ok (.iload 6, 2) := by decide +kernel
theorem dX1_add_50 : decode cX1_add 50 = .ok (.iconst 1, 1) := by decide +kernel
theorem dX1_add_51 : decode cX1_add 51 = .ok (.iadd, 1) := by decide +kernel
theorem dX1_add_52 : decode cX1_add 52 = .ok (.iload_n 3, 1) := by decide +kernel
theorem dX1_add_53 : decode cX1_add 53 = .ok (.iastore, 1) := by decide +kernel
theorem dX1_add_54 : decode cX1_add 54 = .ok (.aload_n 0, 1) := by decide +kernel
theorem dX1_add_55 : decode cX1_add 55 = .ok (.getfield 19, 3) := by decide +kernel
theorem dX1_add_58 : decode cX1_add 58 = .ok (.iload 6, 2) := by decide +kernel
theorem dX1_add_60 : decode cX1_add 60 = .ok (.iconst 2, 1) := by decide +kernel
theorem dX1_add_61 : decode cX1_add 61 = .ok (.iadd, 1) := by decide +kernel
theorem dX1_add_62 : decode cX1_add 62 = .ok (.iload 4, 2) := by decide +kernel
theorem dX1_add_64 : decode cX1_add 64 = .ok (.iastore, 1) := by decide +kernel
theorem dX1_add_65 : decode cX1_add 65 = .ok (.aload_n 0, 1) := by decide +kernel
theorem dX1_add_66 : decode cX1_add 66 = .ok (.getfield 19, 3) := by decide +kernel
theorem dX1_add_69 : decode cX1_add 69 = .ok (.iload 6, 2) := by decide +kernel
theorem dX1_add_71 : decode cX1_add 71 = .ok (.iconst 3, 1) := by decide +kernel
theorem dX1_add_72 : decode cX1_add 72 = .ok (.iadd, 1) := by decide +kernel
theorem dX1_add_73 : decode cX1_add 73 = .ok (.iload 5, 2) := by decide +kernel
theorem dX1_add_75 : decode cX1_add 75 = .ok (.iastore, 1) := by decide +kernel
theorem dX1_add_76 : decode cX1_add 76 = .ok (.aload_n 0, 1) := by decide +kernel
theorem dX1_add_77 : decode cX1_add 77 = .ok (.getfield 22, 3) := by decide +kernel
theorem dX1_add_80 : decode cX1_add 80 = .ok (.aload_n 0, 1) := by decide +kernel
theorem dX1_add_81 : decode cX1_add 81 = .ok (.getfield 28, 3) := by decide +kernel
theorem dX1_add_84 : decode cX1_add 84 = .ok (.aload_n 0, 1) := by decide +kernel
theorem dX1_add_85 : decode cX1_add 85 = .ok (.getfield 37, 3) := by decide +kernel
theorem dX1_add_88 : decode cX1_add 88 = .ok (.iastore, 1) := by decide +kernel
theorem dX1_add_89 : decode cX1_add 89 = .ok (.aload_n 0, 1) := by decide +kernel
theorem dX1_add_90 : decode cX1_add 90 = .ok (.dup, 1) := by decide +kernel
theorem dX1_add_91 : decode cX1_add 91 = .ok (.getfield 28, 3) := by decide +kernel
theorem dX1_add_94 : decode cX1_add 94 = .ok (.iconst 1, 1) := by decide +kernel
theorem dX1_add_95 : decode cX1_add 95 = .ok (.iadd, 1) := by decide +kernel
theorem dX1_add_96 : decode cX1_add 96 = .ok (.putfield 28, 3) := by decide +kernel
theorem dX1_add_99 : decode cX1_add 99 = .ok (.return_, 1) := by decide +kernel
theorem dX1_kindOf_0 : decode cX1_kindOf 0 = .ok (.aload_n 0, 1) := by decide +kernel
theorem dX1_kindOf_1 : decode cX1_kindOf 1 = .ok (.getfield 15, 3) := by decide +kernel
theorem dX1_kindOf_4 : decode cX1_kindOf 4 = .ok (.iload_n 1, 1) := by decide +kernel
theorem dX1_kindOf_5 : decode cX1_kindOf 5 = .ok (.invokestatic 109, 3) := by decide +kernel
theorem dX1_kindOf_8 : decode cX1_kindOf 8 = .ok (.ireturn, 1) := by decide +kernel
theorem dX1_operandOf_0 : decode cX1_operandOf 0 = .ok (.aload_n 0, 1) := by decide +kernel
theorem dX1_operandOf_1 : decode cX1_operandOf 1 = .ok (.getfield 19, 3) := by decide +kernel
theorem dX1_operandOf_4 : decode cX1_operandOf 4 = .ok (.iconst 4, 1) := by decide +kernel
theorem dX1_operandOf_5 : decode cX1_operandOf 5 = .ok (.iload_n 1, 1) := by decide +kernel
theorem dX1_operandOf_6 : decode cX1_operandOf 6 = .ok (.imul, 1) := by decide +kernel
theorem dX1_operandOf_7 : decode cX1_operandOf 7 = .ok (.iload_n 2, 1) := by decide +kernel
theorem dX1_operandOf_8 : decode cX1_operandOf 8 = .ok (.iadd, 1) := by decide +kernel
theorem dX1_operandOf_9 : decode cX1_operandOf 9 = .ok (.iconst 1, 1) := by decide +kernel
theorem dX1_operandOf_10 : decode cX1_operandOf 10 = .ok (.isub, 1) := by decide +kernel
theorem dX1_operandOf_11 : decode cX1_operandOf 11 = .ok (.invokestatic 109, 3) := by decide +kernel
theorem dX1_operandOf_14 : decode cX1_operandOf 14 = .ok (.ireturn, 1) := by decide +kernel
theorem dX1_startOf_0 : decode cX1_startOf 0 = .ok (.aload_n 0, 1) := by decide +kernel
theorem dX1_startOf_1 : decode cX1_startOf 1 = .ok (.getfield 25, 3) := by decide +kernel
theorem dX1_startOf_4 : decode cX1_startOf 4 = .ok (.iload_n 1, 1) := by decide +kernel
theorem dX1_startOf_5 : decode cX1_startOf 5 = .ok (.invokestatic 109, 3) := by decide +kernel
theorem dX1_startOf_8 : decode cX1_startOf 8 = .ok (.ireturn, 1) := by decide +kernel
theorem dX1_tellPlace_0 : decode cX1_tellPlace 0 = .ok (.iload_n 2, 1) := by decide +kernel
theorem dX1_tellPlace_1 : decode cX1_tellPlace 1 = .ok (.ifCond .ne 9, 3) := by decide +kernel
theorem dX1_tellPlace_4 : decode cX1_tellPlace 4 = .ok (.aload_n 0, 1) := by decide +kernel
theorem dX1_tellPlace_5 : decode cX1_tellPlace 5 = .ok (.iload_n 1, 1) := by decide +kernel
theorem dX1_tellPlace_6 : decode cX1_tellPlace 6 = .ok (.invokevirtual 129, 3) := by decide +kernel
theorem dX1_tellPlace_9 : decode cX1_tellPlace 9 = .ok (.ireturn, 1) := by decide +kernel
theorem dX1_tellPlace_10 : decode cX1_tellPlace 10 = .ok (.iload_n 2, 1) := by decide +kernel
theorem dX1_tellPlace_11 : decode cX1_tellPlace 11 = .ok (.iconst 5, 1) := by decide +kernel
theorem dX1_tellPlace_12 : decode cX1_tellPlace 12 = .ok (.if_icmp .ne 14, 3) := by decide +kernel
theorem dX1_tellPlace_15 : decode cX1_tellPlace 15 = .ok (.aload_n 0, 1) := by decide +kernel
theorem dX1_tellPlace_16 : decode cX1_tellPlace 16 = .ok (.getfield 22, 3) := by decide +kernel
theorem dX1_tellPlace_19 : decode cX1_tellPlace 19 = .ok (.iload_n 1, 1) := by decide +kernel
theorem dX1_tellPlace_20 : decode cX1_tellPlace 20 = .ok (.invokestatic 109, 3) := by decide +kernel
theorem dX1_tellPlace_23 : decode cX1_tellPlace 23 = .ok (.goto 9, 3) := by decide +kernel
theorem dX1_tellPlace_26 : decode cX1_tellPlace 26 = .ok (.aload_n 0, 1) := by decide +kernel
theorem dX1_tellPlace_27 : decode cX1_tellPlace 27 = .ok (.iload_n 1, 1) := by decide +kernel
theorem dX1_tellPlace_28 : decode cX1_tellPlace 28 = .ok (.iload_n 2, 1) := by decide +kernel
theorem dX1_tellPlace_29 : decode cX1_tellPlace 29 = .ok (.invokevirtual 130, 3) := by decide +kernel
theorem dX1_tellPlace_32 : decode cX1_tellPlace 32 = .ok (.ireturn, 1) := by decide +kernel
theorem dX1_countOf_0 : decode cX1_countOf 0 = .ok (.iconst 0, 1) := by decide +kernel
theorem dX1_countOf_1 : decode cX1_countOf 1 = .ok (.istore_n 2, 1) := by decide +kernel
theorem dX1_countOf_2 : decode cX1_countOf 2 = .ok (.iconst 0, 1) := by decide +kernel
theorem dX1_countOf_3 : decode cX1_countOf 3 = .ok (.istore_n 3, 1) := by decide +kernel
theorem dX1_countOf_4 : decode cX1_countOf 4 = .ok (.iload_n 3, 1) := by decide +kernel
theorem dX1_countOf_5 : decode cX1_countOf 5 = .ok (.aload_n 0, 1) := by decide +kernel
theorem dX1_countOf_6 : decode cX1_countOf 6 = .ok (.getfield 28, 3) := by decide +kernel
theorem dX1_countOf_9 : decode cX1_countOf 9 = .ok (.if_icmp .ge 21, 3) := by decide +kernel
theorem dX1_countOf_12 : decode cX1_countOf 12 = .ok (.aload_n 0, 1) := by decide +kernel
theorem dX1_countOf_13 : decode cX1_countOf 13 = .ok (.iload_n 3, 1) := by decide +kernel
theorem dX1_countOf_14 : decode cX1_countOf 14 = .ok (.invokevirtual 129, 3) := by decide +kernel
theorem dX1_countOf_17 : decode cX1_countOf 17 = .ok (.iload_n 1, 1) := by decide +kernel
theorem dX1_countOf_18 : decode cX1_countOf 18 = .ok (.if_icmp .ne 6, 3) := by decide +kernel
theorem dX1_countOf_21 : decode cX1_countOf 21 = .ok (.iinc 2 1, 3) := by decide +kernel
theorem dX1_countOf_24 : decode cX1_countOf 24 = .ok (.iinc 3 1, 3) := by decide +kernel
theorem dX1_countOf_27 : decode cX1_countOf 27 = .ok (.goto (-23), 3) := by decide +kernel
theorem dX1_countOf_30 : decode cX1_countOf 30 = .ok (.iload_n 2, 1) := by decide +kernel
theorem dX1_countOf_31 : decode cX1_countOf 31 = .ok (.ireturn, 1) := by decide +kernel
theorem dX2_init_0 : decode cX2_init 0 = .ok (.aload_n 0, 1) := by decide +kernel
theorem dX2_init_1 : decode cX2_init 1 = .ok (.invokespecial 3, 3) := by decide +kernel
theorem dX2_init_4 : decode cX2_init 4 = .ok (.aload_n 0, 1) := by decide +kernel
theorem dX2_init_5 : decode cX2_init 5 = .ok (.aload_n 1, 1) := by decide +kernel
theorem dX2_init_6 : decode cX2_init 6 = .ok (.putfield 9, 3) := by decide +kernel
theorem dX2_init_9 : decode cX2_init 9 = .ok (.aload_n 0, 1) := by decide +kernel
theorem dX2_init_10 : decode cX2_init 10 = .ok (.bipush 88, 2) := by decide +kernel
theorem dX2_init_12 : decode cX2_init 12 = .ok (.newarray .int, 2) := by decide +kernel
theorem dX2_init_14 : decode cX2_init 14 = .ok (.putfield 15, 3) := by decide +kernel
theorem dX2_init_17 : decode cX2_init 17 = .ok (.aload_n 0, 1) := by decide +kernel
theorem dX2_init_18 : decode cX2_init 18 = .ok (.bipush 88, 2) := by decide +kernel
theorem dX2_init_20 : decode cX2_init 20 = .ok (.newarray .int, 2) := by decide +kernel
theorem dX2_init_22 : decode cX2_init 22 = .ok (.putfield 19, 3) := by decide +kernel
theorem dX2_init_25 : decode cX2_init 25 = .ok (.aload_n 0, 1) := by decide +kernel
theorem dX2_init_26 : decode cX2_init 26 = .ok (.bipush 88, 2) := by decide +kernel
theorem dX2_init_28 : decode cX2_init 28 = .ok (.newarray .int, 2) := by decide +kernel
theorem dX2_init_30 : decode cX2_init 30 = .ok (.putfield 22, 3) := by decide +kernel
theorem dX2_init_33 : decode cX2_init 33 = .ok (.aload_n 0, 1) := by decide +kernel
theorem dX2_init_34 : decode cX2_init 34 = .ok (.bipush 88, 2) := by decide +kernel
theorem dX2_init_36 : decode cX2_init 36 = .ok (.newarray .int, 2) := by decide +kernel
theorem dX2_init_38 : decode cX2_init 38 = .ok (.putfield 25, 3) := by decide +kernel
theorem dX2_init_41 : decode cX2_init 41 = .ok (.aload_n 0, 1) := by decide +kernel
theorem dX2_init_42 : decode cX2_init 42 = .ok (.bipush 88, 2) := by decide +kernel
theorem dX2_init_44 : decode cX2_init 44 = .ok (.newarray .int, 2) := by decide +kernel
theorem dX2_init_46 : decode cX2_init 46 = .ok (.putfield 28, 3) := by decide +kernel
theorem dX2_init_49 : decode cX2_init 49 = .ok (.return_, 1) := by decide +kernel
theorem dX2_give_0 : decode cX2_give 0 = .ok (.aload_n 0, 1) := by decide +kernel
theorem dX2_give_1 : decode cX2_give 1 = .ok (.iconst 0, 1) := by decide +kernel
theorem dX2_give_2 : decode cX2_give 2 = .ok (.putfield 31, 3) := by decide +kernel
theorem dX2_give_5 : decode cX2_give 5 = .ok (.aload_n 0, 1) := by decide +kernel
theorem dX2_give_6 : decode cX2_give 6 = .ok (.iconst 0, 1) := by decide +kernel
theorem dX2_give_7 : decode cX2_give 7 = .ok (.putfield 35, 3) := by decide +kernel
theorem dX2_give_10 : decode cX2_give 10 = .ok (.aload_n 0, 1) := by decide +kernel
theorem dX2_give_11 : decode cX2_give 11 = .ok (.iconst 0, 1) := by decide +kernel
theorem dX2_give_12 : decode cX2_give 12 = .ok (.putfield 38, 3) := by decide +kernel
theorem dX2_give_15 : decode cX2_give 15 = .ok (.aload_n 0, 1) := by decide +kernel
theorem dX2_give_16 : decode cX2_give 16 = .ok (.getfield 15, 3) := by decide +kernel
theorem dX2_give_19 : decode cX2_give 19 = .ok (.iconst (-1), 1) := by decide +kernel
theorem dX2_give_20 : decode cX2_give 20 = .ok (.invokestatic 41, 3) := by decide +kernel
theorem dX2_give_23 : decode cX2_give 23 = .ok (.aload_n 0, 1) := by decide +kernel
theorem dX2_give_24 : decode cX2_give 24 = .ok (.getfield 19, 3) := by decide +kernel
theorem dX2_give_27 : decode cX2_give 27 = .ok (.iconst (-1), 1) := by decide +kernel
theorem dX2_give_28 : decode cX2_give 28 = .ok (.invokestatic 41, 3) := by decide +kernel
theorem dX2_give_31 : decode cX2_give 31 = .ok (.aload_n 0, 1) := by decide +kernel
theorem dX2_give_32 : decode cX2_give 32 = .ok (.getfield 22, 3) := by decide +kernel
theorem dX2_give_35 : decode cX2_give 35 = .ok (.iconst 0, 1) := by decide +kernel
theorem dX2_give_36 : decode cX2_give 36 = .ok (.invokestatic 41, 3) := by decide +kernel
theorem dX2_give_39 : decode cX2_give 39 = .ok (.iconst 0, 1) := by decide +kernel
theorem dX2_give_40 : decode cX2_give 40 = .ok (.istore_n 3, 1) := by decide +kernel
theorem dX2_give_41 : decode cX2_give 41 = .ok (.iload_n 3, 1) := by decide +kernel
theorem dX2_give_42 : decode cX2_give 42 = .ok (.aload_n 1, 1) := by decide +kernel
theorem dX2_give_43 : decode cX2_give 43 = .ok (.getfield 45, 3) := by decide +kernel
theorem dX2_give_46 : decode cX2_give 46 = .ok (.if_icmp .ge 25, 3) := by decide +kernel
theorem dX2_give_49 : decode cX2_give 49 = .ok (.aload_n 1, 1) := by decide +kernel
theorem dX2_give_50 : decode cX2_give 50 = .ok (.aload_n 2, 1) := by decide +kernel
theorem dX2_give_51 : decode cX2_give 51 = .ok (.iload_n 3, 1) := by decide +kernel
theorem dX2_give_52 : decode cX2_give 52 = .ok (.invokestatic 50, 3) := by decide +kernel
theorem dX2_give_55 : decode cX2_give 55 = .ok (.ifCond .eq 10, 3) := by decide +kernel
theorem dX2_give_58 : decode cX2_give 58 = .ok (.aload_n 0, 1) := by decide +kernel
theorem dX2_give_59 : decode cX2_give 59 = .ok (.aload_n 1, 1) := by decide +kernel
theorem dX2_give_60 : decode cX2_give 60 = .ok (.aload_n 2, 1) := by decide +kernel
theorem dX2_give_61 : decode cX2_give 61 = .ok (.iload_n 3, 1) := by decide +kernel
theorem dX2_give_62 : decode cX2_give 62 = .ok (.invokevirtual 54, 3) := by decide +kernel
theorem dX2_give_65 : decode cX2_give 65 = .ok (.iinc 3 1, 3) := by decide +kernel
theorem dX2_give_68 : decode cX2_give 68 = .ok (.goto (-27), 3) := by decide +kernel
theorem dX2_give_71 : decode cX2_give 71 = .ok (.iconst 0, 1) := by decide +kernel
theorem dX2_give_72 : decode cX2_give 72 = .ok (.istore_n 3, 1) := by decide +kernel
theorem dX2_give_73 : decode cX2_give 73 = .ok (.iload_n 3, 1) := by decide +kernel
theorem dX2_give_74 : decode cX2_give 74 = .ok (.aload_n 1, 1) := by decide +kernel
theorem dX2_give_75 : decode cX2_give 75 = .ok (.getfield 45, 3) := by decide +kernel
theorem dX2_give_78 : decode cX2_give 78 = .ok (.if_icmp .ge 47, 3) := by decide +kernel
theorem dX2_give_81 : decode cX2_give 81 = .ok (.aload_n 1, 1) := by decide +kernel
theorem dX2_give_82 : decode cX2_give 82 = .ok (.aload_n 2, 1) := by decide +kernel
theorem dX2_give_83 : decode cX2_give 83 = .ok (.iload_n 3, 1) := by decide +kernel
theorem dX2_give_84 : decode cX2_give 84 = .ok (.invokestatic 50, 3) := by decide +kernel
theorem dX2_give_87 : decode cX2_give 87 = .ok (.ifCond .eq 32, 3) := by decide +kernel
theorem dX2_give_90 : decode cX2_give 90 = .ok (.aload_n 0, 1) := by decide +kernel
theorem dX2_give_91 : decode cX2_give 91 = .ok (.aload_n 1, 1) := by decide +kernel
theorem dX2_give_92 : decode cX2_give 92 = .ok (.iload_n 3, 1) := by decide +kernel
theorem dX2_give_93 : decode cX2_give 93 = .ok (.invokevirtual 58, 3) := by decide +kernel
theorem dX2_give_96 : decode cX2_give 96 = .ok (.invokevirtual 62, 3) := by decide +kernel
theorem dX2_give_99 : decode cX2_give 99 = .ok (.ifCond .eq 20, 3) := by decide +kernel
theorem dX2_give_102 : decode cX2_give 102 = .ok (.aload_n 0, 1) := by decide +kernel
theorem dX2_give_103 : decode cX2_give 103 = .ok (.dup, 1) := by decide +kernel
theorem dX2_give_104 : decode cX2_give 104 = .ok (.getfield 31, 3) := by decide +kernel
theorem dX2_give_107 : decode cX2_give 107 = .ok (.iconst 1, 1) := by decide +kernel
theorem dX2_give_108 : decode cX2_give 108 = .ok (.iadd, 1) := by decide +kernel
theorem dX2_give_109 : decode cX2_give 109 = .ok (.putfield 31, 3) := by decide +kernel
theorem dX2_give_112 : decode cX2_give 112 = .ok (.aload_n 0, 1) := by decide +kernel
theorem dX2_give_113 : decode cX2_give 113 = .ok (.aload_n 1, 1) := by decide +kernel
theorem dX2_give_114 : decode cX2_give 114 = .ok (.aload_n 2, 1) := by decide +kernel
theorem dX2_give_115 : decode cX2_give 115 = .ok (.iload_n 3, 1) := by decide +kernel
theorem dX2_give_116 : decode cX2_give 116 = .ok (.invokevirtual 66, 3) := by decide +kernel
theorem dX2_give_119 : decode cX2_give 119 = .ok (.iinc 3 1, 3) := by decide +kernel
theorem dX2_give_122 : decode cX2_give 122 = .ok (.goto (-49), 3) := by decide +kernel
theorem dX2_give_125 : decode cX2_give 125 = .ok (.aload_n 0, 1) := by decide +kernel
theorem dX2_give_126 : decode cX2_give 126 = .ok (.aload_n 0, 1) := by decide +kernel
theorem dX2_give_127 : decode cX2_give 127 = .ok (.getfield 38, 3) := by decide +kernel
theorem dX2_give_130 : decode cX2_give 130 = .ok (.aload_n 0, 1) := by decide +kernel
theorem dX2_give_131 : decode cX2_give 131 = .ok (.aload_n 2, 1) := by decide +kernel
theorem dX2_give_132 : decode cX2_give 132 = .ok (.getfield 69, 3) := by decide +kernel
theorem dX2_give_135 : decode cX2_give 135 = .ok (.invokevirtual 74, 3) := by decide +kernel
theorem dX2_give_138 : decode cX2_give 138 = .ok (.iadd, 1) := by decide +kernel
theorem dX2_give_139 : decode cX2_give 139 = .ok (.putfield 77, 3) := by decide +kernel
theorem dX2_give_142 : decode cX2_give 142 = .ok (.aload_n 0, 1) := by decide +kernel
theorem dX2_give_143 : decode cX2_give 143 = .ok (.dup, 1) := by decide +kernel
theorem dX2_give_144 : decode cX2_give 144 = .ok (.getfield 77, 3) := by decide +kernel
theorem dX2_give_147 : decode cX2_give 147 = .ok (.aload_n 0, 1) := by decide +kernel
theorem dX2_give_148 : decode cX2_give 148 = .ok (.getfield 77, 3) := by decide +kernel
theorem dX2_give_151 : decode cX2_give 151 = .ok (.iconst 1, 1) := by decide +kernel
theorem dX2_give_152 : decode cX2_give 152 = .ok (.iand, 1) := by decide +kernel
theorem dX2_give_153 : decode cX2_give 153 = .ok (.iadd, 1) := by decide +kernel
theorem dX2_give_154 : decode cX2_give 154 = .ok (.putfield 77, 3) := by decide +kernel
theorem dX2_give_157 : decode cX2_give 157 = .ok (.return_, 1) := by decide +kernel
theorem dX2_isBirth_0 : decode cX2_isBirth 0 = .ok (.aload_n 1, 1) := by decide +kernel
theorem dX2_isBirth_1 : decode cX2_isBirth 1 = .ok (.aload_n 0, 1) := by decide +kernel
theorem dX2_isBirth_2 : decode cX2_isBirth 2 = .ok (.iload_n 2, 1) := by decide +kernel
theorem dX2_isBirth_3 : decode cX2_isBirth 3 = .ok (.invokevirtual 58, 3) := by decide +kernel
theorem dX2_isBirth_6 : decode cX2_isBirth 6 = .ok (.invokevirtual 80, 3) := by decide +kernel
theorem dX2_isBirth_9 : decode cX2_isBirth 9 = .ok (.iload_n 2, 1) := by decide +kernel
theorem dX2_isBirth_10 : decode cX2_isBirth 10 = .ok (.if_icmp .ne 7, 3) := by decide +kernel
theorem dX2_isBirth_13 : decode cX2_isBirth 13 = .ok (.iconst 1, 1) := by decide +kernel
theorem dX2_isBirth_14 : decode cX2_isBirth 14 = .ok (.goto 4, 3) := by decide +kernel
theorem dX2_isBirth_17 : decode cX2_isBirth 17 = .ok (.iconst 0, 1) := by decide +kernel
theorem dX2_isBirth_18 : decode cX2_isBirth 18 = .ok (.ireturn, 1) := by decide +kernel
theorem dX2_giveRegister_0 : decode cX2_giveRegister 0 = .ok (.aload_n 1, 1) := by decide +kernel
theorem dX2_giveRegister_1 : decode cX2_giveRegister 1 = .ok (.iload_n 3, 1) := by decide +kernel
theorem dX2_giveRegister_2 : decode cX2_giveRegister 2 = .ok (.invokevirtual 58, 3) := by decide +kernel
theorem dX2_giveRegister_5 : decode cX2_giveRegister 5 = .ok (.istore 4, 2) := by decide +kernel
theorem dX2_giveRegister_7 : decode cX2_giveRegister 7 = .ok (.aload_n 2, 1) := by decide +kernel
theorem dX2_giveRegister_8 : decode cX2_giveRegister 8 = .ok (.iload 4, 2) := by decide +kernel
theorem dX2_giveRegister_10 : decode cX2_giveRegister 10 = .ok (.invokevirtual 83, 3) := by decide +kernel
theorem dX2_giveRegister_13 : decode cX2_giveRegister 13 = .ok (.ifCond .le 13, 3) := by decide +kernel
theorem dX2_giveRegister_16 : decode cX2_giveRegister 16 = .ok (.aload_n 0, 1) := by decide +kernel
theorem dX2_giveRegister_17 : decode cX2_giveRegister 17 = .ok (.getfield 9, 3) := by decide +kernel
theorem dX2_giveRegister_20 : decode cX2_giveRegister 20 = .ok (.getfield 86, 3) := by decide +kernel
theorem dX2_giveRegister_23 : decode cX2_giveRegister 23 = .ok (.goto 15, 3) := by decide +kernel
theorem dX2_giveRegister_26 : decode cX2_giveRegister 26 = .ok (.aload_n 0, 1) := by decide +kernel
theorem dX2_giveRegister_27 : decode cX2_giveRegister 27 = .ok (.getfield 9, 3) := by decide +kernel
theorem dX2_giveRegister_30 : decode cX2_giveRegister 30 = .ok (.invokevirtual 91, 3) := by decide +kernel
theorem dX2_giveRegister_33 : decode cX2_giveRegister 33 = .ok (.invokestatic 95, 3) := by decide +kernel
theorem dX2_giveRegister_36 : decode cX2_giveRegister 36 = .ok (.iconst 1, 1) := by decide +kernel
theorem dX2_giveRegister_37 : decode cX2_giveRegister 37 = .ok (.isub, 1) := by decide +kernel
theorem dX2_giveRegister_38 : decode cX2_giveRegister 38 = .ok (.istore 5, 2) := by decide +kernel
theorem dX2_giveRegister_40 : decode cX2_giveRegister 40 = .ok (.iload 5, 2) := by decide +kernel
theorem dX2_giveRegister_42 : decode cX2_giveRegister 42 = .ok (.aload_n 0, 1) := by decide +kernel
theorem dX2_giveRegister_43 : decode cX2_giveRegister 43 = .ok (.aload_n 2, 1) := by decide +kernel
theorem dX2_giveRegister_44 : decode cX2_giveRegister 44 = .ok (.iload_n 3, 1) := by decide +kernel
theorem dX2_giveRegister_45 : decode cX2_giveRegister 45 = .ok (.invokevirtual 98, 3) := by decide +kernel
theorem dX2_giveRegister_48 : decode cX2_giveRegister 48 = .ok (.iconst (-1), 1) := by decide +kernel
theorem dX2_giveRegister_49 : decode cX2_giveRegister 49 = .ok (.ixor, 1) := by decide +kernel
theorem dX2_giveRegister_50 : decode cX2_giveRegister 50 = .ok (.iand, 1) := by decide +kernel
theorem dX2_giveRegister_51 : decode cX2_giveRegister 51 = .ok (.istore 6, 2) := by decide +kernel
theorem dX2_giveRegister_53 : decode cX2_giveRegister 53 = .ok (.iload 6, 2) := by decide +kernel
theorem dX2_giveRegister_55 : decode cX2_giveRegister 55 = .ok (.ifCond .ne 13, 3) := by decide +kernel
theorem dX2_giveRegister_58 : decode cX2_giveRegister 58 = .ok (.aload_n 0, 1) := by decide +kernel
theorem dX2_giveRegister_59 : decode cX2_giveRegister 59 = .ok (.aload_n 2, 1) := by decide +kernel
theorem dX2_giveRegister_60 : decode cX2_giveRegister 60 = .ok (.iload 4, 2) := by decide +kernel
theorem dX2_giveRegister_62 : decode cX2_giveRegister 62 = .ok (.iload 5, 2) := by decide +kernel
theorem dX2_giveRegister_64 : decode cX2_giveRegister 64 = .ok (.invokevirtual 102, 3) := by decide +kernel
theorem dX2_giveRegister_67 : decode cX2_giveRegister 67 = .ok (.return_, 1) := by decide +kernel
theorem dX2_giveRegister_68 : decode cX2_giveRegister 68 = .ok (.aload_n 0, 1) := by decide +kernel
theorem dX2_giveRegister_69 : decode cX2_giveRegister 69 = .ok (.aload_n 1, 1) := by decide +kernel
theorem dX2_giveRegister_70 : decode cX2_giveRegister 70 = .ok (.iload_n 3, 1) := by decide +kernel
theorem dX2_giveRegister_71 : decode cX2_giveRegister 71 = .ok (.invokevirtual 106, 3) := by decide +kernel
theorem dX2_giveRegister_74 : decode cX2_giveRegister 74 = .ok (.istore 7, 2) := by decide +kernel
theorem dX2_giveRegister_76 : decode cX2_giveRegister 76 = .ok (.aload_n 0, 1) := by decide +kernel
theorem dX2_giveRegister_77 : decode cX2_giveRegister 77 = .ok (.getfield 15, 3) := by decide +kernel
theorem dX2_giveRegister_80 : decode cX2_giveRegister 80 = .ok (.iload 4, 2) := by decide +kernel
theorem dX2_giveRegister_82 : decode cX2_giveRegister 82 = .ok (.iload 6, 2) := by decide +kernel
theorem dX2_giveRegister_84 : decode cX2_giveRegister 84 = .ok (.iload 7, 2) := by decide +kernel
theorem dX2_giveRegister_86 : decode cX2_giveRegister 86 = .ok (.invokestatic 110, 3) := by decide +kernel
theorem dX2_giveRegister_89 : decode cX2_giveRegister 89 = .ok (.ifCond .eq 8, 3) := by decide +kernel
theorem dX2_giveRegister_92 : decode cX2_giveRegister 92 = .ok (.iload 7, 2) := by decide +kernel
theorem dX2_giveRegister_94 : decode cX2_giveRegister 94 = .ok (.goto 8, 3) := by decide +kernel
theorem dX2_giveRegister_97 : decode cX2_giveRegister 97 = .ok (.iload 6, 2) := by decide +kernel
theorem dX2_giveRegister_99 : decode cX2_giveRegister 99 = .ok (.invokestatic 114, 3) := by decide +kernel
theorem dX2_giveRegister_102 : decode cX2_giveRegister 102 = .ok (.invokestatic 117, 3) := by decide +kernel
theorem dX2_giveRegister_105 : decode cX2_giveRegister 105 = .ok (.return_, 1) := by decide +kernel
theorem dX2_takenBehind_0 : decode cX2_takenBehind 0 = .ok (.iconst 0, 1) := by decide +kernel
theorem dX2_takenBehind_1 : decode cX2_takenBehind 1 = .ok (.istore_n 3, 1) := by decide +kernel
theorem dX2_takenBehind_2 : decode cX2_takenBehind 2 = .ok (.iconst 0, 1) := by decide +kernel
theorem dX2_takenBehind_3 : decode cX2_takenBehind 3 = .ok (.istore 4, 2) := by decide +kernel
theorem dX2_takenBehind_5 : decode cX2_takenBehind 5 = .ok (.iload 4, 2) := by decide +kernel
theorem dX2_takenBehind_7 : decode cX2_takenBehind 7 = .ok (.aload_n 1, 1) := by decide +kernel
theorem dX2_takenBehind_8 : decode cX2_takenBehind 8 = .ok (.getfield 69, 3) := by decide +kernel
theorem dX2_takenBehind_11 : decode cX2_takenBehind 11 = .ok (.if_icmp .ge 44, 3) := by decide +kernel
theorem dX2_takenBehind_14 : decode cX2_takenBehind 14 = .ok (.aload_n 0, 1) := by decide +kernel
theorem dX2_takenBehind_15 : decode cX2_takenBehind 15 = .ok (.getfield 15, 3) := by decide +kernel
theorem dX2_takenBehind_18 : decode cX2_takenBehind 18 = .ok (.iload 4, 2) := by decide +kernel
theorem dX2_takenBehind_20 : decode cX2_takenBehind 20 = .ok (.invokestatic 121, 3) := by decide +kernel
theorem dX2_takenBehind_23 : decode cX2_takenBehind 23 = .ok (.istore 5, 2) := by decide +kernel
theorem dX2_takenBehind_25 : decode cX2_takenBehind 25 = .ok (.iload 5, 2) := by decide +kernel
theorem dX2_takenBehind_27 : decode cX2_takenBehind 27 = .ok (.iconst (-1), 1) := by decide +kernel
theorem dX2_takenBehind_28 : decode cX2_takenBehind 28 = .ok (.if_icmp .eq 21, 3) := by decide +kernel
theorem dX2_takenBehind_31 : decode cX2_takenBehind 31 = .ok (.aload_n 1, 1) := by decide +kernel
theorem dX2_takenBehind_32 : decode cX2_takenBehind 32 = .ok (.iload 4, 2) := by decide +kernel
theorem dX2_takenBehind_34 : decode cX2_takenBehind 34 = .ok (.invokevirtual 125, 3) := by decide +kernel
theorem dX2_takenBehind_37 : decode cX2_takenBehind 37 = .ok (.iload_n 2, 1) := by decide +kernel
theorem dX2_takenBehind_38 : decode cX2_takenBehind 38 = .ok (.if_icmp .le 11, 3) := by decide +kernel
theorem dX2_takenBehind_41 : decode cX2_takenBehind 41 = .ok (.iload_n 3, 1) := by decide +kernel
theorem dX2_takenBehind_42 : decode cX2_takenBehind 42 = .ok (.iload 5, 2) := by decide +kernel
theorem dX2_takenBehind_44 : decode cX2_takenBehind 44 = .ok (.invokestatic 95, 3) := by decide +kernel
theorem dX2_takenBehind_47 : decode cX2_takenBehind 47 = .ok (.ior, 1) := by decide +kernel
theorem dX2_takenBehind_48 : decode cX2_takenBehind 48 = .ok (.istore_n 3, 1) := by decide +kernel
theorem dX2_takenBehind_49 : decode cX2_takenBehind 49 = .ok (.iinc 4 1, 3) := by decide +kernel
theorem dX2_takenBehind_52 : decode cX2_takenBehind 52 = .ok (.goto (-47), 3) := by decide +kernel
theorem dX2_takenBehind_55 : decode cX2_takenBehind 55 = .ok (.iload_n 3, 1) := by decide +kernel
theorem dX2_takenBehind_56 : decode cX2_takenBehind 56 = .ok (.ireturn, 1) := by decide +kernel
theorem dX2_likedRegister_0 : decode cX2_likedRegister 0 = .ok (.aload_n 1, 1) := by decide +kernel
theorem dX2_likedRegister_1 : decode cX2_likedRegister 1 = .ok (.iload_n 2, 1) := by decide +kernel
theorem dX2_likedRegister_2 : decode cX2_likedRegister 2 = .ok (.invokevirtual 128, 3) := by decide +kernel
theorem dX2_likedRegister_5 : decode cX2_likedRegister 5 = .ok (.istore_n 3, 1) := by decide +kernel
theorem dX2_likedRegister_6 : decode cX2_likedRegister 6 = .ok (.aload_n 0, 1) := by decide +kernel
theorem dX2_likedRegister_7 : decode cX2_likedRegister 7 = .ok (.getfield 9, 3) := by decide +kernel
theorem dX2_likedRegister_10 : decode cX2_likedRegister 10 = .ok (.getfield 131, 3) := by decide +kernel
theorem dX2_likedRegister_13 : decode cX2_likedRegister 13 = .ok (.ifCond .eq 22, 3) := by decide +kernel
theorem dX2_likedRegister_16 : decode cX2_likedRegister 16 = .ok (.iload_n 3, 1) := by decide +kernel
theorem dX2_likedRegister_17 : decode cX2_likedRegister 17 = .ok (.iconst 2, 1) := by decide +kernel
theorem dX2_likedRegister_18 : decode cX2_likedRegister 18 = .ok (.if_icmp .eq 13, 3) := by decide +kernel
theorem dX2_likedRegister_21 : decode cX2_likedRegister 21 = .ok (.iload_n 3, 1) := by decide +kernel
theorem dX2_likedRegister_22 : decode cX2_likedRegister 22 = .ok (.iconst 3, 1) := by decide +kernel
theorem dX2_likedRegister_23 : decode cX2_likedRegister 23 = .ok (.if_icmp .eq 8, 3) := by decide +kernel
theorem dX2_likedRegister_26 : decode cX2_likedRegister 26 = .ok (.iload_n 3, 1) := by decide +kernel
theorem dX2_likedRegister_27 : decode cX2_likedRegister 27 = .ok (.iconst 4, 1) := by decide +kernel
theorem dX2_likedRegister_28 : decode cX2_likedRegister 28 = .ok (.if_icmp .ne 7, 3) := by decide +kernel
theorem dX2_likedRegister_31 : decode cX2_likedRegister 31 = .ok (.iconst 1, 1) := by decide +kernel
theorem dX2_likedRegister_32 : decode cX2_likedRegister 32 = .ok (.goto 4, 3) := by decide +kernel
theorem dX2_likedRegister_35 : decode cX2_likedRegister 35 = .ok (.iconst 0, 1) := by decide +kernel
theorem dX2_likedRegister_36 : decode cX2_likedRegister 36 = .ok (.istore 4, 2) := by decide +kernel
theorem dX2_likedRegister_38 : decode cX2_likedRegister 38 = .ok (.iload_n 3, 1) := by decide +kernel
theorem dX2_likedRegister_39 : decode cX2_likedRegister 39 = .ok (.iconst 1, 1) := by decide +kernel
theorem dX2_likedRegister_40 : decode cX2_likedRegister 40 = .ok (.if_icmp .eq 8, 3) := by decide +kernel
theorem dX2_likedRegister_43 : decode cX2_likedRegister 43 = .ok (.iload 4, 2) := by decide +kernel
theorem dX2_likedRegister_45 : decode cX2_likedRegister 45 = .ok (.ifCond .eq 16, 3) := by decide +kernel
theorem dX2_likedRegister_48 : decode cX2_likedRegister 48 = .ok (.aload_n 0, 1) := by decide +kernel
theorem dX2_likedRegister_49 : decode cX2_likedRegister 49 = .ok (.aload_n 1, 1) := by decide +kernel
theorem dX2_likedRegister_50 : decode cX2_likedRegister 50 = .ok (.iload_n 2, 1) := by decide +kernel
theorem dX2_likedRegister_51 : decode cX2_likedRegister 51 = .ok (.iconst 0, 1) := by decide +kernel
theorem dX2_likedRegister_52 : decode cX2_likedRegister 52 = .ok (.invokevirtual 135, 3) := by decide +kernel
theorem dX2_likedRegister_55 : decode cX2_likedRegister 55 = .ok (.invokevirtual 139, 3) := by decide +kernel
theorem dX2_likedRegister_58 : decode cX2_likedRegister 58 = .ok (.goto 4, 3) := by decide +kernel
theorem dX2_likedRegister_61 : decode cX2_likedRegister 61 = .ok (.iconst (-1), 1) := by decide +kernel
theorem dX2_likedRegister_62 : decode cX2_likedRegister 62 = .ok (.ireturn, 1) := by decide +kernel
theorem dX2_smallestOf_0 : decode cX2_smallestOf 0 = .ok (.iconst 0, 1) := by decide +kernel
theorem dX2_smallestOf_1 : decode cX2_smallestOf 1 = .ok (.istore_n 1, 1) := by decide +kernel
theorem dX2_smallestOf_2 : decode cX2_smallestOf 2 = .ok (.iload_n 1, 1) := by decide +kernel
theorem dX2_smallestOf_3 : decode cX2_smallestOf 3 = .ok (.bipush 11, 2) := by decide +kernel
theorem dX2_smallestOf_5 : decode cX2_smallestOf 5 = .ok (.if_icmp .ge 17, 3) := by decide +kernel
theorem dX2_smallestOf_8 : decode cX2_smallestOf 8 = .ok (.iload_n 0, 1) := by decide +kernel
theorem dX2_smallestOf_9 : decode cX2_smallestOf 9 = .ok (.iload_n 1, 1) := by decide +kernel
theorem dX2_smallestOf_10 : decode cX2_smallestOf 10 = .ok (.invokestatic 110, 3) := by decide +kernel
theorem dX2_smallestOf_13 : decode cX2_smallestOf 13 = .ok (.ifCond .ne 9, 3) := by decide +kernel
theorem dX2_smallestOf_16 : decode cX2_smallestOf 16 = .ok (.iinc 1 1, 3) := by decide +kernel
theorem dX2_smallestOf_19 : decode cX2_smallestOf 19 = .ok (.goto (-17), 3) := by decide +kernel
theorem dX2_smallestOf_22 : decode cX2_smallestOf 22 = .ok (.iload_n 1, 1) := by decide +kernel
theorem dX2_smallestOf_23 : decode cX2_smallestOf 23 = .ok (.ireturn, 1) := by decide +kernel
theorem dX2_spillOne_0 : decode cX2_spillOne 0 = .ok (.aload_n 1, 1) := by decide +kernel
theorem dX2_spillOne_1 : decode cX2_spillOne 1 = .ok (.iload_n 2, 1) := by decide +kernel
theorem dX2_spillOne_2 : decode cX2_spillOne 2 = .ok (.invokevirtual 80, 3) := by decide +kernel
theorem dX2_spillOne_5 : decode cX2_spillOne 5 = .ok (.istore 4, 2) := by decide +kernel
theorem dX2_spillOne_7 : decode cX2_spillOne 7 = .ok (.iload_n 2, 1) := by decide +kernel
theorem dX2_spillOne_8 : decode cX2_spillOne 8 = .ok (.istore 5, 2) := by decide +kernel
theorem dX2_spillOne_10 : decode cX2_spillOne 10 = .ok (.iconst 0, 1) := by decide +kernel
theorem dX2_spillOne_11 : decode cX2_spillOne 11 = .ok (.istore 6, 2) := by decide +kernel
theorem dX2_spillOne_13 : decode cX2_spillOne 13 = .ok (.iload 6, 2) := by decide +kernel
theorem dX2_spillOne_15 : decode cX2_spillOne 15 = .ok (.aload_n 1, 1) := by decide +kernel
theorem dX2_spillOne_16 : decode cX2_spillOne 16 = .ok (.getfield 69, 3) := by decide +kernel
theorem dX2_spillOne_19 : decode cX2_spillOne 19 = .ok (.if_icmp .ge 51, 3) := by decide +kernel
theorem dX2_spillOne_22 : decode cX2_spillOne 22 = .ok (.iload_n 3, 1) := by decide +kernel
theorem dX2_spillOne_23 : decode cX2_spillOne 23 = .ok (.aload_n 0, 1) := by decide +kernel
theorem dX2_spillOne_24 : decode cX2_spillOne 24 = .ok (.getfield 15, 3) := by decide +kernel
theorem dX2_spillOne_27 : decode cX2_spillOne 27 = .ok (.iload 6, 2) := by decide +kernel
theorem dX2_spillOne_29 : decode cX2_spillOne 29 = .ok (.invokestatic 121, 3) := by decide +kernel
theorem dX2_spillOne_32 : decode cX2_spillOne 32 = .ok (.invokestatic 110, 3) := by decide +kernel
theorem dX2_spillOne_35 : decode cX2_spillOne 35 = .ok (.ifCond .eq 29, 3) := by decide +kernel
theorem dX2_spillOne_38 : decode cX2_spillOne 38 = .ok (.aload_n 1, 1) := by decide +kernel
theorem dX2_spillOne_39 : decode cX2_spillOne 39 = .ok (.iload 6, 2) := by decide +kernel
theorem dX2_spillOne_41 : decode cX2_spillOne 41 = .ok (.invokevirtual 125, 3) := by decide +kernel
theorem dX2_spillOne_44 : decode cX2_spillOne 44 = .ok (.iload 4, 2) := by decide +kernel
theorem dX2_spillOne_46 : decode cX2_spillOne 46 = .ok (.if_icmp .le 18, 3) := by decide +kernel
theorem dX2_spillOne_49 : decode cX2_spillOne 49 = .ok (.aload_n 1, 1) := by decide +kernel
theorem dX2_spillOne_50 : decode cX2_spillOne 50 = .ok (.iload 6, 2) := by decide +kernel
theorem dX2_spillOne_52 : decode cX2_spillOne 52 = .ok (.iload 5, 2) := by decide +kernel
theorem dX2_spillOne_54 : decode cX2_spillOne 54 = .ok (.invokestatic 142, 3) := by decide +kernel
theorem dX2_spillOne_57 : decode cX2_spillOne 57 = .ok (.ifCond .eq 7, 3) := by decide +kernel
theorem dX2_spillOne_60 : decode cX2_spillOne 60 = .ok (.iload 6, 2) := by decide +kernel
theorem dX2_spillOne_62 : decode cX2_spillOne 62 = .ok (.istore 5, 2) := by decide +kernel
theorem dX2_spillOne_64 : decode cX2_spillOne 64 = .ok (.iinc 6 1, 3) := by decide +kernel
theorem dX2_spillOne_67 : decode cX2_spillOne 67 = .ok (.goto (-54), 3) := by decide +kernel
theorem dX2_spillOne_70 : decode cX2_spillOne 70 = .ok (.iload 5, 2) := by decide +kernel
theorem dX2_spillOne_72 : decode cX2_spillOne 72 = .ok (.iload_n 2, 1) := by decide +kernel
theorem dX2_spillOne_73 : decode cX2_spillOne 73 = .ok (.if_icmp .eq 30, 3) := by decide +kernel
theorem dX2_spillOne_76 : decode cX2_spillOne 76 = .ok (.aload_n 0, 1) := by decide +kernel
theorem dX2_spillOne_77 : decode cX2_spillOne 77 = .ok (.getfield 15, 3) := by decide +kernel
theorem dX2_spillOne_80 : decode cX2_spillOne 80 = .ok (.iload_n 2, 1) := by decide +kernel
theorem dX2_spillOne_81 : decode cX2_spillOne 81 = .ok (.aload_n 0, 1) := by decide +kernel
theorem dX2_spillOne_82 : decode cX2_spillOne 82 = .ok (.getfield 15, 3) := by decide +kernel
theorem dX2_spillOne_85 : decode cX2_spillOne 85 = .ok (.iload 5, 2) := by decide +kernel
theorem dX2_spillOne_87 : decode cX2_spillOne 87 = .ok (.invokestatic 121, 3) := by decide +kernel
theorem dX2_spillOne_90 : decode cX2_spillOne 90 = .ok (.invokestatic 117, 3) := by decide +kernel
theorem dX2_spillOne_93 : decode cX2_spillOne 93 = .ok (.aload_n 0, 1) := by decide +kernel
theorem dX2_spillOne_94 : decode cX2_spillOne 94 = .ok (.getfield 15, 3) := by decide +kernel
theorem dX2_spillOne_97 : decode cX2_spillOne 97 = .ok (.iload 5, 2) := by decide +kernel
theorem dX2_spillOne_99 : decode cX2_spillOne 99 = .ok (.iconst (-1), 1) := by decide +kernel
theorem dX2_spillOne_100 : decode cX2_spillOne 100 = .ok (.invokestatic 117, 3) := by decide +kernel
theorem dX2_spillOne_103 : decode cX2_spillOne 103 = .ok (.return_, 1) := by decide +kernel
theorem dX2_isLighter_0 : decode cX2_isLighter 0 = .ok (.aload_n 0, 1) := by decide +kernel
theorem dX2_isLighter_1 : decode cX2_isLighter 1 = .ok (.getfield 146, 3) := by decide +kernel
theorem dX2_isLighter_4 : decode cX2_isLighter 4 = .ok (.iload_n 1, 1) := by decide +kernel
theorem dX2_isLighter_5 : decode cX2_isLighter 5 = .ok (.invokestatic 121, 3) := by decide +kernel
theorem dX2_isLighter_8 : decode cX2_isLighter 8 = .ok (.aload_n 0, 1) := by decide +kernel
theorem dX2_isLighter_9 : decode cX2_isLighter 9 = .ok (.getfield 146, 3) := by decide +kernel
theorem dX2_isLighter_12 : decode cX2_isLighter 12 = .ok (.iload_n 2, 1) := by decide +kernel
theorem dX2_isLighter_13 : decode cX2_isLighter 13 = .ok (.invokestatic 121, 3) := by decide +kernel
theorem dX2_isLighter_16 : decode cX2_isLighter 16 = .ok (.isub, 1) := by decide +kernel
theorem dX2_isLighter_17 : decode cX2_isLighter 17 = .ok (.istore_n 3, 1) := by decide +kernel
theorem dX2_isLighter_18 : decode cX2_isLighter 18 = .ok (.iload_n 3, 1) := by decide +kernel
theorem dX2_isLighter_19 : decode cX2_isLighter 19 = .ok (.ifCond .lt 12, 3) := by decide +kernel
theorem dX2_isLighter_22 : decode cX2_isLighter 22 = .ok (.iload_n 3, 1) := by decide +kernel
theorem dX2_isLighter_23 : decode cX2_isLighter 23 = .ok (.ifCond .ne 12, 3) := by decide +kernel
theorem dX2_isLighter_26 : decode cX2_isLighter 26 = .ok (.iload_n 1, 1) := by decide +kernel
theorem dX2_isLighter_27 : decode cX2_isLighter 27 = .ok (.iload_n 2, 1) := by decide +kernel
theorem dX2_isLighter_28 : decode cX2_isLighter 28 = .ok (.if_icmp .le 7, 3) := by decide +kernel
theorem dX2_isLighter_31 : decode cX2_isLighter 31 = .ok (.iconst 1, 1) := by decide +kernel
theorem dX2_isLighter_32 : decode cX2_isLighter 32 = .ok (.goto 4, 3) := by decide +kernel
theorem dX2_isLighter_35 : decode cX2_isLighter 35 = .ok (.iconst 0, 1) := by decide +kernel
theorem dX2_isLighter_36 : decode cX2_isLighter 36 = .ok (.ireturn, 1) := by decide +kernel
theorem dX2_giveSlot_0 : decode cX2_giveSlot 0 = .ok (.aload_n 1, 1) := by decide +kernel
theorem dX2_giveSlot_1 : decode cX2_giveSlot 1 = .ok (.iload_n 3, 1) := by decide +kernel
theorem dX2_giveSlot_2 : decode cX2_giveSlot 2 = .ok (.invokevirtual 58, 3) := by decide +kernel
theorem dX2_giveSlot_5 : decode cX2_giveSlot 5 = .ok (.istore 4, 2) := by decide +kernel
theorem dX2_giveSlot_7 : decode cX2_giveSlot 7 = .ok (.aload_n 2, 1) := by decide +kernel
theorem dX2_giveSlot_8 : decode cX2_giveSlot 8 = .ok (.iload 4, 2) := by decide +kernel
theorem dX2_giveSlot_10 : decode cX2_giveSlot 10 = .ok (.invokevirtual 149, 3) := by decide +kernel
theorem dX2_giveSlot_13 : decode cX2_giveSlot 13 = .ok (.iconst 1, 1) := by decide +kernel
theorem dX2_giveSlot_14 : decode cX2_giveSlot 14 = .ok (.if_icmp .ne 46, 3) := by decide +kernel
theorem dX2_giveSlot_17 : decode cX2_giveSlot 17 = .ok (.aload_n 1, 1) := by decide +kernel
theorem dX2_giveSlot_18 : decode cX2_giveSlot 18 = .ok (.iload_n 3, 1) := by decide +kernel
theorem dX2_giveSlot_19 : decode cX2_giveSlot 19 = .ok (.invokevirtual 128, 3) := by decide +kernel
theorem dX2_giveSlot_22 : decode cX2_giveSlot 22 = .ok (.ifCond .ne 38, 3) := by decide +kernel
theorem dX2_giveSlot_25 : decode cX2_giveSlot 25 = .ok (.aload_n 0, 1) := by decide +kernel
theorem dX2_giveSlot_26 : decode cX2_giveSlot 26 = .ok (.getfield 22, 3) := by decide +kernel
theorem dX2_giveSlot_29 : decode cX2_giveSlot 29 = .ok (.iload 4, 2) := by decide +kernel
theorem dX2_giveSlot_31 : decode cX2_giveSlot 31 = .ok (.iconst 1, 1) := by decide +kernel
theorem dX2_giveSlot_32 : decode cX2_giveSlot 32 = .ok (.invokestatic 117, 3) := by decide +kernel
theorem dX2_giveSlot_35 : decode cX2_giveSlot 35 = .ok (.aload_n 0, 1) := by decide +kernel
theorem dX2_giveSlot_36 : decode cX2_giveSlot 36 = .ok (.getfield 25, 3) := by decide +kernel
theorem dX2_giveSlot_39 : decode cX2_giveSlot 39 = .ok (.iload 4, 2) := by decide +kernel
theorem dX2_giveSlot_41 : decode cX2_giveSlot 41 = .ok (.aload_n 1, 1) := by decide +kernel
theorem dX2_giveSlot_42 : decode cX2_giveSlot 42 = .ok (.iload_n 3, 1) := by decide +kernel
theorem dX2_giveSlot_43 : decode cX2_giveSlot 43 = .ok (.invokevirtual 152, 3) := by decide +kernel
theorem dX2_giveSlot_46 : decode cX2_giveSlot 46 = .ok (.invokestatic 117, 3) := by decide +kernel
theorem dX2_giveSlot_49 : decode cX2_giveSlot 49 = .ok (.aload_n 0, 1) := by decide +kernel
theorem dX2_giveSlot_50 : decode cX2_giveSlot 50 = .ok (.dup, 1) := by decide +kernel
theorem dX2_giveSlot_51 : decode cX2_giveSlot 51 = .ok (.getfield 35, 3) := by decide +kernel
theorem dX2_giveSlot_54 : decode cX2_giveSlot 54 = .ok (.iconst 1, 1) := by decide +kernel
theorem dX2_giveSlot_55 : decode cX2_giveSlot 55 = .ok (.iadd, 1) := by decide +kernel
theorem dX2_giveSlot_56 : decode cX2_giveSlot 56 = .ok (.putfield 35, 3) := by decide +kernel
theorem dX2_giveSlot_59 : decode cX2_giveSlot 59 = .ok (.return_, 1) := by decide +kernel
theorem dX2_giveSlot_60 : decode cX2_giveSlot 60 = .ok (.aload_n 0, 1) := by decide +kernel
theorem dX2_giveSlot_61 : decode cX2_giveSlot 61 = .ok (.aload_n 2, 1) := by decide +kernel
theorem dX2_giveSlot_62 : decode cX2_giveSlot 62 = .ok (.iload_n 3, 1) := by decide +kernel
end
section
theorem dX2_giveSlot_63 : decode cX2_giveSlot 63 = .ok (.invokevirtual 155, 3) := by decide +kernel
theorem dX2_giveSlot_66 : decode cX2_giveSlot 66 = .ok (.istore 5, 2) := by decide +kernel
theorem dX2_giveSlot_68 : decode cX2_giveSlot 68 = .ok (.aload_n 0, 1) := by decide +kernel
theorem dX2_giveSlot_69 : decode cX2_giveSlot 69 = .ok (.getfield 19, 3) := by decide +kernel
theorem dX2_giveSlot_72 : decode cX2_giveSlot 72 = .ok (.iload 4, 2) := by decide +kernel
theorem dX2_giveSlot_74 : decode cX2_giveSlot 74 = .ok (.iload 5, 2) := by decide +kernel
theorem dX2_giveSlot_76 : decode cX2_giveSlot 76 = .ok (.invokestatic 117, 3) := by decide +kernel
theorem dX2_giveSlot_79 : decode cX2_giveSlot 79 = .ok (.aload_n 0, 1) := by decide +kernel
theorem dX2_giveSlot_80 : decode cX2_giveSlot 80 = .ok (.aload_n 0, 1) := by decide +kernel
theorem dX2_giveSlot_81 : decode cX2_giveSlot 81 = .ok (.getfield 38, 3) := by decide +kernel
theorem dX2_giveSlot_84 : decode cX2_giveSlot 84 = .ok (.iload 5, 2) := by decide +kernel
theorem dX2_giveSlot_86 : decode cX2_giveSlot 86 = .ok (.iconst 1, 1) := by decide +kernel
theorem dX2_giveSlot_87 : decode cX2_giveSlot 87 = .ok (.iadd, 1) := by decide +kernel
theorem dX2_giveSlot_88 : decode cX2_giveSlot 88 = .ok (.invokestatic 158, 3) := by decide +kernel
theorem dX2_giveSlot_91 : decode cX2_giveSlot 91 = .ok (.putfield 38, 3) := by decide +kernel
theorem dX2_giveSlot_94 : decode cX2_giveSlot 94 = .ok (.return_, 1) := by decide +kernel
theorem dX2_firstSlotFree_0 : decode cX2_firstSlotFree 0 = .ok (.aload_n 0, 1) := by decide +kernel
theorem dX2_firstSlotFree_1 : decode cX2_firstSlotFree 1 = .ok (.getfield 28, 3) := by decide +kernel
theorem dX2_firstSlotFree_4 : decode cX2_firstSlotFree 4 = .ok (.iconst 0, 1) := by decide +kernel
theorem dX2_firstSlotFree_5 : decode cX2_firstSlotFree 5 = .ok (.invokestatic 41, 3) := by decide +kernel
theorem dX2_firstSlotFree_8 : decode cX2_firstSlotFree 8 = .ok (.iconst 0, 1) := by decide +kernel
theorem dX2_firstSlotFree_9 : decode cX2_firstSlotFree 9 = .ok (.istore_n 3, 1) := by decide +kernel
theorem dX2_firstSlotFree_10 : decode cX2_firstSlotFree 10 = .ok (.iload_n 3, 1) := by decide +kernel
theorem dX2_firstSlotFree_11 : decode cX2_firstSlotFree 11 = .ok (.aload_n 1, 1) := by decide +kernel
theorem dX2_firstSlotFree_12 : decode cX2_firstSlotFree 12 = .ok (.getfield 69, 3) := by decide +kernel
theorem dX2_firstSlotFree_15 : decode cX2_firstSlotFree 15 = .ok (.if_icmp .ge 46, 3) := by decide +kernel
theorem dX2_firstSlotFree_18 : decode cX2_firstSlotFree 18 = .ok (.aload_n 0, 1) := by decide +kernel
theorem dX2_firstSlotFree_19 : decode cX2_firstSlotFree 19 = .ok (.getfield 19, 3) := by decide +kernel
theorem dX2_firstSlotFree_22 : decode cX2_firstSlotFree 22 = .ok (.iload_n 3, 1) := by decide +kernel
theorem dX2_firstSlotFree_23 : decode cX2_firstSlotFree 23 = .ok (.invokestatic 121, 3) := by decide +kernel
theorem dX2_firstSlotFree_26 : decode cX2_firstSlotFree 26 = .ok (.iconst (-1), 1) := by decide +kernel
theorem dX2_firstSlotFree_27 : decode cX2_firstSlotFree 27 = .ok (.if_icmp .eq 28, 3) := by decide +kernel
theorem dX2_firstSlotFree_30 : decode cX2_firstSlotFree 30 = .ok (.aload_n 1, 1) := by decide +kernel
theorem dX2_firstSlotFree_31 : decode cX2_firstSlotFree 31 = .ok (.iload_n 3, 1) := by decide +kernel
theorem dX2_firstSlotFree_32 : decode cX2_firstSlotFree 32 = .ok (.invokevirtual 125, 3) := by decide +kernel
theorem dX2_firstSlotFree_35 : decode cX2_firstSlotFree 35 = .ok (.iload_n 2, 1) := by decide +kernel
theorem dX2_firstSlotFree_36 : decode cX2_firstSlotFree 36 = .ok (.if_icmp .lt 19, 3) := by decide +kernel
theorem dX2_firstSlotFree_39 : decode cX2_firstSlotFree 39 = .ok (.aload_n 0, 1) := by decide +kernel
theorem dX2_firstSlotFree_40 : decode cX2_firstSlotFree 40 = .ok (.getfield 28, 3) := by decide +kernel
theorem dX2_firstSlotFree_43 : decode cX2_firstSlotFree 43 = .ok (.aload_n 0, 1) := by decide +kernel
theorem dX2_firstSlotFree_44 : decode cX2_firstSlotFree 44 = .ok (.getfield 19, 3) := by decide +kernel
theorem dX2_firstSlotFree_47 : decode cX2_firstSlotFree 47 = .ok (.iload_n 3, 1) := by decide +kernel
theorem dX2_firstSlotFree_48 : decode cX2_firstSlotFree 48 = .ok (.invokestatic 121, 3) := by decide +kernel
theorem dX2_firstSlotFree_51 : decode cX2_firstSlotFree 51 = .ok (.iconst 1, 1) := by decide +kernel
theorem dX2_firstSlotFree_52 : decode cX2_firstSlotFree 52 = .ok (.invokestatic 117, 3) := by decide +kernel
theorem dX2_firstSlotFree_55 : decode cX2_firstSlotFree 55 = .ok (.iinc 3 1, 3) := by decide +kernel
theorem dX2_firstSlotFree_58 : decode cX2_firstSlotFree 58 = .ok (.goto (-48), 3) := by decide +kernel
theorem dX2_firstSlotFree_61 : decode cX2_firstSlotFree 61 = .ok (.iconst 0, 1) := by decide +kernel
theorem dX2_firstSlotFree_62 : decode cX2_firstSlotFree 62 = .ok (.istore_n 3, 1) := by decide +kernel
theorem dX2_firstSlotFree_63 : decode cX2_firstSlotFree 63 = .ok (.iload_n 3, 1) := by decide +kernel
theorem dX2_firstSlotFree_64 : decode cX2_firstSlotFree 64 = .ok (.bipush 88, 2) := by decide +kernel
theorem dX2_firstSlotFree_66 : decode cX2_firstSlotFree 66 = .ok (.if_icmp .ge 21, 3) := by decide +kernel
theorem dX2_firstSlotFree_69 : decode cX2_firstSlotFree 69 = .ok (.aload_n 0, 1) := by decide +kernel
theorem dX2_firstSlotFree_70 : decode cX2_firstSlotFree 70 = .ok (.getfield 28, 3) := by decide +kernel
theorem dX2_firstSlotFree_73 : decode cX2_firstSlotFree 73 = .ok (.iload_n 3, 1) := by decide +kernel
theorem dX2_firstSlotFree_74 : decode cX2_firstSlotFree 74 = .ok (.invokestatic 121, 3) := by decide +kernel
theorem dX2_firstSlotFree_77 : decode cX2_firstSlotFree 77 = .ok (.iconst 1, 1) := by decide +kernel
theorem dX2_firstSlotFree_78 : decode cX2_firstSlotFree 78 = .ok (.if_icmp .ne 9, 3) := by decide +kernel
theorem dX2_firstSlotFree_81 : decode cX2_firstSlotFree 81 = .ok (.iinc 3 1, 3) := by decide +kernel
theorem dX2_firstSlotFree_84 : decode cX2_firstSlotFree 84 = .ok (.goto (-21), 3) := by decide +kernel
theorem dX2_firstSlotFree_87 : decode cX2_firstSlotFree 87 = .ok (.iload_n 3, 1) := by decide +kernel
theorem dX2_firstSlotFree_88 : decode cX2_firstSlotFree 88 = .ok (.ireturn, 1) := by decide +kernel
theorem dX2_keptInUse_0 : decode cX2_keptInUse 0 = .ok (.iconst 0, 1) := by decide +kernel
theorem dX2_keptInUse_1 : decode cX2_keptInUse 1 = .ok (.istore_n 2, 1) := by decide +kernel
theorem dX2_keptInUse_2 : decode cX2_keptInUse 2 = .ok (.iconst 0, 1) := by decide +kernel
theorem dX2_keptInUse_3 : decode cX2_keptInUse 3 = .ok (.istore_n 3, 1) := by decide +kernel
theorem dX2_keptInUse_4 : decode cX2_keptInUse 4 = .ok (.iload_n 3, 1) := by decide +kernel
theorem dX2_keptInUse_5 : decode cX2_keptInUse 5 = .ok (.iload_n 1, 1) := by decide +kernel
theorem dX2_keptInUse_6 : decode cX2_keptInUse 6 = .ok (.if_icmp .ge 23, 3) := by decide +kernel
theorem dX2_keptInUse_9 : decode cX2_keptInUse 9 = .ok (.iload_n 2, 1) := by decide +kernel
theorem dX2_keptInUse_10 : decode cX2_keptInUse 10 = .ok (.aload_n 0, 1) := by decide +kernel
theorem dX2_keptInUse_11 : decode cX2_keptInUse 11 = .ok (.getfield 15, 3) := by decide +kernel
theorem dX2_keptInUse_14 : decode cX2_keptInUse 14 = .ok (.iload_n 3, 1) := by decide +kernel
theorem dX2_keptInUse_15 : decode cX2_keptInUse 15 = .ok (.invokestatic 121, 3) := by decide +kernel
theorem dX2_keptInUse_18 : decode cX2_keptInUse 18 = .ok (.invokestatic 95, 3) := by decide +kernel
theorem dX2_keptInUse_21 : decode cX2_keptInUse 21 = .ok (.ior, 1) := by decide +kernel
theorem dX2_keptInUse_22 : decode cX2_keptInUse 22 = .ok (.istore_n 2, 1) := by decide +kernel
theorem dX2_keptInUse_23 : decode cX2_keptInUse 23 = .ok (.iinc 3 1, 3) := by decide +kernel
theorem dX2_keptInUse_26 : decode cX2_keptInUse 26 = .ok (.goto (-22), 3) := by decide +kernel
theorem dX2_keptInUse_29 : decode cX2_keptInUse 29 = .ok (.iload_n 2, 1) := by decide +kernel
theorem dX2_keptInUse_30 : decode cX2_keptInUse 30 = .ok (.aload_n 0, 1) := by decide +kernel
theorem dX2_keptInUse_31 : decode cX2_keptInUse 31 = .ok (.getfield 9, 3) := by decide +kernel
theorem dX2_keptInUse_34 : decode cX2_keptInUse 34 = .ok (.getfield 86, 3) := by decide +kernel
theorem dX2_keptInUse_37 : decode cX2_keptInUse 37 = .ok (.iand, 1) := by decide +kernel
theorem dX2_keptInUse_38 : decode cX2_keptInUse 38 = .ok (.invokestatic 163, 3) := by decide +kernel
theorem dX2_keptInUse_41 : decode cX2_keptInUse 41 = .ok (.ireturn, 1) := by decide +kernel
theorem dX2_isSpilled_0 : decode cX2_isSpilled 0 = .ok (.aload_n 0, 1) := by decide +kernel
theorem dX2_isSpilled_1 : decode cX2_isSpilled 1 = .ok (.getfield 15, 3) := by decide +kernel
theorem dX2_isSpilled_4 : decode cX2_isSpilled 4 = .ok (.iload_n 1, 1) := by decide +kernel
theorem dX2_isSpilled_5 : decode cX2_isSpilled 5 = .ok (.invokestatic 121, 3) := by decide +kernel
theorem dX2_isSpilled_8 : decode cX2_isSpilled 8 = .ok (.iconst (-1), 1) := by decide +kernel
theorem dX2_isSpilled_9 : decode cX2_isSpilled 9 = .ok (.if_icmp .ne 7, 3) := by decide +kernel
theorem dX2_isSpilled_12 : decode cX2_isSpilled 12 = .ok (.iconst 1, 1) := by decide +kernel
theorem dX2_isSpilled_13 : decode cX2_isSpilled 13 = .ok (.goto 4, 3) := by decide +kernel
theorem dX2_isSpilled_16 : decode cX2_isSpilled 16 = .ok (.iconst 0, 1) := by decide +kernel
theorem dX2_isSpilled_17 : decode cX2_isSpilled 17 = .ok (.ireturn, 1) := by decide +kernel
theorem dX2_registerOf_0 : decode cX2_registerOf 0 = .ok (.aload_n 0, 1) := by decide +kernel
theorem dX2_registerOf_1 : decode cX2_registerOf 1 = .ok (.getfield 15, 3) := by decide +kernel
theorem dX2_registerOf_4 : decode cX2_registerOf 4 = .ok (.iload_n 1, 1) := by decide +kernel
theorem dX2_registerOf_5 : decode cX2_registerOf 5 = .ok (.invokestatic 121, 3) := by decide +kernel
theorem dX2_registerOf_8 : decode cX2_registerOf 8 = .ok (.ireturn, 1) := by decide +kernel
theorem dX2_slotOf_0 : decode cX2_slotOf 0 = .ok (.aload_n 0, 1) := by decide +kernel
theorem dX2_slotOf_1 : decode cX2_slotOf 1 = .ok (.getfield 19, 3) := by decide +kernel
theorem dX2_slotOf_4 : decode cX2_slotOf 4 = .ok (.iload_n 1, 1) := by decide +kernel
theorem dX2_slotOf_5 : decode cX2_slotOf 5 = .ok (.invokestatic 121, 3) := by decide +kernel
theorem dX2_slotOf_8 : decode cX2_slotOf 8 = .ok (.ireturn, 1) := by decide +kernel
theorem dX2_isRemade_0 : decode cX2_isRemade 0 = .ok (.aload_n 0, 1) := by decide +kernel
theorem dX2_isRemade_1 : decode cX2_isRemade 1 = .ok (.getfield 22, 3) := by decide +kernel
theorem dX2_isRemade_4 : decode cX2_isRemade 4 = .ok (.iload_n 1, 1) := by decide +kernel
theorem dX2_isRemade_5 : decode cX2_isRemade 5 = .ok (.invokestatic 121, 3) := by decide +kernel
theorem dX2_isRemade_8 : decode cX2_isRemade 8 = .ok (.iconst 1, 1) := by decide +kernel
theorem dX2_isRemade_9 : decode cX2_isRemade 9 = .ok (.if_icmp .ne 7, 3) := by decide +kernel
theorem dX2_isRemade_12 : decode cX2_isRemade 12 = .ok (.iconst 1, 1) := by decide +kernel
theorem dX2_isRemade_13 : decode cX2_isRemade 13 = .ok (.goto 4, 3) := by decide +kernel
theorem dX2_isRemade_16 : decode cX2_isRemade 16 = .ok (.iconst 0, 1) := by decide +kernel
theorem dX2_isRemade_17 : decode cX2_isRemade 17 = .ok (.ireturn, 1) := by decide +kernel
theorem dX2_numberOf_0 : decode cX2_numberOf 0 = .ok (.aload_n 0, 1) := by decide +kernel
theorem dX2_numberOf_1 : decode cX2_numberOf 1 = .ok (.getfield 25, 3) := by decide +kernel
theorem dX2_numberOf_4 : decode cX2_numberOf 4 = .ok (.iload_n 1, 1) := by decide +kernel
theorem dX2_numberOf_5 : decode cX2_numberOf 5 = .ok (.invokestatic 121, 3) := by decide +kernel
theorem dX2_numberOf_8 : decode cX2_numberOf 8 = .ok (.ireturn, 1) := by decide +kernel
theorem dX3_init_0 : decode cX3_init 0 = .ok (.aload_n 0, 1) := by decide +kernel
theorem dX3_init_1 : decode cX3_init 1 = .ok (.invokespecial 3, 3) := by decide +kernel
theorem dX3_init_4 : decode cX3_init 4 = .ok (.aload_n 0, 1) := by decide +kernel
theorem dX3_init_5 : decode cX3_init 5 = .ok (.bipush 88, 2) := by decide +kernel
theorem dX3_init_7 : decode cX3_init 7 = .ok (.newarray .int, 2) := by decide +kernel
theorem dX3_init_9 : decode cX3_init 9 = .ok (.putfield 9, 3) := by decide +kernel
theorem dX3_init_12 : decode cX3_init 12 = .ok (.aload_n 0, 1) := by decide +kernel
theorem dX3_init_13 : decode cX3_init 13 = .ok (.bipush 88, 2) := by decide +kernel
theorem dX3_init_15 : decode cX3_init 15 = .ok (.newarray .int, 2) := by decide +kernel
theorem dX3_init_17 : decode cX3_init 17 = .ok (.putfield 15, 3) := by decide +kernel
theorem dX3_init_20 : decode cX3_init 20 = .ok (.aload_n 0, 1) := by decide +kernel
theorem dX3_init_21 : decode cX3_init 21 = .ok (.sipush 264, 3) := by decide +kernel
theorem dX3_init_24 : decode cX3_init 24 = .ok (.newarray .int, 2) := by decide +kernel
theorem dX3_init_26 : decode cX3_init 26 = .ok (.putfield 18, 3) := by decide +kernel
theorem dX3_init_29 : decode cX3_init 29 = .ok (.aload_n 0, 1) := by decide +kernel
theorem dX3_init_30 : decode cX3_init 30 = .ok (.bipush 88, 2) := by decide +kernel
theorem dX3_init_32 : decode cX3_init 32 = .ok (.newarray .int, 2) := by decide +kernel
theorem dX3_init_34 : decode cX3_init 34 = .ok (.putfield 21, 3) := by decide +kernel
theorem dX3_init_37 : decode cX3_init 37 = .ok (.aload_n 0, 1) := by decide +kernel
theorem dX3_init_38 : decode cX3_init 38 = .ok (.bipush 88, 2) := by decide +kernel
theorem dX3_init_40 : decode cX3_init 40 = .ok (.newarray .int, 2) := by decide +kernel
theorem dX3_init_42 : decode cX3_init 42 = .ok (.putfield 24, 3) := by decide +kernel
theorem dX3_init_45 : decode cX3_init 45 = .ok (.aload_n 0, 1) := by decide +kernel
theorem dX3_init_46 : decode cX3_init 46 = .ok (.bipush 88, 2) := by decide +kernel
theorem dX3_init_48 : decode cX3_init 48 = .ok (.newarray .int, 2) := by decide +kernel
theorem dX3_init_50 : decode cX3_init 50 = .ok (.putfield 27, 3) := by decide +kernel
theorem dX3_init_53 : decode cX3_init 53 = .ok (.return_, 1) := by decide +kernel
theorem dX3_clear_0 : decode cX3_clear 0 = .ok (.aload_n 0, 1) := by decide +kernel
theorem dX3_clear_1 : decode cX3_clear 1 = .ok (.iconst 0, 1) := by decide +kernel
theorem dX3_clear_2 : decode cX3_clear 2 = .ok (.putfield 30, 3) := by decide +kernel
theorem dX3_clear_5 : decode cX3_clear 5 = .ok (.return_, 1) := by decide +kernel
theorem dX3_add_0 : decode cX3_add 0 = .ok (.aload_n 0, 1) := by decide +kernel
theorem dX3_add_1 : decode cX3_add 1 = .ok (.getfield 30, 3) := by decide +kernel
theorem dX3_add_4 : decode cX3_add 4 = .ok (.bipush 88, 2) := by decide +kernel
theorem dX3_add_6 : decode cX3_add 6 = .ok (.if_icmp .lt 4, 3) := by decide +kernel
theorem dX3_add_9 : decode cX3_add 9 = .ok (.return_, 1) := by decide +kernel
theorem dX3_add_10 : decode cX3_add 10 = .ok (.aload_n 0, 1) := by decide +kernel
theorem dX3_add_11 : decode cX3_add 11 = .ok (.getfield 9, 3) := by decide +kernel
theorem dX3_add_14 : decode cX3_add 14 = .ok (.aload_n 0, 1) := by decide +kernel
theorem dX3_add_15 : decode cX3_add 15 = .ok (.getfield 30, 3) := by decide +kernel
theorem dX3_add_18 : decode cX3_add 18 = .ok (.iload_n 1, 1) := by decide +kernel
theorem dX3_add_19 : decode cX3_add 19 = .ok (.invokestatic 34, 3) := by decide +kernel
theorem dX3_add_22 : decode cX3_add 22 = .ok (.aload_n 0, 1) := by decide +kernel
theorem dX3_add_23 : decode cX3_add 23 = .ok (.getfield 15, 3) := by decide +kernel
theorem dX3_add_26 : decode cX3_add 26 = .ok (.aload_n 0, 1) := by decide +kernel
theorem dX3_add_27 : decode cX3_add 27 = .ok (.getfield 30, 3) := by decide +kernel
theorem dX3_add_30 : decode cX3_add 30 = .ok (.iload_n 2, 1) := by decide +kernel
theorem dX3_add_31 : decode cX3_add 31 = .ok (.invokestatic 34, 3) := by decide +kernel
theorem dX3_add_34 : decode cX3_add 34 = .ok (.aload_n 0, 1) := by decide +kernel
theorem dX3_add_35 : decode cX3_add 35 = .ok (.getfield 21, 3) := by decide +kernel
theorem dX3_add_38 : decode cX3_add 38 = .ok (.aload_n 0, 1) := by decide +kernel
theorem dX3_add_39 : decode cX3_add 39 = .ok (.getfield 30, 3) := by decide +kernel
theorem dX3_add_42 : decode cX3_add 42 = .ok (.iconst 0, 1) := by decide +kernel
theorem dX3_add_43 : decode cX3_add 43 = .ok (.invokestatic 34, 3) := by decide +kernel
theorem dX3_add_46 : decode cX3_add 46 = .ok (.aload_n 0, 1) := by decide +kernel
theorem dX3_add_47 : decode cX3_add 47 = .ok (.getfield 24, 3) := by decide +kernel
theorem dX3_add_50 : decode cX3_add 50 = .ok (.aload_n 0, 1) := by decide +kernel
theorem dX3_add_51 : decode cX3_add 51 = .ok (.getfield 30, 3) := by decide +kernel
theorem dX3_add_54 : decode cX3_add 54 = .ok (.iload_n 3, 1) := by decide +kernel
theorem dX3_add_55 : decode cX3_add 55 = .ok (.invokestatic 34, 3) := by decide +kernel
theorem dX3_add_58 : decode cX3_add 58 = .ok (.aload_n 0, 1) := by decide +kernel
theorem dX3_add_59 : decode cX3_add 59 = .ok (.getfield 27, 3) := by decide +kernel
theorem dX3_add_62 : decode cX3_add 62 = .ok (.aload_n 0, 1) := by decide +kernel
theorem dX3_add_63 : decode cX3_add 63 = .ok (.getfield 30, 3) := by decide +kernel
theorem dX3_add_66 : decode cX3_add 66 = .ok (.iconst 0, 1) := by decide +kernel
theorem dX3_add_67 : decode cX3_add 67 = .ok (.invokestatic 34, 3) := by decide +kernel
theorem dX3_add_70 : decode cX3_add 70 = .ok (.aload_n 0, 1) := by decide +kernel
theorem dX3_add_71 : decode cX3_add 71 = .ok (.dup, 1) := by decide +kernel
theorem dX3_add_72 : decode cX3_add 72 = .ok (.getfield 30, 3) := by decide +kernel
theorem dX3_add_75 : decode cX3_add 75 = .ok (.iconst 1, 1) := by decide +kernel
theorem dX3_add_76 : decode cX3_add 76 = .ok (.iadd, 1) := by decide +kernel
theorem dX3_add_77 : decode cX3_add 77 = .ok (.putfield 30, 3) := by decide +kernel
theorem dX3_add_80 : decode cX3_add 80 = .ok (.return_, 1) := by decide +kernel
theorem dX3_setReads_0 : decode cX3_setReads 0 = .ok (.iconst 3, 1) := by decide +kernel
theorem dX3_setReads_1 : decode cX3_setReads 1 = .ok (.aload_n 0, 1) := by decide +kernel
theorem dX3_setReads_2 : decode cX3_setReads 2 = .ok (.getfield 30, 3) := by decide +kernel
theorem dX3_setReads_5 : decode cX3_setReads 5 = .ok (.iconst 1, 1) := by decide +kernel
theorem dX3_setReads_6 : decode cX3_setReads 6 = .ok (.isub, 1) := by decide +kernel
theorem dX3_setReads_7 : decode cX3_setReads 7 = .ok (.imul, 1) := by decide +kernel
theorem dX3_setReads_8 : decode cX3_setReads 8 = .ok (.istore 4, 2) := by decide +kernel
theorem dX3_setReads_10 : decode cX3_setReads 10 = .ok (.aload_n 0, 1) := by decide +kernel
theorem dX3_setReads_11 : decode cX3_setReads 11 = .ok (.getfield 18, 3) := by decide +kernel
theorem dX3_setReads_14 : decode cX3_setReads 14 = .ok (.iload 4, 2) := by decide +kernel
theorem dX3_setReads_16 : decode cX3_setReads 16 = .ok (.iload_n 1, 1) := by decide +kernel
theorem dX3_setReads_17 : decode cX3_setReads 17 = .ok (.invokestatic 34, 3) := by decide +kernel
theorem dX3_setReads_20 : decode cX3_setReads 20 = .ok (.aload_n 0, 1) := by decide +kernel
theorem dX3_setReads_21 : decode cX3_setReads 21 = .ok (.getfield 18, 3) := by decide +kernel
theorem dX3_setReads_24 : decode cX3_setReads 24 = .ok (.iload 4, 2) := by decide +kernel
theorem dX3_setReads_26 : decode cX3_setReads 26 = .ok (.iconst 1, 1) := by decide +kernel
theorem dX3_setReads_27 : decode cX3_setReads 27 = .ok (.iadd, 1) := by decide +kernel
theorem dX3_setReads_28 : decode cX3_setReads 28 = .ok (.iload_n 2, 1) := by decide +kernel
theorem dX3_setReads_29 : decode cX3_setReads 29 = .ok (.invokestatic 34, 3) := by decide +kernel
theorem dX3_setReads_32 : decode cX3_setReads 32 = .ok (.aload_n 0, 1) := by decide +kernel
theorem dX3_setReads_33 : decode cX3_setReads 33 = .ok (.getfield 18, 3) := by decide +kernel
theorem dX3_setReads_36 : decode cX3_setReads 36 = .ok (.iload 4, 2) := by decide +kernel
theorem dX3_setReads_38 : decode cX3_setReads 38 = .ok (.iconst 2, 1) := by decide +kernel
theorem dX3_setReads_39 : decode cX3_setReads 39 = .ok (.iadd, 1) := by decide +kernel
theorem dX3_setReads_40 : decode cX3_setReads 40 = .ok (.iload_n 3, 1) := by decide +kernel
theorem dX3_setReads_41 : decode cX3_setReads 41 = .ok (.invokestatic 34, 3) := by decide +kernel
theorem dX3_setReads_44 : decode cX3_setReads 44 = .ok (.return_, 1) := by decide +kernel
theorem dX3_setNumber_0 : decode cX3_setNumber 0 = .ok (.aload_n 0, 1) := by decide +kernel
theorem dX3_setNumber_1 : decode cX3_setNumber 1 = .ok (.getfield 21, 3) := by decide +kernel
theorem dX3_setNumber_4 : decode cX3_setNumber 4 = .ok (.aload_n 0, 1) := by decide +kernel
theorem dX3_setNumber_5 : decode cX3_setNumber 5 = .ok (.getfield 30, 3) := by decide +kernel
theorem dX3_setNumber_8 : decode cX3_setNumber 8 = .ok (.iconst 1, 1) := by decide +kernel
theorem dX3_setNumber_9 : decode cX3_setNumber 9 = .ok (.isub, 1) := by decide +kernel
theorem dX3_setNumber_10 : decode cX3_setNumber 10 = .ok (.iload_n 1, 1) := by decide +kernel
theorem dX3_setNumber_11 : decode cX3_setNumber 11 = .ok (.invokestatic 34, 3) := by decide +kernel
theorem dX3_setNumber_14 : decode cX3_setNumber 14 = .ok (.return_, 1) := by decide +kernel
theorem dX3_setHeight_0 : decode cX3_setHeight 0 = .ok (.aload_n 0, 1) := by decide +kernel
theorem dX3_setHeight_1 : decode cX3_setHeight 1 = .ok (.getfield 27, 3) := by decide +kernel
theorem dX3_setHeight_4 : decode cX3_setHeight 4 = .ok (.iload_n 1, 1) := by decide +kernel
theorem dX3_setHeight_5 : decode cX3_setHeight 5 = .ok (.iload_n 2, 1) := by decide +kernel
theorem dX3_setHeight_6 : decode cX3_setHeight 6 = .ok (.invokestatic 34, 3) := by decide +kernel
theorem dX3_setHeight_9 : decode cX3_setHeight 9 = .ok (.return_, 1) := by decide +kernel
theorem dX3_addCopy_0 : decode cX3_addCopy 0 = .ok (.aload_n 0, 1) := by decide +kernel
theorem dX3_addCopy_1 : decode cX3_addCopy 1 = .ok (.aload_n 1, 1) := by decide +kernel
theorem dX3_addCopy_2 : decode cX3_addCopy 2 = .ok (.iload_n 2, 1) := by decide +kernel
theorem dX3_addCopy_3 : decode cX3_addCopy 3 = .ok (.invokevirtual 38, 3) := by decide +kernel
theorem dX3_addCopy_6 : decode cX3_addCopy 6 = .ok (.aload_n 1, 1) := by decide +kernel
theorem dX3_addCopy_7 : decode cX3_addCopy 7 = .ok (.iload_n 2, 1) := by decide +kernel
theorem dX3_addCopy_8 : decode cX3_addCopy 8 = .ok (.invokevirtual 42, 3) := by decide +kernel
theorem dX3_addCopy_11 : decode cX3_addCopy 11 = .ok (.aload_n 1, 1) := by decide +kernel
theorem dX3_addCopy_12 : decode cX3_addCopy 12 = .ok (.iload_n 2, 1) := by decide +kernel
theorem dX3_addCopy_13 : decode cX3_addCopy 13 = .ok (.invokevirtual 45, 3) := by decide +kernel
theorem dX3_addCopy_16 : decode cX3_addCopy 16 = .ok (.invokevirtual 48, 3) := by decide +kernel
theorem dX3_addCopy_19 : decode cX3_addCopy 19 = .ok (.aload_n 0, 1) := by decide +kernel
theorem dX3_addCopy_20 : decode cX3_addCopy 20 = .ok (.aload_n 1, 1) := by decide +kernel
theorem dX3_addCopy_21 : decode cX3_addCopy 21 = .ok (.iload_n 2, 1) := by decide +kernel
theorem dX3_addCopy_22 : decode cX3_addCopy 22 = .ok (.iconst 0, 1) := by decide +kernel
theorem dX3_addCopy_23 : decode cX3_addCopy 23 = .ok (.invokevirtual 52, 3) := by decide +kernel
theorem dX3_addCopy_26 : decode cX3_addCopy 26 = .ok (.aload_n 1, 1) := by decide +kernel
theorem dX3_addCopy_27 : decode cX3_addCopy 27 = .ok (.iload_n 2, 1) := by decide +kernel
theorem dX3_addCopy_28 : decode cX3_addCopy 28 = .ok (.iconst 1, 1) := by decide +kernel
theorem dX3_addCopy_29 : decode cX3_addCopy 29 = .ok (.invokevirtual 52, 3) := by decide +kernel
theorem dX3_addCopy_32 : decode cX3_addCopy 32 = .ok (.aload_n 1, 1) := by decide +kernel
theorem dX3_addCopy_33 : decode cX3_addCopy 33 = .ok (.iload_n 2, 1) := by decide +kernel
theorem dX3_addCopy_34 : decode cX3_addCopy 34 = .ok (.iconst 2, 1) := by decide +kernel
theorem dX3_addCopy_35 : decode cX3_addCopy 35 = .ok (.invokevirtual 52, 3) := by decide +kernel
theorem dX3_addCopy_38 : decode cX3_addCopy 38 = .ok (.invokevirtual 56, 3) := by decide +kernel
theorem dX3_addCopy_41 : decode cX3_addCopy 41 = .ok (.aload_n 0, 1) := by decide +kernel
theorem dX3_addCopy_42 : decode cX3_addCopy 42 = .ok (.aload_n 1, 1) := by decide +kernel
theorem dX3_addCopy_43 : decode cX3_addCopy 43 = .ok (.iload_n 2, 1) := by decide +kernel
theorem dX3_addCopy_44 : decode cX3_addCopy 44 = .ok (.invokevirtual 59, 3) := by decide +kernel
theorem dX3_addCopy_47 : decode cX3_addCopy 47 = .ok (.invokevirtual 62, 3) := by decide +kernel
theorem dX3_addCopy_50 : decode cX3_addCopy 50 = .ok (.aload_n 0, 1) := by decide +kernel
theorem dX3_addCopy_51 : decode cX3_addCopy 51 = .ok (.aload_n 0, 1) := by decide +kernel
theorem dX3_addCopy_52 : decode cX3_addCopy 52 = .ok (.getfield 30, 3) := by decide +kernel
theorem dX3_addCopy_55 : decode cX3_addCopy 55 = .ok (.iconst 1, 1) := by decide +kernel
theorem dX3_addCopy_56 : decode cX3_addCopy 56 = .ok (.isub, 1) := by decide +kernel
theorem dX3_addCopy_57 : decode cX3_addCopy 57 = .ok (.aload_n 1, 1) := by decide +kernel
theorem dX3_addCopy_58 : decode cX3_addCopy 58 = .ok (.iload_n 2, 1) := by decide +kernel
theorem dX3_addCopy_59 : decode cX3_addCopy 59 = .ok (.invokevirtual 66, 3) := by decide +kernel
theorem dX3_addCopy_62 : decode cX3_addCopy 62 = .ok (.invokevirtual 69, 3) := by decide +kernel
theorem dX3_addCopy_65 : decode cX3_addCopy 65 = .ok (.return_, 1) := by decide +kernel
theorem dX3_kindOf_0 : decode cX3_kindOf 0 = .ok (.aload_n 0, 1) := by decide +kernel
theorem dX3_kindOf_1 : decode cX3_kindOf 1 = .ok (.getfield 9, 3) := by decide +kernel
theorem dX3_kindOf_4 : decode cX3_kindOf 4 = .ok (.iload_n 1, 1) := by decide +kernel
theorem dX3_kindOf_5 : decode cX3_kindOf 5 = .ok (.invokestatic 73, 3) := by decide +kernel
theorem dX3_kindOf_8 : decode cX3_kindOf 8 = .ok (.ireturn, 1) := by decide +kernel
theorem dX3_writtenBy_0 : decode cX3_writtenBy 0 = .ok (.aload_n 0, 1) := by decide +kernel
theorem dX3_writtenBy_1 : decode cX3_writtenBy 1 = .ok (.getfield 15, 3) := by decide +kernel
theorem dX3_writtenBy_4 : decode cX3_writtenBy 4 = .ok (.iload_n 1, 1) := by decide +kernel
theorem dX3_writtenBy_5 : decode cX3_writtenBy 5 = .ok (.invokestatic 73, 3) := by decide +kernel
theorem dX3_writtenBy_8 : decode cX3_writtenBy 8 = .ok (.ireturn, 1) := by decide +kernel
theorem dX3_readBy_0 : decode cX3_readBy 0 = .ok (.aload_n 0, 1) := by decide +kernel
theorem dX3_readBy_1 : decode cX3_readBy 1 = .ok (.getfield 18, 3) := by decide +kernel
theorem dX3_readBy_4 : decode cX3_readBy 4 = .ok (.iconst 3, 1) := by decide +kernel
theorem dX3_readBy_5 : decode cX3_readBy 5 = .ok (.iload_n 1, 1) := by decide +kernel
theorem dX3_readBy_6 : decode cX3_readBy 6 = .ok (.imul, 1) := by decide +kernel
theorem dX3_readBy_7 : decode cX3_readBy 7 = .ok (.iload_n 2, 1) := by decide +kernel
theorem dX3_readBy_8 : decode cX3_readBy 8 = .ok (.iadd, 1) := by decide +kernel
theorem dX3_readBy_9 : decode cX3_readBy 9 = .ok (.invokestatic 73, 3) := by decide +kernel
theorem dX3_readBy_12 : decode cX3_readBy 12 = .ok (.ireturn, 1) := by decide +kernel
theorem dX3_isReading_0 : decode cX3_isReading 0 = .ok (.iconst 3, 1) := by decide +kernel
theorem dX3_isReading_1 : decode cX3_isReading 1 = .ok (.iload_n 1, 1) := by decide +kernel
theorem dX3_isReading_2 : decode cX3_isReading 2 = .ok (.imul, 1) := by decide +kernel
theorem dX3_isReading_3 : decode cX3_isReading 3 = .ok (.istore_n 3, 1) := by decide +kernel
theorem dX3_isReading_4 : decode cX3_isReading 4 = .ok (.aload_n 0, 1) := by decide +kernel
theorem dX3_isReading_5 : decode cX3_isReading 5 = .ok (.getfield 18, 3) := by decide +kernel
theorem dX3_isReading_8 : decode cX3_isReading 8 = .ok (.iload_n 3, 1) := by decide +kernel
theorem dX3_isReading_9 : decode cX3_isReading 9 = .ok (.invokestatic 73, 3) := by decide +kernel
theorem dX3_isReading_12 : decode cX3_isReading 12 = .ok (.iload_n 2, 1) := by decide +kernel
theorem dX3_isReading_13 : decode cX3_isReading 13 = .ok (.if_icmp .eq 31, 3) := by decide +kernel
theorem dX3_isReading_16 : decode cX3_isReading 16 = .ok (.aload_n 0, 1) := by decide +kernel
theorem dX3_isReading_17 : decode cX3_isReading 17 = .ok (.getfield 18, 3) := by decide +kernel
theorem dX3_isReading_20 : decode cX3_isReading 20 = .ok (.iload_n 3, 1) := by decide +kernel
theorem dX3_isReading_21 : decode cX3_isReading 21 = .ok (.iconst 1, 1) := by decide +kernel
theorem dX3_isReading_22 : decode cX3_isReading 22 = .ok (.iadd, 1) := by decide +kernel
theorem dX3_isReading_23 : decode cX3_isReading 23 = .ok (.invokestatic 73, 3) := by decide +kernel
theorem dX3_isReading_26 : decode cX3_isReading 26 = .ok (.iload_n 2, 1) := by decide +kernel
theorem dX3_isReading_27 : decode cX3_isReading 27 = .ok (.if_icmp .eq 17, 3) := by decide +kernel
theorem dX3_isReading_30 : decode cX3_isReading 30 = .ok (.aload_n 0, 1) := by decide +kernel
theorem dX3_isReading_31 : decode cX3_isReading 31 = .ok (.getfield 18, 3) := by decide +kernel
theorem dX3_isReading_34 : decode cX3_isReading 34 = .ok (.iload_n 3, 1) := by decide +kernel
theorem dX3_isReading_35 : decode cX3_isReading 35 = .ok (.iconst 2, 1) := by decide +kernel
theorem dX3_isReading_36 : decode cX3_isReading 36 = .ok (.iadd, 1) := by decide +kernel
theorem dX3_isReading_37 : decode cX3_isReading 37 = .ok (.invokestatic 73, 3) := by decide +kernel
theorem dX3_isReading_40 : decode cX3_isReading 40 = .ok (.iload_n 2, 1) := by decide +kernel
theorem dX3_isReading_41 : decode cX3_isReading 41 = .ok (.if_icmp .ne 7, 3) := by decide +kernel
theorem dX3_isReading_44 : decode cX3_isReading 44 = .ok (.iconst 1, 1) := by decide +kernel
theorem dX3_isReading_45 : decode cX3_isReading 45 = .ok (.goto 4, 3) := by decide +kernel
theorem dX3_isReading_48 : decode cX3_isReading 48 = .ok (.iconst 0, 1) := by decide +kernel
theorem dX3_isReading_49 : decode cX3_isReading 49 = .ok (.ireturn, 1) := by decide +kernel
theorem dX3_numberOf_0 : decode cX3_numberOf 0 = .ok (.aload_n 0, 1) := by decide +kernel
theorem dX3_numberOf_1 : decode cX3_numberOf 1 = .ok (.getfield 21, 3) := by decide +kernel
theorem dX3_numberOf_4 : decode cX3_numberOf 4 = .ok (.iload_n 1, 1) := by decide +kernel
theorem dX3_numberOf_5 : decode cX3_numberOf 5 = .ok (.invokestatic 73, 3) := by decide +kernel
theorem dX3_numberOf_8 : decode cX3_numberOf 8 = .ok (.ireturn, 1) := by decide +kernel
theorem dX3_blockOf_0 : decode cX3_blockOf 0 = .ok (.aload_n 0, 1) := by decide +kernel
theorem dX3_blockOf_1 : decode cX3_blockOf 1 = .ok (.getfield 24, 3) := by decide +kernel
theorem dX3_blockOf_4 : decode cX3_blockOf 4 = .ok (.iload_n 1, 1) := by decide +kernel
theorem dX3_blockOf_5 : decode cX3_blockOf 5 = .ok (.invokestatic 73, 3) := by decide +kernel
theorem dX3_blockOf_8 : decode cX3_blockOf 8 = .ok (.ireturn, 1) := by decide +kernel
theorem dX3_heightOf_0 : decode cX3_heightOf 0 = .ok (.aload_n 0, 1) := by decide +kernel
theorem dX3_heightOf_1 : decode cX3_heightOf 1 = .ok (.getfield 27, 3) := by decide +kernel
theorem dX3_heightOf_4 : decode cX3_heightOf 4 = .ok (.iload_n 1, 1) := by decide +kernel
theorem dX3_heightOf_5 : decode cX3_heightOf 5 = .ok (.invokestatic 73, 3) := by decide +kernel
theorem dX3_heightOf_8 : decode cX3_heightOf 8 = .ok (.ireturn, 1) := by decide +kernel
theorem dX4_init_0 : decode cX4_init 0 = .ok (.aload_n 0, 1) := by decide +kernel
theorem dX4_init_1 : decode cX4_init 1 = .ok (.invokespecial 3, 3) := by decide +kernel
theorem dX4_init_4 : decode cX4_init 4 = .ok (.aload_n 0, 1) := by decide +kernel
theorem dX4_init_5 : decode cX4_init 5 = .ok (.aload_n 1, 1) := by decide +kernel
theorem dX4_init_6 : decode cX4_init 6 = .ok (.putfield 9, 3) := by decide +kernel
theorem dX4_init_9 : decode cX4_init 9 = .ok (.aload_n 0, 1) := by decide +kernel
theorem dX4_init_10 : decode cX4_init 10 = .ok (.bipush 88, 2) := by decide +kernel
theorem dX4_init_12 : decode cX4_init 12 = .ok (.newarray .int, 2) := by decide +kernel
theorem dX4_init_14 : decode cX4_init 14 = .ok (.putfield 15, 3) := by decide +kernel
theorem dX4_init_17 : decode cX4_init 17 = .ok (.aload_n 0, 1) := by decide +kernel
theorem dX4_init_18 : decode cX4_init 18 = .ok (.bipush 88, 2) := by decide +kernel
theorem dX4_init_20 : decode cX4_init 20 = .ok (.newarray .int, 2) := by decide +kernel
theorem dX4_init_22 : decode cX4_init 22 = .ok (.putfield 19, 3) := by decide +kernel
theorem dX4_init_25 : decode cX4_init 25 = .ok (.aload_n 0, 1) := by decide +kernel
theorem dX4_init_26 : decode cX4_init 26 = .ok (.bipush 88, 2) := by decide +kernel
theorem dX4_init_28 : decode cX4_init 28 = .ok (.newarray .int, 2) := by decide +kernel
theorem dX4_init_30 : decode cX4_init 30 = .ok (.putfield 22, 3) := by decide +kernel
theorem dX4_init_33 : decode cX4_init 33 = .ok (.aload_n 0, 1) := by decide +kernel
theorem dX4_init_34 : decode cX4_init 34 = .ok (.bipush 88, 2) := by decide +kernel
theorem dX4_init_36 : decode cX4_init 36 = .ok (.newarray .int, 2) := by decide +kernel
theorem dX4_init_38 : decode cX4_init 38 = .ok (.putfield 25, 3) := by decide +kernel
theorem dX4_init_41 : decode cX4_init 41 = .ok (.aload_n 0, 1) := by decide +kernel
theorem dX4_init_42 : decode cX4_init 42 = .ok (.bipush 88, 2) := by decide +kernel
theorem dX4_init_44 : decode cX4_init 44 = .ok (.newarray .int, 2) := by decide +kernel
theorem dX4_init_46 : decode cX4_init 46 = .ok (.putfield 28, 3) := by decide +kernel
theorem dX4_init_49 : decode cX4_init 49 = .ok (.aload_n 0, 1) := by decide +kernel
theorem dX4_init_50 : decode cX4_init 50 = .ok (.bipush 88, 2) := by decide +kernel
theorem dX4_init_52 : decode cX4_init 52 = .ok (.newarray .int, 2) := by decide +kernel
theorem dX4_init_54 : decode cX4_init 54 = .ok (.putfield 31, 3) := by decide +kernel
theorem dX4_init_57 : decode cX4_init 57 = .ok (.aload_n 0, 1) := by decide +kernel
theorem dX4_init_58 : decode cX4_init 58 = .ok (.bipush 88, 2) := by decide +kernel
theorem dX4_init_60 : decode cX4_init 60 = .ok (.newarray .int, 2) := by decide +kernel
theorem dX4_init_62 : decode cX4_init 62 = .ok (.putfield 34, 3) := by decide +kernel
theorem dX4_init_65 : decode cX4_init 65 = .ok (.aload_n 0, 1) := by decide +kernel
theorem dX4_init_66 : decode cX4_init 66 = .ok (.bipush 88, 2) := by decide +kernel
theorem dX4_init_68 : decode cX4_init 68 = .ok (.newarray .int, 2) := by decide +kernel
theorem dX4_init_70 : decode cX4_init 70 = .ok (.putfield 37, 3) := by decide +kernel
theorem dX4_init_73 : decode cX4_init 73 = .ok (.return_, 1) := by decide +kernel
theorem dX4_measure_0 : decode cX4_measure 0 = .ok (.aload_n 0, 1) := by decide +kernel
theorem dX4_measure_1 : decode cX4_measure 1 = .ok (.iconst 0, 1) := by decide +kernel
theorem dX4_measure_2 : decode cX4_measure 2 = .ok (.putfield 40, 3) := by decide +kernel
theorem dX4_measure_5 : decode cX4_measure 5 = .ok (.aload_n 0, 1) := by decide +kernel
theorem dX4_measure_6 : decode cX4_measure 6 = .ok (.iconst 0, 1) := by decide +kernel
theorem dX4_measure_7 : decode cX4_measure 7 = .ok (.putfield 44, 3) := by decide +kernel
theorem dX4_measure_10 : decode cX4_measure 10 = .ok (.aload_n 0, 1) := by decide +kernel
theorem dX4_measure_11 : decode cX4_measure 11 = .ok (.iconst 0, 1) := by decide +kernel
theorem dX4_measure_12 : decode cX4_measure 12 = .ok (.putfield 47, 3) := by decide +kernel
theorem dX4_measure_15 : decode cX4_measure 15 = .ok (.aload_n 0, 1) := by decide +kernel
theorem dX4_measure_16 : decode cX4_measure 16 = .ok (.getfield 15, 3) := by decide +kernel
theorem dX4_measure_19 : decode cX4_measure 19 = .ok (.iconst (-1), 1) := by decide +kernel
theorem dX4_measure_20 : decode cX4_measure 20 = .ok (.invokestatic 50, 3) := by decide +kernel
theorem dX4_measure_23 : decode cX4_measure 23 = .ok (.aload_n 0, 1) := by decide +kernel
theorem dX4_measure_24 : decode cX4_measure 24 = .ok (.getfield 22, 3) := by decide +kernel
theorem dX4_measure_27 : decode cX4_measure 27 = .ok (.iconst 0, 1) := by decide +kernel
theorem dX4_measure_28 : decode cX4_measure 28 = .ok (.invokestatic 50, 3) := by decide +kernel
theorem dX4_measure_31 : decode cX4_measure 31 = .ok (.aload_n 0, 1) := by decide +kernel
theorem dX4_measure_32 : decode cX4_measure 32 = .ok (.getfield 28, 3) := by decide +kernel
theorem dX4_measure_35 : decode cX4_measure 35 = .ok (.iconst 0, 1) := by decide +kernel
theorem dX4_measure_36 : decode cX4_measure 36 = .ok (.invokestatic 50, 3) := by decide +kernel
theorem dX4_measure_39 : decode cX4_measure 39 = .ok (.aload_n 0, 1) := by decide +kernel
theorem dX4_measure_40 : decode cX4_measure 40 = .ok (.getfield 31, 3) := by decide +kernel
theorem dX4_measure_43 : decode cX4_measure 43 = .ok (.iconst 0, 1) := by decide +kernel
theorem dX4_measure_44 : decode cX4_measure 44 = .ok (.invokestatic 50, 3) := by decide +kernel
theorem dX4_measure_47 : decode cX4_measure 47 = .ok (.iconst 0, 1) := by decide +kernel
theorem dX4_measure_48 : decode cX4_measure 48 = .ok (.istore_n 3, 1) := by decide +kernel
theorem dX4_measure_49 : decode cX4_measure 49 = .ok (.iload_n 3, 1) := by decide +kernel
theorem dX4_measure_50 : decode cX4_measure 50 = .ok (.aload_n 1, 1) := by decide +kernel
theorem dX4_measure_51 : decode cX4_measure 51 = .ok (.getfield 54, 3) := by decide +kernel
theorem dX4_measure_54 : decode cX4_measure 54 = .ok (.if_icmp .ge 15, 3) := by decide +kernel
theorem dX4_measure_57 : decode cX4_measure 57 = .ok (.aload_n 0, 1) := by decide +kernel
theorem dX4_measure_58 : decode cX4_measure 58 = .ok (.aload_n 1, 1) := by decide +kernel
theorem dX4_measure_59 : decode cX4_measure 59 = .ok (.iload_n 3, 1) := by decide +kernel
theorem dX4_measure_60 : decode cX4_measure 60 = .ok (.invokevirtual 59, 3) := by decide +kernel
theorem dX4_measure_63 : decode cX4_measure 63 = .ok (.iinc 3 1, 3) := by decide +kernel
theorem dX4_measure_66 : decode cX4_measure 66 = .ok (.goto (-17), 3) := by decide +kernel
theorem dX4_measure_69 : decode cX4_measure 69 = .ok (.iconst 0, 1) := by decide +kernel
theorem dX4_measure_70 : decode cX4_measure 70 = .ok (.istore_n 3, 1) := by decide +kernel
theorem dX4_measure_71 : decode cX4_measure 71 = .ok (.iload_n 3, 1) := by decide +kernel
theorem dX4_measure_72 : decode cX4_measure 72 = .ok (.aload_n 0, 1) := by decide +kernel
theorem dX4_measure_73 : decode cX4_measure 73 = .ok (.getfield 40, 3) := by decide +kernel
theorem dX4_measure_76 : decode cX4_measure 76 = .ok (.if_icmp .ge 68, 3) := by decide +kernel
theorem dX4_measure_79 : decode cX4_measure 79 = .ok (.aload_n 0, 1) := by decide +kernel
theorem dX4_measure_80 : decode cX4_measure 80 = .ok (.iload_n 3, 1) := by decide +kernel
theorem dX4_measure_81 : decode cX4_measure 81 = .ok (.invokevirtual 63, 3) := by decide +kernel
theorem dX4_measure_84 : decode cX4_measure 84 = .ok (.ifCond .eq 54, 3) := by decide +kernel
theorem dX4_measure_87 : decode cX4_measure 87 = .ok (.aload_n 0, 1) := by decide +kernel
theorem dX4_measure_88 : decode cX4_measure 88 = .ok (.dup, 1) := by decide +kernel
theorem dX4_measure_89 : decode cX4_measure 89 = .ok (.getfield 44, 3) := by decide +kernel
theorem dX4_measure_92 : decode cX4_measure 92 = .ok (.iconst 1, 1) := by decide +kernel
theorem dX4_measure_93 : decode cX4_measure 93 = .ok (.iadd, 1) := by decide +kernel
theorem dX4_measure_94 : decode cX4_measure 94 = .ok (.putfield 44, 3) := by decide +kernel
theorem dX4_measure_97 : decode cX4_measure 97 = .ok (.aload_n 0, 1) := by decide +kernel
theorem dX4_measure_98 : decode cX4_measure 98 = .ok (.getfield 19, 3) := by decide +kernel
theorem dX4_measure_101 : decode cX4_measure 101 = .ok (.iload_n 3, 1) := by decide +kernel
theorem dX4_measure_102 : decode cX4_measure 102 = .ok (.aload_n 0, 1) := by decide +kernel
theorem dX4_measure_103 : decode cX4_measure 103 = .ok (.iload_n 3, 1) := by decide +kernel
theorem dX4_measure_104 : decode cX4_measure 104 = .ok (.aload_n 1, 1) := by decide +kernel
theorem dX4_measure_105 : decode cX4_measure 105 = .ok (.aload_n 2, 1) := by decide +kernel
theorem dX4_measure_106 : decode cX4_measure 106 = .ok (.invokevirtual 67, 3) := by decide +kernel
theorem dX4_measure_109 : decode cX4_measure 109 = .ok (.invokestatic 71, 3) := by decide +kernel
theorem dX4_measure_112 : decode cX4_measure 112 = .ok (.aload_n 0, 1) := by decide +kernel
theorem dX4_measure_113 : decode cX4_measure 113 = .ok (.getfield 25, 3) := by decide +kernel
theorem dX4_measure_116 : decode cX4_measure 116 = .ok (.iload_n 3, 1) := by decide +kernel
theorem dX4_measure_117 : decode cX4_measure 117 = .ok (.aload_n 0, 1) := by decide +kernel
theorem dX4_measure_118 : decode cX4_measure 118 = .ok (.iload_n 3, 1) := by decide +kernel
theorem dX4_measure_119 : decode cX4_measure 119 = .ok (.invokevirtual 75, 3) := by decide +kernel
theorem dX4_measure_122 : decode cX4_measure 122 = .ok (.invokestatic 71, 3) := by decide +kernel
theorem dX4_measure_125 : decode cX4_measure 125 = .ok (.aload_n 0, 1) := by decide +kernel
theorem dX4_measure_126 : decode cX4_measure 126 = .ok (.getfield 34, 3) := by decide +kernel
theorem dX4_measure_129 : decode cX4_measure 129 = .ok (.iload_n 3, 1) := by decide +kernel
theorem dX4_measure_130 : decode cX4_measure 130 = .ok (.aload_n 0, 1) := by decide +kernel
theorem dX4_measure_131 : decode cX4_measure 131 = .ok (.iload_n 3, 1) := by decide +kernel
theorem dX4_measure_132 : decode cX4_measure 132 = .ok (.invokevirtual 79, 3) := by decide +kernel
theorem dX4_measure_135 : decode cX4_measure 135 = .ok (.invokestatic 71, 3) := by decide +kernel
theorem dX4_measure_138 : decode cX4_measure 138 = .ok (.iinc 3 1, 3) := by decide +kernel
theorem dX4_measure_141 : decode cX4_measure 141 = .ok (.goto (-70), 3) := by decide +kernel
theorem dX4_measure_144 : decode cX4_measure 144 = .ok (.return_, 1) := by decide +kernel
theorem dX4_touch_0 : decode cX4_touch 0 = .ok (.aload_n 0, 1) := by decide +kernel
theorem dX4_touch_1 : decode cX4_touch 1 = .ok (.getfield 9, 3) := by decide +kernel
theorem dX4_touch_4 : decode cX4_touch 4 = .ok (.aload_n 1, 1) := by decide +kernel
theorem dX4_touch_5 : decode cX4_touch 5 = .ok (.iload_n 2, 1) := by decide +kernel
theorem dX4_touch_6 : decode cX4_touch 6 = .ok (.invokevirtual 82, 3) := by decide +kernel
theorem dX4_touch_9 : decode cX4_touch 9 = .ok (.invokevirtual 85, 3) := by decide +kernel
theorem dX4_touch_12 : decode cX4_touch 12 = .ok (.istore_n 3, 1) := by decide +kernel
theorem dX4_touch_13 : decode cX4_touch 13 = .ok (.aload_n 1, 1) := by decide +kernel
theorem dX4_touch_14 : decode cX4_touch 14 = .ok (.iload_n 2, 1) := by decide +kernel
theorem dX4_touch_15 : decode cX4_touch 15 = .ok (.invokevirtual 90, 3) := by decide +kernel
theorem dX4_touch_18 : decode cX4_touch 18 = .ok (.istore 4, 2) := by decide +kernel
theorem dX4_touch_20 : decode cX4_touch 20 = .ok (.aload_n 0, 1) := by decide +kernel
theorem dX4_touch_21 : decode cX4_touch 21 = .ok (.getfield 15, 3) := by decide +kernel
theorem dX4_touch_24 : decode cX4_touch 24 = .ok (.iload 4, 2) := by decide +kernel
theorem dX4_touch_26 : decode cX4_touch 26 = .ok (.invokestatic 93, 3) := by decide +kernel
theorem dX4_touch_29 : decode cX4_touch 29 = .ok (.iconst (-1), 1) := by decide +kernel
theorem dX4_touch_30 : decode cX4_touch 30 = .ok (.if_icmp .ne 13, 3) := by decide +kernel
theorem dX4_touch_33 : decode cX4_touch 33 = .ok (.aload_n 0, 1) := by decide +kernel
theorem dX4_touch_34 : decode cX4_touch 34 = .ok (.getfield 15, 3) := by decide +kernel
theorem dX4_touch_37 : decode cX4_touch 37 = .ok (.iload 4, 2) := by decide +kernel
theorem dX4_touch_39 : decode cX4_touch 39 = .ok (.iload_n 2, 1) := by decide +kernel
theorem dX4_touch_40 : decode cX4_touch 40 = .ok (.invokestatic 71, 3) := by decide +kernel
theorem dX4_touch_43 : decode cX4_touch 43 = .ok (.aload_n 0, 1) := by decide +kernel
theorem dX4_touch_44 : decode cX4_touch 44 = .ok (.getfield 28, 3) := by decide +kernel
theorem dX4_touch_47 : decode cX4_touch 47 = .ok (.iload 4, 2) := by decide +kernel
theorem dX4_touch_49 : decode cX4_touch 49 = .ok (.aload_n 0, 1) := by decide +kernel
theorem dX4_touch_50 : decode cX4_touch 50 = .ok (.getfield 28, 3) := by decide +kernel
theorem dX4_touch_53 : decode cX4_touch 53 = .ok (.iload 4, 2) := by decide +kernel
theorem dX4_touch_55 : decode cX4_touch 55 = .ok (.invokestatic 93, 3) := by decide +kernel
theorem dX4_touch_58 : decode cX4_touch 58 = .ok (.iconst 1, 1) := by decide +kernel
theorem dX4_touch_59 : decode cX4_touch 59 = .ok (.iadd, 1) := by decide +kernel
theorem dX4_touch_60 : decode cX4_touch 60 = .ok (.invokestatic 71, 3) := by decide +kernel
theorem dX4_touch_63 : decode cX4_touch 63 = .ok (.aload_n 0, 1) := by decide +kernel
theorem dX4_touch_64 : decode cX4_touch 64 = .ok (.iload 4, 2) := by decide +kernel
theorem dX4_touch_66 : decode cX4_touch 66 = .ok (.iload_n 2, 1) := by decide +kernel
theorem dX4_touch_67 : decode cX4_touch 67 = .ok (.iload_n 3, 1) := by decide +kernel
theorem dX4_touch_68 : decode cX4_touch 68 = .ok (.invokevirtual 97, 3) := by decide +kernel
theorem dX4_touch_71 : decode cX4_touch 71 = .ok (.iconst 0, 1) := by decide +kernel
theorem dX4_touch_72 : decode cX4_touch 72 = .ok (.istore 5, 2) := by decide +kernel
theorem dX4_touch_74 : decode cX4_touch 74 = .ok (.iload 5, 2) := by decide +kernel
theorem dX4_touch_76 : decode cX4_touch 76 = .ok (.iconst 3, 1) := by decide +kernel
theorem dX4_touch_77 : decode cX4_touch 77 = .ok (.if_icmp .ge 52, 3) := by decide +kernel
theorem dX4_touch_80 : decode cX4_touch 80 = .ok (.aload_n 1, 1) := by decide +kernel
theorem dX4_touch_81 : decode cX4_touch 81 = .ok (.iload_n 2, 1) := by decide +kernel
theorem dX4_touch_82 : decode cX4_touch 82 = .ok (.iload 5, 2) := by decide +kernel
theorem dX4_touch_84 : decode cX4_touch 84 = .ok (.invokevirtual 101, 3) := by decide +kernel
theorem dX4_touch_87 : decode cX4_touch 87 = .ok (.istore 6, 2) := by decide +kernel
theorem dX4_touch_89 : decode cX4_touch 89 = .ok (.iload 6, 2) := by decide +kernel
theorem dX4_touch_91 : decode cX4_touch 91 = .ok (.iconst (-1), 1) := by decide +kernel
theorem dX4_touch_92 : decode cX4_touch 92 = .ok (.if_icmp .eq 31, 3) := by decide +kernel
theorem dX4_touch_95 : decode cX4_touch 95 = .ok (.aload_n 0, 1) := by decide +kernel
theorem dX4_touch_96 : decode cX4_touch 96 = .ok (.getfield 31, 3) := by decide +kernel
theorem dX4_touch_99 : decode cX4_touch 99 = .ok (.iload 6, 2) := by decide +kernel
theorem dX4_touch_101 : decode cX4_touch 101 = .ok (.aload_n 0, 1) := by decide +kernel
theorem dX4_touch_102 : decode cX4_touch 102 = .ok (.getfield 31, 3) := by decide +kernel
theorem dX4_touch_105 : decode cX4_touch 105 = .ok (.iload 6, 2) := by decide +kernel
theorem dX4_touch_107 : decode cX4_touch 107 = .ok (.invokestatic 93, 3) := by decide +kernel
theorem dX4_touch_110 : decode cX4_touch 110 = .ok (.iconst 1, 1) := by decide +kernel
theorem dX4_touch_111 : decode cX4_touch 111 = .ok (.iadd, 1) := by decide +kernel
theorem dX4_touch_112 : decode cX4_touch 112 = .ok (.invokestatic 71, 3) := by decide +kernel
theorem dX4_touch_115 : decode cX4_touch 115 = .ok (.aload_n 0, 1) := by decide +kernel
theorem dX4_touch_116 : decode cX4_touch 116 = .ok (.iload 6, 2) := by decide +kernel
theorem dX4_touch_118 : decode cX4_touch 118 = .ok (.iload_n 2, 1) := by decide +kernel
theorem dX4_touch_119 : decode cX4_touch 119 = .ok (.iload_n 3, 1) := by decide +kernel
theorem dX4_touch_120 : decode cX4_touch 120 = .ok (.invokevirtual 97, 3) := by decide +kernel
theorem dX4_touch_123 : decode cX4_touch 123 = .ok (.iinc 5 1, 3) := by decide +kernel
theorem dX4_touch_126 : decode cX4_touch 126 = .ok (.goto (-52), 3) := by decide +kernel
theorem dX4_touch_129 : decode cX4_touch 129 = .ok (.aload_n 1, 1) := by decide +kernel
theorem dX4_touch_130 : decode cX4_touch 130 = .ok (.iload_n 2, 1) := by decide +kernel
theorem dX4_touch_131 : decode cX4_touch 131 = .ok (.invokevirtual 105, 3) := by decide +kernel
theorem dX4_touch_134 : decode cX4_touch 134 = .ok (.bipush 9, 2) := by decide +kernel
theorem dX4_touch_136 : decode cX4_touch 136 = .ok (.if_icmp .ne 25, 3) := by decide +kernel
theorem dX4_touch_139 : decode cX4_touch 139 = .ok (.aload_n 0, 1) := by decide +kernel
theorem dX4_touch_140 : decode cX4_touch 140 = .ok (.getfield 37, 3) := by decide +kernel
theorem dX4_touch_143 : decode cX4_touch 143 = .ok (.aload_n 0, 1) := by decide +kernel
theorem dX4_touch_144 : decode cX4_touch 144 = .ok (.getfield 47, 3) := by decide +kernel
theorem dX4_touch_147 : decode cX4_touch 147 = .ok (.iload_n 2, 1) := by decide +kernel
theorem dX4_touch_148 : decode cX4_touch 148 = .ok (.invokestatic 71, 3) := by decide +kernel
theorem dX4_touch_151 : decode cX4_touch 151 = .ok (.aload_n 0, 1) := by decide +kernel
theorem dX4_touch_152 : decode cX4_touch 152 = .ok (.dup, 1) := by decide +kernel
theorem dX4_touch_153 : decode cX4_touch 153 = .ok (.getfield 47, 3) := by decide +kernel
theorem dX4_touch_156 : decode cX4_touch 156 = .ok (.iconst 1, 1) := by decide +kernel
theorem dX4_touch_157 : decode cX4_touch 157 = .ok (.iadd, 1) := by decide +kernel
theorem dX4_touch_158 : decode cX4_touch 158 = .ok (.putfield 47, 3) := by decide +kernel
theorem dX4_touch_161 : decode cX4_touch 161 = .ok (.return_, 1) := by decide +kernel
theorem dX4_touchValue_0 : decode cX4_touchValue 0 = .ok (.aload_n 0, 1) := by decide +kernel
theorem dX4_touchValue_1 : decode cX4_touchValue 1 = .ok (.aload_n 0, 1) := by decide +kernel
theorem dX4_touchValue_2 : decode cX4_touchValue 2 = .ok (.getfield 40, 3) := by decide +kernel
theorem dX4_touchValue_5 : decode cX4_touchValue 5 = .ok (.iload_n 1, 1) := by decide +kernel
theorem dX4_touchValue_6 : decode cX4_touchValue 6 = .ok (.iconst 1, 1) := by decide +kernel
theorem dX4_touchValue_7 : decode cX4_touchValue 7 = .ok (.iadd, 1) := by decide +kernel
theorem dX4_touchValue_8 : decode cX4_touchValue 8 = .ok (.invokestatic 108, 3) := by decide +kernel
theorem dX4_touchValue_11 : decode cX4_touchValue 11 = .ok (.putfield 40, 3) := by decide +kernel
theorem dX4_touchValue_14 : decode cX4_touchValue 14 = .ok (.aload_n 0, 1) := by decide +kernel
theorem dX4_touchValue_15 : decode cX4_touchValue 15 = .ok (.getfield 19, 3) := by decide +kernel
theorem dX4_touchValue_18 : decode cX4_touchValue 18 = .ok (.iload_n 1, 1) := by decide +kernel
theorem dX4_touchValue_19 : decode cX4_touchValue 19 = .ok (.iload_n 2, 1) := by decide +kernel
theorem dX4_touchValue_20 : decode cX4_touchValue 20 = .ok (.invokestatic 71, 3) := by decide +kernel
theorem dX4_touchValue_23 : decode cX4_touchValue 23 = .ok (.aload_n 0, 1) := by decide +kernel
theorem dX4_touchValue_24 : decode cX4_touchValue 24 = .ok (.getfield 22, 3) := by decide +kernel
theorem dX4_touchValue_27 : decode cX4_touchValue 27 = .ok (.iload_n 1, 1) := by decide +kernel
theorem dX4_touchValue_28 : decode cX4_touchValue 28 = .ok (.aload_n 0, 1) := by decide +kernel
theorem dX4_touchValue_29 : decode cX4_touchValue 29 = .ok (.getfield 22, 3) := by decide +kernel
theorem dX4_touchValue_32 : decode cX4_touchValue 32 = .ok (.iload_n 1, 1) := by decide +kernel
theorem dX4_touchValue_33 : decode cX4_touchValue 33 = .ok (.invokestatic 93, 3) := by decide +kernel
theorem dX4_touchValue_36 : decode cX4_touchValue 36 = .ok (.iload_n 3, 1) := by decide +kernel
theorem dX4_touchValue_37 : decode cX4_touchValue 37 = .ok (.iadd, 1) := by decide +kernel
theorem dX4_touchValue_38 : decode cX4_touchValue 38 = .ok (.invokestatic 71, 3) := by decide +kernel
theorem dX4_touchValue_41 : decode cX4_touchValue 41 = .ok (.return_, 1) := by decide +kernel
theorem dX4_endOf_0 : decode cX4_endOf 0 = .ok (.iload_n 1, 1) := by decide +kernel
theorem dX4_endOf_1 : decode cX4_endOf 1 = .ok (.bipush 8, 2) := by decide +kernel
theorem dX4_endOf_3 : decode cX4_endOf 3 = .ok (.if_icmp .ge 22, 3) := by decide +kernel
theorem dX4_endOf_6 : decode cX4_endOf 6 = .ok (.aload_n 0, 1) := by decide +kernel
theorem dX4_endOf_7 : decode cX4_endOf 7 = .ok (.getfield 9, 3) := by decide +kernel
theorem dX4_endOf_10 : decode cX4_endOf 10 = .ok (.getfield 113, 3) := by decide +kernel
theorem dX4_endOf_13 : decode cX4_endOf 13 = .ok (.iload_n 1, 1) := by decide +kernel
theorem dX4_endOf_14 : decode cX4_endOf 14 = .ok (.invokestatic 116, 3) := by decide +kernel
theorem dX4_endOf_17 : decode cX4_endOf 17 = .ok (.ifCond .eq 8, 3) := by decide +kernel
theorem dX4_endOf_20 : decode cX4_endOf 20 = .ok (.aload_n 2, 1) := by decide +kernel
theorem dX4_endOf_21 : decode cX4_endOf 21 = .ok (.getfield 54, 3) := by decide +kernel
theorem dX4_endOf_24 : decode cX4_endOf 24 = .ok (.ireturn, 1) := by decide +kernel
theorem dX4_endOf_25 : decode cX4_endOf 25 = .ok (.aload_n 0, 1) := by decide +kernel
theorem dX4_endOf_26 : decode cX4_endOf 26 = .ok (.iload_n 1, 1) := by decide +kernel
theorem dX4_endOf_27 : decode cX4_endOf 27 = .ok (.invokevirtual 120, 3) := by decide +kernel
theorem dX4_endOf_30 : decode cX4_endOf 30 = .ok (.istore 4, 2) := by decide +kernel
theorem dX4_endOf_32 : decode cX4_endOf 32 = .ok (.aload_n 2, 1) := by decide +kernel
theorem dX4_endOf_33 : decode cX4_endOf 33 = .ok (.iload 4, 2) := by decide +kernel
theorem dX4_endOf_35 : decode cX4_endOf 35 = .ok (.invokevirtual 82, 3) := by decide +kernel
theorem dX4_endOf_38 : decode cX4_endOf 38 = .ok (.istore 5, 2) := by decide +kernel
theorem dX4_endOf_40 : decode cX4_endOf 40 = .ok (.iload 5, 2) := by decide +kernel
theorem dX4_endOf_42 : decode cX4_endOf 42 = .ok (.iconst (-1), 1) := by decide +kernel
theorem dX4_endOf_43 : decode cX4_endOf 43 = .ok (.if_icmp .eq 34, 3) := by decide +kernel
theorem dX4_endOf_46 : decode cX4_endOf 46 = .ok (.aload_n 0, 1) := by decide +kernel
theorem dX4_endOf_47 : decode cX4_endOf 47 = .ok (.getfield 9, 3) := by decide +kernel
theorem dX4_endOf_50 : decode cX4_endOf 50 = .ok (.iload 5, 2) := by decide +kernel
theorem dX4_endOf_52 : decode cX4_endOf 52 = .ok (.invokevirtual 85, 3) := by decide +kernel
theorem dX4_endOf_55 : decode cX4_endOf 55 = .ok (.iconst 1, 1) := by decide +kernel
theorem dX4_endOf_56 : decode cX4_endOf 56 = .ok (.if_icmp .le 21, 3) := by decide +kernel
theorem dX4_endOf_59 : decode cX4_endOf 59 = .ok (.aload_n 0, 1) := by decide +kernel
theorem dX4_endOf_60 : decode cX4_endOf 60 = .ok (.iload_n 1, 1) := by decide +kernel
theorem dX4_endOf_61 : decode cX4_endOf 61 = .ok (.invokevirtual 123, 3) := by decide +kernel
theorem dX4_endOf_64 : decode cX4_endOf 64 = .ok (.aload_n 3, 1) := by decide +kernel
theorem dX4_endOf_65 : decode cX4_endOf 65 = .ok (.iload 5, 2) := by decide +kernel
theorem dX4_endOf_67 : decode cX4_endOf 67 = .ok (.invokestatic 93, 3) := by decide +kernel
theorem dX4_endOf_70 : decode cX4_endOf 70 = .ok (.if_icmp .ge 7, 3) := by decide +kernel
theorem dX4_endOf_73 : decode cX4_endOf 73 = .ok (.iconst 1, 1) := by decide +kernel
theorem dX4_endOf_74 : decode cX4_endOf 74 = .ok (.goto 4, 3) := by decide +kernel
theorem dX4_endOf_77 : decode cX4_endOf 77 = .ok (.iconst 0, 1) := by decide +kernel
theorem dX4_endOf_78 : decode cX4_endOf 78 = .ok (.istore 6, 2) := by decide +kernel
theorem dX4_endOf_80 : decode cX4_endOf 80 = .ok (.iload 6, 2) := by decide +kernel
theorem dX4_endOf_82 : decode cX4_endOf 82 = .ok (.ifCond .eq 14, 3) := by decide +kernel
theorem dX4_endOf_85 : decode cX4_endOf 85 = .ok (.aload_n 3, 1) := by decide +kernel
theorem dX4_endOf_86 : decode cX4_endOf 86 = .ok (.iload 5, 2) := by decide +kernel
theorem dX4_endOf_88 : decode cX4_endOf 88 = .ok (.iconst 1, 1) := by decide +kernel
theorem dX4_endOf_89 : decode cX4_endOf 89 = .ok (.iadd, 1) := by decide +kernel
theorem dX4_endOf_90 : decode cX4_endOf 90 = .ok (.invokestatic 93, 3) := by decide +kernel
theorem dX4_endOf_93 : decode cX4_endOf 93 = .ok (.goto 5, 3) := by decide +kernel
theorem dX4_endOf_96 : decode cX4_endOf 96 = .ok (.iload 4, 2) := by decide +kernel
theorem dX4_endOf_98 : decode cX4_endOf 98 = .ok (.ireturn, 1) := by decide +kernel
theorem dX4_weigh_0 : decode cX4_weigh 0 = .ok (.aload_n 0, 1) := by decide +kernel
theorem dX4_weigh_1 : decode cX4_weigh 1 = .ok (.iload_n 1, 1) := by decide +kernel
theorem dX4_weigh_2 : decode cX4_weigh 2 = .ok (.invokevirtual 120, 3) := by decide +kernel
theorem dX4_weigh_5 : decode cX4_weigh 5 = .ok (.aload_n 0, 1) := by decide +kernel
theorem dX4_weigh_6 : decode cX4_weigh 6 = .ok (.iload_n 1, 1) := by decide +kernel
theorem dX4_weigh_7 : decode cX4_weigh 7 = .ok (.invokevirtual 123, 3) := by decide +kernel
theorem dX4_weigh_10 : decode cX4_weigh 10 = .ok (.isub, 1) := by decide +kernel
theorem dX4_weigh_11 : decode cX4_weigh 11 = .ok (.iconst 1, 1) := by decide +kernel
theorem dX4_weigh_12 : decode cX4_weigh 12 = .ok (.iadd, 1) := by decide +kernel
theorem dX4_weigh_13 : decode cX4_weigh 13 = .ok (.istore_n 2, 1) := by decide +kernel
theorem dX4_weigh_14 : decode cX4_weigh 14 = .ok (.iload_n 2, 1) := by decide +kernel
theorem dX4_weigh_15 : decode cX4_weigh 15 = .ok (.ifCond .le 19, 3) := by decide +kernel
theorem dX4_weigh_18 : decode cX4_weigh 18 = .ok (.bipush 100, 2) := by decide +kernel
theorem dX4_weigh_20 : decode cX4_weigh 20 = .ok (.aload_n 0, 1) := by decide +kernel
theorem dX4_weigh_21 : decode cX4_weigh 21 = .ok (.getfield 22, 3) := by decide +kernel
theorem dX4_weigh_24 : decode cX4_weigh 24 = .ok (.iload_n 1, 1) := by decide +kernel
theorem dX4_weigh_25 : decode cX4_weigh 25 = .ok (.invokestatic 93, 3) := by decide +kernel
theorem dX4_weigh_28 : decode cX4_weigh 28 = .ok (.imul, 1) := by decide +kernel
theorem dX4_weigh_29 : decode cX4_weigh 29 = .ok (.iload_n 2, 1) := by decide +kernel
theorem dX4_weigh_30 : decode cX4_weigh 30 = .ok (.idiv, 1) := by decide +kernel
theorem dX4_weigh_31 : decode cX4_weigh 31 = .ok (.goto 4, 3) := by decide +kernel
theorem dX4_weigh_34 : decode cX4_weigh 34 = .ok (.iconst 0, 1) := by decide +kernel
theorem dX4_weigh_35 : decode cX4_weigh 35 = .ok (.ireturn, 1) := by decide +kernel
theorem dX4_countCrossed_0 : decode cX4_countCrossed 0 = .ok (.iconst 0, 1) := by decide +kernel
theorem dX4_countCrossed_1 : decode cX4_countCrossed 1 = .ok (.istore_n 2, 1) := by decide +kernel
theorem dX4_countCrossed_2 : decode cX4_countCrossed 2 = .ok (.iconst 0, 1) := by decide +kernel
theorem dX4_countCrossed_3 : decode cX4_countCrossed 3 = .ok (.istore_n 3, 1) := by decide +kernel
theorem dX4_countCrossed_4 : decode cX4_countCrossed 4 = .ok (.iload_n 3, 1) := by decide +kernel
theorem dX4_countCrossed_5 : decode cX4_countCrossed 5 = .ok (.aload_n 0, 1) := by decide +kernel
theorem dX4_countCrossed_6 : decode cX4_countCrossed 6 = .ok (.getfield 47, 3) := by decide +kernel
theorem dX4_countCrossed_9 : decode cX4_countCrossed 9 = .ok (.if_icmp .ge 28, 3) := by decide +kernel
theorem dX4_countCrossed_12 : decode cX4_countCrossed 12 = .ok (.aload_n 0, 1) := by decide +kernel
theorem dX4_countCrossed_13 : decode cX4_countCrossed 13 = .ok (.iload_n 1, 1) := by decide +kernel
theorem dX4_countCrossed_14 : decode cX4_countCrossed 14 = .ok (.aload_n 0, 1) := by decide +kernel
theorem dX4_countCrossed_15 : decode cX4_countCrossed 15 = .ok (.getfield 37, 3) := by decide +kernel
theorem dX4_countCrossed_18 : decode cX4_countCrossed 18 = .ok (.iload_n 3, 1) := by decide +kernel
theorem dX4_countCrossed_19 : decode cX4_countCrossed 19 = .ok (.invokestatic 93, 3) := by decide +kernel
theorem dX4_countCrossed_22 : decode cX4_countCrossed 22 = .ok (.invokevirtual 126, 3) := by decide +kernel
theorem dX4_countCrossed_25 : decode cX4_countCrossed 25 = .ok (.ifCond .eq 6, 3) := by decide +kernel
theorem dX4_countCrossed_28 : decode cX4_countCrossed 28 = .ok (.iinc 2 1, 3) := by decide +kernel
theorem dX4_countCrossed_31 : decode cX4_countCrossed 31 = .ok (.iinc 3 1, 3) := by decide +kernel
theorem dX4_countCrossed_34 : decode cX4_countCrossed 34 = .ok (.goto (-30), 3) := by decide +kernel
theorem dX4_countCrossed_37 : decode cX4_countCrossed 37 = .ok (.iload_n 2, 1) := by decide +kernel
theorem dX4_countCrossed_38 : decode cX4_countCrossed 38 = .ok (.ireturn, 1) := by decide +kernel
theorem dX4_isLiving_0 : decode cX4_isLiving 0 = .ok (.iload_n 1, 1) := by decide +kernel
theorem dX4_isLiving_1 : decode cX4_isLiving 1 = .ok (.bipush 88, 2) := by decide +kernel
theorem dX4_isLiving_3 : decode cX4_isLiving 3 = .ok (.invokestatic 129, 3) := by decide +kernel
theorem dX4_isLiving_6 : decode cX4_isLiving 6 = .ok (.ifCond .eq 19, 3) := by decide +kernel
theorem dX4_isLiving_9 : decode cX4_isLiving 9 = .ok (.aload_n 0, 1) := by decide +kernel
theorem dX4_isLiving_10 : decode cX4_isLiving 10 = .ok (.getfield 15, 3) := by decide +kernel
theorem dX4_isLiving_13 : decode cX4_isLiving 13 = .ok (.iload_n 1, 1) := by decide +kernel
theorem dX4_isLiving_14 : decode cX4_isLiving 14 = .ok (.invokestatic 93, 3) := by decide +kernel
theorem dX4_isLiving_17 : decode cX4_isLiving 17 = .ok (.iconst (-1), 1) := by decide +kernel
theorem dX4_isLiving_18 : decode cX4_isLiving 18 = .ok (.if_icmp .eq 7, 3) := by decide +kernel
theorem dX4_isLiving_21 : decode cX4_isLiving 21 = .ok (.iconst 1, 1) := by decide +kernel
theorem dX4_isLiving_22 : decode cX4_isLiving 22 = .ok (.goto 4, 3) := by decide +kernel
theorem dX4_isLiving_25 : decode cX4_isLiving 25 = .ok (.iconst 0, 1) := by decide +kernel
theorem dX4_isLiving_26 : decode cX4_isLiving 26 = .ok (.ireturn, 1) := by decide +kernel
theorem dX4_isCrossing_0 : decode cX4_isCrossing 0 = .ok (.aload_n 0, 1) := by decide +kernel
theorem dX4_isCrossing_1 : decode cX4_isCrossing 1 = .ok (.iload_n 1, 1) := by decide +kernel
theorem dX4_isCrossing_2 : decode cX4_isCrossing 2 = .ok (.invokevirtual 63, 3) := by decide +kernel
theorem dX4_isCrossing_5 : decode cX4_isCrossing 5 = .ok (.ifCond .eq 25, 3) := by decide +kernel
theorem dX4_isCrossing_8 : decode cX4_isCrossing 8 = .ok (.aload_n 0, 1) := by decide +kernel
theorem dX4_isCrossing_9 : decode cX4_isCrossing 9 = .ok (.iload_n 1, 1) := by decide +kernel
theorem dX4_isCrossing_10 : decode cX4_isCrossing 10 = .ok (.invokevirtual 123, 3) := by decide +kernel
theorem dX4_isCrossing_13 : decode cX4_isCrossing 13 = .ok (.iload_n 2, 1) := by decide +kernel
theorem dX4_isCrossing_14 : decode cX4_isCrossing 14 = .ok (.if_icmp .ge 16, 3) := by decide +kernel
theorem dX4_isCrossing_17 : decode cX4_isCrossing 17 = .ok (.iload_n 2, 1) := by decide +kernel
theorem dX4_isCrossing_18 : decode cX4_isCrossing 18 = .ok (.aload_n 0, 1) := by decide +kernel
theorem dX4_isCrossing_19 : decode cX4_isCrossing 19 = .ok (.iload_n 1, 1) := by decide +kernel
theorem dX4_isCrossing_20 : decode cX4_isCrossing 20 = .ok (.invokevirtual 120, 3) := by decide +kernel
theorem dX4_isCrossing_23 : decode cX4_isCrossing 23 = .ok (.if_icmp .ge 7, 3) := by decide +kernel
theorem dX4_isCrossing_26 : decode cX4_isCrossing 26 = .ok (.iconst 1, 1) := by decide +kernel
theorem dX4_isCrossing_27 : decode cX4_isCrossing 27 = .ok (.goto 4, 3) := by decide +kernel
theorem dX4_isCrossing_30 : decode cX4_isCrossing 30 = .ok (.iconst 0, 1) := by decide +kernel
theorem dX4_isCrossing_31 : decode cX4_isCrossing 31 = .ok (.ireturn, 1) := by decide +kernel
theorem dX4_firstOf_0 : decode cX4_firstOf 0 = .ok (.aload_n 0, 1) := by decide +kernel
theorem dX4_firstOf_1 : decode cX4_firstOf 1 = .ok (.getfield 15, 3) := by decide +kernel
theorem dX4_firstOf_4 : decode cX4_firstOf 4 = .ok (.iload_n 1, 1) := by decide +kernel
theorem dX4_firstOf_5 : decode cX4_firstOf 5 = .ok (.invokestatic 93, 3) := by decide +kernel
theorem dX4_firstOf_8 : decode cX4_firstOf 8 = .ok (.ireturn, 1) := by decide +kernel
theorem dX4_lastOf_0 : decode cX4_lastOf 0 = .ok (.aload_n 0, 1) := by decide +kernel
theorem dX4_lastOf_1 : decode cX4_lastOf 1 = .ok (.getfield 19, 3) := by decide +kernel
theorem dX4_lastOf_4 : decode cX4_lastOf 4 = .ok (.iload_n 1, 1) := by decide +kernel
theorem dX4_lastOf_5 : decode cX4_lastOf 5 = .ok (.invokestatic 93, 3) := by decide +kernel
theorem dX4_lastOf_8 : decode cX4_lastOf 8 = .ok (.ireturn, 1) := by decide +kernel
theorem dX4_weightOf_0 : decode cX4_weightOf 0 = .ok (.aload_n 0, 1) := by decide +kernel
theorem dX4_weightOf_1 : decode cX4_weightOf 1 = .ok (.getfield 25, 3) := by decide +kernel
theorem dX4_weightOf_4 : decode cX4_weightOf 4 = .ok (.iload_n 1, 1) := by decide +kernel
theorem dX4_weightOf_5 : decode cX4_weightOf 5 = .ok (.invokestatic 93, 3) := by decide +kernel
theorem dX4_weightOf_8 : decode cX4_weightOf 8 = .ok (.ireturn, 1) := by decide +kernel
theorem dX4_crossedBy_0 : decode cX4_crossedBy 0 = .ok (.aload_n 0, 1) := by decide +kernel
theorem dX4_crossedBy_1 : decode cX4_crossedBy 1 = .ok (.getfield 34, 3) := by decide +kernel
theorem dX4_crossedBy_4 : decode cX4_crossedBy 4 = .ok (.iload_n 1, 1) := by decide +kernel
theorem dX4_crossedBy_5 : decode cX4_crossedBy 5 = .ok (.invokestatic 93, 3) := by decide +kernel
theorem dX4_crossedBy_8 : decode cX4_crossedBy 8 = .ok (.ireturn, 1) := by decide +kernel
theorem dX4_writesOf_0 : decode cX4_writesOf 0 = .ok (.aload_n 0, 1) := by decide +kernel
theorem dX4_writesOf_1 : decode cX4_writesOf 1 = .ok (.getfield 28, 3) := by decide +kernel
theorem dX4_writesOf_4 : decode cX4_writesOf 4 = .ok (.iload_n 1, 1) := by decide +kernel
theorem dX4_writesOf_5 : decode cX4_writesOf 5 = .ok (.invokestatic 93, 3) := by decide +kernel
theorem dX4_writesOf_8 : decode cX4_writesOf 8 = .ok (.ireturn, 1) := by decide +kernel
theorem dX4_touchesOf_0 : decode cX4_touchesOf 0 = .ok (.aload_n 0, 1) := by decide +kernel
theorem dX4_touchesOf_1 : decode cX4_touchesOf 1 = .ok (.getfield 28, 3) := by decide +kernel
theorem dX4_touchesOf_4 : decode cX4_touchesOf 4 = .ok (.iload_n 1, 1) := by decide +kernel
theorem dX4_touchesOf_5 : decode cX4_touchesOf 5 = .ok (.invokestatic 93, 3) := by decide +kernel
theorem dX4_touchesOf_8 : decode cX4_touchesOf 8 = .ok (.aload_n 0, 1) := by decide +kernel
theorem dX4_touchesOf_9 : decode cX4_touchesOf 9 = .ok (.getfield 31, 3) := by decide +kernel
theorem dX4_touchesOf_12 : decode cX4_touchesOf 12 = .ok (.iload_n 1, 1) := by decide +kernel
theorem dX4_touchesOf_13 : decode cX4_touchesOf 13 = .ok (.invokestatic 93, 3) := by decide +kernel
theorem dX4_touchesOf_16 : decode cX4_touchesOf 16 = .ok (.iadd, 1) := by decide +kernel
theorem dX4_touchesOf_17 : decode cX4_touchesOf 17 = .ok (.ireturn, 1) := by decide +kernel
theorem dX4_pointOfCall_0 : decode cX4_pointOfCall 0 = .ok (.aload_n 0, 1) := by decide +kernel
theorem dX4_pointOfCall_1 : decode cX4_pointOfCall 1 = .ok (.getfield 37, 3) := by decide +kernel
theorem dX4_pointOfCall_4 : decode cX4_pointOfCall 4 = .ok (.iload_n 1, 1) := by decide +kernel
theorem dX4_pointOfCall_5 : decode cX4_pointOfCall 5 = .ok (.invokestatic 93, 3) := by decide +kernel
theorem dX4_pointOfCall_8 : decode cX4_pointOfCall 8 = .ok (.ireturn, 1) := by decide +kernel
theorem dX4_mostAtOnce_0 : decode cX4_mostAtOnce 0 = .ok (.iconst 0, 1) := by decide +kernel
theorem dX4_mostAtOnce_1 : decode cX4_mostAtOnce 1 = .ok (.istore_n 2, 1) := by decide +kernel
theorem dX4_mostAtOnce_2 : decode cX4_mostAtOnce 2 = .ok (.iconst 0, 1) := by decide +kernel
theorem dX4_mostAtOnce_3 : decode cX4_mostAtOnce 3 = .ok (.istore_n 3, 1) := by decide +kernel
theorem dX4_mostAtOnce_4 : decode cX4_mostAtOnce 4 = .ok (.iload_n 3, 1) := by decide +kernel
theorem dX4_mostAtOnce_5 : decode cX4_mostAtOnce 5 = .ok (.iload_n 1, 1) := by decide +kernel
theorem dX4_mostAtOnce_6 : decode cX4_mostAtOnce 6 = .ok (.if_icmp .gt 69, 3) := by decide +kernel
theorem dX4_mostAtOnce_9 : decode cX4_mostAtOnce 9 = .ok (.iconst 0, 1) := by decide +kernel
theorem dX4_mostAtOnce_10 : decode cX4_mostAtOnce 10 = .ok (.istore 4, 2) := by decide +kernel
theorem dX4_mostAtOnce_12 : decode cX4_mostAtOnce 12 = .ok (.iconst 0, 1) := by decide +kernel
theorem dX4_mostAtOnce_13 : decode cX4_mostAtOnce 13 = .ok (.istore 5, 2) := by decide +kernel
theorem dX4_mostAtOnce_15 : decode cX4_mostAtOnce 15 = .ok (.iload 5, 2) := by decide +kernel
theorem dX4_mostAtOnce_17 : decode cX4_mostAtOnce 17 = .ok (.aload_n 0, 1) := by decide +kernel
theorem dX4_mostAtOnce_18 : decode cX4_mostAtOnce 18 = .ok (.getfield 40, 3) := by decide +kernel
theorem dX4_mostAtOnce_21 : decode cX4_mostAtOnce 21 = .ok (.if_icmp .ge 41, 3) := by decide +kernel
theorem dX4_mostAtOnce_24 : decode cX4_mostAtOnce 24 = .ok (.aload_n 0, 1) := by decide +kernel
theorem dX4_mostAtOnce_25 : decode cX4_mostAtOnce 25 = .ok (.iload 5, 2) := by decide +kernel
theorem dX4_mostAtOnce_27 : decode cX4_mostAtOnce 27 = .ok (.invokevirtual 63, 3) := by decide +kernel
theorem dX4_mostAtOnce_30 : decode cX4_mostAtOnce 30 = .ok (.ifCond .eq 26, 3) := by decide +kernel
theorem dX4_mostAtOnce_33 : decode cX4_mostAtOnce 33 = .ok (.aload_n 0, 1) := by decide +kernel
theorem dX4_mostAtOnce_34 : decode cX4_mostAtOnce 34 = .ok (.iload 5, 2) := by decide +kernel
theorem dX4_mostAtOnce_36 : decode cX4_mostAtOnce 36 = .ok (.invokevirtual 123, 3) := by decide +kernel
theorem dX4_mostAtOnce_39 : decode cX4_mostAtOnce 39 = .ok (.iload_n 3, 1) := by decide +kernel
theorem dX4_mostAtOnce_40 : decode cX4_mostAtOnce 40 = .ok (.if_icmp .gt 16, 3) := by decide +kernel
theorem dX4_mostAtOnce_43 : decode cX4_mostAtOnce 43 = .ok (.iload_n 3, 1) := by decide +kernel
theorem dX4_mostAtOnce_44 : decode cX4_mostAtOnce 44 = .ok (.aload_n 0, 1) := by decide +kernel
theorem dX4_mostAtOnce_45 : decode cX4_mostAtOnce 45 = .ok (.iload 5, 2) := by decide +kernel
theorem dX4_mostAtOnce_47 : decode cX4_mostAtOnce 47 = .ok (.invokevirtual 120, 3) := by decide +kernel
theorem dX4_mostAtOnce_50 : decode cX4_mostAtOnce 50 = .ok (.if_icmp .gt 6, 3) := by decide +kernel
theorem dX4_mostAtOnce_53 : decode cX4_mostAtOnce 53 = .ok (.iinc 4 1, 3) := by decide +kernel
theorem dX4_mostAtOnce_56 : decode cX4_mostAtOnce 56 = .ok (.iinc 5 1, 3) := by decide +kernel
theorem dX4_mostAtOnce_59 : decode cX4_mostAtOnce 59 = .ok (.goto (-44), 3) := by decide +kernel
theorem dX4_mostAtOnce_62 : decode cX4_mostAtOnce 62 = .ok (.iload_n 2, 1) := by decide +kernel
theorem dX4_mostAtOnce_63 : decode cX4_mostAtOnce 63 = .ok (.iload 4, 2) := by decide +kernel
theorem dX4_mostAtOnce_65 : decode cX4_mostAtOnce 65 = .ok (.invokestatic 108, 3) := by decide +kernel
theorem dX4_mostAtOnce_68 : decode cX4_mostAtOnce 68 = .ok (.istore_n 2, 1) := by decide +kernel
theorem dX4_mostAtOnce_69 : decode cX4_mostAtOnce 69 = .ok (.iinc 3 1, 3) := by decide +kernel
theorem dX4_mostAtOnce_72 : decode cX4_mostAtOnce 72 = .ok (.goto (-68), 3) := by decide +kernel
theorem dX4_mostAtOnce_75 : decode cX4_mostAtOnce 75 = .ok (.iload_n 2, 1) := by decide +kernel
theorem dX4_mostAtOnce_76 : decode cX4_mostAtOnce 76 = .ok (.ireturn, 1) := by decide +kernel
theorem dX5_init_0 : decode cX5_init 0 = .ok (.aload_n 0, 1) := by decide +kernel
theorem dX5_init_1 : decode cX5_init 1 = .ok (.invokespecial 3, 3) := by decide +kernel
theorem dX5_init_4 : decode cX5_init 4 = .ok (.aload_n 0, 1) := by decide +kernel
theorem dX5_init_5 : decode cX5_init 5 = .ok (.bipush 8, 2) := by decide +kernel
theorem dX5_init_7 : decode cX5_init 7 = .ok (.putfield 9, 3) := by decide +kernel
theorem dX5_init_10 : decode cX5_init 10 = .ok (.aload_n 0, 1) := by decide +kernel
theorem dX5_init_11 : decode cX5_init 11 = .ok (.bipush 28, 2) := by decide +kernel
theorem dX5_init_13 : decode cX5_init 13 = .ok (.putfield 15, 3) := by decide +kernel
theorem dX5_init_16 : decode cX5_init 16 = .ok (.aload_n 0, 1) := by decide +kernel
theorem dX5_init_17 : decode cX5_init 17 = .ok (.bipush 15, 2) := by decide +kernel
theorem dX5_init_19 : decode cX5_init 19 = .ok (.putfield 18, 3) := by decide +kernel
theorem dX5_init_22 : decode cX5_init 22 = .ok (.aload_n 0, 1) := by decide +kernel
theorem dX5_init_23 : decode cX5_init 23 = .ok (.iconst 1, 1) := by decide +kernel
theorem dX5_init_24 : decode cX5_init 24 = .ok (.putfield 21, 3) := by decide +kernel
theorem dX5_init_27 : decode cX5_init 27 = .ok (.aload_n 0, 1) := by decide +kernel
theorem dX5_init_28 : decode cX5_init 28 = .ok (.iconst 0, 1) := by decide +kernel
theorem dX5_init_29 : decode cX5_init 29 = .ok (.putfield 25, 3) := by decide +kernel
theorem dX5_init_32 : decode cX5_init 32 = .ok (.aload_n 0, 1) := by decide +kernel
theorem dX5_init_33 : decode cX5_init 33 = .ok (.bipush 8, 2) := by decide +kernel
theorem dX5_init_35 : decode cX5_init 35 = .ok (.newarray .int, 2) := by decide +kernel
theorem dX5_init_37 : decode cX5_init 37 = .ok (.dup, 1) := by decide +kernel
theorem dX5_init_38 : decode cX5_init 38 = .ok (.iconst 0, 1) := by decide +kernel
theorem dX5_init_39 : decode cX5_init 39 = .ok (.iconst 1, 1) := by decide +kernel
theorem dX5_init_40 : decode cX5_init 40 = .ok (.iastore, 1) := by decide +kernel
theorem dX5_init_41 : decode cX5_init 41 = .ok (.dup, 1) := by decide +kernel
theorem dX5_init_42 : decode cX5_init 42 = .ok (.iconst 1, 1) := by decide +kernel
theorem dX5_init_43 : decode cX5_init 43 = .ok (.iconst 1, 1) := by decide +kernel
theorem dX5_init_44 : decode cX5_init 44 = .ok (.iastore, 1) := by decide +kernel
theorem dX5_init_45 : decode cX5_init 45 = .ok (.dup, 1) := by decide +kernel
theorem dX5_init_46 : decode cX5_init 46 = .ok (.iconst 2, 1) := by decide +kernel
theorem dX5_init_47 : decode cX5_init 47 = .ok (.iconst 1, 1) := by decide +kernel
theorem dX5_init_48 : decode cX5_init 48 = .ok (.iastore, 1) := by decide +kernel
theorem dX5_init_49 : decode cX5_init 49 = .ok (.dup, 1) := by decide +kernel
theorem dX5_init_50 : decode cX5_init 50 = .ok (.iconst 3, 1) := by decide +kernel
theorem dX5_init_51 : decode cX5_init 51 = .ok (.iconst 3, 1) := by decide +kernel
theorem dX5_init_52 : decode cX5_init 52 = .ok (.iastore, 1) := by decide +kernel
theorem dX5_init_53 : decode cX5_init 53 = .ok (.dup, 1) := by decide +kernel
theorem dX5_init_54 : decode cX5_init 54 = .ok (.iconst 4, 1) := by decide +kernel
theorem dX5_init_55 : decode cX5_init 55 = .ok (.iconst 3, 1) := by decide +kernel
theorem dX5_init_56 : decode cX5_init 56 = .ok (.iastore, 1) := by decide +kernel
theorem dX5_init_57 : decode cX5_init 57 = .ok (.dup, 1) := by decide +kernel
theorem dX5_init_58 : decode cX5_init 58 = .ok (.iconst 5, 1) := by decide +kernel
theorem dX5_init_59 : decode cX5_init 59 = .ok (.iconst 2, 1) := by decide +kernel
theorem dX5_init_60 : decode cX5_init 60 = .ok (.iastore, 1) := by decide +kernel
theorem dX5_init_61 : decode cX5_init 61 = .ok (.dup, 1) := by decide +kernel
theorem dX5_init_62 : decode cX5_init 62 = .ok (.bipush 6, 2) := by decide +kernel
theorem dX5_init_64 : decode cX5_init 64 = .ok (.iconst 1, 1) := by decide +kernel
theorem dX5_init_65 : decode cX5_init 65 = .ok (.iastore, 1) := by decide +kernel
theorem dX5_init_66 : decode cX5_init 66 = .ok (.dup, 1) := by decide +kernel
theorem dX5_init_67 : decode cX5_init 67 = .ok (.bipush 7, 2) := by decide +kernel
theorem dX5_init_69 : decode cX5_init 69 = .ok (.iconst 5, 1) := by decide +kernel
theorem dX5_init_70 : decode cX5_init 70 = .ok (.iastore, 1) := by decide +kernel
theorem dX5_init_71 : decode cX5_init 71 = .ok (.putfield 28, 3) := by decide +kernel
theorem dX5_init_74 : decode cX5_init 74 = .ok (.return_, 1) := by decide +kernel
theorem dX5_beLike_0 : decode cX5_beLike 0 = .ok (.aload_n 0, 1) := by decide +kernel
theorem dX5_beLike_1 : decode cX5_beLike 1 = .ok (.aload_n 1, 1) := by decide +kernel
theorem dX5_beLike_2 : decode cX5_beLike 2 = .ok (.getfield 9, 3) := by decide +kernel
theorem dX5_beLike_5 : decode cX5_beLike 5 = .ok (.putfield 9, 3) := by decide +kernel
theorem dX5_beLike_8 : decode cX5_beLike 8 = .ok (.aload_n 0, 1) := by decide +kernel
theorem dX5_beLike_9 : decode cX5_beLike 9 = .ok (.aload_n 1, 1) := by decide +kernel
theorem dX5_beLike_10 : decode cX5_beLike 10 = .ok (.getfield 15, 3) := by decide +kernel
theorem dX5_beLike_13 : decode cX5_beLike 13 = .ok (.putfield 15, 3) := by decide +kernel
theorem dX5_beLike_16 : decode cX5_beLike 16 = .ok (.aload_n 0, 1) := by decide +kernel
theorem dX5_beLike_17 : decode cX5_beLike 17 = .ok (.aload_n 1, 1) := by decide +kernel
theorem dX5_beLike_18 : decode cX5_beLike 18 = .ok (.getfield 18, 3) := by decide +kernel
theorem dX5_beLike_21 : decode cX5_beLike 21 = .ok (.putfield 18, 3) := by decide +kernel
theorem dX5_beLike_24 : decode cX5_beLike 24 = .ok (.aload_n 0, 1) := by decide +kernel
theorem dX5_beLike_25 : decode cX5_beLike 25 = .ok (.aload_n 1, 1) := by decide +kernel
theorem dX5_beLike_26 : decode cX5_beLike 26 = .ok (.getfield 21, 3) := by decide +kernel
theorem dX5_beLike_29 : decode cX5_beLike 29 = .ok (.putfield 21, 3) := by decide +kernel
theorem dX5_beLike_32 : decode cX5_beLike 32 = .ok (.aload_n 0, 1) := by decide +kernel
theorem dX5_beLike_33 : decode cX5_beLike 33 = .ok (.aload_n 1, 1) := by decide +kernel
theorem dX5_beLike_34 : decode cX5_beLike 34 = .ok (.getfield 25, 3) := by decide +kernel
theorem dX5_beLike_37 : decode cX5_beLike 37 = .ok (.putfield 25, 3) := by decide +kernel
theorem dX5_beLike_40 : decode cX5_beLike 40 = .ok (.iconst 0, 1) := by decide +kernel
theorem dX5_beLike_41 : decode cX5_beLike 41 = .ok (.istore_n 2, 1) := by decide +kernel
theorem dX5_beLike_42 : decode cX5_beLike 42 = .ok (.iload_n 2, 1) := by decide +kernel
theorem dX5_beLike_43 : decode cX5_beLike 43 = .ok (.bipush 8, 2) := by decide +kernel
theorem dX5_beLike_45 : decode cX5_beLike 45 = .ok (.if_icmp .ge 25, 3) := by decide +kernel
theorem dX5_beLike_48 : decode cX5_beLike 48 = .ok (.aload_n 0, 1) := by decide +kernel
theorem dX5_beLike_49 : decode cX5_beLike 49 = .ok (.getfield 28, 3) := by decide +kernel
theorem dX5_beLike_52 : decode cX5_beLike 52 = .ok (.iload_n 2, 1) := by decide +kernel
theorem dX5_beLike_53 : decode cX5_beLike 53 = .ok (.aload_n 1, 1) := by decide +kernel
theorem dX5_beLike_54 : decode cX5_beLike 54 = .ok (.getfield 28, 3) := by decide +kernel
theorem dX5_beLike_57 : decode cX5_beLike 57 = .ok (.iload_n 2, 1) := by decide +kernel
theorem dX5_beLike_58 : decode cX5_beLike 58 = .ok (.invokestatic 32, 3) := by decide +kernel
theorem dX5_beLike_61 : decode cX5_beLike 61 = .ok (.invokestatic 36, 3) := by decide +kernel
theorem dX5_beLike_64 : decode cX5_beLike 64 = .ok (.iinc 2 1, 3) := by decide +kernel
theorem dX5_beLike_67 : decode cX5_beLike 67 = .ok (.goto (-25), 3) := by decide +kernel
theorem dX5_beLike_70 : decode cX5_beLike 70 = .ok (.return_, 1) := by decide +kernel
theorem dX5_scratch_0 : decode cX5_scratch 0 = .ok (.aload_n 0, 1) := by decide +kernel
theorem dX5_scratch_1 : decode cX5_scratch 1 = .ok (.getfield 9, 3) := by decide +kernel
theorem dX5_scratch_4 : decode cX5_scratch 4 = .ok (.iconst 3, 1) := by decide +kernel
theorem dX5_scratch_5 : decode cX5_scratch 5 = .ok (.isub, 1) := by decide +kernel
theorem dX5_scratch_6 : decode cX5_scratch 6 = .ok (.ireturn, 1) := by decide +kernel
theorem dX5_cyclesOf_0 : decode cX5_cyclesOf 0 = .ok (.aload_n 0, 1) := by decide +kernel
theorem dX5_cyclesOf_1 : decode cX5_cyclesOf 1 = .ok (.getfield 28, 3) := by decide +kernel
theorem dX5_cyclesOf_4 : decode cX5_cyclesOf 4 = .ok (.getstatic 40, 3) := by decide +kernel
theorem dX5_cyclesOf_7 : decode cX5_cyclesOf 7 = .ok (.iload_n 1, 1) := by decide +kernel
theorem dX5_cyclesOf_8 : decode cX5_cyclesOf 8 = .ok (.invokestatic 32, 3) := by decide +kernel
theorem dX5_cyclesOf_11 : decode cX5_cyclesOf 11 = .ok (.invokestatic 32, 3) := by decide +kernel
theorem dX5_cyclesOf_14 : decode cX5_cyclesOf 14 = .ok (.ireturn, 1) := by decide +kernel
theorem dX6_init_0 : decode cX6_init 0 = .ok (.aload_n 0, 1) := by decide +kernel
theorem dX6_init_1 : decode cX6_init 1 = .ok (.invokespecial 3, 3) := by decide +kernel
theorem dX6_init_4 : decode cX6_init 4 = .ok (.aload_n 0, 1) := by decide +kernel
theorem dX6_init_5 : decode cX6_init 5 = .ok (.aload_n 1, 1) := by decide +kernel
theorem dX6_init_6 : decode cX6_init 6 = .ok (.putfield 9, 3) := by decide +kernel
theorem dX6_init_9 : decode cX6_init 9 = .ok (.aload_n 0, 1) := by decide +kernel
theorem dX6_init_10 : decode cX6_init 10 = .ok (.bipush 8, 2) := by decide +kernel
theorem dX6_init_12 : decode cX6_init 12 = .ok (.newarray .int, 2) := by decide +kernel
theorem dX6_init_14 : decode cX6_init 14 = .ok (.putfield 15, 3) := by decide +kernel
theorem dX6_init_17 : decode cX6_init 17 = .ok (.aload_n 0, 1) := by decide +kernel
theorem dX6_init_18 : decode cX6_init 18 = .ok (.bipush 80, 2) := by decide +kernel
theorem dX6_init_20 : decode cX6_init 20 = .ok (.newarray .int, 2) := by decide +kernel
theorem dX6_init_22 : decode cX6_init 22 = .ok (.putfield 19, 3) := by decide +kernel
theorem dX6_init_25 : decode cX6_init 25 = .ok (.return_, 1) := by decide +kernel
theorem dX6_work_0 : decode cX6_work 0 = .ok (.aload_n 0, 1) := by decide +kernel
theorem dX6_work_1 : decode cX6_work 1 = .ok (.getfield 15, 3) := by decide +kernel
theorem dX6_work_4 : decode cX6_work 4 = .ok (.iconst 0, 1) := by decide +kernel
theorem dX6_work_5 : decode cX6_work 5 = .ok (.invokestatic 22, 3) := by decide +kernel
theorem dX6_work_8 : decode cX6_work 8 = .ok (.iconst 0, 1) := by decide +kernel
theorem dX6_work_9 : decode cX6_work 9 = .ok (.istore_n 1, 1) := by decide +kernel
theorem dX6_work_10 : decode cX6_work 10 = .ok (.iload_n 1, 1) := by decide +kernel
theorem dX6_work_11 : decode cX6_work 11 = .ok (.iconst 4, 1) := by decide +kernel
theorem dX6_work_12 : decode cX6_work 12 = .ok (.if_icmp .ge 36, 3) := by decide +kernel
theorem dX6_work_15 : decode cX6_work 15 = .ok (.aload_n 0, 1) := by decide +kernel
theorem dX6_work_16 : decode cX6_work 16 = .ok (.getfield 9, 3) := by decide +kernel
theorem dX6_work_19 : decode cX6_work 19 = .ok (.iload_n 1, 1) := by decide +kernel
theorem dX6_work_20 : decode cX6_work 20 = .ok (.invokevirtual 26, 3) := by decide +kernel
theorem dX6_work_23 : decode cX6_work 23 = .ok (.istore_n 2, 1) := by decide +kernel
theorem dX6_work_24 : decode cX6_work 24 = .ok (.iconst 0, 1) := by decide +kernel
theorem dX6_work_25 : decode cX6_work 25 = .ok (.istore_n 3, 1) := by decide +kernel
theorem dX6_work_26 : decode cX6_work 26 = .ok (.iload_n 3, 1) := by decide +kernel
theorem dX6_work_27 : decode cX6_work 27 = .ok (.iload_n 2, 1) := by decide +kernel
theorem dX6_work_28 : decode cX6_work 28 = .ok (.if_icmp .ge 14, 3) := by decide +kernel
theorem dX6_work_31 : decode cX6_work 31 = .ok (.aload_n 0, 1) := by decide +kernel
theorem dX6_work_32 : decode cX6_work 32 = .ok (.iload_n 1, 1) := by decide +kernel
theorem dX6_work_33 : decode cX6_work 33 = .ok (.invokevirtual 32, 3) := by decide +kernel
theorem dX6_work_36 : decode cX6_work 36 = .ok (.iinc 3 1, 3) := by decide +kernel
theorem dX6_work_39 : decode cX6_work 39 = .ok (.goto (-13), 3) := by decide +kernel
theorem dX6_work_42 : decode cX6_work 42 = .ok (.iinc 1 1, 3) := by decide +kernel
theorem dX6_work_45 : decode cX6_work 45 = .ok (.goto (-35), 3) := by decide +kernel
theorem dX6_work_48 : decode cX6_work 48 = .ok (.return_, 1) := by decide +kernel
theorem dX6_workBlock_0 : decode cX6_workBlock 0 = .ok (.aload_n 0, 1) := by decide +kernel
theorem dX6_workBlock_1 : decode cX6_workBlock 1 = .ok (.getfield 9, 3) := by decide +kernel
theorem dX6_workBlock_4 : decode cX6_workBlock 4 = .ok (.iload_n 1, 1) := by decide +kernel
theorem dX6_workBlock_5 : decode cX6_workBlock 5 = .ok (.invokevirtual 36, 3) := by decide +kernel
theorem dX6_workBlock_8 : decode cX6_workBlock 8 = .ok (.istore_n 2, 1) := by decide +kernel
theorem dX6_workBlock_9 : decode cX6_workBlock 9 = .ok (.iconst 0, 1) := by decide +kernel
theorem dX6_workBlock_10 : decode cX6_workBlock 10 = .ok (.istore_n 3, 1) := by decide +kernel
theorem dX6_workBlock_11 : decode cX6_workBlock 11 = .ok (.iload_n 3, 1) := by decide +kernel
theorem dX6_workBlock_12 : decode cX6_workBlock 12 = .ok (.iload_n 2, 1) := by decide +kernel
theorem dX6_workBlock_13 : decode cX6_workBlock 13 = .ok (.if_icmp .ge 76, 3) := by decide +kernel
theorem dX6_workBlock_16 : decode cX6_workBlock 16 = .ok (.aload_n 0, 1) := by decide +kernel
theorem dX6_workBlock_17 : decode cX6_workBlock 17 = .ok (.getfield 9, 3) := by decide +kernel
theorem dX6_workBlock_20 : decode cX6_workBlock 20 = .ok (.iload_n 1, 1) := by decide +kernel
theorem dX6_workBlock_21 : decode cX6_workBlock 21 = .ok (.iload_n 3, 1) := by decide +kernel
theorem dX6_workBlock_22 : decode cX6_workBlock 22 = .ok (.invokevirtual 39, 3) := by decide +kernel
theorem dX6_workBlock_25 : decode cX6_workBlock 25 = .ok (.istore 4, 2) := by decide +kernel
theorem dX6_workBlock_27 : decode cX6_workBlock 27 = .ok (.iconst 0, 1) := by decide +kernel
theorem dX6_workBlock_28 : decode cX6_workBlock 28 = .ok (.istore 5, 2) := by decide +kernel
theorem dX6_workBlock_30 : decode cX6_workBlock 30 = .ok (.iload 5, 2) := by decide +kernel
theorem dX6_workBlock_32 : decode cX6_workBlock 32 = .ok (.iload 4, 2) := by decide +kernel
theorem dX6_workBlock_34 : decode cX6_workBlock 34 = .ok (.if_icmp .gt 24, 3) := by decide +kernel
theorem dX6_workBlock_37 : decode cX6_workBlock 37 = .ok (.aload_n 0, 1) := by decide +kernel
theorem dX6_workBlock_38 : decode cX6_workBlock 38 = .ok (.getfield 19, 3) := by decide +kernel
theorem dX6_workBlock_41 : decode cX6_workBlock 41 = .ok (.iload 5, 2) := by decide +kernel
theorem dX6_workBlock_43 : decode cX6_workBlock 43 = .ok (.aload_n 0, 1) := by decide +kernel
theorem dX6_workBlock_44 : decode cX6_workBlock 44 = .ok (.iload 5, 2) := by decide +kernel
theorem dX6_workBlock_46 : decode cX6_workBlock 46 = .ok (.invokevirtual 43, 3) := by decide +kernel
theorem dX6_workBlock_49 : decode cX6_workBlock 49 = .ok (.invokestatic 46, 3) := by decide +kernel
theorem dX6_workBlock_52 : decode cX6_workBlock 52 = .ok (.iinc 5 1, 3) := by decide +kernel
theorem dX6_workBlock_55 : decode cX6_workBlock 55 = .ok (.goto (-25), 3) := by decide +kernel
theorem dX6_workBlock_58 : decode cX6_workBlock 58 = .ok (.aload_n 0, 1) := by decide +kernel
theorem dX6_workBlock_59 : decode cX6_workBlock 59 = .ok (.getfield 15, 3) := by decide +kernel
theorem dX6_workBlock_62 : decode cX6_workBlock 62 = .ok (.aload_n 0, 1) := by decide +kernel
theorem dX6_workBlock_63 : decode cX6_workBlock 63 = .ok (.getfield 9, 3) := by decide +kernel
theorem dX6_workBlock_66 : decode cX6_workBlock 66 = .ok (.iload_n 1, 1) := by decide +kernel
theorem dX6_workBlock_67 : decode cX6_workBlock 67 = .ok (.iload_n 3, 1) := by decide +kernel
theorem dX6_workBlock_68 : decode cX6_workBlock 68 = .ok (.invokevirtual 50, 3) := by decide +kernel
theorem dX6_workBlock_71 : decode cX6_workBlock 71 = .ok (.aload_n 0, 1) := by decide +kernel
theorem dX6_workBlock_72 : decode cX6_workBlock 72 = .ok (.getfield 19, 3) := by decide +kernel
theorem dX6_workBlock_75 : decode cX6_workBlock 75 = .ok (.iload 4, 2) := by decide +kernel
theorem dX6_workBlock_77 : decode cX6_workBlock 77 = .ok (.invokestatic 53, 3) := by decide +kernel
theorem dX6_workBlock_80 : decode cX6_workBlock 80 = .ok (.invokestatic 46, 3) := by decide +kernel
theorem dX6_workBlock_83 : decode cX6_workBlock 83 = .ok (.iinc 3 1, 3) := by decide +kernel
theorem dX6_workBlock_86 : decode cX6_workBlock 86 = .ok (.goto (-75), 3) := by decide +kernel
theorem dX6_workBlock_89 : decode cX6_workBlock 89 = .ok (.return_, 1) := by decide +kernel
theorem dX6_valueOf_0 : decode cX6_valueOf 0 = .ok (.aload_n 0, 1) := by decide +kernel
theorem dX6_valueOf_1 : decode cX6_valueOf 1 = .ok (.getfield 9, 3) := by decide +kernel
theorem dX6_valueOf_4 : decode cX6_valueOf 4 = .ok (.getfield 57, 3) := by decide +kernel
theorem dX6_valueOf_7 : decode cX6_valueOf 7 = .ok (.iload_n 1, 1) := by decide +kernel
theorem dX6_valueOf_8 : decode cX6_valueOf 8 = .ok (.invokestatic 53, 3) := by decide +kernel
theorem dX6_valueOf_11 : decode cX6_valueOf 11 = .ok (.istore_n 2, 1) := by decide +kernel
theorem dX6_valueOf_12 : decode cX6_valueOf 12 = .ok (.aload_n 0, 1) := by decide +kernel
theorem dX6_valueOf_13 : decode cX6_valueOf 13 = .ok (.getfield 9, 3) := by decide +kernel
theorem dX6_valueOf_16 : decode cX6_valueOf 16 = .ok (.getfield 60, 3) := by decide +kernel
theorem dX6_valueOf_19 : decode cX6_valueOf 19 = .ok (.iload_n 1, 1) := by decide +kernel
theorem dX6_valueOf_20 : decode cX6_valueOf 20 = .ok (.invokestatic 53, 3) := by decide +kernel
theorem dX6_valueOf_23 : decode cX6_valueOf 23 = .ok (.istore_n 3, 1) := by decide +kernel
theorem dX6_valueOf_24 : decode cX6_valueOf 24 = .ok (.aload_n 0, 1) := by decide +kernel
theorem dX6_valueOf_25 : decode cX6_valueOf 25 = .ok (.getfield 9, 3) := by decide +kernel
theorem dX6_valueOf_28 : decode cX6_valueOf 28 = .ok (.getfield 63, 3) := by decide +kernel
theorem dX6_valueOf_31 : decode cX6_valueOf 31 = .ok (.iload_n 1, 1) := by decide +kernel
theorem dX6_valueOf_32 : decode cX6_valueOf 32 = .ok (.invokestatic 53, 3) := by decide +kernel
theorem dX6_valueOf_35 : decode cX6_valueOf 35 = .ok (.tableswitch 98 0 4 #[33, 35, 44, 62, 80], 33) := by decide +kernel
theorem dX6_valueOf_68 : decode cX6_valueOf 68 = .ok (.iload_n 2, 1) := by decide +kernel
theorem dX6_valueOf_69 : decode cX6_valueOf 69 = .ok (.ireturn, 1) := by decide +kernel
theorem dX6_valueOf_70 : decode cX6_valueOf 70 = .ok (.aload_n 0, 1) := by decide +kernel
theorem dX6_valueOf_71 : decode cX6_valueOf 71 = .ok (.getfield 15, 3) := by decide +kernel
theorem dX6_valueOf_74 : decode cX6_valueOf 74 = .ok (.iload_n 2, 1) := by decide +kernel
theorem dX6_valueOf_75 : decode cX6_valueOf 75 = .ok (.invokestatic 53, 3) := by decide +kernel
theorem dX6_valueOf_78 : decode cX6_valueOf 78 = .ok (.ireturn, 1) := by decide +kernel
theorem dX6_valueOf_79 : decode cX6_valueOf 79 = .ok (.aload_n 0, 1) := by decide +kernel
theorem dX6_valueOf_80 : decode cX6_valueOf 80 = .ok (.getfield 19, 3) := by decide +kernel
theorem dX6_valueOf_83 : decode cX6_valueOf 83 = .ok (.iload_n 2, 1) := by decide +kernel
theorem dX6_valueOf_84 : decode cX6_valueOf 84 = .ok (.invokestatic 53, 3) := by decide +kernel
theorem dX6_valueOf_87 : decode cX6_valueOf 87 = .ok (.aload_n 0, 1) := by decide +kernel
theorem dX6_valueOf_88 : decode cX6_valueOf 88 = .ok (.getfield 19, 3) := by decide +kernel
theorem dX6_valueOf_91 : decode cX6_valueOf 91 = .ok (.iload_n 3, 1) := by decide +kernel
theorem dX6_valueOf_92 : decode cX6_valueOf 92 = .ok (.invokestatic 53, 3) := by decide +kernel
theorem dX6_valueOf_95 : decode cX6_valueOf 95 = .ok (.iadd, 1) := by decide +kernel
theorem dX6_valueOf_96 : decode cX6_valueOf 96 = .ok (.ireturn, 1) := by decide +kernel
theorem dX6_valueOf_97 : decode cX6_valueOf 97 = .ok (.aload_n 0, 1) := by decide +kernel
theorem dX6_valueOf_98 : decode cX6_valueOf 98 = .ok (.getfield 19, 3) := by decide +kernel
theorem dX6_valueOf_101 : decode cX6_valueOf 101 = .ok (.iload_n 2, 1) := by decide +kernel
theorem dX6_valueOf_102 : decode cX6_valueOf 102 = .ok (.invokestatic 53, 3) := by decide +kernel
theorem dX6_valueOf_105 : decode cX6_valueOf 105 = .ok (.aload_n 0, 1) := by decide +kernel
theorem dX6_valueOf_106 : decode cX6_valueOf 106 = .ok (.getfield 19, 3) := by decide +kernel
theorem dX6_valueOf_109 : decode cX6_valueOf 109 = .ok (.iload_n 3, 1) := by decide +kernel
theorem dX6_valueOf_110 : decode cX6_valueOf 110 = .ok (.invokestatic 53, 3) := by decide +kernel
theorem dX6_valueOf_113 : decode cX6_valueOf 113 = .ok (.isub, 1) := by decide +kernel
theorem dX6_valueOf_114 : decode cX6_valueOf 114 = .ok (.ireturn, 1) := by decide +kernel
theorem dX6_valueOf_115 : decode cX6_valueOf 115 = .ok (.aload_n 0, 1) := by decide +kernel
theorem dX6_valueOf_116 : decode cX6_valueOf 116 = .ok (.getfield 19, 3) := by decide +kernel
theorem dX6_valueOf_119 : decode cX6_valueOf 119 = .ok (.iload_n 2, 1) := by decide +kernel
theorem dX6_valueOf_120 : decode cX6_valueOf 120 = .ok (.invokestatic 53, 3) := by decide +kernel
theorem dX6_valueOf_123 : decode cX6_valueOf 123 = .ok (.aload_n 0, 1) := by decide +kernel
theorem dX6_valueOf_124 : decode cX6_valueOf 124 = .ok (.getfield 19, 3) := by decide +kernel
theorem dX6_valueOf_127 : decode cX6_valueOf 127 = .ok (.iload_n 3, 1) := by decide +kernel
theorem dX6_valueOf_128 : decode cX6_valueOf 128 = .ok (.invokestatic 53, 3) := by decide +kernel
theorem dX6_valueOf_131 : decode cX6_valueOf 131 = .ok (.imul, 1) := by decide +kernel
theorem dX6_valueOf_132 : decode cX6_valueOf 132 = .ok (.ireturn, 1) := by decide +kernel
theorem dX6_valueOf_133 : decode cX6_valueOf 133 = .ok (.iconst 3, 1) := by decide +kernel
theorem dX6_valueOf_134 : decode cX6_valueOf 134 = .ok (.aload_n 0, 1) := by decide +kernel
theorem dX6_valueOf_135 : decode cX6_valueOf 135 = .ok (.getfield 19, 3) := by decide +kernel
theorem dX6_valueOf_138 : decode cX6_valueOf 138 = .ok (.iload_n 2, 1) := by decide +kernel
theorem dX6_valueOf_139 : decode cX6_valueOf 139 = .ok (.invokestatic 53, 3) := by decide +kernel
theorem dX6_valueOf_142 : decode cX6_valueOf 142 = .ok (.imul, 1) := by decide +kernel
theorem dX6_valueOf_143 : decode cX6_valueOf 143 = .ok (.iconst 2, 1) := by decide +kernel
theorem dX6_valueOf_144 : decode cX6_valueOf 144 = .ok (.aload_n 0, 1) := by decide +kernel
theorem dX6_valueOf_145 : decode cX6_valueOf 145 = .ok (.getfield 19, 3) := by decide +kernel
theorem dX6_valueOf_148 : decode cX6_valueOf 148 = .ok (.iload_n 3, 1) := by decide +kernel
theorem dX6_valueOf_149 : decode cX6_valueOf 149 = .ok (.invokestatic 53, 3) := by decide +kernel
theorem dX6_valueOf_152 : decode cX6_valueOf 152 = .ok (.imul, 1) := by decide +kernel
theorem dX6_valueOf_153 : decode cX6_valueOf 153 = .ok (.iadd, 1) := by decide +kernel
theorem dX6_valueOf_154 : decode cX6_valueOf 154 = .ok (.iconst 1, 1) := by decide +kernel
theorem dX6_valueOf_155 : decode cX6_valueOf 155 = .ok (.iadd, 1) := by decide +kernel
theorem dX6_valueOf_156 : decode cX6_valueOf 156 = .ok (.ireturn, 1) := by decide +kernel
theorem dX7_init_0 : decode cX7_init 0 = .ok (.aload_n 0, 1) := by decide +kernel
theorem dX7_init_1 : decode cX7_init 1 = .ok (.invokespecial 3, 3) := by decide +kernel
theorem dX7_init_4 : decode cX7_init 4 = .ok (.aload_n 0, 1) := by decide +kernel
theorem dX7_init_5 : decode cX7_init 5 = .ok (.aload_n 1, 1) := by decide +kernel
theorem dX7_init_6 : decode cX7_init 6 = .ok (.putfield 9, 3) := by decide +kernel
theorem dX7_init_9 : decode cX7_init 9 = .ok (.aload_n 0, 1) := by decide +kernel
theorem dX7_init_10 : decode cX7_init 10 = .ok (.aload_n 2, 1) := by decide +kernel
theorem dX7_init_11 : decode cX7_init 11 = .ok (.putfield 15, 3) := by decide +kernel
theorem dX7_init_14 : decode cX7_init 14 = .ok (.aload_n 0, 1) := by decide +kernel
theorem dX7_init_15 : decode cX7_init 15 = .ok (.new 19, 3) := by decide +kernel
theorem dX7_init_18 : decode cX7_init 18 = .ok (.dup, 1) := by decide +kernel
theorem dX7_init_19 : decode cX7_init 19 = .ok (.aload_n 1, 1) := by decide +kernel
theorem dX7_init_20 : decode cX7_init 20 = .ok (.aload_n 2, 1) := by decide +kernel
theorem dX7_init_21 : decode cX7_init 21 = .ok (.invokespecial 21, 3) := by decide +kernel
theorem dX7_init_24 : decode cX7_init 24 = .ok (.putfield 24, 3) := by decide +kernel
theorem dX7_init_27 : decode cX7_init 27 = .ok (.aload_n 0, 1) := by decide +kernel
theorem dX7_init_28 : decode cX7_init 28 = .ok (.new 28, 3) := by decide +kernel
theorem dX7_init_31 : decode cX7_init 31 = .ok (.dup, 1) := by decide +kernel
theorem dX7_init_32 : decode cX7_init 32 = .ok (.invokespecial 30, 3) := by decide +kernel
theorem dX7_init_35 : decode cX7_init 35 = .ok (.putfield 31, 3) := by decide +kernel
theorem dX7_init_38 : decode cX7_init 38 = .ok (.aload_n 0, 1) := by decide +kernel
theorem dX7_init_39 : decode cX7_init 39 = .ok (.new 35, 3) := by decide +kernel
theorem dX7_init_42 : decode cX7_init 42 = .ok (.dup, 1) := by decide +kernel
theorem dX7_init_43 : decode cX7_init 43 = .ok (.aload_n 1, 1) := by decide +kernel
theorem dX7_init_44 : decode cX7_init 44 = .ok (.invokespecial 37, 3) := by decide +kernel
theorem dX7_init_47 : decode cX7_init 47 = .ok (.putfield 40, 3) := by decide +kernel
theorem dX7_init_50 : decode cX7_init 50 = .ok (.aload_n 0, 1) := by decide +kernel
theorem dX7_init_51 : decode cX7_init 51 = .ok (.iconst 5, 1) := by decide +kernel
theorem dX7_init_52 : decode cX7_init 52 = .ok (.newarray .int, 2) := by decide +kernel
theorem dX7_init_54 : decode cX7_init 54 = .ok (.putfield 44, 3) := by decide +kernel
theorem dX7_init_57 : decode cX7_init 57 = .ok (.aload_n 0, 1) := by decide +kernel
theorem dX7_init_58 : decode cX7_init 58 = .ok (.new 28, 3) := by decide +kernel
theorem dX7_init_61 : decode cX7_init 61 = .ok (.dup, 1) := by decide +kernel
theorem dX7_init_62 : decode cX7_init 62 = .ok (.invokespecial 30, 3) := by decide +kernel
theorem dX7_init_65 : decode cX7_init 65 = .ok (.putfield 48, 3) := by decide +kernel
theorem dX7_init_68 : decode cX7_init 68 = .ok (.aload_n 0, 1) := by decide +kernel
theorem dX7_init_69 : decode cX7_init 69 = .ok (.iconst 5, 1) := by decide +kernel
theorem dX7_init_70 : decode cX7_init 70 = .ok (.newarray .int, 2) := by decide +kernel
theorem dX7_init_72 : decode cX7_init 72 = .ok (.putfield 51, 3) := by decide +kernel
theorem dX7_init_75 : decode cX7_init 75 = .ok (.aload_n 0, 1) := by decide +kernel
theorem dX7_init_76 : decode cX7_init 76 = .ok (.bipush 88, 2) := by decide +kernel
theorem dX7_init_78 : decode cX7_init 78 = .ok (.newarray .int, 2) := by decide +kernel
theorem dX7_init_80 : decode cX7_init 80 = .ok (.putfield 54, 3) := by decide +kernel
theorem dX7_init_83 : decode cX7_init 83 = .ok (.return_, 1) := by decide +kernel
theorem dX7_build_0 : decode cX7_build 0 = .ok (.aload_n 0, 1) := by decide +kernel
theorem dX7_build_1 : decode cX7_build 1 = .ok (.getfield 24, 3) := by decide +kernel
theorem dX7_build_4 : decode cX7_build 4 = .ok (.invokevirtual 57, 3) := by decide +kernel
theorem dX7_build_7 : decode cX7_build 7 = .ok (.aload_n 0, 1) := by decide +kernel
theorem dX7_build_8 : decode cX7_build 8 = .ok (.invokevirtual 60, 3) := by decide +kernel
theorem dX7_build_11 : decode cX7_build 11 = .ok (.aload_n 0, 1) := by decide +kernel
theorem dX7_build_12 : decode cX7_build 12 = .ok (.getfield 31, 3) := by decide +kernel
theorem dX7_build_15 : decode cX7_build 15 = .ok (.invokevirtual 63, 3) := by decide +kernel
theorem dX7_build_18 : decode cX7_build 18 = .ok (.aload_n 0, 1) := by decide +kernel
theorem dX7_build_19 : decode cX7_build 19 = .ok (.invokevirtual 66, 3) := by decide +kernel
theorem dX7_build_22 : decode cX7_build 22 = .ok (.iconst 0, 1) := by decide +kernel
theorem dX7_build_23 : decode cX7_build 23 = .ok (.istore_n 2, 1) := by decide +kernel
theorem dX7_build_24 : decode cX7_build 24 = .ok (.iload_n 2, 1) := by decide +kernel
theorem dX7_build_25 : decode cX7_build 25 = .ok (.iconst 4, 1) := by decide +kernel
theorem dX7_build_26 : decode cX7_build 26 = .ok (.if_icmp .ge 73, 3) := by decide +kernel
theorem dX7_build_29 : decode cX7_build 29 = .ok (.aload_n 0, 1) := by decide +kernel
theorem dX7_build_30 : decode cX7_build 30 = .ok (.getfield 51, 3) := by decide +kernel
theorem dX7_build_33 : decode cX7_build 33 = .ok (.iload_n 2, 1) := by decide +kernel
theorem dX7_build_34 : decode cX7_build 34 = .ok (.invokestatic 69, 3) := by decide +kernel
theorem dX7_build_37 : decode cX7_build 37 = .ok (.istore_n 3, 1) := by decide +kernel
theorem dX7_build_38 : decode cX7_build 38 = .ok (.aload_n 0, 1) := by decide +kernel
theorem dX7_build_39 : decode cX7_build 39 = .ok (.getfield 51, 3) := by decide +kernel
theorem dX7_build_42 : decode cX7_build 42 = .ok (.iload_n 2, 1) := by decide +kernel
theorem dX7_build_43 : decode cX7_build 43 = .ok (.iconst 1, 1) := by decide +kernel
theorem dX7_build_44 : decode cX7_build 44 = .ok (.iadd, 1) := by decide +kernel
theorem dX7_build_45 : decode cX7_build 45 = .ok (.invokestatic 69, 3) := by decide +kernel
theorem dX7_build_48 : decode cX7_build 48 = .ok (.istore 4, 2) := by decide +kernel
theorem dX7_build_50 : decode cX7_build 50 = .ok (.aload_n 0, 1) := by decide +kernel
theorem dX7_build_51 : decode cX7_build 51 = .ok (.getfield 44, 3) := by decide +kernel
theorem dX7_build_54 : decode cX7_build 54 = .ok (.iload_n 2, 1) := by decide +kernel
theorem dX7_build_55 : decode cX7_build 55 = .ok (.aload_n 0, 1) := by decide +kernel
theorem dX7_build_56 : decode cX7_build 56 = .ok (.getfield 31, 3) := by decide +kernel
theorem dX7_build_59 : decode cX7_build 59 = .ok (.getfield 73, 3) := by decide +kernel
theorem dX7_build_62 : decode cX7_build 62 = .ok (.invokestatic 77, 3) := by decide +kernel
theorem dX7_build_65 : decode cX7_build 65 = .ok (.aload_n 0, 1) := by decide +kernel
theorem dX7_build_66 : decode cX7_build 66 = .ok (.iload_n 3, 1) := by decide +kernel
theorem dX7_build_67 : decode cX7_build 67 = .ok (.iload 4, 2) := by decide +kernel
theorem dX7_build_69 : decode cX7_build 69 = .ok (.invokevirtual 81, 3) := by decide +kernel
theorem dX7_build_72 : decode cX7_build 72 = .ok (.iload_n 1, 1) := by decide +kernel
theorem dX7_build_73 : decode cX7_build 73 = .ok (.ifCond .eq 13, 3) := by decide +kernel
theorem dX7_build_76 : decode cX7_build 76 = .ok (.aload_n 0, 1) := by decide +kernel
theorem dX7_build_77 : decode cX7_build 77 = .ok (.iload_n 3, 1) := by decide +kernel
theorem dX7_build_78 : decode cX7_build 78 = .ok (.iload 4, 2) := by decide +kernel
theorem dX7_build_80 : decode cX7_build 80 = .ok (.invokevirtual 85, 3) := by decide +kernel
theorem dX7_build_83 : decode cX7_build 83 = .ok (.goto 10, 3) := by decide +kernel
theorem dX7_build_86 : decode cX7_build 86 = .ok (.aload_n 0, 1) := by decide +kernel
theorem dX7_build_87 : decode cX7_build 87 = .ok (.iload_n 3, 1) := by decide +kernel
theorem dX7_build_88 : decode cX7_build 88 = .ok (.iload 4, 2) := by decide +kernel
theorem dX7_build_90 : decode cX7_build 90 = .ok (.invokevirtual 88, 3) := by decide +kernel
theorem dX7_build_93 : decode cX7_build 93 = .ok (.iinc 2 1, 3) := by decide +kernel
theorem dX7_build_96 : decode cX7_build 96 = .ok (.goto (-72), 3) := by decide +kernel
theorem dX7_build_99 : decode cX7_build 99 = .ok (.aload_n 0, 1) := by decide +kernel
theorem dX7_build_100 : decode cX7_build 100 = .ok (.getfield 44, 3) := by decide +kernel
theorem dX7_build_103 : decode cX7_build 103 = .ok (.iconst 4, 1) := by decide +kernel
theorem dX7_build_104 : decode cX7_build 104 = .ok (.aload_n 0, 1) := by decide +kernel
theorem dX7_build_105 : decode cX7_build 105 = .ok (.getfield 31, 3) := by decide +kernel
theorem dX7_build_108 : decode cX7_build 108 = .ok (.getfield 73, 3) := by decide +kernel
theorem dX7_build_111 : decode cX7_build 111 = .ok (.invokestatic 77, 3) := by decide +kernel
theorem dX7_build_114 : decode cX7_build 114 = .ok (.aload_n 0, 1) := by decide +kernel
theorem dX7_build_115 : decode cX7_build 115 = .ok (.getfield 40, 3) := by decide +kernel
theorem dX7_build_118 : decode cX7_build 118 = .ok (.aload_n 0, 1) := by decide +kernel
theorem dX7_build_119 : decode cX7_build 119 = .ok (.getfield 31, 3) := by decide +kernel
theorem dX7_build_122 : decode cX7_build 122 = .ok (.aload_n 0, 1) := by decide +kernel
theorem dX7_build_123 : decode cX7_build 123 = .ok (.getfield 44, 3) := by decide +kernel
theorem dX7_build_126 : decode cX7_build 126 = .ok (.invokevirtual 91, 3) := by decide +kernel
theorem dX7_build_129 : decode cX7_build 129 = .ok (.return_, 1) := by decide +kernel
theorem dX7_chooseAll_0 : decode cX7_chooseAll 0 = .ok (.aload_n 0, 1) := by decide +kernel
theorem dX7_chooseAll_1 : decode cX7_chooseAll 1 = .ok (.getfield 48, 3) := by decide +kernel
theorem dX7_chooseAll_4 : decode cX7_chooseAll 4 = .ok (.invokevirtual 63, 3) := by decide +kernel
theorem dX7_chooseAll_7 : decode cX7_chooseAll 7 = .ok (.iconst 0, 1) := by decide +kernel
theorem dX7_chooseAll_8 : decode cX7_chooseAll 8 = .ok (.istore_n 1, 1) := by decide +kernel
theorem dX7_chooseAll_9 : decode cX7_chooseAll 9 = .ok (.iload_n 1, 1) := by decide +kernel
theorem dX7_chooseAll_10 : decode cX7_chooseAll 10 = .ok (.iconst 4, 1) := by decide +kernel
theorem dX7_chooseAll_11 : decode cX7_chooseAll 11 = .ok (.if_icmp .ge 59, 3) := by decide +kernel
theorem dX7_chooseAll_14 : decode cX7_chooseAll 14 = .ok (.aload_n 0, 1) := by decide +kernel
theorem dX7_chooseAll_15 : decode cX7_chooseAll 15 = .ok (.getfield 51, 3) := by decide +kernel
theorem dX7_chooseAll_18 : decode cX7_chooseAll 18 = .ok (.iload_n 1, 1) := by decide +kernel
theorem dX7_chooseAll_19 : decode cX7_chooseAll 19 = .ok (.aload_n 0, 1) := by decide +kernel
theorem dX7_chooseAll_20 : decode cX7_chooseAll 20 = .ok (.getfield 48, 3) := by decide +kernel
theorem dX7_chooseAll_23 : decode cX7_chooseAll 23 = .ok (.getfield 73, 3) := by decide +kernel
theorem dX7_chooseAll_26 : decode cX7_chooseAll 26 = .ok (.invokestatic 77, 3) := by decide +kernel
theorem dX7_chooseAll_29 : decode cX7_chooseAll 29 = .ok (.aload_n 0, 1) := by decide +kernel
theorem dX7_chooseAll_30 : decode cX7_chooseAll 30 = .ok (.getfield 9, 3) := by decide +kernel
theorem dX7_chooseAll_33 : decode cX7_chooseAll 33 = .ok (.iload_n 1, 1) := by decide +kernel
theorem dX7_chooseAll_34 : decode cX7_chooseAll 34 = .ok (.invokevirtual 95, 3) := by decide +kernel
theorem dX7_chooseAll_37 : decode cX7_chooseAll 37 = .ok (.istore_n 2, 1) := by decide +kernel
theorem dX7_chooseAll_38 : decode cX7_chooseAll 38 = .ok (.iconst 0, 1) := by decide +kernel
theorem dX7_chooseAll_39 : decode cX7_chooseAll 39 = .ok (.istore_n 3, 1) := by decide +kernel
theorem dX7_chooseAll_40 : decode cX7_chooseAll 40 = .ok (.iload_n 3, 1) := by decide +kernel
theorem dX7_chooseAll_41 : decode cX7_chooseAll 41 = .ok (.iload_n 2, 1) := by decide +kernel
theorem dX7_chooseAll_42 : decode cX7_chooseAll 42 = .ok (.if_icmp .ge 22, 3) := by decide +kernel
theorem dX7_chooseAll_45 : decode cX7_chooseAll 45 = .ok (.aload_n 0, 1) := by decide +kernel
theorem dX7_chooseAll_46 : decode cX7_chooseAll 46 = .ok (.getfield 24, 3) := by decide +kernel
theorem dX7_chooseAll_49 : decode cX7_chooseAll 49 = .ok (.aload_n 0, 1) := by decide +kernel
theorem dX7_chooseAll_50 : decode cX7_chooseAll 50 = .ok (.getfield 48, 3) := by decide +kernel
theorem dX7_chooseAll_53 : decode cX7_chooseAll 53 = .ok (.iload_n 1, 1) := by decide +kernel
theorem dX7_chooseAll_54 : decode cX7_chooseAll 54 = .ok (.iload_n 3, 1) := by decide +kernel
theorem dX7_chooseAll_55 : decode cX7_chooseAll 55 = .ok (.invokevirtual 101, 3) := by decide +kernel
theorem dX7_chooseAll_58 : decode cX7_chooseAll 58 = .ok (.iinc 3 1, 3) := by decide +kernel
theorem dX7_chooseAll_61 : decode cX7_chooseAll 61 = .ok (.goto (-21), 3) := by decide +kernel
theorem dX7_chooseAll_64 : decode cX7_chooseAll 64 = .ok (.iinc 1 1, 3) := by decide +kernel
theorem dX7_chooseAll_67 : decode cX7_chooseAll 67 = .ok (.goto (-58), 3) := by decide +kernel
theorem dX7_chooseAll_70 : decode cX7_chooseAll 70 = .ok (.aload_n 0, 1) := by decide +kernel
theorem dX7_chooseAll_71 : decode cX7_chooseAll 71 = .ok (.getfield 51, 3) := by decide +kernel
theorem dX7_chooseAll_74 : decode cX7_chooseAll 74 = .ok (.iconst 4, 1) := by decide +kernel
theorem dX7_chooseAll_75 : decode cX7_chooseAll 75 = .ok (.aload_n 0, 1) := by decide +kernel
theorem dX7_chooseAll_76 : decode cX7_chooseAll 76 = .ok (.getfield 48, 3) := by decide +kernel
theorem dX7_chooseAll_79 : decode cX7_chooseAll 79 = .ok (.getfield 73, 3) := by decide +kernel
theorem dX7_chooseAll_82 : decode cX7_chooseAll 82 = .ok (.invokestatic 77, 3) := by decide +kernel
theorem dX7_chooseAll_85 : decode cX7_chooseAll 85 = .ok (.return_, 1) := by decide +kernel
theorem dX7_addEntry_0 : decode cX7_addEntry 0 = .ok (.aload_n 0, 1) := by decide +kernel
theorem dX7_addEntry_1 : decode cX7_addEntry 1 = .ok (.invokevirtual 105, 3) := by decide +kernel
theorem dX7_addEntry_4 : decode cX7_addEntry 4 = .ok (.istore_n 1, 1) := by decide +kernel
theorem dX7_addEntry_5 : decode cX7_addEntry 5 = .ok (.iconst 0, 1) := by decide +kernel
theorem dX7_addEntry_6 : decode cX7_addEntry 6 = .ok (.istore_n 2, 1) := by decide +kernel
theorem dX7_addEntry_7 : decode cX7_addEntry 7 = .ok (.iload_n 2, 1) := by decide +kernel
theorem dX7_addEntry_8 : decode cX7_addEntry 8 = .ok (.bipush 8, 2) := by decide +kernel
theorem dX7_addEntry_10 : decode cX7_addEntry 10 = .ok (.if_icmp .ge 37, 3) := by decide +kernel
theorem dX7_addEntry_13 : decode cX7_addEntry 13 = .ok (.iload_n 1, 1) := by decide +kernel
theorem dX7_addEntry_14 : decode cX7_addEntry 14 = .ok (.iload_n 2, 1) := by decide +kernel
theorem dX7_addEntry_15 : decode cX7_addEntry 15 = .ok (.invokestatic 109, 3) := by decide +kernel
theorem dX7_addEntry_18 : decode cX7_addEntry 18 = .ok (.ifCond .eq 23, 3) := by decide +kernel
theorem dX7_addEntry_21 : decode cX7_addEntry 21 = .ok (.aload_n 0, 1) := by decide +kernel
theorem dX7_addEntry_22 : decode cX7_addEntry 22 = .ok (.getfield 31, 3) := by decide +kernel
theorem dX7_addEntry_25 : decode cX7_addEntry 25 = .ok (.iconst 0, 1) := by decide +kernel
theorem dX7_addEntry_26 : decode cX7_addEntry 26 = .ok (.iload_n 2, 1) := by decide +kernel
theorem dX7_addEntry_27 : decode cX7_addEntry 27 = .ok (.iconst (-1), 1) := by decide +kernel
theorem dX7_addEntry_28 : decode cX7_addEntry 28 = .ok (.invokevirtual 113, 3) := by decide +kernel
theorem dX7_addEntry_31 : decode cX7_addEntry 31 = .ok (.aload_n 0, 1) := by decide +kernel
theorem dX7_addEntry_32 : decode cX7_addEntry 32 = .ok (.getfield 31, 3) := by decide +kernel
theorem dX7_addEntry_35 : decode cX7_addEntry 35 = .ok (.iconst (-1), 1) := by decide +kernel
theorem dX7_addEntry_36 : decode cX7_addEntry 36 = .ok (.iconst (-1), 1) := by decide +kernel
theorem dX7_addEntry_37 : decode cX7_addEntry 37 = .ok (.iconst (-1), 1) := by decide +kernel
theorem dX7_addEntry_38 : decode cX7_addEntry 38 = .ok (.invokevirtual 117, 3) := by decide +kernel
theorem dX7_addEntry_41 : decode cX7_addEntry 41 = .ok (.iinc 2 1, 3) := by decide +kernel
theorem dX7_addEntry_44 : decode cX7_addEntry 44 = .ok (.goto (-37), 3) := by decide +kernel
theorem dX7_addEntry_47 : decode cX7_addEntry 47 = .ok (.return_, 1) := by decide +kernel
theorem dX7_earlyVariables_0 : decode cX7_earlyVariables 0 = .ok (.iconst 0, 1) := by decide +kernel
theorem dX7_earlyVariables_1 : decode cX7_earlyVariables 1 = .ok (.istore_n 1, 1) := by decide +kernel
theorem dX7_earlyVariables_2 : decode cX7_earlyVariables 2 = .ok (.iconst 0, 1) := by decide +kernel
theorem dX7_earlyVariables_3 : decode cX7_earlyVariables 3 = .ok (.istore_n 2, 1) := by decide +kernel
theorem dX7_earlyVariables_4 : decode cX7_earlyVariables 4 = .ok (.iconst 0, 1) := by decide +kernel
theorem dX7_earlyVariables_5 : decode cX7_earlyVariables 5 = .ok (.istore_n 3, 1) := by decide +kernel
theorem dX7_earlyVariables_6 : decode cX7_earlyVariables 6 = .ok (.iload_n 3, 1) := by decide +kernel
theorem dX7_earlyVariables_7 : decode cX7_earlyVariables 7 = .ok (.aload_n 0, 1) := by decide +kernel
theorem dX7_earlyVariables_8 : decode cX7_earlyVariables 8 = .ok (.getfield 48, 3) := by decide +kernel
theorem dX7_earlyVariables_11 : decode cX7_earlyVariables 11 = .ok (.getfield 73, 3) := by decide +kernel
theorem dX7_earlyVariables_14 : decode cX7_earlyVariables 14 = .ok (.if_icmp .ge 58, 3) := by decide +kernel
theorem dX7_earlyVariables_17 : decode cX7_earlyVariables 17 = .ok (.iconst 0, 1) := by decide +kernel
theorem dX7_earlyVariables_18 : decode cX7_earlyVariables 18 = .ok (.istore 4, 2) := by decide +kernel
theorem dX7_earlyVariables_20 : decode cX7_earlyVariables 20 = .ok (.iload 4, 2) := by decide +kernel
theorem dX7_earlyVariables_22 : decode cX7_earlyVariables 22 = .ok (.iconst 3, 1) := by decide +kernel
theorem dX7_earlyVariables_23 : decode cX7_earlyVariables 23 = .ok (.if_icmp .ge 29, 3) := by decide +kernel
theorem dX7_earlyVariables_26 : decode cX7_earlyVariables 26 = .ok (.iload_n 1, 1) := by decide +kernel
theorem dX7_earlyVariables_27 : decode cX7_earlyVariables 27 = .ok (.aload_n 0, 1) := by decide +kernel
theorem dX7_earlyVariables_28 : decode cX7_earlyVariables 28 = .ok (.getfield 48, 3) := by decide +kernel
theorem dX7_earlyVariables_31 : decode cX7_earlyVariables 31 = .ok (.iload_n 3, 1) := by decide +kernel
theorem dX7_earlyVariables_32 : decode cX7_earlyVariables 32 = .ok (.iload 4, 2) := by decide +kernel
theorem dX7_earlyVariables_34 : decode cX7_earlyVariables 34 = .ok (.invokevirtual 120, 3) := by decide +kernel
theorem dX7_earlyVariables_37 : decode cX7_earlyVariables 37 = .ok (.invokestatic 124, 3) := by decide +kernel
theorem dX7_earlyVariables_40 : decode cX7_earlyVariables 40 = .ok (.iload_n 2, 1) := by decide +kernel
theorem dX7_earlyVariables_41 : decode cX7_earlyVariables 41 = .ok (.iconst (-1), 1) := by decide +kernel
theorem dX7_earlyVariables_42 : decode cX7_earlyVariables 42 = .ok (.ixor, 1) := by decide +kernel
theorem dX7_earlyVariables_43 : decode cX7_earlyVariables 43 = .ok (.iand, 1) := by decide +kernel
theorem dX7_earlyVariables_44 : decode cX7_earlyVariables 44 = .ok (.ior, 1) := by decide +kernel
theorem dX7_earlyVariables_45 : decode cX7_earlyVariables 45 = .ok (.istore_n 1, 1) := by decide +kernel
theorem dX7_earlyVariables_46 : decode cX7_earlyVariables 46 = .ok (.iinc 4 1, 3) := by decide +kernel
theorem dX7_earlyVariables_49 : decode cX7_earlyVariables 49 = .ok (.goto (-29), 3) := by decide +kernel
theorem dX7_earlyVariables_52 : decode cX7_earlyVariables 52 = .ok (.iload_n 2, 1) := by decide +kernel
theorem dX7_earlyVariables_53 : decode cX7_earlyVariables 53 = .ok (.aload_n 0, 1) := by decide +kernel
theorem dX7_earlyVariables_54 : decode cX7_earlyVariables 54 = .ok (.getfield 48, 3) := by decide +kernel
theorem dX7_earlyVariables_57 : decode cX7_earlyVariables 57 = .ok (.iload_n 3, 1) := by decide +kernel
theorem dX7_earlyVariables_58 : decode cX7_earlyVariables 58 = .ok (.invokevirtual 127, 3) := by decide +kernel
theorem dX7_earlyVariables_61 : decode cX7_earlyVariables 61 = .ok (.invokestatic 124, 3) := by decide +kernel
theorem dX7_earlyVariables_64 : decode cX7_earlyVariables 64 = .ok (.ior, 1) := by decide +kernel
theorem dX7_earlyVariables_65 : decode cX7_earlyVariables 65 = .ok (.istore_n 2, 1) := by decide +kernel
theorem dX7_earlyVariables_66 : decode cX7_earlyVariables 66 = .ok (.iinc 3 1, 3) := by decide +kernel
theorem dX7_earlyVariables_69 : decode cX7_earlyVariables 69 = .ok (.goto (-63), 3) := by decide +kernel
theorem dX7_earlyVariables_72 : decode cX7_earlyVariables 72 = .ok (.iload_n 1, 1) := by decide +kernel
theorem dX7_earlyVariables_73 : decode cX7_earlyVariables 73 = .ok (.aload_n 0, 1) := by decide +kernel
theorem dX7_earlyVariables_74 : decode cX7_earlyVariables 74 = .ok (.getfield 9, 3) := by decide +kernel
theorem dX7_earlyVariables_77 : decode cX7_earlyVariables 77 = .ok (.getfield 130, 3) := by decide +kernel
theorem dX7_earlyVariables_80 : decode cX7_earlyVariables 80 = .ok (.iload_n 2, 1) := by decide +kernel
theorem dX7_earlyVariables_81 : decode cX7_earlyVariables 81 = .ok (.iconst (-1), 1) := by decide +kernel
theorem dX7_earlyVariables_82 : decode cX7_earlyVariables 82 = .ok (.ixor, 1) := by decide +kernel
theorem dX7_earlyVariables_83 : decode cX7_earlyVariables 83 = .ok (.iand, 1) := by decide +kernel
theorem dX7_earlyVariables_84 : decode cX7_earlyVariables 84 = .ok (.ior, 1) := by decide +kernel
theorem dX7_earlyVariables_85 : decode cX7_earlyVariables 85 = .ok (.ireturn, 1) := by decide +kernel
theorem dX7_variableBit_0 : decode cX7_variableBit 0 = .ok (.iload_n 0, 1) := by decide +kernel
theorem dX7_variableBit_1 : decode cX7_variableBit 1 = .ok (.bipush 8, 2) := by decide +kernel
theorem dX7_variableBit_3 : decode cX7_variableBit 3 = .ok (.invokestatic 133, 3) := by decide +kernel
theorem dX7_variableBit_6 : decode cX7_variableBit 6 = .ok (.ifCond .eq 10, 3) := by decide +kernel
theorem dX7_variableBit_9 : decode cX7_variableBit 9 = .ok (.iload_n 0, 1) := by decide +kernel
theorem dX7_variableBit_10 : decode cX7_variableBit 10 = .ok (.invokestatic 136, 3) := by decide +kernel
theorem dX7_variableBit_13 : decode cX7_variableBit 13 = .ok (.goto 4, 3) := by decide +kernel
theorem dX7_variableBit_16 : decode cX7_variableBit 16 = .ok (.iconst 0, 1) := by decide +kernel
theorem dX7_variableBit_17 : decode cX7_variableBit 17 = .ok (.ireturn, 1) := by decide +kernel
theorem dX7_isNeeding_0 : decode cX7_isNeeding 0 = .ok (.aload_n 0, 1) := by decide +kernel
theorem dX7_isNeeding_1 : decode cX7_isNeeding 1 = .ok (.getfield 48, 3) := by decide +kernel
theorem dX7_isNeeding_4 : decode cX7_isNeeding 4 = .ok (.iload_n 1, 1) := by decide +kernel
theorem dX7_isNeeding_5 : decode cX7_isNeeding 5 = .ok (.aload_n 0, 1) := by decide +kernel
theorem dX7_isNeeding_6 : decode cX7_isNeeding 6 = .ok (.getfield 48, 3) := by decide +kernel
theorem dX7_isNeeding_9 : decode cX7_isNeeding 9 = .ok (.iload_n 2, 1) := by decide +kernel
theorem dX7_isNeeding_10 : decode cX7_isNeeding 10 = .ok (.invokevirtual 127, 3) := by decide +kernel
theorem dX7_isNeeding_13 : decode cX7_isNeeding 13 = .ok (.invokevirtual 139, 3) := by decide +kernel
theorem dX7_isNeeding_16 : decode cX7_isNeeding 16 = .ok (.ifCond .ne 67, 3) := by decide +kernel
theorem dX7_isNeeding_19 : decode cX7_isNeeding 19 = .ok (.aload_n 0, 1) := by decide +kernel
theorem dX7_isNeeding_20 : decode cX7_isNeeding 20 = .ok (.getfield 48, 3) := by decide +kernel
theorem dX7_isNeeding_23 : decode cX7_isNeeding 23 = .ok (.iload_n 2, 1) := by decide +kernel
theorem dX7_isNeeding_24 : decode cX7_isNeeding 24 = .ok (.aload_n 0, 1) := by decide +kernel
theorem dX7_isNeeding_25 : decode cX7_isNeeding 25 = .ok (.getfield 48, 3) := by decide +kernel
theorem dX7_isNeeding_28 : decode cX7_isNeeding 28 = .ok (.iload_n 1, 1) := by decide +kernel
theorem dX7_isNeeding_29 : decode cX7_isNeeding 29 = .ok (.invokevirtual 127, 3) := by decide +kernel
theorem dX7_isNeeding_32 : decode cX7_isNeeding 32 = .ok (.invokevirtual 139, 3) := by decide +kernel
theorem dX7_isNeeding_35 : decode cX7_isNeeding 35 = .ok (.ifCond .ne 48, 3) := by decide +kernel
theorem dX7_isNeeding_38 : decode cX7_isNeeding 38 = .ok (.aload_n 0, 1) := by decide +kernel
theorem dX7_isNeeding_39 : decode cX7_isNeeding 39 = .ok (.getfield 48, 3) := by decide +kernel
theorem dX7_isNeeding_42 : decode cX7_isNeeding 42 = .ok (.iload_n 1, 1) := by decide +kernel
theorem dX7_isNeeding_43 : decode cX7_isNeeding 43 = .ok (.invokevirtual 127, 3) := by decide +kernel
theorem dX7_isNeeding_46 : decode cX7_isNeeding 46 = .ok (.aload_n 0, 1) := by decide +kernel
theorem dX7_isNeeding_47 : decode cX7_isNeeding 47 = .ok (.getfield 48, 3) := by decide +kernel
theorem dX7_isNeeding_50 : decode cX7_isNeeding 50 = .ok (.iload_n 2, 1) := by decide +kernel
theorem dX7_isNeeding_51 : decode cX7_isNeeding 51 = .ok (.invokevirtual 127, 3) := by decide +kernel
theorem dX7_isNeeding_54 : decode cX7_isNeeding 54 = .ok (.if_icmp .eq 29, 3) := by decide +kernel
theorem dX7_isNeeding_57 : decode cX7_isNeeding 57 = .ok (.aload_n 0, 1) := by decide +kernel
theorem dX7_isNeeding_58 : decode cX7_isNeeding 58 = .ok (.getfield 48, 3) := by decide +kernel
theorem dX7_isNeeding_61 : decode cX7_isNeeding 61 = .ok (.iload_n 1, 1) := by decide +kernel
theorem dX7_isNeeding_62 : decode cX7_isNeeding 62 = .ok (.invokevirtual 142, 3) := by decide +kernel
theorem dX7_isNeeding_65 : decode cX7_isNeeding 65 = .ok (.bipush 9, 2) := by decide +kernel
theorem dX7_isNeeding_67 : decode cX7_isNeeding 67 = .ok (.if_icmp .ne 20, 3) := by decide +kernel
theorem dX7_isNeeding_70 : decode cX7_isNeeding 70 = .ok (.aload_n 0, 1) := by decide +kernel
theorem dX7_isNeeding_71 : decode cX7_isNeeding 71 = .ok (.getfield 48, 3) := by decide +kernel
theorem dX7_isNeeding_74 : decode cX7_isNeeding 74 = .ok (.iload_n 2, 1) := by decide +kernel
theorem dX7_isNeeding_75 : decode cX7_isNeeding 75 = .ok (.invokevirtual 142, 3) := by decide +kernel
theorem dX7_isNeeding_78 : decode cX7_isNeeding 78 = .ok (.bipush 9, 2) := by decide +kernel
theorem dX7_isNeeding_80 : decode cX7_isNeeding 80 = .ok (.if_icmp .ne 7, 3) := by decide +kernel
theorem dX7_isNeeding_83 : decode cX7_isNeeding 83 = .ok (.iconst 1, 1) := by decide +kernel
theorem dX7_isNeeding_84 : decode cX7_isNeeding 84 = .ok (.goto 4, 3) := by decide +kernel
theorem dX7_isNeeding_87 : decode cX7_isNeeding 87 = .ok (.iconst 0, 1) := by decide +kernel
theorem dX7_isNeeding_88 : decode cX7_isNeeding 88 = .ok (.ireturn, 1) := by decide +kernel
theorem dX7_measureHeights_0 : decode cX7_measureHeights 0 = .ok (.iload_n 2, 1) := by decide +kernel
theorem dX7_measureHeights_1 : decode cX7_measureHeights 1 = .ok (.iconst 1, 1) := by decide +kernel
theorem dX7_measureHeights_2 : decode cX7_measureHeights 2 = .ok (.isub, 1) := by decide +kernel
theorem dX7_measureHeights_3 : decode cX7_measureHeights 3 = .ok (.istore_n 3, 1) := by decide +kernel
theorem dX7_measureHeights_4 : decode cX7_measureHeights 4 = .ok (.iload_n 3, 1) := by decide +kernel
theorem dX7_measureHeights_5 : decode cX7_measureHeights 5 = .ok (.iload_n 1, 1) := by decide +kernel
theorem dX7_measureHeights_6 : decode cX7_measureHeights 6 = .ok (.if_icmp .lt 90, 3) := by decide +kernel
theorem dX7_measureHeights_9 : decode cX7_measureHeights 9 = .ok (.iconst 0, 1) := by decide +kernel
theorem dX7_measureHeights_10 : decode cX7_measureHeights 10 = .ok (.istore 4, 2) := by decide +kernel
theorem dX7_measureHeights_12 : decode cX7_measureHeights 12 = .ok (.iload_n 3, 1) := by decide +kernel
theorem dX7_measureHeights_13 : decode cX7_measureHeights 13 = .ok (.iconst 1, 1) := by decide +kernel
theorem dX7_measureHeights_14 : decode cX7_measureHeights 14 = .ok (.iadd, 1) := by decide +kernel
theorem dX7_measureHeights_15 : decode cX7_measureHeights 15 = .ok (.istore 5, 2) := by decide +kernel
theorem dX7_measureHeights_17 : decode cX7_measureHeights 17 = .ok (.iload 5, 2) := by decide +kernel
theorem dX7_measureHeights_19 : decode cX7_measureHeights 19 = .ok (.iload_n 2, 1) := by decide +kernel
theorem dX7_measureHeights_20 : decode cX7_measureHeights 20 = .ok (.if_icmp .ge 44, 3) := by decide +kernel
theorem dX7_measureHeights_23 : decode cX7_measureHeights 23 = .ok (.aload_n 0, 1) := by decide +kernel
theorem dX7_measureHeights_24 : decode cX7_measureHeights 24 = .ok (.getfield 48, 3) := by decide +kernel
theorem dX7_measureHeights_27 : decode cX7_measureHeights 27 = .ok (.iload 5, 2) := by decide +kernel
theorem dX7_measureHeights_29 : decode cX7_measureHeights 29 = .ok (.invokevirtual 145, 3) := by decide +kernel
theorem dX7_measureHeights_32 : decode cX7_measureHeights 32 = .ok (.iload 4, 2) := by decide +kernel
theorem dX7_measureHeights_34 : decode cX7_measureHeights 34 = .ok (.if_icmp .le 24, 3) := by decide +kernel
theorem dX7_measureHeights_37 : decode cX7_measureHeights 37 = .ok (.aload_n 0, 1) := by decide +kernel
theorem dX7_measureHeights_38 : decode cX7_measureHeights 38 = .ok (.iload 5, 2) := by decide +kernel
theorem dX7_measureHeights_40 : decode cX7_measureHeights 40 = .ok (.iload_n 3, 1) := by decide +kernel
theorem dX7_measureHeights_41 : decode cX7_measureHeights 41 = .ok (.invokevirtual 148, 3) := by decide +kernel
theorem dX7_measureHeights_44 : decode cX7_measureHeights 44 = .ok (.ifCond .eq 14, 3) := by decide +kernel
theorem dX7_measureHeights_47 : decode cX7_measureHeights 47 = .ok (.aload_n 0, 1) := by decide +kernel
theorem dX7_measureHeights_48 : decode cX7_measureHeights 48 = .ok (.getfield 48, 3) := by decide +kernel
theorem dX7_measureHeights_51 : decode cX7_measureHeights 51 = .ok (.iload 5, 2) := by decide +kernel
theorem dX7_measureHeights_53 : decode cX7_measureHeights 53 = .ok (.invokevirtual 145, 3) := by decide +kernel
theorem dX7_measureHeights_56 : decode cX7_measureHeights 56 = .ok (.istore 4, 2) := by decide +kernel
theorem dX7_measureHeights_58 : decode cX7_measureHeights 58 = .ok (.iinc 5 1, 3) := by decide +kernel
theorem dX7_measureHeights_61 : decode cX7_measureHeights 61 = .ok (.goto (-44), 3) := by decide +kernel
theorem dX7_measureHeights_64 : decode cX7_measureHeights 64 = .ok (.aload_n 0, 1) := by decide +kernel
theorem dX7_measureHeights_65 : decode cX7_measureHeights 65 = .ok (.getfield 48, 3) := by decide +kernel
theorem dX7_measureHeights_68 : decode cX7_measureHeights 68 = .ok (.iload_n 3, 1) := by decide +kernel
theorem dX7_measureHeights_69 : decode cX7_measureHeights 69 = .ok (.aload_n 0, 1) := by decide +kernel
theorem dX7_measureHeights_70 : decode cX7_measureHeights 70 = .ok (.getfield 15, 3) := by decide +kernel
theorem dX7_measureHeights_73 : decode cX7_measureHeights 73 = .ok (.aload_n 0, 1) := by decide +kernel
theorem dX7_measureHeights_74 : decode cX7_measureHeights 74 = .ok (.getfield 48, 3) := by decide +kernel
theorem dX7_measureHeights_77 : decode cX7_measureHeights 77 = .ok (.iload_n 3, 1) := by decide +kernel
theorem dX7_measureHeights_78 : decode cX7_measureHeights 78 = .ok (.invokevirtual 142, 3) := by decide +kernel
theorem dX7_measureHeights_81 : decode cX7_measureHeights 81 = .ok (.invokevirtual 151, 3) := by decide +kernel
theorem dX7_measureHeights_84 : decode cX7_measureHeights 84 = .ok (.iload 4, 2) := by decide +kernel
theorem dX7_measureHeights_86 : decode cX7_measureHeights 86 = .ok (.iadd, 1) := by decide +kernel
theorem dX7_measureHeights_87 : decode cX7_measureHeights 87 = .ok (.invokevirtual 156, 3) := by decide +kernel
theorem dX7_measureHeights_90 : decode cX7_measureHeights 90 = .ok (.iinc 3 (-1), 3) := by decide +kernel
theorem dX7_measureHeights_93 : decode cX7_measureHeights 93 = .ok (.goto (-89), 3) := by decide +kernel
theorem dX7_measureHeights_96 : decode cX7_measureHeights 96 = .ok (.return_, 1) := by decide +kernel
theorem dX7_placeAsChosen_0 : decode cX7_placeAsChosen 0 = .ok (.iload_n 1, 1) := by decide +kernel
theorem dX7_placeAsChosen_1 : decode cX7_placeAsChosen 1 = .ok (.istore_n 3, 1) := by decide +kernel
theorem dX7_placeAsChosen_2 : decode cX7_placeAsChosen 2 = .ok (.iload_n 3, 1) := by decide +kernel
theorem dX7_placeAsChosen_3 : decode cX7_placeAsChosen 3 = .ok (.iload_n 2, 1) := by decide +kernel
theorem dX7_placeAsChosen_4 : decode cX7_placeAsChosen 4 = .ok (.if_icmp .ge 21, 3) := by decide +kernel
theorem dX7_placeAsChosen_7 : decode cX7_placeAsChosen 7 = .ok (.aload_n 0, 1) := by decide +kernel
theorem dX7_placeAsChosen_8 : decode cX7_placeAsChosen 8 = .ok (.getfield 31, 3) := by decide +kernel
theorem dX7_placeAsChosen_11 : decode cX7_placeAsChosen 11 = .ok (.aload_n 0, 1) := by decide +kernel
theorem dX7_placeAsChosen_12 : decode cX7_placeAsChosen 12 = .ok (.getfield 48, 3) := by decide +kernel
theorem dX7_placeAsChosen_15 : decode cX7_placeAsChosen 15 = .ok (.iload_n 3, 1) := by decide +kernel
theorem dX7_placeAsChosen_16 : decode cX7_placeAsChosen 16 = .ok (.invokevirtual 159, 3) := by decide +kernel
theorem dX7_placeAsChosen_19 : decode cX7_placeAsChosen 19 = .ok (.iinc 3 1, 3) := by decide +kernel
theorem dX7_placeAsChosen_22 : decode cX7_placeAsChosen 22 = .ok (.goto (-20), 3) := by decide +kernel
theorem dX7_placeAsChosen_25 : decode cX7_placeAsChosen 25 = .ok (.return_, 1) := by decide +kernel
theorem dX7_placeByHeight_0 : decode cX7_placeByHeight 0 = .ok (.aload_n 0, 1) := by decide +kernel
theorem dX7_placeByHeight_1 : decode cX7_placeByHeight 1 = .ok (.iload_n 1, 1) := by decide +kernel
theorem dX7_placeByHeight_2 : decode cX7_placeByHeight 2 = .ok (.iload_n 2, 1) := by decide +kernel
theorem dX7_placeByHeight_3 : decode cX7_placeByHeight 3 = .ok (.invokevirtual 163, 3) := by decide +kernel
theorem dX7_placeByHeight_6 : decode cX7_placeByHeight 6 = .ok (.iload_n 1, 1) := by decide +kernel
theorem dX7_placeByHeight_7 : decode cX7_placeByHeight 7 = .ok (.istore_n 3, 1) := by decide +kernel
theorem dX7_placeByHeight_8 : decode cX7_placeByHeight 8 = .ok (.iload_n 3, 1) := by decide +kernel
theorem dX7_placeByHeight_9 : decode cX7_placeByHeight 9 = .ok (.iload_n 2, 1) := by decide +kernel
theorem dX7_placeByHeight_10 : decode cX7_placeByHeight 10 = .ok (.if_icmp .ge 96, 3) := by decide +kernel
theorem dX7_placeByHeight_13 : decode cX7_placeByHeight 13 = .ok (.aload_n 0, 1) := by decide +kernel
theorem dX7_placeByHeight_14 : decode cX7_placeByHeight 14 = .ok (.iload_n 1, 1) := by decide +kernel
theorem dX7_placeByHeight_15 : decode cX7_placeByHeight 15 = .ok (.iload_n 2, 1) := by decide +kernel
theorem dX7_placeByHeight_16 : decode cX7_placeByHeight 16 = .ok (.invokevirtual 166, 3) := by decide +kernel
theorem dX7_placeByHeight_19 : decode cX7_placeByHeight 19 = .ok (.istore 4, 2) := by decide +kernel
theorem dX7_placeByHeight_21 : decode cX7_placeByHeight 21 = .ok (.iload 4, 2) := by decide +kernel
theorem dX7_placeByHeight_23 : decode cX7_placeByHeight 23 = .ok (.iconst (-1), 1) := by decide +kernel
theorem dX7_placeByHeight_24 : decode cX7_placeByHeight 24 = .ok (.if_icmp .ne 4, 3) := by decide +kernel
theorem dX7_placeByHeight_27 : decode cX7_placeByHeight 27 = .ok (.return_, 1) := by decide +kernel
theorem dX7_placeByHeight_28 : decode cX7_placeByHeight 28 = .ok (.aload_n 0, 1) := by decide +kernel
theorem dX7_placeByHeight_29 : decode cX7_placeByHeight 29 = .ok (.getfield 31, 3) := by decide +kernel
theorem dX7_placeByHeight_32 : decode cX7_placeByHeight 32 = .ok (.aload_n 0, 1) := by decide +kernel
theorem dX7_placeByHeight_33 : decode cX7_placeByHeight 33 = .ok (.getfield 48, 3) := by decide +kernel
theorem dX7_placeByHeight_36 : decode cX7_placeByHeight 36 = .ok (.iload 4, 2) := by decide +kernel
theorem dX7_placeByHeight_38 : decode cX7_placeByHeight 38 = .ok (.invokevirtual 159, 3) := by decide +kernel
theorem dX7_placeByHeight_41 : decode cX7_placeByHeight 41 = .ok (.aload_n 0, 1) := by decide +kernel
theorem dX7_placeByHeight_42 : decode cX7_placeByHeight 42 = .ok (.getfield 54, 3) := by decide +kernel
theorem dX7_placeByHeight_45 : decode cX7_placeByHeight 45 = .ok (.iload 4, 2) := by decide +kernel
theorem dX7_placeByHeight_47 : decode cX7_placeByHeight 47 = .ok (.iconst (-1), 1) := by decide +kernel
theorem dX7_placeByHeight_48 : decode cX7_placeByHeight 48 = .ok (.invokestatic 77, 3) := by decide +kernel
theorem dX7_placeByHeight_51 : decode cX7_placeByHeight 51 = .ok (.iload 4, 2) := by decide +kernel
theorem dX7_placeByHeight_53 : decode cX7_placeByHeight 53 = .ok (.iconst 1, 1) := by decide +kernel
theorem dX7_placeByHeight_54 : decode cX7_placeByHeight 54 = .ok (.iadd, 1) := by decide +kernel
theorem dX7_placeByHeight_55 : decode cX7_placeByHeight 55 = .ok (.istore 5, 2) := by decide +kernel
theorem dX7_placeByHeight_57 : decode cX7_placeByHeight 57 = .ok (.iload 5, 2) := by decide +kernel
theorem dX7_placeByHeight_59 : decode cX7_placeByHeight 59 = .ok (.iload_n 2, 1) := by decide +kernel
theorem dX7_placeByHeight_60 : decode cX7_placeByHeight 60 = .ok (.if_icmp .ge 40, 3) := by decide +kernel
theorem dX7_placeByHeight_63 : decode cX7_placeByHeight 63 = .ok (.aload_n 0, 1) := by decide +kernel
theorem dX7_placeByHeight_64 : decode cX7_placeByHeight 64 = .ok (.iload 5, 2) := by decide +kernel
theorem dX7_placeByHeight_66 : decode cX7_placeByHeight 66 = .ok (.iload 4, 2) := by decide +kernel
theorem dX7_placeByHeight_68 : decode cX7_placeByHeight 68 = .ok (.invokevirtual 148, 3) := by decide +kernel
theorem dX7_placeByHeight_71 : decode cX7_placeByHeight 71 = .ok (.ifCond .eq 23, 3) := by decide +kernel
theorem dX7_placeByHeight_74 : decode cX7_placeByHeight 74 = .ok (.aload_n 0, 1) := by decide +kernel
theorem dX7_placeByHeight_75 : decode cX7_placeByHeight 75 = .ok (.getfield 54, 3) := by decide +kernel
theorem dX7_placeByHeight_78 : decode cX7_placeByHeight 78 = .ok (.iload 5, 2) := by decide +kernel
theorem dX7_placeByHeight_80 : decode cX7_placeByHeight 80 = .ok (.aload_n 0, 1) := by decide +kernel
theorem dX7_placeByHeight_81 : decode cX7_placeByHeight 81 = .ok (.getfield 54, 3) := by decide +kernel
theorem dX7_placeByHeight_84 : decode cX7_placeByHeight 84 = .ok (.iload 5, 2) := by decide +kernel
theorem dX7_placeByHeight_86 : decode cX7_placeByHeight 86 = .ok (.invokestatic 69, 3) := by decide +kernel
theorem dX7_placeByHeight_89 : decode cX7_placeByHeight 89 = .ok (.iconst 1, 1) := by decide +kernel
theorem dX7_placeByHeight_90 : decode cX7_placeByHeight 90 = .ok (.isub, 1) := by decide +kernel
theorem dX7_placeByHeight_91 : decode cX7_placeByHeight 91 = .ok (.invokestatic 77, 3) := by decide +kernel
theorem dX7_placeByHeight_94 : decode cX7_placeByHeight 94 = .ok (.iinc 5 1, 3) := by decide +kernel
theorem dX7_placeByHeight_97 : decode cX7_placeByHeight 97 = .ok (.goto (-40), 3) := by decide +kernel
theorem dX7_placeByHeight_100 : decode cX7_placeByHeight 100 = .ok (.iinc 3 1, 3) := by decide +kernel
theorem dX7_placeByHeight_103 : decode cX7_placeByHeight 103 = .ok (.goto (-95), 3) := by decide +kernel
theorem dX7_placeByHeight_106 : decode cX7_placeByHeight 106 = .ok (.return_, 1) := by decide +kernel
theorem dX7_countMissing_0 : decode cX7_countMissing 0 = .ok (.iload_n 1, 1) := by decide +kernel
theorem dX7_countMissing_1 : decode cX7_countMissing 1 = .ok (.istore_n 3, 1) := by decide +kernel
theorem dX7_countMissing_2 : decode cX7_countMissing 2 = .ok (.iload_n 3, 1) := by decide +kernel
theorem dX7_countMissing_3 : decode cX7_countMissing 3 = .ok (.iload_n 2, 1) := by decide +kernel
theorem dX7_countMissing_4 : decode cX7_countMissing 4 = .ok (.if_icmp .ge 50, 3) := by decide +kernel
theorem dX7_countMissing_7 : decode cX7_countMissing 7 = .ok (.iconst 0, 1) := by decide +kernel
theorem dX7_countMissing_8 : decode cX7_countMissing 8 = .ok (.istore 4, 2) := by decide +kernel
theorem dX7_countMissing_10 : decode cX7_countMissing 10 = .ok (.iload_n 1, 1) := by decide +kernel
theorem dX7_countMissing_11 : decode cX7_countMissing 11 = .ok (.istore 5, 2) := by decide +kernel
theorem dX7_countMissing_13 : decode cX7_countMissing 13 = .ok (.iload 5, 2) := by decide +kernel
theorem dX7_countMissing_15 : decode cX7_countMissing 15 = .ok (.iload_n 3, 1) := by decide +kernel
theorem dX7_countMissing_16 : decode cX7_countMissing 16 = .ok (.if_icmp .ge 22, 3) := by decide +kernel
theorem dX7_countMissing_19 : decode cX7_countMissing 19 = .ok (.aload_n 0, 1) := by decide +kernel
theorem dX7_countMissing_20 : decode cX7_countMissing 20 = .ok (.iload_n 3, 1) := by decide +kernel
theorem dX7_countMissing_21 : decode cX7_countMissing 21 = .ok (.iload 5, 2) := by decide +kernel
theorem dX7_countMissing_23 : decode cX7_countMissing 23 = .ok (.invokevirtual 148, 3) := by decide +kernel
theorem dX7_countMissing_26 : decode cX7_countMissing 26 = .ok (.ifCond .eq 6, 3) := by decide +kernel
theorem dX7_countMissing_29 : decode cX7_countMissing 29 = .ok (.iinc 4 1, 3) := by decide +kernel
theorem dX7_countMissing_32 : decode cX7_countMissing 32 = .ok (.iinc 5 1, 3) := by decide +kernel
theorem dX7_countMissing_35 : decode cX7_countMissing 35 = .ok (.goto (-22), 3) := by decide +kernel
theorem dX7_countMissing_38 : decode cX7_countMissing 38 = .ok (.aload_n 0, 1) := by decide +kernel
theorem dX7_countMissing_39 : decode cX7_countMissing 39 = .ok (.getfield 54, 3) := by decide +kernel
theorem dX7_countMissing_42 : decode cX7_countMissing 42 = .ok (.iload_n 3, 1) := by decide +kernel
theorem dX7_countMissing_43 : decode cX7_countMissing 43 = .ok (.iload 4, 2) := by decide +kernel
theorem dX7_countMissing_45 : decode cX7_countMissing 45 = .ok (.invokestatic 77, 3) := by decide +kernel
theorem dX7_countMissing_48 : decode cX7_countMissing 48 = .ok (.iinc 3 1, 3) := by decide +kernel
theorem dX7_countMissing_51 : decode cX7_countMissing 51 = .ok (.goto (-49), 3) := by decide +kernel
theorem dX7_countMissing_54 : decode cX7_countMissing 54 = .ok (.return_, 1) := by decide +kernel
theorem dX7_highestReady_0 : decode cX7_highestReady 0 = .ok (.iconst (-1), 1) := by decide +kernel
theorem dX7_highestReady_1 : decode cX7_highestReady 1 = .ok (.istore_n 3, 1) := by decide +kernel
theorem dX7_highestReady_2 : decode cX7_highestReady 2 = .ok (.iload_n 1, 1) := by decide +kernel
theorem dX7_highestReady_3 : decode cX7_highestReady 3 = .ok (.istore 4, 2) := by decide +kernel
theorem dX7_highestReady_5 : decode cX7_highestReady 5 = .ok (.iload 4, 2) := by decide +kernel
theorem dX7_highestReady_7 : decode cX7_highestReady 7 = .ok (.iload_n 2, 1) := by decide +kernel
theorem dX7_highestReady_8 : decode cX7_highestReady 8 = .ok (.if_icmp .ge 49, 3) := by decide +kernel
theorem dX7_highestReady_11 : decode cX7_highestReady 11 = .ok (.aload_n 0, 1) := by decide +kernel
theorem dX7_highestReady_12 : decode cX7_highestReady 12 = .ok (.getfield 54, 3) := by decide +kernel
theorem dX7_highestReady_15 : decode cX7_highestReady 15 = .ok (.iload 4, 2) := by decide +kernel
theorem dX7_highestReady_17 : decode cX7_highestReady 17 = .ok (.invokestatic 69, 3) := by decide +kernel
theorem dX7_highestReady_20 : decode cX7_highestReady 20 = .ok (.ifCond .ne 31, 3) := by decide +kernel
theorem dX7_highestReady_23 : decode cX7_highestReady 23 = .ok (.iload_n 3, 1) := by decide +kernel
theorem dX7_highestReady_24 : decode cX7_highestReady 24 = .ok (.iconst (-1), 1) := by decide +kernel
theorem dX7_highestReady_25 : decode cX7_highestReady 25 = .ok (.if_icmp .eq 23, 3) := by decide +kernel
theorem dX7_highestReady_28 : decode cX7_highestReady 28 = .ok (.aload_n 0, 1) := by decide +kernel
theorem dX7_highestReady_29 : decode cX7_highestReady 29 = .ok (.getfield 48, 3) := by decide +kernel
theorem dX7_highestReady_32 : decode cX7_highestReady 32 = .ok (.iload 4, 2) := by decide +kernel
theorem dX7_highestReady_34 : decode cX7_highestReady 34 = .ok (.invokevirtual 145, 3) := by decide +kernel
theorem dX7_highestReady_37 : decode cX7_highestReady 37 = .ok (.aload_n 0, 1) := by decide +kernel
theorem dX7_highestReady_38 : decode cX7_highestReady 38 = .ok (.getfield 48, 3) := by decide +kernel
theorem dX7_highestReady_41 : decode cX7_highestReady 41 = .ok (.iload_n 3, 1) := by decide +kernel
theorem dX7_highestReady_42 : decode cX7_highestReady 42 = .ok (.invokevirtual 145, 3) := by decide +kernel
theorem dX7_highestReady_45 : decode cX7_highestReady 45 = .ok (.if_icmp .le 6, 3) := by decide +kernel
theorem dX7_highestReady_48 : decode cX7_highestReady 48 = .ok (.iload 4, 2) := by decide +kernel
theorem dX7_highestReady_50 : decode cX7_highestReady 50 = .ok (.istore_n 3, 1) := by decide +kernel
theorem dX7_highestReady_51 : decode cX7_highestReady 51 = .ok (.iinc 4 1, 3) := by decide +kernel
theorem dX7_highestReady_54 : decode cX7_highestReady 54 = .ok (.goto (-49), 3) := by decide +kernel
theorem dX7_highestReady_57 : decode cX7_highestReady 57 = .ok (.iload_n 3, 1) := by decide +kernel
theorem dX7_highestReady_58 : decode cX7_highestReady 58 = .ok (.ireturn, 1) := by decide +kernel
theorem dX8_init_0 : decode cX8_init 0 = .ok (.aload_n 0, 1) := by decide +kernel
theorem dX8_init_1 : decode cX8_init 1 = .ok (.invokespecial 3, 3) := by decide +kernel
theorem dX8_init_4 : decode cX8_init 4 = .ok (.aload_n 0, 1) := by decide +kernel
theorem dX8_init_5 : decode cX8_init 5 = .ok (.iconst 1, 1) := by decide +kernel
theorem dX8_init_6 : decode cX8_init 6 = .ok (.putfield 9, 3) := by decide +kernel
theorem dX8_init_9 : decode cX8_init 9 = .ok (.aload_n 0, 1) := by decide +kernel
theorem dX8_init_10 : decode cX8_init 10 = .ok (.iconst 4, 1) := by decide +kernel
theorem dX8_init_11 : decode cX8_init 11 = .ok (.newarray .int, 2) := by decide +kernel
theorem dX8_init_13 : decode cX8_init 13 = .ok (.dup, 1) := by decide +kernel
theorem dX8_init_14 : decode cX8_init 14 = .ok (.iconst 0, 1) := by decide +kernel
theorem dX8_init_15 : decode cX8_init 15 = .ok (.iconst 1, 1) := by decide +kernel
theorem dX8_init_16 : decode cX8_init 16 = .ok (.iastore, 1) := by decide +kernel
theorem dX8_init_17 : decode cX8_init 17 = .ok (.dup, 1) := by decide +kernel
theorem dX8_init_18 : decode cX8_init 18 = .ok (.iconst 1, 1) := by decide +kernel
theorem dX8_init_19 : decode cX8_init 19 = .ok (.iconst 1, 1) := by decide +kernel
theorem dX8_init_20 : decode cX8_init 20 = .ok (.iastore, 1) := by decide +kernel
theorem dX8_init_21 : decode cX8_init 21 = .ok (.dup, 1) := by decide +kernel
theorem dX8_init_22 : decode cX8_init 22 = .ok (.iconst 2, 1) := by decide +kernel
theorem dX8_init_23 : decode cX8_init 23 = .ok (.iconst 1, 1) := by decide +kernel
theorem dX8_init_24 : decode cX8_init 24 = .ok (.iastore, 1) := by decide +kernel
theorem dX8_init_25 : decode cX8_init 25 = .ok (.dup, 1) := by decide +kernel
theorem dX8_init_26 : decode cX8_init 26 = .ok (.iconst 3, 1) := by decide +kernel
theorem dX8_init_27 : decode cX8_init 27 = .ok (.iconst 1, 1) := by decide +kernel
theorem dX8_init_28 : decode cX8_init 28 = .ok (.iastore, 1) := by decide +kernel
theorem dX8_init_29 : decode cX8_init 29 = .ok (.putfield 15, 3) := by decide +kernel
theorem dX8_init_32 : decode cX8_init 32 = .ok (.aload_n 0, 1) := by decide +kernel
theorem dX8_init_33 : decode cX8_init 33 = .ok (.bipush 80, 2) := by decide +kernel
theorem dX8_init_35 : decode cX8_init 35 = .ok (.newarray .int, 2) := by decide +kernel
theorem dX8_init_37 : decode cX8_init 37 = .ok (.putfield 19, 3) := by decide +kernel
theorem dX8_init_40 : decode cX8_init 40 = .ok (.aload_n 0, 1) := by decide +kernel
theorem dX8_init_41 : decode cX8_init 41 = .ok (.bipush 80, 2) := by decide +kernel
theorem dX8_init_43 : decode cX8_init 43 = .ok (.newarray .int, 2) := by decide +kernel
theorem dX8_init_45 : decode cX8_init 45 = .ok (.putfield 22, 3) := by decide +kernel
theorem dX8_init_48 : decode cX8_init 48 = .ok (.aload_n 0, 1) := by decide +kernel
theorem dX8_init_49 : decode cX8_init 49 = .ok (.bipush 80, 2) := by decide +kernel
theorem dX8_init_51 : decode cX8_init 51 = .ok (.newarray .int, 2) := by decide +kernel
theorem dX8_init_53 : decode cX8_init 53 = .ok (.putfield 25, 3) := by decide +kernel
theorem dX8_init_56 : decode cX8_init 56 = .ok (.aload_n 0, 1) := by decide +kernel
theorem dX8_init_57 : decode cX8_init 57 = .ok (.bipush 80, 2) := by decide +kernel
theorem dX8_init_59 : decode cX8_init 59 = .ok (.newarray .int, 2) := by decide +kernel
theorem dX8_init_61 : decode cX8_init 61 = .ok (.putfield 28, 3) := by decide +kernel
theorem dX8_init_64 : decode cX8_init 64 = .ok (.aload_n 0, 1) := by decide +kernel
theorem dX8_init_65 : decode cX8_init 65 = .ok (.iconst 4, 1) := by decide +kernel
theorem dX8_init_66 : decode cX8_init 66 = .ok (.newarray .int, 2) := by decide +kernel
theorem dX8_init_68 : decode cX8_init 68 = .ok (.putfield 31, 3) := by decide +kernel
theorem dX8_init_71 : decode cX8_init 71 = .ok (.aload_n 0, 1) := by decide +kernel
theorem dX8_init_72 : decode cX8_init 72 = .ok (.bipush 96, 2) := by decide +kernel
theorem dX8_init_74 : decode cX8_init 74 = .ok (.newarray .int, 2) := by decide +kernel
theorem dX8_init_76 : decode cX8_init 76 = .ok (.putfield 34, 3) := by decide +kernel
theorem dX8_init_79 : decode cX8_init 79 = .ok (.aload_n 0, 1) := by decide +kernel
theorem dX8_init_80 : decode cX8_init 80 = .ok (.bipush 96, 2) := by decide +kernel
theorem dX8_init_82 : decode cX8_init 82 = .ok (.newarray .int, 2) := by decide +kernel
theorem dX8_init_84 : decode cX8_init 84 = .ok (.putfield 37, 3) := by decide +kernel
theorem dX8_init_87 : decode cX8_init 87 = .ok (.return_, 1) := by decide +kernel
theorem dX8_canBeNode_0 : decode cX8_canBeNode 0 = .ok (.iload_n 1, 1) := by decide +kernel
theorem dX8_canBeNode_1 : decode cX8_canBeNode 1 = .ok (.ifCond .ne 27, 3) := by decide +kernel
theorem dX8_canBeNode_4 : decode cX8_canBeNode 4 = .ok (.iload_n 2, 1) := by decide +kernel
theorem dX8_canBeNode_5 : decode cX8_canBeNode 5 = .ok (.sipush (-999), 3) := by decide +kernel
theorem dX8_canBeNode_8 : decode cX8_canBeNode 8 = .ok (.if_icmp .lt 18, 3) := by decide +kernel
theorem dX8_canBeNode_11 : decode cX8_canBeNode 11 = .ok (.iload_n 2, 1) := by decide +kernel
theorem dX8_canBeNode_12 : decode cX8_canBeNode 12 = .ok (.sipush 999, 3) := by decide +kernel
theorem dX8_canBeNode_15 : decode cX8_canBeNode 15 = .ok (.if_icmp .gt 11, 3) := by decide +kernel
theorem dX8_canBeNode_18 : decode cX8_canBeNode 18 = .ok (.iload_n 3, 1) := by decide +kernel
theorem dX8_canBeNode_19 : decode cX8_canBeNode 19 = .ok (.ifCond .ne 7, 3) := by decide +kernel
theorem dX8_canBeNode_22 : decode cX8_canBeNode 22 = .ok (.iconst 1, 1) := by decide +kernel
theorem dX8_canBeNode_23 : decode cX8_canBeNode 23 = .ok (.goto 4, 3) := by decide +kernel
theorem dX8_canBeNode_26 : decode cX8_canBeNode 26 = .ok (.iconst 0, 1) := by decide +kernel
theorem dX8_canBeNode_27 : decode cX8_canBeNode 27 = .ok (.ireturn, 1) := by decide +kernel
theorem dX8_canBeNode_28 : decode cX8_canBeNode 28 = .ok (.iload_n 1, 1) := by decide +kernel
theorem dX8_canBeNode_29 : decode cX8_canBeNode 29 = .ok (.iconst 1, 1) := by decide +kernel
theorem dX8_canBeNode_30 : decode cX8_canBeNode 30 = .ok (.if_icmp .ne 22, 3) := by decide +kernel
theorem dX8_canBeNode_33 : decode cX8_canBeNode 33 = .ok (.iload_n 2, 1) := by decide +kernel
theorem dX8_canBeNode_34 : decode cX8_canBeNode 34 = .ok (.bipush 8, 2) := by decide +kernel
theorem dX8_canBeNode_36 : decode cX8_canBeNode 36 = .ok (.invokestatic 40, 3) := by decide +kernel
theorem dX8_canBeNode_39 : decode cX8_canBeNode 39 = .ok (.ifCond .eq 11, 3) := by decide +kernel
theorem dX8_canBeNode_42 : decode cX8_canBeNode 42 = .ok (.iload_n 3, 1) := by decide +kernel
theorem dX8_canBeNode_43 : decode cX8_canBeNode 43 = .ok (.ifCond .ne 7, 3) := by decide +kernel
theorem dX8_canBeNode_46 : decode cX8_canBeNode 46 = .ok (.iconst 1, 1) := by decide +kernel
theorem dX8_canBeNode_47 : decode cX8_canBeNode 47 = .ok (.goto 4, 3) := by decide +kernel
theorem dX8_canBeNode_50 : decode cX8_canBeNode 50 = .ok (.iconst 0, 1) := by decide +kernel
theorem dX8_canBeNode_51 : decode cX8_canBeNode 51 = .ok (.ireturn, 1) := by decide +kernel
theorem dX8_canBeNode_52 : decode cX8_canBeNode 52 = .ok (.iload_n 1, 1) := by decide +kernel
theorem dX8_canBeNode_53 : decode cX8_canBeNode 53 = .ok (.iconst 2, 1) := by decide +kernel
theorem dX8_canBeNode_54 : decode cX8_canBeNode 54 = .ok (.if_icmp .lt 33, 3) := by decide +kernel
theorem dX8_canBeNode_57 : decode cX8_canBeNode 57 = .ok (.iload_n 1, 1) := by decide +kernel
theorem dX8_canBeNode_58 : decode cX8_canBeNode 58 = .ok (.iconst 5, 1) := by decide +kernel
theorem dX8_canBeNode_59 : decode cX8_canBeNode 59 = .ok (.if_icmp .gt 28, 3) := by decide +kernel
theorem dX8_canBeNode_62 : decode cX8_canBeNode 62 = .ok (.aload_n 0, 1) := by decide +kernel
theorem dX8_canBeNode_63 : decode cX8_canBeNode 63 = .ok (.iload_n 2, 1) := by decide +kernel
theorem dX8_canBeNode_64 : decode cX8_canBeNode 64 = .ok (.invokevirtual 44, 3) := by decide +kernel
theorem dX8_canBeNode_67 : decode cX8_canBeNode 67 = .ok (.ifCond .eq 20, 3) := by decide +kernel
theorem dX8_canBeNode_70 : decode cX8_canBeNode 70 = .ok (.aload_n 0, 1) := by decide +kernel
theorem dX8_canBeNode_71 : decode cX8_canBeNode 71 = .ok (.iload_n 3, 1) := by decide +kernel
theorem dX8_canBeNode_72 : decode cX8_canBeNode 72 = .ok (.invokevirtual 44, 3) := by decide +kernel
theorem dX8_canBeNode_75 : decode cX8_canBeNode 75 = .ok (.ifCond .eq 12, 3) := by decide +kernel
theorem dX8_canBeNode_78 : decode cX8_canBeNode 78 = .ok (.iload_n 2, 1) := by decide +kernel
theorem dX8_canBeNode_79 : decode cX8_canBeNode 79 = .ok (.iload_n 3, 1) := by decide +kernel
theorem dX8_canBeNode_80 : decode cX8_canBeNode 80 = .ok (.if_icmp .eq 7, 3) := by decide +kernel
theorem dX8_canBeNode_83 : decode cX8_canBeNode 83 = .ok (.iconst 1, 1) := by decide +kernel
theorem dX8_canBeNode_84 : decode cX8_canBeNode 84 = .ok (.goto 4, 3) := by decide +kernel
theorem dX8_canBeNode_87 : decode cX8_canBeNode 87 = .ok (.iconst 0, 1) := by decide +kernel
theorem dX8_canBeNode_88 : decode cX8_canBeNode 88 = .ok (.ireturn, 1) := by decide +kernel
theorem dX8_isLoose_0 : decode cX8_isLoose 0 = .ok (.iload_n 1, 1) := by decide +kernel
theorem dX8_isLoose_1 : decode cX8_isLoose 1 = .ok (.aload_n 0, 1) := by decide +kernel
theorem dX8_isLoose_2 : decode cX8_isLoose 2 = .ok (.getfield 48, 3) := by decide +kernel
theorem dX8_isLoose_5 : decode cX8_isLoose 5 = .ok (.invokestatic 40, 3) := by decide +kernel
theorem dX8_isLoose_8 : decode cX8_isLoose 8 = .ok (.ifCond .eq 18, 3) := by decide +kernel
end
section
theorem dX8_isLoose_11 : decode cX8_isLoose 11 = .ok (.aload_n 0, 1) := by decide +kernel
theorem dX8_isLoose_12 : decode cX8_isLoose 12 = .ok (.getfield 28, 3) := by decide +kernel
theorem dX8_isLoose_15 : decode cX8_isLoose 15 = .ok (.iload_n 1, 1) := by decide +kernel
theorem dX8_isLoose_16 : decode cX8_isLoose 16 = .ok (.invokestatic 51, 3) := by decide +kernel
theorem dX8_isLoose_19 : decode cX8_isLoose 19 = .ok (.ifCond .ne 7, 3) := by decide +kernel
theorem dX8_isLoose_22 : decode cX8_isLoose 22 = .ok (.iconst 1, 1) := by decide +kernel
theorem dX8_isLoose_23 : decode cX8_isLoose 23 = .ok (.goto 4, 3) := by decide +kernel
theorem dX8_isLoose_26 : decode cX8_isLoose 26 = .ok (.iconst 0, 1) := by decide +kernel
theorem dX8_isLoose_27 : decode cX8_isLoose 27 = .ok (.ireturn, 1) := by decide +kernel
theorem dX8_addNode_0 : decode cX8_addNode 0 = .ok (.aload_n 0, 1) := by decide +kernel
theorem dX8_addNode_1 : decode cX8_addNode 1 = .ok (.getfield 48, 3) := by decide +kernel
theorem dX8_addNode_4 : decode cX8_addNode 4 = .ok (.istore 4, 2) := by decide +kernel
theorem dX8_addNode_6 : decode cX8_addNode 6 = .ok (.aload_n 0, 1) := by decide +kernel
theorem dX8_addNode_7 : decode cX8_addNode 7 = .ok (.getfield 19, 3) := by decide +kernel
theorem dX8_addNode_10 : decode cX8_addNode 10 = .ok (.iload 4, 2) := by decide +kernel
theorem dX8_addNode_12 : decode cX8_addNode 12 = .ok (.iload_n 1, 1) := by decide +kernel
theorem dX8_addNode_13 : decode cX8_addNode 13 = .ok (.invokestatic 55, 3) := by decide +kernel
theorem dX8_addNode_16 : decode cX8_addNode 16 = .ok (.aload_n 0, 1) := by decide +kernel
theorem dX8_addNode_17 : decode cX8_addNode 17 = .ok (.getfield 22, 3) := by decide +kernel
theorem dX8_addNode_20 : decode cX8_addNode 20 = .ok (.iload 4, 2) := by decide +kernel
theorem dX8_addNode_22 : decode cX8_addNode 22 = .ok (.iload_n 2, 1) := by decide +kernel
theorem dX8_addNode_23 : decode cX8_addNode 23 = .ok (.invokestatic 55, 3) := by decide +kernel
theorem dX8_addNode_26 : decode cX8_addNode 26 = .ok (.aload_n 0, 1) := by decide +kernel
theorem dX8_addNode_27 : decode cX8_addNode 27 = .ok (.getfield 25, 3) := by decide +kernel
theorem dX8_addNode_30 : decode cX8_addNode 30 = .ok (.iload 4, 2) := by decide +kernel
theorem dX8_addNode_32 : decode cX8_addNode 32 = .ok (.iload_n 3, 1) := by decide +kernel
theorem dX8_addNode_33 : decode cX8_addNode 33 = .ok (.invokestatic 55, 3) := by decide +kernel
theorem dX8_addNode_36 : decode cX8_addNode 36 = .ok (.aload_n 0, 1) := by decide +kernel
theorem dX8_addNode_37 : decode cX8_addNode 37 = .ok (.getfield 28, 3) := by decide +kernel
theorem dX8_addNode_40 : decode cX8_addNode 40 = .ok (.iload 4, 2) := by decide +kernel
theorem dX8_addNode_42 : decode cX8_addNode 42 = .ok (.iconst 0, 1) := by decide +kernel
theorem dX8_addNode_43 : decode cX8_addNode 43 = .ok (.invokestatic 55, 3) := by decide +kernel
theorem dX8_addNode_46 : decode cX8_addNode 46 = .ok (.iload_n 1, 1) := by decide +kernel
theorem dX8_addNode_47 : decode cX8_addNode 47 = .ok (.iconst 2, 1) := by decide +kernel
theorem dX8_addNode_48 : decode cX8_addNode 48 = .ok (.if_icmp .lt 21, 3) := by decide +kernel
theorem dX8_addNode_51 : decode cX8_addNode 51 = .ok (.aload_n 0, 1) := by decide +kernel
theorem dX8_addNode_52 : decode cX8_addNode 52 = .ok (.getfield 28, 3) := by decide +kernel
theorem dX8_addNode_55 : decode cX8_addNode 55 = .ok (.iload_n 2, 1) := by decide +kernel
theorem dX8_addNode_56 : decode cX8_addNode 56 = .ok (.iconst 1, 1) := by decide +kernel
theorem dX8_addNode_57 : decode cX8_addNode 57 = .ok (.invokestatic 55, 3) := by decide +kernel
theorem dX8_addNode_60 : decode cX8_addNode 60 = .ok (.aload_n 0, 1) := by decide +kernel
theorem dX8_addNode_61 : decode cX8_addNode 61 = .ok (.getfield 28, 3) := by decide +kernel
theorem dX8_addNode_64 : decode cX8_addNode 64 = .ok (.iload_n 3, 1) := by decide +kernel
theorem dX8_addNode_65 : decode cX8_addNode 65 = .ok (.iconst 1, 1) := by decide +kernel
theorem dX8_addNode_66 : decode cX8_addNode 66 = .ok (.invokestatic 55, 3) := by decide +kernel
theorem dX8_addNode_69 : decode cX8_addNode 69 = .ok (.aload_n 0, 1) := by decide +kernel
theorem dX8_addNode_70 : decode cX8_addNode 70 = .ok (.dup, 1) := by decide +kernel
theorem dX8_addNode_71 : decode cX8_addNode 71 = .ok (.getfield 48, 3) := by decide +kernel
theorem dX8_addNode_74 : decode cX8_addNode 74 = .ok (.iconst 1, 1) := by decide +kernel
theorem dX8_addNode_75 : decode cX8_addNode 75 = .ok (.iadd, 1) := by decide +kernel
theorem dX8_addNode_76 : decode cX8_addNode 76 = .ok (.putfield 48, 3) := by decide +kernel
theorem dX8_addNode_79 : decode cX8_addNode 79 = .ok (.iload 4, 2) := by decide +kernel
theorem dX8_addNode_81 : decode cX8_addNode 81 = .ok (.ireturn, 1) := by decide +kernel
theorem dX8_addStatement_0 : decode cX8_addStatement 0 = .ok (.aload_n 0, 1) := by decide +kernel
theorem dX8_addStatement_1 : decode cX8_addStatement 1 = .ok (.iload_n 1, 1) := by decide +kernel
theorem dX8_addStatement_2 : decode cX8_addStatement 2 = .ok (.invokevirtual 59, 3) := by decide +kernel
theorem dX8_addStatement_5 : decode cX8_addStatement 5 = .ok (.istore 4, 2) := by decide +kernel
theorem dX8_addStatement_7 : decode cX8_addStatement 7 = .ok (.aload_n 0, 1) := by decide +kernel
theorem dX8_addStatement_8 : decode cX8_addStatement 8 = .ok (.getfield 34, 3) := by decide +kernel
theorem dX8_addStatement_11 : decode cX8_addStatement 11 = .ok (.iload_n 1, 1) := by decide +kernel
theorem dX8_addStatement_12 : decode cX8_addStatement 12 = .ok (.iload 4, 2) := by decide +kernel
theorem dX8_addStatement_14 : decode cX8_addStatement 14 = .ok (.invokestatic 63, 3) := by decide +kernel
theorem dX8_addStatement_17 : decode cX8_addStatement 17 = .ok (.iload_n 2, 1) := by decide +kernel
theorem dX8_addStatement_18 : decode cX8_addStatement 18 = .ok (.invokestatic 55, 3) := by decide +kernel
theorem dX8_addStatement_21 : decode cX8_addStatement 21 = .ok (.aload_n 0, 1) := by decide +kernel
theorem dX8_addStatement_22 : decode cX8_addStatement 22 = .ok (.getfield 37, 3) := by decide +kernel
theorem dX8_addStatement_25 : decode cX8_addStatement 25 = .ok (.iload_n 1, 1) := by decide +kernel
theorem dX8_addStatement_26 : decode cX8_addStatement 26 = .ok (.iload 4, 2) := by decide +kernel
theorem dX8_addStatement_28 : decode cX8_addStatement 28 = .ok (.invokestatic 63, 3) := by decide +kernel
theorem dX8_addStatement_31 : decode cX8_addStatement 31 = .ok (.iload_n 3, 1) := by decide +kernel
theorem dX8_addStatement_32 : decode cX8_addStatement 32 = .ok (.invokestatic 55, 3) := by decide +kernel
theorem dX8_addStatement_35 : decode cX8_addStatement 35 = .ok (.aload_n 0, 1) := by decide +kernel
theorem dX8_addStatement_36 : decode cX8_addStatement 36 = .ok (.getfield 28, 3) := by decide +kernel
theorem dX8_addStatement_39 : decode cX8_addStatement 39 = .ok (.iload_n 3, 1) := by decide +kernel
theorem dX8_addStatement_40 : decode cX8_addStatement 40 = .ok (.iconst 1, 1) := by decide +kernel
theorem dX8_addStatement_41 : decode cX8_addStatement 41 = .ok (.invokestatic 55, 3) := by decide +kernel
theorem dX8_addStatement_44 : decode cX8_addStatement 44 = .ok (.aload_n 0, 1) := by decide +kernel
theorem dX8_addStatement_45 : decode cX8_addStatement 45 = .ok (.getfield 31, 3) := by decide +kernel
theorem dX8_addStatement_48 : decode cX8_addStatement 48 = .ok (.iload_n 1, 1) := by decide +kernel
theorem dX8_addStatement_49 : decode cX8_addStatement 49 = .ok (.iload 4, 2) := by decide +kernel
theorem dX8_addStatement_51 : decode cX8_addStatement 51 = .ok (.iconst 1, 1) := by decide +kernel
theorem dX8_addStatement_52 : decode cX8_addStatement 52 = .ok (.iadd, 1) := by decide +kernel
theorem dX8_addStatement_53 : decode cX8_addStatement 53 = .ok (.invokestatic 55, 3) := by decide +kernel
theorem dX8_addStatement_56 : decode cX8_addStatement 56 = .ok (.aload_n 0, 1) := by decide +kernel
theorem dX8_addStatement_57 : decode cX8_addStatement 57 = .ok (.dup, 1) := by decide +kernel
theorem dX8_addStatement_58 : decode cX8_addStatement 58 = .ok (.getfield 67, 3) := by decide +kernel
theorem dX8_addStatement_61 : decode cX8_addStatement 61 = .ok (.iconst 1, 1) := by decide +kernel
theorem dX8_addStatement_62 : decode cX8_addStatement 62 = .ok (.iadd, 1) := by decide +kernel
theorem dX8_addStatement_63 : decode cX8_addStatement 63 = .ok (.putfield 67, 3) := by decide +kernel
theorem dX8_addStatement_66 : decode cX8_addStatement 66 = .ok (.iload 4, 2) := by decide +kernel
theorem dX8_addStatement_68 : decode cX8_addStatement 68 = .ok (.iconst 1, 1) := by decide +kernel
theorem dX8_addStatement_69 : decode cX8_addStatement 69 = .ok (.iadd, 1) := by decide +kernel
theorem dX8_addStatement_70 : decode cX8_addStatement 70 = .ok (.ireturn, 1) := by decide +kernel
theorem dX8_looseCount_0 : decode cX8_looseCount 0 = .ok (.iconst 0, 1) := by decide +kernel
theorem dX8_looseCount_1 : decode cX8_looseCount 1 = .ok (.istore_n 1, 1) := by decide +kernel
theorem dX8_looseCount_2 : decode cX8_looseCount 2 = .ok (.iconst 0, 1) := by decide +kernel
theorem dX8_looseCount_3 : decode cX8_looseCount 3 = .ok (.istore_n 2, 1) := by decide +kernel
theorem dX8_looseCount_4 : decode cX8_looseCount 4 = .ok (.iload_n 2, 1) := by decide +kernel
theorem dX8_looseCount_5 : decode cX8_looseCount 5 = .ok (.aload_n 0, 1) := by decide +kernel
theorem dX8_looseCount_6 : decode cX8_looseCount 6 = .ok (.getfield 48, 3) := by decide +kernel
theorem dX8_looseCount_9 : decode cX8_looseCount 9 = .ok (.if_icmp .ge 20, 3) := by decide +kernel
theorem dX8_looseCount_12 : decode cX8_looseCount 12 = .ok (.aload_n 0, 1) := by decide +kernel
theorem dX8_looseCount_13 : decode cX8_looseCount 13 = .ok (.iload_n 2, 1) := by decide +kernel
theorem dX8_looseCount_14 : decode cX8_looseCount 14 = .ok (.invokevirtual 44, 3) := by decide +kernel
theorem dX8_looseCount_17 : decode cX8_looseCount 17 = .ok (.ifCond .eq 6, 3) := by decide +kernel
theorem dX8_looseCount_20 : decode cX8_looseCount 20 = .ok (.iinc 1 1, 3) := by decide +kernel
theorem dX8_looseCount_23 : decode cX8_looseCount 23 = .ok (.iinc 2 1, 3) := by decide +kernel
theorem dX8_looseCount_26 : decode cX8_looseCount 26 = .ok (.goto (-22), 3) := by decide +kernel
theorem dX8_looseCount_29 : decode cX8_looseCount 29 = .ok (.iload_n 1, 1) := by decide +kernel
theorem dX8_looseCount_30 : decode cX8_looseCount 30 = .ok (.ireturn, 1) := by decide +kernel
theorem dX8_statementsIn_0 : decode cX8_statementsIn 0 = .ok (.aload_n 0, 1) := by decide +kernel
theorem dX8_statementsIn_1 : decode cX8_statementsIn 1 = .ok (.getfield 31, 3) := by decide +kernel
theorem dX8_statementsIn_4 : decode cX8_statementsIn 4 = .ok (.iload_n 1, 1) := by decide +kernel
theorem dX8_statementsIn_5 : decode cX8_statementsIn 5 = .ok (.invokestatic 51, 3) := by decide +kernel
theorem dX8_statementsIn_8 : decode cX8_statementsIn 8 = .ok (.ireturn, 1) := by decide +kernel
theorem dX8_variableOf_0 : decode cX8_variableOf 0 = .ok (.aload_n 0, 1) := by decide +kernel
theorem dX8_variableOf_1 : decode cX8_variableOf 1 = .ok (.getfield 34, 3) := by decide +kernel
theorem dX8_variableOf_4 : decode cX8_variableOf 4 = .ok (.iload_n 1, 1) := by decide +kernel
theorem dX8_variableOf_5 : decode cX8_variableOf 5 = .ok (.iload_n 2, 1) := by decide +kernel
theorem dX8_variableOf_6 : decode cX8_variableOf 6 = .ok (.invokestatic 63, 3) := by decide +kernel
theorem dX8_variableOf_9 : decode cX8_variableOf 9 = .ok (.invokestatic 51, 3) := by decide +kernel
theorem dX8_variableOf_12 : decode cX8_variableOf 12 = .ok (.ireturn, 1) := by decide +kernel
theorem dX8_rootOf_0 : decode cX8_rootOf 0 = .ok (.aload_n 0, 1) := by decide +kernel
theorem dX8_rootOf_1 : decode cX8_rootOf 1 = .ok (.getfield 37, 3) := by decide +kernel
theorem dX8_rootOf_4 : decode cX8_rootOf 4 = .ok (.iload_n 1, 1) := by decide +kernel
theorem dX8_rootOf_5 : decode cX8_rootOf 5 = .ok (.iload_n 2, 1) := by decide +kernel
theorem dX8_rootOf_6 : decode cX8_rootOf 6 = .ok (.invokestatic 63, 3) := by decide +kernel
theorem dX8_rootOf_9 : decode cX8_rootOf 9 = .ok (.invokestatic 51, 3) := by decide +kernel
theorem dX8_rootOf_12 : decode cX8_rootOf 12 = .ok (.ireturn, 1) := by decide +kernel
theorem dX8_roundsOf_0 : decode cX8_roundsOf 0 = .ok (.iload_n 1, 1) := by decide +kernel
theorem dX8_roundsOf_1 : decode cX8_roundsOf 1 = .ok (.iconst (-1), 1) := by decide +kernel
theorem dX8_roundsOf_2 : decode cX8_roundsOf 2 = .ok (.if_icmp .ne 7, 3) := by decide +kernel
theorem dX8_roundsOf_5 : decode cX8_roundsOf 5 = .ok (.iconst 1, 1) := by decide +kernel
theorem dX8_roundsOf_6 : decode cX8_roundsOf 6 = .ok (.goto 11, 3) := by decide +kernel
theorem dX8_roundsOf_9 : decode cX8_roundsOf 9 = .ok (.aload_n 0, 1) := by decide +kernel
theorem dX8_roundsOf_10 : decode cX8_roundsOf 10 = .ok (.getfield 15, 3) := by decide +kernel
theorem dX8_roundsOf_13 : decode cX8_roundsOf 13 = .ok (.iload_n 1, 1) := by decide +kernel
theorem dX8_roundsOf_14 : decode cX8_roundsOf 14 = .ok (.invokestatic 51, 3) := by decide +kernel
theorem dX8_roundsOf_17 : decode cX8_roundsOf 17 = .ok (.ireturn, 1) := by decide +kernel
theorem dX8_placeOf_0 : decode cX8_placeOf 0 = .ok (.iload_n 0, 1) := by decide +kernel
theorem dX8_placeOf_1 : decode cX8_placeOf 1 = .ok (.bipush 24, 2) := by decide +kernel
theorem dX8_placeOf_3 : decode cX8_placeOf 3 = .ok (.imul, 1) := by decide +kernel
theorem dX8_placeOf_4 : decode cX8_placeOf 4 = .ok (.iload_n 1, 1) := by decide +kernel
theorem dX8_placeOf_5 : decode cX8_placeOf 5 = .ok (.iadd, 1) := by decide +kernel
theorem dX8_placeOf_6 : decode cX8_placeOf 6 = .ok (.ireturn, 1) := by decide +kernel
theorem dX9_init_0 : decode cX9_init 0 = .ok (.aload_n 0, 1) := by decide +kernel
theorem dX9_init_1 : decode cX9_init 1 = .ok (.invokespecial 3, 3) := by decide +kernel
theorem dX9_init_4 : decode cX9_init 4 = .ok (.aload_n 0, 1) := by decide +kernel
theorem dX9_init_5 : decode cX9_init 5 = .ok (.aload_n 1, 1) := by decide +kernel
theorem dX9_init_6 : decode cX9_init 6 = .ok (.putfield 9, 3) := by decide +kernel
theorem dX9_init_9 : decode cX9_init 9 = .ok (.aload_n 0, 1) := by decide +kernel
theorem dX9_init_10 : decode cX9_init 10 = .ok (.aload_n 2, 1) := by decide +kernel
theorem dX9_init_11 : decode cX9_init 11 = .ok (.putfield 15, 3) := by decide +kernel
theorem dX9_init_14 : decode cX9_init 14 = .ok (.aload_n 0, 1) := by decide +kernel
theorem dX9_init_15 : decode cX9_init 15 = .ok (.sipush 528, 3) := by decide +kernel
theorem dX9_init_18 : decode cX9_init 18 = .ok (.newarray .int, 2) := by decide +kernel
theorem dX9_init_20 : decode cX9_init 20 = .ok (.putfield 19, 3) := by decide +kernel
theorem dX9_init_23 : decode cX9_init 23 = .ok (.aload_n 0, 1) := by decide +kernel
theorem dX9_init_24 : decode cX9_init 24 = .ok (.bipush 11, 2) := by decide +kernel
theorem dX9_init_26 : decode cX9_init 26 = .ok (.newarray .int, 2) := by decide +kernel
theorem dX9_init_28 : decode cX9_init 28 = .ok (.putfield 23, 3) := by decide +kernel
theorem dX9_init_31 : decode cX9_init 31 = .ok (.aload_n 0, 1) := by decide +kernel
theorem dX9_init_32 : decode cX9_init 32 = .ok (.bipush 88, 2) := by decide +kernel
theorem dX9_init_34 : decode cX9_init 34 = .ok (.newarray .int, 2) := by decide +kernel
theorem dX9_init_36 : decode cX9_init 36 = .ok (.putfield 26, 3) := by decide +kernel
theorem dX9_init_39 : decode cX9_init 39 = .ok (.aload_n 0, 1) := by decide +kernel
theorem dX9_init_40 : decode cX9_init 40 = .ok (.bipush 11, 2) := by decide +kernel
theorem dX9_init_42 : decode cX9_init 42 = .ok (.newarray .int, 2) := by decide +kernel
theorem dX9_init_44 : decode cX9_init 44 = .ok (.putfield 29, 3) := by decide +kernel
theorem dX9_init_47 : decode cX9_init 47 = .ok (.return_, 1) := by decide +kernel
theorem dX9_go_0 : decode cX9_go 0 = .ok (.aload_n 0, 1) := by decide +kernel
theorem dX9_go_1 : decode cX9_go 1 = .ok (.iconst 0, 1) := by decide +kernel
theorem dX9_go_2 : decode cX9_go 2 = .ok (.putfield 32, 3) := by decide +kernel
theorem dX9_go_5 : decode cX9_go 5 = .ok (.aload_n 0, 1) := by decide +kernel
theorem dX9_go_6 : decode cX9_go 6 = .ok (.iconst 0, 1) := by decide +kernel
theorem dX9_go_7 : decode cX9_go 7 = .ok (.putfield 36, 3) := by decide +kernel
theorem dX9_go_10 : decode cX9_go 10 = .ok (.aload_n 0, 1) := by decide +kernel
theorem dX9_go_11 : decode cX9_go 11 = .ok (.iconst 0, 1) := by decide +kernel
theorem dX9_go_12 : decode cX9_go 12 = .ok (.putfield 39, 3) := by decide +kernel
theorem dX9_go_15 : decode cX9_go 15 = .ok (.aload_n 0, 1) := by decide +kernel
theorem dX9_go_16 : decode cX9_go 16 = .ok (.iconst (-1), 1) := by decide +kernel
theorem dX9_go_17 : decode cX9_go 17 = .ok (.putfield 42, 3) := by decide +kernel
theorem dX9_go_20 : decode cX9_go 20 = .ok (.aload_n 0, 1) := by decide +kernel
theorem dX9_go_21 : decode cX9_go 21 = .ok (.getfield 19, 3) := by decide +kernel
theorem dX9_go_24 : decode cX9_go 24 = .ok (.iconst (-1), 1) := by decide +kernel
theorem dX9_go_25 : decode cX9_go 25 = .ok (.invokestatic 45, 3) := by decide +kernel
theorem dX9_go_28 : decode cX9_go 28 = .ok (.aload_n 0, 1) := by decide +kernel
theorem dX9_go_29 : decode cX9_go 29 = .ok (.getfield 23, 3) := by decide +kernel
theorem dX9_go_32 : decode cX9_go 32 = .ok (.iconst 0, 1) := by decide +kernel
theorem dX9_go_33 : decode cX9_go 33 = .ok (.invokestatic 45, 3) := by decide +kernel
theorem dX9_go_36 : decode cX9_go 36 = .ok (.aload_n 0, 1) := by decide +kernel
theorem dX9_go_37 : decode cX9_go 37 = .ok (.getfield 26, 3) := by decide +kernel
theorem dX9_go_40 : decode cX9_go 40 = .ok (.iconst 0, 1) := by decide +kernel
theorem dX9_go_41 : decode cX9_go 41 = .ok (.invokestatic 45, 3) := by decide +kernel
theorem dX9_go_44 : decode cX9_go 44 = .ok (.aload_n 0, 1) := by decide +kernel
theorem dX9_go_45 : decode cX9_go 45 = .ok (.getfield 29, 3) := by decide +kernel
theorem dX9_go_48 : decode cX9_go 48 = .ok (.iconst 0, 1) := by decide +kernel
theorem dX9_go_49 : decode cX9_go 49 = .ok (.invokestatic 45, 3) := by decide +kernel
theorem dX9_go_52 : decode cX9_go 52 = .ok (.aload_n 0, 1) := by decide +kernel
theorem dX9_go_53 : decode cX9_go 53 = .ok (.aload_n 1, 1) := by decide +kernel
theorem dX9_go_54 : decode cX9_go 54 = .ok (.iconst 0, 1) := by decide +kernel
theorem dX9_go_55 : decode cX9_go 55 = .ok (.aload_n 1, 1) := by decide +kernel
theorem dX9_go_56 : decode cX9_go 56 = .ok (.aload_n 2, 1) := by decide +kernel
theorem dX9_go_57 : decode cX9_go 57 = .ok (.iconst 0, 1) := by decide +kernel
theorem dX9_go_58 : decode cX9_go 58 = .ok (.invokestatic 49, 3) := by decide +kernel
theorem dX9_go_61 : decode cX9_go 61 = .ok (.invokevirtual 53, 3) := by decide +kernel
theorem dX9_go_64 : decode cX9_go 64 = .ok (.invokevirtual 59, 3) := by decide +kernel
theorem dX9_go_67 : decode cX9_go 67 = .ok (.iconst 0, 1) := by decide +kernel
theorem dX9_go_68 : decode cX9_go 68 = .ok (.istore_n 3, 1) := by decide +kernel
theorem dX9_go_69 : decode cX9_go 69 = .ok (.iload_n 3, 1) := by decide +kernel
theorem dX9_go_70 : decode cX9_go 70 = .ok (.iconst 4, 1) := by decide +kernel
theorem dX9_go_71 : decode cX9_go 71 = .ok (.if_icmp .ge 68, 3) := by decide +kernel
theorem dX9_go_74 : decode cX9_go 74 = .ok (.aload_n 1, 1) := by decide +kernel
theorem dX9_go_75 : decode cX9_go 75 = .ok (.aload_n 2, 1) := by decide +kernel
theorem dX9_go_76 : decode cX9_go 76 = .ok (.iload_n 3, 1) := by decide +kernel
theorem dX9_go_77 : decode cX9_go 77 = .ok (.invokestatic 49, 3) := by decide +kernel
theorem dX9_go_80 : decode cX9_go 80 = .ok (.invokevirtual 53, 3) := by decide +kernel
theorem dX9_go_83 : decode cX9_go 83 = .ok (.istore 4, 2) := by decide +kernel
theorem dX9_go_85 : decode cX9_go 85 = .ok (.aload_n 1, 1) := by decide +kernel
theorem dX9_go_86 : decode cX9_go 86 = .ok (.aload_n 2, 1) := by decide +kernel
theorem dX9_go_87 : decode cX9_go 87 = .ok (.iload_n 3, 1) := by decide +kernel
theorem dX9_go_88 : decode cX9_go 88 = .ok (.iconst 1, 1) := by decide +kernel
theorem dX9_go_89 : decode cX9_go 89 = .ok (.iadd, 1) := by decide +kernel
theorem dX9_go_90 : decode cX9_go 90 = .ok (.invokestatic 49, 3) := by decide +kernel
theorem dX9_go_93 : decode cX9_go 93 = .ok (.invokevirtual 53, 3) := by decide +kernel
theorem dX9_go_96 : decode cX9_go 96 = .ok (.istore 5, 2) := by decide +kernel
theorem dX9_go_98 : decode cX9_go 98 = .ok (.aload_n 0, 1) := by decide +kernel
theorem dX9_go_99 : decode cX9_go 99 = .ok (.getfield 9, 3) := by decide +kernel
theorem dX9_go_102 : decode cX9_go 102 = .ok (.iload_n 3, 1) := by decide +kernel
theorem dX9_go_103 : decode cX9_go 103 = .ok (.invokevirtual 63, 3) := by decide +kernel
theorem dX9_go_106 : decode cX9_go 106 = .ok (.istore 6, 2) := by decide +kernel
theorem dX9_go_108 : decode cX9_go 108 = .ok (.iconst 0, 1) := by decide +kernel
theorem dX9_go_109 : decode cX9_go 109 = .ok (.istore 7, 2) := by decide +kernel
theorem dX9_go_111 : decode cX9_go 111 = .ok (.iload 7, 2) := by decide +kernel
theorem dX9_go_113 : decode cX9_go 113 = .ok (.iload 6, 2) := by decide +kernel
theorem dX9_go_115 : decode cX9_go 115 = .ok (.if_icmp .ge 18, 3) := by decide +kernel
theorem dX9_go_118 : decode cX9_go 118 = .ok (.aload_n 0, 1) := by decide +kernel
theorem dX9_go_119 : decode cX9_go 119 = .ok (.aload_n 1, 1) := by decide +kernel
theorem dX9_go_120 : decode cX9_go 120 = .ok (.iload 4, 2) := by decide +kernel
theorem dX9_go_122 : decode cX9_go 122 = .ok (.iload 5, 2) := by decide +kernel
theorem dX9_go_124 : decode cX9_go 124 = .ok (.invokevirtual 59, 3) := by decide +kernel
theorem dX9_go_127 : decode cX9_go 127 = .ok (.iinc 7 1, 3) := by decide +kernel
theorem dX9_go_130 : decode cX9_go 130 = .ok (.goto (-19), 3) := by decide +kernel
theorem dX9_go_133 : decode cX9_go 133 = .ok (.iinc 3 1, 3) := by decide +kernel
theorem dX9_go_136 : decode cX9_go 136 = .ok (.goto (-67), 3) := by decide +kernel
theorem dX9_go_139 : decode cX9_go 139 = .ok (.return_, 1) := by decide +kernel
theorem dX9_goThrough_0 : decode cX9_goThrough 0 = .ok (.iload_n 2, 1) := by decide +kernel
theorem dX9_goThrough_1 : decode cX9_goThrough 1 = .ok (.istore 4, 2) := by decide +kernel
theorem dX9_goThrough_3 : decode cX9_goThrough 3 = .ok (.iload 4, 2) := by decide +kernel
theorem dX9_goThrough_5 : decode cX9_goThrough 5 = .ok (.iload_n 3, 1) := by decide +kernel
theorem dX9_goThrough_6 : decode cX9_goThrough 6 = .ok (.if_icmp .ge 166, 3) := by decide +kernel
theorem dX9_goThrough_9 : decode cX9_goThrough 9 = .ok (.aload_n 1, 1) := by decide +kernel
theorem dX9_goThrough_10 : decode cX9_goThrough 10 = .ok (.iload 4, 2) := by decide +kernel
theorem dX9_goThrough_12 : decode cX9_goThrough 12 = .ok (.invokevirtual 68, 3) := by decide +kernel
theorem dX9_goThrough_15 : decode cX9_goThrough 15 = .ok (.istore 5, 2) := by decide +kernel
theorem dX9_goThrough_17 : decode cX9_goThrough 17 = .ok (.aload_n 1, 1) := by decide +kernel
theorem dX9_goThrough_18 : decode cX9_goThrough 18 = .ok (.iload 4, 2) := by decide +kernel
theorem dX9_goThrough_20 : decode cX9_goThrough 20 = .ok (.iconst 1, 1) := by decide +kernel
theorem dX9_goThrough_21 : decode cX9_goThrough 21 = .ok (.invokevirtual 71, 3) := by decide +kernel
theorem dX9_goThrough_24 : decode cX9_goThrough 24 = .ok (.istore 6, 2) := by decide +kernel
theorem dX9_goThrough_26 : decode cX9_goThrough 26 = .ok (.aload_n 1, 1) := by decide +kernel
theorem dX9_goThrough_27 : decode cX9_goThrough 27 = .ok (.iload 4, 2) := by decide +kernel
theorem dX9_goThrough_29 : decode cX9_goThrough 29 = .ok (.iconst 2, 1) := by decide +kernel
theorem dX9_goThrough_30 : decode cX9_goThrough 30 = .ok (.invokevirtual 71, 3) := by decide +kernel
theorem dX9_goThrough_33 : decode cX9_goThrough 33 = .ok (.istore 7, 2) := by decide +kernel
theorem dX9_goThrough_35 : decode cX9_goThrough 35 = .ok (.aload_n 1, 1) := by decide +kernel
theorem dX9_goThrough_36 : decode cX9_goThrough 36 = .ok (.iload 4, 2) := by decide +kernel
theorem dX9_goThrough_38 : decode cX9_goThrough 38 = .ok (.iconst 3, 1) := by decide +kernel
theorem dX9_goThrough_39 : decode cX9_goThrough 39 = .ok (.invokevirtual 71, 3) := by decide +kernel
theorem dX9_goThrough_42 : decode cX9_goThrough 42 = .ok (.istore 8, 2) := by decide +kernel
theorem dX9_goThrough_44 : decode cX9_goThrough 44 = .ok (.aload_n 1, 1) := by decide +kernel
theorem dX9_goThrough_45 : decode cX9_goThrough 45 = .ok (.iload 4, 2) := by decide +kernel
theorem dX9_goThrough_47 : decode cX9_goThrough 47 = .ok (.iconst 4, 1) := by decide +kernel
theorem dX9_goThrough_48 : decode cX9_goThrough 48 = .ok (.invokevirtual 71, 3) := by decide +kernel
theorem dX9_goThrough_51 : decode cX9_goThrough 51 = .ok (.istore 9, 2) := by decide +kernel
theorem dX9_goThrough_53 : decode cX9_goThrough 53 = .ok (.aload_n 0, 1) := by decide +kernel
theorem dX9_goThrough_54 : decode cX9_goThrough 54 = .ok (.getfield 42, 3) := by decide +kernel
theorem dX9_goThrough_57 : decode cX9_goThrough 57 = .ok (.iconst 1, 1) := by decide +kernel
theorem dX9_goThrough_58 : decode cX9_goThrough 58 = .ok (.iadd, 1) := by decide +kernel
theorem dX9_goThrough_59 : decode cX9_goThrough 59 = .ok (.aload_n 0, 1) := by decide +kernel
theorem dX9_goThrough_60 : decode cX9_goThrough 60 = .ok (.iload 5, 2) := by decide +kernel
theorem dX9_goThrough_62 : decode cX9_goThrough 62 = .ok (.iload 6, 2) := by decide +kernel
theorem dX9_goThrough_64 : decode cX9_goThrough 64 = .ok (.iload 7, 2) := by decide +kernel
theorem dX9_goThrough_66 : decode cX9_goThrough 66 = .ok (.iload 8, 2) := by decide +kernel
theorem dX9_goThrough_68 : decode cX9_goThrough 68 = .ok (.iload 9, 2) := by decide +kernel
theorem dX9_goThrough_70 : decode cX9_goThrough 70 = .ok (.invokevirtual 75, 3) := by decide +kernel
theorem dX9_goThrough_73 : decode cX9_goThrough 73 = .ok (.invokestatic 79, 3) := by decide +kernel
theorem dX9_goThrough_76 : decode cX9_goThrough 76 = .ok (.istore 10, 2) := by decide +kernel
theorem dX9_goThrough_78 : decode cX9_goThrough 78 = .ok (.aload_n 0, 1) := by decide +kernel
theorem dX9_goThrough_79 : decode cX9_goThrough 79 = .ok (.dup, 1) := by decide +kernel
theorem dX9_goThrough_80 : decode cX9_goThrough 80 = .ok (.getfield 39, 3) := by decide +kernel
theorem dX9_goThrough_83 : decode cX9_goThrough 83 = .ok (.iload 10, 2) := by decide +kernel
theorem dX9_goThrough_85 : decode cX9_goThrough 85 = .ok (.aload_n 0, 1) := by decide +kernel
theorem dX9_goThrough_86 : decode cX9_goThrough 86 = .ok (.getfield 42, 3) := by decide +kernel
theorem dX9_goThrough_89 : decode cX9_goThrough 89 = .ok (.isub, 1) := by decide +kernel
theorem dX9_goThrough_90 : decode cX9_goThrough 90 = .ok (.iconst 1, 1) := by decide +kernel
theorem dX9_goThrough_91 : decode cX9_goThrough 91 = .ok (.isub, 1) := by decide +kernel
theorem dX9_goThrough_92 : decode cX9_goThrough 92 = .ok (.iadd, 1) := by decide +kernel
theorem dX9_goThrough_93 : decode cX9_goThrough 93 = .ok (.putfield 39, 3) := by decide +kernel
theorem dX9_goThrough_96 : decode cX9_goThrough 96 = .ok (.aload_n 0, 1) := by decide +kernel
theorem dX9_goThrough_97 : decode cX9_goThrough 97 = .ok (.iload 10, 2) := by decide +kernel
theorem dX9_goThrough_99 : decode cX9_goThrough 99 = .ok (.putfield 42, 3) := by decide +kernel
theorem dX9_goThrough_102 : decode cX9_goThrough 102 = .ok (.aload_n 0, 1) := by decide +kernel
theorem dX9_goThrough_103 : decode cX9_goThrough 103 = .ok (.dup, 1) := by decide +kernel
theorem dX9_goThrough_104 : decode cX9_goThrough 104 = .ok (.getfield 32, 3) := by decide +kernel
theorem dX9_goThrough_107 : decode cX9_goThrough 107 = .ok (.iconst 1, 1) := by decide +kernel
theorem dX9_goThrough_108 : decode cX9_goThrough 108 = .ok (.iadd, 1) := by decide +kernel
theorem dX9_goThrough_109 : decode cX9_goThrough 109 = .ok (.putfield 32, 3) := by decide +kernel
theorem dX9_goThrough_112 : decode cX9_goThrough 112 = .ok (.aload_n 0, 1) := by decide +kernel
theorem dX9_goThrough_113 : decode cX9_goThrough 113 = .ok (.iload 10, 2) := by decide +kernel
theorem dX9_goThrough_115 : decode cX9_goThrough 115 = .ok (.aload_n 0, 1) := by decide +kernel
theorem dX9_goThrough_116 : decode cX9_goThrough 116 = .ok (.getfield 15, 3) := by decide +kernel
theorem dX9_goThrough_119 : decode cX9_goThrough 119 = .ok (.iload 5, 2) := by decide +kernel
theorem dX9_goThrough_121 : decode cX9_goThrough 121 = .ok (.invokevirtual 84, 3) := by decide +kernel
theorem dX9_goThrough_124 : decode cX9_goThrough 124 = .ok (.iadd, 1) := by decide +kernel
theorem dX9_goThrough_125 : decode cX9_goThrough 125 = .ok (.putfield 36, 3) := by decide +kernel
theorem dX9_goThrough_128 : decode cX9_goThrough 128 = .ok (.aload_n 0, 1) := by decide +kernel
theorem dX9_goThrough_129 : decode cX9_goThrough 129 = .ok (.getfield 19, 3) := by decide +kernel
theorem dX9_goThrough_132 : decode cX9_goThrough 132 = .ok (.iload 4, 2) := by decide +kernel
theorem dX9_goThrough_134 : decode cX9_goThrough 134 = .ok (.invokestatic 49, 3) := by decide +kernel
theorem dX9_goThrough_137 : decode cX9_goThrough 137 = .ok (.iconst (-1), 1) := by decide +kernel
theorem dX9_goThrough_138 : decode cX9_goThrough 138 = .ok (.if_icmp .ne 14, 3) := by decide +kernel
theorem dX9_goThrough_141 : decode cX9_goThrough 141 = .ok (.aload_n 0, 1) := by decide +kernel
theorem dX9_goThrough_142 : decode cX9_goThrough 142 = .ok (.getfield 19, 3) := by decide +kernel
theorem dX9_goThrough_145 : decode cX9_goThrough 145 = .ok (.iload 4, 2) := by decide +kernel
theorem dX9_goThrough_147 : decode cX9_goThrough 147 = .ok (.iload 10, 2) := by decide +kernel
theorem dX9_goThrough_149 : decode cX9_goThrough 149 = .ok (.invokestatic 89, 3) := by decide +kernel
theorem dX9_goThrough_152 : decode cX9_goThrough 152 = .ok (.aload_n 0, 1) := by decide +kernel
theorem dX9_goThrough_153 : decode cX9_goThrough 153 = .ok (.iload 5, 2) := by decide +kernel
theorem dX9_goThrough_155 : decode cX9_goThrough 155 = .ok (.iload 6, 2) := by decide +kernel
theorem dX9_goThrough_157 : decode cX9_goThrough 157 = .ok (.iload 7, 2) := by decide +kernel
theorem dX9_goThrough_159 : decode cX9_goThrough 159 = .ok (.iload 8, 2) := by decide +kernel
theorem dX9_goThrough_161 : decode cX9_goThrough 161 = .ok (.iload 9, 2) := by decide +kernel
theorem dX9_goThrough_163 : decode cX9_goThrough 163 = .ok (.invokevirtual 93, 3) := by decide +kernel
theorem dX9_goThrough_166 : decode cX9_goThrough 166 = .ok (.iinc 4 1, 3) := by decide +kernel
theorem dX9_goThrough_169 : decode cX9_goThrough 169 = .ok (.goto (-166), 3) := by decide +kernel
theorem dX9_goThrough_172 : decode cX9_goThrough 172 = .ok (.return_, 1) := by decide +kernel
theorem dX9_readyFor_0 : decode cX9_readyFor 0 = .ok (.iload_n 1, 1) := by decide +kernel
theorem dX9_readyFor_1 : decode cX9_readyFor 1 = .ok (.tableswitch 143 1 9 #[51, 60, 60, 60, 51, 81, 143, 114, 123], 51) := by decide +kernel
theorem dX9_readyFor_52 : decode cX9_readyFor 52 = .ok (.aload_n 0, 1) := by decide +kernel
theorem dX9_readyFor_53 : decode cX9_readyFor 53 = .ok (.getfield 29, 3) := by decide +kernel
theorem dX9_readyFor_56 : decode cX9_readyFor 56 = .ok (.iload_n 3, 1) := by decide +kernel
theorem dX9_readyFor_57 : decode cX9_readyFor 57 = .ok (.invokestatic 49, 3) := by decide +kernel
theorem dX9_readyFor_60 : decode cX9_readyFor 60 = .ok (.ireturn, 1) := by decide +kernel
theorem dX9_readyFor_61 : decode cX9_readyFor 61 = .ok (.aload_n 0, 1) := by decide +kernel
theorem dX9_readyFor_62 : decode cX9_readyFor 62 = .ok (.getfield 29, 3) := by decide +kernel
theorem dX9_readyFor_65 : decode cX9_readyFor 65 = .ok (.iload_n 3, 1) := by decide +kernel
theorem dX9_readyFor_66 : decode cX9_readyFor 66 = .ok (.invokestatic 49, 3) := by decide +kernel
theorem dX9_readyFor_69 : decode cX9_readyFor 69 = .ok (.aload_n 0, 1) := by decide +kernel
theorem dX9_readyFor_70 : decode cX9_readyFor 70 = .ok (.getfield 29, 3) := by decide +kernel
theorem dX9_readyFor_73 : decode cX9_readyFor 73 = .ok (.iload 4, 2) := by decide +kernel
theorem dX9_readyFor_75 : decode cX9_readyFor 75 = .ok (.invokestatic 49, 3) := by decide +kernel
theorem dX9_readyFor_78 : decode cX9_readyFor 78 = .ok (.invokestatic 79, 3) := by decide +kernel
theorem dX9_readyFor_81 : decode cX9_readyFor 81 = .ok (.ireturn, 1) := by decide +kernel
theorem dX9_readyFor_82 : decode cX9_readyFor 82 = .ok (.aload_n 0, 1) := by decide +kernel
theorem dX9_readyFor_83 : decode cX9_readyFor 83 = .ok (.getfield 29, 3) := by decide +kernel
theorem dX9_readyFor_86 : decode cX9_readyFor 86 = .ok (.iload_n 3, 1) := by decide +kernel
theorem dX9_readyFor_87 : decode cX9_readyFor 87 = .ok (.invokestatic 49, 3) := by decide +kernel
theorem dX9_readyFor_90 : decode cX9_readyFor 90 = .ok (.aload_n 0, 1) := by decide +kernel
theorem dX9_readyFor_91 : decode cX9_readyFor 91 = .ok (.getfield 29, 3) := by decide +kernel
theorem dX9_readyFor_94 : decode cX9_readyFor 94 = .ok (.iload 4, 2) := by decide +kernel
theorem dX9_readyFor_96 : decode cX9_readyFor 96 = .ok (.invokestatic 49, 3) := by decide +kernel
theorem dX9_readyFor_99 : decode cX9_readyFor 99 = .ok (.aload_n 0, 1) := by decide +kernel
theorem dX9_readyFor_100 : decode cX9_readyFor 100 = .ok (.getfield 29, 3) := by decide +kernel
theorem dX9_readyFor_103 : decode cX9_readyFor 103 = .ok (.iload 5, 2) := by decide +kernel
theorem dX9_readyFor_105 : decode cX9_readyFor 105 = .ok (.invokestatic 49, 3) := by decide +kernel
theorem dX9_readyFor_108 : decode cX9_readyFor 108 = .ok (.invokestatic 79, 3) := by decide +kernel
theorem dX9_readyFor_111 : decode cX9_readyFor 111 = .ok (.invokestatic 79, 3) := by decide +kernel
theorem dX9_readyFor_114 : decode cX9_readyFor 114 = .ok (.ireturn, 1) := by decide +kernel
theorem dX9_readyFor_115 : decode cX9_readyFor 115 = .ok (.aload_n 0, 1) := by decide +kernel
theorem dX9_readyFor_116 : decode cX9_readyFor 116 = .ok (.getfield 29, 3) := by decide +kernel
theorem dX9_readyFor_119 : decode cX9_readyFor 119 = .ok (.iload_n 2, 1) := by decide +kernel
theorem dX9_readyFor_120 : decode cX9_readyFor 120 = .ok (.invokestatic 49, 3) := by decide +kernel
theorem dX9_readyFor_123 : decode cX9_readyFor 123 = .ok (.ireturn, 1) := by decide +kernel
theorem dX9_readyFor_124 : decode cX9_readyFor 124 = .ok (.aload_n 0, 1) := by decide +kernel
theorem dX9_readyFor_125 : decode cX9_readyFor 125 = .ok (.getfield 29, 3) := by decide +kernel
theorem dX9_readyFor_128 : decode cX9_readyFor 128 = .ok (.iconst 0, 1) := by decide +kernel
theorem dX9_readyFor_129 : decode cX9_readyFor 129 = .ok (.invokestatic 49, 3) := by decide +kernel
theorem dX9_readyFor_132 : decode cX9_readyFor 132 = .ok (.aload_n 0, 1) := by decide +kernel
theorem dX9_readyFor_133 : decode cX9_readyFor 133 = .ok (.getfield 29, 3) := by decide +kernel
theorem dX9_readyFor_136 : decode cX9_readyFor 136 = .ok (.iconst 1, 1) := by decide +kernel
theorem dX9_readyFor_137 : decode cX9_readyFor 137 = .ok (.invokestatic 49, 3) := by decide +kernel
theorem dX9_readyFor_140 : decode cX9_readyFor 140 = .ok (.invokestatic 79, 3) := by decide +kernel
theorem dX9_readyFor_143 : decode cX9_readyFor 143 = .ok (.ireturn, 1) := by decide +kernel
theorem dX9_readyFor_144 : decode cX9_readyFor 144 = .ok (.iconst 0, 1) := by decide +kernel
theorem dX9_readyFor_145 : decode cX9_readyFor 145 = .ok (.ireturn, 1) := by decide +kernel
theorem dX9_perform_0 : decode cX9_perform 0 = .ok (.iload_n 1, 1) := by decide +kernel
theorem dX9_perform_1 : decode cX9_perform 1 = .ok (.bipush 8, 2) := by decide +kernel
theorem dX9_perform_3 : decode cX9_perform 3 = .ok (.if_icmp .ne 22, 3) := by decide +kernel
theorem dX9_perform_6 : decode cX9_perform 6 = .ok (.aload_n 0, 1) := by decide +kernel
theorem dX9_perform_7 : decode cX9_perform 7 = .ok (.getfield 26, 3) := by decide +kernel
theorem dX9_perform_10 : decode cX9_perform 10 = .ok (.iload_n 3, 1) := by decide +kernel
theorem dX9_perform_11 : decode cX9_perform 11 = .ok (.aload_n 0, 1) := by decide +kernel
theorem dX9_perform_12 : decode cX9_perform 12 = .ok (.getfield 23, 3) := by decide +kernel
theorem dX9_perform_15 : decode cX9_perform 15 = .ok (.iload_n 2, 1) := by decide +kernel
theorem dX9_perform_16 : decode cX9_perform 16 = .ok (.invokestatic 49, 3) := by decide +kernel
theorem dX9_perform_19 : decode cX9_perform 19 = .ok (.invokestatic 89, 3) := by decide +kernel
theorem dX9_perform_22 : decode cX9_perform 22 = .ok (.goto 46, 3) := by decide +kernel
theorem dX9_perform_25 : decode cX9_perform 25 = .ok (.iload_n 1, 1) := by decide +kernel
theorem dX9_perform_26 : decode cX9_perform 26 = .ok (.bipush 9, 2) := by decide +kernel
theorem dX9_perform_28 : decode cX9_perform 28 = .ok (.if_icmp .ne 10, 3) := by decide +kernel
theorem dX9_perform_31 : decode cX9_perform 31 = .ok (.aload_n 0, 1) := by decide +kernel
theorem dX9_perform_32 : decode cX9_perform 32 = .ok (.invokevirtual 97, 3) := by decide +kernel
theorem dX9_perform_35 : decode cX9_perform 35 = .ok (.goto 33, 3) := by decide +kernel
theorem dX9_perform_38 : decode cX9_perform 38 = .ok (.aload_n 0, 1) := by decide +kernel
theorem dX9_perform_39 : decode cX9_perform 39 = .ok (.getfield 23, 3) := by decide +kernel
theorem dX9_perform_42 : decode cX9_perform 42 = .ok (.iload_n 2, 1) := by decide +kernel
theorem dX9_perform_43 : decode cX9_perform 43 = .ok (.aload_n 0, 1) := by decide +kernel
theorem dX9_perform_44 : decode cX9_perform 44 = .ok (.iload_n 1, 1) := by decide +kernel
theorem dX9_perform_45 : decode cX9_perform 45 = .ok (.iload_n 3, 1) := by decide +kernel
theorem dX9_perform_46 : decode cX9_perform 46 = .ok (.iload 4, 2) := by decide +kernel
theorem dX9_perform_48 : decode cX9_perform 48 = .ok (.iload 5, 2) := by decide +kernel
theorem dX9_perform_50 : decode cX9_perform 50 = .ok (.invokevirtual 100, 3) := by decide +kernel
theorem dX9_perform_53 : decode cX9_perform 53 = .ok (.invokestatic 89, 3) := by decide +kernel
theorem dX9_perform_56 : decode cX9_perform 56 = .ok (.aload_n 0, 1) := by decide +kernel
theorem dX9_perform_57 : decode cX9_perform 57 = .ok (.getfield 29, 3) := by decide +kernel
theorem dX9_perform_60 : decode cX9_perform 60 = .ok (.iload_n 2, 1) := by decide +kernel
theorem dX9_perform_61 : decode cX9_perform 61 = .ok (.aload_n 0, 1) := by decide +kernel
theorem dX9_perform_62 : decode cX9_perform 62 = .ok (.getfield 36, 3) := by decide +kernel
theorem dX9_perform_65 : decode cX9_perform 65 = .ok (.invokestatic 89, 3) := by decide +kernel
theorem dX9_perform_68 : decode cX9_perform 68 = .ok (.return_, 1) := by decide +kernel
theorem dX9_resultOf_0 : decode cX9_resultOf 0 = .ok (.aload_n 0, 1) := by decide +kernel
theorem dX9_resultOf_1 : decode cX9_resultOf 1 = .ok (.getfield 23, 3) := by decide +kernel
theorem dX9_resultOf_4 : decode cX9_resultOf 4 = .ok (.iload_n 2, 1) := by decide +kernel
theorem dX9_resultOf_5 : decode cX9_resultOf 5 = .ok (.invokestatic 49, 3) := by decide +kernel
theorem dX9_resultOf_8 : decode cX9_resultOf 8 = .ok (.istore 5, 2) := by decide +kernel
theorem dX9_resultOf_10 : decode cX9_resultOf 10 = .ok (.aload_n 0, 1) := by decide +kernel
theorem dX9_resultOf_11 : decode cX9_resultOf 11 = .ok (.getfield 23, 3) := by decide +kernel
theorem dX9_resultOf_14 : decode cX9_resultOf 14 = .ok (.iload_n 3, 1) := by decide +kernel
theorem dX9_resultOf_15 : decode cX9_resultOf 15 = .ok (.invokestatic 49, 3) := by decide +kernel
theorem dX9_resultOf_18 : decode cX9_resultOf 18 = .ok (.istore 6, 2) := by decide +kernel
theorem dX9_resultOf_20 : decode cX9_resultOf 20 = .ok (.iload_n 1, 1) := by decide +kernel
theorem dX9_resultOf_21 : decode cX9_resultOf 21 = .ok (.tableswitch 87 0 6 #[43, 45, 48, 54, 60, 66, 71], 43) := by decide +kernel
theorem dX9_resultOf_64 : decode cX9_resultOf 64 = .ok (.iload_n 2, 1) := by decide +kernel
theorem dX9_resultOf_65 : decode cX9_resultOf 65 = .ok (.ireturn, 1) := by decide +kernel
theorem dX9_resultOf_66 : decode cX9_resultOf 66 = .ok (.iload 5, 2) := by decide +kernel
theorem dX9_resultOf_68 : decode cX9_resultOf 68 = .ok (.ireturn, 1) := by decide +kernel
theorem dX9_resultOf_69 : decode cX9_resultOf 69 = .ok (.iload 5, 2) := by decide +kernel
theorem dX9_resultOf_71 : decode cX9_resultOf 71 = .ok (.iload 6, 2) := by decide +kernel
theorem dX9_resultOf_73 : decode cX9_resultOf 73 = .ok (.iadd, 1) := by decide +kernel
theorem dX9_resultOf_74 : decode cX9_resultOf 74 = .ok (.ireturn, 1) := by decide +kernel
theorem dX9_resultOf_75 : decode cX9_resultOf 75 = .ok (.iload 5, 2) := by decide +kernel
theorem dX9_resultOf_77 : decode cX9_resultOf 77 = .ok (.iload 6, 2) := by decide +kernel
theorem dX9_resultOf_79 : decode cX9_resultOf 79 = .ok (.isub, 1) := by decide +kernel
theorem dX9_resultOf_80 : decode cX9_resultOf 80 = .ok (.ireturn, 1) := by decide +kernel
theorem dX9_resultOf_81 : decode cX9_resultOf 81 = .ok (.iload 5, 2) := by decide +kernel
theorem dX9_resultOf_83 : decode cX9_resultOf 83 = .ok (.iload 6, 2) := by decide +kernel
theorem dX9_resultOf_85 : decode cX9_resultOf 85 = .ok (.imul, 1) := by decide +kernel
theorem dX9_resultOf_86 : decode cX9_resultOf 86 = .ok (.ireturn, 1) := by decide +kernel
theorem dX9_resultOf_87 : decode cX9_resultOf 87 = .ok (.iload 5, 2) := by decide +kernel
theorem dX9_resultOf_89 : decode cX9_resultOf 89 = .ok (.iload_n 3, 1) := by decide +kernel
theorem dX9_resultOf_90 : decode cX9_resultOf 90 = .ok (.iadd, 1) := by decide +kernel
theorem dX9_resultOf_91 : decode cX9_resultOf 91 = .ok (.ireturn, 1) := by decide +kernel
theorem dX9_resultOf_92 : decode cX9_resultOf 92 = .ok (.iload 5, 2) := by decide +kernel
theorem dX9_resultOf_94 : decode cX9_resultOf 94 = .ok (.iload 6, 2) := by decide +kernel
theorem dX9_resultOf_96 : decode cX9_resultOf 96 = .ok (.imul, 1) := by decide +kernel
theorem dX9_resultOf_97 : decode cX9_resultOf 97 = .ok (.aload_n 0, 1) := by decide +kernel
theorem dX9_resultOf_98 : decode cX9_resultOf 98 = .ok (.getfield 23, 3) := by decide +kernel
theorem dX9_resultOf_101 : decode cX9_resultOf 101 = .ok (.iload 4, 2) := by decide +kernel
theorem dX9_resultOf_103 : decode cX9_resultOf 103 = .ok (.invokestatic 49, 3) := by decide +kernel
theorem dX9_resultOf_106 : decode cX9_resultOf 106 = .ok (.iadd, 1) := by decide +kernel
theorem dX9_resultOf_107 : decode cX9_resultOf 107 = .ok (.ireturn, 1) := by decide +kernel
theorem dX9_resultOf_108 : decode cX9_resultOf 108 = .ok (.aload_n 0, 1) := by decide +kernel
theorem dX9_resultOf_109 : decode cX9_resultOf 109 = .ok (.getfield 26, 3) := by decide +kernel
theorem dX9_resultOf_112 : decode cX9_resultOf 112 = .ok (.iload_n 2, 1) := by decide +kernel
theorem dX9_resultOf_113 : decode cX9_resultOf 113 = .ok (.invokestatic 49, 3) := by decide +kernel
theorem dX9_resultOf_116 : decode cX9_resultOf 116 = .ok (.ireturn, 1) := by decide +kernel
theorem dX9_performCall_0 : decode cX9_performCall 0 = .ok (.iconst 3, 1) := by decide +kernel
theorem dX9_performCall_1 : decode cX9_performCall 1 = .ok (.aload_n 0, 1) := by decide +kernel
theorem dX9_performCall_2 : decode cX9_performCall 2 = .ok (.getfield 23, 3) := by decide +kernel
theorem dX9_performCall_5 : decode cX9_performCall 5 = .ok (.iconst 0, 1) := by decide +kernel
theorem dX9_performCall_6 : decode cX9_performCall 6 = .ok (.invokestatic 49, 3) := by decide +kernel
theorem dX9_performCall_9 : decode cX9_performCall 9 = .ok (.imul, 1) := by decide +kernel
theorem dX9_performCall_10 : decode cX9_performCall 10 = .ok (.iconst 2, 1) := by decide +kernel
theorem dX9_performCall_11 : decode cX9_performCall 11 = .ok (.aload_n 0, 1) := by decide +kernel
theorem dX9_performCall_12 : decode cX9_performCall 12 = .ok (.getfield 23, 3) := by decide +kernel
theorem dX9_performCall_15 : decode cX9_performCall 15 = .ok (.iconst 1, 1) := by decide +kernel
theorem dX9_performCall_16 : decode cX9_performCall 16 = .ok (.invokestatic 49, 3) := by decide +kernel
theorem dX9_performCall_19 : decode cX9_performCall 19 = .ok (.imul, 1) := by decide +kernel
theorem dX9_performCall_20 : decode cX9_performCall 20 = .ok (.iadd, 1) := by decide +kernel
theorem dX9_performCall_21 : decode cX9_performCall 21 = .ok (.iconst 1, 1) := by decide +kernel
theorem dX9_performCall_22 : decode cX9_performCall 22 = .ok (.iadd, 1) := by decide +kernel
theorem dX9_performCall_23 : decode cX9_performCall 23 = .ok (.istore_n 1, 1) := by decide +kernel
theorem dX9_performCall_24 : decode cX9_performCall 24 = .ok (.iconst 1, 1) := by decide +kernel
theorem dX9_performCall_25 : decode cX9_performCall 25 = .ok (.istore_n 2, 1) := by decide +kernel
theorem dX9_performCall_26 : decode cX9_performCall 26 = .ok (.iload_n 2, 1) := by decide +kernel
theorem dX9_performCall_27 : decode cX9_performCall 27 = .ok (.aload_n 0, 1) := by decide +kernel
theorem dX9_performCall_28 : decode cX9_performCall 28 = .ok (.getfield 15, 3) := by decide +kernel
theorem dX9_performCall_31 : decode cX9_performCall 31 = .ok (.getfield 104, 3) := by decide +kernel
theorem dX9_performCall_34 : decode cX9_performCall 34 = .ok (.if_icmp .ge 45, 3) := by decide +kernel
theorem dX9_performCall_37 : decode cX9_performCall 37 = .ok (.aload_n 0, 1) := by decide +kernel
theorem dX9_performCall_38 : decode cX9_performCall 38 = .ok (.getfield 15, 3) := by decide +kernel
theorem dX9_performCall_41 : decode cX9_performCall 41 = .ok (.getfield 106, 3) := by decide +kernel
theorem dX9_performCall_44 : decode cX9_performCall 44 = .ok (.iload_n 2, 1) := by decide +kernel
theorem dX9_performCall_45 : decode cX9_performCall 45 = .ok (.invokestatic 109, 3) := by decide +kernel
theorem dX9_performCall_48 : decode cX9_performCall 48 = .ok (.ifCond .ne 25, 3) := by decide +kernel
theorem dX9_performCall_51 : decode cX9_performCall 51 = .ok (.aload_n 0, 1) := by decide +kernel
theorem dX9_performCall_52 : decode cX9_performCall 52 = .ok (.getfield 23, 3) := by decide +kernel
theorem dX9_performCall_55 : decode cX9_performCall 55 = .ok (.iload_n 2, 1) := by decide +kernel
theorem dX9_performCall_56 : decode cX9_performCall 56 = .ok (.ldc 113, 2) := by decide +kernel
theorem dX9_performCall_58 : decode cX9_performCall 58 = .ok (.invokestatic 89, 3) := by decide +kernel
theorem dX9_performCall_61 : decode cX9_performCall 61 = .ok (.aload_n 0, 1) := by decide +kernel
theorem dX9_performCall_62 : decode cX9_performCall 62 = .ok (.getfield 29, 3) := by decide +kernel
theorem dX9_performCall_65 : decode cX9_performCall 65 = .ok (.iload_n 2, 1) := by decide +kernel
theorem dX9_performCall_66 : decode cX9_performCall 66 = .ok (.aload_n 0, 1) := by decide +kernel
theorem dX9_performCall_67 : decode cX9_performCall 67 = .ok (.getfield 42, 3) := by decide +kernel
theorem dX9_performCall_70 : decode cX9_performCall 70 = .ok (.invokestatic 89, 3) := by decide +kernel
theorem dX9_performCall_73 : decode cX9_performCall 73 = .ok (.iinc 2 1, 3) := by decide +kernel
theorem dX9_performCall_76 : decode cX9_performCall 76 = .ok (.goto (-50), 3) := by decide +kernel
theorem dX9_performCall_79 : decode cX9_performCall 79 = .ok (.aload_n 0, 1) := by decide +kernel
theorem dX9_performCall_80 : decode cX9_performCall 80 = .ok (.getfield 23, 3) := by decide +kernel
theorem dX9_performCall_83 : decode cX9_performCall 83 = .ok (.iconst 0, 1) := by decide +kernel
theorem dX9_performCall_84 : decode cX9_performCall 84 = .ok (.iload_n 1, 1) := by decide +kernel
theorem dX9_performCall_85 : decode cX9_performCall 85 = .ok (.invokestatic 89, 3) := by decide +kernel
theorem dX9_performCall_88 : decode cX9_performCall 88 = .ok (.aload_n 0, 1) := by decide +kernel
theorem dX9_performCall_89 : decode cX9_performCall 89 = .ok (.getfield 29, 3) := by decide +kernel
theorem dX9_performCall_92 : decode cX9_performCall 92 = .ok (.iconst 0, 1) := by decide +kernel
theorem dX9_performCall_93 : decode cX9_performCall 93 = .ok (.aload_n 0, 1) := by decide +kernel
theorem dX9_performCall_94 : decode cX9_performCall 94 = .ok (.getfield 36, 3) := by decide +kernel
theorem dX9_performCall_97 : decode cX9_performCall 97 = .ok (.invokestatic 89, 3) := by decide +kernel
theorem dX9_performCall_100 : decode cX9_performCall 100 = .ok (.return_, 1) := by decide +kernel
theorem dX10_init_0 : decode cX10_init 0 = .ok (.aload_n 0, 1) := by decide +kernel
theorem dX10_init_1 : decode cX10_init 1 = .ok (.invokespecial 3, 3) := by decide +kernel
theorem dX10_init_4 : decode cX10_init 4 = .ok (.aload_n 0, 1) := by decide +kernel
theorem dX10_init_5 : decode cX10_init 5 = .ok (.aload_n 1, 1) := by decide +kernel
theorem dX10_init_6 : decode cX10_init 6 = .ok (.putfield 9, 3) := by decide +kernel
theorem dX10_init_9 : decode cX10_init 9 = .ok (.aload_n 0, 1) := by decide +kernel
theorem dX10_init_10 : decode cX10_init 10 = .ok (.new 15, 3) := by decide +kernel
theorem dX10_init_13 : decode cX10_init 13 = .ok (.dup, 1) := by decide +kernel
theorem dX10_init_14 : decode cX10_init 14 = .ok (.aload_n 2, 1) := by decide +kernel
theorem dX10_init_15 : decode cX10_init 15 = .ok (.invokespecial 17, 3) := by decide +kernel
theorem dX10_init_18 : decode cX10_init 18 = .ok (.putfield 20, 3) := by decide +kernel
theorem dX10_init_21 : decode cX10_init 21 = .ok (.aload_n 0, 1) := by decide +kernel
theorem dX10_init_22 : decode cX10_init 22 = .ok (.new 24, 3) := by decide +kernel
theorem dX10_init_25 : decode cX10_init 25 = .ok (.dup, 1) := by decide +kernel
theorem dX10_init_26 : decode cX10_init 26 = .ok (.aload_n 2, 1) := by decide +kernel
theorem dX10_init_27 : decode cX10_init 27 = .ok (.invokespecial 26, 3) := by decide +kernel
theorem dX10_init_30 : decode cX10_init 30 = .ok (.putfield 27, 3) := by decide +kernel
theorem dX10_init_33 : decode cX10_init 33 = .ok (.aload_n 0, 1) := by decide +kernel
theorem dX10_init_34 : decode cX10_init 34 = .ok (.new 31, 3) := by decide +kernel
theorem dX10_init_37 : decode cX10_init 37 = .ok (.dup, 1) := by decide +kernel
theorem dX10_init_38 : decode cX10_init 38 = .ok (.aload_n 1, 1) := by decide +kernel
theorem dX10_init_39 : decode cX10_init 39 = .ok (.aload_n 2, 1) := by decide +kernel
theorem dX10_init_40 : decode cX10_init 40 = .ok (.invokespecial 33, 3) := by decide +kernel
theorem dX10_init_43 : decode cX10_init 43 = .ok (.putfield 36, 3) := by decide +kernel
theorem dX10_init_46 : decode cX10_init 46 = .ok (.return_, 1) := by decide +kernel
theorem dX10_build_0 : decode cX10_build 0 = .ok (.aload_n 0, 1) := by decide +kernel
theorem dX10_build_1 : decode cX10_build 1 = .ok (.getfield 20, 3) := by decide +kernel
theorem dX10_build_4 : decode cX10_build 4 = .ok (.aload_n 1, 1) := by decide +kernel
theorem dX10_build_5 : decode cX10_build 5 = .ok (.getfield 40, 3) := by decide +kernel
theorem dX10_build_8 : decode cX10_build 8 = .ok (.aload_n 1, 1) := by decide +kernel
theorem dX10_build_9 : decode cX10_build 9 = .ok (.getfield 46, 3) := by decide +kernel
theorem dX10_build_12 : decode cX10_build 12 = .ok (.invokevirtual 50, 3) := by decide +kernel
theorem dX10_build_15 : decode cX10_build 15 = .ok (.aload_n 0, 1) := by decide +kernel
theorem dX10_build_16 : decode cX10_build 16 = .ok (.getfield 27, 3) := by decide +kernel
theorem dX10_build_19 : decode cX10_build 19 = .ok (.aload_n 1, 1) := by decide +kernel
theorem dX10_build_20 : decode cX10_build 20 = .ok (.getfield 40, 3) := by decide +kernel
theorem dX10_build_23 : decode cX10_build 23 = .ok (.aload_n 0, 1) := by decide +kernel
theorem dX10_build_24 : decode cX10_build 24 = .ok (.getfield 20, 3) := by decide +kernel
theorem dX10_build_27 : decode cX10_build 27 = .ok (.invokevirtual 54, 3) := by decide +kernel
theorem dX10_build_30 : decode cX10_build 30 = .ok (.aload_n 0, 1) := by decide +kernel
theorem dX10_build_31 : decode cX10_build 31 = .ok (.getfield 36, 3) := by decide +kernel
theorem dX10_build_34 : decode cX10_build 34 = .ok (.aload_n 0, 1) := by decide +kernel
theorem dX10_build_35 : decode cX10_build 35 = .ok (.getfield 27, 3) := by decide +kernel
theorem dX10_build_38 : decode cX10_build 38 = .ok (.aload_n 1, 1) := by decide +kernel
theorem dX10_build_39 : decode cX10_build 39 = .ok (.getfield 58, 3) := by decide +kernel
theorem dX10_build_42 : decode cX10_build 42 = .ok (.invokevirtual 62, 3) := by decide +kernel
theorem dX10_build_45 : decode cX10_build 45 = .ok (.return_, 1) := by decide +kernel
theorem dX10_tellLine_0 : decode cX10_tellLine 0 = .ok (.iload_n 3, 1) := by decide +kernel
theorem dX10_tellLine_1 : decode cX10_tellLine 1 = .ok (.tableswitch 92 0 7 #[47, 56, 92, 92, 92, 65, 74, 83], 47) := by decide +kernel
theorem dX10_tellLine_48 : decode cX10_tellLine 48 = .ok (.aload_n 1, 1) := by decide +kernel
theorem dX10_tellLine_49 : decode cX10_tellLine 49 = .ok (.getfield 40, 3) := by decide +kernel
theorem dX10_tellLine_52 : decode cX10_tellLine 52 = .ok (.iload_n 2, 1) := by decide +kernel
theorem dX10_tellLine_53 : decode cX10_tellLine 53 = .ok (.invokevirtual 66, 3) := by decide +kernel
theorem dX10_tellLine_56 : decode cX10_tellLine 56 = .ok (.ireturn, 1) := by decide +kernel
theorem dX10_tellLine_57 : decode cX10_tellLine 57 = .ok (.aload_n 1, 1) := by decide +kernel
theorem dX10_tellLine_58 : decode cX10_tellLine 58 = .ok (.getfield 40, 3) := by decide +kernel
theorem dX10_tellLine_61 : decode cX10_tellLine 61 = .ok (.iload_n 2, 1) := by decide +kernel
theorem dX10_tellLine_62 : decode cX10_tellLine 62 = .ok (.invokevirtual 72, 3) := by decide +kernel
theorem dX10_tellLine_65 : decode cX10_tellLine 65 = .ok (.ireturn, 1) := by decide +kernel
theorem dX10_tellLine_66 : decode cX10_tellLine 66 = .ok (.aload_n 1, 1) := by decide +kernel
theorem dX10_tellLine_67 : decode cX10_tellLine 67 = .ok (.getfield 40, 3) := by decide +kernel
theorem dX10_tellLine_70 : decode cX10_tellLine 70 = .ok (.iload_n 2, 1) := by decide +kernel
theorem dX10_tellLine_71 : decode cX10_tellLine 71 = .ok (.invokevirtual 75, 3) := by decide +kernel
theorem dX10_tellLine_74 : decode cX10_tellLine 74 = .ok (.ireturn, 1) := by decide +kernel
theorem dX10_tellLine_75 : decode cX10_tellLine 75 = .ok (.aload_n 1, 1) := by decide +kernel
theorem dX10_tellLine_76 : decode cX10_tellLine 76 = .ok (.getfield 40, 3) := by decide +kernel
theorem dX10_tellLine_79 : decode cX10_tellLine 79 = .ok (.iload_n 2, 1) := by decide +kernel
theorem dX10_tellLine_80 : decode cX10_tellLine 80 = .ok (.invokevirtual 78, 3) := by decide +kernel
theorem dX10_tellLine_83 : decode cX10_tellLine 83 = .ok (.ireturn, 1) := by decide +kernel
theorem dX10_tellLine_84 : decode cX10_tellLine 84 = .ok (.aload_n 1, 1) := by decide +kernel
theorem dX10_tellLine_85 : decode cX10_tellLine 85 = .ok (.getfield 40, 3) := by decide +kernel
theorem dX10_tellLine_88 : decode cX10_tellLine 88 = .ok (.iload_n 2, 1) := by decide +kernel
theorem dX10_tellLine_89 : decode cX10_tellLine 89 = .ok (.invokevirtual 81, 3) := by decide +kernel
theorem dX10_tellLine_92 : decode cX10_tellLine 92 = .ok (.ireturn, 1) := by decide +kernel
theorem dX10_tellLine_93 : decode cX10_tellLine 93 = .ok (.aload_n 1, 1) := by decide +kernel
theorem dX10_tellLine_94 : decode cX10_tellLine 94 = .ok (.getfield 40, 3) := by decide +kernel
theorem dX10_tellLine_97 : decode cX10_tellLine 97 = .ok (.iload_n 2, 1) := by decide +kernel
theorem dX10_tellLine_98 : decode cX10_tellLine 98 = .ok (.iload_n 3, 1) := by decide +kernel
theorem dX10_tellLine_99 : decode cX10_tellLine 99 = .ok (.iconst 2, 1) := by decide +kernel
theorem dX10_tellLine_100 : decode cX10_tellLine 100 = .ok (.isub, 1) := by decide +kernel
theorem dX10_tellLine_101 : decode cX10_tellLine 101 = .ok (.invokevirtual 84, 3) := by decide +kernel
theorem dX10_tellLine_104 : decode cX10_tellLine 104 = .ok (.ireturn, 1) := by decide +kernel
theorem dX10_tellValue_0 : decode cX10_tellValue 0 = .ok (.iload_n 3, 1) := by decide +kernel
theorem dX10_tellValue_1 : decode cX10_tellValue 1 = .ok (.tableswitch 114 0 6 #[43, 52, 61, 70, 79, 88, 105], 43) := by decide +kernel
theorem dX10_tellValue_44 : decode cX10_tellValue 44 = .ok (.aload_n 1, 1) := by decide +kernel
theorem dX10_tellValue_45 : decode cX10_tellValue 45 = .ok (.getfield 46, 3) := by decide +kernel
theorem dX10_tellValue_48 : decode cX10_tellValue 48 = .ok (.iload_n 2, 1) := by decide +kernel
theorem dX10_tellValue_49 : decode cX10_tellValue 49 = .ok (.invokevirtual 88, 3) := by decide +kernel
theorem dX10_tellValue_52 : decode cX10_tellValue 52 = .ok (.ireturn, 1) := by decide +kernel
theorem dX10_tellValue_53 : decode cX10_tellValue 53 = .ok (.aload_n 1, 1) := by decide +kernel
theorem dX10_tellValue_54 : decode cX10_tellValue 54 = .ok (.getfield 46, 3) := by decide +kernel
theorem dX10_tellValue_57 : decode cX10_tellValue 57 = .ok (.iload_n 2, 1) := by decide +kernel
theorem dX10_tellValue_58 : decode cX10_tellValue 58 = .ok (.invokevirtual 93, 3) := by decide +kernel
theorem dX10_tellValue_61 : decode cX10_tellValue 61 = .ok (.ireturn, 1) := by decide +kernel
theorem dX10_tellValue_62 : decode cX10_tellValue 62 = .ok (.aload_n 1, 1) := by decide +kernel
theorem dX10_tellValue_63 : decode cX10_tellValue 63 = .ok (.getfield 46, 3) := by decide +kernel
theorem dX10_tellValue_66 : decode cX10_tellValue 66 = .ok (.iload_n 2, 1) := by decide +kernel
theorem dX10_tellValue_67 : decode cX10_tellValue 67 = .ok (.invokevirtual 96, 3) := by decide +kernel
theorem dX10_tellValue_70 : decode cX10_tellValue 70 = .ok (.ireturn, 1) := by decide +kernel
theorem dX10_tellValue_71 : decode cX10_tellValue 71 = .ok (.aload_n 0, 1) := by decide +kernel
theorem dX10_tellValue_72 : decode cX10_tellValue 72 = .ok (.getfield 20, 3) := by decide +kernel
theorem dX10_tellValue_75 : decode cX10_tellValue 75 = .ok (.iload_n 2, 1) := by decide +kernel
theorem dX10_tellValue_76 : decode cX10_tellValue 76 = .ok (.invokevirtual 99, 3) := by decide +kernel
theorem dX10_tellValue_79 : decode cX10_tellValue 79 = .ok (.ireturn, 1) := by decide +kernel
theorem dX10_tellValue_80 : decode cX10_tellValue 80 = .ok (.aload_n 0, 1) := by decide +kernel
theorem dX10_tellValue_81 : decode cX10_tellValue 81 = .ok (.getfield 20, 3) := by decide +kernel
theorem dX10_tellValue_84 : decode cX10_tellValue 84 = .ok (.iload_n 2, 1) := by decide +kernel
theorem dX10_tellValue_85 : decode cX10_tellValue 85 = .ok (.invokevirtual 102, 3) := by decide +kernel
theorem dX10_tellValue_88 : decode cX10_tellValue 88 = .ok (.ireturn, 1) := by decide +kernel
theorem dX10_tellValue_89 : decode cX10_tellValue 89 = .ok (.aload_n 0, 1) := by decide +kernel
theorem dX10_tellValue_90 : decode cX10_tellValue 90 = .ok (.getfield 20, 3) := by decide +kernel
theorem dX10_tellValue_93 : decode cX10_tellValue 93 = .ok (.iload_n 2, 1) := by decide +kernel
theorem dX10_tellValue_94 : decode cX10_tellValue 94 = .ok (.invokevirtual 105, 3) := by decide +kernel
theorem dX10_tellValue_97 : decode cX10_tellValue 97 = .ok (.ifCond .eq 7, 3) := by decide +kernel
theorem dX10_tellValue_100 : decode cX10_tellValue 100 = .ok (.iconst 1, 1) := by decide +kernel
theorem dX10_tellValue_101 : decode cX10_tellValue 101 = .ok (.goto 4, 3) := by decide +kernel
theorem dX10_tellValue_104 : decode cX10_tellValue 104 = .ok (.iconst 0, 1) := by decide +kernel
theorem dX10_tellValue_105 : decode cX10_tellValue 105 = .ok (.ireturn, 1) := by decide +kernel
theorem dX10_tellValue_106 : decode cX10_tellValue 106 = .ok (.aload_n 1, 1) := by decide +kernel
theorem dX10_tellValue_107 : decode cX10_tellValue 107 = .ok (.getfield 46, 3) := by decide +kernel
theorem dX10_tellValue_110 : decode cX10_tellValue 110 = .ok (.iload_n 2, 1) := by decide +kernel
theorem dX10_tellValue_111 : decode cX10_tellValue 111 = .ok (.invokevirtual 109, 3) := by decide +kernel
theorem dX10_tellValue_114 : decode cX10_tellValue 114 = .ok (.ireturn, 1) := by decide +kernel
theorem dX10_tellValue_115 : decode cX10_tellValue 115 = .ok (.aload_n 1, 1) := by decide +kernel
theorem dX10_tellValue_116 : decode cX10_tellValue 116 = .ok (.getfield 46, 3) := by decide +kernel
theorem dX10_tellValue_119 : decode cX10_tellValue 119 = .ok (.iload_n 2, 1) := by decide +kernel
theorem dX10_tellValue_120 : decode cX10_tellValue 120 = .ok (.invokevirtual 112, 3) := by decide +kernel
theorem dX10_tellValue_123 : decode cX10_tellValue 123 = .ok (.ireturn, 1) := by decide +kernel
theorem dX10_tellCall_0 : decode cX10_tellCall 0 = .ok (.aload_n 1, 1) := by decide +kernel
theorem dX10_tellCall_1 : decode cX10_tellCall 1 = .ok (.getfield 46, 3) := by decide +kernel
theorem dX10_tellCall_4 : decode cX10_tellCall 4 = .ok (.iload_n 2, 1) := by decide +kernel
theorem dX10_tellCall_5 : decode cX10_tellCall 5 = .ok (.invokevirtual 115, 3) := by decide +kernel
theorem dX10_tellCall_8 : decode cX10_tellCall 8 = .ok (.istore 4, 2) := by decide +kernel
theorem dX10_tellCall_10 : decode cX10_tellCall 10 = .ok (.iload_n 3, 1) := by decide +kernel
theorem dX10_tellCall_11 : decode cX10_tellCall 11 = .ok (.ifCond .ne 6, 3) := by decide +kernel
theorem dX10_tellCall_14 : decode cX10_tellCall 14 = .ok (.iload 4, 2) := by decide +kernel
theorem dX10_tellCall_16 : decode cX10_tellCall 16 = .ok (.ireturn, 1) := by decide +kernel
theorem dX10_tellCall_17 : decode cX10_tellCall 17 = .ok (.iconst 0, 1) := by decide +kernel
theorem dX10_tellCall_18 : decode cX10_tellCall 18 = .ok (.istore 5, 2) := by decide +kernel
theorem dX10_tellCall_20 : decode cX10_tellCall 20 = .ok (.iconst 0, 1) := by decide +kernel
theorem dX10_tellCall_21 : decode cX10_tellCall 21 = .ok (.istore 6, 2) := by decide +kernel
theorem dX10_tellCall_23 : decode cX10_tellCall 23 = .ok (.iconst 0, 1) := by decide +kernel
theorem dX10_tellCall_24 : decode cX10_tellCall 24 = .ok (.istore 7, 2) := by decide +kernel
theorem dX10_tellCall_26 : decode cX10_tellCall 26 = .ok (.iconst 0, 1) := by decide +kernel
theorem dX10_tellCall_27 : decode cX10_tellCall 27 = .ok (.istore 8, 2) := by decide +kernel
theorem dX10_tellCall_29 : decode cX10_tellCall 29 = .ok (.iload 8, 2) := by decide +kernel
theorem dX10_tellCall_31 : decode cX10_tellCall 31 = .ok (.aload_n 1, 1) := by decide +kernel
theorem dX10_tellCall_32 : decode cX10_tellCall 32 = .ok (.getfield 46, 3) := by decide +kernel
theorem dX10_tellCall_35 : decode cX10_tellCall 35 = .ok (.getfield 118, 3) := by decide +kernel
theorem dX10_tellCall_38 : decode cX10_tellCall 38 = .ok (.if_icmp .ge 79, 3) := by decide +kernel
theorem dX10_tellCall_41 : decode cX10_tellCall 41 = .ok (.aload_n 1, 1) := by decide +kernel
theorem dX10_tellCall_42 : decode cX10_tellCall 42 = .ok (.getfield 46, 3) := by decide +kernel
theorem dX10_tellCall_45 : decode cX10_tellCall 45 = .ok (.iload 8, 2) := by decide +kernel
theorem dX10_tellCall_47 : decode cX10_tellCall 47 = .ok (.iload 4, 2) := by decide +kernel
theorem dX10_tellCall_49 : decode cX10_tellCall 49 = .ok (.invokevirtual 122, 3) := by decide +kernel
theorem dX10_tellCall_52 : decode cX10_tellCall 52 = .ok (.ifCond .eq 59, 3) := by decide +kernel
theorem dX10_tellCall_55 : decode cX10_tellCall 55 = .ok (.iload 5, 2) := by decide +kernel
theorem dX10_tellCall_57 : decode cX10_tellCall 57 = .ok (.aload_n 0, 1) := by decide +kernel
theorem dX10_tellCall_58 : decode cX10_tellCall 58 = .ok (.getfield 20, 3) := by decide +kernel
theorem dX10_tellCall_61 : decode cX10_tellCall 61 = .ok (.iload 8, 2) := by decide +kernel
theorem dX10_tellCall_63 : decode cX10_tellCall 63 = .ok (.invokevirtual 99, 3) := by decide +kernel
theorem dX10_tellCall_66 : decode cX10_tellCall 66 = .ok (.invokestatic 126, 3) := by decide +kernel
theorem dX10_tellCall_69 : decode cX10_tellCall 69 = .ok (.ior, 1) := by decide +kernel
theorem dX10_tellCall_70 : decode cX10_tellCall 70 = .ok (.istore 5, 2) := by decide +kernel
theorem dX10_tellCall_72 : decode cX10_tellCall 72 = .ok (.iload 6, 2) := by decide +kernel
theorem dX10_tellCall_74 : decode cX10_tellCall 74 = .ok (.aload_n 0, 1) := by decide +kernel
theorem dX10_tellCall_75 : decode cX10_tellCall 75 = .ok (.getfield 20, 3) := by decide +kernel
theorem dX10_tellCall_78 : decode cX10_tellCall 78 = .ok (.iload 8, 2) := by decide +kernel
theorem dX10_tellCall_80 : decode cX10_tellCall 80 = .ok (.invokevirtual 102, 3) := by decide +kernel
theorem dX10_tellCall_83 : decode cX10_tellCall 83 = .ok (.invokestatic 126, 3) := by decide +kernel
theorem dX10_tellCall_86 : decode cX10_tellCall 86 = .ok (.ior, 1) := by decide +kernel
theorem dX10_tellCall_87 : decode cX10_tellCall 87 = .ok (.istore 6, 2) := by decide +kernel
theorem dX10_tellCall_89 : decode cX10_tellCall 89 = .ok (.iload 7, 2) := by decide +kernel
theorem dX10_tellCall_91 : decode cX10_tellCall 91 = .ok (.aload_n 0, 1) := by decide +kernel
theorem dX10_tellCall_92 : decode cX10_tellCall 92 = .ok (.getfield 20, 3) := by decide +kernel
theorem dX10_tellCall_95 : decode cX10_tellCall 95 = .ok (.iload 8, 2) := by decide +kernel
theorem dX10_tellCall_97 : decode cX10_tellCall 97 = .ok (.invokevirtual 105, 3) := by decide +kernel
theorem dX10_tellCall_100 : decode cX10_tellCall 100 = .ok (.ifCond .eq 7, 3) := by decide +kernel
theorem dX10_tellCall_103 : decode cX10_tellCall 103 = .ok (.iconst 1, 1) := by decide +kernel
theorem dX10_tellCall_104 : decode cX10_tellCall 104 = .ok (.goto 4, 3) := by decide +kernel
theorem dX10_tellCall_107 : decode cX10_tellCall 107 = .ok (.iconst 0, 1) := by decide +kernel
theorem dX10_tellCall_108 : decode cX10_tellCall 108 = .ok (.iadd, 1) := by decide +kernel
theorem dX10_tellCall_109 : decode cX10_tellCall 109 = .ok (.istore 7, 2) := by decide +kernel
theorem dX10_tellCall_111 : decode cX10_tellCall 111 = .ok (.iinc 8 1, 3) := by decide +kernel
theorem dX10_tellCall_114 : decode cX10_tellCall 114 = .ok (.goto (-85), 3) := by decide +kernel
theorem dX10_tellCall_117 : decode cX10_tellCall 117 = .ok (.iload_n 3, 1) := by decide +kernel
theorem dX10_tellCall_118 : decode cX10_tellCall 118 = .ok (.iconst 1, 1) := by decide +kernel
theorem dX10_tellCall_119 : decode cX10_tellCall 119 = .ok (.if_icmp .ne 6, 3) := by decide +kernel
theorem dX10_tellCall_122 : decode cX10_tellCall 122 = .ok (.iload 5, 2) := by decide +kernel
theorem dX10_tellCall_124 : decode cX10_tellCall 124 = .ok (.ireturn, 1) := by decide +kernel
theorem dX10_tellCall_125 : decode cX10_tellCall 125 = .ok (.iload_n 3, 1) := by decide +kernel
theorem dX10_tellCall_126 : decode cX10_tellCall 126 = .ok (.iconst 2, 1) := by decide +kernel
theorem dX10_tellCall_127 : decode cX10_tellCall 127 = .ok (.if_icmp .ne 8, 3) := by decide +kernel
theorem dX10_tellCall_130 : decode cX10_tellCall 130 = .ok (.iload 6, 2) := by decide +kernel
theorem dX10_tellCall_132 : decode cX10_tellCall 132 = .ok (.goto 5, 3) := by decide +kernel
theorem dX10_tellCall_135 : decode cX10_tellCall 135 = .ok (.iload 7, 2) := by decide +kernel
theorem dX10_tellCall_137 : decode cX10_tellCall 137 = .ok (.ireturn, 1) := by decide +kernel
theorem dX10_tellAnswer_0 : decode cX10_tellAnswer 0 = .ok (.aload_n 1, 1) := by decide +kernel
theorem dX10_tellAnswer_1 : decode cX10_tellAnswer 1 = .ok (.getfield 46, 3) := by decide +kernel
theorem dX10_tellAnswer_4 : decode cX10_tellAnswer 4 = .ok (.iload_n 2, 1) := by decide +kernel
theorem dX10_tellAnswer_5 : decode cX10_tellAnswer 5 = .ok (.invokevirtual 129, 3) := by decide +kernel
theorem dX10_tellAnswer_8 : decode cX10_tellAnswer 8 = .ok (.ifCond .ne 5, 3) := by decide +kernel
theorem dX10_tellAnswer_11 : decode cX10_tellAnswer 11 = .ok (.iconst 0, 1) := by decide +kernel
theorem dX10_tellAnswer_12 : decode cX10_tellAnswer 12 = .ok (.ireturn, 1) := by decide +kernel
theorem dX10_tellAnswer_13 : decode cX10_tellAnswer 13 = .ok (.aload_n 0, 1) := by decide +kernel
theorem dX10_tellAnswer_14 : decode cX10_tellAnswer 14 = .ok (.getfield 20, 3) := by decide +kernel
theorem dX10_tellAnswer_17 : decode cX10_tellAnswer 17 = .ok (.iload_n 2, 1) := by decide +kernel
theorem dX10_tellAnswer_18 : decode cX10_tellAnswer 18 = .ok (.invokevirtual 105, 3) := by decide +kernel
theorem dX10_tellAnswer_21 : decode cX10_tellAnswer 21 = .ok (.ifCond .eq 12, 3) := by decide +kernel
theorem dX10_tellAnswer_24 : decode cX10_tellAnswer 24 = .ok (.aload_n 0, 1) := by decide +kernel
theorem dX10_tellAnswer_25 : decode cX10_tellAnswer 25 = .ok (.getfield 20, 3) := by decide +kernel
theorem dX10_tellAnswer_28 : decode cX10_tellAnswer 28 = .ok (.iload_n 2, 1) := by decide +kernel
theorem dX10_tellAnswer_29 : decode cX10_tellAnswer 29 = .ok (.invokevirtual 132, 3) := by decide +kernel
theorem dX10_tellAnswer_32 : decode cX10_tellAnswer 32 = .ok (.ireturn, 1) := by decide +kernel
theorem dX10_tellAnswer_33 : decode cX10_tellAnswer 33 = .ok (.aload_n 0, 1) := by decide +kernel
theorem dX10_tellAnswer_34 : decode cX10_tellAnswer 34 = .ok (.getfield 20, 3) := by decide +kernel
theorem dX10_tellAnswer_37 : decode cX10_tellAnswer 37 = .ok (.iload_n 2, 1) := by decide +kernel
theorem dX10_tellAnswer_38 : decode cX10_tellAnswer 38 = .ok (.invokevirtual 133, 3) := by decide +kernel
theorem dX10_tellAnswer_41 : decode cX10_tellAnswer 41 = .ok (.ifCond .eq 24, 3) := by decide +kernel
theorem dX10_tellAnswer_44 : decode cX10_tellAnswer 44 = .ok (.aload_n 0, 1) := by decide +kernel
theorem dX10_tellAnswer_45 : decode cX10_tellAnswer 45 = .ok (.getfield 36, 3) := by decide +kernel
theorem dX10_tellAnswer_48 : decode cX10_tellAnswer 48 = .ok (.getfield 136, 3) := by decide +kernel
theorem dX10_tellAnswer_51 : decode cX10_tellAnswer 51 = .ok (.aload_n 0, 1) := by decide +kernel
theorem dX10_tellAnswer_52 : decode cX10_tellAnswer 52 = .ok (.getfield 20, 3) := by decide +kernel
theorem dX10_tellAnswer_55 : decode cX10_tellAnswer 55 = .ok (.iload_n 2, 1) := by decide +kernel
theorem dX10_tellAnswer_56 : decode cX10_tellAnswer 56 = .ok (.invokevirtual 102, 3) := by decide +kernel
theorem dX10_tellAnswer_59 : decode cX10_tellAnswer 59 = .ok (.invokestatic 139, 3) := by decide +kernel
theorem dX10_tellAnswer_62 : decode cX10_tellAnswer 62 = .ok (.goto 21, 3) := by decide +kernel
theorem dX10_tellAnswer_65 : decode cX10_tellAnswer 65 = .ok (.aload_n 0, 1) := by decide +kernel
theorem dX10_tellAnswer_66 : decode cX10_tellAnswer 66 = .ok (.getfield 36, 3) := by decide +kernel
theorem dX10_tellAnswer_69 : decode cX10_tellAnswer 69 = .ok (.getfield 143, 3) := by decide +kernel
theorem dX10_tellAnswer_72 : decode cX10_tellAnswer 72 = .ok (.aload_n 0, 1) := by decide +kernel
theorem dX10_tellAnswer_73 : decode cX10_tellAnswer 73 = .ok (.getfield 20, 3) := by decide +kernel
theorem dX10_tellAnswer_76 : decode cX10_tellAnswer 76 = .ok (.iload_n 2, 1) := by decide +kernel
theorem dX10_tellAnswer_77 : decode cX10_tellAnswer 77 = .ok (.invokevirtual 99, 3) := by decide +kernel
theorem dX10_tellAnswer_80 : decode cX10_tellAnswer 80 = .ok (.invokestatic 139, 3) := by decide +kernel
theorem dX10_tellAnswer_83 : decode cX10_tellAnswer 83 = .ok (.ireturn, 1) := by decide +kernel
theorem dX10_tellMany_0 : decode cX10_tellMany 0 = .ok (.iload_n 2, 1) := by decide +kernel
theorem dX10_tellMany_1 : decode cX10_tellMany 1 = .ok (.tableswitch 208 0 14 #[75, 83, 91, 99, 107, 115, 123, 131, 139, 147, 155, 164, 184, 192, 200], 75) := by decide +kernel
theorem dX10_tellMany_76 : decode cX10_tellMany 76 = .ok (.aload_n 0, 1) := by decide +kernel
theorem dX10_tellMany_77 : decode cX10_tellMany 77 = .ok (.getfield 9, 3) := by decide +kernel
theorem dX10_tellMany_80 : decode cX10_tellMany 80 = .ok (.getfield 146, 3) := by decide +kernel
theorem dX10_tellMany_83 : decode cX10_tellMany 83 = .ok (.ireturn, 1) := by decide +kernel
theorem dX10_tellMany_84 : decode cX10_tellMany 84 = .ok (.aload_n 0, 1) := by decide +kernel
theorem dX10_tellMany_85 : decode cX10_tellMany 85 = .ok (.getfield 9, 3) := by decide +kernel
theorem dX10_tellMany_88 : decode cX10_tellMany 88 = .ok (.invokevirtual 151, 3) := by decide +kernel
theorem dX10_tellMany_91 : decode cX10_tellMany 91 = .ok (.ireturn, 1) := by decide +kernel
theorem dX10_tellMany_92 : decode cX10_tellMany 92 = .ok (.aload_n 0, 1) := by decide +kernel
theorem dX10_tellMany_93 : decode cX10_tellMany 93 = .ok (.getfield 9, 3) := by decide +kernel
theorem dX10_tellMany_96 : decode cX10_tellMany 96 = .ok (.getfield 155, 3) := by decide +kernel
theorem dX10_tellMany_99 : decode cX10_tellMany 99 = .ok (.ireturn, 1) := by decide +kernel
theorem dX10_tellMany_100 : decode cX10_tellMany 100 = .ok (.aload_n 1, 1) := by decide +kernel
theorem dX10_tellMany_101 : decode cX10_tellMany 101 = .ok (.getfield 40, 3) := by decide +kernel
theorem dX10_tellMany_104 : decode cX10_tellMany 104 = .ok (.getfield 158, 3) := by decide +kernel
theorem dX10_tellMany_107 : decode cX10_tellMany 107 = .ok (.ireturn, 1) := by decide +kernel
theorem dX10_tellMany_108 : decode cX10_tellMany 108 = .ok (.aload_n 1, 1) := by decide +kernel
theorem dX10_tellMany_109 : decode cX10_tellMany 109 = .ok (.getfield 46, 3) := by decide +kernel
theorem dX10_tellMany_112 : decode cX10_tellMany 112 = .ok (.getfield 161, 3) := by decide +kernel
theorem dX10_tellMany_115 : decode cX10_tellMany 115 = .ok (.ireturn, 1) := by decide +kernel
theorem dX10_tellMany_116 : decode cX10_tellMany 116 = .ok (.aload_n 0, 1) := by decide +kernel
theorem dX10_tellMany_117 : decode cX10_tellMany 117 = .ok (.getfield 20, 3) := by decide +kernel
theorem dX10_tellMany_120 : decode cX10_tellMany 120 = .ok (.getfield 164, 3) := by decide +kernel
theorem dX10_tellMany_123 : decode cX10_tellMany 123 = .ok (.ireturn, 1) := by decide +kernel
theorem dX10_tellMany_124 : decode cX10_tellMany 124 = .ok (.aload_n 0, 1) := by decide +kernel
theorem dX10_tellMany_125 : decode cX10_tellMany 125 = .ok (.getfield 20, 3) := by decide +kernel
theorem dX10_tellMany_128 : decode cX10_tellMany 128 = .ok (.getfield 167, 3) := by decide +kernel
theorem dX10_tellMany_131 : decode cX10_tellMany 131 = .ok (.ireturn, 1) := by decide +kernel
theorem dX10_tellMany_132 : decode cX10_tellMany 132 = .ok (.aload_n 0, 1) := by decide +kernel
theorem dX10_tellMany_133 : decode cX10_tellMany 133 = .ok (.getfield 20, 3) := by decide +kernel
theorem dX10_tellMany_136 : decode cX10_tellMany 136 = .ok (.getfield 170, 3) := by decide +kernel
theorem dX10_tellMany_139 : decode cX10_tellMany 139 = .ok (.ireturn, 1) := by decide +kernel
theorem dX10_tellMany_140 : decode cX10_tellMany 140 = .ok (.aload_n 0, 1) := by decide +kernel
theorem dX10_tellMany_141 : decode cX10_tellMany 141 = .ok (.getfield 20, 3) := by decide +kernel
theorem dX10_tellMany_144 : decode cX10_tellMany 144 = .ok (.getfield 173, 3) := by decide +kernel
theorem dX10_tellMany_147 : decode cX10_tellMany 147 = .ok (.ireturn, 1) := by decide +kernel
theorem dX10_tellMany_148 : decode cX10_tellMany 148 = .ok (.aload_n 0, 1) := by decide +kernel
theorem dX10_tellMany_149 : decode cX10_tellMany 149 = .ok (.getfield 27, 3) := by decide +kernel
theorem dX10_tellMany_152 : decode cX10_tellMany 152 = .ok (.getfield 176, 3) := by decide +kernel
theorem dX10_tellMany_155 : decode cX10_tellMany 155 = .ok (.ireturn, 1) := by decide +kernel
theorem dX10_tellMany_156 : decode cX10_tellMany 156 = .ok (.aload_n 0, 1) := by decide +kernel
theorem dX10_tellMany_157 : decode cX10_tellMany 157 = .ok (.getfield 27, 3) := by decide +kernel
theorem dX10_tellMany_160 : decode cX10_tellMany 160 = .ok (.iconst 1, 1) := by decide +kernel
theorem dX10_tellMany_161 : decode cX10_tellMany 161 = .ok (.invokevirtual 179, 3) := by decide +kernel
theorem dX10_tellMany_164 : decode cX10_tellMany 164 = .ok (.ireturn, 1) := by decide +kernel
theorem dX10_tellMany_165 : decode cX10_tellMany 165 = .ok (.aload_n 0, 1) := by decide +kernel
theorem dX10_tellMany_166 : decode cX10_tellMany 166 = .ok (.getfield 27, 3) := by decide +kernel
theorem dX10_tellMany_169 : decode cX10_tellMany 169 = .ok (.bipush 7, 2) := by decide +kernel
theorem dX10_tellMany_171 : decode cX10_tellMany 171 = .ok (.invokevirtual 179, 3) := by decide +kernel
theorem dX10_tellMany_174 : decode cX10_tellMany 174 = .ok (.aload_n 0, 1) := by decide +kernel
theorem dX10_tellMany_175 : decode cX10_tellMany 175 = .ok (.getfield 27, 3) := by decide +kernel
theorem dX10_tellMany_178 : decode cX10_tellMany 178 = .ok (.bipush 8, 2) := by decide +kernel
theorem dX10_tellMany_180 : decode cX10_tellMany 180 = .ok (.invokevirtual 179, 3) := by decide +kernel
theorem dX10_tellMany_183 : decode cX10_tellMany 183 = .ok (.iadd, 1) := by decide +kernel
theorem dX10_tellMany_184 : decode cX10_tellMany 184 = .ok (.ireturn, 1) := by decide +kernel
theorem dX10_tellMany_185 : decode cX10_tellMany 185 = .ok (.aload_n 0, 1) := by decide +kernel
theorem dX10_tellMany_186 : decode cX10_tellMany 186 = .ok (.getfield 36, 3) := by decide +kernel
theorem dX10_tellMany_189 : decode cX10_tellMany 189 = .ok (.getfield 182, 3) := by decide +kernel
theorem dX10_tellMany_192 : decode cX10_tellMany 192 = .ok (.ireturn, 1) := by decide +kernel
theorem dX10_tellMany_193 : decode cX10_tellMany 193 = .ok (.aload_n 0, 1) := by decide +kernel
theorem dX10_tellMany_194 : decode cX10_tellMany 194 = .ok (.getfield 36, 3) := by decide +kernel
theorem dX10_tellMany_197 : decode cX10_tellMany 197 = .ok (.getfield 185, 3) := by decide +kernel
theorem dX10_tellMany_200 : decode cX10_tellMany 200 = .ok (.ireturn, 1) := by decide +kernel
theorem dX10_tellMany_201 : decode cX10_tellMany 201 = .ok (.aload_n 0, 1) := by decide +kernel
theorem dX10_tellMany_202 : decode cX10_tellMany 202 = .ok (.getfield 36, 3) := by decide +kernel
theorem dX10_tellMany_205 : decode cX10_tellMany 205 = .ok (.getfield 188, 3) := by decide +kernel
theorem dX10_tellMany_208 : decode cX10_tellMany 208 = .ok (.ireturn, 1) := by decide +kernel
theorem dX10_tellMany_209 : decode cX10_tellMany 209 = .ok (.aload_n 1, 1) := by decide +kernel
theorem dX10_tellMany_210 : decode cX10_tellMany 210 = .ok (.getfield 46, 3) := by decide +kernel
theorem dX10_tellMany_213 : decode cX10_tellMany 213 = .ok (.aload_n 1, 1) := by decide +kernel
theorem dX10_tellMany_214 : decode cX10_tellMany 214 = .ok (.getfield 40, 3) := by decide +kernel
theorem dX10_tellMany_217 : decode cX10_tellMany 217 = .ok (.getfield 158, 3) := by decide +kernel
theorem dX10_tellMany_220 : decode cX10_tellMany 220 = .ok (.invokevirtual 191, 3) := by decide +kernel
theorem dX10_tellMany_223 : decode cX10_tellMany 223 = .ok (.ireturn, 1) := by decide +kernel
theorem dX11_init_0 : decode cX11_init 0 = .ok (.aload_n 0, 1) := by decide +kernel
theorem dX11_init_1 : decode cX11_init 1 = .ok (.invokespecial 3, 3) := by decide +kernel
theorem dX11_init_4 : decode cX11_init 4 = .ok (.aload_n 0, 1) := by decide +kernel
theorem dX11_init_5 : decode cX11_init 5 = .ok (.new 9, 3) := by decide +kernel
theorem dX11_init_8 : decode cX11_init 8 = .ok (.dup, 1) := by decide +kernel
theorem dX11_init_9 : decode cX11_init 9 = .ok (.invokespecial 11, 3) := by decide +kernel
theorem dX11_init_12 : decode cX11_init 12 = .ok (.putfield 12, 3) := by decide +kernel
theorem dX11_init_15 : decode cX11_init 15 = .ok (.aload_n 0, 1) := by decide +kernel
theorem dX11_init_16 : decode cX11_init 16 = .ok (.new 16, 3) := by decide +kernel
theorem dX11_init_19 : decode cX11_init 19 = .ok (.dup, 1) := by decide +kernel
theorem dX11_init_20 : decode cX11_init 20 = .ok (.aload_n 0, 1) := by decide +kernel
theorem dX11_init_21 : decode cX11_init 21 = .ok (.getfield 12, 3) := by decide +kernel
theorem dX11_init_24 : decode cX11_init 24 = .ok (.invokespecial 18, 3) := by decide +kernel
theorem dX11_init_27 : decode cX11_init 27 = .ok (.putfield 21, 3) := by decide +kernel
theorem dX11_init_30 : decode cX11_init 30 = .ok (.aload_n 0, 1) := by decide +kernel
theorem dX11_init_31 : decode cX11_init 31 = .ok (.new 25, 3) := by decide +kernel
theorem dX11_init_34 : decode cX11_init 34 = .ok (.dup, 1) := by decide +kernel
theorem dX11_init_35 : decode cX11_init 35 = .ok (.invokespecial 27, 3) := by decide +kernel
theorem dX11_init_38 : decode cX11_init 38 = .ok (.putfield 28, 3) := by decide +kernel
theorem dX11_init_41 : decode cX11_init 41 = .ok (.aload_n 0, 1) := by decide +kernel
theorem dX11_init_42 : decode cX11_init 42 = .ok (.new 25, 3) := by decide +kernel
theorem dX11_init_45 : decode cX11_init 45 = .ok (.dup, 1) := by decide +kernel
theorem dX11_init_46 : decode cX11_init 46 = .ok (.invokespecial 27, 3) := by decide +kernel
theorem dX11_init_49 : decode cX11_init 49 = .ok (.putfield 32, 3) := by decide +kernel
theorem dX11_init_52 : decode cX11_init 52 = .ok (.aload_n 0, 1) := by decide +kernel
theorem dX11_init_53 : decode cX11_init 53 = .ok (.new 35, 3) := by decide +kernel
theorem dX11_init_56 : decode cX11_init 56 = .ok (.dup, 1) := by decide +kernel
theorem dX11_init_57 : decode cX11_init 57 = .ok (.aload_n 0, 1) := by decide +kernel
theorem dX11_init_58 : decode cX11_init 58 = .ok (.getfield 12, 3) := by decide +kernel
theorem dX11_init_61 : decode cX11_init 61 = .ok (.aload_n 0, 1) := by decide +kernel
theorem dX11_init_62 : decode cX11_init 62 = .ok (.getfield 28, 3) := by decide +kernel
theorem dX11_init_65 : decode cX11_init 65 = .ok (.invokespecial 37, 3) := by decide +kernel
theorem dX11_init_68 : decode cX11_init 68 = .ok (.putfield 40, 3) := by decide +kernel
theorem dX11_init_71 : decode cX11_init 71 = .ok (.aload_n 0, 1) := by decide +kernel
theorem dX11_init_72 : decode cX11_init 72 = .ok (.new 35, 3) := by decide +kernel
theorem dX11_init_75 : decode cX11_init 75 = .ok (.dup, 1) := by decide +kernel
theorem dX11_init_76 : decode cX11_init 76 = .ok (.aload_n 0, 1) := by decide +kernel
theorem dX11_init_77 : decode cX11_init 77 = .ok (.getfield 12, 3) := by decide +kernel
theorem dX11_init_80 : decode cX11_init 80 = .ok (.aload_n 0, 1) := by decide +kernel
theorem dX11_init_81 : decode cX11_init 81 = .ok (.getfield 32, 3) := by decide +kernel
theorem dX11_init_84 : decode cX11_init 84 = .ok (.invokespecial 37, 3) := by decide +kernel
theorem dX11_init_87 : decode cX11_init 87 = .ok (.putfield 44, 3) := by decide +kernel
theorem dX11_init_90 : decode cX11_init 90 = .ok (.aload_n 0, 1) := by decide +kernel
theorem dX11_init_91 : decode cX11_init 91 = .ok (.new 47, 3) := by decide +kernel
theorem dX11_init_94 : decode cX11_init 94 = .ok (.dup, 1) := by decide +kernel
theorem dX11_init_95 : decode cX11_init 95 = .ok (.aload_n 0, 1) := by decide +kernel
theorem dX11_init_96 : decode cX11_init 96 = .ok (.getfield 12, 3) := by decide +kernel
theorem dX11_init_99 : decode cX11_init 99 = .ok (.aload_n 0, 1) := by decide +kernel
theorem dX11_init_100 : decode cX11_init 100 = .ok (.getfield 28, 3) := by decide +kernel
theorem dX11_init_103 : decode cX11_init 103 = .ok (.invokespecial 49, 3) := by decide +kernel
theorem dX11_init_106 : decode cX11_init 106 = .ok (.putfield 50, 3) := by decide +kernel
theorem dX11_init_109 : decode cX11_init 109 = .ok (.aload_n 0, 1) := by decide +kernel
theorem dX11_init_110 : decode cX11_init 110 = .ok (.new 47, 3) := by decide +kernel
theorem dX11_init_113 : decode cX11_init 113 = .ok (.dup, 1) := by decide +kernel
theorem dX11_init_114 : decode cX11_init 114 = .ok (.aload_n 0, 1) := by decide +kernel
theorem dX11_init_115 : decode cX11_init 115 = .ok (.getfield 12, 3) := by decide +kernel
theorem dX11_init_118 : decode cX11_init 118 = .ok (.aload_n 0, 1) := by decide +kernel
theorem dX11_init_119 : decode cX11_init 119 = .ok (.getfield 32, 3) := by decide +kernel
theorem dX11_init_122 : decode cX11_init 122 = .ok (.invokespecial 49, 3) := by decide +kernel
theorem dX11_init_125 : decode cX11_init 125 = .ok (.putfield 54, 3) := by decide +kernel
theorem dX11_init_128 : decode cX11_init 128 = .ok (.return_, 1) := by decide +kernel
theorem dX11_machine_0 : decode cX11_machine 0 = .ok (.iload_n 1, 1) := by decide +kernel
theorem dX11_machine_1 : decode cX11_machine 1 = .ok (.iload_n 2, 1) := by decide +kernel
theorem dX11_machine_2 : decode cX11_machine 2 = .ok (.invokestatic 57, 3) := by decide +kernel
theorem dX11_machine_5 : decode cX11_machine 5 = .ok (.ifCond .eq 13, 3) := by decide +kernel
theorem dX11_machine_8 : decode cX11_machine 8 = .ok (.iload_n 3, 1) := by decide +kernel
theorem dX11_machine_9 : decode cX11_machine 9 = .ok (.ifCond .lt 9, 3) := by decide +kernel
theorem dX11_machine_12 : decode cX11_machine 12 = .ok (.iload_n 3, 1) := by decide +kernel
theorem dX11_machine_13 : decode cX11_machine 13 = .ok (.bipush 99, 2) := by decide +kernel
theorem dX11_machine_15 : decode cX11_machine 15 = .ok (.if_icmp .le 13, 3) := by decide +kernel
theorem dX11_machine_18 : decode cX11_machine 18 = .ok (.new 61, 3) := by decide +kernel
theorem dX11_machine_21 : decode cX11_machine 21 = .ok (.dup, 1) := by decide +kernel
theorem dX11_machine_22 : decode cX11_machine 22 = .ok (.ldc 63, 2) := by decide +kernel
theorem dX11_machine_24 : decode cX11_machine 24 = .ok (.invokespecial 65, 3) := by decide +kernel
theorem dX11_machine_27 : decode cX11_machine 27 = .ok (.athrow, 1) := by decide +kernel
theorem dX11_machine_28 : decode cX11_machine 28 = .ok (.aload_n 0, 1) := by decide +kernel
theorem dX11_machine_29 : decode cX11_machine 29 = .ok (.getfield 28, 3) := by decide +kernel
theorem dX11_machine_32 : decode cX11_machine 32 = .ok (.getfield 68, 3) := by decide +kernel
theorem dX11_machine_35 : decode cX11_machine 35 = .ok (.istore 6, 2) := by decide +kernel
theorem dX11_machine_37 : decode cX11_machine 37 = .ok (.aload_n 0, 1) := by decide +kernel
theorem dX11_machine_38 : decode cX11_machine 38 = .ok (.getfield 28, 3) := by decide +kernel
theorem dX11_machine_41 : decode cX11_machine 41 = .ok (.iload_n 1, 1) := by decide +kernel
theorem dX11_machine_42 : decode cX11_machine 42 = .ok (.putfield 68, 3) := by decide +kernel
theorem dX11_machine_45 : decode cX11_machine 45 = .ok (.aload_n 0, 1) := by decide +kernel
theorem dX11_machine_46 : decode cX11_machine 46 = .ok (.getfield 28, 3) := by decide +kernel
theorem dX11_machine_49 : decode cX11_machine 49 = .ok (.iload_n 2, 1) := by decide +kernel
theorem dX11_machine_50 : decode cX11_machine 50 = .ok (.putfield 72, 3) := by decide +kernel
theorem dX11_machine_53 : decode cX11_machine 53 = .ok (.aload_n 0, 1) := by decide +kernel
theorem dX11_machine_54 : decode cX11_machine 54 = .ok (.getfield 28, 3) := by decide +kernel
theorem dX11_machine_57 : decode cX11_machine 57 = .ok (.iload_n 3, 1) := by decide +kernel
theorem dX11_machine_58 : decode cX11_machine 58 = .ok (.putfield 75, 3) := by decide +kernel
theorem dX11_machine_61 : decode cX11_machine 61 = .ok (.aload_n 0, 1) := by decide +kernel
theorem dX11_machine_62 : decode cX11_machine 62 = .ok (.getfield 28, 3) := by decide +kernel
theorem dX11_machine_65 : decode cX11_machine 65 = .ok (.iload 4, 2) := by decide +kernel
theorem dX11_machine_67 : decode cX11_machine 67 = .ok (.putfield 78, 3) := by decide +kernel
theorem dX11_machine_70 : decode cX11_machine 70 = .ok (.aload_n 0, 1) := by decide +kernel
theorem dX11_machine_71 : decode cX11_machine 71 = .ok (.getfield 28, 3) := by decide +kernel
theorem dX11_machine_74 : decode cX11_machine 74 = .ok (.iload 5, 2) := by decide +kernel
theorem dX11_machine_76 : decode cX11_machine 76 = .ok (.putfield 82, 3) := by decide +kernel
theorem dX11_machine_79 : decode cX11_machine 79 = .ok (.aload_n 0, 1) := by decide +kernel
theorem dX11_machine_80 : decode cX11_machine 80 = .ok (.invokevirtual 85, 3) := by decide +kernel
theorem dX11_machine_83 : decode cX11_machine 83 = .ok (.iload 6, 2) := by decide +kernel
theorem dX11_machine_85 : decode cX11_machine 85 = .ok (.ireturn, 1) := by decide +kernel
theorem dX11_latency_0 : decode cX11_latency 0 = .ok (.iload_n 1, 1) := by decide +kernel
theorem dX11_latency_1 : decode cX11_latency 1 = .ok (.bipush 8, 2) := by decide +kernel
theorem dX11_latency_3 : decode cX11_latency 3 = .ok (.invokestatic 88, 3) := by decide +kernel
theorem dX11_latency_6 : decode cX11_latency 6 = .ok (.ifCond .ne 13, 3) := by decide +kernel
theorem dX11_latency_9 : decode cX11_latency 9 = .ok (.new 91, 3) := by decide +kernel
theorem dX11_latency_12 : decode cX11_latency 12 = .ok (.dup, 1) := by decide +kernel
theorem dX11_latency_13 : decode cX11_latency 13 = .ok (.ldc 93, 2) := by decide +kernel
theorem dX11_latency_15 : decode cX11_latency 15 = .ok (.invokespecial 95, 3) := by decide +kernel
theorem dX11_latency_18 : decode cX11_latency 18 = .ok (.athrow, 1) := by decide +kernel
theorem dX11_latency_19 : decode cX11_latency 19 = .ok (.iload_n 2, 1) := by decide +kernel
theorem dX11_latency_20 : decode cX11_latency 20 = .ok (.iconst 1, 1) := by decide +kernel
theorem dX11_latency_21 : decode cX11_latency 21 = .ok (.if_icmp .lt 9, 3) := by decide +kernel
theorem dX11_latency_24 : decode cX11_latency 24 = .ok (.iload_n 2, 1) := by decide +kernel
theorem dX11_latency_25 : decode cX11_latency 25 = .ok (.bipush 9, 2) := by decide +kernel
theorem dX11_latency_27 : decode cX11_latency 27 = .ok (.if_icmp .le 13, 3) := by decide +kernel
theorem dX11_latency_30 : decode cX11_latency 30 = .ok (.new 61, 3) := by decide +kernel
theorem dX11_latency_33 : decode cX11_latency 33 = .ok (.dup, 1) := by decide +kernel
theorem dX11_latency_34 : decode cX11_latency 34 = .ok (.ldc 96, 2) := by decide +kernel
theorem dX11_latency_36 : decode cX11_latency 36 = .ok (.invokespecial 65, 3) := by decide +kernel
theorem dX11_latency_39 : decode cX11_latency 39 = .ok (.athrow, 1) := by decide +kernel
theorem dX11_latency_40 : decode cX11_latency 40 = .ok (.aload_n 0, 1) := by decide +kernel
theorem dX11_latency_41 : decode cX11_latency 41 = .ok (.getfield 28, 3) := by decide +kernel
theorem dX11_latency_44 : decode cX11_latency 44 = .ok (.getfield 98, 3) := by decide +kernel
theorem dX11_latency_47 : decode cX11_latency 47 = .ok (.iload_n 1, 1) := by decide +kernel
theorem dX11_latency_48 : decode cX11_latency 48 = .ok (.invokestatic 102, 3) := by decide +kernel
theorem dX11_latency_51 : decode cX11_latency 51 = .ok (.istore_n 3, 1) := by decide +kernel
theorem dX11_latency_52 : decode cX11_latency 52 = .ok (.aload_n 0, 1) := by decide +kernel
theorem dX11_latency_53 : decode cX11_latency 53 = .ok (.getfield 28, 3) := by decide +kernel
theorem dX11_latency_56 : decode cX11_latency 56 = .ok (.getfield 98, 3) := by decide +kernel
theorem dX11_latency_59 : decode cX11_latency 59 = .ok (.iload_n 1, 1) := by decide +kernel
theorem dX11_latency_60 : decode cX11_latency 60 = .ok (.iload_n 2, 1) := by decide +kernel
theorem dX11_latency_61 : decode cX11_latency 61 = .ok (.invokestatic 106, 3) := by decide +kernel
theorem dX11_latency_64 : decode cX11_latency 64 = .ok (.aload_n 0, 1) := by decide +kernel
theorem dX11_latency_65 : decode cX11_latency 65 = .ok (.invokevirtual 85, 3) := by decide +kernel
theorem dX11_latency_68 : decode cX11_latency 68 = .ok (.iload_n 3, 1) := by decide +kernel
theorem dX11_latency_69 : decode cX11_latency 69 = .ok (.ireturn, 1) := by decide +kernel
theorem dX11_node_0 : decode cX11_node 0 = .ok (.aload_n 0, 1) := by decide +kernel
theorem dX11_node_1 : decode cX11_node 1 = .ok (.getfield 12, 3) := by decide +kernel
theorem dX11_node_4 : decode cX11_node 4 = .ok (.iload_n 1, 1) := by decide +kernel
theorem dX11_node_5 : decode cX11_node 5 = .ok (.iload_n 2, 1) := by decide +kernel
theorem dX11_node_6 : decode cX11_node 6 = .ok (.iload_n 3, 1) := by decide +kernel
theorem dX11_node_7 : decode cX11_node 7 = .ok (.invokevirtual 110, 3) := by decide +kernel
theorem dX11_node_10 : decode cX11_node 10 = .ok (.ifCond .ne 13, 3) := by decide +kernel
theorem dX11_node_13 : decode cX11_node 13 = .ok (.new 61, 3) := by decide +kernel
theorem dX11_node_16 : decode cX11_node 16 = .ok (.dup, 1) := by decide +kernel
theorem dX11_node_17 : decode cX11_node 17 = .ok (.ldc 114, 2) := by decide +kernel
theorem dX11_node_19 : decode cX11_node 19 = .ok (.invokespecial 65, 3) := by decide +kernel
theorem dX11_node_22 : decode cX11_node 22 = .ok (.athrow, 1) := by decide +kernel
theorem dX11_node_23 : decode cX11_node 23 = .ok (.aload_n 0, 1) := by decide +kernel
theorem dX11_node_24 : decode cX11_node 24 = .ok (.getfield 12, 3) := by decide +kernel
theorem dX11_node_27 : decode cX11_node 27 = .ok (.getfield 116, 3) := by decide +kernel
theorem dX11_node_30 : decode cX11_node 30 = .ok (.bipush 80, 2) := by decide +kernel
theorem dX11_node_32 : decode cX11_node 32 = .ok (.if_icmp .lt 13, 3) := by decide +kernel
theorem dX11_node_35 : decode cX11_node 35 = .ok (.new 119, 3) := by decide +kernel
theorem dX11_node_38 : decode cX11_node 38 = .ok (.dup, 1) := by decide +kernel
theorem dX11_node_39 : decode cX11_node 39 = .ok (.ldc 121, 2) := by decide +kernel
theorem dX11_node_41 : decode cX11_node 41 = .ok (.invokespecial 123, 3) := by decide +kernel
theorem dX11_node_44 : decode cX11_node 44 = .ok (.athrow, 1) := by decide +kernel
theorem dX11_node_45 : decode cX11_node 45 = .ok (.aload_n 0, 1) := by decide +kernel
theorem dX11_node_46 : decode cX11_node 46 = .ok (.invokevirtual 85, 3) := by decide +kernel
theorem dX11_node_49 : decode cX11_node 49 = .ok (.aload_n 0, 1) := by decide +kernel
theorem dX11_node_50 : decode cX11_node 50 = .ok (.getfield 12, 3) := by decide +kernel
theorem dX11_node_53 : decode cX11_node 53 = .ok (.iload_n 1, 1) := by decide +kernel
theorem dX11_node_54 : decode cX11_node 54 = .ok (.iload_n 2, 1) := by decide +kernel
theorem dX11_node_55 : decode cX11_node 55 = .ok (.iload_n 3, 1) := by decide +kernel
theorem dX11_node_56 : decode cX11_node 56 = .ok (.invokevirtual 124, 3) := by decide +kernel
theorem dX11_node_59 : decode cX11_node 59 = .ok (.ireturn, 1) := by decide +kernel
theorem dX11_statement_0 : decode cX11_statement 0 = .ok (.iload_n 1, 1) := by decide +kernel
theorem dX11_statement_1 : decode cX11_statement 1 = .ok (.iconst 4, 1) := by decide +kernel
theorem dX11_statement_2 : decode cX11_statement 2 = .ok (.invokestatic 88, 3) := by decide +kernel
theorem dX11_statement_5 : decode cX11_statement 5 = .ok (.ifCond .eq 26, 3) := by decide +kernel
theorem dX11_statement_8 : decode cX11_statement 8 = .ok (.iload_n 2, 1) := by decide +kernel
theorem dX11_statement_9 : decode cX11_statement 9 = .ok (.bipush 8, 2) := by decide +kernel
theorem dX11_statement_11 : decode cX11_statement 11 = .ok (.invokestatic 88, 3) := by decide +kernel
theorem dX11_statement_14 : decode cX11_statement 14 = .ok (.ifCond .eq 17, 3) := by decide +kernel
theorem dX11_statement_17 : decode cX11_statement 17 = .ok (.iload_n 3, 1) := by decide +kernel
theorem dX11_statement_18 : decode cX11_statement 18 = .ok (.aload_n 0, 1) := by decide +kernel
theorem dX11_statement_19 : decode cX11_statement 19 = .ok (.getfield 12, 3) := by decide +kernel
theorem dX11_statement_22 : decode cX11_statement 22 = .ok (.getfield 116, 3) := by decide +kernel
theorem dX11_statement_25 : decode cX11_statement 25 = .ok (.invokestatic 88, 3) := by decide +kernel
theorem dX11_statement_28 : decode cX11_statement 28 = .ok (.ifCond .ne 13, 3) := by decide +kernel
theorem dX11_statement_31 : decode cX11_statement 31 = .ok (.new 91, 3) := by decide +kernel
theorem dX11_statement_34 : decode cX11_statement 34 = .ok (.dup, 1) := by decide +kernel
theorem dX11_statement_35 : decode cX11_statement 35 = .ok (.ldc 128, 2) := by decide +kernel
theorem dX11_statement_37 : decode cX11_statement 37 = .ok (.invokespecial 95, 3) := by decide +kernel
theorem dX11_statement_40 : decode cX11_statement 40 = .ok (.athrow, 1) := by decide +kernel
theorem dX11_statement_41 : decode cX11_statement 41 = .ok (.aload_n 0, 1) := by decide +kernel
theorem dX11_statement_42 : decode cX11_statement 42 = .ok (.getfield 12, 3) := by decide +kernel
theorem dX11_statement_45 : decode cX11_statement 45 = .ok (.iload_n 3, 1) := by decide +kernel
theorem dX11_statement_46 : decode cX11_statement 46 = .ok (.invokevirtual 130, 3) := by decide +kernel
theorem dX11_statement_49 : decode cX11_statement 49 = .ok (.ifCond .ne 13, 3) := by decide +kernel
theorem dX11_statement_52 : decode cX11_statement 52 = .ok (.new 61, 3) := by decide +kernel
theorem dX11_statement_55 : decode cX11_statement 55 = .ok (.dup, 1) := by decide +kernel
theorem dX11_statement_56 : decode cX11_statement 56 = .ok (.ldc 134, 2) := by decide +kernel
theorem dX11_statement_58 : decode cX11_statement 58 = .ok (.invokespecial 65, 3) := by decide +kernel
theorem dX11_statement_61 : decode cX11_statement 61 = .ok (.athrow, 1) := by decide +kernel
theorem dX11_statement_62 : decode cX11_statement 62 = .ok (.aload_n 0, 1) := by decide +kernel
theorem dX11_statement_63 : decode cX11_statement 63 = .ok (.getfield 12, 3) := by decide +kernel
theorem dX11_statement_66 : decode cX11_statement 66 = .ok (.getfield 136, 3) := by decide +kernel
theorem dX11_statement_69 : decode cX11_statement 69 = .ok (.bipush 24, 2) := by decide +kernel
theorem dX11_statement_71 : decode cX11_statement 71 = .ok (.if_icmp .lt 13, 3) := by decide +kernel
theorem dX11_statement_74 : decode cX11_statement 74 = .ok (.new 119, 3) := by decide +kernel
theorem dX11_statement_77 : decode cX11_statement 77 = .ok (.dup, 1) := by decide +kernel
theorem dX11_statement_78 : decode cX11_statement 78 = .ok (.ldc 139, 2) := by decide +kernel
theorem dX11_statement_80 : decode cX11_statement 80 = .ok (.invokespecial 123, 3) := by decide +kernel
theorem dX11_statement_83 : decode cX11_statement 83 = .ok (.athrow, 1) := by decide +kernel
theorem dX11_statement_84 : decode cX11_statement 84 = .ok (.aload_n 0, 1) := by decide +kernel
theorem dX11_statement_85 : decode cX11_statement 85 = .ok (.invokevirtual 85, 3) := by decide +kernel
theorem dX11_statement_88 : decode cX11_statement 88 = .ok (.aload_n 0, 1) := by decide +kernel
theorem dX11_statement_89 : decode cX11_statement 89 = .ok (.getfield 12, 3) := by decide +kernel
theorem dX11_statement_92 : decode cX11_statement 92 = .ok (.iload_n 1, 1) := by decide +kernel
theorem dX11_statement_93 : decode cX11_statement 93 = .ok (.iload_n 2, 1) := by decide +kernel
theorem dX11_statement_94 : decode cX11_statement 94 = .ok (.iload_n 3, 1) := by decide +kernel
theorem dX11_statement_95 : decode cX11_statement 95 = .ok (.invokevirtual 141, 3) := by decide +kernel
theorem dX11_statement_98 : decode cX11_statement 98 = .ok (.ireturn, 1) := by decide +kernel
theorem dX11_times_0 : decode cX11_times 0 = .ok (.iload_n 1, 1) := by decide +kernel
theorem dX11_times_1 : decode cX11_times 1 = .ok (.iconst 4, 1) := by decide +kernel
theorem dX11_times_2 : decode cX11_times 2 = .ok (.invokestatic 88, 3) := by decide +kernel
theorem dX11_times_5 : decode cX11_times 5 = .ok (.ifCond .ne 13, 3) := by decide +kernel
theorem dX11_times_8 : decode cX11_times 8 = .ok (.new 91, 3) := by decide +kernel
theorem dX11_times_11 : decode cX11_times 11 = .ok (.dup, 1) := by decide +kernel
theorem dX11_times_12 : decode cX11_times 12 = .ok (.ldc 144, 2) := by decide +kernel
theorem dX11_times_14 : decode cX11_times 14 = .ok (.invokespecial 95, 3) := by decide +kernel
theorem dX11_times_17 : decode cX11_times 17 = .ok (.athrow, 1) := by decide +kernel
theorem dX11_times_18 : decode cX11_times 18 = .ok (.iload_n 2, 1) := by decide +kernel
theorem dX11_times_19 : decode cX11_times 19 = .ok (.iconst 1, 1) := by decide +kernel
theorem dX11_times_20 : decode cX11_times 20 = .ok (.if_icmp .lt 9, 3) := by decide +kernel
theorem dX11_times_23 : decode cX11_times 23 = .ok (.iload_n 2, 1) := by decide +kernel
theorem dX11_times_24 : decode cX11_times 24 = .ok (.bipush 9, 2) := by decide +kernel
theorem dX11_times_26 : decode cX11_times 26 = .ok (.if_icmp .le 13, 3) := by decide +kernel
theorem dX11_times_29 : decode cX11_times 29 = .ok (.new 61, 3) := by decide +kernel
theorem dX11_times_32 : decode cX11_times 32 = .ok (.dup, 1) := by decide +kernel
theorem dX11_times_33 : decode cX11_times 33 = .ok (.ldc 155, 2) := by decide +kernel
theorem dX11_times_35 : decode cX11_times 35 = .ok (.invokespecial 65, 3) := by decide +kernel
theorem dX11_times_38 : decode cX11_times 38 = .ok (.athrow, 1) := by decide +kernel
theorem dX11_times_39 : decode cX11_times 39 = .ok (.aload_n 0, 1) := by decide +kernel
theorem dX11_times_40 : decode cX11_times 40 = .ok (.getfield 12, 3) := by decide +kernel
theorem dX11_times_43 : decode cX11_times 43 = .ok (.iload_n 1, 1) := by decide +kernel
theorem dX11_times_44 : decode cX11_times 44 = .ok (.invokevirtual 157, 3) := by decide +kernel
theorem dX11_times_47 : decode cX11_times 47 = .ok (.istore_n 3, 1) := by decide +kernel
theorem dX11_times_48 : decode cX11_times 48 = .ok (.aload_n 0, 1) := by decide +kernel
theorem dX11_times_49 : decode cX11_times 49 = .ok (.getfield 12, 3) := by decide +kernel
theorem dX11_times_52 : decode cX11_times 52 = .ok (.getfield 160, 3) := by decide +kernel
theorem dX11_times_55 : decode cX11_times 55 = .ok (.iload_n 1, 1) := by decide +kernel
theorem dX11_times_56 : decode cX11_times 56 = .ok (.iload_n 2, 1) := by decide +kernel
theorem dX11_times_57 : decode cX11_times 57 = .ok (.invokestatic 106, 3) := by decide +kernel
theorem dX11_times_60 : decode cX11_times 60 = .ok (.aload_n 0, 1) := by decide +kernel
theorem dX11_times_61 : decode cX11_times 61 = .ok (.invokevirtual 85, 3) := by decide +kernel
theorem dX11_times_64 : decode cX11_times 64 = .ok (.iload_n 3, 1) := by decide +kernel
theorem dX11_times_65 : decode cX11_times 65 = .ok (.ireturn, 1) := by decide +kernel
theorem dX11_out_0 : decode cX11_out 0 = .ok (.iload_n 1, 1) := by decide +kernel
theorem dX11_out_1 : decode cX11_out 1 = .ok (.ifCond .lt 10, 3) := by decide +kernel
theorem dX11_out_4 : decode cX11_out 4 = .ok (.iload_n 1, 1) := by decide +kernel
theorem dX11_out_5 : decode cX11_out 5 = .ok (.sipush 255, 3) := by decide +kernel
theorem dX11_out_8 : decode cX11_out 8 = .ok (.if_icmp .le 13, 3) := by decide +kernel
theorem dX11_out_11 : decode cX11_out 11 = .ok (.new 61, 3) := by decide +kernel
theorem dX11_out_14 : decode cX11_out 14 = .ok (.dup, 1) := by decide +kernel
theorem dX11_out_15 : decode cX11_out 15 = .ok (.ldc 163, 2) := by decide +kernel
theorem dX11_out_17 : decode cX11_out 17 = .ok (.invokespecial 65, 3) := by decide +kernel
theorem dX11_out_20 : decode cX11_out 20 = .ok (.athrow, 1) := by decide +kernel
theorem dX11_out_21 : decode cX11_out 21 = .ok (.aload_n 0, 1) := by decide +kernel
theorem dX11_out_22 : decode cX11_out 22 = .ok (.getfield 12, 3) := by decide +kernel
theorem dX11_out_25 : decode cX11_out 25 = .ok (.getfield 165, 3) := by decide +kernel
theorem dX11_out_28 : decode cX11_out 28 = .ok (.istore_n 2, 1) := by decide +kernel
theorem dX11_out_29 : decode cX11_out 29 = .ok (.aload_n 0, 1) := by decide +kernel
theorem dX11_out_30 : decode cX11_out 30 = .ok (.getfield 12, 3) := by decide +kernel
theorem dX11_out_33 : decode cX11_out 33 = .ok (.iload_n 1, 1) := by decide +kernel
theorem dX11_out_34 : decode cX11_out 34 = .ok (.putfield 165, 3) := by decide +kernel
theorem dX11_out_37 : decode cX11_out 37 = .ok (.aload_n 0, 1) := by decide +kernel
theorem dX11_out_38 : decode cX11_out 38 = .ok (.invokevirtual 85, 3) := by decide +kernel
theorem dX11_out_41 : decode cX11_out 41 = .ok (.iload_n 2, 1) := by decide +kernel
theorem dX11_out_42 : decode cX11_out 42 = .ok (.ireturn, 1) := by decide +kernel
theorem dX11_meant_0 : decode cX11_meant 0 = .ok (.iload_n 1, 1) := by decide +kernel
theorem dX11_meant_1 : decode cX11_meant 1 = .ok (.bipush 8, 2) := by decide +kernel
theorem dX11_meant_3 : decode cX11_meant 3 = .ok (.invokestatic 88, 3) := by decide +kernel
theorem dX11_meant_6 : decode cX11_meant 6 = .ok (.ifCond .ne 13, 3) := by decide +kernel
theorem dX11_meant_9 : decode cX11_meant 9 = .ok (.new 91, 3) := by decide +kernel
theorem dX11_meant_12 : decode cX11_meant 12 = .ok (.dup, 1) := by decide +kernel
theorem dX11_meant_13 : decode cX11_meant 13 = .ok (.ldc 168, 2) := by decide +kernel
theorem dX11_meant_15 : decode cX11_meant 15 = .ok (.invokespecial 95, 3) := by decide +kernel
theorem dX11_meant_18 : decode cX11_meant 18 = .ok (.athrow, 1) := by decide +kernel
theorem dX11_meant_19 : decode cX11_meant 19 = .ok (.aload_n 0, 1) := by decide +kernel
theorem dX11_meant_20 : decode cX11_meant 20 = .ok (.invokevirtual 170, 3) := by decide +kernel
theorem dX11_meant_23 : decode cX11_meant 23 = .ok (.getfield 174, 3) := by decide +kernel
theorem dX11_meant_26 : decode cX11_meant 26 = .ok (.iload_n 1, 1) := by decide +kernel
theorem dX11_meant_27 : decode cX11_meant 27 = .ok (.invokestatic 102, 3) := by decide +kernel
theorem dX11_meant_30 : decode cX11_meant 30 = .ok (.ireturn, 1) := by decide +kernel
theorem dX11_chosen_0 : decode cX11_chosen 0 = .ok (.aload_n 0, 1) := by decide +kernel
theorem dX11_chosen_1 : decode cX11_chosen 1 = .ok (.invokevirtual 177, 3) := by decide +kernel
theorem dX11_chosen_4 : decode cX11_chosen 4 = .ok (.astore_n 3, 1) := by decide +kernel
theorem dX11_chosen_5 : decode cX11_chosen 5 = .ok (.iload_n 1, 1) := by decide +kernel
theorem dX11_chosen_6 : decode cX11_chosen 6 = .ok (.aload_n 0, 1) := by decide +kernel
theorem dX11_chosen_7 : decode cX11_chosen 7 = .ok (.getfield 40, 3) := by decide +kernel
theorem dX11_chosen_10 : decode cX11_chosen 10 = .ok (.getfield 181, 3) := by decide +kernel
theorem dX11_chosen_13 : decode cX11_chosen 13 = .ok (.getfield 185, 3) := by decide +kernel
theorem dX11_chosen_16 : decode cX11_chosen 16 = .ok (.invokestatic 88, 3) := by decide +kernel
theorem dX11_chosen_19 : decode cX11_chosen 19 = .ok (.ifCond .ne 13, 3) := by decide +kernel
theorem dX11_chosen_22 : decode cX11_chosen 22 = .ok (.new 91, 3) := by decide +kernel
theorem dX11_chosen_25 : decode cX11_chosen 25 = .ok (.dup, 1) := by decide +kernel
theorem dX11_chosen_26 : decode cX11_chosen 26 = .ok (.ldc 190, 2) := by decide +kernel
theorem dX11_chosen_28 : decode cX11_chosen 28 = .ok (.invokespecial 95, 3) := by decide +kernel
theorem dX11_chosen_31 : decode cX11_chosen 31 = .ok (.athrow, 1) := by decide +kernel
theorem dX11_chosen_32 : decode cX11_chosen 32 = .ok (.iload_n 2, 1) := by decide +kernel
theorem dX11_chosen_33 : decode cX11_chosen 33 = .ok (.bipush 8, 2) := by decide +kernel
theorem dX11_chosen_35 : decode cX11_chosen 35 = .ok (.invokestatic 88, 3) := by decide +kernel
theorem dX11_chosen_38 : decode cX11_chosen 38 = .ok (.ifCond .ne 13, 3) := by decide +kernel
theorem dX11_chosen_41 : decode cX11_chosen 41 = .ok (.new 61, 3) := by decide +kernel
theorem dX11_chosen_44 : decode cX11_chosen 44 = .ok (.dup, 1) := by decide +kernel
theorem dX11_chosen_45 : decode cX11_chosen 45 = .ok (.ldc 192, 2) := by decide +kernel
theorem dX11_chosen_47 : decode cX11_chosen 47 = .ok (.invokespecial 65, 3) := by decide +kernel
theorem dX11_chosen_50 : decode cX11_chosen 50 = .ok (.athrow, 1) := by decide +kernel
theorem dX11_chosen_51 : decode cX11_chosen 51 = .ok (.aload_n 3, 1) := by decide +kernel
theorem dX11_chosen_52 : decode cX11_chosen 52 = .ok (.aload_n 0, 1) := by decide +kernel
theorem dX11_chosen_53 : decode cX11_chosen 53 = .ok (.getfield 40, 3) := by decide +kernel
theorem dX11_chosen_56 : decode cX11_chosen 56 = .ok (.iload_n 1, 1) := by decide +kernel
theorem dX11_chosen_57 : decode cX11_chosen 57 = .ok (.iload_n 2, 1) := by decide +kernel
theorem dX11_chosen_58 : decode cX11_chosen 58 = .ok (.invokevirtual 194, 3) := by decide +kernel
theorem dX11_chosen_61 : decode cX11_chosen 61 = .ok (.ireturn, 1) := by decide +kernel
theorem dX11_ofValue_0 : decode cX11_ofValue 0 = .ok (.aload_n 0, 1) := by decide +kernel
theorem dX11_ofValue_1 : decode cX11_ofValue 1 = .ok (.invokevirtual 177, 3) := by decide +kernel
theorem dX11_ofValue_4 : decode cX11_ofValue 4 = .ok (.astore_n 3, 1) := by decide +kernel
theorem dX11_ofValue_5 : decode cX11_ofValue 5 = .ok (.aload_n 0, 1) := by decide +kernel
theorem dX11_ofValue_6 : decode cX11_ofValue 6 = .ok (.getfield 40, 3) := by decide +kernel
theorem dX11_ofValue_9 : decode cX11_ofValue 9 = .ok (.getfield 198, 3) := by decide +kernel
theorem dX11_ofValue_12 : decode cX11_ofValue 12 = .ok (.iload_n 1, 1) := by decide +kernel
theorem dX11_ofValue_13 : decode cX11_ofValue 13 = .ok (.invokevirtual 202, 3) := by decide +kernel
theorem dX11_ofValue_16 : decode cX11_ofValue 16 = .ok (.ifCond .ne 13, 3) := by decide +kernel
theorem dX11_ofValue_19 : decode cX11_ofValue 19 = .ok (.new 91, 3) := by decide +kernel
theorem dX11_ofValue_22 : decode cX11_ofValue 22 = .ok (.dup, 1) := by decide +kernel
theorem dX11_ofValue_23 : decode cX11_ofValue 23 = .ok (.ldc 207, 2) := by decide +kernel
theorem dX11_ofValue_25 : decode cX11_ofValue 25 = .ok (.invokespecial 95, 3) := by decide +kernel
theorem dX11_ofValue_28 : decode cX11_ofValue 28 = .ok (.athrow, 1) := by decide +kernel
theorem dX11_ofValue_29 : decode cX11_ofValue 29 = .ok (.iload_n 2, 1) := by decide +kernel
theorem dX11_ofValue_30 : decode cX11_ofValue 30 = .ok (.bipush 8, 2) := by decide +kernel
theorem dX11_ofValue_32 : decode cX11_ofValue 32 = .ok (.invokestatic 88, 3) := by decide +kernel
theorem dX11_ofValue_35 : decode cX11_ofValue 35 = .ok (.ifCond .ne 13, 3) := by decide +kernel
theorem dX11_ofValue_38 : decode cX11_ofValue 38 = .ok (.new 61, 3) := by decide +kernel
theorem dX11_ofValue_41 : decode cX11_ofValue 41 = .ok (.dup, 1) := by decide +kernel
theorem dX11_ofValue_42 : decode cX11_ofValue 42 = .ok (.ldc 192, 2) := by decide +kernel
theorem dX11_ofValue_44 : decode cX11_ofValue 44 = .ok (.invokespecial 65, 3) := by decide +kernel
theorem dX11_ofValue_47 : decode cX11_ofValue 47 = .ok (.athrow, 1) := by decide +kernel
theorem dX11_ofValue_48 : decode cX11_ofValue 48 = .ok (.aload_n 3, 1) := by decide +kernel
theorem dX11_ofValue_49 : decode cX11_ofValue 49 = .ok (.aload_n 0, 1) := by decide +kernel
theorem dX11_ofValue_50 : decode cX11_ofValue 50 = .ok (.getfield 40, 3) := by decide +kernel
theorem dX11_ofValue_53 : decode cX11_ofValue 53 = .ok (.iload_n 1, 1) := by decide +kernel
theorem dX11_ofValue_54 : decode cX11_ofValue 54 = .ok (.iload_n 2, 1) := by decide +kernel
theorem dX11_ofValue_55 : decode cX11_ofValue 55 = .ok (.invokevirtual 209, 3) := by decide +kernel
theorem dX11_ofValue_58 : decode cX11_ofValue 58 = .ok (.ireturn, 1) := by decide +kernel
theorem dX11_answer_0 : decode cX11_answer 0 = .ok (.iload_n 1, 1) := by decide +kernel
theorem dX11_answer_1 : decode cX11_answer 1 = .ok (.bipush 8, 2) := by decide +kernel
theorem dX11_answer_3 : decode cX11_answer 3 = .ok (.invokestatic 88, 3) := by decide +kernel
theorem dX11_answer_6 : decode cX11_answer 6 = .ok (.ifCond .eq 17, 3) := by decide +kernel
theorem dX11_answer_9 : decode cX11_answer 9 = .ok (.aload_n 0, 1) := by decide +kernel
theorem dX11_answer_10 : decode cX11_answer 10 = .ok (.getfield 12, 3) := by decide +kernel
theorem dX11_answer_13 : decode cX11_answer 13 = .ok (.getfield 165, 3) := by decide +kernel
theorem dX11_answer_16 : decode cX11_answer 16 = .ok (.iload_n 1, 1) := by decide +kernel
theorem dX11_answer_17 : decode cX11_answer 17 = .ok (.invokestatic 253, 3) := by decide +kernel
theorem dX11_answer_20 : decode cX11_answer 20 = .ok (.ifCond .ne 14, 3) := by decide +kernel
theorem dX11_answer_23 : decode cX11_answer 23 = .ok (.new 91, 3) := by decide +kernel
theorem dX11_answer_26 : decode cX11_answer 26 = .ok (.dup, 1) := by decide +kernel
theorem dX11_answer_27 : decode cX11_answer 27 = .ok (.ldc_w 256, 3) := by decide +kernel
theorem dX11_answer_30 : decode cX11_answer 30 = .ok (.invokespecial 95, 3) := by decide +kernel
theorem dX11_answer_33 : decode cX11_answer 33 = .ok (.athrow, 1) := by decide +kernel
theorem dX11_answer_34 : decode cX11_answer 34 = .ok (.aload_n 0, 1) := by decide +kernel
theorem dX11_answer_35 : decode cX11_answer 35 = .ok (.invokevirtual 177, 3) := by decide +kernel
theorem dX11_answer_38 : decode cX11_answer 38 = .ok (.aload_n 0, 1) := by decide +kernel
theorem dX11_answer_39 : decode cX11_answer 39 = .ok (.getfield 40, 3) := by decide +kernel
theorem dX11_answer_42 : decode cX11_answer 42 = .ok (.iload_n 1, 1) := by decide +kernel
theorem dX11_answer_43 : decode cX11_answer 43 = .ok (.invokevirtual 258, 3) := by decide +kernel
theorem dX11_answer_46 : decode cX11_answer 46 = .ok (.ireturn, 1) := by decide +kernel
theorem dX11_many_0 : decode cX11_many 0 = .ok (.iload_n 1, 1) := by decide +kernel
theorem dX11_many_1 : decode cX11_many 1 = .ok (.bipush 16, 2) := by decide +kernel
theorem dX11_many_3 : decode cX11_many 3 = .ok (.invokestatic 88, 3) := by decide +kernel
theorem dX11_many_6 : decode cX11_many 6 = .ok (.ifCond .ne 13, 3) := by decide +kernel
theorem dX11_many_9 : decode cX11_many 9 = .ok (.new 61, 3) := by decide +kernel
theorem dX11_many_12 : decode cX11_many 12 = .ok (.dup, 1) := by decide +kernel
theorem dX11_many_13 : decode cX11_many 13 = .ok (.ldc 192, 2) := by decide +kernel
theorem dX11_many_15 : decode cX11_many 15 = .ok (.invokespecial 65, 3) := by decide +kernel
theorem dX11_many_18 : decode cX11_many 18 = .ok (.athrow, 1) := by decide +kernel
theorem dX11_many_19 : decode cX11_many 19 = .ok (.aload_n 0, 1) := by decide +kernel
theorem dX11_many_20 : decode cX11_many 20 = .ok (.invokevirtual 177, 3) := by decide +kernel
theorem dX11_many_23 : decode cX11_many 23 = .ok (.aload_n 0, 1) := by decide +kernel
theorem dX11_many_24 : decode cX11_many 24 = .ok (.getfield 40, 3) := by decide +kernel
theorem dX11_many_27 : decode cX11_many 27 = .ok (.iload_n 1, 1) := by decide +kernel
theorem dX11_many_28 : decode cX11_many 28 = .ok (.invokevirtual 262, 3) := by decide +kernel
theorem dX11_many_31 : decode cX11_many 31 = .ok (.ireturn, 1) := by decide +kernel
theorem dX11_with_0 : decode cX11_with 0 = .ok (.iload_n 1, 1) := by decide +kernel
theorem dX11_with_1 : decode cX11_with 1 = .ok (.iload_n 2, 1) := by decide +kernel
theorem dX11_with_2 : decode cX11_with 2 = .ok (.invokestatic 57, 3) := by decide +kernel
theorem dX11_with_5 : decode cX11_with 5 = .ok (.ifCond .eq 16, 3) := by decide +kernel
theorem dX11_with_8 : decode cX11_with 8 = .ok (.iload 4, 2) := by decide +kernel
theorem dX11_with_10 : decode cX11_with 10 = .ok (.iconst 3, 1) := by decide +kernel
theorem dX11_with_11 : decode cX11_with 11 = .ok (.if_icmp .lt 10, 3) := by decide +kernel
theorem dX11_with_14 : decode cX11_with 14 = .ok (.iload 4, 2) := by decide +kernel
theorem dX11_with_16 : decode cX11_with 16 = .ok (.bipush 15, 2) := by decide +kernel
theorem dX11_with_18 : decode cX11_with 18 = .ok (.if_icmp .le 14, 3) := by decide +kernel
theorem dX11_with_21 : decode cX11_with 21 = .ok (.new 61, 3) := by decide +kernel
theorem dX11_with_24 : decode cX11_with 24 = .ok (.dup, 1) := by decide +kernel
theorem dX11_with_25 : decode cX11_with 25 = .ok (.ldc_w 271, 3) := by decide +kernel
theorem dX11_with_28 : decode cX11_with 28 = .ok (.invokespecial 65, 3) := by decide +kernel
theorem dX11_with_31 : decode cX11_with 31 = .ok (.athrow, 1) := by decide +kernel
theorem dX11_with_32 : decode cX11_with 32 = .ok (.aload_n 0, 1) := by decide +kernel
theorem dX11_with_33 : decode cX11_with 33 = .ok (.invokevirtual 177, 3) := by decide +kernel
theorem dX11_with_36 : decode cX11_with 36 = .ok (.pop, 1) := by decide +kernel
theorem dX11_with_37 : decode cX11_with 37 = .ok (.aload_n 0, 1) := by decide +kernel
theorem dX11_with_38 : decode cX11_with 38 = .ok (.iload_n 1, 1) := by decide +kernel
theorem dX11_with_39 : decode cX11_with 39 = .ok (.iload_n 2, 1) := by decide +kernel
theorem dX11_with_40 : decode cX11_with 40 = .ok (.iload_n 3, 1) := by decide +kernel
theorem dX11_with_41 : decode cX11_with 41 = .ok (.invokevirtual 273, 3) := by decide +kernel
theorem dX11_with_44 : decode cX11_with 44 = .ok (.aload_n 0, 1) := by decide +kernel
theorem dX11_with_45 : decode cX11_with 45 = .ok (.getfield 40, 3) := by decide +kernel
theorem dX11_with_48 : decode cX11_with 48 = .ok (.iload 4, 2) := by decide +kernel
theorem dX11_with_50 : decode cX11_with 50 = .ok (.invokevirtual 262, 3) := by decide +kernel
theorem dX11_with_53 : decode cX11_with 53 = .ok (.ireturn, 1) := by decide +kernel
theorem dX11_cyclesWith_0 : decode cX11_cyclesWith 0 = .ok (.iload_n 1, 1) := by decide +kernel
theorem dX11_cyclesWith_1 : decode cX11_cyclesWith 1 = .ok (.bipush 8, 2) := by decide +kernel
theorem dX11_cyclesWith_3 : decode cX11_cyclesWith 3 = .ok (.invokestatic 88, 3) := by decide +kernel
theorem dX11_cyclesWith_6 : decode cX11_cyclesWith 6 = .ok (.ifCond .ne 13, 3) := by decide +kernel
theorem dX11_cyclesWith_9 : decode cX11_cyclesWith 9 = .ok (.new 91, 3) := by decide +kernel
theorem dX11_cyclesWith_12 : decode cX11_cyclesWith 12 = .ok (.dup, 1) := by decide +kernel
theorem dX11_cyclesWith_13 : decode cX11_cyclesWith 13 = .ok (.ldc 93, 2) := by decide +kernel
theorem dX11_cyclesWith_15 : decode cX11_cyclesWith 15 = .ok (.invokespecial 95, 3) := by decide +kernel
theorem dX11_cyclesWith_18 : decode cX11_cyclesWith 18 = .ok (.athrow, 1) := by decide +kernel
theorem dX11_cyclesWith_19 : decode cX11_cyclesWith 19 = .ok (.iload_n 2, 1) := by decide +kernel
theorem dX11_cyclesWith_20 : decode cX11_cyclesWith 20 = .ok (.iconst 1, 1) := by decide +kernel
theorem dX11_cyclesWith_21 : decode cX11_cyclesWith 21 = .ok (.if_icmp .lt 9, 3) := by decide +kernel
theorem dX11_cyclesWith_24 : decode cX11_cyclesWith 24 = .ok (.iload_n 2, 1) := by decide +kernel
theorem dX11_cyclesWith_25 : decode cX11_cyclesWith 25 = .ok (.bipush 9, 2) := by decide +kernel
theorem dX11_cyclesWith_27 : decode cX11_cyclesWith 27 = .ok (.if_icmp .le 13, 3) := by decide +kernel
theorem dX11_cyclesWith_30 : decode cX11_cyclesWith 30 = .ok (.new 61, 3) := by decide +kernel
theorem dX11_cyclesWith_33 : decode cX11_cyclesWith 33 = .ok (.dup, 1) := by decide +kernel
theorem dX11_cyclesWith_34 : decode cX11_cyclesWith 34 = .ok (.ldc 96, 2) := by decide +kernel
theorem dX11_cyclesWith_36 : decode cX11_cyclesWith 36 = .ok (.invokespecial 65, 3) := by decide +kernel
theorem dX11_cyclesWith_39 : decode cX11_cyclesWith 39 = .ok (.athrow, 1) := by decide +kernel
theorem dX11_cyclesWith_40 : decode cX11_cyclesWith 40 = .ok (.aload_n 0, 1) := by decide +kernel
theorem dX11_cyclesWith_41 : decode cX11_cyclesWith 41 = .ok (.getfield 32, 3) := by decide +kernel
theorem dX11_cyclesWith_44 : decode cX11_cyclesWith 44 = .ok (.aload_n 0, 1) := by decide +kernel
theorem dX11_cyclesWith_45 : decode cX11_cyclesWith 45 = .ok (.getfield 28, 3) := by decide +kernel
theorem dX11_cyclesWith_48 : decode cX11_cyclesWith 48 = .ok (.invokevirtual 277, 3) := by decide +kernel
theorem dX11_cyclesWith_51 : decode cX11_cyclesWith 51 = .ok (.aload_n 0, 1) := by decide +kernel
theorem dX11_cyclesWith_52 : decode cX11_cyclesWith 52 = .ok (.getfield 32, 3) := by decide +kernel
theorem dX11_cyclesWith_55 : decode cX11_cyclesWith 55 = .ok (.getfield 98, 3) := by decide +kernel
theorem dX11_cyclesWith_58 : decode cX11_cyclesWith 58 = .ok (.iload_n 1, 1) := by decide +kernel
theorem dX11_cyclesWith_59 : decode cX11_cyclesWith 59 = .ok (.iload_n 2, 1) := by decide +kernel
theorem dX11_cyclesWith_60 : decode cX11_cyclesWith 60 = .ok (.invokestatic 106, 3) := by decide +kernel
theorem dX11_cyclesWith_63 : decode cX11_cyclesWith 63 = .ok (.aload_n 0, 1) := by decide +kernel
theorem dX11_cyclesWith_64 : decode cX11_cyclesWith 64 = .ok (.getfield 44, 3) := by decide +kernel
theorem dX11_cyclesWith_67 : decode cX11_cyclesWith 67 = .ok (.iconst 1, 1) := by decide +kernel
theorem dX11_cyclesWith_68 : decode cX11_cyclesWith 68 = .ok (.invokevirtual 281, 3) := by decide +kernel
theorem dX11_cyclesWith_71 : decode cX11_cyclesWith 71 = .ok (.aload_n 0, 1) := by decide +kernel
theorem dX11_cyclesWith_72 : decode cX11_cyclesWith 72 = .ok (.getfield 54, 3) := by decide +kernel
theorem dX11_cyclesWith_75 : decode cX11_cyclesWith 75 = .ok (.aload_n 0, 1) := by decide +kernel
theorem dX11_cyclesWith_76 : decode cX11_cyclesWith 76 = .ok (.getfield 44, 3) := by decide +kernel
theorem dX11_cyclesWith_79 : decode cX11_cyclesWith 79 = .ok (.invokevirtual 285, 3) := by decide +kernel
theorem dX11_cyclesWith_82 : decode cX11_cyclesWith 82 = .ok (.aload_n 0, 1) := by decide +kernel
theorem dX11_cyclesWith_83 : decode cX11_cyclesWith 83 = .ok (.getfield 54, 3) := by decide +kernel
theorem dX11_cyclesWith_86 : decode cX11_cyclesWith 86 = .ok (.getfield 244, 3) := by decide +kernel
theorem dX11_cyclesWith_89 : decode cX11_cyclesWith 89 = .ok (.getfield 288, 3) := by decide +kernel
theorem dX11_cyclesWith_92 : decode cX11_cyclesWith 92 = .ok (.ireturn, 1) := by decide +kernel
theorem dX11_enough_0 : decode cX11_enough 0 = .ok (.aload_n 0, 1) := by decide +kernel
theorem dX11_enough_1 : decode cX11_enough 1 = .ok (.invokevirtual 177, 3) := by decide +kernel
theorem dX11_enough_4 : decode cX11_enough 4 = .ok (.pop, 1) := by decide +kernel
theorem dX11_enough_5 : decode cX11_enough 5 = .ok (.aload_n 0, 1) := by decide +kernel
theorem dX11_enough_6 : decode cX11_enough 6 = .ok (.invokevirtual 291, 3) := by decide +kernel
theorem dX11_enough_9 : decode cX11_enough 9 = .ok (.ireturn, 1) := by decide +kernel
theorem dX11_unordered_0 : decode cX11_unordered 0 = .ok (.aload_n 0, 1) := by decide +kernel
theorem dX11_unordered_1 : decode cX11_unordered 1 = .ok (.invokevirtual 177, 3) := by decide +kernel
theorem dX11_unordered_4 : decode cX11_unordered 4 = .ok (.pop, 1) := by decide +kernel
theorem dX11_unordered_5 : decode cX11_unordered 5 = .ok (.aload_n 0, 1) := by decide +kernel
theorem dX11_unordered_6 : decode cX11_unordered 6 = .ok (.invokevirtual 295, 3) := by decide +kernel
theorem dX11_unordered_9 : decode cX11_unordered 9 = .ok (.aload_n 0, 1) := by decide +kernel
theorem dX11_unordered_10 : decode cX11_unordered 10 = .ok (.getfield 50, 3) := by decide +kernel
theorem dX11_unordered_13 : decode cX11_unordered 13 = .ok (.getfield 244, 3) := by decide +kernel
theorem dX11_unordered_16 : decode cX11_unordered 16 = .ok (.getfield 288, 3) := by decide +kernel
theorem dX11_unordered_19 : decode cX11_unordered 19 = .ok (.isub, 1) := by decide +kernel
theorem dX11_unordered_20 : decode cX11_unordered 20 = .ok (.ireturn, 1) := by decide +kernel
theorem dX11_digest_0 : decode cX11_digest 0 = .ok (.aload_n 0, 1) := by decide +kernel
theorem dX11_digest_1 : decode cX11_digest 1 = .ok (.invokevirtual 177, 3) := by decide +kernel
theorem dX11_digest_4 : decode cX11_digest 4 = .ok (.astore_n 1, 1) := by decide +kernel
theorem dX11_digest_5 : decode cX11_digest 5 = .ok (.ldc2_w 298, 3) := by decide +kernel
theorem dX11_digest_8 : decode cX11_digest 8 = .ok (.lstore_n 2, 1) := by decide +kernel
theorem dX11_digest_9 : decode cX11_digest 9 = .ok (.iconst 0, 1) := by decide +kernel
theorem dX11_digest_10 : decode cX11_digest 10 = .ok (.istore 4, 2) := by decide +kernel
theorem dX11_digest_12 : decode cX11_digest 12 = .ok (.iload 4, 2) := by decide +kernel
theorem dX11_digest_14 : decode cX11_digest 14 = .ok (.bipush 15, 2) := by decide +kernel
theorem dX11_digest_16 : decode cX11_digest 16 = .ok (.if_icmp .gt 25, 3) := by decide +kernel
theorem dX11_digest_19 : decode cX11_digest 19 = .ok (.lload_n 2, 1) := by decide +kernel
theorem dX11_digest_20 : decode cX11_digest 20 = .ok (.aload_n 1, 1) := by decide +kernel
theorem dX11_digest_21 : decode cX11_digest 21 = .ok (.aload_n 0, 1) := by decide +kernel
theorem dX11_digest_22 : decode cX11_digest 22 = .ok (.getfield 40, 3) := by decide +kernel
theorem dX11_digest_25 : decode cX11_digest 25 = .ok (.iload 4, 2) := by decide +kernel
theorem dX11_digest_27 : decode cX11_digest 27 = .ok (.invokevirtual 262, 3) := by decide +kernel
theorem dX11_digest_30 : decode cX11_digest 30 = .ok (.i2l, 1) := by decide +kernel
theorem dX11_digest_31 : decode cX11_digest 31 = .ok (.invokestatic 300, 3) := by decide +kernel
theorem dX11_digest_34 : decode cX11_digest 34 = .ok (.lstore_n 2, 1) := by decide +kernel
theorem dX11_digest_35 : decode cX11_digest 35 = .ok (.iinc 4 1, 3) := by decide +kernel
theorem dX11_digest_38 : decode cX11_digest 38 = .ok (.goto (-26), 3) := by decide +kernel
theorem dX11_digest_41 : decode cX11_digest 41 = .ok (.aload_n 0, 1) := by decide +kernel
theorem dX11_digest_42 : decode cX11_digest 42 = .ok (.lload_n 2, 1) := by decide +kernel
theorem dX11_digest_43 : decode cX11_digest 43 = .ok (.aload_n 1, 1) := by decide +kernel
theorem dX11_digest_44 : decode cX11_digest 44 = .ok (.invokevirtual 304, 3) := by decide +kernel
theorem dX11_digest_47 : decode cX11_digest 47 = .ok (.lstore_n 2, 1) := by decide +kernel
theorem dX11_digest_48 : decode cX11_digest 48 = .ok (.aload_n 0, 1) := by decide +kernel
theorem dX11_digest_49 : decode cX11_digest 49 = .ok (.lload_n 2, 1) := by decide +kernel
theorem dX11_digest_50 : decode cX11_digest 50 = .ok (.aload_n 1, 1) := by decide +kernel
theorem dX11_digest_51 : decode cX11_digest 51 = .ok (.invokevirtual 308, 3) := by decide +kernel
theorem dX11_digest_54 : decode cX11_digest 54 = .ok (.lstore_n 2, 1) := by decide +kernel
theorem dX11_digest_55 : decode cX11_digest 55 = .ok (.aload_n 0, 1) := by decide +kernel
theorem dX11_digest_56 : decode cX11_digest 56 = .ok (.lload_n 2, 1) := by decide +kernel
theorem dX11_digest_57 : decode cX11_digest 57 = .ok (.aload_n 1, 1) := by decide +kernel
theorem dX11_digest_58 : decode cX11_digest 58 = .ok (.invokevirtual 311, 3) := by decide +kernel
theorem dX11_digest_61 : decode cX11_digest 61 = .ok (.lstore_n 2, 1) := by decide +kernel
theorem dX11_digest_62 : decode cX11_digest 62 = .ok (.aload_n 0, 1) := by decide +kernel
theorem dX11_digest_63 : decode cX11_digest 63 = .ok (.lload_n 2, 1) := by decide +kernel
theorem dX11_digest_64 : decode cX11_digest 64 = .ok (.aload_n 1, 1) := by decide +kernel
theorem dX11_digest_65 : decode cX11_digest 65 = .ok (.invokevirtual 314, 3) := by decide +kernel
theorem dX11_digest_68 : decode cX11_digest 68 = .ok (.lstore_n 2, 1) := by decide +kernel
theorem dX11_digest_69 : decode cX11_digest 69 = .ok (.lload_n 2, 1) := by decide +kernel
theorem dX11_digest_70 : decode cX11_digest 70 = .ok (.aload_n 1, 1) := by decide +kernel
theorem dX11_digest_71 : decode cX11_digest 71 = .ok (.invokestatic 317, 3) := by decide +kernel
theorem dX11_digest_74 : decode cX11_digest 74 = .ok (.lstore_n 2, 1) := by decide +kernel
theorem dX11_digest_75 : decode cX11_digest 75 = .ok (.lload_n 2, 1) := by decide +kernel
theorem dX11_digest_76 : decode cX11_digest 76 = .ok (.aload_n 0, 1) := by decide +kernel
theorem dX11_digest_77 : decode cX11_digest 77 = .ok (.invokevirtual 291, 3) := by decide +kernel
theorem dX11_digest_80 : decode cX11_digest 80 = .ok (.i2l, 1) := by decide +kernel
theorem dX11_digest_81 : decode cX11_digest 81 = .ok (.invokestatic 300, 3) := by decide +kernel
theorem dX11_digest_84 : decode cX11_digest 84 = .ok (.lstore_n 2, 1) := by decide +kernel
theorem dX11_digest_85 : decode cX11_digest 85 = .ok (.lload_n 2, 1) := by decide +kernel
theorem dX11_digest_86 : decode cX11_digest 86 = .ok (.aload_n 0, 1) := by decide +kernel
theorem dX11_digest_87 : decode cX11_digest 87 = .ok (.invokevirtual 295, 3) := by decide +kernel
theorem dX11_digest_90 : decode cX11_digest 90 = .ok (.aload_n 1, 1) := by decide +kernel
theorem dX11_digest_91 : decode cX11_digest 91 = .ok (.getfield 244, 3) := by decide +kernel
theorem dX11_digest_94 : decode cX11_digest 94 = .ok (.getfield 288, 3) := by decide +kernel
theorem dX11_digest_97 : decode cX11_digest 97 = .ok (.isub, 1) := by decide +kernel
theorem dX11_digest_98 : decode cX11_digest 98 = .ok (.i2l, 1) := by decide +kernel
theorem dX11_digest_99 : decode cX11_digest 99 = .ok (.invokestatic 300, 3) := by decide +kernel
theorem dX11_digest_102 : decode cX11_digest 102 = .ok (.lstore_n 2, 1) := by decide +kernel
theorem dX11_digest_103 : decode cX11_digest 103 = .ok (.aload_n 0, 1) := by decide +kernel
theorem dX11_digest_104 : decode cX11_digest 104 = .ok (.bipush 6, 2) := by decide +kernel
theorem dX11_digest_106 : decode cX11_digest 106 = .ok (.iconst 4, 1) := by decide +kernel
theorem dX11_digest_107 : decode cX11_digest 107 = .ok (.iconst 1, 1) := by decide +kernel
theorem dX11_digest_108 : decode cX11_digest 108 = .ok (.invokevirtual 273, 3) := by decide +kernel
theorem dX11_digest_111 : decode cX11_digest 111 = .ok (.astore 4, 2) := by decide +kernel
theorem dX11_digest_113 : decode cX11_digest 113 = .ok (.lload_n 2, 1) := by decide +kernel
theorem dX11_digest_114 : decode cX11_digest 114 = .ok (.aload 4, 2) := by decide +kernel
theorem dX11_digest_116 : decode cX11_digest 116 = .ok (.aload_n 0, 1) := by decide +kernel
theorem dX11_digest_117 : decode cX11_digest 117 = .ok (.getfield 40, 3) := by decide +kernel
theorem dX11_digest_120 : decode cX11_digest 120 = .ok (.bipush 9, 2) := by decide +kernel
theorem dX11_digest_122 : decode cX11_digest 122 = .ok (.invokevirtual 262, 3) := by decide +kernel
theorem dX11_digest_125 : decode cX11_digest 125 = .ok (.i2l, 1) := by decide +kernel
theorem dX11_digest_126 : decode cX11_digest 126 = .ok (.invokestatic 300, 3) := by decide +kernel
theorem dX11_digest_129 : decode cX11_digest 129 = .ok (.lstore_n 2, 1) := by decide +kernel
theorem dX11_digest_130 : decode cX11_digest 130 = .ok (.lload_n 2, 1) := by decide +kernel
theorem dX11_digest_131 : decode cX11_digest 131 = .ok (.aload 4, 2) := by decide +kernel
theorem dX11_digest_133 : decode cX11_digest 133 = .ok (.aload_n 0, 1) := by decide +kernel
theorem dX11_digest_134 : decode cX11_digest 134 = .ok (.getfield 40, 3) := by decide +kernel
theorem dX11_digest_137 : decode cX11_digest 137 = .ok (.bipush 13, 2) := by decide +kernel
theorem dX11_digest_139 : decode cX11_digest 139 = .ok (.invokevirtual 262, 3) := by decide +kernel
theorem dX11_digest_142 : decode cX11_digest 142 = .ok (.i2l, 1) := by decide +kernel
theorem dX11_digest_143 : decode cX11_digest 143 = .ok (.invokestatic 300, 3) := by decide +kernel
theorem dX11_digest_146 : decode cX11_digest 146 = .ok (.lreturn, 1) := by decide +kernel
theorem dX11_forget_0 : decode cX11_forget 0 = .ok (.aload_n 0, 1) := by decide +kernel
theorem dX11_forget_1 : decode cX11_forget 1 = .ok (.iconst 0, 1) := by decide +kernel
theorem dX11_forget_2 : decode cX11_forget 2 = .ok (.putfield 320, 3) := by decide +kernel
theorem dX11_forget_5 : decode cX11_forget 5 = .ok (.aload_n 0, 1) := by decide +kernel
theorem dX11_forget_6 : decode cX11_forget 6 = .ok (.iconst 0, 1) := by decide +kernel
theorem dX11_forget_7 : decode cX11_forget 7 = .ok (.putfield 323, 3) := by decide +kernel
theorem dX11_forget_10 : decode cX11_forget 10 = .ok (.return_, 1) := by decide +kernel
theorem dX11_builtNow_0 : decode cX11_builtNow 0 = .ok (.aload_n 0, 1) := by decide +kernel
theorem dX11_builtNow_1 : decode cX11_builtNow 1 = .ok (.getfield 320, 3) := by decide +kernel
theorem dX11_builtNow_4 : decode cX11_builtNow 4 = .ok (.ifCond .ne 27, 3) := by decide +kernel
theorem dX11_builtNow_7 : decode cX11_builtNow 7 = .ok (.aload_n 0, 1) := by decide +kernel
theorem dX11_builtNow_8 : decode cX11_builtNow 8 = .ok (.getfield 40, 3) := by decide +kernel
theorem dX11_builtNow_11 : decode cX11_builtNow 11 = .ok (.iconst 1, 1) := by decide +kernel
theorem dX11_builtNow_12 : decode cX11_builtNow 12 = .ok (.invokevirtual 281, 3) := by decide +kernel
theorem dX11_builtNow_15 : decode cX11_builtNow 15 = .ok (.aload_n 0, 1) := by decide +kernel
theorem dX11_builtNow_16 : decode cX11_builtNow 16 = .ok (.getfield 50, 3) := by decide +kernel
theorem dX11_builtNow_19 : decode cX11_builtNow 19 = .ok (.aload_n 0, 1) := by decide +kernel
theorem dX11_builtNow_20 : decode cX11_builtNow 20 = .ok (.getfield 40, 3) := by decide +kernel
theorem dX11_builtNow_23 : decode cX11_builtNow 23 = .ok (.invokevirtual 285, 3) := by decide +kernel
theorem dX11_builtNow_26 : decode cX11_builtNow 26 = .ok (.aload_n 0, 1) := by decide +kernel
theorem dX11_builtNow_27 : decode cX11_builtNow 27 = .ok (.iconst 1, 1) := by decide +kernel
theorem dX11_builtNow_28 : decode cX11_builtNow 28 = .ok (.putfield 320, 3) := by decide +kernel
theorem dX11_builtNow_31 : decode cX11_builtNow 31 = .ok (.aload_n 0, 1) := by decide +kernel
theorem dX11_builtNow_32 : decode cX11_builtNow 32 = .ok (.getfield 50, 3) := by decide +kernel
theorem dX11_builtNow_35 : decode cX11_builtNow 35 = .ok (.areturn, 1) := by decide +kernel
theorem dX11_meantNow_0 : decode cX11_meantNow 0 = .ok (.aload_n 0, 1) := by decide +kernel
theorem dX11_meantNow_1 : decode cX11_meantNow 1 = .ok (.getfield 323, 3) := by decide +kernel
theorem dX11_meantNow_4 : decode cX11_meantNow 4 = .ok (.ifCond .ne 15, 3) := by decide +kernel
theorem dX11_meantNow_7 : decode cX11_meantNow 7 = .ok (.aload_n 0, 1) := by decide +kernel
theorem dX11_meantNow_8 : decode cX11_meantNow 8 = .ok (.getfield 21, 3) := by decide +kernel
theorem dX11_meantNow_11 : decode cX11_meantNow 11 = .ok (.invokevirtual 326, 3) := by decide +kernel
theorem dX11_meantNow_14 : decode cX11_meantNow 14 = .ok (.aload_n 0, 1) := by decide +kernel
theorem dX11_meantNow_15 : decode cX11_meantNow 15 = .ok (.iconst 1, 1) := by decide +kernel
theorem dX11_meantNow_16 : decode cX11_meantNow 16 = .ok (.putfield 323, 3) := by decide +kernel
theorem dX11_meantNow_19 : decode cX11_meantNow 19 = .ok (.aload_n 0, 1) := by decide +kernel
theorem dX11_meantNow_20 : decode cX11_meantNow 20 = .ok (.getfield 21, 3) := by decide +kernel
theorem dX11_meantNow_23 : decode cX11_meantNow 23 = .ok (.areturn, 1) := by decide +kernel
theorem dX11_builtWith_0 : decode cX11_builtWith 0 = .ok (.aload_n 0, 1) := by decide +kernel
theorem dX11_builtWith_1 : decode cX11_builtWith 1 = .ok (.getfield 32, 3) := by decide +kernel
theorem dX11_builtWith_4 : decode cX11_builtWith 4 = .ok (.aload_n 0, 1) := by decide +kernel
theorem dX11_builtWith_5 : decode cX11_builtWith 5 = .ok (.getfield 28, 3) := by decide +kernel
theorem dX11_builtWith_8 : decode cX11_builtWith 8 = .ok (.invokevirtual 277, 3) := by decide +kernel
theorem dX11_builtWith_11 : decode cX11_builtWith 11 = .ok (.aload_n 0, 1) := by decide +kernel
theorem dX11_builtWith_12 : decode cX11_builtWith 12 = .ok (.getfield 32, 3) := by decide +kernel
theorem dX11_builtWith_15 : decode cX11_builtWith 15 = .ok (.iload_n 1, 1) := by decide +kernel
theorem dX11_builtWith_16 : decode cX11_builtWith 16 = .ok (.putfield 68, 3) := by decide +kernel
theorem dX11_builtWith_19 : decode cX11_builtWith 19 = .ok (.aload_n 0, 1) := by decide +kernel
theorem dX11_builtWith_20 : decode cX11_builtWith 20 = .ok (.getfield 32, 3) := by decide +kernel
theorem dX11_builtWith_23 : decode cX11_builtWith 23 = .ok (.iload_n 2, 1) := by decide +kernel
theorem dX11_builtWith_24 : decode cX11_builtWith 24 = .ok (.putfield 72, 3) := by decide +kernel
theorem dX11_builtWith_27 : decode cX11_builtWith 27 = .ok (.aload_n 0, 1) := by decide +kernel
theorem dX11_builtWith_28 : decode cX11_builtWith 28 = .ok (.getfield 32, 3) := by decide +kernel
theorem dX11_builtWith_31 : decode cX11_builtWith 31 = .ok (.iload_n 3, 1) := by decide +kernel
theorem dX11_builtWith_32 : decode cX11_builtWith 32 = .ok (.putfield 82, 3) := by decide +kernel
theorem dX11_builtWith_35 : decode cX11_builtWith 35 = .ok (.aload_n 0, 1) := by decide +kernel
theorem dX11_builtWith_36 : decode cX11_builtWith 36 = .ok (.getfield 54, 3) := by decide +kernel
theorem dX11_builtWith_39 : decode cX11_builtWith 39 = .ok (.aload_n 0, 1) := by decide +kernel
theorem dX11_builtWith_40 : decode cX11_builtWith 40 = .ok (.getfield 40, 3) := by decide +kernel
theorem dX11_builtWith_43 : decode cX11_builtWith 43 = .ok (.invokevirtual 285, 3) := by decide +kernel
theorem dX11_builtWith_46 : decode cX11_builtWith 46 = .ok (.aload_n 0, 1) := by decide +kernel
theorem dX11_builtWith_47 : decode cX11_builtWith 47 = .ok (.getfield 54, 3) := by decide +kernel
theorem dX11_builtWith_50 : decode cX11_builtWith 50 = .ok (.areturn, 1) := by decide +kernel
theorem dX11_fewestRegisters_0 : decode cX11_fewestRegisters 0 = .ok (.aload_n 0, 1) := by decide +kernel
theorem dX11_fewestRegisters_1 : decode cX11_fewestRegisters 1 = .ok (.getfield 32, 3) := by decide +kernel
theorem dX11_fewestRegisters_4 : decode cX11_fewestRegisters 4 = .ok (.aload_n 0, 1) := by decide +kernel
theorem dX11_fewestRegisters_5 : decode cX11_fewestRegisters 5 = .ok (.getfield 28, 3) := by decide +kernel
theorem dX11_fewestRegisters_8 : decode cX11_fewestRegisters 8 = .ok (.invokevirtual 277, 3) := by decide +kernel
theorem dX11_fewestRegisters_11 : decode cX11_fewestRegisters 11 = .ok (.iconst 5, 1) := by decide +kernel
theorem dX11_fewestRegisters_12 : decode cX11_fewestRegisters 12 = .ok (.istore_n 1, 1) := by decide +kernel
theorem dX11_fewestRegisters_13 : decode cX11_fewestRegisters 13 = .ok (.iload_n 1, 1) := by decide +kernel
theorem dX11_fewestRegisters_14 : decode cX11_fewestRegisters 14 = .ok (.bipush 11, 2) := by decide +kernel
theorem dX11_fewestRegisters_16 : decode cX11_fewestRegisters 16 = .ok (.if_icmp .gt 83, 3) := by decide +kernel
theorem dX11_fewestRegisters_19 : decode cX11_fewestRegisters 19 = .ok (.aload_n 0, 1) := by decide +kernel
theorem dX11_fewestRegisters_20 : decode cX11_fewestRegisters 20 = .ok (.getfield 32, 3) := by decide +kernel
theorem dX11_fewestRegisters_23 : decode cX11_fewestRegisters 23 = .ok (.iload_n 1, 1) := by decide +kernel
theorem dX11_fewestRegisters_24 : decode cX11_fewestRegisters 24 = .ok (.putfield 68, 3) := by decide +kernel
theorem dX11_fewestRegisters_27 : decode cX11_fewestRegisters 27 = .ok (.aload_n 0, 1) := by decide +kernel
theorem dX11_fewestRegisters_28 : decode cX11_fewestRegisters 28 = .ok (.getfield 32, 3) := by decide +kernel
theorem dX11_fewestRegisters_31 : decode cX11_fewestRegisters 31 = .ok (.aload_n 0, 1) := by decide +kernel
theorem dX11_fewestRegisters_32 : decode cX11_fewestRegisters 32 = .ok (.getfield 28, 3) := by decide +kernel
theorem dX11_fewestRegisters_35 : decode cX11_fewestRegisters 35 = .ok (.getfield 72, 3) := by decide +kernel
theorem dX11_fewestRegisters_38 : decode cX11_fewestRegisters 38 = .ok (.aload_n 0, 1) := by decide +kernel
theorem dX11_fewestRegisters_39 : decode cX11_fewestRegisters 39 = .ok (.getfield 32, 3) := by decide +kernel
theorem dX11_fewestRegisters_42 : decode cX11_fewestRegisters 42 = .ok (.invokevirtual 329, 3) := by decide +kernel
theorem dX11_fewestRegisters_45 : decode cX11_fewestRegisters 45 = .ok (.invokestatic 332, 3) := by decide +kernel
theorem dX11_fewestRegisters_48 : decode cX11_fewestRegisters 48 = .ok (.iconst 1, 1) := by decide +kernel
theorem dX11_fewestRegisters_49 : decode cX11_fewestRegisters 49 = .ok (.isub, 1) := by decide +kernel
theorem dX11_fewestRegisters_50 : decode cX11_fewestRegisters 50 = .ok (.iand, 1) := by decide +kernel
theorem dX11_fewestRegisters_51 : decode cX11_fewestRegisters 51 = .ok (.putfield 72, 3) := by decide +kernel
theorem dX11_fewestRegisters_54 : decode cX11_fewestRegisters 54 = .ok (.aload_n 0, 1) := by decide +kernel
theorem dX11_fewestRegisters_55 : decode cX11_fewestRegisters 55 = .ok (.getfield 54, 3) := by decide +kernel
theorem dX11_fewestRegisters_58 : decode cX11_fewestRegisters 58 = .ok (.getfield 335, 3) := by decide +kernel
theorem dX11_fewestRegisters_61 : decode cX11_fewestRegisters 61 = .ok (.aload_n 0, 1) := by decide +kernel
theorem dX11_fewestRegisters_62 : decode cX11_fewestRegisters 62 = .ok (.getfield 40, 3) := by decide +kernel
theorem dX11_fewestRegisters_65 : decode cX11_fewestRegisters 65 = .ok (.getfield 181, 3) := by decide +kernel
theorem dX11_fewestRegisters_68 : decode cX11_fewestRegisters 68 = .ok (.aload_n 0, 1) := by decide +kernel
theorem dX11_fewestRegisters_69 : decode cX11_fewestRegisters 69 = .ok (.getfield 40, 3) := by decide +kernel
theorem dX11_fewestRegisters_72 : decode cX11_fewestRegisters 72 = .ok (.getfield 198, 3) := by decide +kernel
theorem dX11_fewestRegisters_75 : decode cX11_fewestRegisters 75 = .ok (.invokevirtual 339, 3) := by decide +kernel
theorem dX11_fewestRegisters_78 : decode cX11_fewestRegisters 78 = .ok (.aload_n 0, 1) := by decide +kernel
theorem dX11_fewestRegisters_79 : decode cX11_fewestRegisters 79 = .ok (.getfield 54, 3) := by decide +kernel
theorem dX11_fewestRegisters_82 : decode cX11_fewestRegisters 82 = .ok (.getfield 335, 3) := by decide +kernel
theorem dX11_fewestRegisters_85 : decode cX11_fewestRegisters 85 = .ok (.getfield 345, 3) := by decide +kernel
theorem dX11_fewestRegisters_88 : decode cX11_fewestRegisters 88 = .ok (.ifCond .ne 5, 3) := by decide +kernel
theorem dX11_fewestRegisters_91 : decode cX11_fewestRegisters 91 = .ok (.iload_n 1, 1) := by decide +kernel
theorem dX11_fewestRegisters_92 : decode cX11_fewestRegisters 92 = .ok (.ireturn, 1) := by decide +kernel
theorem dX11_fewestRegisters_93 : decode cX11_fewestRegisters 93 = .ok (.iinc 1 1, 3) := by decide +kernel
theorem dX11_fewestRegisters_96 : decode cX11_fewestRegisters 96 = .ok (.goto (-83), 3) := by decide +kernel
theorem dX11_fewestRegisters_99 : decode cX11_fewestRegisters 99 = .ok (.iconst (-1), 1) := by decide +kernel
theorem dX11_fewestRegisters_100 : decode cX11_fewestRegisters 100 = .ok (.ireturn, 1) := by decide +kernel
theorem dX11_cyclesUnordered_0 : decode cX11_cyclesUnordered 0 = .ok (.aload_n 0, 1) := by decide +kernel
theorem dX11_cyclesUnordered_1 : decode cX11_cyclesUnordered 1 = .ok (.getfield 32, 3) := by decide +kernel
theorem dX11_cyclesUnordered_4 : decode cX11_cyclesUnordered 4 = .ok (.aload_n 0, 1) := by decide +kernel
theorem dX11_cyclesUnordered_5 : decode cX11_cyclesUnordered 5 = .ok (.getfield 28, 3) := by decide +kernel
theorem dX11_cyclesUnordered_8 : decode cX11_cyclesUnordered 8 = .ok (.invokevirtual 277, 3) := by decide +kernel
theorem dX11_cyclesUnordered_11 : decode cX11_cyclesUnordered 11 = .ok (.aload_n 0, 1) := by decide +kernel
theorem dX11_cyclesUnordered_12 : decode cX11_cyclesUnordered 12 = .ok (.getfield 44, 3) := by decide +kernel
theorem dX11_cyclesUnordered_15 : decode cX11_cyclesUnordered 15 = .ok (.iconst 0, 1) := by decide +kernel
theorem dX11_cyclesUnordered_16 : decode cX11_cyclesUnordered 16 = .ok (.invokevirtual 281, 3) := by decide +kernel
theorem dX11_cyclesUnordered_19 : decode cX11_cyclesUnordered 19 = .ok (.aload_n 0, 1) := by decide +kernel
theorem dX11_cyclesUnordered_20 : decode cX11_cyclesUnordered 20 = .ok (.getfield 54, 3) := by decide +kernel
theorem dX11_cyclesUnordered_23 : decode cX11_cyclesUnordered 23 = .ok (.aload_n 0, 1) := by decide +kernel
theorem dX11_cyclesUnordered_24 : decode cX11_cyclesUnordered 24 = .ok (.getfield 44, 3) := by decide +kernel
theorem dX11_cyclesUnordered_27 : decode cX11_cyclesUnordered 27 = .ok (.invokevirtual 285, 3) := by decide +kernel
theorem dX11_cyclesUnordered_30 : decode cX11_cyclesUnordered 30 = .ok (.aload_n 0, 1) := by decide +kernel
theorem dX11_cyclesUnordered_31 : decode cX11_cyclesUnordered 31 = .ok (.getfield 54, 3) := by decide +kernel
theorem dX11_cyclesUnordered_34 : decode cX11_cyclesUnordered 34 = .ok (.getfield 244, 3) := by decide +kernel
theorem dX11_cyclesUnordered_37 : decode cX11_cyclesUnordered 37 = .ok (.getfield 288, 3) := by decide +kernel
theorem dX11_cyclesUnordered_40 : decode cX11_cyclesUnordered 40 = .ok (.ireturn, 1) := by decide +kernel
theorem dX11_mixVariables_0 : decode cX11_mixVariables 0 = .ok (.lload_n 1, 1) := by decide +kernel
theorem dX11_mixVariables_1 : decode cX11_mixVariables 1 = .ok (.lstore 4, 2) := by decide +kernel
theorem dX11_mixVariables_3 : decode cX11_mixVariables 3 = .ok (.aload_n 0, 1) := by decide +kernel
theorem dX11_mixVariables_4 : decode cX11_mixVariables 4 = .ok (.invokevirtual 170, 3) := by decide +kernel
theorem dX11_mixVariables_7 : decode cX11_mixVariables 7 = .ok (.astore 6, 2) := by decide +kernel
theorem dX11_mixVariables_9 : decode cX11_mixVariables 9 = .ok (.iconst 0, 1) := by decide +kernel
theorem dX11_mixVariables_10 : decode cX11_mixVariables 10 = .ok (.istore 7, 2) := by decide +kernel
theorem dX11_mixVariables_12 : decode cX11_mixVariables 12 = .ok (.iload 7, 2) := by decide +kernel
theorem dX11_mixVariables_14 : decode cX11_mixVariables 14 = .ok (.bipush 8, 2) := by decide +kernel
theorem dX11_mixVariables_16 : decode cX11_mixVariables 16 = .ok (.if_icmp .ge 27, 3) := by decide +kernel
theorem dX11_mixVariables_19 : decode cX11_mixVariables 19 = .ok (.lload 4, 2) := by decide +kernel
theorem dX11_mixVariables_21 : decode cX11_mixVariables 21 = .ok (.aload 6, 2) := by decide +kernel
theorem dX11_mixVariables_23 : decode cX11_mixVariables 23 = .ok (.getfield 174, 3) := by decide +kernel
theorem dX11_mixVariables_26 : decode cX11_mixVariables 26 = .ok (.iload 7, 2) := by decide +kernel
theorem dX11_mixVariables_28 : decode cX11_mixVariables 28 = .ok (.invokestatic 102, 3) := by decide +kernel
theorem dX11_mixVariables_31 : decode cX11_mixVariables 31 = .ok (.i2l, 1) := by decide +kernel
theorem dX11_mixVariables_32 : decode cX11_mixVariables 32 = .ok (.invokestatic 300, 3) := by decide +kernel
theorem dX11_mixVariables_35 : decode cX11_mixVariables 35 = .ok (.lstore 4, 2) := by decide +kernel
theorem dX11_mixVariables_37 : decode cX11_mixVariables 37 = .ok (.iinc 7 1, 3) := by decide +kernel
theorem dX11_mixVariables_40 : decode cX11_mixVariables 40 = .ok (.goto (-28), 3) := by decide +kernel
theorem dX11_mixVariables_43 : decode cX11_mixVariables 43 = .ok (.iconst 0, 1) := by decide +kernel
theorem dX11_mixVariables_44 : decode cX11_mixVariables 44 = .ok (.istore 7, 2) := by decide +kernel
theorem dX11_mixVariables_46 : decode cX11_mixVariables 46 = .ok (.iload 7, 2) := by decide +kernel
theorem dX11_mixVariables_48 : decode cX11_mixVariables 48 = .ok (.bipush 8, 2) := by decide +kernel
theorem dX11_mixVariables_50 : decode cX11_mixVariables 50 = .ok (.if_icmp .ge 42, 3) := by decide +kernel
theorem dX11_mixVariables_53 : decode cX11_mixVariables 53 = .ok (.aload_n 0, 1) := by decide +kernel
theorem dX11_mixVariables_54 : decode cX11_mixVariables 54 = .ok (.getfield 12, 3) := by decide +kernel
theorem dX11_mixVariables_57 : decode cX11_mixVariables 57 = .ok (.getfield 165, 3) := by decide +kernel
theorem dX11_mixVariables_60 : decode cX11_mixVariables 60 = .ok (.iload 7, 2) := by decide +kernel
theorem dX11_mixVariables_62 : decode cX11_mixVariables 62 = .ok (.invokestatic 253, 3) := by decide +kernel
theorem dX11_mixVariables_65 : decode cX11_mixVariables 65 = .ok (.ifCond .eq 21, 3) := by decide +kernel
theorem dX11_mixVariables_68 : decode cX11_mixVariables 68 = .ok (.lload 4, 2) := by decide +kernel
theorem dX11_mixVariables_70 : decode cX11_mixVariables 70 = .ok (.aload_n 3, 1) := by decide +kernel
theorem dX11_mixVariables_71 : decode cX11_mixVariables 71 = .ok (.aload_n 0, 1) := by decide +kernel
theorem dX11_mixVariables_72 : decode cX11_mixVariables 72 = .ok (.getfield 40, 3) := by decide +kernel
theorem dX11_mixVariables_75 : decode cX11_mixVariables 75 = .ok (.iload 7, 2) := by decide +kernel
theorem dX11_mixVariables_77 : decode cX11_mixVariables 77 = .ok (.invokevirtual 258, 3) := by decide +kernel
theorem dX11_mixVariables_80 : decode cX11_mixVariables 80 = .ok (.i2l, 1) := by decide +kernel
theorem dX11_mixVariables_81 : decode cX11_mixVariables 81 = .ok (.invokestatic 300, 3) := by decide +kernel
theorem dX11_mixVariables_84 : decode cX11_mixVariables 84 = .ok (.lstore 4, 2) := by decide +kernel
theorem dX11_mixVariables_86 : decode cX11_mixVariables 86 = .ok (.iinc 7 1, 3) := by decide +kernel
theorem dX11_mixVariables_89 : decode cX11_mixVariables 89 = .ok (.goto (-43), 3) := by decide +kernel
theorem dX11_mixVariables_92 : decode cX11_mixVariables 92 = .ok (.lload 4, 2) := by decide +kernel
theorem dX11_mixVariables_94 : decode cX11_mixVariables 94 = .ok (.lreturn, 1) := by decide +kernel
theorem dX11_mixLines_0 : decode cX11_mixLines 0 = .ok (.lload_n 1, 1) := by decide +kernel
theorem dX11_mixLines_1 : decode cX11_mixLines 1 = .ok (.lstore 4, 2) := by decide +kernel
theorem dX11_mixLines_3 : decode cX11_mixLines 3 = .ok (.iconst 0, 1) := by decide +kernel
theorem dX11_mixLines_4 : decode cX11_mixLines 4 = .ok (.istore 6, 2) := by decide +kernel
theorem dX11_mixLines_6 : decode cX11_mixLines 6 = .ok (.iload 6, 2) := by decide +kernel
theorem dX11_mixLines_8 : decode cX11_mixLines 8 = .ok (.aload_n 0, 1) := by decide +kernel
theorem dX11_mixLines_9 : decode cX11_mixLines 9 = .ok (.getfield 40, 3) := by decide +kernel
theorem dX11_mixLines_12 : decode cX11_mixLines 12 = .ok (.getfield 181, 3) := by decide +kernel
theorem dX11_mixLines_15 : decode cX11_mixLines 15 = .ok (.getfield 185, 3) := by decide +kernel
theorem dX11_mixLines_18 : decode cX11_mixLines 18 = .ok (.if_icmp .ge 45, 3) := by decide +kernel
theorem dX11_mixLines_21 : decode cX11_mixLines 21 = .ok (.iconst 0, 1) := by decide +kernel
theorem dX11_mixLines_22 : decode cX11_mixLines 22 = .ok (.istore 7, 2) := by decide +kernel
theorem dX11_mixLines_24 : decode cX11_mixLines 24 = .ok (.iload 7, 2) := by decide +kernel
theorem dX11_mixLines_26 : decode cX11_mixLines 26 = .ok (.bipush 8, 2) := by decide +kernel
theorem dX11_mixLines_28 : decode cX11_mixLines 28 = .ok (.if_icmp .ge 29, 3) := by decide +kernel
theorem dX11_mixLines_31 : decode cX11_mixLines 31 = .ok (.lload 4, 2) := by decide +kernel
theorem dX11_mixLines_33 : decode cX11_mixLines 33 = .ok (.aload_n 3, 1) := by decide +kernel
theorem dX11_mixLines_34 : decode cX11_mixLines 34 = .ok (.aload_n 0, 1) := by decide +kernel
theorem dX11_mixLines_35 : decode cX11_mixLines 35 = .ok (.getfield 40, 3) := by decide +kernel
theorem dX11_mixLines_38 : decode cX11_mixLines 38 = .ok (.iload 6, 2) := by decide +kernel
theorem dX11_mixLines_40 : decode cX11_mixLines 40 = .ok (.iload 7, 2) := by decide +kernel
theorem dX11_mixLines_42 : decode cX11_mixLines 42 = .ok (.invokevirtual 194, 3) := by decide +kernel
theorem dX11_mixLines_45 : decode cX11_mixLines 45 = .ok (.i2l, 1) := by decide +kernel
theorem dX11_mixLines_46 : decode cX11_mixLines 46 = .ok (.invokestatic 300, 3) := by decide +kernel
theorem dX11_mixLines_49 : decode cX11_mixLines 49 = .ok (.lstore 4, 2) := by decide +kernel
theorem dX11_mixLines_51 : decode cX11_mixLines 51 = .ok (.iinc 7 1, 3) := by decide +kernel
theorem dX11_mixLines_54 : decode cX11_mixLines 54 = .ok (.goto (-30), 3) := by decide +kernel
theorem dX11_mixLines_57 : decode cX11_mixLines 57 = .ok (.iinc 6 1, 3) := by decide +kernel
theorem dX11_mixLines_60 : decode cX11_mixLines 60 = .ok (.goto (-54), 3) := by decide +kernel
end
section
theorem dX11_mixLines_63 : decode cX11_mixLines 63 = .ok (.lload 4, 2) := by decide +kernel
theorem dX11_mixLines_65 : decode cX11_mixLines 65 = .ok (.lreturn, 1) := by decide +kernel
theorem dX11_mixValues_0 : decode cX11_mixValues 0 = .ok (.lload_n 1, 1) := by decide +kernel
theorem dX11_mixValues_1 : decode cX11_mixValues 1 = .ok (.lstore 4, 2) := by decide +kernel
theorem dX11_mixValues_3 : decode cX11_mixValues 3 = .ok (.iconst 0, 1) := by decide +kernel
theorem dX11_mixValues_4 : decode cX11_mixValues 4 = .ok (.istore 6, 2) := by decide +kernel
theorem dX11_mixValues_6 : decode cX11_mixValues 6 = .ok (.iload 6, 2) := by decide +kernel
theorem dX11_mixValues_8 : decode cX11_mixValues 8 = .ok (.aload_n 0, 1) := by decide +kernel
theorem dX11_mixValues_9 : decode cX11_mixValues 9 = .ok (.getfield 40, 3) := by decide +kernel
theorem dX11_mixValues_12 : decode cX11_mixValues 12 = .ok (.getfield 198, 3) := by decide +kernel
theorem dX11_mixValues_15 : decode cX11_mixValues 15 = .ok (.getfield 348, 3) := by decide +kernel
theorem dX11_mixValues_18 : decode cX11_mixValues 18 = .ok (.if_icmp .ge 70, 3) := by decide +kernel
theorem dX11_mixValues_21 : decode cX11_mixValues 21 = .ok (.aload_n 0, 1) := by decide +kernel
theorem dX11_mixValues_22 : decode cX11_mixValues 22 = .ok (.getfield 40, 3) := by decide +kernel
theorem dX11_mixValues_25 : decode cX11_mixValues 25 = .ok (.getfield 198, 3) := by decide +kernel
theorem dX11_mixValues_28 : decode cX11_mixValues 28 = .ok (.iload 6, 2) := by decide +kernel
theorem dX11_mixValues_30 : decode cX11_mixValues 30 = .ok (.invokevirtual 202, 3) := by decide +kernel
theorem dX11_mixValues_33 : decode cX11_mixValues 33 = .ok (.ifCond .eq 49, 3) := by decide +kernel
theorem dX11_mixValues_36 : decode cX11_mixValues 36 = .ok (.lload 4, 2) := by decide +kernel
theorem dX11_mixValues_38 : decode cX11_mixValues 38 = .ok (.iload 6, 2) := by decide +kernel
theorem dX11_mixValues_40 : decode cX11_mixValues 40 = .ok (.i2l, 1) := by decide +kernel
theorem dX11_mixValues_41 : decode cX11_mixValues 41 = .ok (.invokestatic 300, 3) := by decide +kernel
theorem dX11_mixValues_44 : decode cX11_mixValues 44 = .ok (.lstore 4, 2) := by decide +kernel
theorem dX11_mixValues_46 : decode cX11_mixValues 46 = .ok (.iconst 0, 1) := by decide +kernel
theorem dX11_mixValues_47 : decode cX11_mixValues 47 = .ok (.istore 7, 2) := by decide +kernel
theorem dX11_mixValues_49 : decode cX11_mixValues 49 = .ok (.iload 7, 2) := by decide +kernel
theorem dX11_mixValues_51 : decode cX11_mixValues 51 = .ok (.bipush 8, 2) := by decide +kernel
theorem dX11_mixValues_53 : decode cX11_mixValues 53 = .ok (.if_icmp .ge 29, 3) := by decide +kernel
theorem dX11_mixValues_56 : decode cX11_mixValues 56 = .ok (.lload 4, 2) := by decide +kernel
theorem dX11_mixValues_58 : decode cX11_mixValues 58 = .ok (.aload_n 3, 1) := by decide +kernel
theorem dX11_mixValues_59 : decode cX11_mixValues 59 = .ok (.aload_n 0, 1) := by decide +kernel
theorem dX11_mixValues_60 : decode cX11_mixValues 60 = .ok (.getfield 40, 3) := by decide +kernel
theorem dX11_mixValues_63 : decode cX11_mixValues 63 = .ok (.iload 6, 2) := by decide +kernel
theorem dX11_mixValues_65 : decode cX11_mixValues 65 = .ok (.iload 7, 2) := by decide +kernel
theorem dX11_mixValues_67 : decode cX11_mixValues 67 = .ok (.invokevirtual 209, 3) := by decide +kernel
theorem dX11_mixValues_70 : decode cX11_mixValues 70 = .ok (.i2l, 1) := by decide +kernel
theorem dX11_mixValues_71 : decode cX11_mixValues 71 = .ok (.invokestatic 300, 3) := by decide +kernel
theorem dX11_mixValues_74 : decode cX11_mixValues 74 = .ok (.lstore 4, 2) := by decide +kernel
theorem dX11_mixValues_76 : decode cX11_mixValues 76 = .ok (.iinc 7 1, 3) := by decide +kernel
theorem dX11_mixValues_79 : decode cX11_mixValues 79 = .ok (.goto (-30), 3) := by decide +kernel
theorem dX11_mixValues_82 : decode cX11_mixValues 82 = .ok (.iinc 6 1, 3) := by decide +kernel
theorem dX11_mixValues_85 : decode cX11_mixValues 85 = .ok (.goto (-79), 3) := by decide +kernel
theorem dX11_mixValues_88 : decode cX11_mixValues 88 = .ok (.lload 4, 2) := by decide +kernel
theorem dX11_mixValues_90 : decode cX11_mixValues 90 = .ok (.lreturn, 1) := by decide +kernel
theorem dX11_mixCalls_0 : decode cX11_mixCalls 0 = .ok (.lload_n 1, 1) := by decide +kernel
theorem dX11_mixCalls_1 : decode cX11_mixCalls 1 = .ok (.lstore 4, 2) := by decide +kernel
theorem dX11_mixCalls_3 : decode cX11_mixCalls 3 = .ok (.iconst 0, 1) := by decide +kernel
theorem dX11_mixCalls_4 : decode cX11_mixCalls 4 = .ok (.istore 6, 2) := by decide +kernel
theorem dX11_mixCalls_6 : decode cX11_mixCalls 6 = .ok (.iload 6, 2) := by decide +kernel
theorem dX11_mixCalls_8 : decode cX11_mixCalls 8 = .ok (.aload_n 0, 1) := by decide +kernel
theorem dX11_mixCalls_9 : decode cX11_mixCalls 9 = .ok (.getfield 40, 3) := by decide +kernel
theorem dX11_mixCalls_12 : decode cX11_mixCalls 12 = .ok (.getfield 198, 3) := by decide +kernel
theorem dX11_mixCalls_15 : decode cX11_mixCalls 15 = .ok (.getfield 212, 3) := by decide +kernel
theorem dX11_mixCalls_18 : decode cX11_mixCalls 18 = .ok (.if_icmp .ge 44, 3) := by decide +kernel
theorem dX11_mixCalls_21 : decode cX11_mixCalls 21 = .ok (.iconst 0, 1) := by decide +kernel
theorem dX11_mixCalls_22 : decode cX11_mixCalls 22 = .ok (.istore 7, 2) := by decide +kernel
theorem dX11_mixCalls_24 : decode cX11_mixCalls 24 = .ok (.iload 7, 2) := by decide +kernel
theorem dX11_mixCalls_26 : decode cX11_mixCalls 26 = .ok (.iconst 4, 1) := by decide +kernel
theorem dX11_mixCalls_27 : decode cX11_mixCalls 27 = .ok (.if_icmp .ge 29, 3) := by decide +kernel
theorem dX11_mixCalls_30 : decode cX11_mixCalls 30 = .ok (.lload 4, 2) := by decide +kernel
theorem dX11_mixCalls_32 : decode cX11_mixCalls 32 = .ok (.aload_n 3, 1) := by decide +kernel
theorem dX11_mixCalls_33 : decode cX11_mixCalls 33 = .ok (.aload_n 0, 1) := by decide +kernel
theorem dX11_mixCalls_34 : decode cX11_mixCalls 34 = .ok (.getfield 40, 3) := by decide +kernel
theorem dX11_mixCalls_37 : decode cX11_mixCalls 37 = .ok (.iload 6, 2) := by decide +kernel
theorem dX11_mixCalls_39 : decode cX11_mixCalls 39 = .ok (.iload 7, 2) := by decide +kernel
theorem dX11_mixCalls_41 : decode cX11_mixCalls 41 = .ok (.invokevirtual 217, 3) := by decide +kernel
theorem dX11_mixCalls_44 : decode cX11_mixCalls 44 = .ok (.i2l, 1) := by decide +kernel
theorem dX11_mixCalls_45 : decode cX11_mixCalls 45 = .ok (.invokestatic 300, 3) := by decide +kernel
theorem dX11_mixCalls_48 : decode cX11_mixCalls 48 = .ok (.lstore 4, 2) := by decide +kernel
theorem dX11_mixCalls_50 : decode cX11_mixCalls 50 = .ok (.iinc 7 1, 3) := by decide +kernel
theorem dX11_mixCalls_53 : decode cX11_mixCalls 53 = .ok (.goto (-29), 3) := by decide +kernel
theorem dX11_mixCalls_56 : decode cX11_mixCalls 56 = .ok (.iinc 6 1, 3) := by decide +kernel
theorem dX11_mixCalls_59 : decode cX11_mixCalls 59 = .ok (.goto (-53), 3) := by decide +kernel
theorem dX11_mixCalls_62 : decode cX11_mixCalls 62 = .ok (.lload 4, 2) := by decide +kernel
theorem dX11_mixCalls_64 : decode cX11_mixCalls 64 = .ok (.lreturn, 1) := by decide +kernel
theorem dX11_mixCode_0 : decode cX11_mixCode 0 = .ok (.lload_n 0, 1) := by decide +kernel
theorem dX11_mixCode_1 : decode cX11_mixCode 1 = .ok (.lstore_n 3, 1) := by decide +kernel
theorem dX11_mixCode_2 : decode cX11_mixCode 2 = .ok (.iconst 0, 1) := by decide +kernel
theorem dX11_mixCode_3 : decode cX11_mixCode 3 = .ok (.istore 5, 2) := by decide +kernel
theorem dX11_mixCode_5 : decode cX11_mixCode 5 = .ok (.iload 5, 2) := by decide +kernel
theorem dX11_mixCode_7 : decode cX11_mixCode 7 = .ok (.aload_n 2, 1) := by decide +kernel
theorem dX11_mixCode_8 : decode cX11_mixCode 8 = .ok (.getfield 229, 3) := by decide +kernel
theorem dX11_mixCode_11 : decode cX11_mixCode 11 = .ok (.getfield 233, 3) := by decide +kernel
theorem dX11_mixCode_14 : decode cX11_mixCode 14 = .ok (.if_icmp .ge 60, 3) := by decide +kernel
theorem dX11_mixCode_17 : decode cX11_mixCode 17 = .ok (.iconst 0, 1) := by decide +kernel
theorem dX11_mixCode_18 : decode cX11_mixCode 18 = .ok (.istore 6, 2) := by decide +kernel
theorem dX11_mixCode_20 : decode cX11_mixCode 20 = .ok (.iload 6, 2) := by decide +kernel
theorem dX11_mixCode_22 : decode cX11_mixCode 22 = .ok (.bipush 6, 2) := by decide +kernel
theorem dX11_mixCode_24 : decode cX11_mixCode 24 = .ok (.if_icmp .ge 26, 3) := by decide +kernel
theorem dX11_mixCode_27 : decode cX11_mixCode 27 = .ok (.lload_n 3, 1) := by decide +kernel
theorem dX11_mixCode_28 : decode cX11_mixCode 28 = .ok (.aload_n 2, 1) := by decide +kernel
theorem dX11_mixCode_29 : decode cX11_mixCode 29 = .ok (.getfield 229, 3) := by decide +kernel
theorem dX11_mixCode_32 : decode cX11_mixCode 32 = .ok (.iload 5, 2) := by decide +kernel
theorem dX11_mixCode_34 : decode cX11_mixCode 34 = .ok (.iload 6, 2) := by decide +kernel
theorem dX11_mixCode_36 : decode cX11_mixCode 36 = .ok (.invokevirtual 240, 3) := by decide +kernel
theorem dX11_mixCode_39 : decode cX11_mixCode 39 = .ok (.i2l, 1) := by decide +kernel
theorem dX11_mixCode_40 : decode cX11_mixCode 40 = .ok (.invokestatic 300, 3) := by decide +kernel
theorem dX11_mixCode_43 : decode cX11_mixCode 43 = .ok (.lstore_n 3, 1) := by decide +kernel
theorem dX11_mixCode_44 : decode cX11_mixCode 44 = .ok (.iinc 6 1, 3) := by decide +kernel
theorem dX11_mixCode_47 : decode cX11_mixCode 47 = .ok (.goto (-27), 3) := by decide +kernel
theorem dX11_mixCode_50 : decode cX11_mixCode 50 = .ok (.lload_n 3, 1) := by decide +kernel
theorem dX11_mixCode_51 : decode cX11_mixCode 51 = .ok (.aload_n 2, 1) := by decide +kernel
theorem dX11_mixCode_52 : decode cX11_mixCode 52 = .ok (.getfield 244, 3) := by decide +kernel
theorem dX11_mixCode_55 : decode cX11_mixCode 55 = .ok (.getfield 248, 3) := by decide +kernel
theorem dX11_mixCode_58 : decode cX11_mixCode 58 = .ok (.iload 5, 2) := by decide +kernel
theorem dX11_mixCode_60 : decode cX11_mixCode 60 = .ok (.invokestatic 102, 3) := by decide +kernel
theorem dX11_mixCode_63 : decode cX11_mixCode 63 = .ok (.i2l, 1) := by decide +kernel
theorem dX11_mixCode_64 : decode cX11_mixCode 64 = .ok (.invokestatic 300, 3) := by decide +kernel
theorem dX11_mixCode_67 : decode cX11_mixCode 67 = .ok (.lstore_n 3, 1) := by decide +kernel
theorem dX11_mixCode_68 : decode cX11_mixCode 68 = .ok (.iinc 5 1, 3) := by decide +kernel
theorem dX11_mixCode_71 : decode cX11_mixCode 71 = .ok (.goto (-66), 3) := by decide +kernel
theorem dX11_mixCode_74 : decode cX11_mixCode 74 = .ok (.lload_n 3, 1) := by decide +kernel
theorem dX11_mixCode_75 : decode cX11_mixCode 75 = .ok (.lreturn, 1) := by decide +kernel
theorem dX11_mix_0 : decode cX11_mix 0 = .ok (.lload_n 0, 1) := by decide +kernel
theorem dX11_mix_1 : decode cX11_mix 1 = .ok (.ldc2_w 351, 3) := by decide +kernel
theorem dX11_mix_4 : decode cX11_mix 4 = .ok (.lmul, 1) := by decide +kernel
theorem dX11_mix_5 : decode cX11_mix 5 = .ok (.lload_n 2, 1) := by decide +kernel
theorem dX11_mix_6 : decode cX11_mix 6 = .ok (.ladd, 1) := by decide +kernel
theorem dX11_mix_7 : decode cX11_mix 7 = .ok (.lreturn, 1) := by decide +kernel
theorem dX11_isMachine_0 : decode cX11_isMachine 0 = .ok (.iload_n 0, 1) := by decide +kernel
theorem dX11_isMachine_1 : decode cX11_isMachine 1 = .ok (.iconst 5, 1) := by decide +kernel
theorem dX11_isMachine_2 : decode cX11_isMachine 2 = .ok (.if_icmp .lt 13, 3) := by decide +kernel
theorem dX11_isMachine_5 : decode cX11_isMachine 5 = .ok (.iload_n 0, 1) := by decide +kernel
theorem dX11_isMachine_6 : decode cX11_isMachine 6 = .ok (.bipush 11, 2) := by decide +kernel
theorem dX11_isMachine_8 : decode cX11_isMachine 8 = .ok (.if_icmp .gt 7, 3) := by decide +kernel
theorem dX11_isMachine_11 : decode cX11_isMachine 11 = .ok (.iload_n 1, 1) := by decide +kernel
theorem dX11_isMachine_12 : decode cX11_isMachine 12 = .ok (.ifCond .ge 5, 3) := by decide +kernel
theorem dX11_isMachine_15 : decode cX11_isMachine 15 = .ok (.iconst 0, 1) := by decide +kernel
theorem dX11_isMachine_16 : decode cX11_isMachine 16 = .ok (.ireturn, 1) := by decide +kernel
theorem dX11_isMachine_17 : decode cX11_isMachine 17 = .ok (.iload_n 0, 1) := by decide +kernel
theorem dX11_isMachine_18 : decode cX11_isMachine 18 = .ok (.iconst 3, 1) := by decide +kernel
theorem dX11_isMachine_19 : decode cX11_isMachine 19 = .ok (.isub, 1) := by decide +kernel
theorem dX11_isMachine_20 : decode cX11_isMachine 20 = .ok (.invokestatic 332, 3) := by decide +kernel
theorem dX11_isMachine_23 : decode cX11_isMachine 23 = .ok (.iconst 2, 1) := by decide +kernel
theorem dX11_isMachine_24 : decode cX11_isMachine 24 = .ok (.invokestatic 332, 3) := by decide +kernel
theorem dX11_isMachine_27 : decode cX11_isMachine 27 = .ok (.isub, 1) := by decide +kernel
theorem dX11_isMachine_28 : decode cX11_isMachine 28 = .ok (.istore_n 2, 1) := by decide +kernel
theorem dX11_isMachine_29 : decode cX11_isMachine 29 = .ok (.iload_n 1, 1) := by decide +kernel
theorem dX11_isMachine_30 : decode cX11_isMachine 30 = .ok (.iload_n 2, 1) := by decide +kernel
theorem dX11_isMachine_31 : decode cX11_isMachine 31 = .ok (.iconst (-1), 1) := by decide +kernel
theorem dX11_isMachine_32 : decode cX11_isMachine 32 = .ok (.ixor, 1) := by decide +kernel
theorem dX11_isMachine_33 : decode cX11_isMachine 33 = .ok (.iand, 1) := by decide +kernel
theorem dX11_isMachine_34 : decode cX11_isMachine 34 = .ok (.ifCond .ne 7, 3) := by decide +kernel
theorem dX11_isMachine_37 : decode cX11_isMachine 37 = .ok (.iconst 1, 1) := by decide +kernel
theorem dX11_isMachine_38 : decode cX11_isMachine 38 = .ok (.goto 4, 3) := by decide +kernel
theorem dX11_isMachine_41 : decode cX11_isMachine 41 = .ok (.iconst 0, 1) := by decide +kernel
theorem dX11_isMachine_42 : decode cX11_isMachine 42 = .ok (.ireturn, 1) := by decide +kernel
theorem dX11_isBelow_0 : decode cX11_isBelow 0 = .ok (.iload_n 0, 1) := by decide +kernel
theorem dX11_isBelow_1 : decode cX11_isBelow 1 = .ok (.ifCond .lt 12, 3) := by decide +kernel
theorem dX11_isBelow_4 : decode cX11_isBelow 4 = .ok (.iload_n 0, 1) := by decide +kernel
theorem dX11_isBelow_5 : decode cX11_isBelow 5 = .ok (.iload_n 1, 1) := by decide +kernel
theorem dX11_isBelow_6 : decode cX11_isBelow 6 = .ok (.if_icmp .ge 7, 3) := by decide +kernel
theorem dX11_isBelow_9 : decode cX11_isBelow 9 = .ok (.iconst 1, 1) := by decide +kernel
theorem dX11_isBelow_10 : decode cX11_isBelow 10 = .ok (.goto 4, 3) := by decide +kernel
theorem dX11_isBelow_13 : decode cX11_isBelow 13 = .ok (.iconst 0, 1) := by decide +kernel
theorem dX11_isBelow_14 : decode cX11_isBelow 14 = .ok (.ireturn, 1) := by decide +kernel
theorem dX11_bit_0 : decode cX11_bit 0 = .ok (.iload_n 0, 1) := by decide +kernel
theorem dX11_bit_1 : decode cX11_bit 1 = .ok (.ifCond .lt 15, 3) := by decide +kernel
theorem dX11_bit_4 : decode cX11_bit 4 = .ok (.iload_n 0, 1) := by decide +kernel
theorem dX11_bit_5 : decode cX11_bit 5 = .ok (.bipush 32, 2) := by decide +kernel
theorem dX11_bit_7 : decode cX11_bit 7 = .ok (.if_icmp .ge 9, 3) := by decide +kernel
theorem dX11_bit_10 : decode cX11_bit 10 = .ok (.iconst 1, 1) := by decide +kernel
theorem dX11_bit_11 : decode cX11_bit 11 = .ok (.iload_n 0, 1) := by decide +kernel
theorem dX11_bit_12 : decode cX11_bit 12 = .ok (.ishl, 1) := by decide +kernel
theorem dX11_bit_13 : decode cX11_bit 13 = .ok (.goto 4, 3) := by decide +kernel
theorem dX11_bit_16 : decode cX11_bit 16 = .ok (.iconst 0, 1) := by decide +kernel
theorem dX11_bit_17 : decode cX11_bit 17 = .ok (.ireturn, 1) := by decide +kernel
theorem dX11_hasBit_0 : decode cX11_hasBit 0 = .ok (.iload_n 1, 1) := by decide +kernel
theorem dX11_hasBit_1 : decode cX11_hasBit 1 = .ok (.ifCond .lt 22, 3) := by decide +kernel
theorem dX11_hasBit_4 : decode cX11_hasBit 4 = .ok (.iload_n 1, 1) := by decide +kernel
theorem dX11_hasBit_5 : decode cX11_hasBit 5 = .ok (.bipush 32, 2) := by decide +kernel
theorem dX11_hasBit_7 : decode cX11_hasBit 7 = .ok (.if_icmp .ge 16, 3) := by decide +kernel
theorem dX11_hasBit_10 : decode cX11_hasBit 10 = .ok (.iload_n 0, 1) := by decide +kernel
theorem dX11_hasBit_11 : decode cX11_hasBit 11 = .ok (.iload_n 1, 1) := by decide +kernel
theorem dX11_hasBit_12 : decode cX11_hasBit 12 = .ok (.ishr, 1) := by decide +kernel
theorem dX11_hasBit_13 : decode cX11_hasBit 13 = .ok (.iconst 1, 1) := by decide +kernel
theorem dX11_hasBit_14 : decode cX11_hasBit 14 = .ok (.iand, 1) := by decide +kernel
theorem dX11_hasBit_15 : decode cX11_hasBit 15 = .ok (.iconst 1, 1) := by decide +kernel
theorem dX11_hasBit_16 : decode cX11_hasBit 16 = .ok (.if_icmp .ne 7, 3) := by decide +kernel
theorem dX11_hasBit_19 : decode cX11_hasBit 19 = .ok (.iconst 1, 1) := by decide +kernel
theorem dX11_hasBit_20 : decode cX11_hasBit 20 = .ok (.goto 4, 3) := by decide +kernel
theorem dX11_hasBit_23 : decode cX11_hasBit 23 = .ok (.iconst 0, 1) := by decide +kernel
theorem dX11_hasBit_24 : decode cX11_hasBit 24 = .ok (.ireturn, 1) := by decide +kernel
theorem dX11_at_0 : decode cX11_at 0 = .ok (.iload_n 1, 1) := by decide +kernel
theorem dX11_at_1 : decode cX11_at 1 = .ok (.ifCond .lt 15, 3) := by decide +kernel
theorem dX11_at_4 : decode cX11_at 4 = .ok (.iload_n 1, 1) := by decide +kernel
theorem dX11_at_5 : decode cX11_at 5 = .ok (.aload_n 0, 1) := by decide +kernel
theorem dX11_at_6 : decode cX11_at 6 = .ok (.arraylength, 1) := by decide +kernel
theorem dX11_at_7 : decode cX11_at 7 = .ok (.if_icmp .ge 9, 3) := by decide +kernel
theorem dX11_at_10 : decode cX11_at 10 = .ok (.aload_n 0, 1) := by decide +kernel
theorem dX11_at_11 : decode cX11_at 11 = .ok (.iload_n 1, 1) := by decide +kernel
theorem dX11_at_12 : decode cX11_at 12 = .ok (.iaload, 1) := by decide +kernel
theorem dX11_at_13 : decode cX11_at 13 = .ok (.goto 4, 3) := by decide +kernel
theorem dX11_at_16 : decode cX11_at 16 = .ok (.iconst (-1), 1) := by decide +kernel
theorem dX11_at_17 : decode cX11_at 17 = .ok (.ireturn, 1) := by decide +kernel
theorem dX11_put_0 : decode cX11_put 0 = .ok (.iload_n 1, 1) := by decide +kernel
theorem dX11_put_1 : decode cX11_put 1 = .ok (.ifCond .lt 13, 3) := by decide +kernel
theorem dX11_put_4 : decode cX11_put 4 = .ok (.iload_n 1, 1) := by decide +kernel
theorem dX11_put_5 : decode cX11_put 5 = .ok (.aload_n 0, 1) := by decide +kernel
theorem dX11_put_6 : decode cX11_put 6 = .ok (.arraylength, 1) := by decide +kernel
theorem dX11_put_7 : decode cX11_put 7 = .ok (.if_icmp .ge 7, 3) := by decide +kernel
theorem dX11_put_10 : decode cX11_put 10 = .ok (.aload_n 0, 1) := by decide +kernel
theorem dX11_put_11 : decode cX11_put 11 = .ok (.iload_n 1, 1) := by decide +kernel
theorem dX11_put_12 : decode cX11_put 12 = .ok (.iload_n 2, 1) := by decide +kernel
theorem dX11_put_13 : decode cX11_put 13 = .ok (.iastore, 1) := by decide +kernel
theorem dX11_put_14 : decode cX11_put 14 = .ok (.return_, 1) := by decide +kernel
theorem dX11_fill_0 : decode cX11_fill 0 = .ok (.iconst 0, 1) := by decide +kernel
theorem dX11_fill_1 : decode cX11_fill 1 = .ok (.istore_n 2, 1) := by decide +kernel
theorem dX11_fill_2 : decode cX11_fill 2 = .ok (.iload_n 2, 1) := by decide +kernel
theorem dX11_fill_3 : decode cX11_fill 3 = .ok (.aload_n 0, 1) := by decide +kernel
theorem dX11_fill_4 : decode cX11_fill 4 = .ok (.arraylength, 1) := by decide +kernel
theorem dX11_fill_5 : decode cX11_fill 5 = .ok (.if_icmp .ge 13, 3) := by decide +kernel
theorem dX11_fill_8 : decode cX11_fill 8 = .ok (.aload_n 0, 1) := by decide +kernel
theorem dX11_fill_9 : decode cX11_fill 9 = .ok (.iload_n 2, 1) := by decide +kernel
theorem dX11_fill_10 : decode cX11_fill 10 = .ok (.iload_n 1, 1) := by decide +kernel
theorem dX11_fill_11 : decode cX11_fill 11 = .ok (.iastore, 1) := by decide +kernel
theorem dX11_fill_12 : decode cX11_fill 12 = .ok (.iinc 2 1, 3) := by decide +kernel
theorem dX11_fill_15 : decode cX11_fill 15 = .ok (.goto (-13), 3) := by decide +kernel
theorem dX11_fill_18 : decode cX11_fill 18 = .ok (.return_, 1) := by decide +kernel
theorem dX12_init_0 : decode cX12_init 0 = .ok (.aload_n 0, 1) := by decide +kernel
theorem dX12_init_1 : decode cX12_init 1 = .ok (.invokespecial 1, 3) := by decide +kernel
theorem dX12_init_4 : decode cX12_init 4 = .ok (.aload_n 0, 1) := by decide +kernel
theorem dX12_init_5 : decode cX12_init 5 = .ok (.iconst 0, 1) := by decide +kernel
theorem dX12_init_6 : decode cX12_init 6 = .ok (.anewarray 7, 3) := by decide +kernel
theorem dX12_init_9 : decode cX12_init 9 = .ok (.putfield 9, 3) := by decide +kernel
theorem dX12_init_12 : decode cX12_init 12 = .ok (.aload_n 0, 1) := by decide +kernel
theorem dX12_init_13 : decode cX12_init 13 = .ok (.iconst 0, 1) := by decide +kernel
theorem dX12_init_14 : decode cX12_init 14 = .ok (.anewarray 7, 3) := by decide +kernel
theorem dX12_init_17 : decode cX12_init 17 = .ok (.putfield 15, 3) := by decide +kernel
theorem dX12_init_20 : decode cX12_init 20 = .ok (.aload_n 0, 1) := by decide +kernel
theorem dX12_init_21 : decode cX12_init 21 = .ok (.iconst 4, 1) := by decide +kernel
theorem dX12_init_22 : decode cX12_init 22 = .ok (.newarray .int, 2) := by decide +kernel
theorem dX12_init_24 : decode cX12_init 24 = .ok (.dup, 1) := by decide +kernel
theorem dX12_init_25 : decode cX12_init 25 = .ok (.iconst 0, 1) := by decide +kernel
theorem dX12_init_26 : decode cX12_init 26 = .ok (.iconst 1, 1) := by decide +kernel
theorem dX12_init_27 : decode cX12_init 27 = .ok (.iastore, 1) := by decide +kernel
theorem dX12_init_28 : decode cX12_init 28 = .ok (.dup, 1) := by decide +kernel
theorem dX12_init_29 : decode cX12_init 29 = .ok (.iconst 1, 1) := by decide +kernel
theorem dX12_init_30 : decode cX12_init 30 = .ok (.iconst 1, 1) := by decide +kernel
theorem dX12_init_31 : decode cX12_init 31 = .ok (.iastore, 1) := by decide +kernel
theorem dX12_init_32 : decode cX12_init 32 = .ok (.dup, 1) := by decide +kernel
theorem dX12_init_33 : decode cX12_init 33 = .ok (.iconst 2, 1) := by decide +kernel
theorem dX12_init_34 : decode cX12_init 34 = .ok (.iconst 1, 1) := by decide +kernel
theorem dX12_init_35 : decode cX12_init 35 = .ok (.iastore, 1) := by decide +kernel
theorem dX12_init_36 : decode cX12_init 36 = .ok (.dup, 1) := by decide +kernel
theorem dX12_init_37 : decode cX12_init 37 = .ok (.iconst 3, 1) := by decide +kernel
theorem dX12_init_38 : decode cX12_init 38 = .ok (.iconst 1, 1) := by decide +kernel
theorem dX12_init_39 : decode cX12_init 39 = .ok (.iastore, 1) := by decide +kernel
theorem dX12_init_40 : decode cX12_init 40 = .ok (.putfield 18, 3) := by decide +kernel
theorem dX12_init_43 : decode cX12_init 43 = .ok (.aload_n 0, 1) := by decide +kernel
theorem dX12_init_44 : decode cX12_init 44 = .ok (.bipush 8, 2) := by decide +kernel
theorem dX12_init_46 : decode cX12_init 46 = .ok (.newarray .int, 2) := by decide +kernel
theorem dX12_init_48 : decode cX12_init 48 = .ok (.dup, 1) := by decide +kernel
theorem dX12_init_49 : decode cX12_init 49 = .ok (.iconst 0, 1) := by decide +kernel
theorem dX12_init_50 : decode cX12_init 50 = .ok (.iconst 1, 1) := by decide +kernel
theorem dX12_init_51 : decode cX12_init 51 = .ok (.iastore, 1) := by decide +kernel
theorem dX12_init_52 : decode cX12_init 52 = .ok (.dup, 1) := by decide +kernel
theorem dX12_init_53 : decode cX12_init 53 = .ok (.iconst 1, 1) := by decide +kernel
theorem dX12_init_54 : decode cX12_init 54 = .ok (.iconst 1, 1) := by decide +kernel
theorem dX12_init_55 : decode cX12_init 55 = .ok (.iastore, 1) := by decide +kernel
theorem dX12_init_56 : decode cX12_init 56 = .ok (.dup, 1) := by decide +kernel
theorem dX12_init_57 : decode cX12_init 57 = .ok (.iconst 2, 1) := by decide +kernel
theorem dX12_init_58 : decode cX12_init 58 = .ok (.iconst 1, 1) := by decide +kernel
theorem dX12_init_59 : decode cX12_init 59 = .ok (.iastore, 1) := by decide +kernel
theorem dX12_init_60 : decode cX12_init 60 = .ok (.dup, 1) := by decide +kernel
theorem dX12_init_61 : decode cX12_init 61 = .ok (.iconst 3, 1) := by decide +kernel
theorem dX12_init_62 : decode cX12_init 62 = .ok (.iconst 3, 1) := by decide +kernel
theorem dX12_init_63 : decode cX12_init 63 = .ok (.iastore, 1) := by decide +kernel
theorem dX12_init_64 : decode cX12_init 64 = .ok (.dup, 1) := by decide +kernel
theorem dX12_init_65 : decode cX12_init 65 = .ok (.iconst 4, 1) := by decide +kernel
theorem dX12_init_66 : decode cX12_init 66 = .ok (.iconst 3, 1) := by decide +kernel
theorem dX12_init_67 : decode cX12_init 67 = .ok (.iastore, 1) := by decide +kernel
theorem dX12_init_68 : decode cX12_init 68 = .ok (.dup, 1) := by decide +kernel
theorem dX12_init_69 : decode cX12_init 69 = .ok (.iconst 5, 1) := by decide +kernel
theorem dX12_init_70 : decode cX12_init 70 = .ok (.iconst 2, 1) := by decide +kernel
theorem dX12_init_71 : decode cX12_init 71 = .ok (.iastore, 1) := by decide +kernel
theorem dX12_init_72 : decode cX12_init 72 = .ok (.dup, 1) := by decide +kernel
theorem dX12_init_73 : decode cX12_init 73 = .ok (.bipush 6, 2) := by decide +kernel
theorem dX12_init_75 : decode cX12_init 75 = .ok (.iconst 1, 1) := by decide +kernel
theorem dX12_init_76 : decode cX12_init 76 = .ok (.iastore, 1) := by decide +kernel
theorem dX12_init_77 : decode cX12_init 77 = .ok (.dup, 1) := by decide +kernel
theorem dX12_init_78 : decode cX12_init 78 = .ok (.bipush 7, 2) := by decide +kernel
theorem dX12_init_80 : decode cX12_init 80 = .ok (.iconst 5, 1) := by decide +kernel
theorem dX12_init_81 : decode cX12_init 81 = .ok (.iastore, 1) := by decide +kernel
theorem dX12_init_82 : decode cX12_init 82 = .ok (.putfield 21, 3) := by decide +kernel
theorem dX12_init_85 : decode cX12_init 85 = .ok (.aload_n 0, 1) := by decide +kernel
theorem dX12_init_86 : decode cX12_init 86 = .ok (.bipush 8, 2) := by decide +kernel
theorem dX12_init_88 : decode cX12_init 88 = .ok (.putfield 24, 3) := by decide +kernel
theorem dX12_init_91 : decode cX12_init 91 = .ok (.aload_n 0, 1) := by decide +kernel
theorem dX12_init_92 : decode cX12_init 92 = .ok (.bipush 28, 2) := by decide +kernel
theorem dX12_init_94 : decode cX12_init 94 = .ok (.putfield 28, 3) := by decide +kernel
theorem dX12_init_97 : decode cX12_init 97 = .ok (.aload_n 0, 1) := by decide +kernel
theorem dX12_init_98 : decode cX12_init 98 = .ok (.bipush 15, 2) := by decide +kernel
theorem dX12_init_100 : decode cX12_init 100 = .ok (.putfield 31, 3) := by decide +kernel
theorem dX12_init_103 : decode cX12_init 103 = .ok (.aload_n 0, 1) := by decide +kernel
theorem dX12_init_104 : decode cX12_init 104 = .ok (.iconst 1, 1) := by decide +kernel
theorem dX12_init_105 : decode cX12_init 105 = .ok (.putfield 34, 3) := by decide +kernel
theorem dX12_init_108 : decode cX12_init 108 = .ok (.aload_n 0, 1) := by decide +kernel
theorem dX12_init_109 : decode cX12_init 109 = .ok (.iconst 1, 1) := by decide +kernel
theorem dX12_init_110 : decode cX12_init 110 = .ok (.putfield 38, 3) := by decide +kernel
theorem dX12_init_113 : decode cX12_init 113 = .ok (.return_, 1) := by decide +kernel
theorem dX12_with_0 : decode cX12_with 0 = .ok (.aload_n 0, 1) := by decide +kernel
theorem dX12_with_1 : decode cX12_with 1 = .ok (.arraylength, 1) := by decide +kernel
theorem dX12_with_2 : decode cX12_with 2 = .ok (.iconst 1, 1) := by decide +kernel
theorem dX12_with_3 : decode cX12_with 3 = .ok (.iadd, 1) := by decide +kernel
theorem dX12_with_4 : decode cX12_with 4 = .ok (.anewarray 7, 3) := by decide +kernel
theorem dX12_with_7 : decode cX12_with 7 = .ok (.astore_n 2, 1) := by decide +kernel
theorem dX12_with_8 : decode cX12_with 8 = .ok (.aload_n 0, 1) := by decide +kernel
theorem dX12_with_9 : decode cX12_with 9 = .ok (.iconst 0, 1) := by decide +kernel
theorem dX12_with_10 : decode cX12_with 10 = .ok (.aload_n 2, 1) := by decide +kernel
theorem dX12_with_11 : decode cX12_with 11 = .ok (.iconst 0, 1) := by decide +kernel
theorem dX12_with_12 : decode cX12_with 12 = .ok (.aload_n 0, 1) := by decide +kernel
theorem dX12_with_13 : decode cX12_with 13 = .ok (.arraylength, 1) := by decide +kernel
theorem dX12_with_14 : decode cX12_with 14 = .ok (.invokestatic 41, 3) := by decide +kernel
theorem dX12_with_17 : decode cX12_with 17 = .ok (.aload_n 2, 1) := by decide +kernel
theorem dX12_with_18 : decode cX12_with 18 = .ok (.aload_n 0, 1) := by decide +kernel
theorem dX12_with_19 : decode cX12_with 19 = .ok (.arraylength, 1) := by decide +kernel
theorem dX12_with_20 : decode cX12_with 20 = .ok (.aload_n 1, 1) := by decide +kernel
theorem dX12_with_21 : decode cX12_with 21 = .ok (.aastore, 1) := by decide +kernel
theorem dX12_with_22 : decode cX12_with 22 = .ok (.aload_n 2, 1) := by decide +kernel
theorem dX12_with_23 : decode cX12_with 23 = .ok (.areturn, 1) := by decide +kernel
theorem dX12_value_0 : decode cX12_value 0 = .ok (.aload_n 0, 1) := by decide +kernel
theorem dX12_value_1 : decode cX12_value 1 = .ok (.getfield 9, 3) := by decide +kernel
theorem dX12_value_4 : decode cX12_value 4 = .ok (.iload_n 1, 1) := by decide +kernel
theorem dX12_value_5 : decode cX12_value 5 = .ok (.aaload, 1) := by decide +kernel
theorem dX12_value_6 : decode cX12_value 6 = .ok (.astore_n 3, 1) := by decide +kernel
theorem dX12_value_7 : decode cX12_value 7 = .ok (.aload_n 3, 1) := by decide +kernel
theorem dX12_value_8 : decode cX12_value 8 = .ok (.iconst 0, 1) := by decide +kernel
theorem dX12_value_9 : decode cX12_value 9 = .ok (.iaload, 1) := by decide +kernel
theorem dX12_value_10 : decode cX12_value 10 = .ok (.iconst 2, 1) := by decide +kernel
theorem dX12_value_11 : decode cX12_value 11 = .ok (.if_icmp .ge 21, 3) := by decide +kernel
theorem dX12_value_14 : decode cX12_value 14 = .ok (.aload_n 3, 1) := by decide +kernel
theorem dX12_value_15 : decode cX12_value 15 = .ok (.iconst 0, 1) := by decide +kernel
theorem dX12_value_16 : decode cX12_value 16 = .ok (.iaload, 1) := by decide +kernel
theorem dX12_value_17 : decode cX12_value 17 = .ok (.ifCond .ne 9, 3) := by decide +kernel
theorem dX12_value_20 : decode cX12_value 20 = .ok (.aload_n 3, 1) := by decide +kernel
theorem dX12_value_21 : decode cX12_value 21 = .ok (.iconst 1, 1) := by decide +kernel
theorem dX12_value_22 : decode cX12_value 22 = .ok (.iaload, 1) := by decide +kernel
theorem dX12_value_23 : decode cX12_value 23 = .ok (.goto 8, 3) := by decide +kernel
theorem dX12_value_26 : decode cX12_value 26 = .ok (.aload_n 2, 1) := by decide +kernel
theorem dX12_value_27 : decode cX12_value 27 = .ok (.aload_n 3, 1) := by decide +kernel
theorem dX12_value_28 : decode cX12_value 28 = .ok (.iconst 1, 1) := by decide +kernel
theorem dX12_value_29 : decode cX12_value 29 = .ok (.iaload, 1) := by decide +kernel
theorem dX12_value_30 : decode cX12_value 30 = .ok (.iaload, 1) := by decide +kernel
theorem dX12_value_31 : decode cX12_value 31 = .ok (.ireturn, 1) := by decide +kernel
theorem dX12_value_32 : decode cX12_value 32 = .ok (.aload_n 0, 1) := by decide +kernel
theorem dX12_value_33 : decode cX12_value 33 = .ok (.aload_n 3, 1) := by decide +kernel
theorem dX12_value_34 : decode cX12_value 34 = .ok (.iconst 1, 1) := by decide +kernel
theorem dX12_value_35 : decode cX12_value 35 = .ok (.iaload, 1) := by decide +kernel
theorem dX12_value_36 : decode cX12_value 36 = .ok (.aload_n 2, 1) := by decide +kernel
theorem dX12_value_37 : decode cX12_value 37 = .ok (.invokevirtual 47, 3) := by decide +kernel
theorem dX12_value_40 : decode cX12_value 40 = .ok (.istore 4, 2) := by decide +kernel
theorem dX12_value_42 : decode cX12_value 42 = .ok (.aload_n 0, 1) := by decide +kernel
theorem dX12_value_43 : decode cX12_value 43 = .ok (.aload_n 3, 1) := by decide +kernel
theorem dX12_value_44 : decode cX12_value 44 = .ok (.iconst 2, 1) := by decide +kernel
theorem dX12_value_45 : decode cX12_value 45 = .ok (.iaload, 1) := by decide +kernel
theorem dX12_value_46 : decode cX12_value 46 = .ok (.aload_n 2, 1) := by decide +kernel
theorem dX12_value_47 : decode cX12_value 47 = .ok (.invokevirtual 47, 3) := by decide +kernel
theorem dX12_value_50 : decode cX12_value 50 = .ok (.istore 5, 2) := by decide +kernel
theorem dX12_value_52 : decode cX12_value 52 = .ok (.aload_n 3, 1) := by decide +kernel
theorem dX12_value_53 : decode cX12_value 53 = .ok (.iconst 0, 1) := by decide +kernel
theorem dX12_value_54 : decode cX12_value 54 = .ok (.iaload, 1) := by decide +kernel
theorem dX12_value_55 : decode cX12_value 55 = .ok (.iconst 2, 1) := by decide +kernel
theorem dX12_value_56 : decode cX12_value 56 = .ok (.if_icmp .ne 11, 3) := by decide +kernel
theorem dX12_value_59 : decode cX12_value 59 = .ok (.iload 4, 2) := by decide +kernel
theorem dX12_value_61 : decode cX12_value 61 = .ok (.iload 5, 2) := by decide +kernel
theorem dX12_value_63 : decode cX12_value 63 = .ok (.iadd, 1) := by decide +kernel
theorem dX12_value_64 : decode cX12_value 64 = .ok (.goto 44, 3) := by decide +kernel
theorem dX12_value_67 : decode cX12_value 67 = .ok (.aload_n 3, 1) := by decide +kernel
theorem dX12_value_68 : decode cX12_value 68 = .ok (.iconst 0, 1) := by decide +kernel
theorem dX12_value_69 : decode cX12_value 69 = .ok (.iaload, 1) := by decide +kernel
theorem dX12_value_70 : decode cX12_value 70 = .ok (.iconst 3, 1) := by decide +kernel
theorem dX12_value_71 : decode cX12_value 71 = .ok (.if_icmp .ne 11, 3) := by decide +kernel
theorem dX12_value_74 : decode cX12_value 74 = .ok (.iload 4, 2) := by decide +kernel
theorem dX12_value_76 : decode cX12_value 76 = .ok (.iload 5, 2) := by decide +kernel
theorem dX12_value_78 : decode cX12_value 78 = .ok (.isub, 1) := by decide +kernel
theorem dX12_value_79 : decode cX12_value 79 = .ok (.goto 29, 3) := by decide +kernel
theorem dX12_value_82 : decode cX12_value 82 = .ok (.aload_n 3, 1) := by decide +kernel
theorem dX12_value_83 : decode cX12_value 83 = .ok (.iconst 0, 1) := by decide +kernel
theorem dX12_value_84 : decode cX12_value 84 = .ok (.iaload, 1) := by decide +kernel
theorem dX12_value_85 : decode cX12_value 85 = .ok (.iconst 4, 1) := by decide +kernel
theorem dX12_value_86 : decode cX12_value 86 = .ok (.if_icmp .ne 11, 3) := by decide +kernel
theorem dX12_value_89 : decode cX12_value 89 = .ok (.iload 4, 2) := by decide +kernel
theorem dX12_value_91 : decode cX12_value 91 = .ok (.iload 5, 2) := by decide +kernel
theorem dX12_value_93 : decode cX12_value 93 = .ok (.imul, 1) := by decide +kernel
theorem dX12_value_94 : decode cX12_value 94 = .ok (.goto 14, 3) := by decide +kernel
theorem dX12_value_97 : decode cX12_value 97 = .ok (.iconst 1, 1) := by decide +kernel
theorem dX12_value_98 : decode cX12_value 98 = .ok (.iconst 2, 1) := by decide +kernel
theorem dX12_value_99 : decode cX12_value 99 = .ok (.iload 5, 2) := by decide +kernel
theorem dX12_value_101 : decode cX12_value 101 = .ok (.imul, 1) := by decide +kernel
theorem dX12_value_102 : decode cX12_value 102 = .ok (.iadd, 1) := by decide +kernel
theorem dX12_value_103 : decode cX12_value 103 = .ok (.iconst 3, 1) := by decide +kernel
theorem dX12_value_104 : decode cX12_value 104 = .ok (.iload 4, 2) := by decide +kernel
theorem dX12_value_106 : decode cX12_value 106 = .ok (.imul, 1) := by decide +kernel
theorem dX12_value_107 : decode cX12_value 107 = .ok (.iadd, 1) := by decide +kernel
theorem dX12_value_108 : decode cX12_value 108 = .ok (.ireturn, 1) := by decide +kernel
theorem dX12_meant_0 : decode cX12_meant 0 = .ok (.bipush 8, 2) := by decide +kernel
theorem dX12_meant_2 : decode cX12_meant 2 = .ok (.newarray .int, 2) := by decide +kernel
theorem dX12_meant_4 : decode cX12_meant 4 = .ok (.astore_n 1, 1) := by decide +kernel
theorem dX12_meant_5 : decode cX12_meant 5 = .ok (.iconst 0, 1) := by decide +kernel
theorem dX12_meant_6 : decode cX12_meant 6 = .ok (.istore_n 2, 1) := by decide +kernel
theorem dX12_meant_7 : decode cX12_meant 7 = .ok (.iload_n 2, 1) := by decide +kernel
theorem dX12_meant_8 : decode cX12_meant 8 = .ok (.iconst 4, 1) := by decide +kernel
theorem dX12_meant_9 : decode cX12_meant 9 = .ok (.if_icmp .ge 84, 3) := by decide +kernel
theorem dX12_meant_12 : decode cX12_meant 12 = .ok (.iconst 0, 1) := by decide +kernel
theorem dX12_meant_13 : decode cX12_meant 13 = .ok (.istore_n 3, 1) := by decide +kernel
theorem dX12_meant_14 : decode cX12_meant 14 = .ok (.iload_n 3, 1) := by decide +kernel
theorem dX12_meant_15 : decode cX12_meant 15 = .ok (.aload_n 0, 1) := by decide +kernel
theorem dX12_meant_16 : decode cX12_meant 16 = .ok (.getfield 18, 3) := by decide +kernel
theorem dX12_meant_19 : decode cX12_meant 19 = .ok (.iload_n 2, 1) := by decide +kernel
theorem dX12_meant_20 : decode cX12_meant 20 = .ok (.iaload, 1) := by decide +kernel
theorem dX12_meant_21 : decode cX12_meant 21 = .ok (.if_icmp .ge 66, 3) := by decide +kernel
theorem dX12_meant_24 : decode cX12_meant 24 = .ok (.aload_n 0, 1) := by decide +kernel
theorem dX12_meant_25 : decode cX12_meant 25 = .ok (.getfield 15, 3) := by decide +kernel
theorem dX12_meant_28 : decode cX12_meant 28 = .ok (.astore 4, 2) := by decide +kernel
theorem dX12_meant_30 : decode cX12_meant 30 = .ok (.aload 4, 2) := by decide +kernel
theorem dX12_meant_32 : decode cX12_meant 32 = .ok (.arraylength, 1) := by decide +kernel
theorem dX12_meant_33 : decode cX12_meant 33 = .ok (.istore 5, 2) := by decide +kernel
theorem dX12_meant_35 : decode cX12_meant 35 = .ok (.iconst 0, 1) := by decide +kernel
theorem dX12_meant_36 : decode cX12_meant 36 = .ok (.istore 6, 2) := by decide +kernel
theorem dX12_meant_38 : decode cX12_meant 38 = .ok (.iload 6, 2) := by decide +kernel
theorem dX12_meant_40 : decode cX12_meant 40 = .ok (.iload 5, 2) := by decide +kernel
theorem dX12_meant_42 : decode cX12_meant 42 = .ok (.if_icmp .ge 39, 3) := by decide +kernel
theorem dX12_meant_45 : decode cX12_meant 45 = .ok (.aload 4, 2) := by decide +kernel
theorem dX12_meant_47 : decode cX12_meant 47 = .ok (.iload 6, 2) := by decide +kernel
theorem dX12_meant_49 : decode cX12_meant 49 = .ok (.aaload, 1) := by decide +kernel
theorem dX12_meant_50 : decode cX12_meant 50 = .ok (.astore 7, 2) := by decide +kernel
theorem dX12_meant_52 : decode cX12_meant 52 = .ok (.aload 7, 2) := by decide +kernel
theorem dX12_meant_54 : decode cX12_meant 54 = .ok (.iconst 0, 1) := by decide +kernel
theorem dX12_meant_55 : decode cX12_meant 55 = .ok (.iaload, 1) := by decide +kernel
theorem dX12_meant_56 : decode cX12_meant 56 = .ok (.iload_n 2, 1) := by decide +kernel
theorem dX12_meant_57 : decode cX12_meant 57 = .ok (.if_icmp .ne 18, 3) := by decide +kernel
theorem dX12_meant_60 : decode cX12_meant 60 = .ok (.aload_n 1, 1) := by decide +kernel
theorem dX12_meant_61 : decode cX12_meant 61 = .ok (.aload 7, 2) := by decide +kernel
theorem dX12_meant_63 : decode cX12_meant 63 = .ok (.iconst 1, 1) := by decide +kernel
theorem dX12_meant_64 : decode cX12_meant 64 = .ok (.iaload, 1) := by decide +kernel
theorem dX12_meant_65 : decode cX12_meant 65 = .ok (.aload_n 0, 1) := by decide +kernel
theorem dX12_meant_66 : decode cX12_meant 66 = .ok (.aload 7, 2) := by decide +kernel
theorem dX12_meant_68 : decode cX12_meant 68 = .ok (.iconst 2, 1) := by decide +kernel
theorem dX12_meant_69 : decode cX12_meant 69 = .ok (.iaload, 1) := by decide +kernel
theorem dX12_meant_70 : decode cX12_meant 70 = .ok (.aload_n 1, 1) := by decide +kernel
theorem dX12_meant_71 : decode cX12_meant 71 = .ok (.invokevirtual 47, 3) := by decide +kernel
theorem dX12_meant_74 : decode cX12_meant 74 = .ok (.iastore, 1) := by decide +kernel
theorem dX12_meant_75 : decode cX12_meant 75 = .ok (.iinc 6 1, 3) := by decide +kernel
theorem dX12_meant_78 : decode cX12_meant 78 = .ok (.goto (-40), 3) := by decide +kernel
theorem dX12_meant_81 : decode cX12_meant 81 = .ok (.iinc 3 1, 3) := by decide +kernel
theorem dX12_meant_84 : decode cX12_meant 84 = .ok (.goto (-70), 3) := by decide +kernel
theorem dX12_meant_87 : decode cX12_meant 87 = .ok (.iinc 2 1, 3) := by decide +kernel
theorem dX12_meant_90 : decode cX12_meant 90 = .ok (.goto (-83), 3) := by decide +kernel
theorem dX12_meant_93 : decode cX12_meant 93 = .ok (.aload_n 1, 1) := by decide +kernel
theorem dX12_meant_94 : decode cX12_meant 94 = .ok (.areturn, 1) := by decide +kernel
theorem dJ6_bitCount_0f7a4_0 : decode cJ6_bitCount_0f7a4 0 = .ok (.iload_n 0, 1) := by decide +kernel
theorem dJ6_bitCount_0f7a4_1 : decode cJ6_bitCount_0f7a4 1 = .ok (.iload_n 0, 1) := by decide +kernel
theorem dJ6_bitCount_0f7a4_2 : decode cJ6_bitCount_0f7a4 2 = .ok (.iconst 1, 1) := by decide +kernel
theorem dJ6_bitCount_0f7a4_3 : decode cJ6_bitCount_0f7a4 3 = .ok (.iushr, 1) := by decide +kernel
theorem dJ6_bitCount_0f7a4_4 : decode cJ6_bitCount_0f7a4 4 = .ok (.ldc_w 265, 3) := by decide +kernel
theorem dJ6_bitCount_0f7a4_7 : decode cJ6_bitCount_0f7a4 7 = .ok (.iand, 1) := by decide +kernel
theorem dJ6_bitCount_0f7a4_8 : decode cJ6_bitCount_0f7a4 8 = .ok (.isub, 1) := by decide +kernel
theorem dJ6_bitCount_0f7a4_9 : decode cJ6_bitCount_0f7a4 9 = .ok (.istore_n 0, 1) := by decide +kernel
theorem dJ6_bitCount_0f7a4_10 : decode cJ6_bitCount_0f7a4 10 = .ok (.iload_n 0, 1) := by decide +kernel
theorem dJ6_bitCount_0f7a4_11 : decode cJ6_bitCount_0f7a4 11 = .ok (.ldc_w 266, 3) := by decide +kernel
theorem dJ6_bitCount_0f7a4_14 : decode cJ6_bitCount_0f7a4 14 = .ok (.iand, 1) := by decide +kernel
theorem dJ6_bitCount_0f7a4_15 : decode cJ6_bitCount_0f7a4 15 = .ok (.iload_n 0, 1) := by decide +kernel
theorem dJ6_bitCount_0f7a4_16 : decode cJ6_bitCount_0f7a4 16 = .ok (.iconst 2, 1) := by decide +kernel
theorem dJ6_bitCount_0f7a4_17 : decode cJ6_bitCount_0f7a4 17 = .ok (.iushr, 1) := by decide +kernel
theorem dJ6_bitCount_0f7a4_18 : decode cJ6_bitCount_0f7a4 18 = .ok (.ldc_w 266, 3) := by decide +kernel
theorem dJ6_bitCount_0f7a4_21 : decode cJ6_bitCount_0f7a4 21 = .ok (.iand, 1) := by decide +kernel
theorem dJ6_bitCount_0f7a4_22 : decode cJ6_bitCount_0f7a4 22 = .ok (.iadd, 1) := by decide +kernel
theorem dJ6_bitCount_0f7a4_23 : decode cJ6_bitCount_0f7a4 23 = .ok (.istore_n 0, 1) := by decide +kernel
theorem dJ6_bitCount_0f7a4_24 : decode cJ6_bitCount_0f7a4 24 = .ok (.iload_n 0, 1) := by decide +kernel
theorem dJ6_bitCount_0f7a4_25 : decode cJ6_bitCount_0f7a4 25 = .ok (.iload_n 0, 1) := by decide +kernel
theorem dJ6_bitCount_0f7a4_26 : decode cJ6_bitCount_0f7a4 26 = .ok (.iconst 4, 1) := by decide +kernel
theorem dJ6_bitCount_0f7a4_27 : decode cJ6_bitCount_0f7a4 27 = .ok (.iushr, 1) := by decide +kernel
theorem dJ6_bitCount_0f7a4_28 : decode cJ6_bitCount_0f7a4 28 = .ok (.iadd, 1) := by decide +kernel
theorem dJ6_bitCount_0f7a4_29 : decode cJ6_bitCount_0f7a4 29 = .ok (.ldc_w 267, 3) := by decide +kernel
theorem dJ6_bitCount_0f7a4_32 : decode cJ6_bitCount_0f7a4 32 = .ok (.iand, 1) := by decide +kernel
theorem dJ6_bitCount_0f7a4_33 : decode cJ6_bitCount_0f7a4 33 = .ok (.istore_n 0, 1) := by decide +kernel
theorem dJ6_bitCount_0f7a4_34 : decode cJ6_bitCount_0f7a4 34 = .ok (.iload_n 0, 1) := by decide +kernel
theorem dJ6_bitCount_0f7a4_35 : decode cJ6_bitCount_0f7a4 35 = .ok (.iload_n 0, 1) := by decide +kernel
theorem dJ6_bitCount_0f7a4_36 : decode cJ6_bitCount_0f7a4 36 = .ok (.bipush 8, 2) := by decide +kernel
theorem dJ6_bitCount_0f7a4_38 : decode cJ6_bitCount_0f7a4 38 = .ok (.iushr, 1) := by decide +kernel
theorem dJ6_bitCount_0f7a4_39 : decode cJ6_bitCount_0f7a4 39 = .ok (.iadd, 1) := by decide +kernel
theorem dJ6_bitCount_0f7a4_40 : decode cJ6_bitCount_0f7a4 40 = .ok (.istore_n 0, 1) := by decide +kernel
theorem dJ6_bitCount_0f7a4_41 : decode cJ6_bitCount_0f7a4 41 = .ok (.iload_n 0, 1) := by decide +kernel
theorem dJ6_bitCount_0f7a4_42 : decode cJ6_bitCount_0f7a4 42 = .ok (.iload_n 0, 1) := by decide +kernel
theorem dJ6_bitCount_0f7a4_43 : decode cJ6_bitCount_0f7a4 43 = .ok (.bipush 16, 2) := by decide +kernel
theorem dJ6_bitCount_0f7a4_45 : decode cJ6_bitCount_0f7a4 45 = .ok (.iushr, 1) := by decide +kernel
theorem dJ6_bitCount_0f7a4_46 : decode cJ6_bitCount_0f7a4 46 = .ok (.iadd, 1) := by decide +kernel
theorem dJ6_bitCount_0f7a4_47 : decode cJ6_bitCount_0f7a4 47 = .ok (.istore_n 0, 1) := by decide +kernel
theorem dJ6_bitCount_0f7a4_48 : decode cJ6_bitCount_0f7a4 48 = .ok (.iload_n 0, 1) := by decide +kernel
theorem dJ6_bitCount_0f7a4_49 : decode cJ6_bitCount_0f7a4 49 = .ok (.bipush 63, 2) := by decide +kernel
theorem dJ6_bitCount_0f7a4_51 : decode cJ6_bitCount_0f7a4 51 = .ok (.iand, 1) := by decide +kernel
theorem dJ6_bitCount_0f7a4_52 : decode cJ6_bitCount_0f7a4 52 = .ok (.ireturn, 1) := by decide +kernel
theorem dJ9_max_7cf53_0 : decode cJ9_max_7cf53 0 = .ok (.iload_n 0, 1) := by decide +kernel
theorem dJ9_max_7cf53_1 : decode cJ9_max_7cf53 1 = .ok (.iload_n 1, 1) := by decide +kernel
theorem dJ9_max_7cf53_2 : decode cJ9_max_7cf53 2 = .ok (.if_icmp .lt 7, 3) := by decide +kernel
theorem dJ9_max_7cf53_5 : decode cJ9_max_7cf53 5 = .ok (.iload_n 0, 1) := by decide +kernel
theorem dJ9_max_7cf53_6 : decode cJ9_max_7cf53 6 = .ok (.goto 4, 3) := by decide +kernel
theorem dJ9_max_7cf53_9 : decode cJ9_max_7cf53 9 = .ok (.iload_n 1, 1) := by decide +kernel
theorem dJ9_max_7cf53_10 : decode cJ9_max_7cf53 10 = .ok (.ireturn, 1) := by decide +kernel
theorem dJ9_min_7cf53_0 : decode cJ9_min_7cf53 0 = .ok (.iload_n 0, 1) := by decide +kernel
theorem dJ9_min_7cf53_1 : decode cJ9_min_7cf53 1 = .ok (.iload_n 1, 1) := by decide +kernel
theorem dJ9_min_7cf53_2 : decode cJ9_min_7cf53 2 = .ok (.if_icmp .gt 7, 3) := by decide +kernel
theorem dJ9_min_7cf53_5 : decode cJ9_min_7cf53 5 = .ok (.iload_n 0, 1) := by decide +kernel
theorem dJ9_min_7cf53_6 : decode cJ9_min_7cf53 6 = .ok (.goto 4, 3) := by decide +kernel
theorem dJ9_min_7cf53_9 : decode cJ9_min_7cf53 9 = .ok (.iload_n 1, 1) := by decide +kernel
theorem dJ9_min_7cf53_10 : decode cJ9_min_7cf53 10 = .ok (.ireturn, 1) := by decide +kernel
theorem dL_below_0 : decode cL_below 0 = .ok (.iload_n 0, 1) := by decide +kernel
theorem dL_below_1 : decode cL_below 1 = .ok (.ldc 7, 2) := by decide +kernel
theorem dL_below_3 : decode cL_below 3 = .ok (.iand, 1) := by decide +kernel
theorem dL_below_4 : decode cL_below 4 = .ok (.iload_n 1, 1) := by decide +kernel
theorem dL_below_5 : decode cL_below 5 = .ok (.irem, 1) := by decide +kernel
theorem dL_below_6 : decode cL_below 6 = .ok (.ireturn, 1) := by decide +kernel
theorem dL_cell_0 : decode cL_cell 0 = .ok (.iload_n 1, 1) := by decide +kernel
theorem dL_cell_1 : decode cL_cell 1 = .ok (.aload_n 0, 1) := by decide +kernel
theorem dL_cell_2 : decode cL_cell 2 = .ok (.arraylength, 1) := by decide +kernel
theorem dL_cell_3 : decode cL_cell 3 = .ok (.if_icmp .ge 9, 3) := by decide +kernel
theorem dL_cell_6 : decode cL_cell 6 = .ok (.aload_n 0, 1) := by decide +kernel
theorem dL_cell_7 : decode cL_cell 7 = .ok (.iload_n 1, 1) := by decide +kernel
theorem dL_cell_8 : decode cL_cell 8 = .ok (.iaload, 1) := by decide +kernel
theorem dL_cell_9 : decode cL_cell 9 = .ok (.goto 9, 3) := by decide +kernel
theorem dL_cell_12 : decode cL_cell 12 = .ok (.ldc 8, 2) := by decide +kernel
theorem dL_cell_14 : decode cL_cell 14 = .ok (.iload_n 1, 1) := by decide +kernel
theorem dL_cell_15 : decode cL_cell 15 = .ok (.iconst 3, 1) := by decide +kernel
theorem dL_cell_16 : decode cL_cell 16 = .ok (.iadd, 1) := by decide +kernel
theorem dL_cell_17 : decode cL_cell 17 = .ok (.imul, 1) := by decide +kernel
theorem dL_cell_18 : decode cL_cell 18 = .ok (.ireturn, 1) := by decide +kernel
theorem dL_node_0 : decode cL_node 0 = .ok (.aload_n 1, 1) := by decide +kernel
theorem dL_node_1 : decode cL_node 1 = .ok (.getfield 9, 3) := by decide +kernel
theorem dL_node_4 : decode cL_node 4 = .ok (.arraylength, 1) := by decide +kernel
theorem dL_node_5 : decode cL_node 5 = .ok (.istore 5, 2) := by decide +kernel
theorem dL_node_7 : decode cL_node 7 = .ok (.iload 5, 2) := by decide +kernel
theorem dL_node_9 : decode cL_node 9 = .ok (.bipush 80, 2) := by decide +kernel
theorem dL_node_11 : decode cL_node 11 = .ok (.if_icmp .eq 16, 3) := by decide +kernel
theorem dL_node_14 : decode cL_node 14 = .ok (.aload_n 0, 1) := by decide +kernel
theorem dL_node_15 : decode cL_node 15 = .ok (.iload_n 2, 1) := by decide +kernel
theorem dL_node_16 : decode cL_node 16 = .ok (.iload_n 3, 1) := by decide +kernel
theorem dL_node_17 : decode cL_node 17 = .ok (.iload 4, 2) := by decide +kernel
theorem dL_node_19 : decode cL_node 19 = .ok (.invokevirtual 15, 3) := by decide +kernel
theorem dL_node_22 : decode cL_node 22 = .ok (.iload 5, 2) := by decide +kernel
theorem dL_node_24 : decode cL_node 24 = .ok (.if_icmp .eq 5, 3) := by decide +kernel
theorem dL_node_27 : decode cL_node 27 = .ok (.iconst (-1), 1) := by decide +kernel
theorem dL_node_28 : decode cL_node 28 = .ok (.ireturn, 1) := by decide +kernel
theorem dL_node_29 : decode cL_node 29 = .ok (.aload_n 1, 1) := by decide +kernel
theorem dL_node_30 : decode cL_node 30 = .ok (.aload_n 1, 1) := by decide +kernel
theorem dL_node_31 : decode cL_node 31 = .ok (.getfield 9, 3) := by decide +kernel
theorem dL_node_34 : decode cL_node 34 = .ok (.iconst 3, 1) := by decide +kernel
theorem dL_node_35 : decode cL_node 35 = .ok (.newarray .int, 2) := by decide +kernel
theorem dL_node_37 : decode cL_node 37 = .ok (.dup, 1) := by decide +kernel
theorem dL_node_38 : decode cL_node 38 = .ok (.iconst 0, 1) := by decide +kernel
theorem dL_node_39 : decode cL_node 39 = .ok (.iload_n 2, 1) := by decide +kernel
theorem dL_node_40 : decode cL_node 40 = .ok (.iastore, 1) := by decide +kernel
theorem dL_node_41 : decode cL_node 41 = .ok (.dup, 1) := by decide +kernel
theorem dL_node_42 : decode cL_node 42 = .ok (.iconst 1, 1) := by decide +kernel
theorem dL_node_43 : decode cL_node 43 = .ok (.iload_n 3, 1) := by decide +kernel
theorem dL_node_44 : decode cL_node 44 = .ok (.iastore, 1) := by decide +kernel
theorem dL_node_45 : decode cL_node 45 = .ok (.dup, 1) := by decide +kernel
theorem dL_node_46 : decode cL_node 46 = .ok (.iconst 2, 1) := by decide +kernel
theorem dL_node_47 : decode cL_node 47 = .ok (.iload 4, 2) := by decide +kernel
theorem dL_node_49 : decode cL_node 49 = .ok (.iastore, 1) := by decide +kernel
theorem dL_node_50 : decode cL_node 50 = .ok (.invokestatic 21, 3) := by decide +kernel
theorem dL_node_53 : decode cL_node 53 = .ok (.putfield 9, 3) := by decide +kernel
theorem dL_node_56 : decode cL_node 56 = .ok (.iload 5, 2) := by decide +kernel
theorem dL_node_58 : decode cL_node 58 = .ok (.ireturn, 1) := by decide +kernel
theorem dL_tree_0 : decode cL_tree 0 = .ok (.aload_n 2, 1) := by decide +kernel
theorem dL_tree_1 : decode cL_tree 1 = .ok (.iload_n 3, 1) := by decide +kernel
theorem dL_tree_2 : decode cL_tree 2 = .ok (.bipush 16, 2) := by decide +kernel
theorem dL_tree_4 : decode cL_tree 4 = .ok (.irem, 1) := by decide +kernel
theorem dL_tree_5 : decode cL_tree 5 = .ok (.invokestatic 25, 3) := by decide +kernel
theorem dL_tree_8 : decode cL_tree 8 = .ok (.bipush 7, 2) := by decide +kernel
theorem dL_tree_10 : decode cL_tree 10 = .ok (.iload_n 3, 1) := by decide +kernel
theorem dL_tree_11 : decode cL_tree 11 = .ok (.imul, 1) := by decide +kernel
theorem dL_tree_12 : decode cL_tree 12 = .ok (.iadd, 1) := by decide +kernel
theorem dL_tree_13 : decode cL_tree 13 = .ok (.istore 5, 2) := by decide +kernel
theorem dL_tree_15 : decode cL_tree 15 = .ok (.iload 4, 2) := by decide +kernel
theorem dL_tree_17 : decode cL_tree 17 = .ok (.ifCond .eq 22, 3) := by decide +kernel
theorem dL_tree_20 : decode cL_tree 20 = .ok (.iload 5, 2) := by decide +kernel
theorem dL_tree_22 : decode cL_tree 22 = .ok (.iconst 4, 1) := by decide +kernel
theorem dL_tree_23 : decode cL_tree 23 = .ok (.invokestatic 31, 3) := by decide +kernel
theorem dL_tree_26 : decode cL_tree 26 = .ok (.ifCond .eq 13, 3) := by decide +kernel
theorem dL_tree_29 : decode cL_tree 29 = .ok (.aload_n 1, 1) := by decide +kernel
theorem dL_tree_30 : decode cL_tree 30 = .ok (.getfield 9, 3) := by decide +kernel
theorem dL_tree_33 : decode cL_tree 33 = .ok (.arraylength, 1) := by decide +kernel
theorem dL_tree_34 : decode cL_tree 34 = .ok (.bipush 72, 2) := by decide +kernel
theorem dL_tree_36 : decode cL_tree 36 = .ok (.if_icmp .le 53, 3) := by decide +kernel
theorem dL_tree_39 : decode cL_tree 39 = .ok (.iload 5, 2) := by decide +kernel
theorem dL_tree_41 : decode cL_tree 41 = .ok (.iconst 2, 1) := by decide +kernel
theorem dL_tree_42 : decode cL_tree 42 = .ok (.ishr, 1) := by decide +kernel
theorem dL_tree_43 : decode cL_tree 43 = .ok (.iconst 3, 1) := by decide +kernel
theorem dL_tree_44 : decode cL_tree 44 = .ok (.invokestatic 31, 3) := by decide +kernel
theorem dL_tree_47 : decode cL_tree 47 = .ok (.ifCond .ne 25, 3) := by decide +kernel
theorem dL_tree_50 : decode cL_tree 50 = .ok (.aload_n 0, 1) := by decide +kernel
theorem dL_tree_51 : decode cL_tree 51 = .ok (.aload_n 1, 1) := by decide +kernel
theorem dL_tree_52 : decode cL_tree 52 = .ok (.iconst 0, 1) := by decide +kernel
theorem dL_tree_53 : decode cL_tree 53 = .ok (.iload 5, 2) := by decide +kernel
theorem dL_tree_55 : decode cL_tree 55 = .ok (.iconst 4, 1) := by decide +kernel
theorem dL_tree_56 : decode cL_tree 56 = .ok (.ishr, 1) := by decide +kernel
theorem dL_tree_57 : decode cL_tree 57 = .ok (.bipush 41, 2) := by decide +kernel
theorem dL_tree_59 : decode cL_tree 59 = .ok (.invokestatic 31, 3) := by decide +kernel
theorem dL_tree_62 : decode cL_tree 62 = .ok (.bipush 20, 2) := by decide +kernel
theorem dL_tree_64 : decode cL_tree 64 = .ok (.isub, 1) := by decide +kernel
theorem dL_tree_65 : decode cL_tree 65 = .ok (.iconst 0, 1) := by decide +kernel
theorem dL_tree_66 : decode cL_tree 66 = .ok (.invokestatic 35, 3) := by decide +kernel
theorem dL_tree_69 : decode cL_tree 69 = .ok (.goto 19, 3) := by decide +kernel
theorem dL_tree_72 : decode cL_tree 72 = .ok (.aload_n 0, 1) := by decide +kernel
theorem dL_tree_73 : decode cL_tree 73 = .ok (.aload_n 1, 1) := by decide +kernel
theorem dL_tree_74 : decode cL_tree 74 = .ok (.iconst 1, 1) := by decide +kernel
theorem dL_tree_75 : decode cL_tree 75 = .ok (.iload 5, 2) := by decide +kernel
theorem dL_tree_77 : decode cL_tree 77 = .ok (.iconst 4, 1) := by decide +kernel
theorem dL_tree_78 : decode cL_tree 78 = .ok (.ishr, 1) := by decide +kernel
theorem dL_tree_79 : decode cL_tree 79 = .ok (.bipush 6, 2) := by decide +kernel
theorem dL_tree_81 : decode cL_tree 81 = .ok (.invokestatic 31, 3) := by decide +kernel
theorem dL_tree_84 : decode cL_tree 84 = .ok (.iconst 0, 1) := by decide +kernel
theorem dL_tree_85 : decode cL_tree 85 = .ok (.invokestatic 35, 3) := by decide +kernel
theorem dL_tree_88 : decode cL_tree 88 = .ok (.ireturn, 1) := by decide +kernel
theorem dL_tree_89 : decode cL_tree 89 = .ok (.aload_n 0, 1) := by decide +kernel
theorem dL_tree_90 : decode cL_tree 90 = .ok (.aload_n 1, 1) := by decide +kernel
theorem dL_tree_91 : decode cL_tree 91 = .ok (.aload_n 2, 1) := by decide +kernel
theorem dL_tree_92 : decode cL_tree 92 = .ok (.iload_n 3, 1) := by decide +kernel
theorem dL_tree_93 : decode cL_tree 93 = .ok (.iconst 3, 1) := by decide +kernel
theorem dL_tree_94 : decode cL_tree 94 = .ok (.iadd, 1) := by decide +kernel
theorem dL_tree_95 : decode cL_tree 95 = .ok (.iload 4, 2) := by decide +kernel
theorem dL_tree_97 : decode cL_tree 97 = .ok (.iconst 1, 1) := by decide +kernel
theorem dL_tree_98 : decode cL_tree 98 = .ok (.isub, 1) := by decide +kernel
theorem dL_tree_99 : decode cL_tree 99 = .ok (.invokestatic 38, 3) := by decide +kernel
theorem dL_tree_102 : decode cL_tree 102 = .ok (.istore 6, 2) := by decide +kernel
theorem dL_tree_104 : decode cL_tree 104 = .ok (.iload 6, 2) := by decide +kernel
theorem dL_tree_106 : decode cL_tree 106 = .ok (.ifCond .ge 7, 3) := by decide +kernel
theorem dL_tree_109 : decode cL_tree 109 = .ok (.iconst (-1), 1) := by decide +kernel
theorem dL_tree_110 : decode cL_tree 110 = .ok (.goto 16, 3) := by decide +kernel
theorem dL_tree_113 : decode cL_tree 113 = .ok (.aload_n 0, 1) := by decide +kernel
theorem dL_tree_114 : decode cL_tree 114 = .ok (.aload_n 1, 1) := by decide +kernel
theorem dL_tree_115 : decode cL_tree 115 = .ok (.aload_n 2, 1) := by decide +kernel
theorem dL_tree_116 : decode cL_tree 116 = .ok (.iload_n 3, 1) := by decide +kernel
theorem dL_tree_117 : decode cL_tree 117 = .ok (.iconst 5, 1) := by decide +kernel
theorem dL_tree_118 : decode cL_tree 118 = .ok (.iadd, 1) := by decide +kernel
theorem dL_tree_119 : decode cL_tree 119 = .ok (.iload 4, 2) := by decide +kernel
theorem dL_tree_121 : decode cL_tree 121 = .ok (.iconst 1, 1) := by decide +kernel
theorem dL_tree_122 : decode cL_tree 122 = .ok (.isub, 1) := by decide +kernel
theorem dL_tree_123 : decode cL_tree 123 = .ok (.invokestatic 38, 3) := by decide +kernel
theorem dL_tree_126 : decode cL_tree 126 = .ok (.istore 7, 2) := by decide +kernel
theorem dL_tree_128 : decode cL_tree 128 = .ok (.iload 7, 2) := by decide +kernel
theorem dL_tree_130 : decode cL_tree 130 = .ok (.ifCond .ge 7, 3) := by decide +kernel
theorem dL_tree_133 : decode cL_tree 133 = .ok (.iconst (-1), 1) := by decide +kernel
theorem dL_tree_134 : decode cL_tree 134 = .ok (.goto 25, 3) := by decide +kernel
theorem dL_tree_137 : decode cL_tree 137 = .ok (.aload_n 0, 1) := by decide +kernel
theorem dL_tree_138 : decode cL_tree 138 = .ok (.aload_n 1, 1) := by decide +kernel
theorem dL_tree_139 : decode cL_tree 139 = .ok (.iconst 2, 1) := by decide +kernel
theorem dL_tree_140 : decode cL_tree 140 = .ok (.iload 5, 2) := by decide +kernel
theorem dL_tree_142 : decode cL_tree 142 = .ok (.iconst 3, 1) := by decide +kernel
theorem dL_tree_143 : decode cL_tree 143 = .ok (.ishr, 1) := by decide +kernel
theorem dL_tree_144 : decode cL_tree 144 = .ok (.bipush 7, 2) := by decide +kernel
theorem dL_tree_146 : decode cL_tree 146 = .ok (.invokestatic 31, 3) := by decide +kernel
theorem dL_tree_149 : decode cL_tree 149 = .ok (.iconst 2, 1) := by decide +kernel
theorem dL_tree_150 : decode cL_tree 150 = .ok (.idiv, 1) := by decide +kernel
theorem dL_tree_151 : decode cL_tree 151 = .ok (.iadd, 1) := by decide +kernel
theorem dL_tree_152 : decode cL_tree 152 = .ok (.iload 6, 2) := by decide +kernel
theorem dL_tree_154 : decode cL_tree 154 = .ok (.iload 7, 2) := by decide +kernel
theorem dL_tree_156 : decode cL_tree 156 = .ok (.invokestatic 35, 3) := by decide +kernel
theorem dL_tree_159 : decode cL_tree 159 = .ok (.ireturn, 1) := by decide +kernel
theorem dL_write_0 : decode cL_write 0 = .ok (.iconst 2, 1) := by decide +kernel
theorem dL_write_1 : decode cL_write 1 = .ok (.aload_n 2, 1) := by decide +kernel
theorem dL_write_2 : decode cL_write 2 = .ok (.iload_n 3, 1) := by decide +kernel
theorem dL_write_3 : decode cL_write 3 = .ok (.invokestatic 25, 3) := by decide +kernel
theorem dL_write_6 : decode cL_write 6 = .ok (.bipush 11, 2) := by decide +kernel
theorem dL_write_8 : decode cL_write 8 = .ok (.invokestatic 31, 3) := by decide +kernel
theorem dL_write_11 : decode cL_write 11 = .ok (.iadd, 1) := by decide +kernel
theorem dL_write_12 : decode cL_write 12 = .ok (.istore 4, 2) := by decide +kernel
theorem dL_write_14 : decode cL_write 14 = .ok (.iconst 0, 1) := by decide +kernel
theorem dL_write_15 : decode cL_write 15 = .ok (.istore 5, 2) := by decide +kernel
theorem dL_write_17 : decode cL_write 17 = .ok (.iload 5, 2) := by decide +kernel
theorem dL_write_19 : decode cL_write 19 = .ok (.iload 4, 2) := by decide +kernel
theorem dL_write_21 : decode cL_write 21 = .ok (.if_icmp .ge 179, 3) := by decide +kernel
theorem dL_write_24 : decode cL_write 24 = .ok (.aload_n 2, 1) := by decide +kernel
theorem dL_write_25 : decode cL_write 25 = .ok (.iload 5, 2) := by decide +kernel
theorem dL_write_27 : decode cL_write 27 = .ok (.iload_n 3, 1) := by decide +kernel
theorem dL_write_28 : decode cL_write 28 = .ok (.iadd, 1) := by decide +kernel
theorem dL_write_29 : decode cL_write 29 = .ok (.bipush 16, 2) := by decide +kernel
theorem dL_write_31 : decode cL_write 31 = .ok (.irem, 1) := by decide +kernel
theorem dL_write_32 : decode cL_write 32 = .ok (.invokestatic 25, 3) := by decide +kernel
theorem dL_write_35 : decode cL_write 35 = .ok (.istore 6, 2) := by decide +kernel
theorem dL_write_37 : decode cL_write 37 = .ok (.iconst 3, 1) := by decide +kernel
theorem dL_write_38 : decode cL_write 38 = .ok (.iload 5, 2) := by decide +kernel
theorem dL_write_40 : decode cL_write 40 = .ok (.iconst 4, 1) := by decide +kernel
theorem dL_write_41 : decode cL_write 41 = .ok (.imul, 1) := by decide +kernel
theorem dL_write_42 : decode cL_write 42 = .ok (.iload 4, 2) := by decide +kernel
theorem dL_write_44 : decode cL_write 44 = .ok (.idiv, 1) := by decide +kernel
theorem dL_write_45 : decode cL_write 45 = .ok (.iload 6, 2) := by decide +kernel
theorem dL_write_47 : decode cL_write 47 = .ok (.iconst 2, 1) := by decide +kernel
theorem dL_write_48 : decode cL_write 48 = .ok (.invokestatic 31, 3) := by decide +kernel
theorem dL_write_51 : decode cL_write 51 = .ok (.iadd, 1) := by decide +kernel
theorem dL_write_52 : decode cL_write 52 = .ok (.invokestatic 42, 3) := by decide +kernel
theorem dL_write_55 : decode cL_write 55 = .ok (.istore 7, 2) := by decide +kernel
theorem dL_write_57 : decode cL_write 57 = .ok (.aload_n 0, 1) := by decide +kernel
theorem dL_write_58 : decode cL_write 58 = .ok (.aload_n 1, 1) := by decide +kernel
theorem dL_write_59 : decode cL_write 59 = .ok (.aload_n 2, 1) := by decide +kernel
theorem dL_write_60 : decode cL_write 60 = .ok (.bipush 11, 2) := by decide +kernel
theorem dL_write_62 : decode cL_write 62 = .ok (.iload 5, 2) := by decide +kernel
theorem dL_write_64 : decode cL_write 64 = .ok (.imul, 1) := by decide +kernel
theorem dL_write_65 : decode cL_write 65 = .ok (.iload_n 3, 1) := by decide +kernel
theorem dL_write_66 : decode cL_write 66 = .ok (.iadd, 1) := by decide +kernel
theorem dL_write_67 : decode cL_write 67 = .ok (.iconst 3, 1) := by decide +kernel
theorem dL_write_68 : decode cL_write 68 = .ok (.invokestatic 38, 3) := by decide +kernel
theorem dL_write_71 : decode cL_write 71 = .ok (.istore 8, 2) := by decide +kernel
theorem dL_write_73 : decode cL_write 73 = .ok (.iload 8, 2) := by decide +kernel
theorem dL_write_75 : decode cL_write 75 = .ok (.ifCond .ge 6, 3) := by decide +kernel
theorem dL_write_78 : decode cL_write 78 = .ok (.goto 116, 3) := by decide +kernel
theorem dL_write_81 : decode cL_write 81 = .ok (.iload 6, 2) := by decide +kernel
theorem dL_write_83 : decode cL_write 83 = .ok (.iconst 3, 1) := by decide +kernel
theorem dL_write_84 : decode cL_write 84 = .ok (.ishr, 1) := by decide +kernel
theorem dL_write_85 : decode cL_write 85 = .ok (.bipush 6, 2) := by decide +kernel
theorem dL_write_87 : decode cL_write 87 = .ok (.invokestatic 31, 3) := by decide +kernel
theorem dL_write_90 : decode cL_write 90 = .ok (.istore 9, 2) := by decide +kernel
theorem dL_write_92 : decode cL_write 92 = .ok (.iconst 1, 1) := by decide +kernel
theorem dL_write_93 : decode cL_write 93 = .ok (.istore 10, 2) := by decide +kernel
theorem dL_write_95 : decode cL_write 95 = .ok (.aload_n 1, 1) := by decide +kernel
theorem dL_write_96 : decode cL_write 96 = .ok (.getfield 47, 3) := by decide +kernel
theorem dL_write_99 : decode cL_write 99 = .ok (.astore 11, 2) := by decide +kernel
theorem dL_write_101 : decode cL_write 101 = .ok (.aload 11, 2) := by decide +kernel
theorem dL_write_103 : decode cL_write 103 = .ok (.arraylength, 1) := by decide +kernel
theorem dL_write_104 : decode cL_write 104 = .ok (.istore 12, 2) := by decide +kernel
theorem dL_write_106 : decode cL_write 106 = .ok (.iconst 0, 1) := by decide +kernel
theorem dL_write_107 : decode cL_write 107 = .ok (.istore 13, 2) := by decide +kernel
theorem dL_write_109 : decode cL_write 109 = .ok (.iload 13, 2) := by decide +kernel
theorem dL_write_111 : decode cL_write 111 = .ok (.iload 12, 2) := by decide +kernel
theorem dL_write_113 : decode cL_write 113 = .ok (.if_icmp .ge 35, 3) := by decide +kernel
theorem dL_write_116 : decode cL_write 116 = .ok (.aload 11, 2) := by decide +kernel
theorem dL_write_118 : decode cL_write 118 = .ok (.iload 13, 2) := by decide +kernel
theorem dL_write_120 : decode cL_write 120 = .ok (.aaload, 1) := by decide +kernel
theorem dL_write_121 : decode cL_write 121 = .ok (.astore 14, 2) := by decide +kernel
theorem dL_write_123 : decode cL_write 123 = .ok (.iload 10, 2) := by decide +kernel
theorem dL_write_125 : decode cL_write 125 = .ok (.aload 14, 2) := by decide +kernel
theorem dL_write_127 : decode cL_write 127 = .ok (.iconst 0, 1) := by decide +kernel
theorem dL_write_128 : decode cL_write 128 = .ok (.iaload, 1) := by decide +kernel
theorem dL_write_129 : decode cL_write 129 = .ok (.iload 7, 2) := by decide +kernel
theorem dL_write_131 : decode cL_write 131 = .ok (.if_icmp .ne 7, 3) := by decide +kernel
theorem dL_write_134 : decode cL_write 134 = .ok (.iconst 1, 1) := by decide +kernel
theorem dL_write_135 : decode cL_write 135 = .ok (.goto 4, 3) := by decide +kernel
theorem dL_write_138 : decode cL_write 138 = .ok (.iconst 0, 1) := by decide +kernel
theorem dL_write_139 : decode cL_write 139 = .ok (.iadd, 1) := by decide +kernel
theorem dL_write_140 : decode cL_write 140 = .ok (.istore 10, 2) := by decide +kernel
theorem dL_write_142 : decode cL_write 142 = .ok (.iinc 13 1, 3) := by decide +kernel
theorem dL_write_145 : decode cL_write 145 = .ok (.goto (-36), 3) := by decide +kernel
theorem dL_write_148 : decode cL_write 148 = .ok (.aload_n 0, 1) := by decide +kernel
theorem dL_write_149 : decode cL_write 149 = .ok (.iload 7, 2) := by decide +kernel
theorem dL_write_151 : decode cL_write 151 = .ok (.iload 9, 2) := by decide +kernel
theorem dL_write_153 : decode cL_write 153 = .ok (.iload 8, 2) := by decide +kernel
theorem dL_write_155 : decode cL_write 155 = .ok (.invokevirtual 50, 3) := by decide +kernel
theorem dL_write_158 : decode cL_write 158 = .ok (.iload 10, 2) := by decide +kernel
theorem dL_write_160 : decode cL_write 160 = .ok (.if_icmp .eq 5, 3) := by decide +kernel
theorem dL_write_163 : decode cL_write 163 = .ok (.iconst 0, 1) := by decide +kernel
theorem dL_write_164 : decode cL_write 164 = .ok (.ireturn, 1) := by decide +kernel
theorem dL_write_165 : decode cL_write 165 = .ok (.aload_n 1, 1) := by decide +kernel
theorem dL_write_166 : decode cL_write 166 = .ok (.aload_n 1, 1) := by decide +kernel
theorem dL_write_167 : decode cL_write 167 = .ok (.getfield 47, 3) := by decide +kernel
theorem dL_write_170 : decode cL_write 170 = .ok (.iconst 3, 1) := by decide +kernel
theorem dL_write_171 : decode cL_write 171 = .ok (.newarray .int, 2) := by decide +kernel
theorem dL_write_173 : decode cL_write 173 = .ok (.dup, 1) := by decide +kernel
theorem dL_write_174 : decode cL_write 174 = .ok (.iconst 0, 1) := by decide +kernel
theorem dL_write_175 : decode cL_write 175 = .ok (.iload 7, 2) := by decide +kernel
theorem dL_write_177 : decode cL_write 177 = .ok (.iastore, 1) := by decide +kernel
theorem dL_write_178 : decode cL_write 178 = .ok (.dup, 1) := by decide +kernel
theorem dL_write_179 : decode cL_write 179 = .ok (.iconst 1, 1) := by decide +kernel
theorem dL_write_180 : decode cL_write 180 = .ok (.iload 9, 2) := by decide +kernel
theorem dL_write_182 : decode cL_write 182 = .ok (.iastore, 1) := by decide +kernel
theorem dL_write_183 : decode cL_write 183 = .ok (.dup, 1) := by decide +kernel
theorem dL_write_184 : decode cL_write 184 = .ok (.iconst 2, 1) := by decide +kernel
theorem dL_write_185 : decode cL_write 185 = .ok (.iload 8, 2) := by decide +kernel
theorem dL_write_187 : decode cL_write 187 = .ok (.iastore, 1) := by decide +kernel
theorem dL_write_188 : decode cL_write 188 = .ok (.invokestatic 21, 3) := by decide +kernel
theorem dL_write_191 : decode cL_write 191 = .ok (.putfield 47, 3) := by decide +kernel
theorem dL_write_194 : decode cL_write 194 = .ok (.iinc 5 1, 3) := by decide +kernel
theorem dL_write_197 : decode cL_write 197 = .ok (.goto (-180), 3) := by decide +kernel
theorem dL_write_200 : decode cL_write 200 = .ok (.iconst 0, 1) := by decide +kernel
theorem dL_write_201 : decode cL_write 201 = .ok (.istore 5, 2) := by decide +kernel
theorem dL_write_203 : decode cL_write 203 = .ok (.iload 5, 2) := by decide +kernel
theorem dL_write_205 : decode cL_write 205 = .ok (.iconst 4, 1) := by decide +kernel
theorem dL_write_206 : decode cL_write 206 = .ok (.if_icmp .ge 51, 3) := by decide +kernel
theorem dL_write_209 : decode cL_write 209 = .ok (.aload_n 1, 1) := by decide +kernel
theorem dL_write_210 : decode cL_write 210 = .ok (.getfield 53, 3) := by decide +kernel
theorem dL_write_213 : decode cL_write 213 = .ok (.iload 5, 2) := by decide +kernel
theorem dL_write_215 : decode cL_write 215 = .ok (.iconst 1, 1) := by decide +kernel
theorem dL_write_216 : decode cL_write 216 = .ok (.aload_n 2, 1) := by decide +kernel
theorem dL_write_217 : decode cL_write 217 = .ok (.iload 5, 2) := by decide +kernel
theorem dL_write_219 : decode cL_write 219 = .ok (.iconst 3, 1) := by decide +kernel
theorem dL_write_220 : decode cL_write 220 = .ok (.iadd, 1) := by decide +kernel
theorem dL_write_221 : decode cL_write 221 = .ok (.invokestatic 25, 3) := by decide +kernel
theorem dL_write_224 : decode cL_write 224 = .ok (.iconst 4, 1) := by decide +kernel
theorem dL_write_225 : decode cL_write 225 = .ok (.ishr, 1) := by decide +kernel
theorem dL_write_226 : decode cL_write 226 = .ok (.iconst 3, 1) := by decide +kernel
theorem dL_write_227 : decode cL_write 227 = .ok (.invokestatic 31, 3) := by decide +kernel
theorem dL_write_230 : decode cL_write 230 = .ok (.iadd, 1) := by decide +kernel
theorem dL_write_231 : decode cL_write 231 = .ok (.iastore, 1) := by decide +kernel
theorem dL_write_232 : decode cL_write 232 = .ok (.aload_n 0, 1) := by decide +kernel
theorem dL_write_233 : decode cL_write 233 = .ok (.iload 5, 2) := by decide +kernel
theorem dL_write_235 : decode cL_write 235 = .ok (.aload_n 1, 1) := by decide +kernel
theorem dL_write_236 : decode cL_write 236 = .ok (.getfield 53, 3) := by decide +kernel
theorem dL_write_239 : decode cL_write 239 = .ok (.iload 5, 2) := by decide +kernel
theorem dL_write_241 : decode cL_write 241 = .ok (.iaload, 1) := by decide +kernel
theorem dL_write_242 : decode cL_write 242 = .ok (.invokevirtual 57, 3) := by decide +kernel
theorem dL_write_245 : decode cL_write 245 = .ok (.iconst 1, 1) := by decide +kernel
theorem dL_write_246 : decode cL_write 246 = .ok (.if_icmp .eq 5, 3) := by decide +kernel
theorem dL_write_249 : decode cL_write 249 = .ok (.iconst 0, 1) := by decide +kernel
theorem dL_write_250 : decode cL_write 250 = .ok (.ireturn, 1) := by decide +kernel
theorem dL_write_251 : decode cL_write 251 = .ok (.iinc 5 1, 3) := by decide +kernel
theorem dL_write_254 : decode cL_write 254 = .ok (.goto (-51), 3) := by decide +kernel
theorem dL_write_257 : decode cL_write 257 = .ok (.aload_n 1, 1) := by decide +kernel
theorem dL_write_258 : decode cL_write 258 = .ok (.aload_n 2, 1) := by decide +kernel
theorem dL_write_259 : decode cL_write 259 = .ok (.bipush 9, 2) := by decide +kernel
theorem dL_write_261 : decode cL_write 261 = .ok (.invokestatic 25, 3) := by decide +kernel
theorem dL_write_264 : decode cL_write 264 = .ok (.bipush 64, 2) := by decide +kernel
theorem dL_write_266 : decode cL_write 266 = .ok (.invokestatic 31, 3) := by decide +kernel
theorem dL_write_269 : decode cL_write 269 = .ok (.iconst 1, 1) := by decide +kernel
theorem dL_write_270 : decode cL_write 270 = .ok (.ior, 1) := by decide +kernel
theorem dL_write_271 : decode cL_write 271 = .ok (.putfield 59, 3) := by decide +kernel
theorem dL_write_274 : decode cL_write 274 = .ok (.aload_n 0, 1) := by decide +kernel
theorem dL_write_275 : decode cL_write 275 = .ok (.aload_n 1, 1) := by decide +kernel
theorem dL_write_276 : decode cL_write 276 = .ok (.getfield 59, 3) := by decide +kernel
theorem dL_write_279 : decode cL_write 279 = .ok (.invokevirtual 63, 3) := by decide +kernel
theorem dL_write_282 : decode cL_write 282 = .ok (.iconst 1, 1) := by decide +kernel
theorem dL_write_283 : decode cL_write 283 = .ok (.if_icmp .ne 17, 3) := by decide +kernel
theorem dL_write_286 : decode cL_write 286 = .ok (.aload_n 0, 1) := by decide +kernel
theorem dL_write_287 : decode cL_write 287 = .ok (.aload_n 1, 1) := by decide +kernel
theorem dL_write_288 : decode cL_write 288 = .ok (.aload_n 2, 1) := by decide +kernel
theorem dL_write_289 : decode cL_write 289 = .ok (.iload_n 3, 1) := by decide +kernel
theorem dL_write_290 : decode cL_write 290 = .ok (.invokestatic 66, 3) := by decide +kernel
theorem dL_write_293 : decode cL_write 293 = .ok (.ifCond .eq 7, 3) := by decide +kernel
theorem dL_write_296 : decode cL_write 296 = .ok (.iconst 1, 1) := by decide +kernel
theorem dL_write_297 : decode cL_write 297 = .ok (.goto 4, 3) := by decide +kernel
theorem dL_write_300 : decode cL_write 300 = .ok (.iconst 0, 1) := by decide +kernel
theorem dL_write_301 : decode cL_write 301 = .ok (.ireturn, 1) := by decide +kernel
theorem dL_machine_0 : decode cL_machine 0 = .ok (.aload_n 1, 1) := by decide +kernel
theorem dL_machine_1 : decode cL_machine 1 = .ok (.getfield 70, 3) := by decide +kernel
theorem dL_machine_4 : decode cL_machine 4 = .ok (.istore 4, 2) := by decide +kernel
theorem dL_machine_6 : decode cL_machine 6 = .ok (.aload_n 1, 1) := by decide +kernel
theorem dL_machine_7 : decode cL_machine 7 = .ok (.iconst 5, 1) := by decide +kernel
theorem dL_machine_8 : decode cL_machine 8 = .ok (.aload_n 2, 1) := by decide +kernel
theorem dL_machine_9 : decode cL_machine 9 = .ok (.iload_n 3, 1) := by decide +kernel
theorem dL_machine_10 : decode cL_machine 10 = .ok (.bipush 6, 2) := by decide +kernel
theorem dL_machine_12 : decode cL_machine 12 = .ok (.iadd, 1) := by decide +kernel
theorem dL_machine_13 : decode cL_machine 13 = .ok (.invokestatic 25, 3) := by decide +kernel
theorem dL_machine_16 : decode cL_machine 16 = .ok (.iconst 2, 1) := by decide +kernel
theorem dL_machine_17 : decode cL_machine 17 = .ok (.ishr, 1) := by decide +kernel
theorem dL_machine_18 : decode cL_machine 18 = .ok (.bipush 7, 2) := by decide +kernel
theorem dL_machine_20 : decode cL_machine 20 = .ok (.invokestatic 31, 3) := by decide +kernel
theorem dL_machine_23 : decode cL_machine 23 = .ok (.iadd, 1) := by decide +kernel
theorem dL_machine_24 : decode cL_machine 24 = .ok (.putfield 70, 3) := by decide +kernel
theorem dL_machine_27 : decode cL_machine 27 = .ok (.aload_n 1, 1) := by decide +kernel
theorem dL_machine_28 : decode cL_machine 28 = .ok (.aload_n 2, 1) := by decide +kernel
theorem dL_machine_29 : decode cL_machine 29 = .ok (.iload_n 3, 1) := by decide +kernel
theorem dL_machine_30 : decode cL_machine 30 = .ok (.bipush 7, 2) := by decide +kernel
theorem dL_machine_32 : decode cL_machine 32 = .ok (.iadd, 1) := by decide +kernel
theorem dL_machine_33 : decode cL_machine 33 = .ok (.invokestatic 25, 3) := by decide +kernel
theorem dL_machine_36 : decode cL_machine 36 = .ok (.sipush 256, 3) := by decide +kernel
theorem dL_machine_39 : decode cL_machine 39 = .ok (.invokestatic 31, 3) := by decide +kernel
theorem dL_machine_42 : decode cL_machine 42 = .ok (.iconst 1, 1) := by decide +kernel
theorem dL_machine_43 : decode cL_machine 43 = .ok (.aload_n 1, 1) := by decide +kernel
theorem dL_machine_44 : decode cL_machine 44 = .ok (.getfield 70, 3) := by decide +kernel
theorem dL_machine_47 : decode cL_machine 47 = .ok (.iconst 3, 1) := by decide +kernel
theorem dL_machine_48 : decode cL_machine 48 = .ok (.isub, 1) := by decide +kernel
theorem dL_machine_49 : decode cL_machine 49 = .ok (.ishl, 1) := by decide +kernel
theorem dL_machine_50 : decode cL_machine 50 = .ok (.iconst 4, 1) := by decide +kernel
theorem dL_machine_51 : decode cL_machine 51 = .ok (.isub, 1) := by decide +kernel
theorem dL_machine_52 : decode cL_machine 52 = .ok (.iand, 1) := by decide +kernel
theorem dL_machine_53 : decode cL_machine 53 = .ok (.putfield 73, 3) := by decide +kernel
theorem dL_machine_56 : decode cL_machine 56 = .ok (.aload_n 1, 1) := by decide +kernel
theorem dL_machine_57 : decode cL_machine 57 = .ok (.aload_n 2, 1) := by decide +kernel
theorem dL_machine_58 : decode cL_machine 58 = .ok (.iload_n 3, 1) := by decide +kernel
theorem dL_machine_59 : decode cL_machine 59 = .ok (.bipush 8, 2) := by decide +kernel
theorem dL_machine_61 : decode cL_machine 61 = .ok (.iadd, 1) := by decide +kernel
theorem dL_machine_62 : decode cL_machine 62 = .ok (.invokestatic 25, 3) := by decide +kernel
theorem dL_machine_65 : decode cL_machine 65 = .ok (.bipush 25, 2) := by decide +kernel
theorem dL_machine_67 : decode cL_machine 67 = .ok (.invokestatic 31, 3) := by decide +kernel
theorem dL_machine_70 : decode cL_machine 70 = .ok (.putfield 76, 3) := by decide +kernel
theorem dL_machine_73 : decode cL_machine 73 = .ok (.aload_n 1, 1) := by decide +kernel
theorem dL_machine_74 : decode cL_machine 74 = .ok (.aload_n 2, 1) := by decide +kernel
theorem dL_machine_75 : decode cL_machine 75 = .ok (.iload_n 3, 1) := by decide +kernel
theorem dL_machine_76 : decode cL_machine 76 = .ok (.bipush 9, 2) := by decide +kernel
theorem dL_machine_78 : decode cL_machine 78 = .ok (.iadd, 1) := by decide +kernel
theorem dL_machine_79 : decode cL_machine 79 = .ok (.invokestatic 25, 3) := by decide +kernel
theorem dL_machine_82 : decode cL_machine 82 = .ok (.iconst 3, 1) := by decide +kernel
theorem dL_machine_83 : decode cL_machine 83 = .ok (.invokestatic 31, 3) := by decide +kernel
theorem dL_machine_86 : decode cL_machine 86 = .ok (.ifCond .le 7, 3) := by decide +kernel
theorem dL_machine_89 : decode cL_machine 89 = .ok (.iconst 1, 1) := by decide +kernel
theorem dL_machine_90 : decode cL_machine 90 = .ok (.goto 4, 3) := by decide +kernel
theorem dL_machine_93 : decode cL_machine 93 = .ok (.iconst 0, 1) := by decide +kernel
theorem dL_machine_94 : decode cL_machine 94 = .ok (.putfield 79, 3) := by decide +kernel
theorem dL_machine_97 : decode cL_machine 97 = .ok (.aload_n 1, 1) := by decide +kernel
theorem dL_machine_98 : decode cL_machine 98 = .ok (.aload_n 2, 1) := by decide +kernel
theorem dL_machine_99 : decode cL_machine 99 = .ok (.iload_n 3, 1) := by decide +kernel
theorem dL_machine_100 : decode cL_machine 100 = .ok (.bipush 10, 2) := by decide +kernel
theorem dL_machine_102 : decode cL_machine 102 = .ok (.iadd, 1) := by decide +kernel
theorem dL_machine_103 : decode cL_machine 103 = .ok (.invokestatic 25, 3) := by decide +kernel
theorem dL_machine_106 : decode cL_machine 106 = .ok (.iconst 2, 1) := by decide +kernel
theorem dL_machine_107 : decode cL_machine 107 = .ok (.invokestatic 31, 3) := by decide +kernel
theorem dL_machine_110 : decode cL_machine 110 = .ok (.ifCond .ne 7, 3) := by decide +kernel
theorem dL_machine_113 : decode cL_machine 113 = .ok (.iconst 1, 1) := by decide +kernel
theorem dL_machine_114 : decode cL_machine 114 = .ok (.goto 4, 3) := by decide +kernel
theorem dL_machine_117 : decode cL_machine 117 = .ok (.iconst 0, 1) := by decide +kernel
theorem dL_machine_118 : decode cL_machine 118 = .ok (.putfield 83, 3) := by decide +kernel
theorem dL_machine_121 : decode cL_machine 121 = .ok (.aload_n 0, 1) := by decide +kernel
theorem dL_machine_122 : decode cL_machine 122 = .ok (.aload_n 1, 1) := by decide +kernel
theorem dL_machine_123 : decode cL_machine 123 = .ok (.getfield 70, 3) := by decide +kernel
theorem dL_machine_126 : decode cL_machine 126 = .ok (.aload_n 1, 1) := by decide +kernel
theorem dL_machine_127 : decode cL_machine 127 = .ok (.getfield 73, 3) := by decide +kernel
theorem dL_machine_130 : decode cL_machine 130 = .ok (.aload_n 1, 1) := by decide +kernel
theorem dL_machine_131 : decode cL_machine 131 = .ok (.getfield 76, 3) := by decide +kernel
theorem dL_machine_134 : decode cL_machine 134 = .ok (.aload_n 1, 1) := by decide +kernel
theorem dL_machine_135 : decode cL_machine 135 = .ok (.getfield 79, 3) := by decide +kernel
theorem dL_machine_138 : decode cL_machine 138 = .ok (.aload_n 1, 1) := by decide +kernel
theorem dL_machine_139 : decode cL_machine 139 = .ok (.getfield 83, 3) := by decide +kernel
theorem dL_machine_142 : decode cL_machine 142 = .ok (.invokevirtual 86, 3) := by decide +kernel
theorem dL_machine_145 : decode cL_machine 145 = .ok (.iload 4, 2) := by decide +kernel
theorem dL_machine_147 : decode cL_machine 147 = .ok (.if_icmp .eq 5, 3) := by decide +kernel
theorem dL_machine_150 : decode cL_machine 150 = .ok (.iconst 0, 1) := by decide +kernel
theorem dL_machine_151 : decode cL_machine 151 = .ok (.ireturn, 1) := by decide +kernel
theorem dL_machine_152 : decode cL_machine 152 = .ok (.iconst 0, 1) := by decide +kernel
theorem dL_machine_153 : decode cL_machine 153 = .ok (.istore 5, 2) := by decide +kernel
theorem dL_machine_155 : decode cL_machine 155 = .ok (.iload 5, 2) := by decide +kernel
theorem dL_machine_157 : decode cL_machine 157 = .ok (.bipush 8, 2) := by decide +kernel
theorem dL_machine_159 : decode cL_machine 159 = .ok (.if_icmp .ge 82, 3) := by decide +kernel
theorem dL_machine_162 : decode cL_machine 162 = .ok (.aload_n 2, 1) := by decide +kernel
theorem dL_machine_163 : decode cL_machine 163 = .ok (.iload 5, 2) := by decide +kernel
theorem dL_machine_165 : decode cL_machine 165 = .ok (.iconst 2, 1) := by decide +kernel
theorem dL_machine_166 : decode cL_machine 166 = .ok (.iadd, 1) := by decide +kernel
theorem dL_machine_167 : decode cL_machine 167 = .ok (.invokestatic 25, 3) := by decide +kernel
theorem dL_machine_170 : decode cL_machine 170 = .ok (.iconst 5, 1) := by decide +kernel
theorem dL_machine_171 : decode cL_machine 171 = .ok (.ishr, 1) := by decide +kernel
theorem dL_machine_172 : decode cL_machine 172 = .ok (.iconst 3, 1) := by decide +kernel
theorem dL_machine_173 : decode cL_machine 173 = .ok (.invokestatic 31, 3) := by decide +kernel
theorem dL_machine_176 : decode cL_machine 176 = .ok (.ifCond .le 6, 3) := by decide +kernel
theorem dL_machine_179 : decode cL_machine 179 = .ok (.goto 56, 3) := by decide +kernel
theorem dL_machine_182 : decode cL_machine 182 = .ok (.aload_n 1, 1) := by decide +kernel
theorem dL_machine_183 : decode cL_machine 183 = .ok (.getfield 89, 3) := by decide +kernel
theorem dL_machine_186 : decode cL_machine 186 = .ok (.iload 5, 2) := by decide +kernel
theorem dL_machine_188 : decode cL_machine 188 = .ok (.iaload, 1) := by decide +kernel
theorem dL_machine_189 : decode cL_machine 189 = .ok (.istore 6, 2) := by decide +kernel
theorem dL_machine_191 : decode cL_machine 191 = .ok (.aload_n 1, 1) := by decide +kernel
theorem dL_machine_192 : decode cL_machine 192 = .ok (.getfield 89, 3) := by decide +kernel
theorem dL_machine_195 : decode cL_machine 195 = .ok (.iload 5, 2) := by decide +kernel
theorem dL_machine_197 : decode cL_machine 197 = .ok (.iconst 1, 1) := by decide +kernel
theorem dL_machine_198 : decode cL_machine 198 = .ok (.aload_n 2, 1) := by decide +kernel
theorem dL_machine_199 : decode cL_machine 199 = .ok (.iload 5, 2) := by decide +kernel
theorem dL_machine_201 : decode cL_machine 201 = .ok (.iconst 4, 1) := by decide +kernel
theorem dL_machine_202 : decode cL_machine 202 = .ok (.iadd, 1) := by decide +kernel
theorem dL_machine_203 : decode cL_machine 203 = .ok (.invokestatic 25, 3) := by decide +kernel
theorem dL_machine_206 : decode cL_machine 206 = .ok (.iconst 3, 1) := by decide +kernel
theorem dL_machine_207 : decode cL_machine 207 = .ok (.ishr, 1) := by decide +kernel
theorem dL_machine_208 : decode cL_machine 208 = .ok (.bipush 9, 2) := by decide +kernel
theorem dL_machine_210 : decode cL_machine 210 = .ok (.invokestatic 31, 3) := by decide +kernel
theorem dL_machine_213 : decode cL_machine 213 = .ok (.iadd, 1) := by decide +kernel
theorem dL_machine_214 : decode cL_machine 214 = .ok (.iastore, 1) := by decide +kernel
theorem dL_machine_215 : decode cL_machine 215 = .ok (.aload_n 0, 1) := by decide +kernel
theorem dL_machine_216 : decode cL_machine 216 = .ok (.iload 5, 2) := by decide +kernel
theorem dL_machine_218 : decode cL_machine 218 = .ok (.aload_n 1, 1) := by decide +kernel
theorem dL_machine_219 : decode cL_machine 219 = .ok (.getfield 89, 3) := by decide +kernel
theorem dL_machine_222 : decode cL_machine 222 = .ok (.iload 5, 2) := by decide +kernel
theorem dL_machine_224 : decode cL_machine 224 = .ok (.iaload, 1) := by decide +kernel
theorem dL_machine_225 : decode cL_machine 225 = .ok (.invokevirtual 92, 3) := by decide +kernel
theorem dL_machine_228 : decode cL_machine 228 = .ok (.iload 6, 2) := by decide +kernel
theorem dL_machine_230 : decode cL_machine 230 = .ok (.if_icmp .eq 5, 3) := by decide +kernel
theorem dL_machine_233 : decode cL_machine 233 = .ok (.iconst 0, 1) := by decide +kernel
theorem dL_machine_234 : decode cL_machine 234 = .ok (.ireturn, 1) := by decide +kernel
theorem dL_machine_235 : decode cL_machine 235 = .ok (.iinc 5 1, 3) := by decide +kernel
theorem dL_machine_238 : decode cL_machine 238 = .ok (.goto (-83), 3) := by decide +kernel
theorem dL_machine_241 : decode cL_machine 241 = .ok (.iconst 1, 1) := by decide +kernel
theorem dL_machine_242 : decode cL_machine 242 = .ok (.ireturn, 1) := by decide +kernel
theorem dL_law_0 : decode cL_law 0 = .ok (.new 16, 3) := by decide +kernel
theorem dL_law_3 : decode cL_law 3 = .ok (.dup, 1) := by decide +kernel
theorem dL_law_4 : decode cL_law 4 = .ok (.invokespecial 95, 3) := by decide +kernel
theorem dL_law_7 : decode cL_law 7 = .ok (.astore_n 1, 1) := by decide +kernel
theorem dL_law_8 : decode cL_law 8 = .ok (.new 10, 3) := by decide +kernel
theorem dL_law_11 : decode cL_law 11 = .ok (.dup, 1) := by decide +kernel
theorem dL_law_12 : decode cL_law 12 = .ok (.invokespecial 96, 3) := by decide +kernel
theorem dL_law_15 : decode cL_law 15 = .ok (.astore_n 2, 1) := by decide +kernel
theorem dL_law_16 : decode cL_law 16 = .ok (.aload_n 1, 1) := by decide +kernel
theorem dL_law_17 : decode cL_law 17 = .ok (.aload_n 2, 1) := by decide +kernel
theorem dL_law_18 : decode cL_law 18 = .ok (.aload_n 0, 1) := by decide +kernel
theorem dL_law_19 : decode cL_law 19 = .ok (.aload_n 0, 1) := by decide +kernel
theorem dL_law_20 : decode cL_law 20 = .ok (.bipush 15, 2) := by decide +kernel
theorem dL_law_22 : decode cL_law 22 = .ok (.invokestatic 25, 3) := by decide +kernel
theorem dL_law_25 : decode cL_law 25 = .ok (.iconst 4, 1) := by decide +kernel
theorem dL_law_26 : decode cL_law 26 = .ok (.invokestatic 31, 3) := by decide +kernel
theorem dL_law_29 : decode cL_law 29 = .ok (.invokestatic 97, 3) := by decide +kernel
theorem dL_law_32 : decode cL_law 32 = .ok (.ifCond .ne 5, 3) := by decide +kernel
theorem dL_law_35 : decode cL_law 35 = .ok (.iconst 0, 1) := by decide +kernel
theorem dL_law_36 : decode cL_law 36 = .ok (.ireturn, 1) := by decide +kernel
theorem dL_law_37 : decode cL_law 37 = .ok (.iconst 0, 1) := by decide +kernel
theorem dL_law_38 : decode cL_law 38 = .ok (.istore_n 3, 1) := by decide +kernel
theorem dL_law_39 : decode cL_law 39 = .ok (.iload_n 3, 1) := by decide +kernel
theorem dL_law_40 : decode cL_law 40 = .ok (.iconst 4, 1) := by decide +kernel
theorem dL_law_41 : decode cL_law 41 = .ok (.if_icmp .ge 255, 3) := by decide +kernel
theorem dL_law_44 : decode cL_law 44 = .ok (.iconst 5, 1) := by decide +kernel
theorem dL_law_45 : decode cL_law 45 = .ok (.aload_n 0, 1) := by decide +kernel
theorem dL_law_46 : decode cL_law 46 = .ok (.iload_n 3, 1) := by decide +kernel
theorem dL_law_47 : decode cL_law 47 = .ok (.iconst 2, 1) := by decide +kernel
theorem dL_law_48 : decode cL_law 48 = .ok (.iadd, 1) := by decide +kernel
theorem dL_law_49 : decode cL_law 49 = .ok (.invokestatic 25, 3) := by decide +kernel
theorem dL_law_52 : decode cL_law 52 = .ok (.bipush 7, 2) := by decide +kernel
theorem dL_law_54 : decode cL_law 54 = .ok (.invokestatic 31, 3) := by decide +kernel
theorem dL_law_57 : decode cL_law 57 = .ok (.iadd, 1) := by decide +kernel
theorem dL_law_58 : decode cL_law 58 = .ok (.istore 4, 2) := by decide +kernel
theorem dL_law_60 : decode cL_law 60 = .ok (.aload_n 0, 1) := by decide +kernel
theorem dL_law_61 : decode cL_law 61 = .ok (.iload_n 3, 1) := by decide +kernel
theorem dL_law_62 : decode cL_law 62 = .ok (.iconst 5, 1) := by decide +kernel
theorem dL_law_63 : decode cL_law 63 = .ok (.iadd, 1) := by decide +kernel
theorem dL_law_64 : decode cL_law 64 = .ok (.invokestatic 25, 3) := by decide +kernel
theorem dL_law_67 : decode cL_law 67 = .ok (.iconst 2, 1) := by decide +kernel
theorem dL_law_68 : decode cL_law 68 = .ok (.ishr, 1) := by decide +kernel
theorem dL_law_69 : decode cL_law 69 = .ok (.sipush 256, 3) := by decide +kernel
theorem dL_law_72 : decode cL_law 72 = .ok (.invokestatic 31, 3) := by decide +kernel
theorem dL_law_75 : decode cL_law 75 = .ok (.iconst 1, 1) := by decide +kernel
theorem dL_law_76 : decode cL_law 76 = .ok (.iload 4, 2) := by decide +kernel
theorem dL_law_78 : decode cL_law 78 = .ok (.iconst 3, 1) := by decide +kernel
theorem dL_law_79 : decode cL_law 79 = .ok (.isub, 1) := by decide +kernel
theorem dL_law_80 : decode cL_law 80 = .ok (.ishl, 1) := by decide +kernel
theorem dL_law_81 : decode cL_law 81 = .ok (.iconst 4, 1) := by decide +kernel
theorem dL_law_82 : decode cL_law 82 = .ok (.isub, 1) := by decide +kernel
theorem dL_law_83 : decode cL_law 83 = .ok (.iand, 1) := by decide +kernel
theorem dL_law_84 : decode cL_law 84 = .ok (.istore 5, 2) := by decide +kernel
theorem dL_law_86 : decode cL_law 86 = .ok (.aload_n 0, 1) := by decide +kernel
theorem dL_law_87 : decode cL_law 87 = .ok (.iload_n 3, 1) := by decide +kernel
theorem dL_law_88 : decode cL_law 88 = .ok (.bipush 8, 2) := by decide +kernel
theorem dL_law_90 : decode cL_law 90 = .ok (.iadd, 1) := by decide +kernel
theorem dL_law_91 : decode cL_law 91 = .ok (.invokestatic 25, 3) := by decide +kernel
theorem dL_law_94 : decode cL_law 94 = .ok (.iconst 2, 1) := by decide +kernel
theorem dL_law_95 : decode cL_law 95 = .ok (.invokestatic 31, 3) := by decide +kernel
theorem dL_law_98 : decode cL_law 98 = .ok (.ifCond .ne 7, 3) := by decide +kernel
theorem dL_law_101 : decode cL_law 101 = .ok (.iconst 1, 1) := by decide +kernel
theorem dL_law_102 : decode cL_law 102 = .ok (.goto 4, 3) := by decide +kernel
theorem dL_law_105 : decode cL_law 105 = .ok (.iconst 0, 1) := by decide +kernel
theorem dL_law_106 : decode cL_law 106 = .ok (.istore 6, 2) := by decide +kernel
theorem dL_law_108 : decode cL_law 108 = .ok (.bipush 16, 2) := by decide +kernel
theorem dL_law_110 : decode cL_law 110 = .ok (.newarray .int, 2) := by decide +kernel
theorem dL_law_112 : decode cL_law 112 = .ok (.astore 7, 2) := by decide +kernel
theorem dL_law_114 : decode cL_law 114 = .ok (.iconst 3, 1) := by decide +kernel
theorem dL_law_115 : decode cL_law 115 = .ok (.istore 8, 2) := by decide +kernel
theorem dL_law_117 : decode cL_law 117 = .ok (.iload 8, 2) := by decide +kernel
theorem dL_law_119 : decode cL_law 119 = .ok (.bipush 16, 2) := by decide +kernel
theorem dL_law_121 : decode cL_law 121 = .ok (.if_icmp .ge 26, 3) := by decide +kernel
theorem dL_law_124 : decode cL_law 124 = .ok (.aload 7, 2) := by decide +kernel
theorem dL_law_126 : decode cL_law 126 = .ok (.iload 8, 2) := by decide +kernel
theorem dL_law_128 : decode cL_law 128 = .ok (.aload_n 1, 1) := by decide +kernel
theorem dL_law_129 : decode cL_law 129 = .ok (.iload 4, 2) := by decide +kernel
theorem dL_law_131 : decode cL_law 131 = .ok (.iload 5, 2) := by decide +kernel
theorem dL_law_133 : decode cL_law 133 = .ok (.iload 6, 2) := by decide +kernel
theorem dL_law_135 : decode cL_law 135 = .ok (.iload 8, 2) := by decide +kernel
theorem dL_law_137 : decode cL_law 137 = .ok (.invokevirtual 100, 3) := by decide +kernel
theorem dL_law_140 : decode cL_law 140 = .ok (.iastore, 1) := by decide +kernel
theorem dL_law_141 : decode cL_law 141 = .ok (.iinc 8 1, 3) := by decide +kernel
theorem dL_law_144 : decode cL_law 144 = .ok (.goto (-27), 3) := by decide +kernel
theorem dL_law_147 : decode cL_law 147 = .ok (.aload_n 1, 1) := by decide +kernel
theorem dL_law_148 : decode cL_law 148 = .ok (.iload 4, 2) := by decide +kernel
theorem dL_law_150 : decode cL_law 150 = .ok (.iload 5, 2) := by decide +kernel
theorem dL_law_152 : decode cL_law 152 = .ok (.aload_n 2, 1) := by decide +kernel
theorem dL_law_153 : decode cL_law 153 = .ok (.getfield 76, 3) := by decide +kernel
theorem dL_law_156 : decode cL_law 156 = .ok (.aload_n 2, 1) := by decide +kernel
theorem dL_law_157 : decode cL_law 157 = .ok (.getfield 79, 3) := by decide +kernel
theorem dL_law_160 : decode cL_law 160 = .ok (.iload 6, 2) := by decide +kernel
theorem dL_law_162 : decode cL_law 162 = .ok (.invokevirtual 86, 3) := by decide +kernel
theorem dL_law_165 : decode cL_law 165 = .ok (.iconst 5, 1) := by decide +kernel
theorem dL_law_166 : decode cL_law 166 = .ok (.if_icmp .ge 5, 3) := by decide +kernel
theorem dL_law_169 : decode cL_law 169 = .ok (.iconst 0, 1) := by decide +kernel
theorem dL_law_170 : decode cL_law 170 = .ok (.ireturn, 1) := by decide +kernel
theorem dL_law_171 : decode cL_law 171 = .ok (.iconst 3, 1) := by decide +kernel
theorem dL_law_172 : decode cL_law 172 = .ok (.istore 8, 2) := by decide +kernel
theorem dL_law_174 : decode cL_law 174 = .ok (.iload 8, 2) := by decide +kernel
theorem dL_law_176 : decode cL_law 176 = .ok (.bipush 16, 2) := by decide +kernel
theorem dL_law_178 : decode cL_law 178 = .ok (.if_icmp .ge 25, 3) := by decide +kernel
theorem dL_law_181 : decode cL_law 181 = .ok (.aload_n 1, 1) := by decide +kernel
theorem dL_law_182 : decode cL_law 182 = .ok (.iload 8, 2) := by decide +kernel
theorem dL_law_184 : decode cL_law 184 = .ok (.invokevirtual 103, 3) := by decide +kernel
theorem dL_law_187 : decode cL_law 187 = .ok (.aload 7, 2) := by decide +kernel
theorem dL_law_189 : decode cL_law 189 = .ok (.iload 8, 2) := by decide +kernel
theorem dL_law_191 : decode cL_law 191 = .ok (.iaload, 1) := by decide +kernel
theorem dL_law_192 : decode cL_law 192 = .ok (.if_icmp .eq 5, 3) := by decide +kernel
theorem dL_law_195 : decode cL_law 195 = .ok (.iconst 0, 1) := by decide +kernel
theorem dL_law_196 : decode cL_law 196 = .ok (.ireturn, 1) := by decide +kernel
theorem dL_law_197 : decode cL_law 197 = .ok (.iinc 8 1, 3) := by decide +kernel
theorem dL_law_200 : decode cL_law 200 = .ok (.goto (-26), 3) := by decide +kernel
theorem dL_law_203 : decode cL_law 203 = .ok (.aload_n 0, 1) := by decide +kernel
theorem dL_law_204 : decode cL_law 204 = .ok (.iload_n 3, 1) := by decide +kernel
theorem dL_law_205 : decode cL_law 205 = .ok (.bipush 11, 2) := by decide +kernel
theorem dL_law_207 : decode cL_law 207 = .ok (.iadd, 1) := by decide +kernel
theorem dL_law_208 : decode cL_law 208 = .ok (.invokestatic 25, 3) := by decide +kernel
theorem dL_law_211 : decode cL_law 211 = .ok (.bipush 8, 2) := by decide +kernel
theorem dL_law_213 : decode cL_law 213 = .ok (.invokestatic 31, 3) := by decide +kernel
theorem dL_law_216 : decode cL_law 216 = .ok (.istore 8, 2) := by decide +kernel
theorem dL_law_218 : decode cL_law 218 = .ok (.iconst 1, 1) := by decide +kernel
theorem dL_law_219 : decode cL_law 219 = .ok (.aload_n 0, 1) := by decide +kernel
theorem dL_law_220 : decode cL_law 220 = .ok (.iload_n 3, 1) := by decide +kernel
theorem dL_law_221 : decode cL_law 221 = .ok (.bipush 12, 2) := by decide +kernel
theorem dL_law_223 : decode cL_law 223 = .ok (.iadd, 1) := by decide +kernel
theorem dL_law_224 : decode cL_law 224 = .ok (.invokestatic 25, 3) := by decide +kernel
theorem dL_law_227 : decode cL_law 227 = .ok (.iconst 3, 1) := by decide +kernel
theorem dL_law_228 : decode cL_law 228 = .ok (.ishr, 1) := by decide +kernel
theorem dL_law_229 : decode cL_law 229 = .ok (.bipush 9, 2) := by decide +kernel
theorem dL_law_231 : decode cL_law 231 = .ok (.invokestatic 31, 3) := by decide +kernel
theorem dL_law_234 : decode cL_law 234 = .ok (.iadd, 1) := by decide +kernel
theorem dL_law_235 : decode cL_law 235 = .ok (.istore 9, 2) := by decide +kernel
theorem dL_law_237 : decode cL_law 237 = .ok (.aload_n 1, 1) := by decide +kernel
theorem dL_law_238 : decode cL_law 238 = .ok (.iload 8, 2) := by decide +kernel
theorem dL_law_240 : decode cL_law 240 = .ok (.iload 9, 2) := by decide +kernel
theorem dL_law_242 : decode cL_law 242 = .ok (.invokevirtual 106, 3) := by decide +kernel
theorem dL_law_245 : decode cL_law 245 = .ok (.istore 10, 2) := by decide +kernel
theorem dL_law_247 : decode cL_law 247 = .ok (.aload_n 1, 1) := by decide +kernel
theorem dL_law_248 : decode cL_law 248 = .ok (.iload 8, 2) := by decide +kernel
theorem dL_law_250 : decode cL_law 250 = .ok (.iload 9, 2) := by decide +kernel
theorem dL_law_252 : decode cL_law 252 = .ok (.invokevirtual 92, 3) := by decide +kernel
theorem dL_law_255 : decode cL_law 255 = .ok (.iconst 1, 1) := by decide +kernel
theorem dL_law_256 : decode cL_law 256 = .ok (.if_icmp .lt 32, 3) := by decide +kernel
theorem dL_law_259 : decode cL_law 259 = .ok (.aload_n 1, 1) := by decide +kernel
theorem dL_law_260 : decode cL_law 260 = .ok (.bipush 13, 2) := by decide +kernel
theorem dL_law_262 : decode cL_law 262 = .ok (.invokevirtual 103, 3) := by decide +kernel
theorem dL_law_265 : decode cL_law 265 = .ok (.iload 10, 2) := by decide +kernel
theorem dL_law_267 : decode cL_law 267 = .ok (.if_icmp .ne 21, 3) := by decide +kernel
theorem dL_law_270 : decode cL_law 270 = .ok (.aload_n 1, 1) := by decide +kernel
theorem dL_law_271 : decode cL_law 271 = .ok (.aload_n 2, 1) := by decide +kernel
theorem dL_law_272 : decode cL_law 272 = .ok (.invokestatic 109, 3) := by decide +kernel
theorem dL_law_275 : decode cL_law 275 = .ok (.ifCond .eq 13, 3) := by decide +kernel
theorem dL_law_278 : decode cL_law 278 = .ok (.aload_n 1, 1) := by decide +kernel
theorem dL_law_279 : decode cL_law 279 = .ok (.aload_n 2, 1) := by decide +kernel
theorem dL_law_280 : decode cL_law 280 = .ok (.iload 4, 2) := by decide +kernel
theorem dL_law_282 : decode cL_law 282 = .ok (.invokestatic 113, 3) := by decide +kernel
theorem dL_law_285 : decode cL_law 285 = .ok (.ifCond .ne 5, 3) := by decide +kernel
theorem dL_law_288 : decode cL_law 288 = .ok (.iconst 0, 1) := by decide +kernel
theorem dL_law_289 : decode cL_law 289 = .ok (.ireturn, 1) := by decide +kernel
theorem dL_law_290 : decode cL_law 290 = .ok (.iinc 3 1, 3) := by decide +kernel
theorem dL_law_293 : decode cL_law 293 = .ok (.goto (-254), 3) := by decide +kernel
theorem dL_law_296 : decode cL_law 296 = .ok (.aload_n 1, 1) := by decide +kernel
theorem dL_law_297 : decode cL_law 297 = .ok (.invokevirtual 117, 3) := by decide +kernel
theorem dL_law_300 : decode cL_law 300 = .ok (.lstore_n 3, 1) := by decide +kernel
theorem dL_law_301 : decode cL_law 301 = .ok (.aload_n 1, 1) := by decide +kernel
theorem dL_law_302 : decode cL_law 302 = .ok (.invokevirtual 121, 3) := by decide +kernel
theorem dL_law_305 : decode cL_law 305 = .ok (.istore 5, 2) := by decide +kernel
theorem dL_law_307 : decode cL_law 307 = .ok (.iload 5, 2) := by decide +kernel
theorem dL_law_309 : decode cL_law 309 = .ok (.ifCond .lt 16, 3) := by decide +kernel
theorem dL_law_312 : decode cL_law 312 = .ok (.iload 5, 2) := by decide +kernel
theorem dL_law_314 : decode cL_law 314 = .ok (.iconst 5, 1) := by decide +kernel
theorem dL_law_315 : decode cL_law 315 = .ok (.if_icmp .lt 20, 3) := by decide +kernel
theorem dL_law_318 : decode cL_law 318 = .ok (.iload 5, 2) := by decide +kernel
theorem dL_law_320 : decode cL_law 320 = .ok (.bipush 11, 2) := by decide +kernel
theorem dL_law_322 : decode cL_law 322 = .ok (.if_icmp .gt 13, 3) := by decide +kernel
theorem dL_law_325 : decode cL_law 325 = .ok (.aload_n 1, 1) := by decide +kernel
theorem dL_law_326 : decode cL_law 326 = .ok (.invokevirtual 125, 3) := by decide +kernel
theorem dL_law_329 : decode cL_law 329 = .ok (.sipush (-9999), 3) := by decide +kernel
theorem dL_law_332 : decode cL_law 332 = .ok (.if_icmp .ge 5, 3) := by decide +kernel
theorem dL_law_335 : decode cL_law 335 = .ok (.iconst 0, 1) := by decide +kernel
theorem dL_law_336 : decode cL_law 336 = .ok (.ireturn, 1) := by decide +kernel
theorem dL_law_337 : decode cL_law 337 = .ok (.aload_n 1, 1) := by decide +kernel
theorem dL_law_338 : decode cL_law 338 = .ok (.invokevirtual 117, 3) := by decide +kernel
theorem dL_law_341 : decode cL_law 341 = .ok (.lload_n 3, 1) := by decide +kernel
theorem dL_law_342 : decode cL_law 342 = .ok (.lcmp, 1) := by decide +kernel
theorem dL_law_343 : decode cL_law 343 = .ok (.ifCond .ne 7, 3) := by decide +kernel
theorem dL_law_346 : decode cL_law 346 = .ok (.iconst 1, 1) := by decide +kernel
theorem dL_law_347 : decode cL_law 347 = .ok (.goto 4, 3) := by decide +kernel
theorem dL_law_350 : decode cL_law 350 = .ok (.iconst 0, 1) := by decide +kernel
theorem dL_law_351 : decode cL_law 351 = .ok (.ireturn, 1) := by decide +kernel
theorem dL_isMeant_0 : decode cL_isMeant 0 = .ok (.aload_n 1, 1) := by decide +kernel
theorem dL_isMeant_1 : decode cL_isMeant 1 = .ok (.invokevirtual 128, 3) := by decide +kernel
theorem dL_isMeant_4 : decode cL_isMeant 4 = .ok (.astore_n 2, 1) := by decide +kernel
theorem dL_isMeant_5 : decode cL_isMeant 5 = .ok (.iconst 0, 1) := by decide +kernel
theorem dL_isMeant_6 : decode cL_isMeant 6 = .ok (.istore_n 3, 1) := by decide +kernel
theorem dL_isMeant_7 : decode cL_isMeant 7 = .ok (.iload_n 3, 1) := by decide +kernel
theorem dL_isMeant_8 : decode cL_isMeant 8 = .ok (.bipush 8, 2) := by decide +kernel
theorem dL_isMeant_10 : decode cL_isMeant 10 = .ok (.if_icmp .ge 45, 3) := by decide +kernel
theorem dL_isMeant_13 : decode cL_isMeant 13 = .ok (.aload_n 0, 1) := by decide +kernel
theorem dL_isMeant_14 : decode cL_isMeant 14 = .ok (.iload_n 3, 1) := by decide +kernel
theorem dL_isMeant_15 : decode cL_isMeant 15 = .ok (.invokevirtual 132, 3) := by decide +kernel
theorem dL_isMeant_18 : decode cL_isMeant 18 = .ok (.aload_n 2, 1) := by decide +kernel
theorem dL_isMeant_19 : decode cL_isMeant 19 = .ok (.iload_n 3, 1) := by decide +kernel
theorem dL_isMeant_20 : decode cL_isMeant 20 = .ok (.iaload, 1) := by decide +kernel
theorem dL_isMeant_21 : decode cL_isMeant 21 = .ok (.if_icmp .ne 26, 3) := by decide +kernel
theorem dL_isMeant_24 : decode cL_isMeant 24 = .ok (.aload_n 1, 1) := by decide +kernel
theorem dL_isMeant_25 : decode cL_isMeant 25 = .ok (.getfield 59, 3) := by decide +kernel
theorem dL_isMeant_28 : decode cL_isMeant 28 = .ok (.iload_n 3, 1) := by decide +kernel
theorem dL_isMeant_29 : decode cL_isMeant 29 = .ok (.ishr, 1) := by decide +kernel
theorem dL_isMeant_30 : decode cL_isMeant 30 = .ok (.iconst 1, 1) := by decide +kernel
theorem dL_isMeant_31 : decode cL_isMeant 31 = .ok (.iand, 1) := by decide +kernel
theorem dL_isMeant_32 : decode cL_isMeant 32 = .ok (.iconst 1, 1) := by decide +kernel
theorem dL_isMeant_33 : decode cL_isMeant 33 = .ok (.if_icmp .ne 16, 3) := by decide +kernel
theorem dL_isMeant_36 : decode cL_isMeant 36 = .ok (.aload_n 0, 1) := by decide +kernel
theorem dL_isMeant_37 : decode cL_isMeant 37 = .ok (.iload_n 3, 1) := by decide +kernel
theorem dL_isMeant_38 : decode cL_isMeant 38 = .ok (.invokevirtual 134, 3) := by decide +kernel
theorem dL_isMeant_41 : decode cL_isMeant 41 = .ok (.aload_n 2, 1) := by decide +kernel
theorem dL_isMeant_42 : decode cL_isMeant 42 = .ok (.iload_n 3, 1) := by decide +kernel
theorem dL_isMeant_43 : decode cL_isMeant 43 = .ok (.iaload, 1) := by decide +kernel
theorem dL_isMeant_44 : decode cL_isMeant 44 = .ok (.if_icmp .eq 5, 3) := by decide +kernel
theorem dL_isMeant_47 : decode cL_isMeant 47 = .ok (.iconst 0, 1) := by decide +kernel
theorem dL_isMeant_48 : decode cL_isMeant 48 = .ok (.ireturn, 1) := by decide +kernel
theorem dL_isMeant_49 : decode cL_isMeant 49 = .ok (.iinc 3 1, 3) := by decide +kernel
theorem dL_isMeant_52 : decode cL_isMeant 52 = .ok (.goto (-45), 3) := by decide +kernel
theorem dL_isMeant_55 : decode cL_isMeant 55 = .ok (.iconst 1, 1) := by decide +kernel
theorem dL_isMeant_56 : decode cL_isMeant 56 = .ok (.ireturn, 1) := by decide +kernel
theorem dL_isWhole_0 : decode cL_isWhole 0 = .ok (.iconst 0, 1) := by decide +kernel
theorem dL_isWhole_1 : decode cL_isWhole 1 = .ok (.istore_n 3, 1) := by decide +kernel
theorem dL_isWhole_2 : decode cL_isWhole 2 = .ok (.iconst 0, 1) := by decide +kernel
theorem dL_isWhole_3 : decode cL_isWhole 3 = .ok (.istore 4, 2) := by decide +kernel
theorem dL_isWhole_5 : decode cL_isWhole 5 = .ok (.iload 4, 2) := by decide +kernel
theorem dL_isWhole_7 : decode cL_isWhole 7 = .ok (.aload_n 0, 1) := by decide +kernel
theorem dL_isWhole_8 : decode cL_isWhole 8 = .ok (.iconst 3, 1) := by decide +kernel
theorem dL_isWhole_9 : decode cL_isWhole 9 = .ok (.invokevirtual 103, 3) := by decide +kernel
theorem dL_isWhole_12 : decode cL_isWhole 12 = .ok (.if_icmp .ge 138, 3) := by decide +kernel
theorem dL_isWhole_15 : decode cL_isWhole 15 = .ok (.iconst 1, 1) := by decide +kernel
theorem dL_isWhole_16 : decode cL_isWhole 16 = .ok (.istore 5, 2) := by decide +kernel
theorem dL_isWhole_18 : decode cL_isWhole 18 = .ok (.iload 5, 2) := by decide +kernel
theorem dL_isWhole_20 : decode cL_isWhole 20 = .ok (.iconst 5, 1) := by decide +kernel
theorem dL_isWhole_21 : decode cL_isWhole 21 = .ok (.if_icmp .ge 123, 3) := by decide +kernel
theorem dL_isWhole_24 : decode cL_isWhole 24 = .ok (.aload_n 0, 1) := by decide +kernel
theorem dL_isWhole_25 : decode cL_isWhole 25 = .ok (.iload 4, 2) := by decide +kernel
theorem dL_isWhole_27 : decode cL_isWhole 27 = .ok (.iload 5, 2) := by decide +kernel
theorem dL_isWhole_29 : decode cL_isWhole 29 = .ok (.invokevirtual 137, 3) := by decide +kernel
theorem dL_isWhole_32 : decode cL_isWhole 32 = .ok (.istore 6, 2) := by decide +kernel
theorem dL_isWhole_34 : decode cL_isWhole 34 = .ok (.iload 6, 2) := by decide +kernel
theorem dL_isWhole_36 : decode cL_isWhole 36 = .ok (.ifCond .ge 6, 3) := by decide +kernel
theorem dL_isWhole_39 : decode cL_isWhole 39 = .ok (.goto 99, 3) := by decide +kernel
theorem dL_isWhole_42 : decode cL_isWhole 42 = .ok (.aload_n 0, 1) := by decide +kernel
theorem dL_isWhole_43 : decode cL_isWhole 43 = .ok (.iload 6, 2) := by decide +kernel
theorem dL_isWhole_45 : decode cL_isWhole 45 = .ok (.iconst 3, 1) := by decide +kernel
theorem dL_isWhole_46 : decode cL_isWhole 46 = .ok (.invokevirtual 140, 3) := by decide +kernel
theorem dL_isWhole_49 : decode cL_isWhole 49 = .ok (.istore 7, 2) := by decide +kernel
theorem dL_isWhole_51 : decode cL_isWhole 51 = .ok (.iload 7, 2) := by decide +kernel
theorem dL_isWhole_53 : decode cL_isWhole 53 = .ok (.ifCond .ge 7, 3) := by decide +kernel
theorem dL_isWhole_56 : decode cL_isWhole 56 = .ok (.iconst 1, 1) := by decide +kernel
theorem dL_isWhole_57 : decode cL_isWhole 57 = .ok (.goto 4, 3) := by decide +kernel
theorem dL_isWhole_60 : decode cL_isWhole 60 = .ok (.iconst 0, 1) := by decide +kernel
theorem dL_isWhole_61 : decode cL_isWhole 61 = .ok (.istore 8, 2) := by decide +kernel
theorem dL_isWhole_63 : decode cL_isWhole 63 = .ok (.iload 8, 2) := by decide +kernel
theorem dL_isWhole_65 : decode cL_isWhole 65 = .ok (.ifCond .eq 40, 3) := by decide +kernel
theorem dL_isWhole_68 : decode cL_isWhole 68 = .ok (.aload_n 0, 1) := by decide +kernel
theorem dL_isWhole_69 : decode cL_isWhole 69 = .ok (.iload 6, 2) := by decide +kernel
theorem dL_isWhole_71 : decode cL_isWhole 71 = .ok (.iconst 4, 1) := by decide +kernel
theorem dL_isWhole_72 : decode cL_isWhole 72 = .ok (.invokevirtual 140, 3) := by decide +kernel
theorem dL_isWhole_75 : decode cL_isWhole 75 = .ok (.ifCond .ge 7, 3) := by decide +kernel
theorem dL_isWhole_78 : decode cL_isWhole 78 = .ok (.iconst 1, 1) := by decide +kernel
theorem dL_isWhole_79 : decode cL_isWhole 79 = .ok (.goto 4, 3) := by decide +kernel
theorem dL_isWhole_82 : decode cL_isWhole 82 = .ok (.iconst 0, 1) := by decide +kernel
theorem dL_isWhole_83 : decode cL_isWhole 83 = .ok (.aload_n 0, 1) := by decide +kernel
theorem dL_isWhole_84 : decode cL_isWhole 84 = .ok (.iload 6, 2) := by decide +kernel
theorem dL_isWhole_86 : decode cL_isWhole 86 = .ok (.iconst 5, 1) := by decide +kernel
theorem dL_isWhole_87 : decode cL_isWhole 87 = .ok (.invokevirtual 140, 3) := by decide +kernel
theorem dL_isWhole_90 : decode cL_isWhole 90 = .ok (.iconst 1, 1) := by decide +kernel
theorem dL_isWhole_91 : decode cL_isWhole 91 = .ok (.if_icmp .ne 7, 3) := by decide +kernel
theorem dL_isWhole_94 : decode cL_isWhole 94 = .ok (.iconst 1, 1) := by decide +kernel
theorem dL_isWhole_95 : decode cL_isWhole 95 = .ok (.goto 4, 3) := by decide +kernel
theorem dL_isWhole_98 : decode cL_isWhole 98 = .ok (.iconst 0, 1) := by decide +kernel
theorem dL_isWhole_99 : decode cL_isWhole 99 = .ok (.if_icmp .eq 26, 3) := by decide +kernel
theorem dL_isWhole_102 : decode cL_isWhole 102 = .ok (.goto 21, 3) := by decide +kernel
theorem dL_isWhole_105 : decode cL_isWhole 105 = .ok (.iload 7, 2) := by decide +kernel
theorem dL_isWhole_107 : decode cL_isWhole 107 = .ok (.iload_n 2, 1) := by decide +kernel
theorem dL_isWhole_108 : decode cL_isWhole 108 = .ok (.iconst 4, 1) := by decide +kernel
theorem dL_isWhole_109 : decode cL_isWhole 109 = .ok (.isub, 1) := by decide +kernel
theorem dL_isWhole_110 : decode cL_isWhole 110 = .ok (.if_icmp .gt 13, 3) := by decide +kernel
theorem dL_isWhole_113 : decode cL_isWhole 113 = .ok (.aload_n 0, 1) := by decide +kernel
theorem dL_isWhole_114 : decode cL_isWhole 114 = .ok (.iload 6, 2) := by decide +kernel
theorem dL_isWhole_116 : decode cL_isWhole 116 = .ok (.iconst 4, 1) := by decide +kernel
theorem dL_isWhole_117 : decode cL_isWhole 117 = .ok (.invokevirtual 140, 3) := by decide +kernel
theorem dL_isWhole_120 : decode cL_isWhole 120 = .ok (.ifCond .lt 5, 3) := by decide +kernel
theorem dL_isWhole_123 : decode cL_isWhole 123 = .ok (.iconst 0, 1) := by decide +kernel
theorem dL_isWhole_124 : decode cL_isWhole 124 = .ok (.ireturn, 1) := by decide +kernel
theorem dL_isWhole_125 : decode cL_isWhole 125 = .ok (.iload_n 3, 1) := by decide +kernel
theorem dL_isWhole_126 : decode cL_isWhole 126 = .ok (.iload 8, 2) := by decide +kernel
theorem dL_isWhole_128 : decode cL_isWhole 128 = .ok (.ifCond .eq 7, 3) := by decide +kernel
theorem dL_isWhole_131 : decode cL_isWhole 131 = .ok (.iconst 1, 1) := by decide +kernel
theorem dL_isWhole_132 : decode cL_isWhole 132 = .ok (.goto 4, 3) := by decide +kernel
theorem dL_isWhole_135 : decode cL_isWhole 135 = .ok (.iconst 0, 1) := by decide +kernel
theorem dL_isWhole_136 : decode cL_isWhole 136 = .ok (.iadd, 1) := by decide +kernel
theorem dL_isWhole_137 : decode cL_isWhole 137 = .ok (.istore_n 3, 1) := by decide +kernel
theorem dL_isWhole_138 : decode cL_isWhole 138 = .ok (.iinc 5 1, 3) := by decide +kernel
theorem dL_isWhole_141 : decode cL_isWhole 141 = .ok (.goto (-123), 3) := by decide +kernel
theorem dL_isWhole_144 : decode cL_isWhole 144 = .ok (.iinc 4 1, 3) := by decide +kernel
theorem dL_isWhole_147 : decode cL_isWhole 147 = .ok (.goto (-142), 3) := by decide +kernel
theorem dL_isWhole_150 : decode cL_isWhole 150 = .ok (.aload_n 0, 1) := by decide +kernel
theorem dL_isWhole_151 : decode cL_isWhole 151 = .ok (.iconst 5, 1) := by decide +kernel
theorem dL_isWhole_152 : decode cL_isWhole 152 = .ok (.invokevirtual 103, 3) := by decide +kernel
theorem dL_isWhole_155 : decode cL_isWhole 155 = .ok (.ifCond .ne 7, 3) := by decide +kernel
theorem dL_isWhole_158 : decode cL_isWhole 158 = .ok (.iconst 1, 1) := by decide +kernel
theorem dL_isWhole_159 : decode cL_isWhole 159 = .ok (.goto 4, 3) := by decide +kernel
theorem dL_isWhole_162 : decode cL_isWhole 162 = .ok (.iconst 0, 1) := by decide +kernel
theorem dL_isWhole_163 : decode cL_isWhole 163 = .ok (.iload_n 3, 1) := by decide +kernel
theorem dL_isWhole_164 : decode cL_isWhole 164 = .ok (.ifCond .ne 7, 3) := by decide +kernel
theorem dL_isWhole_167 : decode cL_isWhole 167 = .ok (.iconst 1, 1) := by decide +kernel
theorem dL_isWhole_168 : decode cL_isWhole 168 = .ok (.goto 4, 3) := by decide +kernel
theorem dL_isWhole_171 : decode cL_isWhole 171 = .ok (.iconst 0, 1) := by decide +kernel
theorem dL_isWhole_172 : decode cL_isWhole 172 = .ok (.if_icmp .ne 21, 3) := by decide +kernel
theorem dL_isWhole_175 : decode cL_isWhole 175 = .ok (.aload_n 0, 1) := by decide +kernel
theorem dL_isWhole_176 : decode cL_isWhole 176 = .ok (.bipush 7, 2) := by decide +kernel
theorem dL_isWhole_178 : decode cL_isWhole 178 = .ok (.invokevirtual 103, 3) := by decide +kernel
theorem dL_isWhole_181 : decode cL_isWhole 181 = .ok (.ifCond .ne 14, 3) := by decide +kernel
theorem dL_isWhole_184 : decode cL_isWhole 184 = .ok (.aload_n 0, 1) := by decide +kernel
theorem dL_isWhole_185 : decode cL_isWhole 185 = .ok (.bipush 11, 2) := by decide +kernel
theorem dL_isWhole_187 : decode cL_isWhole 187 = .ok (.invokevirtual 103, 3) := by decide +kernel
theorem dL_isWhole_190 : decode cL_isWhole 190 = .ok (.ifCond .le 5, 3) := by decide +kernel
theorem dL_isWhole_193 : decode cL_isWhole 193 = .ok (.iconst 0, 1) := by decide +kernel
theorem dL_isWhole_194 : decode cL_isWhole 194 = .ok (.ireturn, 1) := by decide +kernel
theorem dL_isWhole_195 : decode cL_isWhole 195 = .ok (.aload_n 0, 1) := by decide +kernel
theorem dL_isWhole_196 : decode cL_isWhole 196 = .ok (.bipush 12, 2) := by decide +kernel
theorem dL_isWhole_198 : decode cL_isWhole 198 = .ok (.invokevirtual 103, 3) := by decide +kernel
theorem dL_isWhole_201 : decode cL_isWhole 201 = .ok (.ifCond .le 52, 3) := by decide +kernel
theorem dL_isWhole_204 : decode cL_isWhole 204 = .ok (.aload_n 0, 1) := by decide +kernel
theorem dL_isWhole_205 : decode cL_isWhole 205 = .ok (.bipush 13, 2) := by decide +kernel
theorem dL_isWhole_207 : decode cL_isWhole 207 = .ok (.invokevirtual 103, 3) := by decide +kernel
theorem dL_isWhole_210 : decode cL_isWhole 210 = .ok (.aload_n 0, 1) := by decide +kernel
theorem dL_isWhole_211 : decode cL_isWhole 211 = .ok (.bipush 12, 2) := by decide +kernel
theorem dL_isWhole_213 : decode cL_isWhole 213 = .ok (.invokevirtual 103, 3) := by decide +kernel
theorem dL_isWhole_216 : decode cL_isWhole 216 = .ok (.aload_n 0, 1) := by decide +kernel
theorem dL_isWhole_217 : decode cL_isWhole 217 = .ok (.bipush 14, 2) := by decide +kernel
theorem dL_isWhole_219 : decode cL_isWhole 219 = .ok (.invokevirtual 103, 3) := by decide +kernel
theorem dL_isWhole_222 : decode cL_isWhole 222 = .ok (.iadd, 1) := by decide +kernel
theorem dL_isWhole_223 : decode cL_isWhole 223 = .ok (.if_icmp .lt 28, 3) := by decide +kernel
theorem dL_isWhole_226 : decode cL_isWhole 226 = .ok (.aload_n 0, 1) := by decide +kernel
theorem dL_isWhole_227 : decode cL_isWhole 227 = .ok (.bipush 13, 2) := by decide +kernel
theorem dL_isWhole_229 : decode cL_isWhole 229 = .ok (.invokevirtual 103, 3) := by decide +kernel
theorem dL_isWhole_232 : decode cL_isWhole 232 = .ok (.aload_n 0, 1) := by decide +kernel
theorem dL_isWhole_233 : decode cL_isWhole 233 = .ok (.bipush 12, 2) := by decide +kernel
theorem dL_isWhole_235 : decode cL_isWhole 235 = .ok (.invokevirtual 103, 3) := by decide +kernel
theorem dL_isWhole_238 : decode cL_isWhole 238 = .ok (.aload_n 0, 1) := by decide +kernel
theorem dL_isWhole_239 : decode cL_isWhole 239 = .ok (.bipush 14, 2) := by decide +kernel
theorem dL_isWhole_241 : decode cL_isWhole 241 = .ok (.invokevirtual 103, 3) := by decide +kernel
theorem dL_isWhole_244 : decode cL_isWhole 244 = .ok (.iadd, 1) := by decide +kernel
theorem dL_isWhole_245 : decode cL_isWhole 245 = .ok (.bipush 8, 2) := by decide +kernel
theorem dL_isWhole_247 : decode cL_isWhole 247 = .ok (.iadd, 1) := by decide +kernel
theorem dL_isWhole_248 : decode cL_isWhole 248 = .ok (.if_icmp .le 5, 3) := by decide +kernel
theorem dL_isWhole_251 : decode cL_isWhole 251 = .ok (.iconst 0, 1) := by decide +kernel
theorem dL_isWhole_252 : decode cL_isWhole 252 = .ok (.ireturn, 1) := by decide +kernel
theorem dL_isWhole_253 : decode cL_isWhole 253 = .ok (.aload_n 0, 1) := by decide +kernel
theorem dL_isWhole_254 : decode cL_isWhole 254 = .ok (.bipush 9, 2) := by decide +kernel
theorem dL_isWhole_256 : decode cL_isWhole 256 = .ok (.invokevirtual 103, 3) := by decide +kernel
theorem dL_isWhole_259 : decode cL_isWhole 259 = .ok (.aload_n 0, 1) := by decide +kernel
theorem dL_isWhole_260 : decode cL_isWhole 260 = .ok (.bipush 10, 2) := by decide +kernel
theorem dL_isWhole_262 : decode cL_isWhole 262 = .ok (.invokevirtual 103, 3) := by decide +kernel
theorem dL_isWhole_265 : decode cL_isWhole 265 = .ok (.aload_n 0, 1) := by decide +kernel
theorem dL_isWhole_266 : decode cL_isWhole 266 = .ok (.bipush 11, 2) := by decide +kernel
theorem dL_isWhole_268 : decode cL_isWhole 268 = .ok (.invokevirtual 103, 3) := by decide +kernel
theorem dL_isWhole_271 : decode cL_isWhole 271 = .ok (.iadd, 1) := by decide +kernel
theorem dL_isWhole_272 : decode cL_isWhole 272 = .ok (.if_icmp .lt 34, 3) := by decide +kernel
theorem dL_isWhole_275 : decode cL_isWhole 275 = .ok (.aload_n 0, 1) := by decide +kernel
theorem dL_isWhole_276 : decode cL_isWhole 276 = .ok (.bipush 15, 2) := by decide +kernel
theorem dL_isWhole_278 : decode cL_isWhole 278 = .ok (.invokevirtual 103, 3) := by decide +kernel
theorem dL_isWhole_281 : decode cL_isWhole 281 = .ok (.aload_n 0, 1) := by decide +kernel
theorem dL_isWhole_282 : decode cL_isWhole 282 = .ok (.iconst 4, 1) := by decide +kernel
theorem dL_isWhole_283 : decode cL_isWhole 283 = .ok (.invokevirtual 103, 3) := by decide +kernel
theorem dL_isWhole_286 : decode cL_isWhole 286 = .ok (.if_icmp .gt 20, 3) := by decide +kernel
theorem dL_isWhole_289 : decode cL_isWhole 289 = .ok (.aload_n 1, 1) := by decide +kernel
theorem dL_isWhole_290 : decode cL_isWhole 290 = .ok (.getfield 47, 3) := by decide +kernel
theorem dL_isWhole_293 : decode cL_isWhole 293 = .ok (.arraylength, 1) := by decide +kernel
theorem dL_isWhole_294 : decode cL_isWhole 294 = .ok (.aload_n 0, 1) := by decide +kernel
theorem dL_isWhole_295 : decode cL_isWhole 295 = .ok (.iconst 2, 1) := by decide +kernel
theorem dL_isWhole_296 : decode cL_isWhole 296 = .ok (.invokevirtual 103, 3) := by decide +kernel
theorem dL_isWhole_299 : decode cL_isWhole 299 = .ok (.if_icmp .ne 7, 3) := by decide +kernel
theorem dL_isWhole_302 : decode cL_isWhole 302 = .ok (.iconst 1, 1) := by decide +kernel
theorem dL_isWhole_303 : decode cL_isWhole 303 = .ok (.goto 4, 3) := by decide +kernel
theorem dL_isWhole_306 : decode cL_isWhole 306 = .ok (.iconst 0, 1) := by decide +kernel
theorem dL_isWhole_307 : decode cL_isWhole 307 = .ok (.ireturn, 1) := by decide +kernel
end
section
/-! THE MEMORY AS A VALUE: the cells made since the law began, numbered from 0; what stands in them; the heap that a memory tells -/
def im_W : List Cond := lw_tbl.filter goodWord
theorem im_in {w : Cond} (i : Nat) (h : lw_tbl[i]? = some w) (hg : goodWord w = true) : w ∈ im_W := List.mem_filter.mpr ⟨List.mem_of_getElem? h, hg⟩
theorem im_good : GoodIn im_W im_W := fun w hw => ⟨hw, good_of_word (List.mem_filter.mp hw).2⟩
def im_isNest : Cond → Bool
  | .methodLinkNest _ _ _ _ => true
  | .fieldLinkNest _ _ _ _ _ _ => true
  | _ => false
def im_nest : List Cond := lw_tbl.filter im_isNest
theorem im_inN {w : Cond} (i : Nat) (h : lw_tbl[i]? = some w) (hg : im_isNest w = true) : w ∈ im_nest := List.mem_filter.mpr ⟨List.mem_of_getElem? h, hg⟩
-- the classes by number
def im_C (t : Nat) : String := match t with | 0 => RX0 | 1 => RX1 | 2 => RX2 | 3 => RX3 | 4 => RX4 | 5 => RX5 | 6 => RX6 | 7 => RX7 | 8 => RX8 | 9 => RX9 | 10 => RX10 | 11 => RX11 | _ => RX12
def im_T (t : Nat) : u_T := match t with | 0 => TX0 | 1 => TX1 | 2 => TX2 | 3 => TX3 | 4 => TX4 | 5 => TX5 | 6 => TX6 | 7 => TX7 | 8 => TX8 | 9 => TX9 | 10 => TX10 | 11 => TX11 | _ => TX12
def im_N (t : Nat) : Nat := match t with | 0 => 12 | 1 => 7 | 2 => 10 | 3 => 7 | 4 => 12 | 5 => 6 | 6 => 3 | 7 => 9 | 8 => 11 | 9 => 10 | 10 => 4 | 11 => 10 | _ => 10
def im_ty (t : Nat) : Nat → FieldType := match t with | 0 => tyX0 | 1 => tyX1 | 2 => tyX2 | 3 => tyX3 | 4 => tyX4 | 5 => tyX5 | 6 => tyX6 | 7 => tyX7 | 8 => tyX8 | 9 => tyX9 | 10 => tyX10 | 11 => tyX11 | _ => tyX12
theorem im_cases {P : Nat → Prop} (h0 : P 0) (h1 : P 1) (h2 : P 2) (h3 : P 3) (h4 : P 4) (h5 : P 5) (h6 : P 6) (h7 : P 7) (h8 : P 8) (h9 : P 9) (h10 : P 10) (h11 : P 11) (h12 : P 12) : ∀ t, t < 13 → P t := by
  intro t ht
  match t, ht with
  | 0, _ => exact h0
  | 1, _ => exact h1
  | 2, _ => exact h2
  | 3, _ => exact h3
  | 4, _ => exact h4
  | 5, _ => exact h5
  | 6, _ => exact h6
  | 7, _ => exact h7
  | 8, _ => exact h8
  | 9, _ => exact h9
  | 10, _ => exact h10
  | 11, _ => exact h11
  | 12, _ => exact h12
theorem im_cl : ∀ t, t < 13 → vwCl[t]? = some (im_C t, im_T t, im_N t) := im_cases rfl rfl rfl rfl rfl rfl rfl rfl rfl rfl rfl rfl rfl
theorem im_nm : ∀ t, t < 13 → ∀ a, a < im_N t → ∀ b, b < im_N t → a ≠ b → (im_T t a).2.1 ≠ (im_T t b).2.1 := im_cases nmX0 nmX1 nmX2 nmX3 nmX4 nmX5 nmX6 nmX7 nmX8 nmX9 nmX10 nmX11 nmX12
theorem im_tyok : ∀ t, t < 13 → ∀ k, k < im_N t → parseFieldDescriptor (im_T t k).2.2.1 = some (im_ty t k) := im_cases tyX0_ok tyX1_ok tyX2_ok tyX3_ok tyX4_ok tyX5_ok tyX6_ok tyX7_ok tyX8_ok tyX9_ok tyX10_ok tyX11_ok tyX12_ok
-- memory: (cells made, their slots), kinds (class number and its fields; 20 ints, 21 rows of ints, and how many), references (0 null, x + 1 the cell x), ints; the cells made are 2, 3 and on; 0 is the script, 1 the table of the class
abbrev im_S : Type := (Nat × Nat) × (Nat → Nat × Nat) × (Nat → Nat → Nat)
abbrev im_I : Type := Nat → Nat → Int32
abbrev im_M : Type := im_S × im_I
def im_n (S : im_S) : Nat := S.1.1
def im_z (S : im_S) : Nat := S.1.2
def im_k (S : im_S) (a : Nat) : Nat × Nat := if 2 ≤ a ∧ a < im_n S + 2 then S.2.1 a else (99, 0)
def im_r (S : im_S) (a j : Nat) : Nat := S.2.2 a j
def im_up (I : im_I) (a j : Nat) (x : Int32) : im_I := fun b i => if b = a ∧ i = j then x else I b i
def im_upr (S : im_S) (a j : Nat) (x : Nat) : im_S := (S.1, S.2.1, fun b i => if b = a ∧ i = j then x else S.2.2 b i)
/-- one cell more, of kind (t, n): nothing in it yet -/
def im_newS (S : im_S) (t n : Nat) : im_S := ((im_n S + 1, im_z S + n), (fun b => if b = im_n S + 2 then (t, n) else S.2.1 b), fun b i => if b = im_n S + 2 then 0 else S.2.2 b i)
def im_newI (S : im_S) (I : im_I) : im_I := fun b i => if b = im_n S + 2 then 0 else I b i
-- where things lie: the base, the script's cell and the table's, how long the script is and what it holds; the classes' numbers; the array classes
abbrev im_K : Type := (Nat × Nat × Nat × Nat × (Nat → Int32)) × va_G × ClassId × ClassId
def kB (k : im_K) : Nat := k.1.1
def kb0 (k : im_K) : Nat := k.1.2.1
def kt0 (k : im_K) : Nat := k.1.2.2.1
def kL (k : im_K) : Nat := k.1.2.2.2.1
def kxs (k : im_K) : Nat → Int32 := k.1.2.2.2.2
def kG (k : im_K) : va_G := k.2.1
def kcI (k : im_K) : ClassId := k.2.2.1
def kcJ (k : im_K) : ClassId := k.2.2.2
def im_rho (k : im_K) (x : Nat) : Nat := match x with | 0 => kb0 k | 1 => kt0 k | x + 2 => kB k + x
def im_v (k : im_K) : Value → Value
  | .ref x => .ref (im_rho k x)
  | v => v
def im_rv (k : im_K) (r : Nat) : Value := match r with | 0 => .null | x + 1 => .ref (im_rho k x)
def im_ro (k : im_K) (r : Nat) : Option Nat := match r with | 0 => none | x + 1 => some (im_rho k x)
theorem im_rf (k : im_K) (r : Nat) : va_rf (im_ro k r) = im_rv k r := by cases r <;> rfl
def im_isI (t j : Nat) : Bool := match im_ty t j with | .int => true | .boolean => true | _ => false
def im_f (k : im_K) (M : im_M) (a t j : Nat) : Value := if im_isI t j = true then .int (M.2 a j) else im_rv k (im_r M.1 a j)
def im_e (k : im_K) (M : im_M) (a : Nat) : va_E :=
  if (im_k M.1 a).1 = 20 then .inl (kcI k, ((im_k M.1 a).2, .inl (M.2 a)))
  else if (im_k M.1 a).1 = 21 then .inl (kcJ k, ((im_k M.1 a).2, .inr (.inr (.inr (.inr (fun j => im_ro k (im_r M.1 a j)))))))
  else .inr ((im_k M.1 a).1, (List.range (im_k M.1 a).2).map (im_f k M a (im_k M.1 a).1))
def im_w (k : im_K) (M : im_M) : va_W := (List.range (im_n M.1)).map (fun i => (kB k + i, im_e k M (i + 2)))
theorem im_w_at {k : im_K} {M : im_M} {a : Nat} (h : a < im_n M.1) : (im_w k M)[a]? = some (kB k + a, im_e k M (a + 2)) := by simp [im_w, h]
theorem im_w_inv {k : im_K} {M : im_M} {a : Nat} {q : Nat × va_E} (h : (im_w k M)[a]? = some q) : a < im_n M.1 ∧ q = (kB k + a, im_e k M (a + 2)) := by
  have hl := (List.getElem?_eq_some_iff.mp h).1
  have hl2 : a < im_n M.1 := by simpa [im_w] using hl
  rw [im_w_at hl2] at h
  exact ⟨hl2, (Option.some.inj h).symm⟩
theorem im_w_D (k : im_K) (M : im_M) : va_D (fun q => kB k ≤ q) (im_w k M) := by
  refine ⟨fun i j p q hi hj h => ?_, fun i q hi => ?_⟩
  · obtain ⟨-, rfl⟩ := im_w_inv hi
    obtain ⟨-, rfl⟩ := im_w_inv hj
    have h2 : kB k + i = kB k + j := h
    omega
  · obtain ⟨-, rfl⟩ := im_w_inv hi
    exact Nat.le_add_right _ _
theorem im_w_set {k : im_K} {M M' : im_M} {a : Nat} (hn : im_n M'.1 = im_n M.1) (h : ∀ b, b ≠ a + 2 → im_e k M' b = im_e k M b) : (im_w k M).set a (kB k + a, im_e k M' (a + 2)) = im_w k M' := by
  apply List.ext_getElem?
  intro i
  rw [List.getElem?_set]
  by_cases hia : a = i
  · subst hia
    by_cases hl : a < im_n M.1
    · rw [if_pos rfl, if_pos (by simpa [im_w] using hl), im_w_at (by rw [hn]; exact hl)]
    · rw [if_pos rfl, if_neg (by simpa [im_w] using hl)]
      exact (List.getElem?_eq_none (by simp [im_w]; omega)).symm
  · rw [if_neg hia]
    by_cases hl : i < im_n M.1
    · rw [im_w_at hl, im_w_at (by rw [hn]; exact hl), h (i + 2) (fun e => hia (by omega))]
    · rw [List.getElem?_eq_none (by simp [im_w]; omega), List.getElem?_eq_none (by simp [im_w]; omega)]
theorem im_w_push {k : im_K} {M M' : im_M} (hn : im_n M'.1 = im_n M.1 + 1) (h : ∀ b, b < im_n M.1 + 2 → im_e k M' b = im_e k M b) : im_w k M ++ [(kB k + im_n M.1, im_e k M' (im_n M.1 + 2))] = im_w k M' := by
  unfold im_w
  rw [hn, List.range_succ, List.map_append]
  congr 1
  apply List.map_congr_left
  intro b hb
  rw [h (b + 2) (by have := List.mem_range.mp hb; omega)]
/-- the heap that the memory tells -/
def im_H (k : im_K) (M : im_M) (H : Heap) : Prop := H.size = kB k + im_n M.1 ∧ va_P (kG k) vwCl (im_w k M) H
/-- the table of LATENCY_KIND_OF -/
def im_lat (j : Nat) : Int32 := match j with | 0 => 0 | 1 => 1 | 2 => 2 | 3 => 2 | 4 => 3 | 5 => 2 | 6 => 4 | 7 => 5 | 8 => 6 | _ => 7
/-- what holds at a method's start beside the memory -/
def im_St (k : im_K) (s : State) : Prop := va_K (kG k) vwCl [(kcI k, .int), (kcJ k, .array .int)] s ∧ va_X (kb0 k) (kL k) (kxs k) s s.heap ∧ va_Z "SpillslotWorks" "LATENCY_KIND_OF" "[I" (.ref (kt0 k)) (fun q => kB k ≤ q) s s.heap ∧
  va_T .int (kt0 k) 10 (fun j => .int (im_lat j)) (fun q => kB k ≤ q) s s.heap ∧ ((∀ w ∈ im_nest, va_Nw w s) ∧ (Cond.arrayOver (.array .int)).before #[] s = true) ∧ kB k ≤ s.heap.size ∧ kb0 k < kB k
theorem im_nest_warm {s U : State} (hW : s.WarmedH U.vm) {w : Cond} (hw : w ∈ im_nest) (h : va_Nw w s) : va_Nw w U := by
  have hn := (List.mem_filter.mp hw).2
  cases w <;> simp [im_isNest] at hn
  · exact va_Nw.warmM hW h
  · exact va_Nw.warmF hW h
theorem im_nest_tab {w : Cond} (hw : w ∈ im_nest) : w.onTables = true := by
  have hn := (List.mem_filter.mp hw).2
  cases w <;> simp [im_isNest] at hn <;> rfl
theorem im_St.warm {k : im_K} {s U : State} {H : Heap} {locs : List Loc} (h : im_St k s) (hS : va_S (fun q => kB k ≤ q) s.heap H locs) (hU : U.heap = H) (hW : s.WarmedH U.vm) : im_St k U := by
  obtain ⟨hK, hX, hZ, hT, hN, hB, hb⟩ := h
  subst hU
  have hk : ∀ a : Nat, a < s.heap.size → ¬ kB k ≤ a → U.heap[a]? = s.heap[a]? := fun a h1 h2 => hS.2.1 a h1 h2
  refine ⟨va_K.moved hW.alike hK, va_X.moved hW.alike (hX.kept (hk _ (by omega) (by omega))), (hZ.kept hk).moved hW.alike, (hT.kept hk).moved hW.alike, ⟨fun w hw => im_nest_warm hW hw (hN.1 w hw), over_moved hW.alike hN.2⟩, Nat.le_trans hB hS.1, hb⟩
theorem im_St.blind {k : im_K} {U : State} {g : JFrame} {mk : MethodId} {a : Array Value} (h : im_St k U) : im_St k (U.calling g mk a) := by
  obtain ⟨hK, hX, hZ, hT, hN, hB, hb⟩ := h
  have hv : U.vm.Alike (U.calling g mk a).vm := Vm.Alike.refl U.vm
  exact ⟨va_K.moved hv hK, va_X.moved hv hX, va_Z.moved hv hZ, va_T.moved hv hT, ⟨fun w hw => va_Nw.same (u := U) (im_nest_tab hw) rfl (hN.1 w hw), over_moved hv hN.2⟩, hB, hb⟩
theorem im_k_lt {S : im_S} {a : Nat} {t n : Nat} (h : im_k S a = (t, n)) (ht : t < 99) : ∃ i, a = i + 2 ∧ i < im_n S := by
  unfold im_k at h
  split at h
  · exact ⟨a - 2, by omega, by omega⟩
  · simp at h; omega
theorem im_k_new {S : im_S} {t n b : Nat} : im_k (im_newS S t n) b = if b = im_n S + 2 then (t, n) else im_k S b := by
  show (if 2 ≤ b ∧ b < im_n S + 1 + 2 then (if b = im_n S + 2 then (t, n) else S.2.1 b) else (99, 0)) = if b = im_n S + 2 then (t, n) else (if 2 ≤ b ∧ b < im_n S + 2 then S.2.1 b else (99, 0))
  by_cases h : b = im_n S + 2
  · rw [if_pos h, if_pos h, if_pos (by omega)]
  · rw [if_neg h, if_neg h]
    by_cases h2 : 2 ≤ b ∧ b < im_n S + 2
    · rw [if_pos h2, if_pos (by omega)]
    · rw [if_neg h2, if_neg (by omega)]
theorem im_n_new {S : im_S} {t n : Nat} : im_n (im_newS S t n) = im_n S + 1 := rfl
theorem im_z_new {S : im_S} {t n : Nat} : im_z (im_newS S t n) = im_z S + n := rfl
theorem im_r_new {S : im_S} {t n b j : Nat} : im_r (im_newS S t n) b j = if b = im_n S + 2 then 0 else im_r S b j := rfl
theorem im_n_upr {S : im_S} {a j x : Nat} : im_n (im_upr S a j x) = im_n S := rfl
theorem im_z_upr {S : im_S} {a j x : Nat} : im_z (im_upr S a j x) = im_z S := rfl
theorem im_k_upr {S : im_S} {a j x b : Nat} : im_k (im_upr S a j x) b = im_k S b := rfl
theorem im_r_upr {S : im_S} {a j x b i : Nat} : im_r (im_upr S a j x) b i = if b = a ∧ i = j then x else im_r S b i := rfl
theorem im_e_obj {k : im_K} {M : im_M} {a t n : Nat} (ht : t < 13) (hk : im_k M.1 a = (t, n)) : im_e k M a = .inr (t, (List.range n).map (im_f k M a t)) := by
  unfold im_e
  rw [hk]
  simp only
  rw [if_neg (by omega), if_neg (by omega)]
theorem im_e_int {k : im_K} {M : im_M} {a n : Nat} (hk : im_k M.1 a = (20, n)) : im_e k M a = .inl (kcI k, (n, .inl (M.2 a))) := by
  unfold im_e
  rw [hk]
  rfl
theorem im_e_row {k : im_K} {M : im_M} {a n : Nat} (hk : im_k M.1 a = (21, n)) : im_e k M a = .inl (kcJ k, (n, .inr (.inr (.inr (.inr (fun j => im_ro k (im_r M.1 a j))))))) := by
  unfold im_e
  rw [hk]
  rfl
theorem im_e_congr {k : im_K} {M M' : im_M} {b : Nat} (h1 : im_k M'.1 b = im_k M.1 b) (h2 : ∀ j, im_r M'.1 b j = im_r M.1 b j) (h3 : ∀ j, M'.2 b j = M.2 b j) : im_e k M' b = im_e k M b := by
  have e3 : M'.2 b = M.2 b := funext h3
  have e2 : im_r M'.1 b = im_r M.1 b := funext h2
  unfold im_e
  rw [h1, e3]
  unfold im_f
  rw [e2, e3]
theorem im_in_u : ∀ t, t < 13 → ∀ w ∈ u_ws (im_C t) (im_T t) (im_N t), w ∈ im_W := by
  have key : ∀ t : Nat, ((u_ws (im_C t) (im_T t) (im_N t)).all (fun w => lw_tbl.contains w && goodWord w)) = true → ∀ w ∈ u_ws (im_C t) (im_T t) (im_N t), w ∈ im_W := by
    intro t h w hw
    have h1 := List.all_eq_true.mp h w hw
    simp only [Bool.and_eq_true] at h1
    exact List.mem_filter.mpr ⟨by simpa using h1.1, h1.2⟩
  exact im_cases (key 0 (by decide +kernel)) (key 1 (by decide +kernel)) (key 2 (by decide +kernel)) (key 3 (by decide +kernel)) (key 4 (by decide +kernel)) (key 5 (by decide +kernel)) (key 6 (by decide +kernel)) (key 7 (by decide +kernel)) (key 8 (by decide +kernel)) (key 9 (by decide +kernel)) (key 10 (by decide +kernel)) (key 11 (by decide +kernel)) (key 12 (by decide +kernel))
end
section
/-! A RUN OF A METHOD, as a change of the memory; a place in a method, as a predicate; the rows of the kit over both -/
abbrev im_X : Type := Program × Launch × Env × Room × State × MethodId × Array Value × List Frame × Method × Code × Nat × Nat
def xp (X : im_X) : Program := X.1
def xl (X : im_X) : Launch := X.2.1
def xe (X : im_X) : Env := X.2.2.1
def xR (X : im_X) : Room := X.2.2.2.1
def xs (X : im_X) : State := X.2.2.2.2.1
def xm (X : im_X) : MethodId := X.2.2.2.2.2.1
def xa (X : im_X) : Array Value := X.2.2.2.2.2.2.1
def xb (X : im_X) : List Frame := X.2.2.2.2.2.2.2.1
def xh (X : im_X) : Method := X.2.2.2.2.2.2.2.2.1
def xc (X : im_X) : Code := X.2.2.2.2.2.2.2.2.2.1
def xn (X : im_X) : Nat := X.2.2.2.2.2.2.2.2.2.2.1
def xz (X : im_X) : Nat := X.2.2.2.2.2.2.2.2.2.2.2
/-- the room so far -/
def im_B (X : im_X) (S : im_S) : Prop := xn X ≤ im_n S ∧ xz X ≤ im_z S ∧ im_n S - xn X ≤ (xR X).cells ∧ im_z S - xz X ≤ (xR X).slots
def im_L (k : im_K) (L : List (Option Value)) (ls : Array Slot) : Prop := ls.size = L.length ∧ lv_wf ls ∧ ∀ (i : Nat) (v : Value), L[i]? = some (some v) → ls[i]? = some (.val (im_v k v))
/-- from here, with these locals, this stack and this memory, the method comes to Q -/
def im_E (X : im_X) (k : im_K) (Q : State → Prop) (pc : Nat) (L : List (Option Value)) (st : List Value) (S : im_S) (I : im_I) : Prop :=
  ∀ (H : Heap) (locs : List Loc) (ls : Array Slot), im_H k (S, I) H → va_S (fun q => kB k ≤ q) (xs X).heap H locs → im_L k L ls → im_B X S →
    W (xp X) (xl X) (xe X) (xR X) (xs X) (xm X) (xa X) (xb X) (xh X) (xc X) H locs (im_n S - xn X) (im_z S - xz X) Q (F0 (xm X) pc ls (st.map (im_v k)))
/-- a method: name, code, locals, what it returns -/
abbrev im_Y : Type := MethodName × ByteArray × Nat × Option FieldType
def im_Ok (X : im_X) (k : im_K) (Y : im_Y) (d : Nat) : Prop :=
  (xp X).tables.exec = Jvm.exec ∧ (xc X).code = Y.2.1 ∧ (xc X).maxLocals = Y.2.2.1 ∧ (xh X).sig.returnType = Y.2.2.2 ∧ (xs X).vm.findClass Y.1.cls = some (xm X).cls ∧ (∀ w ∈ im_W, w.before (xa X) (xs X) = true) ∧ (xh X).locks = false ∧ im_St k (xs X) ∧ (xh X).name = Y.1.name ∧ d ≤ (xR X).frames ∧ 40 * d ≤ (xR X).locals
def im_Pc (k : im_K) (as : List Value) (M : im_M) : Array Value → State → Prop := fun a U => a = (as.map (im_v k)).toArray ∧ im_H k M U.heap ∧ im_St k U
def im_Qc (k : im_K) (v : Option Value) (M : im_M) : Array Value → State → Outcome → State → Prop := fun _ st o t => o = .returned (v.map (im_v k)) ∧ im_H k M t.heap ∧ va_F (fun q => kB k ≤ q) st t
/-- method Y, called with as in the memory M, returns v and leaves M' -/
def im_Runs (l : Launch) (k : im_K) (d : Nat) (Y : im_Y) (as : List Value) (M : im_M) (v : Option Value) (M' : im_M) : Prop :=
  (im_n M.1 ≤ im_n M'.1 ∧ im_z M.1 ≤ im_z M'.1) ∧ Met l Y.1 (.code Y.1 Y.2.1 Y.2.2.1 Y.2.2.2 :: im_W) { frames := d, cells := im_n M'.1 - im_n M.1, slots := im_z M'.1 - im_z M.1, locals := 40 * d } (im_Pc k as M) (im_Qc k v M') (im_n M'.1 - im_n M.1) (im_z M'.1 - im_z M.1) (fun q => kB k ≤ q)
def im_Q (X : im_X) (k : im_K) (v : Option Value) (M : im_M) : State → Prop := MQ (xb X) (im_Qc k v M) (xa X) (xs X) (im_n M.1 - xn X) (im_z M.1 - xz X) (fun q => kB k ≤ q)
-- locals at a method's start
def im_lay (as : List Value) : List (Option Value) := as.flatMap fun v => if v.category = 2 then [some v, none] else [some v]
theorem im_v_cat (k : im_K) (v : Value) : (im_v k v).category = v.category := by cases v <;> rfl
theorem im_lay_at (k : im_K) : ∀ (as : List Value), (lg_sl (as.map (im_v k))).length = (im_lay as).length ∧ ∀ (i : Nat) (v : Value), (im_lay as)[i]? = some (some v) → (lg_sl (as.map (im_v k)))[i]? = some (.val (im_v k v)) := by
  intro as
  induction as with
  | nil => exact ⟨rfl, fun i v h => by simp [im_lay] at h⟩
  | cons a t ih =>
    obtain ⟨h1, h2⟩ := ih
    by_cases hc : a.category = 2
    · have e1 : lg_sl ((a :: t).map (im_v k)) = .val (im_v k a) :: .second :: lg_sl (t.map (im_v k)) := by simp [lg_sl, im_v_cat, hc]
      have e2 : im_lay (a :: t) = some a :: none :: im_lay t := by simp [im_lay, hc]
      rw [e1, e2]
      refine ⟨by simp [h1], fun i v h => ?_⟩
      match i, h with
      | 0, h => simp at h; simp [h]
      | 1, h => simp at h
      | i + 2, h => simpa using h2 i v (by simpa using h)
    · have e1 : lg_sl ((a :: t).map (im_v k)) = .val (im_v k a) :: lg_sl (t.map (im_v k)) := by simp [lg_sl, im_v_cat, hc]
      have e2 : im_lay (a :: t) = some a :: im_lay t := by simp [im_lay, hc]
      rw [e1, e2]
      refine ⟨by simp [h1], fun i v h => ?_⟩
      match i, h with
      | 0, h => simp at h; simp [h]
      | i + 1, h => simpa using h2 i v (by simpa using h)
theorem im_entry (k : im_K) (as : List Value) (n : Nat) (h : (im_lay as).length ≤ n) : im_L k (im_lay as ++ List.replicate (n - (im_lay as).length) none) ((lg_sl (as.map (im_v k)) ++ List.replicate (n - (lg_sl (as.map (im_v k))).length) Slot.unset).toArray) := by
  obtain ⟨h1, h2⟩ := im_lay_at k as
  obtain ⟨g1, g2, -⟩ := lv_entry (as.map (im_v k)) (n := n) (by omega)
  refine ⟨by simp; omega, g2, fun i v hv => ?_⟩
  by_cases hi : i < (im_lay as).length
  · rw [List.getElem?_append_left hi] at hv
    have h3 := h2 i v hv
    simp only [List.getElem?_toArray]
    rw [List.getElem?_append_left (by omega)]
    exact h3
  · rw [List.getElem?_append_right (by omega)] at hv
    have h4 := List.mem_of_getElem? hv
    simp at h4
theorem im_run {l : Launch} {k : im_K} {d : Nat} {Y : im_Y} {as : List Value} {S S' : im_S} {I I' : im_I} {v : Option Value} (hy : plainName Y.1.cls = true) (hm : im_n S ≤ im_n S' ∧ im_z S ≤ im_z S') (hn : (im_lay as).length ≤ Y.2.2.1)
    (h : ∀ (X : im_X), xl X = l → im_Ok X k Y d → xn X = im_n S → xz X = im_z S → (xR X).cells = im_n S' - im_n S → (xR X).slots = im_z S' - im_z S → im_E X k (im_Q X k v (S', I')) 0 (im_lay as ++ List.replicate (Y.2.2.1 - (im_lay as).length) none) [] S I) : im_Runs l k d Y as (S, I) v (S', I') := by
  refine ⟨hm, ?_⟩
  refine Met.ofW (cc := Y.2.1) (maxL := Y.2.2.1) (ret := Y.2.2.2) hy rfl ?_
  intro p e s m args below meth c s₁ B hml hv
  obtain ⟨rfl, hH, hSt⟩ := hv
  have hts := atoms_spec (ws := .code Y.1 Y.2.1 Y.2.2.1 Y.2.2.2 :: im_W) B.pre
  have hown : s.vm.findClass Y.1.cls = some m.cls := findClass_of_methodNamed B.named
  have hin : meth.name = Y.1.name := (name_of_methodNamed B.named B.method).1
  rw [lg_entry_eq]
  have h0 := h (p, l, e, { frames := d, cells := im_n S' - im_n S, slots := im_z S' - im_z S, locals := 40 * d }, s, m, (as.map (im_v k)).toArray, below, meth, c, im_n S, im_z S) rfl ⟨B.exec, B.bytes, hml, B.returns, hown, fun w hw => hts w (List.mem_cons_of_mem _ hw), B.notSynchronized, hSt, hin, Nat.le_refl _, Nat.le_refl _⟩ rfl rfl rfl rfl s.heap [] _ hH va_S.rf (im_entry k as _ hn) ⟨Nat.le_refl _, Nat.le_refl _, by show im_n S - im_n S ≤ _; omega, by show im_z S - im_z S ≤ _; omega⟩
  have e1 : im_n S - im_n S = 0 := Nat.sub_self _
  have e2 : im_z S - im_z S = 0 := Nat.sub_self _
  simp only [xn, xz, e1, e2] at h0
  exact h0
end
section
/-! THE ROWS: an instruction each -/
section R0
variable {X : im_X} {k : im_K} {Y : im_Y} {d : Nat} {Q : State → Prop} {pc : Nat} {L : List (Option Value)} {st : List Value} {S : im_S} {I : im_I}
theorem r_iconst (hX : im_Ok X k Y d) {n : Int} (v : Int32) (hd : decode Y.2.1 pc = .ok (.iconst n, 1)) (hv : Int32.ofInt n = v) (h : im_E X k Q (pc + 1) L (.int v :: st) S I) : im_E X k Q pc L st S I :=
  fun H locs ls hH hS hL hB => lv_iconst hX.1 hX.2.1 hd hv (h H locs ls hH hS hL hB)
theorem r_bipush (hX : im_Ok X k Y d) {n : Int} (v : Int32) (hd : decode Y.2.1 pc = .ok (.bipush n, 2)) (hv : (Int8.ofInt n).toInt32 = v) (h : im_E X k Q (pc + 2) L (.int v :: st) S I) : im_E X k Q pc L st S I :=
  fun H locs ls hH hS hL hB => lv_bipush hX.1 hX.2.1 hd hv (h H locs ls hH hS hL hB)
theorem r_sipush (hX : im_Ok X k Y d) {n : Int} (v : Int32) (hd : decode Y.2.1 pc = .ok (.sipush n, 3)) (hv : (Int16.ofInt n).toInt32 = v) (h : im_E X k Q (pc + 3) L (.int v :: st) S I) : im_E X k Q pc L st S I :=
  fun H locs ls hH hS hL hB => lv_sipush hX.1 hX.2.1 hd hv (h H locs ls hH hS hL hB)
theorem r_ldc (hX : im_Ok X k Y d) {ix : Nat} {v : Int32} (hd : decode Y.2.1 pc = .ok (.ldc ix, 2)) (hw : Cond.constant Y.1.cls ix v ∈ im_W) (h : im_E X k Q (pc + 2) L (.int v :: st) S I) : im_E X k Q pc L st S I :=
  fun H locs ls hH hS hL hB => lv_ldc hX.1 hX.2.1 hX.2.2.2.2.1 (hX.2.2.2.2.2.1 _ hw) hd (h H locs ls hH hS hL hB)
theorem r_ldc2 (hX : im_Ok X k Y d) {ix : Nat} {v : Int64} (hd : decode Y.2.1 pc = .ok (.ldc2_w ix, 3)) (hw : Cond.constantLong Y.1.cls ix v ∈ im_W) (h : im_E X k Q (pc + 3) L (.long v :: st) S I) : im_E X k Q pc L st S I :=
  fun H locs ls hH hS hL hB => lv_ldc2 hX.1 hX.2.1 hX.2.2.2.2.1 (hX.2.2.2.2.2.1 _ hw) hd (h H locs ls hH hS hL hB)
-- locals
theorem r_iload_n (hX : im_Ok X k Y d) {j : Fin 4} {x : Int32} (hd : decode Y.2.1 pc = .ok (.iload_n j, 1)) (hl : L[(j : Nat)]? = some (some (.int x))) (h : im_E X k Q (pc + 1) L (.int x :: st) S I) : im_E X k Q pc L st S I :=
  fun H locs ls hH hS hL hB => lv_iload_n hX.1 hX.2.1 hd rfl (hL.2.2 _ _ hl) (h H locs ls hH hS hL hB)
theorem r_iload (hX : im_Ok X k Y d) {j : Nat} {x : Int32} (hd : decode Y.2.1 pc = .ok (.iload j, 2)) (hl : L[j]? = some (some (.int x))) (h : im_E X k Q (pc + 2) L (.int x :: st) S I) : im_E X k Q pc L st S I :=
  fun H locs ls hH hS hL hB => lv_iload hX.1 hX.2.1 hd (hL.2.2 _ _ hl) (h H locs ls hH hS hL hB)
theorem r_lload_n (hX : im_Ok X k Y d) {j : Fin 4} {x : Int64} (hd : decode Y.2.1 pc = .ok (.lload_n j, 1)) (hl : L[(j : Nat)]? = some (some (.long x))) (h : im_E X k Q (pc + 1) L (.long x :: st) S I) : im_E X k Q pc L st S I :=
  fun H locs ls hH hS hL hB => lv_lload_n hX.1 hX.2.1 hd rfl (hL.2.2 _ _ hl) (h H locs ls hH hS hL hB)
theorem r_lload (hX : im_Ok X k Y d) {j : Nat} {x : Int64} (hd : decode Y.2.1 pc = .ok (.lload j, 2)) (hl : L[j]? = some (some (.long x))) (h : im_E X k Q (pc + 2) L (.long x :: st) S I) : im_E X k Q pc L st S I :=
  fun H locs ls hH hS hL hB => lv_lload hX.1 hX.2.1 hd (hL.2.2 _ _ hl) (h H locs ls hH hS hL hB)
theorem r_aload_n (hX : im_Ok X k Y d) {j : Fin 4} {x : Nat} (hd : decode Y.2.1 pc = .ok (.aload_n j, 1)) (hl : L[(j : Nat)]? = some (some (.ref x))) (h : im_E X k Q (pc + 1) L (.ref x :: st) S I) : im_E X k Q pc L st S I :=
  fun H locs ls hH hS hL hB => lv_aload_n hX.1 hX.2.1 hd rfl (hL.2.2 _ _ hl) (h H locs ls hH hS hL hB)
theorem r_aload (hX : im_Ok X k Y d) {j : Nat} {x : Nat} (hd : decode Y.2.1 pc = .ok (.aload j, 2)) (hl : L[j]? = some (some (.ref x))) (h : im_E X k Q (pc + 2) L (.ref x :: st) S I) : im_E X k Q pc L st S I :=
  fun H locs ls hH hS hL hB => lv_aload hX.1 hX.2.1 hd (hL.2.2 _ _ hl) (h H locs ls hH hS hL hB)
/-- the locals as the kit has them -/
def im_as (k : im_K) (L : List (Option Value)) : List (Nat × Value) := (List.range L.length).filterMap fun i => match L[i]? with | some (some v) => some (i, im_v k v) | _ => none
theorem im_as_mem {k : im_K} {L : List (Option Value)} {i : Nat} {v : Value} (h : L[i]? = some (some v)) : (i, im_v k v) ∈ im_as k L := by
  refine List.mem_filterMap.mpr ⟨i, List.mem_range.mpr (List.getElem?_eq_some_iff.mp h).1, ?_⟩
  rw [h]
theorem im_as_inv {k : im_K} {L : List (Option Value)} {q : Nat × Value} (h : q ∈ im_as k L) : ∃ v, L[q.1]? = some (some v) ∧ q.2 = im_v k v := by
  obtain ⟨i, -, hi⟩ := List.mem_filterMap.mp h
  split at hi
  · rename_i v hv
    cases hi
    exact ⟨v, hv, rfl⟩
  · cases hi
theorem im_as_has {k : im_K} {L : List (Option Value)} {ls : Array Slot} (h : im_L k L ls) : lv_has ls L.length (im_as k L) := by
  refine ⟨h.1, h.2.1, fun q hq => ?_⟩
  obtain ⟨v, h1, h2⟩ := im_as_inv hq
  rw [h2]
  exact h.2.2 _ _ h1
/-- no long stands just ahead of i -/
def im_free (L : List (Option Value)) (i : Nat) : Bool := match i with
  | 0 => true
  | j + 1 => match L[j]? with
    | some (some v) => v.category != 2
    | _ => true
theorem im_free_at {L : List (Option Value)} {i j : Nat} {v : Value} (h : im_free L i = true) (h1 : L[j]? = some (some v)) (hj : j + 1 = i) : v.category ≠ 2 := by
  subst hj
  simp only [im_free, h1] at h
  simpa using h
theorem im_set1 {k : im_K} {L L' : List (Option Value)} {ls' : Array Slot} {i : Nat} {v : Value} (hL' : L.set i (some v) = L') (hf : im_free L i = true) (h : lv_has ls' L.length ((i, im_v k v) :: (im_as k L).filter (fun q => !(q.1 == i) && !(q.1 + 1 == i && q.2.category == 2)))) : im_L k L' ls' := by
  subst hL'
  refine ⟨by simpa using h.1, h.2.1, fun j w hj => ?_⟩
  rw [List.getElem?_set] at hj
  by_cases e : i = j
  · subst e
    rw [if_pos rfl] at hj
    split at hj
    · cases hj
      exact h.2.2 _ List.mem_cons_self
    · cases hj
  · rw [if_neg e] at hj
    refine h.2.2 (j, im_v k w) (List.mem_cons_of_mem _ (List.mem_filter.mpr ⟨im_as_mem hj, ?_⟩))
    have e1 : (j == i) = false := by simpa using fun q => e q.symm
    simp only [e1, Bool.not_false, Bool.true_and]
    by_cases e2 : j + 1 = i
    · have := im_free_at hf hj e2
      simp [im_v_cat, this]
    · simp [e2]
theorem im_set2 {k : im_K} {L L' : List (Option Value)} {ls' : Array Slot} {i : Nat} {v : Value} (hL' : (L.set i (some v)).set (i + 1) none = L') (hf : im_free L i = true) (h : lv_has ls' L.length ((i, im_v k v) :: (im_as k L).filter (fun q => !(q.1 == i) && (!(q.1 == i + 1) && !(q.1 + 1 == i && q.2.category == 2))))) : im_L k L' ls' := by
  subst hL'
  refine ⟨by simpa using h.1, h.2.1, fun j w hj => ?_⟩
  rw [List.getElem?_set] at hj
  by_cases e0 : i + 1 = j
  · rw [if_pos e0] at hj
    split at hj <;> cases hj
  · rw [if_neg e0, List.getElem?_set] at hj
    by_cases e : i = j
    · subst e
      rw [if_pos rfl] at hj
      split at hj
      · cases hj
        exact h.2.2 _ List.mem_cons_self
      · cases hj
    · rw [if_neg e] at hj
      refine h.2.2 (j, im_v k w) (List.mem_cons_of_mem _ (List.mem_filter.mpr ⟨im_as_mem hj, ?_⟩))
      have e1 : (j == i) = false := by simpa using fun q => e q.symm
      have e3 : (j == i + 1) = false := by simpa using fun q => e0 q.symm
      simp only [e1, e3, Bool.not_false, Bool.true_and]
      by_cases e2 : j + 1 = i
      · have := im_free_at hf hj e2
        simp [im_v_cat, this]
      · simp [e2]
theorem r_istore_n (hX : im_Ok X k Y d) {j : Fin 4} {x : Int32} {L' : List (Option Value)} (hd : decode Y.2.1 pc = .ok (.istore_n j, 1)) (hl : L.set (j : Nat) (some (.int x)) = L') (hf : im_free L (j : Nat) = true) (hj : (j : Nat) < L.length) (h : im_E X k Q (pc + 1) L' st S I) : im_E X k Q pc L (.int x :: st) S I :=
  fun H locs ls hH hS hL hB => lv_istore_n hX.1 hX.2.1 hd rfl (im_as_has hL) hj rfl fun ls' h' => h H locs ls' hH hS (im_set1 (v := .int x) hl hf h') hB
theorem r_istore (hX : im_Ok X k Y d) {j : Nat} {x : Int32} {L' : List (Option Value)} (hd : decode Y.2.1 pc = .ok (.istore j, 2)) (hl : L.set j (some (.int x)) = L') (hf : im_free L j = true) (hj : j < L.length) (h : im_E X k Q (pc + 2) L' st S I) : im_E X k Q pc L (.int x :: st) S I :=
  fun H locs ls hH hS hL hB => lv_istore hX.1 hX.2.1 hd (im_as_has hL) hj rfl fun ls' h' => h H locs ls' hH hS (im_set1 (v := .int x) hl hf h') hB
theorem r_astore_n (hX : im_Ok X k Y d) {j : Fin 4} {x : Nat} {L' : List (Option Value)} (hd : decode Y.2.1 pc = .ok (.astore_n j, 1)) (hl : L.set (j : Nat) (some (.ref x)) = L') (hf : im_free L (j : Nat) = true) (hj : (j : Nat) < L.length) (h : im_E X k Q (pc + 1) L' st S I) : im_E X k Q pc L (.ref x :: st) S I :=
  fun H locs ls hH hS hL hB => lv_astore_n hX.1 hX.2.1 hd rfl (im_as_has hL) hj rfl fun ls' h' => h H locs ls' hH hS (im_set1 (v := .ref x) hl hf h') hB
theorem r_astore (hX : im_Ok X k Y d) {j : Nat} {x : Nat} {L' : List (Option Value)} (hd : decode Y.2.1 pc = .ok (.astore j, 2)) (hl : L.set j (some (.ref x)) = L') (hf : im_free L j = true) (hj : j < L.length) (h : im_E X k Q (pc + 2) L' st S I) : im_E X k Q pc L (.ref x :: st) S I :=
  fun H locs ls hH hS hL hB => lv_astore hX.1 hX.2.1 hd (im_as_has hL) hj rfl fun ls' h' => h H locs ls' hH hS (im_set1 (v := .ref x) hl hf h') hB
theorem r_lstore_n (hX : im_Ok X k Y d) {j : Fin 4} {x : Int64} {L' : List (Option Value)} (hd : decode Y.2.1 pc = .ok (.lstore_n j, 1)) (hl : (L.set (j : Nat) (some (.long x))).set ((j : Nat) + 1) none = L') (hf : im_free L (j : Nat) = true) (hj : (j : Nat) + 1 < L.length) (h : im_E X k Q (pc + 1) L' st S I) : im_E X k Q pc L (.long x :: st) S I :=
  fun H locs ls hH hS hL hB => lv_lstore_n hX.1 hX.2.1 hd rfl (im_as_has hL) hj rfl fun ls' h' => h H locs ls' hH hS (im_set2 (v := .long x) hl hf h') hB
theorem r_lstore (hX : im_Ok X k Y d) {j : Nat} {x : Int64} {L' : List (Option Value)} (hd : decode Y.2.1 pc = .ok (.lstore j, 2)) (hl : (L.set j (some (.long x))).set (j + 1) none = L') (hf : im_free L j = true) (hj : j + 1 < L.length) (h : im_E X k Q (pc + 2) L' st S I) : im_E X k Q pc L (.long x :: st) S I :=
  fun H locs ls hH hS hL hB => lv_lstore hX.1 hX.2.1 hd (im_as_has hL) hj rfl fun ls' h' => h H locs ls' hH hS (im_set2 (v := .long x) hl hf h') hB
theorem im_as_get {k : im_K} {L : List (Option Value)} {i : Nat} {v : Value} (h : L[i]? = some (some v)) : ∃ z : Nat, (im_as k L)[z]? = some (i, im_v k v) := List.getElem?_of_mem (im_as_mem h)
theorem r_iinc (hX : im_Ok X k Y d) {j : Nat} {n : Int} {x : Int32} (v : Int32) {L' : List (Option Value)} (hd : decode Y.2.1 pc = .ok (.iinc j n, 3)) (hx : L[j]? = some (some (.int x))) (hv : Int32.ofInt n = v) (hl : L.set j (some (.int (x + v))) = L') (hf : im_free L j = true) (h : im_E X k Q (pc + 3) L' st S I) : im_E X k Q pc L st S I := by
  intro H locs ls hH hS hL hB
  obtain ⟨z, hz⟩ := im_as_get (k := k) hx
  exact lv_iinc hX.1 hX.2.1 hd (im_as_has hL) hz (by rw [hv]) (List.getElem?_eq_some_iff.mp hx).1 rfl fun ls' h' => h H locs ls' hH hS (im_set1 (v := .int (x + v)) hl hf h') hB
-- numbers
theorem r_iadd (hX : im_Ok X k Y d) {x y : Int32} (hd : decode Y.2.1 pc = .ok (.iadd, 1)) (h : im_E X k Q (pc + 1) L (.int (x + y) :: st) S I) : im_E X k Q pc L (.int y :: .int x :: st) S I :=
  fun H locs ls hH hS hL hB => lv_iadd hX.1 hX.2.1 hd (h H locs ls hH hS hL hB)
theorem r_isub (hX : im_Ok X k Y d) {x y : Int32} (hd : decode Y.2.1 pc = .ok (.isub, 1)) (h : im_E X k Q (pc + 1) L (.int (x - y) :: st) S I) : im_E X k Q pc L (.int y :: .int x :: st) S I :=
  fun H locs ls hH hS hL hB => lv_isub hX.1 hX.2.1 hd (h H locs ls hH hS hL hB)
theorem r_imul (hX : im_Ok X k Y d) {x y : Int32} (hd : decode Y.2.1 pc = .ok (.imul, 1)) (h : im_E X k Q (pc + 1) L (.int (x * y) :: st) S I) : im_E X k Q pc L (.int y :: .int x :: st) S I :=
  fun H locs ls hH hS hL hB => lv_imul hX.1 hX.2.1 hd (h H locs ls hH hS hL hB)
theorem r_iand (hX : im_Ok X k Y d) {x y : Int32} (hd : decode Y.2.1 pc = .ok (.iand, 1)) (h : im_E X k Q (pc + 1) L (.int (x &&& y) :: st) S I) : im_E X k Q pc L (.int y :: .int x :: st) S I :=
  fun H locs ls hH hS hL hB => lv_iand hX.1 hX.2.1 hd (h H locs ls hH hS hL hB)
theorem r_ior (hX : im_Ok X k Y d) {x y : Int32} (hd : decode Y.2.1 pc = .ok (.ior, 1)) (h : im_E X k Q (pc + 1) L (.int (x ||| y) :: st) S I) : im_E X k Q pc L (.int y :: .int x :: st) S I :=
  fun H locs ls hH hS hL hB => lv_ior hX.1 hX.2.1 hd (h H locs ls hH hS hL hB)
theorem r_ixor (hX : im_Ok X k Y d) {x y : Int32} (hd : decode Y.2.1 pc = .ok (.ixor, 1)) (h : im_E X k Q (pc + 1) L (.int (x ^^^ y) :: st) S I) : im_E X k Q pc L (.int y :: .int x :: st) S I :=
  fun H locs ls hH hS hL hB => lv_ixor hX.1 hX.2.1 hd (h H locs ls hH hS hL hB)
theorem r_ineg (hX : im_Ok X k Y d) {x : Int32} (hd : decode Y.2.1 pc = .ok (.ineg, 1)) (h : im_E X k Q (pc + 1) L (.int (-x) :: st) S I) : im_E X k Q pc L (.int x :: st) S I :=
  fun H locs ls hH hS hL hB => lv_ineg hX.1 hX.2.1 hd (h H locs ls hH hS hL hB)
theorem r_ishl (hX : im_Ok X k Y d) {x y : Int32} (hd : decode Y.2.1 pc = .ok (.ishl, 1)) (h : im_E X k Q (pc + 1) L (.int (x <<< (y &&& 31)) :: st) S I) : im_E X k Q pc L (.int y :: .int x :: st) S I :=
  fun H locs ls hH hS hL hB => lv_ishl hX.1 hX.2.1 hd (h H locs ls hH hS hL hB)
theorem r_ishr (hX : im_Ok X k Y d) {x y : Int32} (hd : decode Y.2.1 pc = .ok (.ishr, 1)) (h : im_E X k Q (pc + 1) L (.int (x >>> (y &&& 31)) :: st) S I) : im_E X k Q pc L (.int y :: .int x :: st) S I :=
  fun H locs ls hH hS hL hB => lv_ishr hX.1 hX.2.1 hd (h H locs ls hH hS hL hB)
theorem r_iushr (hX : im_Ok X k Y d) {x y : Int32} (hd : decode Y.2.1 pc = .ok (.iushr, 1)) (h : im_E X k Q (pc + 1) L (.int ((x.toUInt32 >>> (y.toUInt32 &&& Int32.toUInt32 31)).toInt32) :: st) S I) : im_E X k Q pc L (.int y :: .int x :: st) S I :=
  fun H locs ls hH hS hL hB => lv_iushr hX.1 hX.2.1 hd rfl (h H locs ls hH hS hL hB)
theorem r_idiv (hX : im_Ok X k Y d) {x y : Int32} (hd : decode Y.2.1 pc = .ok (.idiv, 1)) (hy : ¬ y = 0) (h : im_E X k Q (pc + 1) L (.int (x / y) :: st) S I) : im_E X k Q pc L (.int y :: .int x :: st) S I :=
  fun H locs ls hH hS hL hB => lv_idiv hX.1 hX.2.1 hd hy (h H locs ls hH hS hL hB)
theorem r_irem (hX : im_Ok X k Y d) {x y : Int32} (hd : decode Y.2.1 pc = .ok (.irem, 1)) (hy : ¬ y = 0) (h : im_E X k Q (pc + 1) L (.int (x - x / y * y) :: st) S I) : im_E X k Q pc L (.int y :: .int x :: st) S I :=
  fun H locs ls hH hS hL hB => lv_irem hX.1 hX.2.1 hd hy (h H locs ls hH hS hL hB)
theorem r_ladd (hX : im_Ok X k Y d) {x y : Int64} (hd : decode Y.2.1 pc = .ok (.ladd, 1)) (h : im_E X k Q (pc + 1) L (.long (x + y) :: st) S I) : im_E X k Q pc L (.long y :: .long x :: st) S I :=
  fun H locs ls hH hS hL hB => lv_ladd hX.1 hX.2.1 hd (h H locs ls hH hS hL hB)
theorem r_lmul (hX : im_Ok X k Y d) {x y : Int64} (hd : decode Y.2.1 pc = .ok (.lmul, 1)) (h : im_E X k Q (pc + 1) L (.long (x * y) :: st) S I) : im_E X k Q pc L (.long y :: .long x :: st) S I :=
  fun H locs ls hH hS hL hB => lv_lmul hX.1 hX.2.1 hd (h H locs ls hH hS hL hB)
theorem r_i2l (hX : im_Ok X k Y d) {x : Int32} (hd : decode Y.2.1 pc = .ok (.i2l, 1)) (h : im_E X k Q (pc + 1) L (.long x.toInt64 :: st) S I) : im_E X k Q pc L (.int x :: st) S I :=
  fun H locs ls hH hS hL hB => lv_i2l hX.1 hX.2.1 hd rfl (h H locs ls hH hS hL hB)
theorem r_lcmp (hX : im_Ok X k Y d) {x y : Int64} (hd : decode Y.2.1 pc = .ok (.lcmp, 1)) (h : im_E X k Q (pc + 1) L (.int (lg_cmp x y) :: st) S I) : im_E X k Q pc L (.long y :: .long x :: st) S I :=
  fun H locs ls hH hS hL hB => W.lcmp hX.1 hX.2.1 hd (h H locs ls hH hS hL hB)
theorem r_dup (hX : im_Ok X k Y d) {v : Value} (hd : decode Y.2.1 pc = .ok (.dup, 1)) (hc : v.category = 1) (h : im_E X k Q (pc + 1) L (v :: v :: st) S I) : im_E X k Q pc L (v :: st) S I :=
  fun H locs ls hH hS hL hB => lv_dup hX.1 hX.2.1 hd (by rw [im_v_cat]; exact hc) (h H locs ls hH hS hL hB)
theorem r_pop (hX : im_Ok X k Y d) {v : Value} (hd : decode Y.2.1 pc = .ok (.pop, 1)) (hc : v.category = 1) (h : im_E X k Q (pc + 1) L st S I) : im_E X k Q pc L (v :: st) S I :=
  fun H locs ls hH hS hL hB => lv_pop hX.1 hX.2.1 hd (by rw [im_v_cat]; exact hc) (h H locs ls hH hS hL hB)
theorem r_goto (hX : im_Ok X k Y d) {off : Int} {tgt : Nat} (hd : decode Y.2.1 pc = .ok (.goto off, 3)) (ht : (pc : Int) + off = (tgt : Int)) (h : im_E X k Q tgt L st S I) : im_E X k Q pc L st S I :=
  fun H locs ls hH hS hL hB => lv_goto hX.1 hX.2.1 hd ht (h H locs ls hH hS hL hB)
theorem r_icmp_eq (hX : im_Ok X k Y d) {x y : Int32} {off : Int} (tgt : Nat) (hd : decode Y.2.1 pc = .ok (.if_icmp .eq off, 3)) (ht : (pc : Int) + off = (tgt : Int)) (h1 : x = y → im_E X k Q tgt L st S I) (h2 : ¬ x = y → im_E X k Q (pc + 3) L st S I) : im_E X k Q pc L (.int y :: .int x :: st) S I :=
  fun H locs ls hH hS hL hB => lv_icmp_eq hX.1 hX.2.1 hd ht (fun c => h1 c H locs ls hH hS hL hB) (fun c => h2 c H locs ls hH hS hL hB)
theorem r_if_eq (hX : im_Ok X k Y d) {x : Int32} {off : Int} (tgt : Nat) (hd : decode Y.2.1 pc = .ok (.ifCond .eq off, 3)) (ht : (pc : Int) + off = (tgt : Int)) (h1 : x = 0 → im_E X k Q tgt L st S I) (h2 : ¬ x = 0 → im_E X k Q (pc + 3) L st S I) : im_E X k Q pc L (.int x :: st) S I :=
  fun H locs ls hH hS hL hB => lv_if_eq hX.1 hX.2.1 hd ht (fun c => h1 c H locs ls hH hS hL hB) (fun c => h2 c H locs ls hH hS hL hB)
theorem r_icmp_ne (hX : im_Ok X k Y d) {x y : Int32} {off : Int} (tgt : Nat) (hd : decode Y.2.1 pc = .ok (.if_icmp .ne off, 3)) (ht : (pc : Int) + off = (tgt : Int)) (h1 : ¬ x = y → im_E X k Q tgt L st S I) (h2 : x = y → im_E X k Q (pc + 3) L st S I) : im_E X k Q pc L (.int y :: .int x :: st) S I :=
  fun H locs ls hH hS hL hB => lv_icmp_ne hX.1 hX.2.1 hd ht (fun c => h1 c H locs ls hH hS hL hB) (fun c => h2 c H locs ls hH hS hL hB)
theorem r_if_ne (hX : im_Ok X k Y d) {x : Int32} {off : Int} (tgt : Nat) (hd : decode Y.2.1 pc = .ok (.ifCond .ne off, 3)) (ht : (pc : Int) + off = (tgt : Int)) (h1 : ¬ x = 0 → im_E X k Q tgt L st S I) (h2 : x = 0 → im_E X k Q (pc + 3) L st S I) : im_E X k Q pc L (.int x :: st) S I :=
  fun H locs ls hH hS hL hB => lv_if_ne hX.1 hX.2.1 hd ht (fun c => h1 c H locs ls hH hS hL hB) (fun c => h2 c H locs ls hH hS hL hB)
theorem r_icmp_lt (hX : im_Ok X k Y d) {x y : Int32} {off : Int} (tgt : Nat) (hd : decode Y.2.1 pc = .ok (.if_icmp .lt off, 3)) (ht : (pc : Int) + off = (tgt : Int)) (h1 : x < y → im_E X k Q tgt L st S I) (h2 : ¬ x < y → im_E X k Q (pc + 3) L st S I) : im_E X k Q pc L (.int y :: .int x :: st) S I :=
  fun H locs ls hH hS hL hB => lv_icmp_lt hX.1 hX.2.1 hd ht (fun c => h1 c H locs ls hH hS hL hB) (fun c => h2 c H locs ls hH hS hL hB)
theorem r_if_lt (hX : im_Ok X k Y d) {x : Int32} {off : Int} (tgt : Nat) (hd : decode Y.2.1 pc = .ok (.ifCond .lt off, 3)) (ht : (pc : Int) + off = (tgt : Int)) (h1 : x < 0 → im_E X k Q tgt L st S I) (h2 : ¬ x < 0 → im_E X k Q (pc + 3) L st S I) : im_E X k Q pc L (.int x :: st) S I :=
  fun H locs ls hH hS hL hB => lv_if_lt hX.1 hX.2.1 hd ht (fun c => h1 c H locs ls hH hS hL hB) (fun c => h2 c H locs ls hH hS hL hB)
theorem r_icmp_ge (hX : im_Ok X k Y d) {x y : Int32} {off : Int} (tgt : Nat) (hd : decode Y.2.1 pc = .ok (.if_icmp .ge off, 3)) (ht : (pc : Int) + off = (tgt : Int)) (h1 : y ≤ x → im_E X k Q tgt L st S I) (h2 : ¬ y ≤ x → im_E X k Q (pc + 3) L st S I) : im_E X k Q pc L (.int y :: .int x :: st) S I :=
  fun H locs ls hH hS hL hB => lv_icmp_ge hX.1 hX.2.1 hd ht (fun c => h1 c H locs ls hH hS hL hB) (fun c => h2 c H locs ls hH hS hL hB)
theorem r_if_ge (hX : im_Ok X k Y d) {x : Int32} {off : Int} (tgt : Nat) (hd : decode Y.2.1 pc = .ok (.ifCond .ge off, 3)) (ht : (pc : Int) + off = (tgt : Int)) (h1 : 0 ≤ x → im_E X k Q tgt L st S I) (h2 : ¬ 0 ≤ x → im_E X k Q (pc + 3) L st S I) : im_E X k Q pc L (.int x :: st) S I :=
  fun H locs ls hH hS hL hB => lv_if_ge hX.1 hX.2.1 hd ht (fun c => h1 c H locs ls hH hS hL hB) (fun c => h2 c H locs ls hH hS hL hB)
theorem r_icmp_gt (hX : im_Ok X k Y d) {x y : Int32} {off : Int} (tgt : Nat) (hd : decode Y.2.1 pc = .ok (.if_icmp .gt off, 3)) (ht : (pc : Int) + off = (tgt : Int)) (h1 : y < x → im_E X k Q tgt L st S I) (h2 : ¬ y < x → im_E X k Q (pc + 3) L st S I) : im_E X k Q pc L (.int y :: .int x :: st) S I :=
  fun H locs ls hH hS hL hB => lv_icmp_gt hX.1 hX.2.1 hd ht (fun c => h1 c H locs ls hH hS hL hB) (fun c => h2 c H locs ls hH hS hL hB)
theorem r_if_gt (hX : im_Ok X k Y d) {x : Int32} {off : Int} (tgt : Nat) (hd : decode Y.2.1 pc = .ok (.ifCond .gt off, 3)) (ht : (pc : Int) + off = (tgt : Int)) (h1 : 0 < x → im_E X k Q tgt L st S I) (h2 : ¬ 0 < x → im_E X k Q (pc + 3) L st S I) : im_E X k Q pc L (.int x :: st) S I :=
  fun H locs ls hH hS hL hB => lv_if_gt hX.1 hX.2.1 hd ht (fun c => h1 c H locs ls hH hS hL hB) (fun c => h2 c H locs ls hH hS hL hB)
theorem r_icmp_le (hX : im_Ok X k Y d) {x y : Int32} {off : Int} (tgt : Nat) (hd : decode Y.2.1 pc = .ok (.if_icmp .le off, 3)) (ht : (pc : Int) + off = (tgt : Int)) (h1 : x ≤ y → im_E X k Q tgt L st S I) (h2 : ¬ x ≤ y → im_E X k Q (pc + 3) L st S I) : im_E X k Q pc L (.int y :: .int x :: st) S I :=
  fun H locs ls hH hS hL hB => lv_icmp_le hX.1 hX.2.1 hd ht (fun c => h1 c H locs ls hH hS hL hB) (fun c => h2 c H locs ls hH hS hL hB)
theorem r_if_le (hX : im_Ok X k Y d) {x : Int32} {off : Int} (tgt : Nat) (hd : decode Y.2.1 pc = .ok (.ifCond .le off, 3)) (ht : (pc : Int) + off = (tgt : Int)) (h1 : x ≤ 0 → im_E X k Q tgt L st S I) (h2 : ¬ x ≤ 0 → im_E X k Q (pc + 3) L st S I) : im_E X k Q pc L (.int x :: st) S I :=
  fun H locs ls hH hS hL hB => lv_if_le hX.1 hX.2.1 hd ht (fun c => h1 c H locs ls hH hS hL hB) (fun c => h2 c H locs ls hH hS hL hB)
theorem r_tsIn (hX : im_Ok X k Y d) {x : Int32} {dflt lo hi : Int} {offs : Array Int} {len : Nat} {off : Int} (tgt : Nat) (hd : decode Y.2.1 pc = .ok (.tableswitch dflt lo hi offs, len)) (h1 : ¬ x.toInt < lo) (h2 : ¬ hi < x.toInt) (ho : offs[(x.toInt - lo).toNat]? = some off) (ht : (pc : Int) + off = (tgt : Int)) (h : im_E X k Q tgt L st S I) : im_E X k Q pc L (.int x :: st) S I :=
  fun H locs ls hH hS hL hB => lv_tableIn hX.1 hX.2.1 hd h1 h2 ho ht (h H locs ls hH hS hL hB)
theorem r_tsOut (hX : im_Ok X k Y d) {x : Int32} {dflt lo hi : Int} {offs : Array Int} {len : Nat} (tgt : Nat) (hd : decode Y.2.1 pc = .ok (.tableswitch dflt lo hi offs, len)) (h1 : x.toInt < lo ∨ hi < x.toInt) (ht : (pc : Int) + dflt = (tgt : Int)) (h : im_E X k Q tgt L st S I) : im_E X k Q pc L (.int x :: st) S I :=
  fun H locs ls hH hS hL hB => lv_tableOut hX.1 hX.2.1 hd h1 ht (h H locs ls hH hS hL hB)
theorem r_lookup (hX : im_Ok X k Y d) {x : Int32} {dflt : Int} {ps : Array (Int × Int)} {len : Nat} {off : Int} (tgt : Nat) (hd : decode Y.2.1 pc = .ok (.lookupswitch dflt ps, len)) (hp : (ps.toList.zip (ps.toList.drop 1)).all (fun (a, next) => a.1 < next.1) = true) (ho : Op.lookupswitch.offset ps.toList dflt x.toInt = off) (ht : (pc : Int) + off = (tgt : Int)) (h : im_E X k Q tgt L st S I) : im_E X k Q pc L (.int x :: st) S I :=
  fun H locs ls hH hS hL hB => lv_lookup hX.1 hX.2.1 hd hp ho ht (h H locs ls hH hS hL hB)
-- fields
/-- field j of class t is what the entry ix of class own names -/
def im_F (own : String) (ix t j : Nat) : Prop := Cond.fieldLink own ix (im_T t j).1 (im_T t j).2.1 (im_T t j).2.2.1 ∈ im_W ∧ t < 13 ∧ j < im_N t
theorem r_getv (hX : im_Ok X k Y d) {ix t j a : Nat} (hd : decode Y.2.1 pc = .ok (.getfield ix, 3)) (hF : im_F Y.1.cls ix t j) (hk : im_k S a = (t, im_N t)) {v : Value} (hv : im_f k (S, I) a t j = im_v k v) (h : im_E X k Q (pc + 3) L (v :: st) S I) : im_E X k Q pc L (.ref a :: st) S I := by
  intro H locs ls hH hS hL hB
  obtain ⟨i, rfl, hi⟩ := im_k_lt hk (by have := hF.2.1; omega)
  have he : (im_w k (S, I))[i]? = some (kB k + i, .inr (t, (List.range (im_N t)).map (im_f k (S, I) (i + 2) t))) := by rw [im_w_at hi, im_e_obj hF.2.1 hk]
  refine va_get (D := kG k) hX.1 hX.2.1 hX.2.2.2.2.2.1 (im_in_u t hF.2.1) hX.2.2.2.2.1 hX.2.2.2.2.2.2.2.1.1 hH.2 i he (im_cl t hF.2.1) j hF.2.2 (hX.2.2.2.2.2.1 _ hF.1) (fun _ h => h) (v := im_v k v) ?_ hd (h H locs ls hH hS hL hB)
  rw [List.getElem?_map, List.getElem?_range hF.2.2, ← hv]
  rfl
theorem r_geti (hX : im_Ok X k Y d) {ix t j a : Nat} (hd : decode Y.2.1 pc = .ok (.getfield ix, 3)) (hF : im_F Y.1.cls ix t j) (ht : im_isI t j = true) (hk : im_k S a = (t, im_N t)) (h : im_E X k Q (pc + 3) L (.int (I a j) :: st) S I) : im_E X k Q pc L (.ref a :: st) S I :=
  r_getv hX hd hF hk (by unfold im_f; rw [if_pos ht]; rfl) h
theorem r_getr (hX : im_Ok X k Y d) {ix t j a : Nat} {x : Nat} (hd : decode Y.2.1 pc = .ok (.getfield ix, 3)) (hF : im_F Y.1.cls ix t j) (ht : im_isI t j = false) (hk : im_k S a = (t, im_N t)) (hr : im_r S a j = x + 1) (h : im_E X k Q (pc + 3) L (.ref x :: st) S I) : im_E X k Q pc L (.ref a :: st) S I :=
  r_getv hX hd hF hk (by unfold im_f; rw [if_neg (by rw [ht]; decide)]; show im_rv k (im_r S a j) = _; rw [hr]; rfl) h
theorem im_up_same {I : im_I} {a j : Nat} {x : Int32} : im_up I a j x a j = x := by simp [im_up]
theorem im_up_row {I : im_I} {a j b : Nat} {x : Int32} (h : b ≠ a) : im_up I a j x b = I b := by
  funext i
  simp [im_up, h]
theorem im_up_upd {I : im_I} {a j : Nat} {x : Int32} : im_up I a j x a = upd (I a) j x := by
  funext i
  by_cases h : i = j <;> simp [im_up, upd, h]
theorem im_fs_set {k : im_K} {M M' : im_M} {a t j n : Nat} {v : Value} (hj : im_f k M' a t j = v) (ho : ∀ i, i ≠ j → im_f k M' a t i = im_f k M a t i) : ((List.range n).map (im_f k M a t)).set j v = (List.range n).map (im_f k M' a t) := by
  apply List.ext_getElem?
  intro i
  rw [List.getElem?_set, List.getElem?_map, List.getElem?_map]
  by_cases hij : j = i
  · subst hij
    rw [if_pos rfl]
    by_cases hl : j < n
    · rw [if_pos (by simpa using hl), List.getElem?_range hl, ← hj]; rfl
    · rw [if_neg (by simpa using hl), List.getElem?_eq_none (by simp; omega)]; rfl
  · rw [if_neg hij]
    by_cases hl : i < n
    · rw [List.getElem?_range hl]
      show some _ = some _
      rw [ho i (fun e => hij e.symm)]
    · rw [List.getElem?_eq_none (by simp; omega)]
      rfl
/-- what a field of numbers may hold -/
def im_fit (t j : Nat) (x : Int32) : Bool := match im_ty t j with | .int => true | .boolean => x == 0 || x == 1 | _ => false
theorem im_fit_isI {t j : Nat} {x : Int32} (h : im_fit t j x = true) : im_isI t j = true := by
  unfold im_fit at h
  unfold im_isI
  split at h <;> simp_all
theorem im_fit_n {t j : Nat} {x : Int32} (h : im_fit t j x = true) : narrow (im_ty t j) (.int x) = .int x ∧ fits (im_ty t j) (.int x) = true := by
  unfold im_fit at h
  split at h
  · rename_i e; rw [e]; exact ⟨rfl, rfl⟩
  · rename_i e
    rw [e]
    simp only [Bool.or_eq_true, beq_iff_eq] at h
    rcases h with rfl | rfl <;> exact ⟨rfl, rfl⟩
  · cases h
/-- a put, in the kit's words: into a field that isn't final, or in the class' own constructor -/
theorem im_putW (hX : im_Ok X k Y d) {ix t j i : Nat} {v : Value} {ls : Array Slot} {H : Heap} {locs : List Loc} {cells slots : Nat} {rest : List Value} (hd : decode Y.2.1 pc = .ok (.putfield ix, 3)) (hF : im_F Y.1.cls ix t j) (hfin : (im_T t j).2.2.2 = false ∨ (im_T t j).2.2.2 = true ∧ Y.1.name = "<init>" ∧ (im_T t j).1 = Y.1.cls)
    (hn : narrow (im_ty t j) v = v) (hfit : fits (im_ty t j) v = true) (hk : im_k S (i + 2) = (t, im_N t)) (hi : i < im_n S) (hH : im_H k (S, I) H) (hS : va_S (fun q => kB k ≤ q) (xs X).heap H locs)
    (kk : ∀ (H1 : Heap) (locs1 : List Loc), H1.size = H.size → va_P (kG k) vwCl ((im_w k (S, I)).set i (kB k + i, .inr (t, ((List.range (im_N t)).map (im_f k (S, I) (i + 2) t)).set j v))) H1 → va_S (fun q => kB k ≤ q) (xs X).heap H1 locs1 → W (xp X) (xl X) (xe X) (xR X) (xs X) (xm X) (xa X) (xb X) (xh X) (xc X) H1 locs1 cells slots Q (F0 (xm X) (pc + 3) ls rest)) :
    W (xp X) (xl X) (xe X) (xR X) (xs X) (xm X) (xa X) (xb X) (xh X) (xc X) H locs cells slots Q (F0 (xm X) pc ls (v :: .ref (kB k + i) :: rest)) := by
  obtain ⟨hx, hb, -, -, hown, hts, -, hSt, hnm, -, -⟩ := hX
  obtain ⟨hlink, ht, hj⟩ := hF
  have hK := hSt.1
  have hc := im_cl t ht
  have hin := im_in_u t ht
  have hfd := im_tyok t ht j hj
  have he : (im_w k (S, I))[i]? = some (kB k + i, .inr (t, (List.range (im_N t)).map (im_f k (S, I) (i + 2) t))) := by rw [im_w_at hi, im_e_obj ht hk]
  have hap := va_apart (own := Y.1.cls) hts hin (im_ty t) (im_tyok t ht) (im_nm t ht) hK hc
  obtain ⟨r, h1, cell, q1, q2, q3, q4⟩ := hH.2 i _ he
  have hr : r = (im_C t, im_T t, im_N t) := Option.some.inj (h1.symm.trans hc)
  subst hr
  obtain ⟨hSl, hfc, kC, hkC, hkind⟩ := hK.1 t _ hc
  obtain ⟨cf, kf, fi, f, hfi, hsl⟩ := hSl j hj
  have hlay := hts _ (hin _ (u_in_lay hj))
  have hst := (u_facts hfc hkC (u_lays hts hin hj) hfi).1
  have hlen : j < ((List.range (im_N t)).map (im_f k (S, I) (i + 2) t)).length := by simpa using hj
  have hend : ∀ (H' : Heap), H'[kB k + i]? = some (cell.setSlot f.slot v) → H'.size = H.size → (∀ q, q ≠ kB k + i → H'[q]? = H[q]?) → W (xp X) (xl X) (xe X) (xR X) (xs X) (xm X) (xa X) (xb X) (xh X) (xc X) H' (locs ++ [⟨kB k + i, f.slot⟩]) cells slots Q (F0 (xm X) (pc + 3) ls rest) := by
    intro H' e1 e2 e3
    rw [hsl] at e1 ⊢
    exact kk H' _ e2 (hH.2.set (im_w_D k _) he ⟨_, hc, t_OB.to (V := updV (vp_V _) j v) ⟨_, e1, q2, q3, t_set q4 hap hj v⟩ (fun z _ => vp_updV_set hlen v z)⟩ e3) (hS.put e2 e3 (Nat.le_add_right _ _))
  unfold u_lay at hlay
  rcases hfin with hfin | ⟨hfin, hin2, hdecl⟩
  · rw [if_neg (by rw [hfin]; decide)] at hlay
    have h6 := u_store hfc hkC hkind hlay hfi hfd hn hfit
    exact W.putK hx hb (f := f) ⟨hown, hts _ hlink, ⟨_, _, _, hfi⟩, hst⟩ (by rw [q2]; exact h6) q1 q3 (by rw [hsl]; exact k2_hasslot (q4 j hj)) rfl rfl hd hend
  · rw [if_pos hfin] at hlay
    have hcf : (xm X).cls = cf := by
      obtain ⟨_, _, c', _, _, _, -, -, hf', -, -, -, hown2, -⟩ := Cond.laysFinal_spec hlay
      have e1 : c' = cf := by have := hfi.symm.trans hf'; simp at this; exact this.1.symm
      rw [hdecl] at hown2
      rw [← e1]; exact Option.some.inj (hown.symm.trans hown2)
    have h6 := u_fits hfc hkC hkind (Or.inr hlay) hfi hfd hn hfit
    exact W.putFinK hx hb hown (hts _ hlink) hfi hst hcf (hnm.trans hin2) (by rw [q2]; exact h6) q1 q3 (by rw [hsl]; exact k2_hasslot (q4 j hj)) rfl rfl hd hend
theorem r_putiF (hX : im_Ok X k Y d) {ix t j a : Nat} {x : Int32} (hd : decode Y.2.1 pc = .ok (.putfield ix, 3)) (hF : im_F Y.1.cls ix t j) (hfin : (im_T t j).2.2.2 = false ∨ (im_T t j).2.2.2 = true ∧ Y.1.name = "<init>" ∧ (im_T t j).1 = Y.1.cls) (hx : im_fit t j x = true) (hk : im_k S a = (t, im_N t)) (h : im_E X k Q (pc + 3) L st S (im_up I a j x)) : im_E X k Q pc L (.int x :: .ref a :: st) S I := by
  intro H locs ls hH hS hL hB
  obtain ⟨i, rfl, hi⟩ := im_k_lt hk (by have := hF.2.1; omega)
  have hI := im_fit_isI hx
  refine im_putW hX (v := .int x) hd hF hfin (im_fit_n hx).1 (im_fit_n hx).2 hk hi hH hS fun H1 locs1 hz hP hS1 => ?_
  have hfs : ((List.range (im_N t)).map (im_f k (S, I) (i + 2) t)).set j (.int x) = (List.range (im_N t)).map (im_f k (S, im_up I (i + 2) j x) (i + 2) t) := by
    refine im_fs_set ?_ fun b hb => ?_
    · unfold im_f; rw [if_pos hI]; show Value.int (im_up I (i + 2) j x (i + 2) j) = _; rw [im_up_same]
    · unfold im_f; simp [im_up, hb]
  have h2 := im_w_set (k := k) (M := (S, I)) (M' := (S, im_up I (i + 2) j x)) (a := i) rfl (fun b hb => im_e_congr rfl (fun _ => rfl) (fun q => by show im_up I (i + 2) j x b q = I b q; rw [im_up_row hb]))
  rw [im_e_obj (M := (S, im_up I (i + 2) j x)) hF.2.1 hk, ← hfs] at h2
  rw [h2] at hP
  exact h H1 locs1 ls ⟨hz.trans hH.1, hP⟩ hS1 hL hB
theorem r_puti (hX : im_Ok X k Y d) {ix t j a : Nat} {x : Int32} (hd : decode Y.2.1 pc = .ok (.putfield ix, 3)) (hF : im_F Y.1.cls ix t j) (hfin : (im_T t j).2.2.2 = false) (hx : im_fit t j x = true) (hk : im_k S a = (t, im_N t)) (h : im_E X k Q (pc + 3) L st S (im_up I a j x)) : im_E X k Q pc L (.int x :: .ref a :: st) S I :=
  r_putiF hX hd hF (Or.inl hfin) hx hk h
/-- what a reference field may hold, as the descriptor has it -/
def im_fitr (t j : Nat) : Bool := match im_ty t j with | .object _ => true | .array _ => true | _ => false
theorem r_putr (hX : im_Ok X k Y d) {ix t j a x : Nat} (hd : decode Y.2.1 pc = .ok (.putfield ix, 3)) (hF : im_F Y.1.cls ix t j) (hfin : (im_T t j).2.2.2 = false ∨ (im_T t j).2.2.2 = true ∧ Y.1.name = "<init>" ∧ (im_T t j).1 = Y.1.cls) (hx : im_fitr t j = true) (hk : im_k S a = (t, im_N t)) (h : im_E X k Q (pc + 3) L st (im_upr S a j (x + 1)) I) : im_E X k Q pc L (.ref x :: .ref a :: st) S I := by
  intro H locs ls hH hS hL hB
  obtain ⟨i, rfl, hi⟩ := im_k_lt hk (by have := hF.2.1; omega)
  have hI : im_isI t j = false := by
    unfold im_fitr at hx
    unfold im_isI
    split at hx <;> simp_all
  have hnf : narrow (im_ty t j) (.ref (im_rho k x)) = .ref (im_rho k x) ∧ fits (im_ty t j) (.ref (im_rho k x)) = true := by
    unfold im_fitr at hx
    split at hx
    · rename_i e; rw [e]; exact ⟨rfl, rfl⟩
    · rename_i e; rw [e]; exact ⟨rfl, rfl⟩
    · cases hx
  refine im_putW hX (v := .ref (im_rho k x)) hd hF hfin hnf.1 hnf.2 hk hi hH hS fun H1 locs1 hz hP hS1 => ?_
  have hfs : ((List.range (im_N t)).map (im_f k (S, I) (i + 2) t)).set j (.ref (im_rho k x)) = (List.range (im_N t)).map (im_f k (im_upr S (i + 2) j (x + 1), I) (i + 2) t) := by
    refine im_fs_set ?_ fun b hb => ?_
    · unfold im_f; rw [if_neg (by rw [hI]; decide)]; show im_rv k (im_r (im_upr S (i + 2) j (x + 1)) (i + 2) j) = _; rw [im_r_upr, if_pos ⟨rfl, rfl⟩]; rfl
    · unfold im_f; show (if _ then _ else im_rv k (im_r (im_upr S (i + 2) j (x + 1)) (i + 2) b)) = _; rw [im_r_upr, if_neg (show ¬ (i + 2 = i + 2 ∧ b = j) from fun e => hb e.2)]
  have h2 := im_w_set (k := k) (M := (S, I)) (M' := (im_upr S (i + 2) j (x + 1), I)) (a := i) rfl (fun b hb => im_e_congr rfl (fun q => by show im_r (im_upr S (i + 2) j (x + 1)) b q = _; rw [im_r_upr, if_neg (fun e => hb e.1)]) (fun q => rfl))
  rw [im_e_obj (M := (im_upr S (i + 2) j (x + 1), I)) hF.2.1 hk, ← hfs] at h2
  rw [h2] at hP
  exact h H1 locs1 ls ⟨hz.trans hH.1, hP⟩ hS1 hL hB
end R0
end
section
/-! THE ROWS, of arrays, of what is made, of calls, of ends -/
section R1
variable {X : im_X} {k : im_K} {Y : im_Y} {d : Nat} {Q : State → Prop} {pc : Nat} {L : List (Option Value)} {st : List Value} {S : im_S} {I : im_I}
theorem r_iald (hX : im_Ok X k Y d) {a n : Nat} {i : Int32} (hd : decode Y.2.1 pc = .ok (.iaload, 1)) (hk : im_k S a = (20, n)) (hi : vp_in i n) (h : im_E X k Q (pc + 1) L (.int (I a i.toNatClampNeg) :: st) S I) : im_E X k Q pc L (.int i :: .ref a :: st) S I := by
  intro H locs ls hH hS hL hB
  obtain ⟨q, rfl, hq⟩ := im_k_lt hk (by omega)
  have he := im_w_at (k := k) (M := (S, I)) hq
  rw [im_e_int hk] at he
  exact va_iald (D := kG k) hX.1 hX.2.1 hX.2.2.2.2.2.2.2.1.1 hH.2 q 0 he rfl hi hd (h H locs ls hH hS hL hB)
theorem r_iast (hX : im_Ok X k Y d) {a n : Nat} {i x : Int32} (hd : decode Y.2.1 pc = .ok (.iastore, 1)) (hk : im_k S a = (20, n)) (hi : vp_in i n) (h : im_E X k Q (pc + 1) L st S (im_up I a i.toNatClampNeg x)) : im_E X k Q pc L (.int x :: .int i :: .ref a :: st) S I := by
  intro H locs ls hH hS hL hB
  obtain ⟨q, rfl, hq⟩ := im_k_lt hk (by omega)
  have he := im_w_at (k := k) (M := (S, I)) hq
  rw [im_e_int hk] at he
  refine W.iast hX.1 hX.2.1 (hH.2 q _ he) ((hX.2.2.2.2.2.2.2.1.1.2 0 _ rfl).1 n (fun j => .int (I (q + 2) j))) (fun z => by cases z) (by show ¬ (i < 0 ∨ (arrV _ _ _).slots.size ≤ _); rw [arrV_size]; exact hi) rfl rfl hd fun H1 e z oq => ?_
  have h2 := im_w_set (k := k) (M := (S, I)) (M' := (S, im_up I (q + 2) i.toNatClampNeg x)) (a := q) rfl (fun b hb => im_e_congr rfl (fun _ => rfl) (fun z => by show im_up I (q + 2) i.toNatClampNeg x b z = I b z; rw [im_up_row hb]))
  refine h H1 _ ls ⟨z.trans hH.1, ?_⟩ (hS.put z oq (Nat.le_add_right _ _)) hL hB
  rw [← h2]
  rw [im_e_int (M := (S, im_up I (q + 2) i.toNatClampNeg x)) hk]
  refine hH.2.set (im_w_D k _) he ?_ oq
  show H1[_]? = some (vp_cell _ _)
  rw [e]
  show some ((vp_cell _ _).setSlot _ _) = _
  rw [vp_cell_i, vp_cell_i, arrV_store]
  congr 2
  funext z
  show _ = Value.int (im_up I (q + 2) i.toNatClampNeg x (q + 2) z)
  rw [im_up_upd]
  by_cases hz : z = i.toNatClampNeg
  · subst hz
    simp [updV, upd]
  · simp [updV, upd, hz]
theorem r_alen (hX : im_Ok X k Y d) {a n : Nat} (v : Int32) (hd : decode Y.2.1 pc = .ok (.arraylength, 1)) (hk : im_k S a = (20, n)) (hv : Int32.ofNat n = v) (h : im_E X k Q (pc + 1) L (.int v :: st) S I) : im_E X k Q pc L (.ref a :: st) S I := by
  intro H locs ls hH hS hL hB
  obtain ⟨q, rfl, hq⟩ := im_k_lt hk (by omega)
  have he := im_w_at (k := k) (M := (S, I)) hq
  rw [im_e_int hk] at he
  exact va_alen (D := kG k) hX.1 hX.2.1 hX.2.2.2.2.2.2.2.1.1 hH.2 q 0 he rfl hv hd (h H locs ls hH hS hL hB)
theorem r_alenR (hX : im_Ok X k Y d) {a n : Nat} (v : Int32) (hd : decode Y.2.1 pc = .ok (.arraylength, 1)) (hk : im_k S a = (21, n)) (hv : Int32.ofNat n = v) (h : im_E X k Q (pc + 1) L (.int v :: st) S I) : im_E X k Q pc L (.ref a :: st) S I := by
  intro H locs ls hH hS hL hB
  obtain ⟨q, rfl, hq⟩ := im_k_lt hk (by omega)
  have he := im_w_at (k := k) (M := (S, I)) hq
  rw [im_e_row hk] at he
  exact va_alen (D := kG k) hX.1 hX.2.1 hX.2.2.2.2.2.2.2.1.1 hH.2 q 1 he rfl hv hd (h H locs ls hH hS hL hB)
-- the script (0) and the table of the class (1)
theorem r_sld (hX : im_Ok X k Y d) {i : Int32} (hd : decode Y.2.1 pc = .ok (.iaload, 1)) (hi : vp_in i (kL k)) (h : im_E X k Q (pc + 1) L (.int (kxs k i.toNatClampNeg) :: st) S I) : im_E X k Q pc L (.int i :: .ref 0 :: st) S I := by
  intro H locs ls hH hS hL hB
  obtain ⟨-, hx, -, -, -, hBs, hb⟩ := hX.2.2.2.2.2.2.2.1
  exact va_sld hX.1 hX.2.1 hx (Nat.lt_of_lt_of_le hb hBs) (Nat.not_le.mpr hb) hS hi hd (h H locs ls hH hS hL hB)
theorem r_slen (hX : im_Ok X k Y d) (hd : decode Y.2.1 pc = .ok (.arraylength, 1)) (h : im_E X k Q (pc + 1) L (.int (Int32.ofNat (kL k)) :: st) S I) : im_E X k Q pc L (.ref 0 :: st) S I := by
  intro H locs ls hH hS hL hB
  obtain ⟨-, hx, -, -, -, hBs, hb⟩ := hX.2.2.2.2.2.2.2.1
  exact va_slen hX.1 hX.2.1 hx (Nat.lt_of_lt_of_le hb hBs) (Nat.not_le.mpr hb) hS hd (h H locs ls hH hS hL hB)
theorem r_tld (hX : im_Ok X k Y d) {i : Int32} (hd : decode Y.2.1 pc = .ok (.iaload, 1)) (hi : vp_in i 10) (h : im_E X k Q (pc + 1) L (.int (im_lat i.toNatClampNeg) :: st) S I) : im_E X k Q pc L (.int i :: .ref 1 :: st) S I := by
  intro H locs ls hH hS hL hB
  obtain ⟨-, -, -, hT, -, -, -⟩ := hX.2.2.2.2.2.2.2.1
  exact va_ti hX.1 hX.2.1 hT hS hi rfl hd (h H locs ls hH hS hL hB)
theorem r_tlen (hX : im_Ok X k Y d) (hd : decode Y.2.1 pc = .ok (.arraylength, 1)) (h : im_E X k Q (pc + 1) L (.int 10 :: st) S I) : im_E X k Q pc L (.ref 1 :: st) S I := by
  intro H locs ls hH hS hL hB
  obtain ⟨-, -, -, hT, -, -, -⟩ := hX.2.2.2.2.2.2.2.1
  exact va_tlen hX.1 hX.2.1 hT hS rfl hd (h H locs ls hH hS hL hB)
theorem r_gets (hX : im_Ok X k Y d) {ix : Nat} {host : String} (hd : decode Y.2.1 pc = .ok (.getstatic ix, 3)) (hw : Cond.fieldLinkNest Y.1.cls ix "SpillslotWorks" "LATENCY_KIND_OF" "[I" host ∈ im_nest) (h : im_E X k Q (pc + 3) L (.ref 1 :: st) S I) : im_E X k Q pc L st S I := by
  intro H locs ls hH hS hL hB
  obtain ⟨-, -, hZ, -, hN, -, -⟩ := hX.2.2.2.2.2.2.2.1
  exact va_getsN hX.1 hX.2.1 hZ hS hX.2.2.2.2.1 (va_Nw.use (im_nest_tab hw) (hN.1 _ hw)) (fun _ h => h) hd (h H locs ls hH hS hL hB)
-- what is made
def im_okty (t : FieldType) : Bool := match t with | .int => true | .boolean => true | .object _ => true | .array _ => true | _ => false
theorem im_oktys : ∀ t, t < 13 → ∀ j, j < im_N t → im_okty (im_ty t j) = true := im_cases (by decide) (by decide) (by decide) (by decide) (by decide) (by decide) (by decide) (by decide) (by decide) (by decide) (by decide) (by decide) (by decide)
theorem im_new_e {k : im_K} {S : im_S} {I : im_I} {t n b : Nat} (hb : b < im_n S + 2) : im_e k (im_newS S t n, im_newI S I) b = im_e k (S, I) b := by
  refine im_e_congr ?_ (fun j => ?_) (fun j => ?_)
  · rw [im_k_new, if_neg (by omega)]
  · rw [im_r_new, if_neg (by omega)]
  · show (if b = im_n S + 2 then 0 else I b j) = I b j
    rw [if_neg (by omega)]
theorem im_new_B {X : im_X} {S : im_S} {t n : Nat} (hB : im_B X S) (hr : im_n S + 1 - xn X ≤ (xR X).cells ∧ im_z S + n - xz X ≤ (xR X).slots) : im_B X (im_newS S t n) := ⟨Nat.le_succ_of_le hB.1, Nat.le_trans hB.2.1 (Nat.le_add_right _ _), hr.1, hr.2⟩
theorem r_new (hX : im_Ok X k Y d) {ix t : Nat} (hd : decode Y.2.1 pc = .ok (.new ix, 3)) (hw : t < 13 ∧ Cond.classLink Y.1.cls ix (im_C t) ∈ im_W ∧ Cond.instantiable (im_C t) (im_N t) ∈ im_W ∧ Cond.initialized (im_C t) ∈ im_W) (hr : im_n S + 1 - xn X ≤ (xR X).cells ∧ im_z S + im_N t - xz X ≤ (xR X).slots)
    (h : im_E X k Q (pc + 3) L (.ref (im_n S + 2) :: st) (im_newS S t (im_N t)) (im_newI S I)) : im_E X k Q pc L st S I := by
  intro H locs ls hH hS hL hB
  obtain ⟨hx, hb, -, -, hown, hts, -, hSt, -, -, -⟩ := hX
  obtain ⟨ht, w1, w2, w3⟩ := hw
  have hKn := hSt.1.1 t _ (im_cl t ht)
  have h1 := hB.1
  have h2 := hB.2.1
  refine W.newcK hx hb hown (hts _ w1) (hts _ w2) (hts _ w3) rfl hd (by omega) (by omega) hKn.2.1 rfl fun H1 kC hkC e1 z1 o1 => ?_
  have hk : ∀ (j : Nat) (x : Nat × va_E), (im_w k (S, I))[j]? = some x → H1[x.1]? = H[x.1]? := fun j x hx => o1 x.1 ((hH.2 j x hx).lt)
  have e3 : im_n S - xn X + 1 = im_n (im_newS S t (im_N t)) - xn X := by rw [im_n_new]; omega
  have e4 : im_z S - xz X + im_N t = im_z (im_newS S t (im_N t)) - xz X := by rw [im_z_new]; omega
  rw [e3, e4]
  have hv : im_v k (.ref (im_n S + 2)) = .ref H.size := by rw [hH.1]; rfl
  have hz1 : H1.size = kB k + im_n (im_newS S t (im_N t)) := by rw [z1, hH.1]; show kB k + im_n S + 1 = kB k + (im_n S + 1); omega
  have h0 := h H1 locs ls ⟨hz1, ?_⟩ ⟨Nat.le_trans hS.1 (by omega), fun x g1 g2 => (o1 x (Nat.lt_of_lt_of_le g1 hS.1)).trans (hS.2.1 x g1 g2), hS.2.2⟩ hL (im_new_B hB hr)
  · rw [List.map_cons, hv] at h0
    exact h0
  · rw [← im_w_push (k := k) (M := (S, I)) (M' := (im_newS S t (im_N t), im_newI S I)) rfl (fun b hb => im_new_e hb)]
    refine (hH.2.kept hk).app fun j x hx => ?_
    have hz : j < 1 := (List.getElem?_eq_some_iff.mp hx).1
    rw [show j = 0 by omega] at hx
    cases hx
    rw [im_e_obj (M := (im_newS S t (im_N t), im_newI S I)) ht (by rw [im_k_new, if_pos rfl])]
    refine ⟨_, im_cl t ht, ?_⟩
    show t_OB (kB k + im_n S) _ _ _ _ _
    rw [← hH.1]
    refine (u_born (im_ty t) hts (im_in_u t ht) hKn hkC e1 (im_tyok t ht)).to fun j hj => ?_
    show defaultValue (im_ty t j) = vp_V ((List.range (im_N t)).map _) j
    unfold vp_V
    have h5 := im_oktys t ht j hj
    have e6 : ((List.range (im_N t)).map (im_f k (im_newS S t (im_N t), im_newI S I) (im_n S + 2) t))[j]? = some (im_f k (im_newS S t (im_N t), im_newI S I) (im_n S + 2) t j) := by rw [List.getElem?_map, List.getElem?_range hj]; rfl
    rw [List.getD_eq_getElem?_getD, e6]
    show _ = im_f k _ _ t j
    unfold im_f im_isI
    have e7 : im_newI S I (im_n S + 2) j = 0 := by simp [im_newI]
    have e8 : im_r (im_newS S t (im_N t)) (im_n S + 2) j = 0 := by rw [im_r_new, if_pos rfl]
    unfold im_okty at h5
    simp only [e7, e8]
    split at h5 <;> rename_i e9 <;> simp_all [defaultValue, im_rv]
theorem r_newa (hX : im_Ok X k Y d) {n : Int32} {N : Nat} (hd : decode Y.2.1 pc = .ok (.newarray .int, 2)) (hw : Cond.arrayClass .int ∈ im_W) (hn : ¬ n < 0) (hN : n.toNatClampNeg = N) (hb4 : N * 4 ≤ 536870912) (hr : im_n S + 1 - xn X ≤ (xR X).cells ∧ im_z S + N - xz X ≤ (xR X).slots)
    (h : im_E X k Q (pc + 2) L (.ref (im_n S + 2) :: st) (im_newS S 20 N) (im_newI S I)) : im_E X k Q pc L (.int n :: st) S I := by
  intro H locs ls hH hS hL hB
  obtain ⟨hx, hb, -, -, hown, hts, -, hSt, -, -, -⟩ := hX
  have h1 := hB.1
  have h2 := hB.2.1
  refine va_newaK (atype := .int) hx hb (hts _ hw) rfl hd rfl hn hN hb4 (by omega) (by omega) rfl fun H1 cA e1 z1 o1 hAr hNm => ?_
  have hk : ∀ (j : Nat) (x : Nat × va_E), (im_w k (S, I))[j]? = some x → H1[x.1]? = H[x.1]? := fun j x hx => o1 x.1 ((hH.2 j x hx).lt)
  have hcA : cA = kcI k := Option.some.inj (hNm.symm.trans (hSt.1.2 0 _ rfl).2)
  subst hcA
  have e3 : im_n S - xn X + 1 = im_n (im_newS S 20 N) - xn X := by rw [im_n_new]; omega
  have e4 : im_z S - xz X + N = im_z (im_newS S 20 N) - xz X := by rw [im_z_new]; omega
  rw [e3, e4]
  have hv : im_v k (.ref (im_n S + 2)) = .ref H.size := by rw [hH.1]; rfl
  have hz1 : H1.size = kB k + im_n (im_newS S 20 N) := by rw [z1, hH.1]; show kB k + im_n S + 1 = kB k + (im_n S + 1); omega
  have h0 := h H1 locs ls ⟨hz1, ?_⟩ ⟨Nat.le_trans hS.1 (by omega), fun x g1 g2 => (o1 x (Nat.lt_of_lt_of_le g1 hS.1)).trans (hS.2.1 x g1 g2), hS.2.2⟩ hL (im_new_B hB hr)
  · rw [List.map_cons, hv] at h0
    exact h0
  · rw [← im_w_push (k := k) (M := (S, I)) (M' := (im_newS S 20 N, im_newI S I)) rfl (fun b hb => im_new_e hb)]
    refine (hH.2.kept hk).app fun j x hx => ?_
    have hz : j < 1 := (List.getElem?_eq_some_iff.mp hx).1
    rw [show j = 0 by omega] at hx
    cases hx
    rw [im_e_int (M := (im_newS S 20 N, im_newI S I)) (by rw [im_k_new, if_pos rfl])]
    show H1[kB k + im_n S]? = some (vp_cell _ _)
    rw [← hH.1, e1, vp_cell_i]
    congr 2
    funext z
    show defaultValue .int = Value.int (im_newI S I (im_n S + 2) z)
    have e7 : im_newI S I (im_n S + 2) z = 0 := by simp [im_newI]
    rw [e7]
    rfl
theorem r_anew (hX : im_Ok X k Y d) {ix : Nat} {n : Int32} {N : Nat} (hd : decode Y.2.1 pc = .ok (.anewarray ix, 3)) (hw : Cond.classLink Y.1.cls ix "[I" ∈ im_W) (hn : ¬ n < 0) (hN : n.toNatClampNeg = N) (hb4 : N * 4 ≤ 536870912) (hr : im_n S + 1 - xn X ≤ (xR X).cells ∧ im_z S + N - xz X ≤ (xR X).slots)
    (h : im_E X k Q (pc + 3) L (.ref (im_n S + 2) :: st) (im_newS S 21 N) (im_newI S I)) : im_E X k Q pc L (.int n :: st) S I := by
  subst hN
  intro H locs ls hH hS hL hB
  obtain ⟨hx, hb, -, -, hown, hts, -, hSt, -, -, -⟩ := hX
  have h1 := hB.1
  have h2 := hB.2.1
  refine W.anewA (t := .int) hx hb hown (hts _ hw) (over_moved (Vm.Alike.refl _) hSt.2.2.2.2.1.2) rfl hd rfl hn hb4 (by omega) (by omega) fun cA kA comp g1 g2 g3 g4 => ?_
  have hcA : cA = kcJ k := Option.some.inj (g1.symm.trans (hSt.1.2 1 _ rfl).2)
  subst hcA
  have e3 : im_n S - xn X + 1 = im_n (im_newS S 21 n.toNatClampNeg) - xn X := by rw [im_n_new]; omega
  have e4 : im_z S - xz X + n.toNatClampNeg = im_z (im_newS S 21 n.toNatClampNeg) - xz X := by rw [im_z_new]; omega
  rw [e3, e4]
  have o1 : ∀ q : Nat, q < H.size → (H.push ({ cls := kcJ k, slots := Array.replicate n.toNatClampNeg .null, vm := .none } : Cell))[q]? = H[q]? := fun q hq => Array.getElem?_push_lt hq ▸ (Array.getElem?_eq_getElem hq).symm
  have hk : ∀ (j : Nat) (x : Nat × va_E), (im_w k (S, I))[j]? = some x → (H.push ({ cls := kcJ k, slots := Array.replicate n.toNatClampNeg .null, vm := .none } : Cell))[x.1]? = H[x.1]? := fun j x hx => o1 x.1 ((hH.2 j x hx).lt)
  have hv : im_v k (.ref (im_n S + 2)) = .ref H.size := by rw [hH.1]; rfl
  have hz1 : (H.push ({ cls := kcJ k, slots := Array.replicate n.toNatClampNeg .null, vm := .none } : Cell)).size = kB k + im_n (im_newS S 21 n.toNatClampNeg) := by rw [Array.size_push, hH.1]; show kB k + im_n S + 1 = kB k + (im_n S + 1); omega
  have h0 := h _ locs ls ⟨hz1, ?_⟩ ⟨Nat.le_trans hS.1 (by simp), fun x g1 g2 => (o1 x (Nat.lt_of_lt_of_le g1 hS.1)).trans (hS.2.1 x g1 g2), hS.2.2⟩ hL (im_new_B hB hr)
  · rw [List.map_cons, hv] at h0
    exact h0
  · rw [← im_w_push (k := k) (M := (S, I)) (M' := (im_newS S 21 n.toNatClampNeg, im_newI S I)) rfl (fun b hb => im_new_e hb)]
    refine (hH.2.kept hk).app fun j x hx => ?_
    have hz : j < 1 := (List.getElem?_eq_some_iff.mp hx).1
    rw [show j = 0 by omega] at hx
    cases hx
    rw [im_e_row (M := (im_newS S 21 n.toNatClampNeg, im_newI S I)) (by rw [im_k_new, if_pos rfl])]
    show (H.push _)[kB k + im_n S]? = some (vp_cell _ _)
    rw [← hH.1, Array.getElem?_push_size, vp_cell_q]
    congr 1
    have e7 : (fun j => va_rf (im_ro k (im_r (im_newS S 21 n.toNatClampNeg) (im_n S + 2) j))) = fun _ => Value.null := by
      funext j
      rw [im_r_new, if_pos rfl]
      rfl
    show _ = arrV (kcJ k) n.toNatClampNeg (fun j => va_rf (im_ro k (im_r (im_newS S 21 n.toNatClampNeg) (im_n S + 2) j)))
    rw [e7]
    exact arrV_new _ _ _
end R1
end
section
/-! CALLS AND ENDS -/
section R2
variable {X : im_X} {k : im_K} {Y : im_Y} {d : Nat} {Q : State → Prop} {pc : Nat} {L : List (Option Value)} {st : List Value} {S : im_S} {I : im_I}
theorem im_catsum (l : List Value) : (l.map fun v => v.category).sum ≤ 2 * l.length := by
  induction l with
  | nil => simp
  | cons a t ih =>
    have : a.category ≤ 2 := by rcases lv_cat a with h | h <;> omega
    simp only [List.map_cons, List.sum_cons, List.length_cons]
    omega
theorem im_blind {k : im_K} {as : List Value} {M : im_M} : FrameBlind (im_Pc k as M) := fun _ _ _ _ h => ⟨h.1, h.2.1, h.2.2.blind⟩
/-- behind a call -/
theorem im_call {H : Heap} {locs : List Loc} {ls : Array Slot} {rest : List Value} {v : Option Value} {S' : im_S} {I' : im_I} {a : Array Value} {st0 : List Value} (hm : im_n S ≤ im_n S' ∧ im_z S ≤ im_z S') (hS : va_S (fun q => kB k ≤ q) (xs X).heap H locs) (hL : im_L k L ls) (hB : im_B X S) (hroom : S' = S ∨ im_n S' - xn X ≤ (xR X).cells ∧ im_z S' - xz X ≤ (xR X).slots)
    (hr : va_Run (xp X) (xl X) (xe X) (xR X) (xs X) (xm X) (xa X) (xb X) (xh X) (xc X) H locs (im_n S - xn X) (im_z S - xz X) (im_n S' - im_n S) (im_z S' - im_z S) (F0 (xm X) pc ls st0) (rest.map (im_v k)) (im_Qc k v (S', I') a) (fun q => kB k ≤ q))
    (h : im_E X k Q (pc + 3) L (v.toList ++ rest) S' I') : W (xp X) (xl X) (xe X) (xR X) (xs X) (xm X) (xa X) (xb X) (xh X) (xc X) H locs (im_n S - xn X) (im_z S - xz X) Q (F0 (xm X) pc ls st0) := by
  intro T hT X1
  obtain ⟨v1, st₀, t, T', Lc, h0, X', hLc, e1, e2, ⟨hv, hH', hF⟩, stp⟩ := hr T hT X1
  have hv1 : v1 = v.map (im_v k) := Outcome.returned.inj hv
  subst hv1
  obtain ⟨f1, f2⟩ := hF
  rw [h0] at f1 f2
  obtain ⟨b1, b2, b3, b4⟩ := hB
  obtain ⟨m1, m2⟩ := hm
  have hB' : im_B X S' := by
    rcases hroom with rfl | ⟨r1, r2⟩
    · exact ⟨b1, b2, b3, b4⟩
    · exact ⟨Nat.le_trans b1 m1, Nat.le_trans b2 m2, r1, r2⟩
  have hS' : va_S (fun q => kB k ≤ q) (xs X).heap T'.heap (locs ++ Lc) := by
    refine ⟨Nat.le_trans hS.1 (by rw [e1]; exact f1), fun q g1 g2 => ?_, fun q hq => ?_⟩
    · rw [e1, f2 q (Nat.lt_of_lt_of_le g1 hS.1) g2]
      exact hS.2.1 q g1 g2
    · rcases List.mem_append.mp hq with g | g
      · exact hS.2.2 q g
      · exact hLc q g
  have c1 : im_n S - xn X + (im_n S' - im_n S) = im_n S' - xn X := by omega
  have c2 : im_z S - xz X + (im_z S' - im_z S) = im_z S' - xz X := by omega
  rw [c1, c2] at X'
  obtain ⟨t2, a1, a2⟩ := h T'.heap (locs ++ Lc) ls (by rw [e1]; exact hH') hS' hL hB' T' rfl X'
  refine ⟨t2, stp t2 ?_, a2⟩
  have e9 : (v.map (im_v k)).toList ++ rest.map (im_v k) = (v.toList ++ rest).map (im_v k) := by cases v <;> rfl
  show Steps _ _ _ (T'.setTop (F0 (xm X) (pc + 3) ls ((v.map (im_v k)).toList ++ rest.map (im_v k)))) t2
  rw [e9]
  exact a1
/-- what is known of a method that is called -/
def im_mC (Z : im_Y) (n : Nat) : Prop := Cond.initialized Z.1.cls ∈ im_W ∧ Cond.code Z.1 Z.2.1 Z.2.2.1 Z.2.2.2 ∈ im_W ∧ Z.2.2.1 ≤ 20 ∧ (Z.1.cls ≠ "java/lang/invoke/MethodHandle" ∧ Z.1.cls ≠ "java/lang/invoke/VarHandle") ∧ (parseMethodDescriptor Z.1.desc).map (fun d => d.parameters.length) = some n
def im_mV (Z : im_Y) (n : Nat) : Prop := im_mC Z n ∧ Cond.instanceMethod Z.1 ∈ im_W ∧ Cond.selects Z.1.cls Z.1 Z.1 ∈ im_W
def im_mS (Z : im_Y) (n : Nat) : Prop := im_mC Z n ∧ Cond.static Z.1 ∈ im_W
def im_mI (Z : im_Y) (n : Nat) : Prop := im_mC Z n ∧ Cond.instanceMethod Z.1 ∈ im_W ∧ Z.1.name = "<init>" ∧ Z.2.2.2 = none
theorem im_goodC {Z : im_Y} {n : Nat} (h : im_mC Z n) : GoodIn im_W (.code Z.1 Z.2.1 Z.2.2.1 Z.2.2.2 :: im_W) := fun w hw => by
  rcases List.mem_cons.mp hw with e | e
  · rw [e]; exact im_good _ h.2.1
  · exact im_good _ e
theorem im_len {Z : im_Y} {n m : Nat} (h : im_mC Z n) (hm : m = n) : ∀ sig, parseMethodDescriptor Z.1.desc = some sig → m = sig.parameters.length := fun sig hs => by
  have h2 := h.2.2.2.2
  rw [hs] at h2
  rw [hm]
  exact (Option.some.inj h2).symm
theorem r_callV (hX : im_Ok X k Y d) {ix a t n d' : Nat} {as rest : List Value} {Z : im_Y} {v : Option Value} {S' : im_S} {I' : im_I} (hd : decode Y.2.1 pc = .ok (.invokevirtual ix, 3)) (hw : Cond.methodLink Y.1.cls ix Z.1 ∈ im_W) (hz : im_mV Z n) (ht : t < 13 ∧ Z.1.cls = im_C t) (hk : im_k S a = (t, im_N t))
    (hr : im_Runs (xl X) k d' Z (.ref a :: as) (S, I) v (S', I')) (hs : st = as.reverse ++ (.ref a :: rest)) (hn : as.length = n) (hq : rest.length ≤ 4) (hdd : d' < d) (hl : L.length = Y.2.2.1) (hroom : S' = S ∨ im_n S' - xn X ≤ (xR X).cells ∧ im_z S' - xz X ≤ (xR X).slots)
    (h : im_E X k Q (pc + 3) L (v.toList ++ rest) S' I') : im_E X k Q pc L st S I := by
  subst hs
  intro H locs ls hH hS hL hB
  obtain ⟨hx, hb, hml, hret, hown, hts, hlk, hSt, hnm, hfr, hlo⟩ := id hX
  obtain ⟨i, rfl, hi⟩ := im_k_lt hk (by omega)
  have hB2 := hB
  obtain ⟨b1, b2, b3, b4⟩ := hB2
  obtain ⟨m1, m2⟩ := hr.1
  have hrr : im_n S - xn X + (im_n S' - im_n S) ≤ (xR X).cells ∧ im_z S - xz X + (im_z S' - im_z S) ≤ (xR X).slots := by
    rcases hroom with rfl | ⟨r1, r2⟩
    · constructor <;> omega
    · constructor <;> (dsimp only at m1 m2; omega)
  have hl20 := hz.1.2.2.1
  have he := im_w_at (k := k) (M := (S, I)) hi
  rw [im_e_obj ht.1 hk] at he
  refine im_call (rest := rest) (v := v) (a := (Value.ref (kB k + i) :: as.map (im_v k)).toArray) hr.1 hS hL hB hroom (va_runV (C := Z.1.cls) (ret := Z.2.2.2) (maxL := Z.2.2.1) (bytes := Z.2.1) (As := as.map (im_v k)) (n := n) (nL := Y.2.2.1) (b := kB k + i) (index := ix) ⟨hx, hb, hml, hown, hts⟩ hr.2
    ⟨⟨rfl, rfl, by show d' + 1 ≤ _; omega, by show 8 + (Z.2.2.1 + 11) + 40 * d' ≤ _; omega, pay_in hts (im_goodC hz.1), List.mem_cons_self, hts _ hz.1.2.1, hts _ hz.1.1, hz.1.2.2.2.1, im_len hz.1 rfl, hts _ hw⟩, hts _ hz.2.1, hts _ hz.2.2⟩
    ⟨im_blind, ?_, fun U hU hW => ⟨by simp [im_v, im_rho], by rw [hU]; exact hH, hSt.warm hS hU hW⟩⟩ rfl (by simpa using hn) (by rw [hL.1, hl]) ?_ ?_ hd hrr) h
  · obtain ⟨cell, g1, g2, g3⟩ := va_recv hSt.1 hH.2 (im_cl t ht.1) he
    exact ⟨cell, g1, g2, by rw [ht.2]; exact g3⟩
  · simp [im_v, im_rho]
  · have := im_catsum (rest.map (im_v k))
    rw [List.length_map] at this
    show 2 * 0 + _ ≤ 8
    omega
theorem r_callS (hX : im_Ok X k Y d) {ix n d' : Nat} {as rest : List Value} {Z : im_Y} {v : Option Value} {S' : im_S} {I' : im_I} (hd : decode Y.2.1 pc = .ok (.invokestatic ix, 3)) (hw : Cond.methodLink Y.1.cls ix Z.1 ∈ im_W) (hz : im_mS Z n)
    (hr : im_Runs (xl X) k d' Z (as) (S, I) v (S', I')) (hs : st = as.reverse ++ rest) (hn : as.length = n) (hq : rest.length ≤ 4) (hdd : d' < d) (hl : L.length = Y.2.2.1) (hroom : S' = S ∨ im_n S' - xn X ≤ (xR X).cells ∧ im_z S' - xz X ≤ (xR X).slots)
    (h : im_E X k Q (pc + 3) L (v.toList ++ rest) S' I') : im_E X k Q pc L st S I := by
  subst hs
  intro H locs ls hH hS hL hB
  obtain ⟨hx, hb, hml, hret, hown, hts, hlk, hSt, hnm, hfr, hlo⟩ := id hX
  have hB2 := hB
  obtain ⟨b1, b2, b3, b4⟩ := hB2
  obtain ⟨m1, m2⟩ := hr.1
  have hrr : im_n S - xn X + (im_n S' - im_n S) ≤ (xR X).cells ∧ im_z S - xz X + (im_z S' - im_z S) ≤ (xR X).slots := by
    rcases hroom with rfl | ⟨r1, r2⟩
    · constructor <;> omega
    · constructor <;> (dsimp only at m1 m2; omega)
  have hl20 := hz.1.2.2.1
  refine im_call (rest := rest) (v := v) (a := (as.map (im_v k)).toArray) hr.1 hS hL hB hroom (va_runS (ret := Z.2.2.2) (maxL := Z.2.2.1) (bytes := Z.2.1) (As := as.map (im_v k)) (n := n) (nL := Y.2.2.1) (index := ix) ⟨hx, hb, hml, hown, hts⟩ hr.2
    ⟨⟨rfl, rfl, by show d' + 1 ≤ _; omega, by show 8 + (Z.2.2.1 + 11) + 40 * d' ≤ _; omega, pay_in hts (im_goodC hz.1), List.mem_cons_self, hts _ hz.1.2.1, hts _ hz.1.1, hz.1.2.2.2.1, im_len hz.1 rfl, hts _ hw⟩, hts _ hz.2⟩
    ⟨im_blind, fun U hU hW => ⟨rfl, by rw [hU]; exact hH, hSt.warm hS hU hW⟩⟩ rfl (by simpa using hn) (by rw [hL.1, hl]) ?_ ?_ hd hrr) h
  · simp
  · have := im_catsum (rest.map (im_v k))
    rw [List.length_map] at this
    show 2 * 0 + _ ≤ 8
    omega
theorem r_callVN (hX : im_Ok X k Y d) {ix a t n d' : Nat} {as rest : List Value} {Z : im_Y} {v : Option Value} {S' : im_S} {I' : im_I} {host : String} (hd : decode Y.2.1 pc = .ok (.invokevirtual ix, 3)) (hw : Cond.methodLinkNest Y.1.cls ix Z.1 host ∈ im_nest) (hz : im_mV Z n) (ht : t < 13 ∧ Z.1.cls = im_C t) (hk : im_k S a = (t, im_N t))
    (hr : im_Runs (xl X) k d' Z (.ref a :: as) (S, I) v (S', I')) (hs : st = as.reverse ++ (.ref a :: rest)) (hn : as.length = n) (hq : rest.length ≤ 4) (hdd : d' < d) (hl : L.length = Y.2.2.1) (hroom : S' = S ∨ im_n S' - xn X ≤ (xR X).cells ∧ im_z S' - xz X ≤ (xR X).slots)
    (h : im_E X k Q (pc + 3) L (v.toList ++ rest) S' I') : im_E X k Q pc L st S I := by
  subst hs
  intro H locs ls hH hS hL hB
  obtain ⟨hx, hb, hml, hret, hown, hts, hlk, hSt, hnm, hfr, hlo⟩ := id hX
  obtain ⟨i, rfl, hi⟩ := im_k_lt hk (by omega)
  have hB2 := hB
  obtain ⟨b1, b2, b3, b4⟩ := hB2
  obtain ⟨m1, m2⟩ := hr.1
  have hrr : im_n S - xn X + (im_n S' - im_n S) ≤ (xR X).cells ∧ im_z S - xz X + (im_z S' - im_z S) ≤ (xR X).slots := by
    rcases hroom with rfl | ⟨r1, r2⟩
    · constructor <;> omega
    · constructor <;> (dsimp only at m1 m2; omega)
  have hl20 := hz.1.2.2.1
  have he := im_w_at (k := k) (M := (S, I)) hi
  rw [im_e_obj ht.1 hk] at he
  refine im_call (rest := rest) (v := v) (a := (Value.ref (kB k + i) :: as.map (im_v k)).toArray) hr.1 hS hL hB hroom (va_runVN (C := Z.1.cls) (ret := Z.2.2.2) (maxL := Z.2.2.1) (bytes := Z.2.1) (As := as.map (im_v k)) (n := n) (nL := Y.2.2.1) (b := kB k + i) (index := ix) ⟨hx, hb, hml, hown, hts⟩ hr.2
    ⟨⟨⟨rfl, rfl, by show d' + 1 ≤ _; omega, by show 8 + (Z.2.2.1 + 11) + 40 * d' ≤ _; omega, pay_in hts (im_goodC hz.1), List.mem_cons_self⟩, hts _ hz.1.2.1, hts _ hz.1.1, hz.1.2.2.2.1, im_len hz.1 rfl, va_Nw.use (im_nest_tab hw) (hSt.2.2.2.2.1.1 _ hw)⟩, hts _ hz.2.1, hts _ hz.2.2⟩
    ⟨im_blind, ?_, fun U hU hW => ⟨by simp [im_v, im_rho], by rw [hU]; exact hH, hSt.warm hS hU hW⟩⟩ rfl (by simpa using hn) (by rw [hL.1, hl]) ?_ ?_ hd hrr) h
  · obtain ⟨cell, g1, g2, g3⟩ := va_recv hSt.1 hH.2 (im_cl t ht.1) he
    exact ⟨cell, g1, g2, by rw [ht.2]; exact g3⟩
  · simp [im_v, im_rho]
  · have := im_catsum (rest.map (im_v k))
    rw [List.length_map] at this
    show 2 * 0 + _ ≤ 8
    omega
theorem r_callSN (hX : im_Ok X k Y d) {ix n d' : Nat} {as rest : List Value} {Z : im_Y} {v : Option Value} {S' : im_S} {I' : im_I} {host : String} (hd : decode Y.2.1 pc = .ok (.invokestatic ix, 3)) (hw : Cond.methodLinkNest Y.1.cls ix Z.1 host ∈ im_nest) (hz : im_mS Z n)
    (hr : im_Runs (xl X) k d' Z (as) (S, I) v (S', I')) (hs : st = as.reverse ++ rest) (hn : as.length = n) (hq : rest.length ≤ 4) (hdd : d' < d) (hl : L.length = Y.2.2.1) (hroom : S' = S ∨ im_n S' - xn X ≤ (xR X).cells ∧ im_z S' - xz X ≤ (xR X).slots)
    (h : im_E X k Q (pc + 3) L (v.toList ++ rest) S' I') : im_E X k Q pc L st S I := by
  subst hs
  intro H locs ls hH hS hL hB
  obtain ⟨hx, hb, hml, hret, hown, hts, hlk, hSt, hnm, hfr, hlo⟩ := id hX
  have hB2 := hB
  obtain ⟨b1, b2, b3, b4⟩ := hB2
  obtain ⟨m1, m2⟩ := hr.1
  have hrr : im_n S - xn X + (im_n S' - im_n S) ≤ (xR X).cells ∧ im_z S - xz X + (im_z S' - im_z S) ≤ (xR X).slots := by
    rcases hroom with rfl | ⟨r1, r2⟩
    · constructor <;> omega
    · constructor <;> (dsimp only at m1 m2; omega)
  have hl20 := hz.1.2.2.1
  refine im_call (rest := rest) (v := v) (a := (as.map (im_v k)).toArray) hr.1 hS hL hB hroom (va_runSN (ret := Z.2.2.2) (maxL := Z.2.2.1) (bytes := Z.2.1) (As := as.map (im_v k)) (n := n) (nL := Y.2.2.1) (index := ix) ⟨hx, hb, hml, hown, hts⟩ hr.2
    ⟨⟨⟨rfl, rfl, by show d' + 1 ≤ _; omega, by show 8 + (Z.2.2.1 + 11) + 40 * d' ≤ _; omega, pay_in hts (im_goodC hz.1), List.mem_cons_self⟩, hts _ hz.1.2.1, hts _ hz.1.1, hz.1.2.2.2.1, im_len hz.1 rfl, va_Nw.use (im_nest_tab hw) (hSt.2.2.2.2.1.1 _ hw)⟩, hts _ hz.2, trivial⟩
    ⟨im_blind, fun U hU hW => ⟨rfl, by rw [hU]; exact hH, hSt.warm hS hU hW⟩⟩ rfl (by simpa using hn) (by rw [hL.1, hl]) ?_ ?_ hd hrr) h
  · simp
  · have := im_catsum (rest.map (im_v k))
    rw [List.length_map] at this
    show 2 * 0 + _ ≤ 8
    omega
theorem r_callI (hX : im_Ok X k Y d) {ix a n d' : Nat} {as rest : List Value} {Z : im_Y} {v : Option Value} {S' : im_S} {I' : im_I} (hd : decode Y.2.1 pc = .ok (.invokespecial ix, 3)) (hw : Cond.methodLink Y.1.cls ix Z.1 ∈ im_W) (hz : im_mI Z n)
    (hr : im_Runs (xl X) k d' Z (.ref a :: as) (S, I) v (S', I')) (hs : st = as.reverse ++ (.ref a :: rest)) (hn : as.length = n) (hq : rest.length ≤ 4) (hdd : d' < d) (hl : L.length = Y.2.2.1) (hroom : S' = S ∨ im_n S' - xn X ≤ (xR X).cells ∧ im_z S' - xz X ≤ (xR X).slots)
    (h : im_E X k Q (pc + 3) L (v.toList ++ rest) S' I') : im_E X k Q pc L st S I := by
  subst hs
  intro H locs ls hH hS hL hB
  obtain ⟨hx, hb, hml, hret, hown, hts, hlk, hSt, hnm, hfr, hlo⟩ := id hX
  have hB2 := hB
  obtain ⟨b1, b2, b3, b4⟩ := hB2
  obtain ⟨m1, m2⟩ := hr.1
  have hrr : im_n S - xn X + (im_n S' - im_n S) ≤ (xR X).cells ∧ im_z S - xz X + (im_z S' - im_z S) ≤ (xR X).slots := by
    rcases hroom with rfl | ⟨r1, r2⟩
    · constructor <;> omega
    · constructor <;> (dsimp only at m1 m2; omega)
  have hl20 := hz.1.2.2.1
  obtain ⟨zz, z1, z2, z3⟩ := hz
  have hr2 := hr.2
  rw [z3] at hr2
  have hcode := hts _ zz.2.1
  have hcg := im_goodC zz
  rw [z3] at hcode hcg
  have e0 : im_v k (.ref a) = .ref (im_rho k a) := rfl
  refine im_call (rest := rest) (v := v) (a := (Value.ref (im_rho k a) :: as.map (im_v k)).toArray) hr.1 hS hL hB hroom (va_runI (maxL := Z.2.2.1) (bytes := Z.2.1) (As := as.map (im_v k)) (n := n) (nL := Y.2.2.1) (b := im_rho k a) (index := ix) ⟨hx, hb, hml, hown, hts⟩ hr2
    ⟨⟨rfl, rfl, by show d' + 1 ≤ _; omega, by show 8 + (Z.2.2.1 + 11) + 40 * d' ≤ _; omega, pay_in hts hcg, List.mem_cons_self, hcode, hts _ zz.1, zz.2.2.2.1, im_len zz rfl, hts _ hw⟩, z2, hts _ z1⟩
    ⟨im_blind, fun U hU hW => ⟨rfl, by rw [hU]; exact hH, hSt.warm hS hU hW⟩⟩ rfl (by simpa using hn) (by rw [hL.1, hl]) ?_ ?_ hd hrr) h
  · simp [e0]
  · have := im_catsum (rest.map (im_v k))
    rw [List.length_map] at this
    show 2 * 0 + _ ≤ 8
    omega
theorem r_callIN (hX : im_Ok X k Y d) {ix a n d' : Nat} {as rest : List Value} {Z : im_Y} {v : Option Value} {S' : im_S} {I' : im_I} {host : String} (hd : decode Y.2.1 pc = .ok (.invokespecial ix, 3)) (hw : Cond.methodLinkNest Y.1.cls ix Z.1 host ∈ im_nest) (hz : im_mI Z n)
    (hr : im_Runs (xl X) k d' Z (.ref a :: as) (S, I) v (S', I')) (hs : st = as.reverse ++ (.ref a :: rest)) (hn : as.length = n) (hq : rest.length ≤ 4) (hdd : d' < d) (hl : L.length = Y.2.2.1) (hroom : S' = S ∨ im_n S' - xn X ≤ (xR X).cells ∧ im_z S' - xz X ≤ (xR X).slots)
    (h : im_E X k Q (pc + 3) L (v.toList ++ rest) S' I') : im_E X k Q pc L st S I := by
  subst hs
  intro H locs ls hH hS hL hB
  obtain ⟨hx, hb, hml, hret, hown, hts, hlk, hSt, hnm, hfr, hlo⟩ := id hX
  have hB2 := hB
  obtain ⟨b1, b2, b3, b4⟩ := hB2
  obtain ⟨m1, m2⟩ := hr.1
  have hrr : im_n S - xn X + (im_n S' - im_n S) ≤ (xR X).cells ∧ im_z S - xz X + (im_z S' - im_z S) ≤ (xR X).slots := by
    rcases hroom with rfl | ⟨r1, r2⟩
    · constructor <;> omega
    · constructor <;> (dsimp only at m1 m2; omega)
  have hl20 := hz.1.2.2.1
  obtain ⟨zz, z1, z2, z3⟩ := hz
  have hr2 := hr.2
  rw [z3] at hr2
  have hcode := hts _ zz.2.1
  have hcg := im_goodC zz
  rw [z3] at hcode hcg
  have e0 : im_v k (.ref a) = .ref (im_rho k a) := rfl
  refine im_call (rest := rest) (v := v) (a := (Value.ref (im_rho k a) :: as.map (im_v k)).toArray) hr.1 hS hL hB hroom (va_runIN (maxL := Z.2.2.1) (bytes := Z.2.1) (As := as.map (im_v k)) (n := n) (nL := Y.2.2.1) (b := im_rho k a) (index := ix) ⟨hx, hb, hml, hown, hts⟩ hr2
    ⟨⟨⟨rfl, rfl, by show d' + 1 ≤ _; omega, by show 8 + (Z.2.2.1 + 11) + 40 * d' ≤ _; omega, pay_in hts hcg, List.mem_cons_self⟩, hcode, hts _ zz.1, zz.2.2.2.1, im_len zz rfl, va_Nw.use (im_nest_tab hw) (hSt.2.2.2.2.1.1 _ hw)⟩, z2, hts _ z1⟩
    ⟨im_blind, fun U hU hW => ⟨rfl, by rw [hU]; exact hH, hSt.warm hS hU hW⟩⟩ rfl (by simpa using hn) (by rw [hL.1, hl]) ?_ ?_ hd hrr) h
  · simp [e0]
  · have := im_catsum (rest.map (im_v k))
    rw [List.length_map] at this
    show 2 * 0 + _ ≤ 8
    omega
theorem r_objInit (hX : im_Ok X k Y d) {ix a : Nat} {rest : List Value} (hd : decode Y.2.1 pc = .ok (.invokespecial ix, 3)) (hw : Cond.methodLink Y.1.cls ix Lib.objectInit ∈ im_W) (hw2 : Cond.instanceMethod Lib.objectInit ∈ im_W ∧ Cond.code Lib.objectInit ⟨#[0xb1]⟩ 1 none ∈ im_W) (hq : rest.length ≤ 4) (hdd : 0 < d) (hl : L.length = Y.2.2.1) (h : im_E X k Q (pc + 3) L rest S I) : im_E X k Q pc L (.ref a :: rest) S I := by
  intro H locs ls hH hS hL hB
  obtain ⟨hx, hb, hml, hret, hown, hts, hlk, hSt, hnm, hfr, hlo⟩ := id hX
  refine W.objInit hx hb hown (hts _ hw) (hts _ hw2.1) (hts _ hw2.2) rfl (by rw [hml]; exact hL.1.trans hl) (a := im_rho k a) (rest := rest.map (im_v k)) rfl hd (by omega) ?_ (h H locs ls hH hS hL hB)
  have := im_catsum (rest.map (im_v k))
  rw [List.length_map] at this
  show 2 * 0 + _ + 12 ≤ _
  omega
theorem r_mmax (hX : im_Ok X k Y d) {ix : Nat} {x y : Int32} {rest : List Value} (hd : decode Y.2.1 pc = .ok (.invokestatic ix, 3)) (hw : Cond.methodLink Y.1.cls ix Lib.Math.max.name ∈ im_W) (hw2 : Cond.static Lib.Math.max.name ∈ im_W ∧ Cond.initialized "java/lang/Math" ∈ im_W ∧ Cond.code Lib.Math.max.name Lib.Math.max.code 2 (some .int) ∈ im_W) (hq : rest.length ≤ 4) (hdd : 0 < d) (hl : L.length = Y.2.2.1) (h : im_E X k Q (pc + 3) L (.int (if x < y then y else x) :: rest) S I) : im_E X k Q pc L (.int y :: .int x :: rest) S I := by
  intro H locs ls hH hS hL hB
  obtain ⟨hx, hb, hml, hret, hown, hts, hlk, hSt, hnm, hfr, hlo⟩ := id hX
  refine va_mmax hx hb (by rw [hml]; exact (hL.1.trans hl).symm) hown (hts _ hw) (hts _ hw2.1) (hts _ hw2.2.1) (hts _ hw2.2.2) (by omega) ?_ hB.2.2.1 hB.2.2.2 hd (h H locs ls hH hS hL hB)
  have := im_catsum (rest.map (im_v k))
  rw [List.length_map] at this
  omega
theorem r_mmin (hX : im_Ok X k Y d) {ix : Nat} {x y : Int32} {rest : List Value} (hd : decode Y.2.1 pc = .ok (.invokestatic ix, 3)) (hw : Cond.methodLink Y.1.cls ix Lib.Math.min.name ∈ im_W) (hw2 : Cond.static Lib.Math.min.name ∈ im_W ∧ Cond.initialized "java/lang/Math" ∈ im_W ∧ Cond.code Lib.Math.min.name Lib.Math.min.code 2 (some .int) ∈ im_W) (hq : rest.length ≤ 4) (hdd : 0 < d) (hl : L.length = Y.2.2.1) (h : im_E X k Q (pc + 3) L (.int (if y < x then y else x) :: rest) S I) : im_E X k Q pc L (.int y :: .int x :: rest) S I := by
  intro H locs ls hH hS hL hB
  obtain ⟨hx, hb, hml, hret, hown, hts, hlk, hSt, hnm, hfr, hlo⟩ := id hX
  refine va_mmin hx hb (by rw [hml]; exact (hL.1.trans hl).symm) hown (hts _ hw) (hts _ hw2.1) (hts _ hw2.2.1) (hts _ hw2.2.2) (by omega) ?_ hB.2.2.1 hB.2.2.2 hd (h H locs ls hH hS hL hB)
  have := im_catsum (rest.map (im_v k))
  rw [List.length_map] at this
  omega
-- ends
theorem r_ireturn (hX : im_Ok X k Y d) {x : Int32} {ty : FieldType} {v : Option Value} {M : im_M} (hd : decode Y.2.1 pc = .ok (.ireturn, 1)) (hr : Y.2.2.2 = some ty) (hn : narrow ty (.int x) = .int x) (hv : some (.int x) = v) (hM : (S, I) = M) : im_E X k (im_Q X k v M) pc L [.int x] S I := by
  subst hv hM
  intro H locs ls hH hS hL hB
  exact W.zret (v := x) hX.1 hX.2.1 (hX.2.2.2.1.trans hr) hn (fun t ht hW => ⟨rfl, by rw [ht]; exact hH, hS.F ht⟩) hS.2.2 hd hX.2.2.2.2.2.2.1
theorem r_lreturn (hX : im_Ok X k Y d) {x : Int64} {v : Option Value} {M : im_M} (hd : decode Y.2.1 pc = .ok (.lreturn, 1)) (hr : Y.2.2.2 = some .long) (hv : some (.long x) = v) (hM : (S, I) = M) : im_E X k (im_Q X k v M) pc L [.long x] S I := by
  subst hv hM
  intro H locs ls hH hS hL hB
  exact W.lret (v := x) hX.1 hX.2.1 (hX.2.2.2.1.trans hr) (fun t ht hW => ⟨rfl, by rw [ht]; exact hH, hS.F ht⟩) hS.2.2 hd hX.2.2.2.2.2.2.1
theorem r_return (hX : im_Ok X k Y d) {v : Option Value} {M : im_M} (hd : decode Y.2.1 pc = .ok (.return_, 1)) (hr : Y.2.2.2 = none) (hv : none = v) (hM : (S, I) = M) : im_E X k (im_Q X k v M) pc L [] S I := by
  subst hv hM
  intro H locs ls hH hS hL hB
  exact W.vret hX.1 hX.2.1 (hX.2.2.2.1.trans hr) (fun t ht hW => ⟨rfl, by rw [ht]; exact hH, hS.F ht⟩) hS.2.2 hd hX.2.2.2.2.2.2.1
theorem r_areturn (hX : im_Ok X k Y d) {x : Nat} {rt : FieldType} {v : Option Value} {M : im_M} (hd : decode Y.2.1 pc = .ok (.areturn, 1)) (hr : Y.2.2.2 = some rt) (hrt : (∃ n, rt = .object n) ∨ ∃ t, rt = .array t) (hv : some (.ref x) = v) (hM : (S, I) = M) : im_E X k (im_Q X k v M) pc L [.ref x] S I := by
  subst hv hM
  intro H locs ls hH hS hL hB
  exact W.aret (v := .ref (im_rho k x)) hX.1 hX.2.1 (hX.2.2.2.1.trans hr) hrt (Or.inr ⟨_, rfl⟩) (fun t ht hW => ⟨rfl, by rw [ht]; exact hH, hS.F ht⟩) hS.2.2 hd hX.2.2.2.2.2.2.1
end R2
end
section
/-! ROWS OF ROWS OF INTS (the law's own) -/
section R3
variable {X : im_X} {k : im_K} {Y : im_Y} {d : Nat} {Q : State → Prop} {pc : Nat} {L : List (Option Value)} {st : List Value} {S : im_S} {I : im_I}
theorem im_asg (vm : Vm) (c : ClassId) : vm.assignable c c = true := by
  show vm.assignableAux (255 + 1) c c = true
  rw [Vm.assignableAux]
  simp only [beq_self_eq_true, Bool.true_or]
theorem im_nfw : nativeFrameWords "java/lang/System" "arraycopy" 5 ≤ 20 := by decide +kernel
theorem r_ldcw (hX : im_Ok X k Y d) {ix : Nat} {v : Int32} (hd : decode Y.2.1 pc = .ok (.ldc_w ix, 3)) (hw : Cond.constant Y.1.cls ix v ∈ im_W) (h : im_E X k Q (pc + 3) L (.int v :: st) S I) : im_E X k Q pc L st S I := by
  intro H locs ls hH hS hL hB T hT X1
  obtain ⟨t, a1, b1⟩ := h H locs ls hH hS hL hB T hT X1
  refine ⟨t, ?_, b1⟩
  obtain ⟨hx, hb, -, -, hown, hts, -, -, -, -, -⟩ := hX
  obtain ⟨kc, cf, bytes, hk, hcf, hcp, hbv⟩ := Cond.constant_spec hown (hts _ hw)
  obtain ⟨k', hk', he⟩ := X1.warmed.alike.2.2 _ _ hk
  jvm_step X1.here [hx, hb, hd, ldc_w.wp_int (s := T) (f := F0 (xm X) pc ls (st.map (im_v k))) X1.here.top hk' (by rw [he]; exact hcf) hcp, hbv]
  exact a1
theorem r_aald (hX : im_Ok X k Y d) {a n x : Nat} {i : Int32} (hd : decode Y.2.1 pc = .ok (.aaload, 1)) (hk : im_k S a = (21, n)) (hi : vp_in i n) (hr : im_r S a i.toNatClampNeg = x + 1) (h : im_E X k Q (pc + 1) L (.ref x :: st) S I) : im_E X k Q pc L (.int i :: .ref a :: st) S I := by
  intro H locs ls hH hS hL hB
  obtain ⟨q, rfl, hq⟩ := im_k_lt hk (by omega)
  have he := im_w_at (k := k) (M := (S, I)) hq
  rw [im_e_row hk] at he
  have hlt : i.toNatClampNeg < n := Nat.not_le.mp fun q => hi (Or.inr q)
  refine W.aald (v := im_v k (.ref x)) (ty := .array .int) hX.1 hX.2.1 (hH.2 q _ he) ((hX.2.2.2.2.2.2.2.1.1.2 1 _ rfl).1 n (fun j => va_rf (im_ro k (im_r S (q + 2) j)))) rfl (fun z => by cases z) (by show ¬ (i < 0 ∨ (arrV _ _ _).slots.size ≤ _); rw [arrV_size]; exact hi) ?_ rfl rfl hd (h H locs ls hH hS hL hB)
  show (arrV _ _ _).slots[_]? = _
  rw [arrV_read _ _ hlt]
  show some (va_rf (im_ro k (im_r S (q + 2) i.toNatClampNeg))) = _
  rw [hr]
  rfl
theorem im_comp (hX : im_Ok X k Y d) : ∃ kA : Class, (xs X).vm.classes[kcJ k]? = some kA ∧ kA.kind = .array (kcI k) (.array .int) := by
  obtain ⟨comp, cA, kA, hcomp, -, hkA, hkind, hname⟩ := arrayOverA_spec hX.2.2.2.2.2.2.2.1.2.2.2.2.1.2
  have hK := hX.2.2.2.2.2.2.2.1.1
  have e1 : comp = kcI k := Option.some.inj (hcomp.symm.trans (hK.2 0 _ rfl).2)
  have e2 : cA = kcJ k := Option.some.inj (hname.symm.trans (hK.2 1 _ rfl).2)
  subst e1 e2
  exact ⟨kA, hkA, hkind⟩
theorem im_clsI (hX : im_Ok X k Y d) : ∃ kI : Class, (xs X).vm.classes[kcI k]? = some kI := by
  obtain ⟨kI, hkI, -⟩ := Vm.findClass_spec (hX.2.2.2.2.2.2.2.1.1.2 0 _ rfl).2
  exact ⟨kI, hkI⟩
theorem r_aast (hX : im_Ok X k Y d) {a n x m : Nat} {i : Int32} (hd : decode Y.2.1 pc = .ok (.aastore, 1)) (hk : im_k S a = (21, n)) (hi : vp_in i n) (hx : im_k S x = (20, m)) (h : im_E X k Q (pc + 1) L st (im_upr S a i.toNatClampNeg (x + 1)) I) : im_E X k Q pc L (.ref x :: .int i :: .ref a :: st) S I := by
  intro H locs ls hH hS hL hB
  obtain ⟨q, rfl, hq⟩ := im_k_lt hk (by omega)
  obtain ⟨z, rfl, hz⟩ := im_k_lt hx (by omega)
  have he := im_w_at (k := k) (M := (S, I)) hq
  rw [im_e_row hk] at he
  have hv := im_w_at (k := k) (M := (S, I)) hz
  rw [im_e_int hx] at hv
  have hlt : i.toNatClampNeg < n := Nat.not_le.mp fun q => hi (Or.inr q)
  obtain ⟨kA, hkA, hkind⟩ := im_comp hX
  obtain ⟨kI, hkI⟩ := im_clsI hX
  refine W.aast (v := kB k + z) (cv := vp_cell (kcI k) (m, .inl (I (z + 2)))) (t := .array .int) (comp := kcI k) (kcomp := kI) (kv := kI) (k := kA) hX.1 hX.2.1 (hH.2 q _ he) (fun _ e => by cases e) (fun e => by cases e) hkA hkind rfl hkI ⟨fun e => hi (Or.inl e), by show _ < (arrV _ _ _).slots.size; rw [arrV_size]; exact hlt⟩ (hH.2 z _ hv) (fun _ e => by cases e) hkI (im_asg _ _) rfl rfl hd fun H1 e zz oq => ?_
  have h2 := im_w_set (k := k) (M := (S, I)) (M' := (im_upr S (q + 2) i.toNatClampNeg (z + 2 + 1), I)) (a := q) rfl (fun b hb => im_e_congr rfl (fun j => by show im_r (im_upr S (q + 2) i.toNatClampNeg (z + 2 + 1)) b j = _; rw [im_r_upr, if_neg (fun e => hb e.1)]) (fun _ => rfl))
  refine h H1 _ ls ⟨zz.trans hH.1, ?_⟩ (hS.put zz oq (Nat.le_add_right _ _)) hL hB
  rw [← h2]
  rw [im_e_row (M := (im_upr S (q + 2) i.toNatClampNeg (z + 2 + 1), I)) hk]
  refine hH.2.set (im_w_D k _) he ?_ oq
  show H1[_]? = some (vp_cell _ _)
  rw [e]
  show some ((vp_cell _ _).setSlot _ _) = _
  rw [vp_cell_q, vp_cell_q, arrV_store]
  congr 2
  funext j
  show _ = va_rf (im_ro k (im_r (im_upr S (q + 2) i.toNatClampNeg (z + 2 + 1)) (q + 2) j))
  rw [im_r_upr]
  by_cases hj : j = i.toNatClampNeg
  · subst hj
    rw [if_pos ⟨rfl, rfl⟩]
    simp [updV]
    rfl
  · rw [if_neg (fun e => hj e.2)]
    simp [updV, hj]
/-- the references of one row copied into another -/
def im_cpr (S : im_S) (a0 a sp dp n : Nat) : im_S := (S.1, S.2.1, fun b j => if b = a then va_cpy (S.2.2 a0) (S.2.2 a) sp dp n j else S.2.2 b j)
theorem r_copy (hX : im_Ok X k Y d) {ix a0 a n0 n1 : Nat} {sp dp n : Int32} {rest : List Value} (hd : decode Y.2.1 pc = .ok (.invokestatic ix, 3)) (hw : Cond.methodLink Y.1.cls ix arraycopyName ∈ im_W) (hw2 : Cond.native arraycopyName ∈ im_W ∧ Cond.static arraycopyName ∈ im_W ∧ Cond.initialized "java/lang/System" ∈ im_W)
    (hk0 : im_k S a0 = (21, n0)) (hk1 : im_k S a = (21, n1)) (h1 : ¬ sp < 0) (h2 : ¬ dp < 0) (h3 : ¬ n < 0) (h4 : sp.toNatClampNeg + n.toNatClampNeg ≤ n0) (h5 : dp.toNatClampNeg + n.toNatClampNeg ≤ n1) (hel : ∀ i : Nat, i < n.toNatClampNeg → im_r S a0 (sp.toNatClampNeg + i) = 0 ∨ ∃ x m, im_r S a0 (sp.toNatClampNeg + i) = x + 1 ∧ im_k S x = (20, m))
    (hq : rest.length ≤ 4) (hdd : 0 < d) (hl : L.length = Y.2.2.1) (h : im_E X k Q (pc + 3) L rest (im_cpr S a0 a sp.toNatClampNeg dp.toNatClampNeg n.toNatClampNeg) I) : im_E X k Q pc L (.int n :: .int dp :: .ref a :: .int sp :: .ref a0 :: rest) S I := by
  intro H locs ls hH hS hL hB T hT X1
  obtain ⟨hx, hb, hml, hret, hown, hts, hlk, hSt, hnm, hfr, hlo⟩ := id hX
  obtain ⟨q0, rfl, hq0⟩ := im_k_lt hk0 (by omega)
  obtain ⟨q1, rfl, hq1⟩ := im_k_lt hk1 (by omega)
  have nn : ∀ z : Int32, ¬ z < 0 → z.toInt = (z.toNatClampNeg : Int) := by
    intro z hz
    have hz0 : (0 : Int) ≤ z.toInt := by
      have := Int32.not_lt.mp hz
      simpa using Int32.le_iff_toInt_le.mp this
    show z.toInt = ((z.toInt.toNat : Nat) : Int)
    omega
  have he0 := im_w_at (k := k) (M := (S, I)) hq0
  rw [im_e_row hk0] at he0
  have he1 := im_w_at (k := k) (M := (S, I)) hq1
  rw [im_e_row hk1] at he1
  have hc0 := hH.2 q0 _ he0
  have hc1 := hH.2 q1 _ he1
  obtain ⟨kA, hkA, hkind⟩ := im_comp hX
  obtain ⟨kI, hkI⟩ := im_clsI hX
  have hcat := im_catsum (rest.map (im_v k))
  rw [List.length_map] at hcat
  obtain ⟨vm', X', step⟩ := X1.arraycopy hx hown (hts _ hw) (hts _ hw2.1) (hts _ hw2.2.1) (hts _ hw2.2.2) (src := kB k + q0) (dst := kB k + q1) (cs := vp_cell (kcJ k) (n0, .inr (.inr (.inr (.inr (fun j => im_ro k (im_r S (q0 + 2) j))))))) (cd := vp_cell (kcJ k) (n1, .inr (.inr (.inr (.inr (fun j => im_ro k (im_r S (q1 + 2) j))))))) (srcPos := sp) (destPos := dp) (n := n) (by rw [hT]; exact hc0) (by rw [hT]; exact hc1)
    (fun _ h => by cases h) (fun _ h => by cases h) (fun h => by cases h) (fun h => by cases h) hkA hkA hkind hkind rfl h1 h2 h3
    (by rw [nn sp h1, nn n h3]; show ¬ _ > ((arrV _ n0 (fun j => va_rf (im_ro k (im_r S (q0 + 2) j)))).slots.size : Int); rw [arrV_size]; omega)
    (by rw [nn dp h2, nn n h3]; show ¬ _ > ((arrV _ n1 (fun j => va_rf (im_ro k (im_r S (q1 + 2) j)))).slots.size : Int); rw [arrV_size]; omega)
    (fun vm₁ hal i hi => by
      have e : (vp_cell (kcJ k) (n0, .inr (.inr (.inr (.inr (fun j => im_ro k (im_r S (q0 + 2) j))))))).slots.getD (sp.toNatClampNeg + i) .null = va_rf (im_ro k (im_r S (q0 + 2) (sp.toNatClampNeg + i))) := by
        show (arrV _ n0 (fun j => va_rf (im_ro k (im_r S (q0 + 2) j)))).slots.getD _ _ = _
        rw [Array.getD_eq_getD_getElem?, arrV_read _ _ (by omega)]
        rfl
      rw [e]
      rcases hel i hi with hy | ⟨x, m, hy, hkx⟩
      · rw [hy]; exact ⟨rfl, trivial⟩
      · rw [hy]
        obtain ⟨z, rfl, hz⟩ := im_k_lt hkx (by omega)
        have hv := im_w_at (k := k) (M := (S, I)) hz
        rw [im_e_int hkx] at hv
        have hcv := hH.2 z _ hv
        obtain ⟨kI', hkI', -⟩ := hal.2.2 _ _ hkI
        refine ⟨rfl, _, (show T.heap[kB k + z]? = some (vp_cell (kcI k) (m, .inl (I (z + 2)))) by rw [hT]; exact hcv), (fun q h => by cases h), ⟨kI', hkI'⟩, ⟨kI', hkI'⟩, ?_⟩
        exact im_asg _ _)
    (g := F0 (xm X) pc ls (.int n :: .int dp :: .ref (kB k + q1) :: .int sp :: .ref (kB k + q0) :: rest.map (im_v k))) rfl (by rw [hml]; exact hL.1.trans hl) (rest := rest.map (im_v k)) rfl (by rw [hb]; exact hd) (by omega) (by have := im_nfw; show 2 * 0 + _ + (nativeFrameWords "java/lang/System" "arraycopy" 5 + 11) ≤ _; omega)
  have e1 : copied (vp_cell (kcJ k) (n0, .inr (.inr (.inr (.inr (fun j => im_ro k (im_r S (q0 + 2) j))))))) (vp_cell (kcJ k) (n1, .inr (.inr (.inr (.inr (fun j => im_ro k (im_r S (q1 + 2) j))))))) sp dp n = vp_cell (kcJ k) (n1, .inr (.inr (.inr (.inr (va_cpy (fun j => im_ro k (im_r S (q0 + 2) j)) (fun j => im_ro k (im_r S (q1 + 2) j)) sp.toNatClampNeg dp.toNatClampNeg n.toNatClampNeg))))) := by
    rw [vp_cell_q, vp_cell_q, vp_cell_q]
    exact va_copied (fun z => va_rf z) (kcJ k) (kcJ k) (fun j => im_ro k (im_r S (q0 + 2) j)) (fun j => im_ro k (im_r S (q1 + 2) j)) h4
  rw [e1] at X' step
  have ecp : va_cpy (fun j => im_ro k (im_r S (q0 + 2) j)) (fun j => im_ro k (im_r S (q1 + 2) j)) sp.toNatClampNeg dp.toNatClampNeg n.toNatClampNeg = fun j => im_ro k (im_r (im_cpr S (q0 + 2) (q1 + 2) sp.toNatClampNeg dp.toNatClampNeg n.toNatClampNeg) (q1 + 2) j) := by
    funext j
    show _ = im_ro k (if q1 + 2 = q1 + 2 then va_cpy (S.2.2 (q0 + 2)) (S.2.2 (q1 + 2)) _ _ _ j else _)
    rw [if_pos rfl]
    unfold va_cpy im_r
    split <;> rfl
  rw [ecp] at X' step
  generalize hcell : vp_cell (kcJ k) (n1, .inr (.inr (.inr (.inr (fun j => im_ro k (im_r (im_cpr S (q0 + 2) (q1 + 2) sp.toNatClampNeg dp.toNatClampNeg n.toNatClampNeg) (q1 + 2) j)))))) = cellN at X' step
  have hl2 : kB k + q1 < H.size := (Array.getElem?_eq_some_iff.mp hc1).1
  have hheap : ((T.setVm vm').setCell (kB k + q1) cellN).heap = H.setIfInBounds (kB k + q1) cellN := by rw [← hT]; rfl
  have oq : ∀ q : Nat, q ≠ kB k + q1 → (H.setIfInBounds (kB k + q1) cellN)[q]? = H[q]? := fun q hq => by simp [Array.getElem?_setIfInBounds, Ne.symm hq]
  have hw3 := im_w_set (k := k) (M := (S, I)) (M' := (im_cpr S (q0 + 2) (q1 + 2) sp.toNatClampNeg dp.toNatClampNeg n.toNatClampNeg, I)) (a := q1) rfl (fun b hb => im_e_congr rfl (fun j => by show (if b = q1 + 2 then _ else S.2.2 b j) = S.2.2 b j; rw [if_neg hb]) (fun _ => rfl))
  obtain ⟨t, a1, b1⟩ := h (H.setIfInBounds (kB k + q1) cellN) _ ls ⟨by rw [Array.size_setIfInBounds]; exact hH.1, (by
      rw [← hw3, im_e_row (M := (im_cpr S (q0 + 2) (q1 + 2) sp.toNatClampNeg dp.toNatClampNeg n.toNatClampNeg, I)) hk1]
      refine hH.2.set (im_w_D k _) he1 ?_ oq
      show (H.setIfInBounds _ _)[_]? = some (vp_cell _ _)
      rw [hcell]
      simp [Array.getElem?_setIfInBounds, hl2])⟩ ⟨by simp; exact hS.1, fun q g1 g2 => by
      rw [oq q (fun e => g2 (by rw [e]; exact Nat.le_add_right _ _))]
      exact hS.2.1 q g1 g2, fun q hq => by
      rcases List.mem_append.mp hq with h | h
      · exact hS.2.2 q h
      · obtain ⟨z, -, hz⟩ := List.mem_map.mp h
        rw [← hz]
        exact Nat.le_add_right _ _⟩ hL hB _ hheap X'
  exact ⟨t, step t a1, b1⟩
end R3
end
section
/-! THE METHODS AND THE LINKS, by their places in the tables -/
def mX11_init : im_Y := (yX11_init, cX11_init, 1, none)
theorem mX11_init_w : im_mI mX11_init 0 := ⟨⟨im_in 58 (by decide +kernel) (by decide +kernel), im_in 84 (by decide +kernel) (by decide +kernel), by decide, ⟨by decide +kernel, by decide +kernel⟩, by decide +kernel⟩, im_in 83 (by decide +kernel) (by decide +kernel), rfl, rfl⟩
def mX8_init : im_Y := (yX8_init, cX8_init, 1, none)
theorem mX8_init_w : im_mI mX8_init 0 := ⟨⟨im_in 59 (by decide +kernel) (by decide +kernel), im_in 92 (by decide +kernel) (by decide +kernel), by decide, ⟨by decide +kernel, by decide +kernel⟩, by decide +kernel⟩, im_in 91 (by decide +kernel) (by decide +kernel), rfl, rfl⟩
def mX6_init : im_Y := (yX6_init, cX6_init, 2, none)
theorem mX6_init_w : im_mI mX6_init 1 := ⟨⟨im_in 60 (by decide +kernel) (by decide +kernel), im_in 148 (by decide +kernel) (by decide +kernel), by decide, ⟨by decide +kernel, by decide +kernel⟩, by decide +kernel⟩, im_in 147 (by decide +kernel) (by decide +kernel), rfl, rfl⟩
def mX5_init : im_Y := (yX5_init, cX5_init, 1, none)
theorem mX5_init_w : im_mI mX5_init 0 := ⟨⟨im_in 61 (by decide +kernel) (by decide +kernel), im_in 165 (by decide +kernel) (by decide +kernel), by decide, ⟨by decide +kernel, by decide +kernel⟩, by decide +kernel⟩, im_in 164 (by decide +kernel) (by decide +kernel), rfl, rfl⟩
def mX7_init : im_Y := (yX7_init, cX7_init, 3, none)
theorem mX7_init_w : im_mI mX7_init 2 := ⟨⟨im_in 62 (by decide +kernel) (by decide +kernel), im_in 203 (by decide +kernel) (by decide +kernel), by decide, ⟨by decide +kernel, by decide +kernel⟩, by decide +kernel⟩, im_in 202 (by decide +kernel) (by decide +kernel), rfl, rfl⟩
def mX0_init : im_Y := (yX0_init, cX0_init, 3, none)
theorem mX0_init_w : im_mI mX0_init 2 := ⟨⟨im_in 63 (by decide +kernel) (by decide +kernel), im_in 209 (by decide +kernel) (by decide +kernel), by decide, ⟨by decide +kernel, by decide +kernel⟩, by decide +kernel⟩, im_in 208 (by decide +kernel) (by decide +kernel), rfl, rfl⟩
def mX3_init : im_Y := (yX3_init, cX3_init, 1, none)
theorem mX3_init_w : im_mI mX3_init 0 := ⟨⟨im_in 64 (by decide +kernel) (by decide +kernel), im_in 252 (by decide +kernel) (by decide +kernel), by decide, ⟨by decide +kernel, by decide +kernel⟩, by decide +kernel⟩, im_in 251 (by decide +kernel) (by decide +kernel), rfl, rfl⟩
def mX4_init : im_Y := (yX4_init, cX4_init, 2, none)
theorem mX4_init_w : im_mI mX4_init 1 := ⟨⟨im_in 65 (by decide +kernel) (by decide +kernel), im_in 286 (by decide +kernel) (by decide +kernel), by decide, ⟨by decide +kernel, by decide +kernel⟩, by decide +kernel⟩, im_in 285 (by decide +kernel) (by decide +kernel), rfl, rfl⟩
def mX10_init : im_Y := (yX10_init, cX10_init, 3, none)
theorem mX10_init_w : im_mI mX10_init 2 := ⟨⟨im_in 66 (by decide +kernel) (by decide +kernel), im_in 368 (by decide +kernel) (by decide +kernel), by decide, ⟨by decide +kernel, by decide +kernel⟩, by decide +kernel⟩, im_in 367 (by decide +kernel) (by decide +kernel), rfl, rfl⟩
def mX2_init : im_Y := (yX2_init, cX2_init, 2, none)
theorem mX2_init_w : im_mI mX2_init 1 := ⟨⟨im_in 67 (by decide +kernel) (by decide +kernel), im_in 374 (by decide +kernel) (by decide +kernel), by decide, ⟨by decide +kernel, by decide +kernel⟩, by decide +kernel⟩, im_in 373 (by decide +kernel) (by decide +kernel), rfl, rfl⟩
def mX1_init : im_Y := (yX1_init, cX1_init, 2, none)
theorem mX1_init_w : im_mI mX1_init 1 := ⟨⟨im_in 68 (by decide +kernel) (by decide +kernel), im_in 419 (by decide +kernel) (by decide +kernel), by decide, ⟨by decide +kernel, by decide +kernel⟩, by decide +kernel⟩, im_in 418 (by decide +kernel) (by decide +kernel), rfl, rfl⟩
def mX9_init : im_Y := (yX9_init, cX9_init, 3, none)
theorem mX9_init_w : im_mI mX9_init 2 := ⟨⟨im_in 69 (by decide +kernel) (by decide +kernel), im_in 449 (by decide +kernel) (by decide +kernel), by decide, ⟨by decide +kernel, by decide +kernel⟩, by decide +kernel⟩, im_in 448 (by decide +kernel) (by decide +kernel), rfl, rfl⟩
def mX11_machine : im_Y := (yX11_machine, cX11_machine, 7, some .int)
theorem mX11_machine_w : im_mV mX11_machine 5 := ⟨⟨im_in 58 (by decide +kernel) (by decide +kernel), im_in 539 (by decide +kernel) (by decide +kernel), by decide, ⟨by decide +kernel, by decide +kernel⟩, by decide +kernel⟩, im_in 537 (by decide +kernel) (by decide +kernel), im_in 538 (by decide +kernel) (by decide +kernel)⟩
def mX11_isMachine : im_Y := (yX11_isMachine, cX11_isMachine, 3, some .boolean)
theorem mX11_isMachine_w : im_mS mX11_isMachine 2 := ⟨⟨im_in 58 (by decide +kernel) (by decide +kernel), im_in 542 (by decide +kernel) (by decide +kernel), by decide, ⟨by decide +kernel, by decide +kernel⟩, by decide +kernel⟩, im_in 541 (by decide +kernel) (by decide +kernel)⟩
def mX11_bit : im_Y := (yX11_bit, cX11_bit, 1, some .int)
theorem mX11_bit_w : im_mS mX11_bit 1 := ⟨⟨im_in 58 (by decide +kernel) (by decide +kernel), im_in 545 (by decide +kernel) (by decide +kernel), by decide, ⟨by decide +kernel, by decide +kernel⟩, by decide +kernel⟩, im_in 544 (by decide +kernel) (by decide +kernel)⟩
def mX11_forget : im_Y := (yX11_forget, cX11_forget, 1, none)
theorem mX11_forget_w : im_mV mX11_forget 0 := ⟨⟨im_in 58 (by decide +kernel) (by decide +kernel), im_in 617 (by decide +kernel) (by decide +kernel), by decide, ⟨by decide +kernel, by decide +kernel⟩, by decide +kernel⟩, im_in 616 (by decide +kernel) (by decide +kernel), im_in 1 (by decide +kernel) (by decide +kernel)⟩
def mX11_latency : im_Y := (yX11_latency, cX11_latency, 4, some .int)
theorem mX11_latency_w : im_mV mX11_latency 2 := ⟨⟨im_in 58 (by decide +kernel) (by decide +kernel), im_in 621 (by decide +kernel) (by decide +kernel), by decide, ⟨by decide +kernel, by decide +kernel⟩, by decide +kernel⟩, im_in 619 (by decide +kernel) (by decide +kernel), im_in 620 (by decide +kernel) (by decide +kernel)⟩
def mX11_isBelow : im_Y := (yX11_isBelow, cX11_isBelow, 2, some .boolean)
theorem mX11_isBelow_w : im_mS mX11_isBelow 2 := ⟨⟨im_in 58 (by decide +kernel) (by decide +kernel), im_in 624 (by decide +kernel) (by decide +kernel), by decide, ⟨by decide +kernel, by decide +kernel⟩, by decide +kernel⟩, im_in 623 (by decide +kernel) (by decide +kernel)⟩
def mX11_at : im_Y := (yX11_at, cX11_at, 2, some .int)
theorem mX11_at_w : im_mS mX11_at 2 := ⟨⟨im_in 58 (by decide +kernel) (by decide +kernel), im_in 644 (by decide +kernel) (by decide +kernel), by decide, ⟨by decide +kernel, by decide +kernel⟩, by decide +kernel⟩, im_in 643 (by decide +kernel) (by decide +kernel)⟩
def mX11_put : im_Y := (yX11_put, cX11_put, 3, none)
theorem mX11_put_w : im_mS mX11_put 3 := ⟨⟨im_in 58 (by decide +kernel) (by decide +kernel), im_in 647 (by decide +kernel) (by decide +kernel), by decide, ⟨by decide +kernel, by decide +kernel⟩, by decide +kernel⟩, im_in 646 (by decide +kernel) (by decide +kernel)⟩
def mX11_many : im_Y := (yX11_many, cX11_many, 2, some .int)
theorem mX11_many_w : im_mV mX11_many 1 := ⟨⟨im_in 58 (by decide +kernel) (by decide +kernel), im_in 651 (by decide +kernel) (by decide +kernel), by decide, ⟨by decide +kernel, by decide +kernel⟩, by decide +kernel⟩, im_in 649 (by decide +kernel) (by decide +kernel), im_in 650 (by decide +kernel) (by decide +kernel)⟩
def mX11_builtNow : im_Y := (yX11_builtNow, cX11_builtNow, 1, (some (FieldType.object "SpillslotWorks$Works")))
theorem mX11_builtNow_w : im_mV mX11_builtNow 0 := ⟨⟨im_in 58 (by decide +kernel) (by decide +kernel), im_in 656 (by decide +kernel) (by decide +kernel), by decide, ⟨by decide +kernel, by decide +kernel⟩, by decide +kernel⟩, im_in 655 (by decide +kernel) (by decide +kernel), im_in 2 (by decide +kernel) (by decide +kernel)⟩
def mX7_build : im_Y := (yX7_build, cX7_build, 5, none)
theorem mX7_build_w : im_mV mX7_build 1 := ⟨⟨im_in 62 (by decide +kernel) (by decide +kernel), im_in 660 (by decide +kernel) (by decide +kernel), by decide, ⟨by decide +kernel, by decide +kernel⟩, by decide +kernel⟩, im_in 658 (by decide +kernel) (by decide +kernel), im_in 659 (by decide +kernel) (by decide +kernel)⟩
def mX0_coverAll : im_Y := (yX0_coverAll, cX0_coverAll, 3, none)
theorem mX0_coverAll_w : im_mV mX0_coverAll 0 := ⟨⟨im_in 63 (by decide +kernel) (by decide +kernel), im_in 664 (by decide +kernel) (by decide +kernel), by decide, ⟨by decide +kernel, by decide +kernel⟩, by decide +kernel⟩, im_in 662 (by decide +kernel) (by decide +kernel), im_in 663 (by decide +kernel) (by decide +kernel)⟩
def mX0_coverLeaf : im_Y := (yX0_coverLeaf, cX0_coverLeaf, 3, none)
theorem mX0_coverLeaf_w : im_mV mX0_coverLeaf 2 := ⟨⟨im_in 63 (by decide +kernel) (by decide +kernel), im_in 670 (by decide +kernel) (by decide +kernel), by decide, ⟨by decide +kernel, by decide +kernel⟩, by decide +kernel⟩, im_in 669 (by decide +kernel) (by decide +kernel), im_in 3 (by decide +kernel) (by decide +kernel)⟩
def mX0_setNodes : im_Y := (yX0_setNodes, cX0_setNodes, 5, none)
theorem mX0_setNodes_w : im_mS mX0_setNodes 5 := ⟨⟨im_in 63 (by decide +kernel) (by decide +kernel), im_in 673 (by decide +kernel) (by decide +kernel), by decide, ⟨by decide +kernel, by decide +kernel⟩, by decide +kernel⟩, im_in 672 (by decide +kernel) (by decide +kernel)⟩
def mX5_cyclesOf : im_Y := (yX5_cyclesOf, cX5_cyclesOf, 2, some .int)
theorem mX5_cyclesOf_w : im_mV mX5_cyclesOf 1 := ⟨⟨im_in 61 (by decide +kernel) (by decide +kernel), im_in 677 (by decide +kernel) (by decide +kernel), by decide, ⟨by decide +kernel, by decide +kernel⟩, by decide +kernel⟩, im_in 675 (by decide +kernel) (by decide +kernel), im_in 676 (by decide +kernel) (by decide +kernel)⟩
def mX0_coverPlain : im_Y := (yX0_coverPlain, cX0_coverPlain, 5, none)
theorem mX0_coverPlain_w : im_mV mX0_coverPlain 2 := ⟨⟨im_in 63 (by decide +kernel) (by decide +kernel), im_in 684 (by decide +kernel) (by decide +kernel), by decide, ⟨by decide +kernel, by decide +kernel⟩, by decide +kernel⟩, im_in 683 (by decide +kernel) (by decide +kernel), im_in 4 (by decide +kernel) (by decide +kernel)⟩
def mX0_coverSmall : im_Y := (yX0_coverSmall, cX0_coverSmall, 9, none)
theorem mX0_coverSmall_w : im_mV mX0_coverSmall 2 := ⟨⟨im_in 63 (by decide +kernel) (by decide +kernel), im_in 688 (by decide +kernel) (by decide +kernel), by decide, ⟨by decide +kernel, by decide +kernel⟩, by decide +kernel⟩, im_in 687 (by decide +kernel) (by decide +kernel), im_in 5 (by decide +kernel) (by decide +kernel)⟩
def mX0_isSmall : im_Y := (yX0_isSmall, cX0_isSmall, 3, some .boolean)
theorem mX0_isSmall_w : im_mV mX0_isSmall 1 := ⟨⟨im_in 63 (by decide +kernel) (by decide +kernel), im_in 692 (by decide +kernel) (by decide +kernel), by decide, ⟨by decide +kernel, by decide +kernel⟩, by decide +kernel⟩, im_in 691 (by decide +kernel) (by decide +kernel), im_in 6 (by decide +kernel) (by decide +kernel)⟩
def mX0_coverFused : im_Y := (yX0_coverFused, cX0_coverFused, 10, none)
theorem mX0_coverFused_w : im_mV mX0_coverFused 2 := ⟨⟨im_in 63 (by decide +kernel) (by decide +kernel), im_in 696 (by decide +kernel) (by decide +kernel), by decide, ⟨by decide +kernel, by decide +kernel⟩, by decide +kernel⟩, im_in 695 (by decide +kernel) (by decide +kernel), im_in 7 (by decide +kernel) (by decide +kernel)⟩
def mX7_chooseAll : im_Y := (yX7_chooseAll, cX7_chooseAll, 4, none)
theorem mX7_chooseAll_w : im_mV mX7_chooseAll 0 := ⟨⟨im_in 62 (by decide +kernel) (by decide +kernel), im_in 700 (by decide +kernel) (by decide +kernel), by decide, ⟨by decide +kernel, by decide +kernel⟩, by decide +kernel⟩, im_in 699 (by decide +kernel) (by decide +kernel), im_in 8 (by decide +kernel) (by decide +kernel)⟩
def mX3_clear : im_Y := (yX3_clear, cX3_clear, 1, none)
theorem mX3_clear_w : im_mV mX3_clear 0 := ⟨⟨im_in 64 (by decide +kernel) (by decide +kernel), im_in 704 (by decide +kernel) (by decide +kernel), by decide, ⟨by decide +kernel, by decide +kernel⟩, by decide +kernel⟩, im_in 702 (by decide +kernel) (by decide +kernel), im_in 703 (by decide +kernel) (by decide +kernel)⟩
def mX8_statementsIn : im_Y := (yX8_statementsIn, cX8_statementsIn, 2, some .int)
theorem mX8_statementsIn_w : im_mV mX8_statementsIn 1 := ⟨⟨im_in 59 (by decide +kernel) (by decide +kernel), im_in 709 (by decide +kernel) (by decide +kernel), by decide, ⟨by decide +kernel, by decide +kernel⟩, by decide +kernel⟩, im_in 707 (by decide +kernel) (by decide +kernel), im_in 708 (by decide +kernel) (by decide +kernel)⟩
def mX0_chooseStatement : im_Y := (yX0_chooseStatement, cX0_chooseStatement, 7, none)
theorem mX0_chooseStatement_w : im_mV mX0_chooseStatement 3 := ⟨⟨im_in 63 (by decide +kernel) (by decide +kernel), im_in 714 (by decide +kernel) (by decide +kernel), by decide, ⟨by decide +kernel, by decide +kernel⟩, by decide +kernel⟩, im_in 712 (by decide +kernel) (by decide +kernel), im_in 713 (by decide +kernel) (by decide +kernel)⟩
def mX8_rootOf : im_Y := (yX8_rootOf, cX8_rootOf, 3, some .int)
theorem mX8_rootOf_w : im_mV mX8_rootOf 2 := ⟨⟨im_in 59 (by decide +kernel) (by decide +kernel), im_in 718 (by decide +kernel) (by decide +kernel), by decide, ⟨by decide +kernel, by decide +kernel⟩, by decide +kernel⟩, im_in 716 (by decide +kernel) (by decide +kernel), im_in 717 (by decide +kernel) (by decide +kernel)⟩
def mX8_placeOf : im_Y := (yX8_placeOf, cX8_placeOf, 2, some .int)
theorem mX8_placeOf_w : im_mS mX8_placeOf 2 := ⟨⟨im_in 59 (by decide +kernel) (by decide +kernel), im_in 721 (by decide +kernel) (by decide +kernel), by decide, ⟨by decide +kernel, by decide +kernel⟩, by decide +kernel⟩, im_in 720 (by decide +kernel) (by decide +kernel)⟩
def mX0_gather : im_Y := (yX0_gather, cX0_gather, 5, some .int)
theorem mX0_gather_w : im_mV mX0_gather 1 := ⟨⟨im_in 63 (by decide +kernel) (by decide +kernel), im_in 725 (by decide +kernel) (by decide +kernel), by decide, ⟨by decide +kernel, by decide +kernel⟩, by decide +kernel⟩, im_in 724 (by decide +kernel) (by decide +kernel), im_in 9 (by decide +kernel) (by decide +kernel)⟩
def mX0_push : im_Y := (yX0_push, cX0_push, 2, none)
theorem mX0_push_w : im_mV mX0_push 1 := ⟨⟨im_in 63 (by decide +kernel) (by decide +kernel), im_in 729 (by decide +kernel) (by decide +kernel), by decide, ⟨by decide +kernel, by decide +kernel⟩, by decide +kernel⟩, im_in 728 (by decide +kernel) (by decide +kernel), im_in 10 (by decide +kernel) (by decide +kernel)⟩
def mX0_emit : im_Y := (yX0_emit, cX0_emit, 6, none)
theorem mX0_emit_w : im_mV mX0_emit 4 := ⟨⟨im_in 63 (by decide +kernel) (by decide +kernel), im_in 733 (by decide +kernel) (by decide +kernel), by decide, ⟨by decide +kernel, by decide +kernel⟩, by decide +kernel⟩, im_in 732 (by decide +kernel) (by decide +kernel), im_in 11 (by decide +kernel) (by decide +kernel)⟩
def mX3_add : im_Y := (yX3_add, cX3_add, 4, none)
theorem mX3_add_w : im_mV mX3_add 3 := ⟨⟨im_in 64 (by decide +kernel) (by decide +kernel), im_in 737 (by decide +kernel) (by decide +kernel), by decide, ⟨by decide +kernel, by decide +kernel⟩, by decide +kernel⟩, im_in 735 (by decide +kernel) (by decide +kernel), im_in 736 (by decide +kernel) (by decide +kernel)⟩
def mX3_setNumber : im_Y := (yX3_setNumber, cX3_setNumber, 2, none)
theorem mX3_setNumber_w : im_mV mX3_setNumber 1 := ⟨⟨im_in 64 (by decide +kernel) (by decide +kernel), im_in 742 (by decide +kernel) (by decide +kernel), by decide, ⟨by decide +kernel, by decide +kernel⟩, by decide +kernel⟩, im_in 740 (by decide +kernel) (by decide +kernel), im_in 741 (by decide +kernel) (by decide +kernel)⟩
def mX3_setReads : im_Y := (yX3_setReads, cX3_setReads, 5, none)
theorem mX3_setReads_w : im_mV mX3_setReads 3 := ⟨⟨im_in 64 (by decide +kernel) (by decide +kernel), im_in 746 (by decide +kernel) (by decide +kernel), by decide, ⟨by decide +kernel, by decide +kernel⟩, by decide +kernel⟩, im_in 744 (by decide +kernel) (by decide +kernel), im_in 745 (by decide +kernel) (by decide +kernel)⟩
def mX0_valueRead : im_Y := (yX0_valueRead, cX0_valueRead, 3, some .int)
theorem mX0_valueRead_w : im_mV mX0_valueRead 2 := ⟨⟨im_in 63 (by decide +kernel) (by decide +kernel), im_in 750 (by decide +kernel) (by decide +kernel), by decide, ⟨by decide +kernel, by decide +kernel⟩, by decide +kernel⟩, im_in 749 (by decide +kernel) (by decide +kernel), im_in 12 (by decide +kernel) (by decide +kernel)⟩
def mX8_variableOf : im_Y := (yX8_variableOf, cX8_variableOf, 3, some .int)
theorem mX8_variableOf_w : im_mV mX8_variableOf 2 := ⟨⟨im_in 59 (by decide +kernel) (by decide +kernel), im_in 754 (by decide +kernel) (by decide +kernel), by decide, ⟨by decide +kernel, by decide +kernel⟩, by decide +kernel⟩, im_in 752 (by decide +kernel) (by decide +kernel), im_in 753 (by decide +kernel) (by decide +kernel)⟩
def mX7_addEntry : im_Y := (yX7_addEntry, cX7_addEntry, 3, none)
theorem mX7_addEntry_w : im_mV mX7_addEntry 0 := ⟨⟨im_in 62 (by decide +kernel) (by decide +kernel), im_in 758 (by decide +kernel) (by decide +kernel), by decide, ⟨by decide +kernel, by decide +kernel⟩, by decide +kernel⟩, im_in 757 (by decide +kernel) (by decide +kernel), im_in 13 (by decide +kernel) (by decide +kernel)⟩
def mX7_earlyVariables : im_Y := (yX7_earlyVariables, cX7_earlyVariables, 5, some .int)
theorem mX7_earlyVariables_w : im_mV mX7_earlyVariables 0 := ⟨⟨im_in 62 (by decide +kernel) (by decide +kernel), im_in 762 (by decide +kernel) (by decide +kernel), by decide, ⟨by decide +kernel, by decide +kernel⟩, by decide +kernel⟩, im_in 761 (by decide +kernel) (by decide +kernel), im_in 14 (by decide +kernel) (by decide +kernel)⟩
def mX3_readBy : im_Y := (yX3_readBy, cX3_readBy, 3, some .int)
theorem mX3_readBy_w : im_mV mX3_readBy 2 := ⟨⟨im_in 64 (by decide +kernel) (by decide +kernel), im_in 766 (by decide +kernel) (by decide +kernel), by decide, ⟨by decide +kernel, by decide +kernel⟩, by decide +kernel⟩, im_in 764 (by decide +kernel) (by decide +kernel), im_in 765 (by decide +kernel) (by decide +kernel)⟩
def mX7_variableBit : im_Y := (yX7_variableBit, cX7_variableBit, 1, some .int)
theorem mX7_variableBit_w : im_mS mX7_variableBit 1 := ⟨⟨im_in 62 (by decide +kernel) (by decide +kernel), im_in 770 (by decide +kernel) (by decide +kernel), by decide, ⟨by decide +kernel, by decide +kernel⟩, by decide +kernel⟩, im_in 769 (by decide +kernel) (by decide +kernel)⟩
def mX3_writtenBy : im_Y := (yX3_writtenBy, cX3_writtenBy, 2, some .int)
theorem mX3_writtenBy_w : im_mV mX3_writtenBy 1 := ⟨⟨im_in 64 (by decide +kernel) (by decide +kernel), im_in 776 (by decide +kernel) (by decide +kernel), by decide, ⟨by decide +kernel, by decide +kernel⟩, by decide +kernel⟩, im_in 774 (by decide +kernel) (by decide +kernel), im_in 775 (by decide +kernel) (by decide +kernel)⟩
def mX11_hasBit : im_Y := (yX11_hasBit, cX11_hasBit, 2, some .boolean)
theorem mX11_hasBit_w : im_mS mX11_hasBit 2 := ⟨⟨im_in 58 (by decide +kernel) (by decide +kernel), im_in 779 (by decide +kernel) (by decide +kernel), by decide, ⟨by decide +kernel, by decide +kernel⟩, by decide +kernel⟩, im_in 778 (by decide +kernel) (by decide +kernel)⟩
def mX7_measureHeights : im_Y := (yX7_measureHeights, cX7_measureHeights, 6, none)
theorem mX7_measureHeights_w : im_mV mX7_measureHeights 2 := ⟨⟨im_in 62 (by decide +kernel) (by decide +kernel), im_in 786 (by decide +kernel) (by decide +kernel), by decide, ⟨by decide +kernel, by decide +kernel⟩, by decide +kernel⟩, im_in 785 (by decide +kernel) (by decide +kernel), im_in 15 (by decide +kernel) (by decide +kernel)⟩
def mX3_heightOf : im_Y := (yX3_heightOf, cX3_heightOf, 2, some .int)
theorem mX3_heightOf_w : im_mV mX3_heightOf 1 := ⟨⟨im_in 64 (by decide +kernel) (by decide +kernel), im_in 790 (by decide +kernel) (by decide +kernel), by decide, ⟨by decide +kernel, by decide +kernel⟩, by decide +kernel⟩, im_in 788 (by decide +kernel) (by decide +kernel), im_in 789 (by decide +kernel) (by decide +kernel)⟩
def mX7_isNeeding : im_Y := (yX7_isNeeding, cX7_isNeeding, 3, some .boolean)
theorem mX7_isNeeding_w : im_mV mX7_isNeeding 2 := ⟨⟨im_in 62 (by decide +kernel) (by decide +kernel), im_in 794 (by decide +kernel) (by decide +kernel), by decide, ⟨by decide +kernel, by decide +kernel⟩, by decide +kernel⟩, im_in 793 (by decide +kernel) (by decide +kernel), im_in 16 (by decide +kernel) (by decide +kernel)⟩
def mX3_isReading : im_Y := (yX3_isReading, cX3_isReading, 4, some .boolean)
theorem mX3_isReading_w : im_mV mX3_isReading 2 := ⟨⟨im_in 64 (by decide +kernel) (by decide +kernel), im_in 798 (by decide +kernel) (by decide +kernel), by decide, ⟨by decide +kernel, by decide +kernel⟩, by decide +kernel⟩, im_in 796 (by decide +kernel) (by decide +kernel), im_in 797 (by decide +kernel) (by decide +kernel)⟩
def mX3_kindOf : im_Y := (yX3_kindOf, cX3_kindOf, 2, some .int)
theorem mX3_kindOf_w : im_mV mX3_kindOf 1 := ⟨⟨im_in 64 (by decide +kernel) (by decide +kernel), im_in 802 (by decide +kernel) (by decide +kernel), by decide, ⟨by decide +kernel, by decide +kernel⟩, by decide +kernel⟩, im_in 800 (by decide +kernel) (by decide +kernel), im_in 801 (by decide +kernel) (by decide +kernel)⟩
def mX3_setHeight : im_Y := (yX3_setHeight, cX3_setHeight, 3, none)
theorem mX3_setHeight_w : im_mV mX3_setHeight 2 := ⟨⟨im_in 64 (by decide +kernel) (by decide +kernel), im_in 807 (by decide +kernel) (by decide +kernel), by decide, ⟨by decide +kernel, by decide +kernel⟩, by decide +kernel⟩, im_in 805 (by decide +kernel) (by decide +kernel), im_in 806 (by decide +kernel) (by decide +kernel)⟩
def mX7_placeByHeight : im_Y := (yX7_placeByHeight, cX7_placeByHeight, 6, none)
theorem mX7_placeByHeight_w : im_mV mX7_placeByHeight 2 := ⟨⟨im_in 62 (by decide +kernel) (by decide +kernel), im_in 811 (by decide +kernel) (by decide +kernel), by decide, ⟨by decide +kernel, by decide +kernel⟩, by decide +kernel⟩, im_in 810 (by decide +kernel) (by decide +kernel), im_in 17 (by decide +kernel) (by decide +kernel)⟩
def mX7_countMissing : im_Y := (yX7_countMissing, cX7_countMissing, 6, none)
theorem mX7_countMissing_w : im_mV mX7_countMissing 2 := ⟨⟨im_in 62 (by decide +kernel) (by decide +kernel), im_in 815 (by decide +kernel) (by decide +kernel), by decide, ⟨by decide +kernel, by decide +kernel⟩, by decide +kernel⟩, im_in 814 (by decide +kernel) (by decide +kernel), im_in 18 (by decide +kernel) (by decide +kernel)⟩
def mX7_highestReady : im_Y := (yX7_highestReady, cX7_highestReady, 5, some .int)
theorem mX7_highestReady_w : im_mV mX7_highestReady 2 := ⟨⟨im_in 62 (by decide +kernel) (by decide +kernel), im_in 819 (by decide +kernel) (by decide +kernel), by decide, ⟨by decide +kernel, by decide +kernel⟩, by decide +kernel⟩, im_in 818 (by decide +kernel) (by decide +kernel), im_in 19 (by decide +kernel) (by decide +kernel)⟩
def mX3_addCopy : im_Y := (yX3_addCopy, cX3_addCopy, 3, none)
theorem mX3_addCopy_w : im_mV mX3_addCopy 2 := ⟨⟨im_in 64 (by decide +kernel) (by decide +kernel), im_in 823 (by decide +kernel) (by decide +kernel), by decide, ⟨by decide +kernel, by decide +kernel⟩, by decide +kernel⟩, im_in 821 (by decide +kernel) (by decide +kernel), im_in 822 (by decide +kernel) (by decide +kernel)⟩
def mX3_blockOf : im_Y := (yX3_blockOf, cX3_blockOf, 2, some .int)
theorem mX3_blockOf_w : im_mV mX3_blockOf 1 := ⟨⟨im_in 64 (by decide +kernel) (by decide +kernel), im_in 829 (by decide +kernel) (by decide +kernel), by decide, ⟨by decide +kernel, by decide +kernel⟩, by decide +kernel⟩, im_in 827 (by decide +kernel) (by decide +kernel), im_in 828 (by decide +kernel) (by decide +kernel)⟩
def mX3_numberOf : im_Y := (yX3_numberOf, cX3_numberOf, 2, some .int)
theorem mX3_numberOf_w : im_mV mX3_numberOf 1 := ⟨⟨im_in 64 (by decide +kernel) (by decide +kernel), im_in 836 (by decide +kernel) (by decide +kernel), by decide, ⟨by decide +kernel, by decide +kernel⟩, by decide +kernel⟩, im_in 834 (by decide +kernel) (by decide +kernel), im_in 835 (by decide +kernel) (by decide +kernel)⟩
def mX7_placeAsChosen : im_Y := (yX7_placeAsChosen, cX7_placeAsChosen, 4, none)
theorem mX7_placeAsChosen_w : im_mV mX7_placeAsChosen 2 := ⟨⟨im_in 62 (by decide +kernel) (by decide +kernel), im_in 843 (by decide +kernel) (by decide +kernel), by decide, ⟨by decide +kernel, by decide +kernel⟩, by decide +kernel⟩, im_in 842 (by decide +kernel) (by decide +kernel), im_in 20 (by decide +kernel) (by decide +kernel)⟩
def mX4_measure : im_Y := (yX4_measure, cX4_measure, 4, none)
theorem mX4_measure_w : im_mV mX4_measure 2 := ⟨⟨im_in 65 (by decide +kernel) (by decide +kernel), im_in 847 (by decide +kernel) (by decide +kernel), by decide, ⟨by decide +kernel, by decide +kernel⟩, by decide +kernel⟩, im_in 845 (by decide +kernel) (by decide +kernel), im_in 846 (by decide +kernel) (by decide +kernel)⟩
def mX11_fill : im_Y := (yX11_fill, cX11_fill, 3, none)
theorem mX11_fill_w : im_mS mX11_fill 2 := ⟨⟨im_in 58 (by decide +kernel) (by decide +kernel), im_in 850 (by decide +kernel) (by decide +kernel), by decide, ⟨by decide +kernel, by decide +kernel⟩, by decide +kernel⟩, im_in 849 (by decide +kernel) (by decide +kernel)⟩
def mX4_touch : im_Y := (yX4_touch, cX4_touch, 7, none)
theorem mX4_touch_w : im_mV mX4_touch 2 := ⟨⟨im_in 65 (by decide +kernel) (by decide +kernel), im_in 854 (by decide +kernel) (by decide +kernel), by decide, ⟨by decide +kernel, by decide +kernel⟩, by decide +kernel⟩, im_in 853 (by decide +kernel) (by decide +kernel), im_in 21 (by decide +kernel) (by decide +kernel)⟩
def mX8_roundsOf : im_Y := (yX8_roundsOf, cX8_roundsOf, 2, some .int)
theorem mX8_roundsOf_w : im_mV mX8_roundsOf 1 := ⟨⟨im_in 59 (by decide +kernel) (by decide +kernel), im_in 859 (by decide +kernel) (by decide +kernel), by decide, ⟨by decide +kernel, by decide +kernel⟩, by decide +kernel⟩, im_in 857 (by decide +kernel) (by decide +kernel), im_in 858 (by decide +kernel) (by decide +kernel)⟩
def mX4_touchValue : im_Y := (yX4_touchValue, cX4_touchValue, 4, none)
theorem mX4_touchValue_w : im_mV mX4_touchValue 3 := ⟨⟨im_in 65 (by decide +kernel) (by decide +kernel), im_in 866 (by decide +kernel) (by decide +kernel), by decide, ⟨by decide +kernel, by decide +kernel⟩, by decide +kernel⟩, im_in 865 (by decide +kernel) (by decide +kernel), im_in 22 (by decide +kernel) (by decide +kernel)⟩
def mX4_isLiving : im_Y := (yX4_isLiving, cX4_isLiving, 2, some .boolean)
theorem mX4_isLiving_w : im_mV mX4_isLiving 1 := ⟨⟨im_in 65 (by decide +kernel) (by decide +kernel), im_in 875 (by decide +kernel) (by decide +kernel), by decide, ⟨by decide +kernel, by decide +kernel⟩, by decide +kernel⟩, im_in 873 (by decide +kernel) (by decide +kernel), im_in 874 (by decide +kernel) (by decide +kernel)⟩
def mX4_endOf : im_Y := (yX4_endOf, cX4_endOf, 7, some .int)
theorem mX4_endOf_w : im_mV mX4_endOf 3 := ⟨⟨im_in 65 (by decide +kernel) (by decide +kernel), im_in 880 (by decide +kernel) (by decide +kernel), by decide, ⟨by decide +kernel, by decide +kernel⟩, by decide +kernel⟩, im_in 879 (by decide +kernel) (by decide +kernel), im_in 23 (by decide +kernel) (by decide +kernel)⟩
def mX4_lastOf : im_Y := (yX4_lastOf, cX4_lastOf, 2, some .int)
theorem mX4_lastOf_w : im_mV mX4_lastOf 1 := ⟨⟨im_in 65 (by decide +kernel) (by decide +kernel), im_in 885 (by decide +kernel) (by decide +kernel), by decide, ⟨by decide +kernel, by decide +kernel⟩, by decide +kernel⟩, im_in 883 (by decide +kernel) (by decide +kernel), im_in 884 (by decide +kernel) (by decide +kernel)⟩
def mX4_firstOf : im_Y := (yX4_firstOf, cX4_firstOf, 2, some .int)
theorem mX4_firstOf_w : im_mV mX4_firstOf 1 := ⟨⟨im_in 65 (by decide +kernel) (by decide +kernel), im_in 889 (by decide +kernel) (by decide +kernel), by decide, ⟨by decide +kernel, by decide +kernel⟩, by decide +kernel⟩, im_in 887 (by decide +kernel) (by decide +kernel), im_in 888 (by decide +kernel) (by decide +kernel)⟩
def mX4_weigh : im_Y := (yX4_weigh, cX4_weigh, 3, some .int)
theorem mX4_weigh_w : im_mV mX4_weigh 1 := ⟨⟨im_in 65 (by decide +kernel) (by decide +kernel), im_in 893 (by decide +kernel) (by decide +kernel), by decide, ⟨by decide +kernel, by decide +kernel⟩, by decide +kernel⟩, im_in 892 (by decide +kernel) (by decide +kernel), im_in 24 (by decide +kernel) (by decide +kernel)⟩
def mX4_countCrossed : im_Y := (yX4_countCrossed, cX4_countCrossed, 4, some .int)
theorem mX4_countCrossed_w : im_mV mX4_countCrossed 1 := ⟨⟨im_in 65 (by decide +kernel) (by decide +kernel), im_in 897 (by decide +kernel) (by decide +kernel), by decide, ⟨by decide +kernel, by decide +kernel⟩, by decide +kernel⟩, im_in 896 (by decide +kernel) (by decide +kernel), im_in 25 (by decide +kernel) (by decide +kernel)⟩
def mX4_isCrossing : im_Y := (yX4_isCrossing, cX4_isCrossing, 3, some .boolean)
theorem mX4_isCrossing_w : im_mV mX4_isCrossing 2 := ⟨⟨im_in 65 (by decide +kernel) (by decide +kernel), im_in 901 (by decide +kernel) (by decide +kernel), by decide, ⟨by decide +kernel, by decide +kernel⟩, by decide +kernel⟩, im_in 899 (by decide +kernel) (by decide +kernel), im_in 900 (by decide +kernel) (by decide +kernel)⟩
def mX10_build : im_Y := (yX10_build, cX10_build, 2, none)
theorem mX10_build_w : im_mV mX10_build 1 := ⟨⟨im_in 66 (by decide +kernel) (by decide +kernel), im_in 905 (by decide +kernel) (by decide +kernel), by decide, ⟨by decide +kernel, by decide +kernel⟩, by decide +kernel⟩, im_in 903 (by decide +kernel) (by decide +kernel), im_in 904 (by decide +kernel) (by decide +kernel)⟩
def mX2_give : im_Y := (yX2_give, cX2_give, 4, none)
theorem mX2_give_w : im_mV mX2_give 2 := ⟨⟨im_in 67 (by decide +kernel) (by decide +kernel), im_in 909 (by decide +kernel) (by decide +kernel), by decide, ⟨by decide +kernel, by decide +kernel⟩, by decide +kernel⟩, im_in 907 (by decide +kernel) (by decide +kernel), im_in 908 (by decide +kernel) (by decide +kernel)⟩
def mX2_isBirth : im_Y := (yX2_isBirth, cX2_isBirth, 3, some .boolean)
theorem mX2_isBirth_w : im_mS mX2_isBirth 3 := ⟨⟨im_in 67 (by decide +kernel) (by decide +kernel), im_in 913 (by decide +kernel) (by decide +kernel), by decide, ⟨by decide +kernel, by decide +kernel⟩, by decide +kernel⟩, im_in 912 (by decide +kernel) (by decide +kernel)⟩
def mX2_giveRegister : im_Y := (yX2_giveRegister, cX2_giveRegister, 8, none)
theorem mX2_giveRegister_w : im_mV mX2_giveRegister 3 := ⟨⟨im_in 67 (by decide +kernel) (by decide +kernel), im_in 919 (by decide +kernel) (by decide +kernel), by decide, ⟨by decide +kernel, by decide +kernel⟩, by decide +kernel⟩, im_in 918 (by decide +kernel) (by decide +kernel), im_in 26 (by decide +kernel) (by decide +kernel)⟩
def mX4_crossedBy : im_Y := (yX4_crossedBy, cX4_crossedBy, 2, some .int)
theorem mX4_crossedBy_w : im_mV mX4_crossedBy 1 := ⟨⟨im_in 65 (by decide +kernel) (by decide +kernel), im_in 923 (by decide +kernel) (by decide +kernel), by decide, ⟨by decide +kernel, by decide +kernel⟩, by decide +kernel⟩, im_in 921 (by decide +kernel) (by decide +kernel), im_in 922 (by decide +kernel) (by decide +kernel)⟩
def mX5_scratch : im_Y := (yX5_scratch, cX5_scratch, 1, some .int)
theorem mX5_scratch_w : im_mV mX5_scratch 0 := ⟨⟨im_in 61 (by decide +kernel) (by decide +kernel), im_in 927 (by decide +kernel) (by decide +kernel), by decide, ⟨by decide +kernel, by decide +kernel⟩, by decide +kernel⟩, im_in 925 (by decide +kernel) (by decide +kernel), im_in 926 (by decide +kernel) (by decide +kernel)⟩
def mX2_takenBehind : im_Y := (yX2_takenBehind, cX2_takenBehind, 6, some .int)
theorem mX2_takenBehind_w : im_mV mX2_takenBehind 2 := ⟨⟨im_in 67 (by decide +kernel) (by decide +kernel), im_in 932 (by decide +kernel) (by decide +kernel), by decide, ⟨by decide +kernel, by decide +kernel⟩, by decide +kernel⟩, im_in 931 (by decide +kernel) (by decide +kernel), im_in 27 (by decide +kernel) (by decide +kernel)⟩
def mX2_spillOne : im_Y := (yX2_spillOne, cX2_spillOne, 7, none)
theorem mX2_spillOne_w : im_mV mX2_spillOne 3 := ⟨⟨im_in 67 (by decide +kernel) (by decide +kernel), im_in 938 (by decide +kernel) (by decide +kernel), by decide, ⟨by decide +kernel, by decide +kernel⟩, by decide +kernel⟩, im_in 937 (by decide +kernel) (by decide +kernel), im_in 28 (by decide +kernel) (by decide +kernel)⟩
def mX2_isLighter : im_Y := (yX2_isLighter, cX2_isLighter, 4, some .boolean)
theorem mX2_isLighter_w : im_mS mX2_isLighter 3 := ⟨⟨im_in 67 (by decide +kernel) (by decide +kernel), im_in 942 (by decide +kernel) (by decide +kernel), by decide, ⟨by decide +kernel, by decide +kernel⟩, by decide +kernel⟩, im_in 941 (by decide +kernel) (by decide +kernel)⟩
def mX2_likedRegister : im_Y := (yX2_likedRegister, cX2_likedRegister, 5, some .int)
theorem mX2_likedRegister_w : im_mV mX2_likedRegister 2 := ⟨⟨im_in 67 (by decide +kernel) (by decide +kernel), im_in 947 (by decide +kernel) (by decide +kernel), by decide, ⟨by decide +kernel, by decide +kernel⟩, by decide +kernel⟩, im_in 946 (by decide +kernel) (by decide +kernel), im_in 29 (by decide +kernel) (by decide +kernel)⟩
def mX2_registerOf : im_Y := (yX2_registerOf, cX2_registerOf, 2, some .int)
theorem mX2_registerOf_w : im_mV mX2_registerOf 1 := ⟨⟨im_in 67 (by decide +kernel) (by decide +kernel), im_in 953 (by decide +kernel) (by decide +kernel), by decide, ⟨by decide +kernel, by decide +kernel⟩, by decide +kernel⟩, im_in 951 (by decide +kernel) (by decide +kernel), im_in 952 (by decide +kernel) (by decide +kernel)⟩
def mX2_smallestOf : im_Y := (yX2_smallestOf, cX2_smallestOf, 2, some .int)
theorem mX2_smallestOf_w : im_mS mX2_smallestOf 1 := ⟨⟨im_in 67 (by decide +kernel) (by decide +kernel), im_in 956 (by decide +kernel) (by decide +kernel), by decide, ⟨by decide +kernel, by decide +kernel⟩, by decide +kernel⟩, im_in 955 (by decide +kernel) (by decide +kernel)⟩
def mX2_isSpilled : im_Y := (yX2_isSpilled, cX2_isSpilled, 2, some .boolean)
theorem mX2_isSpilled_w : im_mV mX2_isSpilled 1 := ⟨⟨im_in 67 (by decide +kernel) (by decide +kernel), im_in 960 (by decide +kernel) (by decide +kernel), by decide, ⟨by decide +kernel, by decide +kernel⟩, by decide +kernel⟩, im_in 958 (by decide +kernel) (by decide +kernel), im_in 959 (by decide +kernel) (by decide +kernel)⟩
def mX2_giveSlot : im_Y := (yX2_giveSlot, cX2_giveSlot, 6, none)
theorem mX2_giveSlot_w : im_mV mX2_giveSlot 3 := ⟨⟨im_in 67 (by decide +kernel) (by decide +kernel), im_in 964 (by decide +kernel) (by decide +kernel), by decide, ⟨by decide +kernel, by decide +kernel⟩, by decide +kernel⟩, im_in 963 (by decide +kernel) (by decide +kernel), im_in 30 (by decide +kernel) (by decide +kernel)⟩
def mX4_writesOf : im_Y := (yX4_writesOf, cX4_writesOf, 2, some .int)
theorem mX4_writesOf_w : im_mV mX4_writesOf 1 := ⟨⟨im_in 65 (by decide +kernel) (by decide +kernel), im_in 968 (by decide +kernel) (by decide +kernel), by decide, ⟨by decide +kernel, by decide +kernel⟩, by decide +kernel⟩, im_in 966 (by decide +kernel) (by decide +kernel), im_in 967 (by decide +kernel) (by decide +kernel)⟩
def mX2_firstSlotFree : im_Y := (yX2_firstSlotFree, cX2_firstSlotFree, 4, some .int)
theorem mX2_firstSlotFree_w : im_mV mX2_firstSlotFree 2 := ⟨⟨im_in 67 (by decide +kernel) (by decide +kernel), im_in 973 (by decide +kernel) (by decide +kernel), by decide, ⟨by decide +kernel, by decide +kernel⟩, by decide +kernel⟩, im_in 972 (by decide +kernel) (by decide +kernel), im_in 31 (by decide +kernel) (by decide +kernel)⟩
def mX2_keptInUse : im_Y := (yX2_keptInUse, cX2_keptInUse, 4, some .int)
theorem mX2_keptInUse_w : im_mV mX2_keptInUse 1 := ⟨⟨im_in 67 (by decide +kernel) (by decide +kernel), im_in 978 (by decide +kernel) (by decide +kernel), by decide, ⟨by decide +kernel, by decide +kernel⟩, by decide +kernel⟩, im_in 977 (by decide +kernel) (by decide +kernel), im_in 32 (by decide +kernel) (by decide +kernel)⟩
def mJ6_bitCount_0f7a4 : im_Y := (yJ6_bitCount_0f7a4, cJ6_bitCount_0f7a4, 1, some .int)
theorem mJ6_bitCount_0f7a4_w : im_mS mJ6_bitCount_0f7a4 1 := ⟨⟨im_in 79 (by decide +kernel) (by decide +kernel), im_in 981 (by decide +kernel) (by decide +kernel), by decide, ⟨by decide +kernel, by decide +kernel⟩, by decide +kernel⟩, im_in 980 (by decide +kernel) (by decide +kernel)⟩
def mX1_make : im_Y := (yX1_make, cX1_make, 4, none)
theorem mX1_make_w : im_mV mX1_make 2 := ⟨⟨im_in 68 (by decide +kernel) (by decide +kernel), im_in 988 (by decide +kernel) (by decide +kernel), by decide, ⟨by decide +kernel, by decide +kernel⟩, by decide +kernel⟩, im_in 986 (by decide +kernel) (by decide +kernel), im_in 987 (by decide +kernel) (by decide +kernel)⟩
def mX1_makeCall : im_Y := (yX1_makeCall, cX1_makeCall, 7, none)
theorem mX1_makeCall_w : im_mV mX1_makeCall 2 := ⟨⟨im_in 68 (by decide +kernel) (by decide +kernel), im_in 994 (by decide +kernel) (by decide +kernel), by decide, ⟨by decide +kernel, by decide +kernel⟩, by decide +kernel⟩, im_in 993 (by decide +kernel) (by decide +kernel), im_in 33 (by decide +kernel) (by decide +kernel)⟩
def mX1_addMove : im_Y := (yX1_addMove, cX1_addMove, 3, none)
theorem mX1_addMove_w : im_mV mX1_addMove 2 := ⟨⟨im_in 68 (by decide +kernel) (by decide +kernel), im_in 1002 (by decide +kernel) (by decide +kernel), by decide, ⟨by decide +kernel, by decide +kernel⟩, by decide +kernel⟩, im_in 1001 (by decide +kernel) (by decide +kernel), im_in 34 (by decide +kernel) (by decide +kernel)⟩
def mX1_add : im_Y := (yX1_add, cX1_add, 7, none)
theorem mX1_add_w : im_mV mX1_add 5 := ⟨⟨im_in 68 (by decide +kernel) (by decide +kernel), im_in 1006 (by decide +kernel) (by decide +kernel), by decide, ⟨by decide +kernel, by decide +kernel⟩, by decide +kernel⟩, im_in 1005 (by decide +kernel) (by decide +kernel), im_in 35 (by decide +kernel) (by decide +kernel)⟩
def mX1_bring : im_Y := (yX1_bring, cX1_bring, 4, none)
theorem mX1_bring_w : im_mV mX1_bring 3 := ⟨⟨im_in 68 (by decide +kernel) (by decide +kernel), im_in 1010 (by decide +kernel) (by decide +kernel), by decide, ⟨by decide +kernel, by decide +kernel⟩, by decide +kernel⟩, im_in 1009 (by decide +kernel) (by decide +kernel), im_in 36 (by decide +kernel) (by decide +kernel)⟩
def mX1_addLoad : im_Y := (yX1_addLoad, cX1_addLoad, 4, none)
theorem mX1_addLoad_w : im_mV mX1_addLoad 3 := ⟨⟨im_in 68 (by decide +kernel) (by decide +kernel), im_in 1015 (by decide +kernel) (by decide +kernel), by decide, ⟨by decide +kernel, by decide +kernel⟩, by decide +kernel⟩, im_in 1014 (by decide +kernel) (by decide +kernel), im_in 37 (by decide +kernel) (by decide +kernel)⟩
def mX2_slotOf : im_Y := (yX2_slotOf, cX2_slotOf, 2, some .int)
theorem mX2_slotOf_w : im_mV mX2_slotOf 1 := ⟨⟨im_in 67 (by decide +kernel) (by decide +kernel), im_in 1020 (by decide +kernel) (by decide +kernel), by decide, ⟨by decide +kernel, by decide +kernel⟩, by decide +kernel⟩, im_in 1018 (by decide +kernel) (by decide +kernel), im_in 1019 (by decide +kernel) (by decide +kernel)⟩
def mX2_isRemade : im_Y := (yX2_isRemade, cX2_isRemade, 2, some .boolean)
theorem mX2_isRemade_w : im_mV mX2_isRemade 1 := ⟨⟨im_in 67 (by decide +kernel) (by decide +kernel), im_in 1024 (by decide +kernel) (by decide +kernel), by decide, ⟨by decide +kernel, by decide +kernel⟩, by decide +kernel⟩, im_in 1022 (by decide +kernel) (by decide +kernel), im_in 1023 (by decide +kernel) (by decide +kernel)⟩
def mX1_makeOne : im_Y := (yX1_makeOne, cX1_makeOne, 8, none)
theorem mX1_makeOne_w : im_mV mX1_makeOne 2 := ⟨⟨im_in 68 (by decide +kernel) (by decide +kernel), im_in 1028 (by decide +kernel) (by decide +kernel), by decide, ⟨by decide +kernel, by decide +kernel⟩, by decide +kernel⟩, im_in 1027 (by decide +kernel) (by decide +kernel), im_in 38 (by decide +kernel) (by decide +kernel)⟩
def mX1_fetch : im_Y := (yX1_fetch, cX1_fetch, 5, some .int)
theorem mX1_fetch_w : im_mV mX1_fetch 3 := ⟨⟨im_in 68 (by decide +kernel) (by decide +kernel), im_in 1032 (by decide +kernel) (by decide +kernel), by decide, ⟨by decide +kernel, by decide +kernel⟩, by decide +kernel⟩, im_in 1031 (by decide +kernel) (by decide +kernel), im_in 39 (by decide +kernel) (by decide +kernel)⟩
def mX1_operate : im_Y := (yX1_operate, cX1_operate, 8, none)
theorem mX1_operate_w : im_mV mX1_operate 6 := ⟨⟨im_in 68 (by decide +kernel) (by decide +kernel), im_in 1037 (by decide +kernel) (by decide +kernel), by decide, ⟨by decide +kernel, by decide +kernel⟩, by decide +kernel⟩, im_in 1036 (by decide +kernel) (by decide +kernel), im_in 40 (by decide +kernel) (by decide +kernel)⟩
def mX1_addOperation : im_Y := (yX1_addOperation, cX1_addOperation, 7, none)
theorem mX1_addOperation_w : im_mV mX1_addOperation 6 := ⟨⟨im_in 68 (by decide +kernel) (by decide +kernel), im_in 1041 (by decide +kernel) (by decide +kernel), by decide, ⟨by decide +kernel, by decide +kernel⟩, by decide +kernel⟩, im_in 1040 (by decide +kernel) (by decide +kernel), im_in 41 (by decide +kernel) (by decide +kernel)⟩
def mX9_go : im_Y := (yX9_go, cX9_go, 8, none)
theorem mX9_go_w : im_mV mX9_go 2 := ⟨⟨im_in 69 (by decide +kernel) (by decide +kernel), im_in 1045 (by decide +kernel) (by decide +kernel), by decide, ⟨by decide +kernel, by decide +kernel⟩, by decide +kernel⟩, im_in 1043 (by decide +kernel) (by decide +kernel), im_in 1044 (by decide +kernel) (by decide +kernel)⟩
def mX1_startOf : im_Y := (yX1_startOf, cX1_startOf, 2, some .int)
theorem mX1_startOf_w : im_mV mX1_startOf 1 := ⟨⟨im_in 68 (by decide +kernel) (by decide +kernel), im_in 1051 (by decide +kernel) (by decide +kernel), by decide, ⟨by decide +kernel, by decide +kernel⟩, by decide +kernel⟩, im_in 1049 (by decide +kernel) (by decide +kernel), im_in 1050 (by decide +kernel) (by decide +kernel)⟩
def mX9_goThrough : im_Y := (yX9_goThrough, cX9_goThrough, 11, none)
theorem mX9_goThrough_w : im_mV mX9_goThrough 3 := ⟨⟨im_in 69 (by decide +kernel) (by decide +kernel), im_in 1055 (by decide +kernel) (by decide +kernel), by decide, ⟨by decide +kernel, by decide +kernel⟩, by decide +kernel⟩, im_in 1054 (by decide +kernel) (by decide +kernel), im_in 42 (by decide +kernel) (by decide +kernel)⟩
def mX1_kindOf : im_Y := (yX1_kindOf, cX1_kindOf, 2, some .int)
theorem mX1_kindOf_w : im_mV mX1_kindOf 1 := ⟨⟨im_in 68 (by decide +kernel) (by decide +kernel), im_in 1059 (by decide +kernel) (by decide +kernel), by decide, ⟨by decide +kernel, by decide +kernel⟩, by decide +kernel⟩, im_in 1057 (by decide +kernel) (by decide +kernel), im_in 1058 (by decide +kernel) (by decide +kernel)⟩
def mX1_operandOf : im_Y := (yX1_operandOf, cX1_operandOf, 3, some .int)
theorem mX1_operandOf_w : im_mV mX1_operandOf 2 := ⟨⟨im_in 68 (by decide +kernel) (by decide +kernel), im_in 1063 (by decide +kernel) (by decide +kernel), by decide, ⟨by decide +kernel, by decide +kernel⟩, by decide +kernel⟩, im_in 1061 (by decide +kernel) (by decide +kernel), im_in 1062 (by decide +kernel) (by decide +kernel)⟩
def mX9_readyFor : im_Y := (yX9_readyFor, cX9_readyFor, 6, some .int)
theorem mX9_readyFor_w : im_mV mX9_readyFor 5 := ⟨⟨im_in 69 (by decide +kernel) (by decide +kernel), im_in 1067 (by decide +kernel) (by decide +kernel), by decide, ⟨by decide +kernel, by decide +kernel⟩, by decide +kernel⟩, im_in 1066 (by decide +kernel) (by decide +kernel), im_in 43 (by decide +kernel) (by decide +kernel)⟩
def mX9_perform : im_Y := (yX9_perform, cX9_perform, 6, none)
theorem mX9_perform_w : im_mV mX9_perform 5 := ⟨⟨im_in 69 (by decide +kernel) (by decide +kernel), im_in 1074 (by decide +kernel) (by decide +kernel), by decide, ⟨by decide +kernel, by decide +kernel⟩, by decide +kernel⟩, im_in 1073 (by decide +kernel) (by decide +kernel), im_in 44 (by decide +kernel) (by decide +kernel)⟩
def mX9_performCall : im_Y := (yX9_performCall, cX9_performCall, 3, none)
theorem mX9_performCall_w : im_mV mX9_performCall 0 := ⟨⟨im_in 69 (by decide +kernel) (by decide +kernel), im_in 1078 (by decide +kernel) (by decide +kernel), by decide, ⟨by decide +kernel, by decide +kernel⟩, by decide +kernel⟩, im_in 1077 (by decide +kernel) (by decide +kernel), im_in 45 (by decide +kernel) (by decide +kernel)⟩
def mX9_resultOf : im_Y := (yX9_resultOf, cX9_resultOf, 7, some .int)
theorem mX9_resultOf_w : im_mV mX9_resultOf 4 := ⟨⟨im_in 69 (by decide +kernel) (by decide +kernel), im_in 1084 (by decide +kernel) (by decide +kernel), by decide, ⟨by decide +kernel, by decide +kernel⟩, by decide +kernel⟩, im_in 1083 (by decide +kernel) (by decide +kernel), im_in 46 (by decide +kernel) (by decide +kernel)⟩
def mX10_tellMany : im_Y := (yX10_tellMany, cX10_tellMany, 3, some .int)
theorem mX10_tellMany_w : im_mV mX10_tellMany 2 := ⟨⟨im_in 66 (by decide +kernel) (by decide +kernel), im_in 1089 (by decide +kernel) (by decide +kernel), by decide, ⟨by decide +kernel, by decide +kernel⟩, by decide +kernel⟩, im_in 1087 (by decide +kernel) (by decide +kernel), im_in 1088 (by decide +kernel) (by decide +kernel)⟩
def mX8_looseCount : im_Y := (yX8_looseCount, cX8_looseCount, 3, some .int)
theorem mX8_looseCount_w : im_mV mX8_looseCount 0 := ⟨⟨im_in 59 (by decide +kernel) (by decide +kernel), im_in 1093 (by decide +kernel) (by decide +kernel), by decide, ⟨by decide +kernel, by decide +kernel⟩, by decide +kernel⟩, im_in 1091 (by decide +kernel) (by decide +kernel), im_in 1092 (by decide +kernel) (by decide +kernel)⟩
def mX8_isLoose : im_Y := (yX8_isLoose, cX8_isLoose, 2, some .boolean)
theorem mX8_isLoose_w : im_mV mX8_isLoose 1 := ⟨⟨im_in 59 (by decide +kernel) (by decide +kernel), im_in 1097 (by decide +kernel) (by decide +kernel), by decide, ⟨by decide +kernel, by decide +kernel⟩, by decide +kernel⟩, im_in 1095 (by decide +kernel) (by decide +kernel), im_in 1096 (by decide +kernel) (by decide +kernel)⟩
def mX1_countOf : im_Y := (yX1_countOf, cX1_countOf, 4, some .int)
theorem mX1_countOf_w : im_mV mX1_countOf 1 := ⟨⟨im_in 68 (by decide +kernel) (by decide +kernel), im_in 1102 (by decide +kernel) (by decide +kernel), by decide, ⟨by decide +kernel, by decide +kernel⟩, by decide +kernel⟩, im_in 1100 (by decide +kernel) (by decide +kernel), im_in 1101 (by decide +kernel) (by decide +kernel)⟩
def mX4_mostAtOnce : im_Y := (yX4_mostAtOnce, cX4_mostAtOnce, 6, some .int)
theorem mX4_mostAtOnce_w : im_mV mX4_mostAtOnce 1 := ⟨⟨im_in 65 (by decide +kernel) (by decide +kernel), im_in 1107 (by decide +kernel) (by decide +kernel), by decide, ⟨by decide +kernel, by decide +kernel⟩, by decide +kernel⟩, im_in 1105 (by decide +kernel) (by decide +kernel), im_in 1106 (by decide +kernel) (by decide +kernel)⟩
def mX11_with : im_Y := (yX11_with, cX11_with, 5, some .int)
theorem mX11_with_w : im_mV mX11_with 4 := ⟨⟨im_in 58 (by decide +kernel) (by decide +kernel), im_in 1111 (by decide +kernel) (by decide +kernel), by decide, ⟨by decide +kernel, by decide +kernel⟩, by decide +kernel⟩, im_in 1109 (by decide +kernel) (by decide +kernel), im_in 1110 (by decide +kernel) (by decide +kernel)⟩
def mX11_builtWith : im_Y := (yX11_builtWith, cX11_builtWith, 4, (some (FieldType.object "SpillslotWorks$Works")))
theorem mX11_builtWith_w : im_mV mX11_builtWith 3 := ⟨⟨im_in 58 (by decide +kernel) (by decide +kernel), im_in 1116 (by decide +kernel) (by decide +kernel), by decide, ⟨by decide +kernel, by decide +kernel⟩, by decide +kernel⟩, im_in 1115 (by decide +kernel) (by decide +kernel), im_in 47 (by decide +kernel) (by decide +kernel)⟩
def mX5_beLike : im_Y := (yX5_beLike, cX5_beLike, 3, none)
theorem mX5_beLike_w : im_mV mX5_beLike 1 := ⟨⟨im_in 61 (by decide +kernel) (by decide +kernel), im_in 1120 (by decide +kernel) (by decide +kernel), by decide, ⟨by decide +kernel, by decide +kernel⟩, by decide +kernel⟩, im_in 1118 (by decide +kernel) (by decide +kernel), im_in 1119 (by decide +kernel) (by decide +kernel)⟩
def mX11_cyclesWith : im_Y := (yX11_cyclesWith, cX11_cyclesWith, 3, some .int)
theorem mX11_cyclesWith_w : im_mV mX11_cyclesWith 2 := ⟨⟨im_in 58 (by decide +kernel) (by decide +kernel), im_in 1125 (by decide +kernel) (by decide +kernel), by decide, ⟨by decide +kernel, by decide +kernel⟩, by decide +kernel⟩, im_in 1123 (by decide +kernel) (by decide +kernel), im_in 1124 (by decide +kernel) (by decide +kernel)⟩
def mX11_enough : im_Y := (yX11_enough, cX11_enough, 1, some .int)
theorem mX11_enough_w : im_mV mX11_enough 0 := ⟨⟨im_in 58 (by decide +kernel) (by decide +kernel), im_in 1129 (by decide +kernel) (by decide +kernel), by decide, ⟨by decide +kernel, by decide +kernel⟩, by decide +kernel⟩, im_in 1127 (by decide +kernel) (by decide +kernel), im_in 1128 (by decide +kernel) (by decide +kernel)⟩
def mX11_fewestRegisters : im_Y := (yX11_fewestRegisters, cX11_fewestRegisters, 2, some .int)
theorem mX11_fewestRegisters_w : im_mV mX11_fewestRegisters 0 := ⟨⟨im_in 58 (by decide +kernel) (by decide +kernel), im_in 1133 (by decide +kernel) (by decide +kernel), by decide, ⟨by decide +kernel, by decide +kernel⟩, by decide +kernel⟩, im_in 1132 (by decide +kernel) (by decide +kernel), im_in 48 (by decide +kernel) (by decide +kernel)⟩
def mX11_unordered : im_Y := (yX11_unordered, cX11_unordered, 1, some .int)
theorem mX11_unordered_w : im_mV mX11_unordered 0 := ⟨⟨im_in 58 (by decide +kernel) (by decide +kernel), im_in 1139 (by decide +kernel) (by decide +kernel), by decide, ⟨by decide +kernel, by decide +kernel⟩, by decide +kernel⟩, im_in 1137 (by decide +kernel) (by decide +kernel), im_in 1138 (by decide +kernel) (by decide +kernel)⟩
def mX11_cyclesUnordered : im_Y := (yX11_cyclesUnordered, cX11_cyclesUnordered, 1, some .int)
theorem mX11_cyclesUnordered_w : im_mV mX11_cyclesUnordered 0 := ⟨⟨im_in 58 (by decide +kernel) (by decide +kernel), im_in 1143 (by decide +kernel) (by decide +kernel), by decide, ⟨by decide +kernel, by decide +kernel⟩, by decide +kernel⟩, im_in 1142 (by decide +kernel) (by decide +kernel), im_in 49 (by decide +kernel) (by decide +kernel)⟩
def mX11_digest : im_Y := (yX11_digest, cX11_digest, 5, some .long)
theorem mX11_digest_w : im_mV mX11_digest 0 := ⟨⟨im_in 58 (by decide +kernel) (by decide +kernel), im_in 1147 (by decide +kernel) (by decide +kernel), by decide, ⟨by decide +kernel, by decide +kernel⟩, by decide +kernel⟩, im_in 1145 (by decide +kernel) (by decide +kernel), im_in 1146 (by decide +kernel) (by decide +kernel)⟩
def mX11_mix : im_Y := (yX11_mix, cX11_mix, 4, some .long)
theorem mX11_mix_w : im_mS mX11_mix 2 := ⟨⟨im_in 58 (by decide +kernel) (by decide +kernel), im_in 1151 (by decide +kernel) (by decide +kernel), by decide, ⟨by decide +kernel, by decide +kernel⟩, by decide +kernel⟩, im_in 1150 (by decide +kernel) (by decide +kernel)⟩
def mX11_mixVariables : im_Y := (yX11_mixVariables, cX11_mixVariables, 8, some .long)
theorem mX11_mixVariables_w : im_mV mX11_mixVariables 2 := ⟨⟨im_in 58 (by decide +kernel) (by decide +kernel), im_in 1156 (by decide +kernel) (by decide +kernel), by decide, ⟨by decide +kernel, by decide +kernel⟩, by decide +kernel⟩, im_in 1155 (by decide +kernel) (by decide +kernel), im_in 50 (by decide +kernel) (by decide +kernel)⟩
def mX11_meantNow : im_Y := (yX11_meantNow, cX11_meantNow, 1, (some (FieldType.object "SpillslotWorks$Meaning")))
theorem mX11_meantNow_w : im_mV mX11_meantNow 0 := ⟨⟨im_in 58 (by decide +kernel) (by decide +kernel), im_in 1160 (by decide +kernel) (by decide +kernel), by decide, ⟨by decide +kernel, by decide +kernel⟩, by decide +kernel⟩, im_in 1159 (by decide +kernel) (by decide +kernel), im_in 51 (by decide +kernel) (by decide +kernel)⟩
def mX6_work : im_Y := (yX6_work, cX6_work, 4, none)
theorem mX6_work_w : im_mV mX6_work 0 := ⟨⟨im_in 60 (by decide +kernel) (by decide +kernel), im_in 1164 (by decide +kernel) (by decide +kernel), by decide, ⟨by decide +kernel, by decide +kernel⟩, by decide +kernel⟩, im_in 1162 (by decide +kernel) (by decide +kernel), im_in 1163 (by decide +kernel) (by decide +kernel)⟩
def mX6_workBlock : im_Y := (yX6_workBlock, cX6_workBlock, 6, none)
theorem mX6_workBlock_w : im_mV mX6_workBlock 1 := ⟨⟨im_in 60 (by decide +kernel) (by decide +kernel), im_in 1170 (by decide +kernel) (by decide +kernel), by decide, ⟨by decide +kernel, by decide +kernel⟩, by decide +kernel⟩, im_in 1169 (by decide +kernel) (by decide +kernel), im_in 52 (by decide +kernel) (by decide +kernel)⟩
def mX6_valueOf : im_Y := (yX6_valueOf, cX6_valueOf, 4, some .int)
theorem mX6_valueOf_w : im_mV mX6_valueOf 1 := ⟨⟨im_in 60 (by decide +kernel) (by decide +kernel), im_in 1176 (by decide +kernel) (by decide +kernel), by decide, ⟨by decide +kernel, by decide +kernel⟩, by decide +kernel⟩, im_in 1175 (by decide +kernel) (by decide +kernel), im_in 53 (by decide +kernel) (by decide +kernel)⟩
def mX10_tellAnswer : im_Y := (yX10_tellAnswer, cX10_tellAnswer, 3, some .int)
theorem mX10_tellAnswer_w : im_mV mX10_tellAnswer 2 := ⟨⟨im_in 66 (by decide +kernel) (by decide +kernel), im_in 1184 (by decide +kernel) (by decide +kernel), by decide, ⟨by decide +kernel, by decide +kernel⟩, by decide +kernel⟩, im_in 1182 (by decide +kernel) (by decide +kernel), im_in 1183 (by decide +kernel) (by decide +kernel)⟩
def mX2_numberOf : im_Y := (yX2_numberOf, cX2_numberOf, 2, some .int)
theorem mX2_numberOf_w : im_mV mX2_numberOf 1 := ⟨⟨im_in 67 (by decide +kernel) (by decide +kernel), im_in 1190 (by decide +kernel) (by decide +kernel), by decide, ⟨by decide +kernel, by decide +kernel⟩, by decide +kernel⟩, im_in 1188 (by decide +kernel) (by decide +kernel), im_in 1189 (by decide +kernel) (by decide +kernel)⟩
def mX11_mixLines : im_Y := (yX11_mixLines, cX11_mixLines, 8, some .long)
theorem mX11_mixLines_w : im_mV mX11_mixLines 2 := ⟨⟨im_in 58 (by decide +kernel) (by decide +kernel), im_in 1198 (by decide +kernel) (by decide +kernel), by decide, ⟨by decide +kernel, by decide +kernel⟩, by decide +kernel⟩, im_in 1197 (by decide +kernel) (by decide +kernel), im_in 54 (by decide +kernel) (by decide +kernel)⟩
def mX10_tellLine : im_Y := (yX10_tellLine, cX10_tellLine, 4, some .int)
theorem mX10_tellLine_w : im_mV mX10_tellLine 3 := ⟨⟨im_in 66 (by decide +kernel) (by decide +kernel), im_in 1202 (by decide +kernel) (by decide +kernel), by decide, ⟨by decide +kernel, by decide +kernel⟩, by decide +kernel⟩, im_in 1200 (by decide +kernel) (by decide +kernel), im_in 1201 (by decide +kernel) (by decide +kernel)⟩
def mX11_mixValues : im_Y := (yX11_mixValues, cX11_mixValues, 8, some .long)
theorem mX11_mixValues_w : im_mV mX11_mixValues 2 := ⟨⟨im_in 58 (by decide +kernel) (by decide +kernel), im_in 1212 (by decide +kernel) (by decide +kernel), by decide, ⟨by decide +kernel, by decide +kernel⟩, by decide +kernel⟩, im_in 1211 (by decide +kernel) (by decide +kernel), im_in 55 (by decide +kernel) (by decide +kernel)⟩
def mX10_tellValue : im_Y := (yX10_tellValue, cX10_tellValue, 4, some .int)
theorem mX10_tellValue_w : im_mV mX10_tellValue 3 := ⟨⟨im_in 66 (by decide +kernel) (by decide +kernel), im_in 1217 (by decide +kernel) (by decide +kernel), by decide, ⟨by decide +kernel, by decide +kernel⟩, by decide +kernel⟩, im_in 1215 (by decide +kernel) (by decide +kernel), im_in 1216 (by decide +kernel) (by decide +kernel)⟩
def mX4_weightOf : im_Y := (yX4_weightOf, cX4_weightOf, 2, some .int)
theorem mX4_weightOf_w : im_mV mX4_weightOf 1 := ⟨⟨im_in 65 (by decide +kernel) (by decide +kernel), im_in 1223 (by decide +kernel) (by decide +kernel), by decide, ⟨by decide +kernel, by decide +kernel⟩, by decide +kernel⟩, im_in 1221 (by decide +kernel) (by decide +kernel), im_in 1222 (by decide +kernel) (by decide +kernel)⟩
def mX4_touchesOf : im_Y := (yX4_touchesOf, cX4_touchesOf, 2, some .int)
theorem mX4_touchesOf_w : im_mV mX4_touchesOf 1 := ⟨⟨im_in 65 (by decide +kernel) (by decide +kernel), im_in 1228 (by decide +kernel) (by decide +kernel), by decide, ⟨by decide +kernel, by decide +kernel⟩, by decide +kernel⟩, im_in 1226 (by decide +kernel) (by decide +kernel), im_in 1227 (by decide +kernel) (by decide +kernel)⟩
def mX11_mixCalls : im_Y := (yX11_mixCalls, cX11_mixCalls, 8, some .long)
theorem mX11_mixCalls_w : im_mV mX11_mixCalls 2 := ⟨⟨im_in 58 (by decide +kernel) (by decide +kernel), im_in 1232 (by decide +kernel) (by decide +kernel), by decide, ⟨by decide +kernel, by decide +kernel⟩, by decide +kernel⟩, im_in 1231 (by decide +kernel) (by decide +kernel), im_in 56 (by decide +kernel) (by decide +kernel)⟩
def mX10_tellCall : im_Y := (yX10_tellCall, cX10_tellCall, 9, some .int)
theorem mX10_tellCall_w : im_mV mX10_tellCall 3 := ⟨⟨im_in 66 (by decide +kernel) (by decide +kernel), im_in 1236 (by decide +kernel) (by decide +kernel), by decide, ⟨by decide +kernel, by decide +kernel⟩, by decide +kernel⟩, im_in 1234 (by decide +kernel) (by decide +kernel), im_in 1235 (by decide +kernel) (by decide +kernel)⟩
def mX4_pointOfCall : im_Y := (yX4_pointOfCall, cX4_pointOfCall, 2, some .int)
theorem mX4_pointOfCall_w : im_mV mX4_pointOfCall 1 := ⟨⟨im_in 65 (by decide +kernel) (by decide +kernel), im_in 1240 (by decide +kernel) (by decide +kernel), by decide, ⟨by decide +kernel, by decide +kernel⟩, by decide +kernel⟩, im_in 1238 (by decide +kernel) (by decide +kernel), im_in 1239 (by decide +kernel) (by decide +kernel)⟩
def mX11_mixCode : im_Y := (yX11_mixCode, cX11_mixCode, 7, some .long)
theorem mX11_mixCode_w : im_mS mX11_mixCode 2 := ⟨⟨im_in 58 (by decide +kernel) (by decide +kernel), im_in 1245 (by decide +kernel) (by decide +kernel), by decide, ⟨by decide +kernel, by decide +kernel⟩, by decide +kernel⟩, im_in 1244 (by decide +kernel) (by decide +kernel)⟩
def mX1_tellPlace : im_Y := (yX1_tellPlace, cX1_tellPlace, 3, some .int)
theorem mX1_tellPlace_w : im_mV mX1_tellPlace 2 := ⟨⟨im_in 68 (by decide +kernel) (by decide +kernel), im_in 1249 (by decide +kernel) (by decide +kernel), by decide, ⟨by decide +kernel, by decide +kernel⟩, by decide +kernel⟩, im_in 1247 (by decide +kernel) (by decide +kernel), im_in 1248 (by decide +kernel) (by decide +kernel)⟩
def mX12_init : im_Y := (yX12_init, cX12_init, 1, none)
theorem mX12_init_w : im_mI mX12_init 0 := ⟨⟨im_in 70 (by decide +kernel) (by decide +kernel), im_in 1255 (by decide +kernel) (by decide +kernel), by decide, ⟨by decide +kernel, by decide +kernel⟩, by decide +kernel⟩, im_in 1254 (by decide +kernel) (by decide +kernel), rfl, rfl⟩
def mL_below : im_Y := (yL_below, cL_below, 2, some .int)
theorem mL_below_w : im_mS mL_below 2 := ⟨⟨im_in 57 (by decide +kernel) (by decide +kernel), im_in 1301 (by decide +kernel) (by decide +kernel), by decide, ⟨by decide +kernel, by decide +kernel⟩, by decide +kernel⟩, im_in 1300 (by decide +kernel) (by decide +kernel)⟩
def mL_cell : im_Y := (yL_cell, cL_cell, 2, some .int)
theorem mL_cell_w : im_mS mL_cell 2 := ⟨⟨im_in 57 (by decide +kernel) (by decide +kernel), im_in 1305 (by decide +kernel) (by decide +kernel), by decide, ⟨by decide +kernel, by decide +kernel⟩, by decide +kernel⟩, im_in 1304 (by decide +kernel) (by decide +kernel)⟩
def mL_write : im_Y := (yL_write, cL_write, 15, some .boolean)
theorem mL_write_w : im_mS mL_write 4 := ⟨⟨im_in 57 (by decide +kernel) (by decide +kernel), im_in 1309 (by decide +kernel) (by decide +kernel), by decide, ⟨by decide +kernel, by decide +kernel⟩, by decide +kernel⟩, im_in 1308 (by decide +kernel) (by decide +kernel)⟩
def mL_tree : im_Y := (yL_tree, cL_tree, 8, some .int)
theorem mL_tree_w : im_mS mL_tree 5 := ⟨⟨im_in 57 (by decide +kernel) (by decide +kernel), im_in 1315 (by decide +kernel) (by decide +kernel), by decide, ⟨by decide +kernel, by decide +kernel⟩, by decide +kernel⟩, im_in 1314 (by decide +kernel) (by decide +kernel)⟩
def mL_node : im_Y := (yL_node, cL_node, 6, some .int)
theorem mL_node_w : im_mS mL_node 5 := ⟨⟨im_in 57 (by decide +kernel) (by decide +kernel), im_in 1318 (by decide +kernel) (by decide +kernel), by decide, ⟨by decide +kernel, by decide +kernel⟩, by decide +kernel⟩, im_in 1317 (by decide +kernel) (by decide +kernel)⟩
def mX11_node : im_Y := (yX11_node, cX11_node, 4, some .int)
theorem mX11_node_w : im_mV mX11_node 3 := ⟨⟨im_in 58 (by decide +kernel) (by decide +kernel), im_in 1322 (by decide +kernel) (by decide +kernel), by decide, ⟨by decide +kernel, by decide +kernel⟩, by decide +kernel⟩, im_in 1320 (by decide +kernel) (by decide +kernel), im_in 1321 (by decide +kernel) (by decide +kernel)⟩
def mX8_canBeNode : im_Y := (yX8_canBeNode, cX8_canBeNode, 4, some .boolean)
theorem mX8_canBeNode_w : im_mV mX8_canBeNode 3 := ⟨⟨im_in 59 (by decide +kernel) (by decide +kernel), im_in 1326 (by decide +kernel) (by decide +kernel), by decide, ⟨by decide +kernel, by decide +kernel⟩, by decide +kernel⟩, im_in 1324 (by decide +kernel) (by decide +kernel), im_in 1325 (by decide +kernel) (by decide +kernel)⟩
def mX8_addNode : im_Y := (yX8_addNode, cX8_addNode, 5, some .int)
theorem mX8_addNode_w : im_mV mX8_addNode 3 := ⟨⟨im_in 59 (by decide +kernel) (by decide +kernel), im_in 1347 (by decide +kernel) (by decide +kernel), by decide, ⟨by decide +kernel, by decide +kernel⟩, by decide +kernel⟩, im_in 1345 (by decide +kernel) (by decide +kernel), im_in 1346 (by decide +kernel) (by decide +kernel)⟩
def mX12_with : im_Y := (yX12_with, cX12_with, 3, (some (FieldType.array (FieldType.array FieldType.int))))
theorem mX12_with_w : im_mS mX12_with 2 := ⟨⟨im_in 70 (by decide +kernel) (by decide +kernel), im_in 1351 (by decide +kernel) (by decide +kernel), by decide, ⟨by decide +kernel, by decide +kernel⟩, by decide +kernel⟩, im_in 1350 (by decide +kernel) (by decide +kernel)⟩
def mX11_statement : im_Y := (yX11_statement, cX11_statement, 4, some .int)
theorem mX11_statement_w : im_mV mX11_statement 3 := ⟨⟨im_in 58 (by decide +kernel) (by decide +kernel), im_in 1358 (by decide +kernel) (by decide +kernel), by decide, ⟨by decide +kernel, by decide +kernel⟩, by decide +kernel⟩, im_in 1356 (by decide +kernel) (by decide +kernel), im_in 1357 (by decide +kernel) (by decide +kernel)⟩
def mX8_addStatement : im_Y := (yX8_addStatement, cX8_addStatement, 5, some .int)
theorem mX8_addStatement_w : im_mV mX8_addStatement 3 := ⟨⟨im_in 59 (by decide +kernel) (by decide +kernel), im_in 1366 (by decide +kernel) (by decide +kernel), by decide, ⟨by decide +kernel, by decide +kernel⟩, by decide +kernel⟩, im_in 1364 (by decide +kernel) (by decide +kernel), im_in 1365 (by decide +kernel) (by decide +kernel)⟩
def mX11_times : im_Y := (yX11_times, cX11_times, 4, some .int)
theorem mX11_times_w : im_mV mX11_times 2 := ⟨⟨im_in 58 (by decide +kernel) (by decide +kernel), im_in 1371 (by decide +kernel) (by decide +kernel), by decide, ⟨by decide +kernel, by decide +kernel⟩, by decide +kernel⟩, im_in 1369 (by decide +kernel) (by decide +kernel), im_in 1370 (by decide +kernel) (by decide +kernel)⟩
def mX11_out : im_Y := (yX11_out, cX11_out, 3, some .int)
theorem mX11_out_w : im_mV mX11_out 1 := ⟨⟨im_in 58 (by decide +kernel) (by decide +kernel), im_in 1378 (by decide +kernel) (by decide +kernel), by decide, ⟨by decide +kernel, by decide +kernel⟩, by decide +kernel⟩, im_in 1376 (by decide +kernel) (by decide +kernel), im_in 1377 (by decide +kernel) (by decide +kernel)⟩
def mL_machine : im_Y := (yL_machine, cL_machine, 7, some .boolean)
theorem mL_machine_w : im_mS mL_machine 4 := ⟨⟨im_in 57 (by decide +kernel) (by decide +kernel), im_in 1382 (by decide +kernel) (by decide +kernel), by decide, ⟨by decide +kernel, by decide +kernel⟩, by decide +kernel⟩, im_in 1381 (by decide +kernel) (by decide +kernel)⟩
def mL_isMeant : im_Y := (yL_isMeant, cL_isMeant, 4, some .boolean)
theorem mL_isMeant_w : im_mS mL_isMeant 2 := ⟨⟨im_in 57 (by decide +kernel) (by decide +kernel), im_in 1385 (by decide +kernel) (by decide +kernel), by decide, ⟨by decide +kernel, by decide +kernel⟩, by decide +kernel⟩, im_in 1384 (by decide +kernel) (by decide +kernel)⟩
def mX12_meant : im_Y := (yX12_meant, cX12_meant, 8, (some (FieldType.array FieldType.int)))
theorem mX12_meant_w : im_mV mX12_meant 0 := ⟨⟨im_in 70 (by decide +kernel) (by decide +kernel), im_in 1389 (by decide +kernel) (by decide +kernel), by decide, ⟨by decide +kernel, by decide +kernel⟩, by decide +kernel⟩, im_in 1387 (by decide +kernel) (by decide +kernel), im_in 1388 (by decide +kernel) (by decide +kernel)⟩
def mX12_value : im_Y := (yX12_value, cX12_value, 6, some .int)
theorem mX12_value_w : im_mV mX12_value 2 := ⟨⟨im_in 70 (by decide +kernel) (by decide +kernel), im_in 1393 (by decide +kernel) (by decide +kernel), by decide, ⟨by decide +kernel, by decide +kernel⟩, by decide +kernel⟩, im_in 1391 (by decide +kernel) (by decide +kernel), im_in 1392 (by decide +kernel) (by decide +kernel)⟩
def mX11_meant : im_Y := (yX11_meant, cX11_meant, 2, some .int)
theorem mX11_meant_w : im_mV mX11_meant 1 := ⟨⟨im_in 58 (by decide +kernel) (by decide +kernel), im_in 1397 (by decide +kernel) (by decide +kernel), by decide, ⟨by decide +kernel, by decide +kernel⟩, by decide +kernel⟩, im_in 1395 (by decide +kernel) (by decide +kernel), im_in 1396 (by decide +kernel) (by decide +kernel)⟩
def mX11_answer : im_Y := (yX11_answer, cX11_answer, 2, some .int)
theorem mX11_answer_w : im_mV mX11_answer 1 := ⟨⟨im_in 58 (by decide +kernel) (by decide +kernel), im_in 1402 (by decide +kernel) (by decide +kernel), by decide, ⟨by decide +kernel, by decide +kernel⟩, by decide +kernel⟩, im_in 1400 (by decide +kernel) (by decide +kernel), im_in 1401 (by decide +kernel) (by decide +kernel)⟩
def mL_isWhole : im_Y := (yL_isWhole, cL_isWhole, 9, some .boolean)
theorem mL_isWhole_w : im_mS mL_isWhole 3 := ⟨⟨im_in 57 (by decide +kernel) (by decide +kernel), im_in 1406 (by decide +kernel) (by decide +kernel), by decide, ⟨by decide +kernel, by decide +kernel⟩, by decide +kernel⟩, im_in 1405 (by decide +kernel) (by decide +kernel)⟩
def mX11_chosen : im_Y := (yX11_chosen, cX11_chosen, 4, some .int)
theorem mX11_chosen_w : im_mV mX11_chosen 2 := ⟨⟨im_in 58 (by decide +kernel) (by decide +kernel), im_in 1410 (by decide +kernel) (by decide +kernel), by decide, ⟨by decide +kernel, by decide +kernel⟩, by decide +kernel⟩, im_in 1408 (by decide +kernel) (by decide +kernel), im_in 1409 (by decide +kernel) (by decide +kernel)⟩
def mX11_ofValue : im_Y := (yX11_ofValue, cX11_ofValue, 4, some .int)
theorem mX11_ofValue_w : im_mV mX11_ofValue 2 := ⟨⟨im_in 58 (by decide +kernel) (by decide +kernel), im_in 1415 (by decide +kernel) (by decide +kernel), by decide, ⟨by decide +kernel, by decide +kernel⟩, by decide +kernel⟩, im_in 1413 (by decide +kernel) (by decide +kernel), im_in 1414 (by decide +kernel) (by decide +kernel)⟩
theorem ml_L_95 : Cond.methodLink RL 95 yX11_init ∈ im_W := im_in 82 (by decide +kernel) (by decide +kernel)
theorem ml_X11_3 : Cond.methodLink RX11 3 Lib.objectInit ∈ im_W := im_in 85 (by decide +kernel) (by decide +kernel)
theorem ml_X11_11 : Cond.methodLink RX11 11 yX8_init ∈ im_W := im_in 90 (by decide +kernel) (by decide +kernel)
theorem ml_X8_3 : Cond.methodLink RX8 3 Lib.objectInit ∈ im_W := im_in 93 (by decide +kernel) (by decide +kernel)
theorem ml_X11_18 : Cond.methodLink RX11 18 yX6_init ∈ im_W := im_in 146 (by decide +kernel) (by decide +kernel)
theorem ml_X6_3 : Cond.methodLink RX6 3 Lib.objectInit ∈ im_W := im_in 149 (by decide +kernel) (by decide +kernel)
theorem ml_X11_27 : Cond.methodLink RX11 27 yX5_init ∈ im_W := im_in 163 (by decide +kernel) (by decide +kernel)
theorem ml_X5_3 : Cond.methodLink RX5 3 Lib.objectInit ∈ im_W := im_in 166 (by decide +kernel) (by decide +kernel)
theorem ml_X11_37 : Cond.methodLink RX11 37 yX7_init ∈ im_W := im_in 201 (by decide +kernel) (by decide +kernel)
theorem ml_X7_3 : Cond.methodLink RX7 3 Lib.objectInit ∈ im_W := im_in 204 (by decide +kernel) (by decide +kernel)
theorem ml_X7_21 : Cond.methodLink RX7 21 yX0_init ∈ im_W := im_in 207 (by decide +kernel) (by decide +kernel)
theorem ml_X0_3 : Cond.methodLink RX0 3 Lib.objectInit ∈ im_W := im_in 210 (by decide +kernel) (by decide +kernel)
theorem ml_X7_30 : Cond.methodLink RX7 30 yX3_init ∈ im_W := im_in 250 (by decide +kernel) (by decide +kernel)
theorem ml_X3_3 : Cond.methodLink RX3 3 Lib.objectInit ∈ im_W := im_in 253 (by decide +kernel) (by decide +kernel)
theorem ml_X7_37 : Cond.methodLink RX7 37 yX4_init ∈ im_W := im_in 284 (by decide +kernel) (by decide +kernel)
theorem ml_X4_3 : Cond.methodLink RX4 3 Lib.objectInit ∈ im_W := im_in 287 (by decide +kernel) (by decide +kernel)
theorem ml_X11_49 : Cond.methodLink RX11 49 yX10_init ∈ im_W := im_in 366 (by decide +kernel) (by decide +kernel)
theorem ml_X10_3 : Cond.methodLink RX10 3 Lib.objectInit ∈ im_W := im_in 369 (by decide +kernel) (by decide +kernel)
theorem ml_X10_17 : Cond.methodLink RX10 17 yX2_init ∈ im_W := im_in 372 (by decide +kernel) (by decide +kernel)
theorem ml_X2_3 : Cond.methodLink RX2 3 Lib.objectInit ∈ im_W := im_in 375 (by decide +kernel) (by decide +kernel)
theorem ml_X10_26 : Cond.methodLink RX10 26 yX1_init ∈ im_W := im_in 417 (by decide +kernel) (by decide +kernel)
theorem ml_X1_3 : Cond.methodLink RX1 3 Lib.objectInit ∈ im_W := im_in 420 (by decide +kernel) (by decide +kernel)
theorem ml_X10_33 : Cond.methodLink RX10 33 yX9_init ∈ im_W := im_in 447 (by decide +kernel) (by decide +kernel)
theorem ml_X9_3 : Cond.methodLink RX9 3 Lib.objectInit ∈ im_W := im_in 450 (by decide +kernel) (by decide +kernel)
theorem ml_L_86 : Cond.methodLink RL 86 yX11_machine ∈ im_W := im_in 536 (by decide +kernel) (by decide +kernel)
theorem ml_X11_57 : Cond.methodLink RX11 57 yX11_isMachine ∈ im_W := im_in 540 (by decide +kernel) (by decide +kernel)
theorem ml_X11_332 : Cond.methodLink RX11 332 yX11_bit ∈ im_W := im_in 543 (by decide +kernel) (by decide +kernel)
theorem ml_X11_85 : Cond.methodLink RX11 85 yX11_forget ∈ im_W := im_in 614 (by decide +kernel) (by decide +kernel)
theorem ml_L_92 : Cond.methodLink RL 92 yX11_latency ∈ im_W := im_in 618 (by decide +kernel) (by decide +kernel)
theorem ml_X11_88 : Cond.methodLink RX11 88 yX11_isBelow ∈ im_W := im_in 622 (by decide +kernel) (by decide +kernel)
theorem ml_X11_102 : Cond.methodLink RX11 102 yX11_at ∈ im_W := im_in 642 (by decide +kernel) (by decide +kernel)
theorem ml_X11_106 : Cond.methodLink RX11 106 yX11_put ∈ im_W := im_in 645 (by decide +kernel) (by decide +kernel)
theorem ml_L_103 : Cond.methodLink RL 103 yX11_many ∈ im_W := im_in 648 (by decide +kernel) (by decide +kernel)
theorem ml_X11_177 : Cond.methodLink RX11 177 yX11_builtNow ∈ im_W := im_in 653 (by decide +kernel) (by decide +kernel)
theorem ml_X11_281 : Cond.methodLink RX11 281 yX7_build ∈ im_W := im_in 657 (by decide +kernel) (by decide +kernel)
theorem ml_X7_57 : Cond.methodLink RX7 57 yX0_coverAll ∈ im_W := im_in 661 (by decide +kernel) (by decide +kernel)
theorem mn_X0_54 : Cond.methodLinkNest RX0 54 yX11_at "SpillslotWorks" ∈ im_nest := im_inN 665 (by decide +kernel) (by decide +kernel)
theorem mn_X0_58 : Cond.methodLinkNest RX0 58 yX11_put "SpillslotWorks" ∈ im_nest := im_inN 666 (by decide +kernel) (by decide +kernel)
theorem ml_X0_62 : Cond.methodLink RX0 62 yX0_coverLeaf ∈ im_W := im_in 667 (by decide +kernel) (by decide +kernel)
theorem ml_X0_75 : Cond.methodLink RX0 75 yX0_setNodes ∈ im_W := im_in 671 (by decide +kernel) (by decide +kernel)
theorem ml_X0_79 : Cond.methodLink RX0 79 yX5_cyclesOf ∈ im_W := im_in 674 (by decide +kernel) (by decide +kernel)
theorem fn_X5_40 : Cond.fieldLinkNest RX5 40 "SpillslotWorks" "LATENCY_KIND_OF" "[I" "SpillslotWorks" ∈ im_nest := im_inN 678 (by decide +kernel) (by decide +kernel)
theorem mn_X5_32 : Cond.methodLinkNest RX5 32 yX11_at "SpillslotWorks" ∈ im_nest := im_inN 680 (by decide +kernel) (by decide +kernel)
theorem ml_X0_66 : Cond.methodLink RX0 66 yX0_coverPlain ∈ im_W := im_in 681 (by decide +kernel) (by decide +kernel)
theorem ml_X0_69 : Cond.methodLink RX0 69 yX0_coverSmall ∈ im_W := im_in 685 (by decide +kernel) (by decide +kernel)
theorem ml_X0_91 : Cond.methodLink RX0 91 yX0_isSmall ∈ im_W := im_in 689 (by decide +kernel) (by decide +kernel)
theorem ml_X0_72 : Cond.methodLink RX0 72 yX0_coverFused ∈ im_W := im_in 693 (by decide +kernel) (by decide +kernel)
theorem ml_X7_60 : Cond.methodLink RX7 60 yX7_chooseAll ∈ im_W := im_in 697 (by decide +kernel) (by decide +kernel)
theorem ml_X7_63 : Cond.methodLink RX7 63 yX3_clear ∈ im_W := im_in 701 (by decide +kernel) (by decide +kernel)
theorem mn_X7_77 : Cond.methodLinkNest RX7 77 yX11_put "SpillslotWorks" ∈ im_nest := im_inN 705 (by decide +kernel) (by decide +kernel)
theorem ml_X7_95 : Cond.methodLink RX7 95 yX8_statementsIn ∈ im_W := im_in 706 (by decide +kernel) (by decide +kernel)
theorem mn_X8_51 : Cond.methodLinkNest RX8 51 yX11_at "SpillslotWorks" ∈ im_nest := im_inN 710 (by decide +kernel) (by decide +kernel)
theorem ml_X7_101 : Cond.methodLink RX7 101 yX0_chooseStatement ∈ im_W := im_in 711 (by decide +kernel) (by decide +kernel)
theorem ml_X0_102 : Cond.methodLink RX0 102 yX8_rootOf ∈ im_W := im_in 715 (by decide +kernel) (by decide +kernel)
theorem ml_X8_63 : Cond.methodLink RX8 63 yX8_placeOf ∈ im_W := im_in 719 (by decide +kernel) (by decide +kernel)
theorem ml_X0_106 : Cond.methodLink RX0 106 yX0_gather ∈ im_W := im_in 722 (by decide +kernel) (by decide +kernel)
theorem ml_X0_119 : Cond.methodLink RX0 119 yX0_push ∈ im_W := im_in 726 (by decide +kernel) (by decide +kernel)
theorem ml_X0_109 : Cond.methodLink RX0 109 yX0_emit ∈ im_W := im_in 730 (by decide +kernel) (by decide +kernel)
theorem ml_X0_123 : Cond.methodLink RX0 123 yX3_add ∈ im_W := im_in 734 (by decide +kernel) (by decide +kernel)
theorem mn_X3_34 : Cond.methodLinkNest RX3 34 yX11_put "SpillslotWorks" ∈ im_nest := im_inN 738 (by decide +kernel) (by decide +kernel)
theorem ml_X0_129 : Cond.methodLink RX0 129 yX3_setNumber ∈ im_W := im_in 739 (by decide +kernel) (by decide +kernel)
theorem ml_X0_132 : Cond.methodLink RX0 132 yX3_setReads ∈ im_W := im_in 743 (by decide +kernel) (by decide +kernel)
theorem ml_X0_135 : Cond.methodLink RX0 135 yX0_valueRead ∈ im_W := im_in 747 (by decide +kernel) (by decide +kernel)
theorem ml_X0_113 : Cond.methodLink RX0 113 yX8_variableOf ∈ im_W := im_in 751 (by decide +kernel) (by decide +kernel)
theorem ml_X7_66 : Cond.methodLink RX7 66 yX7_addEntry ∈ im_W := im_in 755 (by decide +kernel) (by decide +kernel)
theorem ml_X7_105 : Cond.methodLink RX7 105 yX7_earlyVariables ∈ im_W := im_in 759 (by decide +kernel) (by decide +kernel)
theorem ml_X7_120 : Cond.methodLink RX7 120 yX3_readBy ∈ im_W := im_in 763 (by decide +kernel) (by decide +kernel)
theorem mn_X3_73 : Cond.methodLinkNest RX3 73 yX11_at "SpillslotWorks" ∈ im_nest := im_inN 767 (by decide +kernel) (by decide +kernel)
theorem ml_X7_124 : Cond.methodLink RX7 124 yX7_variableBit ∈ im_W := im_in 768 (by decide +kernel) (by decide +kernel)
theorem mn_X7_133 : Cond.methodLinkNest RX7 133 yX11_isBelow "SpillslotWorks" ∈ im_nest := im_inN 771 (by decide +kernel) (by decide +kernel)
theorem mn_X7_136 : Cond.methodLinkNest RX7 136 yX11_bit "SpillslotWorks" ∈ im_nest := im_inN 772 (by decide +kernel) (by decide +kernel)
theorem ml_X7_127 : Cond.methodLink RX7 127 yX3_writtenBy ∈ im_W := im_in 773 (by decide +kernel) (by decide +kernel)
theorem mn_X7_109 : Cond.methodLinkNest RX7 109 yX11_hasBit "SpillslotWorks" ∈ im_nest := im_inN 777 (by decide +kernel) (by decide +kernel)
theorem ml_X7_113 : Cond.methodLink RX7 113 yX3_add ∈ im_W := im_in 780 (by decide +kernel) (by decide +kernel)
theorem ml_X7_117 : Cond.methodLink RX7 117 yX3_setReads ∈ im_W := im_in 781 (by decide +kernel) (by decide +kernel)
theorem mn_X7_69 : Cond.methodLinkNest RX7 69 yX11_at "SpillslotWorks" ∈ im_nest := im_inN 782 (by decide +kernel) (by decide +kernel)
theorem ml_X7_81 : Cond.methodLink RX7 81 yX7_measureHeights ∈ im_W := im_in 783 (by decide +kernel) (by decide +kernel)
end
section
theorem ml_X7_145 : Cond.methodLink RX7 145 yX3_heightOf ∈ im_W := im_in 787 (by decide +kernel) (by decide +kernel)
theorem ml_X7_148 : Cond.methodLink RX7 148 yX7_isNeeding ∈ im_W := im_in 791 (by decide +kernel) (by decide +kernel)
theorem ml_X7_139 : Cond.methodLink RX7 139 yX3_isReading ∈ im_W := im_in 795 (by decide +kernel) (by decide +kernel)
theorem ml_X7_142 : Cond.methodLink RX7 142 yX3_kindOf ∈ im_W := im_in 799 (by decide +kernel) (by decide +kernel)
theorem ml_X7_151 : Cond.methodLink RX7 151 yX5_cyclesOf ∈ im_W := im_in 803 (by decide +kernel) (by decide +kernel)
theorem ml_X7_156 : Cond.methodLink RX7 156 yX3_setHeight ∈ im_W := im_in 804 (by decide +kernel) (by decide +kernel)
theorem ml_X7_85 : Cond.methodLink RX7 85 yX7_placeByHeight ∈ im_W := im_in 808 (by decide +kernel) (by decide +kernel)
theorem ml_X7_163 : Cond.methodLink RX7 163 yX7_countMissing ∈ im_W := im_in 812 (by decide +kernel) (by decide +kernel)
theorem ml_X7_166 : Cond.methodLink RX7 166 yX7_highestReady ∈ im_W := im_in 816 (by decide +kernel) (by decide +kernel)
theorem ml_X7_159 : Cond.methodLink RX7 159 yX3_addCopy ∈ im_W := im_in 820 (by decide +kernel) (by decide +kernel)
theorem ml_X3_38 : Cond.methodLink RX3 38 yX3_kindOf ∈ im_W := im_in 824 (by decide +kernel) (by decide +kernel)
theorem ml_X3_42 : Cond.methodLink RX3 42 yX3_writtenBy ∈ im_W := im_in 825 (by decide +kernel) (by decide +kernel)
theorem ml_X3_45 : Cond.methodLink RX3 45 yX3_blockOf ∈ im_W := im_in 826 (by decide +kernel) (by decide +kernel)
theorem ml_X3_48 : Cond.methodLink RX3 48 yX3_add ∈ im_W := im_in 830 (by decide +kernel) (by decide +kernel)
theorem ml_X3_52 : Cond.methodLink RX3 52 yX3_readBy ∈ im_W := im_in 831 (by decide +kernel) (by decide +kernel)
theorem ml_X3_56 : Cond.methodLink RX3 56 yX3_setReads ∈ im_W := im_in 832 (by decide +kernel) (by decide +kernel)
theorem ml_X3_59 : Cond.methodLink RX3 59 yX3_numberOf ∈ im_W := im_in 833 (by decide +kernel) (by decide +kernel)
theorem ml_X3_62 : Cond.methodLink RX3 62 yX3_setNumber ∈ im_W := im_in 837 (by decide +kernel) (by decide +kernel)
theorem ml_X3_66 : Cond.methodLink RX3 66 yX3_heightOf ∈ im_W := im_in 838 (by decide +kernel) (by decide +kernel)
theorem ml_X3_69 : Cond.methodLink RX3 69 yX3_setHeight ∈ im_W := im_in 839 (by decide +kernel) (by decide +kernel)
theorem ml_X7_88 : Cond.methodLink RX7 88 yX7_placeAsChosen ∈ im_W := im_in 840 (by decide +kernel) (by decide +kernel)
theorem ml_X7_91 : Cond.methodLink RX7 91 yX4_measure ∈ im_W := im_in 844 (by decide +kernel) (by decide +kernel)
theorem mn_X4_50 : Cond.methodLinkNest RX4 50 yX11_fill "SpillslotWorks" ∈ im_nest := im_inN 848 (by decide +kernel) (by decide +kernel)
theorem ml_X4_59 : Cond.methodLink RX4 59 yX4_touch ∈ im_W := im_in 851 (by decide +kernel) (by decide +kernel)
theorem ml_X4_82 : Cond.methodLink RX4 82 yX3_blockOf ∈ im_W := im_in 855 (by decide +kernel) (by decide +kernel)
theorem ml_X4_85 : Cond.methodLink RX4 85 yX8_roundsOf ∈ im_W := im_in 856 (by decide +kernel) (by decide +kernel)
theorem ml_X4_90 : Cond.methodLink RX4 90 yX3_writtenBy ∈ im_W := im_in 860 (by decide +kernel) (by decide +kernel)
theorem mn_X4_93 : Cond.methodLinkNest RX4 93 yX11_at "SpillslotWorks" ∈ im_nest := im_inN 861 (by decide +kernel) (by decide +kernel)
theorem mn_X4_71 : Cond.methodLinkNest RX4 71 yX11_put "SpillslotWorks" ∈ im_nest := im_inN 862 (by decide +kernel) (by decide +kernel)
theorem ml_X4_97 : Cond.methodLink RX4 97 yX4_touchValue ∈ im_W := im_in 863 (by decide +kernel) (by decide +kernel)
theorem ml_X4_101 : Cond.methodLink RX4 101 yX3_readBy ∈ im_W := im_in 870 (by decide +kernel) (by decide +kernel)
theorem ml_X4_105 : Cond.methodLink RX4 105 yX3_kindOf ∈ im_W := im_in 871 (by decide +kernel) (by decide +kernel)
theorem ml_X4_63 : Cond.methodLink RX4 63 yX4_isLiving ∈ im_W := im_in 872 (by decide +kernel) (by decide +kernel)
theorem mn_X4_129 : Cond.methodLinkNest RX4 129 yX11_isBelow "SpillslotWorks" ∈ im_nest := im_inN 876 (by decide +kernel) (by decide +kernel)
theorem ml_X4_67 : Cond.methodLink RX4 67 yX4_endOf ∈ im_W := im_in 877 (by decide +kernel) (by decide +kernel)
theorem mn_X4_116 : Cond.methodLinkNest RX4 116 yX11_hasBit "SpillslotWorks" ∈ im_nest := im_inN 881 (by decide +kernel) (by decide +kernel)
theorem ml_X4_120 : Cond.methodLink RX4 120 yX4_lastOf ∈ im_W := im_in 882 (by decide +kernel) (by decide +kernel)
theorem ml_X4_123 : Cond.methodLink RX4 123 yX4_firstOf ∈ im_W := im_in 886 (by decide +kernel) (by decide +kernel)
theorem ml_X4_75 : Cond.methodLink RX4 75 yX4_weigh ∈ im_W := im_in 890 (by decide +kernel) (by decide +kernel)
theorem ml_X4_79 : Cond.methodLink RX4 79 yX4_countCrossed ∈ im_W := im_in 894 (by decide +kernel) (by decide +kernel)
theorem ml_X4_126 : Cond.methodLink RX4 126 yX4_isCrossing ∈ im_W := im_in 898 (by decide +kernel) (by decide +kernel)
theorem ml_X11_285 : Cond.methodLink RX11 285 yX10_build ∈ im_W := im_in 902 (by decide +kernel) (by decide +kernel)
theorem ml_X10_50 : Cond.methodLink RX10 50 yX2_give ∈ im_W := im_in 906 (by decide +kernel) (by decide +kernel)
theorem mn_X2_41 : Cond.methodLinkNest RX2 41 yX11_fill "SpillslotWorks" ∈ im_nest := im_inN 910 (by decide +kernel) (by decide +kernel)
theorem ml_X2_50 : Cond.methodLink RX2 50 yX2_isBirth ∈ im_W := im_in 911 (by decide +kernel) (by decide +kernel)
theorem ml_X2_58 : Cond.methodLink RX2 58 yX3_writtenBy ∈ im_W := im_in 914 (by decide +kernel) (by decide +kernel)
theorem ml_X2_80 : Cond.methodLink RX2 80 yX4_firstOf ∈ im_W := im_in 915 (by decide +kernel) (by decide +kernel)
theorem ml_X2_54 : Cond.methodLink RX2 54 yX2_giveRegister ∈ im_W := im_in 916 (by decide +kernel) (by decide +kernel)
theorem ml_X2_83 : Cond.methodLink RX2 83 yX4_crossedBy ∈ im_W := im_in 920 (by decide +kernel) (by decide +kernel)
theorem ml_X2_91 : Cond.methodLink RX2 91 yX5_scratch ∈ im_W := im_in 924 (by decide +kernel) (by decide +kernel)
theorem mn_X2_95 : Cond.methodLinkNest RX2 95 yX11_bit "SpillslotWorks" ∈ im_nest := im_inN 928 (by decide +kernel) (by decide +kernel)
theorem ml_X2_98 : Cond.methodLink RX2 98 yX2_takenBehind ∈ im_W := im_in 929 (by decide +kernel) (by decide +kernel)
theorem mn_X2_121 : Cond.methodLinkNest RX2 121 yX11_at "SpillslotWorks" ∈ im_nest := im_inN 933 (by decide +kernel) (by decide +kernel)
theorem ml_X2_125 : Cond.methodLink RX2 125 yX4_lastOf ∈ im_W := im_in 934 (by decide +kernel) (by decide +kernel)
theorem ml_X2_102 : Cond.methodLink RX2 102 yX2_spillOne ∈ im_W := im_in 935 (by decide +kernel) (by decide +kernel)
theorem mn_X2_110 : Cond.methodLinkNest RX2 110 yX11_hasBit "SpillslotWorks" ∈ im_nest := im_inN 939 (by decide +kernel) (by decide +kernel)
theorem ml_X2_142 : Cond.methodLink RX2 142 yX2_isLighter ∈ im_W := im_in 940 (by decide +kernel) (by decide +kernel)
theorem mn_X2_117 : Cond.methodLinkNest RX2 117 yX11_put "SpillslotWorks" ∈ im_nest := im_inN 943 (by decide +kernel) (by decide +kernel)
theorem ml_X2_106 : Cond.methodLink RX2 106 yX2_likedRegister ∈ im_W := im_in 944 (by decide +kernel) (by decide +kernel)
theorem ml_X2_128 : Cond.methodLink RX2 128 yX3_kindOf ∈ im_W := im_in 948 (by decide +kernel) (by decide +kernel)
theorem ml_X2_135 : Cond.methodLink RX2 135 yX3_readBy ∈ im_W := im_in 949 (by decide +kernel) (by decide +kernel)
theorem ml_X2_139 : Cond.methodLink RX2 139 yX2_registerOf ∈ im_W := im_in 950 (by decide +kernel) (by decide +kernel)
theorem ml_X2_114 : Cond.methodLink RX2 114 yX2_smallestOf ∈ im_W := im_in 954 (by decide +kernel) (by decide +kernel)
theorem ml_X2_62 : Cond.methodLink RX2 62 yX2_isSpilled ∈ im_W := im_in 957 (by decide +kernel) (by decide +kernel)
theorem ml_X2_66 : Cond.methodLink RX2 66 yX2_giveSlot ∈ im_W := im_in 961 (by decide +kernel) (by decide +kernel)
theorem ml_X2_149 : Cond.methodLink RX2 149 yX4_writesOf ∈ im_W := im_in 965 (by decide +kernel) (by decide +kernel)
theorem ml_X2_152 : Cond.methodLink RX2 152 yX3_numberOf ∈ im_W := im_in 969 (by decide +kernel) (by decide +kernel)
theorem ml_X2_155 : Cond.methodLink RX2 155 yX2_firstSlotFree ∈ im_W := im_in 970 (by decide +kernel) (by decide +kernel)
theorem ml_X2_74 : Cond.methodLink RX2 74 yX2_keptInUse ∈ im_W := im_in 975 (by decide +kernel) (by decide +kernel)
theorem ml_X2_163 : Cond.methodLink RX2 163 yJ6_bitCount_0f7a4 ∈ im_W := im_in 979 (by decide +kernel) (by decide +kernel)
theorem ml_X10_54 : Cond.methodLink RX10 54 yX1_make ∈ im_W := im_in 985 (by decide +kernel) (by decide +kernel)
theorem mn_X1_40 : Cond.methodLinkNest RX1 40 yX11_put "SpillslotWorks" ∈ im_nest := im_inN 989 (by decide +kernel) (by decide +kernel)
theorem ml_X1_44 : Cond.methodLink RX1 44 yX3_kindOf ∈ im_W := im_in 990 (by decide +kernel) (by decide +kernel)
theorem ml_X1_48 : Cond.methodLink RX1 48 yX1_makeCall ∈ im_W := im_in 991 (by decide +kernel) (by decide +kernel)
theorem ml_X1_52 : Cond.methodLink RX1 52 yX3_writtenBy ∈ im_W := im_in 995 (by decide +kernel) (by decide +kernel)
theorem ml_X1_98 : Cond.methodLink RX1 98 yX3_readBy ∈ im_W := im_in 996 (by decide +kernel) (by decide +kernel)
theorem ml_X1_77 : Cond.methodLink RX1 77 yX2_registerOf ∈ im_W := im_in 997 (by decide +kernel) (by decide +kernel)
theorem ml_X1_71 : Cond.methodLink RX1 71 yX5_scratch ∈ im_W := im_in 998 (by decide +kernel) (by decide +kernel)
theorem ml_X1_87 : Cond.methodLink RX1 87 yX1_addMove ∈ im_W := im_in 999 (by decide +kernel) (by decide +kernel)
theorem ml_X1_83 : Cond.methodLink RX1 83 yX1_add ∈ im_W := im_in 1003 (by decide +kernel) (by decide +kernel)
theorem ml_X1_126 : Cond.methodLink RX1 126 yX1_bring ∈ im_W := im_in 1007 (by decide +kernel) (by decide +kernel)
theorem ml_X1_68 : Cond.methodLink RX1 68 yX2_isSpilled ∈ im_W := im_in 1011 (by decide +kernel) (by decide +kernel)
theorem ml_X1_102 : Cond.methodLink RX1 102 yX1_addLoad ∈ im_W := im_in 1012 (by decide +kernel) (by decide +kernel)
theorem mn_X1_109 : Cond.methodLinkNest RX1 109 yX11_at "SpillslotWorks" ∈ im_nest := im_inN 1016 (by decide +kernel) (by decide +kernel)
theorem ml_X1_95 : Cond.methodLink RX1 95 yX2_slotOf ∈ im_W := im_in 1017 (by decide +kernel) (by decide +kernel)
theorem ml_X1_55 : Cond.methodLink RX1 55 yX2_isRemade ∈ im_W := im_in 1021 (by decide +kernel) (by decide +kernel)
theorem ml_X1_61 : Cond.methodLink RX1 61 yX1_makeOne ∈ im_W := im_in 1025 (by decide +kernel) (by decide +kernel)
theorem ml_X1_64 : Cond.methodLink RX1 64 yX1_fetch ∈ im_W := im_in 1029 (by decide +kernel) (by decide +kernel)
theorem ml_X1_80 : Cond.methodLink RX1 80 yX3_numberOf ∈ im_W := im_in 1033 (by decide +kernel) (by decide +kernel)
theorem ml_X1_91 : Cond.methodLink RX1 91 yX1_operate ∈ im_W := im_in 1034 (by decide +kernel) (by decide +kernel)
theorem ml_X1_123 : Cond.methodLink RX1 123 yX1_addOperation ∈ im_W := im_in 1038 (by decide +kernel) (by decide +kernel)
theorem ml_X10_62 : Cond.methodLink RX10 62 yX9_go ∈ im_W := im_in 1042 (by decide +kernel) (by decide +kernel)
theorem mn_X9_45 : Cond.methodLinkNest RX9 45 yX11_fill "SpillslotWorks" ∈ im_nest := im_inN 1046 (by decide +kernel) (by decide +kernel)
theorem mn_X9_49 : Cond.methodLinkNest RX9 49 yX11_at "SpillslotWorks" ∈ im_nest := im_inN 1047 (by decide +kernel) (by decide +kernel)
theorem ml_X9_53 : Cond.methodLink RX9 53 yX1_startOf ∈ im_W := im_in 1048 (by decide +kernel) (by decide +kernel)
theorem ml_X9_59 : Cond.methodLink RX9 59 yX9_goThrough ∈ im_W := im_in 1052 (by decide +kernel) (by decide +kernel)
theorem ml_X9_68 : Cond.methodLink RX9 68 yX1_kindOf ∈ im_W := im_in 1056 (by decide +kernel) (by decide +kernel)
theorem ml_X9_71 : Cond.methodLink RX9 71 yX1_operandOf ∈ im_W := im_in 1060 (by decide +kernel) (by decide +kernel)
theorem ml_X9_75 : Cond.methodLink RX9 75 yX9_readyFor ∈ im_W := im_in 1064 (by decide +kernel) (by decide +kernel)
theorem ml_X9_84 : Cond.methodLink RX9 84 yX5_cyclesOf ∈ im_W := im_in 1069 (by decide +kernel) (by decide +kernel)
theorem mn_X9_89 : Cond.methodLinkNest RX9 89 yX11_put "SpillslotWorks" ∈ im_nest := im_inN 1070 (by decide +kernel) (by decide +kernel)
theorem ml_X9_93 : Cond.methodLink RX9 93 yX9_perform ∈ im_W := im_in 1071 (by decide +kernel) (by decide +kernel)
theorem ml_X9_97 : Cond.methodLink RX9 97 yX9_performCall ∈ im_W := im_in 1075 (by decide +kernel) (by decide +kernel)
theorem mn_X9_109 : Cond.methodLinkNest RX9 109 yX11_hasBit "SpillslotWorks" ∈ im_nest := im_inN 1079 (by decide +kernel) (by decide +kernel)
theorem ml_X9_100 : Cond.methodLink RX9 100 yX9_resultOf ∈ im_W := im_in 1081 (by decide +kernel) (by decide +kernel)
theorem ml_X9_63 : Cond.methodLink RX9 63 yX8_roundsOf ∈ im_W := im_in 1085 (by decide +kernel) (by decide +kernel)
theorem ml_X11_262 : Cond.methodLink RX11 262 yX10_tellMany ∈ im_W := im_in 1086 (by decide +kernel) (by decide +kernel)
theorem ml_X10_151 : Cond.methodLink RX10 151 yX8_looseCount ∈ im_W := im_in 1090 (by decide +kernel) (by decide +kernel)
theorem ml_X8_44 : Cond.methodLink RX8 44 yX8_isLoose ∈ im_W := im_in 1094 (by decide +kernel) (by decide +kernel)
theorem mn_X8_40 : Cond.methodLinkNest RX8 40 yX11_isBelow "SpillslotWorks" ∈ im_nest := im_inN 1098 (by decide +kernel) (by decide +kernel)
theorem ml_X10_179 : Cond.methodLink RX10 179 yX1_countOf ∈ im_W := im_in 1099 (by decide +kernel) (by decide +kernel)
theorem ml_X1_129 : Cond.methodLink RX1 129 yX1_kindOf ∈ im_W := im_in 1103 (by decide +kernel) (by decide +kernel)
theorem ml_X10_191 : Cond.methodLink RX10 191 yX4_mostAtOnce ∈ im_W := im_in 1104 (by decide +kernel) (by decide +kernel)
theorem ml_L_100 : Cond.methodLink RL 100 yX11_with ∈ im_W := im_in 1108 (by decide +kernel) (by decide +kernel)
theorem ml_X11_273 : Cond.methodLink RX11 273 yX11_builtWith ∈ im_W := im_in 1113 (by decide +kernel) (by decide +kernel)
theorem ml_X11_277 : Cond.methodLink RX11 277 yX5_beLike ∈ im_W := im_in 1117 (by decide +kernel) (by decide +kernel)
theorem mn_X5_36 : Cond.methodLinkNest RX5 36 yX11_put "SpillslotWorks" ∈ im_nest := im_inN 1121 (by decide +kernel) (by decide +kernel)
theorem ml_L_106 : Cond.methodLink RL 106 yX11_cyclesWith ∈ im_W := im_in 1122 (by decide +kernel) (by decide +kernel)
theorem ml_L_121 : Cond.methodLink RL 121 yX11_enough ∈ im_W := im_in 1126 (by decide +kernel) (by decide +kernel)
theorem ml_X11_291 : Cond.methodLink RX11 291 yX11_fewestRegisters ∈ im_W := im_in 1130 (by decide +kernel) (by decide +kernel)
theorem ml_X11_329 : Cond.methodLink RX11 329 yX5_scratch ∈ im_W := im_in 1134 (by decide +kernel) (by decide +kernel)
theorem ml_X11_339 : Cond.methodLink RX11 339 yX2_give ∈ im_W := im_in 1135 (by decide +kernel) (by decide +kernel)
theorem ml_L_125 : Cond.methodLink RL 125 yX11_unordered ∈ im_W := im_in 1136 (by decide +kernel) (by decide +kernel)
theorem ml_X11_295 : Cond.methodLink RX11 295 yX11_cyclesUnordered ∈ im_W := im_in 1140 (by decide +kernel) (by decide +kernel)
theorem ml_L_117 : Cond.methodLink RL 117 yX11_digest ∈ im_W := im_in 1144 (by decide +kernel) (by decide +kernel)
theorem ml_X11_300 : Cond.methodLink RX11 300 yX11_mix ∈ im_W := im_in 1149 (by decide +kernel) (by decide +kernel)
theorem ml_X11_304 : Cond.methodLink RX11 304 yX11_mixVariables ∈ im_W := im_in 1153 (by decide +kernel) (by decide +kernel)
theorem ml_X11_170 : Cond.methodLink RX11 170 yX11_meantNow ∈ im_W := im_in 1157 (by decide +kernel) (by decide +kernel)
theorem ml_X11_326 : Cond.methodLink RX11 326 yX6_work ∈ im_W := im_in 1161 (by decide +kernel) (by decide +kernel)
theorem mn_X6_22 : Cond.methodLinkNest RX6 22 yX11_fill "SpillslotWorks" ∈ im_nest := im_inN 1165 (by decide +kernel) (by decide +kernel)
theorem ml_X6_26 : Cond.methodLink RX6 26 yX8_roundsOf ∈ im_W := im_in 1166 (by decide +kernel) (by decide +kernel)
theorem ml_X6_32 : Cond.methodLink RX6 32 yX6_workBlock ∈ im_W := im_in 1167 (by decide +kernel) (by decide +kernel)
theorem ml_X6_36 : Cond.methodLink RX6 36 yX8_statementsIn ∈ im_W := im_in 1171 (by decide +kernel) (by decide +kernel)
theorem ml_X6_39 : Cond.methodLink RX6 39 yX8_rootOf ∈ im_W := im_in 1172 (by decide +kernel) (by decide +kernel)
theorem ml_X6_43 : Cond.methodLink RX6 43 yX6_valueOf ∈ im_W := im_in 1173 (by decide +kernel) (by decide +kernel)
theorem mn_X6_53 : Cond.methodLinkNest RX6 53 yX11_at "SpillslotWorks" ∈ im_nest := im_inN 1177 (by decide +kernel) (by decide +kernel)
theorem mn_X6_46 : Cond.methodLinkNest RX6 46 yX11_put "SpillslotWorks" ∈ im_nest := im_inN 1178 (by decide +kernel) (by decide +kernel)
theorem ml_X6_50 : Cond.methodLink RX6 50 yX8_variableOf ∈ im_W := im_in 1179 (by decide +kernel) (by decide +kernel)
theorem ml_X11_253 : Cond.methodLink RX11 253 yX11_hasBit ∈ im_W := im_in 1180 (by decide +kernel) (by decide +kernel)
theorem ml_X11_258 : Cond.methodLink RX11 258 yX10_tellAnswer ∈ im_W := im_in 1181 (by decide +kernel) (by decide +kernel)
theorem ml_X10_129 : Cond.methodLink RX10 129 yX4_isLiving ∈ im_W := im_in 1185 (by decide +kernel) (by decide +kernel)
theorem ml_X10_105 : Cond.methodLink RX10 105 yX2_isRemade ∈ im_W := im_in 1186 (by decide +kernel) (by decide +kernel)
theorem ml_X10_132 : Cond.methodLink RX10 132 yX2_numberOf ∈ im_W := im_in 1187 (by decide +kernel) (by decide +kernel)
theorem ml_X10_133 : Cond.methodLink RX10 133 yX2_isSpilled ∈ im_W := im_in 1191 (by decide +kernel) (by decide +kernel)
theorem ml_X10_102 : Cond.methodLink RX10 102 yX2_slotOf ∈ im_W := im_in 1192 (by decide +kernel) (by decide +kernel)
theorem mn_X10_139 : Cond.methodLinkNest RX10 139 yX11_at "SpillslotWorks" ∈ im_nest := im_inN 1193 (by decide +kernel) (by decide +kernel)
theorem ml_X10_99 : Cond.methodLink RX10 99 yX2_registerOf ∈ im_W := im_in 1194 (by decide +kernel) (by decide +kernel)
theorem ml_X11_308 : Cond.methodLink RX11 308 yX11_mixLines ∈ im_W := im_in 1195 (by decide +kernel) (by decide +kernel)
theorem ml_X11_194 : Cond.methodLink RX11 194 yX10_tellLine ∈ im_W := im_in 1199 (by decide +kernel) (by decide +kernel)
theorem ml_X10_66 : Cond.methodLink RX10 66 yX3_kindOf ∈ im_W := im_in 1203 (by decide +kernel) (by decide +kernel)
theorem ml_X10_72 : Cond.methodLink RX10 72 yX3_writtenBy ∈ im_W := im_in 1204 (by decide +kernel) (by decide +kernel)
theorem ml_X10_75 : Cond.methodLink RX10 75 yX3_numberOf ∈ im_W := im_in 1205 (by decide +kernel) (by decide +kernel)
theorem ml_X10_78 : Cond.methodLink RX10 78 yX3_blockOf ∈ im_W := im_in 1206 (by decide +kernel) (by decide +kernel)
theorem ml_X10_81 : Cond.methodLink RX10 81 yX3_heightOf ∈ im_W := im_in 1207 (by decide +kernel) (by decide +kernel)
theorem ml_X10_84 : Cond.methodLink RX10 84 yX3_readBy ∈ im_W := im_in 1208 (by decide +kernel) (by decide +kernel)
theorem ml_X11_311 : Cond.methodLink RX11 311 yX11_mixValues ∈ im_W := im_in 1209 (by decide +kernel) (by decide +kernel)
theorem ml_X11_202 : Cond.methodLink RX11 202 yX4_isLiving ∈ im_W := im_in 1213 (by decide +kernel) (by decide +kernel)
theorem ml_X11_209 : Cond.methodLink RX11 209 yX10_tellValue ∈ im_W := im_in 1214 (by decide +kernel) (by decide +kernel)
theorem ml_X10_88 : Cond.methodLink RX10 88 yX4_firstOf ∈ im_W := im_in 1218 (by decide +kernel) (by decide +kernel)
theorem ml_X10_93 : Cond.methodLink RX10 93 yX4_lastOf ∈ im_W := im_in 1219 (by decide +kernel) (by decide +kernel)
theorem ml_X10_96 : Cond.methodLink RX10 96 yX4_weightOf ∈ im_W := im_in 1220 (by decide +kernel) (by decide +kernel)
theorem ml_X10_109 : Cond.methodLink RX10 109 yX4_crossedBy ∈ im_W := im_in 1224 (by decide +kernel) (by decide +kernel)
theorem ml_X10_112 : Cond.methodLink RX10 112 yX4_touchesOf ∈ im_W := im_in 1225 (by decide +kernel) (by decide +kernel)
theorem ml_X11_314 : Cond.methodLink RX11 314 yX11_mixCalls ∈ im_W := im_in 1229 (by decide +kernel) (by decide +kernel)
theorem ml_X11_217 : Cond.methodLink RX11 217 yX10_tellCall ∈ im_W := im_in 1233 (by decide +kernel) (by decide +kernel)
theorem ml_X10_115 : Cond.methodLink RX10 115 yX4_pointOfCall ∈ im_W := im_in 1237 (by decide +kernel) (by decide +kernel)
theorem ml_X10_122 : Cond.methodLink RX10 122 yX4_isCrossing ∈ im_W := im_in 1241 (by decide +kernel) (by decide +kernel)
theorem mn_X10_126 : Cond.methodLinkNest RX10 126 yX11_bit "SpillslotWorks" ∈ im_nest := im_inN 1242 (by decide +kernel) (by decide +kernel)
theorem ml_X11_317 : Cond.methodLink RX11 317 yX11_mixCode ∈ im_W := im_in 1243 (by decide +kernel) (by decide +kernel)
theorem ml_X11_240 : Cond.methodLink RX11 240 yX1_tellPlace ∈ im_W := im_in 1246 (by decide +kernel) (by decide +kernel)
theorem ml_X1_130 : Cond.methodLink RX1 130 yX1_operandOf ∈ im_W := im_in 1250 (by decide +kernel) (by decide +kernel)
theorem mn_L_96 : Cond.methodLinkNest RL 96 yX12_init "SpillslotWorksLaw" ∈ im_nest := im_inN 1253 (by decide +kernel) (by decide +kernel)
theorem ml_X12_1 : Cond.methodLink RX12 1 Lib.objectInit ∈ im_W := im_in 1256 (by decide +kernel) (by decide +kernel)
theorem ml_L_31 : Cond.methodLink RL 31 yL_below ∈ im_W := im_in 1299 (by decide +kernel) (by decide +kernel)
theorem ml_L_25 : Cond.methodLink RL 25 yL_cell ∈ im_W := im_in 1303 (by decide +kernel) (by decide +kernel)
theorem ml_L_97 : Cond.methodLink RL 97 yL_write ∈ im_W := im_in 1307 (by decide +kernel) (by decide +kernel)
theorem ml_L_38 : Cond.methodLink RL 38 yL_tree ∈ im_W := im_in 1313 (by decide +kernel) (by decide +kernel)
theorem ml_L_35 : Cond.methodLink RL 35 yL_node ∈ im_W := im_in 1316 (by decide +kernel) (by decide +kernel)
theorem ml_L_15 : Cond.methodLink RL 15 yX11_node ∈ im_W := im_in 1319 (by decide +kernel) (by decide +kernel)
theorem ml_X11_110 : Cond.methodLink RX11 110 yX8_canBeNode ∈ im_W := im_in 1323 (by decide +kernel) (by decide +kernel)
theorem ml_X11_124 : Cond.methodLink RX11 124 yX8_addNode ∈ im_W := im_in 1344 (by decide +kernel) (by decide +kernel)
theorem mn_X8_55 : Cond.methodLinkNest RX8 55 yX11_put "SpillslotWorks" ∈ im_nest := im_inN 1348 (by decide +kernel) (by decide +kernel)
theorem ml_L_21 : Cond.methodLink RL 21 yX12_with ∈ im_W := im_in 1349 (by decide +kernel) (by decide +kernel)
theorem ml_X12_41 : Cond.methodLink RX12 41 arraycopyName ∈ im_W := im_in 1352 (by decide +kernel) (by decide +kernel)
theorem ml_L_50 : Cond.methodLink RL 50 yX11_statement ∈ im_W := im_in 1355 (by decide +kernel) (by decide +kernel)
theorem ml_X11_130 : Cond.methodLink RX11 130 yX8_isLoose ∈ im_W := im_in 1360 (by decide +kernel) (by decide +kernel)
theorem ml_X11_141 : Cond.methodLink RX11 141 yX8_addStatement ∈ im_W := im_in 1363 (by decide +kernel) (by decide +kernel)
theorem ml_X8_59 : Cond.methodLink RX8 59 yX8_statementsIn ∈ im_W := im_in 1367 (by decide +kernel) (by decide +kernel)
theorem ml_L_57 : Cond.methodLink RL 57 yX11_times ∈ im_W := im_in 1368 (by decide +kernel) (by decide +kernel)
theorem ml_X11_157 : Cond.methodLink RX11 157 yX8_roundsOf ∈ im_W := im_in 1374 (by decide +kernel) (by decide +kernel)
theorem ml_L_63 : Cond.methodLink RL 63 yX11_out ∈ im_W := im_in 1375 (by decide +kernel) (by decide +kernel)
theorem ml_L_66 : Cond.methodLink RL 66 yL_machine ∈ im_W := im_in 1380 (by decide +kernel) (by decide +kernel)
theorem ml_L_109 : Cond.methodLink RL 109 yL_isMeant ∈ im_W := im_in 1383 (by decide +kernel) (by decide +kernel)
theorem ml_L_128 : Cond.methodLink RL 128 yX12_meant ∈ im_W := im_in 1386 (by decide +kernel) (by decide +kernel)
theorem ml_X12_47 : Cond.methodLink RX12 47 yX12_value ∈ im_W := im_in 1390 (by decide +kernel) (by decide +kernel)
theorem ml_L_132 : Cond.methodLink RL 132 yX11_meant ∈ im_W := im_in 1394 (by decide +kernel) (by decide +kernel)
theorem ml_L_134 : Cond.methodLink RL 134 yX11_answer ∈ im_W := im_in 1399 (by decide +kernel) (by decide +kernel)
theorem ml_L_113 : Cond.methodLink RL 113 yL_isWhole ∈ im_W := im_in 1404 (by decide +kernel) (by decide +kernel)
theorem ml_L_137 : Cond.methodLink RL 137 yX11_chosen ∈ im_W := im_in 1407 (by decide +kernel) (by decide +kernel)
theorem ml_L_140 : Cond.methodLink RL 140 yX11_ofValue ∈ im_W := im_in 1412 (by decide +kernel) (by decide +kernel)
theorem cl_L_16 : 11 < 13 ∧ Cond.classLink RL 16 (im_C 11) ∈ im_W ∧ Cond.instantiable (im_C 11) (im_N 11) ∈ im_W ∧ Cond.initialized (im_C 11) ∈ im_W := ⟨by decide, im_in 80 (by decide +kernel) (by decide +kernel), im_in 81 (by decide +kernel) (by decide +kernel), im_in 58 (by decide +kernel) (by decide +kernel)⟩
theorem cl_X11_9 : 8 < 13 ∧ Cond.classLink RX11 9 (im_C 8) ∈ im_W ∧ Cond.instantiable (im_C 8) (im_N 8) ∈ im_W ∧ Cond.initialized (im_C 8) ∈ im_W := ⟨by decide, im_in 88 (by decide +kernel) (by decide +kernel), im_in 89 (by decide +kernel) (by decide +kernel), im_in 59 (by decide +kernel) (by decide +kernel)⟩
theorem fl_X0_48 : im_F RX0 48 8 0 := ⟨im_in 94 (by decide +kernel) (by decide +kernel), by decide, by decide⟩
theorem fl_X8_48 : im_F RX8 48 8 0 := ⟨im_in 95 (by decide +kernel) (by decide +kernel), by decide, by decide⟩
theorem fl_X11_116 : im_F RX11 116 8 0 := ⟨im_in 96 (by decide +kernel) (by decide +kernel), by decide, by decide⟩
theorem fl_X10_146 : im_F RX10 146 8 0 := ⟨im_in 97 (by decide +kernel) (by decide +kernel), by decide, by decide⟩
theorem fl_X8_67 : im_F RX8 67 8 1 := ⟨im_in 98 (by decide +kernel) (by decide +kernel), by decide, by decide⟩
theorem fl_X11_136 : im_F RX11 136 8 1 := ⟨im_in 99 (by decide +kernel) (by decide +kernel), by decide, by decide⟩
theorem fl_X10_155 : im_F RX10 155 8 1 := ⟨im_in 100 (by decide +kernel) (by decide +kernel), by decide, by decide⟩
theorem fl_X8_9 : im_F RX8 9 8 2 := ⟨im_in 101 (by decide +kernel) (by decide +kernel), by decide, by decide⟩
theorem fl_X4_113 : im_F RX4 113 8 2 := ⟨im_in 102 (by decide +kernel) (by decide +kernel), by decide, by decide⟩
theorem fl_X7_130 : im_F RX7 130 8 2 := ⟨im_in 103 (by decide +kernel) (by decide +kernel), by decide, by decide⟩
theorem fl_X11_165 : im_F RX11 165 8 2 := ⟨im_in 104 (by decide +kernel) (by decide +kernel), by decide, by decide⟩
theorem fl_X8_15 : im_F RX8 15 8 3 := ⟨im_in 105 (by decide +kernel) (by decide +kernel), by decide, by decide⟩
theorem fl_X11_160 : im_F RX11 160 8 3 := ⟨im_in 106 (by decide +kernel) (by decide +kernel), by decide, by decide⟩
theorem fl_X8_19 : im_F RX8 19 8 4 := ⟨im_in 107 (by decide +kernel) (by decide +kernel), by decide, by decide⟩
theorem fl_X0_53 : im_F RX0 53 8 4 := ⟨im_in 108 (by decide +kernel) (by decide +kernel), by decide, by decide⟩
theorem fl_X6_63 : im_F RX6 63 8 4 := ⟨im_in 109 (by decide +kernel) (by decide +kernel), by decide, by decide⟩
theorem fl_X8_22 : im_F RX8 22 8 5 := ⟨im_in 110 (by decide +kernel) (by decide +kernel), by decide, by decide⟩
theorem fl_X0_85 : im_F RX0 85 8 5 := ⟨im_in 111 (by decide +kernel) (by decide +kernel), by decide, by decide⟩
theorem fl_X6_57 : im_F RX6 57 8 5 := ⟨im_in 112 (by decide +kernel) (by decide +kernel), by decide, by decide⟩
theorem fl_X8_25 : im_F RX8 25 8 6 := ⟨im_in 113 (by decide +kernel) (by decide +kernel), by decide, by decide⟩
theorem fl_X0_88 : im_F RX0 88 8 6 := ⟨im_in 114 (by decide +kernel) (by decide +kernel), by decide, by decide⟩
theorem fl_X6_60 : im_F RX6 60 8 6 := ⟨im_in 115 (by decide +kernel) (by decide +kernel), by decide, by decide⟩
theorem fl_X8_28 : im_F RX8 28 8 7 := ⟨im_in 116 (by decide +kernel) (by decide +kernel), by decide, by decide⟩
theorem fl_X8_31 : im_F RX8 31 8 8 := ⟨im_in 117 (by decide +kernel) (by decide +kernel), by decide, by decide⟩
theorem fl_X8_34 : im_F RX8 34 8 9 := ⟨im_in 118 (by decide +kernel) (by decide +kernel), by decide, by decide⟩
theorem fl_X8_37 : im_F RX8 37 8 10 := ⟨im_in 119 (by decide +kernel) (by decide +kernel), by decide, by decide⟩
theorem cl_X11_16 : 6 < 13 ∧ Cond.classLink RX11 16 (im_C 6) ∈ im_W ∧ Cond.instantiable (im_C 6) (im_N 6) ∈ im_W ∧ Cond.initialized (im_C 6) ∈ im_W := ⟨by decide, im_in 144 (by decide +kernel) (by decide +kernel), im_in 145 (by decide +kernel) (by decide +kernel), im_in 60 (by decide +kernel) (by decide +kernel)⟩
theorem fl_X6_15 : im_F RX6 15 6 0 := ⟨im_in 150 (by decide +kernel) (by decide +kernel), by decide, by decide⟩
theorem fl_X11_174 : im_F RX11 174 6 0 := ⟨im_in 151 (by decide +kernel) (by decide +kernel), by decide, by decide⟩
theorem fl_X6_19 : im_F RX6 19 6 1 := ⟨im_in 152 (by decide +kernel) (by decide +kernel), by decide, by decide⟩
theorem fl_X6_9 : im_F RX6 9 6 2 := ⟨im_in 153 (by decide +kernel) (by decide +kernel), by decide, by decide⟩
theorem cl_X11_25 : 5 < 13 ∧ Cond.classLink RX11 25 (im_C 5) ∈ im_W ∧ Cond.instantiable (im_C 5) (im_N 5) ∈ im_W ∧ Cond.initialized (im_C 5) ∈ im_W := ⟨by decide, im_in 161 (by decide +kernel) (by decide +kernel), im_in 162 (by decide +kernel) (by decide +kernel), im_in 61 (by decide +kernel) (by decide +kernel)⟩
theorem fl_X5_9 : im_F RX5 9 5 0 := ⟨im_in 167 (by decide +kernel) (by decide +kernel), by decide, by decide⟩
theorem fl_X11_68 : im_F RX11 68 5 0 := ⟨im_in 168 (by decide +kernel) (by decide +kernel), by decide, by decide⟩
theorem fl_X9_104 : im_F RX9 104 5 0 := ⟨im_in 169 (by decide +kernel) (by decide +kernel), by decide, by decide⟩
theorem fl_X5_15 : im_F RX5 15 5 1 := ⟨im_in 170 (by decide +kernel) (by decide +kernel), by decide, by decide⟩
theorem fl_X11_72 : im_F RX11 72 5 1 := ⟨im_in 171 (by decide +kernel) (by decide +kernel), by decide, by decide⟩
theorem fl_X2_86 : im_F RX2 86 5 1 := ⟨im_in 172 (by decide +kernel) (by decide +kernel), by decide, by decide⟩
theorem fl_X9_106 : im_F RX9 106 5 1 := ⟨im_in 173 (by decide +kernel) (by decide +kernel), by decide, by decide⟩
theorem fl_X5_18 : im_F RX5 18 5 2 := ⟨im_in 174 (by decide +kernel) (by decide +kernel), by decide, by decide⟩
theorem fl_X11_75 : im_F RX11 75 5 2 := ⟨im_in 175 (by decide +kernel) (by decide +kernel), by decide, by decide⟩
theorem fl_X0_95 : im_F RX0 95 5 2 := ⟨im_in 176 (by decide +kernel) (by decide +kernel), by decide, by decide⟩
theorem fl_X5_21 : im_F RX5 21 5 3 := ⟨im_in 177 (by decide +kernel) (by decide +kernel), by decide, by decide⟩
theorem fl_X11_78 : im_F RX11 78 5 3 := ⟨im_in 178 (by decide +kernel) (by decide +kernel), by decide, by decide⟩
theorem fl_X0_98 : im_F RX0 98 5 3 := ⟨im_in 179 (by decide +kernel) (by decide +kernel), by decide, by decide⟩
theorem fl_X5_25 : im_F RX5 25 5 4 := ⟨im_in 180 (by decide +kernel) (by decide +kernel), by decide, by decide⟩
theorem fl_X11_82 : im_F RX11 82 5 4 := ⟨im_in 181 (by decide +kernel) (by decide +kernel), by decide, by decide⟩
theorem fl_X2_131 : im_F RX2 131 5 4 := ⟨im_in 182 (by decide +kernel) (by decide +kernel), by decide, by decide⟩
theorem fl_X1_119 : im_F RX1 119 5 4 := ⟨im_in 183 (by decide +kernel) (by decide +kernel), by decide, by decide⟩
theorem fl_X5_28 : im_F RX5 28 5 5 := ⟨im_in 184 (by decide +kernel) (by decide +kernel), by decide, by decide⟩
theorem fl_X11_98 : im_F RX11 98 5 5 := ⟨im_in 185 (by decide +kernel) (by decide +kernel), by decide, by decide⟩
theorem cl_X11_35 : 7 < 13 ∧ Cond.classLink RX11 35 (im_C 7) ∈ im_W ∧ Cond.instantiable (im_C 7) (im_N 7) ∈ im_W ∧ Cond.initialized (im_C 7) ∈ im_W := ⟨by decide, im_in 199 (by decide +kernel) (by decide +kernel), im_in 200 (by decide +kernel) (by decide +kernel), im_in 62 (by decide +kernel) (by decide +kernel)⟩
theorem cl_X7_19 : 0 < 13 ∧ Cond.classLink RX7 19 (im_C 0) ∈ im_W ∧ Cond.instantiable (im_C 0) (im_N 0) ∈ im_W ∧ Cond.initialized (im_C 0) ∈ im_W := ⟨by decide, im_in 205 (by decide +kernel) (by decide +kernel), im_in 206 (by decide +kernel) (by decide +kernel), im_in 63 (by decide +kernel) (by decide +kernel)⟩
theorem fl_X0_19 : im_F RX0 19 0 0 := ⟨im_in 211 (by decide +kernel) (by decide +kernel), by decide, by decide⟩
theorem fl_X0_9 : im_F RX0 9 0 1 := ⟨im_in 212 (by decide +kernel) (by decide +kernel), by decide, by decide⟩
theorem fl_X0_15 : im_F RX0 15 0 2 := ⟨im_in 213 (by decide +kernel) (by decide +kernel), by decide, by decide⟩
theorem fl_X0_23 : im_F RX0 23 0 3 := ⟨im_in 214 (by decide +kernel) (by decide +kernel), by decide, by decide⟩
theorem fl_X0_26 : im_F RX0 26 0 4 := ⟨im_in 215 (by decide +kernel) (by decide +kernel), by decide, by decide⟩
theorem fl_X0_29 : im_F RX0 29 0 5 := ⟨im_in 216 (by decide +kernel) (by decide +kernel), by decide, by decide⟩
theorem fl_X0_32 : im_F RX0 32 0 6 := ⟨im_in 217 (by decide +kernel) (by decide +kernel), by decide, by decide⟩
theorem fl_X0_35 : im_F RX0 35 0 7 := ⟨im_in 218 (by decide +kernel) (by decide +kernel), by decide, by decide⟩
theorem fl_X0_38 : im_F RX0 38 0 8 := ⟨im_in 219 (by decide +kernel) (by decide +kernel), by decide, by decide⟩
theorem fl_X0_41 : im_F RX0 41 0 9 := ⟨im_in 220 (by decide +kernel) (by decide +kernel), by decide, by decide⟩
theorem fl_X0_116 : im_F RX0 116 0 10 := ⟨im_in 221 (by decide +kernel) (by decide +kernel), by decide, by decide⟩
theorem fl_X0_44 : im_F RX0 44 0 11 := ⟨im_in 222 (by decide +kernel) (by decide +kernel), by decide, by decide⟩
theorem cl_X7_28 : 3 < 13 ∧ Cond.classLink RX7 28 (im_C 3) ∈ im_W ∧ Cond.instantiable (im_C 3) (im_N 3) ∈ im_W ∧ Cond.initialized (im_C 3) ∈ im_W := ⟨by decide, im_in 248 (by decide +kernel) (by decide +kernel), im_in 249 (by decide +kernel) (by decide +kernel), im_in 64 (by decide +kernel) (by decide +kernel)⟩
theorem fl_X3_30 : im_F RX3 30 3 0 := ⟨im_in 254 (by decide +kernel) (by decide +kernel), by decide, by decide⟩
theorem fl_X1_32 : im_F RX1 32 3 0 := ⟨im_in 255 (by decide +kernel) (by decide +kernel), by decide, by decide⟩
theorem fl_X2_45 : im_F RX2 45 3 0 := ⟨im_in 256 (by decide +kernel) (by decide +kernel), by decide, by decide⟩
theorem fl_X4_54 : im_F RX4 54 3 0 := ⟨im_in 257 (by decide +kernel) (by decide +kernel), by decide, by decide⟩
theorem fl_X7_73 : im_F RX7 73 3 0 := ⟨im_in 258 (by decide +kernel) (by decide +kernel), by decide, by decide⟩
theorem fl_X10_158 : im_F RX10 158 3 0 := ⟨im_in 259 (by decide +kernel) (by decide +kernel), by decide, by decide⟩
theorem fl_X11_185 : im_F RX11 185 3 0 := ⟨im_in 260 (by decide +kernel) (by decide +kernel), by decide, by decide⟩
theorem fl_X3_9 : im_F RX3 9 3 1 := ⟨im_in 261 (by decide +kernel) (by decide +kernel), by decide, by decide⟩
theorem fl_X3_15 : im_F RX3 15 3 2 := ⟨im_in 262 (by decide +kernel) (by decide +kernel), by decide, by decide⟩
theorem fl_X3_18 : im_F RX3 18 3 3 := ⟨im_in 263 (by decide +kernel) (by decide +kernel), by decide, by decide⟩
theorem fl_X3_21 : im_F RX3 21 3 4 := ⟨im_in 264 (by decide +kernel) (by decide +kernel), by decide, by decide⟩
theorem fl_X3_24 : im_F RX3 24 3 5 := ⟨im_in 265 (by decide +kernel) (by decide +kernel), by decide, by decide⟩
theorem fl_X3_27 : im_F RX3 27 3 6 := ⟨im_in 266 (by decide +kernel) (by decide +kernel), by decide, by decide⟩
theorem cl_X7_35 : 4 < 13 ∧ Cond.classLink RX7 35 (im_C 4) ∈ im_W ∧ Cond.instantiable (im_C 4) (im_N 4) ∈ im_W ∧ Cond.initialized (im_C 4) ∈ im_W := ⟨by decide, im_in 282 (by decide +kernel) (by decide +kernel), im_in 283 (by decide +kernel) (by decide +kernel), im_in 65 (by decide +kernel) (by decide +kernel)⟩
theorem fl_X4_40 : im_F RX4 40 4 0 := ⟨im_in 288 (by decide +kernel) (by decide +kernel), by decide, by decide⟩
theorem fl_X2_69 : im_F RX2 69 4 0 := ⟨im_in 289 (by decide +kernel) (by decide +kernel), by decide, by decide⟩
theorem fl_X10_118 : im_F RX10 118 4 0 := ⟨im_in 290 (by decide +kernel) (by decide +kernel), by decide, by decide⟩
theorem fl_X11_348 : im_F RX11 348 4 0 := ⟨im_in 291 (by decide +kernel) (by decide +kernel), by decide, by decide⟩
theorem fl_X4_44 : im_F RX4 44 4 1 := ⟨im_in 292 (by decide +kernel) (by decide +kernel), by decide, by decide⟩
theorem fl_X10_161 : im_F RX10 161 4 1 := ⟨im_in 293 (by decide +kernel) (by decide +kernel), by decide, by decide⟩
theorem fl_X4_47 : im_F RX4 47 4 2 := ⟨im_in 294 (by decide +kernel) (by decide +kernel), by decide, by decide⟩
theorem fl_X11_212 : im_F RX11 212 4 2 := ⟨im_in 295 (by decide +kernel) (by decide +kernel), by decide, by decide⟩
theorem fl_X4_9 : im_F RX4 9 4 3 := ⟨im_in 296 (by decide +kernel) (by decide +kernel), by decide, by decide⟩
theorem fl_X4_15 : im_F RX4 15 4 4 := ⟨im_in 297 (by decide +kernel) (by decide +kernel), by decide, by decide⟩
theorem fl_X4_19 : im_F RX4 19 4 5 := ⟨im_in 298 (by decide +kernel) (by decide +kernel), by decide, by decide⟩
theorem fl_X4_22 : im_F RX4 22 4 6 := ⟨im_in 299 (by decide +kernel) (by decide +kernel), by decide, by decide⟩
theorem fl_X4_25 : im_F RX4 25 4 7 := ⟨im_in 300 (by decide +kernel) (by decide +kernel), by decide, by decide⟩
theorem fl_X2_146 : im_F RX2 146 4 7 := ⟨im_in 301 (by decide +kernel) (by decide +kernel), by decide, by decide⟩
theorem fl_X4_28 : im_F RX4 28 4 8 := ⟨im_in 302 (by decide +kernel) (by decide +kernel), by decide, by decide⟩
theorem fl_X4_31 : im_F RX4 31 4 9 := ⟨im_in 303 (by decide +kernel) (by decide +kernel), by decide, by decide⟩
theorem fl_X4_34 : im_F RX4 34 4 10 := ⟨im_in 304 (by decide +kernel) (by decide +kernel), by decide, by decide⟩
theorem fl_X4_37 : im_F RX4 37 4 11 := ⟨im_in 305 (by decide +kernel) (by decide +kernel), by decide, by decide⟩
theorem fl_X7_24 : im_F RX7 24 7 0 := ⟨im_in 331 (by decide +kernel) (by decide +kernel), by decide, by decide⟩
theorem fl_X7_31 : im_F RX7 31 7 1 := ⟨im_in 332 (by decide +kernel) (by decide +kernel), by decide, by decide⟩
theorem fl_X10_40 : im_F RX10 40 7 1 := ⟨im_in 333 (by decide +kernel) (by decide +kernel), by decide, by decide⟩
theorem fl_X11_181 : im_F RX11 181 7 1 := ⟨im_in 334 (by decide +kernel) (by decide +kernel), by decide, by decide⟩
theorem fl_X7_40 : im_F RX7 40 7 2 := ⟨im_in 335 (by decide +kernel) (by decide +kernel), by decide, by decide⟩
theorem fl_X10_46 : im_F RX10 46 7 2 := ⟨im_in 336 (by decide +kernel) (by decide +kernel), by decide, by decide⟩
theorem fl_X11_198 : im_F RX11 198 7 2 := ⟨im_in 337 (by decide +kernel) (by decide +kernel), by decide, by decide⟩
theorem fl_X7_44 : im_F RX7 44 7 3 := ⟨im_in 338 (by decide +kernel) (by decide +kernel), by decide, by decide⟩
theorem fl_X10_58 : im_F RX10 58 7 3 := ⟨im_in 339 (by decide +kernel) (by decide +kernel), by decide, by decide⟩
theorem fl_X7_9 : im_F RX7 9 7 4 := ⟨im_in 340 (by decide +kernel) (by decide +kernel), by decide, by decide⟩
theorem fl_X7_15 : im_F RX7 15 7 5 := ⟨im_in 341 (by decide +kernel) (by decide +kernel), by decide, by decide⟩
theorem fl_X7_48 : im_F RX7 48 7 6 := ⟨im_in 342 (by decide +kernel) (by decide +kernel), by decide, by decide⟩
theorem fl_X7_51 : im_F RX7 51 7 7 := ⟨im_in 343 (by decide +kernel) (by decide +kernel), by decide, by decide⟩
theorem fl_X7_54 : im_F RX7 54 7 8 := ⟨im_in 344 (by decide +kernel) (by decide +kernel), by decide, by decide⟩
theorem cl_X11_47 : 10 < 13 ∧ Cond.classLink RX11 47 (im_C 10) ∈ im_W ∧ Cond.instantiable (im_C 10) (im_N 10) ∈ im_W ∧ Cond.initialized (im_C 10) ∈ im_W := ⟨by decide, im_in 364 (by decide +kernel) (by decide +kernel), im_in 365 (by decide +kernel) (by decide +kernel), im_in 66 (by decide +kernel) (by decide +kernel)⟩
theorem cl_X10_15 : 2 < 13 ∧ Cond.classLink RX10 15 (im_C 2) ∈ im_W ∧ Cond.instantiable (im_C 2) (im_N 2) ∈ im_W ∧ Cond.initialized (im_C 2) ∈ im_W := ⟨by decide, im_in 370 (by decide +kernel) (by decide +kernel), im_in 371 (by decide +kernel) (by decide +kernel), im_in 67 (by decide +kernel) (by decide +kernel)⟩
theorem fl_X2_31 : im_F RX2 31 2 0 := ⟨im_in 376 (by decide +kernel) (by decide +kernel), by decide, by decide⟩
theorem fl_X10_164 : im_F RX10 164 2 0 := ⟨im_in 377 (by decide +kernel) (by decide +kernel), by decide, by decide⟩
theorem fl_X11_345 : im_F RX11 345 2 0 := ⟨im_in 378 (by decide +kernel) (by decide +kernel), by decide, by decide⟩
theorem fl_X2_35 : im_F RX2 35 2 1 := ⟨im_in 379 (by decide +kernel) (by decide +kernel), by decide, by decide⟩
theorem fl_X10_167 : im_F RX10 167 2 1 := ⟨im_in 380 (by decide +kernel) (by decide +kernel), by decide, by decide⟩
theorem fl_X2_38 : im_F RX2 38 2 2 := ⟨im_in 381 (by decide +kernel) (by decide +kernel), by decide, by decide⟩
theorem fl_X10_170 : im_F RX10 170 2 2 := ⟨im_in 382 (by decide +kernel) (by decide +kernel), by decide, by decide⟩
theorem fl_X2_77 : im_F RX2 77 2 3 := ⟨im_in 383 (by decide +kernel) (by decide +kernel), by decide, by decide⟩
theorem fl_X10_173 : im_F RX10 173 2 3 := ⟨im_in 384 (by decide +kernel) (by decide +kernel), by decide, by decide⟩
theorem fl_X2_9 : im_F RX2 9 2 4 := ⟨im_in 385 (by decide +kernel) (by decide +kernel), by decide, by decide⟩
theorem fl_X2_15 : im_F RX2 15 2 5 := ⟨im_in 386 (by decide +kernel) (by decide +kernel), by decide, by decide⟩
theorem fl_X2_19 : im_F RX2 19 2 6 := ⟨im_in 387 (by decide +kernel) (by decide +kernel), by decide, by decide⟩
theorem fl_X1_116 : im_F RX1 116 2 6 := ⟨im_in 388 (by decide +kernel) (by decide +kernel), by decide, by decide⟩
theorem fl_X2_22 : im_F RX2 22 2 7 := ⟨im_in 389 (by decide +kernel) (by decide +kernel), by decide, by decide⟩
theorem fl_X1_106 : im_F RX1 106 2 7 := ⟨im_in 390 (by decide +kernel) (by decide +kernel), by decide, by decide⟩
theorem fl_X2_25 : im_F RX2 25 2 8 := ⟨im_in 391 (by decide +kernel) (by decide +kernel), by decide, by decide⟩
theorem fl_X1_113 : im_F RX1 113 2 8 := ⟨im_in 392 (by decide +kernel) (by decide +kernel), by decide, by decide⟩
theorem fl_X2_28 : im_F RX2 28 2 9 := ⟨im_in 393 (by decide +kernel) (by decide +kernel), by decide, by decide⟩
theorem cl_X10_24 : 1 < 13 ∧ Cond.classLink RX10 24 (im_C 1) ∈ im_W ∧ Cond.instantiable (im_C 1) (im_N 1) ∈ im_W ∧ Cond.initialized (im_C 1) ∈ im_W := ⟨by decide, im_in 415 (by decide +kernel) (by decide +kernel), im_in 416 (by decide +kernel) (by decide +kernel), im_in 68 (by decide +kernel) (by decide +kernel)⟩
theorem fl_X1_28 : im_F RX1 28 1 0 := ⟨im_in 421 (by decide +kernel) (by decide +kernel), by decide, by decide⟩
theorem fl_X10_176 : im_F RX10 176 1 0 := ⟨im_in 422 (by decide +kernel) (by decide +kernel), by decide, by decide⟩
theorem fl_X11_233 : im_F RX11 233 1 0 := ⟨im_in 423 (by decide +kernel) (by decide +kernel), by decide, by decide⟩
theorem fl_X1_9 : im_F RX1 9 1 1 := ⟨im_in 424 (by decide +kernel) (by decide +kernel), by decide, by decide⟩
theorem fl_X1_15 : im_F RX1 15 1 2 := ⟨im_in 425 (by decide +kernel) (by decide +kernel), by decide, by decide⟩
theorem fl_X1_19 : im_F RX1 19 1 3 := ⟨im_in 426 (by decide +kernel) (by decide +kernel), by decide, by decide⟩
theorem fl_X1_22 : im_F RX1 22 1 4 := ⟨im_in 427 (by decide +kernel) (by decide +kernel), by decide, by decide⟩
theorem fl_X1_25 : im_F RX1 25 1 5 := ⟨im_in 428 (by decide +kernel) (by decide +kernel), by decide, by decide⟩
theorem fl_X1_37 : im_F RX1 37 1 6 := ⟨im_in 429 (by decide +kernel) (by decide +kernel), by decide, by decide⟩
theorem cl_X10_31 : 9 < 13 ∧ Cond.classLink RX10 31 (im_C 9) ∈ im_W ∧ Cond.instantiable (im_C 9) (im_N 9) ∈ im_W ∧ Cond.initialized (im_C 9) ∈ im_W := ⟨by decide, im_in 445 (by decide +kernel) (by decide +kernel), im_in 446 (by decide +kernel) (by decide +kernel), im_in 69 (by decide +kernel) (by decide +kernel)⟩
theorem fl_X9_32 : im_F RX9 32 9 0 := ⟨im_in 451 (by decide +kernel) (by decide +kernel), by decide, by decide⟩
theorem fl_X10_182 : im_F RX10 182 9 0 := ⟨im_in 452 (by decide +kernel) (by decide +kernel), by decide, by decide⟩
theorem fl_X9_36 : im_F RX9 36 9 1 := ⟨im_in 453 (by decide +kernel) (by decide +kernel), by decide, by decide⟩
theorem fl_X10_185 : im_F RX10 185 9 1 := ⟨im_in 454 (by decide +kernel) (by decide +kernel), by decide, by decide⟩
theorem fl_X11_288 : im_F RX11 288 9 1 := ⟨im_in 455 (by decide +kernel) (by decide +kernel), by decide, by decide⟩
theorem fl_X9_39 : im_F RX9 39 9 2 := ⟨im_in 456 (by decide +kernel) (by decide +kernel), by decide, by decide⟩
theorem fl_X10_188 : im_F RX10 188 9 2 := ⟨im_in 457 (by decide +kernel) (by decide +kernel), by decide, by decide⟩
theorem fl_X9_19 : im_F RX9 19 9 3 := ⟨im_in 458 (by decide +kernel) (by decide +kernel), by decide, by decide⟩
theorem fl_X11_248 : im_F RX11 248 9 3 := ⟨im_in 459 (by decide +kernel) (by decide +kernel), by decide, by decide⟩
theorem fl_X9_23 : im_F RX9 23 9 4 := ⟨im_in 460 (by decide +kernel) (by decide +kernel), by decide, by decide⟩
theorem fl_X10_143 : im_F RX10 143 9 4 := ⟨im_in 461 (by decide +kernel) (by decide +kernel), by decide, by decide⟩
theorem fl_X9_26 : im_F RX9 26 9 5 := ⟨im_in 462 (by decide +kernel) (by decide +kernel), by decide, by decide⟩
theorem fl_X10_136 : im_F RX10 136 9 5 := ⟨im_in 463 (by decide +kernel) (by decide +kernel), by decide, by decide⟩
theorem fl_X9_9 : im_F RX9 9 9 6 := ⟨im_in 464 (by decide +kernel) (by decide +kernel), by decide, by decide⟩
theorem fl_X9_15 : im_F RX9 15 9 7 := ⟨im_in 465 (by decide +kernel) (by decide +kernel), by decide, by decide⟩
theorem fl_X9_29 : im_F RX9 29 9 8 := ⟨im_in 466 (by decide +kernel) (by decide +kernel), by decide, by decide⟩
theorem fl_X9_42 : im_F RX9 42 9 9 := ⟨im_in 467 (by decide +kernel) (by decide +kernel), by decide, by decide⟩
theorem fl_X10_20 : im_F RX10 20 10 0 := ⟨im_in 489 (by decide +kernel) (by decide +kernel), by decide, by decide⟩
theorem fl_X11_335 : im_F RX11 335 10 0 := ⟨im_in 490 (by decide +kernel) (by decide +kernel), by decide, by decide⟩
theorem fl_X10_27 : im_F RX10 27 10 1 := ⟨im_in 491 (by decide +kernel) (by decide +kernel), by decide, by decide⟩
theorem fl_X11_229 : im_F RX11 229 10 1 := ⟨im_in 492 (by decide +kernel) (by decide +kernel), by decide, by decide⟩
theorem fl_X10_36 : im_F RX10 36 10 2 := ⟨im_in 493 (by decide +kernel) (by decide +kernel), by decide, by decide⟩
theorem fl_X11_244 : im_F RX11 244 10 2 := ⟨im_in 494 (by decide +kernel) (by decide +kernel), by decide, by decide⟩
theorem fl_X10_9 : im_F RX10 9 10 3 := ⟨im_in 495 (by decide +kernel) (by decide +kernel), by decide, by decide⟩
theorem fl_X11_12 : im_F RX11 12 11 0 := ⟨im_in 505 (by decide +kernel) (by decide +kernel), by decide, by decide⟩
theorem fl_X11_21 : im_F RX11 21 11 1 := ⟨im_in 506 (by decide +kernel) (by decide +kernel), by decide, by decide⟩
theorem fl_X11_28 : im_F RX11 28 11 2 := ⟨im_in 507 (by decide +kernel) (by decide +kernel), by decide, by decide⟩
theorem fl_X11_32 : im_F RX11 32 11 3 := ⟨im_in 508 (by decide +kernel) (by decide +kernel), by decide, by decide⟩
theorem fl_X11_40 : im_F RX11 40 11 4 := ⟨im_in 509 (by decide +kernel) (by decide +kernel), by decide, by decide⟩
theorem fl_X11_44 : im_F RX11 44 11 5 := ⟨im_in 510 (by decide +kernel) (by decide +kernel), by decide, by decide⟩
theorem fl_X11_50 : im_F RX11 50 11 6 := ⟨im_in 511 (by decide +kernel) (by decide +kernel), by decide, by decide⟩
theorem fl_X11_54 : im_F RX11 54 11 7 := ⟨im_in 512 (by decide +kernel) (by decide +kernel), by decide, by decide⟩
theorem fl_X11_320 : im_F RX11 320 11 8 := ⟨im_in 513 (by decide +kernel) (by decide +kernel), by decide, by decide⟩
theorem fl_X11_323 : im_F RX11 323 11 9 := ⟨im_in 514 (by decide +kernel) (by decide +kernel), by decide, by decide⟩
theorem ko_J6_265 : Cond.constant RJ6 265 (1431655765 : Int32) ∈ im_W := im_in 982 (by decide +kernel) (by decide +kernel)
theorem ko_J6_266 : Cond.constant RJ6 266 (858993459 : Int32) ∈ im_W := im_in 983 (by decide +kernel) (by decide +kernel)
theorem ko_J6_267 : Cond.constant RJ6 267 (252645135 : Int32) ∈ im_W := im_in 984 (by decide +kernel) (by decide +kernel)
theorem ko_X9_113 : Cond.constant RX9 113 (-77777 : Int32) ∈ im_W := im_in 1080 (by decide +kernel) (by decide +kernel)
theorem ko_X11_298 : Cond.constantLong RX11 298 (58132 : Int64) ∈ im_W := im_in 1148 (by decide +kernel) (by decide +kernel)
theorem ko_X11_351 : Cond.constantLong RX11 351 (31 : Int64) ∈ im_W := im_in 1152 (by decide +kernel) (by decide +kernel)
theorem cl_L_10 : 12 < 13 ∧ Cond.classLink RL 10 (im_C 12) ∈ im_W ∧ Cond.instantiable (im_C 12) (im_N 12) ∈ im_W ∧ Cond.initialized (im_C 12) ∈ im_W := ⟨by decide, im_in 1251 (by decide +kernel) (by decide +kernel), im_in 1252 (by decide +kernel) (by decide +kernel), im_in 70 (by decide +kernel) (by decide +kernel)⟩
theorem cl_X12_7 : Cond.classLink RX12 7 "[I" ∈ im_W := im_in 1257 (by decide +kernel) (by decide +kernel)
theorem fl_X12_9 : im_F RX12 9 12 0 := ⟨im_in 1259 (by decide +kernel) (by decide +kernel), by decide, by decide⟩
theorem fl_L_9 : im_F RL 9 12 0 := ⟨im_in 1260 (by decide +kernel) (by decide +kernel), by decide, by decide⟩
theorem fl_X12_15 : im_F RX12 15 12 1 := ⟨im_in 1261 (by decide +kernel) (by decide +kernel), by decide, by decide⟩
theorem fl_L_47 : im_F RL 47 12 1 := ⟨im_in 1262 (by decide +kernel) (by decide +kernel), by decide, by decide⟩
theorem fl_X12_18 : im_F RX12 18 12 2 := ⟨im_in 1263 (by decide +kernel) (by decide +kernel), by decide, by decide⟩
theorem fl_L_53 : im_F RL 53 12 2 := ⟨im_in 1264 (by decide +kernel) (by decide +kernel), by decide, by decide⟩
theorem fl_X12_21 : im_F RX12 21 12 3 := ⟨im_in 1265 (by decide +kernel) (by decide +kernel), by decide, by decide⟩
theorem fl_L_89 : im_F RL 89 12 3 := ⟨im_in 1266 (by decide +kernel) (by decide +kernel), by decide, by decide⟩
theorem fl_X12_24 : im_F RX12 24 12 4 := ⟨im_in 1267 (by decide +kernel) (by decide +kernel), by decide, by decide⟩
theorem fl_L_70 : im_F RL 70 12 4 := ⟨im_in 1268 (by decide +kernel) (by decide +kernel), by decide, by decide⟩
theorem fl_X12_28 : im_F RX12 28 12 5 := ⟨im_in 1269 (by decide +kernel) (by decide +kernel), by decide, by decide⟩
theorem fl_L_73 : im_F RL 73 12 5 := ⟨im_in 1270 (by decide +kernel) (by decide +kernel), by decide, by decide⟩
theorem fl_X12_31 : im_F RX12 31 12 6 := ⟨im_in 1271 (by decide +kernel) (by decide +kernel), by decide, by decide⟩
theorem fl_L_76 : im_F RL 76 12 6 := ⟨im_in 1272 (by decide +kernel) (by decide +kernel), by decide, by decide⟩
theorem fl_X12_34 : im_F RX12 34 12 7 := ⟨im_in 1273 (by decide +kernel) (by decide +kernel), by decide, by decide⟩
theorem fl_L_79 : im_F RL 79 12 7 := ⟨im_in 1274 (by decide +kernel) (by decide +kernel), by decide, by decide⟩
theorem fl_L_83 : im_F RL 83 12 8 := ⟨im_in 1275 (by decide +kernel) (by decide +kernel), by decide, by decide⟩
theorem fl_X12_38 : im_F RX12 38 12 9 := ⟨im_in 1276 (by decide +kernel) (by decide +kernel), by decide, by decide⟩
theorem fl_L_59 : im_F RL 59 12 9 := ⟨im_in 1277 (by decide +kernel) (by decide +kernel), by decide, by decide⟩
theorem ko_L_7 : Cond.constant RL 7 (2147483647 : Int32) ∈ im_W := im_in 1302 (by decide +kernel) (by decide +kernel)
theorem ko_L_8 : Cond.constant RL 8 (790386105 : Int32) ∈ im_W := im_in 1306 (by decide +kernel) (by decide +kernel)
theorem w_objInit : Cond.instanceMethod Lib.objectInit ∈ im_W ∧ Cond.code Lib.objectInit ⟨#[0xb1]⟩ 1 none ∈ im_W := ⟨im_in 86 (by decide +kernel) (by decide +kernel), im_in 87 (by decide +kernel) (by decide +kernel)⟩
theorem w_mmax : Cond.static Lib.Math.max.name ∈ im_W ∧ Cond.initialized "java/lang/Math" ∈ im_W ∧ Cond.code Lib.Math.max.name Lib.Math.max.code 2 (some .int) ∈ im_W := ⟨im_in 868 (by decide +kernel) (by decide +kernel), im_in 71 (by decide +kernel) (by decide +kernel), im_in 869 (by decide +kernel) (by decide +kernel)⟩
theorem w_mmin : Cond.static Lib.Math.min.name ∈ im_W ∧ Cond.initialized "java/lang/Math" ∈ im_W ∧ Cond.code Lib.Math.min.name Lib.Math.min.code 2 (some .int) ∈ im_W := ⟨im_in 1311 (by decide +kernel) (by decide +kernel), im_in 71 (by decide +kernel) (by decide +kernel), im_in 1312 (by decide +kernel) (by decide +kernel)⟩
theorem w_copy : Cond.native arraycopyName ∈ im_W ∧ Cond.static arraycopyName ∈ im_W ∧ Cond.initialized "java/lang/System" ∈ im_W := ⟨im_in 1354 (by decide +kernel) (by decide +kernel), im_in 1353 (by decide +kernel) (by decide +kernel), im_in 77 (by decide +kernel) (by decide +kernel)⟩
theorem w_ints : Cond.arrayClass .int ∈ im_W := im_in 143 (by decide +kernel) (by decide +kernel)
end
section
/-! WHAT AN OBJECT LOOKS LIKE: its kind, its parts and where they lie (as the constructors lay them) -/
/-- Machine -/
def o_X5 (S : im_S) (a : Nat) : Prop := im_k S a = (5, im_N 5) ∧ im_r S a 5 = a + 1 + 1 ∧ im_k S (a + 1) = (20, 8)
theorem o_X5_k {S : im_S} {a : Nat} (h : o_X5 S a) : im_k S a = (5, im_N 5) := h.1
theorem o_X5_r5 {S : im_S} {a : Nat} (h : o_X5 S a) : im_r S a 5 = a + 1 + 1 := h.2.1
theorem o_X5_a5 {S : im_S} {a : Nat} (h : o_X5 S a) : im_k S (a + 1) = (20, 8) := h.2.2
/-- Program -/
def o_X8 (S : im_S) (a : Nat) : Prop := im_k S a = (8, im_N 8) ∧ im_r S a 3 = a + 1 + 1 ∧ im_k S (a + 1) = (20, 4) ∧ im_r S a 4 = a + 2 + 1 ∧ im_k S (a + 2) = (20, 80) ∧ im_r S a 5 = a + 3 + 1 ∧ im_k S (a + 3) = (20, 80) ∧ im_r S a 6 = a + 4 + 1 ∧ im_k S (a + 4) = (20, 80) ∧ im_r S a 7 = a + 5 + 1 ∧ im_k S (a + 5) = (20, 80) ∧ im_r S a 8 = a + 6 + 1 ∧ im_k S (a + 6) = (20, 4) ∧ im_r S a 9 = a + 7 + 1 ∧ im_k S (a + 7) = (20, 96) ∧ im_r S a 10 = a + 8 + 1 ∧ im_k S (a + 8) = (20, 96)
theorem o_X8_k {S : im_S} {a : Nat} (h : o_X8 S a) : im_k S a = (8, im_N 8) := h.1
theorem o_X8_r3 {S : im_S} {a : Nat} (h : o_X8 S a) : im_r S a 3 = a + 1 + 1 := h.2.1
theorem o_X8_a3 {S : im_S} {a : Nat} (h : o_X8 S a) : im_k S (a + 1) = (20, 4) := h.2.2.1
theorem o_X8_r4 {S : im_S} {a : Nat} (h : o_X8 S a) : im_r S a 4 = a + 2 + 1 := h.2.2.2.1
theorem o_X8_a4 {S : im_S} {a : Nat} (h : o_X8 S a) : im_k S (a + 2) = (20, 80) := h.2.2.2.2.1
theorem o_X8_r5 {S : im_S} {a : Nat} (h : o_X8 S a) : im_r S a 5 = a + 3 + 1 := h.2.2.2.2.2.1
theorem o_X8_a5 {S : im_S} {a : Nat} (h : o_X8 S a) : im_k S (a + 3) = (20, 80) := h.2.2.2.2.2.2.1
theorem o_X8_r6 {S : im_S} {a : Nat} (h : o_X8 S a) : im_r S a 6 = a + 4 + 1 := h.2.2.2.2.2.2.2.1
theorem o_X8_a6 {S : im_S} {a : Nat} (h : o_X8 S a) : im_k S (a + 4) = (20, 80) := h.2.2.2.2.2.2.2.2.1
theorem o_X8_r7 {S : im_S} {a : Nat} (h : o_X8 S a) : im_r S a 7 = a + 5 + 1 := h.2.2.2.2.2.2.2.2.2.1
theorem o_X8_a7 {S : im_S} {a : Nat} (h : o_X8 S a) : im_k S (a + 5) = (20, 80) := h.2.2.2.2.2.2.2.2.2.2.1
theorem o_X8_r8 {S : im_S} {a : Nat} (h : o_X8 S a) : im_r S a 8 = a + 6 + 1 := h.2.2.2.2.2.2.2.2.2.2.2.1
theorem o_X8_a8 {S : im_S} {a : Nat} (h : o_X8 S a) : im_k S (a + 6) = (20, 4) := h.2.2.2.2.2.2.2.2.2.2.2.2.1
theorem o_X8_r9 {S : im_S} {a : Nat} (h : o_X8 S a) : im_r S a 9 = a + 7 + 1 := h.2.2.2.2.2.2.2.2.2.2.2.2.2.1
theorem o_X8_a9 {S : im_S} {a : Nat} (h : o_X8 S a) : im_k S (a + 7) = (20, 96) := h.2.2.2.2.2.2.2.2.2.2.2.2.2.2.1
theorem o_X8_r10 {S : im_S} {a : Nat} (h : o_X8 S a) : im_r S a 10 = a + 8 + 1 := h.2.2.2.2.2.2.2.2.2.2.2.2.2.2.2.1
theorem o_X8_a10 {S : im_S} {a : Nat} (h : o_X8 S a) : im_k S (a + 8) = (20, 96) := h.2.2.2.2.2.2.2.2.2.2.2.2.2.2.2.2
/-- Instructions -/
def o_X3 (S : im_S) (a : Nat) : Prop := im_k S a = (3, im_N 3) ∧ im_r S a 1 = a + 1 + 1 ∧ im_k S (a + 1) = (20, 88) ∧ im_r S a 2 = a + 2 + 1 ∧ im_k S (a + 2) = (20, 88) ∧ im_r S a 3 = a + 3 + 1 ∧ im_k S (a + 3) = (20, 264) ∧ im_r S a 4 = a + 4 + 1 ∧ im_k S (a + 4) = (20, 88) ∧ im_r S a 5 = a + 5 + 1 ∧ im_k S (a + 5) = (20, 88) ∧ im_r S a 6 = a + 6 + 1 ∧ im_k S (a + 6) = (20, 88)
theorem o_X3_k {S : im_S} {a : Nat} (h : o_X3 S a) : im_k S a = (3, im_N 3) := h.1
theorem o_X3_r1 {S : im_S} {a : Nat} (h : o_X3 S a) : im_r S a 1 = a + 1 + 1 := h.2.1
theorem o_X3_a1 {S : im_S} {a : Nat} (h : o_X3 S a) : im_k S (a + 1) = (20, 88) := h.2.2.1
theorem o_X3_r2 {S : im_S} {a : Nat} (h : o_X3 S a) : im_r S a 2 = a + 2 + 1 := h.2.2.2.1
theorem o_X3_a2 {S : im_S} {a : Nat} (h : o_X3 S a) : im_k S (a + 2) = (20, 88) := h.2.2.2.2.1
theorem o_X3_r3 {S : im_S} {a : Nat} (h : o_X3 S a) : im_r S a 3 = a + 3 + 1 := h.2.2.2.2.2.1
theorem o_X3_a3 {S : im_S} {a : Nat} (h : o_X3 S a) : im_k S (a + 3) = (20, 264) := h.2.2.2.2.2.2.1
theorem o_X3_r4 {S : im_S} {a : Nat} (h : o_X3 S a) : im_r S a 4 = a + 4 + 1 := h.2.2.2.2.2.2.2.1
theorem o_X3_a4 {S : im_S} {a : Nat} (h : o_X3 S a) : im_k S (a + 4) = (20, 88) := h.2.2.2.2.2.2.2.2.1
theorem o_X3_r5 {S : im_S} {a : Nat} (h : o_X3 S a) : im_r S a 5 = a + 5 + 1 := h.2.2.2.2.2.2.2.2.2.1
theorem o_X3_a5 {S : im_S} {a : Nat} (h : o_X3 S a) : im_k S (a + 5) = (20, 88) := h.2.2.2.2.2.2.2.2.2.2.1
theorem o_X3_r6 {S : im_S} {a : Nat} (h : o_X3 S a) : im_r S a 6 = a + 6 + 1 := h.2.2.2.2.2.2.2.2.2.2.2.1
theorem o_X3_a6 {S : im_S} {a : Nat} (h : o_X3 S a) : im_k S (a + 6) = (20, 88) := h.2.2.2.2.2.2.2.2.2.2.2.2
/-- Meaning -/
def o_X6 (S : im_S) (a : Nat) : Prop := im_k S a = (6, im_N 6) ∧ im_r S a 0 = a + 1 + 1 ∧ im_k S (a + 1) = (20, 8) ∧ im_r S a 1 = a + 2 + 1 ∧ im_k S (a + 2) = (20, 80) ∧ im_r S a 2 = 3 + 1 ∧ o_X8 S (3)
theorem o_X6_k {S : im_S} {a : Nat} (h : o_X6 S a) : im_k S a = (6, im_N 6) := h.1
theorem o_X6_r0 {S : im_S} {a : Nat} (h : o_X6 S a) : im_r S a 0 = a + 1 + 1 := h.2.1
theorem o_X6_a0 {S : im_S} {a : Nat} (h : o_X6 S a) : im_k S (a + 1) = (20, 8) := h.2.2.1
theorem o_X6_r1 {S : im_S} {a : Nat} (h : o_X6 S a) : im_r S a 1 = a + 2 + 1 := h.2.2.2.1
theorem o_X6_a1 {S : im_S} {a : Nat} (h : o_X6 S a) : im_k S (a + 2) = (20, 80) := h.2.2.2.2.1
theorem o_X6_r2 {S : im_S} {a : Nat} (h : o_X6 S a) : im_r S a 2 = 3 + 1 := h.2.2.2.2.2.1
theorem o_X6_o2 {S : im_S} {a : Nat} (h : o_X6 S a) : o_X8 S (3) := h.2.2.2.2.2.2
/-- Lives -/
def o_X4 (S : im_S) (a : Nat) : Prop := im_k S a = (4, im_N 4) ∧ im_r S a 3 = 3 + 1 ∧ o_X8 S (3) ∧ im_r S a 4 = a + 1 + 1 ∧ im_k S (a + 1) = (20, 88) ∧ im_r S a 5 = a + 2 + 1 ∧ im_k S (a + 2) = (20, 88) ∧ im_r S a 6 = a + 3 + 1 ∧ im_k S (a + 3) = (20, 88) ∧ im_r S a 7 = a + 4 + 1 ∧ im_k S (a + 4) = (20, 88) ∧ im_r S a 8 = a + 5 + 1 ∧ im_k S (a + 5) = (20, 88) ∧ im_r S a 9 = a + 6 + 1 ∧ im_k S (a + 6) = (20, 88) ∧ im_r S a 10 = a + 7 + 1 ∧ im_k S (a + 7) = (20, 88) ∧ im_r S a 11 = a + 8 + 1 ∧ im_k S (a + 8) = (20, 88)
theorem o_X4_k {S : im_S} {a : Nat} (h : o_X4 S a) : im_k S a = (4, im_N 4) := h.1
theorem o_X4_r3 {S : im_S} {a : Nat} (h : o_X4 S a) : im_r S a 3 = 3 + 1 := h.2.1
theorem o_X4_o3 {S : im_S} {a : Nat} (h : o_X4 S a) : o_X8 S (3) := h.2.2.1
theorem o_X4_r4 {S : im_S} {a : Nat} (h : o_X4 S a) : im_r S a 4 = a + 1 + 1 := h.2.2.2.1
theorem o_X4_a4 {S : im_S} {a : Nat} (h : o_X4 S a) : im_k S (a + 1) = (20, 88) := h.2.2.2.2.1
theorem o_X4_r5 {S : im_S} {a : Nat} (h : o_X4 S a) : im_r S a 5 = a + 2 + 1 := h.2.2.2.2.2.1
theorem o_X4_a5 {S : im_S} {a : Nat} (h : o_X4 S a) : im_k S (a + 2) = (20, 88) := h.2.2.2.2.2.2.1
theorem o_X4_r6 {S : im_S} {a : Nat} (h : o_X4 S a) : im_r S a 6 = a + 3 + 1 := h.2.2.2.2.2.2.2.1
theorem o_X4_a6 {S : im_S} {a : Nat} (h : o_X4 S a) : im_k S (a + 3) = (20, 88) := h.2.2.2.2.2.2.2.2.1
theorem o_X4_r7 {S : im_S} {a : Nat} (h : o_X4 S a) : im_r S a 7 = a + 4 + 1 := h.2.2.2.2.2.2.2.2.2.1
theorem o_X4_a7 {S : im_S} {a : Nat} (h : o_X4 S a) : im_k S (a + 4) = (20, 88) := h.2.2.2.2.2.2.2.2.2.2.1
theorem o_X4_r8 {S : im_S} {a : Nat} (h : o_X4 S a) : im_r S a 8 = a + 5 + 1 := h.2.2.2.2.2.2.2.2.2.2.2.1
theorem o_X4_a8 {S : im_S} {a : Nat} (h : o_X4 S a) : im_k S (a + 5) = (20, 88) := h.2.2.2.2.2.2.2.2.2.2.2.2.1
theorem o_X4_r9 {S : im_S} {a : Nat} (h : o_X4 S a) : im_r S a 9 = a + 6 + 1 := h.2.2.2.2.2.2.2.2.2.2.2.2.2.1
theorem o_X4_a9 {S : im_S} {a : Nat} (h : o_X4 S a) : im_k S (a + 6) = (20, 88) := h.2.2.2.2.2.2.2.2.2.2.2.2.2.2.1
theorem o_X4_r10 {S : im_S} {a : Nat} (h : o_X4 S a) : im_r S a 10 = a + 7 + 1 := h.2.2.2.2.2.2.2.2.2.2.2.2.2.2.2.1
theorem o_X4_a10 {S : im_S} {a : Nat} (h : o_X4 S a) : im_k S (a + 7) = (20, 88) := h.2.2.2.2.2.2.2.2.2.2.2.2.2.2.2.2.1
theorem o_X4_r11 {S : im_S} {a : Nat} (h : o_X4 S a) : im_r S a 11 = a + 8 + 1 := h.2.2.2.2.2.2.2.2.2.2.2.2.2.2.2.2.2.1
theorem o_X4_a11 {S : im_S} {a : Nat} (h : o_X4 S a) : im_k S (a + 8) = (20, 88) := h.2.2.2.2.2.2.2.2.2.2.2.2.2.2.2.2.2.2
/-- Choice -/
def o_X0 (S : im_S) (a : Nat) (m : Nat) : Prop := im_k S a = (0, im_N 0) ∧ im_r S a 0 = a + 1 + 1 ∧ im_k S (a + 1) = (20, 80) ∧ im_r S a 1 = 3 + 1 ∧ o_X8 S (3) ∧ im_r S a 2 = m + 1 ∧ o_X5 S (m) ∧ im_r S a 3 = a + 2 + 1 ∧ im_k S (a + 2) = (20, 80) ∧ im_r S a 4 = a + 3 + 1 ∧ im_k S (a + 3) = (20, 80) ∧ im_r S a 5 = a + 4 + 1 ∧ im_k S (a + 4) = (20, 240) ∧ im_r S a 6 = a + 5 + 1 ∧ im_k S (a + 5) = (20, 240) ∧ im_r S a 7 = a + 6 + 1 ∧ im_k S (a + 6) = (20, 80) ∧ im_r S a 8 = a + 7 + 1 ∧ im_k S (a + 7) = (20, 80) ∧ im_r S a 9 = a + 8 + 1 ∧ im_k S (a + 8) = (20, 80)
theorem o_X0_k {S : im_S} {a : Nat} {m : Nat} (h : o_X0 S a m) : im_k S a = (0, im_N 0) := h.1
theorem o_X0_r0 {S : im_S} {a : Nat} {m : Nat} (h : o_X0 S a m) : im_r S a 0 = a + 1 + 1 := h.2.1
theorem o_X0_a0 {S : im_S} {a : Nat} {m : Nat} (h : o_X0 S a m) : im_k S (a + 1) = (20, 80) := h.2.2.1
theorem o_X0_r1 {S : im_S} {a : Nat} {m : Nat} (h : o_X0 S a m) : im_r S a 1 = 3 + 1 := h.2.2.2.1
theorem o_X0_o1 {S : im_S} {a : Nat} {m : Nat} (h : o_X0 S a m) : o_X8 S (3) := h.2.2.2.2.1
theorem o_X0_r2 {S : im_S} {a : Nat} {m : Nat} (h : o_X0 S a m) : im_r S a 2 = m + 1 := h.2.2.2.2.2.1
theorem o_X0_o2 {S : im_S} {a : Nat} {m : Nat} (h : o_X0 S a m) : o_X5 S (m) := h.2.2.2.2.2.2.1
theorem o_X0_r3 {S : im_S} {a : Nat} {m : Nat} (h : o_X0 S a m) : im_r S a 3 = a + 2 + 1 := h.2.2.2.2.2.2.2.1
theorem o_X0_a3 {S : im_S} {a : Nat} {m : Nat} (h : o_X0 S a m) : im_k S (a + 2) = (20, 80) := h.2.2.2.2.2.2.2.2.1
theorem o_X0_r4 {S : im_S} {a : Nat} {m : Nat} (h : o_X0 S a m) : im_r S a 4 = a + 3 + 1 := h.2.2.2.2.2.2.2.2.2.1
theorem o_X0_a4 {S : im_S} {a : Nat} {m : Nat} (h : o_X0 S a m) : im_k S (a + 3) = (20, 80) := h.2.2.2.2.2.2.2.2.2.2.1
theorem o_X0_r5 {S : im_S} {a : Nat} {m : Nat} (h : o_X0 S a m) : im_r S a 5 = a + 4 + 1 := h.2.2.2.2.2.2.2.2.2.2.2.1
theorem o_X0_a5 {S : im_S} {a : Nat} {m : Nat} (h : o_X0 S a m) : im_k S (a + 4) = (20, 240) := h.2.2.2.2.2.2.2.2.2.2.2.2.1
theorem o_X0_r6 {S : im_S} {a : Nat} {m : Nat} (h : o_X0 S a m) : im_r S a 6 = a + 5 + 1 := h.2.2.2.2.2.2.2.2.2.2.2.2.2.1
theorem o_X0_a6 {S : im_S} {a : Nat} {m : Nat} (h : o_X0 S a m) : im_k S (a + 5) = (20, 240) := h.2.2.2.2.2.2.2.2.2.2.2.2.2.2.1
theorem o_X0_r7 {S : im_S} {a : Nat} {m : Nat} (h : o_X0 S a m) : im_r S a 7 = a + 6 + 1 := h.2.2.2.2.2.2.2.2.2.2.2.2.2.2.2.1
theorem o_X0_a7 {S : im_S} {a : Nat} {m : Nat} (h : o_X0 S a m) : im_k S (a + 6) = (20, 80) := h.2.2.2.2.2.2.2.2.2.2.2.2.2.2.2.2.1
theorem o_X0_r8 {S : im_S} {a : Nat} {m : Nat} (h : o_X0 S a m) : im_r S a 8 = a + 7 + 1 := h.2.2.2.2.2.2.2.2.2.2.2.2.2.2.2.2.2.1
theorem o_X0_a8 {S : im_S} {a : Nat} {m : Nat} (h : o_X0 S a m) : im_k S (a + 7) = (20, 80) := h.2.2.2.2.2.2.2.2.2.2.2.2.2.2.2.2.2.2.1
theorem o_X0_r9 {S : im_S} {a : Nat} {m : Nat} (h : o_X0 S a m) : im_r S a 9 = a + 8 + 1 := h.2.2.2.2.2.2.2.2.2.2.2.2.2.2.2.2.2.2.2.1
theorem o_X0_a9 {S : im_S} {a : Nat} {m : Nat} (h : o_X0 S a m) : im_k S (a + 8) = (20, 80) := h.2.2.2.2.2.2.2.2.2.2.2.2.2.2.2.2.2.2.2.2
/-- Code -/
def o_X1 (S : im_S) (a : Nat) (m : Nat) : Prop := im_k S a = (1, im_N 1) ∧ im_r S a 1 = m + 1 ∧ o_X5 S (m) ∧ im_r S a 2 = a + 1 + 1 ∧ im_k S (a + 1) = (20, 528) ∧ im_r S a 3 = a + 2 + 1 ∧ im_k S (a + 2) = (20, 2112) ∧ im_r S a 4 = a + 3 + 1 ∧ im_k S (a + 3) = (20, 528) ∧ im_r S a 5 = a + 4 + 1 ∧ im_k S (a + 4) = (20, 89)
theorem o_X1_k {S : im_S} {a : Nat} {m : Nat} (h : o_X1 S a m) : im_k S a = (1, im_N 1) := h.1
theorem o_X1_r1 {S : im_S} {a : Nat} {m : Nat} (h : o_X1 S a m) : im_r S a 1 = m + 1 := h.2.1
theorem o_X1_o1 {S : im_S} {a : Nat} {m : Nat} (h : o_X1 S a m) : o_X5 S (m) := h.2.2.1
theorem o_X1_r2 {S : im_S} {a : Nat} {m : Nat} (h : o_X1 S a m) : im_r S a 2 = a + 1 + 1 := h.2.2.2.1
theorem o_X1_a2 {S : im_S} {a : Nat} {m : Nat} (h : o_X1 S a m) : im_k S (a + 1) = (20, 528) := h.2.2.2.2.1
theorem o_X1_r3 {S : im_S} {a : Nat} {m : Nat} (h : o_X1 S a m) : im_r S a 3 = a + 2 + 1 := h.2.2.2.2.2.1
theorem o_X1_a3 {S : im_S} {a : Nat} {m : Nat} (h : o_X1 S a m) : im_k S (a + 2) = (20, 2112) := h.2.2.2.2.2.2.1
theorem o_X1_r4 {S : im_S} {a : Nat} {m : Nat} (h : o_X1 S a m) : im_r S a 4 = a + 3 + 1 := h.2.2.2.2.2.2.2.1
theorem o_X1_a4 {S : im_S} {a : Nat} {m : Nat} (h : o_X1 S a m) : im_k S (a + 3) = (20, 528) := h.2.2.2.2.2.2.2.2.1
theorem o_X1_r5 {S : im_S} {a : Nat} {m : Nat} (h : o_X1 S a m) : im_r S a 5 = a + 4 + 1 := h.2.2.2.2.2.2.2.2.2.1
theorem o_X1_a5 {S : im_S} {a : Nat} {m : Nat} (h : o_X1 S a m) : im_k S (a + 4) = (20, 89) := h.2.2.2.2.2.2.2.2.2.2
/-- Homes -/
def o_X2 (S : im_S) (a : Nat) (m : Nat) : Prop := im_k S a = (2, im_N 2) ∧ im_r S a 4 = m + 1 ∧ o_X5 S (m) ∧ im_r S a 5 = a + 1 + 1 ∧ im_k S (a + 1) = (20, 88) ∧ im_r S a 6 = a + 2 + 1 ∧ im_k S (a + 2) = (20, 88) ∧ im_r S a 7 = a + 3 + 1 ∧ im_k S (a + 3) = (20, 88) ∧ im_r S a 8 = a + 4 + 1 ∧ im_k S (a + 4) = (20, 88) ∧ im_r S a 9 = a + 5 + 1 ∧ im_k S (a + 5) = (20, 88)
theorem o_X2_k {S : im_S} {a : Nat} {m : Nat} (h : o_X2 S a m) : im_k S a = (2, im_N 2) := h.1
theorem o_X2_r4 {S : im_S} {a : Nat} {m : Nat} (h : o_X2 S a m) : im_r S a 4 = m + 1 := h.2.1
theorem o_X2_o4 {S : im_S} {a : Nat} {m : Nat} (h : o_X2 S a m) : o_X5 S (m) := h.2.2.1
theorem o_X2_r5 {S : im_S} {a : Nat} {m : Nat} (h : o_X2 S a m) : im_r S a 5 = a + 1 + 1 := h.2.2.2.1
theorem o_X2_a5 {S : im_S} {a : Nat} {m : Nat} (h : o_X2 S a m) : im_k S (a + 1) = (20, 88) := h.2.2.2.2.1
theorem o_X2_r6 {S : im_S} {a : Nat} {m : Nat} (h : o_X2 S a m) : im_r S a 6 = a + 2 + 1 := h.2.2.2.2.2.1
theorem o_X2_a6 {S : im_S} {a : Nat} {m : Nat} (h : o_X2 S a m) : im_k S (a + 2) = (20, 88) := h.2.2.2.2.2.2.1
theorem o_X2_r7 {S : im_S} {a : Nat} {m : Nat} (h : o_X2 S a m) : im_r S a 7 = a + 3 + 1 := h.2.2.2.2.2.2.2.1
theorem o_X2_a7 {S : im_S} {a : Nat} {m : Nat} (h : o_X2 S a m) : im_k S (a + 3) = (20, 88) := h.2.2.2.2.2.2.2.2.1
theorem o_X2_r8 {S : im_S} {a : Nat} {m : Nat} (h : o_X2 S a m) : im_r S a 8 = a + 4 + 1 := h.2.2.2.2.2.2.2.2.2.1
theorem o_X2_a8 {S : im_S} {a : Nat} {m : Nat} (h : o_X2 S a m) : im_k S (a + 4) = (20, 88) := h.2.2.2.2.2.2.2.2.2.2.1
theorem o_X2_r9 {S : im_S} {a : Nat} {m : Nat} (h : o_X2 S a m) : im_r S a 9 = a + 5 + 1 := h.2.2.2.2.2.2.2.2.2.2.2.1
theorem o_X2_a9 {S : im_S} {a : Nat} {m : Nat} (h : o_X2 S a m) : im_k S (a + 5) = (20, 88) := h.2.2.2.2.2.2.2.2.2.2.2.2
/-- Run -/
def o_X9 (S : im_S) (a : Nat) (m : Nat) : Prop := im_k S a = (9, im_N 9) ∧ im_r S a 3 = a + 1 + 1 ∧ im_k S (a + 1) = (20, 528) ∧ im_r S a 4 = a + 2 + 1 ∧ im_k S (a + 2) = (20, 11) ∧ im_r S a 5 = a + 3 + 1 ∧ im_k S (a + 3) = (20, 88) ∧ im_r S a 6 = 3 + 1 ∧ o_X8 S (3) ∧ im_r S a 7 = m + 1 ∧ o_X5 S (m) ∧ im_r S a 8 = a + 4 + 1 ∧ im_k S (a + 4) = (20, 11)
theorem o_X9_k {S : im_S} {a : Nat} {m : Nat} (h : o_X9 S a m) : im_k S a = (9, im_N 9) := h.1
theorem o_X9_r3 {S : im_S} {a : Nat} {m : Nat} (h : o_X9 S a m) : im_r S a 3 = a + 1 + 1 := h.2.1
theorem o_X9_a3 {S : im_S} {a : Nat} {m : Nat} (h : o_X9 S a m) : im_k S (a + 1) = (20, 528) := h.2.2.1
theorem o_X9_r4 {S : im_S} {a : Nat} {m : Nat} (h : o_X9 S a m) : im_r S a 4 = a + 2 + 1 := h.2.2.2.1
theorem o_X9_a4 {S : im_S} {a : Nat} {m : Nat} (h : o_X9 S a m) : im_k S (a + 2) = (20, 11) := h.2.2.2.2.1
theorem o_X9_r5 {S : im_S} {a : Nat} {m : Nat} (h : o_X9 S a m) : im_r S a 5 = a + 3 + 1 := h.2.2.2.2.2.1
theorem o_X9_a5 {S : im_S} {a : Nat} {m : Nat} (h : o_X9 S a m) : im_k S (a + 3) = (20, 88) := h.2.2.2.2.2.2.1
theorem o_X9_r6 {S : im_S} {a : Nat} {m : Nat} (h : o_X9 S a m) : im_r S a 6 = 3 + 1 := h.2.2.2.2.2.2.2.1
theorem o_X9_o6 {S : im_S} {a : Nat} {m : Nat} (h : o_X9 S a m) : o_X8 S (3) := h.2.2.2.2.2.2.2.2.1
theorem o_X9_r7 {S : im_S} {a : Nat} {m : Nat} (h : o_X9 S a m) : im_r S a 7 = m + 1 := h.2.2.2.2.2.2.2.2.2.1
theorem o_X9_o7 {S : im_S} {a : Nat} {m : Nat} (h : o_X9 S a m) : o_X5 S (m) := h.2.2.2.2.2.2.2.2.2.2.1
theorem o_X9_r8 {S : im_S} {a : Nat} {m : Nat} (h : o_X9 S a m) : im_r S a 8 = a + 4 + 1 := h.2.2.2.2.2.2.2.2.2.2.2.1
theorem o_X9_a8 {S : im_S} {a : Nat} {m : Nat} (h : o_X9 S a m) : im_k S (a + 4) = (20, 11) := h.2.2.2.2.2.2.2.2.2.2.2.2
/-- Plan -/
def o_X7 (S : im_S) (a : Nat) (m : Nat) : Prop := im_k S a = (7, im_N 7) ∧ im_r S a 0 = a + 1 + 1 ∧ o_X0 S (a + 1) m ∧ im_r S a 1 = a + 10 + 1 ∧ o_X3 S (a + 10) ∧ im_r S a 2 = a + 17 + 1 ∧ o_X4 S (a + 17) ∧ im_r S a 3 = a + 26 + 1 ∧ im_k S (a + 26) = (20, 5) ∧ im_r S a 4 = 3 + 1 ∧ o_X8 S (3) ∧ im_r S a 5 = m + 1 ∧ o_X5 S (m) ∧ im_r S a 6 = a + 27 + 1 ∧ o_X3 S (a + 27) ∧ im_r S a 7 = a + 34 + 1 ∧ im_k S (a + 34) = (20, 5) ∧ im_r S a 8 = a + 35 + 1 ∧ im_k S (a + 35) = (20, 88)
theorem o_X7_k {S : im_S} {a : Nat} {m : Nat} (h : o_X7 S a m) : im_k S a = (7, im_N 7) := h.1
theorem o_X7_r0 {S : im_S} {a : Nat} {m : Nat} (h : o_X7 S a m) : im_r S a 0 = a + 1 + 1 := h.2.1
theorem o_X7_o0 {S : im_S} {a : Nat} {m : Nat} (h : o_X7 S a m) : o_X0 S (a + 1) m := h.2.2.1
theorem o_X7_r1 {S : im_S} {a : Nat} {m : Nat} (h : o_X7 S a m) : im_r S a 1 = a + 10 + 1 := h.2.2.2.1
theorem o_X7_o1 {S : im_S} {a : Nat} {m : Nat} (h : o_X7 S a m) : o_X3 S (a + 10) := h.2.2.2.2.1
theorem o_X7_r2 {S : im_S} {a : Nat} {m : Nat} (h : o_X7 S a m) : im_r S a 2 = a + 17 + 1 := h.2.2.2.2.2.1
theorem o_X7_o2 {S : im_S} {a : Nat} {m : Nat} (h : o_X7 S a m) : o_X4 S (a + 17) := h.2.2.2.2.2.2.1
theorem o_X7_r3 {S : im_S} {a : Nat} {m : Nat} (h : o_X7 S a m) : im_r S a 3 = a + 26 + 1 := h.2.2.2.2.2.2.2.1
theorem o_X7_a3 {S : im_S} {a : Nat} {m : Nat} (h : o_X7 S a m) : im_k S (a + 26) = (20, 5) := h.2.2.2.2.2.2.2.2.1
theorem o_X7_r4 {S : im_S} {a : Nat} {m : Nat} (h : o_X7 S a m) : im_r S a 4 = 3 + 1 := h.2.2.2.2.2.2.2.2.2.1
theorem o_X7_o4 {S : im_S} {a : Nat} {m : Nat} (h : o_X7 S a m) : o_X8 S (3) := h.2.2.2.2.2.2.2.2.2.2.1
theorem o_X7_r5 {S : im_S} {a : Nat} {m : Nat} (h : o_X7 S a m) : im_r S a 5 = m + 1 := h.2.2.2.2.2.2.2.2.2.2.2.1
theorem o_X7_o5 {S : im_S} {a : Nat} {m : Nat} (h : o_X7 S a m) : o_X5 S (m) := h.2.2.2.2.2.2.2.2.2.2.2.2.1
theorem o_X7_r6 {S : im_S} {a : Nat} {m : Nat} (h : o_X7 S a m) : im_r S a 6 = a + 27 + 1 := h.2.2.2.2.2.2.2.2.2.2.2.2.2.1
theorem o_X7_o6 {S : im_S} {a : Nat} {m : Nat} (h : o_X7 S a m) : o_X3 S (a + 27) := h.2.2.2.2.2.2.2.2.2.2.2.2.2.2.1
theorem o_X7_r7 {S : im_S} {a : Nat} {m : Nat} (h : o_X7 S a m) : im_r S a 7 = a + 34 + 1 := h.2.2.2.2.2.2.2.2.2.2.2.2.2.2.2.1
theorem o_X7_a7 {S : im_S} {a : Nat} {m : Nat} (h : o_X7 S a m) : im_k S (a + 34) = (20, 5) := h.2.2.2.2.2.2.2.2.2.2.2.2.2.2.2.2.1
theorem o_X7_r8 {S : im_S} {a : Nat} {m : Nat} (h : o_X7 S a m) : im_r S a 8 = a + 35 + 1 := h.2.2.2.2.2.2.2.2.2.2.2.2.2.2.2.2.2.1
theorem o_X7_a8 {S : im_S} {a : Nat} {m : Nat} (h : o_X7 S a m) : im_k S (a + 35) = (20, 88) := h.2.2.2.2.2.2.2.2.2.2.2.2.2.2.2.2.2.2
/-- Works -/
def o_X10 (S : im_S) (a : Nat) (m : Nat) : Prop := im_k S a = (10, im_N 10) ∧ im_r S a 0 = a + 1 + 1 ∧ o_X2 S (a + 1) m ∧ im_r S a 1 = a + 7 + 1 ∧ o_X1 S (a + 7) m ∧ im_r S a 2 = a + 12 + 1 ∧ o_X9 S (a + 12) m ∧ im_r S a 3 = 3 + 1 ∧ o_X8 S (3)
theorem o_X10_k {S : im_S} {a : Nat} {m : Nat} (h : o_X10 S a m) : im_k S a = (10, im_N 10) := h.1
theorem o_X10_r0 {S : im_S} {a : Nat} {m : Nat} (h : o_X10 S a m) : im_r S a 0 = a + 1 + 1 := h.2.1
theorem o_X10_o0 {S : im_S} {a : Nat} {m : Nat} (h : o_X10 S a m) : o_X2 S (a + 1) m := h.2.2.1
theorem o_X10_r1 {S : im_S} {a : Nat} {m : Nat} (h : o_X10 S a m) : im_r S a 1 = a + 7 + 1 := h.2.2.2.1
theorem o_X10_o1 {S : im_S} {a : Nat} {m : Nat} (h : o_X10 S a m) : o_X1 S (a + 7) m := h.2.2.2.2.1
theorem o_X10_r2 {S : im_S} {a : Nat} {m : Nat} (h : o_X10 S a m) : im_r S a 2 = a + 12 + 1 := h.2.2.2.2.2.1
theorem o_X10_o2 {S : im_S} {a : Nat} {m : Nat} (h : o_X10 S a m) : o_X9 S (a + 12) m := h.2.2.2.2.2.2.1
theorem o_X10_r3 {S : im_S} {a : Nat} {m : Nat} (h : o_X10 S a m) : im_r S a 3 = 3 + 1 := h.2.2.2.2.2.2.2.1
theorem o_X10_o3 {S : im_S} {a : Nat} {m : Nat} (h : o_X10 S a m) : o_X8 S (3) := h.2.2.2.2.2.2.2.2
/-- Main -/
def o_X11 (S : im_S) (a : Nat) : Prop := im_k S a = (11, im_N 11) ∧ im_r S a 0 = 3 + 1 ∧ o_X8 S (3) ∧ im_r S a 1 = 12 + 1 ∧ o_X6 S (12) ∧ im_r S a 2 = 15 + 1 ∧ o_X5 S (15) ∧ im_r S a 3 = 17 + 1 ∧ o_X5 S (17) ∧ im_r S a 4 = 19 + 1 ∧ o_X7 S (19) 15 ∧ im_r S a 5 = 55 + 1 ∧ o_X7 S (55) 17 ∧ im_r S a 6 = 91 + 1 ∧ o_X10 S (91) 15 ∧ im_r S a 7 = 108 + 1 ∧ o_X10 S (108) 17
theorem o_X11_k {S : im_S} {a : Nat} (h : o_X11 S a) : im_k S a = (11, im_N 11) := h.1
theorem o_X11_r0 {S : im_S} {a : Nat} (h : o_X11 S a) : im_r S a 0 = 3 + 1 := h.2.1
theorem o_X11_o0 {S : im_S} {a : Nat} (h : o_X11 S a) : o_X8 S (3) := h.2.2.1
theorem o_X11_r1 {S : im_S} {a : Nat} (h : o_X11 S a) : im_r S a 1 = 12 + 1 := h.2.2.2.1
theorem o_X11_o1 {S : im_S} {a : Nat} (h : o_X11 S a) : o_X6 S (12) := h.2.2.2.2.1
theorem o_X11_r2 {S : im_S} {a : Nat} (h : o_X11 S a) : im_r S a 2 = 15 + 1 := h.2.2.2.2.2.1
theorem o_X11_o2 {S : im_S} {a : Nat} (h : o_X11 S a) : o_X5 S (15) := h.2.2.2.2.2.2.1
theorem o_X11_r3 {S : im_S} {a : Nat} (h : o_X11 S a) : im_r S a 3 = 17 + 1 := h.2.2.2.2.2.2.2.1
theorem o_X11_o3 {S : im_S} {a : Nat} (h : o_X11 S a) : o_X5 S (17) := h.2.2.2.2.2.2.2.2.1
theorem o_X11_r4 {S : im_S} {a : Nat} (h : o_X11 S a) : im_r S a 4 = 19 + 1 := h.2.2.2.2.2.2.2.2.2.1
theorem o_X11_o4 {S : im_S} {a : Nat} (h : o_X11 S a) : o_X7 S (19) 15 := h.2.2.2.2.2.2.2.2.2.2.1
theorem o_X11_r5 {S : im_S} {a : Nat} (h : o_X11 S a) : im_r S a 5 = 55 + 1 := h.2.2.2.2.2.2.2.2.2.2.2.1
theorem o_X11_o5 {S : im_S} {a : Nat} (h : o_X11 S a) : o_X7 S (55) 17 := h.2.2.2.2.2.2.2.2.2.2.2.2.1
theorem o_X11_r6 {S : im_S} {a : Nat} (h : o_X11 S a) : im_r S a 6 = 91 + 1 := h.2.2.2.2.2.2.2.2.2.2.2.2.2.1
theorem o_X11_o6 {S : im_S} {a : Nat} (h : o_X11 S a) : o_X10 S (91) 15 := h.2.2.2.2.2.2.2.2.2.2.2.2.2.2.1
theorem o_X11_r7 {S : im_S} {a : Nat} (h : o_X11 S a) : im_r S a 7 = 108 + 1 := h.2.2.2.2.2.2.2.2.2.2.2.2.2.2.2.1
theorem o_X11_o7 {S : im_S} {a : Nat} (h : o_X11 S a) : o_X10 S (108) 17 := h.2.2.2.2.2.2.2.2.2.2.2.2.2.2.2.2
end
section
/-! WHAT THE METHODS ANSWER AND DO, as functions of the ints in memory (addresses as parts 11 has them) -/
def b2i (b : Bool) : Int32 := if b = true then 1 else 0
theorem b2i_t : b2i true = 1 := rfl
theorem b2i_f : b2i false = 0 := rfl
theorem b2i_0 {b : Bool} (h : b2i b = 0) : b = false := by cases b <;> simp_all [b2i]
theorem b2i_1 {b : Bool} (h : ¬ b2i b = 0) : b = true := by cases b <;> simp_all [b2i]
theorem b2i_n (b : Bool) : narrow .boolean (.int (b2i b)) = .int (b2i b) := by cases b <;> rfl
def loopN {σ : Type} : Nat → Int32 → (Int32 → σ → σ) → σ → σ
  | 0, _, _, s => s
  | n + 1, i, f, s => loopN n (i + 1) f (f i s)
/-- how often a loop from i while below e goes round -/
def cnt (i e : Int32) : Nat := (e.toInt - i.toInt).toNat
def loopC {σ : Type} (i e : Int32) (f : Int32 → σ → σ) (s : σ) : σ := loopN (cnt i e) i f s
def at_ (f : Nat → Int32) (n : Nat) (i : Int32) : Int32 := if i < 0 then -1 else if Int32.ofNat n ≤ i then -1 else f i.toNatClampNeg
def put_ (I : im_I) (x n : Nat) (i v : Int32) : im_I := if i < 0 then I else if Int32.ofNat n ≤ i then I else im_up I x i.toNatClampNeg v
def fill_ (I : im_I) (x n : Nat) (v : Int32) : im_I := fun b j => if b = x ∧ j < n then v else I b j
def isBelow_ (x e : Int32) : Bool := if x < 0 then false else if e ≤ x then false else true
def bit_ (k : Int32) : Int32 := if k < 0 then 0 else if 32 ≤ k then 0 else 1 <<< (k &&& 31)
def hasBit_ (s k : Int32) : Bool := if k < 0 then false else if 32 ≤ k then false else decide (s >>> (k &&& 31) &&& 1 = 1)
def isMachine_ (r kept : Int32) : Bool := if r < 5 then false else if 11 < r then false else if kept < 0 then false else decide (kept &&& ((bit_ (r - 3) - bit_ 2) ^^^ -1) = 0)
def mix_ (d v : Int64) : Int64 := d * 31 + v
-- Machine (5) at m: 0 registers 1 kept 2 small 3 fused 4 two; m+1 latencies
def scratch_ (I : im_I) (m : Nat) : Int32 := I m 0 - 3
def lkind_ (i : Int32) : Int32 := at_ im_lat 10 i
def cyclesOf_ (I : im_I) (m : Nat) (i : Int32) : Int32 := at_ (I (m + 1)) 8 (lkind_ i)
-- Program (8) at p: 0 nodeCount 1 statementCount 2 asked; +1 rounds +2 kinds +3 first +4 second +5 isPart +6 counts +7 variables +8 roots
def placeOf_ (b k : Int32) : Int32 := b * 24 + k
def isLoose_ (I : im_I) (p : Nat) (x : Int32) : Bool := if isBelow_ x (I p 0) = false then false else decide (at_ (I (p + 5)) 80 x = 0)
def statementsIn_ (I : im_I) (p : Nat) (b : Int32) : Int32 := at_ (I (p + 6)) 4 b
def variableOf_ (I : im_I) (p : Nat) (b k : Int32) : Int32 := at_ (I (p + 7)) 96 (placeOf_ b k)
def rootOf_ (I : im_I) (p : Nat) (b k : Int32) : Int32 := at_ (I (p + 8)) 96 (placeOf_ b k)
def roundsOf_ (I : im_I) (p : Nat) (b : Int32) : Int32 := if b = -1 then 1 else at_ (I (p + 1)) 4 b
-- Instructions (3) at a: 0 count; +1 kinds +2 writes +3 reads +4 numbers +5 blocks +6 heights
def kindOf_ (I : im_I) (a : Nat) (x : Int32) : Int32 := at_ (I (a + 1)) 88 x
def writtenBy_ (I : im_I) (a : Nat) (x : Int32) : Int32 := at_ (I (a + 2)) 88 x
def readBy_ (I : im_I) (a : Nat) (x j : Int32) : Int32 := at_ (I (a + 3)) 264 (3 * x + j)
def numberOf_ (I : im_I) (a : Nat) (x : Int32) : Int32 := at_ (I (a + 4)) 88 x
def blockOf_ (I : im_I) (a : Nat) (x : Int32) : Int32 := at_ (I (a + 5)) 88 x
def heightOf_ (I : im_I) (a : Nat) (x : Int32) : Int32 := at_ (I (a + 6)) 88 x
-- Machine
def beLike_ (I : im_I) (a b : Nat) : im_I :=
  let I1 := im_up I a 0 (I b 0)
  let I2 := im_up I1 a 1 (I1 b 1)
  let I3 := im_up I2 a 2 (I2 b 2)
  let I4 := im_up I3 a 3 (I3 b 3)
  let I5 := im_up I4 a 4 (I4 b 4)
  loopC 0 8 (fun i J => put_ J (a + 1) 8 i (at_ (J (b + 1)) 8 i)) I5
-- Program
def canBeNode_ (I : im_I) (p : Nat) (kd x y : Int32) : Bool :=
  if kd = 0 then (if x < -999 then false else if 999 < x then false else decide (y = 0))
  else if kd = 1 then (if isBelow_ x 8 = false then false else decide (y = 0))
  else if kd < 2 then false else if 5 < kd then false else if isLoose_ I p x = false then false else if isLoose_ I p y = false then false else decide (¬ x = y)
def addNode_ (I : im_I) (p : Nat) (kd x y : Int32) : im_I :=
  let nd := I p 0
  let I1 := put_ I (p + 2) 80 nd kd
  let I2 := put_ I1 (p + 3) 80 nd x
  let I3 := put_ I2 (p + 4) 80 nd y
  let I4 := put_ I3 (p + 5) 80 nd 0
  let I5 := if kd < 2 then I4 else put_ (put_ I4 (p + 5) 80 x 1) (p + 5) 80 y 1
  im_up I5 p 0 (I5 p 0 + 1)
def addStatement_ (I : im_I) (p : Nat) (b v nd : Int32) : im_I :=
  let c := statementsIn_ I p b
  let I1 := put_ I (p + 7) 96 (placeOf_ b c) v
  let I2 := put_ I1 (p + 8) 96 (placeOf_ b c) nd
  let I3 := put_ I2 (p + 5) 80 nd 1
  let I4 := put_ I3 (p + 6) 4 b (c + 1)
  im_up I4 p 1 (I4 p 1 + 1)
def looseCount_ (I : im_I) (p : Nat) : Int32 := loopC 0 (I p 0) (fun i c => if isLoose_ I p i = false then c else c + 1) 0
-- Meaning (6) at a: +1 variables +2 nodes; program 3
def valueOf_ (I : im_I) (a : Nat) (nd : Int32) : Int32 :=
  let x := at_ (I (3 + 3)) 80 nd
  let y := at_ (I (3 + 4)) 80 nd
  let kd := at_ (I (3 + 2)) 80 nd
  if kd = 0 then x else if kd = 1 then at_ (I (a + 1)) 8 x
  else if kd = 2 then at_ (I (a + 2)) 80 x + at_ (I (a + 2)) 80 y
  else if kd = 3 then at_ (I (a + 2)) 80 x - at_ (I (a + 2)) 80 y
  else if kd = 4 then at_ (I (a + 2)) 80 x * at_ (I (a + 2)) 80 y
  else 3 * at_ (I (a + 2)) 80 x + 2 * at_ (I (a + 2)) 80 y + 1
def workNodes_ (I : im_I) (a : Nat) (root : Int32) : im_I := loopC 0 (root + 1) (fun i J => put_ J (a + 2) 80 i (valueOf_ J a i)) I
def workOne_ (a : Nat) (b i : Int32) (I : im_I) : im_I :=
  let J := workNodes_ I a (rootOf_ I 3 b i)
  put_ J (a + 1) 8 (variableOf_ J 3 b i) (at_ (J (a + 2)) 80 (rootOf_ I 3 b i))
def workBlock_ (I : im_I) (a : Nat) (b : Int32) : im_I := loopC 0 (statementsIn_ I 3 b) (workOne_ a b) I
def workRounds_ (a : Nat) (b : Int32) (I : im_I) : im_I := loopC 0 (roundsOf_ I 3 b) (fun _ J => workBlock_ J a b) I
def work_ (I : im_I) (a : Nat) : im_I := loopC 0 4 (workRounds_ a) (fill_ I (a + 1) 8 0)
-- Instructions
def add_ (I : im_I) (a : Nat) (kd v b : Int32) : im_I :=
  if 88 ≤ I a 0 then I else
  let I1 := put_ I (a + 1) 88 (I a 0) kd
  let I2 := put_ I1 (a + 2) 88 (I1 a 0) v
  let I3 := put_ I2 (a + 4) 88 (I2 a 0) 0
  let I4 := put_ I3 (a + 5) 88 (I3 a 0) b
  let I5 := put_ I4 (a + 6) 88 (I4 a 0) 0
  im_up I5 a 0 (I5 a 0 + 1)
def setReads_ (I : im_I) (a : Nat) (x y z : Int32) : im_I :=
  let p := 3 * (I a 0 - 1)
  let I1 := put_ I (a + 3) 264 p x
  let I2 := put_ I1 (a + 3) 264 (p + 1) y
  put_ I2 (a + 3) 264 (p + 2) z
def setNumber_ (I : im_I) (a : Nat) (x : Int32) : im_I := put_ I (a + 4) 88 (I a 0 - 1) x
def setHeight_ (I : im_I) (a : Nat) (pt x : Int32) : im_I := put_ I (a + 6) 88 pt x
def addCopy_ (I : im_I) (a b : Nat) (pt : Int32) : im_I :=
  let I1 := add_ I a (kindOf_ I b pt) (writtenBy_ I b pt) (blockOf_ I b pt)
  let I2 := setReads_ I1 a (readBy_ I1 b pt 0) (readBy_ I1 b pt 1) (readBy_ I1 b pt 2)
  let I3 := setNumber_ I2 a (numberOf_ I2 b pt)
  setHeight_ I3 a (I3 a 0 - 1) (heightOf_ I3 b pt)
def isReading_ (I : im_I) (a : Nat) (pt v : Int32) : Bool :=
  let p := 3 * pt
  if at_ (I (a + 3)) 264 p = v then true else if at_ (I (a + 3)) 264 (p + 1) = v then true else decide (at_ (I (a + 3)) 264 (p + 2) = v)
-- Choice (0) at c, machine m, program 3: 10 pendingCount 11 nextValue; +1 costs +2 kinds +3 numbers +4 reads +5 parts +6 values +7 pending +8 sequence
def setNodes_ (I : im_I) (x n : Nat) (nd f s t : Int32) : im_I :=
  let I1 := put_ I x n (3 * nd) f
  let I2 := put_ I1 x n (3 * nd + 1) s
  put_ I2 x n (3 * nd + 2) t
def coverLeaf_ (I : im_I) (c m : Nat) (nd kd : Int32) : im_I :=
  let I1 := setNodes_ I (c + 4) 240 nd (-1) (-1) (-1)
  let I2 := setNodes_ I1 (c + 5) 240 nd (-1) (-1) (-1)
  if kd = 1 then put_ (put_ I2 (c + 2) 80 nd 1) (c + 1) 80 nd 0
  else
    let I3 := put_ I2 (c + 2) 80 nd 0
    let I4 := put_ I3 (c + 1) 80 nd (cyclesOf_ I3 m 0)
    put_ I4 (c + 3) 80 nd (at_ (I4 (3 + 3)) 80 nd)
def coverPlain_ (I : im_I) (c m : Nat) (nd ins : Int32) : im_I :=
  let a := at_ (I (3 + 3)) 80 nd
  let b := at_ (I (3 + 4)) 80 nd
  let I1 := put_ I (c + 2) 80 nd ins
  let I2 := put_ I1 (c + 1) 80 nd (cyclesOf_ I1 m ins + at_ (I1 (c + 1)) 80 a + at_ (I1 (c + 1)) 80 b)
  let I3 := setNodes_ I2 (c + 4) 240 nd a b (-1)
  setNodes_ I3 (c + 5) 240 nd a b (-1)
def isSmall_ (I : im_I) (m : Nat) (nd : Int32) : Bool :=
  let x := at_ (I (3 + 3)) 80 nd
  if ¬ at_ (I (3 + 2)) 80 nd = 0 then false else if x < -(I m 2) then false else if I m 2 < x then false else true
def coverSmallBy_ (I : im_I) (c m : Nat) (nd kd rd ot : Int32) : im_I :=
  let price := cyclesOf_ I m 5 + at_ (I (c + 1)) 80 rd
  if at_ (I (c + 1)) 80 nd ≤ price then I else
  let num := at_ (I (3 + 3)) 80 ot
  let I1 := put_ I (c + 2) 80 nd 5
  let I2 := put_ I1 (c + 1) 80 nd price
  let I3 := put_ I2 (c + 3) 80 nd (if kd = 3 then -num else num)
  let I4 := setNodes_ I3 (c + 4) 240 nd rd (-1) (-1)
  setNodes_ I4 (c + 5) 240 nd rd (-1) (-1)
def coverSmall_ (I : im_I) (c m : Nat) (nd kd : Int32) : im_I :=
  let a := at_ (I (3 + 3)) 80 nd
  let b := at_ (I (3 + 4)) 80 nd
  if (kd = 2 ∨ kd = 3) ∧ isSmall_ I m b = true then coverSmallBy_ I c m nd kd a b
  else if kd = 2 ∧ isSmall_ I m a = true then coverSmallBy_ I c m nd kd b a
  else I
def coverFusedBy_ (I : im_I) (c m : Nat) (nd mul z : Int32) (first : Bool) : im_I :=
  let x := at_ (I (3 + 3)) 80 mul
  let y := at_ (I (3 + 4)) 80 mul
  let price := cyclesOf_ I m 6 + at_ (I (c + 1)) 80 x + at_ (I (c + 1)) 80 y + at_ (I (c + 1)) 80 z
  if at_ (I (c + 1)) 80 nd ≤ price then I else
  let I1 := put_ I (c + 2) 80 nd 6
  let I2 := put_ I1 (c + 1) 80 nd price
  let I3 := put_ I2 (c + 3) 80 nd 0
  let I4 := setNodes_ I3 (c + 4) 240 nd x y z
  if first = true then setNodes_ I4 (c + 5) 240 nd x y z else setNodes_ I4 (c + 5) 240 nd z x y
def coverFused_ (I : im_I) (c m : Nat) (nd kd : Int32) : im_I :=
  let a := at_ (I (3 + 3)) 80 nd
  let b := at_ (I (3 + 4)) 80 nd
  if I m 3 = 0 then I else if ¬ kd = 2 then I
  else if at_ (I (3 + 2)) 80 a = 4 then coverFusedBy_ I c m nd a b true
  else if at_ (I (3 + 2)) 80 b = 4 then coverFusedBy_ I c m nd b a false
  else I
def coverOne_ (c m : Nat) (nd : Int32) (I : im_I) : im_I :=
  let kd := at_ (I (3 + 2)) 80 nd
  let I1 := put_ I (c + 3) 80 nd 0
  if kd < 2 then coverLeaf_ I1 c m nd kd
  else coverFused_ (coverSmall_ (coverPlain_ I1 c m nd (if kd = 5 then 9 else kd)) c m nd kd) c m nd kd
def coverAll_ (I : im_I) (c m : Nat) : im_I :=
  let I1 := im_up I c 11 8
  loopC 0 (I1 3 0) (coverOne_ c m) I1
def push_ (I : im_I) (c : Nat) (nd : Int32) : im_I :=
  if nd = -1 then I else
  let I1 := put_ I (c + 7) 80 (I c 10) nd
  im_up I1 c 10 (I1 c 10 + 1)
def gatherOne_ (c : Nat) (count : Int32) (I : im_I) : im_I :=
  let I1 := im_up I c 10 (I c 10 - 1)
  let nd := at_ (I1 (c + 7)) 80 (I1 c 10)
  let I2 := put_ I1 (c + 8) 80 count nd
  loopC 0 3 (fun j J => push_ J c (at_ (J (c + 5)) 240 (3 * nd + j))) I2
/-- gather's loop, n times at most: how many there are then, and the memory -/
def gatherN_ (c : Nat) : Nat → Int32 → im_I → Int32 × im_I
  | 0, count, I => (count, I)
  | n + 1, count, I => if I c 10 ≤ 0 then (count, I) else if 80 ≤ count then (count, I) else gatherN_ c n (count + 1) (gatherOne_ c count I)
def gather_ (I : im_I) (c : Nat) (root : Int32) : Int32 × im_I := gatherN_ c 81 0 (push_ (im_up I c 10 0) c root)
def valueRead_ (I : im_I) (c : Nat) (nd j : Int32) : Int32 := at_ (I (c + 6)) 80 (at_ (I (c + 4)) 240 (3 * nd + j))
def emit_ (I : im_I) (c r : Nat) (nd v b : Int32) : im_I :=
  let kd := at_ (I (c + 2)) 80 nd
  let I1 := add_ I r kd v b
  let I2 := setNumber_ I1 r (at_ (I1 (c + 3)) 80 nd)
  if kd = 1 then setReads_ I2 r (at_ (I2 (3 + 3)) 80 nd) (-1) (-1)
  else setReads_ I2 r (valueRead_ I2 c nd 0) (valueRead_ I2 c nd 1) (valueRead_ I2 c nd 2)
def chooseOne_ (c r : Nat) (b i : Int32) (I : im_I) : im_I :=
  let nd := at_ (I (c + 8)) 80 i
  if at_ (I (3 + 2)) 80 nd = 1 then put_ I (c + 6) 80 nd (at_ (I (3 + 3)) 80 nd)
  else
    let I1 := put_ I (c + 6) 80 nd (I c 11)
    let I2 := emit_ I1 c r nd (I1 c 11) b
    im_up I2 c 11 (I2 c 11 + 1)
/-- from i down to 1 -/
def downN {σ : Type} : Nat → Int32 → (Int32 → σ → σ) → σ → σ
  | 0, _, _, s => s
  | n + 1, i, f, s => downN n (i - 1) f (f i s)
/-- how often a loop from i down to e goes round -/
def cntD (i e : Int32) : Nat := (i.toInt + 1 - e.toInt).toNat
def downC {σ : Type} (i e : Int32) (f : Int32 → σ → σ) (s : σ) : σ := downN (cntD i e) i f s
def chooseStatement_ (I : im_I) (c r : Nat) (b j : Int32) : im_I :=
  let g := gather_ I c (rootOf_ I 3 b j)
  let J := downC (g.1 - 1) 1 (chooseOne_ c r b) g.2
  emit_ J c r (at_ (J (c + 8)) 80 0) (variableOf_ J 3 b j) b
-- Plan (7) at a, machine m: choice a+1, lines a+10, lives a+17, starts a+26, raw a+27, rawStarts a+34, missing a+35
def chooseBlock_ (a : Nat) (b : Int32) (I : im_I) : im_I :=
  let I1 := put_ I (a + 34) 5 b (I (a + 27) 0)
  loopC 0 (statementsIn_ I1 3 b) (fun j J => chooseStatement_ J (a + 1) (a + 27) b j) I1
def chooseAll_ (I : im_I) (a : Nat) : im_I :=
  let J := loopC 0 4 (chooseBlock_ a) (im_up I (a + 27) 0 0)
  put_ J (a + 34) 5 4 (J (a + 27) 0)
def variableBit_ (v : Int32) : Int32 := if isBelow_ v 8 = false then 0 else bit_ v
/-- (early, written) -/
def earlyOne_ (I : im_I) (r : Nat) (i : Int32) (s : Int32 × Int32) : Int32 × Int32 :=
  let e := loopC 0 3 (fun j e => e ||| (variableBit_ (readBy_ I r i j) &&& (s.2 ^^^ -1))) s.1
  (e, s.2 ||| variableBit_ (writtenBy_ I r i))
def earlyVariables_ (I : im_I) (a : Nat) : Int32 :=
  let s := loopC 0 (I (a + 27) 0) (earlyOne_ I (a + 27)) (0, 0)
  s.1 ||| (I 3 2 &&& (s.2 ^^^ -1))
def addEntryOne_ (a : Nat) (early v : Int32) (I : im_I) : im_I :=
  if hasBit_ early v = false then I else setReads_ (add_ I (a + 10) 0 v (-1)) (a + 10) (-1) (-1) (-1)
def addEntry_ (I : im_I) (a : Nat) : im_I := loopC 0 8 (addEntryOne_ a (earlyVariables_ I a)) I
def isNeeding_ (I : im_I) (r : Nat) (x y : Int32) : Bool :=
  if isReading_ I r x (writtenBy_ I r y) = true then true else if isReading_ I r y (writtenBy_ I r x) = true then true
  else if writtenBy_ I r x = writtenBy_ I r y then true else if ¬ kindOf_ I r x = 9 then false else decide (kindOf_ I r y = 9)
def aboveOf_ (I : im_I) (r : Nat) (i t : Int32) : Int32 :=
  loopC (i + 1) t (fun j ab => if heightOf_ I r j ≤ ab then ab else if isNeeding_ I r j i = false then ab else heightOf_ I r j) 0
def heightOne_ (a m : Nat) (t i : Int32) (I : im_I) : im_I := setHeight_ I (a + 27) i (cyclesOf_ I m (kindOf_ I (a + 27) i) + aboveOf_ I (a + 27) i t)
def measureHeights_ (I : im_I) (a m : Nat) (f t : Int32) : im_I := downC (t - 1) f (heightOne_ a m t) I
def placeAsChosen_ (I : im_I) (a : Nat) (f t : Int32) : im_I := loopC f t (fun i J => addCopy_ J (a + 10) (a + 27) i) I
def neededOf_ (I : im_I) (r : Nat) (f j : Int32) : Int32 := loopC f j (fun i c => if isNeeding_ I r j i = false then c else c + 1) 0
def countMissing_ (I : im_I) (a : Nat) (f t : Int32) : im_I := loopC f t (fun j J => put_ J (a + 35) 88 j (neededOf_ J (a + 27) f j)) I
def highestReady_ (I : im_I) (a : Nat) (f t : Int32) : Int32 :=
  loopC f t (fun i b => if ¬ at_ (I (a + 35)) 88 i = 0 then b else if b = -1 then i else if heightOf_ I (a + 27) i ≤ heightOf_ I (a + 27) b then b else i) (-1)
def lessOne_ (a : Nat) (best j : Int32) (I : im_I) : im_I := if isNeeding_ I (a + 27) j best = false then I else put_ I (a + 35) 88 j (at_ (I (a + 35)) 88 j - 1)
def placeN_ (a : Nat) (f t : Int32) : Nat → Int32 → im_I → im_I
  | 0, _, I => I
  | n + 1, i, I =>
    let best := highestReady_ I a f t
    if best = -1 then I else
    let I1 := addCopy_ I (a + 10) (a + 27) best
    let I2 := put_ I1 (a + 35) 88 best (-1)
    placeN_ a f t n (i + 1) (loopC (best + 1) t (lessOne_ a best) I2)
def placeByHeight_ (I : im_I) (a : Nat) (f t : Int32) : im_I := placeN_ a f t (cnt f t) f (countMissing_ I a f t)
def fillL_ (I : im_I) (x n : Nat) (v : Int32) : im_I := loopC 0 (Int32.ofNat n) (fun i J => im_up J x i.toNatClampNeg v) I
end
section
/-! small laws that the walks use -/
theorem im_vp {i : Int32} {n : Nat} (h1 : ¬ i < 0) (h2 : ¬ Int32.ofNat n ≤ i) (hn : n < 2 ^ 31 := by decide) : vp_in i n := by
  obtain ⟨j, hj, rfl⟩ := nI_of h1
  refine vp_in_nI ?_ hn
  rcases Nat.lt_or_ge j n with h | h
  · exact h
  · exact absurd (nI_le h hj) h2
theorem cnt_0 {i e : Int32} (h : cnt i e = 0) : e ≤ i := by
  unfold cnt at h
  rw [Int32.le_iff_toInt_le]
  omega
theorem cnt_ex {i e : Int32} (h : cnt i e = 0) (c : ¬ e ≤ i) : False := c (cnt_0 h)
theorem cnt_go {i e : Int32} {n : Nat} (h : cnt i e = n + 1) (c : e ≤ i) : False := by
  unfold cnt at h
  rw [Int32.le_iff_toInt_le] at c
  omega
theorem i32_inc {i e : Int32} (h : i < e) : (i + 1).toInt = i.toInt + 1 := by
  rw [Int32.lt_iff_toInt_lt] at h
  have h2 := Int32.toInt_lt e
  have h3 := Int32.le_toInt i
  rw [Int32.toInt_add]
  have e1 : (1 : Int32).toInt = 1 := by decide
  rw [e1]
  exact Int.bmod_eq_of_le (by omega) (by omega)
theorem i32_nle {i e : Int32} (h : ¬ e ≤ i) : i < e := Int32.not_le.mp h
theorem cnt_nx {i e : Int32} {n : Nat} (h : cnt i e = n + 1) : cnt (i + 1) e = n := by
  have hlt : i < e := by
    rw [Int32.lt_iff_toInt_lt]
    unfold cnt at h
    omega
  unfold cnt at h ⊢
  rw [i32_inc hlt]
  omega
theorem im_toInt {x y : Int32} (h : x.toInt = y.toInt) : x = y := Int32.toInt_inj.mp h
theorem loopN_s {σ : Type} {n : Nat} {i : Int32} {f : Int32 → σ → σ} {s : σ} : loopN (n + 1) i f s = loopN n (i + 1) f (f i s) := rfl
theorem loopN_0 {σ : Type} {i : Int32} {f : Int32 → σ → σ} {s : σ} : loopN 0 i f s = s := rfl
theorem i32_pos {i e : Int32} (c : ¬ e ≤ i) (hz : ¬ i < 0) : ¬ i + 1 < 0 := by
  have h := i32_inc (i32_nle c)
  rw [Int32.lt_iff_toInt_lt] at hz ⊢
  rw [h]
  simp at hz ⊢
  omega
theorem cntL_ex {i e : Int32} (h : cnt i (e + 1) = 0) (he : e < 2147483647) (c : ¬ e < i) : False := by
  have h1 := cnt_0 h
  have h2 := i32_inc he
  rw [Int32.le_iff_toInt_le, h2] at h1
  rw [Int32.lt_iff_toInt_lt] at c
  omega
theorem cntL_go {i e : Int32} {n : Nat} (h : cnt i (e + 1) = n + 1) (he : e < 2147483647) (c : e < i) : False := by
  have h2 := i32_inc he
  unfold cnt at h
  rw [h2] at h
  rw [Int32.lt_iff_toInt_lt] at c
  omega
theorem i32_dec {i e : Int32} (h : e < i) : (i - 1).toInt = i.toInt - 1 := by
  rw [Int32.lt_iff_toInt_lt] at h
  have h2 := Int32.toInt_lt i
  have h3 := Int32.le_toInt e
  rw [Int32.toInt_sub]
  have e1 : (1 : Int32).toInt = 1 := by decide
  rw [e1]
  exact Int.bmod_eq_of_le (by omega) (by omega)
theorem i32_addneg (i : Int32) : i + -1 = i - 1 := (Int32.sub_eq_add_neg i 1).symm
/-- a loop down to e, e above the least int -/
theorem cntD_ex {i e : Int32} (h : cntD i e = 0) (c : ¬ i < e) : False := by
  unfold cntD at h
  rw [Int32.lt_iff_toInt_lt] at c
  omega
theorem cntD_go {i e : Int32} {n : Nat} (h : cntD i e = n + 1) (c : i < e) : False := by
  unfold cntD at h
  rw [Int32.lt_iff_toInt_lt] at c
  omega
theorem cntD_nx {i e : Int32} {n : Nat} (he : -2147483648 < e) (h : cntD i e = n + 1) : cntD (i - 1) e = n := by
  have h0 : (-2147483648 : Int32) < i := by
    rw [Int32.lt_iff_toInt_lt] at he ⊢
    unfold cntD at h
    omega
  have h1 := i32_dec h0
  unfold cntD at h ⊢
  rw [h1]
  omega
theorem downN_s {σ : Type} {n : Nat} {i : Int32} {f : Int32 → σ → σ} {s : σ} : downN (n + 1) i f s = downN n (i - 1) f (f i s) := rfl
end
section
/-! walks, by program out of spec1.py -/
set_option maxRecDepth 100000 in
set_option maxHeartbeats 4000000 in
theorem sp_X11_isBelow {l : Launch} {k : im_K} {S : im_S} {I : im_I} {p0 : Int32} {p1 : Int32}  : im_Runs l k 0 mX11_isBelow [.int p0, .int p1] (S, I) (some (.int (b2i (isBelow_ p0 p1)))) (S, I) := by
  refine im_run (by decide +kernel) ⟨Nat.le_refl _, Nat.le_refl _⟩ (Nat.le_of_ble_eq_true rfl) ?_
  intro X hl hX hxn hxz hxc hxs
  subst hl
  change im_E X k _ 0 [some (.int p0), some (.int p1)] [] S I
  refine r_iload_n (pc := 0) hX dX11_isBelow_0 rfl ?_
  refine r_if_lt (pc := 1) hX 13 dX11_isBelow_1 (by decide) (fun c1 => ?_) (fun c1 => ?_)
  · have c1d := Int32.not_le.mpr c1
    refine r_iconst (pc := 13) hX 0 dX11_isBelow_13 (by decide) ?_
    exact r_ireturn (pc := 14) hX dX11_isBelow_14 rfl rfl (by first | rfl | (simp only [isBelow_, b2i, c1, c1d, ↓reduceIte, if_true, if_false, decide_true, decide_false, eq_self, b2i_t, b2i_f, Bool.false_eq_true, and_true, true_and, and_false, false_and, or_true, true_or, or_false, false_or, not_true_eq_false, not_false_eq_true]; done) | simp [isBelow_, b2i, c1, c1d]) rfl
  · have c1d := Int32.not_lt.mp c1
    refine r_iload_n (pc := 4) hX dX11_isBelow_4 rfl ?_
    refine r_iload_n (pc := 5) hX dX11_isBelow_5 rfl ?_
    refine r_icmp_ge (pc := 6) hX 13 dX11_isBelow_6 (by decide) (fun c6 => ?_) (fun c6 => ?_)
    · have c6d := Int32.not_lt.mpr c6
      refine r_iconst (pc := 13) hX 0 dX11_isBelow_13 (by decide) ?_
      exact r_ireturn (pc := 14) hX dX11_isBelow_14 rfl rfl (by first | rfl | (simp only [isBelow_, b2i, c1, c1d, c6, c6d, ↓reduceIte, if_true, if_false, decide_true, decide_false, eq_self, b2i_t, b2i_f, Bool.false_eq_true, and_true, true_and, and_false, false_and, or_true, true_or, or_false, false_or, not_true_eq_false, not_false_eq_true]; done) | simp [isBelow_, b2i, c1, c1d, c6, c6d]) rfl
    · have c6d := Int32.not_le.mp c6
      refine r_iconst (pc := 9) hX 1 dX11_isBelow_9 (by decide) ?_
      refine r_goto (pc := 10) hX (tgt := 14) dX11_isBelow_10 (by decide) ?_
      exact r_ireturn (pc := 14) hX dX11_isBelow_14 rfl rfl (by first | rfl | (simp only [isBelow_, b2i, c1, c1d, c6, c6d, ↓reduceIte, if_true, if_false, decide_true, decide_false, eq_self, b2i_t, b2i_f, Bool.false_eq_true, and_true, true_and, and_false, false_and, or_true, true_or, or_false, false_or, not_true_eq_false, not_false_eq_true]; done) | simp [isBelow_, b2i, c1, c1d, c6, c6d]) rfl
set_option maxRecDepth 100000 in
set_option maxHeartbeats 4000000 in
theorem sp_X11_bit {l : Launch} {k : im_K} {S : im_S} {I : im_I} {p0 : Int32}  : im_Runs l k 0 mX11_bit [.int p0] (S, I) (some (.int (bit_ p0))) (S, I) := by
  refine im_run (by decide +kernel) ⟨Nat.le_refl _, Nat.le_refl _⟩ (Nat.le_of_ble_eq_true rfl) ?_
  intro X hl hX hxn hxz hxc hxs
  subst hl
  change im_E X k _ 0 [some (.int p0)] [] S I
  refine r_iload_n (pc := 0) hX dX11_bit_0 rfl ?_
  refine r_if_lt (pc := 1) hX 16 dX11_bit_1 (by decide) (fun c1 => ?_) (fun c1 => ?_)
  · have c1d := Int32.not_le.mpr c1
    refine r_iconst (pc := 16) hX 0 dX11_bit_16 (by decide) ?_
    exact r_ireturn (pc := 17) hX dX11_bit_17 rfl rfl (by first | rfl | (simp only [bit_, c1, c1d, ↓reduceIte, if_true, if_false, decide_true, decide_false, eq_self, b2i_t, b2i_f, Bool.false_eq_true, and_true, true_and, and_false, false_and, or_true, true_or, or_false, false_or, not_true_eq_false, not_false_eq_true]; done) | simp [bit_, c1, c1d]) rfl
  · have c1d := Int32.not_lt.mp c1
    refine r_iload_n (pc := 4) hX dX11_bit_4 rfl ?_
    refine r_bipush (pc := 5) hX 32 dX11_bit_5 (by decide) ?_
    refine r_icmp_ge (pc := 7) hX 16 dX11_bit_7 (by decide) (fun c7 => ?_) (fun c7 => ?_)
    · have c7d := Int32.not_lt.mpr c7
      refine r_iconst (pc := 16) hX 0 dX11_bit_16 (by decide) ?_
      exact r_ireturn (pc := 17) hX dX11_bit_17 rfl rfl (by first | rfl | (simp only [bit_, c1, c1d, c7, c7d, ↓reduceIte, if_true, if_false, decide_true, decide_false, eq_self, b2i_t, b2i_f, Bool.false_eq_true, and_true, true_and, and_false, false_and, or_true, true_or, or_false, false_or, not_true_eq_false, not_false_eq_true]; done) | simp [bit_, c1, c1d, c7, c7d]) rfl
    · have c7d := Int32.not_le.mp c7
      refine r_iconst (pc := 10) hX 1 dX11_bit_10 (by decide) ?_
      refine r_iload_n (pc := 11) hX dX11_bit_11 rfl ?_
      refine r_ishl (pc := 12) hX dX11_bit_12 ?_
      refine r_goto (pc := 13) hX (tgt := 17) dX11_bit_13 (by decide) ?_
      exact r_ireturn (pc := 17) hX dX11_bit_17 rfl rfl (by first | rfl | (simp only [bit_, c1, c1d, c7, c7d, ↓reduceIte, if_true, if_false, decide_true, decide_false, eq_self, b2i_t, b2i_f, Bool.false_eq_true, and_true, true_and, and_false, false_and, or_true, true_or, or_false, false_or, not_true_eq_false, not_false_eq_true]; done) | simp [bit_, c1, c1d, c7, c7d]) rfl
set_option maxRecDepth 100000 in
set_option maxHeartbeats 4000000 in
theorem sp_X11_hasBit {l : Launch} {k : im_K} {S : im_S} {I : im_I} {p0 : Int32} {p1 : Int32}  : im_Runs l k 0 mX11_hasBit [.int p0, .int p1] (S, I) (some (.int (b2i (hasBit_ p0 p1)))) (S, I) := by
  refine im_run (by decide +kernel) ⟨Nat.le_refl _, Nat.le_refl _⟩ (Nat.le_of_ble_eq_true rfl) ?_
  intro X hl hX hxn hxz hxc hxs
  subst hl
  change im_E X k _ 0 [some (.int p0), some (.int p1)] [] S I
  refine r_iload_n (pc := 0) hX dX11_hasBit_0 rfl ?_
  refine r_if_lt (pc := 1) hX 23 dX11_hasBit_1 (by decide) (fun c1 => ?_) (fun c1 => ?_)
  · have c1d := Int32.not_le.mpr c1
    refine r_iconst (pc := 23) hX 0 dX11_hasBit_23 (by decide) ?_
    exact r_ireturn (pc := 24) hX dX11_hasBit_24 rfl rfl (by first | rfl | (simp only [hasBit_, b2i, c1, c1d, ↓reduceIte, if_true, if_false, decide_true, decide_false, eq_self, b2i_t, b2i_f, Bool.false_eq_true, and_true, true_and, and_false, false_and, or_true, true_or, or_false, false_or, not_true_eq_false, not_false_eq_true]; done) | simp [hasBit_, b2i, c1, c1d]) rfl
  · have c1d := Int32.not_lt.mp c1
    refine r_iload_n (pc := 4) hX dX11_hasBit_4 rfl ?_
    refine r_bipush (pc := 5) hX 32 dX11_hasBit_5 (by decide) ?_
    refine r_icmp_ge (pc := 7) hX 23 dX11_hasBit_7 (by decide) (fun c7 => ?_) (fun c7 => ?_)
    · have c7d := Int32.not_lt.mpr c7
      refine r_iconst (pc := 23) hX 0 dX11_hasBit_23 (by decide) ?_
      exact r_ireturn (pc := 24) hX dX11_hasBit_24 rfl rfl (by first | rfl | (simp only [hasBit_, b2i, c1, c1d, c7, c7d, ↓reduceIte, if_true, if_false, decide_true, decide_false, eq_self, b2i_t, b2i_f, Bool.false_eq_true, and_true, true_and, and_false, false_and, or_true, true_or, or_false, false_or, not_true_eq_false, not_false_eq_true]; done) | simp [hasBit_, b2i, c1, c1d, c7, c7d]) rfl
    · have c7d := Int32.not_le.mp c7
      refine r_iload_n (pc := 10) hX dX11_hasBit_10 rfl ?_
      refine r_iload_n (pc := 11) hX dX11_hasBit_11 rfl ?_
      refine r_ishr (pc := 12) hX dX11_hasBit_12 ?_
      refine r_iconst (pc := 13) hX 1 dX11_hasBit_13 (by decide) ?_
      refine r_iand (pc := 14) hX dX11_hasBit_14 ?_
      refine r_iconst (pc := 15) hX 1 dX11_hasBit_15 (by decide) ?_
      refine r_icmp_ne (pc := 16) hX 23 dX11_hasBit_16 (by decide) (fun c16 => ?_) (fun c16 => ?_)
      · refine r_iconst (pc := 23) hX 0 dX11_hasBit_23 (by decide) ?_
        exact r_ireturn (pc := 24) hX dX11_hasBit_24 rfl rfl (by first | rfl | (simp only [hasBit_, b2i, c1, c1d, c7, c7d, c16, ↓reduceIte, if_true, if_false, decide_true, decide_false, eq_self, b2i_t, b2i_f, Bool.false_eq_true, and_true, true_and, and_false, false_and, or_true, true_or, or_false, false_or, not_true_eq_false, not_false_eq_true]; done) | simp [hasBit_, b2i, c1, c1d, c7, c7d, c16]) rfl
      · refine r_iconst (pc := 19) hX 1 dX11_hasBit_19 (by decide) ?_
        refine r_goto (pc := 20) hX (tgt := 24) dX11_hasBit_20 (by decide) ?_
        exact r_ireturn (pc := 24) hX dX11_hasBit_24 rfl rfl (by first | rfl | (simp only [hasBit_, b2i, c1, c1d, c7, c7d, c16, ↓reduceIte, if_true, if_false, decide_true, decide_false, eq_self, b2i_t, b2i_f, Bool.false_eq_true, and_true, true_and, and_false, false_and, or_true, true_or, or_false, false_or, not_true_eq_false, not_false_eq_true]; done) | simp [hasBit_, b2i, c1, c1d, c7, c7d, c16]) rfl
set_option maxRecDepth 100000 in
set_option maxHeartbeats 4000000 in
theorem sp_X11_isMachine {l : Launch} {k : im_K} {S : im_S} {I : im_I} {p0 : Int32} {p1 : Int32}  : im_Runs l k 1 mX11_isMachine [.int p0, .int p1] (S, I) (some (.int (b2i (isMachine_ p0 p1)))) (S, I) := by
  refine im_run (by decide +kernel) ⟨Nat.le_refl _, Nat.le_refl _⟩ (Nat.le_of_ble_eq_true rfl) ?_
  intro X hl hX hxn hxz hxc hxs
  subst hl
  change im_E X k _ 0 [some (.int p0), some (.int p1), none] [] S I
  refine r_iload_n (pc := 0) hX dX11_isMachine_0 rfl ?_
  refine r_iconst (pc := 1) hX 5 dX11_isMachine_1 (by decide) ?_
  refine r_icmp_lt (pc := 2) hX 15 dX11_isMachine_2 (by decide) (fun c2 => ?_) (fun c2 => ?_)
  · have c2d := Int32.not_le.mpr c2
    refine r_iconst (pc := 15) hX 0 dX11_isMachine_15 (by decide) ?_
    exact r_ireturn (pc := 16) hX dX11_isMachine_16 rfl rfl (by first | rfl | (simp only [isMachine_, b2i, c2, c2d, ↓reduceIte, if_true, if_false, decide_true, decide_false, eq_self, b2i_t, b2i_f, Bool.false_eq_true, and_true, true_and, and_false, false_and, or_true, true_or, or_false, false_or, not_true_eq_false, not_false_eq_true]; done) | simp [isMachine_, b2i, c2, c2d]) rfl
  · have c2d := Int32.not_lt.mp c2
    refine r_iload_n (pc := 5) hX dX11_isMachine_5 rfl ?_
    refine r_bipush (pc := 6) hX 11 dX11_isMachine_6 (by decide) ?_
    refine r_icmp_gt (pc := 8) hX 15 dX11_isMachine_8 (by decide) (fun c8 => ?_) (fun c8 => ?_)
    · have c8d := Int32.not_le.mpr c8
      refine r_iconst (pc := 15) hX 0 dX11_isMachine_15 (by decide) ?_
      exact r_ireturn (pc := 16) hX dX11_isMachine_16 rfl rfl (by first | rfl | (simp only [isMachine_, b2i, c2, c2d, c8, c8d, ↓reduceIte, if_true, if_false, decide_true, decide_false, eq_self, b2i_t, b2i_f, Bool.false_eq_true, and_true, true_and, and_false, false_and, or_true, true_or, or_false, false_or, not_true_eq_false, not_false_eq_true]; done) | simp [isMachine_, b2i, c2, c2d, c8, c8d]) rfl
    · have c8d := Int32.not_lt.mp c8
      refine r_iload_n (pc := 11) hX dX11_isMachine_11 rfl ?_
      refine r_if_ge (pc := 12) hX 17 dX11_isMachine_12 (by decide) (fun c12 => ?_) (fun c12 => ?_)
      · have c12d := Int32.not_lt.mpr c12
        refine r_iload_n (pc := 17) hX dX11_isMachine_17 rfl ?_
        refine r_iconst (pc := 18) hX 3 dX11_isMachine_18 (by decide) ?_
        refine r_isub (pc := 19) hX dX11_isMachine_19 ?_
        refine r_callS (Z := mX11_bit) (pc := 20) hX dX11_isMachine_20 ml_X11_332 mX11_bit_w (sp_X11_bit) rfl rfl (Nat.le_of_ble_eq_true rfl) (by decide) rfl (Or.inl rfl) ?_
        refine r_iconst (pc := 23) hX 2 dX11_isMachine_23 (by decide) ?_
        refine r_callS (Z := mX11_bit) (pc := 24) hX dX11_isMachine_24 ml_X11_332 mX11_bit_w (sp_X11_bit) rfl rfl (Nat.le_of_ble_eq_true rfl) (by decide) rfl (Or.inl rfl) ?_
        refine r_isub (pc := 27) hX dX11_isMachine_27 ?_
        refine r_istore_n (pc := 28) hX (L' := [_, _, _]) dX11_isMachine_28 rfl rfl (Nat.le_of_ble_eq_true rfl) ?_
        refine r_iload_n (pc := 29) hX dX11_isMachine_29 rfl ?_
        refine r_iload_n (pc := 30) hX dX11_isMachine_30 rfl ?_
        refine r_iconst (pc := 31) hX (-1) dX11_isMachine_31 (by decide) ?_
        refine r_ixor (pc := 32) hX dX11_isMachine_32 ?_
        refine r_iand (pc := 33) hX dX11_isMachine_33 ?_
        refine r_if_ne (pc := 34) hX 41 dX11_isMachine_34 (by decide) (fun c34 => ?_) (fun c34 => ?_)
        · refine r_iconst (pc := 41) hX 0 dX11_isMachine_41 (by decide) ?_
          exact r_ireturn (pc := 42) hX dX11_isMachine_42 rfl rfl (by first | rfl | (simp only [isMachine_, b2i, c2, c2d, c8, c8d, c12, c12d, c34, ↓reduceIte, if_true, if_false, decide_true, decide_false, eq_self, b2i_t, b2i_f, Bool.false_eq_true, and_true, true_and, and_false, false_and, or_true, true_or, or_false, false_or, not_true_eq_false, not_false_eq_true]; done) | simp [isMachine_, b2i, c2, c2d, c8, c8d, c12, c12d, c34]) rfl
        · refine r_iconst (pc := 37) hX 1 dX11_isMachine_37 (by decide) ?_
          refine r_goto (pc := 38) hX (tgt := 42) dX11_isMachine_38 (by decide) ?_
          exact r_ireturn (pc := 42) hX dX11_isMachine_42 rfl rfl (by first | rfl | (simp only [isMachine_, b2i, c2, c2d, c8, c8d, c12, c12d, c34, ↓reduceIte, if_true, if_false, decide_true, decide_false, eq_self, b2i_t, b2i_f, Bool.false_eq_true, and_true, true_and, and_false, false_and, or_true, true_or, or_false, false_or, not_true_eq_false, not_false_eq_true]; done) | simp [isMachine_, b2i, c2, c2d, c8, c8d, c12, c12d, c34]) rfl
      · have c12d := Int32.not_le.mp c12
        refine r_iconst (pc := 15) hX 0 dX11_isMachine_15 (by decide) ?_
        exact r_ireturn (pc := 16) hX dX11_isMachine_16 rfl rfl (by first | rfl | (simp only [isMachine_, b2i, c2, c2d, c8, c8d, c12, c12d, ↓reduceIte, if_true, if_false, decide_true, decide_false, eq_self, b2i_t, b2i_f, Bool.false_eq_true, and_true, true_and, and_false, false_and, or_true, true_or, or_false, false_or, not_true_eq_false, not_false_eq_true]; done) | simp [isMachine_, b2i, c2, c2d, c8, c8d, c12, c12d]) rfl
set_option maxRecDepth 100000 in
set_option maxHeartbeats 4000000 in
theorem sp_X11_mix {l : Launch} {k : im_K} {S : im_S} {I : im_I} {p0 : Int64} {p1 : Int64}  : im_Runs l k 0 mX11_mix [.long p0, .long p1] (S, I) (some (.long (mix_ p0 p1))) (S, I) := by
  refine im_run (by decide +kernel) ⟨Nat.le_refl _, Nat.le_refl _⟩ (Nat.le_of_ble_eq_true rfl) ?_
  intro X hl hX hxn hxz hxc hxs
  subst hl
  change im_E X k _ 0 [some (.long p0), none, some (.long p1), none] [] S I
  refine r_lload_n (pc := 0) hX dX11_mix_0 rfl ?_
  refine r_ldc2 (pc := 1) hX dX11_mix_1 ko_X11_351 ?_
  refine r_lmul (pc := 4) hX dX11_mix_4 ?_
  refine r_lload_n (pc := 5) hX dX11_mix_5 rfl ?_
  refine r_ladd (pc := 6) hX dX11_mix_6 ?_
  exact r_lreturn (pc := 7) hX dX11_mix_7 rfl (by first | rfl | (simp only [mix_, ↓reduceIte, if_true, if_false, decide_true, decide_false, eq_self, b2i_t, b2i_f, Bool.false_eq_true, and_true, true_and, and_false, false_and, or_true, true_or, or_false, false_or, not_true_eq_false, not_false_eq_true]; done) | simp [mix_]) rfl
set_option maxRecDepth 100000 in
set_option maxHeartbeats 4000000 in
theorem sp_X11_at {l : Launch} {k : im_K} {S : im_S} {I : im_I} {x0 n0 : Nat} {p1 : Int32} (hx0 : im_k S x0 = (20, n0)) (hn : n0 < 2 ^ 31 := by decide) : im_Runs l k 0 mX11_at [.ref x0, .int p1] (S, I) (some (.int (at_ (I x0) n0 p1))) (S, I) := by
  refine im_run (by decide +kernel) ⟨Nat.le_refl _, Nat.le_refl _⟩ (Nat.le_of_ble_eq_true rfl) ?_
  intro X hl hX hxn hxz hxc hxs
  subst hl
  change im_E X k _ 0 [some (.ref x0), some (.int p1)] [] S I
  refine r_iload_n (pc := 0) hX dX11_at_0 rfl ?_
  refine r_if_lt (pc := 1) hX 16 dX11_at_1 (by decide) (fun c1 => ?_) (fun c1 => ?_)
  · have c1d := Int32.not_le.mpr c1
    refine r_iconst (pc := 16) hX (-1) dX11_at_16 (by decide) ?_
    exact r_ireturn (pc := 17) hX dX11_at_17 rfl rfl (by first | rfl | (simp only [at_, c1, c1d, ↓reduceIte, if_true, if_false, decide_true, decide_false, eq_self, b2i_t, b2i_f, Bool.false_eq_true, and_true, true_and, and_false, false_and, or_true, true_or, or_false, false_or, not_true_eq_false, not_false_eq_true]; done) | simp [at_, c1, c1d]) rfl
  · have c1d := Int32.not_lt.mp c1
    refine r_iload_n (pc := 4) hX dX11_at_4 rfl ?_
    refine r_aload_n (pc := 5) hX dX11_at_5 rfl ?_
    refine r_alen (pc := 6) hX _ dX11_at_6 hx0 rfl ?_
    refine r_icmp_ge (pc := 7) hX 16 dX11_at_7 (by decide) (fun c7 => ?_) (fun c7 => ?_)
    · have c7d := Int32.not_lt.mpr c7
      refine r_iconst (pc := 16) hX (-1) dX11_at_16 (by decide) ?_
      exact r_ireturn (pc := 17) hX dX11_at_17 rfl rfl (by first | rfl | (simp only [at_, c1, c1d, c7, c7d, ↓reduceIte, if_true, if_false, decide_true, decide_false, eq_self, b2i_t, b2i_f, Bool.false_eq_true, and_true, true_and, and_false, false_and, or_true, true_or, or_false, false_or, not_true_eq_false, not_false_eq_true]; done) | simp [at_, c1, c1d, c7, c7d]) rfl
    · have c7d := Int32.not_le.mp c7
      refine r_aload_n (pc := 10) hX dX11_at_10 rfl ?_
      refine r_iload_n (pc := 11) hX dX11_at_11 rfl ?_
      refine r_iald (pc := 12) hX dX11_at_12 hx0 (im_vp (by assumption) (by assumption) (by first | decide | assumption)) ?_
      refine r_goto (pc := 13) hX (tgt := 17) dX11_at_13 (by decide) ?_
      exact r_ireturn (pc := 17) hX dX11_at_17 rfl rfl (by first | rfl | (simp only [at_, c1, c1d, c7, c7d, ↓reduceIte, if_true, if_false, decide_true, decide_false, eq_self, b2i_t, b2i_f, Bool.false_eq_true, and_true, true_and, and_false, false_and, or_true, true_or, or_false, false_or, not_true_eq_false, not_false_eq_true]; done) | simp [at_, c1, c1d, c7, c7d]) rfl
set_option maxRecDepth 100000 in
set_option maxHeartbeats 4000000 in
theorem sp_X11_put {l : Launch} {k : im_K} {S : im_S} {I : im_I} {x0 n0 : Nat} {p1 : Int32} {p2 : Int32} (hx0 : im_k S x0 = (20, n0)) (hn : n0 < 2 ^ 31 := by decide) : im_Runs l k 0 mX11_put [.ref x0, .int p1, .int p2] (S, I) (none) (S, put_ I x0 n0 p1 p2) := by
  refine im_run (by decide +kernel) ⟨Nat.le_refl _, Nat.le_refl _⟩ (Nat.le_of_ble_eq_true rfl) ?_
  intro X hl hX hxn hxz hxc hxs
  subst hl
  change im_E X k _ 0 [some (.ref x0), some (.int p1), some (.int p2)] [] S I
  refine r_iload_n (pc := 0) hX dX11_put_0 rfl ?_
  refine r_if_lt (pc := 1) hX 14 dX11_put_1 (by decide) (fun c1 => ?_) (fun c1 => ?_)
  · have c1d := Int32.not_le.mpr c1
    exact r_return (pc := 14) hX dX11_put_14 rfl rfl (by first | rfl | (simp only [put_, c1, c1d, ↓reduceIte, if_true, if_false, decide_true, decide_false, eq_self, b2i_t, b2i_f, Bool.false_eq_true, and_true, true_and, and_false, false_and, or_true, true_or, or_false, false_or, not_true_eq_false, not_false_eq_true]; done) | simp [put_, c1, c1d])
  · have c1d := Int32.not_lt.mp c1
    refine r_iload_n (pc := 4) hX dX11_put_4 rfl ?_
    refine r_aload_n (pc := 5) hX dX11_put_5 rfl ?_
    refine r_alen (pc := 6) hX _ dX11_put_6 hx0 rfl ?_
    refine r_icmp_ge (pc := 7) hX 14 dX11_put_7 (by decide) (fun c7 => ?_) (fun c7 => ?_)
    · have c7d := Int32.not_lt.mpr c7
      exact r_return (pc := 14) hX dX11_put_14 rfl rfl (by first | rfl | (simp only [put_, c1, c1d, c7, c7d, ↓reduceIte, if_true, if_false, decide_true, decide_false, eq_self, b2i_t, b2i_f, Bool.false_eq_true, and_true, true_and, and_false, false_and, or_true, true_or, or_false, false_or, not_true_eq_false, not_false_eq_true]; done) | simp [put_, c1, c1d, c7, c7d])
    · have c7d := Int32.not_le.mp c7
      refine r_aload_n (pc := 10) hX dX11_put_10 rfl ?_
      refine r_iload_n (pc := 11) hX dX11_put_11 rfl ?_
      refine r_iload_n (pc := 12) hX dX11_put_12 rfl ?_
      refine r_iast (pc := 13) hX dX11_put_13 hx0 (im_vp (by assumption) (by assumption) (by first | decide | assumption)) ?_
      exact r_return (pc := 14) hX dX11_put_14 rfl rfl (by first | rfl | (simp only [put_, c1, c1d, c7, c7d, ↓reduceIte, if_true, if_false, decide_true, decide_false, eq_self, b2i_t, b2i_f, Bool.false_eq_true, and_true, true_and, and_false, false_and, or_true, true_or, or_false, false_or, not_true_eq_false, not_false_eq_true]; done) | simp [put_, c1, c1d, c7, c7d])
set_option maxRecDepth 100000 in
set_option maxHeartbeats 4000000 in
theorem sp_X5_scratch {l : Launch} {k : im_K} {S : im_S} {I : im_I} {a : Nat} (h : o_X5 S a) : im_Runs l k 0 mX5_scratch [.ref a] (S, I) (some (.int (scratch_ I a))) (S, I) := by
  refine im_run (by decide +kernel) ⟨Nat.le_refl _, Nat.le_refl _⟩ (Nat.le_of_ble_eq_true rfl) ?_
  intro X hl hX hxn hxz hxc hxs
  subst hl
  change im_E X k _ 0 [some (.ref a)] [] S I
  refine r_aload_n (pc := 0) hX dX5_scratch_0 rfl ?_
  refine r_geti (pc := 1) hX dX5_scratch_1 fl_X5_9 rfl (o_X5_k h) ?_
  refine r_iconst (pc := 4) hX 3 dX5_scratch_4 (by decide) ?_
  refine r_isub (pc := 5) hX dX5_scratch_5 ?_
  exact r_ireturn (pc := 6) hX dX5_scratch_6 rfl rfl (by first | rfl | (simp only [scratch_, ↓reduceIte, if_true, if_false, decide_true, decide_false, eq_self, b2i_t, b2i_f, Bool.false_eq_true, and_true, true_and, and_false, false_and, or_true, true_or, or_false, false_or, not_true_eq_false, not_false_eq_true]; done) | simp [scratch_]) rfl
set_option maxRecDepth 100000 in
set_option maxHeartbeats 4000000 in
theorem sp_X3_kindOf {l : Launch} {k : im_K} {S : im_S} {I : im_I} {a : Nat} {p0 : Int32} (h : o_X3 S a) : im_Runs l k 1 mX3_kindOf [.ref a, .int p0] (S, I) (some (.int (kindOf_ I a p0))) (S, I) := by
  refine im_run (by decide +kernel) ⟨Nat.le_refl _, Nat.le_refl _⟩ (Nat.le_of_ble_eq_true rfl) ?_
  intro X hl hX hxn hxz hxc hxs
  subst hl
  change im_E X k _ 0 [some (.ref a), some (.int p0)] [] S I
  refine r_aload_n (pc := 0) hX dX3_kindOf_0 rfl ?_
  refine r_getr (pc := 1) hX dX3_kindOf_1 fl_X3_9 rfl (o_X3_k h) (o_X3_r1 h) ?_
  refine r_iload_n (pc := 4) hX dX3_kindOf_4 rfl ?_
  refine r_callSN (Z := mX11_at) (pc := 5) hX dX3_kindOf_5 mn_X3_73 mX11_at_w (sp_X11_at (o_X3_a1 h)) rfl rfl (Nat.le_of_ble_eq_true rfl) (by decide) rfl (Or.inl rfl) ?_
  exact r_ireturn (pc := 8) hX dX3_kindOf_8 rfl rfl (by first | rfl | (simp only [kindOf_, ↓reduceIte, if_true, if_false, decide_true, decide_false, eq_self, b2i_t, b2i_f, Bool.false_eq_true, and_true, true_and, and_false, false_and, or_true, true_or, or_false, false_or, not_true_eq_false, not_false_eq_true]; done) | simp [kindOf_]) rfl
set_option maxRecDepth 100000 in
set_option maxHeartbeats 4000000 in
theorem sp_X3_writtenBy {l : Launch} {k : im_K} {S : im_S} {I : im_I} {a : Nat} {p0 : Int32} (h : o_X3 S a) : im_Runs l k 1 mX3_writtenBy [.ref a, .int p0] (S, I) (some (.int (writtenBy_ I a p0))) (S, I) := by
  refine im_run (by decide +kernel) ⟨Nat.le_refl _, Nat.le_refl _⟩ (Nat.le_of_ble_eq_true rfl) ?_
  intro X hl hX hxn hxz hxc hxs
  subst hl
  change im_E X k _ 0 [some (.ref a), some (.int p0)] [] S I
  refine r_aload_n (pc := 0) hX dX3_writtenBy_0 rfl ?_
  refine r_getr (pc := 1) hX dX3_writtenBy_1 fl_X3_15 rfl (o_X3_k h) (o_X3_r2 h) ?_
  refine r_iload_n (pc := 4) hX dX3_writtenBy_4 rfl ?_
  refine r_callSN (Z := mX11_at) (pc := 5) hX dX3_writtenBy_5 mn_X3_73 mX11_at_w (sp_X11_at (o_X3_a2 h)) rfl rfl (Nat.le_of_ble_eq_true rfl) (by decide) rfl (Or.inl rfl) ?_
  exact r_ireturn (pc := 8) hX dX3_writtenBy_8 rfl rfl (by first | rfl | (simp only [writtenBy_, ↓reduceIte, if_true, if_false, decide_true, decide_false, eq_self, b2i_t, b2i_f, Bool.false_eq_true, and_true, true_and, and_false, false_and, or_true, true_or, or_false, false_or, not_true_eq_false, not_false_eq_true]; done) | simp [writtenBy_]) rfl
set_option maxRecDepth 100000 in
set_option maxHeartbeats 4000000 in
theorem sp_X3_readBy {l : Launch} {k : im_K} {S : im_S} {I : im_I} {a : Nat} {p0 : Int32} {p1 : Int32} (h : o_X3 S a) : im_Runs l k 1 mX3_readBy [.ref a, .int p0, .int p1] (S, I) (some (.int (readBy_ I a p0 p1))) (S, I) := by
  refine im_run (by decide +kernel) ⟨Nat.le_refl _, Nat.le_refl _⟩ (Nat.le_of_ble_eq_true rfl) ?_
  intro X hl hX hxn hxz hxc hxs
  subst hl
  change im_E X k _ 0 [some (.ref a), some (.int p0), some (.int p1)] [] S I
  refine r_aload_n (pc := 0) hX dX3_readBy_0 rfl ?_
  refine r_getr (pc := 1) hX dX3_readBy_1 fl_X3_18 rfl (o_X3_k h) (o_X3_r3 h) ?_
  refine r_iconst (pc := 4) hX 3 dX3_readBy_4 (by decide) ?_
  refine r_iload_n (pc := 5) hX dX3_readBy_5 rfl ?_
  refine r_imul (pc := 6) hX dX3_readBy_6 ?_
  refine r_iload_n (pc := 7) hX dX3_readBy_7 rfl ?_
  refine r_iadd (pc := 8) hX dX3_readBy_8 ?_
  refine r_callSN (Z := mX11_at) (pc := 9) hX dX3_readBy_9 mn_X3_73 mX11_at_w (sp_X11_at (o_X3_a3 h)) rfl rfl (Nat.le_of_ble_eq_true rfl) (by decide) rfl (Or.inl rfl) ?_
  exact r_ireturn (pc := 12) hX dX3_readBy_12 rfl rfl (by first | rfl | (simp only [readBy_, ↓reduceIte, if_true, if_false, decide_true, decide_false, eq_self, b2i_t, b2i_f, Bool.false_eq_true, and_true, true_and, and_false, false_and, or_true, true_or, or_false, false_or, not_true_eq_false, not_false_eq_true]; done) | simp [readBy_]) rfl
set_option maxRecDepth 100000 in
set_option maxHeartbeats 4000000 in
theorem sp_X3_numberOf {l : Launch} {k : im_K} {S : im_S} {I : im_I} {a : Nat} {p0 : Int32} (h : o_X3 S a) : im_Runs l k 1 mX3_numberOf [.ref a, .int p0] (S, I) (some (.int (numberOf_ I a p0))) (S, I) := by
  refine im_run (by decide +kernel) ⟨Nat.le_refl _, Nat.le_refl _⟩ (Nat.le_of_ble_eq_true rfl) ?_
  intro X hl hX hxn hxz hxc hxs
  subst hl
  change im_E X k _ 0 [some (.ref a), some (.int p0)] [] S I
  refine r_aload_n (pc := 0) hX dX3_numberOf_0 rfl ?_
  refine r_getr (pc := 1) hX dX3_numberOf_1 fl_X3_21 rfl (o_X3_k h) (o_X3_r4 h) ?_
  refine r_iload_n (pc := 4) hX dX3_numberOf_4 rfl ?_
  refine r_callSN (Z := mX11_at) (pc := 5) hX dX3_numberOf_5 mn_X3_73 mX11_at_w (sp_X11_at (o_X3_a4 h)) rfl rfl (Nat.le_of_ble_eq_true rfl) (by decide) rfl (Or.inl rfl) ?_
  exact r_ireturn (pc := 8) hX dX3_numberOf_8 rfl rfl (by first | rfl | (simp only [numberOf_, ↓reduceIte, if_true, if_false, decide_true, decide_false, eq_self, b2i_t, b2i_f, Bool.false_eq_true, and_true, true_and, and_false, false_and, or_true, true_or, or_false, false_or, not_true_eq_false, not_false_eq_true]; done) | simp [numberOf_]) rfl
set_option maxRecDepth 100000 in
set_option maxHeartbeats 4000000 in
theorem sp_X3_blockOf {l : Launch} {k : im_K} {S : im_S} {I : im_I} {a : Nat} {p0 : Int32} (h : o_X3 S a) : im_Runs l k 1 mX3_blockOf [.ref a, .int p0] (S, I) (some (.int (blockOf_ I a p0))) (S, I) := by
  refine im_run (by decide +kernel) ⟨Nat.le_refl _, Nat.le_refl _⟩ (Nat.le_of_ble_eq_true rfl) ?_
  intro X hl hX hxn hxz hxc hxs
  subst hl
  change im_E X k _ 0 [some (.ref a), some (.int p0)] [] S I
  refine r_aload_n (pc := 0) hX dX3_blockOf_0 rfl ?_
  refine r_getr (pc := 1) hX dX3_blockOf_1 fl_X3_24 rfl (o_X3_k h) (o_X3_r5 h) ?_
  refine r_iload_n (pc := 4) hX dX3_blockOf_4 rfl ?_
  refine r_callSN (Z := mX11_at) (pc := 5) hX dX3_blockOf_5 mn_X3_73 mX11_at_w (sp_X11_at (o_X3_a5 h)) rfl rfl (Nat.le_of_ble_eq_true rfl) (by decide) rfl (Or.inl rfl) ?_
  exact r_ireturn (pc := 8) hX dX3_blockOf_8 rfl rfl (by first | rfl | (simp only [blockOf_, ↓reduceIte, if_true, if_false, decide_true, decide_false, eq_self, b2i_t, b2i_f, Bool.false_eq_true, and_true, true_and, and_false, false_and, or_true, true_or, or_false, false_or, not_true_eq_false, not_false_eq_true]; done) | simp [blockOf_]) rfl
set_option maxRecDepth 100000 in
set_option maxHeartbeats 4000000 in
theorem sp_X3_heightOf {l : Launch} {k : im_K} {S : im_S} {I : im_I} {a : Nat} {p0 : Int32} (h : o_X3 S a) : im_Runs l k 1 mX3_heightOf [.ref a, .int p0] (S, I) (some (.int (heightOf_ I a p0))) (S, I) := by
  refine im_run (by decide +kernel) ⟨Nat.le_refl _, Nat.le_refl _⟩ (Nat.le_of_ble_eq_true rfl) ?_
  intro X hl hX hxn hxz hxc hxs
  subst hl
  change im_E X k _ 0 [some (.ref a), some (.int p0)] [] S I
  refine r_aload_n (pc := 0) hX dX3_heightOf_0 rfl ?_
  refine r_getr (pc := 1) hX dX3_heightOf_1 fl_X3_27 rfl (o_X3_k h) (o_X3_r6 h) ?_
  refine r_iload_n (pc := 4) hX dX3_heightOf_4 rfl ?_
  refine r_callSN (Z := mX11_at) (pc := 5) hX dX3_heightOf_5 mn_X3_73 mX11_at_w (sp_X11_at (o_X3_a6 h)) rfl rfl (Nat.le_of_ble_eq_true rfl) (by decide) rfl (Or.inl rfl) ?_
  exact r_ireturn (pc := 8) hX dX3_heightOf_8 rfl rfl (by first | rfl | (simp only [heightOf_, ↓reduceIte, if_true, if_false, decide_true, decide_false, eq_self, b2i_t, b2i_f, Bool.false_eq_true, and_true, true_and, and_false, false_and, or_true, true_or, or_false, false_or, not_true_eq_false, not_false_eq_true]; done) | simp [heightOf_]) rfl
end
section
/-! walks, by program out of spec2.py -/
set_option maxRecDepth 100000 in
set_option maxHeartbeats 4000000 in
theorem sp_X11_fill {l : Launch} {k : im_K} {S : im_S} {I : im_I} {x0 n0 : Nat} {p1 : Int32} (hx0 : im_k S x0 = (20, n0)) (hn : n0 < 2 ^ 31 := by decide) : im_Runs l k 0 mX11_fill [.ref x0, .int p1] (S, I) (none) (S, fillL_ I x0 n0 p1) := by
  refine im_run (by decide +kernel) ⟨Nat.le_refl _, Nat.le_refl _⟩ (Nat.le_of_ble_eq_true rfl) ?_
  intro X hl hX hxn hxz hxc hxs
  subst hl
  change im_E X k _ 0 [some (.ref x0), some (.int p1), none] [] S I
  refine r_iconst (pc := 0) hX 0 dX11_fill_0 (by decide) ?_
  refine r_istore_n (pc := 1) hX (L' := [_, _, _]) dX11_fill_1 rfl rfl (Nat.le_of_ble_eq_true rfl) ?_
  have hL2 : ∀ (n : Nat) (i : Int32) (J : im_I), ¬ i < 0 → cnt i (Int32.ofNat n0) = n → loopN n i (fun i J => im_up J x0 i.toNatClampNeg p1) J = loopN (cnt (0) (Int32.ofNat n0)) (0) (fun i J => im_up J x0 i.toNatClampNeg p1) (I) → im_E X k (im_Q X k (none) (S, fillL_ I x0 n0 p1)) 2 [some (.ref x0), some (.int p1), some (.int i)] [] S J := by
    intro n
    induction n with
    | zero =>
      intro i J hz hm hR
      refine r_iload_n (pc := 2) hX dX11_fill_2 rfl ?_
      refine r_aload_n (pc := 3) hX dX11_fill_3 rfl ?_
      refine r_alen (pc := 4) hX _ dX11_fill_4 hx0 rfl ?_
      refine r_icmp_ge (pc := 5) hX 18 dX11_fill_5 (by decide) (fun c5 => ?_) (fun c5 => ?_)
      · have c5d := Int32.not_lt.mpr c5
        change J = _ at hR
        subst hR
        exact r_return (pc := 18) hX dX11_fill_18 rfl rfl (by first | rfl | (simp only [fillL_, loopC, c5, c5d, ↓reduceIte, if_true, if_false, decide_true, decide_false, eq_self, b2i_t, b2i_f, Bool.false_eq_true, and_true, true_and, and_false, false_and, or_true, true_or, or_false, false_or, not_true_eq_false, not_false_eq_true]; done) | simp [fillL_, loopC, c5, c5d])
      · have c5d := Int32.not_le.mp c5
        exact (cnt_ex hm c5).elim
    | succ n ih =>
      intro i J hz hm hR
      refine r_iload_n (pc := 2) hX dX11_fill_2 rfl ?_
      refine r_aload_n (pc := 3) hX dX11_fill_3 rfl ?_
      refine r_alen (pc := 4) hX _ dX11_fill_4 hx0 rfl ?_
      refine r_icmp_ge (pc := 5) hX 18 dX11_fill_5 (by decide) (fun c5 => ?_) (fun c5 => ?_)
      · have c5d := Int32.not_lt.mpr c5
        exact (cnt_go hm c5).elim
      · have c5d := Int32.not_le.mp c5
        refine r_aload_n (pc := 8) hX dX11_fill_8 rfl ?_
        refine r_iload_n (pc := 9) hX dX11_fill_9 rfl ?_
        refine r_iload_n (pc := 10) hX dX11_fill_10 rfl ?_
        refine r_iast (pc := 11) hX dX11_fill_11 hx0 (im_vp hz c5 hn) ?_
        refine r_iinc (pc := 12) hX 1 (L' := [_, _, _]) dX11_fill_12 rfl (by decide) rfl rfl ?_
        refine r_goto (pc := 15) hX (tgt := 2) dX11_fill_15 (by decide) ?_
        exact ih _ _ (i32_pos c5 hz) (cnt_nx hm) (by refine Eq.trans (congrArg (loopN n (i + 1) (fun i J => im_up J x0 i.toNatClampNeg p1)) ?_) hR; exact (by first | rfl | (simp only [fillL_, loopC, c5, c5d, ↓reduceIte, if_true, if_false, decide_true, decide_false, eq_self, b2i_t, b2i_f, Bool.false_eq_true, and_true, true_and, and_false, false_and, or_true, true_or, or_false, false_or, not_true_eq_false, not_false_eq_true]; done) | simp [fillL_, loopC, c5, c5d]))
  exact hL2 _ _ _ (by decide) rfl rfl
end

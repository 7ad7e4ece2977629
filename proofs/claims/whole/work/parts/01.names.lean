-- ===== PART A: goes FIRST, ahead of the names: the tables' words, and 'selects' of the private methods out of them =====
/-- a private method of a class that the tables say can be made, by its rows of tables_1 -/
def lw_okq (q : MethodName × Nat) : Prop := (q.1.cls ≠ "java/lang/invoke/MethodHandle" ∧ q.1.cls ≠ "java/lang/invoke/VarHandle") ∧ Cond.instantiable q.1.cls q.2 ∈ tables_1 ∧ Cond.privateMethod q.1 ∈ tables_1 ∧ Cond.instanceMethod q.1 ∈ tables_1
theorem lw_p0 : lw_okq (⟨"ClogHouse$Layers", "forgetOrder", "()V"⟩, 8) := ⟨⟨by decide +kernel, by decide +kernel⟩, List.mem_of_getElem? (i := 161) (by decide +kernel), List.mem_of_getElem? (i := 382) (by decide +kernel), List.mem_of_getElem? (i := 383) (by decide +kernel)⟩
theorem lw_p1 : lw_okq (⟨"ClogHouse", "filterAt", "(I)LClogHouse$Filter;"⟩, 13) := ⟨⟨by decide +kernel, by decide +kernel⟩, List.mem_of_getElem? (i := 26) (by decide +kernel), List.mem_of_getElem? (i := 395) (by decide +kernel), List.mem_of_getElem? (i := 396) (by decide +kernel)⟩
theorem lw_p2 : lw_okq (⟨"ClogHouse$Filter", "addCell", "(II)Z"⟩, 20) := ⟨⟨by decide +kernel, by decide +kernel⟩, List.mem_of_getElem? (i := 167) (by decide +kernel), List.mem_of_getElem? (i := 399) (by decide +kernel), List.mem_of_getElem? (i := 400) (by decide +kernel)⟩
theorem lw_p3 : lw_okq (⟨"ClogHouse", "cellAt", "(II)LClogHouse$Cell;"⟩, 13) := ⟨⟨by decide +kernel, by decide +kernel⟩, List.mem_of_getElem? (i := 26) (by decide +kernel), List.mem_of_getElem? (i := 447) (by decide +kernel), List.mem_of_getElem? (i := 448) (by decide +kernel)⟩
theorem lw_p4 : lw_okq (⟨"ClogHouse$Filter", "cellNumber", "(I)LClogHouse$Cell;"⟩, 20) := ⟨⟨by decide +kernel, by decide +kernel⟩, List.mem_of_getElem? (i := 167) (by decide +kernel), List.mem_of_getElem? (i := 451) (by decide +kernel), List.mem_of_getElem? (i := 452) (by decide +kernel)⟩
theorem lw_p5 : lw_okq (⟨"ClogHouse$Cell", "width", "()I"⟩, 6) := ⟨⟨by decide +kernel, by decide +kernel⟩, List.mem_of_getElem? (i := 402) (by decide +kernel), List.mem_of_getElem? (i := 456) (by decide +kernel), List.mem_of_getElem? (i := 457) (by decide +kernel)⟩
theorem lw_p6 : lw_okq (⟨"ClogHouse$Cell", "resistance", "()I"⟩, 6) := ⟨⟨by decide +kernel, by decide +kernel⟩, List.mem_of_getElem? (i := 402) (by decide +kernel), List.mem_of_getElem? (i := 460) (by decide +kernel), List.mem_of_getElem? (i := 461) (by decide +kernel)⟩
theorem lw_p7 : lw_okq (⟨"ClogHouse$Filter", "cakeInAll", "()I"⟩, 20) := ⟨⟨by decide +kernel, by decide +kernel⟩, List.mem_of_getElem? (i := 167) (by decide +kernel), List.mem_of_getElem? (i := 476) (by decide +kernel), List.mem_of_getElem? (i := 477) (by decide +kernel)⟩
theorem lw_p8 : lw_okq (⟨"ClogHouse$Filter", "bed", "()I"⟩, 20) := ⟨⟨by decide +kernel, by decide +kernel⟩, List.mem_of_getElem? (i := 167) (by decide +kernel), List.mem_of_getElem? (i := 480) (by decide +kernel), List.mem_of_getElem? (i := 481) (by decide +kernel)⟩
theorem lw_p9 : lw_okq (⟨"ClogHouse$Filter", "pushWith", "(I)I"⟩, 20) := ⟨⟨by decide +kernel, by decide +kernel⟩, List.mem_of_getElem? (i := 167) (by decide +kernel), List.mem_of_getElem? (i := 490) (by decide +kernel), List.mem_of_getElem? (i := 491) (by decide +kernel)⟩
theorem lw_p10 : lw_okq (⟨"ClogHouse$Text", "addBytes", "(I)V"⟩, 2) := ⟨⟨by decide +kernel, by decide +kernel⟩, List.mem_of_getElem? (i := 62) (by decide +kernel), List.mem_of_getElem? (i := 509) (by decide +kernel), List.mem_of_getElem? (i := 510) (by decide +kernel)⟩
theorem lw_p11 : lw_okq (⟨"ClogHouse$Reader", "faultIn", "(LClogHouse$Text;)I"⟩, 8) := ⟨⟨by decide +kernel, by decide +kernel⟩, List.mem_of_getElem? (i := 83) (by decide +kernel), List.mem_of_getElem? (i := 521) (by decide +kernel), List.mem_of_getElem? (i := 522) (by decide +kernel)⟩
theorem lw_p12 : lw_okq (⟨"ClogHouse$Reader", "begin", "(LClogHouse$Text;)V"⟩, 8) := ⟨⟨by decide +kernel, by decide +kernel⟩, List.mem_of_getElem? (i := 83) (by decide +kernel), List.mem_of_getElem? (i := 525) (by decide +kernel), List.mem_of_getElem? (i := 526) (by decide +kernel)⟩
theorem lw_p13 : lw_okq (⟨"ClogHouse$Reader", "readClause", "()V"⟩, 8) := ⟨⟨by decide +kernel, by decide +kernel⟩, List.mem_of_getElem? (i := 83) (by decide +kernel), List.mem_of_getElem? (i := 532) (by decide +kernel), List.mem_of_getElem? (i := 533) (by decide +kernel)⟩
theorem lw_p14 : lw_okq (⟨"ClogHouse$Reader", "sign", "()C"⟩, 8) := ⟨⟨by decide +kernel, by decide +kernel⟩, List.mem_of_getElem? (i := 83) (by decide +kernel), List.mem_of_getElem? (i := 536) (by decide +kernel), List.mem_of_getElem? (i := 537) (by decide +kernel)⟩
theorem lw_p15 : lw_okq (⟨"ClogHouse$Reader", "fail", "()V"⟩, 8) := ⟨⟨by decide +kernel, by decide +kernel⟩, List.mem_of_getElem? (i := 83) (by decide +kernel), List.mem_of_getElem? (i := 623) (by decide +kernel), List.mem_of_getElem? (i := 624) (by decide +kernel)⟩
def lw_privs_1 : List (MethodName × Nat) := [(⟨"ClogHouse$Layers", "forgetOrder", "()V"⟩, 8), (⟨"ClogHouse", "filterAt", "(I)LClogHouse$Filter;"⟩, 13), (⟨"ClogHouse$Filter", "addCell", "(II)Z"⟩, 20), (⟨"ClogHouse", "cellAt", "(II)LClogHouse$Cell;"⟩, 13), (⟨"ClogHouse$Filter", "cellNumber", "(I)LClogHouse$Cell;"⟩, 20), (⟨"ClogHouse$Cell", "width", "()I"⟩, 6), (⟨"ClogHouse$Cell", "resistance", "()I"⟩, 6), (⟨"ClogHouse$Filter", "cakeInAll", "()I"⟩, 20), (⟨"ClogHouse$Filter", "bed", "()I"⟩, 20), (⟨"ClogHouse$Filter", "pushWith", "(I)I"⟩, 20), (⟨"ClogHouse$Text", "addBytes", "(I)V"⟩, 2), (⟨"ClogHouse$Reader", "faultIn", "(LClogHouse$Text;)I"⟩, 8), (⟨"ClogHouse$Reader", "begin", "(LClogHouse$Text;)V"⟩, 8), (⟨"ClogHouse$Reader", "readClause", "()V"⟩, 8), (⟨"ClogHouse$Reader", "sign", "()C"⟩, 8), (⟨"ClogHouse$Reader", "fail", "()V"⟩, 8)]
theorem lw_r1 : ∀ q ∈ lw_privs_1, lw_okq q := List.forall_mem_cons.mpr ⟨lw_p0, List.forall_mem_cons.mpr ⟨lw_p1, List.forall_mem_cons.mpr ⟨lw_p2, List.forall_mem_cons.mpr ⟨lw_p3, List.forall_mem_cons.mpr ⟨lw_p4, List.forall_mem_cons.mpr ⟨lw_p5, List.forall_mem_cons.mpr ⟨lw_p6, List.forall_mem_cons.mpr ⟨lw_p7, List.forall_mem_cons.mpr ⟨lw_p8, List.forall_mem_cons.mpr ⟨lw_p9, List.forall_mem_cons.mpr ⟨lw_p10, List.forall_mem_cons.mpr ⟨lw_p11, List.forall_mem_cons.mpr ⟨lw_p12, List.forall_mem_cons.mpr ⟨lw_p13, List.forall_mem_cons.mpr ⟨lw_p14, List.forall_mem_cons.mpr ⟨lw_p15, fun _ h => absurd h List.not_mem_nil⟩⟩⟩⟩⟩⟩⟩⟩⟩⟩⟩⟩⟩⟩⟩⟩
theorem lw_p16 : lw_okq (⟨"ClogHouse$Reader", "expect", "(C)V"⟩, 8) := ⟨⟨by decide +kernel, by decide +kernel⟩, List.mem_of_getElem? (i := 83) (by decide +kernel), List.mem_of_getElem? (i := 627) (by decide +kernel), List.mem_of_getElem? (i := 628) (by decide +kernel)⟩
theorem lw_p17 : lw_okq (⟨"ClogHouse$Reader", "unit", "(I)Z"⟩, 8) := ⟨⟨by decide +kernel, by decide +kernel⟩, List.mem_of_getElem? (i := 83) (by decide +kernel), List.mem_of_getElem? (i := 631) (by decide +kernel), List.mem_of_getElem? (i := 632) (by decide +kernel)⟩
theorem lw_p18 : lw_okq (⟨"ClogHouse$Reader", "sum", "(I)J"⟩, 8) := ⟨⟨by decide +kernel, by decide +kernel⟩, List.mem_of_getElem? (i := 83) (by decide +kernel), List.mem_of_getElem? (i := 635) (by decide +kernel), List.mem_of_getElem? (i := 636) (by decide +kernel)⟩
theorem lw_p19 : lw_okq (⟨"ClogHouse$Reader", "term", "(I)J"⟩, 8) := ⟨⟨by decide +kernel, by decide +kernel⟩, List.mem_of_getElem? (i := 83) (by decide +kernel), List.mem_of_getElem? (i := 639) (by decide +kernel), List.mem_of_getElem? (i := 640) (by decide +kernel)⟩
theorem lw_p20 : lw_okq (⟨"ClogHouse$Reader", "atom", "(I)J"⟩, 8) := ⟨⟨by decide +kernel, by decide +kernel⟩, List.mem_of_getElem? (i := 83) (by decide +kernel), List.mem_of_getElem? (i := 643) (by decide +kernel), List.mem_of_getElem? (i := 644) (by decide +kernel)⟩
theorem lw_p21 : lw_okq (⟨"ClogHouse$Reader", "number", "()J"⟩, 8) := ⟨⟨by decide +kernel, by decide +kernel⟩, List.mem_of_getElem? (i := 83) (by decide +kernel), List.mem_of_getElem? (i := 647) (by decide +kernel), List.mem_of_getElem? (i := 648) (by decide +kernel)⟩
theorem lw_p22 : lw_okq (⟨"ClogHouse$Reader", "compared", "(JI)Z"⟩, 8) := ⟨⟨by decide +kernel, by decide +kernel⟩, List.mem_of_getElem? (i := 83) (by decide +kernel), List.mem_of_getElem? (i := 665) (by decide +kernel), List.mem_of_getElem? (i := 666) (by decide +kernel)⟩
theorem lw_p23 : lw_okq (⟨"ClogHouse$Reader", "condition", "(ZI)Z"⟩, 8) := ⟨⟨by decide +kernel, by decide +kernel⟩, List.mem_of_getElem? (i := 83) (by decide +kernel), List.mem_of_getElem? (i := 669) (by decide +kernel), List.mem_of_getElem? (i := 670) (by decide +kernel)⟩
theorem lw_p24 : lw_okq (⟨"ClogHouse$Reader", "part", "(ZI)Z"⟩, 8) := ⟨⟨by decide +kernel, by decide +kernel⟩, List.mem_of_getElem? (i := 83) (by decide +kernel), List.mem_of_getElem? (i := 673) (by decide +kernel), List.mem_of_getElem? (i := 674) (by decide +kernel)⟩
theorem lw_p25 : lw_okq (⟨"ClogHouse$Reader", "goesOn", "()Z"⟩, 8) := ⟨⟨by decide +kernel, by decide +kernel⟩, List.mem_of_getElem? (i := 83) (by decide +kernel), List.mem_of_getElem? (i := 677) (by decide +kernel), List.mem_of_getElem? (i := 678) (by decide +kernel)⟩
theorem lw_p26 : lw_okq (⟨"ClogHouse$Text", "copyFrom", "(LClogHouse$Text;)V"⟩, 2) := ⟨⟨by decide +kernel, by decide +kernel⟩, List.mem_of_getElem? (i := 62) (by decide +kernel), List.mem_of_getElem? (i := 686) (by decide +kernel), List.mem_of_getElem? (i := 687) (by decide +kernel)⟩
theorem lw_p27 : lw_okq (⟨"ClogHouse", "decide", "(I)V"⟩, 13) := ⟨⟨by decide +kernel, by decide +kernel⟩, List.mem_of_getElem? (i := 26) (by decide +kernel), List.mem_of_getElem? (i := 707) (by decide +kernel), List.mem_of_getElem? (i := 708) (by decide +kernel)⟩
theorem lw_p28 : lw_okq (⟨"ClogHouse", "rulesAt", "(I)LClogHouse$Text;"⟩, 13) := ⟨⟨by decide +kernel, by decide +kernel⟩, List.mem_of_getElem? (i := 26) (by decide +kernel), List.mem_of_getElem? (i := 711) (by decide +kernel), List.mem_of_getElem? (i := 712) (by decide +kernel)⟩
theorem lw_p29 : lw_okq (⟨"ClogHouse$Filter", "tellLettersTo", "(LClogHouse$Reader;I)V"⟩, 20) := ⟨⟨by decide +kernel, by decide +kernel⟩, List.mem_of_getElem? (i := 167) (by decide +kernel), List.mem_of_getElem? (i := 715) (by decide +kernel), List.mem_of_getElem? (i := 716) (by decide +kernel)⟩
theorem lw_p30 : lw_okq (⟨"ClogHouse$Reader", "tellLetters", "(IIIIII)V"⟩, 8) := ⟨⟨by decide +kernel, by decide +kernel⟩, List.mem_of_getElem? (i := 83) (by decide +kernel), List.mem_of_getElem? (i := 719) (by decide +kernel), List.mem_of_getElem? (i := 720) (by decide +kernel)⟩
theorem lw_p31 : lw_okq (⟨"ClogHouse$Reader", "worthOf", "(CLClogHouse$Text;)I"⟩, 8) := ⟨⟨by decide +kernel, by decide +kernel⟩, List.mem_of_getElem? (i := 83) (by decide +kernel), List.mem_of_getElem? (i := 723) (by decide +kernel), List.mem_of_getElem? (i := 724) (by decide +kernel)⟩
def lw_privs_2 : List (MethodName × Nat) := [(⟨"ClogHouse$Reader", "expect", "(C)V"⟩, 8), (⟨"ClogHouse$Reader", "unit", "(I)Z"⟩, 8), (⟨"ClogHouse$Reader", "sum", "(I)J"⟩, 8), (⟨"ClogHouse$Reader", "term", "(I)J"⟩, 8), (⟨"ClogHouse$Reader", "atom", "(I)J"⟩, 8), (⟨"ClogHouse$Reader", "number", "()J"⟩, 8), (⟨"ClogHouse$Reader", "compared", "(JI)Z"⟩, 8), (⟨"ClogHouse$Reader", "condition", "(ZI)Z"⟩, 8), (⟨"ClogHouse$Reader", "part", "(ZI)Z"⟩, 8), (⟨"ClogHouse$Reader", "goesOn", "()Z"⟩, 8), (⟨"ClogHouse$Text", "copyFrom", "(LClogHouse$Text;)V"⟩, 2), (⟨"ClogHouse", "decide", "(I)V"⟩, 13), (⟨"ClogHouse", "rulesAt", "(I)LClogHouse$Text;"⟩, 13), (⟨"ClogHouse$Filter", "tellLettersTo", "(LClogHouse$Reader;I)V"⟩, 20), (⟨"ClogHouse$Reader", "tellLetters", "(IIIIII)V"⟩, 8), (⟨"ClogHouse$Reader", "worthOf", "(CLClogHouse$Text;)I"⟩, 8)]
theorem lw_r2 : ∀ q ∈ lw_privs_2, lw_okq q := List.forall_mem_cons.mpr ⟨lw_p16, List.forall_mem_cons.mpr ⟨lw_p17, List.forall_mem_cons.mpr ⟨lw_p18, List.forall_mem_cons.mpr ⟨lw_p19, List.forall_mem_cons.mpr ⟨lw_p20, List.forall_mem_cons.mpr ⟨lw_p21, List.forall_mem_cons.mpr ⟨lw_p22, List.forall_mem_cons.mpr ⟨lw_p23, List.forall_mem_cons.mpr ⟨lw_p24, List.forall_mem_cons.mpr ⟨lw_p25, List.forall_mem_cons.mpr ⟨lw_p26, List.forall_mem_cons.mpr ⟨lw_p27, List.forall_mem_cons.mpr ⟨lw_p28, List.forall_mem_cons.mpr ⟨lw_p29, List.forall_mem_cons.mpr ⟨lw_p30, List.forall_mem_cons.mpr ⟨lw_p31, fun _ h => absurd h List.not_mem_nil⟩⟩⟩⟩⟩⟩⟩⟩⟩⟩⟩⟩⟩⟩⟩⟩
theorem lw_p32 : lw_okq (⟨"ClogHouse$Filter", "change", "(LClogHouse$Books;)V"⟩, 20) := ⟨⟨by decide +kernel, by decide +kernel⟩, List.mem_of_getElem? (i := 167) (by decide +kernel), List.mem_of_getElem? (i := 727) (by decide +kernel), List.mem_of_getElem? (i := 728) (by decide +kernel)⟩
theorem lw_p33 : lw_okq (⟨"ClogHouse$Filter", "heldOfSize", "(I)I"⟩, 20) := ⟨⟨by decide +kernel, by decide +kernel⟩, List.mem_of_getElem? (i := 167) (by decide +kernel), List.mem_of_getElem? (i := 731) (by decide +kernel), List.mem_of_getElem? (i := 732) (by decide +kernel)⟩
theorem lw_p34 : lw_okq (⟨"ClogHouse$Books", "noteCarried", "(II)V"⟩, 6) := ⟨⟨by decide +kernel, by decide +kernel⟩, List.mem_of_getElem? (i := 130) (by decide +kernel), List.mem_of_getElem? (i := 736) (by decide +kernel), List.mem_of_getElem? (i := 737) (by decide +kernel)⟩
theorem lw_p35 : lw_okq (⟨"ClogHouse$Filter", "makeClean", "()V"⟩, 20) := ⟨⟨by decide +kernel, by decide +kernel⟩, List.mem_of_getElem? (i := 167) (by decide +kernel), List.mem_of_getElem? (i := 740) (by decide +kernel), List.mem_of_getElem? (i := 741) (by decide +kernel)⟩
theorem lw_p36 : lw_okq (⟨"ClogHouse$Cell", "empty", "()V"⟩, 6) := ⟨⟨by decide +kernel, by decide +kernel⟩, List.mem_of_getElem? (i := 402) (by decide +kernel), List.mem_of_getElem? (i := 745) (by decide +kernel), List.mem_of_getElem? (i := 746) (by decide +kernel)⟩
theorem lw_p37 : lw_okq (⟨"ClogHouse", "wash", "(I)V"⟩, 13) := ⟨⟨by decide +kernel, by decide +kernel⟩, List.mem_of_getElem? (i := 26) (by decide +kernel), List.mem_of_getElem? (i := 750) (by decide +kernel), List.mem_of_getElem? (i := 751) (by decide +kernel)⟩
theorem lw_p38 : lw_okq (⟨"ClogHouse$Filter", "washOut", "(ILClogHouse$Grains;LClogHouse$Books;)V"⟩, 20) := ⟨⟨by decide +kernel, by decide +kernel⟩, List.mem_of_getElem? (i := 167) (by decide +kernel), List.mem_of_getElem? (i := 756) (by decide +kernel), List.mem_of_getElem? (i := 757) (by decide +kernel)⟩
theorem lw_p39 : lw_okq (⟨"ClogHouse$Cell", "washOut", "(ILClogHouse$Grains;LClogHouse$Books;)V"⟩, 6) := ⟨⟨by decide +kernel, by decide +kernel⟩, List.mem_of_getElem? (i := 402) (by decide +kernel), List.mem_of_getElem? (i := 760) (by decide +kernel), List.mem_of_getElem? (i := 761) (by decide +kernel)⟩
theorem lw_p40 : lw_okq (⟨"ClogHouse$Books", "noteWashed", "(II)V"⟩, 6) := ⟨⟨by decide +kernel, by decide +kernel⟩, List.mem_of_getElem? (i := 130) (by decide +kernel), List.mem_of_getElem? (i := 765) (by decide +kernel), List.mem_of_getElem? (i := 766) (by decide +kernel)⟩
theorem lw_p41 : lw_okq (⟨"ClogHouse", "shareStream", "()V"⟩, 13) := ⟨⟨by decide +kernel, by decide +kernel⟩, List.mem_of_getElem? (i := 26) (by decide +kernel), List.mem_of_getElem? (i := 771) (by decide +kernel), List.mem_of_getElem? (i := 772) (by decide +kernel)⟩
theorem lw_p42 : lw_okq (⟨"ClogHouse$Filter", "weightNow", "()J"⟩, 20) := ⟨⟨by decide +kernel, by decide +kernel⟩, List.mem_of_getElem? (i := 167) (by decide +kernel), List.mem_of_getElem? (i := 775) (by decide +kernel), List.mem_of_getElem? (i := 776) (by decide +kernel)⟩
theorem lw_p43 : lw_okq (⟨"ClogHouse", "shareGrains", "()V"⟩, 13) := ⟨⟨by decide +kernel, by decide +kernel⟩, List.mem_of_getElem? (i := 26) (by decide +kernel), List.mem_of_getElem? (i := 782) (by decide +kernel), List.mem_of_getElem? (i := 783) (by decide +kernel)⟩
theorem lw_p44 : lw_okq (⟨"ClogHouse$Stream", "comingOf", "(I)I"⟩, 2) := ⟨⟨by decide +kernel, by decide +kernel⟩, List.mem_of_getElem? (i := 114) (by decide +kernel), List.mem_of_getElem? (i := 786) (by decide +kernel), List.mem_of_getElem? (i := 787) (by decide +kernel)⟩
theorem lw_p45 : lw_okq (⟨"ClogHouse$Books", "noteCame", "(III)V"⟩, 6) := ⟨⟨by decide +kernel, by decide +kernel⟩, List.mem_of_getElem? (i := 130) (by decide +kernel), List.mem_of_getElem? (i := 791) (by decide +kernel), List.mem_of_getElem? (i := 792) (by decide +kernel)⟩
theorem lw_p46 : lw_okq (⟨"ClogHouse$Books", "note", "(IIII)V"⟩, 6) := ⟨⟨by decide +kernel, by decide +kernel⟩, List.mem_of_getElem? (i := 130) (by decide +kernel), List.mem_of_getElem? (i := 795) (by decide +kernel), List.mem_of_getElem? (i := 796) (by decide +kernel)⟩
theorem lw_p47 : lw_okq (⟨"ClogHouse$Books", "noteRound", "(III)V"⟩, 6) := ⟨⟨by decide +kernel, by decide +kernel⟩, List.mem_of_getElem? (i := 130) (by decide +kernel), List.mem_of_getElem? (i := 802) (by decide +kernel), List.mem_of_getElem? (i := 803) (by decide +kernel)⟩
def lw_privs_3 : List (MethodName × Nat) := [(⟨"ClogHouse$Filter", "change", "(LClogHouse$Books;)V"⟩, 20), (⟨"ClogHouse$Filter", "heldOfSize", "(I)I"⟩, 20), (⟨"ClogHouse$Books", "noteCarried", "(II)V"⟩, 6), (⟨"ClogHouse$Filter", "makeClean", "()V"⟩, 20), (⟨"ClogHouse$Cell", "empty", "()V"⟩, 6), (⟨"ClogHouse", "wash", "(I)V"⟩, 13), (⟨"ClogHouse$Filter", "washOut", "(ILClogHouse$Grains;LClogHouse$Books;)V"⟩, 20), (⟨"ClogHouse$Cell", "washOut", "(ILClogHouse$Grains;LClogHouse$Books;)V"⟩, 6), (⟨"ClogHouse$Books", "noteWashed", "(II)V"⟩, 6), (⟨"ClogHouse", "shareStream", "()V"⟩, 13), (⟨"ClogHouse$Filter", "weightNow", "()J"⟩, 20), (⟨"ClogHouse", "shareGrains", "()V"⟩, 13), (⟨"ClogHouse$Stream", "comingOf", "(I)I"⟩, 2), (⟨"ClogHouse$Books", "noteCame", "(III)V"⟩, 6), (⟨"ClogHouse$Books", "note", "(IIII)V"⟩, 6), (⟨"ClogHouse$Books", "noteRound", "(III)V"⟩, 6)]
theorem lw_r3 : ∀ q ∈ lw_privs_3, lw_okq q := List.forall_mem_cons.mpr ⟨lw_p32, List.forall_mem_cons.mpr ⟨lw_p33, List.forall_mem_cons.mpr ⟨lw_p34, List.forall_mem_cons.mpr ⟨lw_p35, List.forall_mem_cons.mpr ⟨lw_p36, List.forall_mem_cons.mpr ⟨lw_p37, List.forall_mem_cons.mpr ⟨lw_p38, List.forall_mem_cons.mpr ⟨lw_p39, List.forall_mem_cons.mpr ⟨lw_p40, List.forall_mem_cons.mpr ⟨lw_p41, List.forall_mem_cons.mpr ⟨lw_p42, List.forall_mem_cons.mpr ⟨lw_p43, List.forall_mem_cons.mpr ⟨lw_p44, List.forall_mem_cons.mpr ⟨lw_p45, List.forall_mem_cons.mpr ⟨lw_p46, List.forall_mem_cons.mpr ⟨lw_p47, fun _ h => absurd h List.not_mem_nil⟩⟩⟩⟩⟩⟩⟩⟩⟩⟩⟩⟩⟩⟩⟩⟩
theorem lw_p48 : lw_okq (⟨"ClogHouse", "run", "(I)V"⟩, 13) := ⟨⟨by decide +kernel, by decide +kernel⟩, List.mem_of_getElem? (i := 26) (by decide +kernel), List.mem_of_getElem? (i := 806) (by decide +kernel), List.mem_of_getElem? (i := 807) (by decide +kernel)⟩
theorem lw_p49 : lw_okq (⟨"ClogHouse$Filter", "loadInAll", "()I"⟩, 20) := ⟨⟨by decide +kernel, by decide +kernel⟩, List.mem_of_getElem? (i := 167) (by decide +kernel), List.mem_of_getElem? (i := 810) (by decide +kernel), List.mem_of_getElem? (i := 811) (by decide +kernel)⟩
theorem lw_p50 : lw_okq (⟨"ClogHouse$Filter", "pass", "(ILClogHouse$Grains;)Z"⟩, 20) := ⟨⟨by decide +kernel, by decide +kernel⟩, List.mem_of_getElem? (i := 167) (by decide +kernel), List.mem_of_getElem? (i := 814) (by decide +kernel), List.mem_of_getElem? (i := 815) (by decide +kernel)⟩
theorem lw_p51 : lw_okq (⟨"ClogHouse$Cell", "holdFrom", "([ILClogHouse$Grains;)V"⟩, 6) := ⟨⟨by decide +kernel, by decide +kernel⟩, List.mem_of_getElem? (i := 402) (by decide +kernel), List.mem_of_getElem? (i := 820) (by decide +kernel), List.mem_of_getElem? (i := 821) (by decide +kernel)⟩
theorem lw_p52 : lw_okq (⟨"ClogHouse$Books", "noteOut", "(III)V"⟩, 6) := ⟨⟨by decide +kernel, by decide +kernel⟩, List.mem_of_getElem? (i := 130) (by decide +kernel), List.mem_of_getElem? (i := 824) (by decide +kernel), List.mem_of_getElem? (i := 825) (by decide +kernel)⟩
theorem lw_p53 : lw_okq (⟨"ClogHouse$Filter", "rememberBest", "(II)V"⟩, 20) := ⟨⟨by decide +kernel, by decide +kernel⟩, List.mem_of_getElem? (i := 167) (by decide +kernel), List.mem_of_getElem? (i := 828) (by decide +kernel), List.mem_of_getElem? (i := 829) (by decide +kernel)⟩
theorem lw_p54 : lw_okq (⟨"ClogHouse", "closeHour", "(I)V"⟩, 13) := ⟨⟨by decide +kernel, by decide +kernel⟩, List.mem_of_getElem? (i := 26) (by decide +kernel), List.mem_of_getElem? (i := 832) (by decide +kernel), List.mem_of_getElem? (i := 833) (by decide +kernel)⟩
theorem lw_p55 : lw_okq (⟨"ClogHouse$Books", "noted", "(III)I"⟩, 6) := ⟨⟨by decide +kernel, by decide +kernel⟩, List.mem_of_getElem? (i := 130) (by decide +kernel), List.mem_of_getElem? (i := 844) (by decide +kernel), List.mem_of_getElem? (i := 845) (by decide +kernel)⟩
theorem lw_p56 : lw_okq (⟨"ClogHouse$Books", "lostFrom", "(II)I"⟩, 6) := ⟨⟨by decide +kernel, by decide +kernel⟩, List.mem_of_getElem? (i := 130) (by decide +kernel), List.mem_of_getElem? (i := 852) (by decide +kernel), List.mem_of_getElem? (i := 853) (by decide +kernel)⟩
theorem lw_p57 : lw_okq (⟨"ClogHouse$Layers", "addLayer", "(II)I"⟩, 8) := ⟨⟨by decide +kernel, by decide +kernel⟩, List.mem_of_getElem? (i := 161) (by decide +kernel), List.mem_of_getElem? (i := 884) (by decide +kernel), List.mem_of_getElem? (i := 885) (by decide +kernel)⟩
theorem lw_p58 : lw_okq (⟨"ClogHouse$Layers", "findOrder", "(ILClogHouse$Stream;LClogHouse$Grains;)V"⟩, 8) := ⟨⟨by decide +kernel, by decide +kernel⟩, List.mem_of_getElem? (i := 161) (by decide +kernel), List.mem_of_getElem? (i := 894) (by decide +kernel), List.mem_of_getElem? (i := 895) (by decide +kernel)⟩
theorem lw_p59 : lw_okq (⟨"ClogHouse$Layers", "hoursOfTried", "(ILClogHouse$Stream;LClogHouse$Grains;)I"⟩, 8) := ⟨⟨by decide +kernel, by decide +kernel⟩, List.mem_of_getElem? (i := 161) (by decide +kernel), List.mem_of_getElem? (i := 898) (by decide +kernel), List.mem_of_getElem? (i := 899) (by decide +kernel)⟩
theorem lw_p60 : lw_okq (⟨"ClogHouse$Stream", "comingInAll", "()I"⟩, 2) := ⟨⟨by decide +kernel, by decide +kernel⟩, List.mem_of_getElem? (i := 114) (by decide +kernel), List.mem_of_getElem? (i := 902) (by decide +kernel), List.mem_of_getElem? (i := 903) (by decide +kernel)⟩
theorem lw_p61 : lw_okq (⟨"ClogHouse$Layers", "layOut", "()V"⟩, 8) := ⟨⟨by decide +kernel, by decide +kernel⟩, List.mem_of_getElem? (i := 161) (by decide +kernel), List.mem_of_getElem? (i := 907) (by decide +kernel), List.mem_of_getElem? (i := 908) (by decide +kernel)⟩
theorem lw_p62 : lw_okq (⟨"ClogHouse$Layers", "toNextOrder", "()Z"⟩, 8) := ⟨⟨by decide +kernel, by decide +kernel⟩, List.mem_of_getElem? (i := 161) (by decide +kernel), List.mem_of_getElem? (i := 921) (by decide +kernel), List.mem_of_getElem? (i := 922) (by decide +kernel)⟩
theorem lw_p63 : lw_okq (⟨"ClogHouse$Layers", "swap", "(II)V"⟩, 8) := ⟨⟨by decide +kernel, by decide +kernel⟩, List.mem_of_getElem? (i := 161) (by decide +kernel), List.mem_of_getElem? (i := 926) (by decide +kernel), List.mem_of_getElem? (i := 927) (by decide +kernel)⟩
def lw_privs_4 : List (MethodName × Nat) := [(⟨"ClogHouse", "run", "(I)V"⟩, 13), (⟨"ClogHouse$Filter", "loadInAll", "()I"⟩, 20), (⟨"ClogHouse$Filter", "pass", "(ILClogHouse$Grains;)Z"⟩, 20), (⟨"ClogHouse$Cell", "holdFrom", "([ILClogHouse$Grains;)V"⟩, 6), (⟨"ClogHouse$Books", "noteOut", "(III)V"⟩, 6), (⟨"ClogHouse$Filter", "rememberBest", "(II)V"⟩, 20), (⟨"ClogHouse", "closeHour", "(I)V"⟩, 13), (⟨"ClogHouse$Books", "noted", "(III)I"⟩, 6), (⟨"ClogHouse$Books", "lostFrom", "(II)I"⟩, 6), (⟨"ClogHouse$Layers", "addLayer", "(II)I"⟩, 8), (⟨"ClogHouse$Layers", "findOrder", "(ILClogHouse$Stream;LClogHouse$Grains;)V"⟩, 8), (⟨"ClogHouse$Layers", "hoursOfTried", "(ILClogHouse$Stream;LClogHouse$Grains;)I"⟩, 8), (⟨"ClogHouse$Stream", "comingInAll", "()I"⟩, 2), (⟨"ClogHouse$Layers", "layOut", "()V"⟩, 8), (⟨"ClogHouse$Layers", "toNextOrder", "()Z"⟩, 8), (⟨"ClogHouse$Layers", "swap", "(II)V"⟩, 8)]
theorem lw_r4 : ∀ q ∈ lw_privs_4, lw_okq q := List.forall_mem_cons.mpr ⟨lw_p48, List.forall_mem_cons.mpr ⟨lw_p49, List.forall_mem_cons.mpr ⟨lw_p50, List.forall_mem_cons.mpr ⟨lw_p51, List.forall_mem_cons.mpr ⟨lw_p52, List.forall_mem_cons.mpr ⟨lw_p53, List.forall_mem_cons.mpr ⟨lw_p54, List.forall_mem_cons.mpr ⟨lw_p55, List.forall_mem_cons.mpr ⟨lw_p56, List.forall_mem_cons.mpr ⟨lw_p57, List.forall_mem_cons.mpr ⟨lw_p58, List.forall_mem_cons.mpr ⟨lw_p59, List.forall_mem_cons.mpr ⟨lw_p60, List.forall_mem_cons.mpr ⟨lw_p61, List.forall_mem_cons.mpr ⟨lw_p62, List.forall_mem_cons.mpr ⟨lw_p63, fun _ h => absurd h List.not_mem_nil⟩⟩⟩⟩⟩⟩⟩⟩⟩⟩⟩⟩⟩⟩⟩⟩
theorem lw_p64 : lw_okq (⟨"ClogHouse$Changes", "weigh", "(II)V"⟩, 5) := ⟨⟨by decide +kernel, by decide +kernel⟩, List.mem_of_getElem? (i := 277) (by decide +kernel), List.mem_of_getElem? (i := 938) (by decide +kernel), List.mem_of_getElem? (i := 939) (by decide +kernel)⟩
theorem lw_p65 : lw_okq (⟨"ClogHouse$Changes", "costOf", "(I)I"⟩, 5) := ⟨⟨by decide +kernel, by decide +kernel⟩, List.mem_of_getElem? (i := 277) (by decide +kernel), List.mem_of_getElem? (i := 943) (by decide +kernel), List.mem_of_getElem? (i := 944) (by decide +kernel)⟩
theorem lw_p66 : lw_okq (⟨"ClogHouse$Changes", "findNext", "(IIII)V"⟩, 5) := ⟨⟨by decide +kernel, by decide +kernel⟩, List.mem_of_getElem? (i := 277) (by decide +kernel), List.mem_of_getElem? (i := 948) (by decide +kernel), List.mem_of_getElem? (i := 949) (by decide +kernel)⟩
theorem lw_p67 : lw_okq (⟨"ClogHouse$Readings", "addReading", "(IIII)I"⟩, 7) := ⟨⟨by decide +kernel, by decide +kernel⟩, List.mem_of_getElem? (i := 303) (by decide +kernel), List.mem_of_getElem? (i := 956) (by decide +kernel), List.mem_of_getElem? (i := 957) (by decide +kernel)⟩
theorem lw_p68 : lw_okq (⟨"ClogHouse$Readings", "narrowAll", "(II)V"⟩, 7) := ⟨⟨by decide +kernel, by decide +kernel⟩, List.mem_of_getElem? (i := 303) (by decide +kernel), List.mem_of_getElem? (i := 964) (by decide +kernel), List.mem_of_getElem? (i := 965) (by decide +kernel)⟩
theorem lw_p69 : lw_okq (⟨"ClogHouse$Readings", "openRange", "()V"⟩, 7) := ⟨⟨by decide +kernel, by decide +kernel⟩, List.mem_of_getElem? (i := 303) (by decide +kernel), List.mem_of_getElem? (i := 968) (by decide +kernel), List.mem_of_getElem? (i := 969) (by decide +kernel)⟩
theorem lw_p70 : lw_okq (⟨"ClogHouse$Readings", "narrow", "(III)Z"⟩, 7) := ⟨⟨by decide +kernel, by decide +kernel⟩, List.mem_of_getElem? (i := 303) (by decide +kernel), List.mem_of_getElem? (i := 972) (by decide +kernel), List.mem_of_getElem? (i := 973) (by decide +kernel)⟩
theorem lw_p71 : lw_okq (⟨"ClogHouse$Readings", "leastHeld", "(LClogHouse$Cell;)I"⟩, 7) := ⟨⟨by decide +kernel, by decide +kernel⟩, List.mem_of_getElem? (i := 303) (by decide +kernel), List.mem_of_getElem? (i := 979) (by decide +kernel), List.mem_of_getElem? (i := 980) (by decide +kernel)⟩
theorem lw_p72 : lw_okq (⟨"ClogHouse$Readings", "fits", "(I)Z"⟩, 7) := ⟨⟨by decide +kernel, by decide +kernel⟩, List.mem_of_getElem? (i := 303) (by decide +kernel), List.mem_of_getElem? (i := 983) (by decide +kernel), List.mem_of_getElem? (i := 984) (by decide +kernel)⟩
theorem lw_p73 : lw_okq (⟨"ClogHouse$Readings", "greatestHeld", "(LClogHouse$Cell;)I"⟩, 7) := ⟨⟨by decide +kernel, by decide +kernel⟩, List.mem_of_getElem? (i := 303) (by decide +kernel), List.mem_of_getElem? (i := 988) (by decide +kernel), List.mem_of_getElem? (i := 989) (by decide +kernel)⟩
theorem lw_p74 : lw_okq (⟨"ClogHouse$Readings", "firstBarring", "(IILClogHouse$Cell;)I"⟩, 7) := ⟨⟨by decide +kernel, by decide +kernel⟩, List.mem_of_getElem? (i := 303) (by decide +kernel), List.mem_of_getElem? (i := 996) (by decide +kernel), List.mem_of_getElem? (i := 997) (by decide +kernel)⟩
theorem lw_p75 : lw_okq (⟨"ClogHouse", "heldOfSize", "(I)I"⟩, 13) := ⟨⟨by decide +kernel, by decide +kernel⟩, List.mem_of_getElem? (i := 26) (by decide +kernel), List.mem_of_getElem? (i := 1005) (by decide +kernel), List.mem_of_getElem? (i := 1006) (by decide +kernel)⟩
theorem lw_p76 : lw_okq (⟨"ClogHouse$Filter", "digestOnto", "(I)I"⟩, 20) := ⟨⟨by decide +kernel, by decide +kernel⟩, List.mem_of_getElem? (i := 167) (by decide +kernel), List.mem_of_getElem? (i := 1014) (by decide +kernel), List.mem_of_getElem? (i := 1015) (by decide +kernel)⟩
theorem lw_p77 : lw_okq (⟨"ClogHouse", "filtersThatRan", "()I"⟩, 13) := ⟨⟨by decide +kernel, by decide +kernel⟩, List.mem_of_getElem? (i := 26) (by decide +kernel), List.mem_of_getElem? (i := 1022) (by decide +kernel), List.mem_of_getElem? (i := 1023) (by decide +kernel)⟩
theorem lw_p78 : lw_okq (⟨"ClogHouse", "filtersThatAre", "(I)I"⟩, 13) := ⟨⟨by decide +kernel, by decide +kernel⟩, List.mem_of_getElem? (i := 26) (by decide +kernel), List.mem_of_getElem? (i := 1026) (by decide +kernel), List.mem_of_getElem? (i := 1027) (by decide +kernel)⟩
theorem lw_p79 : lw_okq (⟨"java/lang/Throwable", "fillInStackTrace", "(I)Ljava/lang/Throwable;"⟩, 6) := ⟨⟨by decide +kernel, by decide +kernel⟩, List.mem_of_getElem? (i := 1076) (by decide +kernel), List.mem_of_getElem? (i := 1074) (by decide +kernel), List.mem_of_getElem? (i := 1075) (by decide +kernel)⟩
def lw_privs_5 : List (MethodName × Nat) := [(⟨"ClogHouse$Changes", "weigh", "(II)V"⟩, 5), (⟨"ClogHouse$Changes", "costOf", "(I)I"⟩, 5), (⟨"ClogHouse$Changes", "findNext", "(IIII)V"⟩, 5), (⟨"ClogHouse$Readings", "addReading", "(IIII)I"⟩, 7), (⟨"ClogHouse$Readings", "narrowAll", "(II)V"⟩, 7), (⟨"ClogHouse$Readings", "openRange", "()V"⟩, 7), (⟨"ClogHouse$Readings", "narrow", "(III)Z"⟩, 7), (⟨"ClogHouse$Readings", "leastHeld", "(LClogHouse$Cell;)I"⟩, 7), (⟨"ClogHouse$Readings", "fits", "(I)Z"⟩, 7), (⟨"ClogHouse$Readings", "greatestHeld", "(LClogHouse$Cell;)I"⟩, 7), (⟨"ClogHouse$Readings", "firstBarring", "(IILClogHouse$Cell;)I"⟩, 7), (⟨"ClogHouse", "heldOfSize", "(I)I"⟩, 13), (⟨"ClogHouse$Filter", "digestOnto", "(I)I"⟩, 20), (⟨"ClogHouse", "filtersThatRan", "()I"⟩, 13), (⟨"ClogHouse", "filtersThatAre", "(I)I"⟩, 13), (⟨"java/lang/Throwable", "fillInStackTrace", "(I)Ljava/lang/Throwable;"⟩, 6)]
theorem lw_r5 : ∀ q ∈ lw_privs_5, lw_okq q := List.forall_mem_cons.mpr ⟨lw_p64, List.forall_mem_cons.mpr ⟨lw_p65, List.forall_mem_cons.mpr ⟨lw_p66, List.forall_mem_cons.mpr ⟨lw_p67, List.forall_mem_cons.mpr ⟨lw_p68, List.forall_mem_cons.mpr ⟨lw_p69, List.forall_mem_cons.mpr ⟨lw_p70, List.forall_mem_cons.mpr ⟨lw_p71, List.forall_mem_cons.mpr ⟨lw_p72, List.forall_mem_cons.mpr ⟨lw_p73, List.forall_mem_cons.mpr ⟨lw_p74, List.forall_mem_cons.mpr ⟨lw_p75, List.forall_mem_cons.mpr ⟨lw_p76, List.forall_mem_cons.mpr ⟨lw_p77, List.forall_mem_cons.mpr ⟨lw_p78, List.forall_mem_cons.mpr ⟨lw_p79, fun _ h => absurd h List.not_mem_nil⟩⟩⟩⟩⟩⟩⟩⟩⟩⟩⟩⟩⟩⟩⟩⟩
theorem lw_p80 : lw_okq (⟨"ClogHouseModel", "isFilter", "(I)Z"⟩, 63) := ⟨⟨by decide +kernel, by decide +kernel⟩, List.mem_of_getElem? (i := 1102) (by decide +kernel), List.mem_of_getElem? (i := 1320) (by decide +kernel), List.mem_of_getElem? (i := 1321) (by decide +kernel)⟩
theorem lw_p81 : lw_okq (⟨"ClogHouseModel", "pushFor", "(II)I"⟩, 63) := ⟨⟨by decide +kernel, by decide +kernel⟩, List.mem_of_getElem? (i := 1102) (by decide +kernel), List.mem_of_getElem? (i := 1332) (by decide +kernel), List.mem_of_getElem? (i := 1333) (by decide +kernel)⟩
theorem lw_p82 : lw_okq (⟨"ClogHouseModel", "bed", "(I)I"⟩, 63) := ⟨⟨by decide +kernel, by decide +kernel⟩, List.mem_of_getElem? (i := 1102) (by decide +kernel), List.mem_of_getElem? (i := 1336) (by decide +kernel), List.mem_of_getElem? (i := 1337) (by decide +kernel)⟩
theorem lw_p83 : lw_okq (⟨"ClogHouseModel", "width", "(II)I"⟩, 63) := ⟨⟨by decide +kernel, by decide +kernel⟩, List.mem_of_getElem? (i := 1102) (by decide +kernel), List.mem_of_getElem? (i := 1340) (by decide +kernel), List.mem_of_getElem? (i := 1341) (by decide +kernel)⟩
theorem lw_p84 : lw_okq (⟨"ClogHouseModel", "heldIn", "(II)I"⟩, 63) := ⟨⟨by decide +kernel, by decide +kernel⟩, List.mem_of_getElem? (i := 1102) (by decide +kernel), List.mem_of_getElem? (i := 1344) (by decide +kernel), List.mem_of_getElem? (i := 1345) (by decide +kernel)⟩
theorem lw_p85 : lw_okq (⟨"ClogHouseModel", "cakeOf", "(I)I"⟩, 63) := ⟨⟨by decide +kernel, by decide +kernel⟩, List.mem_of_getElem? (i := 1102) (by decide +kernel), List.mem_of_getElem? (i := 1355) (by decide +kernel), List.mem_of_getElem? (i := 1356) (by decide +kernel)⟩
theorem lw_p86 : lw_okq (⟨"ClogHouseModel", "isCell", "(II)Z"⟩, 63) := ⟨⟨by decide +kernel, by decide +kernel⟩, List.mem_of_getElem? (i := 1102) (by decide +kernel), List.mem_of_getElem? (i := 1367) (by decide +kernel), List.mem_of_getElem? (i := 1368) (by decide +kernel)⟩
theorem lw_p87 : lw_okq (⟨"ClogHouseModel", "clause", "()V"⟩, 63) := ⟨⟨by decide +kernel, by decide +kernel⟩, List.mem_of_getElem? (i := 1102) (by decide +kernel), List.mem_of_getElem? (i := 1394) (by decide +kernel), List.mem_of_getElem? (i := 1395) (by decide +kernel)⟩
theorem lw_p88 : lw_okq (⟨"ClogHouseModel", "look", "()I"⟩, 63) := ⟨⟨by decide +kernel, by decide +kernel⟩, List.mem_of_getElem? (i := 1102) (by decide +kernel), List.mem_of_getElem? (i := 1398) (by decide +kernel), List.mem_of_getElem? (i := 1399) (by decide +kernel)⟩
theorem lw_p89 : lw_okq (⟨"ClogHouseModel", "bad", "()V"⟩, 63) := ⟨⟨by decide +kernel, by decide +kernel⟩, List.mem_of_getElem? (i := 1102) (by decide +kernel), List.mem_of_getElem? (i := 1405) (by decide +kernel), List.mem_of_getElem? (i := 1406) (by decide +kernel)⟩
theorem lw_p90 : lw_okq (⟨"ClogHouseModel", "say", "(I)V"⟩, 63) := ⟨⟨by decide +kernel, by decide +kernel⟩, List.mem_of_getElem? (i := 1102) (by decide +kernel), List.mem_of_getElem? (i := 1409) (by decide +kernel), List.mem_of_getElem? (i := 1410) (by decide +kernel)⟩
theorem lw_p91 : lw_okq (⟨"ClogHouseModel", "sum", "()V"⟩, 63) := ⟨⟨by decide +kernel, by decide +kernel⟩, List.mem_of_getElem? (i := 1102) (by decide +kernel), List.mem_of_getElem? (i := 1413) (by decide +kernel), List.mem_of_getElem? (i := 1414) (by decide +kernel)⟩
theorem lw_p92 : lw_okq (⟨"ClogHouseModel", "term", "()V"⟩, 63) := ⟨⟨by decide +kernel, by decide +kernel⟩, List.mem_of_getElem? (i := 1102) (by decide +kernel), List.mem_of_getElem? (i := 1417) (by decide +kernel), List.mem_of_getElem? (i := 1418) (by decide +kernel)⟩
theorem lw_p93 : lw_okq (⟨"ClogHouseModel", "atom", "()V"⟩, 63) := ⟨⟨by decide +kernel, by decide +kernel⟩, List.mem_of_getElem? (i := 1102) (by decide +kernel), List.mem_of_getElem? (i := 1421) (by decide +kernel), List.mem_of_getElem? (i := 1422) (by decide +kernel)⟩
theorem lw_p94 : lw_okq (⟨"ClogHouseModel", "opens", "()Z"⟩, 63) := ⟨⟨by decide +kernel, by decide +kernel⟩, List.mem_of_getElem? (i := 1102) (by decide +kernel), List.mem_of_getElem? (i := 1425) (by decide +kernel), List.mem_of_getElem? (i := 1426) (by decide +kernel)⟩
theorem lw_p95 : lw_okq (⟨"ClogHouseModel", "closes", "(I)V"⟩, 63) := ⟨⟨by decide +kernel, by decide +kernel⟩, List.mem_of_getElem? (i := 1102) (by decide +kernel), List.mem_of_getElem? (i := 1429) (by decide +kernel), List.mem_of_getElem? (i := 1430) (by decide +kernel)⟩
def lw_privs_6 : List (MethodName × Nat) := [(⟨"ClogHouseModel", "isFilter", "(I)Z"⟩, 63), (⟨"ClogHouseModel", "pushFor", "(II)I"⟩, 63), (⟨"ClogHouseModel", "bed", "(I)I"⟩, 63), (⟨"ClogHouseModel", "width", "(II)I"⟩, 63), (⟨"ClogHouseModel", "heldIn", "(II)I"⟩, 63), (⟨"ClogHouseModel", "cakeOf", "(I)I"⟩, 63), (⟨"ClogHouseModel", "isCell", "(II)Z"⟩, 63), (⟨"ClogHouseModel", "clause", "()V"⟩, 63), (⟨"ClogHouseModel", "look", "()I"⟩, 63), (⟨"ClogHouseModel", "bad", "()V"⟩, 63), (⟨"ClogHouseModel", "say", "(I)V"⟩, 63), (⟨"ClogHouseModel", "sum", "()V"⟩, 63), (⟨"ClogHouseModel", "term", "()V"⟩, 63), (⟨"ClogHouseModel", "atom", "()V"⟩, 63), (⟨"ClogHouseModel", "opens", "()Z"⟩, 63), (⟨"ClogHouseModel", "closes", "(I)V"⟩, 63)]
theorem lw_r6 : ∀ q ∈ lw_privs_6, lw_okq q := List.forall_mem_cons.mpr ⟨lw_p80, List.forall_mem_cons.mpr ⟨lw_p81, List.forall_mem_cons.mpr ⟨lw_p82, List.forall_mem_cons.mpr ⟨lw_p83, List.forall_mem_cons.mpr ⟨lw_p84, List.forall_mem_cons.mpr ⟨lw_p85, List.forall_mem_cons.mpr ⟨lw_p86, List.forall_mem_cons.mpr ⟨lw_p87, List.forall_mem_cons.mpr ⟨lw_p88, List.forall_mem_cons.mpr ⟨lw_p89, List.forall_mem_cons.mpr ⟨lw_p90, List.forall_mem_cons.mpr ⟨lw_p91, List.forall_mem_cons.mpr ⟨lw_p92, List.forall_mem_cons.mpr ⟨lw_p93, List.forall_mem_cons.mpr ⟨lw_p94, List.forall_mem_cons.mpr ⟨lw_p95, fun _ h => absurd h List.not_mem_nil⟩⟩⟩⟩⟩⟩⟩⟩⟩⟩⟩⟩⟩⟩⟩⟩
theorem lw_p96 : lw_okq (⟨"ClogHouseModel", "number", "()V"⟩, 63) := ⟨⟨by decide +kernel, by decide +kernel⟩, List.mem_of_getElem? (i := 1102) (by decide +kernel), List.mem_of_getElem? (i := 1436) (by decide +kernel), List.mem_of_getElem? (i := 1437) (by decide +kernel)⟩
theorem lw_p97 : lw_okq (⟨"ClogHouseModel", "condition", "(Z)V"⟩, 63) := ⟨⟨by decide +kernel, by decide +kernel⟩, List.mem_of_getElem? (i := 1102) (by decide +kernel), List.mem_of_getElem? (i := 1446) (by decide +kernel), List.mem_of_getElem? (i := 1447) (by decide +kernel)⟩
theorem lw_p98 : lw_okq (⟨"ClogHouseModel", "part", "(Z)V"⟩, 63) := ⟨⟨by decide +kernel, by decide +kernel⟩, List.mem_of_getElem? (i := 1102) (by decide +kernel), List.mem_of_getElem? (i := 1450) (by decide +kernel), List.mem_of_getElem? (i := 1451) (by decide +kernel)⟩
theorem lw_p99 : lw_okq (⟨"ClogHouseModel", "compare", "()V"⟩, 63) := ⟨⟨by decide +kernel, by decide +kernel⟩, List.mem_of_getElem? (i := 1102) (by decide +kernel), List.mem_of_getElem? (i := 1454) (by decide +kernel), List.mem_of_getElem? (i := 1455) (by decide +kernel)⟩
theorem lw_p100 : lw_okq (⟨"ClogHouseModel", "unit", "()V"⟩, 63) := ⟨⟨by decide +kernel, by decide +kernel⟩, List.mem_of_getElem? (i := 1102) (by decide +kernel), List.mem_of_getElem? (i := 1458) (by decide +kernel), List.mem_of_getElem? (i := 1459) (by decide +kernel)⟩
theorem lw_p101 : lw_okq (⟨"ClogHouseModel", "worthBy", "(II)I"⟩, 63) := ⟨⟨by decide +kernel, by decide +kernel⟩, List.mem_of_getElem? (i := 1102) (by decide +kernel), List.mem_of_getElem? (i := 1475) (by decide +kernel), List.mem_of_getElem? (i := 1476) (by decide +kernel)⟩
theorem lw_p102 : lw_okq (⟨"ClogHouseModel", "work", "()I"⟩, 63) := ⟨⟨by decide +kernel, by decide +kernel⟩, List.mem_of_getElem? (i := 1102) (by decide +kernel), List.mem_of_getElem? (i := 1479) (by decide +kernel), List.mem_of_getElem? (i := 1480) (by decide +kernel)⟩
theorem lw_p103 : lw_okq (⟨"ClogHouseModel", "hour", "()V"⟩, 63) := ⟨⟨by decide +kernel, by decide +kernel⟩, List.mem_of_getElem? (i := 1102) (by decide +kernel), List.mem_of_getElem? (i := 1504) (by decide +kernel), List.mem_of_getElem? (i := 1505) (by decide +kernel)⟩
theorem lw_p104 : lw_okq (⟨"ClogHouseModel", "decide", "(I)V"⟩, 63) := ⟨⟨by decide +kernel, by decide +kernel⟩, List.mem_of_getElem? (i := 1102) (by decide +kernel), List.mem_of_getElem? (i := 1508) (by decide +kernel), List.mem_of_getElem? (i := 1509) (by decide +kernel)⟩
theorem lw_p105 : lw_okq (⟨"ClogHouseModel", "change", "(I)V"⟩, 63) := ⟨⟨by decide +kernel, by decide +kernel⟩, List.mem_of_getElem? (i := 1102) (by decide +kernel), List.mem_of_getElem? (i := 1512) (by decide +kernel), List.mem_of_getElem? (i := 1513) (by decide +kernel)⟩
theorem lw_p106 : lw_okq (⟨"ClogHouseModel", "washOne", "(I)V"⟩, 63) := ⟨⟨by decide +kernel, by decide +kernel⟩, List.mem_of_getElem? (i := 1102) (by decide +kernel), List.mem_of_getElem? (i := 1517) (by decide +kernel), List.mem_of_getElem? (i := 1518) (by decide +kernel)⟩
theorem lw_p107 : lw_okq (⟨"ClogHouseModel", "flow", "()V"⟩, 63) := ⟨⟨by decide +kernel, by decide +kernel⟩, List.mem_of_getElem? (i := 1102) (by decide +kernel), List.mem_of_getElem? (i := 1522) (by decide +kernel), List.mem_of_getElem? (i := 1523) (by decide +kernel)⟩
theorem lw_p108 : lw_okq (⟨"ClogHouseModel", "weightOf", "(I)I"⟩, 63) := ⟨⟨by decide +kernel, by decide +kernel⟩, List.mem_of_getElem? (i := 1102) (by decide +kernel), List.mem_of_getElem? (i := 1526) (by decide +kernel), List.mem_of_getElem? (i := 1527) (by decide +kernel)⟩
theorem lw_p109 : lw_okq (⟨"ClogHouseModel", "look", "(I)V"⟩, 63) := ⟨⟨by decide +kernel, by decide +kernel⟩, List.mem_of_getElem? (i := 1102) (by decide +kernel), List.mem_of_getElem? (i := 1531) (by decide +kernel), List.mem_of_getElem? (i := 1532) (by decide +kernel)⟩
theorem lw_p110 : lw_okq (⟨"ClogHouseModel", "tell", "(III)V"⟩, 63) := ⟨⟨by decide +kernel, by decide +kernel⟩, List.mem_of_getElem? (i := 1102) (by decide +kernel), List.mem_of_getElem? (i := 1535) (by decide +kernel), List.mem_of_getElem? (i := 1536) (by decide +kernel)⟩
theorem lw_p111 : lw_okq (⟨"ClogHouseModel", "runOne", "(I)V"⟩, 63) := ⟨⟨by decide +kernel, by decide +kernel⟩, List.mem_of_getElem? (i := 1102) (by decide +kernel), List.mem_of_getElem? (i := 1539) (by decide +kernel), List.mem_of_getElem? (i := 1540) (by decide +kernel)⟩
def lw_privs_7 : List (MethodName × Nat) := [(⟨"ClogHouseModel", "number", "()V"⟩, 63), (⟨"ClogHouseModel", "condition", "(Z)V"⟩, 63), (⟨"ClogHouseModel", "part", "(Z)V"⟩, 63), (⟨"ClogHouseModel", "compare", "()V"⟩, 63), (⟨"ClogHouseModel", "unit", "()V"⟩, 63), (⟨"ClogHouseModel", "worthBy", "(II)I"⟩, 63), (⟨"ClogHouseModel", "work", "()I"⟩, 63), (⟨"ClogHouseModel", "hour", "()V"⟩, 63), (⟨"ClogHouseModel", "decide", "(I)V"⟩, 63), (⟨"ClogHouseModel", "change", "(I)V"⟩, 63), (⟨"ClogHouseModel", "washOne", "(I)V"⟩, 63), (⟨"ClogHouseModel", "flow", "()V"⟩, 63), (⟨"ClogHouseModel", "weightOf", "(I)I"⟩, 63), (⟨"ClogHouseModel", "look", "(I)V"⟩, 63), (⟨"ClogHouseModel", "tell", "(III)V"⟩, 63), (⟨"ClogHouseModel", "runOne", "(I)V"⟩, 63)]
theorem lw_r7 : ∀ q ∈ lw_privs_7, lw_okq q := List.forall_mem_cons.mpr ⟨lw_p96, List.forall_mem_cons.mpr ⟨lw_p97, List.forall_mem_cons.mpr ⟨lw_p98, List.forall_mem_cons.mpr ⟨lw_p99, List.forall_mem_cons.mpr ⟨lw_p100, List.forall_mem_cons.mpr ⟨lw_p101, List.forall_mem_cons.mpr ⟨lw_p102, List.forall_mem_cons.mpr ⟨lw_p103, List.forall_mem_cons.mpr ⟨lw_p104, List.forall_mem_cons.mpr ⟨lw_p105, List.forall_mem_cons.mpr ⟨lw_p106, List.forall_mem_cons.mpr ⟨lw_p107, List.forall_mem_cons.mpr ⟨lw_p108, List.forall_mem_cons.mpr ⟨lw_p109, List.forall_mem_cons.mpr ⟨lw_p110, List.forall_mem_cons.mpr ⟨lw_p111, fun _ h => absurd h List.not_mem_nil⟩⟩⟩⟩⟩⟩⟩⟩⟩⟩⟩⟩⟩⟩⟩⟩
theorem lw_p112 : lw_okq (⟨"ClogHouseModel", "partOf", "(II)I"⟩, 63) := ⟨⟨by decide +kernel, by decide +kernel⟩, List.mem_of_getElem? (i := 1102) (by decide +kernel), List.mem_of_getElem? (i := 1543) (by decide +kernel), List.mem_of_getElem? (i := 1544) (by decide +kernel)⟩
theorem lw_p113 : lw_okq (⟨"ClogHouseModel", "lead", "(III)I"⟩, 63) := ⟨⟨by decide +kernel, by decide +kernel⟩, List.mem_of_getElem? (i := 1102) (by decide +kernel), List.mem_of_getElem? (i := 1547) (by decide +kernel), List.mem_of_getElem? (i := 1548) (by decide +kernel)⟩
theorem lw_p114 : lw_okq (⟨"ClogHouseModel", "arrange", "(III)V"⟩, 63) := ⟨⟨by decide +kernel, by decide +kernel⟩, List.mem_of_getElem? (i := 1102) (by decide +kernel), List.mem_of_getElem? (i := 1601) (by decide +kernel), List.mem_of_getElem? (i := 1602) (by decide +kernel)⟩
theorem lw_p115 : lw_okq (⟨"ClogHouseModel", "lasts", "(I)I"⟩, 63) := ⟨⟨by decide +kernel, by decide +kernel⟩, List.mem_of_getElem? (i := 1102) (by decide +kernel), List.mem_of_getElem? (i := 1605) (by decide +kernel), List.mem_of_getElem? (i := 1606) (by decide +kernel)⟩
theorem lw_p116 : lw_okq (⟨"ClogHouseModel", "from", "(II)J"⟩, 63) := ⟨⟨by decide +kernel, by decide +kernel⟩, List.mem_of_getElem? (i := 1102) (by decide +kernel), List.mem_of_getElem? (i := 1617) (by decide +kernel), List.mem_of_getElem? (i := 1618) (by decide +kernel)⟩
theorem lw_p117 : lw_okq (⟨"ClogHouseModel", "isAsked", "(III)Z"⟩, 63) := ⟨⟨by decide +kernel, by decide +kernel⟩, List.mem_of_getElem? (i := 1102) (by decide +kernel), List.mem_of_getElem? (i := 1629) (by decide +kernel), List.mem_of_getElem? (i := 1630) (by decide +kernel)⟩
theorem lw_p118 : lw_okq (⟨"ClogHouseModel", "readBack", "(IIII)I"⟩, 63) := ⟨⟨by decide +kernel, by decide +kernel⟩, List.mem_of_getElem? (i := 1102) (by decide +kernel), List.mem_of_getElem? (i := 1633) (by decide +kernel), List.mem_of_getElem? (i := 1634) (by decide +kernel)⟩
theorem lw_p119 : lw_okq (⟨"ClogHouseModel", "agrees", "(IIII)Z"⟩, 63) := ⟨⟨by decide +kernel, by decide +kernel⟩, List.mem_of_getElem? (i := 1102) (by decide +kernel), List.mem_of_getElem? (i := 1637) (by decide +kernel), List.mem_of_getElem? (i := 1638) (by decide +kernel)⟩
def lw_privs_8 : List (MethodName × Nat) := [(⟨"ClogHouseModel", "partOf", "(II)I"⟩, 63), (⟨"ClogHouseModel", "lead", "(III)I"⟩, 63), (⟨"ClogHouseModel", "arrange", "(III)V"⟩, 63), (⟨"ClogHouseModel", "lasts", "(I)I"⟩, 63), (⟨"ClogHouseModel", "from", "(II)J"⟩, 63), (⟨"ClogHouseModel", "isAsked", "(III)Z"⟩, 63), (⟨"ClogHouseModel", "readBack", "(IIII)I"⟩, 63), (⟨"ClogHouseModel", "agrees", "(IIII)Z"⟩, 63)]
theorem lw_r8 : ∀ q ∈ lw_privs_8, lw_okq q := List.forall_mem_cons.mpr ⟨lw_p112, List.forall_mem_cons.mpr ⟨lw_p113, List.forall_mem_cons.mpr ⟨lw_p114, List.forall_mem_cons.mpr ⟨lw_p115, List.forall_mem_cons.mpr ⟨lw_p116, List.forall_mem_cons.mpr ⟨lw_p117, List.forall_mem_cons.mpr ⟨lw_p118, List.forall_mem_cons.mpr ⟨lw_p119, fun _ h => absurd h List.not_mem_nil⟩⟩⟩⟩⟩⟩⟩⟩
def lw_privs : List (MethodName × Nat) := lw_privs_1 ++ (lw_privs_2 ++ (lw_privs_3 ++ (lw_privs_4 ++ (lw_privs_5 ++ (lw_privs_6 ++ (lw_privs_7 ++ (lw_privs_8)))))))
def lw_tbl : List Cond := k2_sels lw_privs ++ tables_1
theorem lw_privs_ok : ∀ q ∈ lw_privs, lw_okq q := by
  show ∀ q ∈ lw_privs_1 ++ (lw_privs_2 ++ (lw_privs_3 ++ (lw_privs_4 ++ (lw_privs_5 ++ (lw_privs_6 ++ (lw_privs_7 ++ (lw_privs_8))))))), lw_okq q
  exact List.forall_mem_append.mpr ⟨lw_r1, List.forall_mem_append.mpr ⟨lw_r2, List.forall_mem_append.mpr ⟨lw_r3, List.forall_mem_append.mpr ⟨lw_r4, List.forall_mem_append.mpr ⟨lw_r5, List.forall_mem_append.mpr ⟨lw_r6, List.forall_mem_append.mpr ⟨lw_r7, lw_r8⟩⟩⟩⟩⟩⟩⟩
def RX0 : String := "ClogHouse$Books"
def TX0 : u_T := fun k => match k with
  | 0 => ("ClogHouse$Books", "cameInAll", "[I", true)
  | 1 => ("ClogHouse$Books", "washedInAll", "[I", true)
  | 2 => ("ClogHouse$Books", "carriedInAll", "[I", true)
  | 3 => ("ClogHouse$Books", "outInAll", "[I", true)
  | 4 => ("ClogHouse$Books", "roundInAll", "[I", true)
  | _ => ("ClogHouse$Books", "rows", "[I", true)
def tyX0 : Nat → FieldType := fun k => match k with
  | 0 => .array .int
  | 1 => .array .int
  | 2 => .array .int
  | 3 => .array .int
  | 4 => .array .int
  | _ => .array .int
theorem nmX0 : ∀ a, a < 6 → ∀ b, b < 6 → a ≠ b → (TX0 a).2.1 ≠ (TX0 b).2.1 := by decide +kernel
theorem tyX0_ok : ∀ k, k < 6 → parseFieldDescriptor (TX0 k).2.2.1 = some (tyX0 k) := by decide +kernel
def RX1 : String := "ClogHouse$Cell"
def TX1 : u_T := fun k => match k with
  | 0 => ("ClogHouse$Cell", "holds", "[I", true)
  | 1 => ("ClogHouse$Cell", "stuck", "[I", true)
  | 2 => ("ClogHouse$Cell", "heldInAll", "I", false)
  | 3 => ("ClogHouse$Cell", "toldPore", "I", false)
  | 4 => ("ClogHouse$Cell", "pore", "I", false)
  | _ => ("ClogHouse$Cell", "take", "I", false)
def tyX1 : Nat → FieldType := fun k => match k with
  | 0 => .array .int
  | 1 => .array .int
  | 2 => .int
  | 3 => .int
  | 4 => .int
  | _ => .int
theorem nmX1 : ∀ a, a < 6 → ∀ b, b < 6 → a ≠ b → (TX1 a).2.1 ≠ (TX1 b).2.1 := by decide +kernel
theorem tyX1_ok : ∀ k, k < 6 → parseFieldDescriptor (TX1 k).2.2.1 = some (tyX1 k) := by decide +kernel
def RX2 : String := "ClogHouse$Changes"
def TX2 : u_T := fun k => match k with
  | 0 => ("ClogHouse$Changes", "costs", "[I", true)
  | 1 => ("ClogHouse$Changes", "fromChange", "[I", true)
  | 2 => ("ClogHouse$Changes", "price", "I", false)
  | 3 => ("ClogHouse$Changes", "leastSum", "I", false)
  | _ => ("ClogHouse$Changes", "latestFirst", "I", false)
def tyX2 : Nat → FieldType := fun k => match k with
  | 0 => .array .int
  | 1 => .array .int
  | 2 => .int
  | 3 => .int
  | _ => .int
theorem nmX2 : ∀ a, a < 5 → ∀ b, b < 5 → a ≠ b → (TX2 a).2.1 ≠ (TX2 b).2.1 := by decide +kernel
theorem tyX2_ok : ∀ k, k < 5 → parseFieldDescriptor (TX2 k).2.2.1 = some (tyX2 k) := by decide +kernel
def RX3 : String := "ClogHouse$Filter"
def TX3 : u_T := fun k => match k with
  | 0 => ("ClogHouse$Filter", "cells", "[LClogHouse$Cell;", true)
  | 1 => ("ClogHouse$Filter", "cake", "[I", true)
  | 2 => ("ClogHouse$Filter", "load", "[I", true)
  | 3 => ("ClogHouse$Filter", "cellCount", "I", false)
  | 4 => ("ClogHouse$Filter", "press", "I", false)
  | 5 => ("ClogHouse$Filter", "bear", "I", false)
  | 6 => ("ClogHouse$Filter", "washesBorne", "I", false)
  | 7 => ("ClogHouse$Filter", "ruleNumber", "I", false)
  | 8 => ("ClogHouse$Filter", "state", "I", false)
  | 9 => ("ClogHouse$Filter", "since", "I", false)
  | 10 => ("ClogHouse$Filter", "washes", "I", false)
  | 11 => ("ClogHouse$Filter", "latestShare", "I", false)
  | 12 => ("ClogHouse$Filter", "latestPush", "I", false)
  | 13 => ("ClogHouse$Filter", "latestOut", "I", false)
  | 14 => ("ClogHouse$Filter", "bestHour", "I", false)
  | 15 => ("ClogHouse$Filter", "bestOut", "I", false)
  | 16 => ("ClogHouse$Filter", "weight", "J", false)
  | 17 => ("ClogHouse$Filter", "everRan", "Z", false)
  | 18 => ("ClogHouse$Filter", "ranLatest", "Z", false)
  | _ => ("ClogHouse$Filter", "shutBehind", "Z", false)
def tyX3 : Nat → FieldType := fun k => match k with
  | 0 => .array (.object "ClogHouse$Cell")
  | 1 => .array .int
  | 2 => .array .int
  | 3 => .int
  | 4 => .int
  | 5 => .int
  | 6 => .int
  | 7 => .int
  | 8 => .int
  | 9 => .int
  | 10 => .int
  | 11 => .int
  | 12 => .int
  | 13 => .int
  | 14 => .int
  | 15 => .int
  | 16 => .long
  | 17 => .boolean
  | 18 => .boolean
  | _ => .boolean
theorem nmX3 : ∀ a, a < 20 → ∀ b, b < 20 → a ≠ b → (TX3 a).2.1 ≠ (TX3 b).2.1 := by decide +kernel
theorem tyX3_ok : ∀ k, k < 20 → parseFieldDescriptor (TX3 k).2.2.1 = some (tyX3 k) := by decide +kernel
def RX4 : String := "ClogHouse$Grains"
def TX4 : u_T := fun k => match k with
  | 0 => ("ClogHouse$Grains", "stick", "[I", true)
  | 1 => ("ClogHouse$Grains", "off", "[I", true)
  | _ => ("ClogHouse$Grains", "stay", "[I", true)
def tyX4 : Nat → FieldType := fun k => match k with
  | 0 => .array .int
  | 1 => .array .int
  | _ => .array .int
theorem nmX4 : ∀ a, a < 3 → ∀ b, b < 3 → a ≠ b → (TX4 a).2.1 ≠ (TX4 b).2.1 := by decide +kernel
theorem tyX4_ok : ∀ k, k < 3 → parseFieldDescriptor (TX4 k).2.2.1 = some (tyX4 k) := by decide +kernel
def RX5 : String := "ClogHouse$Layers"
def TX5 : u_T := fun k => match k with
  | 0 => ("ClogHouse$Layers", "pores", "[I", true)
  | 1 => ("ClogHouse$Layers", "takes", "[I", true)
  | 2 => ("ClogHouse$Layers", "tried", "[I", true)
  | 3 => ("ClogHouse$Layers", "bestOrder", "[I", true)
  | 4 => ("ClogHouse$Layers", "alone", "LClogHouse$Filter;", true)
  | 5 => ("ClogHouse$Layers", "layerCount", "I", false)
  | 6 => ("ClogHouse$Layers", "bestHours", "I", false)
  | _ => ("ClogHouse$Layers", "foundFor", "I", false)
def tyX5 : Nat → FieldType := fun k => match k with
  | 0 => .array .int
  | 1 => .array .int
  | 2 => .array .int
  | 3 => .array .int
  | 4 => .object "ClogHouse$Filter"
  | 5 => .int
  | 6 => .int
  | _ => .int
theorem nmX5 : ∀ a, a < 8 → ∀ b, b < 8 → a ≠ b → (TX5 a).2.1 ≠ (TX5 b).2.1 := by decide +kernel
theorem tyX5_ok : ∀ k, k < 8 → parseFieldDescriptor (TX5 k).2.2.1 = some (tyX5 k) := by decide +kernel
def RX6 : String := "ClogHouse$Reader"
def TX6 : u_T := fun k => match k with
  | 0 => ("ClogHouse$Reader", "letters", "[I", true)
  | 1 => ("ClogHouse$Reader", "bytes", "[C", false)
  | 2 => ("ClogHouse$Reader", "length", "I", false)
  | 3 => ("ClogHouse$Reader", "at", "I", false)
  | 4 => ("ClogHouse$Reader", "faultAt", "I", false)
  | 5 => ("ClogHouse$Reader", "label", "C", false)
  | 6 => ("ClogHouse$Reader", "holds", "Z", false)
  | _ => ("ClogHouse$Reader", "value", "J", false)
def tyX6 : Nat → FieldType := fun k => match k with
  | 0 => .array .int
  | 1 => .array .char
  | 2 => .int
  | 3 => .int
  | 4 => .int
  | 5 => .char
  | 6 => .boolean
  | _ => .long
theorem nmX6 : ∀ a, a < 8 → ∀ b, b < 8 → a ≠ b → (TX6 a).2.1 ≠ (TX6 b).2.1 := by decide +kernel
theorem tyX6_ok : ∀ k, k < 8 → parseFieldDescriptor (TX6 k).2.2.1 = some (tyX6 k) := by decide +kernel
def RX7 : String := "ClogHouse$Readings"
def TX7 : u_T := fun k => match k with
  | 0 => ("ClogHouse$Readings", "cellNumbers", "[I", true)
  | 1 => ("ClogHouse$Readings", "froms", "[I", true)
  | 2 => ("ClogHouse$Readings", "tos", "[I", true)
  | 3 => ("ClogHouse$Readings", "toldIn", "[I", true)
  | 4 => ("ClogHouse$Readings", "readingCount", "I", false)
  | 5 => ("ClogHouse$Readings", "low", "I", false)
  | _ => ("ClogHouse$Readings", "high", "I", false)
def tyX7 : Nat → FieldType := fun k => match k with
  | 0 => .array .int
  | 1 => .array .int
  | 2 => .array .int
  | 3 => .array .int
  | 4 => .int
  | 5 => .int
  | _ => .int
theorem nmX7 : ∀ a, a < 7 → ∀ b, b < 7 → a ≠ b → (TX7 a).2.1 ≠ (TX7 b).2.1 := by decide +kernel
theorem tyX7_ok : ∀ k, k < 7 → parseFieldDescriptor (TX7 k).2.2.1 = some (tyX7 k) := by decide +kernel
def RX8 : String := "ClogHouse$Stream"
def TX8 : u_T := fun k => match k with
  | 0 => ("ClogHouse$Stream", "many", "[I", true)
  | _ => ("ClogHouse$Stream", "q", "I", false)
def tyX8 : Nat → FieldType := fun k => match k with
  | 0 => .array .int
  | _ => .int
theorem nmX8 : ∀ a, a < 2 → ∀ b, b < 2 → a ≠ b → (TX8 a).2.1 ≠ (TX8 b).2.1 := by decide +kernel
theorem tyX8_ok : ∀ k, k < 2 → parseFieldDescriptor (TX8 k).2.2.1 = some (tyX8 k) := by decide +kernel
def RX9 : String := "ClogHouse$Text"
def TX9 : u_T := fun k => match k with
  | 0 => ("ClogHouse$Text", "bytes", "[C", true)
  | _ => ("ClogHouse$Text", "length", "I", false)
def tyX9 : Nat → FieldType := fun k => match k with
  | 0 => .array .char
  | _ => .int
theorem nmX9 : ∀ a, a < 2 → ∀ b, b < 2 → a ≠ b → (TX9 a).2.1 ≠ (TX9 b).2.1 := by decide +kernel
theorem tyX9_ok : ∀ k, k < 2 → parseFieldDescriptor (TX9 k).2.2.1 = some (tyX9 k) := by decide +kernel
def RX10 : String := "ClogHouse"
def TX10 : u_T := fun k => match k with
  | 0 => ("ClogHouse", "grains", "LClogHouse$Grains;", true)
  | 1 => ("ClogHouse", "filters", "[LClogHouse$Filter;", true)
  | 2 => ("ClogHouse", "tape", "LClogHouse$Text;", true)
  | 3 => ("ClogHouse", "ruleTexts", "[LClogHouse$Text;", true)
  | 4 => ("ClogHouse", "reader", "LClogHouse$Reader;", true)
  | 5 => ("ClogHouse", "water", "LClogHouse$Stream;", true)
  | 6 => ("ClogHouse", "books", "LClogHouse$Books;", true)
  | 7 => ("ClogHouse", "layers", "LClogHouse$Layers;", true)
  | 8 => ("ClogHouse", "changes", "LClogHouse$Changes;", true)
  | 9 => ("ClogHouse", "readings", "LClogHouse$Readings;", true)
  | 10 => ("ClogHouse", "filterCount", "I", false)
  | 11 => ("ClogHouse", "ruleCount", "I", false)
  | _ => ("ClogHouse", "now", "I", false)
def tyX10 : Nat → FieldType := fun k => match k with
  | 0 => .object "ClogHouse$Grains"
  | 1 => .array (.object "ClogHouse$Filter")
  | 2 => .object "ClogHouse$Text"
  | 3 => .array (.object "ClogHouse$Text")
  | 4 => .object "ClogHouse$Reader"
  | 5 => .object "ClogHouse$Stream"
  | 6 => .object "ClogHouse$Books"
  | 7 => .object "ClogHouse$Layers"
  | 8 => .object "ClogHouse$Changes"
  | 9 => .object "ClogHouse$Readings"
  | 10 => .int
  | 11 => .int
  | _ => .int
theorem nmX10 : ∀ a, a < 13 → ∀ b, b < 13 → a ≠ b → (TX10 a).2.1 ≠ (TX10 b).2.1 := by decide +kernel
theorem tyX10_ok : ∀ k, k < 13 → parseFieldDescriptor (TX10 k).2.2.1 = some (tyX10 k) := by decide +kernel
def RX11 : String := "ClogHouseModel"
def TX11 : u_T := fun k => match k with
  | 0 => ("ClogHouseModel", "now", "I", false)
  | 1 => ("ClogHouseModel", "thrown", "I", false)
  | 2 => ("ClogHouseModel", "stick", "[I", true)
  | 3 => ("ClogHouseModel", "off", "[I", true)
  | 4 => ("ClogHouseModel", "stay", "[I", true)
  | 5 => ("ClogHouseModel", "cells", "[I", true)
  | 6 => ("ClogHouseModel", "pore", "[I", true)
  | 7 => ("ClogHouseModel", "firstPore", "[I", true)
  | 8 => ("ClogHouseModel", "take", "[I", true)
  | 9 => ("ClogHouseModel", "holds", "[I", true)
  | 10 => ("ClogHouseModel", "stuck", "[I", true)
  | 11 => ("ClogHouseModel", "cake", "[I", true)
  | 12 => ("ClogHouseModel", "press", "[I", true)
  | 13 => ("ClogHouseModel", "bear", "[I", true)
  | 14 => ("ClogHouseModel", "bears", "[I", true)
  | 15 => ("ClogHouseModel", "state", "[I", true)
  | 16 => ("ClogHouseModel", "since", "[I", true)
  | 17 => ("ClogHouseModel", "washes", "[I", true)
  | 18 => ("ClogHouseModel", "ruleOf", "[I", true)
  | 19 => ("ClogHouseModel", "share", "[I", true)
  | 20 => ("ClogHouseModel", "pushed", "[I", true)
  | 21 => ("ClogHouseModel", "outOf", "[I", true)
  | 22 => ("ClogHouseModel", "ran", "[Z", true)
  | 23 => ("ClogHouseModel", "everRan", "[Z", true)
  | 24 => ("ClogHouseModel", "filters", "I", false)
  | 25 => ("ClogHouseModel", "tape", "[I", true)
  | 26 => ("ClogHouseModel", "saying", "[I", true)
  | 27 => ("ClogHouseModel", "codes", "[I", true)
  | 28 => ("ClogHouseModel", "textSize", "[I", true)
  | 29 => ("ClogHouseModel", "size", "I", false)
  | 30 => ("ClogHouseModel", "at1", "I", false)
  | 31 => ("ClogHouseModel", "wrong", "I", false)
  | 32 => ("ClogHouseModel", "deep", "I", false)
  | 33 => ("ClogHouseModel", "said", "I", false)
  | 34 => ("ClogHouseModel", "rules", "I", false)
  | 35 => ("ClogHouseModel", "letters", "[I", true)
  | 36 => ("ClogHouseModel", "pile", "[I", true)
  | 37 => ("ClogHouseModel", "reading", "I", false)
  | 38 => ("ClogHouseModel", "grains", "[I", true)
  | 39 => ("ClogHouseModel", "history", "[I", true)
  | 40 => ("ClogHouseModel", "ripeHour", "[I", true)
  | 41 => ("ClogHouseModel", "ripeOut", "[I", true)
  | 42 => ("ClogHouseModel", "ledAll", "[I", true)
  | 43 => ("ClogHouseModel", "weight", "[I", true)
  | 44 => ("ClogHouseModel", "parts", "[I", true)
  | 45 => ("ClogHouseModel", "wash", "[I", true)
  | 46 => ("ClogHouseModel", "widths", "[I", true)
  | 47 => ("ClogHouseModel", "closes1", "[Z", true)
  | 48 => ("ClogHouseModel", "q", "I", false)
  | 49 => ("ClogHouseModel", "layerPore", "[I", true)
  | 50 => ("ClogHouseModel", "layerTake", "[I", true)
  | 51 => ("ClogHouseModel", "row", "[I", true)
  | 52 => ("ClogHouseModel", "best", "[I", true)
  | 53 => ("ClogHouseModel", "layers", "I", false)
  | 54 => ("ClogHouseModel", "bestHours", "I", false)
  | 55 => ("ClogHouseModel", "costs", "[I", true)
  | 56 => ("ClogHouseModel", "least", "[J", true)
  | 57 => ("ClogHouseModel", "price", "I", false)
  | 58 => ("ClogHouseModel", "gaugeCell", "[I", true)
  | 59 => ("ClogHouseModel", "gaugeFrom", "[I", true)
  | 60 => ("ClogHouseModel", "gaugeTo", "[I", true)
  | 61 => ("ClogHouseModel", "gaugeTold", "[I", true)
  | _ => ("ClogHouseModel", "readings", "I", false)
def tyX11 : Nat → FieldType := fun k => match k with
  | 0 => .int
  | 1 => .int
  | 2 => .array .int
  | 3 => .array .int
  | 4 => .array .int
  | 5 => .array .int
  | 6 => .array .int
  | 7 => .array .int
  | 8 => .array .int
  | 9 => .array .int
  | 10 => .array .int
  | 11 => .array .int
  | 12 => .array .int
  | 13 => .array .int
  | 14 => .array .int
  | 15 => .array .int
  | 16 => .array .int
  | 17 => .array .int
  | 18 => .array .int
  | 19 => .array .int
  | 20 => .array .int
  | 21 => .array .int
  | 22 => .array .boolean
  | 23 => .array .boolean
  | 24 => .int
  | 25 => .array .int
  | 26 => .array .int
  | 27 => .array .int
  | 28 => .array .int
  | 29 => .int
  | 30 => .int
  | 31 => .int
  | 32 => .int
  | 33 => .int
  | 34 => .int
  | 35 => .array .int
  | 36 => .array .int
  | 37 => .int
  | 38 => .array .int
  | 39 => .array .int
  | 40 => .array .int
  | 41 => .array .int
  | 42 => .array .int
  | 43 => .array .int
  | 44 => .array .int
  | 45 => .array .int
  | 46 => .array .int
  | 47 => .array .boolean
  | 48 => .int
  | 49 => .array .int
  | 50 => .array .int
  | 51 => .array .int
  | 52 => .array .int
  | 53 => .int
  | 54 => .int
  | 55 => .array .int
  | 56 => .array .long
  | 57 => .int
  | 58 => .array .int
  | 59 => .array .int
  | 60 => .array .int
  | 61 => .array .int
  | _ => .int
theorem nmX11 : ∀ a, a < 63 → ∀ b, b < 63 → a ≠ b → (TX11 a).2.1 ≠ (TX11 b).2.1 := by decide +kernel
theorem tyX11_ok : ∀ k, k < 63 → parseFieldDescriptor (TX11 k).2.2.1 = some (tyX11 k) := by decide +kernel
abbrev cm_cl : List vw_C := [(RX0, TX0, 6), (RX1, TX1, 6), (RX2, TX2, 5), (RX3, TX3, 20), (RX4, TX4, 3), (RX5, TX5, 8), (RX6, TX6, 8), (RX7, TX7, 7), (RX8, TX8, 2), (RX9, TX9, 2), (RX10, TX10, 13), (RX11, TX11, 63), ("java/util/NoSuchElementException", TX0, 0)]
def cm_tys : List (Nat → FieldType) := [tyX0, tyX1, tyX2, tyX3, tyX4, tyX5, tyX6, tyX7, tyX8, tyX9, tyX10, tyX11]
def cm_ty (ci : Nat) : Nat → FieldType := cm_tys.getD ci tyX0
def cm_N (ci : Nat) : Nat := ([6, 6, 5, 20, 3, 8, 8, 7, 2, 2, 13, 63] : List Nat).getD ci 0
theorem cm_in0 : ∀ w ∈ u_ws RX0 TX0 6, w ∈ lw_tbl := by decide +kernel
theorem cm_in1 : ∀ w ∈ u_ws RX1 TX1 6, w ∈ lw_tbl := by decide +kernel
theorem cm_in2 : ∀ w ∈ u_ws RX2 TX2 5, w ∈ lw_tbl := by decide +kernel
theorem cm_in3 : ∀ w ∈ u_ws RX3 TX3 20, w ∈ lw_tbl := by decide +kernel
theorem cm_in4 : ∀ w ∈ u_ws RX4 TX4 3, w ∈ lw_tbl := by decide +kernel
theorem cm_in5 : ∀ w ∈ u_ws RX5 TX5 8, w ∈ lw_tbl := by decide +kernel
theorem cm_in6 : ∀ w ∈ u_ws RX6 TX6 8, w ∈ lw_tbl := by decide +kernel
theorem cm_in7 : ∀ w ∈ u_ws RX7 TX7 7, w ∈ lw_tbl := by decide +kernel
theorem cm_in8 : ∀ w ∈ u_ws RX8 TX8 2, w ∈ lw_tbl := by decide +kernel
theorem cm_in9 : ∀ w ∈ u_ws RX9 TX9 2, w ∈ lw_tbl := by decide +kernel
theorem cm_in10 : ∀ w ∈ u_ws RX10 TX10 13, w ∈ lw_tbl := by decide +kernel
theorem cm_in11 : ∀ w ∈ u_ws RX11 TX11 63, w ∈ lw_tbl := by decide +kernel

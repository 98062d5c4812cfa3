-- ===== PART A: goes FIRST, ahead of the names: the tables' words, and 'selects' of the private methods out of them =====
/-- a private method of a class that the tables say can be made, by its rows of tables_1 -/
def lw_okq (q : MethodName × Nat) : Prop := (q.1.cls ≠ "java/lang/invoke/MethodHandle" ∧ q.1.cls ≠ "java/lang/invoke/VarHandle") ∧ Cond.instantiable q.1.cls q.2 ∈ tables_1 ∧ Cond.privateMethod q.1 ∈ tables_1 ∧ Cond.instanceMethod q.1 ∈ tables_1
theorem lw_p0 : lw_okq (⟨"NoonBell$Reader", "addWords", "(Ljava/lang/String;)V"⟩, 13) := ⟨⟨by decide +kernel, by decide +kernel⟩, List.mem_of_getElem? (i := 44) (by decide +kernel), List.mem_of_getElem? (i := 79) (by decide +kernel), List.mem_of_getElem? (i := 80) (by decide +kernel)⟩
theorem lw_p1 : lw_okq (⟨"NoonBell", "refuse", "(I)I"⟩, 14) := ⟨⟨by decide +kernel, by decide +kernel⟩, List.mem_of_getElem? (i := 19) (by decide +kernel), List.mem_of_getElem? (i := 458) (by decide +kernel), List.mem_of_getElem? (i := 459) (by decide +kernel)⟩
theorem lw_p2 : lw_okq (⟨"NoonBell", "feedNumber", "(I)V"⟩, 14) := ⟨⟨by decide +kernel, by decide +kernel⟩, List.mem_of_getElem? (i := 19) (by decide +kernel), List.mem_of_getElem? (i := 464) (by decide +kernel), List.mem_of_getElem? (i := 465) (by decide +kernel)⟩
theorem lw_p3 : lw_okq (⟨"NoonBell$Reader", "scan", "(LNoonBell$Row;I)I"⟩, 13) := ⟨⟨by decide +kernel, by decide +kernel⟩, List.mem_of_getElem? (i := 44) (by decide +kernel), List.mem_of_getElem? (i := 484) (by decide +kernel), List.mem_of_getElem? (i := 485) (by decide +kernel)⟩
theorem lw_p4 : lw_okq (⟨"NoonBell$Reader", "scanWord", "(LNoonBell$Row;I)I"⟩, 13) := ⟨⟨by decide +kernel, by decide +kernel⟩, List.mem_of_getElem? (i := 44) (by decide +kernel), List.mem_of_getElem? (i := 492) (by decide +kernel), List.mem_of_getElem? (i := 493) (by decide +kernel)⟩
theorem lw_p5 : lw_okq (⟨"NoonBell$Reader", "put", "(IIII)V"⟩, 13) := ⟨⟨by decide +kernel, by decide +kernel⟩, List.mem_of_getElem? (i := 44) (by decide +kernel), List.mem_of_getElem? (i := 499) (by decide +kernel), List.mem_of_getElem? (i := 500) (by decide +kernel)⟩
theorem lw_p6 : lw_okq (⟨"NoonBell$Reader", "scanNumber", "(LNoonBell$Row;I)I"⟩, 13) := ⟨⟨by decide +kernel, by decide +kernel⟩, List.mem_of_getElem? (i := 44) (by decide +kernel), List.mem_of_getElem? (i := 507) (by decide +kernel), List.mem_of_getElem? (i := 508) (by decide +kernel)⟩
theorem lw_p7 : lw_okq (⟨"NoonBell$Reader", "fine", "()Z"⟩, 13) := ⟨⟨by decide +kernel, by decide +kernel⟩, List.mem_of_getElem? (i := 44) (by decide +kernel), List.mem_of_getElem? (i := 516) (by decide +kernel), List.mem_of_getElem? (i := 517) (by decide +kernel)⟩
theorem lw_p8 : lw_okq (⟨"NoonBell$Reader", "word", "()I"⟩, 13) := ⟨⟨by decide +kernel, by decide +kernel⟩, List.mem_of_getElem? (i := 44) (by decide +kernel), List.mem_of_getElem? (i := 520) (by decide +kernel), List.mem_of_getElem? (i := 521) (by decide +kernel)⟩
theorem lw_p9 : lw_okq (⟨"NoonBell$Reader", "here", "()I"⟩, 13) := ⟨⟨by decide +kernel, by decide +kernel⟩, List.mem_of_getElem? (i := 44) (by decide +kernel), List.mem_of_getElem? (i := 532) (by decide +kernel), List.mem_of_getElem? (i := 533) (by decide +kernel)⟩
theorem lw_p10 : lw_okq (⟨"NoonBell$Reader", "fail", "(II)V"⟩, 13) := ⟨⟨by decide +kernel, by decide +kernel⟩, List.mem_of_getElem? (i := 44) (by decide +kernel), List.mem_of_getElem? (i := 536) (by decide +kernel), List.mem_of_getElem? (i := 537) (by decide +kernel)⟩
theorem lw_p11 : lw_okq (⟨"NoonBell$Reader", "readGiven", "(LNoonBell$City;I)V"⟩, 13) := ⟨⟨by decide +kernel, by decide +kernel⟩, List.mem_of_getElem? (i := 44) (by decide +kernel), List.mem_of_getElem? (i := 540) (by decide +kernel), List.mem_of_getElem? (i := 541) (by decide +kernel)⟩
theorem lw_p12 : lw_okq (⟨"NoonBell$Reader", "take", "()V"⟩, 13) := ⟨⟨by decide +kernel, by decide +kernel⟩, List.mem_of_getElem? (i := 44) (by decide +kernel), List.mem_of_getElem? (i := 544) (by decide +kernel), List.mem_of_getElem? (i := 545) (by decide +kernel)⟩
theorem lw_p13 : lw_okq (⟨"NoonBell$Reader", "takeName", "()I"⟩, 13) := ⟨⟨by decide +kernel, by decide +kernel⟩, List.mem_of_getElem? (i := 44) (by decide +kernel), List.mem_of_getElem? (i := 548) (by decide +kernel), List.mem_of_getElem? (i := 549) (by decide +kernel)⟩
theorem lw_p14 : lw_okq (⟨"NoonBell$Reader", "takeWord", "(I)V"⟩, 13) := ⟨⟨by decide +kernel, by decide +kernel⟩, List.mem_of_getElem? (i := 44) (by decide +kernel), List.mem_of_getElem? (i := 557) (by decide +kernel), List.mem_of_getElem? (i := 558) (by decide +kernel)⟩
theorem lw_p15 : lw_okq (⟨"NoonBell$Reader", "isWord", "(I)Z"⟩, 13) := ⟨⟨by decide +kernel, by decide +kernel⟩, List.mem_of_getElem? (i := 44) (by decide +kernel), List.mem_of_getElem? (i := 561) (by decide +kernel), List.mem_of_getElem? (i := 562) (by decide +kernel)⟩
def lw_privs_1 : List (MethodName × Nat) := [(⟨"NoonBell$Reader", "addWords", "(Ljava/lang/String;)V"⟩, 13), (⟨"NoonBell", "refuse", "(I)I"⟩, 14), (⟨"NoonBell", "feedNumber", "(I)V"⟩, 14), (⟨"NoonBell$Reader", "scan", "(LNoonBell$Row;I)I"⟩, 13), (⟨"NoonBell$Reader", "scanWord", "(LNoonBell$Row;I)I"⟩, 13), (⟨"NoonBell$Reader", "put", "(IIII)V"⟩, 13), (⟨"NoonBell$Reader", "scanNumber", "(LNoonBell$Row;I)I"⟩, 13), (⟨"NoonBell$Reader", "fine", "()Z"⟩, 13), (⟨"NoonBell$Reader", "word", "()I"⟩, 13), (⟨"NoonBell$Reader", "here", "()I"⟩, 13), (⟨"NoonBell$Reader", "fail", "(II)V"⟩, 13), (⟨"NoonBell$Reader", "readGiven", "(LNoonBell$City;I)V"⟩, 13), (⟨"NoonBell$Reader", "take", "()V"⟩, 13), (⟨"NoonBell$Reader", "takeName", "()I"⟩, 13), (⟨"NoonBell$Reader", "takeWord", "(I)V"⟩, 13), (⟨"NoonBell$Reader", "isWord", "(I)Z"⟩, 13)]
theorem lw_r1 : ∀ q ∈ lw_privs_1, lw_okq q := List.forall_mem_cons.mpr ⟨lw_p0, List.forall_mem_cons.mpr ⟨lw_p1, List.forall_mem_cons.mpr ⟨lw_p2, List.forall_mem_cons.mpr ⟨lw_p3, List.forall_mem_cons.mpr ⟨lw_p4, List.forall_mem_cons.mpr ⟨lw_p5, List.forall_mem_cons.mpr ⟨lw_p6, List.forall_mem_cons.mpr ⟨lw_p7, List.forall_mem_cons.mpr ⟨lw_p8, List.forall_mem_cons.mpr ⟨lw_p9, List.forall_mem_cons.mpr ⟨lw_p10, List.forall_mem_cons.mpr ⟨lw_p11, List.forall_mem_cons.mpr ⟨lw_p12, List.forall_mem_cons.mpr ⟨lw_p13, List.forall_mem_cons.mpr ⟨lw_p14, List.forall_mem_cons.mpr ⟨lw_p15, fun _ h => absurd h List.not_mem_nil⟩⟩⟩⟩⟩⟩⟩⟩⟩⟩⟩⟩⟩⟩⟩⟩
theorem lw_p16 : lw_okq (⟨"NoonBell$Reader", "takeNumber", "(I)I"⟩, 13) := ⟨⟨by decide +kernel, by decide +kernel⟩, List.mem_of_getElem? (i := 44) (by decide +kernel), List.mem_of_getElem? (i := 565) (by decide +kernel), List.mem_of_getElem? (i := 566) (by decide +kernel)⟩
theorem lw_p17 : lw_okq (⟨"NoonBell$Reader", "readDuty", "(LNoonBell$City;)V"⟩, 13) := ⟨⟨by decide +kernel, by decide +kernel⟩, List.mem_of_getElem? (i := 44) (by decide +kernel), List.mem_of_getElem? (i := 580) (by decide +kernel), List.mem_of_getElem? (i := 581) (by decide +kernel)⟩
theorem lw_p18 : lw_okq (⟨"NoonBell$Reader", "takeKnown", "(LNoonBell$Row;)I"⟩, 13) := ⟨⟨by decide +kernel, by decide +kernel⟩, List.mem_of_getElem? (i := 44) (by decide +kernel), List.mem_of_getElem? (i := 584) (by decide +kernel), List.mem_of_getElem? (i := 585) (by decide +kernel)⟩
theorem lw_p19 : lw_okq (⟨"NoonBell$Reader", "readCover", "(LNoonBell$City;)V"⟩, 13) := ⟨⟨by decide +kernel, by decide +kernel⟩, List.mem_of_getElem? (i := 44) (by decide +kernel), List.mem_of_getElem? (i := 602) (by decide +kernel), List.mem_of_getElem? (i := 603) (by decide +kernel)⟩
theorem lw_p20 : lw_okq (⟨"NoonBell$Reader", "readKnowing", "(LNoonBell$City;)V"⟩, 13) := ⟨⟨by decide +kernel, by decide +kernel⟩, List.mem_of_getElem? (i := 44) (by decide +kernel), List.mem_of_getElem? (i := 607) (by decide +kernel), List.mem_of_getElem? (i := 608) (by decide +kernel)⟩
theorem lw_p21 : lw_okq (⟨"NoonBell$Reader", "readRule", "(LNoonBell$City;I)V"⟩, 13) := ⟨⟨by decide +kernel, by decide +kernel⟩, List.mem_of_getElem? (i := 44) (by decide +kernel), List.mem_of_getElem? (i := 611) (by decide +kernel), List.mem_of_getElem? (i := 612) (by decide +kernel)⟩
theorem lw_p22 : lw_okq (⟨"NoonBell$Reader", "readSum", "(I)V"⟩, 13) := ⟨⟨by decide +kernel, by decide +kernel⟩, List.mem_of_getElem? (i := 44) (by decide +kernel), List.mem_of_getElem? (i := 616) (by decide +kernel), List.mem_of_getElem? (i := 617) (by decide +kernel)⟩
theorem lw_p23 : lw_okq (⟨"NoonBell$Reader", "readProduct", "(I)V"⟩, 13) := ⟨⟨by decide +kernel, by decide +kernel⟩, List.mem_of_getElem? (i := 44) (by decide +kernel), List.mem_of_getElem? (i := 620) (by decide +kernel), List.mem_of_getElem? (i := 621) (by decide +kernel)⟩
theorem lw_p24 : lw_okq (⟨"NoonBell$Reader", "readPart", "(I)V"⟩, 13) := ⟨⟨by decide +kernel, by decide +kernel⟩, List.mem_of_getElem? (i := 44) (by decide +kernel), List.mem_of_getElem? (i := 624) (by decide +kernel), List.mem_of_getElem? (i := 625) (by decide +kernel)⟩
theorem lw_p25 : lw_okq (⟨"NoonBell$Reader", "isSign", "(I)Z"⟩, 13) := ⟨⟨by decide +kernel, by decide +kernel⟩, List.mem_of_getElem? (i := 44) (by decide +kernel), List.mem_of_getElem? (i := 633) (by decide +kernel), List.mem_of_getElem? (i := 634) (by decide +kernel)⟩
theorem lw_p26 : lw_okq (⟨"NoonBell$Reader", "takeOpening", "(I)V"⟩, 13) := ⟨⟨by decide +kernel, by decide +kernel⟩, List.mem_of_getElem? (i := 44) (by decide +kernel), List.mem_of_getElem? (i := 637) (by decide +kernel), List.mem_of_getElem? (i := 638) (by decide +kernel)⟩
theorem lw_p27 : lw_okq (⟨"NoonBell$Reader", "takeSign", "(I)V"⟩, 13) := ⟨⟨by decide +kernel, by decide +kernel⟩, List.mem_of_getElem? (i := 44) (by decide +kernel), List.mem_of_getElem? (i := 641) (by decide +kernel), List.mem_of_getElem? (i := 642) (by decide +kernel)⟩
theorem lw_p28 : lw_okq (⟨"NoonBell$Reader", "readPair", "(II)V"⟩, 13) := ⟨⟨by decide +kernel, by decide +kernel⟩, List.mem_of_getElem? (i := 44) (by decide +kernel), List.mem_of_getElem? (i := 645) (by decide +kernel), List.mem_of_getElem? (i := 646) (by decide +kernel)⟩
theorem lw_p29 : lw_okq (⟨"NoonBell$Reader", "readTest", "(I)V"⟩, 13) := ⟨⟨by decide +kernel, by decide +kernel⟩, List.mem_of_getElem? (i := 44) (by decide +kernel), List.mem_of_getElem? (i := 652) (by decide +kernel), List.mem_of_getElem? (i := 653) (by decide +kernel)⟩
theorem lw_p30 : lw_okq (⟨"NoonBell$Reader", "readBoth", "(I)V"⟩, 13) := ⟨⟨by decide +kernel, by decide +kernel⟩, List.mem_of_getElem? (i := 44) (by decide +kernel), List.mem_of_getElem? (i := 656) (by decide +kernel), List.mem_of_getElem? (i := 657) (by decide +kernel)⟩
theorem lw_p31 : lw_okq (⟨"NoonBell$Reader", "readFact", "(I)V"⟩, 13) := ⟨⟨by decide +kernel, by decide +kernel⟩, List.mem_of_getElem? (i := 44) (by decide +kernel), List.mem_of_getElem? (i := 660) (by decide +kernel), List.mem_of_getElem? (i := 661) (by decide +kernel)⟩
def lw_privs_2 : List (MethodName × Nat) := [(⟨"NoonBell$Reader", "takeNumber", "(I)I"⟩, 13), (⟨"NoonBell$Reader", "readDuty", "(LNoonBell$City;)V"⟩, 13), (⟨"NoonBell$Reader", "takeKnown", "(LNoonBell$Row;)I"⟩, 13), (⟨"NoonBell$Reader", "readCover", "(LNoonBell$City;)V"⟩, 13), (⟨"NoonBell$Reader", "readKnowing", "(LNoonBell$City;)V"⟩, 13), (⟨"NoonBell$Reader", "readRule", "(LNoonBell$City;I)V"⟩, 13), (⟨"NoonBell$Reader", "readSum", "(I)V"⟩, 13), (⟨"NoonBell$Reader", "readProduct", "(I)V"⟩, 13), (⟨"NoonBell$Reader", "readPart", "(I)V"⟩, 13), (⟨"NoonBell$Reader", "isSign", "(I)Z"⟩, 13), (⟨"NoonBell$Reader", "takeOpening", "(I)V"⟩, 13), (⟨"NoonBell$Reader", "takeSign", "(I)V"⟩, 13), (⟨"NoonBell$Reader", "readPair", "(II)V"⟩, 13), (⟨"NoonBell$Reader", "readTest", "(I)V"⟩, 13), (⟨"NoonBell$Reader", "readBoth", "(I)V"⟩, 13), (⟨"NoonBell$Reader", "readFact", "(I)V"⟩, 13)]
theorem lw_r2 : ∀ q ∈ lw_privs_2, lw_okq q := List.forall_mem_cons.mpr ⟨lw_p16, List.forall_mem_cons.mpr ⟨lw_p17, List.forall_mem_cons.mpr ⟨lw_p18, List.forall_mem_cons.mpr ⟨lw_p19, List.forall_mem_cons.mpr ⟨lw_p20, List.forall_mem_cons.mpr ⟨lw_p21, List.forall_mem_cons.mpr ⟨lw_p22, List.forall_mem_cons.mpr ⟨lw_p23, List.forall_mem_cons.mpr ⟨lw_p24, List.forall_mem_cons.mpr ⟨lw_p25, List.forall_mem_cons.mpr ⟨lw_p26, List.forall_mem_cons.mpr ⟨lw_p27, List.forall_mem_cons.mpr ⟨lw_p28, List.forall_mem_cons.mpr ⟨lw_p29, List.forall_mem_cons.mpr ⟨lw_p30, List.forall_mem_cons.mpr ⟨lw_p31, fun _ h => absurd h List.not_mem_nil⟩⟩⟩⟩⟩⟩⟩⟩⟩⟩⟩⟩⟩⟩⟩⟩
theorem lw_p32 : lw_okq (⟨"NoonBell$Reader", "comparison", "()I"⟩, 13) := ⟨⟨by decide +kernel, by decide +kernel⟩, List.mem_of_getElem? (i := 44) (by decide +kernel), List.mem_of_getElem? (i := 664) (by decide +kernel), List.mem_of_getElem? (i := 665) (by decide +kernel)⟩
theorem lw_p33 : lw_okq (⟨"NoonBell", "countAway", "()I"⟩, 14) := ⟨⟨by decide +kernel, by decide +kernel⟩, List.mem_of_getElem? (i := 19) (by decide +kernel), List.mem_of_getElem? (i := 680) (by decide +kernel), List.mem_of_getElem? (i := 681) (by decide +kernel)⟩
theorem lw_p34 : lw_okq (⟨"NoonBell", "countElsewhere", "()I"⟩, 14) := ⟨⟨by decide +kernel, by decide +kernel⟩, List.mem_of_getElem? (i := 19) (by decide +kernel), List.mem_of_getElem? (i := 688) (by decide +kernel), List.mem_of_getElem? (i := 689) (by decide +kernel)⟩
theorem lw_p35 : lw_okq (⟨"NoonBell", "isPerson", "(I)Z"⟩, 14) := ⟨⟨by decide +kernel, by decide +kernel⟩, List.mem_of_getElem? (i := 19) (by decide +kernel), List.mem_of_getElem? (i := 709) (by decide +kernel), List.mem_of_getElem? (i := 710) (by decide +kernel)⟩
theorem lw_p36 : lw_okq (⟨"NoonBell", "isTask", "(I)Z"⟩, 14) := ⟨⟨by decide +kernel, by decide +kernel⟩, List.mem_of_getElem? (i := 19) (by decide +kernel), List.mem_of_getElem? (i := 727) (by decide +kernel), List.mem_of_getElem? (i := 728) (by decide +kernel)⟩
theorem lw_p37 : lw_okq (⟨"NoonBell", "isClock", "(I)Z"⟩, 14) := ⟨⟨by decide +kernel, by decide +kernel⟩, List.mem_of_getElem? (i := 19) (by decide +kernel), List.mem_of_getElem? (i := 731) (by decide +kernel), List.mem_of_getElem? (i := 732) (by decide +kernel)⟩
theorem lw_p38 : lw_okq (⟨"NoonBell$Course", "setTime", "(II)V"⟩, 6) := ⟨⟨by decide +kernel, by decide +kernel⟩, List.mem_of_getElem? (i := 181) (by decide +kernel), List.mem_of_getElem? (i := 739) (by decide +kernel), List.mem_of_getElem? (i := 740) (by decide +kernel)⟩
theorem lw_p39 : lw_okq (⟨"NoonBell$Course", "able", "(LNoonBell$City;IIII)Z"⟩, 6) := ⟨⟨by decide +kernel, by decide +kernel⟩, List.mem_of_getElem? (i := 181) (by decide +kernel), List.mem_of_getElem? (i := 745) (by decide +kernel), List.mem_of_getElem? (i := 746) (by decide +kernel)⟩
theorem lw_p40 : lw_okq (⟨"NoonBell", "isHere", "(I)Z"⟩, 14) := ⟨⟨by decide +kernel, by decide +kernel⟩, List.mem_of_getElem? (i := 19) (by decide +kernel), List.mem_of_getElem? (i := 788) (by decide +kernel), List.mem_of_getElem? (i := 789) (by decide +kernel)⟩
theorem lw_p41 : lw_okq (⟨"NoonBell", "bring", "(LNoonBell$Moment;I)V"⟩, 14) := ⟨⟨by decide +kernel, by decide +kernel⟩, List.mem_of_getElem? (i := 19) (by decide +kernel), List.mem_of_getElem? (i := 811) (by decide +kernel), List.mem_of_getElem? (i := 812) (by decide +kernel)⟩
theorem lw_p42 : lw_okq (⟨"NoonBell$Course", "passNight", "(LNoonBell$City;LNoonBell$Moment;)V"⟩, 6) := ⟨⟨by decide +kernel, by decide +kernel⟩, List.mem_of_getElem? (i := 181) (by decide +kernel), List.mem_of_getElem? (i := 819) (by decide +kernel), List.mem_of_getElem? (i := 820) (by decide +kernel)⟩
theorem lw_p43 : lw_okq (⟨"NoonBell$Course", "setKnower", "(LNoonBell$City;III)V"⟩, 6) := ⟨⟨by decide +kernel, by decide +kernel⟩, List.mem_of_getElem? (i := 181) (by decide +kernel), List.mem_of_getElem? (i := 825) (by decide +kernel), List.mem_of_getElem? (i := 826) (by decide +kernel)⟩
theorem lw_p44 : lw_okq (⟨"NoonBell$Course", "meetDuty", "(LNoonBell$City;LNoonBell$Moment;II)V"⟩, 6) := ⟨⟨by decide +kernel, by decide +kernel⟩, List.mem_of_getElem? (i := 181) (by decide +kernel), List.mem_of_getElem? (i := 838) (by decide +kernel), List.mem_of_getElem? (i := 839) (by decide +kernel)⟩
theorem lw_p45 : lw_okq (⟨"NoonBell$Course", "fail", "(LNoonBell$Moment;III)V"⟩, 6) := ⟨⟨by decide +kernel, by decide +kernel⟩, List.mem_of_getElem? (i := 181) (by decide +kernel), List.mem_of_getElem? (i := 843) (by decide +kernel), List.mem_of_getElem? (i := 844) (by decide +kernel)⟩
theorem lw_p46 : lw_okq (⟨"NoonBell$Course", "noticeAll", "(LNoonBell$City;LNoonBell$Moment;II)V"⟩, 6) := ⟨⟨by decide +kernel, by decide +kernel⟩, List.mem_of_getElem? (i := 181) (by decide +kernel), List.mem_of_getElem? (i := 851) (by decide +kernel), List.mem_of_getElem? (i := 852) (by decide +kernel)⟩
theorem lw_p47 : lw_okq (⟨"NoonBell$Course", "watchAll", "(LNoonBell$City;LNoonBell$Moment;I)V"⟩, 6) := ⟨⟨by decide +kernel, by decide +kernel⟩, List.mem_of_getElem? (i := 181) (by decide +kernel), List.mem_of_getElem? (i := 855) (by decide +kernel), List.mem_of_getElem? (i := 856) (by decide +kernel)⟩
def lw_privs_3 : List (MethodName × Nat) := [(⟨"NoonBell$Reader", "comparison", "()I"⟩, 13), (⟨"NoonBell", "countAway", "()I"⟩, 14), (⟨"NoonBell", "countElsewhere", "()I"⟩, 14), (⟨"NoonBell", "isPerson", "(I)Z"⟩, 14), (⟨"NoonBell", "isTask", "(I)Z"⟩, 14), (⟨"NoonBell", "isClock", "(I)Z"⟩, 14), (⟨"NoonBell$Course", "setTime", "(II)V"⟩, 6), (⟨"NoonBell$Course", "able", "(LNoonBell$City;IIII)Z"⟩, 6), (⟨"NoonBell", "isHere", "(I)Z"⟩, 14), (⟨"NoonBell", "bring", "(LNoonBell$Moment;I)V"⟩, 14), (⟨"NoonBell$Course", "passNight", "(LNoonBell$City;LNoonBell$Moment;)V"⟩, 6), (⟨"NoonBell$Course", "setKnower", "(LNoonBell$City;III)V"⟩, 6), (⟨"NoonBell$Course", "meetDuty", "(LNoonBell$City;LNoonBell$Moment;II)V"⟩, 6), (⟨"NoonBell$Course", "fail", "(LNoonBell$Moment;III)V"⟩, 6), (⟨"NoonBell$Course", "noticeAll", "(LNoonBell$City;LNoonBell$Moment;II)V"⟩, 6), (⟨"NoonBell$Course", "watchAll", "(LNoonBell$City;LNoonBell$Moment;I)V"⟩, 6)]
theorem lw_r3 : ∀ q ∈ lw_privs_3, lw_okq q := List.forall_mem_cons.mpr ⟨lw_p32, List.forall_mem_cons.mpr ⟨lw_p33, List.forall_mem_cons.mpr ⟨lw_p34, List.forall_mem_cons.mpr ⟨lw_p35, List.forall_mem_cons.mpr ⟨lw_p36, List.forall_mem_cons.mpr ⟨lw_p37, List.forall_mem_cons.mpr ⟨lw_p38, List.forall_mem_cons.mpr ⟨lw_p39, List.forall_mem_cons.mpr ⟨lw_p40, List.forall_mem_cons.mpr ⟨lw_p41, List.forall_mem_cons.mpr ⟨lw_p42, List.forall_mem_cons.mpr ⟨lw_p43, List.forall_mem_cons.mpr ⟨lw_p44, List.forall_mem_cons.mpr ⟨lw_p45, List.forall_mem_cons.mpr ⟨lw_p46, List.forall_mem_cons.mpr ⟨lw_p47, fun _ h => absurd h List.not_mem_nil⟩⟩⟩⟩⟩⟩⟩⟩⟩⟩⟩⟩⟩⟩⟩⟩
theorem lw_p48 : lw_okq (⟨"NoonBell$Change", "cheapest", "(II)I"⟩, 4) := ⟨⟨by decide +kernel, by decide +kernel⟩, List.mem_of_getElem? (i := 214) (by decide +kernel), List.mem_of_getElem? (i := 912) (by decide +kernel), List.mem_of_getElem? (i := 913) (by decide +kernel)⟩
theorem lw_p49 : lw_okq (⟨"NoonBell$Change", "costBy", "(III)I"⟩, 4) := ⟨⟨by decide +kernel, by decide +kernel⟩, List.mem_of_getElem? (i := 214) (by decide +kernel), List.mem_of_getElem? (i := 916) (by decide +kernel), List.mem_of_getElem? (i := 917) (by decide +kernel)⟩
theorem lw_p50 : lw_okq (⟨"NoonBell$Past", "slot", "(I)LNoonBell$Moment;"⟩, 3) := ⟨⟨by decide +kernel, by decide +kernel⟩, List.mem_of_getElem? (i := 235) (by decide +kernel), List.mem_of_getElem? (i := 947) (by decide +kernel), List.mem_of_getElem? (i := 948) (by decide +kernel)⟩
theorem lw_p51 : lw_okq (⟨"NoonBell", "hoursTillNoon", "()I"⟩, 14) := ⟨⟨by decide +kernel, by decide +kernel⟩, List.mem_of_getElem? (i := 19) (by decide +kernel), List.mem_of_getElem? (i := 970) (by decide +kernel), List.mem_of_getElem? (i := 971) (by decide +kernel)⟩
theorem lw_p52 : lw_okq (⟨"NoonBell", "ringBell", "()V"⟩, 14) := ⟨⟨by decide +kernel, by decide +kernel⟩, List.mem_of_getElem? (i := 19) (by decide +kernel), List.mem_of_getElem? (i := 977) (by decide +kernel), List.mem_of_getElem? (i := 978) (by decide +kernel)⟩
theorem lw_p53 : lw_okq (⟨"NoonBell", "areSlips", "()Z"⟩, 14) := ⟨⟨by decide +kernel, by decide +kernel⟩, List.mem_of_getElem? (i := 19) (by decide +kernel), List.mem_of_getElem? (i := 1002) (by decide +kernel), List.mem_of_getElem? (i := 1003) (by decide +kernel)⟩
theorem lw_p54 : lw_okq (⟨"NoonBell", "fitsSlips", "(I)Z"⟩, 14) := ⟨⟨by decide +kernel, by decide +kernel⟩, List.mem_of_getElem? (i := 19) (by decide +kernel), List.mem_of_getElem? (i := 1011) (by decide +kernel), List.mem_of_getElem? (i := 1012) (by decide +kernel)⟩
theorem lw_p55 : lw_okq (⟨"NoonBell", "answer", "(I)J"⟩, 14) := ⟨⟨by decide +kernel, by decide +kernel⟩, List.mem_of_getElem? (i := 19) (by decide +kernel), List.mem_of_getElem? (i := 1025) (by decide +kernel), List.mem_of_getElem? (i := 1026) (by decide +kernel)⟩
theorem lw_p56 : lw_okq (⟨"NoonBell", "isImage", "()Z"⟩, 14) := ⟨⟨by decide +kernel, by decide +kernel⟩, List.mem_of_getElem? (i := 19) (by decide +kernel), List.mem_of_getElem? (i := 1088) (by decide +kernel), List.mem_of_getElem? (i := 1089) (by decide +kernel)⟩
theorem lw_p57 : lw_okq (⟨"NoonBell", "takeImage", "()V"⟩, 14) := ⟨⟨by decide +kernel, by decide +kernel⟩, List.mem_of_getElem? (i := 19) (by decide +kernel), List.mem_of_getElem? (i := 1092) (by decide +kernel), List.mem_of_getElem? (i := 1093) (by decide +kernel)⟩
theorem lw_p58 : lw_okq (⟨"NoonBellModel", "look", "()I"⟩, 109) := ⟨⟨by decide +kernel, by decide +kernel⟩, List.mem_of_getElem? (i := 1100) (by decide +kernel), List.mem_of_getElem? (i := 1448) (by decide +kernel), List.mem_of_getElem? (i := 1449) (by decide +kernel)⟩
theorem lw_p59 : lw_okq (⟨"NoonBellModel", "statementTold", "()V"⟩, 109) := ⟨⟨by decide +kernel, by decide +kernel⟩, List.mem_of_getElem? (i := 1100) (by decide +kernel), List.mem_of_getElem? (i := 1452) (by decide +kernel), List.mem_of_getElem? (i := 1453) (by decide +kernel)⟩
theorem lw_p60 : lw_okq (⟨"NoonBellModel", "fail", "(II)V"⟩, 109) := ⟨⟨by decide +kernel, by decide +kernel⟩, List.mem_of_getElem? (i := 1100) (by decide +kernel), List.mem_of_getElem? (i := 1456) (by decide +kernel), List.mem_of_getElem? (i := 1457) (by decide +kernel)⟩
theorem lw_p61 : lw_okq (⟨"NoonBellModel", "takes", "([C)Z"⟩, 109) := ⟨⟨by decide +kernel, by decide +kernel⟩, List.mem_of_getElem? (i := 1100) (by decide +kernel), List.mem_of_getElem? (i := 1460) (by decide +kernel), List.mem_of_getElem? (i := 1461) (by decide +kernel)⟩
theorem lw_p62 : lw_okq (⟨"NoonBellModel", "isHere", "([C)Z"⟩, 109) := ⟨⟨by decide +kernel, by decide +kernel⟩, List.mem_of_getElem? (i := 1100) (by decide +kernel), List.mem_of_getElem? (i := 1464) (by decide +kernel), List.mem_of_getElem? (i := 1465) (by decide +kernel)⟩
theorem lw_p63 : lw_okq (⟨"NoonBellModel", "personTold", "(I)V"⟩, 109) := ⟨⟨by decide +kernel, by decide +kernel⟩, List.mem_of_getElem? (i := 1100) (by decide +kernel), List.mem_of_getElem? (i := 1471) (by decide +kernel), List.mem_of_getElem? (i := 1472) (by decide +kernel)⟩
def lw_privs_4 : List (MethodName × Nat) := [(⟨"NoonBell$Change", "cheapest", "(II)I"⟩, 4), (⟨"NoonBell$Change", "costBy", "(III)I"⟩, 4), (⟨"NoonBell$Past", "slot", "(I)LNoonBell$Moment;"⟩, 3), (⟨"NoonBell", "hoursTillNoon", "()I"⟩, 14), (⟨"NoonBell", "ringBell", "()V"⟩, 14), (⟨"NoonBell", "areSlips", "()Z"⟩, 14), (⟨"NoonBell", "fitsSlips", "(I)Z"⟩, 14), (⟨"NoonBell", "answer", "(I)J"⟩, 14), (⟨"NoonBell", "isImage", "()Z"⟩, 14), (⟨"NoonBell", "takeImage", "()V"⟩, 14), (⟨"NoonBellModel", "look", "()I"⟩, 109), (⟨"NoonBellModel", "statementTold", "()V"⟩, 109), (⟨"NoonBellModel", "fail", "(II)V"⟩, 109), (⟨"NoonBellModel", "takes", "([C)Z"⟩, 109), (⟨"NoonBellModel", "isHere", "([C)Z"⟩, 109), (⟨"NoonBellModel", "personTold", "(I)V"⟩, 109)]
theorem lw_r4 : ∀ q ∈ lw_privs_4, lw_okq q := List.forall_mem_cons.mpr ⟨lw_p48, List.forall_mem_cons.mpr ⟨lw_p49, List.forall_mem_cons.mpr ⟨lw_p50, List.forall_mem_cons.mpr ⟨lw_p51, List.forall_mem_cons.mpr ⟨lw_p52, List.forall_mem_cons.mpr ⟨lw_p53, List.forall_mem_cons.mpr ⟨lw_p54, List.forall_mem_cons.mpr ⟨lw_p55, List.forall_mem_cons.mpr ⟨lw_p56, List.forall_mem_cons.mpr ⟨lw_p57, List.forall_mem_cons.mpr ⟨lw_p58, List.forall_mem_cons.mpr ⟨lw_p59, List.forall_mem_cons.mpr ⟨lw_p60, List.forall_mem_cons.mpr ⟨lw_p61, List.forall_mem_cons.mpr ⟨lw_p62, List.forall_mem_cons.mpr ⟨lw_p63, fun _ h => absurd h List.not_mem_nil⟩⟩⟩⟩⟩⟩⟩⟩⟩⟩⟩⟩⟩⟩⟩⟩
theorem lw_p64 : lw_okq (⟨"NoonBellModel", "isFull", "(III)Z"⟩, 109) := ⟨⟨by decide +kernel, by decide +kernel⟩, List.mem_of_getElem? (i := 1100) (by decide +kernel), List.mem_of_getElem? (i := 1475) (by decide +kernel), List.mem_of_getElem? (i := 1476) (by decide +kernel)⟩
theorem lw_p65 : lw_okq (⟨"NoonBellModel", "newName", "()J"⟩, 109) := ⟨⟨by decide +kernel, by decide +kernel⟩, List.mem_of_getElem? (i := 1100) (by decide +kernel), List.mem_of_getElem? (i := 1479) (by decide +kernel), List.mem_of_getElem? (i := 1480) (by decide +kernel)⟩
theorem lw_p66 : lw_okq (⟨"NoonBellModel", "name", "()J"⟩, 109) := ⟨⟨by decide +kernel, by decide +kernel⟩, List.mem_of_getElem? (i := 1100) (by decide +kernel), List.mem_of_getElem? (i := 1483) (by decide +kernel), List.mem_of_getElem? (i := 1484) (by decide +kernel)⟩
theorem lw_p67 : lw_okq (⟨"NoonBellModel", "isOwnHere", "()Z"⟩, 109) := ⟨⟨by decide +kernel, by decide +kernel⟩, List.mem_of_getElem? (i := 1100) (by decide +kernel), List.mem_of_getElem? (i := 1487) (by decide +kernel), List.mem_of_getElem? (i := 1488) (by decide +kernel)⟩
theorem lw_p68 : lw_okq (⟨"NoonBellModel", "nameOf", "(IJ)I"⟩, 109) := ⟨⟨by decide +kernel, by decide +kernel⟩, List.mem_of_getElem? (i := 1100) (by decide +kernel), List.mem_of_getElem? (i := 1493) (by decide +kernel), List.mem_of_getElem? (i := 1494) (by decide +kernel)⟩
theorem lw_p69 : lw_okq (⟨"NoonBellModel", "asks", "([C)V"⟩, 109) := ⟨⟨by decide +kernel, by decide +kernel⟩, List.mem_of_getElem? (i := 1100) (by decide +kernel), List.mem_of_getElem? (i := 1497) (by decide +kernel), List.mem_of_getElem? (i := 1498) (by decide +kernel)⟩
theorem lw_p70 : lw_okq (⟨"NoonBellModel", "number", "(II)I"⟩, 109) := ⟨⟨by decide +kernel, by decide +kernel⟩, List.mem_of_getElem? (i := 1100) (by decide +kernel), List.mem_of_getElem? (i := 1501) (by decide +kernel), List.mem_of_getElem? (i := 1502) (by decide +kernel)⟩
theorem lw_p71 : lw_okq (⟨"NoonBellModel", "taskTold", "(I)V"⟩, 109) := ⟨⟨by decide +kernel, by decide +kernel⟩, List.mem_of_getElem? (i := 1100) (by decide +kernel), List.mem_of_getElem? (i := 1511) (by decide +kernel), List.mem_of_getElem? (i := 1512) (by decide +kernel)⟩
theorem lw_p72 : lw_okq (⟨"NoonBellModel", "dutyTold", "(I)V"⟩, 109) := ⟨⟨by decide +kernel, by decide +kernel⟩, List.mem_of_getElem? (i := 1100) (by decide +kernel), List.mem_of_getElem? (i := 1515) (by decide +kernel), List.mem_of_getElem? (i := 1516) (by decide +kernel)⟩
theorem lw_p73 : lw_okq (⟨"NoonBellModel", "oneOf", "(I)I"⟩, 109) := ⟨⟨by decide +kernel, by decide +kernel⟩, List.mem_of_getElem? (i := 1100) (by decide +kernel), List.mem_of_getElem? (i := 1519) (by decide +kernel), List.mem_of_getElem? (i := 1520) (by decide +kernel)⟩
theorem lw_p74 : lw_okq (⟨"NoonBellModel", "coverTold", "()V"⟩, 109) := ⟨⟨by decide +kernel, by decide +kernel⟩, List.mem_of_getElem? (i := 1100) (by decide +kernel), List.mem_of_getElem? (i := 1523) (by decide +kernel), List.mem_of_getElem? (i := 1524) (by decide +kernel)⟩
theorem lw_p75 : lw_okq (⟨"NoonBellModel", "knownTold", "()V"⟩, 109) := ⟨⟨by decide +kernel, by decide +kernel⟩, List.mem_of_getElem? (i := 1100) (by decide +kernel), List.mem_of_getElem? (i := 1527) (by decide +kernel), List.mem_of_getElem? (i := 1528) (by decide +kernel)⟩
theorem lw_p76 : lw_okq (⟨"NoonBellModel", "codesTold", "(II)V"⟩, 109) := ⟨⟨by decide +kernel, by decide +kernel⟩, List.mem_of_getElem? (i := 1100) (by decide +kernel), List.mem_of_getElem? (i := 1531) (by decide +kernel), List.mem_of_getElem? (i := 1532) (by decide +kernel)⟩
theorem lw_p77 : lw_okq (⟨"NoonBellModel", "qSums", "()V"⟩, 109) := ⟨⟨by decide +kernel, by decide +kernel⟩, List.mem_of_getElem? (i := 1100) (by decide +kernel), List.mem_of_getElem? (i := 1535) (by decide +kernel), List.mem_of_getElem? (i := 1536) (by decide +kernel)⟩
theorem lw_p78 : lw_okq (⟨"NoonBellModel", "qPartTold", "()V"⟩, 109) := ⟨⟨by decide +kernel, by decide +kernel⟩, List.mem_of_getElem? (i := 1100) (by decide +kernel), List.mem_of_getElem? (i := 1539) (by decide +kernel), List.mem_of_getElem? (i := 1540) (by decide +kernel)⟩
theorem lw_p79 : lw_okq (⟨"NoonBellModel", "qWordOf", "(II)I"⟩, 109) := ⟨⟨by decide +kernel, by decide +kernel⟩, List.mem_of_getElem? (i := 1100) (by decide +kernel), List.mem_of_getElem? (i := 1543) (by decide +kernel), List.mem_of_getElem? (i := 1544) (by decide +kernel)⟩
def lw_privs_5 : List (MethodName × Nat) := [(⟨"NoonBellModel", "isFull", "(III)Z"⟩, 109), (⟨"NoonBellModel", "newName", "()J"⟩, 109), (⟨"NoonBellModel", "name", "()J"⟩, 109), (⟨"NoonBellModel", "isOwnHere", "()Z"⟩, 109), (⟨"NoonBellModel", "nameOf", "(IJ)I"⟩, 109), (⟨"NoonBellModel", "asks", "([C)V"⟩, 109), (⟨"NoonBellModel", "number", "(II)I"⟩, 109), (⟨"NoonBellModel", "taskTold", "(I)V"⟩, 109), (⟨"NoonBellModel", "dutyTold", "(I)V"⟩, 109), (⟨"NoonBellModel", "oneOf", "(I)I"⟩, 109), (⟨"NoonBellModel", "coverTold", "()V"⟩, 109), (⟨"NoonBellModel", "knownTold", "()V"⟩, 109), (⟨"NoonBellModel", "codesTold", "(II)V"⟩, 109), (⟨"NoonBellModel", "qSums", "()V"⟩, 109), (⟨"NoonBellModel", "qPartTold", "()V"⟩, 109), (⟨"NoonBellModel", "qWordOf", "(II)I"⟩, 109)]
theorem lw_r5 : ∀ q ∈ lw_privs_5, lw_okq q := List.forall_mem_cons.mpr ⟨lw_p64, List.forall_mem_cons.mpr ⟨lw_p65, List.forall_mem_cons.mpr ⟨lw_p66, List.forall_mem_cons.mpr ⟨lw_p67, List.forall_mem_cons.mpr ⟨lw_p68, List.forall_mem_cons.mpr ⟨lw_p69, List.forall_mem_cons.mpr ⟨lw_p70, List.forall_mem_cons.mpr ⟨lw_p71, List.forall_mem_cons.mpr ⟨lw_p72, List.forall_mem_cons.mpr ⟨lw_p73, List.forall_mem_cons.mpr ⟨lw_p74, List.forall_mem_cons.mpr ⟨lw_p75, List.forall_mem_cons.mpr ⟨lw_p76, List.forall_mem_cons.mpr ⟨lw_p77, List.forall_mem_cons.mpr ⟨lw_p78, List.forall_mem_cons.mpr ⟨lw_p79, fun _ h => absurd h List.not_mem_nil⟩⟩⟩⟩⟩⟩⟩⟩⟩⟩⟩⟩⟩⟩⟩⟩
theorem lw_p80 : lw_okq (⟨"NoonBellModel", "qWordHere", "()I"⟩, 109) := ⟨⟨by decide +kernel, by decide +kernel⟩, List.mem_of_getElem? (i := 1100) (by decide +kernel), List.mem_of_getElem? (i := 1547) (by decide +kernel), List.mem_of_getElem? (i := 1548) (by decide +kernel)⟩
theorem lw_p81 : lw_okq (⟨"NoonBellModel", "isAllowed", "(I)Z"⟩, 109) := ⟨⟨by decide +kernel, by decide +kernel⟩, List.mem_of_getElem? (i := 1100) (by decide +kernel), List.mem_of_getElem? (i := 1551) (by decide +kernel), List.mem_of_getElem? (i := 1552) (by decide +kernel)⟩
theorem lw_p82 : lw_okq (⟨"NoonBellModel", "qOpens", "(II)V"⟩, 109) := ⟨⟨by decide +kernel, by decide +kernel⟩, List.mem_of_getElem? (i := 1100) (by decide +kernel), List.mem_of_getElem? (i := 1555) (by decide +kernel), List.mem_of_getElem? (i := 1556) (by decide +kernel)⟩
theorem lw_p83 : lw_okq (⟨"NoonBellModel", "asksSign", "(I)V"⟩, 109) := ⟨⟨by decide +kernel, by decide +kernel⟩, List.mem_of_getElem? (i := 1100) (by decide +kernel), List.mem_of_getElem? (i := 1559) (by decide +kernel), List.mem_of_getElem? (i := 1560) (by decide +kernel)⟩
theorem lw_p84 : lw_okq (⟨"NoonBellModel", "takesSign", "(I)Z"⟩, 109) := ⟨⟨by decide +kernel, by decide +kernel⟩, List.mem_of_getElem? (i := 1100) (by decide +kernel), List.mem_of_getElem? (i := 1563) (by decide +kernel), List.mem_of_getElem? (i := 1564) (by decide +kernel)⟩
theorem lw_p85 : lw_okq (⟨"NoonBellModel", "qAsksWord", "(I)V"⟩, 109) := ⟨⟨by decide +kernel, by decide +kernel⟩, List.mem_of_getElem? (i := 1100) (by decide +kernel), List.mem_of_getElem? (i := 1567) (by decide +kernel), List.mem_of_getElem? (i := 1568) (by decide +kernel)⟩
theorem lw_p86 : lw_okq (⟨"NoonBellModel", "qCode", "(I)V"⟩, 109) := ⟨⟨by decide +kernel, by decide +kernel⟩, List.mem_of_getElem? (i := 1100) (by decide +kernel), List.mem_of_getElem? (i := 1571) (by decide +kernel), List.mem_of_getElem? (i := 1572) (by decide +kernel)⟩
theorem lw_p87 : lw_okq (⟨"NoonBellModel", "qEndsPart", "()V"⟩, 109) := ⟨⟨by decide +kernel, by decide +kernel⟩, List.mem_of_getElem? (i := 1100) (by decide +kernel), List.mem_of_getElem? (i := 1575) (by decide +kernel), List.mem_of_getElem? (i := 1576) (by decide +kernel)⟩
theorem lw_p88 : lw_okq (⟨"NoonBellModel", "qDrops", "()V"⟩, 109) := ⟨⟨by decide +kernel, by decide +kernel⟩, List.mem_of_getElem? (i := 1100) (by decide +kernel), List.mem_of_getElem? (i := 1579) (by decide +kernel), List.mem_of_getElem? (i := 1580) (by decide +kernel)⟩
theorem lw_p89 : lw_okq (⟨"NoonBellModel", "qGoesOn", "()Z"⟩, 109) := ⟨⟨by decide +kernel, by decide +kernel⟩, List.mem_of_getElem? (i := 1100) (by decide +kernel), List.mem_of_getElem? (i := 1583) (by decide +kernel), List.mem_of_getElem? (i := 1584) (by decide +kernel)⟩
theorem lw_p90 : lw_okq (⟨"NoonBellModel", "qBracket", "()I"⟩, 109) := ⟨⟨by decide +kernel, by decide +kernel⟩, List.mem_of_getElem? (i := 1100) (by decide +kernel), List.mem_of_getElem? (i := 1587) (by decide +kernel), List.mem_of_getElem? (i := 1588) (by decide +kernel)⟩
theorem lw_p91 : lw_okq (⟨"NoonBellModel", "qDropsToBracket", "()V"⟩, 109) := ⟨⟨by decide +kernel, by decide +kernel⟩, List.mem_of_getElem? (i := 1100) (by decide +kernel), List.mem_of_getElem? (i := 1594) (by decide +kernel), List.mem_of_getElem? (i := 1595) (by decide +kernel)⟩
theorem lw_p92 : lw_okq (⟨"NoonBellModel", "qIsOn", "(I)Z"⟩, 109) := ⟨⟨by decide +kernel, by decide +kernel⟩, List.mem_of_getElem? (i := 1100) (by decide +kernel), List.mem_of_getElem? (i := 1598) (by decide +kernel), List.mem_of_getElem? (i := 1599) (by decide +kernel)⟩
theorem lw_p93 : lw_okq (⟨"NoonBellModel", "qTest", "()V"⟩, 109) := ⟨⟨by decide +kernel, by decide +kernel⟩, List.mem_of_getElem? (i := 1100) (by decide +kernel), List.mem_of_getElem? (i := 1602) (by decide +kernel), List.mem_of_getElem? (i := 1603) (by decide +kernel)⟩
theorem lw_p94 : lw_okq (⟨"NoonBellModel", "qFact", "()V"⟩, 109) := ⟨⟨by decide +kernel, by decide +kernel⟩, List.mem_of_getElem? (i := 1100) (by decide +kernel), List.mem_of_getElem? (i := 1606) (by decide +kernel), List.mem_of_getElem? (i := 1607) (by decide +kernel)⟩
theorem lw_p95 : lw_okq (⟨"NoonBellModel", "qDropsNots", "()V"⟩, 109) := ⟨⟨by decide +kernel, by decide +kernel⟩, List.mem_of_getElem? (i := 1100) (by decide +kernel), List.mem_of_getElem? (i := 1610) (by decide +kernel), List.mem_of_getElem? (i := 1611) (by decide +kernel)⟩
def lw_privs_6 : List (MethodName × Nat) := [(⟨"NoonBellModel", "qWordHere", "()I"⟩, 109), (⟨"NoonBellModel", "isAllowed", "(I)Z"⟩, 109), (⟨"NoonBellModel", "qOpens", "(II)V"⟩, 109), (⟨"NoonBellModel", "asksSign", "(I)V"⟩, 109), (⟨"NoonBellModel", "takesSign", "(I)Z"⟩, 109), (⟨"NoonBellModel", "qAsksWord", "(I)V"⟩, 109), (⟨"NoonBellModel", "qCode", "(I)V"⟩, 109), (⟨"NoonBellModel", "qEndsPart", "()V"⟩, 109), (⟨"NoonBellModel", "qDrops", "()V"⟩, 109), (⟨"NoonBellModel", "qGoesOn", "()Z"⟩, 109), (⟨"NoonBellModel", "qBracket", "()I"⟩, 109), (⟨"NoonBellModel", "qDropsToBracket", "()V"⟩, 109), (⟨"NoonBellModel", "qIsOn", "(I)Z"⟩, 109), (⟨"NoonBellModel", "qTest", "()V"⟩, 109), (⟨"NoonBellModel", "qFact", "()V"⟩, 109), (⟨"NoonBellModel", "qDropsNots", "()V"⟩, 109)]
theorem lw_r6 : ∀ q ∈ lw_privs_6, lw_okq q := List.forall_mem_cons.mpr ⟨lw_p80, List.forall_mem_cons.mpr ⟨lw_p81, List.forall_mem_cons.mpr ⟨lw_p82, List.forall_mem_cons.mpr ⟨lw_p83, List.forall_mem_cons.mpr ⟨lw_p84, List.forall_mem_cons.mpr ⟨lw_p85, List.forall_mem_cons.mpr ⟨lw_p86, List.forall_mem_cons.mpr ⟨lw_p87, List.forall_mem_cons.mpr ⟨lw_p88, List.forall_mem_cons.mpr ⟨lw_p89, List.forall_mem_cons.mpr ⟨lw_p90, List.forall_mem_cons.mpr ⟨lw_p91, List.forall_mem_cons.mpr ⟨lw_p92, List.forall_mem_cons.mpr ⟨lw_p93, List.forall_mem_cons.mpr ⟨lw_p94, List.forall_mem_cons.mpr ⟨lw_p95, fun _ h => absurd h List.not_mem_nil⟩⟩⟩⟩⟩⟩⟩⟩⟩⟩⟩⟩⟩⟩⟩⟩
theorem lw_p96 : lw_okq (⟨"NoonBellModel", "qGoesOnTest", "()Z"⟩, 109) := ⟨⟨by decide +kernel, by decide +kernel⟩, List.mem_of_getElem? (i := 1100) (by decide +kernel), List.mem_of_getElem? (i := 1614) (by decide +kernel), List.mem_of_getElem? (i := 1615) (by decide +kernel)⟩
theorem lw_p97 : lw_okq (⟨"NoonBellModel", "qHasSquare", "()Z"⟩, 109) := ⟨⟨by decide +kernel, by decide +kernel⟩, List.mem_of_getElem? (i := 1100) (by decide +kernel), List.mem_of_getElem? (i := 1618) (by decide +kernel), List.mem_of_getElem? (i := 1619) (by decide +kernel)⟩
theorem lw_p98 : lw_okq (⟨"NoonBellModel", "stands", "()V"⟩, 109) := ⟨⟨by decide +kernel, by decide +kernel⟩, List.mem_of_getElem? (i := 1100) (by decide +kernel), List.mem_of_getElem? (i := 1622) (by decide +kernel), List.mem_of_getElem? (i := 1623) (by decide +kernel)⟩
theorem lw_p99 : lw_okq (⟨"NoonBellModel", "peopleMany", "()I"⟩, 109) := ⟨⟨by decide +kernel, by decide +kernel⟩, List.mem_of_getElem? (i := 1100) (by decide +kernel), List.mem_of_getElem? (i := 1634) (by decide +kernel), List.mem_of_getElem? (i := 1635) (by decide +kernel)⟩
theorem lw_p100 : lw_okq (⟨"NoonBellModel", "dutyMany", "()I"⟩, 109) := ⟨⟨by decide +kernel, by decide +kernel⟩, List.mem_of_getElem? (i := 1100) (by decide +kernel), List.mem_of_getElem? (i := 1638) (by decide +kernel), List.mem_of_getElem? (i := 1639) (by decide +kernel)⟩
theorem lw_p101 : lw_okq (⟨"NoonBellModel", "countOf", "(I)I"⟩, 109) := ⟨⟨by decide +kernel, by decide +kernel⟩, List.mem_of_getElem? (i := 1100) (by decide +kernel), List.mem_of_getElem? (i := 1642) (by decide +kernel), List.mem_of_getElem? (i := 1643) (by decide +kernel)⟩
theorem lw_p102 : lw_okq (⟨"NoonBellModel", "livesNow", "(I)I"⟩, 109) := ⟨⟨by decide +kernel, by decide +kernel⟩, List.mem_of_getElem? (i := 1100) (by decide +kernel), List.mem_of_getElem? (i := 1646) (by decide +kernel), List.mem_of_getElem? (i := 1647) (by decide +kernel)⟩
theorem lw_p103 : lw_okq (⟨"NoonBellModel", "whoLives", "(I)I"⟩, 109) := ⟨⟨by decide +kernel, by decide +kernel⟩, List.mem_of_getElem? (i := 1100) (by decide +kernel), List.mem_of_getElem? (i := 1650) (by decide +kernel), List.mem_of_getElem? (i := 1651) (by decide +kernel)⟩
theorem lw_p104 : lw_okq (⟨"NoonBellModel", "isPerson", "(I)Z"⟩, 109) := ⟨⟨by decide +kernel, by decide +kernel⟩, List.mem_of_getElem? (i := 1100) (by decide +kernel), List.mem_of_getElem? (i := 1663) (by decide +kernel), List.mem_of_getElem? (i := 1664) (by decide +kernel)⟩
theorem lw_p105 : lw_okq (⟨"NoonBellModel", "wardOf", "(I)I"⟩, 109) := ⟨⟨by decide +kernel, by decide +kernel⟩, List.mem_of_getElem? (i := 1100) (by decide +kernel), List.mem_of_getElem? (i := 1667) (by decide +kernel), List.mem_of_getElem? (i := 1668) (by decide +kernel)⟩
theorem lw_p106 : lw_okq (⟨"NoonBellModel", "watches", "(I)I"⟩, 109) := ⟨⟨by decide +kernel, by decide +kernel⟩, List.mem_of_getElem? (i := 1100) (by decide +kernel), List.mem_of_getElem? (i := 1671) (by decide +kernel), List.mem_of_getElem? (i := 1672) (by decide +kernel)⟩
theorem lw_p107 : lw_okq (⟨"NoonBellModel", "dutiesOf", "(I)I"⟩, 109) := ⟨⟨by decide +kernel, by decide +kernel⟩, List.mem_of_getElem? (i := 1100) (by decide +kernel), List.mem_of_getElem? (i := 1675) (by decide +kernel), List.mem_of_getElem? (i := 1676) (by decide +kernel)⟩
theorem lw_p108 : lw_okq (⟨"NoonBellModel", "dutyOf", "(II)I"⟩, 109) := ⟨⟨by decide +kernel, by decide +kernel⟩, List.mem_of_getElem? (i := 1100) (by decide +kernel), List.mem_of_getElem? (i := 1679) (by decide +kernel), List.mem_of_getElem? (i := 1680) (by decide +kernel)⟩
theorem lw_p109 : lw_okq (⟨"NoonBellModel", "pointsOf", "(II)I"⟩, 109) := ⟨⟨by decide +kernel, by decide +kernel⟩, List.mem_of_getElem? (i := 1100) (by decide +kernel), List.mem_of_getElem? (i := 1687) (by decide +kernel), List.mem_of_getElem? (i := 1688) (by decide +kernel)⟩
theorem lw_p110 : lw_okq (⟨"NoonBellModel", "isTask", "(I)Z"⟩, 109) := ⟨⟨by decide +kernel, by decide +kernel⟩, List.mem_of_getElem? (i := 1100) (by decide +kernel), List.mem_of_getElem? (i := 1695) (by decide +kernel), List.mem_of_getElem? (i := 1696) (by decide +kernel)⟩
theorem lw_p111 : lw_okq (⟨"NoonBellModel", "canDo", "(IIII)Z"⟩, 109) := ⟨⟨by decide +kernel, by decide +kernel⟩, List.mem_of_getElem? (i := 1100) (by decide +kernel), List.mem_of_getElem? (i := 1700) (by decide +kernel), List.mem_of_getElem? (i := 1701) (by decide +kernel)⟩
def lw_privs_7 : List (MethodName × Nat) := [(⟨"NoonBellModel", "qGoesOnTest", "()Z"⟩, 109), (⟨"NoonBellModel", "qHasSquare", "()Z"⟩, 109), (⟨"NoonBellModel", "stands", "()V"⟩, 109), (⟨"NoonBellModel", "peopleMany", "()I"⟩, 109), (⟨"NoonBellModel", "dutyMany", "()I"⟩, 109), (⟨"NoonBellModel", "countOf", "(I)I"⟩, 109), (⟨"NoonBellModel", "livesNow", "(I)I"⟩, 109), (⟨"NoonBellModel", "whoLives", "(I)I"⟩, 109), (⟨"NoonBellModel", "isPerson", "(I)Z"⟩, 109), (⟨"NoonBellModel", "wardOf", "(I)I"⟩, 109), (⟨"NoonBellModel", "watches", "(I)I"⟩, 109), (⟨"NoonBellModel", "dutiesOf", "(I)I"⟩, 109), (⟨"NoonBellModel", "dutyOf", "(II)I"⟩, 109), (⟨"NoonBellModel", "pointsOf", "(II)I"⟩, 109), (⟨"NoonBellModel", "isTask", "(I)Z"⟩, 109), (⟨"NoonBellModel", "canDo", "(IIII)Z"⟩, 109)]
theorem lw_r7 : ∀ q ∈ lw_privs_7, lw_okq q := List.forall_mem_cons.mpr ⟨lw_p96, List.forall_mem_cons.mpr ⟨lw_p97, List.forall_mem_cons.mpr ⟨lw_p98, List.forall_mem_cons.mpr ⟨lw_p99, List.forall_mem_cons.mpr ⟨lw_p100, List.forall_mem_cons.mpr ⟨lw_p101, List.forall_mem_cons.mpr ⟨lw_p102, List.forall_mem_cons.mpr ⟨lw_p103, List.forall_mem_cons.mpr ⟨lw_p104, List.forall_mem_cons.mpr ⟨lw_p105, List.forall_mem_cons.mpr ⟨lw_p106, List.forall_mem_cons.mpr ⟨lw_p107, List.forall_mem_cons.mpr ⟨lw_p108, List.forall_mem_cons.mpr ⟨lw_p109, List.forall_mem_cons.mpr ⟨lw_p110, List.forall_mem_cons.mpr ⟨lw_p111, fun _ h => absurd h List.not_mem_nil⟩⟩⟩⟩⟩⟩⟩⟩⟩⟩⟩⟩⟩⟩⟩⟩
theorem lw_p112 : lw_okq (⟨"NoonBellModel", "canBy", "(IZIII)Z"⟩, 109) := ⟨⟨by decide +kernel, by decide +kernel⟩, List.mem_of_getElem? (i := 1100) (by decide +kernel), List.mem_of_getElem? (i := 1704) (by decide +kernel), List.mem_of_getElem? (i := 1705) (by decide +kernel)⟩
theorem lw_p113 : lw_okq (⟨"NoonBellModel", "hardOf", "(I)I"⟩, 109) := ⟨⟨by decide +kernel, by decide +kernel⟩, List.mem_of_getElem? (i := 1100) (by decide +kernel), List.mem_of_getElem? (i := 1708) (by decide +kernel), List.mem_of_getElem? (i := 1709) (by decide +kernel)⟩
theorem lw_p114 : lw_okq (⟨"NoonBellModel", "codesTell", "(I)J"⟩, 109) := ⟨⟨by decide +kernel, by decide +kernel⟩, List.mem_of_getElem? (i := 1100) (by decide +kernel), List.mem_of_getElem? (i := 1712) (by decide +kernel), List.mem_of_getElem? (i := 1713) (by decide +kernel)⟩
theorem lw_p115 : lw_okq (⟨"NoonBellModel", "qPuts", "(J)V"⟩, 109) := ⟨⟨by decide +kernel, by decide +kernel⟩, List.mem_of_getElem? (i := 1100) (by decide +kernel), List.mem_of_getElem? (i := 1716) (by decide +kernel), List.mem_of_getElem? (i := 1717) (by decide +kernel)⟩
theorem lw_p116 : lw_okq (⟨"NoonBellModel", "qPartOf", "(II)J"⟩, 109) := ⟨⟨by decide +kernel, by decide +kernel⟩, List.mem_of_getElem? (i := 1100) (by decide +kernel), List.mem_of_getElem? (i := 1720) (by decide +kernel), List.mem_of_getElem? (i := 1721) (by decide +kernel)⟩
theorem lw_p117 : lw_okq (⟨"NoonBellModel", "qJoins", "(I)V"⟩, 109) := ⟨⟨by decide +kernel, by decide +kernel⟩, List.mem_of_getElem? (i := 1100) (by decide +kernel), List.mem_of_getElem? (i := 1725) (by decide +kernel), List.mem_of_getElem? (i := 1726) (by decide +kernel)⟩
theorem lw_p118 : lw_okq (⟨"NoonBellModel", "isHere0", "(I)Z"⟩, 109) := ⟨⟨by decide +kernel, by decide +kernel⟩, List.mem_of_getElem? (i := 1100) (by decide +kernel), List.mem_of_getElem? (i := 1746) (by decide +kernel), List.mem_of_getElem? (i := 1747) (by decide +kernel)⟩
theorem lw_p119 : lw_okq (⟨"NoonBellModel", "putsAside", "()V"⟩, 109) := ⟨⟨by decide +kernel, by decide +kernel⟩, List.mem_of_getElem? (i := 1100) (by decide +kernel), List.mem_of_getElem? (i := 1750) (by decide +kernel), List.mem_of_getElem? (i := 1751) (by decide +kernel)⟩
theorem lw_p120 : lw_okq (⟨"NoonBellModel", "isCalled", "(I)V"⟩, 109) := ⟨⟨by decide +kernel, by decide +kernel⟩, List.mem_of_getElem? (i := 1100) (by decide +kernel), List.mem_of_getElem? (i := 1754) (by decide +kernel), List.mem_of_getElem? (i := 1755) (by decide +kernel)⟩
theorem lw_p121 : lw_okq (⟨"NoonBellModel", "liveNow", "(II)V"⟩, 109) := ⟨⟨by decide +kernel, by decide +kernel⟩, List.mem_of_getElem? (i := 1100) (by decide +kernel), List.mem_of_getElem? (i := 1758) (by decide +kernel), List.mem_of_getElem? (i := 1759) (by decide +kernel)⟩
theorem lw_p122 : lw_okq (⟨"NoonBellModel", "takesBack", "()V"⟩, 109) := ⟨⟨by decide +kernel, by decide +kernel⟩, List.mem_of_getElem? (i := 1100) (by decide +kernel), List.mem_of_getElem? (i := 1762) (by decide +kernel), List.mem_of_getElem? (i := 1763) (by decide +kernel)⟩
theorem lw_p123 : lw_okq (⟨"NoonBellModel", "clearsDried", "()V"⟩, 109) := ⟨⟨by decide +kernel, by decide +kernel⟩, List.mem_of_getElem? (i := 1100) (by decide +kernel), List.mem_of_getElem? (i := 1770) (by decide +kernel), List.mem_of_getElem? (i := 1771) (by decide +kernel)⟩
theorem lw_p124 : lw_okq (⟨"NoonBellModel", "hoursCome", "(I)V"⟩, 109) := ⟨⟨by decide +kernel, by decide +kernel⟩, List.mem_of_getElem? (i := 1100) (by decide +kernel), List.mem_of_getElem? (i := 1777) (by decide +kernel), List.mem_of_getElem? (i := 1778) (by decide +kernel)⟩
theorem lw_p125 : lw_okq (⟨"NoonBellModel", "hourComes", "()V"⟩, 109) := ⟨⟨by decide +kernel, by decide +kernel⟩, List.mem_of_getElem? (i := 1100) (by decide +kernel), List.mem_of_getElem? (i := 1781) (by decide +kernel), List.mem_of_getElem? (i := 1782) (by decide +kernel)⟩
theorem lw_p126 : lw_okq (⟨"NoonBellModel", "nightComes", "()V"⟩, 109) := ⟨⟨by decide +kernel, by decide +kernel⟩, List.mem_of_getElem? (i := 1100) (by decide +kernel), List.mem_of_getElem? (i := 1785) (by decide +kernel), List.mem_of_getElem? (i := 1786) (by decide +kernel)⟩
theorem lw_p127 : lw_okq (⟨"NoonBellModel", "made", "(IIIIII)I"⟩, 109) := ⟨⟨by decide +kernel, by decide +kernel⟩, List.mem_of_getElem? (i := 1100) (by decide +kernel), List.mem_of_getElem? (i := 1789) (by decide +kernel), List.mem_of_getElem? (i := 1790) (by decide +kernel)⟩
def lw_privs_8 : List (MethodName × Nat) := [(⟨"NoonBellModel", "canBy", "(IZIII)Z"⟩, 109), (⟨"NoonBellModel", "hardOf", "(I)I"⟩, 109), (⟨"NoonBellModel", "codesTell", "(I)J"⟩, 109), (⟨"NoonBellModel", "qPuts", "(J)V"⟩, 109), (⟨"NoonBellModel", "qPartOf", "(II)J"⟩, 109), (⟨"NoonBellModel", "qJoins", "(I)V"⟩, 109), (⟨"NoonBellModel", "isHere0", "(I)Z"⟩, 109), (⟨"NoonBellModel", "putsAside", "()V"⟩, 109), (⟨"NoonBellModel", "isCalled", "(I)V"⟩, 109), (⟨"NoonBellModel", "liveNow", "(II)V"⟩, 109), (⟨"NoonBellModel", "takesBack", "()V"⟩, 109), (⟨"NoonBellModel", "clearsDried", "()V"⟩, 109), (⟨"NoonBellModel", "hoursCome", "(I)V"⟩, 109), (⟨"NoonBellModel", "hourComes", "()V"⟩, 109), (⟨"NoonBellModel", "nightComes", "()V"⟩, 109), (⟨"NoonBellModel", "made", "(IIIIII)I"⟩, 109)]
theorem lw_r8 : ∀ q ∈ lw_privs_8, lw_okq q := List.forall_mem_cons.mpr ⟨lw_p112, List.forall_mem_cons.mpr ⟨lw_p113, List.forall_mem_cons.mpr ⟨lw_p114, List.forall_mem_cons.mpr ⟨lw_p115, List.forall_mem_cons.mpr ⟨lw_p116, List.forall_mem_cons.mpr ⟨lw_p117, List.forall_mem_cons.mpr ⟨lw_p118, List.forall_mem_cons.mpr ⟨lw_p119, List.forall_mem_cons.mpr ⟨lw_p120, List.forall_mem_cons.mpr ⟨lw_p121, List.forall_mem_cons.mpr ⟨lw_p122, List.forall_mem_cons.mpr ⟨lw_p123, List.forall_mem_cons.mpr ⟨lw_p124, List.forall_mem_cons.mpr ⟨lw_p125, List.forall_mem_cons.mpr ⟨lw_p126, List.forall_mem_cons.mpr ⟨lw_p127, fun _ h => absurd h List.not_mem_nil⟩⟩⟩⟩⟩⟩⟩⟩⟩⟩⟩⟩⟩⟩⟩⟩
theorem lw_p128 : lw_okq (⟨"NoonBellModel", "knowsNow", "(III)V"⟩, 109) := ⟨⟨by decide +kernel, by decide +kernel⟩, List.mem_of_getElem? (i := 1100) (by decide +kernel), List.mem_of_getElem? (i := 1793) (by decide +kernel), List.mem_of_getElem? (i := 1794) (by decide +kernel)⟩
theorem lw_p129 : lw_okq (⟨"NoonBellModel", "dutyComes", "(III)V"⟩, 109) := ⟨⟨by decide +kernel, by decide +kernel⟩, List.mem_of_getElem? (i := 1100) (by decide +kernel), List.mem_of_getElem? (i := 1797) (by decide +kernel), List.mem_of_getElem? (i := 1798) (by decide +kernel)⟩
theorem lw_p130 : lw_okq (⟨"NoonBellModel", "happens", "(III)V"⟩, 109) := ⟨⟨by decide +kernel, by decide +kernel⟩, List.mem_of_getElem? (i := 1100) (by decide +kernel), List.mem_of_getElem? (i := 1801) (by decide +kernel), List.mem_of_getElem? (i := 1802) (by decide +kernel)⟩
theorem lw_p131 : lw_okq (⟨"NoonBellModel", "notices", "(IIIII)Z"⟩, 109) := ⟨⟨by decide +kernel, by decide +kernel⟩, List.mem_of_getElem? (i := 1100) (by decide +kernel), List.mem_of_getElem? (i := 1805) (by decide +kernel), List.mem_of_getElem? (i := 1806) (by decide +kernel)⟩
theorem lw_p132 : lw_okq (⟨"NoonBellModel", "hasDuty", "(II)Z"⟩, 109) := ⟨⟨by decide +kernel, by decide +kernel⟩, List.mem_of_getElem? (i := 1100) (by decide +kernel), List.mem_of_getElem? (i := 1809) (by decide +kernel), List.mem_of_getElem? (i := 1810) (by decide +kernel)⟩
theorem lw_p133 : lw_okq (⟨"NoonBellModel", "doable", "(III)I"⟩, 109) := ⟨⟨by decide +kernel, by decide +kernel⟩, List.mem_of_getElem? (i := 1100) (by decide +kernel), List.mem_of_getElem? (i := 1822) (by decide +kernel), List.mem_of_getElem? (i := 1823) (by decide +kernel)⟩
theorem lw_p134 : lw_okq (⟨"NoonBellModel", "laysChange", "()V"⟩, 109) := ⟨⟨by decide +kernel, by decide +kernel⟩, List.mem_of_getElem? (i := 1100) (by decide +kernel), List.mem_of_getElem? (i := 1834) (by decide +kernel), List.mem_of_getElem? (i := 1835) (by decide +kernel)⟩
theorem lw_p135 : lw_okq (⟨"NoonBellModel", "refuses", "(I)I"⟩, 109) := ⟨⟨by decide +kernel, by decide +kernel⟩, List.mem_of_getElem? (i := 1100) (by decide +kernel), List.mem_of_getElem? (i := 1857) (by decide +kernel), List.mem_of_getElem? (i := 1858) (by decide +kernel)⟩
theorem lw_p136 : lw_okq (⟨"NoonBellModel", "keeps", "()V"⟩, 109) := ⟨⟨by decide +kernel, by decide +kernel⟩, List.mem_of_getElem? (i := 1100) (by decide +kernel), List.mem_of_getElem? (i := 1861) (by decide +kernel), List.mem_of_getElem? (i := 1862) (by decide +kernel)⟩
theorem lw_p137 : lw_okq (⟨"NoonBellModel", "tillNoon", "()I"⟩, 109) := ⟨⟨by decide +kernel, by decide +kernel⟩, List.mem_of_getElem? (i := 1100) (by decide +kernel), List.mem_of_getElem? (i := 1886) (by decide +kernel), List.mem_of_getElem? (i := 1887) (by decide +kernel)⟩
theorem lw_p138 : lw_okq (⟨"NoonBellModel", "bellRings", "()V"⟩, 109) := ⟨⟨by decide +kernel, by decide +kernel⟩, List.mem_of_getElem? (i := 1100) (by decide +kernel), List.mem_of_getElem? (i := 1890) (by decide +kernel), List.mem_of_getElem? (i := 1891) (by decide +kernel)⟩
theorem lw_p139 : lw_okq (⟨"NoonBellModel", "drawOf", "(I)I"⟩, 109) := ⟨⟨by decide +kernel, by decide +kernel⟩, List.mem_of_getElem? (i := 1100) (by decide +kernel), List.mem_of_getElem? (i := 1894) (by decide +kernel), List.mem_of_getElem? (i := 1895) (by decide +kernel)⟩
theorem lw_p140 : lw_okq (⟨"NoonBellModel", "isAsSlips", "(I)Z"⟩, 109) := ⟨⟨by decide +kernel, by decide +kernel⟩, List.mem_of_getElem? (i := 1100) (by decide +kernel), List.mem_of_getElem? (i := 1910) (by decide +kernel), List.mem_of_getElem? (i := 1911) (by decide +kernel)⟩
theorem lw_p141 : lw_okq (⟨"NoonBellModel", "qKind", "()I"⟩, 109) := ⟨⟨by decide +kernel, by decide +kernel⟩, List.mem_of_getElem? (i := 1100) (by decide +kernel), List.mem_of_getElem? (i := 1919) (by decide +kernel), List.mem_of_getElem? (i := 1920) (by decide +kernel)⟩
theorem lw_p142 : lw_okq (⟨"NoonBellModel", "qTold", "(I)J"⟩, 109) := ⟨⟨by decide +kernel, by decide +kernel⟩, List.mem_of_getElem? (i := 1100) (by decide +kernel), List.mem_of_getElem? (i := 1924) (by decide +kernel), List.mem_of_getElem? (i := 1925) (by decide +kernel)⟩
theorem lw_p143 : lw_okq (⟨"NoonBellModel", "qOf", "(IJI)J"⟩, 109) := ⟨⟨by decide +kernel, by decide +kernel⟩, List.mem_of_getElem? (i := 1100) (by decide +kernel), List.mem_of_getElem? (i := 1928) (by decide +kernel), List.mem_of_getElem? (i := 1929) (by decide +kernel)⟩
def lw_privs_9 : List (MethodName × Nat) := [(⟨"NoonBellModel", "knowsNow", "(III)V"⟩, 109), (⟨"NoonBellModel", "dutyComes", "(III)V"⟩, 109), (⟨"NoonBellModel", "happens", "(III)V"⟩, 109), (⟨"NoonBellModel", "notices", "(IIIII)Z"⟩, 109), (⟨"NoonBellModel", "hasDuty", "(II)Z"⟩, 109), (⟨"NoonBellModel", "doable", "(III)I"⟩, 109), (⟨"NoonBellModel", "laysChange", "()V"⟩, 109), (⟨"NoonBellModel", "refuses", "(I)I"⟩, 109), (⟨"NoonBellModel", "keeps", "()V"⟩, 109), (⟨"NoonBellModel", "tillNoon", "()I"⟩, 109), (⟨"NoonBellModel", "bellRings", "()V"⟩, 109), (⟨"NoonBellModel", "drawOf", "(I)I"⟩, 109), (⟨"NoonBellModel", "isAsSlips", "(I)Z"⟩, 109), (⟨"NoonBellModel", "qKind", "()I"⟩, 109), (⟨"NoonBellModel", "qTold", "(I)J"⟩, 109), (⟨"NoonBellModel", "qOf", "(IJI)J"⟩, 109)]
theorem lw_r9 : ∀ q ∈ lw_privs_9, lw_okq q := List.forall_mem_cons.mpr ⟨lw_p128, List.forall_mem_cons.mpr ⟨lw_p129, List.forall_mem_cons.mpr ⟨lw_p130, List.forall_mem_cons.mpr ⟨lw_p131, List.forall_mem_cons.mpr ⟨lw_p132, List.forall_mem_cons.mpr ⟨lw_p133, List.forall_mem_cons.mpr ⟨lw_p134, List.forall_mem_cons.mpr ⟨lw_p135, List.forall_mem_cons.mpr ⟨lw_p136, List.forall_mem_cons.mpr ⟨lw_p137, List.forall_mem_cons.mpr ⟨lw_p138, List.forall_mem_cons.mpr ⟨lw_p139, List.forall_mem_cons.mpr ⟨lw_p140, List.forall_mem_cons.mpr ⟨lw_p141, List.forall_mem_cons.mpr ⟨lw_p142, List.forall_mem_cons.mpr ⟨lw_p143, fun _ h => absurd h List.not_mem_nil⟩⟩⟩⟩⟩⟩⟩⟩⟩⟩⟩⟩⟩⟩⟩⟩
theorem lw_p144 : lw_okq (⟨"NoonBellModel", "qTakes", "(IJI)V"⟩, 109) := ⟨⟨by decide +kernel, by decide +kernel⟩, List.mem_of_getElem? (i := 1100) (by decide +kernel), List.mem_of_getElem? (i := 1932) (by decide +kernel), List.mem_of_getElem? (i := 1933) (by decide +kernel)⟩
theorem lw_p145 : lw_okq (⟨"NoonBellModel", "writes", "(I)V"⟩, 109) := ⟨⟨by decide +kernel, by decide +kernel⟩, List.mem_of_getElem? (i := 1100) (by decide +kernel), List.mem_of_getElem? (i := 1940) (by decide +kernel), List.mem_of_getElem? (i := 1941) (by decide +kernel)⟩
theorem lw_p146 : lw_okq (⟨"NoonBellModel", "isTold", "(I)Z"⟩, 109) := ⟨⟨by decide +kernel, by decide +kernel⟩, List.mem_of_getElem? (i := 1100) (by decide +kernel), List.mem_of_getElem? (i := 1955) (by decide +kernel), List.mem_of_getElem? (i := 1956) (by decide +kernel)⟩
theorem lw_p147 : lw_okq (⟨"NoonBellModel", "isPersonTold", "(I)Z"⟩, 109) := ⟨⟨by decide +kernel, by decide +kernel⟩, List.mem_of_getElem? (i := 1100) (by decide +kernel), List.mem_of_getElem? (i := 1959) (by decide +kernel), List.mem_of_getElem? (i := 1960) (by decide +kernel)⟩
def lw_privs_10 : List (MethodName × Nat) := [(⟨"NoonBellModel", "qTakes", "(IJI)V"⟩, 109), (⟨"NoonBellModel", "writes", "(I)V"⟩, 109), (⟨"NoonBellModel", "isTold", "(I)Z"⟩, 109), (⟨"NoonBellModel", "isPersonTold", "(I)Z"⟩, 109)]
theorem lw_r10 : ∀ q ∈ lw_privs_10, lw_okq q := List.forall_mem_cons.mpr ⟨lw_p144, List.forall_mem_cons.mpr ⟨lw_p145, List.forall_mem_cons.mpr ⟨lw_p146, List.forall_mem_cons.mpr ⟨lw_p147, fun _ h => absurd h List.not_mem_nil⟩⟩⟩⟩
def lw_privs : List (MethodName × Nat) := lw_privs_1 ++ (lw_privs_2 ++ (lw_privs_3 ++ (lw_privs_4 ++ (lw_privs_5 ++ (lw_privs_6 ++ (lw_privs_7 ++ (lw_privs_8 ++ (lw_privs_9 ++ (lw_privs_10)))))))))
def lw_tbl : List Cond := k2_sels lw_privs ++ tables_1
theorem lw_privs_ok : ∀ q ∈ lw_privs, lw_okq q := by
  show ∀ q ∈ lw_privs_1 ++ (lw_privs_2 ++ (lw_privs_3 ++ (lw_privs_4 ++ (lw_privs_5 ++ (lw_privs_6 ++ (lw_privs_7 ++ (lw_privs_8 ++ (lw_privs_9 ++ (lw_privs_10))))))))), lw_okq q
  exact List.forall_mem_append.mpr ⟨lw_r1, List.forall_mem_append.mpr ⟨lw_r2, List.forall_mem_append.mpr ⟨lw_r3, List.forall_mem_append.mpr ⟨lw_r4, List.forall_mem_append.mpr ⟨lw_r5, List.forall_mem_append.mpr ⟨lw_r6, List.forall_mem_append.mpr ⟨lw_r7, List.forall_mem_append.mpr ⟨lw_r8, List.forall_mem_append.mpr ⟨lw_r9, lw_r10⟩⟩⟩⟩⟩⟩⟩⟩⟩
-- ===== end of PART A =====
def RX0 : String := "NoonBell$Change"
def TX0 : u_T := fun k => match k with
  | 0 => ("NoonBell$Change", "costs", "LNoonBell$Row;", true)
  | 1 => ("NoonBell$Change", "rest", "LNoonBell$Row;", true)
  | 2 => ("NoonBell$Change", "lived", "LNoonBell$Row;", true)
  | _ => ("NoonBell$Change", "people", "I", false)
def tyX0 : Nat → FieldType := fun k => match k with
  | 0 => .object "NoonBell$Row"
  | 1 => .object "NoonBell$Row"
  | 2 => .object "NoonBell$Row"
  | _ => .int
abbrev wsX00 : List Cond := u_ws RX0 TX0 4
theorem nmX0 : ∀ a, a < 4 → ∀ b, b < 4 → a ≠ b → (TX0 a).2.1 ≠ (TX0 b).2.1 := by decide +kernel
theorem tyX0_ok : ∀ k, k < 4 → parseFieldDescriptor (TX0 k).2.2.1 = some (tyX0 k) := by decide +kernel
abbrev cX0_init : ByteArray := prog_2_method_1_code
def yX0_init : MethodName := ⟨RX0, "<init>", "()V"⟩
abbrev cX0_begin : ByteArray := prog_2_method_2_code
def yX0_begin : MethodName := ⟨RX0, "begin", "(I)V"⟩
abbrev cX0_setCost : ByteArray := prog_2_method_3_code
def yX0_setCost : MethodName := ⟨RX0, "setCost", "(III)V"⟩
abbrev cX0_work : ByteArray := prog_2_method_4_code
def yX0_work : MethodName := ⟨RX0, "work", "()V"⟩
abbrev cX0_cost : ByteArray := prog_2_method_5_code
def yX0_cost : MethodName := ⟨RX0, "cost", "()I"⟩
abbrev cX0_whoLives : ByteArray := prog_2_method_6_code
def yX0_whoLives : MethodName := ⟨RX0, "whoLives", "(I)I"⟩
abbrev cX0_cheapest : ByteArray := prog_2_method_7_code
def yX0_cheapest : MethodName := ⟨RX0, "cheapest", "(II)I"⟩
abbrev cX0_costBy : ByteArray := prog_2_method_8_code
def yX0_costBy : MethodName := ⟨RX0, "costBy", "(III)I"⟩
def RX1 : String := "NoonBell$City"
def TX1 : u_T := fun k => match k with
  | 0 => ("NoonBell$City", "people", "LNoonBell$Row;", true)
  | 1 => ("NoonBell$City", "wards", "LNoonBell$Row;", true)
  | 2 => ("NoonBell$City", "covered", "LNoonBell$Row;", true)
  | 3 => ("NoonBell$City", "coverers", "LNoonBell$Row;", true)
  | 4 => ("NoonBell$City", "known", "LNoonBell$Row;", true)
  | 5 => ("NoonBell$City", "tasks", "LNoonBell$Row;", true)
  | 6 => ("NoonBell$City", "hards", "LNoonBell$Row;", true)
  | 7 => ("NoonBell$City", "dutyLives", "LNoonBell$Row;", true)
  | 8 => ("NoonBell$City", "dutyTasks", "LNoonBell$Row;", true)
  | 9 => ("NoonBell$City", "dutyClocks", "LNoonBell$Row;", true)
  | 10 => ("NoonBell$City", "learn", "LNoonBell$Formula;", true)
  | 11 => ("NoonBell$City", "forget", "LNoonBell$Formula;", true)
  | 12 => ("NoonBell$City", "can", "LNoonBell$Formula;", true)
  | 13 => ("NoonBell$City", "notice", "LNoonBell$Formula;", true)
  | _ => ("NoonBell$City", "statements", "I", false)
def tyX1 : Nat → FieldType := fun k => match k with
  | 0 => .object "NoonBell$Row"
  | 1 => .object "NoonBell$Row"
  | 2 => .object "NoonBell$Row"
  | 3 => .object "NoonBell$Row"
  | 4 => .object "NoonBell$Row"
  | 5 => .object "NoonBell$Row"
  | 6 => .object "NoonBell$Row"
  | 7 => .object "NoonBell$Row"
  | 8 => .object "NoonBell$Row"
  | 9 => .object "NoonBell$Row"
  | 10 => .object "NoonBell$Formula"
  | 11 => .object "NoonBell$Formula"
  | 12 => .object "NoonBell$Formula"
  | 13 => .object "NoonBell$Formula"
  | _ => .int
abbrev wsX10 : List Cond := u_ws RX1 TX1 15
theorem nmX1 : ∀ a, a < 15 → ∀ b, b < 15 → a ≠ b → (TX1 a).2.1 ≠ (TX1 b).2.1 := by decide +kernel
theorem tyX1_ok : ∀ k, k < 15 → parseFieldDescriptor (TX1 k).2.2.1 = some (tyX1 k) := by decide +kernel
abbrev cX1_init : ByteArray := prog_3_method_1_code
def yX1_init : MethodName := ⟨RX1, "<init>", "()V"⟩
abbrev cX1_clear : ByteArray := prog_3_method_2_code
def yX1_clear : MethodName := ⟨RX1, "clear", "()V"⟩
abbrev cX1_hasName : ByteArray := prog_3_method_3_code
def yX1_hasName : MethodName := ⟨RX1, "hasName", "(I)Z"⟩
abbrev cX1_addPerson : ByteArray := prog_3_method_4_code
def yX1_addPerson : MethodName := ⟨RX1, "addPerson", "(II)V"⟩
abbrev cX1_addTask : ByteArray := prog_3_method_5_code
def yX1_addTask : MethodName := ⟨RX1, "addTask", "(II)V"⟩
abbrev cX1_hasDuty : ByteArray := prog_3_method_6_code
def yX1_hasDuty : MethodName := ⟨RX1, "hasDuty", "(III)Z"⟩
abbrev cX1_addDuty : ByteArray := prog_3_method_7_code
def yX1_addDuty : MethodName := ⟨RX1, "addDuty", "(III)V"⟩
abbrev cX1_sameWard : ByteArray := prog_3_method_8_code
def yX1_sameWard : MethodName := ⟨RX1, "sameWard", "(II)Z"⟩
def RX2 : String := "NoonBell$Course"
def TX2 : u_T := fun k => match k with
  | 0 => ("NoonBell$Course", "facts", "LNoonBell$Row;", true)
  | 1 => ("NoonBell$Course", "moved", "LNoonBell$Row;", true)
  | 2 => ("NoonBell$Course", "left", "I", false)
  | 3 => ("NoonBell$Course", "failures", "LNoonBell$Row;", true)
  | 4 => ("NoonBell$Course", "earliest", "LNoonBell$Row;", true)
  | _ => ("NoonBell$Course", "driedBy", "LNoonBell$Row;", true)
def tyX2 : Nat → FieldType := fun k => match k with
  | 0 => .object "NoonBell$Row"
  | 1 => .object "NoonBell$Row"
  | 2 => .int
  | 3 => .object "NoonBell$Row"
  | 4 => .object "NoonBell$Row"
  | _ => .object "NoonBell$Row"
abbrev wsX20 : List Cond := u_ws RX2 TX2 6
theorem nmX2 : ∀ a, a < 6 → ∀ b, b < 6 → a ≠ b → (TX2 a).2.1 ≠ (TX2 b).2.1 := by decide +kernel
theorem tyX2_ok : ∀ k, k < 6 → parseFieldDescriptor (TX2 k).2.2.1 = some (tyX2 k) := by decide +kernel
abbrev cX2_init : ByteArray := prog_4_method_1_code
def yX2_init : MethodName := ⟨RX2, "<init>", "()V"⟩
abbrev cX2_forgetFailures : ByteArray := prog_4_method_2_code
def yX2_forgetFailures : MethodName := ⟨RX2, "forgetFailures", "()V"⟩
abbrev cX2_sendAway : ByteArray := prog_4_method_3_code
def yX2_sendAway : MethodName := ⟨RX2, "sendAway", "(LNoonBell$City;LNoonBell$Moment;I)V"⟩
abbrev cX2_comes : ByteArray := prog_4_method_4_code
def yX2_comes : MethodName := ⟨RX2, "comes", "(LNoonBell$City;LNoonBell$Moment;)V"⟩
abbrev cX2_passNight : ByteArray := prog_4_method_5_code
def yX2_passNight : MethodName := ⟨RX2, "passNight", "(LNoonBell$City;LNoonBell$Moment;)V"⟩
abbrev cX2_meetDuty : ByteArray := prog_4_method_6_code
def yX2_meetDuty : MethodName := ⟨RX2, "meetDuty", "(LNoonBell$City;LNoonBell$Moment;II)V"⟩
abbrev cX2_fail : ByteArray := prog_4_method_7_code
def yX2_fail : MethodName := ⟨RX2, "fail", "(LNoonBell$Moment;III)V"⟩
abbrev cX2_noticeAll : ByteArray := prog_4_method_8_code
def yX2_noticeAll : MethodName := ⟨RX2, "noticeAll", "(LNoonBell$City;LNoonBell$Moment;II)V"⟩
abbrev cX2_watchAll : ByteArray := prog_4_method_9_code
def yX2_watchAll : MethodName := ⟨RX2, "watchAll", "(LNoonBell$City;LNoonBell$Moment;I)V"⟩
abbrev cX2_learned : ByteArray := prog_4_method_10_code
def yX2_learned : MethodName := ⟨RX2, "learned", "(LNoonBell$City;IIII)I"⟩
abbrev cX2_ableNow : ByteArray := prog_4_method_11_code
def yX2_ableNow : MethodName := ⟨RX2, "ableNow", "(LNoonBell$City;LNoonBell$Moment;IIII)Z"⟩
abbrev cX2_ableInAll : ByteArray := prog_4_method_12_code
def yX2_ableInAll : MethodName := ⟨RX2, "ableInAll", "(LNoonBell$City;IIII)Z"⟩
abbrev cX2_countAble : ByteArray := prog_4_method_13_code
def yX2_countAble : MethodName := ⟨RX2, "countAble", "(LNoonBell$City;LNoonBell$Moment;II)I"⟩
abbrev cX2_able : ByteArray := prog_4_method_14_code
def yX2_able : MethodName := ⟨RX2, "able", "(LNoonBell$City;IIII)Z"⟩
abbrev cX2_setTime : ByteArray := prog_4_method_15_code
def yX2_setTime : MethodName := ⟨RX2, "setTime", "(II)V"⟩
abbrev cX2_setKnower : ByteArray := prog_4_method_16_code
def yX2_setKnower : MethodName := ⟨RX2, "setKnower", "(LNoonBell$City;III)V"⟩
abbrev cX2_setAskFacts : ByteArray := prog_4_method_17_code
def yX2_setAskFacts : MethodName := ⟨RX2, "setAskFacts", "(LNoonBell$City;LNoonBell$Moment;I)V"⟩
def RX3 : String := "NoonBell$Formula"
def TX3 : u_T := fun k => match k with
  | 0 => ("NoonBell$Formula", "steps", "LNoonBell$Row;", true)
  | _ => ("NoonBell$Formula", "stack", "LNoonBell$Row;", true)
def tyX3 : Nat → FieldType := fun k => match k with
  | 0 => .object "NoonBell$Row"
  | _ => .object "NoonBell$Row"
abbrev wsX30 : List Cond := u_ws RX3 TX3 2
theorem nmX3 : ∀ a, a < 2 → ∀ b, b < 2 → a ≠ b → (TX3 a).2.1 ≠ (TX3 b).2.1 := by decide +kernel
theorem tyX3_ok : ∀ k, k < 2 → parseFieldDescriptor (TX3 k).2.2.1 = some (tyX3 k) := by decide +kernel
abbrev cX3_init : ByteArray := prog_5_method_1_code
def yX3_init : MethodName := ⟨RX3, "<init>", "()V"⟩
abbrev cX3_isTold : ByteArray := prog_5_method_2_code
def yX3_isTold : MethodName := ⟨RX3, "isTold", "()Z"⟩
abbrev cX3_clear : ByteArray := prog_5_method_3_code
def yX3_clear : MethodName := ⟨RX3, "clear", "()V"⟩
abbrev cX3_write : ByteArray := prog_5_method_4_code
def yX3_write : MethodName := ⟨RX3, "write", "(II)V"⟩
abbrev cX3_value : ByteArray := prog_5_method_5_code
def yX3_value : MethodName := ⟨RX3, "value", "(LNoonBell$Row;)I"⟩
abbrev cX3_known : ByteArray := prog_5_method_6_code
def yX3_known : MethodName := ⟨RX3, "known", "(LNoonBell$Row;I)I"⟩
abbrev cX3_worked : ByteArray := prog_5_method_7_code
def yX3_worked : MethodName := ⟨RX3, "worked", "(III)I"⟩
abbrev cX3_held : ByteArray := prog_5_method_8_code
def yX3_held : MethodName := ⟨RX3, "held", "(J)I"⟩
def RX4 : String := "NoonBell$Moment"
def TX4 : u_T := fun k => match k with
  | 0 => ("NoonBell$Moment", "hour", "I", false)
  | 1 => ("NoonBell$Moment", "lives", "LNoonBell$Row;", true)
  | 2 => ("NoonBell$Moment", "watched", "LNoonBell$Row;", true)
  | 3 => ("NoonBell$Moment", "points", "LNoonBell$Row;", true)
  | 4 => ("NoonBell$Moment", "kept", "LNoonBell$Row;", true)
  | _ => ("NoonBell$Moment", "keptEver", "I", false)
def tyX4 : Nat → FieldType := fun k => match k with
  | 0 => .int
  | 1 => .object "NoonBell$Row"
  | 2 => .object "NoonBell$Row"
  | 3 => .object "NoonBell$Row"
  | 4 => .object "NoonBell$Row"
  | _ => .int
abbrev wsX40 : List Cond := u_ws RX4 TX4 6
theorem nmX4 : ∀ a, a < 6 → ∀ b, b < 6 → a ≠ b → (TX4 a).2.1 ≠ (TX4 b).2.1 := by decide +kernel
theorem tyX4_ok : ∀ k, k < 6 → parseFieldDescriptor (TX4 k).2.2.1 = some (tyX4 k) := by decide +kernel
abbrev cX4_init : ByteArray := prog_6_method_1_code
def yX4_init : MethodName := ⟨RX4, "<init>", "()V"⟩
abbrev cX4_begin : ByteArray := prog_6_method_2_code
def yX4_begin : MethodName := ⟨RX4, "begin", "(LNoonBell$City;)V"⟩
abbrev cX4_goHome : ByteArray := prog_6_method_3_code
def yX4_goHome : MethodName := ⟨RX4, "goHome", "(I)V"⟩
abbrev cX4_copy : ByteArray := prog_6_method_4_code
def yX4_copy : MethodName := ⟨RX4, "copy", "(LNoonBell$Moment;)V"⟩
abbrev cX4_pointsOf : ByteArray := prog_6_method_5_code
def yX4_pointsOf : MethodName := ⟨RX4, "pointsOf", "(II)I"⟩
abbrev cX4_setPoints : ByteArray := prog_6_method_6_code
def yX4_setPoints : MethodName := ⟨RX4, "setPoints", "(III)V"⟩
abbrev cX4_keep : ByteArray := prog_6_method_7_code
def yX4_keep : MethodName := ⟨RX4, "keep", "(III)V"⟩
abbrev cX4_keptCount : ByteArray := prog_6_method_8_code
def yX4_keptCount : MethodName := ⟨RX4, "keptCount", "()I"⟩
abbrev cX4_keptPart : ByteArray := prog_6_method_9_code
def yX4_keptPart : MethodName := ⟨RX4, "keptPart", "(II)I"⟩
def RX5 : String := "NoonBell$Past"
def TX5 : u_T := fun k => match k with
  | 0 => ("NoonBell$Past", "moments", "[LNoonBell$Moment;", true)
  | 1 => ("NoonBell$Past", "size", "I", false)
  | _ => ("NoonBell$Past", "next", "I", false)
def tyX5 : Nat → FieldType := fun k => match k with
  | 0 => .array (.object "NoonBell$Moment")
  | 1 => .int
  | _ => .int
abbrev wsX50 : List Cond := u_ws RX5 TX5 3
theorem nmX5 : ∀ a, a < 3 → ∀ b, b < 3 → a ≠ b → (TX5 a).2.1 ≠ (TX5 b).2.1 := by decide +kernel
theorem tyX5_ok : ∀ k, k < 3 → parseFieldDescriptor (TX5 k).2.2.1 = some (tyX5 k) := by decide +kernel
abbrev cX5_init : ByteArray := prog_7_method_1_code
def yX5_init : MethodName := ⟨RX5, "<init>", "()V"⟩
abbrev cX5_size : ByteArray := prog_7_method_2_code
def yX5_size : MethodName := ⟨RX5, "size", "()I"⟩
abbrev cX5_clear : ByteArray := prog_7_method_3_code
def yX5_clear : MethodName := ⟨RX5, "clear", "()V"⟩
abbrev cX5_remember : ByteArray := prog_7_method_4_code
def yX5_remember : MethodName := ⟨RX5, "remember", "(LNoonBell$Moment;)V"⟩
abbrev cX5_recall : ByteArray := prog_7_method_5_code
def yX5_recall : MethodName := ⟨RX5, "recall", "(LNoonBell$Moment;)Z"⟩
abbrev cX5_slot : ByteArray := prog_7_method_6_code
def yX5_slot : MethodName := ⟨RX5, "slot", "(I)LNoonBell$Moment;"⟩
def RX6 : String := "NoonBell$Reader"
def TX6 : u_T := fun k => match k with
  | 0 => ("NoonBell$Reader", "kinds", "LNoonBell$Row;", true)
  | 1 => ("NoonBell$Reader", "starts", "LNoonBell$Row;", true)
  | 2 => ("NoonBell$Reader", "lengths", "LNoonBell$Row;", true)
  | 3 => ("NoonBell$Reader", "values", "LNoonBell$Row;", true)
  | 4 => ("NoonBell$Reader", "numbers", "LNoonBell$Row;", true)
  | 5 => ("NoonBell$Reader", "words", "LNoonBell$Row;", true)
  | 6 => ("NoonBell$Reader", "at", "I", false)
  | 7 => ("NoonBell$Reader", "out", "LNoonBell$Formula;", false)
  | 8 => ("NoonBell$Reader", "parts", "J", false)
  | 9 => ("NoonBell$Reader", "question", "LNoonBell$Formula;", true)
  | 10 => ("NoonBell$Reader", "asked", "I", false)
  | 11 => ("NoonBell$Reader", "fault", "I", false)
  | _ => ("NoonBell$Reader", "place", "I", false)
def tyX6 : Nat → FieldType := fun k => match k with
  | 0 => .object "NoonBell$Row"
  | 1 => .object "NoonBell$Row"
  | 2 => .object "NoonBell$Row"
  | 3 => .object "NoonBell$Row"
  | 4 => .object "NoonBell$Row"
  | 5 => .object "NoonBell$Row"
  | 6 => .int
  | 7 => .object "NoonBell$Formula"
  | 8 => .long
  | 9 => .object "NoonBell$Formula"
  | 10 => .int
  | 11 => .int
  | _ => .int
abbrev wsX60 : List Cond := u_ws RX6 TX6 13
theorem nmX6 : ∀ a, a < 13 → ∀ b, b < 13 → a ≠ b → (TX6 a).2.1 ≠ (TX6 b).2.1 := by decide +kernel
theorem tyX6_ok : ∀ k, k < 13 → parseFieldDescriptor (TX6 k).2.2.1 = some (tyX6 k) := by decide +kernel
abbrev cX6_init : ByteArray := prog_8_method_1_code
def yX6_init : MethodName := ⟨RX6, "<init>", "()V"⟩
abbrev cX6_addWords : ByteArray := prog_8_method_2_code
def yX6_addWords : MethodName := ⟨RX6, "addWords", "(Ljava/lang/String;)V"⟩
abbrev cX6_start : ByteArray := prog_8_method_3_code
def yX6_start : MethodName := ⟨RX6, "start", "(LNoonBell$Row;)V"⟩
abbrev cX6_put : ByteArray := prog_8_method_4_code
def yX6_put : MethodName := ⟨RX6, "put", "(IIII)V"⟩
abbrev cX6_scan : ByteArray := prog_8_method_5_code
def yX6_scan : MethodName := ⟨RX6, "scan", "(LNoonBell$Row;I)I"⟩
abbrev cX6_scanWord : ByteArray := prog_8_method_6_code
def yX6_scanWord : MethodName := ⟨RX6, "scanWord", "(LNoonBell$Row;I)I"⟩
abbrev cX6_scanNumber : ByteArray := prog_8_method_7_code
def yX6_scanNumber : MethodName := ⟨RX6, "scanNumber", "(LNoonBell$Row;I)I"⟩
abbrev cX6_isLetter : ByteArray := prog_8_method_8_code
def yX6_isLetter : MethodName := ⟨RX6, "isLetter", "(I)Z"⟩
abbrev cX6_isDigit : ByteArray := prog_8_method_9_code
def yX6_isDigit : MethodName := ⟨RX6, "isDigit", "(I)Z"⟩
abbrev cX6_fine : ByteArray := prog_8_method_10_code
def yX6_fine : MethodName := ⟨RX6, "fine", "()Z"⟩
abbrev cX6_fail : ByteArray := prog_8_method_11_code
def yX6_fail : MethodName := ⟨RX6, "fail", "(II)V"⟩
abbrev cX6_here : ByteArray := prog_8_method_12_code
def yX6_here : MethodName := ⟨RX6, "here", "()I"⟩
abbrev cX6_word : ByteArray := prog_8_method_13_code
def yX6_word : MethodName := ⟨RX6, "word", "()I"⟩
abbrev cX6_isSign : ByteArray := prog_8_method_14_code
def yX6_isSign : MethodName := ⟨RX6, "isSign", "(I)Z"⟩
abbrev cX6_isWord : ByteArray := prog_8_method_15_code
def yX6_isWord : MethodName := ⟨RX6, "isWord", "(I)Z"⟩
abbrev cX6_take : ByteArray := prog_8_method_16_code
def yX6_take : MethodName := ⟨RX6, "take", "()V"⟩
abbrev cX6_takeSign : ByteArray := prog_8_method_17_code
def yX6_takeSign : MethodName := ⟨RX6, "takeSign", "(I)V"⟩
abbrev cX6_takeWord : ByteArray := prog_8_method_18_code
def yX6_takeWord : MethodName := ⟨RX6, "takeWord", "(I)V"⟩
abbrev cX6_takeName : ByteArray := prog_8_method_19_code
def yX6_takeName : MethodName := ⟨RX6, "takeName", "()I"⟩
abbrev cX6_takeNumber : ByteArray := prog_8_method_20_code
def yX6_takeNumber : MethodName := ⟨RX6, "takeNumber", "(I)I"⟩
abbrev cX6_takeOpening : ByteArray := prog_8_method_21_code
def yX6_takeOpening : MethodName := ⟨RX6, "takeOpening", "(I)V"⟩
abbrev cX6_readCity : ByteArray := prog_8_method_22_code
def yX6_readCity : MethodName := ⟨RX6, "readCity", "(LNoonBell$City;)V"⟩
abbrev cX6_isTooMany : ByteArray := prog_8_method_23_code
def yX6_isTooMany : MethodName := ⟨RX6, "isTooMany", "(LNoonBell$City;I)Z"⟩
abbrev cX6_readGiven : ByteArray := prog_8_method_24_code
def yX6_readGiven : MethodName := ⟨RX6, "readGiven", "(LNoonBell$City;I)V"⟩
abbrev cX6_takeKnown : ByteArray := prog_8_method_25_code
def yX6_takeKnown : MethodName := ⟨RX6, "takeKnown", "(LNoonBell$Row;)I"⟩
abbrev cX6_readDuty : ByteArray := prog_8_method_26_code
def yX6_readDuty : MethodName := ⟨RX6, "readDuty", "(LNoonBell$City;)V"⟩
abbrev cX6_readCover : ByteArray := prog_8_method_27_code
def yX6_readCover : MethodName := ⟨RX6, "readCover", "(LNoonBell$City;)V"⟩
abbrev cX6_readKnowing : ByteArray := prog_8_method_28_code
def yX6_readKnowing : MethodName := ⟨RX6, "readKnowing", "(LNoonBell$City;)V"⟩
abbrev cX6_readRule : ByteArray := prog_8_method_29_code
def yX6_readRule : MethodName := ⟨RX6, "readRule", "(LNoonBell$City;I)V"⟩
abbrev cX6_readQuestion : ByteArray := prog_8_method_30_code
def yX6_readQuestion : MethodName := ⟨RX6, "readQuestion", "()V"⟩
abbrev cX6_readTest : ByteArray := prog_8_method_31_code
def yX6_readTest : MethodName := ⟨RX6, "readTest", "(I)V"⟩
abbrev cX6_readBoth : ByteArray := prog_8_method_32_code
def yX6_readBoth : MethodName := ⟨RX6, "readBoth", "(I)V"⟩
abbrev cX6_readFact : ByteArray := prog_8_method_33_code
def yX6_readFact : MethodName := ⟨RX6, "readFact", "(I)V"⟩
abbrev cX6_comparison : ByteArray := prog_8_method_34_code
def yX6_comparison : MethodName := ⟨RX6, "comparison", "()I"⟩
abbrev cX6_readSum : ByteArray := prog_8_method_35_code
def yX6_readSum : MethodName := ⟨RX6, "readSum", "(I)V"⟩
abbrev cX6_readProduct : ByteArray := prog_8_method_36_code
def yX6_readProduct : MethodName := ⟨RX6, "readProduct", "(I)V"⟩
abbrev cX6_readPart : ByteArray := prog_8_method_37_code
def yX6_readPart : MethodName := ⟨RX6, "readPart", "(I)V"⟩
abbrev cX6_readPair : ByteArray := prog_8_method_38_code
def yX6_readPair : MethodName := ⟨RX6, "readPair", "(II)V"⟩
def RX7 : String := "NoonBell$Row"
def TX7 : u_T := fun k => match k with
  | 0 => ("NoonBell$Row", "cells", "[I", true)
  | _ => ("NoonBell$Row", "size", "I", false)
def tyX7 : Nat → FieldType := fun k => match k with
  | 0 => .array .int
  | _ => .int
abbrev wsX70 : List Cond := u_ws RX7 TX7 2
theorem nmX7 : ∀ a, a < 2 → ∀ b, b < 2 → a ≠ b → (TX7 a).2.1 ≠ (TX7 b).2.1 := by decide +kernel
theorem tyX7_ok : ∀ k, k < 2 → parseFieldDescriptor (TX7 k).2.2.1 = some (tyX7 k) := by decide +kernel
abbrev cX7_init : ByteArray := prog_9_method_1_code
def yX7_init : MethodName := ⟨RX7, "<init>", "(I)V"⟩
abbrev cX7_size : ByteArray := prog_9_method_2_code
def yX7_size : MethodName := ⟨RX7, "size", "()I"⟩
abbrev cX7_get : ByteArray := prog_9_method_3_code
def yX7_get : MethodName := ⟨RX7, "get", "(I)I"⟩
abbrev cX7_put : ByteArray := prog_9_method_4_code
def yX7_put : MethodName := ⟨RX7, "put", "(II)V"⟩
abbrev cX7_add : ByteArray := prog_9_method_5_code
def yX7_add : MethodName := ⟨RX7, "add", "(I)V"⟩
abbrev cX7_insert : ByteArray := prog_9_method_6_code
def yX7_insert : MethodName := ⟨RX7, "insert", "(II)V"⟩
abbrev cX7_cut : ByteArray := prog_9_method_7_code
def yX7_cut : MethodName := ⟨RX7, "cut", "(I)V"⟩
abbrev cX7_fill : ByteArray := prog_9_method_8_code
def yX7_fill : MethodName := ⟨RX7, "fill", "(II)V"⟩
abbrev cX7_copy : ByteArray := prog_9_method_9_code
def yX7_copy : MethodName := ⟨RX7, "copy", "(LNoonBell$Row;)V"⟩
abbrev cX7_find : ByteArray := prog_9_method_10_code
def yX7_find : MethodName := ⟨RX7, "find", "(I)I"⟩
abbrev cX7_count : ByteArray := prog_9_method_11_code
def yX7_count : MethodName := ⟨RX7, "count", "(I)I"⟩
def RX8 : String := "NoonBell$Tally"
def TX8 : u_T := fun k => match k with
  | 0 => ("NoonBell$Tally", "hours", "I", false)
  | 1 => ("NoonBell$Tally", "first", "I", false)
  | 2 => ("NoonBell$Tally", "last", "I", false)
  | 3 => ("NoonBell$Tally", "often", "I", false)
  | 4 => ("NoonBell$Tally", "total", "J", false)
  | 5 => ("NoonBell$Tally", "most", "I", false)
  | _ => ("NoonBell$Tally", "least", "I", false)
def tyX8 : Nat → FieldType := fun k => match k with
  | 0 => .int
  | 1 => .int
  | 2 => .int
  | 3 => .int
  | 4 => .long
  | 5 => .int
  | _ => .int
abbrev wsX80 : List Cond := u_ws RX8 TX8 7
theorem nmX8 : ∀ a, a < 7 → ∀ b, b < 7 → a ≠ b → (TX8 a).2.1 ≠ (TX8 b).2.1 := by decide +kernel
theorem tyX8_ok : ∀ k, k < 7 → parseFieldDescriptor (TX8 k).2.2.1 = some (tyX8 k) := by decide +kernel
abbrev cX8_init : ByteArray := prog_10_method_1_code
def yX8_init : MethodName := ⟨RX8, "<init>", "()V"⟩
abbrev cX8_count : ByteArray := prog_10_method_2_code
def yX8_count : MethodName := ⟨RX8, "count", "(II)V"⟩
abbrev cX8_answer : ByteArray := prog_10_method_3_code
def yX8_answer : MethodName := ⟨RX8, "answer", "(I)J"⟩
def RX9 : String := "NoonBell"
def TX9 : u_T := fun k => match k with
  | 0 => ("NoonBell", "tape", "LNoonBell$Row;", true)
  | 1 => ("NoonBell", "image", "LNoonBell$Row;", true)
  | 2 => ("NoonBell", "refused", "LNoonBell$Row;", true)
  | 3 => ("NoonBell", "slipped", "LNoonBell$Row;", true)
  | 4 => ("NoonBell", "reader", "LNoonBell$Reader;", true)
  | 5 => ("NoonBell", "course", "LNoonBell$Course;", true)
  | 6 => ("NoonBell", "changer", "LNoonBell$Change;", true)
  | 7 => ("NoonBell", "past", "LNoonBell$Past;", true)
  | 8 => ("NoonBell", "now", "LNoonBell$Moment;", true)
  | 9 => ("NoonBell", "scratch", "LNoonBell$Moment;", true)
  | 10 => ("NoonBell", "city", "LNoonBell$City;", false)
  | 11 => ("NoonBell", "spare", "LNoonBell$City;", false)
  | 12 => ("NoonBell", "slipLife", "I", false)
  | _ => ("NoonBell", "seed", "J", false)
def tyX9 : Nat → FieldType := fun k => match k with
  | 0 => .object "NoonBell$Row"
  | 1 => .object "NoonBell$Row"
  | 2 => .object "NoonBell$Row"
  | 3 => .object "NoonBell$Row"
  | 4 => .object "NoonBell$Reader"
  | 5 => .object "NoonBell$Course"
  | 6 => .object "NoonBell$Change"
  | 7 => .object "NoonBell$Past"
  | 8 => .object "NoonBell$Moment"
  | 9 => .object "NoonBell$Moment"
  | 10 => .object "NoonBell$City"
  | 11 => .object "NoonBell$City"
  | 12 => .int
  | _ => .long
abbrev wsX90 : List Cond := u_ws RX9 TX9 14
theorem nmX9 : ∀ a, a < 14 → ∀ b, b < 14 → a ≠ b → (TX9 a).2.1 ≠ (TX9 b).2.1 := by decide +kernel
theorem tyX9_ok : ∀ k, k < 14 → parseFieldDescriptor (TX9 k).2.2.1 = some (tyX9 k) := by decide +kernel
abbrev cX9_init : ByteArray := prog_1_method_1_code
def yX9_init : MethodName := ⟨RX9, "<init>", "()V"⟩
abbrev cX9_feed : ByteArray := prog_1_method_2_code
def yX9_feed : MethodName := ⟨RX9, "feed", "(IIIII)I"⟩
abbrev cX9_end : ByteArray := prog_1_method_3_code
def yX9_end : MethodName := ⟨RX9, "end", "(I)Z"⟩
abbrev cX9_city : ByteArray := prog_1_method_4_code
def yX9_city : MethodName := ⟨RX9, "city", "()I"⟩
abbrev cX9_fault : ByteArray := prog_1_method_5_code
def yX9_fault : MethodName := ⟨RX9, "fault", "(I)I"⟩
abbrev cX9_has : ByteArray := prog_1_method_6_code
def yX9_has : MethodName := ⟨RX9, "has", "(I)I"⟩
abbrev cX9_letter : ByteArray := prog_1_method_7_code
def yX9_letter : MethodName := ⟨RX9, "letter", "(III)I"⟩
abbrev cX9_person : ByteArray := prog_1_method_8_code
def yX9_person : MethodName := ⟨RX9, "person", "(II)I"⟩
abbrev cX9_points : ByteArray := prog_1_method_9_code
def yX9_points : MethodName := ⟨RX9, "points", "(II)I"⟩
abbrev cX9_could : ByteArray := prog_1_method_10_code
def yX9_could : MethodName := ⟨RX9, "could", "(IIII)I"⟩
abbrev cX9_kept : ByteArray := prog_1_method_11_code
def yX9_kept : MethodName := ⟨RX9, "kept", "(II)I"⟩
abbrev cX9_wave : ByteArray := prog_1_method_12_code
def yX9_wave : MethodName := ⟨RX9, "wave", "(II)I"⟩
abbrev cX9_would : ByteArray := prog_1_method_13_code
def yX9_would : MethodName := ⟨RX9, "would", "(II)I"⟩
abbrev cX9_first : ByteArray := prog_1_method_14_code
def yX9_first : MethodName := ⟨RX9, "first", "(I)I"⟩
abbrev cX9_best : ByteArray := prog_1_method_15_code
def yX9_best : MethodName := ⟨RX9, "best", "(II)I"⟩
abbrev cX9_study : ByteArray := prog_1_method_16_code
def yX9_study : MethodName := ⟨RX9, "study", "(II)I"⟩
abbrev cX9_change : ByteArray := prog_1_method_17_code
def yX9_change : MethodName := ⟨RX9, "change", "(I)I"⟩
abbrev cX9_ring : ByteArray := prog_1_method_18_code
def yX9_ring : MethodName := ⟨RX9, "ring", "(I)I"⟩
abbrev cX9_odds : ByteArray := prog_1_method_19_code
def yX9_odds : MethodName := ⟨RX9, "odds", "(III)I"⟩
abbrev cX9_go : ByteArray := prog_1_method_20_code
def yX9_go : MethodName := ⟨RX9, "go", "(I)I"⟩
abbrev cX9_call : ByteArray := prog_1_method_21_code
def yX9_call : MethodName := ⟨RX9, "call", "(I)I"⟩
abbrev cX9_watch : ByteArray := prog_1_method_22_code
def yX9_watch : MethodName := ⟨RX9, "watch", "(II)Z"⟩
abbrev cX9_teach : ByteArray := prog_1_method_23_code
def yX9_teach : MethodName := ⟨RX9, "teach", "(III)I"⟩
abbrev cX9_bells : ByteArray := prog_1_method_24_code
def yX9_bells : MethodName := ⟨RX9, "bells", "(I)I"⟩
abbrev cX9_undo : ByteArray := prog_1_method_25_code
def yX9_undo : MethodName := ⟨RX9, "undo", "()Z"⟩
abbrev cX9_seed : ByteArray := prog_1_method_26_code
def yX9_seed : MethodName := ⟨RX9, "seed", "(I)Z"⟩
abbrev cX9_slips : ByteArray := prog_1_method_27_code
def yX9_slips : MethodName := ⟨RX9, "slips", "(I)I"⟩
abbrev cX9_who : ByteArray := prog_1_method_28_code
def yX9_who : MethodName := ⟨RX9, "who", "()I"⟩
abbrev cX9_ask : ByteArray := prog_1_method_29_code
def yX9_ask : MethodName := ⟨RX9, "ask", "(I)J"⟩
abbrev cX9_image : ByteArray := prog_1_method_30_code
def yX9_image : MethodName := ⟨RX9, "image", "()I"⟩
abbrev cX9_octet : ByteArray := prog_1_method_31_code
def yX9_octet : MethodName := ⟨RX9, "octet", "(I)I"⟩
abbrev cX9_on : ByteArray := prog_1_method_32_code
def yX9_on : MethodName := ⟨RX9, "on", "()Z"⟩
abbrev cX9_status : ByteArray := prog_1_method_33_code
def yX9_status : MethodName := ⟨RX9, "status", "(I)I"⟩
abbrev cX9_refuse : ByteArray := prog_1_method_34_code
def yX9_refuse : MethodName := ⟨RX9, "refuse", "(I)I"⟩
abbrev cX9_isPerson : ByteArray := prog_1_method_35_code
def yX9_isPerson : MethodName := ⟨RX9, "isPerson", "(I)Z"⟩
abbrev cX9_isTask : ByteArray := prog_1_method_36_code
def yX9_isTask : MethodName := ⟨RX9, "isTask", "(I)Z"⟩
abbrev cX9_isClock : ByteArray := prog_1_method_37_code
def yX9_isClock : MethodName := ⟨RX9, "isClock", "(I)Z"⟩
abbrev cX9_isHere : ByteArray := prog_1_method_38_code
def yX9_isHere : MethodName := ⟨RX9, "isHere", "(I)Z"⟩
abbrev cX9_feedNumber : ByteArray := prog_1_method_39_code
def yX9_feedNumber : MethodName := ⟨RX9, "feedNumber", "(I)V"⟩
abbrev cX9_countAway : ByteArray := prog_1_method_40_code
def yX9_countAway : MethodName := ⟨RX9, "countAway", "()I"⟩
abbrev cX9_countElsewhere : ByteArray := prog_1_method_41_code
def yX9_countElsewhere : MethodName := ⟨RX9, "countElsewhere", "()I"⟩
abbrev cX9_bring : ByteArray := prog_1_method_42_code
def yX9_bring : MethodName := ⟨RX9, "bring", "(LNoonBell$Moment;I)V"⟩
abbrev cX9_hoursTillNoon : ByteArray := prog_1_method_43_code
def yX9_hoursTillNoon : MethodName := ⟨RX9, "hoursTillNoon", "()I"⟩
abbrev cX9_ringBell : ByteArray := prog_1_method_44_code
def yX9_ringBell : MethodName := ⟨RX9, "ringBell", "()V"⟩
abbrev cX9_areSlips : ByteArray := prog_1_method_45_code
def yX9_areSlips : MethodName := ⟨RX9, "areSlips", "()Z"⟩
abbrev cX9_fitsSlips : ByteArray := prog_1_method_46_code
def yX9_fitsSlips : MethodName := ⟨RX9, "fitsSlips", "(I)Z"⟩
abbrev cX9_answer : ByteArray := prog_1_method_47_code
def yX9_answer : MethodName := ⟨RX9, "answer", "(I)J"⟩
abbrev cX9_checkOf : ByteArray := prog_1_method_48_code
def yX9_checkOf : MethodName := ⟨RX9, "checkOf", "(LNoonBell$Row;I)I"⟩
abbrev cX9_isImage : ByteArray := prog_1_method_49_code
def yX9_isImage : MethodName := ⟨RX9, "isImage", "()Z"⟩
abbrev cX9_takeImage : ByteArray := prog_1_method_50_code
def yX9_takeImage : MethodName := ⟨RX9, "takeImage", "()V"⟩
def RX10 : String := "NoonBellModel"
def TX10 : u_T := fun k => match k with
  | 0 => ("NoonBellModel", "tape", "[I", true)
  | 1 => ("NoonBellModel", "taped", "I", false)
  | 2 => ("NoonBellModel", "at", "I", false)
  | 3 => ("NoonBellModel", "end", "I", false)
  | 4 => ("NoonBellModel", "ended", "I", false)
  | 5 => ("NoonBellModel", "bad", "I", false)
  | 6 => ("NoonBellModel", "badPlace", "I", false)
  | 7 => ("NoonBellModel", "fault", "I", false)
  | 8 => ("NoonBellModel", "faultPlace", "I", false)
  | 9 => ("NoonBellModel", "refused", "[I", true)
  | 10 => ("NoonBellModel", "numberPlace", "I", false)
  | 11 => ("NoonBellModel", "personWord", "[C", true)
  | 12 => ("NoonBellModel", "wardWord", "[C", true)
  | 13 => ("NoonBellModel", "taskWord", "[C", true)
  | 14 => ("NoonBellModel", "hardWord", "[C", true)
  | 15 => ("NoonBellModel", "doesWord", "[C", true)
  | 16 => ("NoonBellModel", "atWord", "[C", true)
  | 17 => ("NoonBellModel", "coversWord", "[C", true)
  | 18 => ("NoonBellModel", "knowsWord", "[C", true)
  | 19 => ("NoonBellModel", "learnWord", "[C", true)
  | 20 => ("NoonBellModel", "forgetWord", "[C", true)
  | 21 => ("NoonBellModel", "canWord", "[C", true)
  | 22 => ("NoonBellModel", "noticeWord", "[C", true)
  | 23 => ("NoonBellModel", "clockWord", "[C", true)
  | 24 => ("NoonBellModel", "dayWord", "[C", true)
  | 25 => ("NoonBellModel", "pointsWord", "[C", true)
  | 26 => ("NoonBellModel", "sameWord", "[C", true)
  | 27 => ("NoonBellModel", "ownWord", "[C", true)
  | 28 => ("NoonBellModel", "theirsWord", "[C", true)
  | 29 => ("NoonBellModel", "orWord", "[C", true)
  | 30 => ("NoonBellModel", "andWord", "[C", true)
  | 31 => ("NoonBellModel", "notWord", "[C", true)
  | 32 => ("NoonBellModel", "allWord", "[C", true)
  | 33 => ("NoonBellModel", "minWord", "[C", true)
  | 34 => ("NoonBellModel", "maxWord", "[C", true)
  | 35 => ("NoonBellModel", "namePlace", "I", false)
  | 36 => ("NoonBellModel", "many", "[I", true)
  | 37 => ("NoonBellModel", "names", "[J", true)
  | 38 => ("NoonBellModel", "numbers", "[I", true)
  | 39 => ("NoonBellModel", "duties", "[I", true)
  | 40 => ("NoonBellModel", "covered", "[I", true)
  | 41 => ("NoonBellModel", "coveredBy", "[I", true)
  | 42 => ("NoonBellModel", "known", "[I", true)
  | 43 => ("NoonBellModel", "codeFrom", "[I", true)
  | 44 => ("NoonBellModel", "codeEnd", "[I", true)
  | 45 => ("NoonBellModel", "codes", "[I", true)
  | 46 => ("NoonBellModel", "coded", "I", false)
  | 47 => ("NoonBellModel", "statements", "I", false)
  | 48 => ("NoonBellModel", "textKind", "I", false)
  | 49 => ("NoonBellModel", "now", "[I", true)
  | 50 => ("NoonBellModel", "aside", "[I", true)
  | 51 => ("NoonBellModel", "askClock", "J", false)
  | 52 => ("NoonBellModel", "askDay", "J", false)
  | 53 => ("NoonBellModel", "askPoints", "J", false)
  | 54 => ("NoonBellModel", "askSame", "J", false)
  | 55 => ("NoonBellModel", "askHard", "J", false)
  | 56 => ("NoonBellModel", "askOwn", "J", false)
  | 57 => ("NoonBellModel", "askTheirs", "J", false)
  | 58 => ("NoonBellModel", "askWho", "I", false)
  | 59 => ("NoonBellModel", "happened", "[I", true)
  | 60 => ("NoonBellModel", "driedBy", "[I", true)
  | 61 => ("NoonBellModel", "firstWhich", "I", false)
  | 62 => ("NoonBellModel", "firstLife", "I", false)
  | 63 => ("NoonBellModel", "waveOf", "[I", true)
  | 64 => ("NoonBellModel", "waveMany", "I", false)
  | 65 => ("NoonBellModel", "waveEnd", "I", false)
  | 66 => ("NoonBellModel", "fewest", "[I", true)
  | 67 => ("NoonBellModel", "dried", "[I", true)
  | 68 => ("NoonBellModel", "back0", "[I", true)
  | 69 => ("NoonBellModel", "undoable", "I", false)
  | 70 => ("NoonBellModel", "newest", "I", false)
  | 71 => ("NoonBellModel", "seeded", "J", false)
  | 72 => ("NoonBellModel", "slipMany", "I", false)
  | 73 => ("NoonBellModel", "slipLife", "I", false)
  | 74 => ("NoonBellModel", "slipRows", "[I", true)
  | 75 => ("NoonBellModel", "firstAsked", "[C", true)
  | 76 => ("NoonBellModel", "lastAsked", "[C", true)
  | 77 => ("NoonBellModel", "oftenAsked", "[C", true)
  | 78 => ("NoonBellModel", "totalAsked", "[C", true)
  | 79 => ("NoonBellModel", "mostAsked", "[C", true)
  | 80 => ("NoonBellModel", "leastAsked", "[C", true)
  | 81 => ("NoonBellModel", "notAsked", "[C", true)
  | 82 => ("NoonBellModel", "andAsked", "[C", true)
  | 83 => ("NoonBellModel", "orAsked", "[C", true)
  | 84 => ("NoonBellModel", "allAsked", "[C", true)
  | 85 => ("NoonBellModel", "minAsked", "[C", true)
  | 86 => ("NoonBellModel", "maxAsked", "[C", true)
  | 87 => ("NoonBellModel", "clockAsked", "[C", true)
  | 88 => ("NoonBellModel", "dayAsked", "[C", true)
  | 89 => ("NoonBellModel", "pointsAsked", "[C", true)
  | 90 => ("NoonBellModel", "sameAsked", "[C", true)
  | 91 => ("NoonBellModel", "hardAsked", "[C", true)
  | 92 => ("NoonBellModel", "ownAsked", "[C", true)
  | 93 => ("NoonBellModel", "theirsAsked", "[C", true)
  | 94 => ("NoonBellModel", "hourAsked", "[C", true)
  | 95 => ("NoonBellModel", "lifeAsked", "[C", true)
  | 96 => ("NoonBellModel", "driesAsked", "[C", true)
  | 97 => ("NoonBellModel", "qCodes", "[I", true)
  | 98 => ("NoonBellModel", "qCoded", "I", false)
  | 99 => ("NoonBellModel", "qWait", "[I", true)
  | 100 => ("NoonBellModel", "qWaits", "I", false)
  | 101 => ("NoonBellModel", "qOpened", "I", false)
  | 102 => ("NoonBellModel", "qBase", "I", false)
  | 103 => ("NoonBellModel", "qPile", "[J", true)
  | 104 => ("NoonBellModel", "qPiled", "I", false)
  | 105 => ("NoonBellModel", "qAnswer", "J", false)
  | 106 => ("NoonBellModel", "qIsNew", "Z", false)
  | 107 => ("NoonBellModel", "octet", "[I", true)
  | _ => ("NoonBellModel", "octets", "I", false)
def tyX10 : Nat → FieldType := fun k => match k with
  | 0 => .array .int
  | 1 => .int
  | 2 => .int
  | 3 => .int
  | 4 => .int
  | 5 => .int
  | 6 => .int
  | 7 => .int
  | 8 => .int
  | 9 => .array .int
  | 10 => .int
  | 11 => .array .char
  | 12 => .array .char
  | 13 => .array .char
  | 14 => .array .char
  | 15 => .array .char
  | 16 => .array .char
  | 17 => .array .char
  | 18 => .array .char
  | 19 => .array .char
  | 20 => .array .char
  | 21 => .array .char
  | 22 => .array .char
  | 23 => .array .char
  | 24 => .array .char
  | 25 => .array .char
  | 26 => .array .char
  | 27 => .array .char
  | 28 => .array .char
  | 29 => .array .char
  | 30 => .array .char
  | 31 => .array .char
  | 32 => .array .char
  | 33 => .array .char
  | 34 => .array .char
  | 35 => .int
  | 36 => .array .int
  | 37 => .array .long
  | 38 => .array .int
  | 39 => .array .int
  | 40 => .array .int
  | 41 => .array .int
  | 42 => .array .int
  | 43 => .array .int
  | 44 => .array .int
  | 45 => .array .int
  | 46 => .int
  | 47 => .int
  | 48 => .int
  | 49 => .array .int
  | 50 => .array .int
  | 51 => .long
  | 52 => .long
  | 53 => .long
  | 54 => .long
  | 55 => .long
  | 56 => .long
  | 57 => .long
  | 58 => .int
  | 59 => .array .int
  | 60 => .array .int
  | 61 => .int
  | 62 => .int
  | 63 => .array .int
  | 64 => .int
  | 65 => .int
  | 66 => .array .int
  | 67 => .array .int
  | 68 => .array .int
  | 69 => .int
  | 70 => .int
  | 71 => .long
  | 72 => .int
  | 73 => .int
  | 74 => .array .int
  | 75 => .array .char
  | 76 => .array .char
  | 77 => .array .char
  | 78 => .array .char
  | 79 => .array .char
  | 80 => .array .char
  | 81 => .array .char
  | 82 => .array .char
  | 83 => .array .char
  | 84 => .array .char
  | 85 => .array .char
  | 86 => .array .char
  | 87 => .array .char
  | 88 => .array .char
  | 89 => .array .char
  | 90 => .array .char
  | 91 => .array .char
  | 92 => .array .char
  | 93 => .array .char
  | 94 => .array .char
  | 95 => .array .char
  | 96 => .array .char
  | 97 => .array .int
  | 98 => .int
  | 99 => .array .int
  | 100 => .int
  | 101 => .int
  | 102 => .int
  | 103 => .array .long
  | 104 => .int
  | 105 => .long
  | 106 => .boolean
  | 107 => .array .int
  | _ => .int
abbrev wsX100 : List Cond := u_ws RX10 TX10 109
theorem nmX10 : ∀ a, a < 109 → ∀ b, b < 109 → a ≠ b → (TX10 a).2.1 ≠ (TX10 b).2.1 := by decide +kernel
theorem tyX10_ok : ∀ k, k < 109 → parseFieldDescriptor (TX10 k).2.2.1 = some (tyX10 k) := by decide +kernel
abbrev cX10_init : ByteArray := prog_12_method_1_code
def yX10_init : MethodName := ⟨RX10, "<init>", "()V"⟩
abbrev cX10_isIn : ByteArray := prog_12_method_2_code
def yX10_isIn : MethodName := ⟨RX10, "isIn", "(JJJ)Z"⟩
abbrev cX10_feed : ByteArray := prog_12_method_3_code
def yX10_feed : MethodName := ⟨RX10, "feed", "(IIIII)I"⟩
abbrev cX10_end : ByteArray := prog_12_method_4_code
def yX10_end : MethodName := ⟨RX10, "end", "(I)Z"⟩
abbrev cX10_fail : ByteArray := prog_12_method_5_code
def yX10_fail : MethodName := ⟨RX10, "fail", "(II)V"⟩
abbrev cX10_isLetter : ByteArray := prog_12_method_6_code
def yX10_isLetter : MethodName := ⟨RX10, "isLetter", "(I)Z"⟩
abbrev cX10_isDigit : ByteArray := prog_12_method_7_code
def yX10_isDigit : MethodName := ⟨RX10, "isDigit", "(I)Z"⟩
abbrev cX10_look : ByteArray := prog_12_method_8_code
def yX10_look : MethodName := ⟨RX10, "look", "()I"⟩
abbrev cX10_isHere : ByteArray := prog_12_method_9_code
def yX10_isHere : MethodName := ⟨RX10, "isHere", "([C)Z"⟩
abbrev cX10_takes : ByteArray := prog_12_method_10_code
def yX10_takes : MethodName := ⟨RX10, "takes", "([C)Z"⟩
abbrev cX10_asks : ByteArray := prog_12_method_11_code
def yX10_asks : MethodName := ⟨RX10, "asks", "([C)V"⟩
abbrev cX10_takesSign : ByteArray := prog_12_method_12_code
def yX10_takesSign : MethodName := ⟨RX10, "takesSign", "(I)Z"⟩
abbrev cX10_asksSign : ByteArray := prog_12_method_13_code
def yX10_asksSign : MethodName := ⟨RX10, "asksSign", "(I)V"⟩
abbrev cX10_number : ByteArray := prog_12_method_14_code
def yX10_number : MethodName := ⟨RX10, "number", "(II)I"⟩
abbrev cX10_isOwnHere : ByteArray := prog_12_method_15_code
def yX10_isOwnHere : MethodName := ⟨RX10, "isOwnHere", "()Z"⟩
abbrev cX10_name : ByteArray := prog_12_method_16_code
def yX10_name : MethodName := ⟨RX10, "name", "()J"⟩
abbrev cX10_isAllowed : ByteArray := prog_12_method_17_code
def yX10_isAllowed : MethodName := ⟨RX10, "isAllowed", "(I)Z"⟩
abbrev cX10_isFull : ByteArray := prog_12_method_18_code
def yX10_isFull : MethodName := ⟨RX10, "isFull", "(III)Z"⟩
abbrev cX10_nameOf : ByteArray := prog_12_method_19_code
def yX10_nameOf : MethodName := ⟨RX10, "nameOf", "(IJ)I"⟩
abbrev cX10_newName : ByteArray := prog_12_method_20_code
def yX10_newName : MethodName := ⟨RX10, "newName", "()J"⟩
abbrev cX10_oneOf : ByteArray := prog_12_method_21_code
def yX10_oneOf : MethodName := ⟨RX10, "oneOf", "(I)I"⟩
abbrev cX10_personTold : ByteArray := prog_12_method_22_code
def yX10_personTold : MethodName := ⟨RX10, "personTold", "(I)V"⟩
abbrev cX10_taskTold : ByteArray := prog_12_method_23_code
def yX10_taskTold : MethodName := ⟨RX10, "taskTold", "(I)V"⟩
abbrev cX10_dutyTold : ByteArray := prog_12_method_24_code
def yX10_dutyTold : MethodName := ⟨RX10, "dutyTold", "(I)V"⟩
abbrev cX10_coverTold : ByteArray := prog_12_method_25_code
def yX10_coverTold : MethodName := ⟨RX10, "coverTold", "()V"⟩
abbrev cX10_knownTold : ByteArray := prog_12_method_26_code
def yX10_knownTold : MethodName := ⟨RX10, "knownTold", "()V"⟩
abbrev cX10_codesTold : ByteArray := prog_12_method_27_code
def yX10_codesTold : MethodName := ⟨RX10, "codesTold", "(II)V"⟩
abbrev cX10_statementTold : ByteArray := prog_12_method_28_code
def yX10_statementTold : MethodName := ⟨RX10, "statementTold", "()V"⟩
abbrev cX10_city : ByteArray := prog_12_method_29_code
def yX10_city : MethodName := ⟨RX10, "city", "()I"⟩
abbrev cX10_stands : ByteArray := prog_12_method_30_code
def yX10_stands : MethodName := ⟨RX10, "stands", "()V"⟩
abbrev cX10_fault : ByteArray := prog_12_method_31_code
def yX10_fault : MethodName := ⟨RX10, "fault", "(I)I"⟩
abbrev cX10_peopleMany : ByteArray := prog_12_method_32_code
def yX10_peopleMany : MethodName := ⟨RX10, "peopleMany", "()I"⟩
abbrev cX10_dutyMany : ByteArray := prog_12_method_33_code
def yX10_dutyMany : MethodName := ⟨RX10, "dutyMany", "()I"⟩
abbrev cX10_isPerson : ByteArray := prog_12_method_34_code
def yX10_isPerson : MethodName := ⟨RX10, "isPerson", "(I)Z"⟩
abbrev cX10_wardOf : ByteArray := prog_12_method_35_code
def yX10_wardOf : MethodName := ⟨RX10, "wardOf", "(I)I"⟩
abbrev cX10_hardOf : ByteArray := prog_12_method_36_code
def yX10_hardOf : MethodName := ⟨RX10, "hardOf", "(I)I"⟩
abbrev cX10_dutyOf : ByteArray := prog_12_method_37_code
def yX10_dutyOf : MethodName := ⟨RX10, "dutyOf", "(II)I"⟩
abbrev cX10_livesNow : ByteArray := prog_12_method_38_code
def yX10_livesNow : MethodName := ⟨RX10, "livesNow", "(I)I"⟩
abbrev cX10_liveNow : ByteArray := prog_12_method_39_code
def yX10_liveNow : MethodName := ⟨RX10, "liveNow", "(II)V"⟩
abbrev cX10_watches : ByteArray := prog_12_method_40_code
def yX10_watches : MethodName := ⟨RX10, "watches", "(I)I"⟩
abbrev cX10_pointsOf : ByteArray := prog_12_method_41_code
def yX10_pointsOf : MethodName := ⟨RX10, "pointsOf", "(II)I"⟩
abbrev cX10_knowsNow : ByteArray := prog_12_method_42_code
def yX10_knowsNow : MethodName := ⟨RX10, "knowsNow", "(III)V"⟩
abbrev cX10_whoLives : ByteArray := prog_12_method_43_code
def yX10_whoLives : MethodName := ⟨RX10, "whoLives", "(I)I"⟩
abbrev cX10_putsAside : ByteArray := prog_12_method_44_code
def yX10_putsAside : MethodName := ⟨RX10, "putsAside", "()V"⟩
abbrev cX10_takesBack : ByteArray := prog_12_method_45_code
def yX10_takesBack : MethodName := ⟨RX10, "takesBack", "()V"⟩
abbrev cX10_codesTell : ByteArray := prog_12_method_46_code
def yX10_codesTell : MethodName := ⟨RX10, "codesTell", "(I)J"⟩
abbrev cX10_made : ByteArray := prog_12_method_47_code
def yX10_made : MethodName := ⟨RX10, "made", "(IIIIII)I"⟩
abbrev cX10_canBy : ByteArray := prog_12_method_48_code
def yX10_canBy : MethodName := ⟨RX10, "canBy", "(IZIII)Z"⟩
abbrev cX10_canDo : ByteArray := prog_12_method_49_code
def yX10_canDo : MethodName := ⟨RX10, "canDo", "(IIII)Z"⟩
abbrev cX10_notices : ByteArray := prog_12_method_50_code
def yX10_notices : MethodName := ⟨RX10, "notices", "(IIIII)Z"⟩
abbrev cX10_clearsDried : ByteArray := prog_12_method_51_code
def yX10_clearsDried : MethodName := ⟨RX10, "clearsDried", "()V"⟩
abbrev cX10_happens : ByteArray := prog_12_method_52_code
def yX10_happens : MethodName := ⟨RX10, "happens", "(III)V"⟩
abbrev cX10_nightComes : ByteArray := prog_12_method_53_code
def yX10_nightComes : MethodName := ⟨RX10, "nightComes", "()V"⟩
abbrev cX10_dutyComes : ByteArray := prog_12_method_54_code
def yX10_dutyComes : MethodName := ⟨RX10, "dutyComes", "(III)V"⟩
abbrev cX10_hasDuty : ByteArray := prog_12_method_55_code
def yX10_hasDuty : MethodName := ⟨RX10, "hasDuty", "(II)Z"⟩
abbrev cX10_hourComes : ByteArray := prog_12_method_56_code
def yX10_hourComes : MethodName := ⟨RX10, "hourComes", "()V"⟩
abbrev cX10_hoursCome : ByteArray := prog_12_method_57_code
def yX10_hoursCome : MethodName := ⟨RX10, "hoursCome", "(I)V"⟩
abbrev cX10_isCalled : ByteArray := prog_12_method_58_code
def yX10_isCalled : MethodName := ⟨RX10, "isCalled", "(I)V"⟩
abbrev cX10_countOf : ByteArray := prog_12_method_59_code
def yX10_countOf : MethodName := ⟨RX10, "countOf", "(I)I"⟩
abbrev cX10_has : ByteArray := prog_12_method_60_code
def yX10_has : MethodName := ⟨RX10, "has", "(I)I"⟩
abbrev cX10_letter : ByteArray := prog_12_method_61_code
def yX10_letter : MethodName := ⟨RX10, "letter", "(III)I"⟩
abbrev cX10_dutiesOf : ByteArray := prog_12_method_62_code
def yX10_dutiesOf : MethodName := ⟨RX10, "dutiesOf", "(I)I"⟩
abbrev cX10_person : ByteArray := prog_12_method_63_code
def yX10_person : MethodName := ⟨RX10, "person", "(II)I"⟩
abbrev cX10_points : ByteArray := prog_12_method_64_code
def yX10_points : MethodName := ⟨RX10, "points", "(II)I"⟩
abbrev cX10_isTask : ByteArray := prog_12_method_65_code
def yX10_isTask : MethodName := ⟨RX10, "isTask", "(I)Z"⟩
abbrev cX10_could : ByteArray := prog_12_method_66_code
def yX10_could : MethodName := ⟨RX10, "could", "(IIII)I"⟩
abbrev cX10_kept : ByteArray := prog_12_method_67_code
def yX10_kept : MethodName := ⟨RX10, "kept", "(II)I"⟩
abbrev cX10_isHere0 : ByteArray := prog_12_method_68_code
def yX10_isHere0 : MethodName := ⟨RX10, "isHere0", "(I)Z"⟩
abbrev cX10_wave : ByteArray := prog_12_method_69_code
def yX10_wave : MethodName := ⟨RX10, "wave", "(II)I"⟩
abbrev cX10_least : ByteArray := prog_12_method_70_code
def yX10_least : MethodName := ⟨RX10, "least", "(II)I"⟩
abbrev cX10_would : ByteArray := prog_12_method_71_code
def yX10_would : MethodName := ⟨RX10, "would", "(II)I"⟩
abbrev cX10_first : ByteArray := prog_12_method_72_code
def yX10_first : MethodName := ⟨RX10, "first", "(I)I"⟩
abbrev cX10_doable : ByteArray := prog_12_method_73_code
def yX10_doable : MethodName := ⟨RX10, "doable", "(III)I"⟩
abbrev cX10_best : ByteArray := prog_12_method_74_code
def yX10_best : MethodName := ⟨RX10, "best", "(II)I"⟩
abbrev cX10_study : ByteArray := prog_12_method_75_code
def yX10_study : MethodName := ⟨RX10, "study", "(II)I"⟩
abbrev cX10_laysChange : ByteArray := prog_12_method_76_code
def yX10_laysChange : MethodName := ⟨RX10, "laysChange", "()V"⟩
abbrev cX10_change : ByteArray := prog_12_method_77_code
def yX10_change : MethodName := ⟨RX10, "change", "(I)I"⟩
abbrev cX10_ring : ByteArray := prog_12_method_78_code
def yX10_ring : MethodName := ⟨RX10, "ring", "(I)I"⟩
abbrev cX10_odds : ByteArray := prog_12_method_79_code
def yX10_odds : MethodName := ⟨RX10, "odds", "(III)I"⟩
abbrev cX10_keeps : ByteArray := prog_12_method_80_code
def yX10_keeps : MethodName := ⟨RX10, "keeps", "()V"⟩
abbrev cX10_undo : ByteArray := prog_12_method_81_code
def yX10_undo : MethodName := ⟨RX10, "undo", "()Z"⟩
abbrev cX10_refuses : ByteArray := prog_12_method_82_code
def yX10_refuses : MethodName := ⟨RX10, "refuses", "(I)I"⟩
abbrev cX10_go : ByteArray := prog_12_method_83_code
def yX10_go : MethodName := ⟨RX10, "go", "(I)I"⟩
abbrev cX10_call : ByteArray := prog_12_method_84_code
def yX10_call : MethodName := ⟨RX10, "call", "(I)I"⟩
abbrev cX10_watch : ByteArray := prog_12_method_85_code
def yX10_watch : MethodName := ⟨RX10, "watch", "(II)Z"⟩
abbrev cX10_teach : ByteArray := prog_12_method_86_code
def yX10_teach : MethodName := ⟨RX10, "teach", "(III)I"⟩
abbrev cX10_seed : ByteArray := prog_12_method_87_code
def yX10_seed : MethodName := ⟨RX10, "seed", "(I)Z"⟩
abbrev cX10_drawOf : ByteArray := prog_12_method_88_code
def yX10_drawOf : MethodName := ⟨RX10, "drawOf", "(I)I"⟩
abbrev cX10_bellRings : ByteArray := prog_12_method_89_code
def yX10_bellRings : MethodName := ⟨RX10, "bellRings", "()V"⟩
abbrev cX10_tillNoon : ByteArray := prog_12_method_90_code
def yX10_tillNoon : MethodName := ⟨RX10, "tillNoon", "()I"⟩
abbrev cX10_bells : ByteArray := prog_12_method_91_code
def yX10_bells : MethodName := ⟨RX10, "bells", "(I)I"⟩
abbrev cX10_slips : ByteArray := prog_12_method_92_code
def yX10_slips : MethodName := ⟨RX10, "slips", "(I)I"⟩
abbrev cX10_isAsSlips : ByteArray := prog_12_method_93_code
def yX10_isAsSlips : MethodName := ⟨RX10, "isAsSlips", "(I)Z"⟩
abbrev cX10_who : ByteArray := prog_12_method_94_code
def yX10_who : MethodName := ⟨RX10, "who", "()I"⟩
abbrev cX10_qCode : ByteArray := prog_12_method_95_code
def yX10_qCode : MethodName := ⟨RX10, "qCode", "(I)V"⟩
abbrev cX10_qOpens : ByteArray := prog_12_method_96_code
def yX10_qOpens : MethodName := ⟨RX10, "qOpens", "(II)V"⟩
abbrev cX10_qIsOn : ByteArray := prog_12_method_97_code
def yX10_qIsOn : MethodName := ⟨RX10, "qIsOn", "(I)Z"⟩
abbrev cX10_qDrops : ByteArray := prog_12_method_98_code
def yX10_qDrops : MethodName := ⟨RX10, "qDrops", "()V"⟩
abbrev cX10_qIsBracket : ByteArray := prog_12_method_99_code
def yX10_qIsBracket : MethodName := ⟨RX10, "qIsBracket", "(I)Z"⟩
abbrev cX10_qBracket : ByteArray := prog_12_method_100_code
def yX10_qBracket : MethodName := ⟨RX10, "qBracket", "()I"⟩
abbrev cX10_qDropsToBracket : ByteArray := prog_12_method_101_code
def yX10_qDropsToBracket : MethodName := ⟨RX10, "qDropsToBracket", "()V"⟩
abbrev cX10_qWordHere : ByteArray := prog_12_method_102_code
def yX10_qWordHere : MethodName := ⟨RX10, "qWordHere", "()I"⟩
abbrev cX10_qWordOf : ByteArray := prog_12_method_103_code
def yX10_qWordOf : MethodName := ⟨RX10, "qWordOf", "(II)I"⟩
abbrev cX10_qAsksWord : ByteArray := prog_12_method_104_code
def yX10_qAsksWord : MethodName := ⟨RX10, "qAsksWord", "(I)V"⟩
abbrev cX10_qEndsPart : ByteArray := prog_12_method_105_code
def yX10_qEndsPart : MethodName := ⟨RX10, "qEndsPart", "()V"⟩
abbrev cX10_qPartTold : ByteArray := prog_12_method_106_code
def yX10_qPartTold : MethodName := ⟨RX10, "qPartTold", "()V"⟩
abbrev cX10_qGoesOn : ByteArray := prog_12_method_107_code
def yX10_qGoesOn : MethodName := ⟨RX10, "qGoesOn", "()Z"⟩
abbrev cX10_qSums : ByteArray := prog_12_method_108_code
def yX10_qSums : MethodName := ⟨RX10, "qSums", "()V"⟩
abbrev cX10_qFact : ByteArray := prog_12_method_109_code
def yX10_qFact : MethodName := ⟨RX10, "qFact", "()V"⟩
abbrev cX10_qHasSquare : ByteArray := prog_12_method_110_code
def yX10_qHasSquare : MethodName := ⟨RX10, "qHasSquare", "()Z"⟩
abbrev cX10_qDropsNots : ByteArray := prog_12_method_111_code
def yX10_qDropsNots : MethodName := ⟨RX10, "qDropsNots", "()V"⟩
abbrev cX10_qTest : ByteArray := prog_12_method_112_code
def yX10_qTest : MethodName := ⟨RX10, "qTest", "()V"⟩
abbrev cX10_qGoesOnTest : ByteArray := prog_12_method_113_code
def yX10_qGoesOnTest : MethodName := ⟨RX10, "qGoesOnTest", "()Z"⟩
abbrev cX10_qClip : ByteArray := prog_12_method_114_code
def yX10_qClip : MethodName := ⟨RX10, "qClip", "(J)J"⟩
abbrev cX10_qFloor : ByteArray := prog_12_method_115_code
def yX10_qFloor : MethodName := ⟨RX10, "qFloor", "(JJ)J"⟩
abbrev cX10_qPuts : ByteArray := prog_12_method_116_code
def yX10_qPuts : MethodName := ⟨RX10, "qPuts", "(J)V"⟩
abbrev cX10_qJoins : ByteArray := prog_12_method_117_code
def yX10_qJoins : MethodName := ⟨RX10, "qJoins", "(I)V"⟩
abbrev cX10_qPartOf : ByteArray := prog_12_method_118_code
def yX10_qPartOf : MethodName := ⟨RX10, "qPartOf", "(II)J"⟩
abbrev cX10_qOf : ByteArray := prog_12_method_119_code
def yX10_qOf : MethodName := ⟨RX10, "qOf", "(IJI)J"⟩
abbrev cX10_qTold : ByteArray := prog_12_method_120_code
def yX10_qTold : MethodName := ⟨RX10, "qTold", "(I)J"⟩
abbrev cX10_qKind : ByteArray := prog_12_method_121_code
def yX10_qKind : MethodName := ⟨RX10, "qKind", "()I"⟩
abbrev cX10_qTakes : ByteArray := prog_12_method_122_code
def yX10_qTakes : MethodName := ⟨RX10, "qTakes", "(IJI)V"⟩
abbrev cX10_ask : ByteArray := prog_12_method_123_code
def yX10_ask : MethodName := ⟨RX10, "ask", "(I)J"⟩
abbrev cX10_checked : ByteArray := prog_12_method_124_code
def yX10_checked : MethodName := ⟨RX10, "checked", "([II)I"⟩
abbrev cX10_writes : ByteArray := prog_12_method_125_code
def yX10_writes : MethodName := ⟨RX10, "writes", "(I)V"⟩
abbrev cX10_image : ByteArray := prog_12_method_126_code
def yX10_image : MethodName := ⟨RX10, "image", "()I"⟩
abbrev cX10_octet : ByteArray := prog_12_method_127_code
def yX10_octet : MethodName := ⟨RX10, "octet", "(I)I"⟩
abbrev cX10_isPersonTold : ByteArray := prog_12_method_128_code
def yX10_isPersonTold : MethodName := ⟨RX10, "isPersonTold", "(I)Z"⟩
abbrev cX10_isTold : ByteArray := prog_12_method_129_code
def yX10_isTold : MethodName := ⟨RX10, "isTold", "(I)Z"⟩
abbrev cX10_on : ByteArray := prog_12_method_130_code
def yX10_on : MethodName := ⟨RX10, "on", "()Z"⟩
abbrev cX10_status : ByteArray := prog_12_method_131_code
def yX10_status : MethodName := ⟨RX10, "status", "(I)I"⟩
def RJ6 : String := "java/lang/Integer"
abbrev cJ6_bitCount_0f7a4 : ByteArray := prog_13_method_49_code
def yJ6_bitCount_0f7a4 : MethodName := ⟨RJ6, "bitCount", "(I)I"⟩
def RJ9 : String := "java/lang/Math"
abbrev cJ9_floorDiv_7cf53 : ByteArray := prog_14_method_47_code
def yJ9_floorDiv_7cf53 : MethodName := ⟨RJ9, "floorDiv", "(II)I"⟩
abbrev cJ9_floorMod_7cf53 : ByteArray := prog_14_method_50_code
def yJ9_floorMod_7cf53 : MethodName := ⟨RJ9, "floorMod", "(II)I"⟩
abbrev cJ9_max_7cf53 : ByteArray := prog_14_method_65_code
def yJ9_max_7cf53 : MethodName := ⟨RJ9, "max", "(II)I"⟩
abbrev cJ9_min_7cf53 : ByteArray := prog_14_method_69_code
def yJ9_min_7cf53 : MethodName := ⟨RJ9, "min", "(II)I"⟩
def RJ0 : String := "java/lang/String"
abbrev cJ0_length_8abf5 : ByteArray := prog_15_method_54_code
def yJ0_length_8abf5 : MethodName := ⟨RJ0, "length", "()I"⟩
abbrev cJ0_charAt_5068e : ByteArray := prog_15_method_56_code
def yJ0_charAt_5068e : MethodName := ⟨RJ0, "charAt", "(I)C"⟩
abbrev cJ0_coder_7d493 : ByteArray := prog_15_method_152_code
def yJ0_coder_7d493 : MethodName := ⟨RJ0, "coder", "()B"⟩
abbrev cJ0_isLatin1_aae02 : ByteArray := prog_15_method_154_code
def yJ0_isLatin1_aae02 : MethodName := ⟨RJ0, "isLatin1", "()Z"⟩
abbrev cJ0_checkIndex_df160 : ByteArray := prog_15_method_155_code
def yJ0_checkIndex_df160 : MethodName := ⟨RJ0, "checkIndex", "(II)V"⟩
def RJ1 : String := "java/lang/StringLatin1"
abbrev cJ1_charAt_3b067 : ByteArray := prog_16_method_2_code
def yJ1_charAt_3b067 : MethodName := ⟨RJ1, "charAt", "([BI)C"⟩
def RJ2 : String := "java/lang/StringUTF16"
abbrev cJ2_getChar_3b067 : ByteArray := prog_17_method_5_code
def yJ2_getChar_3b067 : MethodName := ⟨RJ2, "getChar", "([BI)C"⟩
abbrev cJ2_length_9d52b : ByteArray := prog_17_method_6_code
def yJ2_length_9d52b : MethodName := ⟨RJ2, "length", "([B)I"⟩
abbrev cJ2_charAt_3b067 : ByteArray := prog_17_method_83_code
def yJ2_charAt_3b067 : MethodName := ⟨RJ2, "charAt", "([BI)C"⟩
abbrev cJ2_checkIndex_2214a : ByteArray := prog_17_method_91_code
def yJ2_checkIndex_2214a : MethodName := ⟨RJ2, "checkIndex", "(I[B)V"⟩
def RJ3 : String := "jdk/internal/util/Preconditions"
abbrev cJ3_checkIndex_8e157 : ByteArray := prog_18_method_11_code
def yJ3_checkIndex_8e157 : MethodName := ⟨RJ3, "checkIndex", "(IILjava/util/function/BiFunction;)I"⟩
def RL : String := "NoonBellLaw"
abbrev cL_law : ByteArray := code
def yL_law : MethodName := ⟨RL, "law", "([I)Z"⟩

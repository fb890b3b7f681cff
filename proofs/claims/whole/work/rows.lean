section
-- ===== PART A: goes FIRST, ahead of the names: the tables' words, and 'selects' of the private methods out of them =====
/-- a private method of a class that the tables say can be made, by its rows of tables_1 -/
def lw_okq (q : MethodName × Nat) : Prop := (q.1.cls ≠ "java/lang/invoke/MethodHandle" ∧ q.1.cls ≠ "java/lang/invoke/VarHandle") ∧ Cond.instantiable q.1.cls q.2 ∈ tables_1 ∧ Cond.privateMethod q.1 ∈ tables_1 ∧ Cond.instanceMethod q.1 ∈ tables_1
theorem lw_p0 : lw_okq (⟨"MarketDays$Tape", "advance", "()V"⟩, 10) := ⟨⟨by decide +kernel, by decide +kernel⟩, List.mem_of_getElem? (i := 101) (by decide +kernel), List.mem_of_getElem? (i := 357) (by decide +kernel), List.mem_of_getElem? (i := 358) (by decide +kernel)⟩
theorem lw_p1 : lw_okq (⟨"MarketDays$Tape", "readWord", "()V"⟩, 10) := ⟨⟨by decide +kernel, by decide +kernel⟩, List.mem_of_getElem? (i := 101) (by decide +kernel), List.mem_of_getElem? (i := 364) (by decide +kernel), List.mem_of_getElem? (i := 365) (by decide +kernel)⟩
theorem lw_p2 : lw_okq (⟨"MarketDays$Tape", "spells", "(Ljava/lang/String;)Z"⟩, 10) := ⟨⟨by decide +kernel, by decide +kernel⟩, List.mem_of_getElem? (i := 101) (by decide +kernel), List.mem_of_getElem? (i := 369) (by decide +kernel), List.mem_of_getElem? (i := 370) (by decide +kernel)⟩
theorem lw_p3 : lw_okq (⟨"MarketDays$Tape", "readNumber", "()V"⟩, 10) := ⟨⟨by decide +kernel, by decide +kernel⟩, List.mem_of_getElem? (i := 101) (by decide +kernel), List.mem_of_getElem? (i := 388) (by decide +kernel), List.mem_of_getElem? (i := 389) (by decide +kernel)⟩
theorem lw_p4 : lw_okq (⟨"MarketDays$Tape", "expect", "(I)V"⟩, 10) := ⟨⟨by decide +kernel, by decide +kernel⟩, List.mem_of_getElem? (i := 101) (by decide +kernel), List.mem_of_getElem? (i := 395) (by decide +kernel), List.mem_of_getElem? (i := 396) (by decide +kernel)⟩
theorem lw_p5 : lw_okq (⟨"MarketDays$Tape", "fail", "()V"⟩, 10) := ⟨⟨by decide +kernel, by decide +kernel⟩, List.mem_of_getElem? (i := 101) (by decide +kernel), List.mem_of_getElem? (i := 399) (by decide +kernel), List.mem_of_getElem? (i := 400) (by decide +kernel)⟩
theorem lw_p6 : lw_okq (⟨"MarketDays$Tape", "readEither", "()V"⟩, 10) := ⟨⟨by decide +kernel, by decide +kernel⟩, List.mem_of_getElem? (i := 101) (by decide +kernel), List.mem_of_getElem? (i := 403) (by decide +kernel), List.mem_of_getElem? (i := 404) (by decide +kernel)⟩
theorem lw_p7 : lw_okq (⟨"MarketDays$Tape", "readBoth", "()V"⟩, 10) := ⟨⟨by decide +kernel, by decide +kernel⟩, List.mem_of_getElem? (i := 101) (by decide +kernel), List.mem_of_getElem? (i := 407) (by decide +kernel), List.mem_of_getElem? (i := 408) (by decide +kernel)⟩
theorem lw_p8 : lw_okq (⟨"MarketDays$Tape", "readNot", "()V"⟩, 10) := ⟨⟨by decide +kernel, by decide +kernel⟩, List.mem_of_getElem? (i := 101) (by decide +kernel), List.mem_of_getElem? (i := 411) (by decide +kernel), List.mem_of_getElem? (i := 412) (by decide +kernel)⟩
theorem lw_p9 : lw_okq (⟨"MarketDays$Tape", "opens", "()Z"⟩, 10) := ⟨⟨by decide +kernel, by decide +kernel⟩, List.mem_of_getElem? (i := 101) (by decide +kernel), List.mem_of_getElem? (i := 415) (by decide +kernel), List.mem_of_getElem? (i := 416) (by decide +kernel)⟩
theorem lw_p10 : lw_okq (⟨"MarketDays$Tape", "write", "(I)V"⟩, 10) := ⟨⟨by decide +kernel, by decide +kernel⟩, List.mem_of_getElem? (i := 101) (by decide +kernel), List.mem_of_getElem? (i := 419) (by decide +kernel), List.mem_of_getElem? (i := 420) (by decide +kernel)⟩
theorem lw_p11 : lw_okq (⟨"MarketDays$Tape", "readSum", "()V"⟩, 10) := ⟨⟨by decide +kernel, by decide +kernel⟩, List.mem_of_getElem? (i := 101) (by decide +kernel), List.mem_of_getElem? (i := 423) (by decide +kernel), List.mem_of_getElem? (i := 424) (by decide +kernel)⟩
theorem lw_p12 : lw_okq (⟨"MarketDays$Tape", "readTerm", "()V"⟩, 10) := ⟨⟨by decide +kernel, by decide +kernel⟩, List.mem_of_getElem? (i := 101) (by decide +kernel), List.mem_of_getElem? (i := 427) (by decide +kernel), List.mem_of_getElem? (i := 428) (by decide +kernel)⟩
theorem lw_p13 : lw_okq (⟨"MarketDays$Tape", "readOne", "()V"⟩, 10) := ⟨⟨by decide +kernel, by decide +kernel⟩, List.mem_of_getElem? (i := 101) (by decide +kernel), List.mem_of_getElem? (i := 431) (by decide +kernel), List.mem_of_getElem? (i := 432) (by decide +kernel)⟩
theorem lw_p14 : lw_okq (⟨"MarketDays$Land", "measure", "()V"⟩, 12) := ⟨⟨by decide +kernel, by decide +kernel⟩, List.mem_of_getElem? (i := 30) (by decide +kernel), List.mem_of_getElem? (i := 519) (by decide +kernel), List.mem_of_getElem? (i := 520) (by decide +kernel)⟩
theorem lw_p15 : lw_okq (⟨"MarketDays", "mayWant", "(III)Z"⟩, 11) := ⟨⟨by decide +kernel, by decide +kernel⟩, List.mem_of_getElem? (i := 22) (by decide +kernel), List.mem_of_getElem? (i := 552) (by decide +kernel), List.mem_of_getElem? (i := 553) (by decide +kernel)⟩
def lw_privs_1 : List (MethodName × Nat) := [(⟨"MarketDays$Tape", "advance", "()V"⟩, 10), (⟨"MarketDays$Tape", "readWord", "()V"⟩, 10), (⟨"MarketDays$Tape", "spells", "(Ljava/lang/String;)Z"⟩, 10), (⟨"MarketDays$Tape", "readNumber", "()V"⟩, 10), (⟨"MarketDays$Tape", "expect", "(I)V"⟩, 10), (⟨"MarketDays$Tape", "fail", "()V"⟩, 10), (⟨"MarketDays$Tape", "readEither", "()V"⟩, 10), (⟨"MarketDays$Tape", "readBoth", "()V"⟩, 10), (⟨"MarketDays$Tape", "readNot", "()V"⟩, 10), (⟨"MarketDays$Tape", "opens", "()Z"⟩, 10), (⟨"MarketDays$Tape", "write", "(I)V"⟩, 10), (⟨"MarketDays$Tape", "readSum", "()V"⟩, 10), (⟨"MarketDays$Tape", "readTerm", "()V"⟩, 10), (⟨"MarketDays$Tape", "readOne", "()V"⟩, 10), (⟨"MarketDays$Land", "measure", "()V"⟩, 12), (⟨"MarketDays", "mayWant", "(III)Z"⟩, 11)]
theorem lw_r1 : ∀ q ∈ lw_privs_1, lw_okq q := List.forall_mem_cons.mpr ⟨lw_p0, List.forall_mem_cons.mpr ⟨lw_p1, List.forall_mem_cons.mpr ⟨lw_p2, List.forall_mem_cons.mpr ⟨lw_p3, List.forall_mem_cons.mpr ⟨lw_p4, List.forall_mem_cons.mpr ⟨lw_p5, List.forall_mem_cons.mpr ⟨lw_p6, List.forall_mem_cons.mpr ⟨lw_p7, List.forall_mem_cons.mpr ⟨lw_p8, List.forall_mem_cons.mpr ⟨lw_p9, List.forall_mem_cons.mpr ⟨lw_p10, List.forall_mem_cons.mpr ⟨lw_p11, List.forall_mem_cons.mpr ⟨lw_p12, List.forall_mem_cons.mpr ⟨lw_p13, List.forall_mem_cons.mpr ⟨lw_p14, List.forall_mem_cons.mpr ⟨lw_p15, fun _ h => absurd h List.not_mem_nil⟩⟩⟩⟩⟩⟩⟩⟩⟩⟩⟩⟩⟩⟩⟩⟩
theorem lw_p16 : lw_okq (⟨"MarketDays$Law", "theRule", "()LMarketDays$Rule;"⟩, 5) := ⟨⟨by decide +kernel, by decide +kernel⟩, List.mem_of_getElem? (i := 140) (by decide +kernel), List.mem_of_getElem? (i := 592) (by decide +kernel), List.mem_of_getElem? (i := 593) (by decide +kernel)⟩
theorem lw_p17 : lw_okq (⟨"MarketDays$Law", "name", "(IIIIII)V"⟩, 5) := ⟨⟨by decide +kernel, by decide +kernel⟩, List.mem_of_getElem? (i := 140) (by decide +kernel), List.mem_of_getElem? (i := 597) (by decide +kernel), List.mem_of_getElem? (i := 598) (by decide +kernel)⟩
theorem lw_p18 : lw_okq (⟨"MarketDays", "sheetAt", "(I)LMarketDays$Sheet;"⟩, 11) := ⟨⟨by decide +kernel, by decide +kernel⟩, List.mem_of_getElem? (i := 22) (by decide +kernel), List.mem_of_getElem? (i := 623) (by decide +kernel), List.mem_of_getElem? (i := 624) (by decide +kernel)⟩
theorem lw_p19 : lw_okq (⟨"MarketDays", "mayTell", "(ILMarketDays$Sheet;)Z"⟩, 11) := ⟨⟨by decide +kernel, by decide +kernel⟩, List.mem_of_getElem? (i := 22) (by decide +kernel), List.mem_of_getElem? (i := 631) (by decide +kernel), List.mem_of_getElem? (i := 632) (by decide +kernel)⟩
theorem lw_p20 : lw_okq (⟨"MarketDays", "givingAt", "(I)LMarketDays$Giving;"⟩, 11) := ⟨⟨by decide +kernel, by decide +kernel⟩, List.mem_of_getElem? (i := 22) (by decide +kernel), List.mem_of_getElem? (i := 662) (by decide +kernel), List.mem_of_getElem? (i := 663) (by decide +kernel)⟩
theorem lw_p21 : lw_okq (⟨"MarketDays$Giving", "daysIn", "(LMarketDays$Land;II)I"⟩, 2) := ⟨⟨by decide +kernel, by decide +kernel⟩, List.mem_of_getElem? (i := 640) (by decide +kernel), List.mem_of_getElem? (i := 670) (by decide +kernel), List.mem_of_getElem? (i := 671) (by decide +kernel)⟩
theorem lw_p22 : lw_okq (⟨"MarketDays$Fair", "barsItself", "(I)Z"⟩, 4) := ⟨⟨by decide +kernel, by decide +kernel⟩, List.mem_of_getElem? (i := 167) (by decide +kernel), List.mem_of_getElem? (i := 709) (by decide +kernel), List.mem_of_getElem? (i := 710) (by decide +kernel)⟩
theorem lw_p23 : lw_okq (⟨"MarketDays$Fair", "bars", "(II)Z"⟩, 4) := ⟨⟨by decide +kernel, by decide +kernel⟩, List.mem_of_getElem? (i := 167) (by decide +kernel), List.mem_of_getElem? (i := 713) (by decide +kernel), List.mem_of_getElem? (i := 714) (by decide +kernel)⟩
theorem lw_p24 : lw_okq (⟨"MarketDays$Fair", "missesToFollow", "(II)Z"⟩, 4) := ⟨⟨by decide +kernel, by decide +kernel⟩, List.mem_of_getElem? (i := 167) (by decide +kernel), List.mem_of_getElem? (i := 718) (by decide +kernel), List.mem_of_getElem? (i := 719) (by decide +kernel)⟩
theorem lw_p25 : lw_okq (⟨"MarketDays$Fair", "hoursToMarket", "(II)I"⟩, 4) := ⟨⟨by decide +kernel, by decide +kernel⟩, List.mem_of_getElem? (i := 167) (by decide +kernel), List.mem_of_getElem? (i := 747) (by decide +kernel), List.mem_of_getElem? (i := 748) (by decide +kernel)⟩
theorem lw_p26 : lw_okq (⟨"MarketDays$Fair", "othersAt", "(II)I"⟩, 4) := ⟨⟨by decide +kernel, by decide +kernel⟩, List.mem_of_getElem? (i := 167) (by decide +kernel), List.mem_of_getElem? (i := 753) (by decide +kernel), List.mem_of_getElem? (i := 754) (by decide +kernel)⟩
theorem lw_p27 : lw_okq (⟨"MarketDays$Ways", "openDays", "(I)I"⟩, 9) := ⟨⟨by decide +kernel, by decide +kernel⟩, List.mem_of_getElem? (i := 192) (by decide +kernel), List.mem_of_getElem? (i := 794) (by decide +kernel), List.mem_of_getElem? (i := 795) (by decide +kernel)⟩
theorem lw_p28 : lw_okq (⟨"MarketDays$Finder", "weigh", "()I"⟩, 8) := ⟨⟨by decide +kernel, by decide +kernel⟩, List.mem_of_getElem? (i := 186) (by decide +kernel), List.mem_of_getElem? (i := 815) (by decide +kernel), List.mem_of_getElem? (i := 816) (by decide +kernel)⟩
theorem lw_p29 : lw_okq (⟨"MarketDays$Finder", "nearestOf", "(II)I"⟩, 8) := ⟨⟨by decide +kernel, by decide +kernel⟩, List.mem_of_getElem? (i := 186) (by decide +kernel), List.mem_of_getElem? (i := 819) (by decide +kernel), List.mem_of_getElem? (i := 820) (by decide +kernel)⟩
theorem lw_p30 : lw_okq (⟨"MarketDays$Finder", "weighDay", "(III)I"⟩, 8) := ⟨⟨by decide +kernel, by decide +kernel⟩, List.mem_of_getElem? (i := 186) (by decide +kernel), List.mem_of_getElem? (i := 825) (by decide +kernel), List.mem_of_getElem? (i := 826) (by decide +kernel)⟩
theorem lw_p31 : lw_okq (⟨"MarketDays$Finder", "score", "(ILMarketDays$Giving;)I"⟩, 8) := ⟨⟨by decide +kernel, by decide +kernel⟩, List.mem_of_getElem? (i := 186) (by decide +kernel), List.mem_of_getElem? (i := 835) (by decide +kernel), List.mem_of_getElem? (i := 836) (by decide +kernel)⟩
def lw_privs_2 : List (MethodName × Nat) := [(⟨"MarketDays$Law", "theRule", "()LMarketDays$Rule;"⟩, 5), (⟨"MarketDays$Law", "name", "(IIIIII)V"⟩, 5), (⟨"MarketDays", "sheetAt", "(I)LMarketDays$Sheet;"⟩, 11), (⟨"MarketDays", "mayTell", "(ILMarketDays$Sheet;)Z"⟩, 11), (⟨"MarketDays", "givingAt", "(I)LMarketDays$Giving;"⟩, 11), (⟨"MarketDays$Giving", "daysIn", "(LMarketDays$Land;II)I"⟩, 2), (⟨"MarketDays$Fair", "barsItself", "(I)Z"⟩, 4), (⟨"MarketDays$Fair", "bars", "(II)Z"⟩, 4), (⟨"MarketDays$Fair", "missesToFollow", "(II)Z"⟩, 4), (⟨"MarketDays$Fair", "hoursToMarket", "(II)I"⟩, 4), (⟨"MarketDays$Fair", "othersAt", "(II)I"⟩, 4), (⟨"MarketDays$Ways", "openDays", "(I)I"⟩, 9), (⟨"MarketDays$Finder", "weigh", "()I"⟩, 8), (⟨"MarketDays$Finder", "nearestOf", "(II)I"⟩, 8), (⟨"MarketDays$Finder", "weighDay", "(III)I"⟩, 8), (⟨"MarketDays$Finder", "score", "(ILMarketDays$Giving;)I"⟩, 8)]
theorem lw_r2 : ∀ q ∈ lw_privs_2, lw_okq q := List.forall_mem_cons.mpr ⟨lw_p16, List.forall_mem_cons.mpr ⟨lw_p17, List.forall_mem_cons.mpr ⟨lw_p18, List.forall_mem_cons.mpr ⟨lw_p19, List.forall_mem_cons.mpr ⟨lw_p20, List.forall_mem_cons.mpr ⟨lw_p21, List.forall_mem_cons.mpr ⟨lw_p22, List.forall_mem_cons.mpr ⟨lw_p23, List.forall_mem_cons.mpr ⟨lw_p24, List.forall_mem_cons.mpr ⟨lw_p25, List.forall_mem_cons.mpr ⟨lw_p26, List.forall_mem_cons.mpr ⟨lw_p27, List.forall_mem_cons.mpr ⟨lw_p28, List.forall_mem_cons.mpr ⟨lw_p29, List.forall_mem_cons.mpr ⟨lw_p30, List.forall_mem_cons.mpr ⟨lw_p31, fun _ h => absurd h List.not_mem_nil⟩⟩⟩⟩⟩⟩⟩⟩⟩⟩⟩⟩⟩⟩⟩⟩
theorem lw_p32 : lw_okq (⟨"MarketDays$Finder", "worthOfWay", "()I"⟩, 8) := ⟨⟨by decide +kernel, by decide +kernel⟩, List.mem_of_getElem? (i := 186) (by decide +kernel), List.mem_of_getElem? (i := 839) (by decide +kernel), List.mem_of_getElem? (i := 840) (by decide +kernel)⟩
theorem lw_p33 : lw_okq (⟨"MarketDays$Finder", "otherNumbers", "(LMarketDays$Giving;)I"⟩, 8) := ⟨⟨by decide +kernel, by decide +kernel⟩, List.mem_of_getElem? (i := 186) (by decide +kernel), List.mem_of_getElem? (i := 846) (by decide +kernel), List.mem_of_getElem? (i := 847) (by decide +kernel)⟩
theorem lw_p34 : lw_okq (⟨"MarketDays$Finder", "keepWay", "()V"⟩, 8) := ⟨⟨by decide +kernel, by decide +kernel⟩, List.mem_of_getElem? (i := 186) (by decide +kernel), List.mem_of_getElem? (i := 851) (by decide +kernel), List.mem_of_getElem? (i := 852) (by decide +kernel)⟩
theorem lw_p35 : lw_okq (⟨"MarketDays$Finder", "isWay", "(I)Z"⟩, 8) := ⟨⟨by decide +kernel, by decide +kernel⟩, List.mem_of_getElem? (i := 186) (by decide +kernel), List.mem_of_getElem? (i := 868) (by decide +kernel), List.mem_of_getElem? (i := 869) (by decide +kernel)⟩
theorem lw_p36 : lw_okq (⟨"MarketDays$Fair", "barsAny", "(I)Z"⟩, 4) := ⟨⟨by decide +kernel, by decide +kernel⟩, List.mem_of_getElem? (i := 167) (by decide +kernel), List.mem_of_getElem? (i := 888) (by decide +kernel), List.mem_of_getElem? (i := 889) (by decide +kernel)⟩
theorem lw_p37 : lw_okq (⟨"MarketDays", "isJourney", "(LMarketDays$Giving;III)Z"⟩, 11) := ⟨⟨by decide +kernel, by decide +kernel⟩, List.mem_of_getElem? (i := 22) (by decide +kernel), List.mem_of_getElem? (i := 905) (by decide +kernel), List.mem_of_getElem? (i := 906) (by decide +kernel)⟩
theorem lw_p38 : lw_okq (⟨"MarketDays$Pedlar", "mostFrom", "(IIII)I"⟩, 5) := ⟨⟨by decide +kernel, by decide +kernel⟩, List.mem_of_getElem? (i := 254) (by decide +kernel), List.mem_of_getElem? (i := 913) (by decide +kernel), List.mem_of_getElem? (i := 914) (by decide +kernel)⟩
theorem lw_p39 : lw_okq (⟨"MarketDays$Pedlar", "mostBeyond", "(III)I"⟩, 5) := ⟨⟨by decide +kernel, by decide +kernel⟩, List.mem_of_getElem? (i := 254) (by decide +kernel), List.mem_of_getElem? (i := 917) (by decide +kernel), List.mem_of_getElem? (i := 918) (by decide +kernel)⟩
theorem lw_p40 : lw_okq (⟨"MarketDays$Pedlar", "salesAt", "(II)I"⟩, 5) := ⟨⟨by decide +kernel, by decide +kernel⟩, List.mem_of_getElem? (i := 254) (by decide +kernel), List.mem_of_getElem? (i := 923) (by decide +kernel), List.mem_of_getElem? (i := 924) (by decide +kernel)⟩
theorem lw_p41 : lw_okq (⟨"MarketDays$Pedlar", "firstStop", "(IIII)I"⟩, 5) := ⟨⟨by decide +kernel, by decide +kernel⟩, List.mem_of_getElem? (i := 254) (by decide +kernel), List.mem_of_getElem? (i := 929) (by decide +kernel), List.mem_of_getElem? (i := 930) (by decide +kernel)⟩
theorem lw_p42 : lw_okq (⟨"MarketDays", "holdsTowns", "(LMarketDays$Sheet;)Z"⟩, 11) := ⟨⟨by decide +kernel, by decide +kernel⟩, List.mem_of_getElem? (i := 22) (by decide +kernel), List.mem_of_getElem? (i := 941) (by decide +kernel), List.mem_of_getElem? (i := 942) (by decide +kernel)⟩
theorem lw_p43 : lw_okq (⟨"MarketDays", "takenTown", "(II)I"⟩, 11) := ⟨⟨by decide +kernel, by decide +kernel⟩, List.mem_of_getElem? (i := 22) (by decide +kernel), List.mem_of_getElem? (i := 1003) (by decide +kernel), List.mem_of_getElem? (i := 1004) (by decide +kernel)⟩
theorem lw_p44 : lw_okq (⟨"MarketDays", "takenGiving", "(II)I"⟩, 11) := ⟨⟨by decide +kernel, by decide +kernel⟩, List.mem_of_getElem? (i := 22) (by decide +kernel), List.mem_of_getElem? (i := 1007) (by decide +kernel), List.mem_of_getElem? (i := 1008) (by decide +kernel)⟩
theorem lw_p45 : lw_okq (⟨"MarketDaysModel", "first", "(IIIII)V"⟩, 56) := ⟨⟨by decide +kernel, by decide +kernel⟩, List.mem_of_getElem? (i := 1012) (by decide +kernel), List.mem_of_getElem? (i := 1031) (by decide +kernel), List.mem_of_getElem? (i := 1032) (by decide +kernel)⟩
theorem lw_p46 : lw_okq (⟨"MarketDaysModel", "isTown", "(I)Z"⟩, 56) := ⟨⟨by decide +kernel, by decide +kernel⟩, List.mem_of_getElem? (i := 1012) (by decide +kernel), List.mem_of_getElem? (i := 1219) (by decide +kernel), List.mem_of_getElem? (i := 1220) (by decide +kernel)⟩
theorem lw_p47 : lw_okq (⟨"MarketDaysModel", "spreads", "()V"⟩, 56) := ⟨⟨by decide +kernel, by decide +kernel⟩, List.mem_of_getElem? (i := 1012) (by decide +kernel), List.mem_of_getElem? (i := 1227) (by decide +kernel), List.mem_of_getElem? (i := 1228) (by decide +kernel)⟩
def lw_privs_3 : List (MethodName × Nat) := [(⟨"MarketDays$Finder", "worthOfWay", "()I"⟩, 8), (⟨"MarketDays$Finder", "otherNumbers", "(LMarketDays$Giving;)I"⟩, 8), (⟨"MarketDays$Finder", "keepWay", "()V"⟩, 8), (⟨"MarketDays$Finder", "isWay", "(I)Z"⟩, 8), (⟨"MarketDays$Fair", "barsAny", "(I)Z"⟩, 4), (⟨"MarketDays", "isJourney", "(LMarketDays$Giving;III)Z"⟩, 11), (⟨"MarketDays$Pedlar", "mostFrom", "(IIII)I"⟩, 5), (⟨"MarketDays$Pedlar", "mostBeyond", "(III)I"⟩, 5), (⟨"MarketDays$Pedlar", "salesAt", "(II)I"⟩, 5), (⟨"MarketDays$Pedlar", "firstStop", "(IIII)I"⟩, 5), (⟨"MarketDays", "holdsTowns", "(LMarketDays$Sheet;)Z"⟩, 11), (⟨"MarketDays", "takenTown", "(II)I"⟩, 11), (⟨"MarketDays", "takenGiving", "(II)I"⟩, 11), (⟨"MarketDaysModel", "first", "(IIIII)V"⟩, 56), (⟨"MarketDaysModel", "isTown", "(I)Z"⟩, 56), (⟨"MarketDaysModel", "spreads", "()V"⟩, 56)]
theorem lw_r3 : ∀ q ∈ lw_privs_3, lw_okq q := List.forall_mem_cons.mpr ⟨lw_p32, List.forall_mem_cons.mpr ⟨lw_p33, List.forall_mem_cons.mpr ⟨lw_p34, List.forall_mem_cons.mpr ⟨lw_p35, List.forall_mem_cons.mpr ⟨lw_p36, List.forall_mem_cons.mpr ⟨lw_p37, List.forall_mem_cons.mpr ⟨lw_p38, List.forall_mem_cons.mpr ⟨lw_p39, List.forall_mem_cons.mpr ⟨lw_p40, List.forall_mem_cons.mpr ⟨lw_p41, List.forall_mem_cons.mpr ⟨lw_p42, List.forall_mem_cons.mpr ⟨lw_p43, List.forall_mem_cons.mpr ⟨lw_p44, List.forall_mem_cons.mpr ⟨lw_p45, List.forall_mem_cons.mpr ⟨lw_p46, List.forall_mem_cons.mpr ⟨lw_p47, fun _ h => absurd h List.not_mem_nil⟩⟩⟩⟩⟩⟩⟩⟩⟩⟩⟩⟩⟩⟩⟩⟩
theorem lw_p48 : lw_okq (⟨"MarketDaysModel", "next", "()V"⟩, 56) := ⟨⟨by decide +kernel, by decide +kernel⟩, List.mem_of_getElem? (i := 1012) (by decide +kernel), List.mem_of_getElem? (i := 1259) (by decide +kernel), List.mem_of_getElem? (i := 1260) (by decide +kernel)⟩
theorem lw_p49 : lw_okq (⟨"MarketDaysModel", "letters", "()J"⟩, 56) := ⟨⟨by decide +kernel, by decide +kernel⟩, List.mem_of_getElem? (i := 1012) (by decide +kernel), List.mem_of_getElem? (i := 1263) (by decide +kernel), List.mem_of_getElem? (i := 1264) (by decide +kernel)⟩
theorem lw_p50 : lw_okq (⟨"MarketDaysModel", "eRead", "()Z"⟩, 56) := ⟨⟨by decide +kernel, by decide +kernel⟩, List.mem_of_getElem? (i := 1012) (by decide +kernel), List.mem_of_getElem? (i := 1267) (by decide +kernel), List.mem_of_getElem? (i := 1268) (by decide +kernel)⟩
theorem lw_p51 : lw_okq (⟨"MarketDaysModel", "puts", "(I)V"⟩, 56) := ⟨⟨by decide +kernel, by decide +kernel⟩, List.mem_of_getElem? (i := 1012) (by decide +kernel), List.mem_of_getElem? (i := 1272) (by decide +kernel), List.mem_of_getElem? (i := 1273) (by decide +kernel)⟩
theorem lw_p52 : lw_okq (⟨"MarketDaysModel", "unwinds", "(I)V"⟩, 56) := ⟨⟨by decide +kernel, by decide +kernel⟩, List.mem_of_getElem? (i := 1012) (by decide +kernel), List.mem_of_getElem? (i := 1276) (by decide +kernel), List.mem_of_getElem? (i := 1277) (by decide +kernel)⟩
theorem lw_p53 : lw_okq (⟨"MarketDaysModel", "opensOne", "(I)Z"⟩, 56) := ⟨⟨by decide +kernel, by decide +kernel⟩, List.mem_of_getElem? (i := 1012) (by decide +kernel), List.mem_of_getElem? (i := 1283) (by decide +kernel), List.mem_of_getElem? (i := 1284) (by decide +kernel)⟩
theorem lw_p54 : lw_okq (⟨"MarketDaysModel", "holds", "(I)V"⟩, 56) := ⟨⟨by decide +kernel, by decide +kernel⟩, List.mem_of_getElem? (i := 1012) (by decide +kernel), List.mem_of_getElem? (i := 1287) (by decide +kernel), List.mem_of_getElem? (i := 1288) (by decide +kernel)⟩
theorem lw_p55 : lw_okq (⟨"MarketDaysModel", "signOf", "()I"⟩, 56) := ⟨⟨by decide +kernel, by decide +kernel⟩, List.mem_of_getElem? (i := 1012) (by decide +kernel), List.mem_of_getElem? (i := 1291) (by decide +kernel), List.mem_of_getElem? (i := 1292) (by decide +kernel)⟩
theorem lw_p56 : lw_okq (⟨"MarketDaysModel", "between", "(I)Z"⟩, 56) := ⟨⟨by decide +kernel, by decide +kernel⟩, List.mem_of_getElem? (i := 1012) (by decide +kernel), List.mem_of_getElem? (i := 1295) (by decide +kernel), List.mem_of_getElem? (i := 1296) (by decide +kernel)⟩
theorem lw_p57 : lw_okq (⟨"MarketDaysModel", "nearOf", "(II)I"⟩, 56) := ⟨⟨by decide +kernel, by decide +kernel⟩, List.mem_of_getElem? (i := 1012) (by decide +kernel), List.mem_of_getElem? (i := 1308) (by decide +kernel), List.mem_of_getElem? (i := 1309) (by decide +kernel)⟩
theorem lw_p58 : lw_okq (⟨"MarketDaysModel", "names", "(IIIII)V"⟩, 56) := ⟨⟨by decide +kernel, by decide +kernel⟩, List.mem_of_getElem? (i := 1012) (by decide +kernel), List.mem_of_getElem? (i := 1312) (by decide +kernel), List.mem_of_getElem? (i := 1313) (by decide +kernel)⟩
theorem lw_p59 : lw_okq (⟨"MarketDaysModel", "worth", "(I)I"⟩, 56) := ⟨⟨by decide +kernel, by decide +kernel⟩, List.mem_of_getElem? (i := 1012) (by decide +kernel), List.mem_of_getElem? (i := 1316) (by decide +kernel), List.mem_of_getElem? (i := 1317) (by decide +kernel)⟩
theorem lw_p60 : lw_okq (⟨"MarketDaysModel", "worthBy", "(IIII)I"⟩, 56) := ⟨⟨by decide +kernel, by decide +kernel⟩, List.mem_of_getElem? (i := 1012) (by decide +kernel), List.mem_of_getElem? (i := 1327) (by decide +kernel), List.mem_of_getElem? (i := 1328) (by decide +kernel)⟩
theorem lw_p61 : lw_okq (⟨"MarketDaysModel", "isNumber", "(II)Z"⟩, 56) := ⟨⟨by decide +kernel, by decide +kernel⟩, List.mem_of_getElem? (i := 1012) (by decide +kernel), List.mem_of_getElem? (i := 1335) (by decide +kernel), List.mem_of_getElem? (i := 1336) (by decide +kernel)⟩
theorem lw_p62 : lw_okq (⟨"MarketDaysModel", "isGiving", "(I)Z"⟩, 56) := ⟨⟨by decide +kernel, by decide +kernel⟩, List.mem_of_getElem? (i := 1012) (by decide +kernel), List.mem_of_getElem? (i := 1343) (by decide +kernel), List.mem_of_getElem? (i := 1344) (by decide +kernel)⟩
theorem lw_p63 : lw_okq (⟨"MarketDaysModel", "market", "(III)I"⟩, 56) := ⟨⟨by decide +kernel, by decide +kernel⟩, List.mem_of_getElem? (i := 1012) (by decide +kernel), List.mem_of_getElem? (i := 1347) (by decide +kernel), List.mem_of_getElem? (i := 1348) (by decide +kernel)⟩
def lw_privs_4 : List (MethodName × Nat) := [(⟨"MarketDaysModel", "next", "()V"⟩, 56), (⟨"MarketDaysModel", "letters", "()J"⟩, 56), (⟨"MarketDaysModel", "eRead", "()Z"⟩, 56), (⟨"MarketDaysModel", "puts", "(I)V"⟩, 56), (⟨"MarketDaysModel", "unwinds", "(I)V"⟩, 56), (⟨"MarketDaysModel", "opensOne", "(I)Z"⟩, 56), (⟨"MarketDaysModel", "holds", "(I)V"⟩, 56), (⟨"MarketDaysModel", "signOf", "()I"⟩, 56), (⟨"MarketDaysModel", "between", "(I)Z"⟩, 56), (⟨"MarketDaysModel", "nearOf", "(II)I"⟩, 56), (⟨"MarketDaysModel", "names", "(IIIII)V"⟩, 56), (⟨"MarketDaysModel", "worth", "(I)I"⟩, 56), (⟨"MarketDaysModel", "worthBy", "(IIII)I"⟩, 56), (⟨"MarketDaysModel", "isNumber", "(II)Z"⟩, 56), (⟨"MarketDaysModel", "isGiving", "(I)Z"⟩, 56), (⟨"MarketDaysModel", "market", "(III)I"⟩, 56)]
theorem lw_r4 : ∀ q ∈ lw_privs_4, lw_okq q := List.forall_mem_cons.mpr ⟨lw_p48, List.forall_mem_cons.mpr ⟨lw_p49, List.forall_mem_cons.mpr ⟨lw_p50, List.forall_mem_cons.mpr ⟨lw_p51, List.forall_mem_cons.mpr ⟨lw_p52, List.forall_mem_cons.mpr ⟨lw_p53, List.forall_mem_cons.mpr ⟨lw_p54, List.forall_mem_cons.mpr ⟨lw_p55, List.forall_mem_cons.mpr ⟨lw_p56, List.forall_mem_cons.mpr ⟨lw_p57, List.forall_mem_cons.mpr ⟨lw_p58, List.forall_mem_cons.mpr ⟨lw_p59, List.forall_mem_cons.mpr ⟨lw_p60, List.forall_mem_cons.mpr ⟨lw_p61, List.forall_mem_cons.mpr ⟨lw_p62, List.forall_mem_cons.mpr ⟨lw_p63, fun _ h => absurd h List.not_mem_nil⟩⟩⟩⟩⟩⟩⟩⟩⟩⟩⟩⟩⟩⟩⟩⟩
theorem lw_p64 : lw_okq (⟨"MarketDaysModel", "daysOf", "(III)I"⟩, 56) := ⟨⟨by decide +kernel, by decide +kernel⟩, List.mem_of_getElem? (i := 1012) (by decide +kernel), List.mem_of_getElem? (i := 1351) (by decide +kernel), List.mem_of_getElem? (i := 1352) (by decide +kernel)⟩
theorem lw_p65 : lw_okq (⟨"MarketDaysModel", "looks", "()V"⟩, 56) := ⟨⟨by decide +kernel, by decide +kernel⟩, List.mem_of_getElem? (i := 1012) (by decide +kernel), List.mem_of_getElem? (i := 1359) (by decide +kernel), List.mem_of_getElem? (i := 1360) (by decide +kernel)⟩
theorem lw_p66 : lw_okq (⟨"MarketDaysModel", "laysNow", "(II)V"⟩, 56) := ⟨⟨by decide +kernel, by decide +kernel⟩, List.mem_of_getElem? (i := 1012) (by decide +kernel), List.mem_of_getElem? (i := 1363) (by decide +kernel), List.mem_of_getElem? (i := 1364) (by decide +kernel)⟩
theorem lw_p67 : lw_okq (⟨"MarketDaysModel", "firstBar", "()I"⟩, 56) := ⟨⟨by decide +kernel, by decide +kernel⟩, List.mem_of_getElem? (i := 1012) (by decide +kernel), List.mem_of_getElem? (i := 1367) (by decide +kernel), List.mem_of_getElem? (i := 1368) (by decide +kernel)⟩
theorem lw_p68 : lw_okq (⟨"MarketDaysModel", "doBar", "(II)Z"⟩, 56) := ⟨⟨by decide +kernel, by decide +kernel⟩, List.mem_of_getElem? (i := 1012) (by decide +kernel), List.mem_of_getElem? (i := 1371) (by decide +kernel), List.mem_of_getElem? (i := 1372) (by decide +kernel)⟩
theorem lw_p69 : lw_okq (⟨"MarketDaysModel", "follows", "(II)Z"⟩, 56) := ⟨⟨by decide +kernel, by decide +kernel⟩, List.mem_of_getElem? (i := 1012) (by decide +kernel), List.mem_of_getElem? (i := 1375) (by decide +kernel), List.mem_of_getElem? (i := 1376) (by decide +kernel)⟩
theorem lw_p70 : lw_okq (⟨"MarketDaysModel", "worthAll", "(II)I"⟩, 56) := ⟨⟨by decide +kernel, by decide +kernel⟩, List.mem_of_getElem? (i := 1012) (by decide +kernel), List.mem_of_getElem? (i := 1387) (by decide +kernel), List.mem_of_getElem? (i := 1388) (by decide +kernel)⟩
theorem lw_p71 : lw_okq (⟨"MarketDaysModel", "worthIn", "(II)I"⟩, 56) := ⟨⟨by decide +kernel, by decide +kernel⟩, List.mem_of_getElem? (i := 1012) (by decide +kernel), List.mem_of_getElem? (i := 1391) (by decide +kernel), List.mem_of_getElem? (i := 1392) (by decide +kernel)⟩
theorem lw_p72 : lw_okq (⟨"MarketDaysModel", "worthNow", "(I)I"⟩, 56) := ⟨⟨by decide +kernel, by decide +kernel⟩, List.mem_of_getElem? (i := 1012) (by decide +kernel), List.mem_of_getElem? (i := 1395) (by decide +kernel), List.mem_of_getElem? (i := 1396) (by decide +kernel)⟩
theorem lw_p73 : lw_okq (⟨"MarketDaysModel", "all", "()I"⟩, 56) := ⟨⟨by decide +kernel, by decide +kernel⟩, List.mem_of_getElem? (i := 1012) (by decide +kernel), List.mem_of_getElem? (i := 1407) (by decide +kernel), List.mem_of_getElem? (i := 1408) (by decide +kernel)⟩
theorem lw_p74 : lw_okq (⟨"MarketDaysModel", "nextWay", "(IZ)Z"⟩, 56) := ⟨⟨by decide +kernel, by decide +kernel⟩, List.mem_of_getElem? (i := 1012) (by decide +kernel), List.mem_of_getElem? (i := 1411) (by decide +kernel), List.mem_of_getElem? (i := 1412) (by decide +kernel)⟩
theorem lw_p75 : lw_okq (⟨"MarketDaysModel", "isFree", "(I)Z"⟩, 56) := ⟨⟨by decide +kernel, by decide +kernel⟩, List.mem_of_getElem? (i := 1012) (by decide +kernel), List.mem_of_getElem? (i := 1415) (by decide +kernel), List.mem_of_getElem? (i := 1416) (by decide +kernel)⟩
theorem lw_p76 : lw_okq (⟨"MarketDaysModel", "worthWay", "()I"⟩, 56) := ⟨⟨by decide +kernel, by decide +kernel⟩, List.mem_of_getElem? (i := 1012) (by decide +kernel), List.mem_of_getElem? (i := 1423) (by decide +kernel), List.mem_of_getElem? (i := 1424) (by decide +kernel)⟩
theorem lw_p77 : lw_okq (⟨"MarketDaysModel", "keptWorth", "(IIII)I"⟩, 56) := ⟨⟨by decide +kernel, by decide +kernel⟩, List.mem_of_getElem? (i := 1012) (by decide +kernel), List.mem_of_getElem? (i := 1430) (by decide +kernel), List.mem_of_getElem? (i := 1431) (by decide +kernel)⟩
theorem lw_p78 : lw_okq (⟨"MarketDaysModel", "others", "(I)I"⟩, 56) := ⟨⟨by decide +kernel, by decide +kernel⟩, List.mem_of_getElem? (i := 1012) (by decide +kernel), List.mem_of_getElem? (i := 1434) (by decide +kernel), List.mem_of_getElem? (i := 1435) (by decide +kernel)⟩
theorem lw_p79 : lw_okq (⟨"MarketDaysModel", "keeps", "()V"⟩, 56) := ⟨⟨by decide +kernel, by decide +kernel⟩, List.mem_of_getElem? (i := 1012) (by decide +kernel), List.mem_of_getElem? (i := 1438) (by decide +kernel), List.mem_of_getElem? (i := 1439) (by decide +kernel)⟩
def lw_privs_5 : List (MethodName × Nat) := [(⟨"MarketDaysModel", "daysOf", "(III)I"⟩, 56), (⟨"MarketDaysModel", "looks", "()V"⟩, 56), (⟨"MarketDaysModel", "laysNow", "(II)V"⟩, 56), (⟨"MarketDaysModel", "firstBar", "()I"⟩, 56), (⟨"MarketDaysModel", "doBar", "(II)Z"⟩, 56), (⟨"MarketDaysModel", "follows", "(II)Z"⟩, 56), (⟨"MarketDaysModel", "worthAll", "(II)I"⟩, 56), (⟨"MarketDaysModel", "worthIn", "(II)I"⟩, 56), (⟨"MarketDaysModel", "worthNow", "(I)I"⟩, 56), (⟨"MarketDaysModel", "all", "()I"⟩, 56), (⟨"MarketDaysModel", "nextWay", "(IZ)Z"⟩, 56), (⟨"MarketDaysModel", "isFree", "(I)Z"⟩, 56), (⟨"MarketDaysModel", "worthWay", "()I"⟩, 56), (⟨"MarketDaysModel", "keptWorth", "(IIII)I"⟩, 56), (⟨"MarketDaysModel", "others", "(I)I"⟩, 56), (⟨"MarketDaysModel", "keeps", "()V"⟩, 56)]
theorem lw_r5 : ∀ q ∈ lw_privs_5, lw_okq q := List.forall_mem_cons.mpr ⟨lw_p64, List.forall_mem_cons.mpr ⟨lw_p65, List.forall_mem_cons.mpr ⟨lw_p66, List.forall_mem_cons.mpr ⟨lw_p67, List.forall_mem_cons.mpr ⟨lw_p68, List.forall_mem_cons.mpr ⟨lw_p69, List.forall_mem_cons.mpr ⟨lw_p70, List.forall_mem_cons.mpr ⟨lw_p71, List.forall_mem_cons.mpr ⟨lw_p72, List.forall_mem_cons.mpr ⟨lw_p73, List.forall_mem_cons.mpr ⟨lw_p74, List.forall_mem_cons.mpr ⟨lw_p75, List.forall_mem_cons.mpr ⟨lw_p76, List.forall_mem_cons.mpr ⟨lw_p77, List.forall_mem_cons.mpr ⟨lw_p78, List.forall_mem_cons.mpr ⟨lw_p79, fun _ h => absurd h List.not_mem_nil⟩⟩⟩⟩⟩⟩⟩⟩⟩⟩⟩⟩⟩⟩⟩⟩
theorem lw_p80 : lw_okq (⟨"MarketDaysModel", "soldBy", "(IIIIII)I"⟩, 56) := ⟨⟨by decide +kernel, by decide +kernel⟩, List.mem_of_getElem? (i := 1012) (by decide +kernel), List.mem_of_getElem? (i := 1470) (by decide +kernel), List.mem_of_getElem? (i := 1471) (by decide +kernel)⟩
theorem lw_p81 : lw_okq (⟨"MarketDaysModel", "sold", "(III)I"⟩, 56) := ⟨⟨by decide +kernel, by decide +kernel⟩, List.mem_of_getElem? (i := 1012) (by decide +kernel), List.mem_of_getElem? (i := 1474) (by decide +kernel), List.mem_of_getElem? (i := 1475) (by decide +kernel)⟩
def lw_privs_6 : List (MethodName × Nat) := [(⟨"MarketDaysModel", "soldBy", "(IIIIII)I"⟩, 56), (⟨"MarketDaysModel", "sold", "(III)I"⟩, 56)]
theorem lw_r6 : ∀ q ∈ lw_privs_6, lw_okq q := List.forall_mem_cons.mpr ⟨lw_p80, List.forall_mem_cons.mpr ⟨lw_p81, fun _ h => absurd h List.not_mem_nil⟩⟩
def lw_privs : List (MethodName × Nat) := lw_privs_1 ++ (lw_privs_2 ++ (lw_privs_3 ++ (lw_privs_4 ++ (lw_privs_5 ++ (lw_privs_6)))))
def lw_tbl : List Cond := k2_sels lw_privs ++ tables_1
theorem lw_privs_ok : ∀ q ∈ lw_privs, lw_okq q := by
  show ∀ q ∈ lw_privs_1 ++ (lw_privs_2 ++ (lw_privs_3 ++ (lw_privs_4 ++ (lw_privs_5 ++ (lw_privs_6))))), lw_okq q
  exact List.forall_mem_append.mpr ⟨lw_r1, List.forall_mem_append.mpr ⟨lw_r2, List.forall_mem_append.mpr ⟨lw_r3, List.forall_mem_append.mpr ⟨lw_r4, List.forall_mem_append.mpr ⟨lw_r5, lw_r6⟩⟩⟩⟩⟩
-- ===== end of PART A; then your names; then what follows =====
end
section
/-! names: classes by number, their fields in the order of the slots, methods (name, code, maxLocals, type of the answer), links by their places in the tables -/
abbrev Mth : Type := MethodName × ByteArray × Nat × Option FieldType
def FF_MD : u_T := fun k => match k with
  | 0 => ("MarketDays", "land", "LMarketDays$Land;", true)
  | 1 => ("MarketDays", "kept", "LMarketDays$Land;", true)
  | 2 => ("MarketDays", "imageKept", "Z", false)
  | 3 => ("MarketDays", "tape", "LMarketDays$Tape;", true)
  | 4 => ("MarketDays", "law", "LMarketDays$Law;", true)
  | 5 => ("MarketDays", "givings", "[LMarketDays$Giving;", true)
  | 6 => ("MarketDays", "givingsMade", "I", false)
  | 7 => ("MarketDays", "fair", "LMarketDays$Fair;", true)
  | 8 => ("MarketDays", "finder", "LMarketDays$Finder;", true)
  | 9 => ("MarketDays", "pedlar", "LMarketDays$Pedlar;", true)
  | _ => ("MarketDays", "sheets", "[LMarketDays$Sheet;", true)
def FF_Fair : u_T := fun k => match k with
  | 0 => ("MarketDays$Fair", "land", "LMarketDays$Land;", true)
  | 1 => ("MarketDays$Fair", "law", "LMarketDays$Law;", true)
  | 2 => ("MarketDays$Fair", "markets", "[I", true)
  | _ => ("MarketDays$Fair", "giving", "LMarketDays$Giving;", false)
def FF_Finder : u_T := fun k => match k with
  | 0 => ("MarketDays$Finder", "land", "LMarketDays$Land;", true)
  | 1 => ("MarketDays$Finder", "law", "LMarketDays$Law;", true)
  | 2 => ("MarketDays$Finder", "ways", "LMarketDays$Ways;", true)
  | 3 => ("MarketDays$Finder", "found", "[I", true)
  | 4 => ("MarketDays$Finder", "foundTowns", "I", false)
  | 5 => ("MarketDays$Finder", "worths", "[I", true)
  | 6 => ("MarketDays$Finder", "nearest", "[I", true)
  | _ => ("MarketDays$Finder", "there", "[I", true)
def FF_Giving : u_T := fun k => match k with
  | 0 => ("MarketDays$Giving", "kind", "I", true)
  | _ => ("MarketDays$Giving", "numbers", "[I", true)
def FF_Land : u_T := fun k => match k with
  | 0 => ("MarketDays$Land", "sizes", "[I", true)
  | 1 => ("MarketDays$Land", "allowed", "[I", true)
  | 2 => ("MarketDays$Land", "wishes", "[I", true)
  | 3 => ("MarketDays$Land", "leaders", "[I", true)
  | 4 => ("MarketDays$Land", "laid", "[[I", true)
  | 5 => ("MarketDays$Land", "between", "[[I", true)
  | 6 => ("MarketDays$Land", "feastWeeks", "[I", true)
  | 7 => ("MarketDays$Land", "feastDays", "[I", true)
  | 8 => ("MarketDays$Land", "towns", "I", false)
  | 9 => ("MarketDays$Land", "days", "I", false)
  | 10 => ("MarketDays$Land", "feasts", "I", false)
  | _ => ("MarketDays$Land", "rule", "I", false)
def FF_Law : u_T := fun k => match k with
  | 0 => ("MarketDays$Law", "land", "LMarketDays$Land;", true)
  | 1 => ("MarketDays$Law", "texts", "[LMarketDays$Rule;", true)
  | 2 => ("MarketDays$Law", "learnt", "I", false)
  | 3 => ("MarketDays$Law", "names", "[I", true)
  | _ => ("MarketDays$Law", "stack", "[I", true)
def FF_Pedlar : u_T := fun k => match k with
  | 0 => ("MarketDays$Pedlar", "land", "LMarketDays$Land;", true)
  | 1 => ("MarketDays$Pedlar", "fair", "LMarketDays$Fair;", true)
  | 2 => ("MarketDays$Pedlar", "stops", "[I", true)
  | 3 => ("MarketDays$Pedlar", "roundDays", "I", false)
  | _ => ("MarketDays$Pedlar", "most", "[I", true)
def FF_Rule : u_T := fun k => match k with
  | 0 => ("MarketDays$Rule", "near", "[I", true)
  | _ => ("MarketDays$Rule", "worth", "[I", true)
def FF_Sheet : u_T := fun k => match k with
  | 0 => ("MarketDays$Sheet", "cells", "[I", true)
  | 1 => ("MarketDays$Sheet", "sort", "I", false)
  | _ => ("MarketDays$Sheet", "size", "I", false)
def FF_Tape : u_T := fun k => match k with
  | 0 => ("MarketDays$Tape", "bytes", "[I", true)
  | 1 => ("MarketDays$Tape", "size", "I", false)
  | 2 => ("MarketDays$Tape", "fault", "I", false)
  | 3 => ("MarketDays$Tape", "at", "I", false)
  | 4 => ("MarketDays$Tape", "start", "I", false)
  | 5 => ("MarketDays$Tape", "token", "I", false)
  | 6 => ("MarketDays$Tape", "number", "I", false)
  | 7 => ("MarketDays$Tape", "open", "I", false)
  | 8 => ("MarketDays$Tape", "steps", "[I", true)
  | _ => ("MarketDays$Tape", "written", "I", false)
def FF_Ways : u_T := fun k => match k with
  | 0 => ("MarketDays$Ways", "land", "LMarketDays$Land;", true)
  | 1 => ("MarketDays$Ways", "law", "LMarketDays$Law;", true)
  | 2 => ("MarketDays$Ways", "days", "I", false)
  | 3 => ("MarketDays$Ways", "near", "[I", true)
  | 4 => ("MarketDays$Ways", "part", "[I", true)
  | 5 => ("MarketDays$Ways", "parts", "I", false)
  | 6 => ("MarketDays$Ways", "untried", "[I", true)
  | 7 => ("MarketDays$Ways", "day", "[I", true)
  | _ => ("MarketDays$Ways", "begun", "Z", false)
def FF_MM : u_T := fun k => match k with
  | 0 => ("MarketDaysModel", "towns", "I", false)
  | 1 => ("MarketDaysModel", "size", "[I", true)
  | 2 => ("MarketDaysModel", "may", "[I", true)
  | 3 => ("MarketDaysModel", "wish", "[I", true)
  | 4 => ("MarketDaysModel", "behind", "[I", true)
  | 5 => ("MarketDaysModel", "road", "[I", true)
  | 6 => ("MarketDaysModel", "week", "I", false)
  | 7 => ("MarketDaysModel", "feasts", "I", false)
  | 8 => ("MarketDaysModel", "feastWeek", "[I", true)
  | 9 => ("MarketDaysModel", "feastDay", "[I", true)
  | 10 => ("MarketDaysModel", "tape", "[I", true)
  | 11 => ("MarketDaysModel", "taped", "I", false)
  | 12 => ("MarketDaysModel", "codes", "[I", true)
  | 13 => ("MarketDaysModel", "starts", "[I", true)
  | 14 => ("MarketDaysModel", "texts", "I", false)
  | 15 => ("MarketDaysModel", "rule", "I", false)
  | 16 => ("MarketDaysModel", "givings", "I", false)
  | 17 => ("MarketDaysModel", "kind", "[I", true)
  | 18 => ("MarketDaysModel", "many", "[I", true)
  | 19 => ("MarketDaysModel", "day", "[I", true)
  | 20 => ("MarketDaysModel", "wasFound", "Z", false)
  | 21 => ("MarketDaysModel", "foundTowns", "I", false)
  | 22 => ("MarketDaysModel", "found", "[I", true)
  | 23 => ("MarketDaysModel", "roundDays", "I", false)
  | 24 => ("MarketDaysModel", "roundAt", "[I", true)
  | 25 => ("MarketDaysModel", "hasImage", "Z", false)
  | 26 => ("MarketDaysModel", "imageTowns", "I", false)
  | 27 => ("MarketDaysModel", "imageWeek", "I", false)
  | 28 => ("MarketDaysModel", "imageFeasts", "I", false)
  | 29 => ("MarketDaysModel", "imageRule", "I", false)
  | 30 => ("MarketDaysModel", "imageMay", "[I", true)
  | 31 => ("MarketDaysModel", "imageWish", "[I", true)
  | 32 => ("MarketDaysModel", "imageBehind", "[I", true)
  | 33 => ("MarketDaysModel", "imageRoad", "[I", true)
  | 34 => ("MarketDaysModel", "imageFeastWeek", "[I", true)
  | 35 => ("MarketDaysModel", "imageFeastDay", "[I", true)
  | 36 => ("MarketDaysModel", "sheetSort", "[I", true)
  | 37 => ("MarketDaysModel", "sheetSize", "[I", true)
  | 38 => ("MarketDaysModel", "cells", "[I", true)
  | 39 => ("MarketDaysModel", "far", "[I", true)
  | 40 => ("MarketDaysModel", "at", "I", false)
  | 41 => ("MarketDaysModel", "begun", "I", false)
  | 42 => ("MarketDaysModel", "token", "I", false)
  | 43 => ("MarketDaysModel", "value", "I", false)
  | 44 => ("MarketDaysModel", "words", "[J", true)
  | 45 => ("MarketDaysModel", "held", "[I", true)
  | 46 => ("MarketDaysModel", "heldMany", "I", false)
  | 47 => ("MarketDaysModel", "opens", "I", false)
  | 48 => ("MarketDaysModel", "out", "I", false)
  | 49 => ("MarketDaysModel", "stack", "[I", true)
  | 50 => ("MarketDaysModel", "named", "[I", true)
  | 51 => ("MarketDaysModel", "near", "[Z", true)
  | 52 => ("MarketDaysModel", "now", "[I", true)
  | 53 => ("MarketDaysModel", "kept", "[I", true)
  | 54 => ("MarketDaysModel", "isKept", "[Z", true)
  | _ => ("MarketDaysModel", "most", "[I", true)
abbrev cls_tbl : List vw_C := [("MarketDays", FF_MD, 11), ("MarketDays$Fair", FF_Fair, 4), ("MarketDays$Finder", FF_Finder, 8), ("MarketDays$Giving", FF_Giving, 2), ("MarketDays$Land", FF_Land, 12), ("MarketDays$Law", FF_Law, 5), ("MarketDays$Pedlar", FF_Pedlar, 5), ("MarketDays$Rule", FF_Rule, 2), ("MarketDays$Sheet", FF_Sheet, 3), ("MarketDays$Tape", FF_Tape, 10), ("MarketDays$Ways", FF_Ways, 9), ("MarketDaysModel", FF_MM, 56)]
/-- the type code of field k of class c: 0 an int, 1 a long, 2 a reference -/
def ftc (c k : Nat) : Nat := match (cls_tbl.getD c ("", (fun _ => ("", "", "I", false)), 0)).2.1 k with
  | (_, _, d, _) => match d with
    | "I" => 0
    | "Z" => 0
    | "J" => 1
    | _ => 2
/-- the words that every method takes along -/
def gtbl : List Cond := lw_tbl.filter goodWord
theorem in_t1 {i : Nat} {w : Cond} (h : tables_1_1[i]? = some w) (hg : goodWord w = true) : w ∈ gtbl := List.mem_filter.mpr ⟨List.mem_append_right _ (show w ∈ tables_1_1 ++ (tables_1_2 ++ (tables_1_3 ++ (tables_1_4 ++ (tables_1_5 ++ (tables_1_6 ++ tables_1_7))))) from List.mem_append_left _ (List.mem_of_getElem? h)), hg⟩
theorem in_u1 {i : Nat} {w : Cond} (h : tables_1_1[i]? = some w) : w ∈ lw_tbl := List.mem_append_right _ (show w ∈ tables_1_1 ++ (tables_1_2 ++ (tables_1_3 ++ (tables_1_4 ++ (tables_1_5 ++ (tables_1_6 ++ tables_1_7))))) from List.mem_append_left _ (List.mem_of_getElem? h))
theorem in_t2 {i : Nat} {w : Cond} (h : tables_1_2[i]? = some w) (hg : goodWord w = true) : w ∈ gtbl := List.mem_filter.mpr ⟨List.mem_append_right _ (show w ∈ tables_1_1 ++ (tables_1_2 ++ (tables_1_3 ++ (tables_1_4 ++ (tables_1_5 ++ (tables_1_6 ++ tables_1_7))))) from List.mem_append_right _ (List.mem_append_left _ (List.mem_of_getElem? h))), hg⟩
theorem in_u2 {i : Nat} {w : Cond} (h : tables_1_2[i]? = some w) : w ∈ lw_tbl := List.mem_append_right _ (show w ∈ tables_1_1 ++ (tables_1_2 ++ (tables_1_3 ++ (tables_1_4 ++ (tables_1_5 ++ (tables_1_6 ++ tables_1_7))))) from List.mem_append_right _ (List.mem_append_left _ (List.mem_of_getElem? h)))
theorem in_t3 {i : Nat} {w : Cond} (h : tables_1_3[i]? = some w) (hg : goodWord w = true) : w ∈ gtbl := List.mem_filter.mpr ⟨List.mem_append_right _ (show w ∈ tables_1_1 ++ (tables_1_2 ++ (tables_1_3 ++ (tables_1_4 ++ (tables_1_5 ++ (tables_1_6 ++ tables_1_7))))) from List.mem_append_right _ (List.mem_append_right _ (List.mem_append_left _ (List.mem_of_getElem? h)))), hg⟩
theorem in_u3 {i : Nat} {w : Cond} (h : tables_1_3[i]? = some w) : w ∈ lw_tbl := List.mem_append_right _ (show w ∈ tables_1_1 ++ (tables_1_2 ++ (tables_1_3 ++ (tables_1_4 ++ (tables_1_5 ++ (tables_1_6 ++ tables_1_7))))) from List.mem_append_right _ (List.mem_append_right _ (List.mem_append_left _ (List.mem_of_getElem? h))))
theorem in_t4 {i : Nat} {w : Cond} (h : tables_1_4[i]? = some w) (hg : goodWord w = true) : w ∈ gtbl := List.mem_filter.mpr ⟨List.mem_append_right _ (show w ∈ tables_1_1 ++ (tables_1_2 ++ (tables_1_3 ++ (tables_1_4 ++ (tables_1_5 ++ (tables_1_6 ++ tables_1_7))))) from List.mem_append_right _ (List.mem_append_right _ (List.mem_append_right _ (List.mem_append_left _ (List.mem_of_getElem? h))))), hg⟩
theorem in_u4 {i : Nat} {w : Cond} (h : tables_1_4[i]? = some w) : w ∈ lw_tbl := List.mem_append_right _ (show w ∈ tables_1_1 ++ (tables_1_2 ++ (tables_1_3 ++ (tables_1_4 ++ (tables_1_5 ++ (tables_1_6 ++ tables_1_7))))) from List.mem_append_right _ (List.mem_append_right _ (List.mem_append_right _ (List.mem_append_left _ (List.mem_of_getElem? h)))))
theorem in_t5 {i : Nat} {w : Cond} (h : tables_1_5[i]? = some w) (hg : goodWord w = true) : w ∈ gtbl := List.mem_filter.mpr ⟨List.mem_append_right _ (show w ∈ tables_1_1 ++ (tables_1_2 ++ (tables_1_3 ++ (tables_1_4 ++ (tables_1_5 ++ (tables_1_6 ++ tables_1_7))))) from List.mem_append_right _ (List.mem_append_right _ (List.mem_append_right _ (List.mem_append_right _ (List.mem_append_left _ (List.mem_of_getElem? h)))))), hg⟩
theorem in_u5 {i : Nat} {w : Cond} (h : tables_1_5[i]? = some w) : w ∈ lw_tbl := List.mem_append_right _ (show w ∈ tables_1_1 ++ (tables_1_2 ++ (tables_1_3 ++ (tables_1_4 ++ (tables_1_5 ++ (tables_1_6 ++ tables_1_7))))) from List.mem_append_right _ (List.mem_append_right _ (List.mem_append_right _ (List.mem_append_right _ (List.mem_append_left _ (List.mem_of_getElem? h))))))
theorem in_t6 {i : Nat} {w : Cond} (h : tables_1_6[i]? = some w) (hg : goodWord w = true) : w ∈ gtbl := List.mem_filter.mpr ⟨List.mem_append_right _ (show w ∈ tables_1_1 ++ (tables_1_2 ++ (tables_1_3 ++ (tables_1_4 ++ (tables_1_5 ++ (tables_1_6 ++ tables_1_7))))) from List.mem_append_right _ (List.mem_append_right _ (List.mem_append_right _ (List.mem_append_right _ (List.mem_append_right _ (List.mem_append_left _ (List.mem_of_getElem? h))))))), hg⟩
theorem in_u6 {i : Nat} {w : Cond} (h : tables_1_6[i]? = some w) : w ∈ lw_tbl := List.mem_append_right _ (show w ∈ tables_1_1 ++ (tables_1_2 ++ (tables_1_3 ++ (tables_1_4 ++ (tables_1_5 ++ (tables_1_6 ++ tables_1_7))))) from List.mem_append_right _ (List.mem_append_right _ (List.mem_append_right _ (List.mem_append_right _ (List.mem_append_right _ (List.mem_append_left _ (List.mem_of_getElem? h)))))))
theorem in_t7 {i : Nat} {w : Cond} (h : tables_1_7[i]? = some w) (hg : goodWord w = true) : w ∈ gtbl := List.mem_filter.mpr ⟨List.mem_append_right _ (show w ∈ tables_1_1 ++ (tables_1_2 ++ (tables_1_3 ++ (tables_1_4 ++ (tables_1_5 ++ (tables_1_6 ++ tables_1_7))))) from List.mem_append_right _ (List.mem_append_right _ (List.mem_append_right _ (List.mem_append_right _ (List.mem_append_right _ (List.mem_append_right _ (List.mem_of_getElem? h))))))), hg⟩
theorem in_u7 {i : Nat} {w : Cond} (h : tables_1_7[i]? = some w) : w ∈ lw_tbl := List.mem_append_right _ (show w ∈ tables_1_1 ++ (tables_1_2 ++ (tables_1_3 ++ (tables_1_4 ++ (tables_1_5 ++ (tables_1_6 ++ tables_1_7))))) from List.mem_append_right _ (List.mem_append_right _ (List.mem_append_right _ (List.mem_append_right _ (List.mem_append_right _ (List.mem_append_right _ (List.mem_of_getElem? h)))))))
theorem in_sel {i : Nat} {q : MethodName × Nat} (h : lw_privs[i]? = some q) : Cond.selects q.1.cls q.1 q.1 ∈ gtbl := List.mem_filter.mpr ⟨List.mem_append_left _ (List.mem_map_of_mem (List.mem_of_getElem? h)), rfl⟩
/-- what every call of y asks of the tables -/
def MF (y : Mth) (n : Nat) : Prop := Cond.code y.1 y.2.1 y.2.2.1 y.2.2.2 ∈ gtbl ∧ Cond.initialized y.1.cls ∈ gtbl ∧ (y.1.cls ≠ "java/lang/invoke/MethodHandle" ∧ y.1.cls ≠ "java/lang/invoke/VarHandle") ∧ (parseMethodDescriptor y.1.desc).map (fun d => d.parameters.length) = some n ∧ plainName y.1.cls = true ∧ y.2.2.1 ≤ 12
def MFv (y : Mth) (n : Nat) : Prop := MF y n ∧ Cond.instanceMethod y.1 ∈ gtbl ∧ Cond.selects y.1.cls y.1 y.1 ∈ gtbl
def MFs (y : Mth) (n : Nat) : Prop := MF y n ∧ Cond.static y.1 ∈ gtbl
def MFi (y : Mth) (n : Nat) : Prop := MF y n ∧ Cond.instanceMethod y.1 ∈ gtbl ∧ y.1.name = "<init>"
def m_MD_init : Mth := (⟨"MarketDays", "<init>", "()V"⟩, prog_1_method_1_code, 2, none)
theorem F_MD_init : MFi m_MD_init 0 := ⟨⟨in_t1 (i := 25) rfl rfl, in_t1 (i := 1) rfl rfl, ⟨by decide +kernel, by decide +kernel⟩, by decide +kernel, by decide +kernel, by decide +kernel⟩, in_t1 (i := 24) rfl rfl, rfl⟩
def m_Land_init : Mth := (⟨"MarketDays$Land", "<init>", "()V"⟩, prog_5_method_1_code, 1, none)
theorem F_Land_init : MFi m_Land_init 0 := ⟨⟨in_t1 (i := 33) rfl rfl, in_t1 (i := 2) rfl rfl, ⟨by decide +kernel, by decide +kernel⟩, by decide +kernel, by decide +kernel, by decide +kernel⟩, in_t1 (i := 32) rfl rfl, rfl⟩
def m_Tape_init : Mth := (⟨"MarketDays$Tape", "<init>", "()V"⟩, prog_10_method_1_code, 1, none)
theorem F_Tape_init : MFi m_Tape_init 0 := ⟨⟨in_t1 (i := 104) rfl rfl, in_t1 (i := 3) rfl rfl, ⟨by decide +kernel, by decide +kernel⟩, by decide +kernel, by decide +kernel, by decide +kernel⟩, in_t1 (i := 103) rfl rfl, rfl⟩
def m_Law_init : Mth := (⟨"MarketDays$Law", "<init>", "(LMarketDays$Land;)V"⟩, prog_6_method_1_code, 2, none)
theorem F_Law_init : MFi m_Law_init 1 := ⟨⟨in_t1 (i := 143) rfl rfl, in_t1 (i := 4) rfl rfl, ⟨by decide +kernel, by decide +kernel⟩, by decide +kernel, by decide +kernel, by decide +kernel⟩, in_t1 (i := 142) rfl rfl, rfl⟩
def m_Fair_init : Mth := (⟨"MarketDays$Fair", "<init>", "(LMarketDays$Land;LMarketDays$Law;)V"⟩, prog_2_method_1_code, 3, none)
theorem F_Fair_init : MFi m_Fair_init 2 := ⟨⟨in_t1 (i := 170) rfl rfl, in_t1 (i := 5) rfl rfl, ⟨by decide +kernel, by decide +kernel⟩, by decide +kernel, by decide +kernel, by decide +kernel⟩, in_t1 (i := 169) rfl rfl, rfl⟩
def m_Finder_init : Mth := (⟨"MarketDays$Finder", "<init>", "(LMarketDays$Land;LMarketDays$Law;)V"⟩, prog_3_method_1_code, 3, none)
theorem F_Finder_init : MFi m_Finder_init 2 := ⟨⟨in_t1 (i := 189) rfl rfl, in_t1 (i := 6) rfl rfl, ⟨by decide +kernel, by decide +kernel⟩, by decide +kernel, by decide +kernel, by decide +kernel⟩, in_t1 (i := 188) rfl rfl, rfl⟩
def m_Ways_init : Mth := (⟨"MarketDays$Ways", "<init>", "(LMarketDays$Land;LMarketDays$Law;)V"⟩, prog_11_method_1_code, 3, none)
theorem F_Ways_init : MFi m_Ways_init 2 := ⟨⟨in_t1 (i := 195) rfl rfl, in_t1 (i := 7) rfl rfl, ⟨by decide +kernel, by decide +kernel⟩, by decide +kernel, by decide +kernel, by decide +kernel⟩, in_t1 (i := 194) rfl rfl, rfl⟩
def m_Pedlar_init : Mth := (⟨"MarketDays$Pedlar", "<init>", "(LMarketDays$Land;LMarketDays$Fair;)V"⟩, prog_7_method_1_code, 3, none)
theorem F_Pedlar_init : MFi m_Pedlar_init 2 := ⟨⟨in_t2 (i := 17) rfl rfl, in_t1 (i := 8) rfl rfl, ⟨by decide +kernel, by decide +kernel⟩, by decide +kernel, by decide +kernel, by decide +kernel⟩, in_t2 (i := 16) rfl rfl, rfl⟩
def m_Sheet_init : Mth := (⟨"MarketDays$Sheet", "<init>", "()V"⟩, prog_9_method_1_code, 1, none)
theorem F_Sheet_init : MFi m_Sheet_init 0 := ⟨⟨in_t2 (i := 42) rfl rfl, in_t1 (i := 9) rfl rfl, ⟨by decide +kernel, by decide +kernel⟩, by decide +kernel, by decide +kernel, by decide +kernel⟩, in_t2 (i := 41) rfl rfl, rfl⟩
def m_String_length : Mth := (⟨"java/lang/String", "length", "()I"⟩, prog_17_method_54_code, 1, some (FieldType.int))
theorem F_String_length : MFv m_String_length 0 := ⟨⟨in_t2 (i := 63) rfl rfl, in_t1 (i := 10) rfl rfl, ⟨by decide +kernel, by decide +kernel⟩, by decide +kernel, by decide +kernel, by decide +kernel⟩, in_t2 (i := 61) rfl rfl, in_t2 (i := 62) rfl rfl⟩
def m_String_coder : Mth := (⟨"java/lang/String", "coder", "()B"⟩, prog_17_method_152_code, 1, some (FieldType.byte))
theorem F_String_coder : MFv m_String_coder 0 := ⟨⟨in_t2 (i := 67) rfl rfl, in_t1 (i := 10) rfl rfl, ⟨by decide +kernel, by decide +kernel⟩, by decide +kernel, by decide +kernel, by decide +kernel⟩, in_t2 (i := 65) rfl rfl, in_t2 (i := 66) rfl rfl⟩
def m_String_charAt : Mth := (⟨"java/lang/String", "charAt", "(I)C"⟩, prog_17_method_56_code, 2, some (FieldType.char))
theorem F_String_charAt : MFv m_String_charAt 1 := ⟨⟨in_t2 (i := 73) rfl rfl, in_t1 (i := 10) rfl rfl, ⟨by decide +kernel, by decide +kernel⟩, by decide +kernel, by decide +kernel, by decide +kernel⟩, in_t2 (i := 71) rfl rfl, in_t2 (i := 72) rfl rfl⟩
def m_String_isLatin1 : Mth := (⟨"java/lang/String", "isLatin1", "()Z"⟩, prog_17_method_154_code, 1, some (FieldType.boolean))
theorem F_String_isLatin1 : MFv m_String_isLatin1 0 := ⟨⟨in_t2 (i := 77) rfl rfl, in_t1 (i := 10) rfl rfl, ⟨by decide +kernel, by decide +kernel⟩, by decide +kernel, by decide +kernel, by decide +kernel⟩, in_t2 (i := 75) rfl rfl, in_t2 (i := 76) rfl rfl⟩
def m_StringLatin1_charAt : Mth := (⟨"java/lang/StringLatin1", "charAt", "([BI)C"⟩, prog_18_method_2_code, 2, some (FieldType.char))
theorem F_StringLatin1_charAt : MFs m_StringLatin1_charAt 2 := ⟨⟨in_t2 (i := 80) rfl rfl, in_t1 (i := 11) rfl rfl, ⟨by decide +kernel, by decide +kernel⟩, by decide +kernel, by decide +kernel, by decide +kernel⟩, in_t2 (i := 79) rfl rfl⟩
def m_String_checkIndex : Mth := (⟨"java/lang/String", "checkIndex", "(II)V"⟩, prog_17_method_155_code, 2, none)
theorem F_String_checkIndex : MFs m_String_checkIndex 2 := ⟨⟨in_t2 (i := 83) rfl rfl, in_t1 (i := 10) rfl rfl, ⟨by decide +kernel, by decide +kernel⟩, by decide +kernel, by decide +kernel, by decide +kernel⟩, in_t2 (i := 82) rfl rfl⟩
def m_Preconditions_checkIndex : Mth := (⟨"jdk/internal/util/Preconditions", "checkIndex", "(IILjava/util/function/BiFunction;)I"⟩, prog_22_method_11_code, 3, some (FieldType.int))
theorem F_Preconditions_checkIndex : MFs m_Preconditions_checkIndex 3 := ⟨⟨in_t2 (i := 88) rfl rfl, in_t1 (i := 12) rfl rfl, ⟨by decide +kernel, by decide +kernel⟩, by decide +kernel, by decide +kernel, by decide +kernel⟩, in_t2 (i := 87) rfl rfl⟩
def m_Tape_put : Mth := (⟨"MarketDays$Tape", "put", "(I)V"⟩, prog_10_method_2_code, 2, none)
theorem F_Tape_put : MFv m_Tape_put 1 := ⟨⟨in_t2 (i := 111) rfl rfl, in_t1 (i := 3) rfl rfl, ⟨by decide +kernel, by decide +kernel⟩, by decide +kernel, by decide +kernel, by decide +kernel⟩, in_t2 (i := 109) rfl rfl, in_t2 (i := 110) rfl rfl⟩
def m_Tape_readRule : Mth := (⟨"MarketDays$Tape", "readRule", "()LMarketDays$Rule;"⟩, prog_10_method_3_code, 2, some (FieldType.object "MarketDays$Rule"))
theorem F_Tape_readRule : MFv m_Tape_readRule 0 := ⟨⟨in_t2 (i := 115) rfl rfl, in_t1 (i := 3) rfl rfl, ⟨by decide +kernel, by decide +kernel⟩, by decide +kernel, by decide +kernel, by decide +kernel⟩, in_t2 (i := 113) rfl rfl, in_t2 (i := 114) rfl rfl⟩
def m_Tape_advance : Mth := (⟨"MarketDays$Tape", "advance", "()V"⟩, prog_10_method_14_code, 1, none)
theorem F_Tape_advance : MFv m_Tape_advance 0 := ⟨⟨in_t2 (i := 119) rfl rfl, in_t1 (i := 3) rfl rfl, ⟨by decide +kernel, by decide +kernel⟩, by decide +kernel, by decide +kernel, by decide +kernel⟩, in_t2 (i := 118) rfl rfl, in_sel (i := 0) (q := (m_Tape_advance.1, _)) rfl⟩
def m_Tape_isLetter : Mth := (⟨"MarketDays$Tape", "isLetter", "(I)Z"⟩, prog_10_method_18_code, 1, some (FieldType.boolean))
theorem F_Tape_isLetter : MFs m_Tape_isLetter 1 := ⟨⟨in_t2 (i := 122) rfl rfl, in_t1 (i := 3) rfl rfl, ⟨by decide +kernel, by decide +kernel⟩, by decide +kernel, by decide +kernel, by decide +kernel⟩, in_t2 (i := 121) rfl rfl⟩
def m_Tape_readWord : Mth := (⟨"MarketDays$Tape", "readWord", "()V"⟩, prog_10_method_16_code, 1, none)
theorem F_Tape_readWord : MFv m_Tape_readWord 0 := ⟨⟨in_t2 (i := 126) rfl rfl, in_t1 (i := 3) rfl rfl, ⟨by decide +kernel, by decide +kernel⟩, by decide +kernel, by decide +kernel, by decide +kernel⟩, in_t2 (i := 125) rfl rfl, in_sel (i := 1) (q := (m_Tape_readWord.1, _)) rfl⟩
def m_Tape_spells : Mth := (⟨"MarketDays$Tape", "spells", "(Ljava/lang/String;)Z"⟩, prog_10_method_17_code, 3, some (FieldType.boolean))
theorem F_Tape_spells : MFv m_Tape_spells 1 := ⟨⟨in_t2 (i := 131) rfl rfl, in_t1 (i := 3) rfl rfl, ⟨by decide +kernel, by decide +kernel⟩, by decide +kernel, by decide +kernel, by decide +kernel⟩, in_t2 (i := 130) rfl rfl, in_sel (i := 2) (q := (m_Tape_spells.1, _)) rfl⟩
def m_Tape_isDigit : Mth := (⟨"MarketDays$Tape", "isDigit", "(I)Z"⟩, prog_10_method_19_code, 1, some (FieldType.boolean))
theorem F_Tape_isDigit : MFs m_Tape_isDigit 1 := ⟨⟨in_t2 (i := 146) rfl rfl, in_t1 (i := 3) rfl rfl, ⟨by decide +kernel, by decide +kernel⟩, by decide +kernel, by decide +kernel, by decide +kernel⟩, in_t2 (i := 145) rfl rfl⟩
def m_Tape_readNumber : Mth := (⟨"MarketDays$Tape", "readNumber", "()V"⟩, prog_10_method_15_code, 1, none)
theorem F_Tape_readNumber : MFv m_Tape_readNumber 0 := ⟨⟨in_t2 (i := 150) rfl rfl, in_t1 (i := 3) rfl rfl, ⟨by decide +kernel, by decide +kernel⟩, by decide +kernel, by decide +kernel, by decide +kernel⟩, in_t2 (i := 149) rfl rfl, in_sel (i := 3) (q := (m_Tape_readNumber.1, _)) rfl⟩
def m_Tape_isSign : Mth := (⟨"MarketDays$Tape", "isSign", "(I)Z"⟩, prog_10_method_20_code, 1, some (FieldType.boolean))
theorem F_Tape_isSign : MFs m_Tape_isSign 1 := ⟨⟨in_t2 (i := 153) rfl rfl, in_t1 (i := 3) rfl rfl, ⟨by decide +kernel, by decide +kernel⟩, by decide +kernel, by decide +kernel, by decide +kernel⟩, in_t2 (i := 152) rfl rfl⟩
def m_Tape_expect : Mth := (⟨"MarketDays$Tape", "expect", "(I)V"⟩, prog_10_method_11_code, 2, none)
theorem F_Tape_expect : MFv m_Tape_expect 1 := ⟨⟨in_t2 (i := 157) rfl rfl, in_t1 (i := 3) rfl rfl, ⟨by decide +kernel, by decide +kernel⟩, by decide +kernel, by decide +kernel, by decide +kernel⟩, in_t2 (i := 156) rfl rfl, in_sel (i := 4) (q := (m_Tape_expect.1, _)) rfl⟩
def m_Tape_fail : Mth := (⟨"MarketDays$Tape", "fail", "()V"⟩, prog_10_method_12_code, 1, none)
theorem F_Tape_fail : MFv m_Tape_fail 0 := ⟨⟨in_t2 (i := 161) rfl rfl, in_t1 (i := 3) rfl rfl, ⟨by decide +kernel, by decide +kernel⟩, by decide +kernel, by decide +kernel, by decide +kernel⟩, in_t2 (i := 160) rfl rfl, in_sel (i := 5) (q := (m_Tape_fail.1, _)) rfl⟩
def m_Tape_readEither : Mth := (⟨"MarketDays$Tape", "readEither", "()V"⟩, prog_10_method_4_code, 2, none)
theorem F_Tape_readEither : MFv m_Tape_readEither 0 := ⟨⟨in_t2 (i := 165) rfl rfl, in_t1 (i := 3) rfl rfl, ⟨by decide +kernel, by decide +kernel⟩, by decide +kernel, by decide +kernel, by decide +kernel⟩, in_t2 (i := 164) rfl rfl, in_sel (i := 6) (q := (m_Tape_readEither.1, _)) rfl⟩
def m_Tape_readBoth : Mth := (⟨"MarketDays$Tape", "readBoth", "()V"⟩, prog_10_method_5_code, 2, none)
theorem F_Tape_readBoth : MFv m_Tape_readBoth 0 := ⟨⟨in_t2 (i := 169) rfl rfl, in_t1 (i := 3) rfl rfl, ⟨by decide +kernel, by decide +kernel⟩, by decide +kernel, by decide +kernel, by decide +kernel⟩, in_t2 (i := 168) rfl rfl, in_sel (i := 7) (q := (m_Tape_readBoth.1, _)) rfl⟩
def m_Tape_readNot : Mth := (⟨"MarketDays$Tape", "readNot", "()V"⟩, prog_10_method_6_code, 2, none)
theorem F_Tape_readNot : MFv m_Tape_readNot 0 := ⟨⟨in_t2 (i := 173) rfl rfl, in_t1 (i := 3) rfl rfl, ⟨by decide +kernel, by decide +kernel⟩, by decide +kernel, by decide +kernel, by decide +kernel⟩, in_t2 (i := 172) rfl rfl, in_sel (i := 8) (q := (m_Tape_readNot.1, _)) rfl⟩
def m_Tape_opens : Mth := (⟨"MarketDays$Tape", "opens", "()Z"⟩, prog_10_method_10_code, 1, some (FieldType.boolean))
theorem F_Tape_opens : MFv m_Tape_opens 0 := ⟨⟨in_t2 (i := 177) rfl rfl, in_t1 (i := 3) rfl rfl, ⟨by decide +kernel, by decide +kernel⟩, by decide +kernel, by decide +kernel, by decide +kernel⟩, in_t2 (i := 176) rfl rfl, in_sel (i := 9) (q := (m_Tape_opens.1, _)) rfl⟩
def m_Tape_write : Mth := (⟨"MarketDays$Tape", "write", "(I)V"⟩, prog_10_method_13_code, 2, none)
theorem F_Tape_write : MFv m_Tape_write 1 := ⟨⟨in_t2 (i := 181) rfl rfl, in_t1 (i := 3) rfl rfl, ⟨by decide +kernel, by decide +kernel⟩, by decide +kernel, by decide +kernel, by decide +kernel⟩, in_t2 (i := 180) rfl rfl, in_sel (i := 10) (q := (m_Tape_write.1, _)) rfl⟩
def m_Tape_readSum : Mth := (⟨"MarketDays$Tape", "readSum", "()V"⟩, prog_10_method_7_code, 3, none)
theorem F_Tape_readSum : MFv m_Tape_readSum 0 := ⟨⟨in_t2 (i := 185) rfl rfl, in_t1 (i := 3) rfl rfl, ⟨by decide +kernel, by decide +kernel⟩, by decide +kernel, by decide +kernel, by decide +kernel⟩, in_t2 (i := 184) rfl rfl, in_sel (i := 11) (q := (m_Tape_readSum.1, _)) rfl⟩
def m_Tape_readTerm : Mth := (⟨"MarketDays$Tape", "readTerm", "()V"⟩, prog_10_method_8_code, 2, none)
theorem F_Tape_readTerm : MFv m_Tape_readTerm 0 := ⟨⟨in_t2 (i := 189) rfl rfl, in_t1 (i := 3) rfl rfl, ⟨by decide +kernel, by decide +kernel⟩, by decide +kernel, by decide +kernel, by decide +kernel⟩, in_t2 (i := 188) rfl rfl, in_sel (i := 12) (q := (m_Tape_readTerm.1, _)) rfl⟩
def m_Tape_readOne : Mth := (⟨"MarketDays$Tape", "readOne", "()V"⟩, prog_10_method_9_code, 1, none)
theorem F_Tape_readOne : MFv m_Tape_readOne 0 := ⟨⟨in_t2 (i := 193) rfl rfl, in_t1 (i := 3) rfl rfl, ⟨by decide +kernel, by decide +kernel⟩, by decide +kernel, by decide +kernel, by decide +kernel⟩, in_t2 (i := 192) rfl rfl, in_sel (i := 13) (q := (m_Tape_readOne.1, _)) rfl⟩
def m_Arrays_copyOfRange : Mth := (⟨"java/util/Arrays", "copyOfRange", "([III)[I"⟩, prog_21_method_136_code, 3, some (FieldType.array FieldType.int))
theorem F_Arrays_copyOfRange : MFs m_Arrays_copyOfRange 3 := ⟨⟨in_t2 (i := 198) rfl rfl, in_t1 (i := 15) rfl rfl, ⟨by decide +kernel, by decide +kernel⟩, by decide +kernel, by decide +kernel, by decide +kernel⟩, in_t2 (i := 197) rfl rfl⟩
def m_Arrays_copyOfRangeInt : Mth := (⟨"java/util/Arrays", "copyOfRangeInt", "([III)[I"⟩, prog_21_method_137_code, 5, some (FieldType.array FieldType.int))
theorem F_Arrays_copyOfRangeInt : MFs m_Arrays_copyOfRangeInt 3 := ⟨⟨in_t2 (i := 201) rfl rfl, in_t1 (i := 15) rfl rfl, ⟨by decide +kernel, by decide +kernel⟩, by decide +kernel, by decide +kernel, by decide +kernel⟩, in_t2 (i := 200) rfl rfl⟩
def m_Arrays_checkLength : Mth := (⟨"java/util/Arrays", "checkLength", "(II)V"⟩, prog_21_method_131_code, 2, none)
theorem F_Arrays_checkLength : MFs m_Arrays_checkLength 2 := ⟨⟨in_t2 (i := 204) rfl rfl, in_t1 (i := 15) rfl rfl, ⟨by decide +kernel, by decide +kernel⟩, by decide +kernel, by decide +kernel, by decide +kernel⟩, in_t2 (i := 203) rfl rfl⟩
def m_Rule_init : Mth := (⟨"MarketDays$Rule", "<init>", "([I[I)V"⟩, prog_8_method_1_code, 3, none)
theorem F_Rule_init : MFi m_Rule_init 2 := ⟨⟨in_t2 (i := 220) rfl rfl, in_t1 (i := 14) rfl rfl, ⟨by decide +kernel, by decide +kernel⟩, by decide +kernel, by decide +kernel, by decide +kernel⟩, in_t2 (i := 219) rfl rfl, rfl⟩
def m_Law_learn : Mth := (⟨"MarketDays$Law", "learn", "(LMarketDays$Rule;)V"⟩, prog_6_method_2_code, 2, none)
theorem F_Law_learn : MFv m_Law_learn 1 := ⟨⟨in_t2 (i := 235) rfl rfl, in_t1 (i := 4) rfl rfl, ⟨by decide +kernel, by decide +kernel⟩, by decide +kernel, by decide +kernel, by decide +kernel⟩, in_t2 (i := 233) rfl rfl, in_t2 (i := 234) rfl rfl⟩
def m_MD_town : Mth := (⟨"MarketDays", "town", "(I)I"⟩, prog_1_method_2_code, 2, some (FieldType.int))
theorem F_MD_town : MFv m_MD_town 1 := ⟨⟨in_t3 (i := 33) rfl rfl, in_t1 (i := 1) rfl rfl, ⟨by decide +kernel, by decide +kernel⟩, by decide +kernel, by decide +kernel, by decide +kernel⟩, in_t3 (i := 31) rfl rfl, in_t3 (i := 32) rfl rfl⟩
def m_Land_settle : Mth := (⟨"MarketDays$Land", "settle", "(I)Z"⟩, prog_5_method_3_code, 2, some (FieldType.boolean))
theorem F_Land_settle : MFv m_Land_settle 1 := ⟨⟨in_t3 (i := 37) rfl rfl, in_t1 (i := 2) rfl rfl, ⟨by decide +kernel, by decide +kernel⟩, by decide +kernel, by decide +kernel, by decide +kernel⟩, in_t3 (i := 35) rfl rfl, in_t3 (i := 36) rfl rfl⟩
def m_Land_measure : Mth := (⟨"MarketDays$Land", "measure", "()V"⟩, prog_5_method_10_code, 4, none)
theorem F_Land_measure : MFv m_Land_measure 0 := ⟨⟨in_t3 (i := 41) rfl rfl, in_t1 (i := 2) rfl rfl, ⟨by decide +kernel, by decide +kernel⟩, by decide +kernel, by decide +kernel, by decide +kernel⟩, in_t3 (i := 40) rfl rfl, in_sel (i := 14) (q := (m_Land_measure.1, _)) rfl⟩
def m_MD_road : Mth := (⟨"MarketDays", "road", "(III)I"⟩, prog_1_method_3_code, 4, some (FieldType.int))
theorem F_MD_road : MFv m_MD_road 3 := ⟨⟨in_t3 (i := 46) rfl rfl, in_t1 (i := 1) rfl rfl, ⟨by decide +kernel, by decide +kernel⟩, by decide +kernel, by decide +kernel, by decide +kernel⟩, in_t3 (i := 44) rfl rfl, in_t3 (i := 45) rfl rfl⟩
def m_Land_hasTown : Mth := (⟨"MarketDays$Land", "hasTown", "(I)Z"⟩, prog_5_method_2_code, 2, some (FieldType.boolean))
theorem F_Land_hasTown : MFv m_Land_hasTown 1 := ⟨⟨in_t3 (i := 50) rfl rfl, in_t1 (i := 2) rfl rfl, ⟨by decide +kernel, by decide +kernel⟩, by decide +kernel, by decide +kernel, by decide +kernel⟩, in_t3 (i := 48) rfl rfl, in_t3 (i := 49) rfl rfl⟩
def m_Land_lay : Mth := (⟨"MarketDays$Land", "lay", "(III)I"⟩, prog_5_method_4_code, 5, some (FieldType.int))
theorem F_Land_lay : MFv m_Land_lay 3 := ⟨⟨in_t3 (i := 54) rfl rfl, in_t1 (i := 2) rfl rfl, ⟨by decide +kernel, by decide +kernel⟩, by decide +kernel, by decide +kernel, by decide +kernel⟩, in_t3 (i := 52) rfl rfl, in_t3 (i := 53) rfl rfl⟩
def m_MD_hours : Mth := (⟨"MarketDays", "hours", "(II)I"⟩, prog_1_method_4_code, 3, some (FieldType.int))
theorem F_MD_hours : MFv m_MD_hours 2 := ⟨⟨in_t3 (i := 58) rfl rfl, in_t1 (i := 1) rfl rfl, ⟨by decide +kernel, by decide +kernel⟩, by decide +kernel, by decide +kernel, by decide +kernel⟩, in_t3 (i := 56) rfl rfl, in_t3 (i := 57) rfl rfl⟩
def m_Land_hoursBetween : Mth := (⟨"MarketDays$Land", "hoursBetween", "(II)I"⟩, prog_5_method_5_code, 3, some (FieldType.int))
theorem F_Land_hoursBetween : MFv m_Land_hoursBetween 2 := ⟨⟨in_t3 (i := 62) rfl rfl, in_t1 (i := 2) rfl rfl, ⟨by decide +kernel, by decide +kernel⟩, by decide +kernel, by decide +kernel, by decide +kernel⟩, in_t3 (i := 60) rfl rfl, in_t3 (i := 61) rfl rfl⟩
def m_MD_week : Mth := (⟨"MarketDays", "week", "(I)I"⟩, prog_1_method_5_code, 3, some (FieldType.int))
theorem F_MD_week : MFv m_MD_week 1 := ⟨⟨in_t3 (i := 66) rfl rfl, in_t1 (i := 1) rfl rfl, ⟨by decide +kernel, by decide +kernel⟩, by decide +kernel, by decide +kernel, by decide +kernel⟩, in_t3 (i := 64) rfl rfl, in_t3 (i := 65) rfl rfl⟩
def m_MD_want : Mth := (⟨"MarketDays", "want", "(III)I"⟩, prog_1_method_6_code, 6, some (FieldType.int))
theorem F_MD_want : MFv m_MD_want 3 := ⟨⟨in_t3 (i := 70) rfl rfl, in_t1 (i := 1) rfl rfl, ⟨by decide +kernel, by decide +kernel⟩, by decide +kernel, by decide +kernel, by decide +kernel⟩, in_t3 (i := 68) rfl rfl, in_t3 (i := 69) rfl rfl⟩
def m_MD_mayWant : Mth := (⟨"MarketDays", "mayWant", "(III)Z"⟩, prog_1_method_7_code, 4, some (FieldType.boolean))
theorem F_MD_mayWant : MFv m_MD_mayWant 3 := ⟨⟨in_t3 (i := 74) rfl rfl, in_t1 (i := 1) rfl rfl, ⟨by decide +kernel, by decide +kernel⟩, by decide +kernel, by decide +kernel, by decide +kernel⟩, in_t3 (i := 73) rfl rfl, in_sel (i := 15) (q := (m_MD_mayWant.1, _)) rfl⟩
def m_MD_townTold : Mth := (⟨"MarketDays", "townTold", "(II)I"⟩, prog_1_method_8_code, 3, some (FieldType.int))
theorem F_MD_townTold : MFv m_MD_townTold 2 := ⟨⟨in_t3 (i := 78) rfl rfl, in_t1 (i := 1) rfl rfl, ⟨by decide +kernel, by decide +kernel⟩, by decide +kernel, by decide +kernel, by decide +kernel⟩, in_t3 (i := 76) rfl rfl, in_t3 (i := 77) rfl rfl⟩
def m_MD_feast : Mth := (⟨"MarketDays", "feast", "(II)I"⟩, prog_1_method_9_code, 3, some (FieldType.int))
theorem F_MD_feast : MFv m_MD_feast 2 := ⟨⟨in_t3 (i := 82) rfl rfl, in_t1 (i := 1) rfl rfl, ⟨by decide +kernel, by decide +kernel⟩, by decide +kernel, by decide +kernel, by decide +kernel⟩, in_t3 (i := 80) rfl rfl, in_t3 (i := 81) rfl rfl⟩
def m_MD_isWeek : Mth := (⟨"MarketDays", "isWeek", "(I)Z"⟩, prog_1_method_46_code, 1, some (FieldType.boolean))
theorem F_MD_isWeek : MFs m_MD_isWeek 1 := ⟨⟨in_t3 (i := 85) rfl rfl, in_t1 (i := 1) rfl rfl, ⟨by decide +kernel, by decide +kernel⟩, by decide +kernel, by decide +kernel, by decide +kernel⟩, in_t3 (i := 84) rfl rfl⟩
def m_Land_hold : Mth := (⟨"MarketDays$Land", "hold", "(II)Z"⟩, prog_5_method_6_code, 3, some (FieldType.boolean))
theorem F_Land_hold : MFv m_Land_hold 2 := ⟨⟨in_t3 (i := 89) rfl rfl, in_t1 (i := 2) rfl rfl, ⟨by decide +kernel, by decide +kernel⟩, by decide +kernel, by decide +kernel, by decide +kernel⟩, in_t3 (i := 87) rfl rfl, in_t3 (i := 88) rfl rfl⟩
def m_MD_feed : Mth := (⟨"MarketDays", "feed", "(JI)I"⟩, prog_1_method_10_code, 5, some (FieldType.int))
theorem F_MD_feed : MFv m_MD_feed 2 := ⟨⟨in_t3 (i := 93) rfl rfl, in_t1 (i := 1) rfl rfl, ⟨by decide +kernel, by decide +kernel⟩, by decide +kernel, by decide +kernel, by decide +kernel⟩, in_t3 (i := 91) rfl rfl, in_t3 (i := 92) rfl rfl⟩
def m_MD_text : Mth := (⟨"MarketDays", "text", "()I"⟩, prog_1_method_11_code, 2, some (FieldType.int))
theorem F_MD_text : MFv m_MD_text 0 := ⟨⟨in_t3 (i := 97) rfl rfl, in_t1 (i := 1) rfl rfl, ⟨by decide +kernel, by decide +kernel⟩, by decide +kernel, by decide +kernel, by decide +kernel⟩, in_t3 (i := 95) rfl rfl, in_t3 (i := 96) rfl rfl⟩
def m_MD_force : Mth := (⟨"MarketDays", "force", "(I)I"⟩, prog_1_method_12_code, 3, some (FieldType.int))
theorem F_MD_force : MFv m_MD_force 1 := ⟨⟨in_t3 (i := 101) rfl rfl, in_t1 (i := 1) rfl rfl, ⟨by decide +kernel, by decide +kernel⟩, by decide +kernel, by decide +kernel, by decide +kernel⟩, in_t3 (i := 99) rfl rfl, in_t3 (i := 100) rfl rfl⟩
def m_MD_says : Mth := (⟨"MarketDays", "says", "(II)J"⟩, prog_1_method_13_code, 3, some (FieldType.long))
theorem F_MD_says : MFv m_MD_says 2 := ⟨⟨in_t3 (i := 105) rfl rfl, in_t1 (i := 1) rfl rfl, ⟨by decide +kernel, by decide +kernel⟩, by decide +kernel, by decide +kernel, by decide +kernel⟩, in_t3 (i := 103) rfl rfl, in_t3 (i := 104) rfl rfl⟩
def m_Law_nearSays : Mth := (⟨"MarketDays$Law", "nearSays", "(III)I"⟩, prog_6_method_4_code, 5, some (FieldType.int))
theorem F_Law_nearSays : MFv m_Law_nearSays 3 := ⟨⟨in_t3 (i := 110) rfl rfl, in_t1 (i := 4) rfl rfl, ⟨by decide +kernel, by decide +kernel⟩, by decide +kernel, by decide +kernel, by decide +kernel⟩, in_t3 (i := 108) rfl rfl, in_t3 (i := 109) rfl rfl⟩
def m_Law_theRule : Mth := (⟨"MarketDays$Law", "theRule", "()LMarketDays$Rule;"⟩, prog_6_method_3_code, 1, some (FieldType.object "MarketDays$Rule"))
theorem F_Law_theRule : MFv m_Law_theRule 0 := ⟨⟨in_t3 (i := 114) rfl rfl, in_t1 (i := 4) rfl rfl, ⟨by decide +kernel, by decide +kernel⟩, by decide +kernel, by decide +kernel, by decide +kernel⟩, in_t3 (i := 113) rfl rfl, in_sel (i := 16) (q := (m_Law_theRule.1, _)) rfl⟩
def m_Law_name : Mth := (⟨"MarketDays$Law", "name", "(IIIIII)V"⟩, prog_6_method_6_code, 7, none)
theorem F_Law_name : MFv m_Law_name 6 := ⟨⟨in_t3 (i := 119) rfl rfl, in_t1 (i := 4) rfl rfl, ⟨by decide +kernel, by decide +kernel⟩, by decide +kernel, by decide +kernel, by decide +kernel⟩, in_t3 (i := 118) rfl rfl, in_sel (i := 17) (q := (m_Law_name.1, _)) rfl⟩
def m_Rule_run : Mth := (⟨"MarketDays$Rule", "run", "([I[I[I)I"⟩, prog_8_method_2_code, 7, some (FieldType.int))
theorem F_Rule_run : MFs m_Rule_run 3 := ⟨⟨in_t3 (i := 122) rfl rfl, in_t1 (i := 14) rfl rfl, ⟨by decide +kernel, by decide +kernel⟩, by decide +kernel, by decide +kernel, by decide +kernel⟩, in_t3 (i := 121) rfl rfl⟩
def m_Rule_join : Mth := (⟨"MarketDays$Rule", "join", "(III)I"⟩, prog_8_method_3_code, 3, some (FieldType.int))
theorem F_Rule_join : MFs m_Rule_join 3 := ⟨⟨in_t3 (i := 125) rfl rfl, in_t1 (i := 14) rfl rfl, ⟨by decide +kernel, by decide +kernel⟩, by decide +kernel, by decide +kernel, by decide +kernel⟩, in_t3 (i := 124) rfl rfl⟩
def m_MD_worthOf : Mth := (⟨"MarketDays", "worthOf", "(IIII)J"⟩, prog_1_method_14_code, 5, some (FieldType.long))
theorem F_MD_worthOf : MFv m_MD_worthOf 4 := ⟨⟨in_t3 (i := 129) rfl rfl, in_t1 (i := 1) rfl rfl, ⟨by decide +kernel, by decide +kernel⟩, by decide +kernel, by decide +kernel, by decide +kernel⟩, in_t3 (i := 127) rfl rfl, in_t3 (i := 128) rfl rfl⟩
def m_Law_worthOfDay : Mth := (⟨"MarketDays$Law", "worthOfDay", "(IIII)I"⟩, prog_6_method_5_code, 6, some (FieldType.int))
theorem F_Law_worthOfDay : MFv m_Law_worthOfDay 4 := ⟨⟨in_t3 (i := 133) rfl rfl, in_t1 (i := 4) rfl rfl, ⟨by decide +kernel, by decide +kernel⟩, by decide +kernel, by decide +kernel, by decide +kernel⟩, in_t3 (i := 131) rfl rfl, in_t3 (i := 132) rfl rfl⟩
def m_MD_giving : Mth := (⟨"MarketDays", "giving", "(II)I"⟩, prog_1_method_15_code, 4, some (FieldType.int))
theorem F_MD_giving : MFv m_MD_giving 2 := ⟨⟨in_t3 (i := 141) rfl rfl, in_t1 (i := 1) rfl rfl, ⟨by decide +kernel, by decide +kernel⟩, by decide +kernel, by decide +kernel, by decide +kernel⟩, in_t3 (i := 139) rfl rfl, in_t3 (i := 140) rfl rfl⟩
def m_MD_sheetAt : Mth := (⟨"MarketDays", "sheetAt", "(I)LMarketDays$Sheet;"⟩, prog_1_method_45_code, 2, some (FieldType.object "MarketDays$Sheet"))
theorem F_MD_sheetAt : MFv m_MD_sheetAt 1 := ⟨⟨in_t3 (i := 145) rfl rfl, in_t1 (i := 1) rfl rfl, ⟨by decide +kernel, by decide +kernel⟩, by decide +kernel, by decide +kernel, by decide +kernel⟩, in_t3 (i := 144) rfl rfl, in_sel (i := 18) (q := (m_MD_sheetAt.1, _)) rfl⟩
def m_Sheet_isMissing : Mth := (⟨"MarketDays$Sheet", "isMissing", "()Z"⟩, prog_9_method_2_code, 1, some (FieldType.boolean))
theorem F_Sheet_isMissing : MFv m_Sheet_isMissing 0 := ⟨⟨in_t3 (i := 149) rfl rfl, in_t1 (i := 9) rfl rfl, ⟨by decide +kernel, by decide +kernel⟩, by decide +kernel, by decide +kernel, by decide +kernel⟩, in_t3 (i := 147) rfl rfl, in_t3 (i := 148) rfl rfl⟩
def m_MD_mayTell : Mth := (⟨"MarketDays", "mayTell", "(ILMarketDays$Sheet;)Z"⟩, prog_1_method_16_code, 4, some (FieldType.boolean))
theorem F_MD_mayTell : MFv m_MD_mayTell 2 := ⟨⟨in_t3 (i := 153) rfl rfl, in_t1 (i := 1) rfl rfl, ⟨by decide +kernel, by decide +kernel⟩, by decide +kernel, by decide +kernel, by decide +kernel⟩, in_t3 (i := 152) rfl rfl, in_sel (i := 19) (q := (m_MD_mayTell.1, _)) rfl⟩
def m_Giving_mayTell : Mth := (⟨"MarketDays$Giving", "mayTell", "(III)Z"⟩, prog_4_method_3_code, 3, some (FieldType.boolean))
theorem F_Giving_mayTell : MFs m_Giving_mayTell 3 := ⟨⟨in_t3 (i := 156) rfl rfl, in_t1 (i := 19) rfl rfl, ⟨by decide +kernel, by decide +kernel⟩, by decide +kernel, by decide +kernel, by decide +kernel⟩, in_t3 (i := 155) rfl rfl⟩
def m_Giving_isA : Mth := (⟨"MarketDays$Giving", "isA", "(II)Z"⟩, prog_4_method_2_code, 2, some (FieldType.boolean))
theorem F_Giving_isA : MFs m_Giving_isA 2 := ⟨⟨in_t3 (i := 159) rfl rfl, in_t1 (i := 19) rfl rfl, ⟨by decide +kernel, by decide +kernel⟩, by decide +kernel, by decide +kernel, by decide +kernel⟩, in_t3 (i := 158) rfl rfl⟩
def m_Arrays_copyOf : Mth := (⟨"java/util/Arrays", "copyOf", "([II)[I"⟩, prog_21_method_123_code, 3, some (FieldType.array FieldType.int))
theorem F_Arrays_copyOf : MFs m_Arrays_copyOf 2 := ⟨⟨in_t3 (i := 163) rfl rfl, in_t1 (i := 15) rfl rfl, ⟨by decide +kernel, by decide +kernel⟩, by decide +kernel, by decide +kernel, by decide +kernel⟩, in_t3 (i := 162) rfl rfl⟩
def m_Giving_init : Mth := (⟨"MarketDays$Giving", "<init>", "(I[I)V"⟩, prog_4_method_1_code, 3, none)
theorem F_Giving_init : MFi m_Giving_init 2 := ⟨⟨in_t3 (i := 166) rfl rfl, in_t1 (i := 19) rfl rfl, ⟨by decide +kernel, by decide +kernel⟩, by decide +kernel, by decide +kernel, by decide +kernel⟩, in_t3 (i := 165) rfl rfl, rfl⟩
def m_MD_marketOf : Mth := (⟨"MarketDays", "marketOf", "(III)I"⟩, prog_1_method_17_code, 5, some (FieldType.int))
theorem F_MD_marketOf : MFv m_MD_marketOf 3 := ⟨⟨in_t3 (i := 180) rfl rfl, in_t1 (i := 1) rfl rfl, ⟨by decide +kernel, by decide +kernel⟩, by decide +kernel, by decide +kernel, by decide +kernel⟩, in_t3 (i := 178) rfl rfl, in_t3 (i := 179) rfl rfl⟩
def m_MD_givingAt : Mth := (⟨"MarketDays", "givingAt", "(I)LMarketDays$Giving;"⟩, prog_1_method_44_code, 2, some (FieldType.object "MarketDays$Giving"))
theorem F_MD_givingAt : MFv m_MD_givingAt 1 := ⟨⟨in_t3 (i := 184) rfl rfl, in_t1 (i := 1) rfl rfl, ⟨by decide +kernel, by decide +kernel⟩, by decide +kernel, by decide +kernel, by decide +kernel⟩, in_t3 (i := 183) rfl rfl, in_sel (i := 20) (q := (m_MD_givingAt.1, _)) rfl⟩
def m_Giving_marketIn : Mth := (⟨"MarketDays$Giving", "marketIn", "(LMarketDays$Land;II)I"⟩, prog_4_method_6_code, 5, some (FieldType.int))
theorem F_Giving_marketIn : MFv m_Giving_marketIn 3 := ⟨⟨in_t3 (i := 188) rfl rfl, in_t1 (i := 19) rfl rfl, ⟨by decide +kernel, by decide +kernel⟩, by decide +kernel, by decide +kernel, by decide +kernel⟩, in_t3 (i := 186) rfl rfl, in_t3 (i := 187) rfl rfl⟩
def m_Giving_daysIn : Mth := (⟨"MarketDays$Giving", "daysIn", "(LMarketDays$Land;II)I"⟩, prog_4_method_7_code, 5, some (FieldType.int))
theorem F_Giving_daysIn : MFv m_Giving_daysIn 3 := ⟨⟨in_t3 (i := 192) rfl rfl, in_t1 (i := 19) rfl rfl, ⟨by decide +kernel, by decide +kernel⟩, by decide +kernel, by decide +kernel, by decide +kernel⟩, in_t3 (i := 191) rfl rfl, in_sel (i := 21) (q := (m_Giving_daysIn.1, _)) rfl⟩
def m_Giving_numberOf : Mth := (⟨"MarketDays$Giving", "numberOf", "(I)I"⟩, prog_4_method_5_code, 2, some (FieldType.int))
theorem F_Giving_numberOf : MFv m_Giving_numberOf 1 := ⟨⟨in_t3 (i := 196) rfl rfl, in_t1 (i := 19) rfl rfl, ⟨by decide +kernel, by decide +kernel⟩, by decide +kernel, by decide +kernel, by decide +kernel⟩, in_t3 (i := 194) rfl rfl, in_t3 (i := 195) rfl rfl⟩
def m_Land_daysOn : Mth := (⟨"MarketDays$Land", "daysOn", "(II)I"⟩, prog_5_method_8_code, 3, some (FieldType.int))
theorem F_Land_daysOn : MFv m_Land_daysOn 2 := ⟨⟨in_t3 (i := 200) rfl rfl, in_t1 (i := 2) rfl rfl, ⟨by decide +kernel, by decide +kernel⟩, by decide +kernel, by decide +kernel, by decide +kernel⟩, in_t3 (i := 198) rfl rfl, in_t3 (i := 199) rfl rfl⟩
def m_Giving_feastsMoveIt : Mth := (⟨"MarketDays$Giving", "feastsMoveIt", "()Z"⟩, prog_4_method_4_code, 1, some (FieldType.boolean))
theorem F_Giving_feastsMoveIt : MFv m_Giving_feastsMoveIt 0 := ⟨⟨in_t3 (i := 204) rfl rfl, in_t1 (i := 19) rfl rfl, ⟨by decide +kernel, by decide +kernel⟩, by decide +kernel, by decide +kernel, by decide +kernel⟩, in_t3 (i := 202) rfl rfl, in_t3 (i := 203) rfl rfl⟩
def m_Land_movedByFeasts : Mth := (⟨"MarketDays$Land", "movedByFeasts", "(II)I"⟩, prog_5_method_7_code, 6, some (FieldType.int))
theorem F_Land_movedByFeasts : MFv m_Land_movedByFeasts 2 := ⟨⟨in_t3 (i := 208) rfl rfl, in_t1 (i := 2) rfl rfl, ⟨by decide +kernel, by decide +kernel⟩, by decide +kernel, by decide +kernel, by decide +kernel⟩, in_t3 (i := 206) rfl rfl, in_t3 (i := 207) rfl rfl⟩
def m_MD_hasBit : Mth := (⟨"MarketDays", "hasBit", "(II)Z"⟩, prog_1_method_47_code, 2, some (FieldType.boolean))
theorem F_MD_hasBit : MFs m_MD_hasBit 2 := ⟨⟨in_t3 (i := 211) rfl rfl, in_t1 (i := 1) rfl rfl, ⟨by decide +kernel, by decide +kernel⟩, by decide +kernel, by decide +kernel, by decide +kernel⟩, in_t3 (i := 210) rfl rfl⟩
def m_MD_dayAfter : Mth := (⟨"MarketDays", "dayAfter", "(II)I"⟩, prog_1_method_48_code, 2, some (FieldType.int))
theorem F_MD_dayAfter : MFs m_MD_dayAfter 2 := ⟨⟨in_t3 (i := 214) rfl rfl, in_t1 (i := 1) rfl rfl, ⟨by decide +kernel, by decide +kernel⟩, by decide +kernel, by decide +kernel, by decide +kernel⟩, in_t3 (i := 213) rfl rfl⟩
def m_MD_bar : Mth := (⟨"MarketDays", "bar", "(II)I"⟩, prog_1_method_18_code, 4, some (FieldType.int))
theorem F_MD_bar : MFv m_MD_bar 2 := ⟨⟨in_t3 (i := 218) rfl rfl, in_t1 (i := 1) rfl rfl, ⟨by decide +kernel, by decide +kernel⟩, by decide +kernel, by decide +kernel, by decide +kernel⟩, in_t3 (i := 216) rfl rfl, in_t3 (i := 217) rfl rfl⟩
def m_Fair_open : Mth := (⟨"MarketDays$Fair", "open", "(LMarketDays$Giving;I)V"⟩, prog_2_method_2_code, 4, none)
theorem F_Fair_open : MFv m_Fair_open 2 := ⟨⟨in_t3 (i := 222) rfl rfl, in_t1 (i := 5) rfl rfl, ⟨by decide +kernel, by decide +kernel⟩, by decide +kernel, by decide +kernel, by decide +kernel⟩, in_t3 (i := 220) rfl rfl, in_t3 (i := 221) rfl rfl⟩
def m_Fair_firstBar : Mth := (⟨"MarketDays$Fair", "firstBar", "()I"⟩, prog_2_method_5_code, 3, some (FieldType.int))
theorem F_Fair_firstBar : MFv m_Fair_firstBar 0 := ⟨⟨in_t3 (i := 227) rfl rfl, in_t1 (i := 5) rfl rfl, ⟨by decide +kernel, by decide +kernel⟩, by decide +kernel, by decide +kernel, by decide +kernel⟩, in_t3 (i := 225) rfl rfl, in_t3 (i := 226) rfl rfl⟩
def m_Fair_barsItself : Mth := (⟨"MarketDays$Fair", "barsItself", "(I)Z"⟩, prog_2_method_6_code, 2, some (FieldType.boolean))
theorem F_Fair_barsItself : MFv m_Fair_barsItself 1 := ⟨⟨in_t3 (i := 231) rfl rfl, in_t1 (i := 5) rfl rfl, ⟨by decide +kernel, by decide +kernel⟩, by decide +kernel, by decide +kernel, by decide +kernel⟩, in_t3 (i := 230) rfl rfl, in_sel (i := 22) (q := (m_Fair_barsItself.1, _)) rfl⟩
def m_Fair_bars : Mth := (⟨"MarketDays$Fair", "bars", "(II)Z"⟩, prog_2_method_7_code, 3, some (FieldType.boolean))
theorem F_Fair_bars : MFv m_Fair_bars 2 := ⟨⟨in_t3 (i := 235) rfl rfl, in_t1 (i := 5) rfl rfl, ⟨by decide +kernel, by decide +kernel⟩, by decide +kernel, by decide +kernel, by decide +kernel⟩, in_t3 (i := 234) rfl rfl, in_sel (i := 23) (q := (m_Fair_bars.1, _)) rfl⟩
def m_Fair_missesToFollow : Mth := (⟨"MarketDays$Fair", "missesToFollow", "(II)Z"⟩, prog_2_method_8_code, 4, some (FieldType.boolean))
theorem F_Fair_missesToFollow : MFv m_Fair_missesToFollow 2 := ⟨⟨in_t4 (i := 0) rfl rfl, in_t1 (i := 5) rfl rfl, ⟨by decide +kernel, by decide +kernel⟩, by decide +kernel, by decide +kernel, by decide +kernel⟩, in_t3 (i := 239) rfl rfl, in_sel (i := 24) (q := (m_Fair_missesToFollow.1, _)) rfl⟩
def m_Fair_isAt : Mth := (⟨"MarketDays$Fair", "isAt", "(II)Z"⟩, prog_2_method_4_code, 3, some (FieldType.boolean))
theorem F_Fair_isAt : MFv m_Fair_isAt 2 := ⟨⟨in_t4 (i := 4) rfl rfl, in_t1 (i := 5) rfl rfl, ⟨by decide +kernel, by decide +kernel⟩, by decide +kernel, by decide +kernel, by decide +kernel⟩, in_t4 (i := 2) rfl rfl, in_t4 (i := 3) rfl rfl⟩
def m_MD_lawful : Mth := (⟨"MarketDays", "lawful", "(II)I"⟩, prog_1_method_19_code, 6, some (FieldType.int))
theorem F_MD_lawful : MFv m_MD_lawful 2 := ⟨⟨in_t4 (i := 10) rfl rfl, in_t1 (i := 1) rfl rfl, ⟨by decide +kernel, by decide +kernel⟩, by decide +kernel, by decide +kernel, by decide +kernel⟩, in_t4 (i := 8) rfl rfl, in_t4 (i := 9) rfl rfl⟩
def m_MD_judge : Mth := (⟨"MarketDays", "judge", "(III)J"⟩, prog_1_method_20_code, 5, some (FieldType.long))
theorem F_MD_judge : MFv m_MD_judge 3 := ⟨⟨in_t4 (i := 14) rfl rfl, in_t1 (i := 1) rfl rfl, ⟨by decide +kernel, by decide +kernel⟩, by decide +kernel, by decide +kernel, by decide +kernel⟩, in_t4 (i := 12) rfl rfl, in_t4 (i := 13) rfl rfl⟩
def m_Fair_worthOfAllBut : Mth := (⟨"MarketDays$Fair", "worthOfAllBut", "(I)I"⟩, prog_2_method_11_code, 4, some (FieldType.int))
theorem F_Fair_worthOfAllBut : MFv m_Fair_worthOfAllBut 1 := ⟨⟨in_t4 (i := 18) rfl rfl, in_t1 (i := 5) rfl rfl, ⟨by decide +kernel, by decide +kernel⟩, by decide +kernel, by decide +kernel, by decide +kernel⟩, in_t4 (i := 16) rfl rfl, in_t4 (i := 17) rfl rfl⟩
def m_Fair_worthOfTown : Mth := (⟨"MarketDays$Fair", "worthOfTown", "(I)I"⟩, prog_2_method_12_code, 4, some (FieldType.int))
theorem F_Fair_worthOfTown : MFv m_Fair_worthOfTown 1 := ⟨⟨in_t4 (i := 22) rfl rfl, in_t1 (i := 5) rfl rfl, ⟨by decide +kernel, by decide +kernel⟩, by decide +kernel, by decide +kernel, by decide +kernel⟩, in_t4 (i := 20) rfl rfl, in_t4 (i := 21) rfl rfl⟩
def m_MD_dayBefore : Mth := (⟨"MarketDays", "dayBefore", "(II)I"⟩, prog_1_method_49_code, 2, some (FieldType.int))
theorem F_MD_dayBefore : MFs m_MD_dayBefore 2 := ⟨⟨in_t4 (i := 25) rfl rfl, in_t1 (i := 1) rfl rfl, ⟨by decide +kernel, by decide +kernel⟩, by decide +kernel, by decide +kernel, by decide +kernel⟩, in_t4 (i := 24) rfl rfl⟩
def m_Fair_hoursToMarket : Mth := (⟨"MarketDays$Fair", "hoursToMarket", "(II)I"⟩, prog_2_method_14_code, 5, some (FieldType.int))
theorem F_Fair_hoursToMarket : MFv m_Fair_hoursToMarket 2 := ⟨⟨in_t4 (i := 29) rfl rfl, in_t1 (i := 5) rfl rfl, ⟨by decide +kernel, by decide +kernel⟩, by decide +kernel, by decide +kernel, by decide +kernel⟩, in_t4 (i := 28) rfl rfl, in_sel (i := 25) (q := (m_Fair_hoursToMarket.1, _)) rfl⟩
def m_Fair_othersAt : Mth := (⟨"MarketDays$Fair", "othersAt", "(II)I"⟩, prog_2_method_13_code, 5, some (FieldType.int))
theorem F_Fair_othersAt : MFv m_Fair_othersAt 2 := ⟨⟨in_t4 (i := 35) rfl rfl, in_t1 (i := 5) rfl rfl, ⟨by decide +kernel, by decide +kernel⟩, by decide +kernel, by decide +kernel, by decide +kernel⟩, in_t4 (i := 34) rfl rfl, in_sel (i := 26) (q := (m_Fair_othersAt.1, _)) rfl⟩
def m_Giving_worthBy : Mth := (⟨"MarketDays$Giving", "worthBy", "(IZ)I"⟩, prog_4_method_8_code, 3, some (FieldType.int))
theorem F_Giving_worthBy : MFv m_Giving_worthBy 2 := ⟨⟨in_t4 (i := 40) rfl rfl, in_t1 (i := 19) rfl rfl, ⟨by decide +kernel, by decide +kernel⟩, by decide +kernel, by decide +kernel, by decide +kernel⟩, in_t4 (i := 38) rfl rfl, in_t4 (i := 39) rfl rfl⟩
def m_MD_givingTold : Mth := (⟨"MarketDays", "givingTold", "(II)I"⟩, prog_1_method_21_code, 4, some (FieldType.int))
theorem F_MD_givingTold : MFv m_MD_givingTold 2 := ⟨⟨in_t4 (i := 45) rfl rfl, in_t1 (i := 1) rfl rfl, ⟨by decide +kernel, by decide +kernel⟩, by decide +kernel, by decide +kernel, by decide +kernel⟩, in_t4 (i := 43) rfl rfl, in_t4 (i := 44) rfl rfl⟩
def m_MD_can : Mth := (⟨"MarketDays", "can", "()I"⟩, prog_1_method_22_code, 1, some (FieldType.int))
theorem F_MD_can : MFv m_MD_can 0 := ⟨⟨in_t4 (i := 50) rfl rfl, in_t1 (i := 1) rfl rfl, ⟨by decide +kernel, by decide +kernel⟩, by decide +kernel, by decide +kernel, by decide +kernel⟩, in_t4 (i := 48) rfl rfl, in_t4 (i := 49) rfl rfl⟩
def m_Finder_countWays : Mth := (⟨"MarketDays$Finder", "countWays", "()I"⟩, prog_3_method_2_code, 2, some (FieldType.int))
theorem F_Finder_countWays : MFv m_Finder_countWays 0 := ⟨⟨in_t4 (i := 54) rfl rfl, in_t1 (i := 6) rfl rfl, ⟨by decide +kernel, by decide +kernel⟩, by decide +kernel, by decide +kernel, by decide +kernel⟩, in_t4 (i := 52) rfl rfl, in_t4 (i := 53) rfl rfl⟩
def m_Ways_suppose : Mth := (⟨"MarketDays$Ways", "suppose", "(I)V"⟩, prog_11_method_2_code, 4, none)
theorem F_Ways_suppose : MFv m_Ways_suppose 1 := ⟨⟨in_t4 (i := 58) rfl rfl, in_t1 (i := 7) rfl rfl, ⟨by decide +kernel, by decide +kernel⟩, by decide +kernel, by decide +kernel, by decide +kernel⟩, in_t4 (i := 56) rfl rfl, in_t4 (i := 57) rfl rfl⟩
def m_Arrays_fill : Mth := (⟨"java/util/Arrays", "fill", "([II)V"⟩, prog_21_method_103_code, 4, none)
theorem F_Arrays_fill : MFs m_Arrays_fill 2 := ⟨⟨in_t4 (i := 61) rfl rfl, in_t1 (i := 15) rfl rfl, ⟨by decide +kernel, by decide +kernel⟩, by decide +kernel, by decide +kernel, by decide +kernel⟩, in_t4 (i := 60) rfl rfl⟩
def m_Ways_begin : Mth := (⟨"MarketDays$Ways", "begin", "(I)V"⟩, prog_11_method_3_code, 3, none)
theorem F_Ways_begin : MFv m_Ways_begin 1 := ⟨⟨in_t4 (i := 66) rfl rfl, in_t1 (i := 7) rfl rfl, ⟨by decide +kernel, by decide +kernel⟩, by decide +kernel, by decide +kernel, by decide +kernel⟩, in_t4 (i := 64) rfl rfl, in_t4 (i := 65) rfl rfl⟩
def m_Ways_next : Mth := (⟨"MarketDays$Ways", "next", "()Z"⟩, prog_11_method_4_code, 4, some (FieldType.boolean))
theorem F_Ways_next : MFv m_Ways_next 0 := ⟨⟨in_t4 (i := 72) rfl rfl, in_t1 (i := 7) rfl rfl, ⟨by decide +kernel, by decide +kernel⟩, by decide +kernel, by decide +kernel, by decide +kernel⟩, in_t4 (i := 70) rfl rfl, in_t4 (i := 71) rfl rfl⟩
def m_Ways_openDays : Mth := (⟨"MarketDays$Ways", "openDays", "(I)I"⟩, prog_11_method_5_code, 7, some (FieldType.int))
theorem F_Ways_openDays : MFv m_Ways_openDays 1 := ⟨⟨in_t4 (i := 76) rfl rfl, in_t1 (i := 7) rfl rfl, ⟨by decide +kernel, by decide +kernel⟩, by decide +kernel, by decide +kernel, by decide +kernel⟩, in_t4 (i := 75) rfl rfl, in_sel (i := 27) (q := (m_Ways_openDays.1, _)) rfl⟩
def m_Integer_bitCount : Mth := (⟨"java/lang/Integer", "bitCount", "(I)I"⟩, prog_15_method_49_code, 1, some (FieldType.int))
theorem F_Integer_bitCount : MFs m_Integer_bitCount 1 := ⟨⟨in_t4 (i := 82) rfl rfl, in_t1 (i := 20) rfl rfl, ⟨by decide +kernel, by decide +kernel⟩, by decide +kernel, by decide +kernel, by decide +kernel⟩, in_t4 (i := 81) rfl rfl⟩
def m_MD_find : Mth := (⟨"MarketDays", "find", "(II)J"⟩, prog_1_method_23_code, 4, some (FieldType.long))
theorem F_MD_find : MFv m_MD_find 2 := ⟨⟨in_t4 (i := 89) rfl rfl, in_t1 (i := 1) rfl rfl, ⟨by decide +kernel, by decide +kernel⟩, by decide +kernel, by decide +kernel, by decide +kernel⟩, in_t4 (i := 87) rfl rfl, in_t4 (i := 88) rfl rfl⟩
def m_Finder_seek : Mth := (⟨"MarketDays$Finder", "seek", "(ILMarketDays$Giving;)J"⟩, prog_3_method_6_code, 8, some (FieldType.long))
theorem F_Finder_seek : MFv m_Finder_seek 2 := ⟨⟨in_t4 (i := 93) rfl rfl, in_t1 (i := 6) rfl rfl, ⟨by decide +kernel, by decide +kernel⟩, by decide +kernel, by decide +kernel, by decide +kernel⟩, in_t4 (i := 91) rfl rfl, in_t4 (i := 92) rfl rfl⟩
def m_Finder_weigh : Mth := (⟨"MarketDays$Finder", "weigh", "()I"⟩, prog_3_method_11_code, 6, some (FieldType.int))
theorem F_Finder_weigh : MFv m_Finder_weigh 0 := ⟨⟨in_t4 (i := 97) rfl rfl, in_t1 (i := 6) rfl rfl, ⟨by decide +kernel, by decide +kernel⟩, by decide +kernel, by decide +kernel, by decide +kernel⟩, in_t4 (i := 96) rfl rfl, in_sel (i := 28) (q := (m_Finder_weigh.1, _)) rfl⟩
def m_Finder_nearestOf : Mth := (⟨"MarketDays$Finder", "nearestOf", "(II)I"⟩, prog_3_method_14_code, 6, some (FieldType.int))
theorem F_Finder_nearestOf : MFv m_Finder_nearestOf 2 := ⟨⟨in_t4 (i := 101) rfl rfl, in_t1 (i := 6) rfl rfl, ⟨by decide +kernel, by decide +kernel⟩, by decide +kernel, by decide +kernel, by decide +kernel⟩, in_t4 (i := 100) rfl rfl, in_sel (i := 29) (q := (m_Finder_nearestOf.1, _)) rfl⟩
def m_Finder_weighDay : Mth := (⟨"MarketDays$Finder", "weighDay", "(III)I"⟩, prog_3_method_12_code, 7, some (FieldType.int))
theorem F_Finder_weighDay : MFv m_Finder_weighDay 3 := ⟨⟨in_t4 (i := 107) rfl rfl, in_t1 (i := 6) rfl rfl, ⟨by decide +kernel, by decide +kernel⟩, by decide +kernel, by decide +kernel, by decide +kernel⟩, in_t4 (i := 106) rfl rfl, in_sel (i := 30) (q := (m_Finder_weighDay.1, _)) rfl⟩
def m_Finder_worthPlace : Mth := (⟨"MarketDays$Finder", "worthPlace", "(IIII)I"⟩, prog_3_method_13_code, 4, some (FieldType.int))
theorem F_Finder_worthPlace : MFs m_Finder_worthPlace 4 := ⟨⟨in_t4 (i := 111) rfl rfl, in_t1 (i := 6) rfl rfl, ⟨by decide +kernel, by decide +kernel⟩, by decide +kernel, by decide +kernel, by decide +kernel⟩, in_t4 (i := 110) rfl rfl⟩
def m_Finder_score : Mth := (⟨"MarketDays$Finder", "score", "(ILMarketDays$Giving;)I"⟩, prog_3_method_8_code, 3, some (FieldType.int))
theorem F_Finder_score : MFv m_Finder_score 2 := ⟨⟨in_t4 (i := 117) rfl rfl, in_t1 (i := 6) rfl rfl, ⟨by decide +kernel, by decide +kernel⟩, by decide +kernel, by decide +kernel, by decide +kernel⟩, in_t4 (i := 116) rfl rfl, in_sel (i := 31) (q := (m_Finder_score.1, _)) rfl⟩
def m_Finder_worthOfWay : Mth := (⟨"MarketDays$Finder", "worthOfWay", "()I"⟩, prog_3_method_10_code, 6, some (FieldType.int))
theorem F_Finder_worthOfWay : MFv m_Finder_worthOfWay 0 := ⟨⟨in_t4 (i := 121) rfl rfl, in_t1 (i := 6) rfl rfl, ⟨by decide +kernel, by decide +kernel⟩, by decide +kernel, by decide +kernel, by decide +kernel⟩, in_t4 (i := 120) rfl rfl, in_sel (i := 32) (q := (m_Finder_worthOfWay.1, _)) rfl⟩
def m_Finder_otherNumbers : Mth := (⟨"MarketDays$Finder", "otherNumbers", "(LMarketDays$Giving;)I"⟩, prog_3_method_9_code, 4, some (FieldType.int))
theorem F_Finder_otherNumbers : MFv m_Finder_otherNumbers 1 := ⟨⟨in_t4 (i := 128) rfl rfl, in_t1 (i := 6) rfl rfl, ⟨by decide +kernel, by decide +kernel⟩, by decide +kernel, by decide +kernel, by decide +kernel⟩, in_t4 (i := 127) rfl rfl, in_sel (i := 33) (q := (m_Finder_otherNumbers.1, _)) rfl⟩
def m_Finder_keepWay : Mth := (⟨"MarketDays$Finder", "keepWay", "()V"⟩, prog_3_method_7_code, 2, none)
theorem F_Finder_keepWay : MFv m_Finder_keepWay 0 := ⟨⟨in_t4 (i := 133) rfl rfl, in_t1 (i := 6) rfl rfl, ⟨by decide +kernel, by decide +kernel⟩, by decide +kernel, by decide +kernel, by decide +kernel⟩, in_t4 (i := 132) rfl rfl, in_sel (i := 34) (q := (m_Finder_keepWay.1, _)) rfl⟩
def m_MD_foundDay : Mth := (⟨"MarketDays", "foundDay", "(I)I"⟩, prog_1_method_24_code, 2, some (FieldType.int))
theorem F_MD_foundDay : MFv m_MD_foundDay 1 := ⟨⟨in_t4 (i := 138) rfl rfl, in_t1 (i := 1) rfl rfl, ⟨by decide +kernel, by decide +kernel⟩, by decide +kernel, by decide +kernel, by decide +kernel⟩, in_t4 (i := 136) rfl rfl, in_t4 (i := 137) rfl rfl⟩
def m_MD_least : Mth := (⟨"MarketDays", "least", "()I"⟩, prog_1_method_25_code, 1, some (FieldType.int))
theorem F_MD_least : MFv m_MD_least 0 := ⟨⟨in_t4 (i := 142) rfl rfl, in_t1 (i := 1) rfl rfl, ⟨by decide +kernel, by decide +kernel⟩, by decide +kernel, by decide +kernel, by decide +kernel⟩, in_t4 (i := 140) rfl rfl, in_t4 (i := 141) rfl rfl⟩
def m_Finder_fewestDays : Mth := (⟨"MarketDays$Finder", "fewestDays", "()I"⟩, prog_3_method_3_code, 2, some (FieldType.int))
theorem F_Finder_fewestDays : MFv m_Finder_fewestDays 0 := ⟨⟨in_t4 (i := 146) rfl rfl, in_t1 (i := 6) rfl rfl, ⟨by decide +kernel, by decide +kernel⟩, by decide +kernel, by decide +kernel, by decide +kernel⟩, in_t4 (i := 144) rfl rfl, in_t4 (i := 145) rfl rfl⟩
def m_Finder_isWay : Mth := (⟨"MarketDays$Finder", "isWay", "(I)Z"⟩, prog_3_method_5_code, 2, some (FieldType.boolean))
theorem F_Finder_isWay : MFv m_Finder_isWay 1 := ⟨⟨in_t4 (i := 150) rfl rfl, in_t1 (i := 6) rfl rfl, ⟨by decide +kernel, by decide +kernel⟩, by decide +kernel, by decide +kernel, by decide +kernel⟩, in_t4 (i := 149) rfl rfl, in_sel (i := 35) (q := (m_Finder_isWay.1, _)) rfl⟩
def m_MD_knot : Mth := (⟨"MarketDays", "knot", "()I"⟩, prog_1_method_26_code, 1, some (FieldType.int))
theorem F_MD_knot : MFv m_MD_knot 0 := ⟨⟨in_t4 (i := 154) rfl rfl, in_t1 (i := 1) rfl rfl, ⟨by decide +kernel, by decide +kernel⟩, by decide +kernel, by decide +kernel, by decide +kernel⟩, in_t4 (i := 152) rfl rfl, in_t4 (i := 153) rfl rfl⟩
def m_Finder_smallestKnot : Mth := (⟨"MarketDays$Finder", "smallestKnot", "()I"⟩, prog_3_method_4_code, 3, some (FieldType.int))
theorem F_Finder_smallestKnot : MFv m_Finder_smallestKnot 0 := ⟨⟨in_t4 (i := 158) rfl rfl, in_t1 (i := 6) rfl rfl, ⟨by decide +kernel, by decide +kernel⟩, by decide +kernel, by decide +kernel, by decide +kernel⟩, in_t4 (i := 156) rfl rfl, in_t4 (i := 157) rfl rfl⟩
def m_MD_room : Mth := (⟨"MarketDays", "room", "(III)I"⟩, prog_1_method_27_code, 5, some (FieldType.int))
theorem F_MD_room : MFv m_MD_room 3 := ⟨⟨in_t4 (i := 162) rfl rfl, in_t1 (i := 1) rfl rfl, ⟨by decide +kernel, by decide +kernel⟩, by decide +kernel, by decide +kernel, by decide +kernel⟩, in_t4 (i := 160) rfl rfl, in_t4 (i := 161) rfl rfl⟩
def m_Fair_roomOf : Mth := (⟨"MarketDays$Fair", "roomOf", "(I)I"⟩, prog_2_method_9_code, 5, some (FieldType.int))
theorem F_Fair_roomOf : MFv m_Fair_roomOf 1 := ⟨⟨in_t4 (i := 166) rfl rfl, in_t1 (i := 5) rfl rfl, ⟨by decide +kernel, by decide +kernel⟩, by decide +kernel, by decide +kernel, by decide +kernel⟩, in_t4 (i := 164) rfl rfl, in_t4 (i := 165) rfl rfl⟩
def m_Fair_barsAny : Mth := (⟨"MarketDays$Fair", "barsAny", "(I)Z"⟩, prog_2_method_10_code, 3, some (FieldType.boolean))
theorem F_Fair_barsAny : MFv m_Fair_barsAny 1 := ⟨⟨in_t4 (i := 170) rfl rfl, in_t1 (i := 5) rfl rfl, ⟨by decide +kernel, by decide +kernel⟩, by decide +kernel, by decide +kernel, by decide +kernel⟩, in_t4 (i := 169) rfl rfl, in_sel (i := 36) (q := (m_Fair_barsAny.1, _)) rfl⟩
def m_MD_hurt : Mth := (⟨"MarketDays", "hurt", "(III)J"⟩, prog_1_method_28_code, 6, some (FieldType.long))
theorem F_MD_hurt : MFv m_MD_hurt 3 := ⟨⟨in_t4 (i := 175) rfl rfl, in_t1 (i := 1) rfl rfl, ⟨by decide +kernel, by decide +kernel⟩, by decide +kernel, by decide +kernel, by decide +kernel⟩, in_t4 (i := 173) rfl rfl, in_t4 (i := 174) rfl rfl⟩
def m_Fair_close : Mth := (⟨"MarketDays$Fair", "close", "(I)V"⟩, prog_2_method_3_code, 2, none)
theorem F_Fair_close : MFv m_Fair_close 1 := ⟨⟨in_t4 (i := 179) rfl rfl, in_t1 (i := 5) rfl rfl, ⟨by decide +kernel, by decide +kernel⟩, by decide +kernel, by decide +kernel, by decide +kernel⟩, in_t4 (i := 177) rfl rfl, in_t4 (i := 178) rfl rfl⟩
def m_MD_round : Mth := (⟨"MarketDays", "round", "(IIIII)I"⟩, prog_1_method_29_code, 7, some (FieldType.int))
theorem F_MD_round : MFv m_MD_round 5 := ⟨⟨in_t4 (i := 183) rfl rfl, in_t1 (i := 1) rfl rfl, ⟨by decide +kernel, by decide +kernel⟩, by decide +kernel, by decide +kernel, by decide +kernel⟩, in_t4 (i := 181) rfl rfl, in_t4 (i := 182) rfl rfl⟩
def m_MD_isJourney : Mth := (⟨"MarketDays", "isJourney", "(LMarketDays$Giving;III)Z"⟩, prog_1_method_32_code, 5, some (FieldType.boolean))
theorem F_MD_isJourney : MFv m_MD_isJourney 4 := ⟨⟨in_t4 (i := 187) rfl rfl, in_t1 (i := 1) rfl rfl, ⟨by decide +kernel, by decide +kernel⟩, by decide +kernel, by decide +kernel, by decide +kernel⟩, in_t4 (i := 186) rfl rfl, in_sel (i := 37) (q := (m_MD_isJourney.1, _)) rfl⟩
def m_Pedlar_findRound : Mth := (⟨"MarketDays$Pedlar", "findRound", "(III)I"⟩, prog_7_method_2_code, 8, some (FieldType.int))
theorem F_Pedlar_findRound : MFv m_Pedlar_findRound 3 := ⟨⟨in_t4 (i := 191) rfl rfl, in_t1 (i := 8) rfl rfl, ⟨by decide +kernel, by decide +kernel⟩, by decide +kernel, by decide +kernel, by decide +kernel⟩, in_t4 (i := 189) rfl rfl, in_t4 (i := 190) rfl rfl⟩
def m_Pedlar_mostFrom : Mth := (⟨"MarketDays$Pedlar", "mostFrom", "(IIII)I"⟩, prog_7_method_3_code, 6, some (FieldType.int))
theorem F_Pedlar_mostFrom : MFv m_Pedlar_mostFrom 4 := ⟨⟨in_t4 (i := 195) rfl rfl, in_t1 (i := 8) rfl rfl, ⟨by decide +kernel, by decide +kernel⟩, by decide +kernel, by decide +kernel, by decide +kernel⟩, in_t4 (i := 194) rfl rfl, in_sel (i := 38) (q := (m_Pedlar_mostFrom.1, _)) rfl⟩
def m_Pedlar_mostBeyond : Mth := (⟨"MarketDays$Pedlar", "mostBeyond", "(III)I"⟩, prog_7_method_4_code, 6, some (FieldType.int))
theorem F_Pedlar_mostBeyond : MFv m_Pedlar_mostBeyond 3 := ⟨⟨in_t4 (i := 199) rfl rfl, in_t1 (i := 8) rfl rfl, ⟨by decide +kernel, by decide +kernel⟩, by decide +kernel, by decide +kernel, by decide +kernel⟩, in_t4 (i := 198) rfl rfl, in_sel (i := 39) (q := (m_Pedlar_mostBeyond.1, _)) rfl⟩
def m_Pedlar_salesAt : Mth := (⟨"MarketDays$Pedlar", "salesAt", "(II)I"⟩, prog_7_method_6_code, 3, some (FieldType.int))
theorem F_Pedlar_salesAt : MFv m_Pedlar_salesAt 2 := ⟨⟨in_t4 (i := 205) rfl rfl, in_t1 (i := 8) rfl rfl, ⟨by decide +kernel, by decide +kernel⟩, by decide +kernel, by decide +kernel, by decide +kernel⟩, in_t4 (i := 204) rfl rfl, in_sel (i := 40) (q := (m_Pedlar_salesAt.1, _)) rfl⟩
def m_Pedlar_firstStop : Mth := (⟨"MarketDays$Pedlar", "firstStop", "(IIII)I"⟩, prog_7_method_5_code, 7, some (FieldType.int))
theorem F_Pedlar_firstStop : MFv m_Pedlar_firstStop 4 := ⟨⟨in_t4 (i := 211) rfl rfl, in_t1 (i := 8) rfl rfl, ⟨by decide +kernel, by decide +kernel⟩, by decide +kernel, by decide +kernel, by decide +kernel⟩, in_t4 (i := 210) rfl rfl, in_sel (i := 41) (q := (m_Pedlar_firstStop.1, _)) rfl⟩
def m_MD_roundTold : Mth := (⟨"MarketDays", "roundTold", "(I)I"⟩, prog_1_method_30_code, 2, some (FieldType.int))
theorem F_MD_roundTold : MFv m_MD_roundTold 1 := ⟨⟨in_t4 (i := 215) rfl rfl, in_t1 (i := 1) rfl rfl, ⟨by decide +kernel, by decide +kernel⟩, by decide +kernel, by decide +kernel, by decide +kernel⟩, in_t4 (i := 213) rfl rfl, in_t4 (i := 214) rfl rfl⟩
def m_MD_walk : Mth := (⟨"MarketDays", "walk", "(IIIII)I"⟩, prog_1_method_31_code, 8, some (FieldType.int))
theorem F_MD_walk : MFv m_MD_walk 5 := ⟨⟨in_t4 (i := 219) rfl rfl, in_t1 (i := 1) rfl rfl, ⟨by decide +kernel, by decide +kernel⟩, by decide +kernel, by decide +kernel, by decide +kernel⟩, in_t4 (i := 217) rfl rfl, in_t4 (i := 218) rfl rfl⟩
def m_MD_holdsTowns : Mth := (⟨"MarketDays", "holdsTowns", "(LMarketDays$Sheet;)Z"⟩, prog_1_method_33_code, 3, some (FieldType.boolean))
theorem F_MD_holdsTowns : MFv m_MD_holdsTowns 1 := ⟨⟨in_t4 (i := 223) rfl rfl, in_t1 (i := 1) rfl rfl, ⟨by decide +kernel, by decide +kernel⟩, by decide +kernel, by decide +kernel, by decide +kernel⟩, in_t4 (i := 222) rfl rfl, in_sel (i := 42) (q := (m_MD_holdsTowns.1, _)) rfl⟩
def m_Pedlar_follow : Mth := (⟨"MarketDays$Pedlar", "follow", "(LMarketDays$Sheet;II)I"⟩, prog_7_method_7_code, 8, some (FieldType.int))
theorem F_Pedlar_follow : MFv m_Pedlar_follow 3 := ⟨⟨in_t4 (i := 227) rfl rfl, in_t1 (i := 8) rfl rfl, ⟨by decide +kernel, by decide +kernel⟩, by decide +kernel, by decide +kernel, by decide +kernel⟩, in_t4 (i := 225) rfl rfl, in_t4 (i := 226) rfl rfl⟩
def m_MD_count : Mth := (⟨"MarketDays", "count", "(I)I"⟩, prog_1_method_34_code, 2, some (FieldType.int))
theorem F_MD_count : MFv m_MD_count 1 := ⟨⟨in_t4 (i := 231) rfl rfl, in_t1 (i := 1) rfl rfl, ⟨by decide +kernel, by decide +kernel⟩, by decide +kernel, by decide +kernel, by decide +kernel⟩, in_t4 (i := 229) rfl rfl, in_t4 (i := 230) rfl rfl⟩
def m_MD_image : Mth := (⟨"MarketDays", "image", "()I"⟩, prog_1_method_35_code, 1, some (FieldType.int))
theorem F_MD_image : MFv m_MD_image 0 := ⟨⟨in_t4 (i := 235) rfl rfl, in_t1 (i := 1) rfl rfl, ⟨by decide +kernel, by decide +kernel⟩, by decide +kernel, by decide +kernel, by decide +kernel⟩, in_t4 (i := 233) rfl rfl, in_t4 (i := 234) rfl rfl⟩
def m_Land_become : Mth := (⟨"MarketDays$Land", "become", "(LMarketDays$Land;)V"⟩, prog_5_method_9_code, 5, none)
theorem F_Land_become : MFv m_Land_become 1 := ⟨⟨in_t4 (i := 239) rfl rfl, in_t1 (i := 2) rfl rfl, ⟨by decide +kernel, by decide +kernel⟩, by decide +kernel, by decide +kernel, by decide +kernel⟩, in_t4 (i := 237) rfl rfl, in_t4 (i := 238) rfl rfl⟩
def m_MD_back : Mth := (⟨"MarketDays", "back", "()I"⟩, prog_1_method_36_code, 1, some (FieldType.int))
theorem F_MD_back : MFv m_MD_back 0 := ⟨⟨in_t5 (i := 4) rfl rfl, in_t1 (i := 1) rfl rfl, ⟨by decide +kernel, by decide +kernel⟩, by decide +kernel, by decide +kernel, by decide +kernel⟩, in_t5 (i := 2) rfl rfl, in_t5 (i := 3) rfl rfl⟩
def m_MD_sheet : Mth := (⟨"MarketDays", "sheet", "(III)I"⟩, prog_1_method_37_code, 5, some (FieldType.int))
theorem F_MD_sheet : MFv m_MD_sheet 3 := ⟨⟨in_t5 (i := 8) rfl rfl, in_t1 (i := 1) rfl rfl, ⟨by decide +kernel, by decide +kernel⟩, by decide +kernel, by decide +kernel, by decide +kernel⟩, in_t5 (i := 6) rfl rfl, in_t5 (i := 7) rfl rfl⟩
def m_Sheet_become : Mth := (⟨"MarketDays$Sheet", "become", "(II)V"⟩, prog_9_method_3_code, 3, none)
theorem F_Sheet_become : MFv m_Sheet_become 2 := ⟨⟨in_t5 (i := 12) rfl rfl, in_t1 (i := 9) rfl rfl, ⟨by decide +kernel, by decide +kernel⟩, by decide +kernel, by decide +kernel, by decide +kernel⟩, in_t5 (i := 10) rfl rfl, in_t5 (i := 11) rfl rfl⟩
def m_MD_cell : Mth := (⟨"MarketDays", "cell", "(III)I"⟩, prog_1_method_38_code, 5, some (FieldType.int))
theorem F_MD_cell : MFv m_MD_cell 3 := ⟨⟨in_t5 (i := 17) rfl rfl, in_t1 (i := 1) rfl rfl, ⟨by decide +kernel, by decide +kernel⟩, by decide +kernel, by decide +kernel, by decide +kernel⟩, in_t5 (i := 15) rfl rfl, in_t5 (i := 16) rfl rfl⟩
def m_Sheet_write : Mth := (⟨"MarketDays$Sheet", "write", "(II)Z"⟩, prog_9_method_5_code, 3, some (FieldType.boolean))
theorem F_Sheet_write : MFv m_Sheet_write 2 := ⟨⟨in_t5 (i := 21) rfl rfl, in_t1 (i := 9) rfl rfl, ⟨by decide +kernel, by decide +kernel⟩, by decide +kernel, by decide +kernel, by decide +kernel⟩, in_t5 (i := 19) rfl rfl, in_t5 (i := 20) rfl rfl⟩
def m_Sheet_spans : Mth := (⟨"MarketDays$Sheet", "spans", "(JI)Z"⟩, prog_9_method_4_code, 4, some (FieldType.boolean))
theorem F_Sheet_spans : MFv m_Sheet_spans 2 := ⟨⟨in_t5 (i := 25) rfl rfl, in_t1 (i := 9) rfl rfl, ⟨by decide +kernel, by decide +kernel⟩, by decide +kernel, by decide +kernel, by decide +kernel⟩, in_t5 (i := 23) rfl rfl, in_t5 (i := 24) rfl rfl⟩
def m_MD_copy : Mth := (⟨"MarketDays", "copy", "(IIIII)I"⟩, prog_1_method_39_code, 8, some (FieldType.int))
theorem F_MD_copy : MFv m_MD_copy 5 := ⟨⟨in_t5 (i := 29) rfl rfl, in_t1 (i := 1) rfl rfl, ⟨by decide +kernel, by decide +kernel⟩, by decide +kernel, by decide +kernel, by decide +kernel⟩, in_t5 (i := 27) rfl rfl, in_t5 (i := 28) rfl rfl⟩
def m_MD_roads : Mth := (⟨"MarketDays", "roads", "(IIII)I"⟩, prog_1_method_40_code, 11, some (FieldType.int))
theorem F_MD_roads : MFv m_MD_roads 4 := ⟨⟨in_t5 (i := 35) rfl rfl, in_t1 (i := 1) rfl rfl, ⟨by decide +kernel, by decide +kernel⟩, by decide +kernel, by decide +kernel, by decide +kernel⟩, in_t5 (i := 33) rfl rfl, in_t5 (i := 34) rfl rfl⟩
def m_MD_taken : Mth := (⟨"MarketDays", "taken", "(II)I"⟩, prog_1_method_41_code, 3, some (FieldType.int))
theorem F_MD_taken : MFv m_MD_taken 2 := ⟨⟨in_t5 (i := 41) rfl rfl, in_t1 (i := 1) rfl rfl, ⟨by decide +kernel, by decide +kernel⟩, by decide +kernel, by decide +kernel, by decide +kernel⟩, in_t5 (i := 39) rfl rfl, in_t5 (i := 40) rfl rfl⟩
def m_MD_takenTown : Mth := (⟨"MarketDays", "takenTown", "(II)I"⟩, prog_1_method_42_code, 3, some (FieldType.int))
theorem F_MD_takenTown : MFv m_MD_takenTown 2 := ⟨⟨in_t5 (i := 45) rfl rfl, in_t1 (i := 1) rfl rfl, ⟨by decide +kernel, by decide +kernel⟩, by decide +kernel, by decide +kernel, by decide +kernel⟩, in_t5 (i := 44) rfl rfl, in_sel (i := 43) (q := (m_MD_takenTown.1, _)) rfl⟩
def m_MD_takenGiving : Mth := (⟨"MarketDays", "takenGiving", "(II)I"⟩, prog_1_method_43_code, 4, some (FieldType.int))
theorem F_MD_takenGiving : MFv m_MD_takenGiving 2 := ⟨⟨in_t5 (i := 49) rfl rfl, in_t1 (i := 1) rfl rfl, ⟨by decide +kernel, by decide +kernel⟩, by decide +kernel, by decide +kernel, by decide +kernel⟩, in_t5 (i := 48) rfl rfl, in_sel (i := 44) (q := (m_MD_takenGiving.1, _)) rfl⟩
def m_MM_init : Mth := (⟨"MarketDaysModel", "<init>", "()V"⟩, prog_13_method_1_code, 1, none)
theorem F_MM_init : MFi m_MM_init 0 := ⟨⟨in_t5 (i := 55) rfl rfl, in_t1 (i := 18) rfl rfl, ⟨by decide +kernel, by decide +kernel⟩, by decide +kernel, by decide +kernel, by decide +kernel⟩, in_t5 (i := 54) rfl rfl, rfl⟩
def m_MM_first : Mth := (⟨"MarketDaysModel", "first", "(IIIII)V"⟩, prog_13_method_2_code, 6, none)
theorem F_MM_first : MFv m_MM_first 5 := ⟨⟨in_t5 (i := 73) rfl rfl, in_t1 (i := 18) rfl rfl, ⟨by decide +kernel, by decide +kernel⟩, by decide +kernel, by decide +kernel, by decide +kernel⟩, in_t5 (i := 72) rfl rfl, in_sel (i := 45) (q := (m_MM_first.1, _)) rfl⟩
def m_MM_town : Mth := (⟨"MarketDaysModel", "town", "(I)I"⟩, prog_13_method_7_code, 2, some (FieldType.int))
theorem F_MM_town : MFv m_MM_town 1 := ⟨⟨in_t6 (i := 10) rfl rfl, in_t1 (i := 18) rfl rfl, ⟨by decide +kernel, by decide +kernel⟩, by decide +kernel, by decide +kernel, by decide +kernel⟩, in_t6 (i := 8) rfl rfl, in_t6 (i := 9) rfl rfl⟩
def m_MM_in : Mth := (⟨"MarketDaysModel", "in", "(III)Z"⟩, prog_13_method_4_code, 3, some (FieldType.boolean))
theorem F_MM_in : MFs m_MM_in 3 := ⟨⟨in_t6 (i := 13) rfl rfl, in_t1 (i := 18) rfl rfl, ⟨by decide +kernel, by decide +kernel⟩, by decide +kernel, by decide +kernel, by decide +kernel⟩, in_t6 (i := 12) rfl rfl⟩
def m_MM_road : Mth := (⟨"MarketDaysModel", "road", "(III)I"⟩, prog_13_method_8_code, 5, some (FieldType.int))
theorem F_MM_road : MFv m_MM_road 3 := ⟨⟨in_t6 (i := 17) rfl rfl, in_t1 (i := 18) rfl rfl, ⟨by decide +kernel, by decide +kernel⟩, by decide +kernel, by decide +kernel, by decide +kernel⟩, in_t6 (i := 15) rfl rfl, in_t6 (i := 16) rfl rfl⟩
def m_MM_isTown : Mth := (⟨"MarketDaysModel", "isTown", "(I)Z"⟩, prog_13_method_5_code, 2, some (FieldType.boolean))
theorem F_MM_isTown : MFv m_MM_isTown 1 := ⟨⟨in_t6 (i := 21) rfl rfl, in_t1 (i := 18) rfl rfl, ⟨by decide +kernel, by decide +kernel⟩, by decide +kernel, by decide +kernel, by decide +kernel⟩, in_t6 (i := 20) rfl rfl, in_sel (i := 46) (q := (m_MM_isTown.1, _)) rfl⟩
def m_MM_hours : Mth := (⟨"MarketDaysModel", "hours", "(II)I"⟩, prog_13_method_10_code, 3, some (FieldType.int))
theorem F_MM_hours : MFv m_MM_hours 2 := ⟨⟨in_t6 (i := 25) rfl rfl, in_t1 (i := 18) rfl rfl, ⟨by decide +kernel, by decide +kernel⟩, by decide +kernel, by decide +kernel, by decide +kernel⟩, in_t6 (i := 23) rfl rfl, in_t6 (i := 24) rfl rfl⟩
def m_MM_spreads : Mth := (⟨"MarketDaysModel", "spreads", "()V"⟩, prog_13_method_9_code, 5, none)
theorem F_MM_spreads : MFv m_MM_spreads 0 := ⟨⟨in_t6 (i := 29) rfl rfl, in_t1 (i := 18) rfl rfl, ⟨by decide +kernel, by decide +kernel⟩, by decide +kernel, by decide +kernel, by decide +kernel⟩, in_t6 (i := 28) rfl rfl, in_sel (i := 47) (q := (m_MM_spreads.1, _)) rfl⟩
def m_MM_week : Mth := (⟨"MarketDaysModel", "week", "(I)I"⟩, prog_13_method_11_code, 3, some (FieldType.int))
theorem F_MM_week : MFv m_MM_week 1 := ⟨⟨in_t6 (i := 33) rfl rfl, in_t1 (i := 18) rfl rfl, ⟨by decide +kernel, by decide +kernel⟩, by decide +kernel, by decide +kernel, by decide +kernel⟩, in_t6 (i := 31) rfl rfl, in_t6 (i := 32) rfl rfl⟩
def m_MM_want : Mth := (⟨"MarketDaysModel", "want", "(III)I"⟩, prog_13_method_12_code, 6, some (FieldType.int))
theorem F_MM_want : MFv m_MM_want 3 := ⟨⟨in_t6 (i := 37) rfl rfl, in_t1 (i := 18) rfl rfl, ⟨by decide +kernel, by decide +kernel⟩, by decide +kernel, by decide +kernel, by decide +kernel⟩, in_t6 (i := 35) rfl rfl, in_t6 (i := 36) rfl rfl⟩
def m_MM_townTold : Mth := (⟨"MarketDaysModel", "townTold", "(II)I"⟩, prog_13_method_13_code, 3, some (FieldType.int))
theorem F_MM_townTold : MFv m_MM_townTold 2 := ⟨⟨in_t6 (i := 41) rfl rfl, in_t1 (i := 18) rfl rfl, ⟨by decide +kernel, by decide +kernel⟩, by decide +kernel, by decide +kernel, by decide +kernel⟩, in_t6 (i := 39) rfl rfl, in_t6 (i := 40) rfl rfl⟩
def m_MM_feast : Mth := (⟨"MarketDaysModel", "feast", "(II)I"⟩, prog_13_method_14_code, 3, some (FieldType.int))
theorem F_MM_feast : MFv m_MM_feast 2 := ⟨⟨in_t6 (i := 45) rfl rfl, in_t1 (i := 18) rfl rfl, ⟨by decide +kernel, by decide +kernel⟩, by decide +kernel, by decide +kernel, by decide +kernel⟩, in_t6 (i := 43) rfl rfl, in_t6 (i := 44) rfl rfl⟩
def m_MM_isWeek : Mth := (⟨"MarketDaysModel", "isWeek", "(I)Z"⟩, prog_13_method_6_code, 1, some (FieldType.boolean))
theorem F_MM_isWeek : MFs m_MM_isWeek 1 := ⟨⟨in_t6 (i := 48) rfl rfl, in_t1 (i := 18) rfl rfl, ⟨by decide +kernel, by decide +kernel⟩, by decide +kernel, by decide +kernel, by decide +kernel⟩, in_t6 (i := 47) rfl rfl⟩
def m_MM_feed : Mth := (⟨"MarketDaysModel", "feed", "(JI)I"⟩, prog_13_method_15_code, 5, some (FieldType.int))
theorem F_MM_feed : MFv m_MM_feed 2 := ⟨⟨in_t6 (i := 52) rfl rfl, in_t1 (i := 18) rfl rfl, ⟨by decide +kernel, by decide +kernel⟩, by decide +kernel, by decide +kernel, by decide +kernel⟩, in_t6 (i := 50) rfl rfl, in_t6 (i := 51) rfl rfl⟩
def m_MM_text : Mth := (⟨"MarketDaysModel", "text", "()I"⟩, prog_13_method_26_code, 3, some (FieldType.int))
theorem F_MM_text : MFv m_MM_text 0 := ⟨⟨in_t6 (i := 57) rfl rfl, in_t1 (i := 18) rfl rfl, ⟨by decide +kernel, by decide +kernel⟩, by decide +kernel, by decide +kernel, by decide +kernel⟩, in_t6 (i := 55) rfl rfl, in_t6 (i := 56) rfl rfl⟩
def m_MM_next : Mth := (⟨"MarketDaysModel", "next", "()V"⟩, prog_13_method_17_code, 5, none)
theorem F_MM_next : MFv m_MM_next 0 := ⟨⟨in_t6 (i := 61) rfl rfl, in_t1 (i := 18) rfl rfl, ⟨by decide +kernel, by decide +kernel⟩, by decide +kernel, by decide +kernel, by decide +kernel⟩, in_t6 (i := 60) rfl rfl, in_sel (i := 48) (q := (m_MM_next.1, _)) rfl⟩
def m_MM_letters : Mth := (⟨"MarketDaysModel", "letters", "()J"⟩, prog_13_method_16_code, 4, some (FieldType.long))
theorem F_MM_letters : MFv m_MM_letters 0 := ⟨⟨in_t6 (i := 65) rfl rfl, in_t1 (i := 18) rfl rfl, ⟨by decide +kernel, by decide +kernel⟩, by decide +kernel, by decide +kernel, by decide +kernel⟩, in_t6 (i := 64) rfl rfl, in_sel (i := 49) (q := (m_MM_letters.1, _)) rfl⟩
def m_MM_eRead : Mth := (⟨"MarketDaysModel", "eRead", "()Z"⟩, prog_13_method_25_code, 4, some (FieldType.boolean))
theorem F_MM_eRead : MFv m_MM_eRead 0 := ⟨⟨in_t6 (i := 69) rfl rfl, in_t1 (i := 18) rfl rfl, ⟨by decide +kernel, by decide +kernel⟩, by decide +kernel, by decide +kernel, by decide +kernel⟩, in_t6 (i := 68) rfl rfl, in_sel (i := 50) (q := (m_MM_eRead.1, _)) rfl⟩
def m_MM_puts : Mth := (⟨"MarketDaysModel", "puts", "(I)V"⟩, prog_13_method_19_code, 2, none)
theorem F_MM_puts : MFv m_MM_puts 1 := ⟨⟨in_t6 (i := 74) rfl rfl, in_t1 (i := 18) rfl rfl, ⟨by decide +kernel, by decide +kernel⟩, by decide +kernel, by decide +kernel, by decide +kernel⟩, in_t6 (i := 73) rfl rfl, in_sel (i := 51) (q := (m_MM_puts.1, _)) rfl⟩
def m_MM_unwinds : Mth := (⟨"MarketDaysModel", "unwinds", "(I)V"⟩, prog_13_method_20_code, 3, none)
theorem F_MM_unwinds : MFv m_MM_unwinds 1 := ⟨⟨in_t6 (i := 78) rfl rfl, in_t1 (i := 18) rfl rfl, ⟨by decide +kernel, by decide +kernel⟩, by decide +kernel, by decide +kernel, by decide +kernel⟩, in_t6 (i := 77) rfl rfl, in_sel (i := 52) (q := (m_MM_unwinds.1, _)) rfl⟩
def m_MM_rank : Mth := (⟨"MarketDaysModel", "rank", "(I)I"⟩, prog_13_method_18_code, 1, some (FieldType.int))
theorem F_MM_rank : MFs m_MM_rank 1 := ⟨⟨in_t6 (i := 81) rfl rfl, in_t1 (i := 18) rfl rfl, ⟨by decide +kernel, by decide +kernel⟩, by decide +kernel, by decide +kernel, by decide +kernel⟩, in_t6 (i := 80) rfl rfl⟩
def m_MM_opensOne : Mth := (⟨"MarketDaysModel", "opensOne", "(I)Z"⟩, prog_13_method_22_code, 2, some (FieldType.boolean))
theorem F_MM_opensOne : MFv m_MM_opensOne 1 := ⟨⟨in_t6 (i := 85) rfl rfl, in_t1 (i := 18) rfl rfl, ⟨by decide +kernel, by decide +kernel⟩, by decide +kernel, by decide +kernel, by decide +kernel⟩, in_t6 (i := 84) rfl rfl, in_sel (i := 53) (q := (m_MM_opensOne.1, _)) rfl⟩
def m_MM_holds : Mth := (⟨"MarketDaysModel", "holds", "(I)V"⟩, prog_13_method_21_code, 2, none)
theorem F_MM_holds : MFv m_MM_holds 1 := ⟨⟨in_t6 (i := 89) rfl rfl, in_t1 (i := 18) rfl rfl, ⟨by decide +kernel, by decide +kernel⟩, by decide +kernel, by decide +kernel, by decide +kernel⟩, in_t6 (i := 88) rfl rfl, in_sel (i := 54) (q := (m_MM_holds.1, _)) rfl⟩
def m_MM_signOf : Mth := (⟨"MarketDaysModel", "signOf", "()I"⟩, prog_13_method_24_code, 1, some (FieldType.int))
theorem F_MM_signOf : MFv m_MM_signOf 0 := ⟨⟨in_t6 (i := 93) rfl rfl, in_t1 (i := 18) rfl rfl, ⟨by decide +kernel, by decide +kernel⟩, by decide +kernel, by decide +kernel, by decide +kernel⟩, in_t6 (i := 92) rfl rfl, in_sel (i := 55) (q := (m_MM_signOf.1, _)) rfl⟩
def m_MM_between : Mth := (⟨"MarketDaysModel", "between", "(I)Z"⟩, prog_13_method_23_code, 2, some (FieldType.boolean))
theorem F_MM_between : MFv m_MM_between 1 := ⟨⟨in_t6 (i := 97) rfl rfl, in_t1 (i := 18) rfl rfl, ⟨by decide +kernel, by decide +kernel⟩, by decide +kernel, by decide +kernel, by decide +kernel⟩, in_t6 (i := 96) rfl rfl, in_sel (i := 56) (q := (m_MM_between.1, _)) rfl⟩
def m_MM_force : Mth := (⟨"MarketDaysModel", "force", "(I)I"⟩, prog_13_method_30_code, 3, some (FieldType.int))
theorem F_MM_force : MFv m_MM_force 1 := ⟨⟨in_t6 (i := 101) rfl rfl, in_t1 (i := 18) rfl rfl, ⟨by decide +kernel, by decide +kernel⟩, by decide +kernel, by decide +kernel, by decide +kernel⟩, in_t6 (i := 99) rfl rfl, in_t6 (i := 100) rfl rfl⟩
def m_MM_says : Mth := (⟨"MarketDaysModel", "says", "(II)J"⟩, prog_13_method_32_code, 3, some (FieldType.long))
theorem F_MM_says : MFv m_MM_says 2 := ⟨⟨in_t6 (i := 105) rfl rfl, in_t1 (i := 18) rfl rfl, ⟨by decide +kernel, by decide +kernel⟩, by decide +kernel, by decide +kernel, by decide +kernel⟩, in_t6 (i := 103) rfl rfl, in_t6 (i := 104) rfl rfl⟩
def m_MM_nearOf : Mth := (⟨"MarketDaysModel", "nearOf", "(II)I"⟩, prog_13_method_31_code, 3, some (FieldType.int))
theorem F_MM_nearOf : MFv m_MM_nearOf 2 := ⟨⟨in_t6 (i := 110) rfl rfl, in_t1 (i := 18) rfl rfl, ⟨by decide +kernel, by decide +kernel⟩, by decide +kernel, by decide +kernel, by decide +kernel⟩, in_t6 (i := 109) rfl rfl, in_sel (i := 57) (q := (m_MM_nearOf.1, _)) rfl⟩
def m_MM_names : Mth := (⟨"MarketDaysModel", "names", "(IIIII)V"⟩, prog_13_method_29_code, 6, none)
theorem F_MM_names : MFv m_MM_names 5 := ⟨⟨in_t6 (i := 114) rfl rfl, in_t1 (i := 18) rfl rfl, ⟨by decide +kernel, by decide +kernel⟩, by decide +kernel, by decide +kernel, by decide +kernel⟩, in_t6 (i := 113) rfl rfl, in_sel (i := 58) (q := (m_MM_names.1, _)) rfl⟩
def m_MM_worth : Mth := (⟨"MarketDaysModel", "worth", "(I)I"⟩, prog_13_method_28_code, 5, some (FieldType.int))
theorem F_MM_worth : MFv m_MM_worth 1 := ⟨⟨in_t6 (i := 118) rfl rfl, in_t1 (i := 18) rfl rfl, ⟨by decide +kernel, by decide +kernel⟩, by decide +kernel, by decide +kernel, by decide +kernel⟩, in_t6 (i := 117) rfl rfl, in_sel (i := 59) (q := (m_MM_worth.1, _)) rfl⟩
def m_MM_two : Mth := (⟨"MarketDaysModel", "two", "(III)I"⟩, prog_13_method_27_code, 3, some (FieldType.int))
theorem F_MM_two : MFs m_MM_two 3 := ⟨⟨in_t6 (i := 121) rfl rfl, in_t1 (i := 18) rfl rfl, ⟨by decide +kernel, by decide +kernel⟩, by decide +kernel, by decide +kernel, by decide +kernel⟩, in_t6 (i := 120) rfl rfl⟩
def m_MM_worthOf : Mth := (⟨"MarketDaysModel", "worthOf", "(IIII)J"⟩, prog_13_method_34_code, 5, some (FieldType.long))
theorem F_MM_worthOf : MFv m_MM_worthOf 4 := ⟨⟨in_t6 (i := 125) rfl rfl, in_t1 (i := 18) rfl rfl, ⟨by decide +kernel, by decide +kernel⟩, by decide +kernel, by decide +kernel, by decide +kernel⟩, in_t6 (i := 123) rfl rfl, in_t6 (i := 124) rfl rfl⟩
def m_MM_worthBy : Mth := (⟨"MarketDaysModel", "worthBy", "(IIII)I"⟩, prog_13_method_33_code, 6, some (FieldType.int))
theorem F_MM_worthBy : MFv m_MM_worthBy 4 := ⟨⟨in_t6 (i := 129) rfl rfl, in_t1 (i := 18) rfl rfl, ⟨by decide +kernel, by decide +kernel⟩, by decide +kernel, by decide +kernel, by decide +kernel⟩, in_t6 (i := 128) rfl rfl, in_sel (i := 60) (q := (m_MM_worthBy.1, _)) rfl⟩
def m_MM_giving : Mth := (⟨"MarketDaysModel", "giving", "(II)I"⟩, prog_13_method_37_code, 5, some (FieldType.int))
theorem F_MM_giving : MFv m_MM_giving 2 := ⟨⟨in_t6 (i := 133) rfl rfl, in_t1 (i := 18) rfl rfl, ⟨by decide +kernel, by decide +kernel⟩, by decide +kernel, by decide +kernel, by decide +kernel⟩, in_t6 (i := 131) rfl rfl, in_t6 (i := 132) rfl rfl⟩
def m_MM_isNumber : Mth := (⟨"MarketDaysModel", "isNumber", "(II)Z"⟩, prog_13_method_36_code, 3, some (FieldType.boolean))
theorem F_MM_isNumber : MFv m_MM_isNumber 2 := ⟨⟨in_t6 (i := 137) rfl rfl, in_t1 (i := 18) rfl rfl, ⟨by decide +kernel, by decide +kernel⟩, by decide +kernel, by decide +kernel, by decide +kernel⟩, in_t6 (i := 136) rfl rfl, in_sel (i := 61) (q := (m_MM_isNumber.1, _)) rfl⟩
def m_MM_marketOf : Mth := (⟨"MarketDaysModel", "marketOf", "(III)I"⟩, prog_13_method_41_code, 4, some (FieldType.int))
theorem F_MM_marketOf : MFv m_MM_marketOf 3 := ⟨⟨in_t6 (i := 141) rfl rfl, in_t1 (i := 18) rfl rfl, ⟨by decide +kernel, by decide +kernel⟩, by decide +kernel, by decide +kernel, by decide +kernel⟩, in_t6 (i := 139) rfl rfl, in_t6 (i := 140) rfl rfl⟩
def m_MM_isGiving : Mth := (⟨"MarketDaysModel", "isGiving", "(I)Z"⟩, prog_13_method_38_code, 2, some (FieldType.boolean))
theorem F_MM_isGiving : MFv m_MM_isGiving 1 := ⟨⟨in_t6 (i := 145) rfl rfl, in_t1 (i := 18) rfl rfl, ⟨by decide +kernel, by decide +kernel⟩, by decide +kernel, by decide +kernel, by decide +kernel⟩, in_t6 (i := 144) rfl rfl, in_sel (i := 62) (q := (m_MM_isGiving.1, _)) rfl⟩
def m_MM_market : Mth := (⟨"MarketDaysModel", "market", "(III)I"⟩, prog_13_method_40_code, 7, some (FieldType.int))
theorem F_MM_market : MFv m_MM_market 3 := ⟨⟨in_t6 (i := 149) rfl rfl, in_t1 (i := 18) rfl rfl, ⟨by decide +kernel, by decide +kernel⟩, by decide +kernel, by decide +kernel, by decide +kernel⟩, in_t6 (i := 148) rfl rfl, in_sel (i := 63) (q := (m_MM_market.1, _)) rfl⟩
def m_MM_daysOf : Mth := (⟨"MarketDaysModel", "daysOf", "(III)I"⟩, prog_13_method_39_code, 5, some (FieldType.int))
theorem F_MM_daysOf : MFv m_MM_daysOf 3 := ⟨⟨in_t6 (i := 153) rfl rfl, in_t1 (i := 18) rfl rfl, ⟨by decide +kernel, by decide +kernel⟩, by decide +kernel, by decide +kernel, by decide +kernel⟩, in_t6 (i := 152) rfl rfl, in_sel (i := 64) (q := (m_MM_daysOf.1, _)) rfl⟩
def m_MM_bar : Mth := (⟨"MarketDaysModel", "bar", "(II)I"⟩, prog_13_method_46_code, 3, some (FieldType.int))
theorem F_MM_bar : MFv m_MM_bar 2 := ⟨⟨in_t6 (i := 157) rfl rfl, in_t1 (i := 18) rfl rfl, ⟨by decide +kernel, by decide +kernel⟩, by decide +kernel, by decide +kernel, by decide +kernel⟩, in_t6 (i := 155) rfl rfl, in_t6 (i := 156) rfl rfl⟩
def m_MM_looks : Mth := (⟨"MarketDaysModel", "looks", "()V"⟩, prog_13_method_35_code, 3, none)
theorem F_MM_looks : MFv m_MM_looks 0 := ⟨⟨in_t6 (i := 161) rfl rfl, in_t1 (i := 18) rfl rfl, ⟨by decide +kernel, by decide +kernel⟩, by decide +kernel, by decide +kernel, by decide +kernel⟩, in_t6 (i := 160) rfl rfl, in_sel (i := 65) (q := (m_MM_looks.1, _)) rfl⟩
def m_MM_laysNow : Mth := (⟨"MarketDaysModel", "laysNow", "(II)V"⟩, prog_13_method_42_code, 4, none)
theorem F_MM_laysNow : MFv m_MM_laysNow 2 := ⟨⟨in_t6 (i := 165) rfl rfl, in_t1 (i := 18) rfl rfl, ⟨by decide +kernel, by decide +kernel⟩, by decide +kernel, by decide +kernel, by decide +kernel⟩, in_t6 (i := 164) rfl rfl, in_sel (i := 66) (q := (m_MM_laysNow.1, _)) rfl⟩
def m_MM_firstBar : Mth := (⟨"MarketDaysModel", "firstBar", "()I"⟩, prog_13_method_45_code, 3, some (FieldType.int))
theorem F_MM_firstBar : MFv m_MM_firstBar 0 := ⟨⟨in_t6 (i := 169) rfl rfl, in_t1 (i := 18) rfl rfl, ⟨by decide +kernel, by decide +kernel⟩, by decide +kernel, by decide +kernel, by decide +kernel⟩, in_t6 (i := 168) rfl rfl, in_sel (i := 67) (q := (m_MM_firstBar.1, _)) rfl⟩
def m_MM_doBar : Mth := (⟨"MarketDaysModel", "doBar", "(II)Z"⟩, prog_13_method_44_code, 4, some (FieldType.boolean))
theorem F_MM_doBar : MFv m_MM_doBar 2 := ⟨⟨in_t6 (i := 173) rfl rfl, in_t1 (i := 18) rfl rfl, ⟨by decide +kernel, by decide +kernel⟩, by decide +kernel, by decide +kernel, by decide +kernel⟩, in_t6 (i := 172) rfl rfl, in_sel (i := 68) (q := (m_MM_doBar.1, _)) rfl⟩
def m_MM_follows : Mth := (⟨"MarketDaysModel", "follows", "(II)Z"⟩, prog_13_method_43_code, 4, some (FieldType.boolean))
theorem F_MM_follows : MFv m_MM_follows 2 := ⟨⟨in_t6 (i := 177) rfl rfl, in_t1 (i := 18) rfl rfl, ⟨by decide +kernel, by decide +kernel⟩, by decide +kernel, by decide +kernel, by decide +kernel⟩, in_t6 (i := 176) rfl rfl, in_sel (i := 69) (q := (m_MM_follows.1, _)) rfl⟩
def m_MM_lawful : Mth := (⟨"MarketDaysModel", "lawful", "(II)I"⟩, prog_13_method_47_code, 5, some (FieldType.int))
theorem F_MM_lawful : MFv m_MM_lawful 2 := ⟨⟨in_t6 (i := 181) rfl rfl, in_t1 (i := 18) rfl rfl, ⟨by decide +kernel, by decide +kernel⟩, by decide +kernel, by decide +kernel, by decide +kernel⟩, in_t6 (i := 179) rfl rfl, in_t6 (i := 180) rfl rfl⟩
def m_MM_judge : Mth := (⟨"MarketDaysModel", "judge", "(III)J"⟩, prog_13_method_51_code, 4, some (FieldType.long))
theorem F_MM_judge : MFv m_MM_judge 3 := ⟨⟨in_t6 (i := 185) rfl rfl, in_t1 (i := 18) rfl rfl, ⟨by decide +kernel, by decide +kernel⟩, by decide +kernel, by decide +kernel, by decide +kernel⟩, in_t6 (i := 183) rfl rfl, in_t6 (i := 184) rfl rfl⟩
def m_MM_worthAll : Mth := (⟨"MarketDaysModel", "worthAll", "(II)I"⟩, prog_13_method_50_code, 5, some (FieldType.int))
theorem F_MM_worthAll : MFv m_MM_worthAll 2 := ⟨⟨in_t6 (i := 189) rfl rfl, in_t1 (i := 18) rfl rfl, ⟨by decide +kernel, by decide +kernel⟩, by decide +kernel, by decide +kernel, by decide +kernel⟩, in_t6 (i := 188) rfl rfl, in_sel (i := 70) (q := (m_MM_worthAll.1, _)) rfl⟩
def m_MM_worthIn : Mth := (⟨"MarketDaysModel", "worthIn", "(II)I"⟩, prog_13_method_49_code, 4, some (FieldType.int))
theorem F_MM_worthIn : MFv m_MM_worthIn 2 := ⟨⟨in_t6 (i := 193) rfl rfl, in_t1 (i := 18) rfl rfl, ⟨by decide +kernel, by decide +kernel⟩, by decide +kernel, by decide +kernel, by decide +kernel⟩, in_t6 (i := 192) rfl rfl, in_sel (i := 71) (q := (m_MM_worthIn.1, _)) rfl⟩
def m_MM_worthNow : Mth := (⟨"MarketDaysModel", "worthNow", "(I)I"⟩, prog_13_method_48_code, 8, some (FieldType.int))
theorem F_MM_worthNow : MFv m_MM_worthNow 1 := ⟨⟨in_t6 (i := 197) rfl rfl, in_t1 (i := 18) rfl rfl, ⟨by decide +kernel, by decide +kernel⟩, by decide +kernel, by decide +kernel, by decide +kernel⟩, in_t6 (i := 196) rfl rfl, in_sel (i := 72) (q := (m_MM_worthNow.1, _)) rfl⟩
def m_MM_givingTold : Mth := (⟨"MarketDaysModel", "givingTold", "(II)I"⟩, prog_13_method_52_code, 3, some (FieldType.int))
theorem F_MM_givingTold : MFv m_MM_givingTold 2 := ⟨⟨in_t6 (i := 201) rfl rfl, in_t1 (i := 18) rfl rfl, ⟨by decide +kernel, by decide +kernel⟩, by decide +kernel, by decide +kernel, by decide +kernel⟩, in_t6 (i := 199) rfl rfl, in_t6 (i := 200) rfl rfl⟩
def m_MM_can : Mth := (⟨"MarketDaysModel", "can", "()I"⟩, prog_13_method_56_code, 3, some (FieldType.int))
theorem F_MM_can : MFv m_MM_can 0 := ⟨⟨in_t6 (i := 205) rfl rfl, in_t1 (i := 18) rfl rfl, ⟨by decide +kernel, by decide +kernel⟩, by decide +kernel, by decide +kernel, by decide +kernel⟩, in_t6 (i := 203) rfl rfl, in_t6 (i := 204) rfl rfl⟩
def m_MM_all : Mth := (⟨"MarketDaysModel", "all", "()I"⟩, prog_13_method_55_code, 1, some (FieldType.int))
theorem F_MM_all : MFv m_MM_all 0 := ⟨⟨in_t6 (i := 209) rfl rfl, in_t1 (i := 18) rfl rfl, ⟨by decide +kernel, by decide +kernel⟩, by decide +kernel, by decide +kernel, by decide +kernel⟩, in_t6 (i := 208) rfl rfl, in_sel (i := 73) (q := (m_MM_all.1, _)) rfl⟩
def m_MM_nextWay : Mth := (⟨"MarketDaysModel", "nextWay", "(IZ)Z"⟩, prog_13_method_54_code, 6, some (FieldType.boolean))
theorem F_MM_nextWay : MFv m_MM_nextWay 2 := ⟨⟨in_t6 (i := 213) rfl rfl, in_t1 (i := 18) rfl rfl, ⟨by decide +kernel, by decide +kernel⟩, by decide +kernel, by decide +kernel, by decide +kernel⟩, in_t6 (i := 212) rfl rfl, in_sel (i := 74) (q := (m_MM_nextWay.1, _)) rfl⟩
def m_MM_isFree : Mth := (⟨"MarketDaysModel", "isFree", "(I)Z"⟩, prog_13_method_53_code, 3, some (FieldType.boolean))
theorem F_MM_isFree : MFv m_MM_isFree 1 := ⟨⟨in_t6 (i := 217) rfl rfl, in_t1 (i := 18) rfl rfl, ⟨by decide +kernel, by decide +kernel⟩, by decide +kernel, by decide +kernel, by decide +kernel⟩, in_t6 (i := 216) rfl rfl, in_sel (i := 75) (q := (m_MM_isFree.1, _)) rfl⟩
def m_MM_find : Mth := (⟨"MarketDaysModel", "find", "(II)J"⟩, prog_13_method_62_code, 6, some (FieldType.long))
theorem F_MM_find : MFv m_MM_find 2 := ⟨⟨in_t6 (i := 221) rfl rfl, in_t1 (i := 18) rfl rfl, ⟨by decide +kernel, by decide +kernel⟩, by decide +kernel, by decide +kernel, by decide +kernel⟩, in_t6 (i := 219) rfl rfl, in_t6 (i := 220) rfl rfl⟩
def m_MM_worthWay : Mth := (⟨"MarketDaysModel", "worthWay", "()I"⟩, prog_13_method_60_code, 8, some (FieldType.int))
theorem F_MM_worthWay : MFv m_MM_worthWay 0 := ⟨⟨in_t6 (i := 225) rfl rfl, in_t1 (i := 18) rfl rfl, ⟨by decide +kernel, by decide +kernel⟩, by decide +kernel, by decide +kernel, by decide +kernel⟩, in_t6 (i := 224) rfl rfl, in_sel (i := 76) (q := (m_MM_worthWay.1, _)) rfl⟩
def m_MM_dayIn : Mth := (⟨"MarketDaysModel", "dayIn", "(I)I"⟩, prog_13_method_57_code, 2, some (FieldType.int))
theorem F_MM_dayIn : MFs m_MM_dayIn 1 := ⟨⟨in_t6 (i := 228) rfl rfl, in_t1 (i := 18) rfl rfl, ⟨by decide +kernel, by decide +kernel⟩, by decide +kernel, by decide +kernel, by decide +kernel⟩, in_t6 (i := 227) rfl rfl⟩
def m_MM_keptWorth : Mth := (⟨"MarketDaysModel", "keptWorth", "(IIII)I"⟩, prog_13_method_59_code, 6, some (FieldType.int))
theorem F_MM_keptWorth : MFv m_MM_keptWorth 4 := ⟨⟨in_t6 (i := 232) rfl rfl, in_t1 (i := 18) rfl rfl, ⟨by decide +kernel, by decide +kernel⟩, by decide +kernel, by decide +kernel, by decide +kernel⟩, in_t6 (i := 231) rfl rfl, in_sel (i := 77) (q := (m_MM_keptWorth.1, _)) rfl⟩
def m_MM_others : Mth := (⟨"MarketDaysModel", "others", "(I)I"⟩, prog_13_method_58_code, 4, some (FieldType.int))
theorem F_MM_others : MFv m_MM_others 1 := ⟨⟨in_t6 (i := 236) rfl rfl, in_t1 (i := 18) rfl rfl, ⟨by decide +kernel, by decide +kernel⟩, by decide +kernel, by decide +kernel, by decide +kernel⟩, in_t6 (i := 235) rfl rfl, in_sel (i := 78) (q := (m_MM_others.1, _)) rfl⟩
def m_MM_keeps : Mth := (⟨"MarketDaysModel", "keeps", "()V"⟩, prog_13_method_61_code, 2, none)
theorem F_MM_keeps : MFv m_MM_keeps 0 := ⟨⟨in_t7 (i := 0) rfl rfl, in_t1 (i := 18) rfl rfl, ⟨by decide +kernel, by decide +kernel⟩, by decide +kernel, by decide +kernel, by decide +kernel⟩, in_t6 (i := 239) rfl rfl, in_sel (i := 79) (q := (m_MM_keeps.1, _)) rfl⟩
def m_MM_foundDay : Mth := (⟨"MarketDaysModel", "foundDay", "(I)I"⟩, prog_13_method_63_code, 2, some (FieldType.int))
theorem F_MM_foundDay : MFv m_MM_foundDay 1 := ⟨⟨in_t7 (i := 5) rfl rfl, in_t1 (i := 18) rfl rfl, ⟨by decide +kernel, by decide +kernel⟩, by decide +kernel, by decide +kernel, by decide +kernel⟩, in_t7 (i := 3) rfl rfl, in_t7 (i := 4) rfl rfl⟩
def m_MM_least : Mth := (⟨"MarketDaysModel", "least", "()I"⟩, prog_13_method_64_code, 4, some (FieldType.int))
theorem F_MM_least : MFv m_MM_least 0 := ⟨⟨in_t7 (i := 9) rfl rfl, in_t1 (i := 18) rfl rfl, ⟨by decide +kernel, by decide +kernel⟩, by decide +kernel, by decide +kernel, by decide +kernel⟩, in_t7 (i := 7) rfl rfl, in_t7 (i := 8) rfl rfl⟩
def m_MM_knot : Mth := (⟨"MarketDaysModel", "knot", "()I"⟩, prog_13_method_66_code, 3, some (FieldType.int))
theorem F_MM_knot : MFv m_MM_knot 0 := ⟨⟨in_t7 (i := 13) rfl rfl, in_t1 (i := 18) rfl rfl, ⟨by decide +kernel, by decide +kernel⟩, by decide +kernel, by decide +kernel, by decide +kernel⟩, in_t7 (i := 11) rfl rfl, in_t7 (i := 12) rfl rfl⟩
def m_MM_ones : Mth := (⟨"MarketDaysModel", "ones", "(I)I"⟩, prog_13_method_65_code, 3, some (FieldType.int))
theorem F_MM_ones : MFs m_MM_ones 1 := ⟨⟨in_t7 (i := 16) rfl rfl, in_t1 (i := 18) rfl rfl, ⟨by decide +kernel, by decide +kernel⟩, by decide +kernel, by decide +kernel, by decide +kernel⟩, in_t7 (i := 15) rfl rfl⟩
def m_MM_room : Mth := (⟨"MarketDaysModel", "room", "(III)I"⟩, prog_13_method_67_code, 8, some (FieldType.int))
theorem F_MM_room : MFv m_MM_room 3 := ⟨⟨in_t7 (i := 20) rfl rfl, in_t1 (i := 18) rfl rfl, ⟨by decide +kernel, by decide +kernel⟩, by decide +kernel, by decide +kernel, by decide +kernel⟩, in_t7 (i := 18) rfl rfl, in_t7 (i := 19) rfl rfl⟩
def m_MM_hurt : Mth := (⟨"MarketDaysModel", "hurt", "(III)J"⟩, prog_13_method_68_code, 5, some (FieldType.long))
theorem F_MM_hurt : MFv m_MM_hurt 3 := ⟨⟨in_t7 (i := 24) rfl rfl, in_t1 (i := 18) rfl rfl, ⟨by decide +kernel, by decide +kernel⟩, by decide +kernel, by decide +kernel, by decide +kernel⟩, in_t7 (i := 22) rfl rfl, in_t7 (i := 23) rfl rfl⟩
def m_MM_round : Mth := (⟨"MarketDaysModel", "round", "(IIIII)I"⟩, prog_13_method_71_code, 12, some (FieldType.int))
theorem F_MM_round : MFv m_MM_round 5 := ⟨⟨in_t7 (i := 28) rfl rfl, in_t1 (i := 18) rfl rfl, ⟨by decide +kernel, by decide +kernel⟩, by decide +kernel, by decide +kernel, by decide +kernel⟩, in_t7 (i := 26) rfl rfl, in_t7 (i := 27) rfl rfl⟩
def m_MM_soldBy : Mth := (⟨"MarketDaysModel", "soldBy", "(IIIIII)I"⟩, prog_13_method_70_code, 9, some (FieldType.int))
theorem F_MM_soldBy : MFv m_MM_soldBy 6 := ⟨⟨in_t7 (i := 32) rfl rfl, in_t1 (i := 18) rfl rfl, ⟨by decide +kernel, by decide +kernel⟩, by decide +kernel, by decide +kernel, by decide +kernel⟩, in_t7 (i := 31) rfl rfl, in_sel (i := 80) (q := (m_MM_soldBy.1, _)) rfl⟩
def m_MM_sold : Mth := (⟨"MarketDaysModel", "sold", "(III)I"⟩, prog_13_method_69_code, 4, some (FieldType.int))
theorem F_MM_sold : MFv m_MM_sold 3 := ⟨⟨in_t7 (i := 36) rfl rfl, in_t1 (i := 18) rfl rfl, ⟨by decide +kernel, by decide +kernel⟩, by decide +kernel, by decide +kernel, by decide +kernel⟩, in_t7 (i := 35) rfl rfl, in_sel (i := 81) (q := (m_MM_sold.1, _)) rfl⟩
def m_MM_roundTold : Mth := (⟨"MarketDaysModel", "roundTold", "(I)I"⟩, prog_13_method_72_code, 2, some (FieldType.int))
theorem F_MM_roundTold : MFv m_MM_roundTold 1 := ⟨⟨in_t7 (i := 40) rfl rfl, in_t1 (i := 18) rfl rfl, ⟨by decide +kernel, by decide +kernel⟩, by decide +kernel, by decide +kernel, by decide +kernel⟩, in_t7 (i := 38) rfl rfl, in_t7 (i := 39) rfl rfl⟩
def m_MM_walk : Mth := (⟨"MarketDaysModel", "walk", "(IIIII)I"⟩, prog_13_method_73_code, 11, some (FieldType.int))
theorem F_MM_walk : MFv m_MM_walk 5 := ⟨⟨in_t7 (i := 44) rfl rfl, in_t1 (i := 18) rfl rfl, ⟨by decide +kernel, by decide +kernel⟩, by decide +kernel, by decide +kernel, by decide +kernel⟩, in_t7 (i := 42) rfl rfl, in_t7 (i := 43) rfl rfl⟩
def m_MM_count : Mth := (⟨"MarketDaysModel", "count", "(I)I"⟩, prog_13_method_74_code, 2, some (FieldType.int))
theorem F_MM_count : MFv m_MM_count 1 := ⟨⟨in_t7 (i := 48) rfl rfl, in_t1 (i := 18) rfl rfl, ⟨by decide +kernel, by decide +kernel⟩, by decide +kernel, by decide +kernel, by decide +kernel⟩, in_t7 (i := 46) rfl rfl, in_t7 (i := 47) rfl rfl⟩
def m_MM_image : Mth := (⟨"MarketDaysModel", "image", "()I"⟩, prog_13_method_75_code, 2, some (FieldType.int))
theorem F_MM_image : MFv m_MM_image 0 := ⟨⟨in_t7 (i := 52) rfl rfl, in_t1 (i := 18) rfl rfl, ⟨by decide +kernel, by decide +kernel⟩, by decide +kernel, by decide +kernel, by decide +kernel⟩, in_t7 (i := 50) rfl rfl, in_t7 (i := 51) rfl rfl⟩
def m_MM_back : Mth := (⟨"MarketDaysModel", "back", "()I"⟩, prog_13_method_76_code, 3, some (FieldType.int))
theorem F_MM_back : MFv m_MM_back 0 := ⟨⟨in_t7 (i := 56) rfl rfl, in_t1 (i := 18) rfl rfl, ⟨by decide +kernel, by decide +kernel⟩, by decide +kernel, by decide +kernel, by decide +kernel⟩, in_t7 (i := 54) rfl rfl, in_t7 (i := 55) rfl rfl⟩
def m_MM_sheet : Mth := (⟨"MarketDaysModel", "sheet", "(III)I"⟩, prog_13_method_77_code, 5, some (FieldType.int))
theorem F_MM_sheet : MFv m_MM_sheet 3 := ⟨⟨in_t7 (i := 60) rfl rfl, in_t1 (i := 18) rfl rfl, ⟨by decide +kernel, by decide +kernel⟩, by decide +kernel, by decide +kernel, by decide +kernel⟩, in_t7 (i := 58) rfl rfl, in_t7 (i := 59) rfl rfl⟩
def m_MM_cell : Mth := (⟨"MarketDaysModel", "cell", "(III)I"⟩, prog_13_method_78_code, 4, some (FieldType.int))
theorem F_MM_cell : MFv m_MM_cell 3 := ⟨⟨in_t7 (i := 64) rfl rfl, in_t1 (i := 18) rfl rfl, ⟨by decide +kernel, by decide +kernel⟩, by decide +kernel, by decide +kernel, by decide +kernel⟩, in_t7 (i := 62) rfl rfl, in_t7 (i := 63) rfl rfl⟩
def m_MM_copy : Mth := (⟨"MarketDaysModel", "copy", "(IIIII)I"⟩, prog_13_method_79_code, 10, some (FieldType.int))
theorem F_MM_copy : MFv m_MM_copy 5 := ⟨⟨in_t7 (i := 68) rfl rfl, in_t1 (i := 18) rfl rfl, ⟨by decide +kernel, by decide +kernel⟩, by decide +kernel, by decide +kernel, by decide +kernel⟩, in_t7 (i := 66) rfl rfl, in_t7 (i := 67) rfl rfl⟩
def m_MM_roads : Mth := (⟨"MarketDaysModel", "roads", "(IIII)I"⟩, prog_13_method_80_code, 9, some (FieldType.int))
theorem F_MM_roads : MFv m_MM_roads 4 := ⟨⟨in_t7 (i := 72) rfl rfl, in_t1 (i := 18) rfl rfl, ⟨by decide +kernel, by decide +kernel⟩, by decide +kernel, by decide +kernel, by decide +kernel⟩, in_t7 (i := 70) rfl rfl, in_t7 (i := 71) rfl rfl⟩
def m_MM_taken : Mth := (⟨"MarketDaysModel", "taken", "(II)I"⟩, prog_13_method_82_code, 3, some (FieldType.int))
theorem F_MM_taken : MFv m_MM_taken 2 := ⟨⟨in_t7 (i := 77) rfl rfl, in_t1 (i := 18) rfl rfl, ⟨by decide +kernel, by decide +kernel⟩, by decide +kernel, by decide +kernel, by decide +kernel⟩, in_t7 (i := 75) rfl rfl, in_t7 (i := 76) rfl rfl⟩
def m_MM_isUnder : Mth := (⟨"MarketDaysModel", "isUnder", "(II)Z"⟩, prog_13_method_81_code, 2, some (FieldType.boolean))
theorem F_MM_isUnder : MFs m_MM_isUnder 2 := ⟨⟨in_t7 (i := 80) rfl rfl, in_t1 (i := 18) rfl rfl, ⟨by decide +kernel, by decide +kernel⟩, by decide +kernel, by decide +kernel, by decide +kernel⟩, in_t7 (i := 79) rfl rfl⟩
end
section
/-! The abstract memory (cells by number from the law's start on, their shapes and what they hold), the machine's heap that holds it, and the judgement Ex: a frame at pc with locals, stack and memory comes to the method's end with Φ. -/
abbrev Mem : Type := List (Nat × Nat) × (Nat → Nat → Int32) × (Nat → Nat → Int64) × (Nat → Nat → Option Nat) × (Nat × (Nat → Int32))
def sh (M : Mem) : List (Nat × Nat) := M.1
def mi (M : Mem) : Nat → Nat → Int32 := M.2.1
def ml (M : Mem) : Nat → Nat → Int64 := M.2.2.1
def mr (M : Mem) : Nat → Nat → Option Nat := M.2.2.2.1
def sc (M : Mem) : Nat × (Nat → Int32) := M.2.2.2.2
/-- one place of a row; one place of a row of rows -/
def u1 {α : Type} (g : Nat → α) (k : Nat) (v : α) : Nat → α := fun b => if b = k then v else g b
def u2 {α : Type} (f : Nat → Nat → α) (j k : Nat) (v : α) : Nat → Nat → α := fun a => if a = j then u1 (f a) k v else f a
theorem u1_s {α : Type} (g : Nat → α) (k : Nat) (v : α) : u1 g k v k = v := by simp [u1]
theorem u1_n {α : Type} {g : Nat → α} {k b : Nat} {v : α} (h : b ≠ k) : u1 g k v b = g b := by simp [u1, h]
theorem u2_s {α : Type} (f : Nat → Nat → α) (j k : Nat) (v : α) : u2 f j k v j = u1 (f j) k v := by simp [u2]
theorem u2_n {α : Type} {f : Nat → Nat → α} {j k a : Nat} {v : α} (h : a ≠ j) : u2 f j k v a = f a := by simp [u2, h]
def wi (M : Mem) (j k : Nat) (v : Int32) : Mem := (sh M, u2 (mi M) j k v, ml M, mr M, sc M)
def wl (M : Mem) (j k : Nat) (v : Int64) : Mem := (sh M, mi M, u2 (ml M) j k v, mr M, sc M)
def wr (M : Mem) (j k : Nat) (v : Option Nat) : Mem := (sh M, mi M, ml M, u2 (mr M) j k v, sc M)
def rv : Option Nat → Value
  | none => .null
  | some a => .ref a
/-- place k of cell j, by its type code -/
def vv (t : Nat) (M : Mem) (j k : Nat) : Value := match t with
  | 0 => .int (mi M j k)
  | 1 => .long (ml M j k)
  | _ => rv (mr M j k)
/-- arrays by kind: int, boolean, long, int[], Rule, Giving, Sheet -/
def akt (k : Nat) : Nat := match k with
  | 100 => 0
  | 101 => 0
  | 102 => 1
  | _ => 2
def aty (k : Nat) : FieldType := match k with
  | 100 => .int
  | 101 => .boolean
  | 102 => .long
  | 103 => .array .int
  | 104 => .object "MarketDays$Rule"
  | 105 => .object "MarketDays$Giving"
  | _ => .object "MarketDays$Sheet"
/-- what stays through the law's run: launch, the first cell's address, the heap at the start, classes, array classes, String constants, their bytes, the script, a formatter -/
abbrev EV : Type := Launch × Nat × Heap × va_G × (Nat → ClassId) × (Nat → Nat) × (Nat → Nat) × Nat × Nat
def eL (E : EV) : Launch := E.1
def eZ (E : EV) : Nat := E.2.1
def eG (E : EV) : Heap := E.2.2.1
def eD (E : EV) : va_G := E.2.2.2.1
def eT (E : EV) : Nat → ClassId := E.2.2.2.2.1
def eK (E : EV) : Nat → Nat := E.2.2.2.2.2.1
def eV (E : EV) : Nat → Nat := E.2.2.2.2.2.2.1
def eB (E : EV) : Nat := E.2.2.2.2.2.2.2.1
def eF (E : EV) : Nat := E.2.2.2.2.2.2.2.2
/-- cell numbers: from 1048576 on what was there before: String constants, their bytes, the script, the formatter -/
def ad (E : EV) (j : Nat) : Nat := if j < 1048576 then eZ E + j else if j < 1048676 then eK E (j - 1048576) else if j < 1048776 then eV E (j - 1048676) else if j = 1048776 then eB E else eF E
def cv (E : EV) (v : Value) : Value := match v with
  | .ref j => .ref (ad E j)
  | w => w
theorem cv_cat (E : EV) (v : Value) : (cv E v).category = v.category := by cases v <;> rfl
theorem ad_lt {E : EV} {j : Nat} (h : j < 1048576) : ad E j = eZ E + j := by simp [ad, h]
def cellOk (E : EV) (M : Mem) (H : Heap) (j : Nat) (kn : Nat × Nat) : Prop :=
  if kn.1 < 100 then ∃ r : vw_C, cls_tbl[kn.1]? = some r ∧ r.2.2 = kn.2 ∧ t_OB (eZ E + j) ((eD E).1 kn.1) kn.2 ((eD E).2 kn.1) H (fun k => cv E (vv (ftc kn.1 k) M j k))
  else H[eZ E + j]? = some (arrV (eT E kn.1) kn.2 (fun k => cv E (vv (akt kn.1) M j k)))
def Wd (E : EV) (M : Mem) (H : Heap) : Prop :=
  H.size = eZ E + (sh M).length ∧ (sh M).length ≤ 1048576 ∧ (∀ q, q < eZ E → H[q]? = (eG E)[q]?) ∧ (∀ j kn, (sh M)[j]? = some kn → cellOk E M H j kn) ∧
  ∃ scr : Cell, (eG E)[eB E]? = some scr ∧ scr.slots.size = (sc M).1 ∧ ∀ j : Nat, j < (sc M).1 → scr.slots[j]? = some (.int ((sc M).2 j))
def nst_tbl : List Cond := lw_tbl.filter (fun w => match w with
  | .methodLinkNest _ _ _ _ => true
  | _ => false)
def sTab : List (String × Nat × String) := [("MarketDays", 81, "near hours < 4 ; worth 10 - other * 2 + want * 5 ;"), ("MarketDays$Tape", 105, "near"), ("MarketDays$Tape", 111, "worth"), ("MarketDays$Tape", 113, "or"), ("MarketDays$Tape", 115, "and"), ("MarketDays$Tape", 117, "not"), ("MarketDays$Tape", 119, "hours"), ("MarketDays$Tape", 121, "size"), ("MarketDays$Tape", 122, "other"), ("MarketDays$Tape", 124, "day"), ("MarketDays$Tape", 126, "want"), ("MarketDays$Tape", 128, "week")]
def sByt : List (List Int32) := [[110, 101, 97, 114, 32, 104, 111, 117, 114, 115, 32, 60, 32, 52, 32, 59, 32, 119, 111, 114, 116, 104, 32, 49, 48, 32, 45, 32, 111, 116, 104, 101, 114, 32, 42, 32, 50, 32, 43, 32, 119, 97, 110, 116, 32, 42, 32, 53, 32, 59], [110, 101, 97, 114], [119, 111, 114, 116, 104], [111, 114], [97, 110, 100], [110, 111, 116], [104, 111, 117, 114, 115], [115, 105, 122, 101], [111, 116, 104, 101, 114], [100, 97, 121], [119, 97, 110, 116], [119, 101, 101, 107]]
def sLen : List Nat := [50, 4, 5, 2, 3, 3, 5, 4, 5, 3, 4, 4]
theorem sLen_ok : ∀ i, i < 12 → sLen.getD i 0 = (sByt.getD i []).length := by decide +kernel
/-- what a state's tables say, and the cells that were there at the start -/
def EnvOK (E : EV) (U : State) : Prop :=
  va_K (eD E) cls_tbl [] U ∧ (∀ k, 100 ≤ k → k ≤ 106 → ArrOfT U (eT E k) (aty k) ∧ va_RA U (eT E k) (aty k)) ∧ (∀ w ∈ nst_tbl, va_Nw w U) ∧
  (va_AO "MarketDays$Rule" U ∧ va_AO "MarketDays$Giving" U ∧ va_AO "MarketDays$Sheet" U ∧ ∃ k : Class, U.vm.classes[eT E 103]? = some k ∧ k.kind = .array (eT E 100) (.array .int)) ∧
  (vk_S 12 sLen sByt (eK E) (eV E) (fun q => eZ E ≤ q) U (eG E) ∧ ∀ (i : Nat) (t : String × Nat × String), sTab[i]? = some t → vk_R t.1 t.2.1 t.2.2 (eK E i) U) ∧
  (va_Z "java/lang/String" "COMPACT_STRINGS" "Z" (.int 1) (fun q => eZ E ≤ q) U (eG E) ∧ (va_Z "jdk/internal/util/Preconditions" "SIOOBE_FORMATTER" "Ljava/util/function/BiFunction;" .null (fun q => eZ E ≤ q) U (eG E) ∨ va_Z "jdk/internal/util/Preconditions" "SIOOBE_FORMATTER" "Ljava/util/function/BiFunction;" (.ref (eF E)) (fun q => eZ E ≤ q) U (eG E))) ∧
  (eG E).size = eZ E ∧ ∃ scr : Cell, (eG E)[eB E]? = some scr ∧ U.isArrayOf scr .int ∧ scr.vm ≠ .unknown
theorem nst_M {w : Cond} (h : w ∈ nst_tbl) : ∃ a i x b, w = .methodLinkNest a i x b := by
  have h2 := (List.mem_filter.mp h).2
  cases w <;> first | exact ⟨_, _, _, _, rfl⟩ | cases h2
theorem EnvOK.warm {E : EV} {s U : State} (hW : s.WarmedH U.vm) (h : EnvOK E s) : EnvOK E U := by
  obtain ⟨h1, h2, h3, ⟨h4, h5, h6, k, h8, h9⟩, ⟨h10, h11⟩, ⟨h12, h13⟩, h14, scr, h15, h16, h17⟩ := h
  have hvm := hW.alike
  refine ⟨va_K.moved hvm h1, fun k a b => ⟨arrOfT_moved hvm (h2 k a b).1, va_RA.moved hvm (h2 k a b).2⟩, fun w hw => ?_, ⟨va_AO.moved hvm h4, va_AO.moved hvm h5, va_AO.moved hvm h6, ?_⟩, ⟨vk_S.moved hvm h10, fun i t ht => vk_R.warm hW (h11 i t ht)⟩, ⟨va_Z.moved hvm h12, h13.imp (va_Z.moved hvm) (va_Z.moved hvm)⟩, h14, scr, h15, State.isArrayOf_alike hvm h16, h17⟩
  · obtain ⟨a, i, x, b, rfl⟩ := nst_M hw
    exact va_Nw.warmM hW (h3 _ hw)
  · obtain ⟨k', hk', he⟩ := hvm.2.2 _ _ h8
    exact ⟨k', hk', by rw [he]; exact h9⟩
theorem EnvOK.same {E : EV} {u U : State} (hv : U.vm = u.vm) (h : EnvOK E u) : EnvOK E U := h.warm (by rw [hv]; exact State.WarmedH.refl u)
/-- what a method's walk may use of its state, its room, its code -/
def Ok (E : EV) (y : Mth) (d : Nat) (p : Program) (R : Room) (s : State) (m : MethodId) (args : Array Value) (meth : Method) (cc : Code) : Prop :=
  p.tables.exec = Jvm.exec ∧ cc.code = y.2.1 ∧ meth.sig.returnType = y.2.2.2 ∧ cc.maxLocals = y.2.2.1 ∧ s.vm.findClass y.1.cls = some m.cls ∧ (∀ w ∈ gtbl, w.before args s = true) ∧ meth.locks = false ∧ (y.1.name = "<init>" → meth.name = "<init>") ∧ EnvOK E s ∧ d ≤ R.frames ∧ 64 * d ≤ R.locals ∧ eZ E ≤ s.heap.size
def Hp (E : EV) (M : Mem) (s : State) (H : Heap) (locs : List Loc) : Prop := Wd E M H ∧ s.heap.size ≤ H.size ∧ ∀ q ∈ locs, eZ E ≤ q.base
/-- the locals: by place; none: not known -/
def LH (E : EV) (ls : Array Slot) (nL : Nat) (lo : List (Option Value)) : Prop := ls.size = nL ∧ lv_wf ls ∧ ∀ (i : Nat) (v : Value), lo[i]? = some (some v) → ls[i]? = some (.val (cv E v))
/-- a method's end: Φ of the answer and the memory -/
def QF (E : EV) (Φ : Option Value → Mem → Prop) : Array Value → State → Outcome → State → Prop := fun _ st o t => ∃ (r : Option Value) (M' : Mem), o = .returned (r.map (cv E)) ∧ Φ r M' ∧ Wd E M' t.heap ∧ st.heap.size ≤ t.heap.size
def Ex (d : Nat) (y : Mth) (c n pc : Nat) (lo : List (Option Value)) (st : List Value) (M : Mem) (Φ : Option Value → Mem → Prop) : Prop :=
  ∀ (E : EV) (p : Program) (e : Env) (R : Room) (s : State) (m : MethodId) (args : Array Value) (below : List Frame) (meth : Method) (cc : Code) (H : Heap) (locs : List Loc) (cells slots : Nat) (ls : Array Slot),
    Ok E y d p R s m args meth cc → Hp E M s H locs → cells + c ≤ R.cells → slots + n ≤ R.slots → LH E ls y.2.2.1 lo →
    W p (eL E) e R s m args below meth cc H locs cells slots (MQ below (QF E Φ) args s R.cells R.slots (fun q => eZ E ≤ q)) (F0 m pc ls (st.map (cv E)))
end
section
/-! rules of Ex: constants, locals, stack, arithmetic, branches, ends -/
def kl (o : Option Value) : Option Value := match o with
  | some (.long _) => none
  | some (.double _) => none
  | w => w
def st1 : List (Option Value) → Nat → Value → List (Option Value)
  | [], _, _ => []
  | _ :: xs, 0, v => some v :: xs
  | x :: xs, 1, v => kl x :: st1 xs 0 v
  | x :: xs, n + 2, v => x :: st1 xs (n + 1) v
def st2 : List (Option Value) → Nat → Value → List (Option Value)
  | [], _, _ => []
  | _ :: xs, 0, v => some v :: (match xs with
    | [] => []
    | _ :: ys => none :: ys)
  | x :: xs, 1, v => kl x :: st2 xs 0 v
  | x :: xs, n + 2, v => x :: st2 xs (n + 1) v
theorem kl_some {o : Option Value} {w : Value} (h : kl o = some w) : o = some w ∧ ¬ w.category = 2 := by
  cases o with
  | none => cases h
  | some v => cases v <;> simp_all [kl, Value.category] <;> (subst h; simp [Value.category])
theorem st1_at : ∀ (lo : List (Option Value)) (i j : Nat) (v w : Value), (st1 lo i v)[j]? = some (some w) → (j = i ∧ w = v) ∨ (j ≠ i ∧ lo[j]? = some (some w) ∧ ¬ (j + 1 = i ∧ w.category = 2))
  | [], i, j, v, w, h => by simp [st1] at h
  | _ :: xs, 0, 0, v, w, h => by simp [st1] at h; exact Or.inl ⟨rfl, h.symm⟩
  | _ :: xs, 0, j + 1, v, w, h => by simp [st1] at h; exact Or.inr ⟨by omega, by simpa using h, by omega⟩
  | x :: xs, 1, 0, v, w, h => by
    simp [st1] at h
    obtain ⟨h1, h2⟩ := kl_some h
    exact Or.inr ⟨by omega, by simp [h1], fun q => h2 q.2⟩
  | x :: xs, 1, j + 1, v, w, h => by
    simp only [st1, List.getElem?_cons_succ] at h ⊢
    rcases st1_at xs 0 j v w h with ⟨a, b⟩ | ⟨a, b, c⟩
    · exact Or.inl ⟨by omega, b⟩
    · exact Or.inr ⟨by omega, b, by omega⟩
  | x :: xs, n + 2, 0, v, w, h => by simp [st1] at h; exact Or.inr ⟨by omega, by simp [h], by omega⟩
  | x :: xs, n + 2, j + 1, v, w, h => by
    simp only [st1, List.getElem?_cons_succ] at h ⊢
    rcases st1_at xs (n + 1) j v w h with ⟨a, b⟩ | ⟨a, b, c⟩
    · exact Or.inl ⟨by omega, b⟩
    · exact Or.inr ⟨by omega, b, fun q => c ⟨by omega, q.2⟩⟩
theorem st2_at : ∀ (lo : List (Option Value)) (i j : Nat) (v w : Value), (st2 lo i v)[j]? = some (some w) → (j = i ∧ w = v) ∨ (j ≠ i ∧ j ≠ i + 1 ∧ lo[j]? = some (some w) ∧ ¬ (j + 1 = i ∧ w.category = 2))
  | [], i, j, v, w, h => by simp [st2] at h
  | _ :: xs, 0, 0, v, w, h => by simp [st2] at h; exact Or.inl ⟨rfl, h.symm⟩
  | _ :: xs, 0, j + 1, v, w, h => by
    cases xs with
    | nil => simp [st2] at h
    | cons y ys =>
      cases j with
      | zero => simp [st2] at h
      | succ j => simp [st2] at h; exact Or.inr ⟨by omega, by omega, by simpa using h, by omega⟩
  | x :: xs, 1, 0, v, w, h => by
    simp [st2] at h
    obtain ⟨h1, h2⟩ := kl_some h
    exact Or.inr ⟨by omega, by omega, by simp [h1], fun q => h2 q.2⟩
  | x :: xs, 1, j + 1, v, w, h => by
    simp only [st2, List.getElem?_cons_succ] at h ⊢
    rcases st2_at xs 0 j v w h with ⟨a, b⟩ | ⟨a, a2, b, c⟩
    · exact Or.inl ⟨by omega, b⟩
    · exact Or.inr ⟨by omega, by omega, b, by omega⟩
  | x :: xs, n + 2, 0, v, w, h => by simp [st2] at h; exact Or.inr ⟨by omega, by omega, by simp [h], by omega⟩
  | x :: xs, n + 2, j + 1, v, w, h => by
    simp only [st2, List.getElem?_cons_succ] at h ⊢
    rcases st2_at xs (n + 1) j v w h with ⟨a, b⟩ | ⟨a, a2, b, c⟩
    · exact Or.inl ⟨by omega, b⟩
    · exact Or.inr ⟨by omega, by omega, b, fun q => c ⟨by omega, q.2⟩⟩
theorem LH.at {E : EV} {ls : Array Slot} {nL : Nat} {lo : List (Option Value)} (h : LH E ls nL lo) {i : Nat} {v : Value} (hi : lo[i]? = some (some v)) : ls[i]? = some (.val (cv E v)) := h.2.2 i v hi
/-- the known locals as the kit lists them -/
def asl (E : EV) (lo : List (Option Value)) : List (Nat × Value) := (List.range lo.length).filterMap (fun i => match lo[i]? with
  | some (some v) => some (i, cv E v)
  | _ => none)
theorem asl_mem {E : EV} {lo : List (Option Value)} {i : Nat} {w : Value} : (i, w) ∈ asl E lo ↔ ∃ v, lo[i]? = some (some v) ∧ w = cv E v := by
  simp only [asl, List.mem_filterMap, List.mem_range]
  constructor
  · rintro ⟨k, hk, h⟩
    split at h
    · rename_i v hv
      cases h
      exact ⟨v, hv, rfl⟩
    · cases h
  · rintro ⟨v, hv, rfl⟩
    exact ⟨i, (List.getElem?_eq_some_iff.mp hv).1, by rw [hv]⟩
theorem LH.has {E : EV} {ls : Array Slot} {nL : Nat} {lo : List (Option Value)} (h : LH E ls nL lo) : lv_has ls nL (asl E lo) := ⟨h.1, h.2.1, fun q hq => by
  obtain ⟨i, w⟩ := q
  obtain ⟨v, h1, rfl⟩ := asl_mem.mp hq
  exact h.2.2 i v h1⟩
theorem LH.st1 {E : EV} {ls : Array Slot} {nL i : Nat} {lo : List (Option Value)} {v : Value} (h : lv_has ls nL ((i, cv E v) :: (asl E lo).filter (fun q => !(q.1 == i) && !(q.1 + 1 == i && q.2.category == 2)))) : LH E ls nL (st1 lo i v) := by
  refine ⟨h.1, h.2.1, fun j w hj => ?_⟩
  rcases st1_at lo i j v w hj with ⟨rfl, rfl⟩ | ⟨a, b, c⟩
  · exact h.2.2 _ List.mem_cons_self
  · refine h.2.2 (j, cv E w) (List.mem_cons_of_mem _ (List.mem_filter.mpr ⟨asl_mem.mpr ⟨w, b, rfl⟩, ?_⟩))
    simp only [cv_cat, Bool.and_eq_true, Bool.not_eq_true', beq_eq_false_iff_ne, ne_eq, Bool.and_eq_false_iff]
    refine ⟨a, ?_⟩
    by_cases q : j + 1 = i
    · exact Or.inr (fun z => c ⟨q, z⟩)
    · exact Or.inl q
theorem LH.st2 {E : EV} {ls : Array Slot} {nL i : Nat} {lo : List (Option Value)} {v : Value} (h : lv_has ls nL ((i, cv E v) :: (asl E lo).filter (fun q => !(q.1 == i) && (!(q.1 == i + 1) && !(q.1 + 1 == i && q.2.category == 2))))) : LH E ls nL (st2 lo i v) := by
  refine ⟨h.1, h.2.1, fun j w hj => ?_⟩
  rcases st2_at lo i j v w hj with ⟨rfl, rfl⟩ | ⟨a, a2, b, c⟩
  · exact h.2.2 _ List.mem_cons_self
  · refine h.2.2 (j, cv E w) (List.mem_cons_of_mem _ (List.mem_filter.mpr ⟨asl_mem.mpr ⟨w, b, rfl⟩, ?_⟩))
    simp only [cv_cat, Bool.and_eq_true, Bool.not_eq_true', beq_eq_false_iff_ne, ne_eq, Bool.and_eq_false_iff]
    refine ⟨a, a2, ?_⟩
    by_cases q : j + 1 = i
    · exact Or.inr (fun z => c ⟨q, z⟩)
    · exact Or.inl q
section EXR
variable {d : Nat} {y : Mth} {bc bs pc : Nat} {lo : List (Option Value)} {st : List Value} {M : Mem} {Φ : Option Value → Mem → Prop}
theorem ex_iconst {k : Int} {v : Int32} (hd : decode y.2.1 pc = .ok (.iconst k, 1)) (hv : Int32.ofInt k = v) (kk : Ex d y bc bs (pc + 1) lo (.int v :: st) M Φ) : Ex d y bc bs pc lo (st) M Φ := fun E p e R s m args below meth cc H locs cells slots ls ok hp hc hn hl => lv_iconst ok.1 ok.2.1 hd hv (kk E p e R s m args below meth cc H locs cells slots ls ok hp hc hn hl)
theorem ex_bipush {k : Int} {v : Int32} (hd : decode y.2.1 pc = .ok (.bipush k, 2)) (hv : (Int8.ofInt k).toInt32 = v) (kk : Ex d y bc bs (pc + 2) lo (.int v :: st) M Φ) : Ex d y bc bs pc lo (st) M Φ := fun E p e R s m args below meth cc H locs cells slots ls ok hp hc hn hl => lv_bipush ok.1 ok.2.1 hd hv (kk E p e R s m args below meth cc H locs cells slots ls ok hp hc hn hl)
theorem ex_sipush {k : Int} {v : Int32} (hd : decode y.2.1 pc = .ok (.sipush k, 3)) (hv : (Int16.ofInt k).toInt32 = v) (kk : Ex d y bc bs (pc + 3) lo (.int v :: st) M Φ) : Ex d y bc bs pc lo (st) M Φ := fun E p e R s m args below meth cc H locs cells slots ls ok hp hc hn hl => lv_sipush ok.1 ok.2.1 hd hv (kk E p e R s m args below meth cc H locs cells slots ls ok hp hc hn hl)
theorem ex_lconst {k : Fin 2} {v : Int64} (hd : decode y.2.1 pc = .ok (.lconst k, 1)) (hv : Int64.ofNat (k : Nat) = v) (kk : Ex d y bc bs (pc + 1) lo (.long v :: st) M Φ) : Ex d y bc bs pc lo (st) M Φ := fun E p e R s m args below meth cc H locs cells slots ls ok hp hc hn hl => lv_lconst ok.1 ok.2.1 hd hv (kk E p e R s m args below meth cc H locs cells slots ls ok hp hc hn hl)
theorem ex_null  (hd : decode y.2.1 pc = .ok (.aconst_null, 1))  (kk : Ex d y bc bs (pc + 1) lo (.null :: st) M Φ) : Ex d y bc bs pc lo (st) M Φ := fun E p e R s m args below meth cc H locs cells slots ls ok hp hc hn hl => lv_null ok.1 ok.2.1 hd (kk E p e R s m args below meth cc H locs cells slots ls ok hp hc hn hl)
theorem ex_ldc {index : Nat} {v : Int32} (hd : decode y.2.1 pc = .ok (.ldc index, 2)) (hk : Cond.constant y.1.cls index v ∈ gtbl) (kk : Ex d y bc bs (pc + 2) lo (.int v :: st) M Φ) : Ex d y bc bs pc lo (st) M Φ := fun E p e R s m args below meth cc H locs cells slots ls ok hp hc hn hl => lv_ldc ok.1 ok.2.1 ok.2.2.2.2.1 (ok.2.2.2.2.2.1 _ hk) hd (kk E p e R s m args below meth cc H locs cells slots ls ok hp hc hn hl)
theorem ex_ldc_w {index : Nat} {v : Int32} (hd : decode y.2.1 pc = .ok (.ldc_w index, 3)) (hk : Cond.constant y.1.cls index v ∈ gtbl) (kk : Ex d y bc bs (pc + 3) lo (.int v :: st) M Φ) : Ex d y bc bs pc lo (st) M Φ := fun E p e R s m args below meth cc H locs cells slots ls ok hp hc hn hl => lv_ldcw ok.1 ok.2.1 ok.2.2.2.2.1 (ok.2.2.2.2.2.1 _ hk) hd (kk E p e R s m args below meth cc H locs cells slots ls ok hp hc hn hl)
theorem ex_ldc2 {index : Nat} {v : Int64} (hd : decode y.2.1 pc = .ok (.ldc2_w index, 3)) (hk : Cond.constantLong y.1.cls index v ∈ gtbl) (kk : Ex d y bc bs (pc + 3) lo (.long v :: st) M Φ) : Ex d y bc bs pc lo (st) M Φ := fun E p e R s m args below meth cc H locs cells slots ls ok hp hc hn hl => lv_ldc2 ok.1 ok.2.1 ok.2.2.2.2.1 (ok.2.2.2.2.2.1 _ hk) hd (kk E p e R s m args below meth cc H locs cells slots ls ok hp hc hn hl)
theorem ex_ldcS {index i : Nat} {tx : String} (hd : decode y.2.1 pc = .ok (.ldc index, 2)) (hk : sTab[i]? = some (y.1.cls, index, tx)) (hi : i < 100) (kk : Ex d y bc bs (pc + 2) lo (.ref (1048576 + i) :: st) M Φ) : Ex d y bc bs pc lo (st) M Φ := fun E p e R s m args below meth cc H locs cells slots ls ok hp hc hn hl => by
  have h := ok.2.2.2.2.2.2.2.2.1.2.2.2.2.1.2 i _ hk
  have ee : ad E (1048576 + i) = eK E i := by rw [ad, if_neg (by omega), if_pos (by omega), Nat.add_sub_cancel_left]
  refine va_ldcS ok.1 ok.2.1 ok.2.2.2.2.1 h hd ?_
  show W _ _ _ _ _ _ _ _ _ _ _ _ _ _ _ (F0 m (pc + 2) ls (Value.ref (eK E i) :: _))
  rw [← ee]
  exact (kk E p e R s m args below meth cc H locs cells slots ls ok hp hc hn hl)
theorem ex_iload_n {k : Fin 4} {x : Int32} (hd : decode y.2.1 pc = .ok (.iload_n k, 1)) (hi : lo[(k : Nat)]? = some (some (.int x))) (kk : Ex d y bc bs (pc + 1) lo (.int x :: st) M Φ) : Ex d y bc bs pc lo (st) M Φ := fun E p e R s m args below meth cc H locs cells slots ls ok hp hc hn hl => lv_iload_n ok.1 ok.2.1 hd rfl (hl.at hi) (kk E p e R s m args below meth cc H locs cells slots ls ok hp hc hn hl)
theorem ex_iload {k : Nat} {x : Int32} (hd : decode y.2.1 pc = .ok (.iload k, 2)) (hi : lo[k]? = some (some (.int x))) (kk : Ex d y bc bs (pc + 2) lo (.int x :: st) M Φ) : Ex d y bc bs pc lo (st) M Φ := fun E p e R s m args below meth cc H locs cells slots ls ok hp hc hn hl => lv_iload ok.1 ok.2.1 hd (hl.at hi) (kk E p e R s m args below meth cc H locs cells slots ls ok hp hc hn hl)
theorem ex_lload_n {k : Fin 4} {x : Int64} (hd : decode y.2.1 pc = .ok (.lload_n k, 1)) (hi : lo[(k : Nat)]? = some (some (.long x))) (kk : Ex d y bc bs (pc + 1) lo (.long x :: st) M Φ) : Ex d y bc bs pc lo (st) M Φ := fun E p e R s m args below meth cc H locs cells slots ls ok hp hc hn hl => lv_lload_n ok.1 ok.2.1 hd rfl (hl.at hi) (kk E p e R s m args below meth cc H locs cells slots ls ok hp hc hn hl)
theorem ex_lload {k : Nat} {x : Int64} (hd : decode y.2.1 pc = .ok (.lload k, 2)) (hi : lo[k]? = some (some (.long x))) (kk : Ex d y bc bs (pc + 2) lo (.long x :: st) M Φ) : Ex d y bc bs pc lo (st) M Φ := fun E p e R s m args below meth cc H locs cells slots ls ok hp hc hn hl => lv_lload ok.1 ok.2.1 hd (hl.at hi) (kk E p e R s m args below meth cc H locs cells slots ls ok hp hc hn hl)
theorem ex_aload_n {k : Fin 4} {x : Nat} (hd : decode y.2.1 pc = .ok (.aload_n k, 1)) (hi : lo[(k : Nat)]? = some (some (.ref x))) (kk : Ex d y bc bs (pc + 1) lo (.ref x :: st) M Φ) : Ex d y bc bs pc lo (st) M Φ := fun E p e R s m args below meth cc H locs cells slots ls ok hp hc hn hl => lv_aload_n ok.1 ok.2.1 hd rfl (hl.at hi) (kk E p e R s m args below meth cc H locs cells slots ls ok hp hc hn hl)
theorem ex_aload {k : Nat} {x : Nat} (hd : decode y.2.1 pc = .ok (.aload k, 2)) (hi : lo[k]? = some (some (.ref x))) (kk : Ex d y bc bs (pc + 2) lo (.ref x :: st) M Φ) : Ex d y bc bs pc lo (st) M Φ := fun E p e R s m args below meth cc H locs cells slots ls ok hp hc hn hl => lv_aload ok.1 ok.2.1 hd (hl.at hi) (kk E p e R s m args below meth cc H locs cells slots ls ok hp hc hn hl)
theorem ex_aload_nN {k : Fin 4} (hd : decode y.2.1 pc = .ok (.aload_n k, 1)) (hi : lo[(k : Nat)]? = some (some (.null))) (kk : Ex d y bc bs (pc + 1) lo (.null :: st) M Φ) : Ex d y bc bs pc lo (st) M Φ := fun E p e R s m args below meth cc H locs cells slots ls ok hp hc hn hl => lv_aload_nN ok.1 ok.2.1 hd rfl (hl.at hi) (kk E p e R s m args below meth cc H locs cells slots ls ok hp hc hn hl)
theorem ex_aloadN {k : Nat} (hd : decode y.2.1 pc = .ok (.aload k, 2)) (hi : lo[k]? = some (some (.null))) (kk : Ex d y bc bs (pc + 2) lo (.null :: st) M Φ) : Ex d y bc bs pc lo (st) M Φ := fun E p e R s m args below meth cc H locs cells slots ls ok hp hc hn hl => lv_aloadN ok.1 ok.2.1 hd (hl.at hi) (kk E p e R s m args below meth cc H locs cells slots ls ok hp hc hn hl)
theorem ex_istore_n {k : Fin 4} {x : Int32} {lo2 : List (Option Value)} (hd : decode y.2.1 pc = .ok (.istore_n k, 1)) (hn9 : (k : Nat) < y.2.2.1) (h2 : st1 lo (k : Nat) (.int x) = lo2) (kk : Ex d y bc bs (pc + 1) lo2 st M Φ) : Ex d y bc bs pc lo (.int x :: st) M Φ := fun E p e R s m args below meth cc H locs cells slots ls ok hp hc hn hl => lv_istore_n ok.1 ok.2.1 hd rfl hl.has hn9 rfl (fun ls2 h9 => kk E p e R s m args below meth cc H locs cells slots ls2 ok hp hc hn (h2 ▸ LH.st1 h9))
theorem ex_istore {k : Nat} {x : Int32} {lo2 : List (Option Value)} (hd : decode y.2.1 pc = .ok (.istore k, 2)) (hn9 : k < y.2.2.1) (h2 : st1 lo k (.int x) = lo2) (kk : Ex d y bc bs (pc + 2) lo2 st M Φ) : Ex d y bc bs pc lo (.int x :: st) M Φ := fun E p e R s m args below meth cc H locs cells slots ls ok hp hc hn hl => lv_istore ok.1 ok.2.1 hd hl.has hn9 rfl (fun ls2 h9 => kk E p e R s m args below meth cc H locs cells slots ls2 ok hp hc hn (h2 ▸ LH.st1 h9))
theorem ex_lstore_n {k : Fin 4} {x : Int64} {lo2 : List (Option Value)} (hd : decode y.2.1 pc = .ok (.lstore_n k, 1)) (hn9 : (k : Nat) + 1 < y.2.2.1) (h2 : st2 lo (k : Nat) (.long x) = lo2) (kk : Ex d y bc bs (pc + 1) lo2 st M Φ) : Ex d y bc bs pc lo (.long x :: st) M Φ := fun E p e R s m args below meth cc H locs cells slots ls ok hp hc hn hl => lv_lstore_n ok.1 ok.2.1 hd rfl hl.has hn9 rfl (fun ls2 h9 => kk E p e R s m args below meth cc H locs cells slots ls2 ok hp hc hn (h2 ▸ LH.st2 h9))
theorem ex_lstore {k : Nat} {x : Int64} {lo2 : List (Option Value)} (hd : decode y.2.1 pc = .ok (.lstore k, 2)) (hn9 : k + 1 < y.2.2.1) (h2 : st2 lo k (.long x) = lo2) (kk : Ex d y bc bs (pc + 2) lo2 st M Φ) : Ex d y bc bs pc lo (.long x :: st) M Φ := fun E p e R s m args below meth cc H locs cells slots ls ok hp hc hn hl => lv_lstore ok.1 ok.2.1 hd hl.has hn9 rfl (fun ls2 h9 => kk E p e R s m args below meth cc H locs cells slots ls2 ok hp hc hn (h2 ▸ LH.st2 h9))
theorem ex_astore_n {k : Fin 4} {x : Nat} {lo2 : List (Option Value)} (hd : decode y.2.1 pc = .ok (.astore_n k, 1)) (hn9 : (k : Nat) < y.2.2.1) (h2 : st1 lo (k : Nat) (.ref x) = lo2) (kk : Ex d y bc bs (pc + 1) lo2 st M Φ) : Ex d y bc bs pc lo (.ref x :: st) M Φ := fun E p e R s m args below meth cc H locs cells slots ls ok hp hc hn hl => lv_astore_n ok.1 ok.2.1 hd rfl hl.has hn9 rfl (fun ls2 h9 => kk E p e R s m args below meth cc H locs cells slots ls2 ok hp hc hn (h2 ▸ LH.st1 h9))
theorem ex_astore {k : Nat} {x : Nat} {lo2 : List (Option Value)} (hd : decode y.2.1 pc = .ok (.astore k, 2)) (hn9 : k < y.2.2.1) (h2 : st1 lo k (.ref x) = lo2) (kk : Ex d y bc bs (pc + 2) lo2 st M Φ) : Ex d y bc bs pc lo (.ref x :: st) M Φ := fun E p e R s m args below meth cc H locs cells slots ls ok hp hc hn hl => lv_astore ok.1 ok.2.1 hd hl.has hn9 rfl (fun ls2 h9 => kk E p e R s m args below meth cc H locs cells slots ls2 ok hp hc hn (h2 ▸ LH.st1 h9))
theorem ex_astore_nN {k : Fin 4} {lo2 : List (Option Value)} (hd : decode y.2.1 pc = .ok (.astore_n k, 1)) (hn9 : (k : Nat) < y.2.2.1) (h2 : st1 lo (k : Nat) (.null) = lo2) (kk : Ex d y bc bs (pc + 1) lo2 st M Φ) : Ex d y bc bs pc lo (.null :: st) M Φ := fun E p e R s m args below meth cc H locs cells slots ls ok hp hc hn hl => lv_astore_nN ok.1 ok.2.1 hd rfl hl.has hn9 rfl (fun ls2 h9 => kk E p e R s m args below meth cc H locs cells slots ls2 ok hp hc hn (h2 ▸ LH.st1 h9))
theorem ex_astoreN {k : Nat} {lo2 : List (Option Value)} (hd : decode y.2.1 pc = .ok (.astore k, 2)) (hn9 : k < y.2.2.1) (h2 : st1 lo k (.null) = lo2) (kk : Ex d y bc bs (pc + 2) lo2 st M Φ) : Ex d y bc bs pc lo (.null :: st) M Φ := fun E p e R s m args below meth cc H locs cells slots ls ok hp hc hn hl => lv_astoreN ok.1 ok.2.1 hd hl.has hn9 rfl (fun ls2 h9 => kk E p e R s m args below meth cc H locs cells slots ls2 ok hp hc hn (h2 ▸ LH.st1 h9))
theorem ex_iinc {i : Nat} {k : Int} {x v : Int32} {lo2 : List (Option Value)} (hd : decode y.2.1 pc = .ok (.iinc i k, 3)) (hn9 : i < y.2.2.1) (hi : lo[i]? = some (some (.int x))) (hv : x + Int32.ofInt k = v) (h2 : st1 lo i (.int v) = lo2) (kk : Ex d y bc bs (pc + 3) lo2 st M Φ) : Ex d y bc bs pc lo st M Φ := fun E p e R s m args below meth cc H locs cells slots ls ok hp hc hn hl => by
  obtain ⟨q, hq⟩ := List.getElem?_of_mem (asl_mem (E := E).mpr ⟨_, hi, rfl⟩)
  exact lv_iinc ok.1 ok.2.1 hd hl.has hq hv hn9 rfl (fun ls2 h9 => kk E p e R s m args below meth cc H locs cells slots ls2 ok hp hc hn (h2 ▸ LH.st1 h9))
theorem ex_iadd {x z : Int32} (hd : decode y.2.1 pc = .ok (.iadd, 1))  (kk : Ex d y bc bs (pc + 1) lo (.int (x + z) :: st) M Φ) : Ex d y bc bs pc lo (.int z :: .int x :: st) M Φ := fun E p e R s m args below meth cc H locs cells slots ls ok hp hc hn hl => lv_iadd ok.1 ok.2.1 hd (kk E p e R s m args below meth cc H locs cells slots ls ok hp hc hn hl)
theorem ex_isub {x z : Int32} (hd : decode y.2.1 pc = .ok (.isub, 1))  (kk : Ex d y bc bs (pc + 1) lo (.int (x - z) :: st) M Φ) : Ex d y bc bs pc lo (.int z :: .int x :: st) M Φ := fun E p e R s m args below meth cc H locs cells slots ls ok hp hc hn hl => lv_isub ok.1 ok.2.1 hd (kk E p e R s m args below meth cc H locs cells slots ls ok hp hc hn hl)
theorem ex_imul {x z : Int32} (hd : decode y.2.1 pc = .ok (.imul, 1))  (kk : Ex d y bc bs (pc + 1) lo (.int (x * z) :: st) M Φ) : Ex d y bc bs pc lo (.int z :: .int x :: st) M Φ := fun E p e R s m args below meth cc H locs cells slots ls ok hp hc hn hl => lv_imul ok.1 ok.2.1 hd (kk E p e R s m args below meth cc H locs cells slots ls ok hp hc hn hl)
theorem ex_iand {x z : Int32} (hd : decode y.2.1 pc = .ok (.iand, 1))  (kk : Ex d y bc bs (pc + 1) lo (.int (x &&& z) :: st) M Φ) : Ex d y bc bs pc lo (.int z :: .int x :: st) M Φ := fun E p e R s m args below meth cc H locs cells slots ls ok hp hc hn hl => lv_iand ok.1 ok.2.1 hd (kk E p e R s m args below meth cc H locs cells slots ls ok hp hc hn hl)
theorem ex_ior {x z : Int32} (hd : decode y.2.1 pc = .ok (.ior, 1))  (kk : Ex d y bc bs (pc + 1) lo (.int (x ||| z) :: st) M Φ) : Ex d y bc bs pc lo (.int z :: .int x :: st) M Φ := fun E p e R s m args below meth cc H locs cells slots ls ok hp hc hn hl => lv_ior ok.1 ok.2.1 hd (kk E p e R s m args below meth cc H locs cells slots ls ok hp hc hn hl)
theorem ex_ixor {x z : Int32} (hd : decode y.2.1 pc = .ok (.ixor, 1))  (kk : Ex d y bc bs (pc + 1) lo (.int (x ^^^ z) :: st) M Φ) : Ex d y bc bs pc lo (.int z :: .int x :: st) M Φ := fun E p e R s m args below meth cc H locs cells slots ls ok hp hc hn hl => lv_ixor ok.1 ok.2.1 hd (kk E p e R s m args below meth cc H locs cells slots ls ok hp hc hn hl)
theorem ex_ishl {x z : Int32} (hd : decode y.2.1 pc = .ok (.ishl, 1))  (kk : Ex d y bc bs (pc + 1) lo (.int (x <<< (z &&& 31)) :: st) M Φ) : Ex d y bc bs pc lo (.int z :: .int x :: st) M Φ := fun E p e R s m args below meth cc H locs cells slots ls ok hp hc hn hl => lv_ishl ok.1 ok.2.1 hd (kk E p e R s m args below meth cc H locs cells slots ls ok hp hc hn hl)
theorem ex_ishr {x z : Int32} (hd : decode y.2.1 pc = .ok (.ishr, 1))  (kk : Ex d y bc bs (pc + 1) lo (.int (x >>> (z &&& 31)) :: st) M Φ) : Ex d y bc bs pc lo (.int z :: .int x :: st) M Φ := fun E p e R s m args below meth cc H locs cells slots ls ok hp hc hn hl => lv_ishr ok.1 ok.2.1 hd (kk E p e R s m args below meth cc H locs cells slots ls ok hp hc hn hl)
theorem ex_iushr {x z v : Int32} (hd : decode y.2.1 pc = .ok (.iushr, 1)) (hv : (x.toUInt32 >>> (z.toUInt32 &&& Int32.toUInt32 31)).toInt32 = v) (kk : Ex d y bc bs (pc + 1) lo (.int v :: st) M Φ) : Ex d y bc bs pc lo (.int z :: .int x :: st) M Φ := fun E p e R s m args below meth cc H locs cells slots ls ok hp hc hn hl => lv_iushr ok.1 ok.2.1 hd hv (kk E p e R s m args below meth cc H locs cells slots ls ok hp hc hn hl)
theorem ex_idiv {x z : Int32} (hd : decode y.2.1 pc = .ok (.idiv, 1)) (h0 : ¬ z = 0) (kk : Ex d y bc bs (pc + 1) lo (.int (x / z) :: st) M Φ) : Ex d y bc bs pc lo (.int z :: .int x :: st) M Φ := fun E p e R s m args below meth cc H locs cells slots ls ok hp hc hn hl => lv_idiv ok.1 ok.2.1 hd h0 (kk E p e R s m args below meth cc H locs cells slots ls ok hp hc hn hl)
theorem ex_irem {x z : Int32} (hd : decode y.2.1 pc = .ok (.irem, 1)) (h0 : ¬ z = 0) (kk : Ex d y bc bs (pc + 1) lo (.int (x % z) :: st) M Φ) : Ex d y bc bs pc lo (.int z :: .int x :: st) M Φ := fun E p e R s m args below meth cc H locs cells slots ls ok hp hc hn hl => lv_irem ok.1 ok.2.1 hd h0 (by rw [irem_eq_mod]; exact (kk E p e R s m args below meth cc H locs cells slots ls ok hp hc hn hl))
theorem ex_ineg {x : Int32} (hd : decode y.2.1 pc = .ok (.ineg, 1))  (kk : Ex d y bc bs (pc + 1) lo (.int (-x) :: st) M Φ) : Ex d y bc bs pc lo (.int x :: st) M Φ := fun E p e R s m args below meth cc H locs cells slots ls ok hp hc hn hl => lv_ineg ok.1 ok.2.1 hd (kk E p e R s m args below meth cc H locs cells slots ls ok hp hc hn hl)
theorem ex_ladd {x z : Int64} (hd : decode y.2.1 pc = .ok (.ladd, 1))  (kk : Ex d y bc bs (pc + 1) lo (.long (x + z) :: st) M Φ) : Ex d y bc bs pc lo (.long z :: .long x :: st) M Φ := fun E p e R s m args below meth cc H locs cells slots ls ok hp hc hn hl => lv_ladd ok.1 ok.2.1 hd (kk E p e R s m args below meth cc H locs cells slots ls ok hp hc hn hl)
theorem ex_lsub {x z : Int64} (hd : decode y.2.1 pc = .ok (.lsub, 1))  (kk : Ex d y bc bs (pc + 1) lo (.long (x - z) :: st) M Φ) : Ex d y bc bs pc lo (.long z :: .long x :: st) M Φ := fun E p e R s m args below meth cc H locs cells slots ls ok hp hc hn hl => lv_lsub ok.1 ok.2.1 hd (kk E p e R s m args below meth cc H locs cells slots ls ok hp hc hn hl)
theorem ex_lmul {x z : Int64} (hd : decode y.2.1 pc = .ok (.lmul, 1))  (kk : Ex d y bc bs (pc + 1) lo (.long (x * z) :: st) M Φ) : Ex d y bc bs pc lo (.long z :: .long x :: st) M Φ := fun E p e R s m args below meth cc H locs cells slots ls ok hp hc hn hl => lv_lmul ok.1 ok.2.1 hd (kk E p e R s m args below meth cc H locs cells slots ls ok hp hc hn hl)
theorem ex_land {x z : Int64} (hd : decode y.2.1 pc = .ok (.land, 1))  (kk : Ex d y bc bs (pc + 1) lo (.long (x &&& z) :: st) M Φ) : Ex d y bc bs pc lo (.long z :: .long x :: st) M Φ := fun E p e R s m args below meth cc H locs cells slots ls ok hp hc hn hl => lv_land ok.1 ok.2.1 hd (kk E p e R s m args below meth cc H locs cells slots ls ok hp hc hn hl)
theorem ex_lor {x z : Int64} (hd : decode y.2.1 pc = .ok (.lor, 1))  (kk : Ex d y bc bs (pc + 1) lo (.long (x ||| z) :: st) M Φ) : Ex d y bc bs pc lo (.long z :: .long x :: st) M Φ := fun E p e R s m args below meth cc H locs cells slots ls ok hp hc hn hl => lv_lor ok.1 ok.2.1 hd (kk E p e R s m args below meth cc H locs cells slots ls ok hp hc hn hl)
theorem ex_lshl {x : Int64} {z : Int32} (hd : decode y.2.1 pc = .ok (.lshl, 1))  (kk : Ex d y bc bs (pc + 1) lo (.long (x <<< (z.toInt64 &&& 63)) :: st) M Φ) : Ex d y bc bs pc lo (.int z :: .long x :: st) M Φ := fun E p e R s m args below meth cc H locs cells slots ls ok hp hc hn hl => lv_lshl ok.1 ok.2.1 hd rfl (kk E p e R s m args below meth cc H locs cells slots ls ok hp hc hn hl)
theorem ex_lshr {x : Int64} {z : Int32} (hd : decode y.2.1 pc = .ok (.lshr, 1))  (kk : Ex d y bc bs (pc + 1) lo (.long (x >>> (z.toInt64 &&& 63)) :: st) M Φ) : Ex d y bc bs pc lo (.int z :: .long x :: st) M Φ := fun E p e R s m args below meth cc H locs cells slots ls ok hp hc hn hl => lv_lshr ok.1 ok.2.1 hd rfl (kk E p e R s m args below meth cc H locs cells slots ls ok hp hc hn hl)
theorem ex_lcmp {x z : Int64} (hd : decode y.2.1 pc = .ok (.lcmp, 1))  (kk : Ex d y bc bs (pc + 1) lo (.int (lg_cmp x z) :: st) M Φ) : Ex d y bc bs pc lo (.long z :: .long x :: st) M Φ := fun E p e R s m args below meth cc H locs cells slots ls ok hp hc hn hl => W.lcmp ok.1 ok.2.1 hd (kk E p e R s m args below meth cc H locs cells slots ls ok hp hc hn hl)
theorem ex_i2l {x : Int32} (hd : decode y.2.1 pc = .ok (.i2l, 1))  (kk : Ex d y bc bs (pc + 1) lo (.long x.toInt64 :: st) M Φ) : Ex d y bc bs pc lo (.int x :: st) M Φ := fun E p e R s m args below meth cc H locs cells slots ls ok hp hc hn hl => lv_i2l ok.1 ok.2.1 hd rfl (kk E p e R s m args below meth cc H locs cells slots ls ok hp hc hn hl)
theorem ex_l2i {x : Int64} (hd : decode y.2.1 pc = .ok (.l2i, 1))  (kk : Ex d y bc bs (pc + 1) lo (.int x.toInt32 :: st) M Φ) : Ex d y bc bs pc lo (.long x :: st) M Φ := fun E p e R s m args below meth cc H locs cells slots ls ok hp hc hn hl => lv_l2i ok.1 ok.2.1 hd rfl (kk E p e R s m args below meth cc H locs cells slots ls ok hp hc hn hl)
theorem ex_i2b {x : Int32} (hd : decode y.2.1 pc = .ok (.i2b, 1))  (kk : Ex d y bc bs (pc + 1) lo (.int x.toInt8.toInt32 :: st) M Φ) : Ex d y bc bs pc lo (.int x :: st) M Φ := fun E p e R s m args below meth cc H locs cells slots ls ok hp hc hn hl => lv_i2b ok.1 ok.2.1 hd rfl (kk E p e R s m args below meth cc H locs cells slots ls ok hp hc hn hl)
theorem ex_i2s {x : Int32} (hd : decode y.2.1 pc = .ok (.i2s, 1))  (kk : Ex d y bc bs (pc + 1) lo (.int x.toInt16.toInt32 :: st) M Φ) : Ex d y bc bs pc lo (.int x :: st) M Φ := fun E p e R s m args below meth cc H locs cells slots ls ok hp hc hn hl => lv_i2s ok.1 ok.2.1 hd rfl (kk E p e R s m args below meth cc H locs cells slots ls ok hp hc hn hl)
theorem ex_dup {v : Value} (hd : decode y.2.1 pc = .ok (.dup, 1)) (hv : v.category = 1) (kk : Ex d y bc bs (pc + 1) lo (v :: v :: st) M Φ) : Ex d y bc bs pc lo (v :: st) M Φ := fun E p e R s m args below meth cc H locs cells slots ls ok hp hc hn hl => lv_dup ok.1 ok.2.1 hd ((cv_cat E v).trans hv) (kk E p e R s m args below meth cc H locs cells slots ls ok hp hc hn hl)
theorem ex_pop {v : Value} (hd : decode y.2.1 pc = .ok (.pop, 1)) (hv : v.category = 1) (kk : Ex d y bc bs (pc + 1) lo (st) M Φ) : Ex d y bc bs pc lo (v :: st) M Φ := fun E p e R s m args below meth cc H locs cells slots ls ok hp hc hn hl => lv_pop ok.1 ok.2.1 hd ((cv_cat E v).trans hv) (kk E p e R s m args below meth cc H locs cells slots ls ok hp hc hn hl)
theorem ex_dup2 {v w : Value} (hd : decode y.2.1 pc = .ok (.dup2, 1)) (hv : v.category = 1) (hw : w.category = 1) (kk : Ex d y bc bs (pc + 1) lo (v :: w :: v :: w :: st) M Φ) : Ex d y bc bs pc lo (v :: w :: st) M Φ := fun E p e R s m args below meth cc H locs cells slots ls ok hp hc hn hl => lv_dup2_11 ok.1 ok.2.1 hd ((cv_cat E v).trans hv) ((cv_cat E w).trans hw) (kk E p e R s m args below meth cc H locs cells slots ls ok hp hc hn hl)
theorem ex_if_eq {x : Int32} {off : Int} {tgt : Nat} (hd : decode y.2.1 pc = .ok (.ifCond .eq off, 3)) (ht : (pc : Int) + off = (tgt : Int)) (k1 : x = 0 → Ex d y bc bs tgt lo st M Φ) (k2 : ¬ (x = 0) → Ex d y bc bs (pc + 3) lo st M Φ) : Ex d y bc bs pc lo (.int x :: st) M Φ := fun E p e R s m args below meth cc H locs cells slots ls ok hp hc hn hl => lv_if_eq ok.1 ok.2.1 hd ht (fun h9 => k1 h9 E p e R s m args below meth cc H locs cells slots ls ok hp hc hn hl) (fun h9 => k2 h9 E p e R s m args below meth cc H locs cells slots ls ok hp hc hn hl)
theorem ex_if_ne {x : Int32} {off : Int} {tgt : Nat} (hd : decode y.2.1 pc = .ok (.ifCond .ne off, 3)) (ht : (pc : Int) + off = (tgt : Int)) (k1 : ¬ x = 0 → Ex d y bc bs tgt lo st M Φ) (k2 : x = 0 → Ex d y bc bs (pc + 3) lo st M Φ) : Ex d y bc bs pc lo (.int x :: st) M Φ := fun E p e R s m args below meth cc H locs cells slots ls ok hp hc hn hl => lv_if_ne ok.1 ok.2.1 hd ht (fun h9 => k1 h9 E p e R s m args below meth cc H locs cells slots ls ok hp hc hn hl) (fun h9 => k2 h9 E p e R s m args below meth cc H locs cells slots ls ok hp hc hn hl)
theorem ex_if_lt {x : Int32} {off : Int} {tgt : Nat} (hd : decode y.2.1 pc = .ok (.ifCond .lt off, 3)) (ht : (pc : Int) + off = (tgt : Int)) (k1 : x < 0 → Ex d y bc bs tgt lo st M Φ) (k2 : ¬ (x < 0) → Ex d y bc bs (pc + 3) lo st M Φ) : Ex d y bc bs pc lo (.int x :: st) M Φ := fun E p e R s m args below meth cc H locs cells slots ls ok hp hc hn hl => lv_if_lt ok.1 ok.2.1 hd ht (fun h9 => k1 h9 E p e R s m args below meth cc H locs cells slots ls ok hp hc hn hl) (fun h9 => k2 h9 E p e R s m args below meth cc H locs cells slots ls ok hp hc hn hl)
theorem ex_if_ge {x : Int32} {off : Int} {tgt : Nat} (hd : decode y.2.1 pc = .ok (.ifCond .ge off, 3)) (ht : (pc : Int) + off = (tgt : Int)) (k1 : 0 ≤ x → Ex d y bc bs tgt lo st M Φ) (k2 : ¬ (0 ≤ x) → Ex d y bc bs (pc + 3) lo st M Φ) : Ex d y bc bs pc lo (.int x :: st) M Φ := fun E p e R s m args below meth cc H locs cells slots ls ok hp hc hn hl => lv_if_ge ok.1 ok.2.1 hd ht (fun h9 => k1 h9 E p e R s m args below meth cc H locs cells slots ls ok hp hc hn hl) (fun h9 => k2 h9 E p e R s m args below meth cc H locs cells slots ls ok hp hc hn hl)
theorem ex_if_gt {x : Int32} {off : Int} {tgt : Nat} (hd : decode y.2.1 pc = .ok (.ifCond .gt off, 3)) (ht : (pc : Int) + off = (tgt : Int)) (k1 : 0 < x → Ex d y bc bs tgt lo st M Φ) (k2 : ¬ (0 < x) → Ex d y bc bs (pc + 3) lo st M Φ) : Ex d y bc bs pc lo (.int x :: st) M Φ := fun E p e R s m args below meth cc H locs cells slots ls ok hp hc hn hl => lv_if_gt ok.1 ok.2.1 hd ht (fun h9 => k1 h9 E p e R s m args below meth cc H locs cells slots ls ok hp hc hn hl) (fun h9 => k2 h9 E p e R s m args below meth cc H locs cells slots ls ok hp hc hn hl)
theorem ex_if_le {x : Int32} {off : Int} {tgt : Nat} (hd : decode y.2.1 pc = .ok (.ifCond .le off, 3)) (ht : (pc : Int) + off = (tgt : Int)) (k1 : x ≤ 0 → Ex d y bc bs tgt lo st M Φ) (k2 : ¬ (x ≤ 0) → Ex d y bc bs (pc + 3) lo st M Φ) : Ex d y bc bs pc lo (.int x :: st) M Φ := fun E p e R s m args below meth cc H locs cells slots ls ok hp hc hn hl => lv_if_le ok.1 ok.2.1 hd ht (fun h9 => k1 h9 E p e R s m args below meth cc H locs cells slots ls ok hp hc hn hl) (fun h9 => k2 h9 E p e R s m args below meth cc H locs cells slots ls ok hp hc hn hl)
theorem ex_icmp_eq {x z : Int32} {off : Int} {tgt : Nat} (hd : decode y.2.1 pc = .ok (.if_icmp .eq off, 3)) (ht : (pc : Int) + off = (tgt : Int)) (k1 : x = z → Ex d y bc bs tgt lo st M Φ) (k2 : ¬ (x = z) → Ex d y bc bs (pc + 3) lo st M Φ) : Ex d y bc bs pc lo (.int z :: .int x :: st) M Φ := fun E p e R s m args below meth cc H locs cells slots ls ok hp hc hn hl => lv_icmp_eq ok.1 ok.2.1 hd ht (fun h9 => k1 h9 E p e R s m args below meth cc H locs cells slots ls ok hp hc hn hl) (fun h9 => k2 h9 E p e R s m args below meth cc H locs cells slots ls ok hp hc hn hl)
theorem ex_icmp_ne {x z : Int32} {off : Int} {tgt : Nat} (hd : decode y.2.1 pc = .ok (.if_icmp .ne off, 3)) (ht : (pc : Int) + off = (tgt : Int)) (k1 : ¬ x = z → Ex d y bc bs tgt lo st M Φ) (k2 : x = z → Ex d y bc bs (pc + 3) lo st M Φ) : Ex d y bc bs pc lo (.int z :: .int x :: st) M Φ := fun E p e R s m args below meth cc H locs cells slots ls ok hp hc hn hl => lv_icmp_ne ok.1 ok.2.1 hd ht (fun h9 => k1 h9 E p e R s m args below meth cc H locs cells slots ls ok hp hc hn hl) (fun h9 => k2 h9 E p e R s m args below meth cc H locs cells slots ls ok hp hc hn hl)
theorem ex_icmp_lt {x z : Int32} {off : Int} {tgt : Nat} (hd : decode y.2.1 pc = .ok (.if_icmp .lt off, 3)) (ht : (pc : Int) + off = (tgt : Int)) (k1 : x < z → Ex d y bc bs tgt lo st M Φ) (k2 : ¬ (x < z) → Ex d y bc bs (pc + 3) lo st M Φ) : Ex d y bc bs pc lo (.int z :: .int x :: st) M Φ := fun E p e R s m args below meth cc H locs cells slots ls ok hp hc hn hl => lv_icmp_lt ok.1 ok.2.1 hd ht (fun h9 => k1 h9 E p e R s m args below meth cc H locs cells slots ls ok hp hc hn hl) (fun h9 => k2 h9 E p e R s m args below meth cc H locs cells slots ls ok hp hc hn hl)
theorem ex_icmp_ge {x z : Int32} {off : Int} {tgt : Nat} (hd : decode y.2.1 pc = .ok (.if_icmp .ge off, 3)) (ht : (pc : Int) + off = (tgt : Int)) (k1 : z ≤ x → Ex d y bc bs tgt lo st M Φ) (k2 : ¬ (z ≤ x) → Ex d y bc bs (pc + 3) lo st M Φ) : Ex d y bc bs pc lo (.int z :: .int x :: st) M Φ := fun E p e R s m args below meth cc H locs cells slots ls ok hp hc hn hl => lv_icmp_ge ok.1 ok.2.1 hd ht (fun h9 => k1 h9 E p e R s m args below meth cc H locs cells slots ls ok hp hc hn hl) (fun h9 => k2 h9 E p e R s m args below meth cc H locs cells slots ls ok hp hc hn hl)
theorem ex_icmp_gt {x z : Int32} {off : Int} {tgt : Nat} (hd : decode y.2.1 pc = .ok (.if_icmp .gt off, 3)) (ht : (pc : Int) + off = (tgt : Int)) (k1 : z < x → Ex d y bc bs tgt lo st M Φ) (k2 : ¬ (z < x) → Ex d y bc bs (pc + 3) lo st M Φ) : Ex d y bc bs pc lo (.int z :: .int x :: st) M Φ := fun E p e R s m args below meth cc H locs cells slots ls ok hp hc hn hl => lv_icmp_gt ok.1 ok.2.1 hd ht (fun h9 => k1 h9 E p e R s m args below meth cc H locs cells slots ls ok hp hc hn hl) (fun h9 => k2 h9 E p e R s m args below meth cc H locs cells slots ls ok hp hc hn hl)
theorem ex_icmp_le {x z : Int32} {off : Int} {tgt : Nat} (hd : decode y.2.1 pc = .ok (.if_icmp .le off, 3)) (ht : (pc : Int) + off = (tgt : Int)) (k1 : x ≤ z → Ex d y bc bs tgt lo st M Φ) (k2 : ¬ (x ≤ z) → Ex d y bc bs (pc + 3) lo st M Φ) : Ex d y bc bs pc lo (.int z :: .int x :: st) M Φ := fun E p e R s m args below meth cc H locs cells slots ls ok hp hc hn hl => lv_icmp_le ok.1 ok.2.1 hd ht (fun h9 => k1 h9 E p e R s m args below meth cc H locs cells slots ls ok hp hc hn hl) (fun h9 => k2 h9 E p e R s m args below meth cc H locs cells slots ls ok hp hc hn hl)
theorem ex_goto {off : Int} {tgt : Nat} (hd : decode y.2.1 pc = .ok (.goto off, 3)) (ht : (pc : Int) + off = (tgt : Int)) (kk : Ex d y bc bs tgt lo st M Φ) : Ex d y bc bs pc lo st M Φ := fun E p e R s m args below meth cc H locs cells slots ls ok hp hc hn hl => lv_goto ok.1 ok.2.1 hd ht (kk E p e R s m args below meth cc H locs cells slots ls ok hp hc hn hl)
theorem ex_ifnull {x : Nat} {off : Int} (hd : decode y.2.1 pc = .ok (.ifnull off, 3)) (kk : Ex d y bc bs (pc + 3) lo st M Φ) : Ex d y bc bs pc lo (.ref x :: st) M Φ := fun E p e R s m args below meth cc H locs cells slots ls ok hp hc hn hl => lv_ifnull ok.1 ok.2.1 hd (kk E p e R s m args below meth cc H locs cells slots ls ok hp hc hn hl)
theorem ex_ifnullN {off : Int} {tgt : Nat} (hd : decode y.2.1 pc = .ok (.ifnull off, 3)) (ht : (pc : Int) + off = (tgt : Int)) (kk : Ex d y bc bs tgt lo st M Φ) : Ex d y bc bs pc lo (.null :: st) M Φ := fun E p e R s m args below meth cc H locs cells slots ls ok hp hc hn hl => lv_ifnullN ok.1 ok.2.1 hd ht (kk E p e R s m args below meth cc H locs cells slots ls ok hp hc hn hl)
theorem ex_ifnonnull {x : Nat} {off : Int} {tgt : Nat} (hd : decode y.2.1 pc = .ok (.ifnonnull off, 3)) (ht : (pc : Int) + off = (tgt : Int)) (kk : Ex d y bc bs tgt lo st M Φ) : Ex d y bc bs pc lo (.ref x :: st) M Φ := fun E p e R s m args below meth cc H locs cells slots ls ok hp hc hn hl => lv_ifnonnull ok.1 ok.2.1 hd ht (kk E p e R s m args below meth cc H locs cells slots ls ok hp hc hn hl)
theorem ex_ifnonnullN {off : Int} (hd : decode y.2.1 pc = .ok (.ifnonnull off, 3)) (kk : Ex d y bc bs (pc + 3) lo st M Φ) : Ex d y bc bs pc lo (.null :: st) M Φ := fun E p e R s m args below meth cc H locs cells slots ls ok hp hc hn hl => lv_ifnonnullN ok.1 ok.2.1 hd (kk E p e R s m args below meth cc H locs cells slots ls ok hp hc hn hl)
theorem ex_tableOut {dflt l9 h9 : Int} {offs : Array Int} {len : Nat} {x : Int32} {tgt : Nat} (hd : decode y.2.1 pc = .ok (.tableswitch dflt l9 h9 offs, len)) (h : x.toInt < l9 ∨ h9 < x.toInt) (ht : (pc : Int) + dflt = (tgt : Int)) (kk : Ex d y bc bs tgt lo st M Φ) : Ex d y bc bs pc lo (.int x :: st) M Φ := fun E p e R s m args below meth cc H locs cells slots ls ok hp hc hn hl => lv_tableOut ok.1 ok.2.1 hd h ht (kk E p e R s m args below meth cc H locs cells slots ls ok hp hc hn hl)
theorem ex_tableIn {dflt l9 h9 : Int} {offs : Array Int} {len : Nat} {x : Int32} {off : Int} {tgt : Nat} (hd : decode y.2.1 pc = .ok (.tableswitch dflt l9 h9 offs, len)) (h1 : ¬ x.toInt < l9) (h2 : ¬ h9 < x.toInt) (ho : offs[(x.toInt - l9).toNat]? = some off) (ht : (pc : Int) + off = (tgt : Int)) (kk : Ex d y bc bs tgt lo st M Φ) : Ex d y bc bs pc lo (.int x :: st) M Φ := fun E p e R s m args below meth cc H locs cells slots ls ok hp hc hn hl => lv_tableIn ok.1 ok.2.1 hd h1 h2 ho ht (kk E p e R s m args below meth cc H locs cells slots ls ok hp hc hn hl)
theorem ex_ireturn {v : Int32} {ty : FieldType} (hd : decode y.2.1 pc = .ok (.ireturn, 1)) (hr : y.2.2.2 = some ty) (hw : narrow ty (.int v) = .int v) (h : Φ (some (.int v)) M) : Ex d y bc bs pc lo [.int v] M Φ := fun E p e R s m args below meth cc H locs cells slots ls ok hp hc hn hl => W.widen (Nat.le_trans (Nat.le_add_right _ _) hc) (Nat.le_trans (Nat.le_add_right _ _) hn) (W.zret ok.1 ok.2.1 (ok.2.2.1.trans hr) hw (fun t ht _ => ⟨_, M, rfl, h, by rw [ht]; exact hp.1, by rw [ht]; exact hp.2.1⟩) hp.2.2 hd ok.2.2.2.2.2.2.1)
theorem ex_lreturn {v : Int64} (hd : decode y.2.1 pc = .ok (.lreturn, 1)) (hr : y.2.2.2 = some .long) (h : Φ (some (.long v)) M) : Ex d y bc bs pc lo [.long v] M Φ := fun E p e R s m args below meth cc H locs cells slots ls ok hp hc hn hl => W.widen (Nat.le_trans (Nat.le_add_right _ _) hc) (Nat.le_trans (Nat.le_add_right _ _) hn) (W.lret ok.1 ok.2.1 (ok.2.2.1.trans hr) (fun t ht _ => ⟨_, M, rfl, h, by rw [ht]; exact hp.1, by rw [ht]; exact hp.2.1⟩) hp.2.2 hd ok.2.2.2.2.2.2.1)
theorem ex_areturn {a : Nat} {rt : FieldType} (hd : decode y.2.1 pc = .ok (.areturn, 1)) (hr : y.2.2.2 = some rt) (hrt : (∃ n, rt = .object n) ∨ ∃ t, rt = .array t) (h : Φ (some (.ref a)) M) : Ex d y bc bs pc lo [.ref a] M Φ := fun E p e R s m args below meth cc H locs cells slots ls ok hp hc hn hl => W.widen (Nat.le_trans (Nat.le_add_right _ _) hc) (Nat.le_trans (Nat.le_add_right _ _) hn) (W.aret ok.1 ok.2.1 (ok.2.2.1.trans hr) hrt (Or.inr ⟨_, rfl⟩) (fun t ht _ => ⟨some (.ref a), M, rfl, h, by rw [ht]; exact hp.1, by rw [ht]; exact hp.2.1⟩) hp.2.2 hd ok.2.2.2.2.2.2.1)
theorem ex_areturnN {rt : FieldType} (hd : decode y.2.1 pc = .ok (.areturn, 1)) (hr : y.2.2.2 = some rt) (hrt : (∃ n, rt = .object n) ∨ ∃ t, rt = .array t) (h : Φ (some .null) M) : Ex d y bc bs pc lo [.null] M Φ := fun E p e R s m args below meth cc H locs cells slots ls ok hp hc hn hl => W.widen (Nat.le_trans (Nat.le_add_right _ _) hc) (Nat.le_trans (Nat.le_add_right _ _) hn) (W.aret ok.1 ok.2.1 (ok.2.2.1.trans hr) hrt (Or.inl rfl) (fun t ht _ => ⟨some .null, M, rfl, h, by rw [ht]; exact hp.1, by rw [ht]; exact hp.2.1⟩) hp.2.2 hd ok.2.2.2.2.2.2.1)
theorem ex_return (hd : decode y.2.1 pc = .ok (.return_, 1)) (hr : y.2.2.2 = none) (h : Φ none M) : Ex d y bc bs pc lo [] M Φ := fun E p e R s m args below meth cc H locs cells slots ls ok hp hc hn hl => W.widen (Nat.le_trans (Nat.le_add_right _ _) hc) (Nat.le_trans (Nat.le_add_right _ _) hn) (W.vret ok.1 ok.2.1 (ok.2.2.1.trans hr) (fun t ht _ => ⟨none, M, rfl, h, by rw [ht]; exact hp.1, by rw [ht]; exact hp.2.1⟩) hp.2.2 hd ok.2.2.2.2.2.2.1)
theorem Ex.mono {Ψ : Option Value → Mem → Prop} (h : Ex d y bc bs pc lo st M Φ) (hi : ∀ o M2, Φ o M2 → Ψ o M2) : Ex d y bc bs pc lo st M Ψ := by
  intro E p e R s m args below meth cc H locs cells slots ls ok hp hc hn hl T hT X
  obtain ⟨t, h1, o, h2, h3, ⟨r, M', q1, q2, q3⟩, h4⟩ := h E p e R s m args below meth cc H locs cells slots ls ok hp hc hn hl T hT X
  exact ⟨t, h1, o, h2, h3, ⟨r, M', q1, hi _ _ q2, q3⟩, h4⟩
/-- fewer known locals -/
theorem Ex.low {lo2 : List (Option Value)} (h : Ex d y bc bs pc lo2 st M Φ) (hi : ∀ (i : Nat) (v : Value), lo2[i]? = some (some v) → lo[i]? = some (some v)) : Ex d y bc bs pc lo st M Φ := fun E p e R s m args below meth cc H locs cells slots ls ok hp hc hn hl => h E p e R s m args below meth cc H locs cells slots ls ok hp hc hn ⟨hl.1, hl.2.1, fun i v q => hl.2.2 i v (hi i v q)⟩
theorem Ex.bud {bc2 bs2 : Nat} (h : Ex d y bc2 bs2 pc lo st M Φ) (h1 : bc2 ≤ bc) (h2 : bs2 ≤ bs) : Ex d y bc bs pc lo st M Φ := fun E p e R s m args below meth cc H locs cells slots ls ok hp hc hn hl => h E p e R s m args below meth cc H locs cells slots ls ok hp (by omega) (by omega) hl
end EXR
end
section
/-! rules of Ex: fields and arrays -/
theorem uws_MD : ∀ w ∈ u_ws "MarketDays" FF_MD 11, w ∈ gtbl := List.forall_mem_cons.mpr ⟨in_t3 (i := 7) rfl rfl, List.forall_mem_cons.mpr ⟨in_t3 (i := 9) rfl rfl, List.forall_mem_cons.mpr ⟨in_t3 (i := 11) rfl rfl, List.forall_mem_cons.mpr ⟨in_t3 (i := 13) rfl rfl, List.forall_mem_cons.mpr ⟨in_t3 (i := 15) rfl rfl, List.forall_mem_cons.mpr ⟨in_t3 (i := 17) rfl rfl, List.forall_mem_cons.mpr ⟨in_t3 (i := 19) rfl rfl, List.forall_mem_cons.mpr ⟨in_t3 (i := 21) rfl rfl, List.forall_mem_cons.mpr ⟨in_t3 (i := 23) rfl rfl, List.forall_mem_cons.mpr ⟨in_t3 (i := 25) rfl rfl, List.forall_mem_cons.mpr ⟨in_t3 (i := 27) rfl rfl, fun _ h => absurd h List.not_mem_nil⟩⟩⟩⟩⟩⟩⟩⟩⟩⟩⟩
theorem unm_MD : ∀ a, a < 11 → ∀ b, b < 11 → a ≠ b → (FF_MD a).2.1 ≠ (FF_MD b).2.1 := by decide +kernel
def ty_MD : Nat → FieldType := fun k => match k with
  | 0 => .object "MarketDays$Land"
  | 1 => .object "MarketDays$Land"
  | 2 => .boolean
  | 3 => .object "MarketDays$Tape"
  | 4 => .object "MarketDays$Law"
  | 5 => .array (.object "MarketDays$Giving")
  | 6 => .int
  | 7 => .object "MarketDays$Fair"
  | 8 => .object "MarketDays$Finder"
  | 9 => .object "MarketDays$Pedlar"
  | _ => .array (.object "MarketDays$Sheet")
theorem uty_MD : ∀ k, k < 11 → parseFieldDescriptor (FF_MD k).2.2.1 = some (ty_MD k) := by decide +kernel
theorem uws_Fair : ∀ w ∈ u_ws "MarketDays$Fair" FF_Fair 4, w ∈ gtbl := List.forall_mem_cons.mpr ⟨in_t1 (i := 176) rfl rfl, List.forall_mem_cons.mpr ⟨in_t1 (i := 178) rfl rfl, List.forall_mem_cons.mpr ⟨in_t1 (i := 180) rfl rfl, List.forall_mem_cons.mpr ⟨in_t1 (i := 182) rfl rfl, fun _ h => absurd h List.not_mem_nil⟩⟩⟩⟩
theorem unm_Fair : ∀ a, a < 4 → ∀ b, b < 4 → a ≠ b → (FF_Fair a).2.1 ≠ (FF_Fair b).2.1 := by decide +kernel
def ty_Fair : Nat → FieldType := fun k => match k with
  | 0 => .object "MarketDays$Land"
  | 1 => .object "MarketDays$Law"
  | 2 => .array (.int)
  | _ => .object "MarketDays$Giving"
theorem uty_Fair : ∀ k, k < 4 → parseFieldDescriptor (FF_Fair k).2.2.1 = some (ty_Fair k) := by decide +kernel
theorem uws_Finder : ∀ w ∈ u_ws "MarketDays$Finder" FF_Finder 8, w ∈ gtbl := List.forall_mem_cons.mpr ⟨in_t1 (i := 236) rfl rfl, List.forall_mem_cons.mpr ⟨in_t1 (i := 238) rfl rfl, List.forall_mem_cons.mpr ⟨in_t2 (i := 0) rfl rfl, List.forall_mem_cons.mpr ⟨in_t2 (i := 2) rfl rfl, List.forall_mem_cons.mpr ⟨in_t2 (i := 4) rfl rfl, List.forall_mem_cons.mpr ⟨in_t2 (i := 6) rfl rfl, List.forall_mem_cons.mpr ⟨in_t2 (i := 8) rfl rfl, List.forall_mem_cons.mpr ⟨in_t2 (i := 10) rfl rfl, fun _ h => absurd h List.not_mem_nil⟩⟩⟩⟩⟩⟩⟩⟩
theorem unm_Finder : ∀ a, a < 8 → ∀ b, b < 8 → a ≠ b → (FF_Finder a).2.1 ≠ (FF_Finder b).2.1 := by decide +kernel
def ty_Finder : Nat → FieldType := fun k => match k with
  | 0 => .object "MarketDays$Land"
  | 1 => .object "MarketDays$Law"
  | 2 => .object "MarketDays$Ways"
  | 3 => .array (.int)
  | 4 => .int
  | 5 => .array (.int)
  | 6 => .array (.int)
  | _ => .array (.int)
theorem uty_Finder : ∀ k, k < 8 → parseFieldDescriptor (FF_Finder k).2.2.1 = some (ty_Finder k) := by decide +kernel
theorem uws_Giving : ∀ w ∈ u_ws "MarketDays$Giving" FF_Giving 2, w ∈ gtbl := List.forall_mem_cons.mpr ⟨in_t3 (i := 172) rfl rfl, List.forall_mem_cons.mpr ⟨in_t3 (i := 174) rfl rfl, fun _ h => absurd h List.not_mem_nil⟩⟩
theorem unm_Giving : ∀ a, a < 2 → ∀ b, b < 2 → a ≠ b → (FF_Giving a).2.1 ≠ (FF_Giving b).2.1 := by decide +kernel
def ty_Giving : Nat → FieldType := fun k => match k with
  | 0 => .int
  | _ => .array (.int)
theorem uty_Giving : ∀ k, k < 2 → parseFieldDescriptor (FF_Giving k).2.2.1 = some (ty_Giving k) := by decide +kernel
theorem uws_Land : ∀ w ∈ u_ws "MarketDays$Land" FF_Land 12, w ∈ gtbl := List.forall_mem_cons.mpr ⟨in_t1 (i := 74) rfl rfl, List.forall_mem_cons.mpr ⟨in_t1 (i := 76) rfl rfl, List.forall_mem_cons.mpr ⟨in_t1 (i := 78) rfl rfl, List.forall_mem_cons.mpr ⟨in_t1 (i := 80) rfl rfl, List.forall_mem_cons.mpr ⟨in_t1 (i := 82) rfl rfl, List.forall_mem_cons.mpr ⟨in_t1 (i := 84) rfl rfl, List.forall_mem_cons.mpr ⟨in_t1 (i := 86) rfl rfl, List.forall_mem_cons.mpr ⟨in_t1 (i := 88) rfl rfl, List.forall_mem_cons.mpr ⟨in_t1 (i := 90) rfl rfl, List.forall_mem_cons.mpr ⟨in_t1 (i := 92) rfl rfl, List.forall_mem_cons.mpr ⟨in_t1 (i := 94) rfl rfl, List.forall_mem_cons.mpr ⟨in_t1 (i := 96) rfl rfl, fun _ h => absurd h List.not_mem_nil⟩⟩⟩⟩⟩⟩⟩⟩⟩⟩⟩⟩
theorem unm_Land : ∀ a, a < 12 → ∀ b, b < 12 → a ≠ b → (FF_Land a).2.1 ≠ (FF_Land b).2.1 := by decide +kernel
def ty_Land : Nat → FieldType := fun k => match k with
  | 0 => .array (.int)
  | 1 => .array (.int)
  | 2 => .array (.int)
  | 3 => .array (.int)
  | 4 => .array (.array (.int))
  | 5 => .array (.array (.int))
  | 6 => .array (.int)
  | 7 => .array (.int)
  | 8 => .int
  | 9 => .int
  | 10 => .int
  | _ => .int
theorem uty_Land : ∀ k, k < 12 → parseFieldDescriptor (FF_Land k).2.2.1 = some (ty_Land k) := by decide +kernel
theorem uws_Law : ∀ w ∈ u_ws "MarketDays$Law" FF_Law 5, w ∈ gtbl := List.forall_mem_cons.mpr ⟨in_t1 (i := 153) rfl rfl, List.forall_mem_cons.mpr ⟨in_t1 (i := 155) rfl rfl, List.forall_mem_cons.mpr ⟨in_t1 (i := 157) rfl rfl, List.forall_mem_cons.mpr ⟨in_t1 (i := 159) rfl rfl, List.forall_mem_cons.mpr ⟨in_t1 (i := 161) rfl rfl, fun _ h => absurd h List.not_mem_nil⟩⟩⟩⟩⟩
theorem unm_Law : ∀ a, a < 5 → ∀ b, b < 5 → a ≠ b → (FF_Law a).2.1 ≠ (FF_Law b).2.1 := by decide +kernel
def ty_Law : Nat → FieldType := fun k => match k with
  | 0 => .object "MarketDays$Land"
  | 1 => .array (.object "MarketDays$Rule")
  | 2 => .int
  | 3 => .array (.int)
  | _ => .array (.int)
theorem uty_Law : ∀ k, k < 5 → parseFieldDescriptor (FF_Law k).2.2.1 = some (ty_Law k) := by decide +kernel
theorem uws_Pedlar : ∀ w ∈ u_ws "MarketDays$Pedlar" FF_Pedlar 5, w ∈ gtbl := List.forall_mem_cons.mpr ⟨in_t2 (i := 26) rfl rfl, List.forall_mem_cons.mpr ⟨in_t2 (i := 28) rfl rfl, List.forall_mem_cons.mpr ⟨in_t2 (i := 30) rfl rfl, List.forall_mem_cons.mpr ⟨in_t2 (i := 32) rfl rfl, List.forall_mem_cons.mpr ⟨in_t2 (i := 34) rfl rfl, fun _ h => absurd h List.not_mem_nil⟩⟩⟩⟩⟩
theorem unm_Pedlar : ∀ a, a < 5 → ∀ b, b < 5 → a ≠ b → (FF_Pedlar a).2.1 ≠ (FF_Pedlar b).2.1 := by decide +kernel
def ty_Pedlar : Nat → FieldType := fun k => match k with
  | 0 => .object "MarketDays$Land"
  | 1 => .object "MarketDays$Fair"
  | 2 => .array (.int)
  | 3 => .int
  | _ => .array (.int)
theorem uty_Pedlar : ∀ k, k < 5 → parseFieldDescriptor (FF_Pedlar k).2.2.1 = some (ty_Pedlar k) := by decide +kernel
theorem uws_Rule : ∀ w ∈ u_ws "MarketDays$Rule" FF_Rule 2, w ∈ gtbl := List.forall_mem_cons.mpr ⟨in_t2 (i := 226) rfl rfl, List.forall_mem_cons.mpr ⟨in_t2 (i := 228) rfl rfl, fun _ h => absurd h List.not_mem_nil⟩⟩
theorem unm_Rule : ∀ a, a < 2 → ∀ b, b < 2 → a ≠ b → (FF_Rule a).2.1 ≠ (FF_Rule b).2.1 := by decide +kernel
def ty_Rule : Nat → FieldType := fun k => match k with
  | 0 => .array (.int)
  | _ => .array (.int)
theorem uty_Rule : ∀ k, k < 2 → parseFieldDescriptor (FF_Rule k).2.2.1 = some (ty_Rule k) := by decide +kernel
theorem uws_Sheet : ∀ w ∈ u_ws "MarketDays$Sheet" FF_Sheet 3, w ∈ gtbl := List.forall_mem_cons.mpr ⟨in_t2 (i := 52) rfl rfl, List.forall_mem_cons.mpr ⟨in_t2 (i := 54) rfl rfl, List.forall_mem_cons.mpr ⟨in_t2 (i := 56) rfl rfl, fun _ h => absurd h List.not_mem_nil⟩⟩⟩
theorem unm_Sheet : ∀ a, a < 3 → ∀ b, b < 3 → a ≠ b → (FF_Sheet a).2.1 ≠ (FF_Sheet b).2.1 := by decide +kernel
def ty_Sheet : Nat → FieldType := fun k => match k with
  | 0 => .array (.int)
  | 1 => .int
  | _ => .int
theorem uty_Sheet : ∀ k, k < 3 → parseFieldDescriptor (FF_Sheet k).2.2.1 = some (ty_Sheet k) := by decide +kernel
theorem uws_Tape : ∀ w ∈ u_ws "MarketDays$Tape" FF_Tape 10, w ∈ gtbl := List.forall_mem_cons.mpr ⟨in_t1 (i := 118) rfl rfl, List.forall_mem_cons.mpr ⟨in_t1 (i := 120) rfl rfl, List.forall_mem_cons.mpr ⟨in_t1 (i := 122) rfl rfl, List.forall_mem_cons.mpr ⟨in_t1 (i := 124) rfl rfl, List.forall_mem_cons.mpr ⟨in_t1 (i := 126) rfl rfl, List.forall_mem_cons.mpr ⟨in_t1 (i := 128) rfl rfl, List.forall_mem_cons.mpr ⟨in_t1 (i := 130) rfl rfl, List.forall_mem_cons.mpr ⟨in_t1 (i := 132) rfl rfl, List.forall_mem_cons.mpr ⟨in_t1 (i := 134) rfl rfl, List.forall_mem_cons.mpr ⟨in_t1 (i := 136) rfl rfl, fun _ h => absurd h List.not_mem_nil⟩⟩⟩⟩⟩⟩⟩⟩⟩⟩
theorem unm_Tape : ∀ a, a < 10 → ∀ b, b < 10 → a ≠ b → (FF_Tape a).2.1 ≠ (FF_Tape b).2.1 := by decide +kernel
def ty_Tape : Nat → FieldType := fun k => match k with
  | 0 => .array (.int)
  | 1 => .int
  | 2 => .int
  | 3 => .int
  | 4 => .int
  | 5 => .int
  | 6 => .int
  | 7 => .int
  | 8 => .array (.int)
  | _ => .int
theorem uty_Tape : ∀ k, k < 10 → parseFieldDescriptor (FF_Tape k).2.2.1 = some (ty_Tape k) := by decide +kernel
theorem uws_Ways : ∀ w ∈ u_ws "MarketDays$Ways" FF_Ways 9, w ∈ gtbl := List.forall_mem_cons.mpr ⟨in_t1 (i := 207) rfl rfl, List.forall_mem_cons.mpr ⟨in_t1 (i := 209) rfl rfl, List.forall_mem_cons.mpr ⟨in_t1 (i := 211) rfl rfl, List.forall_mem_cons.mpr ⟨in_t1 (i := 213) rfl rfl, List.forall_mem_cons.mpr ⟨in_t1 (i := 215) rfl rfl, List.forall_mem_cons.mpr ⟨in_t1 (i := 217) rfl rfl, List.forall_mem_cons.mpr ⟨in_t1 (i := 219) rfl rfl, List.forall_mem_cons.mpr ⟨in_t1 (i := 221) rfl rfl, List.forall_mem_cons.mpr ⟨in_t1 (i := 223) rfl rfl, fun _ h => absurd h List.not_mem_nil⟩⟩⟩⟩⟩⟩⟩⟩⟩
theorem unm_Ways : ∀ a, a < 9 → ∀ b, b < 9 → a ≠ b → (FF_Ways a).2.1 ≠ (FF_Ways b).2.1 := by decide +kernel
def ty_Ways : Nat → FieldType := fun k => match k with
  | 0 => .object "MarketDays$Land"
  | 1 => .object "MarketDays$Law"
  | 2 => .int
  | 3 => .array (.int)
  | 4 => .array (.int)
  | 5 => .int
  | 6 => .array (.int)
  | 7 => .array (.int)
  | _ => .boolean
theorem uty_Ways : ∀ k, k < 9 → parseFieldDescriptor (FF_Ways k).2.2.1 = some (ty_Ways k) := by decide +kernel
theorem uws_MM : ∀ w ∈ u_ws "MarketDaysModel" FF_MM 56, w ∈ gtbl := List.forall_mem_cons.mpr ⟨in_t5 (i := 132) rfl rfl, List.forall_mem_cons.mpr ⟨in_t5 (i := 134) rfl rfl, List.forall_mem_cons.mpr ⟨in_t5 (i := 136) rfl rfl, List.forall_mem_cons.mpr ⟨in_t5 (i := 138) rfl rfl, List.forall_mem_cons.mpr ⟨in_t5 (i := 140) rfl rfl, List.forall_mem_cons.mpr ⟨in_t5 (i := 142) rfl rfl, List.forall_mem_cons.mpr ⟨in_t5 (i := 144) rfl rfl, List.forall_mem_cons.mpr ⟨in_t5 (i := 146) rfl rfl, List.forall_mem_cons.mpr ⟨in_t5 (i := 148) rfl rfl, List.forall_mem_cons.mpr ⟨in_t5 (i := 150) rfl rfl, List.forall_mem_cons.mpr ⟨in_t5 (i := 152) rfl rfl, List.forall_mem_cons.mpr ⟨in_t5 (i := 154) rfl rfl, List.forall_mem_cons.mpr ⟨in_t5 (i := 156) rfl rfl, List.forall_mem_cons.mpr ⟨in_t5 (i := 158) rfl rfl, List.forall_mem_cons.mpr ⟨in_t5 (i := 160) rfl rfl, List.forall_mem_cons.mpr ⟨in_t5 (i := 162) rfl rfl, List.forall_mem_cons.mpr ⟨in_t5 (i := 164) rfl rfl, List.forall_mem_cons.mpr ⟨in_t5 (i := 166) rfl rfl, List.forall_mem_cons.mpr ⟨in_t5 (i := 168) rfl rfl, List.forall_mem_cons.mpr ⟨in_t5 (i := 170) rfl rfl, List.forall_mem_cons.mpr ⟨in_t5 (i := 172) rfl rfl, List.forall_mem_cons.mpr ⟨in_t5 (i := 174) rfl rfl, List.forall_mem_cons.mpr ⟨in_t5 (i := 176) rfl rfl, List.forall_mem_cons.mpr ⟨in_t5 (i := 178) rfl rfl, List.forall_mem_cons.mpr ⟨in_t5 (i := 180) rfl rfl, List.forall_mem_cons.mpr ⟨in_t5 (i := 182) rfl rfl, List.forall_mem_cons.mpr ⟨in_t5 (i := 184) rfl rfl, List.forall_mem_cons.mpr ⟨in_t5 (i := 186) rfl rfl, List.forall_mem_cons.mpr ⟨in_t5 (i := 188) rfl rfl, List.forall_mem_cons.mpr ⟨in_t5 (i := 190) rfl rfl, List.forall_mem_cons.mpr ⟨in_t5 (i := 192) rfl rfl, List.forall_mem_cons.mpr ⟨in_t5 (i := 194) rfl rfl, List.forall_mem_cons.mpr ⟨in_t5 (i := 196) rfl rfl, List.forall_mem_cons.mpr ⟨in_t5 (i := 198) rfl rfl, List.forall_mem_cons.mpr ⟨in_t5 (i := 200) rfl rfl, List.forall_mem_cons.mpr ⟨in_t5 (i := 202) rfl rfl, List.forall_mem_cons.mpr ⟨in_t5 (i := 204) rfl rfl, List.forall_mem_cons.mpr ⟨in_t5 (i := 206) rfl rfl, List.forall_mem_cons.mpr ⟨in_t5 (i := 208) rfl rfl, List.forall_mem_cons.mpr ⟨in_t5 (i := 210) rfl rfl, List.forall_mem_cons.mpr ⟨in_t5 (i := 212) rfl rfl, List.forall_mem_cons.mpr ⟨in_t5 (i := 214) rfl rfl, List.forall_mem_cons.mpr ⟨in_t5 (i := 216) rfl rfl, List.forall_mem_cons.mpr ⟨in_t5 (i := 218) rfl rfl, List.forall_mem_cons.mpr ⟨in_t5 (i := 220) rfl rfl, List.forall_mem_cons.mpr ⟨in_t5 (i := 222) rfl rfl, List.forall_mem_cons.mpr ⟨in_t5 (i := 224) rfl rfl, List.forall_mem_cons.mpr ⟨in_t5 (i := 226) rfl rfl, List.forall_mem_cons.mpr ⟨in_t5 (i := 228) rfl rfl, List.forall_mem_cons.mpr ⟨in_t5 (i := 230) rfl rfl, List.forall_mem_cons.mpr ⟨in_t5 (i := 232) rfl rfl, List.forall_mem_cons.mpr ⟨in_t5 (i := 234) rfl rfl, List.forall_mem_cons.mpr ⟨in_t5 (i := 236) rfl rfl, List.forall_mem_cons.mpr ⟨in_t5 (i := 238) rfl rfl, List.forall_mem_cons.mpr ⟨in_t6 (i := 0) rfl rfl, List.forall_mem_cons.mpr ⟨in_t6 (i := 2) rfl rfl, fun _ h => absurd h List.not_mem_nil⟩⟩⟩⟩⟩⟩⟩⟩⟩⟩⟩⟩⟩⟩⟩⟩⟩⟩⟩⟩⟩⟩⟩⟩⟩⟩⟩⟩⟩⟩⟩⟩⟩⟩⟩⟩⟩⟩⟩⟩⟩⟩⟩⟩⟩⟩⟩⟩⟩⟩⟩⟩⟩⟩⟩⟩
theorem unm_MM : ∀ a, a < 56 → ∀ b, b < 56 → a ≠ b → (FF_MM a).2.1 ≠ (FF_MM b).2.1 := by decide +kernel
def ty_MM : Nat → FieldType := fun k => match k with
  | 0 => .int
  | 1 => .array (.int)
  | 2 => .array (.int)
  | 3 => .array (.int)
  | 4 => .array (.int)
  | 5 => .array (.int)
  | 6 => .int
  | 7 => .int
  | 8 => .array (.int)
  | 9 => .array (.int)
  | 10 => .array (.int)
  | 11 => .int
  | 12 => .array (.int)
  | 13 => .array (.int)
  | 14 => .int
  | 15 => .int
  | 16 => .int
  | 17 => .array (.int)
  | 18 => .array (.int)
  | 19 => .array (.int)
  | 20 => .boolean
  | 21 => .int
  | 22 => .array (.int)
  | 23 => .int
  | 24 => .array (.int)
  | 25 => .boolean
  | 26 => .int
  | 27 => .int
  | 28 => .int
  | 29 => .int
  | 30 => .array (.int)
  | 31 => .array (.int)
  | 32 => .array (.int)
  | 33 => .array (.int)
  | 34 => .array (.int)
  | 35 => .array (.int)
  | 36 => .array (.int)
  | 37 => .array (.int)
  | 38 => .array (.int)
  | 39 => .array (.int)
  | 40 => .int
  | 41 => .int
  | 42 => .int
  | 43 => .int
  | 44 => .array (.long)
  | 45 => .array (.int)
  | 46 => .int
  | 47 => .int
  | 48 => .int
  | 49 => .array (.int)
  | 50 => .array (.int)
  | 51 => .array (.boolean)
  | 52 => .array (.int)
  | 53 => .array (.int)
  | 54 => .array (.boolean)
  | _ => .array (.int)
theorem uty_MM : ∀ k, k < 56 → parseFieldDescriptor (FF_MM k).2.2.1 = some (ty_MM k) := by decide +kernel
/-- all that is fixed of a class by its number -/
def CF (ci : Nat) (C : String) (T : u_T) (N : Nat) (ty : Nat → FieldType) : Prop := cls_tbl[ci]? = some (C, T, N) ∧ ci < 100 ∧ (∀ w ∈ u_ws C T N, w ∈ gtbl) ∧ (∀ a, a < N → ∀ b, b < N → a ≠ b → (T a).2.1 ≠ (T b).2.1) ∧ (∀ k, k < N → parseFieldDescriptor (T k).2.2.1 = some (ty k))
theorem cf_MD : CF 0 "MarketDays" FF_MD 11 ty_MD := ⟨rfl, by decide, uws_MD, unm_MD, uty_MD⟩
theorem cf_Fair : CF 1 "MarketDays$Fair" FF_Fair 4 ty_Fair := ⟨rfl, by decide, uws_Fair, unm_Fair, uty_Fair⟩
theorem cf_Finder : CF 2 "MarketDays$Finder" FF_Finder 8 ty_Finder := ⟨rfl, by decide, uws_Finder, unm_Finder, uty_Finder⟩
theorem cf_Giving : CF 3 "MarketDays$Giving" FF_Giving 2 ty_Giving := ⟨rfl, by decide, uws_Giving, unm_Giving, uty_Giving⟩
theorem cf_Land : CF 4 "MarketDays$Land" FF_Land 12 ty_Land := ⟨rfl, by decide, uws_Land, unm_Land, uty_Land⟩
theorem cf_Law : CF 5 "MarketDays$Law" FF_Law 5 ty_Law := ⟨rfl, by decide, uws_Law, unm_Law, uty_Law⟩
theorem cf_Pedlar : CF 6 "MarketDays$Pedlar" FF_Pedlar 5 ty_Pedlar := ⟨rfl, by decide, uws_Pedlar, unm_Pedlar, uty_Pedlar⟩
theorem cf_Rule : CF 7 "MarketDays$Rule" FF_Rule 2 ty_Rule := ⟨rfl, by decide, uws_Rule, unm_Rule, uty_Rule⟩
theorem cf_Sheet : CF 8 "MarketDays$Sheet" FF_Sheet 3 ty_Sheet := ⟨rfl, by decide, uws_Sheet, unm_Sheet, uty_Sheet⟩
theorem cf_Tape : CF 9 "MarketDays$Tape" FF_Tape 10 ty_Tape := ⟨rfl, by decide, uws_Tape, unm_Tape, uty_Tape⟩
theorem cf_Ways : CF 10 "MarketDays$Ways" FF_Ways 9 ty_Ways := ⟨rfl, by decide, uws_Ways, unm_Ways, uty_Ways⟩
theorem cf_MM : CF 11 "MarketDaysModel" FF_MM 56 ty_MM := ⟨rfl, by decide, uws_MM, unm_MM, uty_MM⟩
/-- an entry that links a field: of class ci the k-th, of type code t -/
def LF (own : String) (index ci k t : Nat) : Prop := ∃ (C : String) (T : u_T) (N : Nat) (ty : Nat → FieldType), CF ci C T N ty ∧ k < N ∧ Cond.fieldLink own index (T k).1 (T k).2.1 (T k).2.2.1 ∈ gtbl ∧ ftc ci k = t
/-- it may be written with v -/
def LPf (own : String) (index ci k : Nat) (fin : Bool) (v : Value) : Prop := ∃ (C : String) (T : u_T) (N : Nat) (ty : Nat → FieldType), CF ci C T N ty ∧ k < N ∧ Cond.fieldLink own index (T k).1 (T k).2.1 (T k).2.2.1 ∈ gtbl ∧ (T k).2.2.2 = fin ∧ (fin = true → (T k).1 = own) ∧ narrow (ty k) v = v ∧ fits (ty k) v = true
theorem Wd.obj {E : EV} {M : Mem} {H : Heap} {j ci N : Nat} (h : Wd E M H) (hs : (sh M)[j]? = some (ci, N)) (hc : ci < 100) : ∃ r : vw_C, cls_tbl[ci]? = some r ∧ r.2.2 = N ∧ t_OB (eZ E + j) ((eD E).1 ci) N ((eD E).2 ci) H (fun k => cv E (vv (ftc ci k) M j k)) := by
  have h1 := h.2.2.2.1 j _ hs
  unfold cellOk at h1
  rw [if_pos hc] at h1
  exact h1
theorem Wd.arr {E : EV} {M : Mem} {H : Heap} {j ci N : Nat} (h : Wd E M H) (hs : (sh M)[j]? = some (ci, N)) (hc : ¬ ci < 100) : H[eZ E + j]? = some (arrV (eT E ci) N (fun k => cv E (vv (akt ci) M j k))) := by
  have h1 := h.2.2.2.1 j _ hs
  unfold cellOk at h1
  rw [if_neg hc] at h1
  exact h1
theorem Wd.adr {E : EV} {M : Mem} {H : Heap} {j : Nat} {kn : Nat × Nat} (h : Wd E M H) (hs : (sh M)[j]? = some kn) : ad E j = eZ E + j := ad_lt (Nat.lt_of_lt_of_le (List.getElem?_eq_some_iff.mp hs).1 h.2.1)
/-- one cell is written -/
theorem Wd.set {E : EV} {M M2 : Mem} {H H2 : Heap} {j : Nat} {kn : Nat × Nat} (h : Wd E M H) (hs : (sh M)[j]? = some kn) (hsh : sh M2 = sh M) (hsc : sc M2 = sc M) (hz : H2.size = H.size) (hq : ∀ q, q ≠ eZ E + j → H2[q]? = H[q]?)
    (hv : ∀ t i k, i ≠ j → vv t M2 i k = vv t M i k) (hj : cellOk E M2 H2 j kn) : Wd E M2 H2 := by
  refine ⟨by rw [hz, hsh]; exact h.1, by rw [hsh]; exact h.2.1, fun q hq0 => ?_, fun i kn2 hi => ?_, by rw [hsc]; exact h.2.2.2.2⟩
  · rw [hq q (by omega)]
    exact h.2.2.1 q hq0
  · rw [hsh] at hi
    by_cases hij : i = j
    · subst hij
      rw [hs] at hi
      cases hi
      exact hj
    · have h1 := h.2.2.2.1 i kn2 hi
      unfold cellOk at h1 ⊢
      have e : H2[eZ E + i]? = H[eZ E + i]? := hq _ (by omega)
      split
      · rename_i hc
        rw [if_pos hc] at h1
        obtain ⟨r, a1, a2, a3⟩ := h1
        exact ⟨r, a1, a2, (a3.kept e).to (fun k _ => by rw [hv _ _ _ hij])⟩
      · rename_i hc
        rw [if_neg hc] at h1
        rw [e, h1]
        congr 2
        funext k
        rw [hv _ _ _ hij]
theorem Hp.set {E : EV} {M M2 : Mem} {s : State} {H H2 : Heap} {locs : List Loc} {j k : Nat} (h : Hp E M s H locs) (hz : H2.size = H.size) (hw : Wd E M2 H2) : Hp E M2 s H2 (locs ++ [⟨eZ E + j, k⟩]) := ⟨hw, by rw [hz]; exact h.2.1, fun q hq => by
  rcases List.mem_append.mp hq with h1 | h1
  · exact h.2.2 q h1
  · rw [List.mem_singleton.mp h1]; exact Nat.le_add_right _ _⟩
theorem vv_i (M : Mem) (j k : Nat) : vv 0 M j k = .int (mi M j k) := rfl
theorem vv_wi {M : Mem} {j k : Nat} {v : Int32} (t i q : Nat) (h : i ≠ j) : vv t (wi M j k v) i q = vv t M i q := by
  match t with
  | 0 => show Value.int (u2 (mi M) j k v i q) = _; rw [u2_n h]; rfl
  | 1 => rfl
  | t + 2 => rfl
theorem vv_wl {M : Mem} {j k : Nat} {v : Int64} (t i q : Nat) (h : i ≠ j) : vv t (wl M j k v) i q = vv t M i q := by
  match t with
  | 0 => rfl
  | 1 => show Value.long (u2 (ml M) j k v i q) = _; rw [u2_n h]; rfl
  | t + 2 => rfl
theorem vv_wr {M : Mem} {j k : Nat} {v : Option Nat} (t i q : Nat) (h : i ≠ j) : vv t (wr M j k v) i q = vv t M i q := by
  match t with
  | 0 => rfl
  | 1 => rfl
  | t + 2 => show rv (u2 (mr M) j k v i q) = _; rw [u2_n h]; rfl
/-- place q of the written cell -/
theorem vv_wi_s {M : Mem} {j k : Nat} {v : Int32} (q : Nat) : vv 0 (wi M j k v) j q = if q = k then .int v else vv 0 M j q := by
  show Value.int (u2 (mi M) j k v j q) = _
  rw [u2_s]; unfold u1; split <;> rfl
theorem vv_wl_s {M : Mem} {j k : Nat} {v : Int64} (q : Nat) : vv 1 (wl M j k v) j q = if q = k then .long v else vv 1 M j q := by
  show Value.long (u2 (ml M) j k v j q) = _
  rw [u2_s]; unfold u1; split <;> rfl
theorem vv_wr_s {M : Mem} {j k : Nat} {v : Option Nat} (q : Nat) : vv 2 (wr M j k v) j q = if q = k then rv v else vv 2 M j q := by
  show rv (u2 (mr M) j k v j q) = _
  rw [u2_s]; unfold u1; split <;> rfl
theorem vv_wi_o {M : Mem} {j k : Nat} {v : Int32} {t : Nat} (ht : t ≠ 0) (i q : Nat) : vv t (wi M j k v) i q = vv t M i q := by
  match t with
  | 0 => exact absurd rfl ht
  | 1 => rfl
  | t + 2 => rfl
theorem vv_wl_o {M : Mem} {j k : Nat} {v : Int64} {t : Nat} (ht : t ≠ 1) (i q : Nat) : vv t (wl M j k v) i q = vv t M i q := by
  match t with
  | 0 => rfl
  | 1 => exact absurd rfl ht
  | t + 2 => rfl
theorem vv_wr_o {M : Mem} {j k : Nat} {v : Option Nat} {t : Nat} (ht : t < 2) (i q : Nat) : vv t (wr M j k v) i q = vv t M i q := by
  match t with
  | 0 => rfl
  | 1 => rfl
  | t + 2 => omega
section EXH
variable {d : Nat} {y : Mth} {bc bs pc : Nat} {lo : List (Option Value)} {st : List Value} {M : Mem} {Φ : Option Value → Mem → Prop}
theorem ex_get {index j ci k N t : Nat} (hd : decode y.2.1 pc = .ok (.getfield index, 3)) (hL : LF y.1.cls index ci k t) (hs : (sh M)[j]? = some (ci, N)) (kk : Ex d y bc bs (pc + 3) lo (vv t M j k :: st) M Φ) : Ex d y bc bs pc lo (.ref j :: st) M Φ := fun E p e R s m args below meth cc H locs cells slots ls ok hp hc hn hl => by
  obtain ⟨C, T, N9, ty, ⟨c1, c2, c3, c4, c5⟩, l1, l2, l3⟩ := hL
  obtain ⟨r, q0, q00, cell, q1, q2, q3, q4⟩ := hp.1.obj hs c2
  have hr : r = (C, T, N9) := Option.some.inj (q0.symm.trans c1)
  subst hr
  cases q00
  obtain ⟨hS, hfc, kC, hkC, hkind⟩ := ok.2.2.2.2.2.2.2.2.1.1.1 ci _ c1
  obtain ⟨cf, kf, fi, f, hi, hsl⟩ := hS k l1
  show W _ _ _ _ _ _ _ _ _ _ _ _ _ _ _ (F0 m pc ls (Value.ref (ad E j) :: _))
  rw [hp.1.adr hs]
  refine W.getf ok.1 ok.2.1 ok.2.2.2.2.1 (ok.2.2.2.2.2.1 _ l2) hi (u_facts hfc hkC (u_lays ok.2.2.2.2.2.1 c3 l1) hi).1 q1 (by rw [q3]; exact fun h => by cases h) (v := cv E (vv t M j k)) (by rw [hsl, q4 k l1]; show some (cv E (vv (ftc ci k) M j k)) = _; rw [l3]) rfl rfl hd ?_
  exact kk E p e R s m args below meth cc H locs cells slots ls ok hp hc hn hl
theorem ex_getI {index j ci k N : Nat} (hd : decode y.2.1 pc = .ok (.getfield index, 3)) (hL : LF y.1.cls index ci k 0) (hs : (sh M)[j]? = some (ci, N)) (kk : Ex d y bc bs (pc + 3) lo (.int (mi M j k) :: st) M Φ) : Ex d y bc bs pc lo (.ref j :: st) M Φ := ex_get hd hL hs kk
theorem ex_getR {index j ci k N a : Nat} (hd : decode y.2.1 pc = .ok (.getfield index, 3)) (hL : LF y.1.cls index ci k 2) (hs : (sh M)[j]? = some (ci, N)) (hr : mr M j k = some a) (kk : Ex d y bc bs (pc + 3) lo (.ref a :: st) M Φ) : Ex d y bc bs pc lo (.ref j :: st) M Φ := ex_get hd hL hs (by show Ex d y bc bs (pc + 3) lo (rv (mr M j k) :: st) M Φ; rw [hr]; exact kk)
theorem ex_getN {index j ci k N : Nat} (hd : decode y.2.1 pc = .ok (.getfield index, 3)) (hL : LF y.1.cls index ci k 2) (hs : (sh M)[j]? = some (ci, N)) (hr : mr M j k = none) (kk : Ex d y bc bs (pc + 3) lo (.null :: st) M Φ) : Ex d y bc bs pc lo (.ref j :: st) M Φ := ex_get hd hL hs (by show Ex d y bc bs (pc + 3) lo (rv (mr M j k) :: st) M Φ; rw [hr]; exact kk)
theorem narrow_cv {E : EV} {ty : FieldType} {v : Value} (h : narrow ty v = v) : narrow ty (cv E v) = cv E v := by
  cases v <;> first | exact h | (cases ty <;> first | rfl | cases h)
theorem fits_cv {E : EV} {ty : FieldType} {v : Value} (h : fits ty v = true) : fits ty (cv E v) = true := by
  cases v <;> first | exact h | (cases ty <;> first | rfl | cases h)
/-- a field is written: M2 is M with v at place k of cell j -/
theorem ex_put {index j ci k N : Nat} {fin : Bool} {v : Value} {M2 : Mem} (hd : decode y.2.1 pc = .ok (.putfield index, 3)) (hL : LPf y.1.cls index ci k fin v) (hf : fin = true → y.1.name = "<init>") (hs : (sh M)[j]? = some (ci, N)) (h1 : sh M2 = sh M) (h2 : sc M2 = sc M) (h3 : ∀ t i q, i ≠ j → vv t M2 i q = vv t M i q) (h4 : ∀ q, vv (ftc ci q) M2 j q = if q = k then v else vv (ftc ci q) M j q)
    (kk : Ex d y bc bs (pc + 3) lo st M2 Φ) : Ex d y bc bs pc lo (v :: .ref j :: st) M Φ := fun E p e R s m args below meth cc H locs cells slots ls ok hp hc hn hl => by
  obtain ⟨C, T, N9, ty, ⟨c1, c2, c3, c4, c5⟩, l1, l2, l3, l4, l5, l6⟩ := hL
  obtain ⟨r, q0, q00, cell, q1, q2, q3, q4⟩ := hp.1.obj hs c2
  have hr : r = (C, T, N9) := Option.some.inj (q0.symm.trans c1)
  subst hr
  cases q00
  have hKn := ok.2.2.2.2.2.2.2.2.1.1
  have hts := ok.2.2.2.2.2.1
  obtain ⟨hS, hfc, kC, hkC, hkind⟩ := hKn.1 ci _ c1
  obtain ⟨cf, kf, fi, f, hi, hsl⟩ := hS k l1
  have hap := va_apart (own := y.1.cls) hts c3 ty c5 c4 hKn c1
  have hlay := hts _ (c3 _ (u_in_lay l1))
  unfold u_lay at hlay
  have hst := (u_facts hfc hkC (u_lays hts c3 l1) hi).1
  show W _ _ _ _ _ _ _ _ _ _ _ _ _ _ _ (F0 m pc ls (cv E v :: Value.ref (ad E j) :: _))
  rw [hp.1.adr hs]
  have fin9 : ∀ H' : Heap, H'[eZ E + j]? = some (cell.setSlot f.slot (cv E v)) → H'.size = H.size → (∀ q, q ≠ eZ E + j → H'[q]? = H[q]?) → W p (eL E) e R s m args below meth cc H' (locs ++ [⟨eZ E + j, f.slot⟩]) cells slots (MQ below (QF E Φ) args s R.cells R.slots (fun q => eZ E ≤ q)) (F0 m (pc + 3) ls (st.map (cv E))) := by
    intro H' e1 e2 e3
    refine kk E p e R s m args below meth cc H' _ cells slots ls ok (hp.set e2 (hp.1.set hs h1 h2 e2 e3 h3 ?_)) hc hn hl
    unfold cellOk
    rw [if_pos c2]
    refine ⟨_, c1, rfl, ?_⟩
    rw [hsl] at e1
    refine t_OB.to (V := updV (fun k => cv E (vv (ftc ci k) M j k)) k (cv E v)) ⟨_, e1, q2, q3, t_set q4 hap l1 _⟩ (fun q _ => ?_)
    dsimp only [updV]
    rw [h4 q]
    split <;> rfl
  cases fin with
  | false =>
    rw [if_neg (by rw [l3]; decide)] at hlay
    have h6 := u_store hfc hkC hkind hlay hi (c5 k l1) (narrow_cv (E := E) l5) (fits_cv (E := E) l6)
    exact W.putK ok.1 ok.2.1 (f := f) ⟨ok.2.2.2.2.1, hts _ l2, ⟨_, _, _, hi⟩, hst⟩ (by rw [q2]; exact h6) q1 q3 (by rw [hsl]; exact k2_hasslot (q4 k l1)) rfl rfl hd fin9
  | true =>
    rw [if_pos l3] at hlay
    have hcf : m.cls = cf := by
      obtain ⟨_, _, c', _, _, _, -, -, hf', -, -, -, hown2, -⟩ := Cond.laysFinal_spec hlay
      have e1 : c' = cf := by have := hi.symm.trans hf'; simp at this; exact this.1.symm
      rw [l4 rfl] at hown2
      rw [← e1]; exact Option.some.inj (ok.2.2.2.2.1.symm.trans hown2)
    have h6 := u_fits hfc hkC hkind (Or.inr hlay) hi (c5 k l1) (narrow_cv (E := E) l5) (fits_cv (E := E) l6)
    exact W.putFinK ok.1 ok.2.1 ok.2.2.2.2.1 (hts _ l2) hi hst hcf (ok.2.2.2.2.2.2.2.1 (hf rfl)) (by rw [q2]; exact h6) q1 q3 (by rw [hsl]; exact k2_hasslot (q4 k l1)) rfl rfl hd fin9
theorem ex_putI {index j ci k N : Nat} {fin : Bool} {v : Int32} (hd : decode y.2.1 pc = .ok (.putfield index, 3)) (hL : LPf y.1.cls index ci k fin (.int v)) (ht : ftc ci k = 0) (hf : fin = true → y.1.name = "<init>") (hs : (sh M)[j]? = some (ci, N)) (kk : Ex d y bc bs (pc + 3) lo st (wi M j k v) Φ) : Ex d y bc bs pc lo (.int v :: .ref j :: st) M Φ := by
  refine ex_put (M2 := wi M j k v) hd hL hf hs rfl rfl (fun t i q h => vv_wi t i q h) (fun q => ?_) kk
  by_cases hz : ftc ci q = 0
  · rw [hz, vv_wi_s]
  · rw [vv_wi_o hz, if_neg (fun h => hz (by rw [h]; exact ht))]
theorem ex_putR {index j ci k N : Nat} {fin : Bool} {v : Option Nat} (hd : decode y.2.1 pc = .ok (.putfield index, 3)) (hL : LPf y.1.cls index ci k fin (rv v)) (ht : ftc ci k = 2) (hf : fin = true → y.1.name = "<init>") (hs : (sh M)[j]? = some (ci, N)) (kk : Ex d y bc bs (pc + 3) lo st (wr M j k v) Φ) : Ex d y bc bs pc lo (rv v :: .ref j :: st) M Φ := by
  refine ex_put (M2 := wr M j k v) hd hL hf hs rfl rfl (fun t i q h => vv_wr t i q h) (fun q => ?_) kk
  by_cases hz : ftc ci q = 2
  · rw [hz, vv_wr_s]
  · have h2 : ftc ci q < 2 := by
      have : ftc ci q ≤ 2 := by unfold ftc; split; split <;> omega
      omega
    rw [vv_wr_o h2, if_neg (fun h => hz (by rw [h]; exact ht))]
/-- arrays -/
theorem ex_alen {j ci N : Nat} (hd : decode y.2.1 pc = .ok (.arraylength, 1)) (hs : (sh M)[j]? = some (ci, N)) (hk : 100 ≤ ci ∧ ci ≤ 106) (kk : Ex d y bc bs (pc + 1) lo (.int (nI N) :: st) M Φ) : Ex d y bc bs pc lo (.ref j :: st) M Φ := fun E p e R s m args below meth cc H locs cells slots ls ok hp hc hn hl => by
  show W _ _ _ _ _ _ _ _ _ _ _ _ _ _ _ (F0 m pc ls (Value.ref (ad E j) :: _))
  rw [hp.1.adr hs]
  refine W.alen (n := nI N) ok.1 ok.2.1 (hp.1.arr hs (by omega)) ((ok.2.2.2.2.2.2.2.2.1.2.1 ci hk.1 hk.2).1 N _) (by rw [arrV_size]; rfl) rfl rfl hd ?_
  exact kk E p e R s m args below meth cc H locs cells slots ls ok hp hc hn hl
theorem ex_iald {j N : Nat} {i : Int32} (hd : decode y.2.1 pc = .ok (.iaload, 1)) (hs : (sh M)[j]? = some (100, N)) (hi : vp_in i N) (kk : Ex d y bc bs (pc + 1) lo (.int (mi M j i.toNatClampNeg) :: st) M Φ) : Ex d y bc bs pc lo (.int i :: .ref j :: st) M Φ := fun E p e R s m args below meth cc H locs cells slots ls ok hp hc hn hl => by
  have hlt : i.toNatClampNeg < N := Nat.not_le.mp fun q => hi (Or.inr q)
  show W _ _ _ _ _ _ _ _ _ _ _ _ _ _ _ (F0 m pc ls (Value.int i :: Value.ref (ad E j) :: _))
  rw [hp.1.adr hs]
  refine W.iald ok.1 ok.2.1 (hp.1.arr hs (by omega)) ((ok.2.2.2.2.2.2.2.2.1.2.1 100 (by omega) (by omega)).1 N _) (fun q => by cases q) (by rw [arrV_size]; exact hi) (arrV_read _ _ hlt) rfl rfl hd ?_
  exact kk E p e R s m args below meth cc H locs cells slots ls ok hp hc hn hl
theorem ex_zald {j N : Nat} {i : Int32} (hd : decode y.2.1 pc = .ok (.baload, 1)) (hs : (sh M)[j]? = some (101, N)) (hi : vp_in i N) (kk : Ex d y bc bs (pc + 1) lo (.int (mi M j i.toNatClampNeg) :: st) M Φ) : Ex d y bc bs pc lo (.int i :: .ref j :: st) M Φ := fun E p e R s m args below meth cc H locs cells slots ls ok hp hc hn hl => by
  have hlt : i.toNatClampNeg < N := Nat.not_le.mp fun q => hi (Or.inr q)
  show W _ _ _ _ _ _ _ _ _ _ _ _ _ _ _ (F0 m pc ls (Value.int i :: Value.ref (ad E j) :: _))
  rw [hp.1.adr hs]
  refine W.zald ok.1 ok.2.1 (hp.1.arr hs (by omega)) ((ok.2.2.2.2.2.2.2.2.1.2.1 101 (by omega) (by omega)).1 N _) (fun q => by cases q) (by rw [arrV_size]; exact hi) (arrV_read _ _ hlt) rfl rfl hd ?_
  exact kk E p e R s m args below meth cc H locs cells slots ls ok hp hc hn hl
theorem ex_lald {j N : Nat} {i : Int32} (hd : decode y.2.1 pc = .ok (.laload, 1)) (hs : (sh M)[j]? = some (102, N)) (hi : vp_in i N) (kk : Ex d y bc bs (pc + 1) lo (.long (ml M j i.toNatClampNeg) :: st) M Φ) : Ex d y bc bs pc lo (.int i :: .ref j :: st) M Φ := fun E p e R s m args below meth cc H locs cells slots ls ok hp hc hn hl => by
  have hlt : i.toNatClampNeg < N := Nat.not_le.mp fun q => hi (Or.inr q)
  show W _ _ _ _ _ _ _ _ _ _ _ _ _ _ _ (F0 m pc ls (Value.int i :: Value.ref (ad E j) :: _))
  rw [hp.1.adr hs]
  refine W.lald ok.1 ok.2.1 (hp.1.arr hs (by omega)) ((ok.2.2.2.2.2.2.2.2.1.2.1 102 (by omega) (by omega)).1 N _) (fun q => by cases q) (by rw [arrV_size]; exact hi) (arrV_read _ _ hlt) rfl rfl hd ?_
  exact kk E p e R s m args below meth cc H locs cells slots ls ok hp hc hn hl
theorem ex_aald {j ci N : Nat} {i : Int32} (hd : decode y.2.1 pc = .ok (.aaload, 1)) (hs : (sh M)[j]? = some (ci, N)) (hk : 103 ≤ ci ∧ ci ≤ 106) (hi : vp_in i N) (kk : Ex d y bc bs (pc + 1) lo (rv (mr M j i.toNatClampNeg) :: st) M Φ) : Ex d y bc bs pc lo (.int i :: .ref j :: st) M Φ := fun E p e R s m args below meth cc H locs cells slots ls ok hp hc hn hl => by
  have hlt : i.toNatClampNeg < N := Nat.not_le.mp fun q => hi (Or.inr q)
  show W _ _ _ _ _ _ _ _ _ _ _ _ _ _ _ (F0 m pc ls (Value.int i :: Value.ref (ad E j) :: _))
  rw [hp.1.adr hs]
  have hty : (aty ci).isReference = true := by
    rcases (show ci = 103 ∨ ci = 104 ∨ ci = 105 ∨ ci = 106 by omega) with rfl | rfl | rfl | rfl <;> rfl
  have hak : akt ci = 2 := by
    rcases (show ci = 103 ∨ ci = 104 ∨ ci = 105 ∨ ci = 106 by omega) with rfl | rfl | rfl | rfl <;> rfl
  have h1 := hp.1.arr hs (by omega)
  rw [hak] at h1
  refine W.aald ok.1 ok.2.1 h1 ((ok.2.2.2.2.2.2.2.2.1.2.1 ci (by omega) (by omega)).1 N _) hty (fun q => by cases q) (by rw [arrV_size]; exact hi) (arrV_read _ _ hlt) rfl rfl hd ?_
  exact kk E p e R s m args below meth cc H locs cells slots ls ok hp hc hn hl
theorem ex_aaldR {j ci N a : Nat} {i : Int32} (hd : decode y.2.1 pc = .ok (.aaload, 1)) (hs : (sh M)[j]? = some (ci, N)) (hk : 103 ≤ ci ∧ ci ≤ 106) (hi : vp_in i N) (hr : mr M j i.toNatClampNeg = some a) (kk : Ex d y bc bs (pc + 1) lo (.ref a :: st) M Φ) : Ex d y bc bs pc lo (.int i :: .ref j :: st) M Φ := ex_aald hd hs hk hi (by rw [hr]; exact kk)
theorem ex_iast {j N : Nat} {i : Int32} {v : Int32} (hd : decode y.2.1 pc = .ok (.iastore, 1)) (hs : (sh M)[j]? = some (100, N)) (hi : vp_in i N) (kk : Ex d y bc bs (pc + 1) lo st (wi M j i.toNatClampNeg v) Φ) : Ex d y bc bs pc lo (.int v :: .int i :: .ref j :: st) M Φ := fun E p e R s m args below meth cc H locs cells slots ls ok hp hc hn hl => by
  have hlt : i.toNatClampNeg < N := Nat.not_le.mp fun q => hi (Or.inr q)
  show W _ _ _ _ _ _ _ _ _ _ _ _ _ _ _ (F0 m pc ls (Value.int v :: Value.int i :: Value.ref (ad E j) :: _))
  rw [hp.1.adr hs]
  refine W.iast ok.1 ok.2.1 (hp.1.arr hs (by omega)) ((ok.2.2.2.2.2.2.2.2.1.2.1 100 (by omega) (by omega)).1 N _) (fun q => by cases q) (by rw [arrV_size]; exact hi) rfl rfl hd (fun H' e1 e2 e3 => ?_)
  refine kk E p e R s m args below meth cc H' _ cells slots ls ok (hp.set e2 (hp.1.set hs rfl rfl e2 e3 (fun t q k h => vv_wi t q k h) ?_)) hc hn hl
  unfold cellOk
  rw [if_neg (show ¬ (100 : Nat) < 100 by decide)]
  rw [e1, arrV_store]
  congr 2
  funext q
  show updV _ _ _ q = cv E (vv 0 (wi M j _ v) j q)
  rw [vv_wi_s]
  unfold updV
  split <;> rfl
theorem ex_zast {j N : Nat} {i : Int32} {v : Int32} (hd : decode y.2.1 pc = .ok (.bastore, 1)) (hs : (sh M)[j]? = some (101, N)) (hi : vp_in i N) (hz : narrow .boolean (.int v) = .int v) (kk : Ex d y bc bs (pc + 1) lo st (wi M j i.toNatClampNeg v) Φ) : Ex d y bc bs pc lo (.int v :: .int i :: .ref j :: st) M Φ := fun E p e R s m args below meth cc H locs cells slots ls ok hp hc hn hl => by
  have hlt : i.toNatClampNeg < N := Nat.not_le.mp fun q => hi (Or.inr q)
  show W _ _ _ _ _ _ _ _ _ _ _ _ _ _ _ (F0 m pc ls (Value.int v :: Value.int i :: Value.ref (ad E j) :: _))
  rw [hp.1.adr hs]
  refine W.zast ok.1 ok.2.1 (hp.1.arr hs (by omega)) ((ok.2.2.2.2.2.2.2.2.1.2.1 101 (by omega) (by omega)).1 N _) (fun q => by cases q) (by rw [arrV_size]; exact hi) rfl rfl hd (fun H' e1 e2 e3 => ?_)
  refine kk E p e R s m args below meth cc H' _ cells slots ls ok (hp.set e2 (hp.1.set hs rfl rfl e2 e3 (fun t q k h => vv_wi t q k h) ?_)) hc hn hl
  unfold cellOk
  rw [if_neg (show ¬ (101 : Nat) < 100 by decide)]
  rw [hz] at e1
  rw [e1, arrV_store]
  congr 2
  funext q
  show updV _ _ _ q = cv E (vv 0 (wi M j _ v) j q)
  rw [vv_wi_s]
  unfold updV
  split <;> rfl
theorem ex_last {j N : Nat} {i : Int32} {v : Int64} (hd : decode y.2.1 pc = .ok (.lastore, 1)) (hs : (sh M)[j]? = some (102, N)) (hi : vp_in i N) (kk : Ex d y bc bs (pc + 1) lo st (wl M j i.toNatClampNeg v) Φ) : Ex d y bc bs pc lo (.long v :: .int i :: .ref j :: st) M Φ := fun E p e R s m args below meth cc H locs cells slots ls ok hp hc hn hl => by
  have hlt : i.toNatClampNeg < N := Nat.not_le.mp fun q => hi (Or.inr q)
  show W _ _ _ _ _ _ _ _ _ _ _ _ _ _ _ (F0 m pc ls (Value.long v :: Value.int i :: Value.ref (ad E j) :: _))
  rw [hp.1.adr hs]
  refine W.last ok.1 ok.2.1 (hp.1.arr hs (by omega)) ((ok.2.2.2.2.2.2.2.2.1.2.1 102 (by omega) (by omega)).1 N _) (fun q => by cases q) (by rw [arrV_size]; exact hi) rfl rfl hd (fun H' e1 e2 e3 => ?_)
  refine kk E p e R s m args below meth cc H' _ cells slots ls ok (hp.set e2 (hp.1.set hs rfl rfl e2 e3 (fun t q k h => vv_wl t q k h) ?_)) hc hn hl
  unfold cellOk
  rw [if_neg (show ¬ (102 : Nat) < 100 by decide)]
  rw [e1, arrV_store]
  congr 2
  funext q
  show updV _ _ _ q = cv E (vv 1 (wl M j _ v) j q)
  rw [vv_wl_s]
  unfold updV
  split <;> rfl
theorem ex_aast {j ci N v : Nat} {i : Int32} {cv9 n9 : Nat} (hd : decode y.2.1 pc = .ok (.aastore, 1)) (hs : (sh M)[j]? = some (ci, N)) (hi : vp_in i N) (hv : (sh M)[v]? = some (cv9, n9)) (hk : (ci = 104 ∧ cv9 = 7) ∨ (ci = 105 ∧ cv9 = 3) ∨ (ci = 106 ∧ cv9 = 8)) (kk : Ex d y bc bs (pc + 1) lo st (wr M j i.toNatClampNeg (some v)) Φ) : Ex d y bc bs pc lo (.ref v :: .int i :: .ref j :: st) M Φ := fun E p e R s m args below meth cc H locs cells slots ls ok hp hc hn hl => by
  have hlt : i.toNatClampNeg < N := Nat.not_le.mp fun q => hi (Or.inr q)
  show W _ _ _ _ _ _ _ _ _ _ _ _ _ _ _ (F0 m pc ls (Value.ref (ad E v) :: Value.int i :: Value.ref (ad E j) :: _))
  rw [hp.1.adr hs, hp.1.adr hv]
  have hc9 : cv9 < 100 := by omega
  have hak : akt ci = 2 := by rcases hk with ⟨rfl, -⟩ | ⟨rfl, -⟩ | ⟨rfl, -⟩ <;> rfl
  have h1 := hp.1.arr hs (by omega)
  rw [hak] at h1
  obtain ⟨r, q0, q00, cell, q1, q2, q3, q4⟩ := hp.1.obj hv hc9
  obtain ⟨hS, hfc, kC, hkC, hkind⟩ := ok.2.2.2.2.2.2.2.2.1.1.1 cv9 r q0
  have hra := (ok.2.2.2.2.2.2.2.2.1.2.1 ci (by omega) (by omega)).2
  have key : ∃ (kA : Class) (comp : ClassId) (C : String), s.vm.classes[eT E ci]? = some kA ∧ kA.kind = .array comp (.object C) ∧ s.vm.findClass C = some comp ∧ r.1 = C := by
    rcases hk with ⟨rfl, rfl⟩ | ⟨rfl, rfl⟩ | ⟨rfl, rfl⟩ <;> (cases q0; obtain ⟨kA, comp, a1, a2, a3, a4⟩ := hra; exact ⟨kA, comp, _, a1, a2, a3, rfl⟩)
  obtain ⟨kA, comp, C, a1, a2, a3, a4⟩ := key
  subst a4
  have hcomp : comp = (eD E).1 cv9 := Option.some.inj (a3.symm.trans hfc)
  subst hcomp
  refine W.aast ok.1 ok.2.1 h1 (fun q => (by intro h; cases h)) (fun q => by cases q) a1 a2 rfl hkC ⟨fun q => hi (Or.inl q), by rw [arrV_size]; exact hlt⟩ q1 (fun q => by rw [q3]; intro h; cases h) (by rw [q2]; exact hkC) (by rw [q2]; exact va_asg _ _) rfl rfl hd (fun H' e1 e2 e3 => ?_)
  refine kk E p e R s m args below meth cc H' _ cells slots ls ok (hp.set e2 (hp.1.set hs rfl rfl e2 e3 (fun t q k h => vv_wr t q k h) ?_)) hc hn hl
  unfold cellOk
  rw [if_neg (by show ¬ ci < 100; omega)]
  rw [e1, arrV_store]
  congr 2
  funext q
  rw [hak]
  show updV _ _ _ q = cv E (vv 2 (wr M j _ (some v)) j q)
  rw [vv_wr_s]
  unfold updV
  split
  · show _ = Value.ref (ad E v)
    rw [hp.1.adr hv]
  · rfl
end EXH
end
section
/-! contracts, and the rules of Ex for calls -/
theorem gtbl_good {w : Cond} (h : w ∈ gtbl) : (w.onTables && w.keeps) = true ∨ ∃ ty, w = .arrayClass ty := good_of_word (List.mem_filter.mp h).2
def wsY (y : Mth) : List Cond := Cond.code y.1 y.2.1 y.2.2.1 y.2.2.2 :: gtbl
theorem good_ws {y : Mth} {n : Nat} (h : MF y n) : GoodIn gtbl (wsY y) := by
  intro w hw
  rcases List.mem_cons.mp hw with rfl | hw
  · exact ⟨h.1, gtbl_good h.1⟩
  · exact ⟨hw, gtbl_good hw⟩
def rmY (d mc ms : Nat) : Room := { frames := d, cells := mc, slots := ms, locals := 64 * d }
def PF (E : EV) (as : List Value) (M : Mem) : Array Value → State → Prop := fun v U => v = (as.map (cv E)).toArray ∧ EnvOK E U ∧ Wd E M U.heap
def Con (d : Nat) (y : Mth) (mc ms : Nat) (as : List Value) (M : Mem) (Φ : Option Value → Mem → Prop) : Prop :=
  ∀ E : EV, Met (eL E) y.1 (wsY y) (rmY d mc ms) (PF E as M) (QF E Φ) mc ms (fun q => eZ E ≤ q)
def en0 : List Value → List (Option Value)
  | [] => []
  | .long x :: vs => some (.long x) :: none :: en0 vs
  | .double x :: vs => some (.double x) :: none :: en0 vs
  | v :: vs => some v :: en0 vs
theorem en0_at (E : EV) : ∀ (as : List Value) (i b : Nat) (v : Value), (en0 as)[i]? = some (some v) → (i + b, cv E v) ∈ lv_args b (as.map (cv E)) := by
  intro as
  induction as with
  | nil => intro i b v h; simp [en0] at h
  | cons w ws ih =>
    intro i b v h
    have one : ∀ (u : Value), u.category = 1 → en0 (u :: ws) = some u :: en0 ws → (en0 (u :: ws))[i]? = some (some v) → (i + b, cv E v) ∈ lv_args b ((u :: ws).map (cv E)) := by
      intro u hu e h
      rw [e] at h
      have e2 : lv_args b ((u :: ws).map (cv E)) = (b, cv E u) :: lv_args (b + 1) (ws.map (cv E)) := by
        have : (cv E u).category = 1 := (cv_cat E u).trans hu
        simp [lv_args, this]
      rw [e2]
      cases i with
      | zero =>
        simp at h
        subst h
        simp
      | succ i =>
        have := ih i (b + 1) v (by simpa using h)
        rw [show i + 1 + b = i + (b + 1) by omega]
        exact List.mem_cons_of_mem _ this
    have two : ∀ (u : Value), u.category = 2 → en0 (u :: ws) = some u :: none :: en0 ws → (en0 (u :: ws))[i]? = some (some v) → (i + b, cv E v) ∈ lv_args b ((u :: ws).map (cv E)) := by
      intro u hu e h
      rw [e] at h
      have e2 : lv_args b ((u :: ws).map (cv E)) = (b, cv E u) :: lv_args (b + 2) (ws.map (cv E)) := by
        have : (cv E u).category = 2 := (cv_cat E u).trans hu
        simp [lv_args, this]
      rw [e2]
      match i with
      | 0 =>
        simp at h
        subst h
        simp
      | 1 => simp at h
      | i + 2 =>
        have := ih i (b + 2) v (by simpa using h)
        rw [show i + 2 + b = i + (b + 2) by omega]
        exact List.mem_cons_of_mem _ this
    cases w with
    | long x => exact two _ rfl rfl h
    | double x => exact two _ rfl rfl h
    | _ => exact one _ rfl rfl h
theorem en0_len (E : EV) : ∀ (as : List Value), (lg_sl (as.map (cv E))).length = (en0 as).length
  | [] => rfl
  | v :: vs => by
    have ih := en0_len E vs
    have e : lg_sl ((v :: vs).map (cv E)) = (if (cv E v).category = 2 then [.val (cv E v), .second] else [.val (cv E v)]) ++ lg_sl (vs.map (cv E)) := by
      simp [lg_sl, List.flatMap_cons]
    rw [e, List.length_append, ih, cv_cat]
    cases v <;> simp [Value.category, en0] <;> omega
theorem Con.of {d : Nat} {y : Mth} {mc ms n : Nat} {as : List Value} {lo : List (Option Value)} {M : Mem} {Φ : Option Value → Mem → Prop} (hF : MF y n) (hlo : en0 as = lo) (hn : lo.length ≤ y.2.2.1) (h : Ex d y mc ms 0 lo [] M Φ) : Con d y mc ms as M Φ := by
  intro E
  refine Met.ofW (cc := y.2.1) (maxL := y.2.2.1) (ret := y.2.2.2) hF.2.2.2.2.1 rfl ?_
  intro p e s m args below meth c s₁ B hml hv
  obtain ⟨rfl, hE, hW⟩ := hv
  subst hlo
  have hts := atoms_spec (ws := wsY y) B.pre
  rw [lg_entry_eq]
  have hl := lv_entry (as.map (cv E)) (n := y.2.2.1) (by rw [en0_len]; exact hn)
  refine h E p e _ s m _ below meth c s.heap [] 0 0 _ ⟨B.exec, B.bytes, B.returns, hml, findClass_of_methodNamed B.named, fun w hw => hts w (List.mem_cons_of_mem _ hw), B.notSynchronized, (fun q => (name_of_methodNamed B.named B.method).1.trans q), hE, Nat.le_refl _, Nat.le_refl _, by rw [hW.1]; exact Nat.le_add_right _ _⟩ ⟨hW, Nat.le_refl _, fun q hq => by cases hq⟩ (by rw [Nat.zero_add]; exact Nat.le_refl _) (by rw [Nat.zero_add]; exact Nat.le_refl _) ⟨hl.1, hl.2.1, fun i v hi => ?_⟩
  exact hl.2.2 _ (by have := en0_at E as i 0 v hi; simpa using this)
theorem Con.mono {d : Nat} {y : Mth} {mc ms : Nat} {as : List Value} {M : Mem} {Φ Ψ : Option Value → Mem → Prop} (h : Con d y mc ms as M Φ) (hi : ∀ o M2, Φ o M2 → Ψ o M2) : Con d y mc ms as M Ψ := by
  intro E p e a1 a2 a3 s m args below b1 b2 b3 b4
  obtain ⟨t, o, h1, h2, h3, ⟨⟨r, M2, q1, q2, q3⟩, h4⟩⟩ := h E p e a1 a2 a3 s m args below b1 b2 b3 b4
  exact ⟨t, o, h1, h2, h3, ⟨⟨r, M2, q1, hi _ _ q2, q3⟩, h4⟩⟩
theorem PF_blind (E : EV) (as : List Value) (M : Mem) : FrameBlind (PF E as M) := fun a U g mk q => ⟨q.1, EnvOK.same (u := U) (U := U.calling g mk a) rfl q.2.1, q.2.2⟩
section EXC
variable {d : Nat} {y : Mth} {bc bs pc : Nat} {lo : List (Option Value)} {st : List Value} {M : Mem} {Φ : Option Value → Mem → Prop}
/-- behind a call -/
theorem ex_back {E : EV} {p : Program} {e : Env} {R : Room} {s : State} {m : MethodId} {args a : Array Value} {below : List Frame} {meth : Method} {cc : Code} {H : Heap} {locs : List Loc} {cells slots mc ms : Nat} {ls : Array Slot} {st0 : List Value} {rest : List Value}
    (hr : va_Run p (eL E) e R s m args below meth cc H locs cells slots mc ms (F0 m pc ls st0) (rest.map (cv E)) (QF E (fun o M2 => Ex d y (bc - mc) (bs - ms) (pc + 3) lo (o.toList ++ rest) M2 Φ) a) (fun q => eZ E ≤ q))
    (hm : mc ≤ bc ∧ ms ≤ bs) (ok : Ok E y d p R s m args meth cc) (hp : Hp E M s H locs) (hc : cells + bc ≤ R.cells) (hn : slots + bs ≤ R.slots) (hl : LH E ls y.2.2.1 lo) :
    W p (eL E) e R s m args below meth cc H locs cells slots (MQ below (QF E Φ) args s R.cells R.slots (fun q => eZ E ≤ q)) (F0 m pc ls st0) := by
  intro T hT X
  obtain ⟨v, st₀, t, T', L, h0, X', hL, e1, e2, ⟨r, M2, hv, hp2, hw, hz⟩, st9⟩ := hr T hT X
  have hv2 : v = r.map (cv E) := by
    have := congrArg (fun o => match o with | Outcome.returned w => w | _ => none) hv
    exact this
  subst hv2
  have hH : Hp E M2 s T'.heap (locs ++ L) := ⟨by rw [e1]; exact hw, by rw [e1]; rw [h0] at hz; exact Nat.le_trans hp.2.1 hz, fun q hq => by
    rcases List.mem_append.mp hq with h | h
    · exact hp.2.2 q h
    · exact hL q h⟩
  obtain ⟨t2, a1, b1⟩ := hp2 E p e R s m args below meth cc T'.heap (locs ++ L) (cells + mc) (slots + ms) ls ok hH (by omega) (by omega) hl T' rfl X'
  refine ⟨t2, st9 t2 ?_, b1⟩
  have e9 : (r.map (cv E)).toList ++ rest.map (cv E) = (r.toList ++ rest).map (cv E) := by cases r <;> simp
  rw [e9]
  exact a1
theorem cat_sum (E : EV) (l : List Value) : ((l.map (cv E)).map fun v => v.category).sum = (l.map fun v => v.category).sum := by
  induction l with
  | nil => rfl
  | cons a l ih =>
    rw [List.map_cons, List.map_cons, List.sum_cons, ih, List.map_cons, List.sum_cons, cv_cat]
theorem rm_ok {d d2 mc ms : Nat} {y2 : Mth} {n : Nat} {R : Room} (hF : MF y2 n) (hd2 : d2 < d) (h1 : d ≤ R.frames) (h2 : 64 * d ≤ R.locals) : (rmY d2 mc ms).frames + 1 ≤ R.frames ∧ 8 + (y2.2.2.1 + 11) + (rmY d2 mc ms).locals ≤ R.locals := by
  have h3 := hF.2.2.2.2.2
  refine ⟨?_, ?_⟩
  · show d2 + 1 ≤ _; omega
  · show 8 + (y2.2.2.1 + 11) + 64 * d2 ≤ _; omega
abbrev KC (d : Nat) (y : Mth) (bc bs pc : Nat) (lo : List (Option Value)) (rest : List Value) (Φ : Option Value → Mem → Prop) : Option Value → Mem → Prop := fun o M2 => Ex d y bc bs (pc + 3) lo (o.toList ++ rest) M2 Φ
theorem ex_callS {d2 mc ms n index : Nat} {y2 : Mth} {as rest st0 : List Value} (hd : decode y.2.1 pc = .ok (.invokestatic index, 3)) (hF : MFs y2 n) (hk : Cond.methodLink y.1.cls index y2.1 ∈ gtbl) (hn9 : as.length = n) (hst : as.reverse ++ rest = st0) (hw : (rest.map fun v => v.category).sum ≤ 8) (hd2 : d2 < d) (hm : mc ≤ bc ∧ ms ≤ bs)
    (h : Con d2 y2 mc ms as M (KC d y (bc - mc) (bs - ms) pc lo rest Φ)) : Ex d y bc bs pc lo st0 M Φ := fun E p e R s m args below meth cc H locs cells slots ls ok hp hc hn hl => by
  subst hst
  have hts := ok.2.2.2.2.2.1
  have hrm := rm_ok (mc := mc) (ms := ms) hF.1 hd2 ok.2.2.2.2.2.2.2.2.2.1 ok.2.2.2.2.2.2.2.2.2.2.1
  have cw : CallB R s args y.1.cls index y2.1 y2.2.1 y2.2.2.1 y2.2.2.2 (wsY y2) (rmY d2 mc ms) mc ms n ∧ (Cond.static y2.1).before args s = true := ⟨callB_of n hts (good_ws hF.1) rfl rfl rfl (hts _ hF.1.2.1) (hts _ hk) ⟨hF.1.2.2.1.1, hF.1.2.2.1.2, hF.1.2.2.2.1⟩ hrm, hts _ hF.2⟩
  exact ex_back (va_runS (As := as.map (cv E)) (rest := rest.map (cv E)) ⟨ok.1, ok.2.1, ok.2.2.2.1, ok.2.2.2.2.1, hts⟩ (h E) cw ⟨PF_blind E as M, fun U hU hW => ⟨rfl, EnvOK.warm hW ok.2.2.2.2.2.2.2.2.1, by rw [hU]; exact hp.1⟩⟩ rfl (by rw [List.length_map]; exact hn9) hl.1 (by rw [List.map_append, List.map_reverse]) (lv_room (by rw [cat_sum]; exact hw)) hd ⟨by omega, by omega⟩) hm ok hp hc hn hl
theorem ex_callSN {d2 mc ms n index : Nat} {host : String} {y2 : Mth} {as rest st0 : List Value} (hd : decode y.2.1 pc = .ok (.invokestatic index, 3)) (hF : MFs y2 n) (hk : Cond.methodLinkNest y.1.cls index y2.1 host ∈ nst_tbl) (hn9 : as.length = n) (hst : as.reverse ++ rest = st0) (hw : (rest.map fun v => v.category).sum ≤ 8) (hd2 : d2 < d) (hm : mc ≤ bc ∧ ms ≤ bs)
    (h : Con d2 y2 mc ms as M (KC d y (bc - mc) (bs - ms) pc lo rest Φ)) : Ex d y bc bs pc lo st0 M Φ := fun E p e R s m args below meth cc H locs cells slots ls ok hp hc hn hl => by
  subst hst
  have hts := ok.2.2.2.2.2.1
  have hrm := rm_ok (mc := mc) (ms := ms) hF.1 hd2 ok.2.2.2.2.2.2.2.2.2.1 ok.2.2.2.2.2.2.2.2.2.2.1
  have cw := va_cnB (R := R) (s := s) (args := args) (own := y.1.cls) (host := host) (index := index) (maxL := y2.2.2.1) (mc := mc) (ms := ms) (y := y2.1) (bytes := y2.2.1) (ret := y2.2.2.2) (rm := rmY d2 mc ms) n hts (good_ws hF.1) rfl rfl rfl (ok.2.2.2.2.2.2.2.2.1.2.2.1 _ hk) (hts _ hF.1.2.1) ⟨hF.1.2.2.1.1, hF.1.2.2.1.2, hF.1.2.2.2.1⟩ hrm
  exact ex_back (va_runSN (As := as.map (cv E)) (rest := rest.map (cv E)) ⟨ok.1, ok.2.1, ok.2.2.2.1, ok.2.2.2.2.1, hts⟩ (h E) ⟨cw, hts _ hF.2, trivial⟩ ⟨PF_blind E as M, fun U hU hW => ⟨rfl, EnvOK.warm hW ok.2.2.2.2.2.2.2.2.1, by rw [hU]; exact hp.1⟩⟩ rfl (by rw [List.length_map]; exact hn9) hl.1 (by rw [List.map_append, List.map_reverse]) (lv_room (by rw [cat_sum]; exact hw)) hd ⟨by omega, by omega⟩) hm ok hp hc hn hl
theorem recv_ok {E : EV} {M : Mem} {s : State} {H : Heap} {j ci N : Nat} {C : String} {T : u_T} (hK : va_K (eD E) cls_tbl [] s) (h : Wd E M H) (hs : (sh M)[j]? = some (ci, N)) (hc : ci < 100) (hC : cls_tbl[ci]? = some (C, T, N)) : ∃ cell : Cell, H[ad E j]? = some cell ∧ cell.vm.isStatics = false ∧ s.vm.findClass C = some cell.cls := by
  obtain ⟨r, q0, q00, cell, q1, q2, q3, q4⟩ := h.obj hs hc
  rw [hC] at q0
  cases q0
  rw [h.adr hs]
  exact ⟨cell, q1, by rw [q3]; rfl, by rw [q2]; exact (hK.1 ci _ hC).2.1⟩
theorem ex_callV {d2 mc ms n index j ci N : Nat} {T : u_T} {y2 : Mth} {as rest st0 : List Value} (hd : decode y.2.1 pc = .ok (.invokevirtual index, 3)) (hF : MFv y2 n) (hk : Cond.methodLink y.1.cls index y2.1 ∈ gtbl) (hs : (sh M)[j]? = some (ci, N)) (hC : cls_tbl[ci]? = some (y2.1.cls, T, N)) (hci : ci < 100) (hn9 : as.length = n) (hst : as.reverse ++ .ref j :: rest = st0) (hw : (rest.map fun v => v.category).sum ≤ 8) (hd2 : d2 < d) (hm : mc ≤ bc ∧ ms ≤ bs)
    (h : Con d2 y2 mc ms (.ref j :: as) M (KC d y (bc - mc) (bs - ms) pc lo rest Φ)) : Ex d y bc bs pc lo st0 M Φ := fun E p e R s m args below meth cc H locs cells slots ls ok hp hc hn hl => by
  subst hst
  have hts := ok.2.2.2.2.2.1
  have hrm := rm_ok (mc := mc) (ms := ms) hF.1 hd2 ok.2.2.2.2.2.2.2.2.2.1 ok.2.2.2.2.2.2.2.2.2.2.1
  have cw : CallW R s args y.1.cls y2.1.cls index y2.1 y2.2.1 y2.2.2.1 y2.2.2.2 (wsY y2) (rmY d2 mc ms) mc ms n := ⟨callB_of n hts (good_ws hF.1) rfl rfl rfl (hts _ hF.1.2.1) (hts _ hk) ⟨hF.1.2.2.1.1, hF.1.2.2.1.2, hF.1.2.2.2.1⟩ hrm, hts _ hF.2.1, hts _ hF.2.2⟩
  exact ex_back (va_runV (As := as.map (cv E)) (b := ad E j) (rest := rest.map (cv E)) ⟨ok.1, ok.2.1, ok.2.2.2.1, ok.2.2.2.2.1, hts⟩ (h E) cw ⟨PF_blind E _ M, recv_ok ok.2.2.2.2.2.2.2.2.1.1 hp.1 hs hci hC, fun U hU hW => ⟨rfl, EnvOK.warm hW ok.2.2.2.2.2.2.2.2.1, by rw [hU]; exact hp.1⟩⟩ rfl (by rw [List.length_map]; exact hn9) hl.1 (by rw [List.map_append, List.map_reverse]; rfl) (lv_room (by rw [cat_sum]; exact hw)) hd ⟨by omega, by omega⟩) hm ok hp hc hn hl
theorem ex_callI {d2 mc ms n index j : Nat} {y2 : Mth} {as rest st0 : List Value} (hd : decode y.2.1 pc = .ok (.invokespecial index, 3)) (hF : MFi y2 n) (hk : Cond.methodLink y.1.cls index y2.1 ∈ gtbl) (hrt : y2.2.2.2 = none) (hn9 : as.length = n) (hst : as.reverse ++ .ref j :: rest = st0) (hw : (rest.map fun v => v.category).sum ≤ 8) (hd2 : d2 < d) (hm : mc ≤ bc ∧ ms ≤ bs)
    (h : Con d2 y2 mc ms (.ref j :: as) M (KC d y (bc - mc) (bs - ms) pc lo rest Φ)) : Ex d y bc bs pc lo st0 M Φ := fun E p e R s m args below meth cc H locs cells slots ls ok hp hc hn hl => by
  subst hst
  have hts := ok.2.2.2.2.2.1
  have hrm := rm_ok (mc := mc) (ms := ms) hF.1 hd2 ok.2.2.2.2.2.2.2.2.2.1 ok.2.2.2.2.2.2.2.2.2.2.1
  have cw : CallB R s args y.1.cls index y2.1 y2.2.1 y2.2.2.1 none (wsY y2) (rmY d2 mc ms) mc ms n ∧ y2.1.name = "<init>" ∧ (Cond.instanceMethod y2.1).before args s = true := cwI n hts (good_ws hF.1) (ws' := gtbl) (by rw [← hrt]; rfl) rfl rfl (hts _ hF.1.2.1) (hts _ hk) (hts _ hF.2.1) hF.2.2 ⟨hF.1.2.2.1.1, hF.1.2.2.1.2, hF.1.2.2.2.1⟩ hrm
  exact ex_back (va_runI (As := as.map (cv E)) (b := ad E j) (rest := rest.map (cv E)) ⟨ok.1, ok.2.1, ok.2.2.2.1, ok.2.2.2.2.1, hts⟩ (h E) cw ⟨PF_blind E _ M, fun U hU hW => ⟨rfl, EnvOK.warm hW ok.2.2.2.2.2.2.2.2.1, by rw [hU]; exact hp.1⟩⟩ rfl (by rw [List.length_map]; exact hn9) hl.1 (by rw [List.map_append, List.map_reverse]; rfl) (lv_room (by rw [cat_sum]; exact hw)) hd ⟨by omega, by omega⟩) hm ok hp hc hn hl
theorem ex_callIN {d2 mc ms n index j : Nat} {host : String} {y2 : Mth} {as rest st0 : List Value} (hd : decode y.2.1 pc = .ok (.invokespecial index, 3)) (hF : MFi y2 n) (hk : Cond.methodLinkNest y.1.cls index y2.1 host ∈ nst_tbl) (hrt : y2.2.2.2 = none) (hn9 : as.length = n) (hst : as.reverse ++ .ref j :: rest = st0) (hw : (rest.map fun v => v.category).sum ≤ 8) (hd2 : d2 < d) (hm : mc ≤ bc ∧ ms ≤ bs)
    (h : Con d2 y2 mc ms (.ref j :: as) M (KC d y (bc - mc) (bs - ms) pc lo rest Φ)) : Ex d y bc bs pc lo st0 M Φ := fun E p e R s m args below meth cc H locs cells slots ls ok hp hc hn hl => by
  subst hst
  have hts := ok.2.2.2.2.2.1
  have hrm := rm_ok (mc := mc) (ms := ms) hF.1 hd2 ok.2.2.2.2.2.2.2.2.2.1 ok.2.2.2.2.2.2.2.2.2.2.1
  have cw := va_cnB (R := R) (s := s) (args := args) (own := y.1.cls) (host := host) (index := index) (maxL := y2.2.2.1) (mc := mc) (ms := ms) (y := y2.1) (bytes := y2.2.1) (ret := none) (rm := rmY d2 mc ms) n hts (good_ws hF.1) (ws' := gtbl) (by rw [← hrt]; rfl) rfl rfl (ok.2.2.2.2.2.2.2.2.1.2.2.1 _ hk) (hts _ hF.1.2.1) ⟨hF.1.2.2.1.1, hF.1.2.2.1.2, hF.1.2.2.2.1⟩ hrm
  exact ex_back (va_runIN (As := as.map (cv E)) (b := ad E j) (rest := rest.map (cv E)) ⟨ok.1, ok.2.1, ok.2.2.2.1, ok.2.2.2.2.1, hts⟩ (h E) ⟨cw, hF.2.2, hts _ hF.2.1⟩ ⟨PF_blind E _ M, fun U hU hW => ⟨rfl, EnvOK.warm hW ok.2.2.2.2.2.2.2.2.1, by rw [hU]; exact hp.1⟩⟩ rfl (by rw [List.length_map]; exact hn9) hl.1 (by rw [List.map_append, List.map_reverse]; rfl) (lv_room (by rw [cat_sum]; exact hw)) hd ⟨by omega, by omega⟩) hm ok hp hc hn hl
end EXC
end
section
/-! rules of Ex: new cells; Object.<init>, Math.min, Math.max, System.arraycopy -/
def ro {α : Type} (f : Nat → Nat → α) (j : Nat) (g : Nat → α) : Nat → Nat → α := fun a => if a = j then g else f a
theorem ro_s {α : Type} (f : Nat → Nat → α) (j : Nat) (g : Nat → α) : ro f j g j = g := by simp [ro]
theorem ro_n {α : Type} {f : Nat → Nat → α} {j a : Nat} {g : Nat → α} (h : a ≠ j) : ro f j g a = f a := by simp [ro, h]
/-- a new cell of kind k and size N, all 0 or null -/
def nw (M : Mem) (k N : Nat) : Mem := (sh M ++ [(k, N)], ro (mi M) (sh M).length (fun _ => 0), ro (ml M) (sh M).length (fun _ => 0), ro (mr M) (sh M).length (fun _ => none), sc M)
/-- row j of ints becomes g -/
def wrow (M : Mem) (j : Nat) (g : Nat → Int32) : Mem := (sh M, ro (mi M) j g, ml M, mr M, sc M)
def dv (t : Nat) : Value := match t with
  | 0 => .int 0
  | 1 => .long 0
  | _ => .null
theorem vv_nw (M : Mem) (k N t q : Nat) : vv t (nw M k N) (sh M).length q = dv t := by
  match t with
  | 0 => show Value.int (ro (mi M) _ _ _ q) = _; rw [ro_s]; rfl
  | 1 => show Value.long (ro (ml M) _ _ _ q) = _; rw [ro_s]; rfl
  | t + 2 => show rv (ro (mr M) _ _ _ q) = _; rw [ro_s]; rfl
theorem vv_nw_n {M : Mem} {k N i : Nat} (t q : Nat) (h : i ≠ (sh M).length) : vv t (nw M k N) i q = vv t M i q := by
  match t with
  | 0 => show Value.int (ro (mi M) _ _ i q) = _; rw [ro_n h]; rfl
  | 1 => show Value.long (ro (ml M) _ _ i q) = _; rw [ro_n h]; rfl
  | t + 2 => show rv (ro (mr M) _ _ i q) = _; rw [ro_n h]; rfl
theorem cv_dv (E : EV) (t : Nat) : cv E (dv t) = dv t := by
  match t with
  | 0 => rfl
  | 1 => rfl
  | t + 2 => rfl
theorem Wd.push {E : EV} {M : Mem} {H H2 : Heap} {k N : Nat} (h : Wd E M H) (hl : (sh M).length < 1048576) (hz : H2.size = H.size + 1) (hq : ∀ q, q < H.size → H2[q]? = H[q]?) (hj : cellOk E (nw M k N) H2 (sh M).length (k, N)) : Wd E (nw M k N) H2 := by
  have hs : sh (nw M k N) = sh M ++ [(k, N)] := rfl
  refine ⟨by rw [hz, hs, h.1, List.length_append]; rfl, by rw [hs, List.length_append]; exact hl, fun q hq0 => ?_, fun i kn2 hi => ?_, h.2.2.2.2⟩
  · rw [hq q (by rw [h.1]; omega)]
    exact h.2.2.1 q hq0
  · rw [hs] at hi
    by_cases hij : i < (sh M).length
    · rw [List.getElem?_append_left hij] at hi
      have h1 := h.2.2.2.1 i kn2 hi
      have e : H2[eZ E + i]? = H[eZ E + i]? := hq _ (by rw [h.1]; omega)
      unfold cellOk at h1 ⊢
      split
      · rename_i hc
        rw [if_pos hc] at h1
        obtain ⟨r, a1, a2, a3⟩ := h1
        exact ⟨r, a1, a2, (a3.kept e).to (fun k _ => by rw [vv_nw_n _ _ (by omega)])⟩
      · rename_i hc
        rw [if_neg hc] at h1
        rw [e, h1]
        congr 2
        funext k
        rw [vv_nw_n _ _ (by omega)]
    · have hlt := (List.getElem?_eq_some_iff.mp hi).1
      rw [List.length_append] at hlt
      have e : i = (sh M).length := by
        have : ([(k, N)] : List (Nat × Nat)).length = 1 := rfl
        omega
      subst e
      rw [List.getElem?_append_right (Nat.le_refl _)] at hi
      simp at hi
      subst hi
      exact hj
theorem Wd.newref {E : EV} {M : Mem} {H : Heap} (h : Wd E M H) (hl : (sh M).length < 1048576) : H.size = ad E (sh M).length := by rw [ad_lt hl, h.1]
section EXA
variable {d : Nat} {y : Mth} {bc bs pc : Nat} {lo : List (Option Value)} {st : List Value} {M : Mem} {Φ : Option Value → Mem → Prop}
theorem ex_new {index ci N : Nat} {C : String} {T : u_T} {ty : Nat → FieldType} (hd : decode y.2.1 pc = .ok (.new index, 3)) (hk : Cond.classLink y.1.cls index C ∈ gtbl) (hi : Cond.instantiable C N ∈ gtbl) (hini : Cond.initialized C ∈ gtbl) (hC : CF ci C T N ty) (hdv : ∀ k, k < N → defaultValue (ty k) = dv (ftc ci k)) (hb : 1 ≤ bc ∧ N ≤ bs) (hlen : (sh M).length < 1048576)
    (kk : Ex d y (bc - 1) (bs - N) (pc + 3) lo (.ref (sh M).length :: st) (nw M ci N) Φ) : Ex d y bc bs pc lo st M Φ := fun E p e R s m args below meth cc H locs cells slots ls ok hp hc hn hl => by
  have hts := ok.2.2.2.2.2.1
  have hKn := ok.2.2.2.2.2.2.2.2.1.1.1 ci _ hC.1
  refine W.newcK ok.1 ok.2.1 ok.2.2.2.2.1 (hts _ hk) (hts _ hi) (hts _ hini) rfl hd (by omega) (by omega) hKn.2.1 rfl fun H1 kC hkC e1 z1 o1 => ?_
  show W _ _ _ _ _ _ _ _ _ _ _ _ _ _ _ (F0 m (pc + 3) ls (Value.ref H.size :: _))
  rw [hp.1.newref hlen]
  refine kk E p e R s m args below meth cc H1 locs (cells + 1) (slots + N) ls ok ⟨hp.1.push hlen z1 o1 ?_, Nat.le_trans hp.2.1 (by omega), hp.2.2⟩ (by omega) (by omega) hl
  unfold cellOk
  rw [if_pos hC.2.1]
  rw [hp.1.1] at e1
  refine ⟨_, hC.1, rfl, (u_born ty hts hC.2.2.1 hKn hkC e1 hC.2.2.2.2).to (fun k hk => ?_)⟩
  rw [vv_nw, cv_dv]
  exact hdv k hk
theorem arr_new {E : EV} {M : Mem} {s : State} {H H1 : Heap} {locs : List Loc} {k N : Nat} (hp : Hp E M s H locs) (hlen : (sh M).length < 1048576) (hk : ¬ k < 100) (e1 : H1[H.size]? = some (arrV (eT E k) N (fun _ => dv (akt k)))) (z1 : H1.size = H.size + 1) (o1 : ∀ q, q < H.size → H1[q]? = H[q]?) : Hp E (nw M k N) s H1 locs := by
  refine ⟨hp.1.push hlen z1 o1 ?_, Nat.le_trans hp.2.1 (by omega), hp.2.2⟩
  unfold cellOk
  rw [if_neg hk]
  rw [hp.1.1] at e1
  rw [e1]
  congr 2
  funext q
  rw [vv_nw, cv_dv]
theorem ex_newa_int {n : Int32} {N : Nat} (hd : decode y.2.1 pc = .ok (.newarray .int, 2)) (hw : Cond.arrayClass .int ∈ gtbl) (h0 : ¬ n < 0) (hN : n.toNatClampNeg = N) (hmax : N ≤ 1000000) (hb : 1 ≤ bc ∧ N ≤ bs) (hlen : (sh M).length < 1048576)
    (kk : Ex d y (bc - 1) (bs - N) (pc + 2) lo (.ref (sh M).length :: st) (nw M 100 N) Φ) : Ex d y bc bs pc lo (.int n :: st) M Φ := fun E p e R s m args below meth cc H locs cells slots ls ok hp hc hn hl => by
  have hts := ok.2.2.2.2.2.1
  refine va_newaK (atype := .int) (N := N) ok.1 ok.2.1 (hts _ hw) rfl hd rfl h0 hN (by show N * 4 ≤ 536870912; omega) (by omega) (by omega) rfl fun H1 cA e1 z1 o1 hAr hNm => ?_
  have hcA : cA = eT E 100 := Option.some.inj (hNm.symm.trans (ok.2.2.2.2.2.2.2.2.1.2.1 100 (by omega) (by omega)).2)
  subst hcA
  show W _ _ _ _ _ _ _ _ _ _ _ _ _ _ _ (F0 m (pc + 2) ls (Value.ref H.size :: _))
  rw [hp.1.newref hlen]
  exact kk E p e R s m args below meth cc H1 locs (cells + 1) (slots + N) ls ok (arr_new hp hlen (by omega) e1 z1 o1) (by omega) (by omega) hl
theorem ex_newa_boolean {n : Int32} {N : Nat} (hd : decode y.2.1 pc = .ok (.newarray .boolean, 2)) (hw : Cond.arrayClass .boolean ∈ gtbl) (h0 : ¬ n < 0) (hN : n.toNatClampNeg = N) (hmax : N ≤ 1000000) (hb : 1 ≤ bc ∧ N ≤ bs) (hlen : (sh M).length < 1048576)
    (kk : Ex d y (bc - 1) (bs - N) (pc + 2) lo (.ref (sh M).length :: st) (nw M 101 N) Φ) : Ex d y bc bs pc lo (.int n :: st) M Φ := fun E p e R s m args below meth cc H locs cells slots ls ok hp hc hn hl => by
  have hts := ok.2.2.2.2.2.1
  refine va_newaK (atype := .boolean) (N := N) ok.1 ok.2.1 (hts _ hw) rfl hd rfl h0 hN (by show N * 1 ≤ 536870912; omega) (by omega) (by omega) rfl fun H1 cA e1 z1 o1 hAr hNm => ?_
  have hcA : cA = eT E 101 := Option.some.inj (hNm.symm.trans (ok.2.2.2.2.2.2.2.2.1.2.1 101 (by omega) (by omega)).2)
  subst hcA
  show W _ _ _ _ _ _ _ _ _ _ _ _ _ _ _ (F0 m (pc + 2) ls (Value.ref H.size :: _))
  rw [hp.1.newref hlen]
  exact kk E p e R s m args below meth cc H1 locs (cells + 1) (slots + N) ls ok (arr_new hp hlen (by omega) e1 z1 o1) (by omega) (by omega) hl
theorem ex_newa_long {n : Int32} {N : Nat} (hd : decode y.2.1 pc = .ok (.newarray .long, 2)) (hw : Cond.arrayClass .long ∈ gtbl) (h0 : ¬ n < 0) (hN : n.toNatClampNeg = N) (hmax : N ≤ 1000000) (hb : 1 ≤ bc ∧ N ≤ bs) (hlen : (sh M).length < 1048576)
    (kk : Ex d y (bc - 1) (bs - N) (pc + 2) lo (.ref (sh M).length :: st) (nw M 102 N) Φ) : Ex d y bc bs pc lo (.int n :: st) M Φ := fun E p e R s m args below meth cc H locs cells slots ls ok hp hc hn hl => by
  have hts := ok.2.2.2.2.2.1
  refine va_newaK (atype := .long) (N := N) ok.1 ok.2.1 (hts _ hw) rfl hd rfl h0 hN (by show N * 8 ≤ 536870912; omega) (by omega) (by omega) rfl fun H1 cA e1 z1 o1 hAr hNm => ?_
  have hcA : cA = eT E 102 := Option.some.inj (hNm.symm.trans (ok.2.2.2.2.2.2.2.2.1.2.1 102 (by omega) (by omega)).2)
  subst hcA
  show W _ _ _ _ _ _ _ _ _ _ _ _ _ _ _ (F0 m (pc + 2) ls (Value.ref H.size :: _))
  rw [hp.1.newref hlen]
  exact kk E p e R s m args below meth cc H1 locs (cells + 1) (slots + N) ls ok (arr_new hp hlen (by omega) e1 z1 o1) (by omega) (by omega) hl
theorem ex_anew {index ci : Nat} {C : String} {n : Int32} {N : Nat} (hd : decode y.2.1 pc = .ok (.anewarray index, 3)) (hk : Cond.classLink y.1.cls index C ∈ gtbl) (hci : (ci = 104 ∧ C = "MarketDays$Rule") ∨ (ci = 105 ∧ C = "MarketDays$Giving") ∨ (ci = 106 ∧ C = "MarketDays$Sheet")) (h0 : ¬ n < 0) (hN : n.toNatClampNeg = N) (hmax : N ≤ 1000000) (hb : 1 ≤ bc ∧ N ≤ bs) (hlen : (sh M).length < 1048576)
    (kk : Ex d y (bc - 1) (bs - N) (pc + 3) lo (.ref (sh M).length :: st) (nw M ci N) Φ) : Ex d y bc bs pc lo (.int n :: st) M Φ := fun E p e R s m args below meth cc H locs cells slots ls ok hp hc hn hl => by
  have hts := ok.2.2.2.2.2.1
  have hE := ok.2.2.2.2.2.2.2.2.1
  subst hN
  have hov : va_AO C s ∧ aty ci = .object C ∧ akt ci = 2 ∧ 103 ≤ ci ∧ ci ≤ 106 := by
    rcases hci with ⟨rfl, rfl⟩ | ⟨rfl, rfl⟩ | ⟨rfl, rfl⟩
    · exact ⟨hE.2.2.2.1.1, rfl, rfl, by omega, by omega⟩
    · exact ⟨hE.2.2.2.1.2.1, rfl, rfl, by omega, by omega⟩
    · exact ⟨hE.2.2.2.1.2.2.1, rfl, rfl, by omega, by omega⟩
  obtain ⟨ho, hty, hak, hl1, hl2⟩ := hov
  refine W.anew ok.1 ok.2.1 ok.2.2.2.2.1 (hts _ hk) (va_AO.use ho) rfl hd rfl h0 (by omega) (by omega) (by omega) fun cA kA comp f1 f2 f3 f4 => ?_
  have hra := (hE.2.1 ci (by omega) (by omega)).2
  rw [hty] at hra
  obtain ⟨_, _, -, -, -, hra4⟩ := hra
  have hcA : cA = eT E ci := Option.some.inj (f1.symm.trans hra4)
  subst hcA
  show W _ _ _ _ _ _ _ _ _ _ _ _ _ _ _ (F0 m (pc + 3) ls (Value.ref H.size :: _))
  rw [hp.1.newref hlen]
  refine kk E p e R s m args below meth cc _ locs (cells + 1) (slots + n.toNatClampNeg) ls ok (arr_new hp hlen (by omega) ?_ (by simp) (fun q hq => by rw [Array.getElem?_push, if_neg (Nat.ne_of_lt hq)])) (by omega) (by omega) hl
  rw [hak, ← arrV_new]
  simp [dv]
theorem ex_objInit {index j : Nat} (hd : decode y.2.1 pc = .ok (.invokespecial index, 3)) (hk : Cond.methodLink y.1.cls index Lib.objectInit ∈ gtbl) (hw : (st.map fun v => v.category).sum ≤ 20) (hd1 : 1 ≤ d) (kk : Ex d y bc bs (pc + 3) lo st M Φ) : Ex d y bc bs pc lo (.ref j :: st) M Φ := fun E p e R s m args below meth cc H locs cells slots ls ok hp hc hn hl => by
  have hts := ok.2.2.2.2.2.1
  have h1 := ok.2.2.2.2.2.2.2.2.2.1
  have h2 := ok.2.2.2.2.2.2.2.2.2.2.1
  refine W.objInit ok.1 ok.2.1 ok.2.2.2.2.1 (hts _ hk) (hts _ (in_t1 (i := 27) rfl rfl)) (hts _ (in_t1 (i := 28) rfl rfl)) rfl (hl.1.trans ok.2.2.2.1.symm) rfl hd (by omega) (by show 2 * 0 + _ + 12 ≤ _; rw [cat_sum]; omega) ?_
  exact kk E p e R s m args below meth cc H locs cells slots ls ok hp hc hn hl
theorem ex_min {index : Nat} {x z : Int32} (hd : decode y.2.1 pc = .ok (.invokestatic index, 3)) (hk : Cond.methodLink y.1.cls index Lib.Math.min.name ∈ gtbl) (hw : (st.map fun v => v.category).sum ≤ 20) (hd1 : 1 ≤ d) (kk : Ex d y bc bs (pc + 3) lo (.int (if z < x then z else x) :: st) M Φ) : Ex d y bc bs pc lo (.int z :: .int x :: st) M Φ := fun E p e R s m args below meth cc H locs cells slots ls ok hp hc hn hl => by
  have hts := ok.2.2.2.2.2.1
  have h1 := ok.2.2.2.2.2.2.2.2.2.1
  have h2 := ok.2.2.2.2.2.2.2.2.2.2.1
  refine va_mmin ok.1 ok.2.1 (ok.2.2.2.1.trans hl.1.symm) ok.2.2.2.2.1 (hts _ hk) (hts _ (in_t2 (i := 206) rfl rfl)) (hts _ (in_t1 (i := 16) rfl rfl)) (hts _ (in_t2 (i := 207) rfl rfl)) (by omega) (by rw [cat_sum]; omega) (by omega) (by omega) hd ?_
  exact kk E p e R s m args below meth cc H locs cells slots ls ok hp hc hn hl
theorem ex_max {index : Nat} {x z : Int32} (hd : decode y.2.1 pc = .ok (.invokestatic index, 3)) (hk : Cond.methodLink y.1.cls index Lib.Math.max.name ∈ gtbl) (hw : (st.map fun v => v.category).sum ≤ 20) (hd1 : 1 ≤ d) (kk : Ex d y bc bs (pc + 3) lo (.int (if x < z then z else x) :: st) M Φ) : Ex d y bc bs pc lo (.int z :: .int x :: st) M Φ := fun E p e R s m args below meth cc H locs cells slots ls ok hp hc hn hl => by
  have hts := ok.2.2.2.2.2.1
  have h1 := ok.2.2.2.2.2.2.2.2.2.1
  have h2 := ok.2.2.2.2.2.2.2.2.2.2.1
  refine va_mmax ok.1 ok.2.1 (ok.2.2.2.1.trans hl.1.symm) ok.2.2.2.2.1 (hts _ hk) (hts _ (in_t3 (i := 136) rfl rfl)) (hts _ (in_t1 (i := 16) rfl rfl)) (hts _ (in_t3 (i := 137) rfl rfl)) (by omega) (by rw [cat_sum]; omega) (by omega) (by omega) hd ?_
  exact kk E p e R s m args below meth cc H locs cells slots ls ok hp hc hn hl
theorem pos_clamp {z : Int32} (h : ¬ z < 0) : z.toInt = (z.toNatClampNeg : Int) := by
  have h0 : (0 : Int) ≤ z.toInt := by
    have := Int32.not_lt.mp h
    simpa using Int32.le_iff_toInt_le.mp this
  show z.toInt = ((z.toInt.toNat : Nat) : Int)
  omega
theorem vv_wrow {M : Mem} {j : Nat} {g : Nat → Int32} (t i q : Nat) (h : i ≠ j) : vv t (wrow M j g) i q = vv t M i q := by
  match t with
  | 0 => show Value.int (ro (mi M) j g i q) = _; rw [ro_n h]; rfl
  | 1 => rfl
  | t + 2 => rfl
/-- System.arraycopy of ints -/
theorem ex_acopy {index i0 j0 N0 N1 : Nat} {sp dp n : Int32} (hd : decode y.2.1 pc = .ok (.invokestatic index, 3)) (hk : Cond.methodLink y.1.cls index arraycopyName ∈ gtbl) (hs0 : (sh M)[i0]? = some (100, N0)) (hs1 : (sh M)[j0]? = some (100, N1)) (h1 : ¬ sp < 0) (h2 : ¬ dp < 0) (h3 : ¬ n < 0) (h4 : sp.toNatClampNeg + n.toNatClampNeg ≤ N0) (h5 : dp.toNatClampNeg + n.toNatClampNeg ≤ N1) (hw : (st.map fun v => v.category).sum ≤ 10) (hd1 : 1 ≤ d)
    (kk : Ex d y bc bs (pc + 3) lo st (wrow M j0 (va_cpy (mi M i0) (mi M j0) sp.toNatClampNeg dp.toNatClampNeg n.toNatClampNeg)) Φ) : Ex d y bc bs pc lo (.int n :: .int dp :: .ref j0 :: .int sp :: .ref i0 :: st) M Φ := fun E p e R s m args below meth cc H locs cells slots ls ok hp hc hn hl => by
  have hts := ok.2.2.2.2.2.1
  have q1 := ok.2.2.2.2.2.2.2.2.2.1
  have q2 := ok.2.2.2.2.2.2.2.2.2.2.1
  have hE := ok.2.2.2.2.2.2.2.2.1
  have hc0 : H[ad E i0]? = some (arrV (eT E 100) N0 (fun k => .int (mi M i0 k))) := by rw [hp.1.adr hs0]; exact hp.1.arr hs0 (by omega)
  have hc1 : H[ad E j0]? = some (arrV (eT E 100) N1 (fun k => .int (mi M j0 k))) := by rw [hp.1.adr hs1]; exact hp.1.arr hs1 (by omega)
  obtain ⟨-, k0, hk0, cm0, hkk0⟩ := (hE.2.1 100 (by omega) (by omega)).1 N0 (fun j => .int (mi M i0 j))
  obtain ⟨-, k1, hk1, cm1, hkk1⟩ := (hE.2.1 100 (by omega) (by omega)).1 N1 (fun j => .int (mi M j0 j))
  intro T hT X
  obtain ⟨vm', X', step⟩ := X.arraycopy ok.1 ok.2.2.2.2.1 (hts _ hk) (hts _ (in_t2 (i := 210) rfl rfl)) (hts _ (in_t2 (i := 209) rfl rfl)) (hts _ (in_t1 (i := 17) rfl rfl)) (srcPos := sp) (destPos := dp) (n := n) (by rw [hT]; exact hc0) (by rw [hT]; exact hc1)
    (fun _ h => by cases h) (fun _ h => by cases h) (fun h => by cases h) (fun h => by cases h) hk0 hk1 hkk0 hkk1 rfl h1 h2 h3
    (by rw [pos_clamp h1, pos_clamp h3, arrV_size]; omega) (by rw [pos_clamp h2, pos_clamp h3, arrV_size]; omega)
    (fun vm₁ _ i hi => by
      have e : (arrV (eT E 100) N0 (fun k => .int (mi M i0 k))).slots.getD (sp.toNatClampNeg + i) .null = .int (mi M i0 (sp.toNatClampNeg + i)) := by
        rw [Array.getD_eq_getD_getElem?, arrV_read _ _ (by omega)]
        rfl
      rw [e]
      exact ⟨rfl, trivial⟩)
    (g := F0 m pc ls (.int n :: .int dp :: .ref (ad E j0) :: .int sp :: .ref (ad E i0) :: st.map (cv E))) rfl (hl.1.trans ok.2.2.2.1.symm) (rest := st.map (cv E)) rfl (by rw [ok.2.1]; exact hd) (by omega) (by
      have e9 : nativeFrameWords "java/lang/System" "arraycopy" 5 + 11 ≤ 50 := by decide +kernel
      show 2 * 0 + _ + _ ≤ _
      rw [cat_sum]
      omega)
  have e1 : copied (arrV (eT E 100) N0 (fun k => .int (mi M i0 k))) (arrV (eT E 100) N1 (fun k => .int (mi M j0 k))) sp dp n = arrV (eT E 100) N1 (fun k => .int (va_cpy (mi M i0) (mi M j0) sp.toNatClampNeg dp.toNatClampNeg n.toNatClampNeg k)) := va_copied (fun z => .int z) _ _ _ _ h4
  rw [e1] at X' step
  have hlt : ad E j0 < H.size := (Array.getElem?_eq_some_iff.mp hc1).1
  have hheap : ((T.setVm vm').setCell (ad E j0) (arrV (eT E 100) N1 (fun k => .int (va_cpy (mi M i0) (mi M j0) sp.toNatClampNeg dp.toNatClampNeg n.toNatClampNeg k)))).heap = H.setIfInBounds (ad E j0) (arrV (eT E 100) N1 (fun k => .int (va_cpy (mi M i0) (mi M j0) sp.toNatClampNeg dp.toNatClampNeg n.toNatClampNeg k))) := by rw [← hT]; rfl
  obtain ⟨t, a1, b1⟩ := kk E p e R s m args below meth cc _ _ cells slots ls ok ⟨hp.1.set hs1 rfl rfl (H2 := H.setIfInBounds (ad E j0) _) (by simp) (fun q hq => by rw [hp.1.adr hs1]; simp [Array.getElem?_setIfInBounds, Ne.symm hq]) (fun t i q h => vv_wrow t i q h) (by
      unfold cellOk
      rw [if_neg (show ¬ (100 : Nat) < 100 by omega), ← hp.1.adr hs1]
      simp only [Array.getElem?_setIfInBounds, hlt, if_pos]
      congr 2
      funext q
      show _ = Value.int (ro (mi M) j0 _ j0 q)
      rw [ro_s]), by simp; exact hp.2.1, fun q hq => by
      rcases List.mem_append.mp hq with h | h
      · exact hp.2.2 q h
      · obtain ⟨z, -, hz⟩ := List.mem_map.mp h
        rw [← hz, hp.1.adr hs1]
        exact Nat.le_add_right _ _⟩ hc hn hl _ hheap X'
  exact ⟨t, step t a1, b1⟩
end EXA
theorem udv_MD : ∀ k, k < 11 → defaultValue (ty_MD k) = dv (ftc 0 k) := by decide +kernel
theorem udv_Fair : ∀ k, k < 4 → defaultValue (ty_Fair k) = dv (ftc 1 k) := by decide +kernel
theorem udv_Finder : ∀ k, k < 8 → defaultValue (ty_Finder k) = dv (ftc 2 k) := by decide +kernel
theorem udv_Giving : ∀ k, k < 2 → defaultValue (ty_Giving k) = dv (ftc 3 k) := by decide +kernel
theorem udv_Land : ∀ k, k < 12 → defaultValue (ty_Land k) = dv (ftc 4 k) := by decide +kernel
theorem udv_Law : ∀ k, k < 5 → defaultValue (ty_Law k) = dv (ftc 5 k) := by decide +kernel
theorem udv_Pedlar : ∀ k, k < 5 → defaultValue (ty_Pedlar k) = dv (ftc 6 k) := by decide +kernel
theorem udv_Rule : ∀ k, k < 2 → defaultValue (ty_Rule k) = dv (ftc 7 k) := by decide +kernel
theorem udv_Sheet : ∀ k, k < 3 → defaultValue (ty_Sheet k) = dv (ftc 8 k) := by decide +kernel
theorem udv_Tape : ∀ k, k < 10 → defaultValue (ty_Tape k) = dv (ftc 9 k) := by decide +kernel
theorem udv_Ways : ∀ k, k < 9 → defaultValue (ty_Ways k) = dv (ftc 10 k) := by decide +kernel
theorem udv_MM : ∀ k, k < 56 → defaultValue (ty_MM k) = dv (ftc 11 k) := by decide +kernel
end
section
/-! the layout that the constructors leave: shapes of the first 113 cells, references that never change; wrappers for printed blocks -/
def shT : List (Nat × Nat) := [(0, 11), (4, 12), (100, 6), (100, 6), (100, 6), (100, 6), (103, 6), (100, 6), (100, 6), (100, 6), (100, 6), (100, 6), (100, 6), (103, 6), (100, 6), (100, 6), (100, 6), (100, 6), (100, 6), (100, 6), (100, 10), (100, 10), (4, 12), (100, 6), (100, 6), (100, 6), (100, 6), (103, 6), (100, 6), (100, 6), (100, 6), (100, 6), (100, 6), (100, 6), (103, 6), (100, 6), (100, 6), (100, 6), (100, 6), (100, 6), (100, 6), (100, 10), (100, 10), (9, 10), (100, 160), (100, 160), (5, 5), (104, 6), (100, 6), (100, 40), (105, 12), (1, 4), (100, 6), (2, 8), (100, 6), (100, 1764), (100, 384), (100, 7), (10, 9), (100, 6), (100, 6), (100, 6), (100, 6), (6, 5), (100, 7), (100, 42), (106, 4), (8, 3), (100, 40), (8, 3), (100, 40), (8, 3), (100, 40), (8, 3), (100, 40), (7, 2), (100, 3), (100, 9), (11, 56), (100, 6), (100, 6), (100, 6), (100, 6), (100, 36), (100, 10), (100, 10), (100, 160), (100, 1200), (100, 24), (100, 12), (100, 12), (100, 72), (100, 6), (100, 7), (100, 6), (100, 6), (100, 6), (100, 36), (100, 10), (100, 10), (100, 4), (100, 4), (100, 160), (100, 36), (102, 11), (100, 200), (100, 200), (100, 6), (101, 36), (100, 6), (100, 29400), (101, 29400), (100, 1968)]
def refT : List (List (Option Nat)) := [[some 1, some 22, none, some 43, some 46, some 50, none, some 51, some 53, some 63, some 66], [some 2, some 3, some 4, some 5, some 6, some 13, some 20, some 21], [], [], [], [], [some 7, some 8, some 9, some 10, some 11, some 12], [], [], [], [], [], [], [some 14, some 15, some 16, some 17, some 18, some 19], [], [], [], [], [], [], [], [], [some 23, some 24, some 25, some 26, some 27, some 34, some 41, some 42], [], [], [], [], [some 28, some 29, some 30, some 31, some 32, some 33], [], [], [], [], [], [], [some 35, some 36, some 37, some 38, some 39, some 40], [], [], [], [], [], [], [], [], [some 44, none, none, none, none, none, none, none, some 45], [], [], [some 1, some 47, none, some 48, some 49], [some 75], [], [], [], [some 1, some 46, some 52], [], [some 1, some 46, some 58, some 54, none, some 55, some 56, some 57], [], [], [], [], [some 1, some 46, none, some 59, some 60, none, some 61, some 62], [], [], [], [], [some 1, some 51, some 64, none, some 65], [], [], [some 67, some 69, some 71, some 73], [some 68], [], [some 70], [], [some 72], [], [some 74], [], [some 76, some 77], [], [], [none, some 79, some 80, some 81, some 82, some 83, none, none, some 84, some 85, some 86, none, some 87, some 88, none, none, none, some 89, some 90, some 91, none, none, some 92, none, some 93, none, none, none, none, none, some 94, some 95, some 96, some 97, some 98, some 99, some 100, some 101, some 102, some 103, none, none, none, none, some 104, some 105, none, none, none, some 106, some 107, some 108, some 109, some 110, some 111, some 112], [], [], [], [], [], [], [], [], [], [], [], [], [], [], [], [], [], [], [], [], [], [], [], [], [], [], [], [], [], [], [], [], [], []]
/-- x's part: cells 0 .. 74; m's part: cells 78 .. 112 -/
def Fz (a b : Nat) (M : Mem) : Prop := (∀ (j : Nat) (kn : Nat × Nat), a ≤ j → j < b → shT[j]? = some kn → (sh M)[j]? = some kn) ∧ (∀ (j k q : Nat) (l : List (Option Nat)), a ≤ j → j < b → refT[j]? = some l → l[k]? = some (some q) → mr M j k = some q)
def Fx (M : Mem) : Prop := Fz 0 75 M
def Fm (M : Mem) : Prop := Fz 78 113 M
theorem Fx.s {M : Mem} (h : Fx M) {j : Nat} {kn : Nat × Nat} (hj : shT[j]? = some kn) (hl : j < 75 := by decide) : (sh M)[j]? = some kn := h.1 j kn (Nat.zero_le _) hl hj
theorem Fx.r {M : Mem} (h : Fx M) {j k q : Nat} {l : List (Option Nat)} (hj : refT[j]? = some l) (hk : l[k]? = some (some q)) (hl : j < 75 := by decide) : mr M j k = some q := h.2 j k q l (Nat.zero_le _) hl hj hk
theorem Fm.s {M : Mem} (h : Fm M) {j : Nat} {kn : Nat × Nat} (hj : shT[j]? = some kn) (h1 : 78 ≤ j := by decide) (h2 : j < 113 := by decide) : (sh M)[j]? = some kn := h.1 j kn h1 h2 hj
theorem Fm.r {M : Mem} (h : Fm M) {j k q : Nat} {l : List (Option Nat)} (hj : refT[j]? = some l) (hk : l[k]? = some (some q)) (h1 : 78 ≤ j := by decide) (h2 : j < 113 := by decide) : mr M j k = some q := h.2 j k q l h1 h2 hj hk
theorem Fx.len {M : Mem} (h : Fx M) : 75 ≤ (sh M).length := by
  have := (List.getElem?_eq_some_iff.mp (h.s (j := 74) rfl)).1
  omega
theorem Fm.len {M : Mem} (h : Fm M) : 113 ≤ (sh M).length := by
  have := (List.getElem?_eq_some_iff.mp (h.s (j := 112) rfl)).1
  omega
theorem Fz.nw {a b : Nat} {M : Mem} (h : Fz a b M) (hb : b ≤ (sh M).length) (k N : Nat) : Fz a b (nw M k N) := by
  refine ⟨fun j kn h1 h2 hj => ?_, fun j q r l h1 h2 hj hk => ?_⟩
  · show (sh M ++ [(k, N)])[j]? = some kn
    rw [List.getElem?_append_left (by omega)]
    exact h.1 j kn h1 h2 hj
  · show ro (mr M) (sh M).length (fun _ => none) j q = some r
    rw [ro_n (by omega)]
    exact h.2 j q r l h1 h2 hj hk
theorem Fx.fnw {M : Mem} (h : Fx M) (k N : Nat) : Fx (nw M k N) := Fz.nw h h.len k N
theorem Fm.fnw {M : Mem} (h : Fm M) (k N : Nat) : Fm (nw M k N) := Fz.nw h h.len k N
/-- a reference outside the table is written -/
theorem Fz.wr {a b : Nat} {M : Mem} (h : Fz a b M) {j k : Nat} (v : Option Nat) (hn : a ≤ j → j < b → ∀ l, refT[j]? = some l → ∀ q, l[k]? ≠ some (some q)) : Fz a b (wr M j k v) := by
  refine ⟨h.1, fun i q r l h1 h2 hj hk => ?_⟩
  show u2 (mr M) j k v i q = some r
  by_cases hij : i = j
  · subst hij
    rw [u2_s]
    by_cases hq : q = k
    · subst hq
      exact absurd hk (hn h1 h2 l hj r)
    · rw [u1_n hq]
      exact h.2 i q r l h1 h2 hj hk
  · rw [u2_n hij]
    exact h.2 i q r l h1 h2 hj hk
theorem Fx.fwr {M : Mem} (h : Fx M) {j k : Nat} (v : Option Nat) (hn : ∀ l, refT[j]? = some l → ∀ q, l[k]? ≠ some (some q)) : Fx (wr M j k v) := Fz.wr h v (fun _ _ => hn)
theorem Fx.fwrN {M : Mem} (h : Fx M) {j k : Nat} (v : Option Nat) (hn : 75 ≤ j) : Fx (wr M j k v) := Fz.wr h v (fun _ h2 => by omega)
theorem Fm.fwrN {M : Mem} (h : Fm M) {j k : Nat} (v : Option Nat) (hn : j < 78 ∨ 113 ≤ j) : Fm (wr M j k v) := Fz.wr h v (fun h1 h2 => by omega)
theorem Fz.of {a b : Nat} {M M2 : Mem} (h : Fz a b M) (h1 : ∀ j, a ≤ j → j < b → (sh M2)[j]? = (sh M)[j]?) (h2 : ∀ j, a ≤ j → j < b → mr M2 j = mr M j) : Fz a b M2 := ⟨fun j kn a1 a2 hj => by rw [h1 j a1 a2]; exact h.1 j kn a1 a2 hj, fun j k r l a1 a2 hj hk => by
  rw [h2 j a1 a2]
  exact h.2 j k r l a1 a2 hj hk⟩
def b2i (b : Bool) : Int32 := if b then 1 else 0
theorem b2i_t : b2i true = 1 := rfl
theorem b2i_f : b2i false = 0 := rfl
theorem b2i_0 (b : Bool) : b2i b = 0 ↔ b = false := by cases b <;> decide
theorem b2i_n (b : Bool) : narrow .boolean (.int (b2i b)) = .int (b2i b) := by cases b <;> rfl
/-- ends: an int, a boolean, a long, nothing, a reference or null -/
def PI (K : Int32 → Mem → Prop) : Option Value → Mem → Prop := fun o M => ∃ v, o = some (.int v) ∧ K v M
def PB (K : Bool → Mem → Prop) : Option Value → Mem → Prop := fun o M => ∃ b, o = some (.int (b2i b)) ∧ K b M
def PL (K : Int64 → Mem → Prop) : Option Value → Mem → Prop := fun o M => ∃ v, o = some (.long v) ∧ K v M
def PV (K : Mem → Prop) : Option Value → Mem → Prop := fun o M => o = none ∧ K M
def PR (K : Option Nat → Mem → Prop) : Option Value → Mem → Prop := fun o M => ∃ r, o = some (rv r) ∧ K r M
section EY
variable {d : Nat} {y : Mth} {bc bs pc : Nat} {lo : List (Option Value)} {st : List Value} {M : Mem} {Φ : Option Value → Mem → Prop}
theorem ey_getI {index j ci k N : Nat} {v : Int32} (hd : decode y.2.1 pc = .ok (.getfield index, 3)) (hL : LF y.1.cls index ci k 0) (hs : (sh M)[j]? = some (ci, N)) (hv : mi M j k = v) (kk : Ex d y bc bs (pc + 3) lo (.int v :: st) M Φ) : Ex d y bc bs pc lo (.ref j :: st) M Φ := ex_getI hd hL hs (hv ▸ kk)
theorem ey_iald {j N k : Nat} {i v : Int32} (hd : decode y.2.1 pc = .ok (.iaload, 1)) (hs : (sh M)[j]? = some (100, N)) (hi : vp_in i N) (hk : i.toNatClampNeg = k) (hv : mi M j k = v) (kk : Ex d y bc bs (pc + 1) lo (.int v :: st) M Φ) : Ex d y bc bs pc lo (.int i :: .ref j :: st) M Φ := ex_iald hd hs hi (by rw [hk, hv]; exact kk)
theorem ey_zald {j N k : Nat} {i v : Int32} (hd : decode y.2.1 pc = .ok (.baload, 1)) (hs : (sh M)[j]? = some (101, N)) (hi : vp_in i N) (hk : i.toNatClampNeg = k) (hv : mi M j k = v) (kk : Ex d y bc bs (pc + 1) lo (.int v :: st) M Φ) : Ex d y bc bs pc lo (.int i :: .ref j :: st) M Φ := ex_zald hd hs hi (by rw [hk, hv]; exact kk)
theorem ey_lald {j N k : Nat} {i : Int32} {v : Int64} (hd : decode y.2.1 pc = .ok (.laload, 1)) (hs : (sh M)[j]? = some (102, N)) (hi : vp_in i N) (hk : i.toNatClampNeg = k) (hv : ml M j k = v) (kk : Ex d y bc bs (pc + 1) lo (.long v :: st) M Φ) : Ex d y bc bs pc lo (.int i :: .ref j :: st) M Φ := ex_lald hd hs hi (by rw [hk, hv]; exact kk)
theorem ey_aald {j ci N k : Nat} {i : Int32} {r : Option Nat} (hd : decode y.2.1 pc = .ok (.aaload, 1)) (hs : (sh M)[j]? = some (ci, N)) (hc : 103 ≤ ci ∧ ci ≤ 106) (hi : vp_in i N) (hk : i.toNatClampNeg = k) (hv : mr M j k = r) (kk : Ex d y bc bs (pc + 1) lo (rv r :: st) M Φ) : Ex d y bc bs pc lo (.int i :: .ref j :: st) M Φ := ex_aald hd hs hc hi (by rw [hk, hv]; exact kk)
theorem ey_iast {j N k : Nat} {i v : Int32} (hd : decode y.2.1 pc = .ok (.iastore, 1)) (hs : (sh M)[j]? = some (100, N)) (hi : vp_in i N) (hk : i.toNatClampNeg = k) (kk : Ex d y bc bs (pc + 1) lo st (wi M j k v) Φ) : Ex d y bc bs pc lo (.int v :: .int i :: .ref j :: st) M Φ := ex_iast hd hs hi (by rw [hk]; exact kk)
theorem ey_zast {j N k : Nat} {i v : Int32} (hd : decode y.2.1 pc = .ok (.bastore, 1)) (hs : (sh M)[j]? = some (101, N)) (hi : vp_in i N) (hk : i.toNatClampNeg = k) (hz : narrow .boolean (.int v) = .int v) (kk : Ex d y bc bs (pc + 1) lo st (wi M j k v) Φ) : Ex d y bc bs pc lo (.int v :: .int i :: .ref j :: st) M Φ := ex_zast hd hs hi hz (by rw [hk]; exact kk)
theorem ey_ifeqB {b : Bool} {off : Int} {tgt : Nat} (hd : decode y.2.1 pc = .ok (.ifCond .eq off, 3)) (ht : (pc : Int) + off = (tgt : Int)) (k1 : b = false → Ex d y bc bs tgt lo st M Φ) (k2 : b = true → Ex d y bc bs (pc + 3) lo st M Φ) : Ex d y bc bs pc lo (.int (b2i b) :: st) M Φ := ex_if_eq hd ht (fun h => k1 ((b2i_0 b).mp h)) (fun h => k2 (by cases b; exact absurd rfl h; rfl))
theorem ey_ifneB {b : Bool} {off : Int} {tgt : Nat} (hd : decode y.2.1 pc = .ok (.ifCond .ne off, 3)) (ht : (pc : Int) + off = (tgt : Int)) (k1 : b = true → Ex d y bc bs tgt lo st M Φ) (k2 : b = false → Ex d y bc bs (pc + 3) lo st M Φ) : Ex d y bc bs pc lo (.int (b2i b) :: st) M Φ := ex_if_ne hd ht (fun h => k1 (by cases b; exact absurd rfl h; rfl)) (fun h => k2 ((b2i_0 b).mp h))
theorem ey_areturn {r : Option Nat} {rt : FieldType} (hd : decode y.2.1 pc = .ok (.areturn, 1)) (hr : y.2.2.2 = some rt) (hrt : (∃ n, rt = .object n) ∨ ∃ t, rt = .array t) (h : Φ (some (rv r)) M) : Ex d y bc bs pc lo [rv r] M Φ := by
  cases r with
  | none => exact ex_areturnN hd hr hrt h
  | some a => exact ex_areturn hd hr hrt h
end EY
theorem KC_I {d : Nat} {y : Mth} {bc bs pc : Nat} {lo : List (Option Value)} {rest : List Value} {Φ : Option Value → Mem → Prop} {d2 : Nat} {y2 : Mth} {mc ms : Nat} {as : List Value} {M : Mem} (h : Con d2 y2 mc ms as M (PI fun v M1 => Ex d y bc bs (pc + 3) lo (.int v :: rest) M1 Φ)) : Con d2 y2 mc ms as M (KC d y bc bs pc lo rest Φ) := h.mono (fun o M2 ⟨v, e, k⟩ => by subst e; exact k)
theorem KC_B {d : Nat} {y : Mth} {bc bs pc : Nat} {lo : List (Option Value)} {rest : List Value} {Φ : Option Value → Mem → Prop} {d2 : Nat} {y2 : Mth} {mc ms : Nat} {as : List Value} {M : Mem} (h : Con d2 y2 mc ms as M (PB fun v M1 => Ex d y bc bs (pc + 3) lo (.int (b2i v) :: rest) M1 Φ)) : Con d2 y2 mc ms as M (KC d y bc bs pc lo rest Φ) := h.mono (fun o M2 ⟨v, e, k⟩ => by subst e; exact k)
theorem KC_L {d : Nat} {y : Mth} {bc bs pc : Nat} {lo : List (Option Value)} {rest : List Value} {Φ : Option Value → Mem → Prop} {d2 : Nat} {y2 : Mth} {mc ms : Nat} {as : List Value} {M : Mem} (h : Con d2 y2 mc ms as M (PL fun v M1 => Ex d y bc bs (pc + 3) lo (.long v :: rest) M1 Φ)) : Con d2 y2 mc ms as M (KC d y bc bs pc lo rest Φ) := h.mono (fun o M2 ⟨v, e, k⟩ => by subst e; exact k)
theorem KC_V {d : Nat} {y : Mth} {bc bs pc : Nat} {lo : List (Option Value)} {rest : List Value} {Φ : Option Value → Mem → Prop} {d2 : Nat} {y2 : Mth} {mc ms : Nat} {as : List Value} {M : Mem} (h : Con d2 y2 mc ms as M (PV fun M1 => Ex d y bc bs (pc + 3) lo rest M1 Φ)) : Con d2 y2 mc ms as M (KC d y bc bs pc lo rest Φ) := h.mono (fun o M2 ⟨e, k⟩ => by subst e; exact k)
theorem KC_R {d : Nat} {y : Mth} {bc bs pc : Nat} {lo : List (Option Value)} {rest : List Value} {Φ : Option Value → Mem → Prop} {d2 : Nat} {y2 : Mth} {mc ms : Nat} {as : List Value} {M : Mem} (h : Con d2 y2 mc ms as M (PR fun r M1 => Ex d y bc bs (pc + 3) lo (rv r :: rest) M1 Φ)) : Con d2 y2 mc ms as M (KC d y bc bs pc lo rest Φ) := h.mono (fun o M2 ⟨v, e, k⟩ => by subst e; exact k)
def mk : List Bool → List (Option Value) → List (Option Value)
  | true :: bs, v :: l => v :: mk bs l
  | false :: bs, _ :: l => none :: mk bs l
  | _, _ => []
theorem mk_at : ∀ (bs : List Bool) (l : List (Option Value)) (i : Nat) (v : Value), (mk bs l)[i]? = some (some v) → l[i]? = some (some v)
  | [], l, i, v, h => by simp [mk] at h
  | _ :: _, [], i, v, h => by simp [mk] at h
  | true :: bs, w :: l, 0, v, h => by simpa [mk] using h
  | false :: bs, w :: l, 0, v, h => by simp [mk] at h
  | true :: bs, w :: l, i + 1, v, h => by
    simp only [mk, List.getElem?_cons_succ] at h ⊢
    exact mk_at bs l i v h
  | false :: bs, w :: l, i + 1, v, h => by
    simp only [mk, List.getElem?_cons_succ] at h ⊢
    exact mk_at bs l i v h
theorem Ex.msk {d : Nat} {y : Mth} {bc bs pc : Nat} {lo : List (Option Value)} {st : List Value} {M : Mem} {Φ : Option Value → Mem → Prop} (m : List Bool) (h : Ex d y bc bs pc (mk m lo) st M Φ) : Ex d y bc bs pc lo st M Φ := h.low (fun i v q => mk_at m lo i v q)
theorem tab_out {x : Int32} {lo hi : Int} (h : ∀ q : Int, lo ≤ q → q ≤ hi → ¬ x = Int32.ofInt q) : x.toInt < lo ∨ hi < x.toInt := by
  by_cases h1 : x.toInt < lo
  · exact Or.inl h1
  · by_cases h2 : hi < x.toInt
    · exact Or.inr h2
    · exact absurd (show x = Int32.ofInt x.toInt by simp) (h x.toInt (by omega) (by omega))
theorem lf_Land_9 : LF "MarketDays$Land" 9 4 0 2 := ⟨_, _, _, _, cf_Land, by decide, in_t1 (i := 37) rfl rfl, rfl⟩
theorem lf_Law_45 : LF "MarketDays$Law" 45 4 0 2 := ⟨_, _, _, _, cf_Land, by decide, in_t1 (i := 38) rfl rfl, rfl⟩
theorem lf_Pedlar_70 : LF "MarketDays$Pedlar" 70 4 0 2 := ⟨_, _, _, _, cf_Land, by decide, in_t1 (i := 39) rfl rfl, rfl⟩
theorem lf_MD_140 : LF "MarketDays" 140 4 0 2 := ⟨_, _, _, _, cf_Land, by decide, in_t1 (i := 40) rfl rfl, rfl⟩
theorem lf_Land_15 : LF "MarketDays$Land" 15 4 1 2 := ⟨_, _, _, _, cf_Land, by decide, in_t1 (i := 41) rfl rfl, rfl⟩
theorem lf_Ways_74 : LF "MarketDays$Ways" 74 4 1 2 := ⟨_, _, _, _, cf_Land, by decide, in_t1 (i := 42) rfl rfl, rfl⟩
theorem lf_Fair_50 : LF "MarketDays$Fair" 50 4 1 2 := ⟨_, _, _, _, cf_Land, by decide, in_t1 (i := 43) rfl rfl, rfl⟩
theorem lf_MD_130 : LF "MarketDays" 130 4 1 2 := ⟨_, _, _, _, cf_Land, by decide, in_t1 (i := 44) rfl rfl, rfl⟩
theorem lf_Land_18 : LF "MarketDays$Land" 18 4 2 2 := ⟨_, _, _, _, cf_Land, by decide, in_t1 (i := 45) rfl rfl, rfl⟩
theorem lf_Law_59 : LF "MarketDays$Law" 59 4 2 2 := ⟨_, _, _, _, cf_Land, by decide, in_t1 (i := 46) rfl rfl, rfl⟩
theorem lf_MD_134 : LF "MarketDays" 134 4 2 2 := ⟨_, _, _, _, cf_Land, by decide, in_t1 (i := 47) rfl rfl, rfl⟩
theorem lf_Land_21 : LF "MarketDays$Land" 21 4 3 2 := ⟨_, _, _, _, cf_Land, by decide, in_t1 (i := 48) rfl rfl, rfl⟩
theorem lf_Ways_77 : LF "MarketDays$Ways" 77 4 3 2 := ⟨_, _, _, _, cf_Land, by decide, in_t1 (i := 49) rfl rfl, rfl⟩
theorem lf_MD_137 : LF "MarketDays" 137 4 3 2 := ⟨_, _, _, _, cf_Land, by decide, in_t1 (i := 50) rfl rfl, rfl⟩
theorem lf_Fair_62 : LF "MarketDays$Fair" 62 4 3 2 := ⟨_, _, _, _, cf_Land, by decide, in_t1 (i := 51) rfl rfl, rfl⟩
theorem lf_Land_26 : LF "MarketDays$Land" 26 4 4 2 := ⟨_, _, _, _, cf_Land, by decide, in_t1 (i := 52) rfl rfl, rfl⟩
theorem lf_Land_29 : LF "MarketDays$Land" 29 4 5 2 := ⟨_, _, _, _, cf_Land, by decide, in_t1 (i := 53) rfl rfl, rfl⟩
theorem lf_Land_32 : LF "MarketDays$Land" 32 4 6 2 := ⟨_, _, _, _, cf_Land, by decide, in_t1 (i := 54) rfl rfl, rfl⟩
theorem lf_Land_35 : LF "MarketDays$Land" 35 4 7 2 := ⟨_, _, _, _, cf_Land, by decide, in_t1 (i := 55) rfl rfl, rfl⟩
theorem lf_Land_38 : LF "MarketDays$Land" 38 4 8 0 := ⟨_, _, _, _, cf_Land, by decide, in_t1 (i := 56) rfl rfl, rfl⟩
theorem lf_Fair_27 : LF "MarketDays$Fair" 27 4 8 0 := ⟨_, _, _, _, cf_Land, by decide, in_t1 (i := 57) rfl rfl, rfl⟩
theorem lf_Ways_49 : LF "MarketDays$Ways" 49 4 8 0 := ⟨_, _, _, _, cf_Land, by decide, in_t1 (i := 58) rfl rfl, rfl⟩
theorem lf_Pedlar_35 : LF "MarketDays$Pedlar" 35 4 8 0 := ⟨_, _, _, _, cf_Land, by decide, in_t1 (i := 59) rfl rfl, rfl⟩
theorem lf_MD_109 : LF "MarketDays" 109 4 8 0 := ⟨_, _, _, _, cf_Land, by decide, in_t1 (i := 60) rfl rfl, rfl⟩
theorem lf_Finder_66 : LF "MarketDays$Finder" 66 4 8 0 := ⟨_, _, _, _, cf_Land, by decide, in_t1 (i := 61) rfl rfl, rfl⟩
theorem lf_Land_42 : LF "MarketDays$Land" 42 4 9 0 := ⟨_, _, _, _, cf_Land, by decide, in_t1 (i := 62) rfl rfl, rfl⟩
theorem lf_Pedlar_30 : LF "MarketDays$Pedlar" 30 4 9 0 := ⟨_, _, _, _, cf_Land, by decide, in_t1 (i := 63) rfl rfl, rfl⟩
theorem lf_Finder_45 : LF "MarketDays$Finder" 45 4 9 0 := ⟨_, _, _, _, cf_Land, by decide, in_t1 (i := 64) rfl rfl, rfl⟩
theorem lf_MD_123 : LF "MarketDays" 123 4 9 0 := ⟨_, _, _, _, cf_Land, by decide, in_t1 (i := 65) rfl rfl, rfl⟩
theorem lf_Law_62 : LF "MarketDays$Law" 62 4 9 0 := ⟨_, _, _, _, cf_Land, by decide, in_t1 (i := 66) rfl rfl, rfl⟩
theorem lf_Giving_41 : LF "MarketDays$Giving" 41 4 9 0 := ⟨_, _, _, _, cf_Land, by decide, in_t1 (i := 67) rfl rfl, rfl⟩
theorem lf_Fair_53 : LF "MarketDays$Fair" 53 4 9 0 := ⟨_, _, _, _, cf_Land, by decide, in_t1 (i := 68) rfl rfl, rfl⟩
theorem lf_Land_45 : LF "MarketDays$Land" 45 4 10 0 := ⟨_, _, _, _, cf_Land, by decide, in_t1 (i := 69) rfl rfl, rfl⟩
theorem lf_MD_150 : LF "MarketDays" 150 4 10 0 := ⟨_, _, _, _, cf_Land, by decide, in_t1 (i := 70) rfl rfl, rfl⟩
theorem lf_Land_48 : LF "MarketDays$Land" 48 4 11 0 := ⟨_, _, _, _, cf_Land, by decide, in_t1 (i := 71) rfl rfl, rfl⟩
theorem lf_Law_32 : LF "MarketDays$Law" 32 4 11 0 := ⟨_, _, _, _, cf_Land, by decide, in_t1 (i := 72) rfl rfl, rfl⟩
theorem lf_MD_162 : LF "MarketDays" 162 4 11 0 := ⟨_, _, _, _, cf_Land, by decide, in_t1 (i := 73) rfl rfl, rfl⟩
theorem lf_Tape_9 : LF "MarketDays$Tape" 9 9 0 2 := ⟨_, _, _, _, cf_Tape, by decide, in_t1 (i := 106) rfl rfl, rfl⟩
theorem lf_Tape_15 : LF "MarketDays$Tape" 15 9 1 0 := ⟨_, _, _, _, cf_Tape, by decide, in_t1 (i := 107) rfl rfl, rfl⟩
theorem lf_MD_153 : LF "MarketDays" 153 9 1 0 := ⟨_, _, _, _, cf_Tape, by decide, in_t1 (i := 108) rfl rfl, rfl⟩
theorem lf_Tape_19 : LF "MarketDays$Tape" 19 9 2 0 := ⟨_, _, _, _, cf_Tape, by decide, in_t1 (i := 109) rfl rfl, rfl⟩
theorem lf_MD_159 : LF "MarketDays" 159 9 2 0 := ⟨_, _, _, _, cf_Tape, by decide, in_t1 (i := 110) rfl rfl, rfl⟩
theorem lf_Tape_22 : LF "MarketDays$Tape" 22 9 3 0 := ⟨_, _, _, _, cf_Tape, by decide, in_t1 (i := 111) rfl rfl, rfl⟩
theorem lf_Tape_25 : LF "MarketDays$Tape" 25 9 4 0 := ⟨_, _, _, _, cf_Tape, by decide, in_t1 (i := 112) rfl rfl, rfl⟩
theorem lf_Tape_28 : LF "MarketDays$Tape" 28 9 5 0 := ⟨_, _, _, _, cf_Tape, by decide, in_t1 (i := 113) rfl rfl, rfl⟩
theorem lf_Tape_31 : LF "MarketDays$Tape" 31 9 6 0 := ⟨_, _, _, _, cf_Tape, by decide, in_t1 (i := 114) rfl rfl, rfl⟩
theorem lf_Tape_34 : LF "MarketDays$Tape" 34 9 7 0 := ⟨_, _, _, _, cf_Tape, by decide, in_t1 (i := 115) rfl rfl, rfl⟩
theorem lf_Tape_37 : LF "MarketDays$Tape" 37 9 8 2 := ⟨_, _, _, _, cf_Tape, by decide, in_t1 (i := 116) rfl rfl, rfl⟩
theorem lf_Tape_40 : LF "MarketDays$Tape" 40 9 9 0 := ⟨_, _, _, _, cf_Tape, by decide, in_t1 (i := 117) rfl rfl, rfl⟩
theorem lf_Law_28 : LF "MarketDays$Law" 28 5 0 2 := ⟨_, _, _, _, cf_Law, by decide, in_t1 (i := 147) rfl rfl, rfl⟩
theorem lf_Law_11 : LF "MarketDays$Law" 11 5 1 2 := ⟨_, _, _, _, cf_Law, by decide, in_t1 (i := 148) rfl rfl, rfl⟩
theorem lf_Law_17 : LF "MarketDays$Law" 17 5 2 0 := ⟨_, _, _, _, cf_Law, by decide, in_t1 (i := 149) rfl rfl, rfl⟩
theorem lf_MD_156 : LF "MarketDays" 156 5 2 0 := ⟨_, _, _, _, cf_Law, by decide, in_t1 (i := 150) rfl rfl, rfl⟩
theorem lf_Law_21 : LF "MarketDays$Law" 21 5 3 2 := ⟨_, _, _, _, cf_Law, by decide, in_t1 (i := 151) rfl rfl, rfl⟩
theorem lf_Law_25 : LF "MarketDays$Law" 25 5 4 2 := ⟨_, _, _, _, cf_Law, by decide, in_t1 (i := 152) rfl rfl, rfl⟩
theorem lf_Fair_19 : LF "MarketDays$Fair" 19 1 0 2 := ⟨_, _, _, _, cf_Fair, by decide, in_t1 (i := 172) rfl rfl, rfl⟩
theorem lf_Fair_23 : LF "MarketDays$Fair" 23 1 1 2 := ⟨_, _, _, _, cf_Fair, by decide, in_t1 (i := 173) rfl rfl, rfl⟩
theorem lf_Fair_9 : LF "MarketDays$Fair" 9 1 2 2 := ⟨_, _, _, _, cf_Fair, by decide, in_t1 (i := 174) rfl rfl, rfl⟩
theorem lf_Fair_15 : LF "MarketDays$Fair" 15 1 3 2 := ⟨_, _, _, _, cf_Fair, by decide, in_t1 (i := 175) rfl rfl, rfl⟩
theorem lf_Ways_35 : LF "MarketDays$Ways" 35 10 0 2 := ⟨_, _, _, _, cf_Ways, by decide, in_t1 (i := 197) rfl rfl, rfl⟩
theorem lf_Ways_39 : LF "MarketDays$Ways" 39 10 1 2 := ⟨_, _, _, _, cf_Ways, by decide, in_t1 (i := 198) rfl rfl, rfl⟩
theorem lf_Ways_9 : LF "MarketDays$Ways" 9 10 2 0 := ⟨_, _, _, _, cf_Ways, by decide, in_t1 (i := 199) rfl rfl, rfl⟩
theorem lf_Ways_15 : LF "MarketDays$Ways" 15 10 3 2 := ⟨_, _, _, _, cf_Ways, by decide, in_t1 (i := 200) rfl rfl, rfl⟩
theorem lf_Ways_19 : LF "MarketDays$Ways" 19 10 4 2 := ⟨_, _, _, _, cf_Ways, by decide, in_t1 (i := 201) rfl rfl, rfl⟩
theorem lf_Ways_22 : LF "MarketDays$Ways" 22 10 5 0 := ⟨_, _, _, _, cf_Ways, by decide, in_t1 (i := 202) rfl rfl, rfl⟩
theorem lf_Ways_25 : LF "MarketDays$Ways" 25 10 6 2 := ⟨_, _, _, _, cf_Ways, by decide, in_t1 (i := 203) rfl rfl, rfl⟩
theorem lf_Ways_28 : LF "MarketDays$Ways" 28 10 7 2 := ⟨_, _, _, _, cf_Ways, by decide, in_t1 (i := 204) rfl rfl, rfl⟩
theorem lf_Finder_89 : LF "MarketDays$Finder" 89 10 7 2 := ⟨_, _, _, _, cf_Ways, by decide, in_t1 (i := 205) rfl rfl, rfl⟩
theorem lf_Ways_31 : LF "MarketDays$Ways" 31 10 8 0 := ⟨_, _, _, _, cf_Ways, by decide, in_t1 (i := 206) rfl rfl, rfl⟩
theorem lf_Finder_28 : LF "MarketDays$Finder" 28 2 0 2 := ⟨_, _, _, _, cf_Finder, by decide, in_t1 (i := 226) rfl rfl, rfl⟩
theorem lf_Finder_32 : LF "MarketDays$Finder" 32 2 1 2 := ⟨_, _, _, _, cf_Finder, by decide, in_t1 (i := 227) rfl rfl, rfl⟩
theorem lf_Finder_41 : LF "MarketDays$Finder" 41 2 2 2 := ⟨_, _, _, _, cf_Finder, by decide, in_t1 (i := 228) rfl rfl, rfl⟩
theorem lf_Finder_9 : LF "MarketDays$Finder" 9 2 3 2 := ⟨_, _, _, _, cf_Finder, by decide, in_t1 (i := 229) rfl rfl, rfl⟩
theorem lf_MD_242 : LF "MarketDays" 242 2 3 2 := ⟨_, _, _, _, cf_Finder, by decide, in_t1 (i := 230) rfl rfl, rfl⟩
theorem lf_Finder_15 : LF "MarketDays$Finder" 15 2 4 0 := ⟨_, _, _, _, cf_Finder, by decide, in_t1 (i := 231) rfl rfl, rfl⟩
theorem lf_MD_239 : LF "MarketDays" 239 2 4 0 := ⟨_, _, _, _, cf_Finder, by decide, in_t1 (i := 232) rfl rfl, rfl⟩
theorem lf_Finder_19 : LF "MarketDays$Finder" 19 2 5 2 := ⟨_, _, _, _, cf_Finder, by decide, in_t1 (i := 233) rfl rfl, rfl⟩
theorem lf_Finder_22 : LF "MarketDays$Finder" 22 2 6 2 := ⟨_, _, _, _, cf_Finder, by decide, in_t1 (i := 234) rfl rfl, rfl⟩
theorem lf_Finder_25 : LF "MarketDays$Finder" 25 2 7 2 := ⟨_, _, _, _, cf_Finder, by decide, in_t1 (i := 235) rfl rfl, rfl⟩
theorem lf_Pedlar_22 : LF "MarketDays$Pedlar" 22 6 0 2 := ⟨_, _, _, _, cf_Pedlar, by decide, in_t2 (i := 19) rfl rfl, rfl⟩
theorem lf_Pedlar_26 : LF "MarketDays$Pedlar" 26 6 1 2 := ⟨_, _, _, _, cf_Pedlar, by decide, in_t2 (i := 20) rfl rfl, rfl⟩
theorem lf_Pedlar_9 : LF "MarketDays$Pedlar" 9 6 2 2 := ⟨_, _, _, _, cf_Pedlar, by decide, in_t2 (i := 21) rfl rfl, rfl⟩
theorem lf_MD_267 : LF "MarketDays" 267 6 2 2 := ⟨_, _, _, _, cf_Pedlar, by decide, in_t2 (i := 22) rfl rfl, rfl⟩
theorem lf_Pedlar_15 : LF "MarketDays$Pedlar" 15 6 3 0 := ⟨_, _, _, _, cf_Pedlar, by decide, in_t2 (i := 23) rfl rfl, rfl⟩
theorem lf_MD_264 : LF "MarketDays" 264 6 3 0 := ⟨_, _, _, _, cf_Pedlar, by decide, in_t2 (i := 24) rfl rfl, rfl⟩
theorem lf_Pedlar_19 : LF "MarketDays$Pedlar" 19 6 4 2 := ⟨_, _, _, _, cf_Pedlar, by decide, in_t2 (i := 25) rfl rfl, rfl⟩
theorem lf_Sheet_9 : LF "MarketDays$Sheet" 9 8 0 2 := ⟨_, _, _, _, cf_Sheet, by decide, in_t2 (i := 44) rfl rfl, rfl⟩
theorem lf_Pedlar_78 : LF "MarketDays$Pedlar" 78 8 0 2 := ⟨_, _, _, _, cf_Sheet, by decide, in_t2 (i := 45) rfl rfl, rfl⟩
theorem lf_MD_187 : LF "MarketDays" 187 8 0 2 := ⟨_, _, _, _, cf_Sheet, by decide, in_t2 (i := 46) rfl rfl, rfl⟩
theorem lf_Sheet_15 : LF "MarketDays$Sheet" 15 8 1 0 := ⟨_, _, _, _, cf_Sheet, by decide, in_t2 (i := 47) rfl rfl, rfl⟩
theorem lf_MD_287 : LF "MarketDays" 287 8 1 0 := ⟨_, _, _, _, cf_Sheet, by decide, in_t2 (i := 48) rfl rfl, rfl⟩
theorem lf_Sheet_19 : LF "MarketDays$Sheet" 19 8 2 0 := ⟨_, _, _, _, cf_Sheet, by decide, in_t2 (i := 49) rfl rfl, rfl⟩
theorem lf_Pedlar_73 : LF "MarketDays$Pedlar" 73 8 2 0 := ⟨_, _, _, _, cf_Sheet, by decide, in_t2 (i := 50) rfl rfl, rfl⟩
theorem lf_MD_182 : LF "MarketDays" 182 8 2 0 := ⟨_, _, _, _, cf_Sheet, by decide, in_t2 (i := 51) rfl rfl, rfl⟩
theorem lf_Rule_7 : LF "MarketDays$Rule" 7 7 0 2 := ⟨_, _, _, _, cf_Rule, by decide, in_t2 (i := 222) rfl rfl, rfl⟩
theorem lf_Law_52 : LF "MarketDays$Law" 52 7 0 2 := ⟨_, _, _, _, cf_Rule, by decide, in_t2 (i := 223) rfl rfl, rfl⟩
theorem lf_Rule_13 : LF "MarketDays$Rule" 13 7 1 2 := ⟨_, _, _, _, cf_Rule, by decide, in_t2 (i := 224) rfl rfl, rfl⟩
theorem lf_Law_65 : LF "MarketDays$Law" 65 7 1 2 := ⟨_, _, _, _, cf_Rule, by decide, in_t2 (i := 225) rfl rfl, rfl⟩
theorem lf_MD_10 : LF "MarketDays" 10 0 0 2 := ⟨_, _, _, _, cf_MD, by decide, in_t2 (i := 236) rfl rfl, rfl⟩
theorem lf_MD_16 : LF "MarketDays" 16 0 1 2 := ⟨_, _, _, _, cf_MD, by decide, in_t2 (i := 237) rfl rfl, rfl⟩
theorem lf_MD_19 : LF "MarketDays" 19 0 2 0 := ⟨_, _, _, _, cf_MD, by decide, in_t2 (i := 238) rfl rfl, rfl⟩
theorem lf_MD_26 : LF "MarketDays" 26 0 3 2 := ⟨_, _, _, _, cf_MD, by decide, in_t2 (i := 239) rfl rfl, rfl⟩
theorem lf_MD_35 : LF "MarketDays" 35 0 4 2 := ⟨_, _, _, _, cf_MD, by decide, in_t3 (i := 0) rfl rfl, rfl⟩
theorem lf_MD_41 : LF "MarketDays" 41 0 5 2 := ⟨_, _, _, _, cf_MD, by decide, in_t3 (i := 1) rfl rfl, rfl⟩
theorem lf_MD_45 : LF "MarketDays" 45 0 6 0 := ⟨_, _, _, _, cf_MD, by decide, in_t3 (i := 2) rfl rfl, rfl⟩
theorem lf_MD_54 : LF "MarketDays" 54 0 7 2 := ⟨_, _, _, _, cf_MD, by decide, in_t3 (i := 3) rfl rfl, rfl⟩
theorem lf_MD_61 : LF "MarketDays" 61 0 8 2 := ⟨_, _, _, _, cf_MD, by decide, in_t3 (i := 4) rfl rfl, rfl⟩
theorem lf_MD_70 : LF "MarketDays" 70 0 9 2 := ⟨_, _, _, _, cf_MD, by decide, in_t3 (i := 5) rfl rfl, rfl⟩
theorem lf_MD_76 : LF "MarketDays" 76 0 10 2 := ⟨_, _, _, _, cf_MD, by decide, in_t3 (i := 6) rfl rfl, rfl⟩
theorem lf_Giving_9 : LF "MarketDays$Giving" 9 3 0 0 := ⟨_, _, _, _, cf_Giving, by decide, in_t3 (i := 168) rfl rfl, rfl⟩
theorem lf_MD_223 : LF "MarketDays" 223 3 0 0 := ⟨_, _, _, _, cf_Giving, by decide, in_t3 (i := 169) rfl rfl, rfl⟩
theorem lf_Giving_15 : LF "MarketDays$Giving" 15 3 1 2 := ⟨_, _, _, _, cf_Giving, by decide, in_t3 (i := 170) rfl rfl, rfl⟩
theorem lf_MD_226 : LF "MarketDays" 226 3 1 2 := ⟨_, _, _, _, cf_Giving, by decide, in_t3 (i := 171) rfl rfl, rfl⟩
theorem lf_MM_151 : LF "MarketDaysModel" 151 11 0 0 := ⟨_, _, _, _, cf_MM, by decide, in_t5 (i := 76) rfl rfl, rfl⟩
theorem lf_MM_7 : LF "MarketDaysModel" 7 11 1 2 := ⟨_, _, _, _, cf_MM, by decide, in_t5 (i := 77) rfl rfl, rfl⟩
theorem lf_MM_13 : LF "MarketDaysModel" 13 11 2 2 := ⟨_, _, _, _, cf_MM, by decide, in_t5 (i := 78) rfl rfl, rfl⟩
theorem lf_MM_16 : LF "MarketDaysModel" 16 11 3 2 := ⟨_, _, _, _, cf_MM, by decide, in_t5 (i := 79) rfl rfl, rfl⟩
theorem lf_MM_19 : LF "MarketDaysModel" 19 11 4 2 := ⟨_, _, _, _, cf_MM, by decide, in_t5 (i := 80) rfl rfl, rfl⟩
theorem lf_MM_22 : LF "MarketDaysModel" 22 11 5 2 := ⟨_, _, _, _, cf_MM, by decide, in_t5 (i := 81) rfl rfl, rfl⟩
theorem lf_MM_25 : LF "MarketDaysModel" 25 11 6 0 := ⟨_, _, _, _, cf_MM, by decide, in_t5 (i := 82) rfl rfl, rfl⟩
theorem lf_MM_168 : LF "MarketDaysModel" 168 11 7 0 := ⟨_, _, _, _, cf_MM, by decide, in_t5 (i := 83) rfl rfl, rfl⟩
theorem lf_MM_29 : LF "MarketDaysModel" 29 11 8 2 := ⟨_, _, _, _, cf_MM, by decide, in_t5 (i := 84) rfl rfl, rfl⟩
theorem lf_MM_32 : LF "MarketDaysModel" 32 11 9 2 := ⟨_, _, _, _, cf_MM, by decide, in_t5 (i := 85) rfl rfl, rfl⟩
theorem lf_MM_35 : LF "MarketDaysModel" 35 11 10 2 := ⟨_, _, _, _, cf_MM, by decide, in_t5 (i := 86) rfl rfl, rfl⟩
theorem lf_MM_171 : LF "MarketDaysModel" 171 11 11 0 := ⟨_, _, _, _, cf_MM, by decide, in_t5 (i := 87) rfl rfl, rfl⟩
theorem lf_MM_38 : LF "MarketDaysModel" 38 11 12 2 := ⟨_, _, _, _, cf_MM, by decide, in_t5 (i := 88) rfl rfl, rfl⟩
theorem lf_MM_41 : LF "MarketDaysModel" 41 11 13 2 := ⟨_, _, _, _, cf_MM, by decide, in_t5 (i := 89) rfl rfl, rfl⟩
theorem lf_MM_44 : LF "MarketDaysModel" 44 11 14 0 := ⟨_, _, _, _, cf_MM, by decide, in_t5 (i := 90) rfl rfl, rfl⟩
theorem lf_MM_233 : LF "MarketDaysModel" 233 11 15 0 := ⟨_, _, _, _, cf_MM, by decide, in_t5 (i := 91) rfl rfl, rfl⟩
theorem lf_MM_260 : LF "MarketDaysModel" 260 11 16 0 := ⟨_, _, _, _, cf_MM, by decide, in_t5 (i := 92) rfl rfl, rfl⟩
theorem lf_MM_47 : LF "MarketDaysModel" 47 11 17 2 := ⟨_, _, _, _, cf_MM, by decide, in_t5 (i := 93) rfl rfl, rfl⟩
theorem lf_MM_50 : LF "MarketDaysModel" 50 11 18 2 := ⟨_, _, _, _, cf_MM, by decide, in_t5 (i := 94) rfl rfl, rfl⟩
theorem lf_MM_53 : LF "MarketDaysModel" 53 11 19 2 := ⟨_, _, _, _, cf_MM, by decide, in_t5 (i := 95) rfl rfl, rfl⟩
theorem lf_MM_313 : LF "MarketDaysModel" 313 11 20 0 := ⟨_, _, _, _, cf_MM, by decide, in_t5 (i := 96) rfl rfl, rfl⟩
theorem lf_MM_317 : LF "MarketDaysModel" 317 11 21 0 := ⟨_, _, _, _, cf_MM, by decide, in_t5 (i := 97) rfl rfl, rfl⟩
theorem lf_MM_56 : LF "MarketDaysModel" 56 11 22 2 := ⟨_, _, _, _, cf_MM, by decide, in_t5 (i := 98) rfl rfl, rfl⟩
theorem lf_MM_341 : LF "MarketDaysModel" 341 11 23 0 := ⟨_, _, _, _, cf_MM, by decide, in_t5 (i := 99) rfl rfl, rfl⟩
theorem lf_MM_59 : LF "MarketDaysModel" 59 11 24 2 := ⟨_, _, _, _, cf_MM, by decide, in_t5 (i := 100) rfl rfl, rfl⟩
theorem lf_MM_344 : LF "MarketDaysModel" 344 11 25 0 := ⟨_, _, _, _, cf_MM, by decide, in_t5 (i := 101) rfl rfl, rfl⟩
theorem lf_MM_347 : LF "MarketDaysModel" 347 11 26 0 := ⟨_, _, _, _, cf_MM, by decide, in_t5 (i := 102) rfl rfl, rfl⟩
theorem lf_MM_350 : LF "MarketDaysModel" 350 11 27 0 := ⟨_, _, _, _, cf_MM, by decide, in_t5 (i := 103) rfl rfl, rfl⟩
theorem lf_MM_353 : LF "MarketDaysModel" 353 11 28 0 := ⟨_, _, _, _, cf_MM, by decide, in_t5 (i := 104) rfl rfl, rfl⟩
theorem lf_MM_356 : LF "MarketDaysModel" 356 11 29 0 := ⟨_, _, _, _, cf_MM, by decide, in_t5 (i := 105) rfl rfl, rfl⟩
theorem lf_MM_62 : LF "MarketDaysModel" 62 11 30 2 := ⟨_, _, _, _, cf_MM, by decide, in_t5 (i := 106) rfl rfl, rfl⟩
theorem lf_MM_65 : LF "MarketDaysModel" 65 11 31 2 := ⟨_, _, _, _, cf_MM, by decide, in_t5 (i := 107) rfl rfl, rfl⟩
theorem lf_MM_68 : LF "MarketDaysModel" 68 11 32 2 := ⟨_, _, _, _, cf_MM, by decide, in_t5 (i := 108) rfl rfl, rfl⟩
theorem lf_MM_71 : LF "MarketDaysModel" 71 11 33 2 := ⟨_, _, _, _, cf_MM, by decide, in_t5 (i := 109) rfl rfl, rfl⟩
theorem lf_MM_74 : LF "MarketDaysModel" 74 11 34 2 := ⟨_, _, _, _, cf_MM, by decide, in_t5 (i := 110) rfl rfl, rfl⟩
theorem lf_MM_77 : LF "MarketDaysModel" 77 11 35 2 := ⟨_, _, _, _, cf_MM, by decide, in_t5 (i := 111) rfl rfl, rfl⟩
theorem lf_MM_80 : LF "MarketDaysModel" 80 11 36 2 := ⟨_, _, _, _, cf_MM, by decide, in_t5 (i := 112) rfl rfl, rfl⟩
theorem lf_MM_83 : LF "MarketDaysModel" 83 11 37 2 := ⟨_, _, _, _, cf_MM, by decide, in_t5 (i := 113) rfl rfl, rfl⟩
theorem lf_MM_86 : LF "MarketDaysModel" 86 11 38 2 := ⟨_, _, _, _, cf_MM, by decide, in_t5 (i := 114) rfl rfl, rfl⟩
theorem lf_MM_89 : LF "MarketDaysModel" 89 11 39 2 := ⟨_, _, _, _, cf_MM, by decide, in_t5 (i := 115) rfl rfl, rfl⟩
theorem lf_MM_176 : LF "MarketDaysModel" 176 11 40 0 := ⟨_, _, _, _, cf_MM, by decide, in_t5 (i := 116) rfl rfl, rfl⟩
theorem lf_MM_179 : LF "MarketDaysModel" 179 11 41 0 := ⟨_, _, _, _, cf_MM, by decide, in_t5 (i := 117) rfl rfl, rfl⟩
theorem lf_MM_182 : LF "MarketDaysModel" 182 11 42 0 := ⟨_, _, _, _, cf_MM, by decide, in_t5 (i := 118) rfl rfl, rfl⟩
theorem lf_MM_185 : LF "MarketDaysModel" 185 11 43 0 := ⟨_, _, _, _, cf_MM, by decide, in_t5 (i := 119) rfl rfl, rfl⟩
theorem lf_MM_114 : LF "MarketDaysModel" 114 11 44 2 := ⟨_, _, _, _, cf_MM, by decide, in_t5 (i := 120) rfl rfl, rfl⟩
theorem lf_MM_118 : LF "MarketDaysModel" 118 11 45 2 := ⟨_, _, _, _, cf_MM, by decide, in_t5 (i := 121) rfl rfl, rfl⟩
theorem lf_MM_195 : LF "MarketDaysModel" 195 11 46 0 := ⟨_, _, _, _, cf_MM, by decide, in_t5 (i := 122) rfl rfl, rfl⟩
theorem lf_MM_202 : LF "MarketDaysModel" 202 11 47 0 := ⟨_, _, _, _, cf_MM, by decide, in_t5 (i := 123) rfl rfl, rfl⟩
theorem lf_MM_192 : LF "MarketDaysModel" 192 11 48 0 := ⟨_, _, _, _, cf_MM, by decide, in_t5 (i := 124) rfl rfl, rfl⟩
theorem lf_MM_121 : LF "MarketDaysModel" 121 11 49 2 := ⟨_, _, _, _, cf_MM, by decide, in_t5 (i := 125) rfl rfl, rfl⟩
theorem lf_MM_124 : LF "MarketDaysModel" 124 11 50 2 := ⟨_, _, _, _, cf_MM, by decide, in_t5 (i := 126) rfl rfl, rfl⟩
theorem lf_MM_127 : LF "MarketDaysModel" 127 11 51 2 := ⟨_, _, _, _, cf_MM, by decide, in_t5 (i := 127) rfl rfl, rfl⟩
theorem lf_MM_131 : LF "MarketDaysModel" 131 11 52 2 := ⟨_, _, _, _, cf_MM, by decide, in_t5 (i := 128) rfl rfl, rfl⟩
theorem lf_MM_134 : LF "MarketDaysModel" 134 11 53 2 := ⟨_, _, _, _, cf_MM, by decide, in_t5 (i := 129) rfl rfl, rfl⟩
theorem lf_MM_137 : LF "MarketDaysModel" 137 11 54 2 := ⟨_, _, _, _, cf_MM, by decide, in_t5 (i := 130) rfl rfl, rfl⟩
theorem lf_MM_140 : LF "MarketDaysModel" 140 11 55 2 := ⟨_, _, _, _, cf_MM, by decide, in_t5 (i := 131) rfl rfl, rfl⟩
end
section
/-! String constants: length() and charAt(k) of the twelve literals -/
section EXS
variable {d : Nat} {y : Mth} {bc bs pc : Nat} {lo : List (Option Value)} {st : List Value} {M : Mem} {Φ : Option Value → Mem → Prop}
theorem ad_K {E : EV} {i : Nat} (h : i < 100) : ad E (1048576 + i) = eK E i := by rw [ad, if_neg (by omega), if_pos (by omega), Nat.add_sub_cancel_left]
theorem ad_V {E : EV} {i : Nat} (h : i < 100) : ad E (1048676 + i) = eV E i := by rw [ad, if_neg (by omega), if_neg (by omega), if_pos (by omega), Nat.add_sub_cancel_left]
theorem ad_F {E : EV} : ad E 1048777 = eF E := by rw [ad, if_neg (by omega), if_neg (by omega), if_neg (by omega), if_neg (by omega)]
theorem ex_strV {i : Nat} (hd : decode y.2.1 pc = .ok (.getfield 9, 3)) (ho : y.1.cls = "java/lang/String") (hi : i < 12) (kk : Ex d y bc bs (pc + 3) lo (.ref (1048676 + i) :: st) M Φ) : Ex d y bc bs pc lo (.ref (1048576 + i) :: st) M Φ := fun E p e R s m args below meth cc H locs cells slots ls ok hp hc hn hl => by
  have hts := ok.2.2.2.2.2.1
  have hE := ok.2.2.2.2.2.2.2.2.1
  obtain ⟨cf, k, fi, f, cell, h1, h2, h3, h4, h5, h6⟩ := (hE.2.2.2.2.1.1.1 i hi).2.2.1
  show W _ _ _ _ _ _ _ _ _ _ _ _ _ _ _ (F0 m pc ls (Value.ref (ad E (1048576 + i)) :: _))
  rw [ad_K (by omega)]
  refine W.getf (v := .ref (ad E (1048676 + i))) ok.1 ok.2.1 ok.2.2.2.2.1 (by rw [ho]; exact hts _ (in_t7 (i := 82) rfl rfl)) h1 h2 (by rw [hp.1.2.2.1 _ (Nat.not_le.mp h6)]; exact h3) h4 (by rw [ad_V (by omega)]; exact h5) rfl rfl hd ?_
  exact kk E p e R s m args below meth cc H locs cells slots ls ok hp hc hn hl
theorem ex_strC {i : Nat} (hd : decode y.2.1 pc = .ok (.getfield 15, 3)) (ho : y.1.cls = "java/lang/String") (hi : i < 12) (kk : Ex d y bc bs (pc + 3) lo (.int 0 :: st) M Φ) : Ex d y bc bs pc lo (.ref (1048576 + i) :: st) M Φ := fun E p e R s m args below meth cc H locs cells slots ls ok hp hc hn hl => by
  have hts := ok.2.2.2.2.2.1
  have hE := ok.2.2.2.2.2.2.2.2.1
  obtain ⟨cf, k, fi, f, cell, h1, h2, h3, h4, h5, h6⟩ := (hE.2.2.2.2.1.1.1 i hi).2.1
  show W _ _ _ _ _ _ _ _ _ _ _ _ _ _ _ (F0 m pc ls (Value.ref (ad E (1048576 + i)) :: _))
  rw [ad_K (by omega)]
  refine W.getf (v := .int 0) ok.1 ok.2.1 ok.2.2.2.2.1 (by rw [ho]; exact hts _ (in_t7 (i := 83) rfl rfl)) h1 h2 (by rw [hp.1.2.2.1 _ (Nat.not_le.mp h6)]; exact h3) h4 h5 rfl rfl hd ?_
  exact kk E p e R s m args below meth cc H locs cells slots ls ok hp hc hn hl
theorem ex_strL {i : Nat} (hd : decode y.2.1 pc = .ok (.arraylength, 1)) (hi : i < 12) (kk : Ex d y bc bs (pc + 1) lo (.int (nI (sLen.getD i 0)) :: st) M Φ) : Ex d y bc bs pc lo (.ref (1048676 + i) :: st) M Φ := fun E p e R s m args below meth cc H locs cells slots ls ok hp hc hn hl => by
  have hE := ok.2.2.2.2.2.2.2.2.1
  obtain ⟨cell, h1, h2, h3, h4, h5, h6, h7⟩ := (hE.2.2.2.2.1.1.1 i hi).2.2.2
  show W _ _ _ _ _ _ _ _ _ _ _ _ _ _ _ (F0 m pc ls (Value.ref (ad E (1048676 + i)) :: _))
  rw [ad_V (by omega)]
  refine W.alen (n := nI (sLen.getD i 0)) ok.1 ok.2.1 (by rw [hp.1.2.2.1 _ (Nat.not_le.mp h7)]; exact h1) h2 h5 rfl rfl hd ?_
  exact kk E p e R s m args below meth cc H locs cells slots ls ok hp hc hn hl
theorem ex_strB {i k : Nat} (hd : decode y.2.1 pc = .ok (.baload, 1)) (hi : i < 12) (hk : k < sLen.getD i 0) (hk2 : k < 1000) (kk : Ex d y bc bs (pc + 1) lo (.int ((sByt.getD i []).getD k 0) :: st) M Φ) : Ex d y bc bs pc lo (.int (nI k) :: .ref (1048676 + i) :: st) M Φ := fun E p e R s m args below meth cc H locs cells slots ls ok hp hc hn hl => by
  have hE := ok.2.2.2.2.2.2.2.2.1
  obtain ⟨cell, h1, h2, h3, h4, h5, h6, h7⟩ := (hE.2.2.2.2.1.1.1 i hi).2.2.2
  show W _ _ _ _ _ _ _ _ _ _ _ _ _ _ _ (F0 m pc ls (Value.int (nI k) :: Value.ref (ad E (1048676 + i)) :: _))
  rw [ad_V (by omega)]
  refine W.bald (v := .int ((sByt.getD i []).getD k 0)) ok.1 ok.2.1 (by rw [hp.1.2.2.1 _ (Nat.not_le.mp h7)]; exact h1) h2 h3 (by
    intro q
    rcases q with q | q
    · exact nI_pos (by omega) q
    · rw [nI_clamp (by omega)] at q; omega) (by rw [nI_clamp (by omega), h6 _ hk]) rfl rfl hd ?_
  exact kk E p e R s m args below meth cc H locs cells slots ls ok hp hc hn hl
theorem ex_strP (hd : decode y.2.1 pc = .ok (.getstatic 38, 3)) (ho : y.1.cls = "java/lang/String") (kk : Ex d y bc bs (pc + 3) lo (.int 1 :: st) M Φ) : Ex d y bc bs pc lo st M Φ := fun E p e R s m args below meth cc H locs cells slots ls ok hp hc hn hl => by
  have hts := ok.2.2.2.2.2.1
  have hE := ok.2.2.2.2.2.2.2.2.1
  obtain ⟨cf, kf, fi, f, a, cell, h1, h2, h3, h4, h5, h6, h7, h8⟩ := hE.2.2.2.2.2.1.1
  refine W.gets ok.1 ok.2.1 ok.2.2.2.2.1 (by rw [ho]; exact hts _ (in_t2 (i := 68) rfl rfl)) h1 h2 h3 h4 (by rw [hp.1.2.2.1 _ (Nat.not_le.mp h8)]; exact h5) (fun e => by rw [e] at h6; cases h6) h7 rfl hd ?_
  exact kk E p e R s m args below meth cc H locs cells slots ls ok hp hc hn hl
theorem ex_strF (hd : decode y.2.1 pc = .ok (.getstatic 1053, 3)) (ho : y.1.cls = "java/lang/String") (kk : ∀ v, v = .null ∨ v = .ref 1048777 → Ex d y bc bs (pc + 3) lo (v :: st) M Φ) : Ex d y bc bs pc lo st M Φ := fun E p e R s m args below meth cc H locs cells slots ls ok hp hc hn hl => by
  have hts := ok.2.2.2.2.2.1
  have hE := ok.2.2.2.2.2.2.2.2.1
  have key : ∀ v : Value, (v = .null ∨ v = .ref 1048777) → va_Z "jdk/internal/util/Preconditions" "SIOOBE_FORMATTER" "Ljava/util/function/BiFunction;" (cv E v) (fun q => eZ E ≤ q) s (eG E) → W p (eL E) e R s m args below meth cc H locs cells slots (MQ below (QF E Φ) args s R.cells R.slots (fun q => eZ E ≤ q)) (F0 m pc ls (st.map (cv E))) := by
    intro v hv hz
    obtain ⟨cf, kf, fi, f, a, cell, h1, h2, h3, h4, h5, h6, h7, h8⟩ := hz
    refine W.gets ok.1 ok.2.1 ok.2.2.2.2.1 (by rw [ho]; exact hts _ (in_t2 (i := 84) rfl rfl)) h1 h2 h3 h4 (by rw [hp.1.2.2.1 _ (Nat.not_le.mp h8)]; exact h5) (fun e => by rw [e] at h6; cases h6) h7 rfl hd ?_
    exact kk v hv E p e R s m args below meth cc H locs cells slots ls ok hp hc hn hl
  rcases hE.2.2.2.2.2.1.2 with h | h
  · exact key .null (Or.inl rfl) h
  · exact key (.ref 1048777) (Or.inr rfl) (by show va_Z _ _ _ (Value.ref (ad E 1048777)) _ _ _; rw [ad_F]; exact h)
theorem ex_i2c {x v : Int32} (hd : decode y.2.1 pc = .ok (.i2c, 1)) (hv : (x.toUInt32 % 65536).toInt32 = v) (kk : Ex d y bc bs (pc + 1) lo (.int v :: st) M Φ) : Ex d y bc bs pc lo (.int x :: st) M Φ := fun E p e R s m args below meth cc H locs cells slots ls ok hp hc hn hl => lv_i2c ok.1 ok.2.1 hd hv (kk E p e R s m args below meth cc H locs cells slots ls ok hp hc hn hl)
theorem ex_callT {d2 mc ms n index j : Nat} {y2 : Mth} {as rest st0 : List Value} (hd : decode y.2.1 pc = .ok (.invokevirtual index, 3)) (hF : MFv y2 n) (hk : Cond.methodLink y.1.cls index y2.1 ∈ gtbl) (hj : 1048576 ≤ j ∧ j < 1048588) (hC : y2.1.cls = "java/lang/String") (hn9 : as.length = n) (hst : as.reverse ++ .ref j :: rest = st0) (hw : (rest.map fun v => v.category).sum ≤ 8) (hd2 : d2 < d) (hm : mc ≤ bc ∧ ms ≤ bs)
    (h : Con d2 y2 mc ms (.ref j :: as) M (KC d y (bc - mc) (bs - ms) pc lo rest Φ)) : Ex d y bc bs pc lo st0 M Φ := fun E p e R s m args below meth cc H locs cells slots ls ok hp hc hn hl => by
  subst hst
  have hts := ok.2.2.2.2.2.1
  have hE := ok.2.2.2.2.2.2.2.2.1
  have hrm := rm_ok (mc := mc) (ms := ms) hF.1 hd2 ok.2.2.2.2.2.2.2.2.2.1 ok.2.2.2.2.2.2.2.2.2.2.1
  have cw : CallW R s args y.1.cls y2.1.cls index y2.1 y2.2.1 y2.2.2.1 y2.2.2.2 (wsY y2) (rmY d2 mc ms) mc ms n := ⟨callB_of n hts (good_ws hF.1) rfl rfl rfl (hts _ hF.1.2.1) (hts _ hk) ⟨hF.1.2.2.1.1, hF.1.2.2.1.2, hF.1.2.2.2.1⟩ hrm, hts _ hF.2.1, hts _ hF.2.2⟩
  have hrecv : ∃ cell : Cell, H[ad E j]? = some cell ∧ cell.vm.isStatics = false ∧ s.vm.findClass y2.1.cls = some cell.cls := by
    obtain ⟨i, hi, rfl⟩ : ∃ i, i < 12 ∧ j = 1048576 + i := ⟨j - 1048576, by omega, by omega⟩
    obtain ⟨cell, h1, h2, h3, h4⟩ := (hE.2.2.2.2.1.1.1 i hi).1
    rw [ad_K (by omega), hC]
    exact ⟨cell, by rw [hp.1.2.2.1 _ (Nat.not_le.mp h4)]; exact h1, h2, h3⟩
  exact ex_back (va_runV (As := as.map (cv E)) (b := ad E j) (rest := rest.map (cv E)) ⟨ok.1, ok.2.1, ok.2.2.2.1, ok.2.2.2.2.1, hts⟩ (h E) cw ⟨PF_blind E _ M, hrecv, fun U hU hW => ⟨rfl, EnvOK.warm hW hE, by rw [hU]; exact hp.1⟩⟩ rfl (by rw [List.length_map]; exact hn9) hl.1 (by rw [List.map_append, List.map_reverse]; rfl) (lv_room (by rw [cat_sum]; exact hw)) hd ⟨by omega, by omega⟩) hm ok hp hc hn hl
end EXS
theorem sp_coder {d i : Nat} {M : Mem} {K : Int32 → Mem → Prop} (hi : i < 12) (h : K 0 M) : Con (d + 1) m_String_coder 0 0 [.ref (1048576 + i)] M (PI K) := by
  refine Con.of (lo := [some (.ref (1048576 + i))]) F_String_coder.1 rfl (Nat.le_of_ble_eq_true rfl) ?_
  refine ex_strP (pc := 0) (by decide +kernel) rfl ?_
  refine ex_if_eq (pc := 3) (off := 10) (tgt := 13) (by decide +kernel) (by decide) (fun hc => absurd hc (by decide)) (fun hc => ?_)
  refine ex_aload_n (pc := 6) (k := 0) (by decide +kernel) rfl ?_
  refine ex_strC (pc := 7) (by decide +kernel) rfl hi ?_
  refine ex_goto (pc := 10) (off := 4) (tgt := 14) (by decide +kernel) (by decide) ?_
  exact ex_ireturn (by decide +kernel) rfl rfl ⟨0, rfl, h⟩
theorem sp_isLatin1 {d i : Nat} {M : Mem} {K : Bool → Mem → Prop} (hi : i < 12) (h : K true M) : Con (d + 1) m_String_isLatin1 0 0 [.ref (1048576 + i)] M (PB K) := by
  refine Con.of (lo := [some (.ref (1048576 + i))]) F_String_isLatin1.1 rfl (Nat.le_of_ble_eq_true rfl) ?_
  refine ex_strP (pc := 0) (by decide +kernel) rfl ?_
  refine ex_if_eq (pc := 3) (off := 14) (tgt := 17) (by decide +kernel) (by decide) (fun hc => absurd hc (by decide)) (fun hc => ?_)
  refine ex_aload_n (pc := 6) (k := 0) (by decide +kernel) rfl ?_
  refine ex_strC (pc := 7) (by decide +kernel) rfl hi ?_
  refine ex_if_ne (pc := 10) (off := 7) (tgt := 17) (by decide +kernel) (by decide) (fun hc => absurd rfl hc) (fun hc => ?_)
  refine ex_iconst (pc := 13) (k := 1) (v := 1) (by decide +kernel) (by decide) ?_
  refine ex_goto (pc := 14) (off := 4) (tgt := 18) (by decide +kernel) (by decide) ?_
  exact ex_ireturn (v := b2i true) (by decide +kernel) rfl rfl ⟨true, rfl, h⟩
theorem sp_length {d i : Nat} {M : Mem} {K : Int32 → Mem → Prop} (hi : i < 12) (h : K (nI (sLen.getD i 0)) M) : Con (d + 2) m_String_length 0 0 [.ref (1048576 + i)] M (PI K) := by
  refine Con.of (lo := [some (.ref (1048576 + i))]) F_String_length.1 rfl (Nat.le_of_ble_eq_true rfl) ?_
  refine ex_aload_n (pc := 0) (k := 0) (by decide +kernel) rfl ?_
  refine ex_strV (pc := 1) (by decide +kernel) rfl hi ?_
  refine ex_strL (pc := 4) (by decide +kernel) hi ?_
  refine ex_aload_n (pc := 5) (k := 0) (by decide +kernel) rfl ?_
  refine ex_callT (pc := 6) (as := []) (d2 := d + 1) (by decide +kernel) F_String_coder (in_t2 (i := 64) rfl rfl) ⟨by omega, by omega⟩ rfl rfl rfl (Nat.le_of_ble_eq_true rfl) (Nat.lt_succ_self _) ⟨Nat.zero_le _, Nat.zero_le _⟩ (KC_I (sp_coder hi ?_))
  refine ex_ishr (pc := 9) (by decide +kernel) ?_
  have h9 : ∀ i, i < 12 → sLen.getD i 0 < 1000 := by decide +kernel
  have h8 := h9 i hi
  exact ex_ireturn (by decide +kernel) rfl rfl ⟨_, rfl, by rw [sc_shr0 (by omega)]; exact h⟩
theorem sp_preIdx {d : Nat} {a n : Nat} {v : Value} {M : Mem} {K : Int32 → Mem → Prop} (hv : v = .null ∨ v = .ref 1048777) (ha : a < n) (hn : n < 2 ^ 31) (h : K (nI a) M) : Con (d + 1) m_Preconditions_checkIndex 0 0 [.int (nI a), .int (nI n), v] M (PI K) := by
  have e : en0 [.int (nI a), .int (nI n), v] = [some (.int (nI a)), some (.int (nI n)), some v] := by
    rcases hv with rfl | rfl <;> rfl
  refine Con.of (lo := [some (.int (nI a)), some (.int (nI n)), some v]) F_Preconditions_checkIndex.1 e (Nat.le_of_ble_eq_true rfl) ?_
  refine ex_iload_n (pc := 0) (k := 0) (by decide +kernel) rfl ?_
  refine ex_if_lt (pc := 1) (off := 8) (tgt := 9) (by decide +kernel) (by decide) (fun hc => absurd hc (nI_pos (by omega))) (fun hc => ?_)
  refine ex_iload_n (pc := 4) (k := 0) (by decide +kernel) rfl ?_
  refine ex_iload_n (pc := 5) (k := 1) (by decide +kernel) rfl ?_
  refine ex_icmp_lt (pc := 6) (off := 10) (tgt := 16) (by decide +kernel) (by decide) (fun hc => ?_) (fun hc => absurd (nI_lt ha hn) hc)
  refine ex_iload_n (pc := 16) (k := 0) (by decide +kernel) rfl ?_
  exact ex_ireturn (by decide +kernel) rfl rfl ⟨_, rfl, h⟩
theorem sp_chkIdx {d : Nat} {a n : Nat} {M : Mem} {K : Mem → Prop} (ha : a < n) (hn : n < 2 ^ 31) (h : K M) : Con (d + 2) m_String_checkIndex 0 0 [.int (nI a), .int (nI n)] M (PV K) := by
  refine Con.of (lo := [some (.int (nI a)), some (.int (nI n))]) F_String_checkIndex.1 rfl (Nat.le_of_ble_eq_true rfl) ?_
  refine ex_iload_n (pc := 0) (k := 0) (by decide +kernel) rfl ?_
  refine ex_iload_n (pc := 1) (k := 1) (by decide +kernel) rfl ?_
  refine ex_strF (pc := 2) (by decide +kernel) rfl (fun v hv => ?_)
  refine ex_callS (pc := 5) (as := [.int (nI a), .int (nI n), v]) (rest := []) (d2 := d + 1) (by decide +kernel) F_Preconditions_checkIndex (in_t2 (i := 86) rfl rfl) rfl rfl (Nat.le_of_ble_eq_true rfl) (Nat.lt_succ_self _) ⟨Nat.zero_le _, Nat.zero_le _⟩ (KC_I (sp_preIdx hv ha hn ?_))
  refine ex_pop (pc := 8) (by decide +kernel) rfl ?_
  exact ex_return (by decide +kernel) rfl ⟨rfl, h⟩
def sCh (i k : Nat) : Int32 := (((sByt.getD i []).getD k 0 &&& 255).toUInt32 % 65536).toInt32
theorem sp_lCharAt {d i k : Nat} {M : Mem} {K : Int32 → Mem → Prop} (hi : i < 12) (hk : k < sLen.getD i 0) (hk2 : sLen.getD i 0 < 1000) (h : K (sCh i k) M) : Con (d + 3) m_StringLatin1_charAt 0 0 [.ref (1048676 + i), .int (nI k)] M (PI K) := by
  refine Con.of (lo := [some (.ref (1048676 + i)), some (.int (nI k))]) F_StringLatin1_charAt.1 rfl (Nat.le_of_ble_eq_true rfl) ?_
  refine ex_iload_n (pc := 0) (k := 1) (by decide +kernel) rfl ?_
  refine ex_aload_n (pc := 1) (k := 0) (by decide +kernel) rfl ?_
  refine ex_strL (pc := 2) (by decide +kernel) hi ?_
  refine ex_callS (pc := 3) (as := [.int (nI k), .int (nI (sLen.getD i 0))]) (rest := []) (d2 := d + 2) (by decide +kernel) F_String_checkIndex (in_t2 (i := 81) rfl rfl) rfl rfl (Nat.le_of_ble_eq_true rfl) (Nat.lt_succ_self _) ⟨Nat.zero_le _, Nat.zero_le _⟩ (KC_V (sp_chkIdx hk (by omega) ?_))
  refine ex_aload_n (pc := 6) (k := 0) (by decide +kernel) rfl ?_
  refine ex_iload_n (pc := 7) (k := 1) (by decide +kernel) rfl ?_
  refine ex_strB (pc := 8) (by decide +kernel) hi hk (by omega) ?_
  refine ex_sipush (pc := 9) (k := 255) (v := 255) (by decide +kernel) (by decide) ?_
  refine ex_iand (pc := 12) (by decide +kernel) ?_
  refine ex_i2c (pc := 13) (v := sCh i k) (by decide +kernel) rfl ?_
  exact ex_ireturn (by decide +kernel) rfl (pk_nc _) ⟨_, rfl, h⟩
theorem sp_charAt {d i k : Nat} {M : Mem} {K : Int32 → Mem → Prop} (hi : i < 12) (hk : k < sLen.getD i 0) (h : K (sCh i k) M) : Con (d + 4) m_String_charAt 0 0 [.ref (1048576 + i), .int (nI k)] M (PI K) := by
  have hk2 : sLen.getD i 0 < 1000 := by
    have : ∀ i, i < 12 → sLen.getD i 0 < 1000 := by decide +kernel
    exact this i hi
  refine Con.of (lo := [some (.ref (1048576 + i)), some (.int (nI k))]) F_String_charAt.1 rfl (Nat.le_of_ble_eq_true rfl) ?_
  refine ex_aload_n (pc := 0) (k := 0) (by decide +kernel) rfl ?_
  refine ex_callT (pc := 1) (as := []) (d2 := d + 3) (by decide +kernel) F_String_isLatin1 (in_t2 (i := 74) rfl rfl) ⟨by omega, by omega⟩ rfl rfl rfl (Nat.le_of_ble_eq_true rfl) (Nat.lt_succ_self _) ⟨Nat.zero_le _, Nat.zero_le _⟩ (KC_B (sp_isLatin1 hi ?_))
  refine ey_ifeqB (pc := 4) (off := 12) (tgt := 16) (by decide +kernel) (by decide) (fun hc => by cases hc) (fun hc => ?_)
  refine ex_aload_n (pc := 7) (k := 0) (by decide +kernel) rfl ?_
  refine ex_strV (pc := 8) (by decide +kernel) rfl hi ?_
  refine ex_iload_n (pc := 11) (k := 1) (by decide +kernel) rfl ?_
  refine ex_callS (pc := 12) (as := [.ref (1048676 + i), .int (nI k)]) (rest := []) (d2 := d + 3) (by decide +kernel) F_StringLatin1_charAt (in_t2 (i := 78) rfl rfl) rfl rfl (Nat.le_of_ble_eq_true rfl) (Nat.lt_succ_self _) ⟨Nat.zero_le _, Nat.zero_le _⟩ (KC_I (sp_lCharAt hi hk hk2 ?_))
  exact ex_ireturn (by decide +kernel) rfl (pk_nc _) ⟨_, rfl, h⟩
/-- the script -/
theorem ex_sld {d : Nat} {y : Mth} {bc bs pc : Nat} {lo : List (Option Value)} {st : List Value} {M : Mem} {Φ : Option Value → Mem → Prop} {i : Int32} {k : Nat} (hd : decode y.2.1 pc = .ok (.iaload, 1)) (hi : vp_in i (sc M).1) (hk : i.toNatClampNeg = k) (kk : Ex d y bc bs (pc + 1) lo (.int ((sc M).2 k) :: st) M Φ) : Ex d y bc bs pc lo (.int i :: .ref 1048776 :: st) M Φ := fun E p e R s m args below meth cc H locs cells slots ls ok hp hc hn hl => by
  have hE := ok.2.2.2.2.2.2.2.2.1
  have hlt : i.toNatClampNeg < (sc M).1 := Nat.not_le.mp fun q => hi (Or.inr q)
  obtain ⟨scr, h1, h2, h3⟩ := hE.2.2.2.2.2.2.2
  obtain ⟨scr2, h4, h5, h6⟩ := hp.1.2.2.2.2
  cases h1.symm.trans h4
  have hlt2 : eB E < eZ E := by rw [← hE.2.2.2.2.2.2.1]; exact (Array.getElem?_eq_some_iff.mp h1).1
  have ea : ad E 1048776 = eB E := by rw [ad, if_neg (by omega), if_neg (by omega), if_neg (by omega), if_pos rfl]
  show W _ _ _ _ _ _ _ _ _ _ _ _ _ _ _ (F0 m pc ls (Value.int i :: Value.ref (ad E 1048776) :: _))
  rw [ea]
  subst hk
  refine W.iald (v := .int ((sc M).2 i.toNatClampNeg)) ok.1 ok.2.1 (by rw [hp.1.2.2.1 _ hlt2]; exact h1) h2 h3 (by rw [h5]; exact hi) (h6 _ hlt) rfl rfl hd ?_
  exact kk E p e R s m args below meth cc H locs cells slots ls ok hp hc hn hl
theorem ex_slen {d : Nat} {y : Mth} {bc bs pc : Nat} {lo : List (Option Value)} {st : List Value} {M : Mem} {Φ : Option Value → Mem → Prop} (hd : decode y.2.1 pc = .ok (.arraylength, 1)) (kk : Ex d y bc bs (pc + 1) lo (.int (nI (sc M).1) :: st) M Φ) : Ex d y bc bs pc lo (.ref 1048776 :: st) M Φ := fun E p e R s m args below meth cc H locs cells slots ls ok hp hc hn hl => by
  have hE := ok.2.2.2.2.2.2.2.2.1
  obtain ⟨scr, h1, h2, h3⟩ := hE.2.2.2.2.2.2.2
  obtain ⟨scr2, h4, h5, h6⟩ := hp.1.2.2.2.2
  cases h1.symm.trans h4
  have hlt2 : eB E < eZ E := by rw [← hE.2.2.2.2.2.2.1]; exact (Array.getElem?_eq_some_iff.mp h1).1
  have ea : ad E 1048776 = eB E := by rw [ad, if_neg (by omega), if_neg (by omega), if_neg (by omega), if_pos rfl]
  show W _ _ _ _ _ _ _ _ _ _ _ _ _ _ _ (F0 m pc ls (Value.ref (ad E 1048776) :: _))
  rw [ea]
  refine W.alen (n := nI (sc M).1) ok.1 ok.2.1 (by rw [hp.1.2.2.1 _ hlt2]; exact h1) h2 (by rw [h5]; rfl) rfl rfl hd ?_
  exact kk E p e R s m args below meth cc H locs cells slots ls ok hp hc hn hl
end
section
/-! multianewarray of six rows of six ints -/
def mOut (cA q0 : Nat) (i : Nat) : Cell := { cls := cA, slots := ((List.range 6).map (fun j => if j < i then Value.ref (q0 + 1 + j) else Value.null)).toArray, vm := .none }
def mIn (cB : Nat) : Cell := { cls := cB, slots := Array.replicate 6 (.int 0), vm := .none }
def mHeap (cA cB : Nat) (H : Heap) : Nat → Heap
  | 0 => H.push (mOut cA H.size 0)
  | i + 1 => ((mHeap cA cB H i).push (mIn cB)).setIfInBounds H.size (mOut cA H.size (i + 1))
theorem mOut_size (cA q0 i : Nat) : (mOut cA q0 i).slots.size = 6 := by simp [mOut]
theorem mOut_set (cA q0 i : Nat) (hi : i < 6) : (mOut cA q0 i).setSlot i (.ref (q0 + 1 + i)) = mOut cA q0 (i + 1) := by
  rcases (show i = 0 ∨ i = 1 ∨ i = 2 ∨ i = 3 ∨ i = 4 ∨ i = 5 by omega) with rfl | rfl | rfl | rfl | rfl | rfl <;> rfl
theorem mHeap_size (cA cB : Nat) (H : Heap) : ∀ i, (mHeap cA cB H i).size = H.size + 1 + i
  | 0 => by simp [mHeap]
  | i + 1 => by
    have := mHeap_size cA cB H i
    simp [mHeap, this]; omega
theorem mHeap_out (cA cB : Nat) (H : Heap) : ∀ i, (mHeap cA cB H i)[H.size]? = some (mOut cA H.size i)
  | 0 => by simp [mHeap]
  | i + 1 => by
    have h1 := mHeap_size cA cB H i
    simp only [mHeap, Array.getElem?_setIfInBounds, Array.size_push, h1]
    simp; omega
theorem mHeap_old (cA cB : Nat) (H : Heap) {a : Nat} (ha : a < H.size) : ∀ i, (mHeap cA cB H i)[a]? = H[a]?
  | 0 => by simp only [mHeap, Array.getElem?_push]; rw [if_neg (by omega)]
  | i + 1 => by
    have h1 := mHeap_size cA cB H i
    simp only [mHeap, Array.getElem?_setIfInBounds, Array.getElem?_push, h1]
    rw [if_neg (by omega), if_neg (by omega)]
    exact mHeap_old cA cB H ha i
theorem mHeap_in (cA cB : Nat) (H : Heap) : ∀ i j, j < i → (mHeap cA cB H i)[H.size + 1 + j]? = some (mIn cB)
  | 0, j, h => absurd h (Nat.not_lt_zero j)
  | i + 1, j, h => by
    have h1 := mHeap_size cA cB H i
    simp only [mHeap, Array.getElem?_setIfInBounds, Array.getElem?_push, h1]
    rw [if_neg (by omega)]
    by_cases hj : j = i
    · rw [if_pos (by omega)]
    · rw [if_neg (by omega)]
      exact mHeap_in cA cB H i j (by omega)
def mSt (cA cB : Nat) (T : State) : Nat → State
  | 0 => T.pushCell (mOut cA T.heap.size 0)
  | i + 1 => ((mSt cA cB T i).pushCell (mIn cB)).setCell T.heap.size (mOut cA T.heap.size (i + 1))
theorem mSt_heap (cA cB : Nat) (T : State) : ∀ i, (mSt cA cB T i).heap = mHeap cA cB T.heap i
  | 0 => rfl
  | i + 1 => by
    have h := mSt_heap cA cB T i
    show (((mSt cA cB T i).heap.push (mIn cB)).setIfInBounds T.heap.size _) = _
    rw [h]; rfl
theorem mSt_vm (cA cB : Nat) (T : State) : ∀ i, (mSt cA cB T i).vm = T.vm
  | 0 => rfl
  | i + 1 => mSt_vm cA cB T i
theorem mSt_used (cA cB : Nat) (T : State) : ∀ i, (mSt cA cB T i).slotsUsed = T.slotsUsed + 6 + 6 * i
  | 0 => by show T.slotsUsed + (mOut cA T.heap.size 0).slots.size = _; rw [mOut_size]
  | i + 1 => by
    have h := mSt_used cA cB T i
    show (mSt cA cB T i).slotsUsed + 6 = _
    omega
theorem mSt_top (cA cB : Nat) (T : State) (f : JFrame) : ∀ i, mSt cA cB (T.setTop f) i = (mSt cA cB T i).setTop f
  | 0 => rfl
  | i + 1 => by simp only [mSt, mSt_top cA cB T f i, State.heap_setTop, State.pushCell_setTop, State.setCell_setTop]
section MUL
variable {p : Program} {l : Launch} {e : Env} {R : Room} {s : State} {m : MethodId} {args : Array Value} {below : List Frame} {meth : Method} {c : Code} {T : State} {locs : List Loc} {cells slots : Nat}
theorem mStand (X : Stand p l e R s m args below meth c T locs cells slots) (cA cB : Nat) : ∀ i, i ≤ 6 → ∃ L, Stand p l e R s m args below meth c (mSt cA cB T i) (locs ++ L) (cells + 1 + i) (slots + 6 + 6 * i) ∧ ∀ q ∈ L, q.base = T.heap.size
  | 0, _ => by
    have h := X.pushed (mOut cA T.heap.size 0)
    rw [mOut_size] at h
    exact ⟨[], by rw [List.append_nil]; exact h, fun q hq => by cases hq⟩
  | i + 1, hi => by
    obtain ⟨L, h, hL⟩ := mStand X cA cB i (by omega)
    have hc : ((mSt cA cB T i).pushCell (mIn cB)).heap[T.heap.size]? = some (mOut cA T.heap.size i) := by
      show ((mSt cA cB T i).heap.push (mIn cB))[T.heap.size]? = _
      rw [mSt_heap, Array.getElem?_push, if_neg (by rw [mHeap_size]; omega)]
      exact mHeap_out cA cB T.heap i
    have h2 := (h.pushed (mIn cB)).stored hc i (.ref (T.heap.size + 1 + i))
    rw [mOut_set _ _ _ (by omega)] at h2
    refine ⟨L ++ [⟨T.heap.size, i⟩], ?_, fun q hq => ?_⟩
    · rw [← List.append_assoc]
      have e1 : slots + 6 + 6 * (i + 1) = slots + 6 + 6 * i + (mIn cB).slots.size := by
        have : (mIn cB).slots.size = 6 := by simp [mIn]
        omega
      rw [e1]
      exact h2
    · rcases List.mem_append.mp hq with h | h
      · exact hL q h
      · rw [List.mem_singleton.mp h]
end MUL
section MUW
variable {E : CtlPost} {e : Env} {d : Bool} {acts : List Action} {s : State}
theorem mw_new {c comp : ClassId} {k : Class} {type : FieldType} {init : Value} (hk : s.vm.classes[c]? = some k) (hkind : k.kind = .array comp type)
    (hl : 6 ≤ e.platform.arrayLengthLimit) (hh : 6 * componentBytes type ≤ e.platform.maxHeapBytes) (hfit : fits type init = true) (hdef : init.isDefault = true) {Q : Addr → Pre}
    (h1 : s.heap.size < e.platform.maxCells) (h2 : s.slotsUsed + 6 ≤ e.platform.maxSlots)
    (hq : Q s.heap.size d acts (s.pushCell { cls := c, slots := Array.replicate 6 init, vm := .none })) : wp (Jvm.newArray c 6 init) Q E e d acts s := by
  have f1 : ∀ i v, (Array.replicate 6 init)[i]? = some v → s.fitsSlot c .none i v = true := by
    intro i v hv
    rw [Array.getElem?_replicate] at hv
    split at hv
    · cases hv
      simp [State.fitsSlot, State.slotType?, hk, hkind, hfit]
    · cases hv
  have f2 : allocActs (Array.replicate 6 init) s.heap.size acts = acts := by
    have ha : ((Array.replicate 6 init).all (·.isDefault)) = true := by
      rw [Array.all_replicate]
      simp [hdef]
    unfold allocActs
    rw [if_pos ha]
  have g1 : ¬ 6 > e.platform.arrayLengthLimit := by omega
  have g2 : ¬ 6 * componentBytes type > e.platform.maxHeapBytes := by omega
  simp only [Jvm.newArray, Jvm.arrayFits, wp_bind', W.ask, W.ite, g1, if_false, wp_pure', W.theClass, hk, hkind, g2, W.alloc, W.stop, Option.some.injEq, exists_eq_left', Array.size_replicate, f2]
  rw [if_neg (by omega)]
  exact ⟨h1, h2, f1, hq⟩
theorem mw_in {cB cI : ClassId} {kB : Class} (hk : s.vm.classes[cB]? = some kB) (hkind : kB.kind = .array cI .int) (hl : 6 ≤ e.platform.arrayLengthLimit) (hh : 24 ≤ e.platform.maxHeapBytes)
    (h1 : s.heap.size < e.platform.maxCells) (h2 : s.slotsUsed + 6 ≤ e.platform.maxSlots) {Q : Addr → Pre} (hq : Q s.heap.size d acts (s.pushCell (mIn cB))) : wp (Op.multianewarray.make cB [6]) Q E e d acts s := by
  rw [Op.multianewarray.make]
  have h0 : ¬ (6 : Int32) < 0 := by decide
  have h6 : (6 : Int32).toNatClampNeg = 6 := by decide
  simp only [wp_bind', W.ite, h0, if_false, wp_pure', W.theClass, hk, hkind, Option.some.injEq, exists_eq_left', h6]
  exact mw_new hk hkind hl (by show 6 * 4 ≤ _; omega) rfl rfl h1 h2 hq
theorem mw_out {cA cB cI : ClassId} {kA kB : Class} (hkA : s.vm.classes[cA]? = some kA) (hA : kA.kind = .array cB (.array .int)) (hkB : s.vm.classes[cB]? = some kB) (hB : kB.kind = .array cI .int) (hl : 6 ≤ e.platform.arrayLengthLimit) (hh : 24 ≤ e.platform.maxHeapBytes)
    (h1 : s.heap.size + 7 ≤ e.platform.maxCells) (h2 : s.slotsUsed + 42 ≤ e.platform.maxSlots) {Q : Addr → Pre} (hq : ∀ d' acts', Q s.heap.size d' acts' (mSt cA cB s 6)) : wp (Op.multianewarray.make cA [6, 6]) Q E e d acts s := by
  have h0 : ¬ (6 : Int32) < 0 := by decide
  have h6 : (6 : Int32).toNatClampNeg = 6 := by decide
  have hf : ([(6 : Int32)].find? (· < 0)) = none := by decide
  rw [Op.multianewarray.make]
  simp only [wp_bind', W.ite, h0, if_false, wp_pure', W.theClass, hkA, hA, Option.some.injEq, exists_eq_left', h6]
  refine mw_new hkA hA hl (by show 6 * 4 ≤ _; omega) rfl rfl (by omega) (by omega) ?_
  simp only [hf]
  rw [ite_self, wp_bind', Std.Legacy.Range.forIn_eq_forIn_range']
  have hsz : ([:6] : Std.Legacy.Range).size = 6 := by simp [Std.Legacy.Range.size]
  rw [hsz]
  show wp (forIn (List.range' 0 6 1) PUnit.unit _) _ E e d acts _
  refine wp_forIn_inv (fun rest s' => ∃ i, i ≤ 6 ∧ rest = List.range' i (6 - i) ∧ s' = mSt cA cB s i) _ _ ⟨0, Nat.zero_le _, rfl, rfl⟩ ?_ ?_
  · rintro x rest s' d' acts' Q' ⟨i, hi, hl9, rfl⟩ hnext
    have hlt : i < 6 := by
      rcases Nat.lt_or_ge i 6 with h | h
      · exact h
      · rw [show 6 - i = 0 from by omega] at hl9; simp at hl9
    obtain ⟨rfl, hrest⟩ : x = i ∧ rest = List.range' (i + 1) (6 - (i + 1)) := by
      rw [show 6 - i = (6 - (i + 1)) + 1 from by omega, List.range'_succ] at hl9
      exact ⟨(List.cons.inj hl9).1, (List.cons.inj hl9).2⟩
    have z1 : (mSt cA cB s x).heap.size = s.heap.size + 1 + x := by rw [mSt_heap, mHeap_size]
    have z2 := mSt_used cA cB s x
    simp only [wp_bind']
    refine mw_in (by rw [mSt_vm]; exact hkB) hB hl hh (by omega) (by omega) ?_
    have hc : ((mSt cA cB s x).pushCell (mIn cB)).heap[s.heap.size]? = some (mOut cA s.heap.size x) := by
      show ((mSt cA cB s x).heap.push (mIn cB))[s.heap.size]? = _
      rw [mSt_heap, Array.getElem?_push, if_neg (by rw [mHeap_size]; omega)]
      exact mHeap_out cA cB s.heap x
    simp only [wp_bind', W.writeLoc, wp_pure']
    refine ⟨mOut cA s.heap.size x, hc, by simp [mOut], by rw [mOut_size]; exact hlt, ?_, hnext _ _ _ ⟨x + 1, hlt, hrest, ?_⟩⟩
    · show State.fitsSlot _ cA .none x (.ref _) = true
      have hvm : ((mSt cA cB s x).pushCell (mIn cB)).vm = s.vm := mSt_vm cA cB s x
      unfold State.fitsSlot State.slotType?
      rw [hvm, hkA]
      simp only [Option.bind_eq_bind, Option.bind_some, hA]
      rfl
    · rw [z1]
      show ((mSt cA cB s x).pushCell (mIn cB)).setCell s.heap.size ((mOut cA s.heap.size x).setSlot x (.ref (s.heap.size + 1 + x))) = _
      rw [mOut_set _ _ _ hlt]
      rfl
  · rintro s' d' acts' ⟨i, hi, hl9, rfl⟩
    have hi6 : i = 6 := by
      rcases Nat.lt_or_ge i 6 with h | h
      · rw [show 6 - i = (6 - (i + 1)) + 1 from by omega, List.range'_succ] at hl9; cases hl9
      · omega
    subst hi6
    simp only [wp_pure']
    exact hq _ _
end MUW
section MUX
variable {p : Program} {l : Launch} {e : Env} {R : Room} {s : State} {m : MethodId} {args : Array Value} {below : List Frame} {meth : Method} {c : Code} {T : State} {locs : List Loc} {cells slots : Nat}
theorem mStep (X : Stand p l e R s m args below meth c T locs cells slots) (hexec : p.tables.exec = Jvm.exec) {own : String} {index : Nat} {cA cB cI : ClassId} {kA kB : Class}
    (hown : s.vm.findClass own = some m.cls) (hclink : (Cond.classLink own index "[[I").before args s = true) (hfA : s.vm.findClass "[[I" = some cA) (hkA : s.vm.classes[cA]? = some kA) (hA : kA.kind = .array cB (.array .int)) (hkB : s.vm.classes[cB]? = some kB) (hB : kB.kind = .array cI .int)
    {pc : Nat} {ls : Array Slot} {rest : List Value} (hdg : decode c.code pc = .ok (.multianewarray index 2, 4)) (hcells : cells + 7 ≤ R.cells) (hslots : slots + 42 ≤ R.slots) :
    ∃ (vm₁ : Vm), s.WarmedH vm₁ ∧ ∀ target, Steps p.tables e below ((mSt cA cB (T.setVm vm₁) 6).setTop (F0 m (pc + 4) ls (.ref T.heap.size :: rest))) target → Steps p.tables e below (T.setTop (F0 m pc ls (.int 6 :: .int 6 :: rest))) target := by
  have hpl : e.platform.magicAccessors = ({} : Platform).magicAccessors := by rw [X.admits.platform]
  obtain ⟨c0, hfc0, hcl⟩ := Cond.classLink_spec hown hclink e.platform hpl
  cases hfA.symm.trans hfc0
  obtain ⟨hg₁, hwarm₁, hready₁⟩ := State.classEntry (e := e) X.warmed hcl
  generalize T.vm.noted m.cls index (.cls cA) = vm₁ at hg₁ hwarm₁ hready₁
  obtain ⟨kA₁, hkA₁, heA⟩ := hwarm₁.alike.2.2 _ _ hkA
  obtain ⟨kB₁, hkB₁, heB⟩ := hwarm₁.alike.2.2 _ _ hkB
  have X₁ := X.noted hwarm₁
  obtain ⟨hr1, hr2⟩ := X.roomAbove hcells hslots
  refine ⟨vm₁, hwarm₁, fun target hrest => ?_⟩
  have hl1 : 6 ≤ e.platform.arrayLengthLimit := by rw [Launch.admits_arrayLengthLimit X.admits]; decide
  have hh1 : 24 ≤ e.platform.maxHeapBytes := by rw [Launch.admits_maxHeapBytes X.admits]; decide
  jvm_step X.here [hexec, hdg]
  simp only [Op.multianewarray.sem, wp_bind', W.resolveClassAt_links (State.method?_setTop (F0 m pc ls (.int 6 :: .int 6 :: rest)) X.here.top) hg₁]
  rw [W.popN, if_neg (by decide)]
  refine ⟨F0 m pc ls (.int 6 :: .int 6 :: rest), State.topJava?_setTop' (s := T.setVm vm₁) _ X.here.top, [.int 6, .int 6], rest, rfl, rfl, ?_⟩
  simp only [List.mapM_cons, List.mapM_nil, wp_bind', wp_pure']
  refine mw_out (kA := kA₁) (kB := kB₁) (cI := cI) hkA₁ (by rw [heA]; exact hA) hkB₁ (by rw [heB]; exact hB) hl1 hh1 (by show T.heap.size + 7 ≤ _; exact hr1) (by show T.slotsUsed + 42 ≤ _; exact hr2) (fun d' acts' => ?_)
  obtain ⟨L, XF, -⟩ := mStand X₁ cA cB 6 (Nat.le_refl _)
  have eS : ∀ f1 f2 : JFrame, ((T.setTop f1).setVm vm₁).setTop f2 = (T.setVm vm₁).setTop f2 := fun f1 f2 => by
    show ((T.setVm vm₁).setTop f1).setTop _ = _
    rw [State.setTop_setTop]
  rw [eS, mSt_top]
  simp only [wp_bind', W.mark, W.pushRef, State.topJava?_setTop' _ XF.here.top, Option.some.injEq, exists_eq_left', State.setTop_setTop, State.heap_setTop]
  intro acts
  simp [jvm, XF.here.top]
  exact hrest
end MUX
/-- the rows that multianewarray makes: the outer one, then six of six ints -/
def nwM (M : Mem) : Mem := (sh M ++ [(103, 6), (100, 6), (100, 6), (100, 6), (100, 6), (100, 6), (100, 6)], (fun a => if a < (sh M).length then mi M a else fun _ => 0), (fun a => if a < (sh M).length then ml M a else fun _ => 0), (fun a => if a < (sh M).length then mr M a else if a = (sh M).length then fun k => if k < 6 then some ((sh M).length + 1 + k) else none else fun _ => none), sc M)
theorem vv_nwM_n {M : Mem} {i : Nat} (t q : Nat) (h : i < (sh M).length) : vv t (nwM M) i q = vv t M i q := by
  match t with
  | 0 => show Value.int ((if i < (sh M).length then mi M i else fun _ => 0) q) = _; rw [if_pos h]; rfl
  | 1 => show Value.long ((if i < (sh M).length then ml M i else fun _ => 0) q) = _; rw [if_pos h]; rfl
  | t + 2 => show rv ((if i < (sh M).length then mr M i else _) q) = _; rw [if_pos h]; rfl
theorem arrV_of {cA N : Nat} {sl : Array Value} {f : Nat → Value} (h1 : sl.size = N) (h2 : ∀ j, j < N → sl[j]? = some (f j)) : ({ cls := cA, slots := sl, vm := .none } : Cell) = arrV cA N f := by
  unfold arrV
  congr 1
  apply Array.ext
  · simp [h1]
  · intro i hi1 hi2
    have := h2 i (by omega)
    rw [Array.getElem?_eq_getElem hi1] at this
    simpa using this
theorem mOut_arr {cA q0 : Nat} {f : Nat → Value} (hf : ∀ j, j < 6 → f j = .ref (q0 + 1 + j)) : mOut cA q0 6 = arrV cA 6 f := arrV_of (by simp) (fun j hj => by rw [hf j hj]; simp [hj])
theorem mIn_arr {cB : Nat} {f : Nat → Value} (hf : ∀ j, j < 6 → f j = .int 0) : mIn cB = arrV cB 6 f := arrV_of (by simp) (fun j hj => by rw [hf j hj]; simp [hj])
theorem nwM_out (M : Mem) (j : Nat) (hj : j < 6) : vv (akt 103) (nwM M) (sh M).length j = .ref ((sh M).length + 1 + j) := by
  show rv ((if (sh M).length < (sh M).length then mr M (sh M).length else if (sh M).length = (sh M).length then fun k => if k < 6 then some ((sh M).length + 1 + k) else none else fun _ => none) j) = _
  rw [if_neg (by omega), if_pos rfl]
  show rv (if j < 6 then _ else none) = _
  rw [if_pos hj]
  rfl
theorem nwM_in (M : Mem) (k j : Nat) : vv (akt 100) (nwM M) ((sh M).length + k) j = .int 0 := by
  show Value.int ((if (sh M).length + k < (sh M).length then mi M ((sh M).length + k) else fun _ => 0) j) = _
  rw [if_neg (by omega)]
theorem ex_multi {d : Nat} {y : Mth} {bc bs pc index : Nat} {lo : List (Option Value)} {st : List Value} {M : Mem} {Φ : Option Value → Mem → Prop} (hd : decode y.2.1 pc = .ok (.multianewarray index 2, 4)) (hk : Cond.classLink y.1.cls index "[[I" ∈ gtbl) (hb : 7 ≤ bc ∧ 42 ≤ bs) (hlen : (sh M).length + 7 ≤ 1048576)
    (kk : Ex d y (bc - 7) (bs - 42) (pc + 4) lo (.ref (sh M).length :: st) (nwM M) Φ) : Ex d y bc bs pc lo (.int 6 :: .int 6 :: st) M Φ := fun E p e R s m args below meth cc H locs cells slots ls ok hp hc hn hl => by
  have hts := ok.2.2.2.2.2.1
  have hE := ok.2.2.2.2.2.2.2.2.1
  obtain ⟨kA, hkA, hA⟩ := hE.2.2.2.1.2.2.2
  obtain ⟨-, kB, hkB, cI, hB⟩ := (hE.2.1 100 (by omega) (by omega)).1 0 (fun _ => .null)
  have hfA : s.vm.findClass "[[I" = some (eT E 103) := by
    have h := (hE.2.1 103 (by omega) (by omega)).2
    have e9 : "[" ++ (FieldType.array .int).toString = "[[I" := by decide +kernel
    rw [← e9]
    exact h
  intro T hT X
  obtain ⟨vm', hW, step⟩ := mStep X ok.1 ok.2.2.2.2.1 (hts _ hk) hfA hkA hA hkB hB (pc := pc) (ls := ls) (rest := st.map (cv E)) (by rw [ok.2.1]; exact hd) (by omega) (by omega)
  obtain ⟨L, XF, hL⟩ := mStand (X.noted hW) (eT E 103) (eT E 100) 6 (Nat.le_refl _)
  have hH : (mSt (eT E 103) (eT E 100) (T.setVm vm') 6).heap = mHeap (eT E 103) (eT E 100) H 6 := by rw [mSt_heap]; show mHeap _ _ T.heap 6 = _; rw [hT]
  have hz : (mHeap (eT E 103) (eT E 100) H 6).size = H.size + 7 := by rw [mHeap_size]
  have hs0 := hp.1.1
  have hW2 : Wd E (nwM M) (mHeap (eT E 103) (eT E 100) H 6) := by
    refine ⟨by rw [hz, hs0]; show _ = eZ E + (sh M ++ _).length; rw [List.length_append]; rfl, by show (sh M ++ _).length ≤ _; rw [List.length_append]; exact hlen, fun q hq => by rw [mHeap_old _ _ _ (by rw [hs0]; omega)]; exact hp.1.2.2.1 q hq, fun i kn hi => ?_, hp.1.2.2.2.2⟩
    by_cases hij : i < (sh M).length
    · have hi2 : (sh M)[i]? = some kn := by rw [← hi]; show _ = (sh M ++ _)[i]?; rw [List.getElem?_append_left hij]
      have h1 := hp.1.2.2.2.1 i kn hi2
      have e : (mHeap (eT E 103) (eT E 100) H 6)[eZ E + i]? = H[eZ E + i]? := mHeap_old _ _ _ (by rw [hs0]; omega) 6
      unfold cellOk at h1 ⊢
      split
      · rename_i hc9
        rw [if_pos hc9] at h1
        obtain ⟨r, a1, a2, a3⟩ := h1
        exact ⟨r, a1, a2, (a3.kept e).to (fun k _ => by rw [vv_nwM_n _ _ hij])⟩
      · rename_i hc9
        rw [if_neg hc9] at h1
        have ef : (fun k => cv E (vv (akt kn.1) (nwM M) i k)) = (fun k => cv E (vv (akt kn.1) M i k)) := funext fun k => by rw [vv_nwM_n _ _ hij]
        rw [e, h1, ef]
    · have hi3 : ([(103, 6), (100, 6), (100, 6), (100, 6), (100, 6), (100, 6), (100, 6)] : List (Nat × Nat))[i - (sh M).length]? = some kn := by
        rw [← hi]; show _ = (sh M ++ _)[i]?; rw [List.getElem?_append_right (by omega)]
      have hr := (List.getElem?_eq_some_iff.mp hi3).1
      obtain ⟨k, hk9⟩ : ∃ k, i = (sh M).length + k := ⟨i - (sh M).length, by omega⟩
      subst hk9
      rw [Nat.add_sub_cancel_left] at hi3 hr
      simp only [List.length_cons, List.length_nil] at hr
      by_cases hk0 : k = 0
      · subst hk0
        cases hi3
        unfold cellOk
        rw [if_neg (show ¬ (103 : Nat) < 100 by omega)]
        have e := mHeap_out (eT E 103) (eT E 100) H 6
        rw [hs0] at e
        rw [Nat.add_zero, e]
        refine congrArg some (mOut_arr (fun j hj => ?_))
        have hlt : ad E ((sh M).length + 1 + j) = eZ E + (sh M).length + 1 + j := by rw [ad_lt (by omega)]; omega
        show cv E (vv (akt 103) (nwM M) ((sh M).length + 0) j) = _
        rw [Nat.add_zero, nwM_out M j hj]
        exact congrArg Value.ref hlt
      · have hkn : kn = (100, 6) := by
          rcases (show k = 1 ∨ k = 2 ∨ k = 3 ∨ k = 4 ∨ k = 5 ∨ k = 6 by omega) with rfl | rfl | rfl | rfl | rfl | rfl <;> (cases hi3; rfl)
        subst hkn
        unfold cellOk
        rw [if_neg (show ¬ (100 : Nat) < 100 by omega)]
        have e := mHeap_in (eT E 103) (eT E 100) H 6 (k - 1) (by omega)
        rw [hs0] at e
        rw [show eZ E + ((sh M).length + k) = eZ E + (sh M).length + 1 + (k - 1) by omega, e]
        refine congrArg some (mIn_arr (fun j hj => ?_))
        show cv E (vv (akt 100) (nwM M) ((sh M).length + k) j) = _
        rw [nwM_in M k j]
        rfl
  obtain ⟨t, a1, b1⟩ := kk E p e R s m args below meth cc (mHeap (eT E 103) (eT E 100) H 6) (locs ++ L) (cells + 1 + 6) (slots + 6 + 6 * 6) ls ok ⟨hW2, by rw [hz]; exact Nat.le_trans hp.2.1 (by omega), fun q hq => by
    rcases List.mem_append.mp hq with h | h
    · exact hp.2.2 q h
    · rw [hL q h]; show eZ E ≤ T.heap.size; rw [hT, hs0]; omega⟩ (by omega) (by omega) hl _ hH XF
  refine ⟨t, step t ?_, b1⟩
  have e8 : T.heap.size = ad E (sh M).length := by rw [hT, ad_lt (by omega), hs0]
  rw [e8]
  exact a1
end
section
theorem i_vc : Claimed_1_1 ∧ Claimed_1_2 := sorry
end

-- ===== PART A: goes FIRST, ahead of the names: the tables' words, and 'selects' of the private methods out of them =====
/-- a private method of a class that the tables say can be made, by its rows of tables_1 -/
def lw_okq (q : MethodName × Nat) : Prop := (q.1.cls ≠ "java/lang/invoke/MethodHandle" ∧ q.1.cls ≠ "java/lang/invoke/VarHandle") ∧ Cond.instantiable q.1.cls q.2 ∈ tables_1 ∧ Cond.privateMethod q.1 ∈ tables_1 ∧ Cond.instanceMethod q.1 ∈ tables_1
theorem lw_p0 : lw_okq (⟨"AcreBuys", "refuse", "(I)I"⟩, 8) := ⟨⟨by decide +kernel, by decide +kernel⟩, List.mem_of_getElem? (i := 16) (by decide +kernel), List.mem_of_getElem? (i := 210) (by decide +kernel), List.mem_of_getElem? (i := 211) (by decide +kernel)⟩
theorem lw_p1 : lw_okq (⟨"AcreBuys$Land", "addField", "(II)I"⟩, 17) := ⟨⟨by decide +kernel, by decide +kernel⟩, List.mem_of_getElem? (i := 24) (by decide +kernel), List.mem_of_getElem? (i := 215) (by decide +kernel), List.mem_of_getElem? (i := 216) (by decide +kernel)⟩
theorem lw_p2 : lw_okq (⟨"AcreBuys$Land", "hasField", "(I)Z"⟩, 17) := ⟨⟨by decide +kernel, by decide +kernel⟩, List.mem_of_getElem? (i := 24) (by decide +kernel), List.mem_of_getElem? (i := 223) (by decide +kernel), List.mem_of_getElem? (i := 224) (by decide +kernel)⟩
theorem lw_p3 : lw_okq (⟨"AcreBuys$Land", "holderOf", "(I)I"⟩, 17) := ⟨⟨by decide +kernel, by decide +kernel⟩, List.mem_of_getElem? (i := 24) (by decide +kernel), List.mem_of_getElem? (i := 228) (by decide +kernel), List.mem_of_getElem? (i := 229) (by decide +kernel)⟩
theorem lw_p4 : lw_okq (⟨"AcreBuys$Land", "priceNow", "(I)I"⟩, 17) := ⟨⟨by decide +kernel, by decide +kernel⟩, List.mem_of_getElem? (i := 24) (by decide +kernel), List.mem_of_getElem? (i := 235) (by decide +kernel), List.mem_of_getElem? (i := 236) (by decide +kernel)⟩
theorem lw_p5 : lw_okq (⟨"AcreBuys$Land", "priceBy", "(II)I"⟩, 17) := ⟨⟨by decide +kernel, by decide +kernel⟩, List.mem_of_getElem? (i := 24) (by decide +kernel), List.mem_of_getElem? (i := 239) (by decide +kernel), List.mem_of_getElem? (i := 240) (by decide +kernel)⟩
theorem lw_p6 : lw_okq (⟨"AcreBuys$Land", "heardBy", "(II)I"⟩, 17) := ⟨⟨by decide +kernel, by decide +kernel⟩, List.mem_of_getElem? (i := 24) (by decide +kernel), List.mem_of_getElem? (i := 243) (by decide +kernel), List.mem_of_getElem? (i := 244) (by decide +kernel)⟩
theorem lw_p7 : lw_okq (⟨"AcreBuys$Land", "tellersOf", "(I)I"⟩, 17) := ⟨⟨by decide +kernel, by decide +kernel⟩, List.mem_of_getElem? (i := 24) (by decide +kernel), List.mem_of_getElem? (i := 247) (by decide +kernel), List.mem_of_getElem? (i := 248) (by decide +kernel)⟩
theorem lw_p8 : lw_okq (⟨"AcreBuys$Land", "priceHearing", "(II)I"⟩, 17) := ⟨⟨by decide +kernel, by decide +kernel⟩, List.mem_of_getElem? (i := 24) (by decide +kernel), List.mem_of_getElem? (i := 257) (by decide +kernel), List.mem_of_getElem? (i := 258) (by decide +kernel)⟩
theorem lw_p9 : lw_okq (⟨"AcreBuys$Land", "isFree", "(I)Z"⟩, 17) := ⟨⟨by decide +kernel, by decide +kernel⟩, List.mem_of_getElem? (i := 24) (by decide +kernel), List.mem_of_getElem? (i := 304) (by decide +kernel), List.mem_of_getElem? (i := 305) (by decide +kernel)⟩
theorem lw_p10 : lw_okq (⟨"AcreBuys$Land", "freeIn", "(I)I"⟩, 17) := ⟨⟨by decide +kernel, by decide +kernel⟩, List.mem_of_getElem? (i := 24) (by decide +kernel), List.mem_of_getElem? (i := 308) (by decide +kernel), List.mem_of_getElem? (i := 309) (by decide +kernel)⟩
theorem lw_p11 : lw_okq (⟨"AcreBuys$Land", "allFields", "()I"⟩, 17) := ⟨⟨by decide +kernel, by decide +kernel⟩, List.mem_of_getElem? (i := 24) (by decide +kernel), List.mem_of_getElem? (i := 312) (by decide +kernel), List.mem_of_getElem? (i := 313) (by decide +kernel)⟩
theorem lw_p12 : lw_okq (⟨"AcreBuys$Land", "bid", "(II)Z"⟩, 17) := ⟨⟨by decide +kernel, by decide +kernel⟩, List.mem_of_getElem? (i := 24) (by decide +kernel), List.mem_of_getElem? (i := 317) (by decide +kernel), List.mem_of_getElem? (i := 318) (by decide +kernel)⟩
theorem lw_p13 : lw_okq (⟨"AcreBuys$Land", "buy", "(II)V"⟩, 17) := ⟨⟨by decide +kernel, by decide +kernel⟩, List.mem_of_getElem? (i := 24) (by decide +kernel), List.mem_of_getElem? (i := 322) (by decide +kernel), List.mem_of_getElem? (i := 323) (by decide +kernel)⟩
theorem lw_p14 : lw_okq (⟨"AcreBuys$Land", "dropPaper", "(I)V"⟩, 17) := ⟨⟨by decide +kernel, by decide +kernel⟩, List.mem_of_getElem? (i := 24) (by decide +kernel), List.mem_of_getElem? (i := 326) (by decide +kernel), List.mem_of_getElem? (i := 327) (by decide +kernel)⟩
theorem lw_p15 : lw_okq (⟨"AcreBuys$Land", "takePaper", "(II)I"⟩, 17) := ⟨⟨by decide +kernel, by decide +kernel⟩, List.mem_of_getElem? (i := 24) (by decide +kernel), List.mem_of_getElem? (i := 337) (by decide +kernel), List.mem_of_getElem? (i := 338) (by decide +kernel)⟩
def lw_privs_1 : List (MethodName × Nat) := [(⟨"AcreBuys", "refuse", "(I)I"⟩, 8), (⟨"AcreBuys$Land", "addField", "(II)I"⟩, 17), (⟨"AcreBuys$Land", "hasField", "(I)Z"⟩, 17), (⟨"AcreBuys$Land", "holderOf", "(I)I"⟩, 17), (⟨"AcreBuys$Land", "priceNow", "(I)I"⟩, 17), (⟨"AcreBuys$Land", "priceBy", "(II)I"⟩, 17), (⟨"AcreBuys$Land", "heardBy", "(II)I"⟩, 17), (⟨"AcreBuys$Land", "tellersOf", "(I)I"⟩, 17), (⟨"AcreBuys$Land", "priceHearing", "(II)I"⟩, 17), (⟨"AcreBuys$Land", "isFree", "(I)Z"⟩, 17), (⟨"AcreBuys$Land", "freeIn", "(I)I"⟩, 17), (⟨"AcreBuys$Land", "allFields", "()I"⟩, 17), (⟨"AcreBuys$Land", "bid", "(II)Z"⟩, 17), (⟨"AcreBuys$Land", "buy", "(II)V"⟩, 17), (⟨"AcreBuys$Land", "dropPaper", "(I)V"⟩, 17), (⟨"AcreBuys$Land", "takePaper", "(II)I"⟩, 17)]
theorem lw_r1 : ∀ q ∈ lw_privs_1, lw_okq q := List.forall_mem_cons.mpr ⟨lw_p0, List.forall_mem_cons.mpr ⟨lw_p1, List.forall_mem_cons.mpr ⟨lw_p2, List.forall_mem_cons.mpr ⟨lw_p3, List.forall_mem_cons.mpr ⟨lw_p4, List.forall_mem_cons.mpr ⟨lw_p5, List.forall_mem_cons.mpr ⟨lw_p6, List.forall_mem_cons.mpr ⟨lw_p7, List.forall_mem_cons.mpr ⟨lw_p8, List.forall_mem_cons.mpr ⟨lw_p9, List.forall_mem_cons.mpr ⟨lw_p10, List.forall_mem_cons.mpr ⟨lw_p11, List.forall_mem_cons.mpr ⟨lw_p12, List.forall_mem_cons.mpr ⟨lw_p13, List.forall_mem_cons.mpr ⟨lw_p14, List.forall_mem_cons.mpr ⟨lw_p15, fun _ h => absurd h List.not_mem_nil⟩⟩⟩⟩⟩⟩⟩⟩⟩⟩⟩⟩⟩⟩⟩⟩
theorem lw_p16 : lw_okq (⟨"AcreBuys$Land", "dropPastPapers", "()V"⟩, 17) := ⟨⟨by decide +kernel, by decide +kernel⟩, List.mem_of_getElem? (i := 24) (by decide +kernel), List.mem_of_getElem? (i := 365) (by decide +kernel), List.mem_of_getElem? (i := 366) (by decide +kernel)⟩
theorem lw_p17 : lw_okq (⟨"AcreBuys$Land", "rivalTakes", "()I"⟩, 17) := ⟨⟨by decide +kernel, by decide +kernel⟩, List.mem_of_getElem? (i := 24) (by decide +kernel), List.mem_of_getElem? (i := 369) (by decide +kernel), List.mem_of_getElem? (i := 370) (by decide +kernel)⟩
theorem lw_p18 : lw_okq (⟨"AcreBuys$Land", "calmDown", "()V"⟩, 17) := ⟨⟨by decide +kernel, by decide +kernel⟩, List.mem_of_getElem? (i := 24) (by decide +kernel), List.mem_of_getElem? (i := 375) (by decide +kernel), List.mem_of_getElem? (i := 376) (by decide +kernel)⟩
theorem lw_p19 : lw_okq (⟨"AcreBuys$Land", "addStrip", "(II)I"⟩, 17) := ⟨⟨by decide +kernel, by decide +kernel⟩, List.mem_of_getElem? (i := 24) (by decide +kernel), List.mem_of_getElem? (i := 393) (by decide +kernel), List.mem_of_getElem? (i := 394) (by decide +kernel)⟩
theorem lw_p20 : lw_okq (⟨"AcreBuys$Land", "hasStrip", "(I)Z"⟩, 17) := ⟨⟨by decide +kernel, by decide +kernel⟩, List.mem_of_getElem? (i := 24) (by decide +kernel), List.mem_of_getElem? (i := 401) (by decide +kernel), List.mem_of_getElem? (i := 402) (by decide +kernel)⟩
theorem lw_p21 : lw_okq (⟨"AcreBuys$Land", "isHad", "(I)Z"⟩, 17) := ⟨⟨by decide +kernel, by decide +kernel⟩, List.mem_of_getElem? (i := 24) (by decide +kernel), List.mem_of_getElem? (i := 405) (by decide +kernel), List.mem_of_getElem? (i := 406) (by decide +kernel)⟩
theorem lw_p22 : lw_okq (⟨"AcreBuys$Land", "missingOf", "(I)I"⟩, 17) := ⟨⟨by decide +kernel, by decide +kernel⟩, List.mem_of_getElem? (i := 24) (by decide +kernel), List.mem_of_getElem? (i := 409) (by decide +kernel), List.mem_of_getElem? (i := 410) (by decide +kernel)⟩
theorem lw_p23 : lw_okq (⟨"AcreBuys$Land", "canBe", "(I)Z"⟩, 17) := ⟨⟨by decide +kernel, by decide +kernel⟩, List.mem_of_getElem? (i := 24) (by decide +kernel), List.mem_of_getElem? (i := 413) (by decide +kernel), List.mem_of_getElem? (i := 414) (by decide +kernel)⟩
theorem lw_p24 : lw_okq (⟨"AcreBuys", "hindranceOf", "(I)I"⟩, 8) := ⟨⟨by decide +kernel, by decide +kernel⟩, List.mem_of_getElem? (i := 16) (by decide +kernel), List.mem_of_getElem? (i := 425) (by decide +kernel), List.mem_of_getElem? (i := 426) (by decide +kernel)⟩
theorem lw_p25 : lw_okq (⟨"AcreBuys", "leastCost", "(I)I"⟩, 8) := ⟨⟨by decide +kernel, by decide +kernel⟩, List.mem_of_getElem? (i := 16) (by decide +kernel), List.mem_of_getElem? (i := 431) (by decide +kernel), List.mem_of_getElem? (i := 432) (by decide +kernel)⟩
theorem lw_p26 : lw_okq (⟨"AcreBuys$OrderSearch", "run", "(LAcreBuys$Land;I)I"⟩, 5) := ⟨⟨by decide +kernel, by decide +kernel⟩, List.mem_of_getElem? (i := 102) (by decide +kernel), List.mem_of_getElem? (i := 435) (by decide +kernel), List.mem_of_getElem? (i := 436) (by decide +kernel)⟩
theorem lw_p27 : lw_okq (⟨"AcreBuys$OrderSearch", "layRow", "(LAcreBuys$Land;I)V"⟩, 5) := ⟨⟨by decide +kernel, by decide +kernel⟩, List.mem_of_getElem? (i := 102) (by decide +kernel), List.mem_of_getElem? (i := 439) (by decide +kernel), List.mem_of_getElem? (i := 440) (by decide +kernel)⟩
theorem lw_p28 : lw_okq (⟨"AcreBuys$OrderSearch", "costBy", "(II)I"⟩, 5) := ⟨⟨by decide +kernel, by decide +kernel⟩, List.mem_of_getElem? (i := 102) (by decide +kernel), List.mem_of_getElem? (i := 448) (by decide +kernel), List.mem_of_getElem? (i := 449) (by decide +kernel)⟩
theorem lw_p29 : lw_okq (⟨"AcreBuys$OrderSearch", "fieldAt", "(I)I"⟩, 5) := ⟨⟨by decide +kernel, by decide +kernel⟩, List.mem_of_getElem? (i := 102) (by decide +kernel), List.mem_of_getElem? (i := 457) (by decide +kernel), List.mem_of_getElem? (i := 458) (by decide +kernel)⟩
theorem lw_p30 : lw_okq (⟨"AcreBuys$OrderSearch", "nextOf", "(I)I"⟩, 5) := ⟨⟨by decide +kernel, by decide +kernel⟩, List.mem_of_getElem? (i := 102) (by decide +kernel), List.mem_of_getElem? (i := 462) (by decide +kernel), List.mem_of_getElem? (i := 463) (by decide +kernel)⟩
theorem lw_p31 : lw_okq (⟨"AcreBuys$Land", "dearestLast", "(I)I"⟩, 17) := ⟨⟨by decide +kernel, by decide +kernel⟩, List.mem_of_getElem? (i := 24) (by decide +kernel), List.mem_of_getElem? (i := 474) (by decide +kernel), List.mem_of_getElem? (i := 475) (by decide +kernel)⟩
def lw_privs_2 : List (MethodName × Nat) := [(⟨"AcreBuys$Land", "dropPastPapers", "()V"⟩, 17), (⟨"AcreBuys$Land", "rivalTakes", "()I"⟩, 17), (⟨"AcreBuys$Land", "calmDown", "()V"⟩, 17), (⟨"AcreBuys$Land", "addStrip", "(II)I"⟩, 17), (⟨"AcreBuys$Land", "hasStrip", "(I)Z"⟩, 17), (⟨"AcreBuys$Land", "isHad", "(I)Z"⟩, 17), (⟨"AcreBuys$Land", "missingOf", "(I)I"⟩, 17), (⟨"AcreBuys$Land", "canBe", "(I)Z"⟩, 17), (⟨"AcreBuys", "hindranceOf", "(I)I"⟩, 8), (⟨"AcreBuys", "leastCost", "(I)I"⟩, 8), (⟨"AcreBuys$OrderSearch", "run", "(LAcreBuys$Land;I)I"⟩, 5), (⟨"AcreBuys$OrderSearch", "layRow", "(LAcreBuys$Land;I)V"⟩, 5), (⟨"AcreBuys$OrderSearch", "costBy", "(II)I"⟩, 5), (⟨"AcreBuys$OrderSearch", "fieldAt", "(I)I"⟩, 5), (⟨"AcreBuys$OrderSearch", "nextOf", "(I)I"⟩, 5), (⟨"AcreBuys$Land", "dearestLast", "(I)I"⟩, 17)]
theorem lw_r2 : ∀ q ∈ lw_privs_2, lw_okq q := List.forall_mem_cons.mpr ⟨lw_p16, List.forall_mem_cons.mpr ⟨lw_p17, List.forall_mem_cons.mpr ⟨lw_p18, List.forall_mem_cons.mpr ⟨lw_p19, List.forall_mem_cons.mpr ⟨lw_p20, List.forall_mem_cons.mpr ⟨lw_p21, List.forall_mem_cons.mpr ⟨lw_p22, List.forall_mem_cons.mpr ⟨lw_p23, List.forall_mem_cons.mpr ⟨lw_p24, List.forall_mem_cons.mpr ⟨lw_p25, List.forall_mem_cons.mpr ⟨lw_p26, List.forall_mem_cons.mpr ⟨lw_p27, List.forall_mem_cons.mpr ⟨lw_p28, List.forall_mem_cons.mpr ⟨lw_p29, List.forall_mem_cons.mpr ⟨lw_p30, List.forall_mem_cons.mpr ⟨lw_p31, fun _ h => absurd h List.not_mem_nil⟩⟩⟩⟩⟩⟩⟩⟩⟩⟩⟩⟩⟩⟩⟩⟩
theorem lw_p32 : lw_okq (⟨"AcreBuys$Land", "priceAsLast", "(II)I"⟩, 17) := ⟨⟨by decide +kernel, by decide +kernel⟩, List.mem_of_getElem? (i := 24) (by decide +kernel), List.mem_of_getElem? (i := 478) (by decide +kernel), List.mem_of_getElem? (i := 479) (by decide +kernel)⟩
theorem lw_p33 : lw_okq (⟨"AcreBuys$Land", "worthsIn", "(I)I"⟩, 17) := ⟨⟨by decide +kernel, by decide +kernel⟩, List.mem_of_getElem? (i := 24) (by decide +kernel), List.mem_of_getElem? (i := 497) (by decide +kernel), List.mem_of_getElem? (i := 498) (by decide +kernel)⟩
theorem lw_p34 : lw_okq (⟨"AcreBuys$Land", "quietestFirst", "(I)I"⟩, 17) := ⟨⟨by decide +kernel, by decide +kernel⟩, List.mem_of_getElem? (i := 24) (by decide +kernel), List.mem_of_getElem? (i := 509) (by decide +kernel), List.mem_of_getElem? (i := 510) (by decide +kernel)⟩
theorem lw_p35 : lw_okq (⟨"AcreBuys$Land", "pricesIn", "(II)I"⟩, 17) := ⟨⟨by decide +kernel, by decide +kernel⟩, List.mem_of_getElem? (i := 24) (by decide +kernel), List.mem_of_getElem? (i := 513) (by decide +kernel), List.mem_of_getElem? (i := 514) (by decide +kernel)⟩
theorem lw_p36 : lw_okq (⟨"AcreBuys$Tape", "add", "(I)V"⟩, 6) := ⟨⟨by decide +kernel, by decide +kernel⟩, List.mem_of_getElem? (i := 124) (by decide +kernel), List.mem_of_getElem? (i := 521) (by decide +kernel), List.mem_of_getElem? (i := 522) (by decide +kernel)⟩
theorem lw_p37 : lw_okq (⟨"AcreBuys$Land", "become", "(LAcreBuys$Land;)V"⟩, 17) := ⟨⟨by decide +kernel, by decide +kernel⟩, List.mem_of_getElem? (i := 24) (by decide +kernel), List.mem_of_getElem? (i := 533) (by decide +kernel), List.mem_of_getElem? (i := 534) (by decide +kernel)⟩
theorem lw_p38 : lw_okq (⟨"AcreBuys$Tape", "start", "()V"⟩, 6) := ⟨⟨by decide +kernel, by decide +kernel⟩, List.mem_of_getElem? (i := 124) (by decide +kernel), List.mem_of_getElem? (i := 543) (by decide +kernel), List.mem_of_getElem? (i := 544) (by decide +kernel)⟩
theorem lw_p39 : lw_okq (⟨"AcreBuys$Tape", "next", "()V"⟩, 6) := ⟨⟨by decide +kernel, by decide +kernel⟩, List.mem_of_getElem? (i := 124) (by decide +kernel), List.mem_of_getElem? (i := 547) (by decide +kernel), List.mem_of_getElem? (i := 548) (by decide +kernel)⟩
theorem lw_p40 : lw_okq (⟨"AcreBuys$Tape", "tokenAt", "(I)I"⟩, 6) := ⟨⟨by decide +kernel, by decide +kernel⟩, List.mem_of_getElem? (i := 124) (by decide +kernel), List.mem_of_getElem? (i := 551) (by decide +kernel), List.mem_of_getElem? (i := 552) (by decide +kernel)⟩
theorem lw_p41 : lw_okq (⟨"AcreBuys$Tape", "numberAtHand", "()I"⟩, 6) := ⟨⟨by decide +kernel, by decide +kernel⟩, List.mem_of_getElem? (i := 124) (by decide +kernel), List.mem_of_getElem? (i := 555) (by decide +kernel), List.mem_of_getElem? (i := 556) (by decide +kernel)⟩
theorem lw_p42 : lw_okq (⟨"AcreBuys$Tape", "isWord", "(Ljava/lang/String;)Z"⟩, 6) := ⟨⟨by decide +kernel, by decide +kernel⟩, List.mem_of_getElem? (i := 124) (by decide +kernel), List.mem_of_getElem? (i := 564) (by decide +kernel), List.mem_of_getElem? (i := 565) (by decide +kernel)⟩
theorem lw_p43 : lw_okq (⟨"AcreBuys$Sheet", "lay", "(II)V"⟩, 3) := ⟨⟨by decide +kernel, by decide +kernel⟩, List.mem_of_getElem? (i := 154) (by decide +kernel), List.mem_of_getElem? (i := 657) (by decide +kernel), List.mem_of_getElem? (i := 658) (by decide +kernel)⟩
theorem lw_p44 : lw_okq (⟨"AcreBuys", "sheetFault", "(I)I"⟩, 8) := ⟨⟨by decide +kernel, by decide +kernel⟩, List.mem_of_getElem? (i := 16) (by decide +kernel), List.mem_of_getElem? (i := 668) (by decide +kernel), List.mem_of_getElem? (i := 669) (by decide +kernel)⟩
theorem lw_p45 : lw_okq (⟨"AcreBuys$Sheet", "isMissing", "()Z"⟩, 3) := ⟨⟨by decide +kernel, by decide +kernel⟩, List.mem_of_getElem? (i := 154) (by decide +kernel), List.mem_of_getElem? (i := 672) (by decide +kernel), List.mem_of_getElem? (i := 673) (by decide +kernel)⟩
theorem lw_p46 : lw_okq (⟨"AcreBuys$Sheet", "put", "(IJ)J"⟩, 3) := ⟨⟨by decide +kernel, by decide +kernel⟩, List.mem_of_getElem? (i := 154) (by decide +kernel), List.mem_of_getElem? (i := 677) (by decide +kernel), List.mem_of_getElem? (i := 678) (by decide +kernel)⟩
theorem lw_p47 : lw_okq (⟨"AcreBuys$Sheet", "holds", "(II)Z"⟩, 3) := ⟨⟨by decide +kernel, by decide +kernel⟩, List.mem_of_getElem? (i := 154) (by decide +kernel), List.mem_of_getElem? (i := 685) (by decide +kernel), List.mem_of_getElem? (i := 686) (by decide +kernel)⟩
def lw_privs_3 : List (MethodName × Nat) := [(⟨"AcreBuys$Land", "priceAsLast", "(II)I"⟩, 17), (⟨"AcreBuys$Land", "worthsIn", "(I)I"⟩, 17), (⟨"AcreBuys$Land", "quietestFirst", "(I)I"⟩, 17), (⟨"AcreBuys$Land", "pricesIn", "(II)I"⟩, 17), (⟨"AcreBuys$Tape", "add", "(I)V"⟩, 6), (⟨"AcreBuys$Land", "become", "(LAcreBuys$Land;)V"⟩, 17), (⟨"AcreBuys$Tape", "start", "()V"⟩, 6), (⟨"AcreBuys$Tape", "next", "()V"⟩, 6), (⟨"AcreBuys$Tape", "tokenAt", "(I)I"⟩, 6), (⟨"AcreBuys$Tape", "numberAtHand", "()I"⟩, 6), (⟨"AcreBuys$Tape", "isWord", "(Ljava/lang/String;)Z"⟩, 6), (⟨"AcreBuys$Sheet", "lay", "(II)V"⟩, 3), (⟨"AcreBuys", "sheetFault", "(I)I"⟩, 8), (⟨"AcreBuys$Sheet", "isMissing", "()Z"⟩, 3), (⟨"AcreBuys$Sheet", "put", "(IJ)J"⟩, 3), (⟨"AcreBuys$Sheet", "holds", "(II)Z"⟩, 3)]
theorem lw_r3 : ∀ q ∈ lw_privs_3, lw_okq q := List.forall_mem_cons.mpr ⟨lw_p32, List.forall_mem_cons.mpr ⟨lw_p33, List.forall_mem_cons.mpr ⟨lw_p34, List.forall_mem_cons.mpr ⟨lw_p35, List.forall_mem_cons.mpr ⟨lw_p36, List.forall_mem_cons.mpr ⟨lw_p37, List.forall_mem_cons.mpr ⟨lw_p38, List.forall_mem_cons.mpr ⟨lw_p39, List.forall_mem_cons.mpr ⟨lw_p40, List.forall_mem_cons.mpr ⟨lw_p41, List.forall_mem_cons.mpr ⟨lw_p42, List.forall_mem_cons.mpr ⟨lw_p43, List.forall_mem_cons.mpr ⟨lw_p44, List.forall_mem_cons.mpr ⟨lw_p45, List.forall_mem_cons.mpr ⟨lw_p46, List.forall_mem_cons.mpr ⟨lw_p47, fun _ h => absurd h List.not_mem_nil⟩⟩⟩⟩⟩⟩⟩⟩⟩⟩⟩⟩⟩⟩⟩⟩
theorem lw_p48 : lw_okq (⟨"AcreBuys$Land", "fieldTold", "(J)I"⟩, 17) := ⟨⟨by decide +kernel, by decide +kernel⟩, List.mem_of_getElem? (i := 24) (by decide +kernel), List.mem_of_getElem? (i := 694) (by decide +kernel), List.mem_of_getElem? (i := 695) (by decide +kernel)⟩
theorem lw_p49 : lw_okq (⟨"AcreBuys$Land", "allWary", "()I"⟩, 17) := ⟨⟨by decide +kernel, by decide +kernel⟩, List.mem_of_getElem? (i := 24) (by decide +kernel), List.mem_of_getElem? (i := 723) (by decide +kernel), List.mem_of_getElem? (i := 724) (by decide +kernel)⟩
theorem lw_p50 : lw_okq (⟨"AcreBuysModel", "finds", "(I)I"⟩, 22) := ⟨⟨by decide +kernel, by decide +kernel⟩, List.mem_of_getElem? (i := 731) (by decide +kernel), List.mem_of_getElem? (i := 814) (by decide +kernel), List.mem_of_getElem? (i := 815) (by decide +kernel)⟩
theorem lw_p51 : lw_okq (⟨"AcreBuysModel", "comes", "(II)V"⟩, 22) := ⟨⟨by decide +kernel, by decide +kernel⟩, List.mem_of_getElem? (i := 731) (by decide +kernel), List.mem_of_getElem? (i := 819) (by decide +kernel), List.mem_of_getElem? (i := 820) (by decide +kernel)⟩
theorem lw_p52 : lw_okq (⟨"AcreBuysModel", "at", "(II)I"⟩, 22) := ⟨⟨by decide +kernel, by decide +kernel⟩, List.mem_of_getElem? (i := 731) (by decide +kernel), List.mem_of_getElem? (i := 823) (by decide +kernel), List.mem_of_getElem? (i := 824) (by decide +kernel)⟩
theorem lw_p53 : lw_okq (⟨"AcreBuysModel", "isField", "(J)Z"⟩, 22) := ⟨⟨by decide +kernel, by decide +kernel⟩, List.mem_of_getElem? (i := 731) (by decide +kernel), List.mem_of_getElem? (i := 831) (by decide +kernel), List.mem_of_getElem? (i := 832) (by decide +kernel)⟩
theorem lw_p54 : lw_okq (⟨"AcreBuysModel", "has", "(II)I"⟩, 22) := ⟨⟨by decide +kernel, by decide +kernel⟩, List.mem_of_getElem? (i := 731) (by decide +kernel), List.mem_of_getElem? (i := 836) (by decide +kernel), List.mem_of_getElem? (i := 837) (by decide +kernel)⟩
theorem lw_p55 : lw_okq (⟨"AcreBuysModel", "asksNow", "(I)I"⟩, 22) := ⟨⟨by decide +kernel, by decide +kernel⟩, List.mem_of_getElem? (i := 731) (by decide +kernel), List.mem_of_getElem? (i := 840) (by decide +kernel), List.mem_of_getElem? (i := 841) (by decide +kernel)⟩
theorem lw_p56 : lw_okq (⟨"AcreBuysModel", "ours", "()I"⟩, 22) := ⟨⟨by decide +kernel, by decide +kernel⟩, List.mem_of_getElem? (i := 731) (by decide +kernel), List.mem_of_getElem? (i := 844) (by decide +kernel), List.mem_of_getElem? (i := 845) (by decide +kernel)⟩
theorem lw_p57 : lw_okq (⟨"AcreBuysModel", "asksBy", "(II)I"⟩, 22) := ⟨⟨by decide +kernel, by decide +kernel⟩, List.mem_of_getElem? (i := 731) (by decide +kernel), List.mem_of_getElem? (i := 848) (by decide +kernel), List.mem_of_getElem? (i := 849) (by decide +kernel)⟩
theorem lw_p58 : lw_okq (⟨"AcreBuysModel", "heardBy", "(II)I"⟩, 22) := ⟨⟨by decide +kernel, by decide +kernel⟩, List.mem_of_getElem? (i := 731) (by decide +kernel), List.mem_of_getElem? (i := 852) (by decide +kernel), List.mem_of_getElem? (i := 853) (by decide +kernel)⟩
theorem lw_p59 : lw_okq (⟨"AcreBuysModel", "wareBy", "(II)I"⟩, 22) := ⟨⟨by decide +kernel, by decide +kernel⟩, List.mem_of_getElem? (i := 731) (by decide +kernel), List.mem_of_getElem? (i := 856) (by decide +kernel), List.mem_of_getElem? (i := 857) (by decide +kernel)⟩
theorem lw_p60 : lw_okq (⟨"AcreBuysModel", "becomes", "(II)I"⟩, 22) := ⟨⟨by decide +kernel, by decide +kernel⟩, List.mem_of_getElem? (i := 731) (by decide +kernel), List.mem_of_getElem? (i := 867) (by decide +kernel), List.mem_of_getElem? (i := 868) (by decide +kernel)⟩
theorem lw_p61 : lw_okq (⟨"AcreBuysModel", "isFree", "(I)Z"⟩, 22) := ⟨⟨by decide +kernel, by decide +kernel⟩, List.mem_of_getElem? (i := 731) (by decide +kernel), List.mem_of_getElem? (i := 892) (by decide +kernel), List.mem_of_getElem? (i := 893) (by decide +kernel)⟩
theorem lw_p62 : lw_okq (⟨"AcreBuysModel", "offered", "(II)Z"⟩, 22) := ⟨⟨by decide +kernel, by decide +kernel⟩, List.mem_of_getElem? (i := 731) (by decide +kernel), List.mem_of_getElem? (i := 897) (by decide +kernel), List.mem_of_getElem? (i := 898) (by decide +kernel)⟩
theorem lw_p63 : lw_okq (⟨"AcreBuysModel", "papers", "()I"⟩, 22) := ⟨⟨by decide +kernel, by decide +kernel⟩, List.mem_of_getElem? (i := 731) (by decide +kernel), List.mem_of_getElem? (i := 906) (by decide +kernel), List.mem_of_getElem? (i := 907) (by decide +kernel)⟩
def lw_privs_4 : List (MethodName × Nat) := [(⟨"AcreBuys$Land", "fieldTold", "(J)I"⟩, 17), (⟨"AcreBuys$Land", "allWary", "()I"⟩, 17), (⟨"AcreBuysModel", "finds", "(I)I"⟩, 22), (⟨"AcreBuysModel", "comes", "(II)V"⟩, 22), (⟨"AcreBuysModel", "at", "(II)I"⟩, 22), (⟨"AcreBuysModel", "isField", "(J)Z"⟩, 22), (⟨"AcreBuysModel", "has", "(II)I"⟩, 22), (⟨"AcreBuysModel", "asksNow", "(I)I"⟩, 22), (⟨"AcreBuysModel", "ours", "()I"⟩, 22), (⟨"AcreBuysModel", "asksBy", "(II)I"⟩, 22), (⟨"AcreBuysModel", "heardBy", "(II)I"⟩, 22), (⟨"AcreBuysModel", "wareBy", "(II)I"⟩, 22), (⟨"AcreBuysModel", "becomes", "(II)I"⟩, 22), (⟨"AcreBuysModel", "isFree", "(I)Z"⟩, 22), (⟨"AcreBuysModel", "offered", "(II)Z"⟩, 22), (⟨"AcreBuysModel", "papers", "()I"⟩, 22)]
theorem lw_r4 : ∀ q ∈ lw_privs_4, lw_okq q := List.forall_mem_cons.mpr ⟨lw_p48, List.forall_mem_cons.mpr ⟨lw_p49, List.forall_mem_cons.mpr ⟨lw_p50, List.forall_mem_cons.mpr ⟨lw_p51, List.forall_mem_cons.mpr ⟨lw_p52, List.forall_mem_cons.mpr ⟨lw_p53, List.forall_mem_cons.mpr ⟨lw_p54, List.forall_mem_cons.mpr ⟨lw_p55, List.forall_mem_cons.mpr ⟨lw_p56, List.forall_mem_cons.mpr ⟨lw_p57, List.forall_mem_cons.mpr ⟨lw_p58, List.forall_mem_cons.mpr ⟨lw_p59, List.forall_mem_cons.mpr ⟨lw_p60, List.forall_mem_cons.mpr ⟨lw_p61, List.forall_mem_cons.mpr ⟨lw_p62, List.forall_mem_cons.mpr ⟨lw_p63, fun _ h => absurd h List.not_mem_nil⟩⟩⟩⟩⟩⟩⟩⟩⟩⟩⟩⟩⟩⟩⟩⟩
theorem lw_p64 : lw_okq (⟨"AcreBuysModel", "thatAre", "(I)I"⟩, 22) := ⟨⟨by decide +kernel, by decide +kernel⟩, List.mem_of_getElem? (i := 731) (by decide +kernel), List.mem_of_getElem? (i := 939) (by decide +kernel), List.mem_of_getElem? (i := 940) (by decide +kernel)⟩
theorem lw_p65 : lw_okq (⟨"AcreBuysModel", "comesStrip", "(II)V"⟩, 22) := ⟨⟨by decide +kernel, by decide +kernel⟩, List.mem_of_getElem? (i := 731) (by decide +kernel), List.mem_of_getElem? (i := 947) (by decide +kernel), List.mem_of_getElem? (i := 948) (by decide +kernel)⟩
theorem lw_p66 : lw_okq (⟨"AcreBuysModel", "isStrip", "(I)Z"⟩, 22) := ⟨⟨by decide +kernel, by decide +kernel⟩, List.mem_of_getElem? (i := 731) (by decide +kernel), List.mem_of_getElem? (i := 955) (by decide +kernel), List.mem_of_getElem? (i := 956) (by decide +kernel)⟩
theorem lw_p67 : lw_okq (⟨"AcreBuysModel", "isHad", "(I)Z"⟩, 22) := ⟨⟨by decide +kernel, by decide +kernel⟩, List.mem_of_getElem? (i := 731) (by decide +kernel), List.mem_of_getElem? (i := 960) (by decide +kernel), List.mem_of_getElem? (i := 961) (by decide +kernel)⟩
theorem lw_p68 : lw_okq (⟨"AcreBuysModel", "thoseOf", "(II)I"⟩, 22) := ⟨⟨by decide +kernel, by decide +kernel⟩, List.mem_of_getElem? (i := 731) (by decide +kernel), List.mem_of_getElem? (i := 964) (by decide +kernel), List.mem_of_getElem? (i := 965) (by decide +kernel)⟩
theorem lw_p69 : lw_okq (⟨"AcreBuysModel", "setOf", "(I)I"⟩, 22) := ⟨⟨by decide +kernel, by decide +kernel⟩, List.mem_of_getElem? (i := 731) (by decide +kernel), List.mem_of_getElem? (i := 968) (by decide +kernel), List.mem_of_getElem? (i := 969) (by decide +kernel)⟩
theorem lw_p70 : lw_okq (⟨"AcreBuysModel", "canBe", "(I)Z"⟩, 22) := ⟨⟨by decide +kernel, by decide +kernel⟩, List.mem_of_getElem? (i := 731) (by decide +kernel), List.mem_of_getElem? (i := 972) (by decide +kernel), List.mem_of_getElem? (i := 973) (by decide +kernel)⟩
theorem lw_p71 : lw_okq (⟨"AcreBuysModel", "findWanted", "(I)V"⟩, 22) := ⟨⟨by decide +kernel, by decide +kernel⟩, List.mem_of_getElem? (i := 731) (by decide +kernel), List.mem_of_getElem? (i := 984) (by decide +kernel), List.mem_of_getElem? (i := 985) (by decide +kernel)⟩
theorem lw_p72 : lw_okq (⟨"AcreBuysModel", "findLeast", "()I"⟩, 22) := ⟨⟨by decide +kernel, by decide +kernel⟩, List.mem_of_getElem? (i := 731) (by decide +kernel), List.mem_of_getElem? (i := 989) (by decide +kernel), List.mem_of_getElem? (i := 990) (by decide +kernel)⟩
theorem lw_p73 : lw_okq (⟨"AcreBuysModel", "asksBehind", "(II)I"⟩, 22) := ⟨⟨by decide +kernel, by decide +kernel⟩, List.mem_of_getElem? (i := 731) (by decide +kernel), List.mem_of_getElem? (i := 993) (by decide +kernel), List.mem_of_getElem? (i := 994) (by decide +kernel)⟩
theorem lw_p74 : lw_okq (⟨"AcreBuysModel", "bestStrip", "()I"⟩, 22) := ⟨⟨by decide +kernel, by decide +kernel⟩, List.mem_of_getElem? (i := 731) (by decide +kernel), List.mem_of_getElem? (i := 1005) (by decide +kernel), List.mem_of_getElem? (i := 1006) (by decide +kernel)⟩
theorem lw_p75 : lw_okq (⟨"AcreBuysModel", "goesOn", "()V"⟩, 22) := ⟨⟨by decide +kernel, by decide +kernel⟩, List.mem_of_getElem? (i := 731) (by decide +kernel), List.mem_of_getElem? (i := 1046) (by decide +kernel), List.mem_of_getElem? (i := 1047) (by decide +kernel)⟩
theorem lw_p76 : lw_okq (⟨"AcreBuysModel", "byteAt", "(I)I"⟩, 22) := ⟨⟨by decide +kernel, by decide +kernel⟩, List.mem_of_getElem? (i := 731) (by decide +kernel), List.mem_of_getElem? (i := 1050) (by decide +kernel), List.mem_of_getElem? (i := 1051) (by decide +kernel)⟩
theorem lw_p77 : lw_okq (⟨"AcreBuysModel", "wordHere", "()I"⟩, 22) := ⟨⟨by decide +kernel, by decide +kernel⟩, List.mem_of_getElem? (i := 731) (by decide +kernel), List.mem_of_getElem? (i := 1056) (by decide +kernel), List.mem_of_getElem? (i := 1057) (by decide +kernel)⟩
theorem lw_p78 : lw_okq (⟨"AcreBuysModel", "item", "()V"⟩, 22) := ⟨⟨by decide +kernel, by decide +kernel⟩, List.mem_of_getElem? (i := 731) (by decide +kernel), List.mem_of_getElem? (i := 1062) (by decide +kernel), List.mem_of_getElem? (i := 1063) (by decide +kernel)⟩
theorem lw_p79 : lw_okq (⟨"AcreBuysModel", "fieldItem", "(I)V"⟩, 22) := ⟨⟨by decide +kernel, by decide +kernel⟩, List.mem_of_getElem? (i := 731) (by decide +kernel), List.mem_of_getElem? (i := 1066) (by decide +kernel), List.mem_of_getElem? (i := 1067) (by decide +kernel)⟩
def lw_privs_5 : List (MethodName × Nat) := [(⟨"AcreBuysModel", "thatAre", "(I)I"⟩, 22), (⟨"AcreBuysModel", "comesStrip", "(II)V"⟩, 22), (⟨"AcreBuysModel", "isStrip", "(I)Z"⟩, 22), (⟨"AcreBuysModel", "isHad", "(I)Z"⟩, 22), (⟨"AcreBuysModel", "thoseOf", "(II)I"⟩, 22), (⟨"AcreBuysModel", "setOf", "(I)I"⟩, 22), (⟨"AcreBuysModel", "canBe", "(I)Z"⟩, 22), (⟨"AcreBuysModel", "findWanted", "(I)V"⟩, 22), (⟨"AcreBuysModel", "findLeast", "()I"⟩, 22), (⟨"AcreBuysModel", "asksBehind", "(II)I"⟩, 22), (⟨"AcreBuysModel", "bestStrip", "()I"⟩, 22), (⟨"AcreBuysModel", "goesOn", "()V"⟩, 22), (⟨"AcreBuysModel", "byteAt", "(I)I"⟩, 22), (⟨"AcreBuysModel", "wordHere", "()I"⟩, 22), (⟨"AcreBuysModel", "item", "()V"⟩, 22), (⟨"AcreBuysModel", "fieldItem", "(I)V"⟩, 22)]
theorem lw_r5 : ∀ q ∈ lw_privs_5, lw_okq q := List.forall_mem_cons.mpr ⟨lw_p64, List.forall_mem_cons.mpr ⟨lw_p65, List.forall_mem_cons.mpr ⟨lw_p66, List.forall_mem_cons.mpr ⟨lw_p67, List.forall_mem_cons.mpr ⟨lw_p68, List.forall_mem_cons.mpr ⟨lw_p69, List.forall_mem_cons.mpr ⟨lw_p70, List.forall_mem_cons.mpr ⟨lw_p71, List.forall_mem_cons.mpr ⟨lw_p72, List.forall_mem_cons.mpr ⟨lw_p73, List.forall_mem_cons.mpr ⟨lw_p74, List.forall_mem_cons.mpr ⟨lw_p75, List.forall_mem_cons.mpr ⟨lw_p76, List.forall_mem_cons.mpr ⟨lw_p77, List.forall_mem_cons.mpr ⟨lw_p78, List.forall_mem_cons.mpr ⟨lw_p79, fun _ h => absurd h List.not_mem_nil⟩⟩⟩⟩⟩⟩⟩⟩⟩⟩⟩⟩⟩⟩⟩⟩
theorem lw_p80 : lw_okq (⟨"AcreBuysModel", "number", "(II)I"⟩, 22) := ⟨⟨by decide +kernel, by decide +kernel⟩, List.mem_of_getElem? (i := 731) (by decide +kernel), List.mem_of_getElem? (i := 1070) (by decide +kernel), List.mem_of_getElem? (i := 1071) (by decide +kernel)⟩
theorem lw_p81 : lw_okq (⟨"AcreBuysModel", "takes", "(I)Z"⟩, 22) := ⟨⟨by decide +kernel, by decide +kernel⟩, List.mem_of_getElem? (i := 731) (by decide +kernel), List.mem_of_getElem? (i := 1074) (by decide +kernel), List.mem_of_getElem? (i := 1075) (by decide +kernel)⟩
theorem lw_p82 : lw_okq (⟨"AcreBuysModel", "isWord", "(I)Z"⟩, 22) := ⟨⟨by decide +kernel, by decide +kernel⟩, List.mem_of_getElem? (i := 731) (by decide +kernel), List.mem_of_getElem? (i := 1078) (by decide +kernel), List.mem_of_getElem? (i := 1079) (by decide +kernel)⟩
theorem lw_p83 : lw_okq (⟨"AcreBuysModel", "numbersBelow", "(I)I"⟩, 22) := ⟨⟨by decide +kernel, by decide +kernel⟩, List.mem_of_getElem? (i := 731) (by decide +kernel), List.mem_of_getElem? (i := 1082) (by decide +kernel), List.mem_of_getElem? (i := 1083) (by decide +kernel)⟩
theorem lw_p84 : lw_okq (⟨"AcreBuysModel", "stripItem", "()V"⟩, 22) := ⟨⟨by decide +kernel, by decide +kernel⟩, List.mem_of_getElem? (i := 731) (by decide +kernel), List.mem_of_getElem? (i := 1086) (by decide +kernel), List.mem_of_getElem? (i := 1087) (by decide +kernel)⟩
theorem lw_p85 : lw_okq (⟨"AcreBuysModel", "allWary", "()I"⟩, 22) := ⟨⟨by decide +kernel, by decide +kernel⟩, List.mem_of_getElem? (i := 731) (by decide +kernel), List.mem_of_getElem? (i := 1137) (by decide +kernel), List.mem_of_getElem? (i := 1138) (by decide +kernel)⟩
def lw_privs_6 : List (MethodName × Nat) := [(⟨"AcreBuysModel", "number", "(II)I"⟩, 22), (⟨"AcreBuysModel", "takes", "(I)Z"⟩, 22), (⟨"AcreBuysModel", "isWord", "(I)Z"⟩, 22), (⟨"AcreBuysModel", "numbersBelow", "(I)I"⟩, 22), (⟨"AcreBuysModel", "stripItem", "()V"⟩, 22), (⟨"AcreBuysModel", "allWary", "()I"⟩, 22)]
theorem lw_r6 : ∀ q ∈ lw_privs_6, lw_okq q := List.forall_mem_cons.mpr ⟨lw_p80, List.forall_mem_cons.mpr ⟨lw_p81, List.forall_mem_cons.mpr ⟨lw_p82, List.forall_mem_cons.mpr ⟨lw_p83, List.forall_mem_cons.mpr ⟨lw_p84, List.forall_mem_cons.mpr ⟨lw_p85, fun _ h => absurd h List.not_mem_nil⟩⟩⟩⟩⟩⟩
def lw_privs : List (MethodName × Nat) := lw_privs_1 ++ (lw_privs_2 ++ (lw_privs_3 ++ (lw_privs_4 ++ (lw_privs_5 ++ (lw_privs_6)))))
def lw_tbl : List Cond := k2_sels lw_privs ++ tables_1
theorem lw_privs_ok : ∀ q ∈ lw_privs, lw_okq q := by
  show ∀ q ∈ lw_privs_1 ++ (lw_privs_2 ++ (lw_privs_3 ++ (lw_privs_4 ++ (lw_privs_5 ++ (lw_privs_6))))), lw_okq q
  exact List.forall_mem_append.mpr ⟨lw_r1, List.forall_mem_append.mpr ⟨lw_r2, List.forall_mem_append.mpr ⟨lw_r3, List.forall_mem_append.mpr ⟨lw_r4, List.forall_mem_append.mpr ⟨lw_r5, lw_r6⟩⟩⟩⟩⟩

/-! ===== BEGIN printed: names, fields, word lists, decode rows ===== -/
def RX0 : String := "AcreBuys$Land"
def TX0 : u_T := fun k => match k with
  | 0 => ("AcreBuys$Land", "fields", "I", false)
  | 1 => ("AcreBuys$Land", "kinds", "[I", true)
  | 2 => ("AcreBuys$Land", "worths", "[I", true)
  | 3 => ("AcreBuys$Land", "wary", "[I", true)
  | 4 => ("AcreBuys$Land", "tells", "[I", true)
  | 5 => ("AcreBuys$Land", "ours", "I", false)
  | 6 => ("AcreBuys$Land", "lost", "I", false)
  | 7 => ("AcreBuys$Land", "papers", "I", false)
  | 8 => ("AcreBuys$Land", "prices", "[I", true)
  | 9 => ("AcreBuys$Land", "tills", "[I", true)
  | 10 => ("AcreBuys$Land", "month", "I", false)
  | 11 => ("AcreBuys$Land", "spent", "J", false)
  | 12 => ("AcreBuys$Land", "z", "I", false)
  | 13 => ("AcreBuys$Land", "rules", "[I", true)
  | 14 => ("AcreBuys$Land", "strips", "I", false)
  | 15 => ("AcreBuys$Land", "sets", "[I", true)
  | _ => ("AcreBuys$Land", "rounds", "[I", true)
def tyX0 : Nat → FieldType := fun k => match k with
  | 0 => .int
  | 1 => .array .int
  | 2 => .array .int
  | 3 => .array .int
  | 4 => .array .int
  | 5 => .int
  | 6 => .int
  | 7 => .int
  | 8 => .array .int
  | 9 => .array .int
  | 10 => .int
  | 11 => .long
  | 12 => .int
  | 13 => .array .int
  | 14 => .int
  | 15 => .array .int
  | _ => .array .int
abbrev wsX00 : List Cond := u_ws RX0 TX0 17
theorem nmX0 : ∀ a, a < 17 → ∀ b, b < 17 → a ≠ b → (TX0 a).2.1 ≠ (TX0 b).2.1 := by decide +kernel
theorem tyX0_ok : ∀ k, k < 17 → parseFieldDescriptor (TX0 k).2.2.1 = some (tyX0 k) := by decide +kernel
abbrev cX0_init : ByteArray := prog_2_method_1_code
def yX0_init : MethodName := ⟨RX0, "<init>", "()V"⟩
abbrev cX0_become : ByteArray := prog_2_method_2_code
def yX0_become : MethodName := ⟨RX0, "become", "(LAcreBuys$Land;)V"⟩
abbrev cX0_addField : ByteArray := prog_2_method_3_code
def yX0_addField : MethodName := ⟨RX0, "addField", "(II)I"⟩
abbrev cX0_addStrip : ByteArray := prog_2_method_4_code
def yX0_addStrip : MethodName := ⟨RX0, "addStrip", "(II)I"⟩
abbrev cX0_hasField : ByteArray := prog_2_method_5_code
def yX0_hasField : MethodName := ⟨RX0, "hasField", "(I)Z"⟩
abbrev cX0_fieldTold : ByteArray := prog_2_method_6_code
def yX0_fieldTold : MethodName := ⟨RX0, "fieldTold", "(J)I"⟩
abbrev cX0_hasStrip : ByteArray := prog_2_method_7_code
def yX0_hasStrip : MethodName := ⟨RX0, "hasStrip", "(I)Z"⟩
abbrev cX0_allFields : ByteArray := prog_2_method_8_code
def yX0_allFields : MethodName := ⟨RX0, "allFields", "()I"⟩
abbrev cX0_freeIn : ByteArray := prog_2_method_9_code
def yX0_freeIn : MethodName := ⟨RX0, "freeIn", "(I)I"⟩
abbrev cX0_isFree : ByteArray := prog_2_method_10_code
def yX0_isFree : MethodName := ⟨RX0, "isFree", "(I)Z"⟩
abbrev cX0_holderOf : ByteArray := prog_2_method_11_code
def yX0_holderOf : MethodName := ⟨RX0, "holderOf", "(I)I"⟩
abbrev cX0_tellersOf : ByteArray := prog_2_method_12_code
def yX0_tellersOf : MethodName := ⟨RX0, "tellersOf", "(I)I"⟩
abbrev cX0_heardBy : ByteArray := prog_2_method_13_code
def yX0_heardBy : MethodName := ⟨RX0, "heardBy", "(II)I"⟩
abbrev cX0_priceHearing : ByteArray := prog_2_method_14_code
def yX0_priceHearing : MethodName := ⟨RX0, "priceHearing", "(II)I"⟩
abbrev cX0_priceBy : ByteArray := prog_2_method_15_code
def yX0_priceBy : MethodName := ⟨RX0, "priceBy", "(II)I"⟩
abbrev cX0_priceNow : ByteArray := prog_2_method_16_code
def yX0_priceNow : MethodName := ⟨RX0, "priceNow", "(I)I"⟩
abbrev cX0_worthsIn : ByteArray := prog_2_method_17_code
def yX0_worthsIn : MethodName := ⟨RX0, "worthsIn", "(I)I"⟩
abbrev cX0_pricesIn : ByteArray := prog_2_method_18_code
def yX0_pricesIn : MethodName := ⟨RX0, "pricesIn", "(II)I"⟩
abbrev cX0_allWary : ByteArray := prog_2_method_19_code
def yX0_allWary : MethodName := ⟨RX0, "allWary", "()I"⟩
abbrev cX0_buy : ByteArray := prog_2_method_20_code
def yX0_buy : MethodName := ⟨RX0, "buy", "(II)V"⟩
abbrev cX0_dropPaper : ByteArray := prog_2_method_21_code
def yX0_dropPaper : MethodName := ⟨RX0, "dropPaper", "(I)V"⟩
abbrev cX0_bid : ByteArray := prog_2_method_22_code
def yX0_bid : MethodName := ⟨RX0, "bid", "(II)Z"⟩
abbrev cX0_takePaper : ByteArray := prog_2_method_23_code
def yX0_takePaper : MethodName := ⟨RX0, "takePaper", "(II)I"⟩
abbrev cX0_dropPastPapers : ByteArray := prog_2_method_24_code
def yX0_dropPastPapers : MethodName := ⟨RX0, "dropPastPapers", "()V"⟩
abbrev cX0_rivalTakes : ByteArray := prog_2_method_25_code
def yX0_rivalTakes : MethodName := ⟨RX0, "rivalTakes", "()I"⟩
abbrev cX0_calmDown : ByteArray := prog_2_method_26_code
def yX0_calmDown : MethodName := ⟨RX0, "calmDown", "()V"⟩
abbrev cX0_canBe : ByteArray := prog_2_method_27_code
def yX0_canBe : MethodName := ⟨RX0, "canBe", "(I)Z"⟩
abbrev cX0_missingOf : ByteArray := prog_2_method_28_code
def yX0_missingOf : MethodName := ⟨RX0, "missingOf", "(I)I"⟩
abbrev cX0_isHad : ByteArray := prog_2_method_29_code
def yX0_isHad : MethodName := ⟨RX0, "isHad", "(I)Z"⟩
abbrev cX0_priceAsLast : ByteArray := prog_2_method_30_code
def yX0_priceAsLast : MethodName := ⟨RX0, "priceAsLast", "(II)I"⟩
abbrev cX0_dearestLast : ByteArray := prog_2_method_31_code
def yX0_dearestLast : MethodName := ⟨RX0, "dearestLast", "(I)I"⟩
abbrev cX0_quietestFirst : ByteArray := prog_2_method_32_code
def yX0_quietestFirst : MethodName := ⟨RX0, "quietestFirst", "(I)I"⟩
def RX1 : String := "AcreBuys$OrderSearch"
def TX1 : u_T := fun k => match k with
  | 0 => ("AcreBuys$OrderSearch", "size", "I", false)
  | 1 => ("AcreBuys$OrderSearch", "fields", "[I", true)
  | 2 => ("AcreBuys$OrderSearch", "tellers", "[I", true)
  | 3 => ("AcreBuys$OrderSearch", "prices", "[I", true)
  | _ => ("AcreBuys$OrderSearch", "rest", "[I", true)
def tyX1 : Nat → FieldType := fun k => match k with
  | 0 => .int
  | 1 => .array .int
  | 2 => .array .int
  | 3 => .array .int
  | _ => .array .int
abbrev wsX10 : List Cond := u_ws RX1 TX1 5
theorem nmX1 : ∀ a, a < 5 → ∀ b, b < 5 → a ≠ b → (TX1 a).2.1 ≠ (TX1 b).2.1 := by decide +kernel
theorem tyX1_ok : ∀ k, k < 5 → parseFieldDescriptor (TX1 k).2.2.1 = some (tyX1 k) := by decide +kernel
abbrev cX1_init : ByteArray := prog_3_method_1_code
def yX1_init : MethodName := ⟨RX1, "<init>", "()V"⟩
abbrev cX1_run : ByteArray := prog_3_method_2_code
def yX1_run : MethodName := ⟨RX1, "run", "(LAcreBuys$Land;I)I"⟩
abbrev cX1_layRow : ByteArray := prog_3_method_3_code
def yX1_layRow : MethodName := ⟨RX1, "layRow", "(LAcreBuys$Land;I)V"⟩
abbrev cX1_costBy : ByteArray := prog_3_method_4_code
def yX1_costBy : MethodName := ⟨RX1, "costBy", "(II)I"⟩
abbrev cX1_fieldAt : ByteArray := prog_3_method_5_code
def yX1_fieldAt : MethodName := ⟨RX1, "fieldAt", "(I)I"⟩
abbrev cX1_nextOf : ByteArray := prog_3_method_6_code
def yX1_nextOf : MethodName := ⟨RX1, "nextOf", "(I)I"⟩
def RX2 : String := "AcreBuys$Sheet"
def TX2 : u_T := fun k => match k with
  | 0 => ("AcreBuys$Sheet", "bits", "I", false)
  | 1 => ("AcreBuys$Sheet", "size", "I", false)
  | _ => ("AcreBuys$Sheet", "numbers", "[J", true)
def tyX2 : Nat → FieldType := fun k => match k with
  | 0 => .int
  | 1 => .int
  | _ => .array .long
abbrev wsX20 : List Cond := u_ws RX2 TX2 3
theorem nmX2 : ∀ a, a < 3 → ∀ b, b < 3 → a ≠ b → (TX2 a).2.1 ≠ (TX2 b).2.1 := by decide +kernel
theorem tyX2_ok : ∀ k, k < 3 → parseFieldDescriptor (TX2 k).2.2.1 = some (tyX2 k) := by decide +kernel
abbrev cX2_init : ByteArray := prog_4_method_1_code
def yX2_init : MethodName := ⟨RX2, "<init>", "()V"⟩
abbrev cX2_isMissing : ByteArray := prog_4_method_2_code
def yX2_isMissing : MethodName := ⟨RX2, "isMissing", "()Z"⟩
abbrev cX2_lay : ByteArray := prog_4_method_3_code
def yX2_lay : MethodName := ⟨RX2, "lay", "(II)V"⟩
abbrev cX2_put : ByteArray := prog_4_method_4_code
def yX2_put : MethodName := ⟨RX2, "put", "(IJ)J"⟩
abbrev cX2_holds : ByteArray := prog_4_method_5_code
def yX2_holds : MethodName := ⟨RX2, "holds", "(II)Z"⟩
def RX3 : String := "AcreBuys$Tape"
def TX3 : u_T := fun k => match k with
  | 0 => ("AcreBuys$Tape", "bytes", "[I", true)
  | 1 => ("AcreBuys$Tape", "size", "I", false)
  | 2 => ("AcreBuys$Tape", "at", "I", false)
  | 3 => ("AcreBuys$Tape", "end", "I", false)
  | 4 => ("AcreBuys$Tape", "token", "I", false)
  | _ => ("AcreBuys$Tape", "value", "I", false)
def tyX3 : Nat → FieldType := fun k => match k with
  | 0 => .array .int
  | 1 => .int
  | 2 => .int
  | 3 => .int
  | 4 => .int
  | _ => .int
abbrev wsX30 : List Cond := u_ws RX3 TX3 6
theorem nmX3 : ∀ a, a < 6 → ∀ b, b < 6 → a ≠ b → (TX3 a).2.1 ≠ (TX3 b).2.1 := by decide +kernel
theorem tyX3_ok : ∀ k, k < 6 → parseFieldDescriptor (TX3 k).2.2.1 = some (tyX3 k) := by decide +kernel
abbrev cX3_init : ByteArray := prog_5_method_1_code
def yX3_init : MethodName := ⟨RX3, "<init>", "()V"⟩
abbrev cX3_add : ByteArray := prog_5_method_2_code
def yX3_add : MethodName := ⟨RX3, "add", "(I)V"⟩
abbrev cX3_start : ByteArray := prog_5_method_3_code
def yX3_start : MethodName := ⟨RX3, "start", "()V"⟩
abbrev cX3_next : ByteArray := prog_5_method_4_code
def yX3_next : MethodName := ⟨RX3, "next", "()V"⟩
abbrev cX3_numberAtHand : ByteArray := prog_5_method_5_code
def yX3_numberAtHand : MethodName := ⟨RX3, "numberAtHand", "()I"⟩
abbrev cX3_tokenAt : ByteArray := prog_5_method_6_code
def yX3_tokenAt : MethodName := ⟨RX3, "tokenAt", "(I)I"⟩
abbrev cX3_isWord : ByteArray := prog_5_method_7_code
def yX3_isWord : MethodName := ⟨RX3, "isWord", "(Ljava/lang/String;)Z"⟩
def RX4 : String := "AcreBuys"
def TX4 : u_T := fun k => match k with
  | 0 => ("AcreBuys", "land", "LAcreBuys$Land;", true)
  | 1 => ("AcreBuys", "keptLand", "LAcreBuys$Land;", true)
  | 2 => ("AcreBuys", "beforePlan", "LAcreBuys$Land;", true)
  | 3 => ("AcreBuys", "search", "LAcreBuys$OrderSearch;", true)
  | 4 => ("AcreBuys", "tape", "LAcreBuys$Tape;", true)
  | 5 => ("AcreBuys", "sheets", "[LAcreBuys$Sheet;", true)
  | 6 => ("AcreBuys", "told", "[I", true)
  | _ => ("AcreBuys", "kept", "Z", false)
def tyX4 : Nat → FieldType := fun k => match k with
  | 0 => .object "AcreBuys$Land"
  | 1 => .object "AcreBuys$Land"
  | 2 => .object "AcreBuys$Land"
  | 3 => .object "AcreBuys$OrderSearch"
  | 4 => .object "AcreBuys$Tape"
  | 5 => .array (.object "AcreBuys$Sheet")
  | 6 => .array .int
  | _ => .boolean
abbrev wsX40 : List Cond := u_ws RX4 TX4 8
theorem nmX4 : ∀ a, a < 8 → ∀ b, b < 8 → a ≠ b → (TX4 a).2.1 ≠ (TX4 b).2.1 := by decide +kernel
theorem tyX4_ok : ∀ k, k < 8 → parseFieldDescriptor (TX4 k).2.2.1 = some (tyX4 k) := by decide +kernel
abbrev cX4_init : ByteArray := prog_1_method_1_code
def yX4_init : MethodName := ⟨RX4, "<init>", "()V"⟩
abbrev cX4_field : ByteArray := prog_1_method_2_code
def yX4_field : MethodName := ⟨RX4, "field", "(II)I"⟩
abbrev cX4_of : ByteArray := prog_1_method_3_code
def yX4_of : MethodName := ⟨RX4, "of", "(II)I"⟩
abbrev cX4_set : ByteArray := prog_1_method_4_code
def yX4_set : MethodName := ⟨RX4, "set", "(III)I"⟩
abbrev cX4_as : ByteArray := prog_1_method_5_code
def yX4_as : MethodName := ⟨RX4, "as", "(II)I"⟩
abbrev cX4_asks : ByteArray := prog_1_method_6_code
def yX4_asks : MethodName := ⟨RX4, "asks", "(II)I"⟩
abbrev cX4_rule : ByteArray := prog_1_method_7_code
def yX4_rule : MethodName := ⟨RX4, "rule", "(II)I"⟩
abbrev cX4_offer : ByteArray := prog_1_method_8_code
def yX4_offer : MethodName := ⟨RX4, "offer", "(II)I"⟩
abbrev cX4_paper : ByteArray := prog_1_method_9_code
def yX4_paper : MethodName := ⟨RX4, "paper", "(II)I"⟩
abbrev cX4_paperOf : ByteArray := prog_1_method_10_code
def yX4_paperOf : MethodName := ⟨RX4, "paperOf", "(II)I"⟩
abbrev cX4_claim : ByteArray := prog_1_method_11_code
def yX4_claim : MethodName := ⟨RX4, "claim", "(I)I"⟩
abbrev cX4_county : ByteArray := prog_1_method_12_code
def yX4_county : MethodName := ⟨RX4, "county", "(I)I"⟩
abbrev cX4_month : ByteArray := prog_1_method_13_code
def yX4_month : MethodName := ⟨RX4, "month", "()I"⟩
abbrev cX4_seed : ByteArray := prog_1_method_14_code
def yX4_seed : MethodName := ⟨RX4, "seed", "(I)I"⟩
abbrev cX4_stands : ByteArray := prog_1_method_15_code
def yX4_stands : MethodName := ⟨RX4, "stands", "(I)J"⟩
abbrev cX4_strip : ByteArray := prog_1_method_16_code
def yX4_strip : MethodName := ⟨RX4, "strip", "(II)I"⟩
abbrev cX4_stripOf : ByteArray := prog_1_method_17_code
def yX4_stripOf : MethodName := ⟨RX4, "stripOf", "(II)I"⟩
abbrev cX4_had : ByteArray := prog_1_method_18_code
def yX4_had : MethodName := ⟨RX4, "had", "()I"⟩
abbrev cX4_least : ByteArray := prog_1_method_19_code
def yX4_least : MethodName := ⟨RX4, "least", "(I)I"⟩
abbrev cX4_order : ByteArray := prog_1_method_20_code
def yX4_order : MethodName := ⟨RX4, "order", "(II)I"⟩
abbrev cX4_best : ByteArray := prog_1_method_21_code
def yX4_best : MethodName := ⟨RX4, "best", "()I"⟩
abbrev cX4_last : ByteArray := prog_1_method_22_code
def yX4_last : MethodName := ⟨RX4, "last", "(II)I"⟩
abbrev cX4_giveUp : ByteArray := prog_1_method_23_code
def yX4_giveUp : MethodName := ⟨RX4, "giveUp", "(I)I"⟩
abbrev cX4_rights : ByteArray := prog_1_method_24_code
def yX4_rights : MethodName := ⟨RX4, "rights", "(I)I"⟩
abbrev cX4_share : ByteArray := prog_1_method_25_code
def yX4_share : MethodName := ⟨RX4, "share", "(III)I"⟩
abbrev cX4_common : ByteArray := prog_1_method_26_code
def yX4_common : MethodName := ⟨RX4, "common", "()I"⟩
abbrev cX4_first : ByteArray := prog_1_method_27_code
def yX4_first : MethodName := ⟨RX4, "first", "(I)I"⟩
abbrev cX4_feed : ByteArray := prog_1_method_28_code
def yX4_feed : MethodName := ⟨RX4, "feed", "(II)I"⟩
abbrev cX4_wipe : ByteArray := prog_1_method_29_code
def yX4_wipe : MethodName := ⟨RX4, "wipe", "()I"⟩
abbrev cX4_plan : ByteArray := prog_1_method_30_code
def yX4_plan : MethodName := ⟨RX4, "plan", "()I"⟩
abbrev cX4_sheet : ByteArray := prog_1_method_31_code
def yX4_sheet : MethodName := ⟨RX4, "sheet", "(III)I"⟩
abbrev cX4_write : ByteArray := prog_1_method_32_code
def yX4_write : MethodName := ⟨RX4, "write", "(IIJ)J"⟩
abbrev cX4_copy : ByteArray := prog_1_method_33_code
def yX4_copy : MethodName := ⟨RX4, "copy", "(IIIII)I"⟩
abbrev cX4_cost : ByteArray := prog_1_method_34_code
def yX4_cost : MethodName := ⟨RX4, "cost", "(I)J"⟩
abbrev cX4_offers : ByteArray := prog_1_method_35_code
def yX4_offers : MethodName := ⟨RX4, "offers", "(I)I"⟩
abbrev cX4_read : ByteArray := prog_1_method_36_code
def yX4_read : MethodName := ⟨RX4, "read", "(I)I"⟩
abbrev cX4_image : ByteArray := prog_1_method_37_code
def yX4_image : MethodName := ⟨RX4, "image", "()I"⟩
abbrev cX4_undo : ByteArray := prog_1_method_38_code
def yX4_undo : MethodName := ⟨RX4, "undo", "()I"⟩
abbrev cX4_tear : ByteArray := prog_1_method_39_code
def yX4_tear : MethodName := ⟨RX4, "tear", "()I"⟩
abbrev cX4_count : ByteArray := prog_1_method_40_code
def yX4_count : MethodName := ⟨RX4, "count", "(I)I"⟩
abbrev cX4_status : ByteArray := prog_1_method_41_code
def yX4_status : MethodName := ⟨RX4, "status", "(I)I"⟩
abbrev cX4_refuse : ByteArray := prog_1_method_42_code
def yX4_refuse : MethodName := ⟨RX4, "refuse", "(I)I"⟩
abbrev cX4_hindranceOf : ByteArray := prog_1_method_43_code
def yX4_hindranceOf : MethodName := ⟨RX4, "hindranceOf", "(I)I"⟩
abbrev cX4_leastCost : ByteArray := prog_1_method_44_code
def yX4_leastCost : MethodName := ⟨RX4, "leastCost", "(I)I"⟩
abbrev cX4_sheetFault : ByteArray := prog_1_method_45_code
def yX4_sheetFault : MethodName := ⟨RX4, "sheetFault", "(I)I"⟩
abbrev cX4_isSheet : ByteArray := prog_1_method_46_code
def yX4_isSheet : MethodName := ⟨RX4, "isSheet", "(I)Z"⟩
abbrev cX4_isKind : ByteArray := prog_1_method_47_code
def yX4_isKind : MethodName := ⟨RX4, "isKind", "(I)Z"⟩
abbrev cX4_isWithin : ByteArray := prog_1_method_48_code
def yX4_isWithin : MethodName := ⟨RX4, "isWithin", "(III)Z"⟩
abbrev cX4_isIn : ByteArray := prog_1_method_49_code
def yX4_isIn : MethodName := ⟨RX4, "isIn", "(II)Z"⟩
abbrev cX4_swap : ByteArray := prog_1_method_50_code
def yX4_swap : MethodName := ⟨RX4, "swap", "([III)I"⟩
abbrev cX4_isOfKind : ByteArray := prog_1_method_51_code
def yX4_isOfKind : MethodName := ⟨RX4, "isOfKind", "(II)Z"⟩
abbrev cX4_wareOf : ByteArray := prog_1_method_52_code
def yX4_wareOf : MethodName := ⟨RX4, "wareOf", "(II)I"⟩
abbrev cX4_paperCost : ByteArray := prog_1_method_53_code
def yX4_paperCost : MethodName := ⟨RX4, "paperCost", "(I)I"⟩
abbrev cX4_priceOf : ByteArray := prog_1_method_54_code
def yX4_priceOf : MethodName := ⟨RX4, "priceOf", "(IIII)I"⟩
abbrev cX4_readItems : ByteArray := prog_1_method_55_code
def yX4_readItems : MethodName := ⟨RX4, "readItems", "(LAcreBuys$Tape;LAcreBuys$Land;)I"⟩
abbrev cX4_readItem : ByteArray := prog_1_method_56_code
def yX4_readItem : MethodName := ⟨RX4, "readItem", "(LAcreBuys$Tape;LAcreBuys$Land;)Z"⟩
abbrev cX4_readField : ByteArray := prog_1_method_57_code
def yX4_readField : MethodName := ⟨RX4, "readField", "(LAcreBuys$Tape;LAcreBuys$Land;I)Z"⟩
abbrev cX4_readStrip : ByteArray := prog_1_method_58_code
def yX4_readStrip : MethodName := ⟨RX4, "readStrip", "(LAcreBuys$Tape;LAcreBuys$Land;)Z"⟩
abbrev cX4_readInto : ByteArray := prog_1_method_59_code
def yX4_readInto : MethodName := ⟨RX4, "readInto", "(LAcreBuys$Tape;[IIII)Z"⟩
abbrev cX4_readSet : ByteArray := prog_1_method_60_code
def yX4_readSet : MethodName := ⟨RX4, "readSet", "(LAcreBuys$Tape;I)I"⟩
abbrev cX4_kindName : ByteArray := prog_1_method_61_code
def yX4_kindName : MethodName := ⟨RX4, "kindName", "(I)Ljava/lang/String;"⟩
abbrev cX4_ruleName : ByteArray := prog_1_method_62_code
def yX4_ruleName : MethodName := ⟨RX4, "ruleName", "(I)Ljava/lang/String;"⟩
def RX5 : String := "AcreBuysModel"
def TX5 : u_T := fun k => match k with
  | 0 => ("AcreBuysModel", "s", "[I", true)
  | 1 => ("AcreBuysModel", "kept", "[I", true)
  | 2 => ("AcreBuysModel", "tried", "[I", true)
  | 3 => ("AcreBuysModel", "spent", "J", false)
  | 4 => ("AcreBuysModel", "keptSpent", "J", false)
  | 5 => ("AcreBuysModel", "isKept", "Z", false)
  | 6 => ("AcreBuysModel", "findings", "[I", true)
  | 7 => ("AcreBuysModel", "tape", "[I", true)
  | 8 => ("AcreBuysModel", "taped", "I", false)
  | 9 => ("AcreBuysModel", "bitsOf", "[I", true)
  | 10 => ("AcreBuysModel", "sizes", "[I", true)
  | 11 => ("AcreBuysModel", "numbers", "[J", true)
  | 12 => ("AcreBuysModel", "wanted", "[I", true)
  | 13 => ("AcreBuysModel", "wantedMany", "I", false)
  | 14 => ("AcreBuysModel", "leastBehind", "[I", true)
  | 15 => ("AcreBuysModel", "bestCost", "I", false)
  | 16 => ("AcreBuysModel", "from", "I", false)
  | 17 => ("AcreBuysModel", "to", "I", false)
  | 18 => ("AcreBuysModel", "token", "I", false)
  | 19 => ("AcreBuysModel", "value", "I", false)
  | 20 => ("AcreBuysModel", "isBad", "Z", false)
  | _ => ("AcreBuysModel", "letters", "[I", true)
def tyX5 : Nat → FieldType := fun k => match k with
  | 0 => .array .int
  | 1 => .array .int
  | 2 => .array .int
  | 3 => .long
  | 4 => .long
  | 5 => .boolean
  | 6 => .array .int
  | 7 => .array .int
  | 8 => .int
  | 9 => .array .int
  | 10 => .array .int
  | 11 => .array .long
  | 12 => .array .int
  | 13 => .int
  | 14 => .array .int
  | 15 => .int
  | 16 => .int
  | 17 => .int
  | 18 => .int
  | 19 => .int
  | 20 => .boolean
  | _ => .array .int
abbrev wsX50 : List Cond := u_ws RX5 TX5 22
theorem nmX5 : ∀ a, a < 22 → ∀ b, b < 22 → a ≠ b → (TX5 a).2.1 ≠ (TX5 b).2.1 := by decide +kernel
theorem tyX5_ok : ∀ k, k < 22 → parseFieldDescriptor (TX5 k).2.2.1 = some (tyX5 k) := by decide +kernel
abbrev cX5_init : ByteArray := prog_7_method_1_code
def yX5_init : MethodName := ⟨RX5, "<init>", "()V"⟩
abbrev cX5_isIn : ByteArray := prog_7_method_2_code
def yX5_isIn : MethodName := ⟨RX5, "isIn", "(JJJ)Z"⟩
abbrev cX5_finds : ByteArray := prog_7_method_3_code
def yX5_finds : MethodName := ⟨RX5, "finds", "(I)I"⟩
abbrev cX5_at : ByteArray := prog_7_method_4_code
def yX5_at : MethodName := ⟨RX5, "at", "(II)I"⟩
abbrev cX5_has : ByteArray := prog_7_method_5_code
def yX5_has : MethodName := ⟨RX5, "has", "(II)I"⟩
abbrev cX5_isField : ByteArray := prog_7_method_6_code
def yX5_isField : MethodName := ⟨RX5, "isField", "(J)Z"⟩
abbrev cX5_isFree : ByteArray := prog_7_method_7_code
def yX5_isFree : MethodName := ⟨RX5, "isFree", "(I)Z"⟩
abbrev cX5_becomes : ByteArray := prog_7_method_8_code
def yX5_becomes : MethodName := ⟨RX5, "becomes", "(II)I"⟩
abbrev cX5_comes : ByteArray := prog_7_method_9_code
def yX5_comes : MethodName := ⟨RX5, "comes", "(II)V"⟩
abbrev cX5_field : ByteArray := prog_7_method_10_code
def yX5_field : MethodName := ⟨RX5, "field", "(II)I"⟩
abbrev cX5_ours : ByteArray := prog_7_method_11_code
def yX5_ours : MethodName := ⟨RX5, "ours", "()I"⟩
abbrev cX5_heardBy : ByteArray := prog_7_method_12_code
def yX5_heardBy : MethodName := ⟨RX5, "heardBy", "(II)I"⟩
abbrev cX5_wareBy : ByteArray := prog_7_method_13_code
def yX5_wareBy : MethodName := ⟨RX5, "wareBy", "(II)I"⟩
abbrev cX5_asksBy : ByteArray := prog_7_method_14_code
def yX5_asksBy : MethodName := ⟨RX5, "asksBy", "(II)I"⟩
abbrev cX5_asksNow : ByteArray := prog_7_method_15_code
def yX5_asksNow : MethodName := ⟨RX5, "asksNow", "(I)I"⟩
abbrev cX5_of : ByteArray := prog_7_method_16_code
def yX5_of : MethodName := ⟨RX5, "of", "(II)I"⟩
abbrev cX5_set : ByteArray := prog_7_method_17_code
def yX5_set : MethodName := ⟨RX5, "set", "(III)I"⟩
abbrev cX5_as : ByteArray := prog_7_method_18_code
def yX5_as : MethodName := ⟨RX5, "as", "(II)I"⟩
abbrev cX5_asks : ByteArray := prog_7_method_19_code
def yX5_asks : MethodName := ⟨RX5, "asks", "(II)I"⟩
abbrev cX5_mostOf : ByteArray := prog_7_method_20_code
def yX5_mostOf : MethodName := ⟨RX5, "mostOf", "(I)I"⟩
abbrev cX5_rule : ByteArray := prog_7_method_21_code
def yX5_rule : MethodName := ⟨RX5, "rule", "(II)I"⟩
abbrev cX5_offered : ByteArray := prog_7_method_22_code
def yX5_offered : MethodName := ⟨RX5, "offered", "(II)Z"⟩
abbrev cX5_offer : ByteArray := prog_7_method_23_code
def yX5_offer : MethodName := ⟨RX5, "offer", "(II)I"⟩
abbrev cX5_papers : ByteArray := prog_7_method_24_code
def yX5_papers : MethodName := ⟨RX5, "papers", "()I"⟩
abbrev cX5_paperFor : ByteArray := prog_7_method_25_code
def yX5_paperFor : MethodName := ⟨RX5, "paperFor", "(I)I"⟩
abbrev cX5_paper : ByteArray := prog_7_method_26_code
def yX5_paper : MethodName := ⟨RX5, "paper", "(II)I"⟩
abbrev cX5_paperOf : ByteArray := prog_7_method_27_code
def yX5_paperOf : MethodName := ⟨RX5, "paperOf", "(II)I"⟩
abbrev cX5_claim : ByteArray := prog_7_method_28_code
def yX5_claim : MethodName := ⟨RX5, "claim", "(I)I"⟩
abbrev cX5_county : ByteArray := prog_7_method_29_code
def yX5_county : MethodName := ⟨RX5, "county", "(I)I"⟩
abbrev cX5_month : ByteArray := prog_7_method_30_code
def yX5_month : MethodName := ⟨RX5, "month", "()I"⟩
abbrev cX5_seed : ByteArray := prog_7_method_31_code
def yX5_seed : MethodName := ⟨RX5, "seed", "(I)I"⟩
abbrev cX5_thatAre : ByteArray := prog_7_method_32_code
def yX5_thatAre : MethodName := ⟨RX5, "thatAre", "(I)I"⟩
abbrev cX5_stands : ByteArray := prog_7_method_33_code
def yX5_stands : MethodName := ⟨RX5, "stands", "(I)J"⟩
abbrev cX5_isStrip : ByteArray := prog_7_method_34_code
def yX5_isStrip : MethodName := ⟨RX5, "isStrip", "(I)Z"⟩
abbrev cX5_setOf : ByteArray := prog_7_method_35_code
def yX5_setOf : MethodName := ⟨RX5, "setOf", "(I)I"⟩
abbrev cX5_comesStrip : ByteArray := prog_7_method_36_code
def yX5_comesStrip : MethodName := ⟨RX5, "comesStrip", "(II)V"⟩
abbrev cX5_strip : ByteArray := prog_7_method_37_code
def yX5_strip : MethodName := ⟨RX5, "strip", "(II)I"⟩
abbrev cX5_thoseOf : ByteArray := prog_7_method_38_code
def yX5_thoseOf : MethodName := ⟨RX5, "thoseOf", "(II)I"⟩
abbrev cX5_isHad : ByteArray := prog_7_method_39_code
def yX5_isHad : MethodName := ⟨RX5, "isHad", "(I)Z"⟩
abbrev cX5_canBe : ByteArray := prog_7_method_40_code
def yX5_canBe : MethodName := ⟨RX5, "canBe", "(I)Z"⟩
abbrev cX5_stripOf : ByteArray := prog_7_method_41_code
def yX5_stripOf : MethodName := ⟨RX5, "stripOf", "(II)I"⟩
abbrev cX5_had : ByteArray := prog_7_method_42_code
def yX5_had : MethodName := ⟨RX5, "had", "()I"⟩
abbrev cX5_findWanted : ByteArray := prog_7_method_43_code
def yX5_findWanted : MethodName := ⟨RX5, "findWanted", "(I)V"⟩
abbrev cX5_asksBehind : ByteArray := prog_7_method_44_code
def yX5_asksBehind : MethodName := ⟨RX5, "asksBehind", "(II)I"⟩
abbrev cX5_findLeast : ByteArray := prog_7_method_45_code
def yX5_findLeast : MethodName := ⟨RX5, "findLeast", "()I"⟩
abbrev cX5_least : ByteArray := prog_7_method_46_code
def yX5_least : MethodName := ⟨RX5, "least", "(I)I"⟩
abbrev cX5_order : ByteArray := prog_7_method_47_code
def yX5_order : MethodName := ⟨RX5, "order", "(II)I"⟩
abbrev cX5_bestStrip : ByteArray := prog_7_method_48_code
def yX5_bestStrip : MethodName := ⟨RX5, "bestStrip", "()I"⟩
abbrev cX5_best : ByteArray := prog_7_method_49_code
def yX5_best : MethodName := ⟨RX5, "best", "()I"⟩
abbrev cX5_last : ByteArray := prog_7_method_50_code
def yX5_last : MethodName := ⟨RX5, "last", "(II)I"⟩
abbrev cX5_giveUp : ByteArray := prog_7_method_51_code
def yX5_giveUp : MethodName := ⟨RX5, "giveUp", "(I)I"⟩
abbrev cX5_rights : ByteArray := prog_7_method_52_code
def yX5_rights : MethodName := ⟨RX5, "rights", "(I)I"⟩
abbrev cX5_share : ByteArray := prog_7_method_53_code
def yX5_share : MethodName := ⟨RX5, "share", "(III)I"⟩
abbrev cX5_common : ByteArray := prog_7_method_54_code
def yX5_common : MethodName := ⟨RX5, "common", "()I"⟩
abbrev cX5_first : ByteArray := prog_7_method_55_code
def yX5_first : MethodName := ⟨RX5, "first", "(I)I"⟩
abbrev cX5_feed : ByteArray := prog_7_method_56_code
def yX5_feed : MethodName := ⟨RX5, "feed", "(II)I"⟩
abbrev cX5_wipe : ByteArray := prog_7_method_57_code
def yX5_wipe : MethodName := ⟨RX5, "wipe", "()I"⟩
abbrev cX5_byteAt : ByteArray := prog_7_method_58_code
def yX5_byteAt : MethodName := ⟨RX5, "byteAt", "(I)I"⟩
abbrev cX5_wordHere : ByteArray := prog_7_method_59_code
def yX5_wordHere : MethodName := ⟨RX5, "wordHere", "()I"⟩
abbrev cX5_goesOn : ByteArray := prog_7_method_60_code
def yX5_goesOn : MethodName := ⟨RX5, "goesOn", "()V"⟩
abbrev cX5_isWord : ByteArray := prog_7_method_61_code
def yX5_isWord : MethodName := ⟨RX5, "isWord", "(I)Z"⟩
abbrev cX5_takes : ByteArray := prog_7_method_62_code
def yX5_takes : MethodName := ⟨RX5, "takes", "(I)Z"⟩
abbrev cX5_number : ByteArray := prog_7_method_63_code
def yX5_number : MethodName := ⟨RX5, "number", "(II)I"⟩
abbrev cX5_numbersBelow : ByteArray := prog_7_method_64_code
def yX5_numbersBelow : MethodName := ⟨RX5, "numbersBelow", "(I)I"⟩
abbrev cX5_fieldItem : ByteArray := prog_7_method_65_code
def yX5_fieldItem : MethodName := ⟨RX5, "fieldItem", "(I)V"⟩
abbrev cX5_stripItem : ByteArray := prog_7_method_66_code
def yX5_stripItem : MethodName := ⟨RX5, "stripItem", "()V"⟩
abbrev cX5_item : ByteArray := prog_7_method_67_code
def yX5_item : MethodName := ⟨RX5, "item", "()V"⟩
abbrev cX5_plan : ByteArray := prog_7_method_68_code
def yX5_plan : MethodName := ⟨RX5, "plan", "()I"⟩
abbrev cX5_isSheet : ByteArray := prog_7_method_69_code
def yX5_isSheet : MethodName := ⟨RX5, "isSheet", "(I)Z"⟩
abbrev cX5_narrow : ByteArray := prog_7_method_70_code
def yX5_narrow : MethodName := ⟨RX5, "narrow", "(IJ)J"⟩
abbrev cX5_sheet : ByteArray := prog_7_method_71_code
def yX5_sheet : MethodName := ⟨RX5, "sheet", "(III)I"⟩
abbrev cX5_write : ByteArray := prog_7_method_72_code
def yX5_write : MethodName := ⟨RX5, "write", "(IIJ)J"⟩
abbrev cX5_copy : ByteArray := prog_7_method_73_code
def yX5_copy : MethodName := ⟨RX5, "copy", "(IIIII)I"⟩
abbrev cX5_cost : ByteArray := prog_7_method_74_code
def yX5_cost : MethodName := ⟨RX5, "cost", "(I)J"⟩
abbrev cX5_offers : ByteArray := prog_7_method_75_code
def yX5_offers : MethodName := ⟨RX5, "offers", "(I)I"⟩
abbrev cX5_read : ByteArray := prog_7_method_76_code
def yX5_read : MethodName := ⟨RX5, "read", "(I)I"⟩
abbrev cX5_image : ByteArray := prog_7_method_77_code
def yX5_image : MethodName := ⟨RX5, "image", "()I"⟩
abbrev cX5_undo : ByteArray := prog_7_method_78_code
def yX5_undo : MethodName := ⟨RX5, "undo", "()I"⟩
abbrev cX5_tear : ByteArray := prog_7_method_79_code
def yX5_tear : MethodName := ⟨RX5, "tear", "()I"⟩
abbrev cX5_allWary : ByteArray := prog_7_method_80_code
def yX5_allWary : MethodName := ⟨RX5, "allWary", "()I"⟩
abbrev cX5_count : ByteArray := prog_7_method_81_code
def yX5_count : MethodName := ⟨RX5, "count", "(I)I"⟩
abbrev cX5_status : ByteArray := prog_7_method_82_code
def yX5_status : MethodName := ⟨RX5, "status", "(I)I"⟩
def RJx145de : String := "java/io/Serializable"
def TJx145de : u_T := fun k => match k with
  | _ => ("", "", "", false)
def tyJx145de : Nat → FieldType := fun k => match k with
  | _ => .int
abbrev wsJx145de0 : List Cond := u_ws RJx145de TJx145de 0
theorem nmJx145de : ∀ a, a < 0 → ∀ b, b < 0 → a ≠ b → (TJx145de a).2.1 ≠ (TJx145de b).2.1 := by decide +kernel
theorem tyJx145de_ok : ∀ k, k < 0 → parseFieldDescriptor (TJx145de k).2.2.1 = some (tyJx145de k) := by decide +kernel
def RJx9f9b0 : String := "java/lang/CharSequence"
def TJx9f9b0 : u_T := fun k => match k with
  | _ => ("", "", "", false)
def tyJx9f9b0 : Nat → FieldType := fun k => match k with
  | _ => .int
abbrev wsJx9f9b00 : List Cond := u_ws RJx9f9b0 TJx9f9b0 0
theorem nmJx9f9b0 : ∀ a, a < 0 → ∀ b, b < 0 → a ≠ b → (TJx9f9b0 a).2.1 ≠ (TJx9f9b0 b).2.1 := by decide +kernel
theorem tyJx9f9b0_ok : ∀ k, k < 0 → parseFieldDescriptor (TJx9f9b0 k).2.2.1 = some (tyJx9f9b0 k) := by decide +kernel
def RJxb160c : String := "java/lang/Comparable"
def TJxb160c : u_T := fun k => match k with
  | _ => ("", "", "", false)
def tyJxb160c : Nat → FieldType := fun k => match k with
  | _ => .int
abbrev wsJxb160c0 : List Cond := u_ws RJxb160c TJxb160c 0
theorem nmJxb160c : ∀ a, a < 0 → ∀ b, b < 0 → a ≠ b → (TJxb160c a).2.1 ≠ (TJxb160c b).2.1 := by decide +kernel
theorem tyJxb160c_ok : ∀ k, k < 0 → parseFieldDescriptor (TJxb160c k).2.2.1 = some (tyJxb160c k) := by decide +kernel
def RJ6 : String := "java/lang/Integer"
def TJ6 : u_T := fun k => match k with
  | _ => ("", "", "", false)
def tyJ6 : Nat → FieldType := fun k => match k with
  | _ => .int
abbrev wsJ60 : List Cond := u_ws RJ6 TJ6 0
theorem nmJ6 : ∀ a, a < 0 → ∀ b, b < 0 → a ≠ b → (TJ6 a).2.1 ≠ (TJ6 b).2.1 := by decide +kernel
theorem tyJ6_ok : ∀ k, k < 0 → parseFieldDescriptor (TJ6 k).2.2.1 = some (tyJ6 k) := by decide +kernel
abbrev cJ6_bitCount_0f7a4 : ByteArray := prog_8_method_49_code
def yJ6_bitCount_0f7a4 : MethodName := ⟨RJ6, "bitCount", "(I)I"⟩
def RJ9 : String := "java/lang/Math"
def TJ9 : u_T := fun k => match k with
  | _ => ("", "", "", false)
def tyJ9 : Nat → FieldType := fun k => match k with
  | _ => .int
abbrev wsJ90 : List Cond := u_ws RJ9 TJ9 0
theorem nmJ9 : ∀ a, a < 0 → ∀ b, b < 0 → a ≠ b → (TJ9 a).2.1 ≠ (TJ9 b).2.1 := by decide +kernel
theorem tyJ9_ok : ∀ k, k < 0 → parseFieldDescriptor (TJ9 k).2.2.1 = some (tyJ9 k) := by decide +kernel
abbrev cJ9_max_7cf53 : ByteArray := prog_9_method_65_code
def yJ9_max_7cf53 : MethodName := ⟨RJ9, "max", "(II)I"⟩
abbrev cJ9_min_7cf53 : ByteArray := prog_9_method_69_code
def yJ9_min_7cf53 : MethodName := ⟨RJ9, "min", "(II)I"⟩
def RJ0 : String := "java/lang/String"
def TJ0 : u_T := fun k => match k with
  | _ => ("", "", "", false)
def tyJ0 : Nat → FieldType := fun k => match k with
  | _ => .int
abbrev wsJ00 : List Cond := u_ws RJ0 TJ0 0
theorem nmJ0 : ∀ a, a < 0 → ∀ b, b < 0 → a ≠ b → (TJ0 a).2.1 ≠ (TJ0 b).2.1 := by decide +kernel
theorem tyJ0_ok : ∀ k, k < 0 → parseFieldDescriptor (TJ0 k).2.2.1 = some (tyJ0 k) := by decide +kernel
abbrev cJ0_length_8abf5 : ByteArray := prog_10_method_54_code
def yJ0_length_8abf5 : MethodName := ⟨RJ0, "length", "()I"⟩
abbrev cJ0_charAt_5068e : ByteArray := prog_10_method_56_code
def yJ0_charAt_5068e : MethodName := ⟨RJ0, "charAt", "(I)C"⟩
abbrev cJ0_coder_7d493 : ByteArray := prog_10_method_152_code
def yJ0_coder_7d493 : MethodName := ⟨RJ0, "coder", "()B"⟩
abbrev cJ0_isLatin1_aae02 : ByteArray := prog_10_method_154_code
def yJ0_isLatin1_aae02 : MethodName := ⟨RJ0, "isLatin1", "()Z"⟩
abbrev cJ0_checkIndex_df160 : ByteArray := prog_10_method_155_code
def yJ0_checkIndex_df160 : MethodName := ⟨RJ0, "checkIndex", "(II)V"⟩
def RJ1 : String := "java/lang/StringLatin1"
def TJ1 : u_T := fun k => match k with
  | _ => ("", "", "", false)
def tyJ1 : Nat → FieldType := fun k => match k with
  | _ => .int
abbrev wsJ10 : List Cond := u_ws RJ1 TJ1 0
theorem nmJ1 : ∀ a, a < 0 → ∀ b, b < 0 → a ≠ b → (TJ1 a).2.1 ≠ (TJ1 b).2.1 := by decide +kernel
theorem tyJ1_ok : ∀ k, k < 0 → parseFieldDescriptor (TJ1 k).2.2.1 = some (tyJ1 k) := by decide +kernel
abbrev cJ1_charAt_3b067 : ByteArray := prog_11_method_2_code
def yJ1_charAt_3b067 : MethodName := ⟨RJ1, "charAt", "([BI)C"⟩
def RJ2 : String := "java/lang/StringUTF16"
def TJ2 : u_T := fun k => match k with
  | _ => ("", "", "", false)
def tyJ2 : Nat → FieldType := fun k => match k with
  | _ => .int
abbrev wsJ20 : List Cond := u_ws RJ2 TJ2 0
theorem nmJ2 : ∀ a, a < 0 → ∀ b, b < 0 → a ≠ b → (TJ2 a).2.1 ≠ (TJ2 b).2.1 := by decide +kernel
theorem tyJ2_ok : ∀ k, k < 0 → parseFieldDescriptor (TJ2 k).2.2.1 = some (tyJ2 k) := by decide +kernel
abbrev cJ2_getChar_3b067 : ByteArray := prog_12_method_5_code
def yJ2_getChar_3b067 : MethodName := ⟨RJ2, "getChar", "([BI)C"⟩
abbrev cJ2_length_9d52b : ByteArray := prog_12_method_6_code
def yJ2_length_9d52b : MethodName := ⟨RJ2, "length", "([B)I"⟩
abbrev cJ2_charAt_3b067 : ByteArray := prog_12_method_83_code
def yJ2_charAt_3b067 : MethodName := ⟨RJ2, "charAt", "([BI)C"⟩
abbrev cJ2_checkIndex_2214a : ByteArray := prog_12_method_91_code
def yJ2_checkIndex_2214a : MethodName := ⟨RJ2, "checkIndex", "(I[B)V"⟩
def RJ10 : String := "java/lang/System"
def TJ10 : u_T := fun k => match k with
  | _ => ("", "", "", false)
def tyJ10 : Nat → FieldType := fun k => match k with
  | _ => .int
abbrev wsJ100 : List Cond := u_ws RJ10 TJ10 0
theorem nmJ10 : ∀ a, a < 0 → ∀ b, b < 0 → a ≠ b → (TJ10 a).2.1 ≠ (TJ10 b).2.1 := by decide +kernel
theorem tyJ10_ok : ∀ k, k < 0 → parseFieldDescriptor (TJ10 k).2.2.1 = some (tyJ10 k) := by decide +kernel
def RJxfd54e : String := "java/lang/constant/Constable"
def TJxfd54e : u_T := fun k => match k with
  | _ => ("", "", "", false)
def tyJxfd54e : Nat → FieldType := fun k => match k with
  | _ => .int
abbrev wsJxfd54e0 : List Cond := u_ws RJxfd54e TJxfd54e 0
theorem nmJxfd54e : ∀ a, a < 0 → ∀ b, b < 0 → a ≠ b → (TJxfd54e a).2.1 ≠ (TJxfd54e b).2.1 := by decide +kernel
theorem tyJxfd54e_ok : ∀ k, k < 0 → parseFieldDescriptor (TJxfd54e k).2.2.1 = some (tyJxfd54e k) := by decide +kernel
def RJx3cf43 : String := "java/lang/constant/ConstantDesc"
def TJx3cf43 : u_T := fun k => match k with
  | _ => ("", "", "", false)
def tyJx3cf43 : Nat → FieldType := fun k => match k with
  | _ => .int
abbrev wsJx3cf430 : List Cond := u_ws RJx3cf43 TJx3cf43 0
theorem nmJx3cf43 : ∀ a, a < 0 → ∀ b, b < 0 → a ≠ b → (TJx3cf43 a).2.1 ≠ (TJx3cf43 b).2.1 := by decide +kernel
theorem tyJx3cf43_ok : ∀ k, k < 0 → parseFieldDescriptor (TJx3cf43 k).2.2.1 = some (tyJx3cf43 k) := by decide +kernel
def RJ7 : String := "java/util/Arrays"
def TJ7 : u_T := fun k => match k with
  | _ => ("", "", "", false)
def tyJ7 : Nat → FieldType := fun k => match k with
  | _ => .int
abbrev wsJ70 : List Cond := u_ws RJ7 TJ7 0
theorem nmJ7 : ∀ a, a < 0 → ∀ b, b < 0 → a ≠ b → (TJ7 a).2.1 ≠ (TJ7 b).2.1 := by decide +kernel
theorem tyJ7_ok : ∀ k, k < 0 → parseFieldDescriptor (TJ7 k).2.2.1 = some (tyJ7 k) := by decide +kernel
abbrev cJ7_fill_d0a16 : ByteArray := prog_14_method_101_code
def yJ7_fill_d0a16 : MethodName := ⟨RJ7, "fill", "([JJ)V"⟩
def RJ3 : String := "jdk/internal/util/Preconditions"
def TJ3 : u_T := fun k => match k with
  | _ => ("", "", "", false)
def tyJ3 : Nat → FieldType := fun k => match k with
  | _ => .int
abbrev wsJ30 : List Cond := u_ws RJ3 TJ3 0
theorem nmJ3 : ∀ a, a < 0 → ∀ b, b < 0 → a ≠ b → (TJ3 a).2.1 ≠ (TJ3 b).2.1 := by decide +kernel
theorem tyJ3_ok : ∀ k, k < 0 → parseFieldDescriptor (TJ3 k).2.2.1 = some (tyJ3 k) := by decide +kernel
abbrev cJ3_checkIndex_8e157 : ByteArray := prog_15_method_11_code
def yJ3_checkIndex_8e157 : MethodName := ⟨RJ3, "checkIndex", "(IILjava/util/function/BiFunction;)I"⟩
def RL : String := "AcreBuysLaw"
abbrev cL_law : ByteArray := code
def yL_law : MethodName := ⟨RL, "law", "([I)Z"⟩
abbrev vwCl : List vw_C := [(RX0, TX0, 17), (RX1, TX1, 5), (RX2, TX2, 3), (RX3, TX3, 6), (RX4, TX4, 8), (RX5, TX5, 22)]

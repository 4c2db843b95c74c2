section
-- ===== PART A: goes FIRST, ahead of the names: the tables' words, and 'selects' of the private methods out of them =====
/-- a private method of a class that the tables say can be made, by its rows of tables_1 -/
def lw_okq (q : MethodName × Nat) : Prop := (q.1.cls ≠ "java/lang/invoke/MethodHandle" ∧ q.1.cls ≠ "java/lang/invoke/VarHandle") ∧ Cond.instantiable q.1.cls q.2 ∈ tables_1 ∧ Cond.privateMethod q.1 ∈ tables_1 ∧ Cond.instanceMethod q.1 ∈ tables_1
theorem lw_p0 : lw_okq (⟨"AcreBuys", "refuse", "(I)I"⟩, 8) := ⟨⟨by decide +kernel, by decide +kernel⟩, List.mem_of_getElem? (i := 16) (by decide +kernel), List.mem_of_getElem? (i := 210) (by decide +kernel), List.mem_of_getElem? (i := 211) (by decide +kernel)⟩
theorem lw_p1 : lw_okq (⟨"AcreBuys$Land", "addField", "(II)I"⟩, 17) := ⟨⟨by decide +kernel, by decide +kernel⟩, List.mem_of_getElem? (i := 24) (by decide +kernel), List.mem_of_getElem? (i := 215) (by decide +kernel), List.mem_of_getElem? (i := 216) (by decide +kernel)⟩
theorem lw_p2 : lw_okq (⟨"AcreBuys$Land", "hasField", "(I)Z"⟩, 17) := ⟨⟨by decide +kernel, by decide +kernel⟩, List.mem_of_getElem? (i := 24) (by decide +kernel), List.mem_of_getElem? (i := 223) (by decide +kernel), List.mem_of_getElem? (i := 224) (by decide +kernel)⟩
theorem lw_p3 : lw_okq (⟨"AcreBuys$Land", "holderOf", "(I)I"⟩, 17) := ⟨⟨by decide +kernel, by decide +kernel⟩, List.mem_of_getElem? (i := 24) (by decide +kernel), List.mem_of_getElem? (i := 228) (by decide +kernel), List.mem_of_getElem? (i := 229) (by decide +kernel)⟩
theorem lw_p4 : lw_okq (⟨"AcreBuys$Land", "priceNow", "(I)I"⟩, 17) := ⟨⟨by decide +kernel, by decide +kernel⟩, List.mem_of_getElem? (i := 24) (by decide +kernel), List.mem_of_getElem? (i := 235) (by decide +kernel), List.mem_of_getElem? (i := 236) (by decide +kernel)⟩
theorem lw_p5 : lw_okq (⟨"AcreBuys$Land", "priceBy", "(II)I"⟩, 17) := ⟨⟨by decide +kernel, by decide +kernel⟩, List.mem_of_getElem? (i := 24) (by decide +kernel), List.mem_of_getElem? (i := 239) (by decide +kernel), List.mem_of_getElem? (i := 240) (by decide +kernel)⟩
theorem lw_p6 : lw_okq (⟨"AcreBuys$Land", "heardBy", "(II)I"⟩, 17) := ⟨⟨by decide +kernel, by decide +kernel⟩, List.mem_of_getElem? (i := 24) (by decide +kernel), List.mem_of_getElem? (i := 243) (by decide +kernel), List.mem_of_getElem? (i := 244) (by decide +kernel)⟩
theorem lw_p7 : lw_okq (⟨"AcreBuys$Land", "tellersOf", "(I)I"⟩, 17) := ⟨⟨by decide +kernel, by decide +kernel⟩, List.mem_of_getElem? (i := 24) (by decide +kernel), List.mem_of_getElem? (i := 247) (by decide +kernel), List.mem_of_getElem? (i := 248) (by decide +kernel)⟩
theorem lw_p8 : lw_okq (⟨"AcreBuys$Land", "priceHearing", "(II)I"⟩, 17) := ⟨⟨by decide +kernel, by decide +kernel⟩, List.mem_of_getElem? (i := 24) (by decide +kernel), List.mem_of_getElem? (i := 257) (by decide +kernel), List.mem_of_getElem? (i := 258) (by decide +kernel)⟩
theorem lw_p9 : lw_okq (⟨"AcreBuys$Land", "isFree", "(I)Z"⟩, 17) := ⟨⟨by decide +kernel, by decide +kernel⟩, List.mem_of_getElem? (i := 24) (by decide +kernel), List.mem_of_getElem? (i := 304) (by decide +kernel), List.mem_of_getElem? (i := 305) (by decide +kernel)⟩
theorem lw_p10 : lw_okq (⟨"AcreBuys$Land", "freeIn", "(I)I"⟩, 17) := ⟨⟨by decide +kernel, by decide +kernel⟩, List.mem_of_getElem? (i := 24) (by decide +kernel), List.mem_of_getElem? (i := 308) (by decide +kernel), List.mem_of_getElem? (i := 309) (by decide +kernel)⟩
theorem lw_p11 : lw_okq (⟨"AcreBuys$Land", "allFields", "()I"⟩, 17) := ⟨⟨by decide +kernel, by decide +kernel⟩, List.mem_of_getElem? (i := 24) (by decide +kernel), List.mem_of_getElem? (i := 312) (by decide +kernel), List.mem_of_getElem? (i := 313) (by decide +kernel)⟩
theorem lw_p12 : lw_okq (⟨"AcreBuys$Land", "bid", "(II)Z"⟩, 17) := ⟨⟨by decide +kernel, by decide +kernel⟩, List.mem_of_getElem? (i := 24) (by decide +kernel), List.mem_of_getElem? (i := 317) (by decide +kernel), List.mem_of_getElem? (i := 318) (by decide +kernel)⟩
theorem lw_p13 : lw_okq (⟨"AcreBuys$Land", "buy", "(II)V"⟩, 17) := ⟨⟨by decide +kernel, by decide +kernel⟩, List.mem_of_getElem? (i := 24) (by decide +kernel), List.mem_of_getElem? (i := 322) (by decide +kernel), List.mem_of_getElem? (i := 323) (by decide +kernel)⟩
theorem lw_p14 : lw_okq (⟨"AcreBuys$Land", "dropPaper", "(I)V"⟩, 17) := ⟨⟨by decide +kernel, by decide +kernel⟩, List.mem_of_getElem? (i := 24) (by decide +kernel), List.mem_of_getElem? (i := 326) (by decide +kernel), List.mem_of_getElem? (i := 327) (by decide +kernel)⟩
theorem lw_p15 : lw_okq (⟨"AcreBuys$Land", "takePaper", "(II)I"⟩, 17) := ⟨⟨by decide +kernel, by decide +kernel⟩, List.mem_of_getElem? (i := 24) (by decide +kernel), List.mem_of_getElem? (i := 337) (by decide +kernel), List.mem_of_getElem? (i := 338) (by decide +kernel)⟩
def lw_privs_1 : List (MethodName × Nat) := [(⟨"AcreBuys", "refuse", "(I)I"⟩, 8), (⟨"AcreBuys$Land", "addField", "(II)I"⟩, 17), (⟨"AcreBuys$Land", "hasField", "(I)Z"⟩, 17), (⟨"AcreBuys$Land", "holderOf", "(I)I"⟩, 17), (⟨"AcreBuys$Land", "priceNow", "(I)I"⟩, 17), (⟨"AcreBuys$Land", "priceBy", "(II)I"⟩, 17), (⟨"AcreBuys$Land", "heardBy", "(II)I"⟩, 17), (⟨"AcreBuys$Land", "tellersOf", "(I)I"⟩, 17), (⟨"AcreBuys$Land", "priceHearing", "(II)I"⟩, 17), (⟨"AcreBuys$Land", "isFree", "(I)Z"⟩, 17), (⟨"AcreBuys$Land", "freeIn", "(I)I"⟩, 17), (⟨"AcreBuys$Land", "allFields", "()I"⟩, 17), (⟨"AcreBuys$Land", "bid", "(II)Z"⟩, 17), (⟨"AcreBuys$Land", "buy", "(II)V"⟩, 17), (⟨"AcreBuys$Land", "dropPaper", "(I)V"⟩, 17), (⟨"AcreBuys$Land", "takePaper", "(II)I"⟩, 17)]
theorem lw_r1 : ∀ q ∈ lw_privs_1, lw_okq q := List.forall_mem_cons.mpr ⟨lw_p0, List.forall_mem_cons.mpr ⟨lw_p1, List.forall_mem_cons.mpr ⟨lw_p2, List.forall_mem_cons.mpr ⟨lw_p3, List.forall_mem_cons.mpr ⟨lw_p4, List.forall_mem_cons.mpr ⟨lw_p5, List.forall_mem_cons.mpr ⟨lw_p6, List.forall_mem_cons.mpr ⟨lw_p7, List.forall_mem_cons.mpr ⟨lw_p8, List.forall_mem_cons.mpr ⟨lw_p9, List.forall_mem_cons.mpr ⟨lw_p10, List.forall_mem_cons.mpr ⟨lw_p11, List.forall_mem_cons.mpr ⟨lw_p12, List.forall_mem_cons.mpr ⟨lw_p13, List.forall_mem_cons.mpr ⟨lw_p14, List.forall_mem_cons.mpr ⟨lw_p15, fun _ h => absurd h List.not_mem_nil⟩⟩⟩⟩⟩⟩⟩⟩⟩⟩⟩⟩⟩⟩⟩⟩
theorem lw_p16 : lw_okq (⟨"AcreBuys$Land", "dropPastPapers", "()V"⟩, 17) := ⟨⟨by decide +kernel, by decide +kernel⟩, List.mem_of_getElem? (i := 24) (by decide +kernel), List.mem_of_getElem? (i := 365) (by decide +kernel), List.mem_of_getElem? (i := 366) (by decide +kernel)⟩
theorem lw_p17 : lw_okq (⟨"AcreBuys$Land", "rivalTakes", "()I"⟩, 17) := ⟨⟨by decide +kernel, by decide +kernel⟩, List.mem_of_getElem? (i := 24) (by decide +kernel), List.mem_of_getElem? (i := 369) (by decide +kernel), List.mem_of_getElem? (i := 370) (by decide +kernel)⟩
theorem lw_p18 : lw_okq (⟨"AcreBuys$Land", "calmDown", "()V"⟩, 17) := ⟨⟨by decide +kernel, by decide +kernel⟩, List.mem_of_getElem? (i := 24) (by decide +kernel), List.mem_of_getElem? (i := 375) (by decide +kernel), List.mem_of_getElem? (i := 376) (by decide +kernel)⟩
theorem lw_p19 : lw_okq (⟨"AcreBuys$Land", "addStrip", "(II)I"⟩, 17) := ⟨⟨by decide +kernel, by decide +kernel⟩, List.mem_of_getElem? (i := 24) (by decide +kernel), List.mem_of_getElem? (i := 393) (by decide +kernel), List.mem_of_getElem? (i := 394) (by decide +kernel)⟩
theorem lw_p20 : lw_okq (⟨"AcreBuys$Land", "hasStrip", "(I)Z"⟩, 17) := ⟨⟨by decide +kernel, by decide +kernel⟩, List.mem_of_getElem? (i := 24) (by decide +kernel), List.mem_of_getElem? (i := 401) (by decide +kernel), List.mem_of_getElem? (i := 402) (by decide +kernel)⟩
theorem lw_p21 : lw_okq (⟨"AcreBuys$Land", "isHad", "(I)Z"⟩, 17) := ⟨⟨by decide +kernel, by decide +kernel⟩, List.mem_of_getElem? (i := 24) (by decide +kernel), List.mem_of_getElem? (i := 405) (by decide +kernel), List.mem_of_getElem? (i := 406) (by decide +kernel)⟩
theorem lw_p22 : lw_okq (⟨"AcreBuys$Land", "missingOf", "(I)I"⟩, 17) := ⟨⟨by decide +kernel, by decide +kernel⟩, List.mem_of_getElem? (i := 24) (by decide +kernel), List.mem_of_getElem? (i := 409) (by decide +kernel), List.mem_of_getElem? (i := 410) (by decide +kernel)⟩
theorem lw_p23 : lw_okq (⟨"AcreBuys$Land", "canBe", "(I)Z"⟩, 17) := ⟨⟨by decide +kernel, by decide +kernel⟩, List.mem_of_getElem? (i := 24) (by decide +kernel), List.mem_of_getElem? (i := 413) (by decide +kernel), List.mem_of_getElem? (i := 414) (by decide +kernel)⟩
theorem lw_p24 : lw_okq (⟨"AcreBuys", "hindranceOf", "(I)I"⟩, 8) := ⟨⟨by decide +kernel, by decide +kernel⟩, List.mem_of_getElem? (i := 16) (by decide +kernel), List.mem_of_getElem? (i := 425) (by decide +kernel), List.mem_of_getElem? (i := 426) (by decide +kernel)⟩
theorem lw_p25 : lw_okq (⟨"AcreBuys", "leastCost", "(I)I"⟩, 8) := ⟨⟨by decide +kernel, by decide +kernel⟩, List.mem_of_getElem? (i := 16) (by decide +kernel), List.mem_of_getElem? (i := 431) (by decide +kernel), List.mem_of_getElem? (i := 432) (by decide +kernel)⟩
theorem lw_p26 : lw_okq (⟨"AcreBuys$OrderSearch", "run", "(LAcreBuys$Land;I)I"⟩, 5) := ⟨⟨by decide +kernel, by decide +kernel⟩, List.mem_of_getElem? (i := 102) (by decide +kernel), List.mem_of_getElem? (i := 435) (by decide +kernel), List.mem_of_getElem? (i := 436) (by decide +kernel)⟩
theorem lw_p27 : lw_okq (⟨"AcreBuys$OrderSearch", "layRow", "(LAcreBuys$Land;I)V"⟩, 5) := ⟨⟨by decide +kernel, by decide +kernel⟩, List.mem_of_getElem? (i := 102) (by decide +kernel), List.mem_of_getElem? (i := 439) (by decide +kernel), List.mem_of_getElem? (i := 440) (by decide +kernel)⟩
theorem lw_p28 : lw_okq (⟨"AcreBuys$OrderSearch", "costBy", "(II)I"⟩, 5) := ⟨⟨by decide +kernel, by decide +kernel⟩, List.mem_of_getElem? (i := 102) (by decide +kernel), List.mem_of_getElem? (i := 448) (by decide +kernel), List.mem_of_getElem? (i := 449) (by decide +kernel)⟩
theorem lw_p29 : lw_okq (⟨"AcreBuys$OrderSearch", "fieldAt", "(I)I"⟩, 5) := ⟨⟨by decide +kernel, by decide +kernel⟩, List.mem_of_getElem? (i := 102) (by decide +kernel), List.mem_of_getElem? (i := 457) (by decide +kernel), List.mem_of_getElem? (i := 458) (by decide +kernel)⟩
theorem lw_p30 : lw_okq (⟨"AcreBuys$OrderSearch", "nextOf", "(I)I"⟩, 5) := ⟨⟨by decide +kernel, by decide +kernel⟩, List.mem_of_getElem? (i := 102) (by decide +kernel), List.mem_of_getElem? (i := 462) (by decide +kernel), List.mem_of_getElem? (i := 463) (by decide +kernel)⟩
theorem lw_p31 : lw_okq (⟨"AcreBuys$Land", "dearestLast", "(I)I"⟩, 17) := ⟨⟨by decide +kernel, by decide +kernel⟩, List.mem_of_getElem? (i := 24) (by decide +kernel), List.mem_of_getElem? (i := 474) (by decide +kernel), List.mem_of_getElem? (i := 475) (by decide +kernel)⟩
def lw_privs_2 : List (MethodName × Nat) := [(⟨"AcreBuys$Land", "dropPastPapers", "()V"⟩, 17), (⟨"AcreBuys$Land", "rivalTakes", "()I"⟩, 17), (⟨"AcreBuys$Land", "calmDown", "()V"⟩, 17), (⟨"AcreBuys$Land", "addStrip", "(II)I"⟩, 17), (⟨"AcreBuys$Land", "hasStrip", "(I)Z"⟩, 17), (⟨"AcreBuys$Land", "isHad", "(I)Z"⟩, 17), (⟨"AcreBuys$Land", "missingOf", "(I)I"⟩, 17), (⟨"AcreBuys$Land", "canBe", "(I)Z"⟩, 17), (⟨"AcreBuys", "hindranceOf", "(I)I"⟩, 8), (⟨"AcreBuys", "leastCost", "(I)I"⟩, 8), (⟨"AcreBuys$OrderSearch", "run", "(LAcreBuys$Land;I)I"⟩, 5), (⟨"AcreBuys$OrderSearch", "layRow", "(LAcreBuys$Land;I)V"⟩, 5), (⟨"AcreBuys$OrderSearch", "costBy", "(II)I"⟩, 5), (⟨"AcreBuys$OrderSearch", "fieldAt", "(I)I"⟩, 5), (⟨"AcreBuys$OrderSearch", "nextOf", "(I)I"⟩, 5), (⟨"AcreBuys$Land", "dearestLast", "(I)I"⟩, 17)]
theorem lw_r2 : ∀ q ∈ lw_privs_2, lw_okq q := List.forall_mem_cons.mpr ⟨lw_p16, List.forall_mem_cons.mpr ⟨lw_p17, List.forall_mem_cons.mpr ⟨lw_p18, List.forall_mem_cons.mpr ⟨lw_p19, List.forall_mem_cons.mpr ⟨lw_p20, List.forall_mem_cons.mpr ⟨lw_p21, List.forall_mem_cons.mpr ⟨lw_p22, List.forall_mem_cons.mpr ⟨lw_p23, List.forall_mem_cons.mpr ⟨lw_p24, List.forall_mem_cons.mpr ⟨lw_p25, List.forall_mem_cons.mpr ⟨lw_p26, List.forall_mem_cons.mpr ⟨lw_p27, List.forall_mem_cons.mpr ⟨lw_p28, List.forall_mem_cons.mpr ⟨lw_p29, List.forall_mem_cons.mpr ⟨lw_p30, List.forall_mem_cons.mpr ⟨lw_p31, fun _ h => absurd h List.not_mem_nil⟩⟩⟩⟩⟩⟩⟩⟩⟩⟩⟩⟩⟩⟩⟩⟩
theorem lw_p32 : lw_okq (⟨"AcreBuys$Land", "priceAsLast", "(II)I"⟩, 17) := ⟨⟨by decide +kernel, by decide +kernel⟩, List.mem_of_getElem? (i := 24) (by decide +kernel), List.mem_of_getElem? (i := 478) (by decide +kernel), List.mem_of_getElem? (i := 479) (by decide +kernel)⟩
theorem lw_p33 : lw_okq (⟨"AcreBuys$Land", "worthsIn", "(I)I"⟩, 17) := ⟨⟨by decide +kernel, by decide +kernel⟩, List.mem_of_getElem? (i := 24) (by decide +kernel), List.mem_of_getElem? (i := 497) (by decide +kernel), List.mem_of_getElem? (i := 498) (by decide +kernel)⟩
theorem lw_p34 : lw_okq (⟨"AcreBuys$Land", "quietestFirst", "(I)I"⟩, 17) := ⟨⟨by decide +kernel, by decide +kernel⟩, List.mem_of_getElem? (i := 24) (by decide +kernel), List.mem_of_getElem? (i := 509) (by decide +kernel), List.mem_of_getElem? (i := 510) (by decide +kernel)⟩
theorem lw_p35 : lw_okq (⟨"AcreBuys$Land", "pricesIn", "(II)I"⟩, 17) := ⟨⟨by decide +kernel, by decide +kernel⟩, List.mem_of_getElem? (i := 24) (by decide +kernel), List.mem_of_getElem? (i := 513) (by decide +kernel), List.mem_of_getElem? (i := 514) (by decide +kernel)⟩
theorem lw_p36 : lw_okq (⟨"AcreBuys$Tape", "add", "(I)V"⟩, 6) := ⟨⟨by decide +kernel, by decide +kernel⟩, List.mem_of_getElem? (i := 124) (by decide +kernel), List.mem_of_getElem? (i := 521) (by decide +kernel), List.mem_of_getElem? (i := 522) (by decide +kernel)⟩
theorem lw_p37 : lw_okq (⟨"AcreBuys$Land", "become", "(LAcreBuys$Land;)V"⟩, 17) := ⟨⟨by decide +kernel, by decide +kernel⟩, List.mem_of_getElem? (i := 24) (by decide +kernel), List.mem_of_getElem? (i := 533) (by decide +kernel), List.mem_of_getElem? (i := 534) (by decide +kernel)⟩
theorem lw_p38 : lw_okq (⟨"AcreBuys$Tape", "start", "()V"⟩, 6) := ⟨⟨by decide +kernel, by decide +kernel⟩, List.mem_of_getElem? (i := 124) (by decide +kernel), List.mem_of_getElem? (i := 543) (by decide +kernel), List.mem_of_getElem? (i := 544) (by decide +kernel)⟩
theorem lw_p39 : lw_okq (⟨"AcreBuys$Tape", "next", "()V"⟩, 6) := ⟨⟨by decide +kernel, by decide +kernel⟩, List.mem_of_getElem? (i := 124) (by decide +kernel), List.mem_of_getElem? (i := 547) (by decide +kernel), List.mem_of_getElem? (i := 548) (by decide +kernel)⟩
theorem lw_p40 : lw_okq (⟨"AcreBuys$Tape", "tokenAt", "(I)I"⟩, 6) := ⟨⟨by decide +kernel, by decide +kernel⟩, List.mem_of_getElem? (i := 124) (by decide +kernel), List.mem_of_getElem? (i := 551) (by decide +kernel), List.mem_of_getElem? (i := 552) (by decide +kernel)⟩
theorem lw_p41 : lw_okq (⟨"AcreBuys$Tape", "numberAtHand", "()I"⟩, 6) := ⟨⟨by decide +kernel, by decide +kernel⟩, List.mem_of_getElem? (i := 124) (by decide +kernel), List.mem_of_getElem? (i := 555) (by decide +kernel), List.mem_of_getElem? (i := 556) (by decide +kernel)⟩
theorem lw_p42 : lw_okq (⟨"AcreBuys$Tape", "isWord", "(Ljava/lang/String;)Z"⟩, 6) := ⟨⟨by decide +kernel, by decide +kernel⟩, List.mem_of_getElem? (i := 124) (by decide +kernel), List.mem_of_getElem? (i := 564) (by decide +kernel), List.mem_of_getElem? (i := 565) (by decide +kernel)⟩
theorem lw_p43 : lw_okq (⟨"AcreBuys$Sheet", "lay", "(II)V"⟩, 3) := ⟨⟨by decide +kernel, by decide +kernel⟩, List.mem_of_getElem? (i := 154) (by decide +kernel), List.mem_of_getElem? (i := 657) (by decide +kernel), List.mem_of_getElem? (i := 658) (by decide +kernel)⟩
theorem lw_p44 : lw_okq (⟨"AcreBuys", "sheetFault", "(I)I"⟩, 8) := ⟨⟨by decide +kernel, by decide +kernel⟩, List.mem_of_getElem? (i := 16) (by decide +kernel), List.mem_of_getElem? (i := 668) (by decide +kernel), List.mem_of_getElem? (i := 669) (by decide +kernel)⟩
theorem lw_p45 : lw_okq (⟨"AcreBuys$Sheet", "isMissing", "()Z"⟩, 3) := ⟨⟨by decide +kernel, by decide +kernel⟩, List.mem_of_getElem? (i := 154) (by decide +kernel), List.mem_of_getElem? (i := 672) (by decide +kernel), List.mem_of_getElem? (i := 673) (by decide +kernel)⟩
theorem lw_p46 : lw_okq (⟨"AcreBuys$Sheet", "put", "(IJ)J"⟩, 3) := ⟨⟨by decide +kernel, by decide +kernel⟩, List.mem_of_getElem? (i := 154) (by decide +kernel), List.mem_of_getElem? (i := 677) (by decide +kernel), List.mem_of_getElem? (i := 678) (by decide +kernel)⟩
theorem lw_p47 : lw_okq (⟨"AcreBuys$Sheet", "holds", "(II)Z"⟩, 3) := ⟨⟨by decide +kernel, by decide +kernel⟩, List.mem_of_getElem? (i := 154) (by decide +kernel), List.mem_of_getElem? (i := 685) (by decide +kernel), List.mem_of_getElem? (i := 686) (by decide +kernel)⟩
def lw_privs_3 : List (MethodName × Nat) := [(⟨"AcreBuys$Land", "priceAsLast", "(II)I"⟩, 17), (⟨"AcreBuys$Land", "worthsIn", "(I)I"⟩, 17), (⟨"AcreBuys$Land", "quietestFirst", "(I)I"⟩, 17), (⟨"AcreBuys$Land", "pricesIn", "(II)I"⟩, 17), (⟨"AcreBuys$Tape", "add", "(I)V"⟩, 6), (⟨"AcreBuys$Land", "become", "(LAcreBuys$Land;)V"⟩, 17), (⟨"AcreBuys$Tape", "start", "()V"⟩, 6), (⟨"AcreBuys$Tape", "next", "()V"⟩, 6), (⟨"AcreBuys$Tape", "tokenAt", "(I)I"⟩, 6), (⟨"AcreBuys$Tape", "numberAtHand", "()I"⟩, 6), (⟨"AcreBuys$Tape", "isWord", "(Ljava/lang/String;)Z"⟩, 6), (⟨"AcreBuys$Sheet", "lay", "(II)V"⟩, 3), (⟨"AcreBuys", "sheetFault", "(I)I"⟩, 8), (⟨"AcreBuys$Sheet", "isMissing", "()Z"⟩, 3), (⟨"AcreBuys$Sheet", "put", "(IJ)J"⟩, 3), (⟨"AcreBuys$Sheet", "holds", "(II)Z"⟩, 3)]
theorem lw_r3 : ∀ q ∈ lw_privs_3, lw_okq q := List.forall_mem_cons.mpr ⟨lw_p32, List.forall_mem_cons.mpr ⟨lw_p33, List.forall_mem_cons.mpr ⟨lw_p34, List.forall_mem_cons.mpr ⟨lw_p35, List.forall_mem_cons.mpr ⟨lw_p36, List.forall_mem_cons.mpr ⟨lw_p37, List.forall_mem_cons.mpr ⟨lw_p38, List.forall_mem_cons.mpr ⟨lw_p39, List.forall_mem_cons.mpr ⟨lw_p40, List.forall_mem_cons.mpr ⟨lw_p41, List.forall_mem_cons.mpr ⟨lw_p42, List.forall_mem_cons.mpr ⟨lw_p43, List.forall_mem_cons.mpr ⟨lw_p44, List.forall_mem_cons.mpr ⟨lw_p45, List.forall_mem_cons.mpr ⟨lw_p46, List.forall_mem_cons.mpr ⟨lw_p47, fun _ h => absurd h List.not_mem_nil⟩⟩⟩⟩⟩⟩⟩⟩⟩⟩⟩⟩⟩⟩⟩⟩
theorem lw_p48 : lw_okq (⟨"AcreBuys$Land", "fieldTold", "(J)I"⟩, 17) := ⟨⟨by decide +kernel, by decide +kernel⟩, List.mem_of_getElem? (i := 24) (by decide +kernel), List.mem_of_getElem? (i := 694) (by decide +kernel), List.mem_of_getElem? (i := 695) (by decide +kernel)⟩
theorem lw_p49 : lw_okq (⟨"AcreBuys$Land", "allWary", "()I"⟩, 17) := ⟨⟨by decide +kernel, by decide +kernel⟩, List.mem_of_getElem? (i := 24) (by decide +kernel), List.mem_of_getElem? (i := 723) (by decide +kernel), List.mem_of_getElem? (i := 724) (by decide +kernel)⟩
theorem lw_p50 : lw_okq (⟨"AcreBuysModel", "finds", "(I)I"⟩, 22) := ⟨⟨by decide +kernel, by decide +kernel⟩, List.mem_of_getElem? (i := 731) (by decide +kernel), List.mem_of_getElem? (i := 814) (by decide +kernel), List.mem_of_getElem? (i := 815) (by decide +kernel)⟩
theorem lw_p51 : lw_okq (⟨"AcreBuysModel", "comes", "(II)V"⟩, 22) := ⟨⟨by decide +kernel, by decide +kernel⟩, List.mem_of_getElem? (i := 731) (by decide +kernel), List.mem_of_getElem? (i := 819) (by decide +kernel), List.mem_of_getElem? (i := 820) (by decide +kernel)⟩
theorem lw_p52 : lw_okq (⟨"AcreBuysModel", "at", "(II)I"⟩, 22) := ⟨⟨by decide +kernel, by decide +kernel⟩, List.mem_of_getElem? (i := 731) (by decide +kernel), List.mem_of_getElem? (i := 823) (by decide +kernel), List.mem_of_getElem? (i := 824) (by decide +kernel)⟩
theorem lw_p53 : lw_okq (⟨"AcreBuysModel", "isField", "(J)Z"⟩, 22) := ⟨⟨by decide +kernel, by decide +kernel⟩, List.mem_of_getElem? (i := 731) (by decide +kernel), List.mem_of_getElem? (i := 831) (by decide +kernel), List.mem_of_getElem? (i := 832) (by decide +kernel)⟩
theorem lw_p54 : lw_okq (⟨"AcreBuysModel", "has", "(II)I"⟩, 22) := ⟨⟨by decide +kernel, by decide +kernel⟩, List.mem_of_getElem? (i := 731) (by decide +kernel), List.mem_of_getElem? (i := 836) (by decide +kernel), List.mem_of_getElem? (i := 837) (by decide +kernel)⟩
theorem lw_p55 : lw_okq (⟨"AcreBuysModel", "asksNow", "(I)I"⟩, 22) := ⟨⟨by decide +kernel, by decide +kernel⟩, List.mem_of_getElem? (i := 731) (by decide +kernel), List.mem_of_getElem? (i := 840) (by decide +kernel), List.mem_of_getElem? (i := 841) (by decide +kernel)⟩
theorem lw_p56 : lw_okq (⟨"AcreBuysModel", "ours", "()I"⟩, 22) := ⟨⟨by decide +kernel, by decide +kernel⟩, List.mem_of_getElem? (i := 731) (by decide +kernel), List.mem_of_getElem? (i := 844) (by decide +kernel), List.mem_of_getElem? (i := 845) (by decide +kernel)⟩
theorem lw_p57 : lw_okq (⟨"AcreBuysModel", "asksBy", "(II)I"⟩, 22) := ⟨⟨by decide +kernel, by decide +kernel⟩, List.mem_of_getElem? (i := 731) (by decide +kernel), List.mem_of_getElem? (i := 848) (by decide +kernel), List.mem_of_getElem? (i := 849) (by decide +kernel)⟩
theorem lw_p58 : lw_okq (⟨"AcreBuysModel", "heardBy", "(II)I"⟩, 22) := ⟨⟨by decide +kernel, by decide +kernel⟩, List.mem_of_getElem? (i := 731) (by decide +kernel), List.mem_of_getElem? (i := 852) (by decide +kernel), List.mem_of_getElem? (i := 853) (by decide +kernel)⟩
theorem lw_p59 : lw_okq (⟨"AcreBuysModel", "wareBy", "(II)I"⟩, 22) := ⟨⟨by decide +kernel, by decide +kernel⟩, List.mem_of_getElem? (i := 731) (by decide +kernel), List.mem_of_getElem? (i := 856) (by decide +kernel), List.mem_of_getElem? (i := 857) (by decide +kernel)⟩
theorem lw_p60 : lw_okq (⟨"AcreBuysModel", "becomes", "(II)I"⟩, 22) := ⟨⟨by decide +kernel, by decide +kernel⟩, List.mem_of_getElem? (i := 731) (by decide +kernel), List.mem_of_getElem? (i := 867) (by decide +kernel), List.mem_of_getElem? (i := 868) (by decide +kernel)⟩
theorem lw_p61 : lw_okq (⟨"AcreBuysModel", "isFree", "(I)Z"⟩, 22) := ⟨⟨by decide +kernel, by decide +kernel⟩, List.mem_of_getElem? (i := 731) (by decide +kernel), List.mem_of_getElem? (i := 892) (by decide +kernel), List.mem_of_getElem? (i := 893) (by decide +kernel)⟩
theorem lw_p62 : lw_okq (⟨"AcreBuysModel", "offered", "(II)Z"⟩, 22) := ⟨⟨by decide +kernel, by decide +kernel⟩, List.mem_of_getElem? (i := 731) (by decide +kernel), List.mem_of_getElem? (i := 897) (by decide +kernel), List.mem_of_getElem? (i := 898) (by decide +kernel)⟩
theorem lw_p63 : lw_okq (⟨"AcreBuysModel", "papers", "()I"⟩, 22) := ⟨⟨by decide +kernel, by decide +kernel⟩, List.mem_of_getElem? (i := 731) (by decide +kernel), List.mem_of_getElem? (i := 906) (by decide +kernel), List.mem_of_getElem? (i := 907) (by decide +kernel)⟩
def lw_privs_4 : List (MethodName × Nat) := [(⟨"AcreBuys$Land", "fieldTold", "(J)I"⟩, 17), (⟨"AcreBuys$Land", "allWary", "()I"⟩, 17), (⟨"AcreBuysModel", "finds", "(I)I"⟩, 22), (⟨"AcreBuysModel", "comes", "(II)V"⟩, 22), (⟨"AcreBuysModel", "at", "(II)I"⟩, 22), (⟨"AcreBuysModel", "isField", "(J)Z"⟩, 22), (⟨"AcreBuysModel", "has", "(II)I"⟩, 22), (⟨"AcreBuysModel", "asksNow", "(I)I"⟩, 22), (⟨"AcreBuysModel", "ours", "()I"⟩, 22), (⟨"AcreBuysModel", "asksBy", "(II)I"⟩, 22), (⟨"AcreBuysModel", "heardBy", "(II)I"⟩, 22), (⟨"AcreBuysModel", "wareBy", "(II)I"⟩, 22), (⟨"AcreBuysModel", "becomes", "(II)I"⟩, 22), (⟨"AcreBuysModel", "isFree", "(I)Z"⟩, 22), (⟨"AcreBuysModel", "offered", "(II)Z"⟩, 22), (⟨"AcreBuysModel", "papers", "()I"⟩, 22)]
theorem lw_r4 : ∀ q ∈ lw_privs_4, lw_okq q := List.forall_mem_cons.mpr ⟨lw_p48, List.forall_mem_cons.mpr ⟨lw_p49, List.forall_mem_cons.mpr ⟨lw_p50, List.forall_mem_cons.mpr ⟨lw_p51, List.forall_mem_cons.mpr ⟨lw_p52, List.forall_mem_cons.mpr ⟨lw_p53, List.forall_mem_cons.mpr ⟨lw_p54, List.forall_mem_cons.mpr ⟨lw_p55, List.forall_mem_cons.mpr ⟨lw_p56, List.forall_mem_cons.mpr ⟨lw_p57, List.forall_mem_cons.mpr ⟨lw_p58, List.forall_mem_cons.mpr ⟨lw_p59, List.forall_mem_cons.mpr ⟨lw_p60, List.forall_mem_cons.mpr ⟨lw_p61, List.forall_mem_cons.mpr ⟨lw_p62, List.forall_mem_cons.mpr ⟨lw_p63, fun _ h => absurd h List.not_mem_nil⟩⟩⟩⟩⟩⟩⟩⟩⟩⟩⟩⟩⟩⟩⟩⟩
theorem lw_p64 : lw_okq (⟨"AcreBuysModel", "thatAre", "(I)I"⟩, 22) := ⟨⟨by decide +kernel, by decide +kernel⟩, List.mem_of_getElem? (i := 731) (by decide +kernel), List.mem_of_getElem? (i := 939) (by decide +kernel), List.mem_of_getElem? (i := 940) (by decide +kernel)⟩
theorem lw_p65 : lw_okq (⟨"AcreBuysModel", "comesStrip", "(II)V"⟩, 22) := ⟨⟨by decide +kernel, by decide +kernel⟩, List.mem_of_getElem? (i := 731) (by decide +kernel), List.mem_of_getElem? (i := 947) (by decide +kernel), List.mem_of_getElem? (i := 948) (by decide +kernel)⟩
theorem lw_p66 : lw_okq (⟨"AcreBuysModel", "isStrip", "(I)Z"⟩, 22) := ⟨⟨by decide +kernel, by decide +kernel⟩, List.mem_of_getElem? (i := 731) (by decide +kernel), List.mem_of_getElem? (i := 955) (by decide +kernel), List.mem_of_getElem? (i := 956) (by decide +kernel)⟩
theorem lw_p67 : lw_okq (⟨"AcreBuysModel", "isHad", "(I)Z"⟩, 22) := ⟨⟨by decide +kernel, by decide +kernel⟩, List.mem_of_getElem? (i := 731) (by decide +kernel), List.mem_of_getElem? (i := 960) (by decide +kernel), List.mem_of_getElem? (i := 961) (by decide +kernel)⟩
theorem lw_p68 : lw_okq (⟨"AcreBuysModel", "thoseOf", "(II)I"⟩, 22) := ⟨⟨by decide +kernel, by decide +kernel⟩, List.mem_of_getElem? (i := 731) (by decide +kernel), List.mem_of_getElem? (i := 964) (by decide +kernel), List.mem_of_getElem? (i := 965) (by decide +kernel)⟩
theorem lw_p69 : lw_okq (⟨"AcreBuysModel", "setOf", "(I)I"⟩, 22) := ⟨⟨by decide +kernel, by decide +kernel⟩, List.mem_of_getElem? (i := 731) (by decide +kernel), List.mem_of_getElem? (i := 968) (by decide +kernel), List.mem_of_getElem? (i := 969) (by decide +kernel)⟩
theorem lw_p70 : lw_okq (⟨"AcreBuysModel", "canBe", "(I)Z"⟩, 22) := ⟨⟨by decide +kernel, by decide +kernel⟩, List.mem_of_getElem? (i := 731) (by decide +kernel), List.mem_of_getElem? (i := 972) (by decide +kernel), List.mem_of_getElem? (i := 973) (by decide +kernel)⟩
theorem lw_p71 : lw_okq (⟨"AcreBuysModel", "findWanted", "(I)V"⟩, 22) := ⟨⟨by decide +kernel, by decide +kernel⟩, List.mem_of_getElem? (i := 731) (by decide +kernel), List.mem_of_getElem? (i := 984) (by decide +kernel), List.mem_of_getElem? (i := 985) (by decide +kernel)⟩
theorem lw_p72 : lw_okq (⟨"AcreBuysModel", "findLeast", "()I"⟩, 22) := ⟨⟨by decide +kernel, by decide +kernel⟩, List.mem_of_getElem? (i := 731) (by decide +kernel), List.mem_of_getElem? (i := 989) (by decide +kernel), List.mem_of_getElem? (i := 990) (by decide +kernel)⟩
theorem lw_p73 : lw_okq (⟨"AcreBuysModel", "asksBehind", "(II)I"⟩, 22) := ⟨⟨by decide +kernel, by decide +kernel⟩, List.mem_of_getElem? (i := 731) (by decide +kernel), List.mem_of_getElem? (i := 993) (by decide +kernel), List.mem_of_getElem? (i := 994) (by decide +kernel)⟩
theorem lw_p74 : lw_okq (⟨"AcreBuysModel", "bestStrip", "()I"⟩, 22) := ⟨⟨by decide +kernel, by decide +kernel⟩, List.mem_of_getElem? (i := 731) (by decide +kernel), List.mem_of_getElem? (i := 1005) (by decide +kernel), List.mem_of_getElem? (i := 1006) (by decide +kernel)⟩
theorem lw_p75 : lw_okq (⟨"AcreBuysModel", "goesOn", "()V"⟩, 22) := ⟨⟨by decide +kernel, by decide +kernel⟩, List.mem_of_getElem? (i := 731) (by decide +kernel), List.mem_of_getElem? (i := 1046) (by decide +kernel), List.mem_of_getElem? (i := 1047) (by decide +kernel)⟩
theorem lw_p76 : lw_okq (⟨"AcreBuysModel", "byteAt", "(I)I"⟩, 22) := ⟨⟨by decide +kernel, by decide +kernel⟩, List.mem_of_getElem? (i := 731) (by decide +kernel), List.mem_of_getElem? (i := 1050) (by decide +kernel), List.mem_of_getElem? (i := 1051) (by decide +kernel)⟩
theorem lw_p77 : lw_okq (⟨"AcreBuysModel", "wordHere", "()I"⟩, 22) := ⟨⟨by decide +kernel, by decide +kernel⟩, List.mem_of_getElem? (i := 731) (by decide +kernel), List.mem_of_getElem? (i := 1056) (by decide +kernel), List.mem_of_getElem? (i := 1057) (by decide +kernel)⟩
theorem lw_p78 : lw_okq (⟨"AcreBuysModel", "item", "()V"⟩, 22) := ⟨⟨by decide +kernel, by decide +kernel⟩, List.mem_of_getElem? (i := 731) (by decide +kernel), List.mem_of_getElem? (i := 1062) (by decide +kernel), List.mem_of_getElem? (i := 1063) (by decide +kernel)⟩
theorem lw_p79 : lw_okq (⟨"AcreBuysModel", "fieldItem", "(I)V"⟩, 22) := ⟨⟨by decide +kernel, by decide +kernel⟩, List.mem_of_getElem? (i := 731) (by decide +kernel), List.mem_of_getElem? (i := 1066) (by decide +kernel), List.mem_of_getElem? (i := 1067) (by decide +kernel)⟩
def lw_privs_5 : List (MethodName × Nat) := [(⟨"AcreBuysModel", "thatAre", "(I)I"⟩, 22), (⟨"AcreBuysModel", "comesStrip", "(II)V"⟩, 22), (⟨"AcreBuysModel", "isStrip", "(I)Z"⟩, 22), (⟨"AcreBuysModel", "isHad", "(I)Z"⟩, 22), (⟨"AcreBuysModel", "thoseOf", "(II)I"⟩, 22), (⟨"AcreBuysModel", "setOf", "(I)I"⟩, 22), (⟨"AcreBuysModel", "canBe", "(I)Z"⟩, 22), (⟨"AcreBuysModel", "findWanted", "(I)V"⟩, 22), (⟨"AcreBuysModel", "findLeast", "()I"⟩, 22), (⟨"AcreBuysModel", "asksBehind", "(II)I"⟩, 22), (⟨"AcreBuysModel", "bestStrip", "()I"⟩, 22), (⟨"AcreBuysModel", "goesOn", "()V"⟩, 22), (⟨"AcreBuysModel", "byteAt", "(I)I"⟩, 22), (⟨"AcreBuysModel", "wordHere", "()I"⟩, 22), (⟨"AcreBuysModel", "item", "()V"⟩, 22), (⟨"AcreBuysModel", "fieldItem", "(I)V"⟩, 22)]
theorem lw_r5 : ∀ q ∈ lw_privs_5, lw_okq q := List.forall_mem_cons.mpr ⟨lw_p64, List.forall_mem_cons.mpr ⟨lw_p65, List.forall_mem_cons.mpr ⟨lw_p66, List.forall_mem_cons.mpr ⟨lw_p67, List.forall_mem_cons.mpr ⟨lw_p68, List.forall_mem_cons.mpr ⟨lw_p69, List.forall_mem_cons.mpr ⟨lw_p70, List.forall_mem_cons.mpr ⟨lw_p71, List.forall_mem_cons.mpr ⟨lw_p72, List.forall_mem_cons.mpr ⟨lw_p73, List.forall_mem_cons.mpr ⟨lw_p74, List.forall_mem_cons.mpr ⟨lw_p75, List.forall_mem_cons.mpr ⟨lw_p76, List.forall_mem_cons.mpr ⟨lw_p77, List.forall_mem_cons.mpr ⟨lw_p78, List.forall_mem_cons.mpr ⟨lw_p79, fun _ h => absurd h List.not_mem_nil⟩⟩⟩⟩⟩⟩⟩⟩⟩⟩⟩⟩⟩⟩⟩⟩
theorem lw_p80 : lw_okq (⟨"AcreBuysModel", "number", "(II)I"⟩, 22) := ⟨⟨by decide +kernel, by decide +kernel⟩, List.mem_of_getElem? (i := 731) (by decide +kernel), List.mem_of_getElem? (i := 1070) (by decide +kernel), List.mem_of_getElem? (i := 1071) (by decide +kernel)⟩
theorem lw_p81 : lw_okq (⟨"AcreBuysModel", "takes", "(I)Z"⟩, 22) := ⟨⟨by decide +kernel, by decide +kernel⟩, List.mem_of_getElem? (i := 731) (by decide +kernel), List.mem_of_getElem? (i := 1074) (by decide +kernel), List.mem_of_getElem? (i := 1075) (by decide +kernel)⟩
theorem lw_p82 : lw_okq (⟨"AcreBuysModel", "isWord", "(I)Z"⟩, 22) := ⟨⟨by decide +kernel, by decide +kernel⟩, List.mem_of_getElem? (i := 731) (by decide +kernel), List.mem_of_getElem? (i := 1078) (by decide +kernel), List.mem_of_getElem? (i := 1079) (by decide +kernel)⟩
theorem lw_p83 : lw_okq (⟨"AcreBuysModel", "numbersBelow", "(I)I"⟩, 22) := ⟨⟨by decide +kernel, by decide +kernel⟩, List.mem_of_getElem? (i := 731) (by decide +kernel), List.mem_of_getElem? (i := 1082) (by decide +kernel), List.mem_of_getElem? (i := 1083) (by decide +kernel)⟩
theorem lw_p84 : lw_okq (⟨"AcreBuysModel", "stripItem", "()V"⟩, 22) := ⟨⟨by decide +kernel, by decide +kernel⟩, List.mem_of_getElem? (i := 731) (by decide +kernel), List.mem_of_getElem? (i := 1086) (by decide +kernel), List.mem_of_getElem? (i := 1087) (by decide +kernel)⟩
theorem lw_p85 : lw_okq (⟨"AcreBuysModel", "allWary", "()I"⟩, 22) := ⟨⟨by decide +kernel, by decide +kernel⟩, List.mem_of_getElem? (i := 731) (by decide +kernel), List.mem_of_getElem? (i := 1137) (by decide +kernel), List.mem_of_getElem? (i := 1138) (by decide +kernel)⟩
def lw_privs_6 : List (MethodName × Nat) := [(⟨"AcreBuysModel", "number", "(II)I"⟩, 22), (⟨"AcreBuysModel", "takes", "(I)Z"⟩, 22), (⟨"AcreBuysModel", "isWord", "(I)Z"⟩, 22), (⟨"AcreBuysModel", "numbersBelow", "(I)I"⟩, 22), (⟨"AcreBuysModel", "stripItem", "()V"⟩, 22), (⟨"AcreBuysModel", "allWary", "()I"⟩, 22)]
theorem lw_r6 : ∀ q ∈ lw_privs_6, lw_okq q := List.forall_mem_cons.mpr ⟨lw_p80, List.forall_mem_cons.mpr ⟨lw_p81, List.forall_mem_cons.mpr ⟨lw_p82, List.forall_mem_cons.mpr ⟨lw_p83, List.forall_mem_cons.mpr ⟨lw_p84, List.forall_mem_cons.mpr ⟨lw_p85, fun _ h => absurd h List.not_mem_nil⟩⟩⟩⟩⟩⟩
def lw_privs : List (MethodName × Nat) := lw_privs_1 ++ (lw_privs_2 ++ (lw_privs_3 ++ (lw_privs_4 ++ (lw_privs_5 ++ (lw_privs_6)))))
def lw_tbl : List Cond := k2_sels lw_privs ++ tables_1
theorem lw_privs_ok : ∀ q ∈ lw_privs, lw_okq q := by
  show ∀ q ∈ lw_privs_1 ++ (lw_privs_2 ++ (lw_privs_3 ++ (lw_privs_4 ++ (lw_privs_5 ++ (lw_privs_6))))), lw_okq q
  exact List.forall_mem_append.mpr ⟨lw_r1, List.forall_mem_append.mpr ⟨lw_r2, List.forall_mem_append.mpr ⟨lw_r3, List.forall_mem_append.mpr ⟨lw_r4, List.forall_mem_append.mpr ⟨lw_r5, lw_r6⟩⟩⟩⟩⟩

/-! ===== BEGIN printed: names, fields, word lists, decode rows ===== -/
def RX0 : String := "AcreBuys$Land"
def TX0 : u_T := fun k => match k with
  | 0 => ("AcreBuys$Land", "fields", "I", false)
  | 1 => ("AcreBuys$Land", "kinds", "[I", true)
  | 2 => ("AcreBuys$Land", "worths", "[I", true)
  | 3 => ("AcreBuys$Land", "wary", "[I", true)
  | 4 => ("AcreBuys$Land", "tells", "[I", true)
  | 5 => ("AcreBuys$Land", "ours", "I", false)
  | 6 => ("AcreBuys$Land", "lost", "I", false)
  | 7 => ("AcreBuys$Land", "papers", "I", false)
  | 8 => ("AcreBuys$Land", "prices", "[I", true)
  | 9 => ("AcreBuys$Land", "tills", "[I", true)
  | 10 => ("AcreBuys$Land", "month", "I", false)
  | 11 => ("AcreBuys$Land", "spent", "J", false)
  | 12 => ("AcreBuys$Land", "z", "I", false)
  | 13 => ("AcreBuys$Land", "rules", "[I", true)
  | 14 => ("AcreBuys$Land", "strips", "I", false)
  | 15 => ("AcreBuys$Land", "sets", "[I", true)
  | _ => ("AcreBuys$Land", "rounds", "[I", true)
def tyX0 : Nat → FieldType := fun k => match k with
  | 0 => .int
  | 1 => .array .int
  | 2 => .array .int
  | 3 => .array .int
  | 4 => .array .int
  | 5 => .int
  | 6 => .int
  | 7 => .int
  | 8 => .array .int
  | 9 => .array .int
  | 10 => .int
  | 11 => .long
  | 12 => .int
  | 13 => .array .int
  | 14 => .int
  | 15 => .array .int
  | _ => .array .int
abbrev wsX00 : List Cond := u_ws RX0 TX0 17
theorem nmX0 : ∀ a, a < 17 → ∀ b, b < 17 → a ≠ b → (TX0 a).2.1 ≠ (TX0 b).2.1 := by decide +kernel
theorem tyX0_ok : ∀ k, k < 17 → parseFieldDescriptor (TX0 k).2.2.1 = some (tyX0 k) := by decide +kernel
abbrev cX0_init : ByteArray := prog_2_method_1_code
def yX0_init : MethodName := ⟨RX0, "<init>", "()V"⟩
abbrev cX0_become : ByteArray := prog_2_method_2_code
def yX0_become : MethodName := ⟨RX0, "become", "(LAcreBuys$Land;)V"⟩
abbrev cX0_addField : ByteArray := prog_2_method_3_code
def yX0_addField : MethodName := ⟨RX0, "addField", "(II)I"⟩
abbrev cX0_addStrip : ByteArray := prog_2_method_4_code
def yX0_addStrip : MethodName := ⟨RX0, "addStrip", "(II)I"⟩
abbrev cX0_hasField : ByteArray := prog_2_method_5_code
def yX0_hasField : MethodName := ⟨RX0, "hasField", "(I)Z"⟩
abbrev cX0_fieldTold : ByteArray := prog_2_method_6_code
def yX0_fieldTold : MethodName := ⟨RX0, "fieldTold", "(J)I"⟩
abbrev cX0_hasStrip : ByteArray := prog_2_method_7_code
def yX0_hasStrip : MethodName := ⟨RX0, "hasStrip", "(I)Z"⟩
abbrev cX0_allFields : ByteArray := prog_2_method_8_code
def yX0_allFields : MethodName := ⟨RX0, "allFields", "()I"⟩
abbrev cX0_freeIn : ByteArray := prog_2_method_9_code
def yX0_freeIn : MethodName := ⟨RX0, "freeIn", "(I)I"⟩
abbrev cX0_isFree : ByteArray := prog_2_method_10_code
def yX0_isFree : MethodName := ⟨RX0, "isFree", "(I)Z"⟩
abbrev cX0_holderOf : ByteArray := prog_2_method_11_code
def yX0_holderOf : MethodName := ⟨RX0, "holderOf", "(I)I"⟩
abbrev cX0_tellersOf : ByteArray := prog_2_method_12_code
def yX0_tellersOf : MethodName := ⟨RX0, "tellersOf", "(I)I"⟩
abbrev cX0_heardBy : ByteArray := prog_2_method_13_code
def yX0_heardBy : MethodName := ⟨RX0, "heardBy", "(II)I"⟩
abbrev cX0_priceHearing : ByteArray := prog_2_method_14_code
def yX0_priceHearing : MethodName := ⟨RX0, "priceHearing", "(II)I"⟩
abbrev cX0_priceBy : ByteArray := prog_2_method_15_code
def yX0_priceBy : MethodName := ⟨RX0, "priceBy", "(II)I"⟩
abbrev cX0_priceNow : ByteArray := prog_2_method_16_code
def yX0_priceNow : MethodName := ⟨RX0, "priceNow", "(I)I"⟩
abbrev cX0_worthsIn : ByteArray := prog_2_method_17_code
def yX0_worthsIn : MethodName := ⟨RX0, "worthsIn", "(I)I"⟩
abbrev cX0_pricesIn : ByteArray := prog_2_method_18_code
def yX0_pricesIn : MethodName := ⟨RX0, "pricesIn", "(II)I"⟩
abbrev cX0_allWary : ByteArray := prog_2_method_19_code
def yX0_allWary : MethodName := ⟨RX0, "allWary", "()I"⟩
abbrev cX0_buy : ByteArray := prog_2_method_20_code
def yX0_buy : MethodName := ⟨RX0, "buy", "(II)V"⟩
abbrev cX0_dropPaper : ByteArray := prog_2_method_21_code
def yX0_dropPaper : MethodName := ⟨RX0, "dropPaper", "(I)V"⟩
abbrev cX0_bid : ByteArray := prog_2_method_22_code
def yX0_bid : MethodName := ⟨RX0, "bid", "(II)Z"⟩
abbrev cX0_takePaper : ByteArray := prog_2_method_23_code
def yX0_takePaper : MethodName := ⟨RX0, "takePaper", "(II)I"⟩
abbrev cX0_dropPastPapers : ByteArray := prog_2_method_24_code
def yX0_dropPastPapers : MethodName := ⟨RX0, "dropPastPapers", "()V"⟩
abbrev cX0_rivalTakes : ByteArray := prog_2_method_25_code
def yX0_rivalTakes : MethodName := ⟨RX0, "rivalTakes", "()I"⟩
abbrev cX0_calmDown : ByteArray := prog_2_method_26_code
def yX0_calmDown : MethodName := ⟨RX0, "calmDown", "()V"⟩
abbrev cX0_canBe : ByteArray := prog_2_method_27_code
def yX0_canBe : MethodName := ⟨RX0, "canBe", "(I)Z"⟩
abbrev cX0_missingOf : ByteArray := prog_2_method_28_code
def yX0_missingOf : MethodName := ⟨RX0, "missingOf", "(I)I"⟩
abbrev cX0_isHad : ByteArray := prog_2_method_29_code
def yX0_isHad : MethodName := ⟨RX0, "isHad", "(I)Z"⟩
abbrev cX0_priceAsLast : ByteArray := prog_2_method_30_code
def yX0_priceAsLast : MethodName := ⟨RX0, "priceAsLast", "(II)I"⟩
abbrev cX0_dearestLast : ByteArray := prog_2_method_31_code
def yX0_dearestLast : MethodName := ⟨RX0, "dearestLast", "(I)I"⟩
abbrev cX0_quietestFirst : ByteArray := prog_2_method_32_code
def yX0_quietestFirst : MethodName := ⟨RX0, "quietestFirst", "(I)I"⟩
def RX1 : String := "AcreBuys$OrderSearch"
def TX1 : u_T := fun k => match k with
  | 0 => ("AcreBuys$OrderSearch", "size", "I", false)
  | 1 => ("AcreBuys$OrderSearch", "fields", "[I", true)
  | 2 => ("AcreBuys$OrderSearch", "tellers", "[I", true)
  | 3 => ("AcreBuys$OrderSearch", "prices", "[I", true)
  | _ => ("AcreBuys$OrderSearch", "rest", "[I", true)
def tyX1 : Nat → FieldType := fun k => match k with
  | 0 => .int
  | 1 => .array .int
  | 2 => .array .int
  | 3 => .array .int
  | _ => .array .int
abbrev wsX10 : List Cond := u_ws RX1 TX1 5
theorem nmX1 : ∀ a, a < 5 → ∀ b, b < 5 → a ≠ b → (TX1 a).2.1 ≠ (TX1 b).2.1 := by decide +kernel
theorem tyX1_ok : ∀ k, k < 5 → parseFieldDescriptor (TX1 k).2.2.1 = some (tyX1 k) := by decide +kernel
abbrev cX1_init : ByteArray := prog_3_method_1_code
def yX1_init : MethodName := ⟨RX1, "<init>", "()V"⟩
abbrev cX1_run : ByteArray := prog_3_method_2_code
def yX1_run : MethodName := ⟨RX1, "run", "(LAcreBuys$Land;I)I"⟩
abbrev cX1_layRow : ByteArray := prog_3_method_3_code
def yX1_layRow : MethodName := ⟨RX1, "layRow", "(LAcreBuys$Land;I)V"⟩
abbrev cX1_costBy : ByteArray := prog_3_method_4_code
def yX1_costBy : MethodName := ⟨RX1, "costBy", "(II)I"⟩
abbrev cX1_fieldAt : ByteArray := prog_3_method_5_code
def yX1_fieldAt : MethodName := ⟨RX1, "fieldAt", "(I)I"⟩
abbrev cX1_nextOf : ByteArray := prog_3_method_6_code
def yX1_nextOf : MethodName := ⟨RX1, "nextOf", "(I)I"⟩
def RX2 : String := "AcreBuys$Sheet"
def TX2 : u_T := fun k => match k with
  | 0 => ("AcreBuys$Sheet", "bits", "I", false)
  | 1 => ("AcreBuys$Sheet", "size", "I", false)
  | _ => ("AcreBuys$Sheet", "numbers", "[J", true)
def tyX2 : Nat → FieldType := fun k => match k with
  | 0 => .int
  | 1 => .int
  | _ => .array .long
abbrev wsX20 : List Cond := u_ws RX2 TX2 3
theorem nmX2 : ∀ a, a < 3 → ∀ b, b < 3 → a ≠ b → (TX2 a).2.1 ≠ (TX2 b).2.1 := by decide +kernel
theorem tyX2_ok : ∀ k, k < 3 → parseFieldDescriptor (TX2 k).2.2.1 = some (tyX2 k) := by decide +kernel
abbrev cX2_init : ByteArray := prog_4_method_1_code
def yX2_init : MethodName := ⟨RX2, "<init>", "()V"⟩
abbrev cX2_isMissing : ByteArray := prog_4_method_2_code
def yX2_isMissing : MethodName := ⟨RX2, "isMissing", "()Z"⟩
abbrev cX2_lay : ByteArray := prog_4_method_3_code
def yX2_lay : MethodName := ⟨RX2, "lay", "(II)V"⟩
abbrev cX2_put : ByteArray := prog_4_method_4_code
def yX2_put : MethodName := ⟨RX2, "put", "(IJ)J"⟩
abbrev cX2_holds : ByteArray := prog_4_method_5_code
def yX2_holds : MethodName := ⟨RX2, "holds", "(II)Z"⟩
def RX3 : String := "AcreBuys$Tape"
def TX3 : u_T := fun k => match k with
  | 0 => ("AcreBuys$Tape", "bytes", "[I", true)
  | 1 => ("AcreBuys$Tape", "size", "I", false)
  | 2 => ("AcreBuys$Tape", "at", "I", false)
  | 3 => ("AcreBuys$Tape", "end", "I", false)
  | 4 => ("AcreBuys$Tape", "token", "I", false)
  | _ => ("AcreBuys$Tape", "value", "I", false)
def tyX3 : Nat → FieldType := fun k => match k with
  | 0 => .array .int
  | 1 => .int
  | 2 => .int
  | 3 => .int
  | 4 => .int
  | _ => .int
abbrev wsX30 : List Cond := u_ws RX3 TX3 6
theorem nmX3 : ∀ a, a < 6 → ∀ b, b < 6 → a ≠ b → (TX3 a).2.1 ≠ (TX3 b).2.1 := by decide +kernel
theorem tyX3_ok : ∀ k, k < 6 → parseFieldDescriptor (TX3 k).2.2.1 = some (tyX3 k) := by decide +kernel
abbrev cX3_init : ByteArray := prog_5_method_1_code
def yX3_init : MethodName := ⟨RX3, "<init>", "()V"⟩
abbrev cX3_add : ByteArray := prog_5_method_2_code
def yX3_add : MethodName := ⟨RX3, "add", "(I)V"⟩
abbrev cX3_start : ByteArray := prog_5_method_3_code
def yX3_start : MethodName := ⟨RX3, "start", "()V"⟩
abbrev cX3_next : ByteArray := prog_5_method_4_code
def yX3_next : MethodName := ⟨RX3, "next", "()V"⟩
abbrev cX3_numberAtHand : ByteArray := prog_5_method_5_code
def yX3_numberAtHand : MethodName := ⟨RX3, "numberAtHand", "()I"⟩
abbrev cX3_tokenAt : ByteArray := prog_5_method_6_code
def yX3_tokenAt : MethodName := ⟨RX3, "tokenAt", "(I)I"⟩
abbrev cX3_isWord : ByteArray := prog_5_method_7_code
def yX3_isWord : MethodName := ⟨RX3, "isWord", "(Ljava/lang/String;)Z"⟩
def RX4 : String := "AcreBuys"
def TX4 : u_T := fun k => match k with
  | 0 => ("AcreBuys", "land", "LAcreBuys$Land;", true)
  | 1 => ("AcreBuys", "keptLand", "LAcreBuys$Land;", true)
  | 2 => ("AcreBuys", "beforePlan", "LAcreBuys$Land;", true)
  | 3 => ("AcreBuys", "search", "LAcreBuys$OrderSearch;", true)
  | 4 => ("AcreBuys", "tape", "LAcreBuys$Tape;", true)
  | 5 => ("AcreBuys", "sheets", "[LAcreBuys$Sheet;", true)
  | 6 => ("AcreBuys", "told", "[I", true)
  | _ => ("AcreBuys", "kept", "Z", false)
def tyX4 : Nat → FieldType := fun k => match k with
  | 0 => .object "AcreBuys$Land"
  | 1 => .object "AcreBuys$Land"
  | 2 => .object "AcreBuys$Land"
  | 3 => .object "AcreBuys$OrderSearch"
  | 4 => .object "AcreBuys$Tape"
  | 5 => .array (.object "AcreBuys$Sheet")
  | 6 => .array .int
  | _ => .boolean
abbrev wsX40 : List Cond := u_ws RX4 TX4 8
theorem nmX4 : ∀ a, a < 8 → ∀ b, b < 8 → a ≠ b → (TX4 a).2.1 ≠ (TX4 b).2.1 := by decide +kernel
theorem tyX4_ok : ∀ k, k < 8 → parseFieldDescriptor (TX4 k).2.2.1 = some (tyX4 k) := by decide +kernel
abbrev cX4_init : ByteArray := prog_1_method_1_code
def yX4_init : MethodName := ⟨RX4, "<init>", "()V"⟩
abbrev cX4_field : ByteArray := prog_1_method_2_code
def yX4_field : MethodName := ⟨RX4, "field", "(II)I"⟩
abbrev cX4_of : ByteArray := prog_1_method_3_code
def yX4_of : MethodName := ⟨RX4, "of", "(II)I"⟩
abbrev cX4_set : ByteArray := prog_1_method_4_code
def yX4_set : MethodName := ⟨RX4, "set", "(III)I"⟩
abbrev cX4_as : ByteArray := prog_1_method_5_code
def yX4_as : MethodName := ⟨RX4, "as", "(II)I"⟩
abbrev cX4_asks : ByteArray := prog_1_method_6_code
def yX4_asks : MethodName := ⟨RX4, "asks", "(II)I"⟩
abbrev cX4_rule : ByteArray := prog_1_method_7_code
def yX4_rule : MethodName := ⟨RX4, "rule", "(II)I"⟩
abbrev cX4_offer : ByteArray := prog_1_method_8_code
def yX4_offer : MethodName := ⟨RX4, "offer", "(II)I"⟩
abbrev cX4_paper : ByteArray := prog_1_method_9_code
def yX4_paper : MethodName := ⟨RX4, "paper", "(II)I"⟩
abbrev cX4_paperOf : ByteArray := prog_1_method_10_code
def yX4_paperOf : MethodName := ⟨RX4, "paperOf", "(II)I"⟩
abbrev cX4_claim : ByteArray := prog_1_method_11_code
def yX4_claim : MethodName := ⟨RX4, "claim", "(I)I"⟩
abbrev cX4_county : ByteArray := prog_1_method_12_code
def yX4_county : MethodName := ⟨RX4, "county", "(I)I"⟩
abbrev cX4_month : ByteArray := prog_1_method_13_code
def yX4_month : MethodName := ⟨RX4, "month", "()I"⟩
abbrev cX4_seed : ByteArray := prog_1_method_14_code
def yX4_seed : MethodName := ⟨RX4, "seed", "(I)I"⟩
abbrev cX4_stands : ByteArray := prog_1_method_15_code
def yX4_stands : MethodName := ⟨RX4, "stands", "(I)J"⟩
abbrev cX4_strip : ByteArray := prog_1_method_16_code
def yX4_strip : MethodName := ⟨RX4, "strip", "(II)I"⟩
abbrev cX4_stripOf : ByteArray := prog_1_method_17_code
def yX4_stripOf : MethodName := ⟨RX4, "stripOf", "(II)I"⟩
abbrev cX4_had : ByteArray := prog_1_method_18_code
def yX4_had : MethodName := ⟨RX4, "had", "()I"⟩
abbrev cX4_least : ByteArray := prog_1_method_19_code
def yX4_least : MethodName := ⟨RX4, "least", "(I)I"⟩
abbrev cX4_order : ByteArray := prog_1_method_20_code
def yX4_order : MethodName := ⟨RX4, "order", "(II)I"⟩
abbrev cX4_best : ByteArray := prog_1_method_21_code
def yX4_best : MethodName := ⟨RX4, "best", "()I"⟩
abbrev cX4_last : ByteArray := prog_1_method_22_code
def yX4_last : MethodName := ⟨RX4, "last", "(II)I"⟩
abbrev cX4_giveUp : ByteArray := prog_1_method_23_code
def yX4_giveUp : MethodName := ⟨RX4, "giveUp", "(I)I"⟩
abbrev cX4_rights : ByteArray := prog_1_method_24_code
def yX4_rights : MethodName := ⟨RX4, "rights", "(I)I"⟩
abbrev cX4_share : ByteArray := prog_1_method_25_code
def yX4_share : MethodName := ⟨RX4, "share", "(III)I"⟩
abbrev cX4_common : ByteArray := prog_1_method_26_code
def yX4_common : MethodName := ⟨RX4, "common", "()I"⟩
abbrev cX4_first : ByteArray := prog_1_method_27_code
def yX4_first : MethodName := ⟨RX4, "first", "(I)I"⟩
abbrev cX4_feed : ByteArray := prog_1_method_28_code
def yX4_feed : MethodName := ⟨RX4, "feed", "(II)I"⟩
abbrev cX4_wipe : ByteArray := prog_1_method_29_code
def yX4_wipe : MethodName := ⟨RX4, "wipe", "()I"⟩
abbrev cX4_plan : ByteArray := prog_1_method_30_code
def yX4_plan : MethodName := ⟨RX4, "plan", "()I"⟩
abbrev cX4_sheet : ByteArray := prog_1_method_31_code
def yX4_sheet : MethodName := ⟨RX4, "sheet", "(III)I"⟩
abbrev cX4_write : ByteArray := prog_1_method_32_code
def yX4_write : MethodName := ⟨RX4, "write", "(IIJ)J"⟩
abbrev cX4_copy : ByteArray := prog_1_method_33_code
def yX4_copy : MethodName := ⟨RX4, "copy", "(IIIII)I"⟩
abbrev cX4_cost : ByteArray := prog_1_method_34_code
def yX4_cost : MethodName := ⟨RX4, "cost", "(I)J"⟩
abbrev cX4_offers : ByteArray := prog_1_method_35_code
def yX4_offers : MethodName := ⟨RX4, "offers", "(I)I"⟩
abbrev cX4_read : ByteArray := prog_1_method_36_code
def yX4_read : MethodName := ⟨RX4, "read", "(I)I"⟩
abbrev cX4_image : ByteArray := prog_1_method_37_code
def yX4_image : MethodName := ⟨RX4, "image", "()I"⟩
abbrev cX4_undo : ByteArray := prog_1_method_38_code
def yX4_undo : MethodName := ⟨RX4, "undo", "()I"⟩
abbrev cX4_tear : ByteArray := prog_1_method_39_code
def yX4_tear : MethodName := ⟨RX4, "tear", "()I"⟩
abbrev cX4_count : ByteArray := prog_1_method_40_code
def yX4_count : MethodName := ⟨RX4, "count", "(I)I"⟩
abbrev cX4_status : ByteArray := prog_1_method_41_code
def yX4_status : MethodName := ⟨RX4, "status", "(I)I"⟩
abbrev cX4_refuse : ByteArray := prog_1_method_42_code
def yX4_refuse : MethodName := ⟨RX4, "refuse", "(I)I"⟩
abbrev cX4_hindranceOf : ByteArray := prog_1_method_43_code
def yX4_hindranceOf : MethodName := ⟨RX4, "hindranceOf", "(I)I"⟩
abbrev cX4_leastCost : ByteArray := prog_1_method_44_code
def yX4_leastCost : MethodName := ⟨RX4, "leastCost", "(I)I"⟩
abbrev cX4_sheetFault : ByteArray := prog_1_method_45_code
def yX4_sheetFault : MethodName := ⟨RX4, "sheetFault", "(I)I"⟩
abbrev cX4_isSheet : ByteArray := prog_1_method_46_code
def yX4_isSheet : MethodName := ⟨RX4, "isSheet", "(I)Z"⟩
abbrev cX4_isKind : ByteArray := prog_1_method_47_code
def yX4_isKind : MethodName := ⟨RX4, "isKind", "(I)Z"⟩
abbrev cX4_isWithin : ByteArray := prog_1_method_48_code
def yX4_isWithin : MethodName := ⟨RX4, "isWithin", "(III)Z"⟩
abbrev cX4_isIn : ByteArray := prog_1_method_49_code
def yX4_isIn : MethodName := ⟨RX4, "isIn", "(II)Z"⟩
abbrev cX4_swap : ByteArray := prog_1_method_50_code
def yX4_swap : MethodName := ⟨RX4, "swap", "([III)I"⟩
abbrev cX4_isOfKind : ByteArray := prog_1_method_51_code
def yX4_isOfKind : MethodName := ⟨RX4, "isOfKind", "(II)Z"⟩
abbrev cX4_wareOf : ByteArray := prog_1_method_52_code
def yX4_wareOf : MethodName := ⟨RX4, "wareOf", "(II)I"⟩
abbrev cX4_paperCost : ByteArray := prog_1_method_53_code
def yX4_paperCost : MethodName := ⟨RX4, "paperCost", "(I)I"⟩
abbrev cX4_priceOf : ByteArray := prog_1_method_54_code
def yX4_priceOf : MethodName := ⟨RX4, "priceOf", "(IIII)I"⟩
abbrev cX4_readItems : ByteArray := prog_1_method_55_code
def yX4_readItems : MethodName := ⟨RX4, "readItems", "(LAcreBuys$Tape;LAcreBuys$Land;)I"⟩
abbrev cX4_readItem : ByteArray := prog_1_method_56_code
def yX4_readItem : MethodName := ⟨RX4, "readItem", "(LAcreBuys$Tape;LAcreBuys$Land;)Z"⟩
abbrev cX4_readField : ByteArray := prog_1_method_57_code
def yX4_readField : MethodName := ⟨RX4, "readField", "(LAcreBuys$Tape;LAcreBuys$Land;I)Z"⟩
abbrev cX4_readStrip : ByteArray := prog_1_method_58_code
def yX4_readStrip : MethodName := ⟨RX4, "readStrip", "(LAcreBuys$Tape;LAcreBuys$Land;)Z"⟩
abbrev cX4_readInto : ByteArray := prog_1_method_59_code
def yX4_readInto : MethodName := ⟨RX4, "readInto", "(LAcreBuys$Tape;[IIII)Z"⟩
abbrev cX4_readSet : ByteArray := prog_1_method_60_code
def yX4_readSet : MethodName := ⟨RX4, "readSet", "(LAcreBuys$Tape;I)I"⟩
abbrev cX4_kindName : ByteArray := prog_1_method_61_code
def yX4_kindName : MethodName := ⟨RX4, "kindName", "(I)Ljava/lang/String;"⟩
abbrev cX4_ruleName : ByteArray := prog_1_method_62_code
def yX4_ruleName : MethodName := ⟨RX4, "ruleName", "(I)Ljava/lang/String;"⟩
def RX5 : String := "AcreBuysModel"
def TX5 : u_T := fun k => match k with
  | 0 => ("AcreBuysModel", "s", "[I", true)
  | 1 => ("AcreBuysModel", "kept", "[I", true)
  | 2 => ("AcreBuysModel", "tried", "[I", true)
  | 3 => ("AcreBuysModel", "spent", "J", false)
  | 4 => ("AcreBuysModel", "keptSpent", "J", false)
  | 5 => ("AcreBuysModel", "isKept", "Z", false)
  | 6 => ("AcreBuysModel", "findings", "[I", true)
  | 7 => ("AcreBuysModel", "tape", "[I", true)
  | 8 => ("AcreBuysModel", "taped", "I", false)
  | 9 => ("AcreBuysModel", "bitsOf", "[I", true)
  | 10 => ("AcreBuysModel", "sizes", "[I", true)
  | 11 => ("AcreBuysModel", "numbers", "[J", true)
  | 12 => ("AcreBuysModel", "wanted", "[I", true)
  | 13 => ("AcreBuysModel", "wantedMany", "I", false)
  | 14 => ("AcreBuysModel", "leastBehind", "[I", true)
  | 15 => ("AcreBuysModel", "bestCost", "I", false)
  | 16 => ("AcreBuysModel", "from", "I", false)
  | 17 => ("AcreBuysModel", "to", "I", false)
  | 18 => ("AcreBuysModel", "token", "I", false)
  | 19 => ("AcreBuysModel", "value", "I", false)
  | 20 => ("AcreBuysModel", "isBad", "Z", false)
  | _ => ("AcreBuysModel", "letters", "[I", true)
def tyX5 : Nat → FieldType := fun k => match k with
  | 0 => .array .int
  | 1 => .array .int
  | 2 => .array .int
  | 3 => .long
  | 4 => .long
  | 5 => .boolean
  | 6 => .array .int
  | 7 => .array .int
  | 8 => .int
  | 9 => .array .int
  | 10 => .array .int
  | 11 => .array .long
  | 12 => .array .int
  | 13 => .int
  | 14 => .array .int
  | 15 => .int
  | 16 => .int
  | 17 => .int
  | 18 => .int
  | 19 => .int
  | 20 => .boolean
  | _ => .array .int
abbrev wsX50 : List Cond := u_ws RX5 TX5 22
theorem nmX5 : ∀ a, a < 22 → ∀ b, b < 22 → a ≠ b → (TX5 a).2.1 ≠ (TX5 b).2.1 := by decide +kernel
theorem tyX5_ok : ∀ k, k < 22 → parseFieldDescriptor (TX5 k).2.2.1 = some (tyX5 k) := by decide +kernel
abbrev cX5_init : ByteArray := prog_7_method_1_code
def yX5_init : MethodName := ⟨RX5, "<init>", "()V"⟩
abbrev cX5_isIn : ByteArray := prog_7_method_2_code
def yX5_isIn : MethodName := ⟨RX5, "isIn", "(JJJ)Z"⟩
abbrev cX5_finds : ByteArray := prog_7_method_3_code
def yX5_finds : MethodName := ⟨RX5, "finds", "(I)I"⟩
abbrev cX5_at : ByteArray := prog_7_method_4_code
def yX5_at : MethodName := ⟨RX5, "at", "(II)I"⟩
abbrev cX5_has : ByteArray := prog_7_method_5_code
def yX5_has : MethodName := ⟨RX5, "has", "(II)I"⟩
abbrev cX5_isField : ByteArray := prog_7_method_6_code
def yX5_isField : MethodName := ⟨RX5, "isField", "(J)Z"⟩
abbrev cX5_isFree : ByteArray := prog_7_method_7_code
def yX5_isFree : MethodName := ⟨RX5, "isFree", "(I)Z"⟩
abbrev cX5_becomes : ByteArray := prog_7_method_8_code
def yX5_becomes : MethodName := ⟨RX5, "becomes", "(II)I"⟩
abbrev cX5_comes : ByteArray := prog_7_method_9_code
def yX5_comes : MethodName := ⟨RX5, "comes", "(II)V"⟩
abbrev cX5_field : ByteArray := prog_7_method_10_code
def yX5_field : MethodName := ⟨RX5, "field", "(II)I"⟩
abbrev cX5_ours : ByteArray := prog_7_method_11_code
def yX5_ours : MethodName := ⟨RX5, "ours", "()I"⟩
abbrev cX5_heardBy : ByteArray := prog_7_method_12_code
def yX5_heardBy : MethodName := ⟨RX5, "heardBy", "(II)I"⟩
abbrev cX5_wareBy : ByteArray := prog_7_method_13_code
def yX5_wareBy : MethodName := ⟨RX5, "wareBy", "(II)I"⟩
abbrev cX5_asksBy : ByteArray := prog_7_method_14_code
def yX5_asksBy : MethodName := ⟨RX5, "asksBy", "(II)I"⟩
abbrev cX5_asksNow : ByteArray := prog_7_method_15_code
def yX5_asksNow : MethodName := ⟨RX5, "asksNow", "(I)I"⟩
abbrev cX5_of : ByteArray := prog_7_method_16_code
def yX5_of : MethodName := ⟨RX5, "of", "(II)I"⟩
abbrev cX5_set : ByteArray := prog_7_method_17_code
def yX5_set : MethodName := ⟨RX5, "set", "(III)I"⟩
abbrev cX5_as : ByteArray := prog_7_method_18_code
def yX5_as : MethodName := ⟨RX5, "as", "(II)I"⟩
abbrev cX5_asks : ByteArray := prog_7_method_19_code
def yX5_asks : MethodName := ⟨RX5, "asks", "(II)I"⟩
abbrev cX5_mostOf : ByteArray := prog_7_method_20_code
def yX5_mostOf : MethodName := ⟨RX5, "mostOf", "(I)I"⟩
abbrev cX5_rule : ByteArray := prog_7_method_21_code
def yX5_rule : MethodName := ⟨RX5, "rule", "(II)I"⟩
abbrev cX5_offered : ByteArray := prog_7_method_22_code
def yX5_offered : MethodName := ⟨RX5, "offered", "(II)Z"⟩
abbrev cX5_offer : ByteArray := prog_7_method_23_code
def yX5_offer : MethodName := ⟨RX5, "offer", "(II)I"⟩
abbrev cX5_papers : ByteArray := prog_7_method_24_code
def yX5_papers : MethodName := ⟨RX5, "papers", "()I"⟩
abbrev cX5_paperFor : ByteArray := prog_7_method_25_code
def yX5_paperFor : MethodName := ⟨RX5, "paperFor", "(I)I"⟩
abbrev cX5_paper : ByteArray := prog_7_method_26_code
def yX5_paper : MethodName := ⟨RX5, "paper", "(II)I"⟩
abbrev cX5_paperOf : ByteArray := prog_7_method_27_code
def yX5_paperOf : MethodName := ⟨RX5, "paperOf", "(II)I"⟩
abbrev cX5_claim : ByteArray := prog_7_method_28_code
def yX5_claim : MethodName := ⟨RX5, "claim", "(I)I"⟩
abbrev cX5_county : ByteArray := prog_7_method_29_code
def yX5_county : MethodName := ⟨RX5, "county", "(I)I"⟩
abbrev cX5_month : ByteArray := prog_7_method_30_code
def yX5_month : MethodName := ⟨RX5, "month", "()I"⟩
abbrev cX5_seed : ByteArray := prog_7_method_31_code
def yX5_seed : MethodName := ⟨RX5, "seed", "(I)I"⟩
abbrev cX5_thatAre : ByteArray := prog_7_method_32_code
def yX5_thatAre : MethodName := ⟨RX5, "thatAre", "(I)I"⟩
abbrev cX5_stands : ByteArray := prog_7_method_33_code
def yX5_stands : MethodName := ⟨RX5, "stands", "(I)J"⟩
abbrev cX5_isStrip : ByteArray := prog_7_method_34_code
def yX5_isStrip : MethodName := ⟨RX5, "isStrip", "(I)Z"⟩
abbrev cX5_setOf : ByteArray := prog_7_method_35_code
def yX5_setOf : MethodName := ⟨RX5, "setOf", "(I)I"⟩
abbrev cX5_comesStrip : ByteArray := prog_7_method_36_code
def yX5_comesStrip : MethodName := ⟨RX5, "comesStrip", "(II)V"⟩
abbrev cX5_strip : ByteArray := prog_7_method_37_code
def yX5_strip : MethodName := ⟨RX5, "strip", "(II)I"⟩
abbrev cX5_thoseOf : ByteArray := prog_7_method_38_code
def yX5_thoseOf : MethodName := ⟨RX5, "thoseOf", "(II)I"⟩
abbrev cX5_isHad : ByteArray := prog_7_method_39_code
def yX5_isHad : MethodName := ⟨RX5, "isHad", "(I)Z"⟩
abbrev cX5_canBe : ByteArray := prog_7_method_40_code
def yX5_canBe : MethodName := ⟨RX5, "canBe", "(I)Z"⟩
abbrev cX5_stripOf : ByteArray := prog_7_method_41_code
def yX5_stripOf : MethodName := ⟨RX5, "stripOf", "(II)I"⟩
abbrev cX5_had : ByteArray := prog_7_method_42_code
def yX5_had : MethodName := ⟨RX5, "had", "()I"⟩
abbrev cX5_findWanted : ByteArray := prog_7_method_43_code
def yX5_findWanted : MethodName := ⟨RX5, "findWanted", "(I)V"⟩
abbrev cX5_asksBehind : ByteArray := prog_7_method_44_code
def yX5_asksBehind : MethodName := ⟨RX5, "asksBehind", "(II)I"⟩
abbrev cX5_findLeast : ByteArray := prog_7_method_45_code
def yX5_findLeast : MethodName := ⟨RX5, "findLeast", "()I"⟩
abbrev cX5_least : ByteArray := prog_7_method_46_code
def yX5_least : MethodName := ⟨RX5, "least", "(I)I"⟩
abbrev cX5_order : ByteArray := prog_7_method_47_code
def yX5_order : MethodName := ⟨RX5, "order", "(II)I"⟩
abbrev cX5_bestStrip : ByteArray := prog_7_method_48_code
def yX5_bestStrip : MethodName := ⟨RX5, "bestStrip", "()I"⟩
abbrev cX5_best : ByteArray := prog_7_method_49_code
def yX5_best : MethodName := ⟨RX5, "best", "()I"⟩
abbrev cX5_last : ByteArray := prog_7_method_50_code
def yX5_last : MethodName := ⟨RX5, "last", "(II)I"⟩
abbrev cX5_giveUp : ByteArray := prog_7_method_51_code
def yX5_giveUp : MethodName := ⟨RX5, "giveUp", "(I)I"⟩
abbrev cX5_rights : ByteArray := prog_7_method_52_code
def yX5_rights : MethodName := ⟨RX5, "rights", "(I)I"⟩
abbrev cX5_share : ByteArray := prog_7_method_53_code
def yX5_share : MethodName := ⟨RX5, "share", "(III)I"⟩
abbrev cX5_common : ByteArray := prog_7_method_54_code
def yX5_common : MethodName := ⟨RX5, "common", "()I"⟩
abbrev cX5_first : ByteArray := prog_7_method_55_code
def yX5_first : MethodName := ⟨RX5, "first", "(I)I"⟩
abbrev cX5_feed : ByteArray := prog_7_method_56_code
def yX5_feed : MethodName := ⟨RX5, "feed", "(II)I"⟩
abbrev cX5_wipe : ByteArray := prog_7_method_57_code
def yX5_wipe : MethodName := ⟨RX5, "wipe", "()I"⟩
abbrev cX5_byteAt : ByteArray := prog_7_method_58_code
def yX5_byteAt : MethodName := ⟨RX5, "byteAt", "(I)I"⟩
abbrev cX5_wordHere : ByteArray := prog_7_method_59_code
def yX5_wordHere : MethodName := ⟨RX5, "wordHere", "()I"⟩
abbrev cX5_goesOn : ByteArray := prog_7_method_60_code
def yX5_goesOn : MethodName := ⟨RX5, "goesOn", "()V"⟩
abbrev cX5_isWord : ByteArray := prog_7_method_61_code
def yX5_isWord : MethodName := ⟨RX5, "isWord", "(I)Z"⟩
abbrev cX5_takes : ByteArray := prog_7_method_62_code
def yX5_takes : MethodName := ⟨RX5, "takes", "(I)Z"⟩
abbrev cX5_number : ByteArray := prog_7_method_63_code
def yX5_number : MethodName := ⟨RX5, "number", "(II)I"⟩
abbrev cX5_numbersBelow : ByteArray := prog_7_method_64_code
def yX5_numbersBelow : MethodName := ⟨RX5, "numbersBelow", "(I)I"⟩
abbrev cX5_fieldItem : ByteArray := prog_7_method_65_code
def yX5_fieldItem : MethodName := ⟨RX5, "fieldItem", "(I)V"⟩
abbrev cX5_stripItem : ByteArray := prog_7_method_66_code
def yX5_stripItem : MethodName := ⟨RX5, "stripItem", "()V"⟩
abbrev cX5_item : ByteArray := prog_7_method_67_code
def yX5_item : MethodName := ⟨RX5, "item", "()V"⟩
abbrev cX5_plan : ByteArray := prog_7_method_68_code
def yX5_plan : MethodName := ⟨RX5, "plan", "()I"⟩
abbrev cX5_isSheet : ByteArray := prog_7_method_69_code
def yX5_isSheet : MethodName := ⟨RX5, "isSheet", "(I)Z"⟩
abbrev cX5_narrow : ByteArray := prog_7_method_70_code
def yX5_narrow : MethodName := ⟨RX5, "narrow", "(IJ)J"⟩
abbrev cX5_sheet : ByteArray := prog_7_method_71_code
def yX5_sheet : MethodName := ⟨RX5, "sheet", "(III)I"⟩
abbrev cX5_write : ByteArray := prog_7_method_72_code
def yX5_write : MethodName := ⟨RX5, "write", "(IIJ)J"⟩
abbrev cX5_copy : ByteArray := prog_7_method_73_code
def yX5_copy : MethodName := ⟨RX5, "copy", "(IIIII)I"⟩
abbrev cX5_cost : ByteArray := prog_7_method_74_code
def yX5_cost : MethodName := ⟨RX5, "cost", "(I)J"⟩
abbrev cX5_offers : ByteArray := prog_7_method_75_code
def yX5_offers : MethodName := ⟨RX5, "offers", "(I)I"⟩
abbrev cX5_read : ByteArray := prog_7_method_76_code
def yX5_read : MethodName := ⟨RX5, "read", "(I)I"⟩
abbrev cX5_image : ByteArray := prog_7_method_77_code
def yX5_image : MethodName := ⟨RX5, "image", "()I"⟩
abbrev cX5_undo : ByteArray := prog_7_method_78_code
def yX5_undo : MethodName := ⟨RX5, "undo", "()I"⟩
abbrev cX5_tear : ByteArray := prog_7_method_79_code
def yX5_tear : MethodName := ⟨RX5, "tear", "()I"⟩
abbrev cX5_allWary : ByteArray := prog_7_method_80_code
def yX5_allWary : MethodName := ⟨RX5, "allWary", "()I"⟩
abbrev cX5_count : ByteArray := prog_7_method_81_code
def yX5_count : MethodName := ⟨RX5, "count", "(I)I"⟩
abbrev cX5_status : ByteArray := prog_7_method_82_code
def yX5_status : MethodName := ⟨RX5, "status", "(I)I"⟩
def RJx145de : String := "java/io/Serializable"
def TJx145de : u_T := fun k => match k with
  | _ => ("", "", "", false)
def tyJx145de : Nat → FieldType := fun k => match k with
  | _ => .int
abbrev wsJx145de0 : List Cond := u_ws RJx145de TJx145de 0
theorem nmJx145de : ∀ a, a < 0 → ∀ b, b < 0 → a ≠ b → (TJx145de a).2.1 ≠ (TJx145de b).2.1 := by decide +kernel
theorem tyJx145de_ok : ∀ k, k < 0 → parseFieldDescriptor (TJx145de k).2.2.1 = some (tyJx145de k) := by decide +kernel
def RJx9f9b0 : String := "java/lang/CharSequence"
def TJx9f9b0 : u_T := fun k => match k with
  | _ => ("", "", "", false)
def tyJx9f9b0 : Nat → FieldType := fun k => match k with
  | _ => .int
abbrev wsJx9f9b00 : List Cond := u_ws RJx9f9b0 TJx9f9b0 0
theorem nmJx9f9b0 : ∀ a, a < 0 → ∀ b, b < 0 → a ≠ b → (TJx9f9b0 a).2.1 ≠ (TJx9f9b0 b).2.1 := by decide +kernel
theorem tyJx9f9b0_ok : ∀ k, k < 0 → parseFieldDescriptor (TJx9f9b0 k).2.2.1 = some (tyJx9f9b0 k) := by decide +kernel
def RJxb160c : String := "java/lang/Comparable"
def TJxb160c : u_T := fun k => match k with
  | _ => ("", "", "", false)
def tyJxb160c : Nat → FieldType := fun k => match k with
  | _ => .int
abbrev wsJxb160c0 : List Cond := u_ws RJxb160c TJxb160c 0
theorem nmJxb160c : ∀ a, a < 0 → ∀ b, b < 0 → a ≠ b → (TJxb160c a).2.1 ≠ (TJxb160c b).2.1 := by decide +kernel
theorem tyJxb160c_ok : ∀ k, k < 0 → parseFieldDescriptor (TJxb160c k).2.2.1 = some (tyJxb160c k) := by decide +kernel
def RJ6 : String := "java/lang/Integer"
def TJ6 : u_T := fun k => match k with
  | _ => ("", "", "", false)
def tyJ6 : Nat → FieldType := fun k => match k with
  | _ => .int
abbrev wsJ60 : List Cond := u_ws RJ6 TJ6 0
theorem nmJ6 : ∀ a, a < 0 → ∀ b, b < 0 → a ≠ b → (TJ6 a).2.1 ≠ (TJ6 b).2.1 := by decide +kernel
theorem tyJ6_ok : ∀ k, k < 0 → parseFieldDescriptor (TJ6 k).2.2.1 = some (tyJ6 k) := by decide +kernel
abbrev cJ6_bitCount_0f7a4 : ByteArray := prog_8_method_49_code
def yJ6_bitCount_0f7a4 : MethodName := ⟨RJ6, "bitCount", "(I)I"⟩
def RJ9 : String := "java/lang/Math"
def TJ9 : u_T := fun k => match k with
  | _ => ("", "", "", false)
def tyJ9 : Nat → FieldType := fun k => match k with
  | _ => .int
abbrev wsJ90 : List Cond := u_ws RJ9 TJ9 0
theorem nmJ9 : ∀ a, a < 0 → ∀ b, b < 0 → a ≠ b → (TJ9 a).2.1 ≠ (TJ9 b).2.1 := by decide +kernel
theorem tyJ9_ok : ∀ k, k < 0 → parseFieldDescriptor (TJ9 k).2.2.1 = some (tyJ9 k) := by decide +kernel
abbrev cJ9_max_7cf53 : ByteArray := prog_9_method_65_code
def yJ9_max_7cf53 : MethodName := ⟨RJ9, "max", "(II)I"⟩
abbrev cJ9_min_7cf53 : ByteArray := prog_9_method_69_code
def yJ9_min_7cf53 : MethodName := ⟨RJ9, "min", "(II)I"⟩
def RJ0 : String := "java/lang/String"
def TJ0 : u_T := fun k => match k with
  | _ => ("", "", "", false)
def tyJ0 : Nat → FieldType := fun k => match k with
  | _ => .int
abbrev wsJ00 : List Cond := u_ws RJ0 TJ0 0
theorem nmJ0 : ∀ a, a < 0 → ∀ b, b < 0 → a ≠ b → (TJ0 a).2.1 ≠ (TJ0 b).2.1 := by decide +kernel
theorem tyJ0_ok : ∀ k, k < 0 → parseFieldDescriptor (TJ0 k).2.2.1 = some (tyJ0 k) := by decide +kernel
abbrev cJ0_length_8abf5 : ByteArray := prog_10_method_54_code
def yJ0_length_8abf5 : MethodName := ⟨RJ0, "length", "()I"⟩
abbrev cJ0_charAt_5068e : ByteArray := prog_10_method_56_code
def yJ0_charAt_5068e : MethodName := ⟨RJ0, "charAt", "(I)C"⟩
abbrev cJ0_coder_7d493 : ByteArray := prog_10_method_152_code
def yJ0_coder_7d493 : MethodName := ⟨RJ0, "coder", "()B"⟩
abbrev cJ0_isLatin1_aae02 : ByteArray := prog_10_method_154_code
def yJ0_isLatin1_aae02 : MethodName := ⟨RJ0, "isLatin1", "()Z"⟩
abbrev cJ0_checkIndex_df160 : ByteArray := prog_10_method_155_code
def yJ0_checkIndex_df160 : MethodName := ⟨RJ0, "checkIndex", "(II)V"⟩
def RJ1 : String := "java/lang/StringLatin1"
def TJ1 : u_T := fun k => match k with
  | _ => ("", "", "", false)
def tyJ1 : Nat → FieldType := fun k => match k with
  | _ => .int
abbrev wsJ10 : List Cond := u_ws RJ1 TJ1 0
theorem nmJ1 : ∀ a, a < 0 → ∀ b, b < 0 → a ≠ b → (TJ1 a).2.1 ≠ (TJ1 b).2.1 := by decide +kernel
theorem tyJ1_ok : ∀ k, k < 0 → parseFieldDescriptor (TJ1 k).2.2.1 = some (tyJ1 k) := by decide +kernel
abbrev cJ1_charAt_3b067 : ByteArray := prog_11_method_2_code
def yJ1_charAt_3b067 : MethodName := ⟨RJ1, "charAt", "([BI)C"⟩
def RJ2 : String := "java/lang/StringUTF16"
def TJ2 : u_T := fun k => match k with
  | _ => ("", "", "", false)
def tyJ2 : Nat → FieldType := fun k => match k with
  | _ => .int
abbrev wsJ20 : List Cond := u_ws RJ2 TJ2 0
theorem nmJ2 : ∀ a, a < 0 → ∀ b, b < 0 → a ≠ b → (TJ2 a).2.1 ≠ (TJ2 b).2.1 := by decide +kernel
theorem tyJ2_ok : ∀ k, k < 0 → parseFieldDescriptor (TJ2 k).2.2.1 = some (tyJ2 k) := by decide +kernel
abbrev cJ2_getChar_3b067 : ByteArray := prog_12_method_5_code
def yJ2_getChar_3b067 : MethodName := ⟨RJ2, "getChar", "([BI)C"⟩
abbrev cJ2_length_9d52b : ByteArray := prog_12_method_6_code
def yJ2_length_9d52b : MethodName := ⟨RJ2, "length", "([B)I"⟩
abbrev cJ2_charAt_3b067 : ByteArray := prog_12_method_83_code
def yJ2_charAt_3b067 : MethodName := ⟨RJ2, "charAt", "([BI)C"⟩
abbrev cJ2_checkIndex_2214a : ByteArray := prog_12_method_91_code
def yJ2_checkIndex_2214a : MethodName := ⟨RJ2, "checkIndex", "(I[B)V"⟩
def RJ10 : String := "java/lang/System"
def TJ10 : u_T := fun k => match k with
  | _ => ("", "", "", false)
def tyJ10 : Nat → FieldType := fun k => match k with
  | _ => .int
abbrev wsJ100 : List Cond := u_ws RJ10 TJ10 0
theorem nmJ10 : ∀ a, a < 0 → ∀ b, b < 0 → a ≠ b → (TJ10 a).2.1 ≠ (TJ10 b).2.1 := by decide +kernel
theorem tyJ10_ok : ∀ k, k < 0 → parseFieldDescriptor (TJ10 k).2.2.1 = some (tyJ10 k) := by decide +kernel
def RJxfd54e : String := "java/lang/constant/Constable"
def TJxfd54e : u_T := fun k => match k with
  | _ => ("", "", "", false)
def tyJxfd54e : Nat → FieldType := fun k => match k with
  | _ => .int
abbrev wsJxfd54e0 : List Cond := u_ws RJxfd54e TJxfd54e 0
theorem nmJxfd54e : ∀ a, a < 0 → ∀ b, b < 0 → a ≠ b → (TJxfd54e a).2.1 ≠ (TJxfd54e b).2.1 := by decide +kernel
theorem tyJxfd54e_ok : ∀ k, k < 0 → parseFieldDescriptor (TJxfd54e k).2.2.1 = some (tyJxfd54e k) := by decide +kernel
def RJx3cf43 : String := "java/lang/constant/ConstantDesc"
def TJx3cf43 : u_T := fun k => match k with
  | _ => ("", "", "", false)
def tyJx3cf43 : Nat → FieldType := fun k => match k with
  | _ => .int
abbrev wsJx3cf430 : List Cond := u_ws RJx3cf43 TJx3cf43 0
theorem nmJx3cf43 : ∀ a, a < 0 → ∀ b, b < 0 → a ≠ b → (TJx3cf43 a).2.1 ≠ (TJx3cf43 b).2.1 := by decide +kernel
theorem tyJx3cf43_ok : ∀ k, k < 0 → parseFieldDescriptor (TJx3cf43 k).2.2.1 = some (tyJx3cf43 k) := by decide +kernel
def RJ7 : String := "java/util/Arrays"
def TJ7 : u_T := fun k => match k with
  | _ => ("", "", "", false)
def tyJ7 : Nat → FieldType := fun k => match k with
  | _ => .int
abbrev wsJ70 : List Cond := u_ws RJ7 TJ7 0
theorem nmJ7 : ∀ a, a < 0 → ∀ b, b < 0 → a ≠ b → (TJ7 a).2.1 ≠ (TJ7 b).2.1 := by decide +kernel
theorem tyJ7_ok : ∀ k, k < 0 → parseFieldDescriptor (TJ7 k).2.2.1 = some (tyJ7 k) := by decide +kernel
abbrev cJ7_fill_d0a16 : ByteArray := prog_14_method_101_code
def yJ7_fill_d0a16 : MethodName := ⟨RJ7, "fill", "([JJ)V"⟩
def RJ3 : String := "jdk/internal/util/Preconditions"
def TJ3 : u_T := fun k => match k with
  | _ => ("", "", "", false)
def tyJ3 : Nat → FieldType := fun k => match k with
  | _ => .int
abbrev wsJ30 : List Cond := u_ws RJ3 TJ3 0
theorem nmJ3 : ∀ a, a < 0 → ∀ b, b < 0 → a ≠ b → (TJ3 a).2.1 ≠ (TJ3 b).2.1 := by decide +kernel
theorem tyJ3_ok : ∀ k, k < 0 → parseFieldDescriptor (TJ3 k).2.2.1 = some (tyJ3 k) := by decide +kernel
abbrev cJ3_checkIndex_8e157 : ByteArray := prog_15_method_11_code
def yJ3_checkIndex_8e157 : MethodName := ⟨RJ3, "checkIndex", "(IILjava/util/function/BiFunction;)I"⟩
def RL : String := "AcreBuysLaw"
abbrev cL_law : ByteArray := code
def yL_law : MethodName := ⟨RL, "law", "([I)Z"⟩
abbrev vwCl : List vw_C := [(RX0, TX0, 17), (RX1, TX1, 5), (RX2, TX2, 3), (RX3, TX3, 6), (RX4, TX4, 8), (RX5, TX5, 22)]
end
section
/-! the words that hold on the tables for every warmed state -/
def jT : List Cond := lw_tbl.filter goodWord
theorem jT_of {w : Cond} (i : Nat) (h : lw_tbl[i]? = some w) (hg : goodWord w = true) : w ∈ jT := List.mem_filter.mpr ⟨List.mem_of_getElem? h, hg⟩
end
section
/-! ===== what stays as it was at the start: class data, statics, String constants, the script ===== -/
/-- Z.1 class data; Z.2.1 0, 1, 2 the classes of int rows, long rows, rows of Sheets; 3, 4 the cells of UNDER and RULE_LIMITS; 5, 6 the script's cell and length; then the cells of the String constants and of their bytes; the script -/
abbrev jZ : Type := va_G × (Nat → Nat) × (Nat → Nat) × (Nat → Nat) × (Nat → Int32)
def jTys (Z : jZ) : List (ClassId × FieldType) := [(Z.2.1 0, .int), (Z.2.1 1, .long), (Z.2.1 2, .object RX2)]
def jIdx : List Nat := [323, 353, 358, 360, 362, 364, 366, 368, 370, 347, 348, 372, 374, 376, 378]
def jTxt : List String := ["strip", "round", "owner", "keen", "stubborn", "talker", "lord", "brother", "", "wary", "tells", "zeal", "calm", "law", "power"]
def jLen : List Nat := [5, 5, 5, 4, 8, 6, 4, 7, 0, 4, 5, 4, 4, 3, 5]
def jByt : List (List Int32) := [[115, 116, 114, 105, 112], [114, 111, 117, 110, 100], [111, 119, 110, 101, 114], [107, 101, 101, 110], [115, 116, 117, 98, 98, 111, 114, 110], [116, 97, 108, 107, 101, 114], [108, 111, 114, 100], [98, 114, 111, 116, 104, 101, 114], [], [119, 97, 114, 121], [116, 101, 108, 108, 115], [122, 101, 97, 108], [99, 97, 108, 109], [108, 97, 119], [112, 111, 119, 101, 114]]
def jUnder (j : Nat) : Int32 := [-1, 0, 0, 0, 2, 3].getD j 0
def jLims (j : Nat) : Int32 := [100, 9, 999, 9].getD j 0
def jE (Z : jZ) (A : Nat → Prop) (U : State) (H : Heap) : Prop :=
  va_K Z.1 vwCl (jTys Z) U ∧ va_Z RX4 "UNDER" "[I" (.ref (Z.2.1 3)) A U H ∧ va_T .int (Z.2.1 3) 6 (fun j => .int (jUnder j)) A U H ∧
  va_Z RX4 "RULE_LIMITS" "[I" (.ref (Z.2.1 4)) A U H ∧ va_T .int (Z.2.1 4) 4 (fun j => .int (jLims j)) A U H ∧
  va_Z "java/lang/String" "COMPACT_STRINGS" "Z" (.int 1) A U H ∧ va_Zq "jdk/internal/util/Preconditions" "SIOOBE_FORMATTER" "Ljava/util/function/BiFunction;" A U H ∧
  vk_S 15 jLen jByt Z.2.2.1 Z.2.2.2.1 A U H ∧ va_X (Z.2.1 5) (Z.2.1 6) Z.2.2.2.2 U H ∧ (Z.2.1 5) < H.size ∧ ¬ A (Z.2.1 5)
def jNestOk : Cond → Bool
  | .methodLinkNest _ _ _ _ => true
  | .fieldLinkNest _ _ _ _ _ _ => true
  | _ => false
def jNest : List Cond := lw_tbl.filter jNestOk
theorem jNest_of {w : Cond} (i : Nat) (h : lw_tbl[i]? = some w) (hg : jNestOk w = true) : w ∈ jNest := List.mem_filter.mpr ⟨List.mem_of_getElem? h, hg⟩
def jN (Z : jZ) (U : State) : Prop := (∀ w ∈ jNest, va_Nw w U) ∧ ∀ i, i < 15 → vk_R RX4 (jIdx.getD i 0) (jTxt.getD i "") (Z.2.2.1 i) U
theorem jE.next {Z : jZ} {A A' : Nat → Prop} {s U : State} {H : Heap} {locs : List Loc} (h : jE Z A s s.heap) (hS : va_S A s.heap H locs) (hU : U.heap = H) (hW : s.WarmedH U.vm) (hA : ∀ q, A' q → A q) : jE Z A' U U.heap := by
  obtain ⟨h1, h2, h3, h4, h5, h6, h7, h8, h9, h10, h11⟩ := h
  have k := hS.2.1
  have v := hW.alike
  rw [hU]
  exact ⟨h1.moved v, ((h2.kept k).narrow hA).moved v, ((h3.kept k).narrow hA).moved v, ((h4.kept k).narrow hA).moved v, ((h5.kept k).narrow hA).moved v, ((h6.kept k).narrow hA).moved v, ((h7.kept k).narrow hA).moved v, ((h8.kept k).narrow hA).moved v,
    (h9.kept (k _ h10 h11)).moved v, Nat.lt_of_lt_of_le h10 hS.1, fun h => h11 (hA _ h)⟩
theorem jE.calling {Z : jZ} {A : Nat → Prop} {U : State} (g : JFrame) (mk : MethodId) (a : Array Value) (h : jE Z A U U.heap) : jE Z A (U.calling g mk a) (U.calling g mk a).heap := by
  obtain ⟨h1, h2, h3, h4, h5, h6, h7, h8, h9, h10, h11⟩ := h
  have v : U.vm.Alike (U.calling g mk a).vm := Vm.Alike.refl U.vm
  exact ⟨h1.moved v, h2.moved v, h3.moved v, h4.moved v, h5.moved v, h6.moved v, h7.moved v, h8.moved v, h9.moved v, h10, h11⟩
theorem jN.next {Z : jZ} {s U : State} (h : jN Z s) (hW : s.WarmedH U.vm) : jN Z U := by
  refine ⟨fun w hw => ?_, fun i hi => (h.2 i hi).warm hW⟩
  have h1 := h.1 w hw
  have h2 := (List.mem_filter.mp hw).2
  cases w <;> first | exact va_Nw.warmM hW h1 | exact va_Nw.warmF hW h1 | (exact absurd h2 (by simp [jNestOk]))
theorem jN.calling {Z : jZ} {U : State} (g : JFrame) (mk : MethodId) (a : Array Value) (h : jN Z U) : jN Z (U.calling g mk a) := by
  refine ⟨fun w hw => ?_, fun i hi => (h.2 i hi).same rfl⟩
  have h1 := h.1 w hw
  have h2 := (List.mem_filter.mp hw).2
  cases w <;> first | exact va_Nw.same rfl rfl h1 | (exact absurd h2 (by simp [jNestOk]))
/-! ===== the judgement ===== -/
def jCx (p : Program) (R : Room) (s : State) (m : MethodId) (args : Array Value) (meth : Method) (c : Code) (own nm : String) (cc : ByteArray) (nL d MC MS : Nat) (Z : jZ) (A : Nat → Prop) : Prop :=
  p.tables.exec = Jvm.exec ∧ c.code = cc ∧ c.maxLocals = nL ∧ s.vm.findClass own = some m.cls ∧ (∀ w ∈ jT, w.before args s = true) ∧ (d ≤ R.frames ∧ 36 * d ≤ R.locals ∧ MC ≤ R.cells ∧ MS ≤ R.slots) ∧ (∀ q, s.heap.size ≤ q → A q) ∧ jE Z A s s.heap ∧ jN Z s ∧ meth.name = nm
def jR (rt : Option FieldType) (ins : Instr) (r : Option Value) : Prop :=
  (ins = .return_ ∧ r = none ∧ rt = none) ∨ (∃ (v : Int32) (ty : FieldType), ins = .ireturn ∧ r = some (.int v) ∧ rt = some ty ∧ narrow ty (.int v) = .int v) ∨ (∃ v : Int64, ins = .lreturn ∧ r = some (.long v) ∧ rt = some .long) ∨ (∃ (a : Nat) (n : String), ins = .areturn ∧ r = some (.ref a) ∧ rt = some (.object n))
def jBack (p : Program) (l : Launch) (e : Env) (R : Room) (s : State) (m : MethodId) (args : Array Value) (below : List Frame) (meth : Method) (c : Code) (Z : jZ) (A : Nat → Prop) (cc : ByteArray) (rt : Option FieldType) (MC MS : Nat) (Q : Option Value → va_W → Prop) (QQ : State → Prop) : Prop :=
  ∀ (ins : Instr) (r : Option Value) (ws : va_W) (H : Heap) (locs : List Loc) (pc : Nat) (ls : Array Slot), jR rt ins r → decode cc pc = .ok (ins, 1) → Q r ws → va_P Z.1 vwCl ws H → va_D A ws → va_S A s.heap H locs → W p l e R s m args below meth c H locs MC MS QQ (F0 m pc ls r.toList)
def J (l : Launch) (Z : jZ) (own nm : String) (cc : ByteArray) (nL : Nat) (rt : Option FieldType) (d MC MS : Nat) (Q : Option Value → va_W → Prop) (pc : Nat) (L : List (Nat × Value)) (S : List Value) (ws : va_W) (kc ks : Nat) : Prop :=
  ∀ (p : Program) (e : Env) (R : Room) (s : State) (m : MethodId) (args : Array Value) (below : List Frame) (meth : Method) (c : Code) (A : Nat → Prop) (QQ : State → Prop) (H : Heap) (locs : List Loc) (ls : Array Slot),
    jCx p R s m args meth c own nm cc nL d MC MS Z A → jBack p l e R s m args below meth c Z A cc rt MC MS Q QQ → va_P Z.1 vwCl ws H → va_D A ws → va_S A s.heap H locs → lv_has ls nL L →
    W p l e R s m args below meth c H locs kc ks QQ (F0 m pc ls S)
/-- a contract: from the world ws the method answers r and leaves ws', so that Q r ws' -/
def Ct (l : Launch) (Z : jZ) (y : MethodName) (cc : ByteArray) (nL : Nat) (rt : Option FieldType) (d MC MS : Nat) (av : List Value) (ws : va_W) (Q : Option Value → va_W → Prop) : Prop :=
  ∀ sz : Nat, Met l y (.code y cc nL rt :: jT) ({ frames := d, cells := MC, slots := MS, locals := 36 * d })
    (va_Pc av (fun U => U.heap.size = sz ∧ va_P Z.1 vwCl ws U.heap ∧ va_D (fun _ => True) ws ∧ jE Z (va_A ws sz) U U.heap ∧ jN Z U))
    (fun _ st oc t => (∃ (r : Option Value) (ws' : va_W), oc = .returned r ∧ Q r ws' ∧ va_P Z.1 vwCl ws' t.heap ∧ va_D (va_A ws sz) ws') ∧ va_F (va_A ws sz) st t) MC MS (va_A ws sz)
theorem Ct_of {l : Launch} {Z : jZ} {y : MethodName} {cc : ByteArray} {nL : Nat} {rt : Option FieldType} {d MC MS : Nat} {av : List Value} {ws : va_W} {Q : Option Value → va_W → Prop} {L : List (Nat × Value)} {own nm : String}
    (ho : y.cls = own) (hn : y.name = nm) (hpl : plainName y.cls = true) (hL : lv_args 0 av = L) (hlen : (lg_sl av).length ≤ nL) (h : J l Z own nm cc nL rt d MC MS Q 0 L [] ws 0 0) : Ct l Z y cc nL rt d MC MS av ws Q := by
  intro sz
  subst ho
  subst hn
  refine Met.ofW (cc := cc) (maxL := nL) (ret := rt) hpl rfl ?_
  intro p e s m args below meth c s₁ B hml hv
  obtain ⟨rfl, hsz, hP, hD0, hE, hN⟩ := hv
  have hx := B.exec
  have hb := B.bytes
  have hr := B.returns
  have hlocks := B.notSynchronized
  have hts := atoms_spec (ws := .code y cc nL rt :: jT) B.pre
  subst hsz
  have hD := hD0.self (sz := s.heap.size)
  have hl := lv_entry av (n := nL) hlen
  rw [lg_entry_eq]
  rw [hL] at hl
  refine h p e _ s m _ below meth c (va_A ws s.heap.size) _ s.heap [] _ ⟨hx, hb, hml, findClass_of_methodNamed B.named, fun w hw => hts w (List.mem_cons_of_mem _ hw), ⟨Nat.le_refl _, Nat.le_refl _, Nat.le_refl _, Nat.le_refl _⟩, fun q hq => Or.inr hq, hE, hN, (name_of_methodNamed B.named B.method).1⟩ ?_ hP hD va_S.rf hl
  intro ins r ws' H' locs' pc' ls' hR hdg hQ hP' hD' hS'
  have key : ∀ t : State, t.heap = H' → s.WarmedH t.vm → (∃ (r' : Option Value) (ws'' : va_W), Outcome.returned r = .returned r' ∧ Q r' ws'' ∧ va_P Z.1 vwCl ws'' t.heap ∧ va_D (va_A ws s.heap.size) ws'') ∧ va_F (va_A ws s.heap.size) s t := fun t ht _ => ⟨⟨r, ws', rfl, hQ, by rw [ht]; exact hP', hD'⟩, hS'.F ht⟩
  rcases hR with ⟨rfl, rfl, rfl⟩ | ⟨v, ty, rfl, rfl, rfl, hn⟩ | ⟨v, rfl, rfl, rfl⟩ | ⟨a, n, rfl, rfl, rfl⟩
  · exact W.vret hx hb hr key hS'.2.2 hdg
  · exact W.zret hx hb hr hn key hS'.2.2 hdg
  · exact W.lret hx hb hr key hS'.2.2 hdg
  · exact W.aret hx hb hr (Or.inl ⟨n, rfl⟩) (Or.inr ⟨a, rfl⟩) key hS'.2.2 hdg
/-! ===== locals, as a list ===== -/
def jlk : List (Nat × Value) → Nat → Option Value
  | [], _ => none
  | q :: r, i => cond (Nat.beq q.1 i) (some q.2) (jlk r i)
theorem jlk_mem : ∀ {L : List (Nat × Value)} {i : Nat} {v : Value}, jlk L i = some v → ∃ k : Nat, L[k]? = some (i, v)
  | [], i, v, h => by simp [jlk] at h
  | q :: r, i, v, h => by
    unfold jlk at h
    cases hb : Nat.beq q.1 i with
    | true =>
      rw [hb] at h
      have e1 : q.1 = i := Nat.eq_of_beq_eq_true hb
      have e2 : q.2 = v := by simpa using h
      exact ⟨0, by subst e1; subst e2; rfl⟩
    | false =>
      rw [hb] at h
      obtain ⟨k, hk⟩ := jlk_mem (L := r) (show jlk r i = some v by simpa using h)
      exact ⟨k + 1, by simpa using hk⟩
theorem jlk_at {ls : Array Slot} {nL : Nat} {L : List (Nat × Value)} {i : Nat} {v : Value} (hl : lv_has ls nL L) (h : jlk L i = some v) : ls[i]? = some (.val v) := by
  obtain ⟨k, hk⟩ := jlk_mem h
  exact lv_at hl k hk
section JR
variable {l : Launch} {Z : jZ} {own nm : String} {cc : ByteArray} {nL : Nat} {rt : Option FieldType} {d MC MS : Nat} {Q : Option Value → va_W → Prop} {pc n : Nat} {L : List (Nat × Value)} {S : List Value} {ws : va_W} {kc ks : Nat}
theorem j_sub {L' : List (Nat × Value)} (is : List Nat) (hl : lv_pick L is = L') (k : J l Z own nm cc nL rt d MC MS Q pc L' S ws kc ks) : J l Z own nm cc nL rt d MC MS Q pc L S ws kc ks :=
  fun p e R s m args below meth c A QQ H locs ls hC hB hP hD hS h => k p e R s m args below meth c A QQ H locs ls hC hB hP hD hS (lv_sub h is hl)
theorem j_iconst {i : Int} {v : Int32} (hdg : decode cc pc = .ok (.iconst i, 1)) (hn : pc + 1 = n) (hv : Int32.ofInt i = v) (k : J l Z own nm cc nL rt d MC MS Q n L (.int v :: S) ws kc ks) : J l Z own nm cc nL rt d MC MS Q pc L S ws kc ks := by subst hn; exact fun p e R s m args below meth c A QQ H locs ls hC hB hP hD hS hl => lv_iconst hC.1 hC.2.1 hdg hv (k p e R s m args below meth c A QQ H locs ls hC hB hP hD hS hl)
theorem j_bipush {i : Int} {v : Int32} (hdg : decode cc pc = .ok (.bipush i, 2)) (hn : pc + 2 = n) (hv : (Int8.ofInt i).toInt32 = v) (k : J l Z own nm cc nL rt d MC MS Q n L (.int v :: S) ws kc ks) : J l Z own nm cc nL rt d MC MS Q pc L S ws kc ks := by subst hn; exact fun p e R s m args below meth c A QQ H locs ls hC hB hP hD hS hl => lv_bipush hC.1 hC.2.1 hdg hv (k p e R s m args below meth c A QQ H locs ls hC hB hP hD hS hl)
theorem j_sipush {i : Int} {v : Int32} (hdg : decode cc pc = .ok (.sipush i, 3)) (hn : pc + 3 = n) (hv : (Int16.ofInt i).toInt32 = v) (k : J l Z own nm cc nL rt d MC MS Q n L (.int v :: S) ws kc ks) : J l Z own nm cc nL rt d MC MS Q pc L S ws kc ks := by subst hn; exact fun p e R s m args below meth c A QQ H locs ls hC hB hP hD hS hl => lv_sipush hC.1 hC.2.1 hdg hv (k p e R s m args below meth c A QQ H locs ls hC hB hP hD hS hl)
theorem j_lconst {i : Fin 2} {v : Int64} (hdg : decode cc pc = .ok (.lconst i, 1)) (hn : pc + 1 = n) (hv : Int64.ofNat (i : Nat) = v) (k : J l Z own nm cc nL rt d MC MS Q n L (.long v :: S) ws kc ks) : J l Z own nm cc nL rt d MC MS Q pc L S ws kc ks := by subst hn; exact fun p e R s m args below meth c A QQ H locs ls hC hB hP hD hS hl => lv_lconst hC.1 hC.2.1 hdg hv (k p e R s m args below meth c A QQ H locs ls hC hB hP hD hS hl)
theorem j_iload_n {i : Fin 4} {x : Int32} (hdg : decode cc pc = .ok (.iload_n i, 1)) (hn : pc + 1 = n) (hx : jlk L (i : Nat) = some (.int x)) (k : J l Z own nm cc nL rt d MC MS Q n L (.int x :: S) ws kc ks) : J l Z own nm cc nL rt d MC MS Q pc L S ws kc ks := by subst hn; exact fun p e R s m args below meth c A QQ H locs ls hC hB hP hD hS hl => lv_iload_n hC.1 hC.2.1 hdg rfl (jlk_at hl hx) (k p e R s m args below meth c A QQ H locs ls hC hB hP hD hS hl)
theorem j_iload {i : Nat} {x : Int32} (hdg : decode cc pc = .ok (.iload i, 2)) (hn : pc + 2 = n) (hx : jlk L i = some (.int x)) (k : J l Z own nm cc nL rt d MC MS Q n L (.int x :: S) ws kc ks) : J l Z own nm cc nL rt d MC MS Q pc L S ws kc ks := by subst hn; exact fun p e R s m args below meth c A QQ H locs ls hC hB hP hD hS hl => lv_iload hC.1 hC.2.1 hdg (jlk_at hl hx) (k p e R s m args below meth c A QQ H locs ls hC hB hP hD hS hl)
theorem j_istore_n {j : Fin 4} {i : Nat} {x : Int32} {L' : List (Nat × Value)} (hdg : decode cc pc = .ok (.istore_n j, 1)) (hn : pc + 1 = n) (hi : (j : Nat) = i) (hlt : i < nL) (hL : (i, Value.int x) :: L.filter (fun q => !(q.1 == i) && !(q.1 + 1 == i && q.2.category == 2)) = L') (k : J l Z own nm cc nL rt d MC MS Q n L' S ws kc ks) : J l Z own nm cc nL rt d MC MS Q pc L (.int x :: S) ws kc ks := by subst hn; exact fun p e R s m args below meth c A QQ H locs ls hC hB hP hD hS hl => lv_istore_n hC.1 hC.2.1 hdg hi hl hlt hL (fun ls hl => k p e R s m args below meth c A QQ H locs ls hC hB hP hD hS hl)
theorem j_istore {i : Nat} {x : Int32} {L' : List (Nat × Value)} (hdg : decode cc pc = .ok (.istore i, 2)) (hn : pc + 2 = n) (hlt : i < nL) (hL : (i, Value.int x) :: L.filter (fun q => !(q.1 == i) && !(q.1 + 1 == i && q.2.category == 2)) = L') (k : J l Z own nm cc nL rt d MC MS Q n L' S ws kc ks) : J l Z own nm cc nL rt d MC MS Q pc L (.int x :: S) ws kc ks := by subst hn; exact fun p e R s m args below meth c A QQ H locs ls hC hB hP hD hS hl => lv_istore hC.1 hC.2.1 hdg hl hlt hL (fun ls hl => k p e R s m args below meth c A QQ H locs ls hC hB hP hD hS hl)
theorem j_lload_n {i : Fin 4} {x : Int64} (hdg : decode cc pc = .ok (.lload_n i, 1)) (hn : pc + 1 = n) (hx : jlk L (i : Nat) = some (.long x)) (k : J l Z own nm cc nL rt d MC MS Q n L (.long x :: S) ws kc ks) : J l Z own nm cc nL rt d MC MS Q pc L S ws kc ks := by subst hn; exact fun p e R s m args below meth c A QQ H locs ls hC hB hP hD hS hl => lv_lload_n hC.1 hC.2.1 hdg rfl (jlk_at hl hx) (k p e R s m args below meth c A QQ H locs ls hC hB hP hD hS hl)
theorem j_lload {i : Nat} {x : Int64} (hdg : decode cc pc = .ok (.lload i, 2)) (hn : pc + 2 = n) (hx : jlk L i = some (.long x)) (k : J l Z own nm cc nL rt d MC MS Q n L (.long x :: S) ws kc ks) : J l Z own nm cc nL rt d MC MS Q pc L S ws kc ks := by subst hn; exact fun p e R s m args below meth c A QQ H locs ls hC hB hP hD hS hl => lv_lload hC.1 hC.2.1 hdg (jlk_at hl hx) (k p e R s m args below meth c A QQ H locs ls hC hB hP hD hS hl)
theorem j_lstore_n {j : Fin 4} {i : Nat} {x : Int64} {L' : List (Nat × Value)} (hdg : decode cc pc = .ok (.lstore_n j, 1)) (hn : pc + 1 = n) (hi : (j : Nat) = i) (hlt : i + 1 < nL) (hL : (i, Value.long x) :: L.filter (fun q => !(q.1 == i) && (!(q.1 == i + 1) && !(q.1 + 1 == i && q.2.category == 2))) = L') (k : J l Z own nm cc nL rt d MC MS Q n L' S ws kc ks) : J l Z own nm cc nL rt d MC MS Q pc L (.long x :: S) ws kc ks := by subst hn; exact fun p e R s m args below meth c A QQ H locs ls hC hB hP hD hS hl => lv_lstore_n hC.1 hC.2.1 hdg hi hl hlt hL (fun ls hl => k p e R s m args below meth c A QQ H locs ls hC hB hP hD hS hl)
theorem j_lstore {i : Nat} {x : Int64} {L' : List (Nat × Value)} (hdg : decode cc pc = .ok (.lstore i, 2)) (hn : pc + 2 = n) (hlt : i + 1 < nL) (hL : (i, Value.long x) :: L.filter (fun q => !(q.1 == i) && (!(q.1 == i + 1) && !(q.1 + 1 == i && q.2.category == 2))) = L') (k : J l Z own nm cc nL rt d MC MS Q n L' S ws kc ks) : J l Z own nm cc nL rt d MC MS Q pc L (.long x :: S) ws kc ks := by subst hn; exact fun p e R s m args below meth c A QQ H locs ls hC hB hP hD hS hl => lv_lstore hC.1 hC.2.1 hdg hl hlt hL (fun ls hl => k p e R s m args below meth c A QQ H locs ls hC hB hP hD hS hl)
theorem j_aload_n {i : Fin 4} {x : Nat} (hdg : decode cc pc = .ok (.aload_n i, 1)) (hn : pc + 1 = n) (hx : jlk L (i : Nat) = some (.ref x)) (k : J l Z own nm cc nL rt d MC MS Q n L (.ref x :: S) ws kc ks) : J l Z own nm cc nL rt d MC MS Q pc L S ws kc ks := by subst hn; exact fun p e R s m args below meth c A QQ H locs ls hC hB hP hD hS hl => lv_aload_n hC.1 hC.2.1 hdg rfl (jlk_at hl hx) (k p e R s m args below meth c A QQ H locs ls hC hB hP hD hS hl)
theorem j_aload {i : Nat} {x : Nat} (hdg : decode cc pc = .ok (.aload i, 2)) (hn : pc + 2 = n) (hx : jlk L i = some (.ref x)) (k : J l Z own nm cc nL rt d MC MS Q n L (.ref x :: S) ws kc ks) : J l Z own nm cc nL rt d MC MS Q pc L S ws kc ks := by subst hn; exact fun p e R s m args below meth c A QQ H locs ls hC hB hP hD hS hl => lv_aload hC.1 hC.2.1 hdg (jlk_at hl hx) (k p e R s m args below meth c A QQ H locs ls hC hB hP hD hS hl)
theorem j_astore_n {j : Fin 4} {i : Nat} {x : Nat} {L' : List (Nat × Value)} (hdg : decode cc pc = .ok (.astore_n j, 1)) (hn : pc + 1 = n) (hi : (j : Nat) = i) (hlt : i < nL) (hL : (i, Value.ref x) :: L.filter (fun q => !(q.1 == i) && !(q.1 + 1 == i && q.2.category == 2)) = L') (k : J l Z own nm cc nL rt d MC MS Q n L' S ws kc ks) : J l Z own nm cc nL rt d MC MS Q pc L (.ref x :: S) ws kc ks := by subst hn; exact fun p e R s m args below meth c A QQ H locs ls hC hB hP hD hS hl => lv_astore_n hC.1 hC.2.1 hdg hi hl hlt hL (fun ls hl => k p e R s m args below meth c A QQ H locs ls hC hB hP hD hS hl)
theorem j_astore {i : Nat} {x : Nat} {L' : List (Nat × Value)} (hdg : decode cc pc = .ok (.astore i, 2)) (hn : pc + 2 = n) (hlt : i < nL) (hL : (i, Value.ref x) :: L.filter (fun q => !(q.1 == i) && !(q.1 + 1 == i && q.2.category == 2)) = L') (k : J l Z own nm cc nL rt d MC MS Q n L' S ws kc ks) : J l Z own nm cc nL rt d MC MS Q pc L (.ref x :: S) ws kc ks := by subst hn; exact fun p e R s m args below meth c A QQ H locs ls hC hB hP hD hS hl => lv_astore hC.1 hC.2.1 hdg hl hlt hL (fun ls hl => k p e R s m args below meth c A QQ H locs ls hC hB hP hD hS hl)
theorem j_iinc {i : Nat} {a : Int} {x v : Int32} {L' : List (Nat × Value)} (hdg : decode cc pc = .ok (.iinc i a, 3)) (hn : pc + 3 = n) (hx : jlk L i = some (.int x)) (hv : x + Int32.ofInt a = v) (hlt : i < nL) (hL : (i, Value.int v) :: L.filter (fun q => !(q.1 == i) && !(q.1 + 1 == i && q.2.category == 2)) = L') (k : J l Z own nm cc nL rt d MC MS Q n L' S ws kc ks) : J l Z own nm cc nL rt d MC MS Q pc L S ws kc ks := by
  subst hn
  obtain ⟨kk, hk⟩ := jlk_mem hx
  exact fun p e R s m args below meth c A QQ H locs ls hC hB hP hD hS hl => lv_iinc hC.1 hC.2.1 hdg hl hk hv hlt hL (fun ls hl => k p e R s m args below meth c A QQ H locs ls hC hB hP hD hS hl)
theorem j_iadd {x y : Int32} (hdg : decode cc pc = .ok (.iadd, 1)) (hn : pc + 1 = n)  (k : J l Z own nm cc nL rt d MC MS Q n L (.int (x + y) :: S) ws kc ks) : J l Z own nm cc nL rt d MC MS Q pc L (.int y :: .int x :: S) ws kc ks := by subst hn; exact fun p e R s m args below meth c A QQ H locs ls hC hB hP hD hS hl => lv_iadd hC.1 hC.2.1 hdg  (k p e R s m args below meth c A QQ H locs ls hC hB hP hD hS hl)
theorem j_isub {x y : Int32} (hdg : decode cc pc = .ok (.isub, 1)) (hn : pc + 1 = n)  (k : J l Z own nm cc nL rt d MC MS Q n L (.int (x - y) :: S) ws kc ks) : J l Z own nm cc nL rt d MC MS Q pc L (.int y :: .int x :: S) ws kc ks := by subst hn; exact fun p e R s m args below meth c A QQ H locs ls hC hB hP hD hS hl => lv_isub hC.1 hC.2.1 hdg  (k p e R s m args below meth c A QQ H locs ls hC hB hP hD hS hl)
theorem j_imul {x y : Int32} (hdg : decode cc pc = .ok (.imul, 1)) (hn : pc + 1 = n)  (k : J l Z own nm cc nL rt d MC MS Q n L (.int (x * y) :: S) ws kc ks) : J l Z own nm cc nL rt d MC MS Q pc L (.int y :: .int x :: S) ws kc ks := by subst hn; exact fun p e R s m args below meth c A QQ H locs ls hC hB hP hD hS hl => lv_imul hC.1 hC.2.1 hdg  (k p e R s m args below meth c A QQ H locs ls hC hB hP hD hS hl)
theorem j_iand {x y : Int32} (hdg : decode cc pc = .ok (.iand, 1)) (hn : pc + 1 = n)  (k : J l Z own nm cc nL rt d MC MS Q n L (.int (x &&& y) :: S) ws kc ks) : J l Z own nm cc nL rt d MC MS Q pc L (.int y :: .int x :: S) ws kc ks := by subst hn; exact fun p e R s m args below meth c A QQ H locs ls hC hB hP hD hS hl => lv_iand hC.1 hC.2.1 hdg  (k p e R s m args below meth c A QQ H locs ls hC hB hP hD hS hl)
theorem j_ior {x y : Int32} (hdg : decode cc pc = .ok (.ior, 1)) (hn : pc + 1 = n)  (k : J l Z own nm cc nL rt d MC MS Q n L (.int (x ||| y) :: S) ws kc ks) : J l Z own nm cc nL rt d MC MS Q pc L (.int y :: .int x :: S) ws kc ks := by subst hn; exact fun p e R s m args below meth c A QQ H locs ls hC hB hP hD hS hl => lv_ior hC.1 hC.2.1 hdg  (k p e R s m args below meth c A QQ H locs ls hC hB hP hD hS hl)
theorem j_ixor {x y : Int32} (hdg : decode cc pc = .ok (.ixor, 1)) (hn : pc + 1 = n)  (k : J l Z own nm cc nL rt d MC MS Q n L (.int (x ^^^ y) :: S) ws kc ks) : J l Z own nm cc nL rt d MC MS Q pc L (.int y :: .int x :: S) ws kc ks := by subst hn; exact fun p e R s m args below meth c A QQ H locs ls hC hB hP hD hS hl => lv_ixor hC.1 hC.2.1 hdg  (k p e R s m args below meth c A QQ H locs ls hC hB hP hD hS hl)
theorem j_ishl {x y : Int32} (hdg : decode cc pc = .ok (.ishl, 1)) (hn : pc + 1 = n)  (k : J l Z own nm cc nL rt d MC MS Q n L (.int (x <<< (y &&& 31)) :: S) ws kc ks) : J l Z own nm cc nL rt d MC MS Q pc L (.int y :: .int x :: S) ws kc ks := by subst hn; exact fun p e R s m args below meth c A QQ H locs ls hC hB hP hD hS hl => lv_ishl hC.1 hC.2.1 hdg  (k p e R s m args below meth c A QQ H locs ls hC hB hP hD hS hl)
theorem j_ishr {x y : Int32} (hdg : decode cc pc = .ok (.ishr, 1)) (hn : pc + 1 = n)  (k : J l Z own nm cc nL rt d MC MS Q n L (.int (x >>> (y &&& 31)) :: S) ws kc ks) : J l Z own nm cc nL rt d MC MS Q pc L (.int y :: .int x :: S) ws kc ks := by subst hn; exact fun p e R s m args below meth c A QQ H locs ls hC hB hP hD hS hl => lv_ishr hC.1 hC.2.1 hdg  (k p e R s m args below meth c A QQ H locs ls hC hB hP hD hS hl)
theorem j_idiv {x y : Int32} (hdg : decode cc pc = .ok (.idiv, 1)) (hn : pc + 1 = n) (hne : ¬ y = 0) (k : J l Z own nm cc nL rt d MC MS Q n L (.int (x / y) :: S) ws kc ks) : J l Z own nm cc nL rt d MC MS Q pc L (.int y :: .int x :: S) ws kc ks := by subst hn; exact fun p e R s m args below meth c A QQ H locs ls hC hB hP hD hS hl => lv_idiv hC.1 hC.2.1 hdg hne (k p e R s m args below meth c A QQ H locs ls hC hB hP hD hS hl)
theorem j_irem {x y : Int32} (hdg : decode cc pc = .ok (.irem, 1)) (hn : pc + 1 = n) (hne : ¬ y = 0) (k : J l Z own nm cc nL rt d MC MS Q n L (.int (x - x / y * y) :: S) ws kc ks) : J l Z own nm cc nL rt d MC MS Q pc L (.int y :: .int x :: S) ws kc ks := by subst hn; exact fun p e R s m args below meth c A QQ H locs ls hC hB hP hD hS hl => lv_irem hC.1 hC.2.1 hdg hne (k p e R s m args below meth c A QQ H locs ls hC hB hP hD hS hl)
theorem j_iushr {x y : Int32} (hdg : decode cc pc = .ok (.iushr, 1)) (hn : pc + 1 = n)  (k : J l Z own nm cc nL rt d MC MS Q n L (.int ((x.toUInt32 >>> (y.toUInt32 &&& Int32.toUInt32 31)).toInt32) :: S) ws kc ks) : J l Z own nm cc nL rt d MC MS Q pc L (.int y :: .int x :: S) ws kc ks := by subst hn; exact fun p e R s m args below meth c A QQ H locs ls hC hB hP hD hS hl => lv_iushr hC.1 hC.2.1 hdg rfl (k p e R s m args below meth c A QQ H locs ls hC hB hP hD hS hl)
theorem j_ladd {x y : Int64} (hdg : decode cc pc = .ok (.ladd, 1)) (hn : pc + 1 = n)  (k : J l Z own nm cc nL rt d MC MS Q n L (.long (x + y) :: S) ws kc ks) : J l Z own nm cc nL rt d MC MS Q pc L (.long y :: .long x :: S) ws kc ks := by subst hn; exact fun p e R s m args below meth c A QQ H locs ls hC hB hP hD hS hl => lv_ladd hC.1 hC.2.1 hdg  (k p e R s m args below meth c A QQ H locs ls hC hB hP hD hS hl)
theorem j_lsub {x y : Int64} (hdg : decode cc pc = .ok (.lsub, 1)) (hn : pc + 1 = n)  (k : J l Z own nm cc nL rt d MC MS Q n L (.long (x - y) :: S) ws kc ks) : J l Z own nm cc nL rt d MC MS Q pc L (.long y :: .long x :: S) ws kc ks := by subst hn; exact fun p e R s m args below meth c A QQ H locs ls hC hB hP hD hS hl => lv_lsub hC.1 hC.2.1 hdg  (k p e R s m args below meth c A QQ H locs ls hC hB hP hD hS hl)
theorem j_lmul {x y : Int64} (hdg : decode cc pc = .ok (.lmul, 1)) (hn : pc + 1 = n)  (k : J l Z own nm cc nL rt d MC MS Q n L (.long (x * y) :: S) ws kc ks) : J l Z own nm cc nL rt d MC MS Q pc L (.long y :: .long x :: S) ws kc ks := by subst hn; exact fun p e R s m args below meth c A QQ H locs ls hC hB hP hD hS hl => lv_lmul hC.1 hC.2.1 hdg  (k p e R s m args below meth c A QQ H locs ls hC hB hP hD hS hl)
theorem j_land {x y : Int64} (hdg : decode cc pc = .ok (.land, 1)) (hn : pc + 1 = n)  (k : J l Z own nm cc nL rt d MC MS Q n L (.long (x &&& y) :: S) ws kc ks) : J l Z own nm cc nL rt d MC MS Q pc L (.long y :: .long x :: S) ws kc ks := by subst hn; exact fun p e R s m args below meth c A QQ H locs ls hC hB hP hD hS hl => lv_land hC.1 hC.2.1 hdg  (k p e R s m args below meth c A QQ H locs ls hC hB hP hD hS hl)
theorem j_lor {x y : Int64} (hdg : decode cc pc = .ok (.lor, 1)) (hn : pc + 1 = n)  (k : J l Z own nm cc nL rt d MC MS Q n L (.long (x ||| y) :: S) ws kc ks) : J l Z own nm cc nL rt d MC MS Q pc L (.long y :: .long x :: S) ws kc ks := by subst hn; exact fun p e R s m args below meth c A QQ H locs ls hC hB hP hD hS hl => lv_lor hC.1 hC.2.1 hdg  (k p e R s m args below meth c A QQ H locs ls hC hB hP hD hS hl)
theorem j_ldiv {x y : Int64} (hdg : decode cc pc = .ok (.ldiv, 1)) (hn : pc + 1 = n) (hne : ¬ y = 0) (k : J l Z own nm cc nL rt d MC MS Q n L (.long (x / y) :: S) ws kc ks) : J l Z own nm cc nL rt d MC MS Q pc L (.long y :: .long x :: S) ws kc ks := by subst hn; exact fun p e R s m args below meth c A QQ H locs ls hC hB hP hD hS hl => lv_ldiv hC.1 hC.2.1 hdg hne (k p e R s m args below meth c A QQ H locs ls hC hB hP hD hS hl)
theorem j_lshl {x : Int64} {y : Int32} (hdg : decode cc pc = .ok (.lshl, 1)) (hn : pc + 1 = n)  (k : J l Z own nm cc nL rt d MC MS Q n L (.long (x <<< (y.toInt64 &&& 63)) :: S) ws kc ks) : J l Z own nm cc nL rt d MC MS Q pc L (.int y :: .long x :: S) ws kc ks := by subst hn; exact fun p e R s m args below meth c A QQ H locs ls hC hB hP hD hS hl => lv_lshl hC.1 hC.2.1 hdg rfl (k p e R s m args below meth c A QQ H locs ls hC hB hP hD hS hl)
theorem j_lcmp {x y : Int64} (hdg : decode cc pc = .ok (.lcmp, 1)) (hn : pc + 1 = n)  (k : J l Z own nm cc nL rt d MC MS Q n L (.int (lg_cmp x y) :: S) ws kc ks) : J l Z own nm cc nL rt d MC MS Q pc L (.long y :: .long x :: S) ws kc ks := by subst hn; exact fun p e R s m args below meth c A QQ H locs ls hC hB hP hD hS hl => W.lcmp hC.1 hC.2.1 hdg  (k p e R s m args below meth c A QQ H locs ls hC hB hP hD hS hl)
theorem j_i2l {x : Int32} (hdg : decode cc pc = .ok (.i2l, 1)) (hn : pc + 1 = n)  (k : J l Z own nm cc nL rt d MC MS Q n L (.long x.toInt64 :: S) ws kc ks) : J l Z own nm cc nL rt d MC MS Q pc L (.int x :: S) ws kc ks := by subst hn; exact fun p e R s m args below meth c A QQ H locs ls hC hB hP hD hS hl => lv_i2l hC.1 hC.2.1 hdg rfl (k p e R s m args below meth c A QQ H locs ls hC hB hP hD hS hl)
theorem j_l2i {x : Int64} (hdg : decode cc pc = .ok (.l2i, 1)) (hn : pc + 1 = n)  (k : J l Z own nm cc nL rt d MC MS Q n L (.int x.toInt32 :: S) ws kc ks) : J l Z own nm cc nL rt d MC MS Q pc L (.long x :: S) ws kc ks := by subst hn; exact fun p e R s m args below meth c A QQ H locs ls hC hB hP hD hS hl => lv_l2i hC.1 hC.2.1 hdg rfl (k p e R s m args below meth c A QQ H locs ls hC hB hP hD hS hl)
theorem j_i2b {x : Int32} (hdg : decode cc pc = .ok (.i2b, 1)) (hn : pc + 1 = n)  (k : J l Z own nm cc nL rt d MC MS Q n L (.int x.toInt8.toInt32 :: S) ws kc ks) : J l Z own nm cc nL rt d MC MS Q pc L (.int x :: S) ws kc ks := by subst hn; exact fun p e R s m args below meth c A QQ H locs ls hC hB hP hD hS hl => lv_i2b hC.1 hC.2.1 hdg rfl (k p e R s m args below meth c A QQ H locs ls hC hB hP hD hS hl)
theorem j_i2s {x : Int32} (hdg : decode cc pc = .ok (.i2s, 1)) (hn : pc + 1 = n)  (k : J l Z own nm cc nL rt d MC MS Q n L (.int x.toInt16.toInt32 :: S) ws kc ks) : J l Z own nm cc nL rt d MC MS Q pc L (.int x :: S) ws kc ks := by subst hn; exact fun p e R s m args below meth c A QQ H locs ls hC hB hP hD hS hl => lv_i2s hC.1 hC.2.1 hdg rfl (k p e R s m args below meth c A QQ H locs ls hC hB hP hD hS hl)
theorem j_i2c {x : Int32} (hdg : decode cc pc = .ok (.i2c, 1)) (hn : pc + 1 = n)  (k : J l Z own nm cc nL rt d MC MS Q n L (.int (x.toUInt32 % 65536).toInt32 :: S) ws kc ks) : J l Z own nm cc nL rt d MC MS Q pc L (.int x :: S) ws kc ks := by subst hn; exact fun p e R s m args below meth c A QQ H locs ls hC hB hP hD hS hl => lv_i2c hC.1 hC.2.1 hdg rfl (k p e R s m args below meth c A QQ H locs ls hC hB hP hD hS hl)
theorem j_dup {v : Value} (hdg : decode cc pc = .ok (.dup, 1)) (hn : pc + 1 = n) (hv : v.category = 1) (k : J l Z own nm cc nL rt d MC MS Q n L (v :: v :: S) ws kc ks) : J l Z own nm cc nL rt d MC MS Q pc L (v :: S) ws kc ks := by subst hn; exact fun p e R s m args below meth c A QQ H locs ls hC hB hP hD hS hl => lv_dup hC.1 hC.2.1 hdg hv (k p e R s m args below meth c A QQ H locs ls hC hB hP hD hS hl)
theorem j_pop {v : Value} (hdg : decode cc pc = .ok (.pop, 1)) (hn : pc + 1 = n) (hv : v.category = 1) (k : J l Z own nm cc nL rt d MC MS Q n L S ws kc ks) : J l Z own nm cc nL rt d MC MS Q pc L (v :: S) ws kc ks := by subst hn; exact fun p e R s m args below meth c A QQ H locs ls hC hB hP hD hS hl => lv_pop hC.1 hC.2.1 hdg hv (k p e R s m args below meth c A QQ H locs ls hC hB hP hD hS hl)
theorem j_dup2 {v w : Value} (hdg : decode cc pc = .ok (.dup2, 1)) (hn : pc + 1 = n) (hv : v.category = 1) (hw : w.category = 1) (k : J l Z own nm cc nL rt d MC MS Q n L (v :: w :: v :: w :: S) ws kc ks) : J l Z own nm cc nL rt d MC MS Q pc L (v :: w :: S) ws kc ks := by subst hn; exact fun p e R s m args below meth c A QQ H locs ls hC hB hP hD hS hl => lv_dup2_11 hC.1 hC.2.1 hdg hv hw (k p e R s m args below meth c A QQ H locs ls hC hB hP hD hS hl)
theorem j_if_eq {x : Int32} {off : Int} {tgt : Nat} (hdg : decode cc pc = .ok (.ifCond .eq off, 3)) (hn : pc + 3 = n) (ht : (pc : Int) + off = (tgt : Int)) (kt : x = 0 → J l Z own nm cc nL rt d MC MS Q tgt L S ws kc ks) (kf : ¬ x = 0 → J l Z own nm cc nL rt d MC MS Q n L S ws kc ks) : J l Z own nm cc nL rt d MC MS Q pc L (.int x :: S) ws kc ks := by subst hn; exact fun p e R s m args below meth c A QQ H locs ls hC hB hP hD hS hl => lv_if_eq hC.1 hC.2.1 hdg ht (fun h => kt h p e R s m args below meth c A QQ H locs ls hC hB hP hD hS hl) (fun h => kf h p e R s m args below meth c A QQ H locs ls hC hB hP hD hS hl)
theorem j_icmp_eq {x y : Int32} {off : Int} {tgt : Nat} (hdg : decode cc pc = .ok (.if_icmp .eq off, 3)) (hn : pc + 3 = n) (ht : (pc : Int) + off = (tgt : Int)) (kt : x = y → J l Z own nm cc nL rt d MC MS Q tgt L S ws kc ks) (kf : ¬ x = y → J l Z own nm cc nL rt d MC MS Q n L S ws kc ks) : J l Z own nm cc nL rt d MC MS Q pc L (.int y :: .int x :: S) ws kc ks := by subst hn; exact fun p e R s m args below meth c A QQ H locs ls hC hB hP hD hS hl => lv_icmp_eq hC.1 hC.2.1 hdg ht (fun h => kt h p e R s m args below meth c A QQ H locs ls hC hB hP hD hS hl) (fun h => kf h p e R s m args below meth c A QQ H locs ls hC hB hP hD hS hl)
theorem j_if_ne {x : Int32} {off : Int} {tgt : Nat} (hdg : decode cc pc = .ok (.ifCond .ne off, 3)) (hn : pc + 3 = n) (ht : (pc : Int) + off = (tgt : Int)) (kt : ¬ x = 0 → J l Z own nm cc nL rt d MC MS Q tgt L S ws kc ks) (kf : x = 0 → J l Z own nm cc nL rt d MC MS Q n L S ws kc ks) : J l Z own nm cc nL rt d MC MS Q pc L (.int x :: S) ws kc ks := by subst hn; exact fun p e R s m args below meth c A QQ H locs ls hC hB hP hD hS hl => lv_if_ne hC.1 hC.2.1 hdg ht (fun h => kt h p e R s m args below meth c A QQ H locs ls hC hB hP hD hS hl) (fun h => kf h p e R s m args below meth c A QQ H locs ls hC hB hP hD hS hl)
theorem j_icmp_ne {x y : Int32} {off : Int} {tgt : Nat} (hdg : decode cc pc = .ok (.if_icmp .ne off, 3)) (hn : pc + 3 = n) (ht : (pc : Int) + off = (tgt : Int)) (kt : ¬ x = y → J l Z own nm cc nL rt d MC MS Q tgt L S ws kc ks) (kf : x = y → J l Z own nm cc nL rt d MC MS Q n L S ws kc ks) : J l Z own nm cc nL rt d MC MS Q pc L (.int y :: .int x :: S) ws kc ks := by subst hn; exact fun p e R s m args below meth c A QQ H locs ls hC hB hP hD hS hl => lv_icmp_ne hC.1 hC.2.1 hdg ht (fun h => kt h p e R s m args below meth c A QQ H locs ls hC hB hP hD hS hl) (fun h => kf h p e R s m args below meth c A QQ H locs ls hC hB hP hD hS hl)
theorem j_if_lt {x : Int32} {off : Int} {tgt : Nat} (hdg : decode cc pc = .ok (.ifCond .lt off, 3)) (hn : pc + 3 = n) (ht : (pc : Int) + off = (tgt : Int)) (kt : x < 0 → J l Z own nm cc nL rt d MC MS Q tgt L S ws kc ks) (kf : ¬ x < 0 → J l Z own nm cc nL rt d MC MS Q n L S ws kc ks) : J l Z own nm cc nL rt d MC MS Q pc L (.int x :: S) ws kc ks := by subst hn; exact fun p e R s m args below meth c A QQ H locs ls hC hB hP hD hS hl => lv_if_lt hC.1 hC.2.1 hdg ht (fun h => kt h p e R s m args below meth c A QQ H locs ls hC hB hP hD hS hl) (fun h => kf h p e R s m args below meth c A QQ H locs ls hC hB hP hD hS hl)
theorem j_icmp_lt {x y : Int32} {off : Int} {tgt : Nat} (hdg : decode cc pc = .ok (.if_icmp .lt off, 3)) (hn : pc + 3 = n) (ht : (pc : Int) + off = (tgt : Int)) (kt : x < y → J l Z own nm cc nL rt d MC MS Q tgt L S ws kc ks) (kf : ¬ x < y → J l Z own nm cc nL rt d MC MS Q n L S ws kc ks) : J l Z own nm cc nL rt d MC MS Q pc L (.int y :: .int x :: S) ws kc ks := by subst hn; exact fun p e R s m args below meth c A QQ H locs ls hC hB hP hD hS hl => lv_icmp_lt hC.1 hC.2.1 hdg ht (fun h => kt h p e R s m args below meth c A QQ H locs ls hC hB hP hD hS hl) (fun h => kf h p e R s m args below meth c A QQ H locs ls hC hB hP hD hS hl)
theorem j_if_ge {x : Int32} {off : Int} {tgt : Nat} (hdg : decode cc pc = .ok (.ifCond .ge off, 3)) (hn : pc + 3 = n) (ht : (pc : Int) + off = (tgt : Int)) (kt : 0 ≤ x → J l Z own nm cc nL rt d MC MS Q tgt L S ws kc ks) (kf : ¬ 0 ≤ x → J l Z own nm cc nL rt d MC MS Q n L S ws kc ks) : J l Z own nm cc nL rt d MC MS Q pc L (.int x :: S) ws kc ks := by subst hn; exact fun p e R s m args below meth c A QQ H locs ls hC hB hP hD hS hl => lv_if_ge hC.1 hC.2.1 hdg ht (fun h => kt h p e R s m args below meth c A QQ H locs ls hC hB hP hD hS hl) (fun h => kf h p e R s m args below meth c A QQ H locs ls hC hB hP hD hS hl)
theorem j_icmp_ge {x y : Int32} {off : Int} {tgt : Nat} (hdg : decode cc pc = .ok (.if_icmp .ge off, 3)) (hn : pc + 3 = n) (ht : (pc : Int) + off = (tgt : Int)) (kt : y ≤ x → J l Z own nm cc nL rt d MC MS Q tgt L S ws kc ks) (kf : ¬ y ≤ x → J l Z own nm cc nL rt d MC MS Q n L S ws kc ks) : J l Z own nm cc nL rt d MC MS Q pc L (.int y :: .int x :: S) ws kc ks := by subst hn; exact fun p e R s m args below meth c A QQ H locs ls hC hB hP hD hS hl => lv_icmp_ge hC.1 hC.2.1 hdg ht (fun h => kt h p e R s m args below meth c A QQ H locs ls hC hB hP hD hS hl) (fun h => kf h p e R s m args below meth c A QQ H locs ls hC hB hP hD hS hl)
theorem j_if_gt {x : Int32} {off : Int} {tgt : Nat} (hdg : decode cc pc = .ok (.ifCond .gt off, 3)) (hn : pc + 3 = n) (ht : (pc : Int) + off = (tgt : Int)) (kt : 0 < x → J l Z own nm cc nL rt d MC MS Q tgt L S ws kc ks) (kf : ¬ 0 < x → J l Z own nm cc nL rt d MC MS Q n L S ws kc ks) : J l Z own nm cc nL rt d MC MS Q pc L (.int x :: S) ws kc ks := by subst hn; exact fun p e R s m args below meth c A QQ H locs ls hC hB hP hD hS hl => lv_if_gt hC.1 hC.2.1 hdg ht (fun h => kt h p e R s m args below meth c A QQ H locs ls hC hB hP hD hS hl) (fun h => kf h p e R s m args below meth c A QQ H locs ls hC hB hP hD hS hl)
theorem j_icmp_gt {x y : Int32} {off : Int} {tgt : Nat} (hdg : decode cc pc = .ok (.if_icmp .gt off, 3)) (hn : pc + 3 = n) (ht : (pc : Int) + off = (tgt : Int)) (kt : y < x → J l Z own nm cc nL rt d MC MS Q tgt L S ws kc ks) (kf : ¬ y < x → J l Z own nm cc nL rt d MC MS Q n L S ws kc ks) : J l Z own nm cc nL rt d MC MS Q pc L (.int y :: .int x :: S) ws kc ks := by subst hn; exact fun p e R s m args below meth c A QQ H locs ls hC hB hP hD hS hl => lv_icmp_gt hC.1 hC.2.1 hdg ht (fun h => kt h p e R s m args below meth c A QQ H locs ls hC hB hP hD hS hl) (fun h => kf h p e R s m args below meth c A QQ H locs ls hC hB hP hD hS hl)
theorem j_if_le {x : Int32} {off : Int} {tgt : Nat} (hdg : decode cc pc = .ok (.ifCond .le off, 3)) (hn : pc + 3 = n) (ht : (pc : Int) + off = (tgt : Int)) (kt : x ≤ 0 → J l Z own nm cc nL rt d MC MS Q tgt L S ws kc ks) (kf : ¬ x ≤ 0 → J l Z own nm cc nL rt d MC MS Q n L S ws kc ks) : J l Z own nm cc nL rt d MC MS Q pc L (.int x :: S) ws kc ks := by subst hn; exact fun p e R s m args below meth c A QQ H locs ls hC hB hP hD hS hl => lv_if_le hC.1 hC.2.1 hdg ht (fun h => kt h p e R s m args below meth c A QQ H locs ls hC hB hP hD hS hl) (fun h => kf h p e R s m args below meth c A QQ H locs ls hC hB hP hD hS hl)
theorem j_icmp_le {x y : Int32} {off : Int} {tgt : Nat} (hdg : decode cc pc = .ok (.if_icmp .le off, 3)) (hn : pc + 3 = n) (ht : (pc : Int) + off = (tgt : Int)) (kt : x ≤ y → J l Z own nm cc nL rt d MC MS Q tgt L S ws kc ks) (kf : ¬ x ≤ y → J l Z own nm cc nL rt d MC MS Q n L S ws kc ks) : J l Z own nm cc nL rt d MC MS Q pc L (.int y :: .int x :: S) ws kc ks := by subst hn; exact fun p e R s m args below meth c A QQ H locs ls hC hB hP hD hS hl => lv_icmp_le hC.1 hC.2.1 hdg ht (fun h => kt h p e R s m args below meth c A QQ H locs ls hC hB hP hD hS hl) (fun h => kf h p e R s m args below meth c A QQ H locs ls hC hB hP hD hS hl)
theorem j_goto {off : Int} {tgt : Nat} (hdg : decode cc pc = .ok (.goto off, 3)) (ht : (pc : Int) + off = (tgt : Int)) (k : J l Z own nm cc nL rt d MC MS Q tgt L S ws kc ks) : J l Z own nm cc nL rt d MC MS Q pc L S ws kc ks := fun p e R s m args below meth c A QQ H locs ls hC hB hP hD hS hl => lv_goto hC.1 hC.2.1 hdg ht (k p e R s m args below meth c A QQ H locs ls hC hB hP hD hS hl)
theorem j_table {dflt lo hi : Int} {offs : Array Int} {len : Nat} {x : Int32} (hdg : decode cc pc = .ok (.tableswitch dflt lo hi offs, len)) (ko : (x.toInt < lo ∨ hi < x.toInt) → ∀ tgt : Nat, (pc : Int) + dflt = (tgt : Int) → J l Z own nm cc nL rt d MC MS Q tgt L S ws kc ks)
    (ki : ∀ (off : Int) (tgt : Nat), ¬ x.toInt < lo → ¬ hi < x.toInt → offs[(x.toInt - lo).toNat]? = some off → (pc : Int) + off = (tgt : Int) → J l Z own nm cc nL rt d MC MS Q tgt L S ws kc ks) (hd : ∃ t : Nat, (pc : Int) + dflt = (t : Int)) (hs : ∀ off ∈ offs, ∃ t : Nat, (pc : Int) + off = (t : Int)) (hz : (offs.size : Int) = hi - lo + 1) : J l Z own nm cc nL rt d MC MS Q pc L (.int x :: S) ws kc ks := by
  intro p e R s m args below meth c A QQ H locs ls hC hB hP hD hS hl
  by_cases h : x.toInt < lo ∨ hi < x.toInt
  · obtain ⟨t, ht⟩ := hd
    exact lv_tableOut hC.1 hC.2.1 hdg h ht (ko h t ht p e R s m args below meth c A QQ H locs ls hC hB hP hD hS hl)
  · have h1 : ¬ x.toInt < lo := fun z => h (Or.inl z)
    have h2 : ¬ hi < x.toInt := fun z => h (Or.inr z)
    have hlt : (x.toInt - lo).toNat < offs.size := by omega
    obtain ⟨t, ht⟩ := hs _ (Array.getElem_mem hlt)
    exact lv_tableIn hC.1 hC.2.1 hdg h1 h2 (Array.getElem?_eq_getElem hlt) ht (ki _ t h1 h2 (Array.getElem?_eq_getElem hlt) ht p e R s m args below meth c A QQ H locs ls hC hB hP hD hS hl)
theorem j_ldc {i : Nat} {v : Int32} (hdg : decode cc pc = .ok (.ldc i, 2)) (hn : pc + 2 = n) (hw : Cond.constant own i v ∈ jT) (k : J l Z own nm cc nL rt d MC MS Q n L (.int v :: S) ws kc ks) : J l Z own nm cc nL rt d MC MS Q pc L S ws kc ks := by subst hn; exact fun p e R s m args below meth c A QQ H locs ls hC hB hP hD hS hl => lv_ldc hC.1 hC.2.1 hC.2.2.2.1 (hC.2.2.2.2.1 _ hw) hdg (k p e R s m args below meth c A QQ H locs ls hC hB hP hD hS hl)
theorem j_ldcw {i : Nat} {v : Int32} (hdg : decode cc pc = .ok (.ldc_w i, 3)) (hn : pc + 3 = n) (hw : Cond.constant own i v ∈ jT) (k : J l Z own nm cc nL rt d MC MS Q n L (.int v :: S) ws kc ks) : J l Z own nm cc nL rt d MC MS Q pc L S ws kc ks := by subst hn; exact fun p e R s m args below meth c A QQ H locs ls hC hB hP hD hS hl => lv_ldcw hC.1 hC.2.1 hC.2.2.2.1 (hC.2.2.2.2.1 _ hw) hdg (k p e R s m args below meth c A QQ H locs ls hC hB hP hD hS hl)
theorem j_ldc2 {i : Nat} {v : Int64} (hdg : decode cc pc = .ok (.ldc2_w i, 3)) (hn : pc + 3 = n) (hw : Cond.constantLong own i v ∈ jT) (k : J l Z own nm cc nL rt d MC MS Q n L (.long v :: S) ws kc ks) : J l Z own nm cc nL rt d MC MS Q pc L S ws kc ks := by subst hn; exact fun p e R s m args below meth c A QQ H locs ls hC hB hP hD hS hl => lv_ldc2 hC.1 hC.2.1 hC.2.2.2.1 (hC.2.2.2.2.1 _ hw) hdg (k p e R s m args below meth c A QQ H locs ls hC hB hP hD hS hl)
theorem j_ireturn {x : Int32} {ty : FieldType} (hdg : decode cc pc = .ok (.ireturn, 1)) (hr : rt = some ty) (hz : narrow ty (.int x) = .int x) (hc : kc ≤ MC ∧ ks ≤ MS) (hq : Q (some (.int x)) ws) : J l Z own nm cc nL rt d MC MS Q pc L [.int x] ws kc ks := fun p e R s m args below meth c A QQ H locs ls hC hB hP hD hS hl => W.widen hc.1 hc.2 (hB .ireturn (some (.int x)) ws H locs pc ls (Or.inr (Or.inl ⟨x, ty, rfl, rfl, hr, hz⟩)) hdg hq hP hD hS)
theorem j_lreturn {x : Int64} (hdg : decode cc pc = .ok (.lreturn, 1)) (hr : rt = some .long) (hc : kc ≤ MC ∧ ks ≤ MS) (hq : Q (some (.long x)) ws) : J l Z own nm cc nL rt d MC MS Q pc L [.long x] ws kc ks := fun p e R s m args below meth c A QQ H locs ls hC hB hP hD hS hl => W.widen hc.1 hc.2 (hB .lreturn (some (.long x)) ws H locs pc ls (Or.inr (Or.inr (Or.inl ⟨x, rfl, rfl, hr⟩))) hdg hq hP hD hS)
theorem j_areturn {a : Nat} {t : String} (hdg : decode cc pc = .ok (.areturn, 1)) (hr : rt = some (.object t)) (hc : kc ≤ MC ∧ ks ≤ MS) (hq : Q (some (.ref a)) ws) : J l Z own nm cc nL rt d MC MS Q pc L [.ref a] ws kc ks := fun p e R s m args below meth c A QQ H locs ls hC hB hP hD hS hl => W.widen hc.1 hc.2 (hB .areturn (some (.ref a)) ws H locs pc ls (Or.inr (Or.inr (Or.inr ⟨a, t, rfl, rfl, hr⟩))) hdg hq hP hD hS)
theorem j_return (hdg : decode cc pc = .ok (.return_, 1)) (hr : rt = none) (hc : kc ≤ MC ∧ ks ≤ MS) (hq : Q none ws) : J l Z own nm cc nL rt d MC MS Q pc L [] ws kc ks := fun p e R s m args below meth c A QQ H locs ls hC hB hP hD hS hl => W.widen hc.1 hc.2 (hB .return_ none ws H locs pc ls (Or.inl ⟨rfl, rfl, hr⟩) hdg hq hP hD hS)
end JR
end
section
/-! ===== fields ===== -/
/-- what the tables say of a field instruction: in class own, constant idx names field k (of type ty) of the class at place ci -/
def jF (own : String) (idx ci k : Nat) (ty : FieldType) (fin : Bool) : Prop := ∃ (C : String) (T : u_T) (N : Nat) (ty0 : Nat → FieldType), vwCl[ci]? = some (C, T, N) ∧ k < N ∧ (∀ w ∈ u_ws C T N, w ∈ jT) ∧ (∀ k, k < N → parseFieldDescriptor (T k).2.2.1 = some (ty0 k)) ∧ (∀ a, a < N → ∀ b, b < N → a ≠ b → (T a).2.1 ≠ (T b).2.1) ∧ (T k).1 = C ∧ (T k).2.2.2 = fin ∧ ty0 k = ty ∧ (Cond.fieldLink own idx C (T k).2.1 (T k).2.2.1 ∈ jT ∨ ∃ h : String, Cond.fieldLinkNest own idx C (T k).2.1 (T k).2.2.1 h ∈ jNest)
section JM
variable {l : Launch} {Z : jZ} {own nm : String} {cc : ByteArray} {nL : Nat} {rt : Option FieldType} {d MC MS : Nat} {Q : Option Value → va_W → Prop} {pc n : Nat} {L : List (Nat × Value)} {S : List Value} {ws : va_W} {kc ks : Nat}
theorem j_get {idx ci k p0 a : Nat} {ty : FieldType} {fin : Bool} {fs : List Value} {v : Value} (hF : jF own idx ci k ty fin) (hdg : decode cc pc = .ok (.getfield idx, 3)) (hn : pc + 3 = n) (he : ws[p0]? = some (a, .inr (ci, fs))) (hv : fs[k]? = some v)
    (kk : J l Z own nm cc nL rt d MC MS Q n L (v :: S) ws kc ks) : J l Z own nm cc nL rt d MC MS Q pc L (.ref a :: S) ws kc ks := by
  subst hn
  obtain ⟨C, T, N, ty0, hc, hk, hin, hty, hnm, h1, h2, h3, hl⟩ := hF
  intro p e R s m args below meth c A QQ H locs ls hC hB hP hD hS hl'
  have go := kk p e R s m args below meth c A QQ H locs ls hC hB hP hD hS hl'
  obtain ⟨hx, hb, hml, hown, hts, hR, hA, hE, hN, hnm'⟩ := hC
  rcases hl with hl | ⟨h, hl⟩
  · exact va_get hx hb hts hin hown hE.1 hP p0 he hc k hk (hts _ hl) (fun x h => by rw [h1] at h; exact h) hv hdg go
  · exact va_getN hx hb hts hin hown hE.1 hP p0 he hc k hk (va_Nw.use rfl (hN.1 _ hl)) (fun x h => by rw [h1] at h; exact h) hv hdg go
theorem j_put {idx ci k p0 a : Nat} {ty : FieldType} {fs : List Value} {v : Value} (hF : jF own idx ci k ty false) (hdg : decode cc pc = .ok (.putfield idx, 3)) (hn : pc + 3 = n) (he : ws[p0]? = some (a, .inr (ci, fs))) (hl : k < fs.length) (hnv : narrow ty v = v) (hfit : fits ty v = true)
    (kk : J l Z own nm cc nL rt d MC MS Q n L S (ws.set p0 (a, .inr (ci, fs.set k v))) kc ks) : J l Z own nm cc nL rt d MC MS Q pc L (v :: .ref a :: S) ws kc ks := by
  subst hn
  obtain ⟨C, T, N, ty0, hc, hk, hin, hty, hnm, h1, h2, h3, hlk⟩ := hF
  subst h3
  intro p e R s m args below meth c A QQ H locs ls hC hB hP hD hS hl'
  have go := fun (H1 : Heap) (locs1 : List Loc) (x1 : va_P Z.1 vwCl (ws.set p0 (a, .inr (ci, fs.set k v))) H1) (x2 : va_D A (ws.set p0 (a, .inr (ci, fs.set k v)))) (x3 : va_S A s.heap H1 locs1) => kk p e R s m args below meth c A QQ H1 locs1 ls hC hB x1 x2 x3 hl'
  obtain ⟨hx, hb, hml, hown, hts, hR, hA, hE, hN, hnm'⟩ := hC
  rcases hlk with hlk | ⟨h, hlk⟩
  · exact va_put hx hb hts hin ty0 hty hnm hown hE.1 hP hD hS p0 he hc k hk (hts _ hlk) (fun x h => by rw [h1] at h; exact h) h2 (hty k hk) hnv hfit hl hdg go
  · exact va_putN hx hb hts hin ty0 hty hnm hown hE.1 hP hD hS p0 he hc k hk (va_Nw.use rfl (hN.1 _ hlk)) (fun x h => by rw [h1] at h; exact h) h2 (hty k hk) hnv hfit hl hdg go
/-- a final field, in a constructor of its class -/
theorem j_putF {idx ci k p0 a : Nat} {ty : FieldType} {fs : List Value} {v : Value} (hF : jF own idx ci k ty true) (hnest : ∀ (h x y z : String), Cond.fieldLinkNest own idx x y z h ∉ jNest) (hinit : nm = "<init>") (hown0 : ∀ q : vw_C, vwCl[ci]? = some q → q.1 = own) (hdg : decode cc pc = .ok (.putfield idx, 3)) (hn : pc + 3 = n) (he : ws[p0]? = some (a, .inr (ci, fs))) (hl : k < fs.length) (hnv : narrow ty v = v) (hfit : fits ty v = true)
    (kk : J l Z own nm cc nL rt d MC MS Q n L S (ws.set p0 (a, .inr (ci, fs.set k v))) kc ks) : J l Z own nm cc nL rt d MC MS Q pc L (v :: .ref a :: S) ws kc ks := by
  subst hn
  obtain ⟨C, T, N, ty0, hc, hk, hin, hty, hnm, h1, h2, h3, hlk⟩ := hF
  subst h3
  have hCo : C = own := hown0 _ hc
  intro p e R s m args below meth c A QQ H locs ls hC hB hP hD hS hl'
  have go := fun (H1 : Heap) (locs1 : List Loc) (x1 : va_P Z.1 vwCl (ws.set p0 (a, .inr (ci, fs.set k v))) H1) (x2 : va_D A (ws.set p0 (a, .inr (ci, fs.set k v)))) (x3 : va_S A s.heap H1 locs1) => kk p e R s m args below meth c A QQ H1 locs1 ls hC hB x1 x2 x3 hl'
  obtain ⟨hx, hb, hml, hown, hts, hR, hA, hE, hN, hnm'⟩ := hC
  rcases hlk with hlk | ⟨h, hlk⟩
  · exact va_putF hx hb hts hin ty0 hty hnm hown hE.1 hP hD hS p0 he hc k hk (hts _ hlk) (fun x h => by rw [h1] at h; exact h) h2 (hnm'.trans hinit) (h1.trans hCo) (hty k hk) hnv hfit hl hdg go
  · exact absurd hlk (hnest _ _ _ _)
theorem j_iald {p0 a N : Nat} {f : Nat → Int32} {i : Int32} (hdg : decode cc pc = .ok (.iaload, 1)) (hn : pc + 1 = n) (he : ws[p0]? = some (a, .inl (Z.2.1 0, N, .inl f))) (hin : vp_in i N) (k : J l Z own nm cc nL rt d MC MS Q n L (.int (f i.toNatClampNeg) :: S) ws kc ks) : J l Z own nm cc nL rt d MC MS Q pc L (.int i :: .ref a :: S) ws kc ks := by
  subst hn
  intro p e R s m args below meth c A QQ H locs ls hC hB hP hD hS hl
  exact va_iald hC.1 hC.2.1 hC.2.2.2.2.2.2.2.1.1 hP p0 0 he rfl hin hdg (k p e R s m args below meth c A QQ H locs ls hC hB hP hD hS hl)
theorem j_iast {p0 a N : Nat} {f : Nat → Int32} {i : Int32} {x : Int32} (hdg : decode cc pc = .ok (.iastore, 1)) (hn : pc + 1 = n) (he : ws[p0]? = some (a, .inl (Z.2.1 0, N, .inl f))) (hin : vp_in i N) (k : J l Z own nm cc nL rt d MC MS Q n L S (ws.set p0 (a, .inl (Z.2.1 0, N, .inl (upd f i.toNatClampNeg x)))) kc ks) : J l Z own nm cc nL rt d MC MS Q pc L (.int x :: .int i :: .ref a :: S) ws kc ks := by
  subst hn
  intro p e R s m args below meth c A QQ H locs ls hC hB hP hD hS hl
  exact va_iast hC.1 hC.2.1 hC.2.2.2.2.2.2.2.1.1 hP hD hS p0 0 he rfl hin hdg (fun H locs hP hD hS => k p e R s m args below meth c A QQ H locs ls hC hB hP hD hS hl)
theorem j_lald {p0 a N : Nat} {f : Nat → Int64} {i : Int32} (hdg : decode cc pc = .ok (.laload, 1)) (hn : pc + 1 = n) (he : ws[p0]? = some (a, .inl (Z.2.1 1, N, .inr (.inl f)))) (hin : vp_in i N) (k : J l Z own nm cc nL rt d MC MS Q n L (.long (f i.toNatClampNeg) :: S) ws kc ks) : J l Z own nm cc nL rt d MC MS Q pc L (.int i :: .ref a :: S) ws kc ks := by
  subst hn
  intro p e R s m args below meth c A QQ H locs ls hC hB hP hD hS hl
  exact va_lald hC.1 hC.2.1 hC.2.2.2.2.2.2.2.1.1 hP p0 1 he rfl hin hdg (k p e R s m args below meth c A QQ H locs ls hC hB hP hD hS hl)
theorem j_last {p0 a N : Nat} {f : Nat → Int64} {i : Int32} {x : Int64} (hdg : decode cc pc = .ok (.lastore, 1)) (hn : pc + 1 = n) (he : ws[p0]? = some (a, .inl (Z.2.1 1, N, .inr (.inl f)))) (hin : vp_in i N) (k : J l Z own nm cc nL rt d MC MS Q n L S (ws.set p0 (a, .inl (Z.2.1 1, N, .inr (.inl (vp_updL f i.toNatClampNeg x))))) kc ks) : J l Z own nm cc nL rt d MC MS Q pc L (.long x :: .int i :: .ref a :: S) ws kc ks := by
  subst hn
  intro p e R s m args below meth c A QQ H locs ls hC hB hP hD hS hl
  exact va_last hC.1 hC.2.1 hC.2.2.2.2.2.2.2.1.1 hP hD hS p0 1 he rfl hin hdg (fun H locs hP hD hS => k p e R s m args below meth c A QQ H locs ls hC hB hP hD hS hl)
theorem j_aald {p0 a N : Nat} {f : Nat → Option Nat} {i : Int32} (hdg : decode cc pc = .ok (.aaload, 1)) (hn : pc + 1 = n) (he : ws[p0]? = some (a, .inl (Z.2.1 2, N, .inr (.inr (.inr (.inr f)))))) (hin : vp_in i N) (k : J l Z own nm cc nL rt d MC MS Q n L (va_rf (f i.toNatClampNeg) :: S) ws kc ks) : J l Z own nm cc nL rt d MC MS Q pc L (.int i :: .ref a :: S) ws kc ks := by
  subst hn
  intro p e R s m args below meth c A QQ H locs ls hC hB hP hD hS hl
  exact va_aldq hC.1 hC.2.1 hC.2.2.2.2.2.2.2.1.1 hP p0 2 he rfl hin hdg (k p e R s m args below meth c A QQ H locs ls hC hB hP hD hS hl)
theorem j_getU {idx : Nat} (hw : Cond.fieldLink own idx RX4 "UNDER" "[I" ∈ jT) (hdg : decode cc pc = .ok (.getstatic idx, 3)) (hn : pc + 3 = n) (k : J l Z own nm cc nL rt d MC MS Q n L (.ref (Z.2.1 3) :: S) ws kc ks) : J l Z own nm cc nL rt d MC MS Q pc L S ws kc ks := by
  subst hn
  intro p e R s m args below meth c A QQ H locs ls hC hB hP hD hS hl
  exact va_gets hC.1 hC.2.1 hC.2.2.2.2.2.2.2.1.2.1 hS hC.2.2.2.1 (hC.2.2.2.2.1 _ hw) (fun _ h => h) hdg (k p e R s m args below meth c A QQ H locs ls hC hB hP hD hS hl)
theorem j_ldU {i : Int32} (hdg : decode cc pc = .ok (.iaload, 1)) (hn : pc + 1 = n) (hin : vp_in i 6) (k : J l Z own nm cc nL rt d MC MS Q n L (.int (jUnder i.toNatClampNeg) :: S) ws kc ks) : J l Z own nm cc nL rt d MC MS Q pc L (.int i :: .ref (Z.2.1 3) :: S) ws kc ks := by
  subst hn
  intro p e R s m args below meth c A QQ H locs ls hC hB hP hD hS hl
  exact va_ti hC.1 hC.2.1 hC.2.2.2.2.2.2.2.1.2.2.1 hS hin rfl hdg (k p e R s m args below meth c A QQ H locs ls hC hB hP hD hS hl)
theorem j_getR {idx : Nat} (hw : Cond.fieldLink own idx RX4 "RULE_LIMITS" "[I" ∈ jT) (hdg : decode cc pc = .ok (.getstatic idx, 3)) (hn : pc + 3 = n) (k : J l Z own nm cc nL rt d MC MS Q n L (.ref (Z.2.1 4) :: S) ws kc ks) : J l Z own nm cc nL rt d MC MS Q pc L S ws kc ks := by
  subst hn
  intro p e R s m args below meth c A QQ H locs ls hC hB hP hD hS hl
  exact va_gets hC.1 hC.2.1 hC.2.2.2.2.2.2.2.1.2.2.2.1 hS hC.2.2.2.1 (hC.2.2.2.2.1 _ hw) (fun _ h => h) hdg (k p e R s m args below meth c A QQ H locs ls hC hB hP hD hS hl)
theorem j_ldR {i : Int32} (hdg : decode cc pc = .ok (.iaload, 1)) (hn : pc + 1 = n) (hin : vp_in i 4) (k : J l Z own nm cc nL rt d MC MS Q n L (.int (jLims i.toNatClampNeg) :: S) ws kc ks) : J l Z own nm cc nL rt d MC MS Q pc L (.int i :: .ref (Z.2.1 4) :: S) ws kc ks := by
  subst hn
  intro p e R s m args below meth c A QQ H locs ls hC hB hP hD hS hl
  exact va_ti hC.1 hC.2.1 hC.2.2.2.2.2.2.2.1.2.2.2.2.1 hS hin rfl hdg (k p e R s m args below meth c A QQ H locs ls hC hB hP hD hS hl)
theorem j_sld {i : Int32} (hdg : decode cc pc = .ok (.iaload, 1)) (hn : pc + 1 = n) (hin : vp_in i (Z.2.1 6)) (k : J l Z own nm cc nL rt d MC MS Q n L (.int (Z.2.2.2.2 i.toNatClampNeg) :: S) ws kc ks) : J l Z own nm cc nL rt d MC MS Q pc L (.int i :: .ref (Z.2.1 5) :: S) ws kc ks := by
  subst hn
  intro p e R s m args below meth c A QQ H locs ls hC hB hP hD hS hl
  obtain ⟨x1, x2, x3⟩ := hC.2.2.2.2.2.2.2.1.2.2.2.2.2.2.2.2
  exact va_sld hC.1 hC.2.1 x1 x2 x3 hS hin hdg (k p e R s m args below meth c A QQ H locs ls hC hB hP hD hS hl)
theorem j_slen (hdg : decode cc pc = .ok (.arraylength, 1)) (hn : pc + 1 = n) (k : J l Z own nm cc nL rt d MC MS Q n L (.int (nI (Z.2.1 6)) :: S) ws kc ks) : J l Z own nm cc nL rt d MC MS Q pc L (.ref (Z.2.1 5) :: S) ws kc ks := by
  subst hn
  intro p e R s m args below meth c A QQ H locs ls hC hB hP hD hS hl
  obtain ⟨x1, x2, x3⟩ := hC.2.2.2.2.2.2.2.1.2.2.2.2.2.2.2.2
  exact va_slen hC.1 hC.2.1 x1 x2 x3 hS hdg (k p e R s m args below meth c A QQ H locs ls hC hB hP hD hS hl)
theorem j_ldcS {i idx : Nat} (hi : i < 15) (hix : jIdx.getD i 0 = idx) (ho : own = RX4) (hdg : decode cc pc = .ok (.ldc idx, 2)) (hn : pc + 2 = n) (k : J l Z own nm cc nL rt d MC MS Q n L (.ref (Z.2.2.1 i) :: S) ws kc ks) : J l Z own nm cc nL rt d MC MS Q pc L S ws kc ks := by
  subst hn
  subst hix
  subst ho
  intro p e R s m args below meth c A QQ H locs ls hC hB hP hD hS hl
  exact va_ldcS hC.1 hC.2.1 hC.2.2.2.1 (hC.2.2.2.2.2.2.2.2.1.2 i hi) hdg (k p e R s m args below meth c A QQ H locs ls hC hB hP hD hS hl)
/-! ===== calls ===== -/
def jM (own : String) (idx : Nat) (y : MethodName) (cc : ByteArray) (nL : Nat) (rt : Option FieldType) (na : Nat) : Prop := Cond.code y cc nL rt ∈ jT ∧ Cond.initialized y.cls ∈ jT ∧ (y.cls ≠ "java/lang/invoke/MethodHandle" ∧ y.cls ≠ "java/lang/invoke/VarHandle") ∧ (parseMethodDescriptor y.desc).map (fun d => d.parameters.length) = some na ∧ nL ≤ 17 ∧ (Cond.methodLink own idx y ∈ jT ∨ ∃ h : String, Cond.methodLinkNest own idx y h ∈ jNest)
abbrev jRm (d MC MS : Nat) : Room := { frames := d, cells := MC, slots := MS, locals := 36 * d }
abbrev jPc (Z : jZ) (av : List Value) (ws : va_W) (sz : Nat) : Array Value → State → Prop := va_Pc av (fun U => U.heap.size = sz ∧ va_P Z.1 vwCl ws U.heap ∧ va_D (fun _ => True) ws ∧ jE Z (va_A ws sz) U U.heap ∧ jN Z U)
abbrev jQc (Z : jZ) (ws : va_W) (sz : Nat) (Q : Option Value → va_W → Prop) : Array Value → State → Outcome → State → Prop := fun _ st oc t => (∃ (r : Option Value) (ws' : va_W), oc = .returned r ∧ Q r ws' ∧ va_P Z.1 vwCl ws' t.heap ∧ va_D (va_A ws sz) ws') ∧ va_F (va_A ws sz) st t
theorem jPc_blind {av : List Value} {sz : Nat} : FrameBlind (jPc Z av ws sz) := fun a U g mk h => by
  obtain ⟨h1, h2, h3, h4, h5, h6⟩ := h
  exact ⟨h1, h2, h3, h4, h5.calling g mk a, h6.calling g mk a⟩
theorem jA_sub {A : Nat → Prop} {s : State} {H : Heap} {locs : List Loc} (hD : va_D A ws) (hS : va_S A s.heap H locs) (hA : ∀ q, s.heap.size ≤ q → A q) : ∀ q, va_A ws H.size q → A q := fun q h => by
  rcases h with ⟨k, e, h⟩ | h
  · exact hD.2 k (q, e) h
  · exact hA q (Nat.le_trans hS.1 h)
theorem jPc_at {av : List Value} {A : Nat → Prop} {s U : State} {H : Heap} {locs : List Loc} (hP : va_P Z.1 vwCl ws H) (hD : va_D A ws) (hS : va_S A s.heap H locs) (hA : ∀ q, s.heap.size ≤ q → A q) (hE : jE Z A s s.heap) (hN : jN Z s) (hU : U.heap = H) (hW : s.WarmedH U.vm) : jPc Z av ws H.size av.toArray U :=
  ⟨rfl, by rw [hU], by rw [hU]; exact hP, hD.weaken (fun _ _ _ _ => trivial), hE.next hS hU hW (jA_sub hD hS hA), hN.next hW⟩
theorem j_run {p : Program} {e : Env} {R : Room} {s : State} {m : MethodId} {args : Array Value} {below : List Frame} {meth : Method} {c : Code} {A : Nat → Prop} {QQ : State → Prop} {H : Heap} {locs : List Loc} {ls : Array Slot} {MC' MS' : Nat} {av rest : List Value} {Q' : Option Value → va_W → Prop}
    (hr : va_Run p l e R s m args below meth c H locs kc ks MC' MS' (F0 m pc ls S) rest (jQc Z ws H.size Q' av.toArray) (va_A ws H.size)) (hD : va_D A ws) (hS : va_S A s.heap H locs) (hA : ∀ q, s.heap.size ≤ q → A q)
    (kk : ∀ (r : Option Value) (ws' : va_W) (H1 : Heap) (locs1 : List Loc), Q' r ws' → va_P Z.1 vwCl ws' H1 → va_D A ws' → va_S A s.heap H1 locs1 → W p l e R s m args below meth c H1 locs1 (kc + MC') (ks + MS') QQ (F0 m (pc + 3) ls (r.toList ++ rest))) : W p l e R s m args below meth c H locs kc ks QQ (F0 m pc ls S) := by
  intro T hT X
  obtain ⟨v, st₀, t, T', L, h0, X', hL, e1, e2, ⟨⟨r, ws', hv, hq, hP', hD'⟩, hz, hk⟩, st⟩ := hr T hT X
  cases hv
  rw [h0] at hz hk
  have hsub := jA_sub hD hS hA
  obtain ⟨t2, a1, b1⟩ := kk v ws' T'.heap (locs ++ L) hq (by rw [e1]; exact hP') (hD'.weaken (fun _ q _ h => hsub q.1 h))
    ⟨Nat.le_trans hS.1 (by rw [e1]; exact hz), fun q h1 h2 => by rw [e1, hk q (Nat.lt_of_lt_of_le h1 hS.1) (fun z => h2 (hsub q z))]; exact hS.2.1 q h1 h2, fun q hq => by
      rcases List.mem_append.mp hq with h | h
      · exact hS.2.2 q h
      · exact hsub _ (hL q h)⟩ T' rfl X'
  exact ⟨t2, st t2 a1, b1⟩
theorem jT_good {y : MethodName} {cc' : ByteArray} {nL' : Nat} {rt' : Option FieldType} (hc : Cond.code y cc' nL' rt' ∈ jT) : GoodIn jT (.code y cc' nL' rt' :: jT) := fun w hw => by
  have h : w ∈ jT := by
    rcases List.mem_cons.mp hw with rfl | h
    · exact hc
    · exact h
  exact ⟨h, good_of_word (List.mem_filter.mp h).2⟩
theorem j_callS {idx : Nat} {y : MethodName} {cc' : ByteArray} {nL' : Nat} {rt' : Option FieldType} {na d' MC' MS' : Nat} {As rest : List Value} {Q' : Option Value → va_W → Prop} (hM : jM own idx y cc' nL' rt' na) (hst : Cond.static y ∈ jT) (hdg : decode cc pc = .ok (.invokestatic idx, 3)) (hn : pc + 3 = n) (hCt : Ct l Z y cc' nL' rt' d' MC' MS' As ws Q')
    (hna : As.length = na) (hS0 : S = As.reverse ++ rest) (hcat : (rest.map fun v => v.category).sum ≤ 8) (hd : d' + 1 ≤ d) (hcc : kc + MC' ≤ MC ∧ ks + MS' ≤ MS) (kk : ∀ (r : Option Value) (ws' : va_W), Q' r ws' → J l Z own nm cc nL rt d MC MS Q n L (r.toList ++ rest) ws' (kc + MC') (ks + MS')) : J l Z own nm cc nL rt d MC MS Q pc L S ws kc ks := by
  subst hn
  obtain ⟨hc, hi, hy, hdl, hnl, hlk⟩ := hM
  intro p e R s m args below meth c A QQ H locs ls hC hB hP hD hS hl
  have go := fun (r : Option Value) (ws' : va_W) (H1 : Heap) (locs1 : List Loc) (x0 : Q' r ws') (x1 : va_P Z.1 vwCl ws' H1) (x2 : va_D A ws') (x3 : va_S A s.heap H1 locs1) => kk r ws' x0 p e R s m args below meth c A QQ H1 locs1 ls hC hB x1 x2 x3 hl
  obtain ⟨hx, hb, hml, hown, hts, hR, hA, hE, hN, hnm'⟩ := hC
  obtain ⟨hR1, hR2, hR3, hR4⟩ := hR
  have hpre : PreS s H (jPc Z As ws H.size) As := ⟨jPc_blind, fun U hU hW => jPc_at hP hD hS hA hE hN hU hW⟩
  have hroom : (jRm d' MC' MS').frames + 1 ≤ R.frames ∧ 8 + (nL' + 11) + (jRm d' MC' MS').locals ≤ R.locals := ⟨Nat.le_trans hd hR1, by show 8 + (nL' + 11) + 36 * d' ≤ R.locals; omega⟩
  have hcc' : kc + MC' ≤ R.cells ∧ ks + MS' ≤ R.slots := ⟨Nat.le_trans hcc.1 hR3, Nat.le_trans hcc.2 hR4⟩
  refine j_run (av := As) (rest := rest) (Q' := Q') ?_ hD hS hA go
  rcases hlk with hlk | ⟨h, hlk⟩
  · exact va_runS (Ts := jT) ⟨hx, hb, hml, hown, hts⟩ (hCt H.size) ⟨callB_of na hts (jT_good hc) rfl rfl rfl (hts _ hi) (hts _ hlk) ⟨hy.1, hy.2, hdl⟩ hroom, hts _ hst⟩ hpre rfl hna hl.1 hS0 (lv_room (m := m) (pc := pc) (ls := ls) (rest := S) hcat) hdg hcc'
  · exact va_runSN (Ts := jT) ⟨hx, hb, hml, hown, hts⟩ (hCt H.size) ⟨va_cnB na hts (jT_good hc) rfl rfl rfl (hN.1 _ hlk) (hts _ hi) ⟨hy.1, hy.2, hdl⟩ hroom, hts _ hst, trivial⟩ hpre rfl hna hl.1 hS0 (lv_room (m := m) (pc := pc) (ls := ls) (rest := S) hcat) hdg hcc'
/-- the receiver: an object of the class -/
def jRecv (Z : jZ) (ws : va_W) (b : Nat) (C : String) : Prop := ∀ (s : State) (H : Heap) (locs : List Loc) (A : Nat → Prop), jE Z A s s.heap → va_P Z.1 vwCl ws H → va_S A s.heap H locs → ∃ cell : Cell, H[b]? = some cell ∧ cell.vm.isStatics = false ∧ s.vm.findClass C = some cell.cls
theorem jRecv_obj {b p0 ci : Nat} {C : String} {r : vw_C} {fs : List Value} (he : ws[p0]? = some (b, .inr (ci, fs))) (hc : vwCl[ci]? = some r) (hC : r.1 = C) : jRecv Z ws b C := fun s H locs A hE hP hS => by subst hC; exact va_recv hE.1 hP hc he
theorem jRecv_str {i : Nat} (hi : i < 15) : jRecv Z ws (Z.2.2.1 i) "java/lang/String" := fun s H locs A hE hP hS => vk_recv hE.2.2.2.2.2.2.2.1 hi hS
theorem j_callV {idx : Nat} {y : MethodName} {cc' : ByteArray} {nL' : Nat} {rt' : Option FieldType} {na d' MC' MS' b : Nat} {As rest : List Value} {Q' : Option Value → va_W → Prop} (hM : jM own idx y cc' nL' rt' na) (hin : Cond.instanceMethod y ∈ jT) (hse : Cond.selects y.cls y y ∈ jT) (hdg : decode cc pc = .ok (.invokevirtual idx, 3)) (hn : pc + 3 = n) (hCt : Ct l Z y cc' nL' rt' d' MC' MS' (.ref b :: As) ws Q') (hrv : jRecv Z ws b y.cls)
    (hna : As.length = na) (hS0 : S = As.reverse ++ .ref b :: rest) (hcat : (rest.map fun v => v.category).sum ≤ 8) (hd : d' + 1 ≤ d) (hcc : kc + MC' ≤ MC ∧ ks + MS' ≤ MS) (kk : ∀ (r : Option Value) (ws' : va_W), Q' r ws' → J l Z own nm cc nL rt d MC MS Q n L (r.toList ++ rest) ws' (kc + MC') (ks + MS')) : J l Z own nm cc nL rt d MC MS Q pc L S ws kc ks := by
  subst hn
  obtain ⟨hc, hi, hy, hdl, hnl, hlk⟩ := hM
  intro p e R s m args below meth c A QQ H locs ls hC hB hP hD hS hl
  have go := fun (r : Option Value) (ws' : va_W) (H1 : Heap) (locs1 : List Loc) (x0 : Q' r ws') (x1 : va_P Z.1 vwCl ws' H1) (x2 : va_D A ws') (x3 : va_S A s.heap H1 locs1) => kk r ws' x0 p e R s m args below meth c A QQ H1 locs1 ls hC hB x1 x2 x3 hl
  obtain ⟨hx, hb, hml, hown, hts, hR, hA, hE, hN, hnm'⟩ := hC
  obtain ⟨hR1, hR2, hR3, hR4⟩ := hR
  have hpre : PreV s H y.cls b (jPc Z (.ref b :: As) ws H.size) As := ⟨jPc_blind, hrv s H locs A hE hP hS, fun U hU hW => jPc_at hP hD hS hA hE hN hU hW⟩
  have hroom : (jRm d' MC' MS').frames + 1 ≤ R.frames ∧ 8 + (nL' + 11) + (jRm d' MC' MS').locals ≤ R.locals := ⟨Nat.le_trans hd hR1, by show 8 + (nL' + 11) + 36 * d' ≤ R.locals; omega⟩
  have hcc' : kc + MC' ≤ R.cells ∧ ks + MS' ≤ R.slots := ⟨Nat.le_trans hcc.1 hR3, Nat.le_trans hcc.2 hR4⟩
  refine j_run (av := .ref b :: As) (rest := rest) (Q' := Q') ?_ hD hS hA go
  rcases hlk with hlk | ⟨h, hlk⟩
  · exact va_runV (Ts := jT) ⟨hx, hb, hml, hown, hts⟩ (hCt H.size) ⟨callB_of na hts (jT_good hc) rfl rfl rfl (hts _ hi) (hts _ hlk) ⟨hy.1, hy.2, hdl⟩ hroom, hts _ hin, hts _ hse⟩ hpre rfl hna hl.1 hS0 (lv_room (m := m) (pc := pc) (ls := ls) (rest := S) hcat) hdg hcc'
  · exact va_runVN (Ts := jT) ⟨hx, hb, hml, hown, hts⟩ (hCt H.size) ⟨va_cnB na hts (jT_good hc) rfl rfl rfl (hN.1 _ hlk) (hts _ hi) ⟨hy.1, hy.2, hdl⟩ hroom, hts _ hin, hts _ hse⟩ hpre rfl hna hl.1 hS0 (lv_room (m := m) (pc := pc) (ls := ls) (rest := S) hcat) hdg hcc'
theorem j_callI {idx : Nat} {y : MethodName} {cc' : ByteArray} {nL' : Nat} {na d' MC' MS' b : Nat} {As rest : List Value} {Q' : Option Value → va_W → Prop} (hM : jM own idx y cc' nL' none na) (hin : Cond.instanceMethod y ∈ jT) (hy1 : y.name = "<init>") (hdg : decode cc pc = .ok (.invokespecial idx, 3)) (hn : pc + 3 = n) (hCt : Ct l Z y cc' nL' none d' MC' MS' (.ref b :: As) ws Q')
    (hna : As.length = na) (hS0 : S = As.reverse ++ .ref b :: rest) (hcat : (rest.map fun v => v.category).sum ≤ 8) (hd : d' + 1 ≤ d) (hcc : kc + MC' ≤ MC ∧ ks + MS' ≤ MS) (kk : ∀ (r : Option Value) (ws' : va_W), Q' r ws' → J l Z own nm cc nL rt d MC MS Q n L (r.toList ++ rest) ws' (kc + MC') (ks + MS')) : J l Z own nm cc nL rt d MC MS Q pc L S ws kc ks := by
  subst hn
  obtain ⟨hc, hi, hy, hdl, hnl, hlk⟩ := hM
  intro p e R s m args below meth c A QQ H locs ls hC hB hP hD hS hl
  have go := fun (r : Option Value) (ws' : va_W) (H1 : Heap) (locs1 : List Loc) (x0 : Q' r ws') (x1 : va_P Z.1 vwCl ws' H1) (x2 : va_D A ws') (x3 : va_S A s.heap H1 locs1) => kk r ws' x0 p e R s m args below meth c A QQ H1 locs1 ls hC hB x1 x2 x3 hl
  obtain ⟨hx, hb, hml, hown, hts, hR, hA, hE, hN, hnm'⟩ := hC
  obtain ⟨hR1, hR2, hR3, hR4⟩ := hR
  have hpre : PreS s H (jPc Z (.ref b :: As) ws H.size) (.ref b :: As) := ⟨jPc_blind, fun U hU hW => jPc_at hP hD hS hA hE hN hU hW⟩
  have hroom : (jRm d' MC' MS').frames + 1 ≤ R.frames ∧ 8 + (nL' + 11) + (jRm d' MC' MS').locals ≤ R.locals := ⟨Nat.le_trans hd hR1, by show 8 + (nL' + 11) + 36 * d' ≤ R.locals; omega⟩
  have hcc' : kc + MC' ≤ R.cells ∧ ks + MS' ≤ R.slots := ⟨Nat.le_trans hcc.1 hR3, Nat.le_trans hcc.2 hR4⟩
  refine j_run (av := .ref b :: As) (rest := rest) (Q' := Q') ?_ hD hS hA go
  rcases hlk with hlk | ⟨h, hlk⟩
  · exact va_runI (Ts := jT) ⟨hx, hb, hml, hown, hts⟩ (hCt H.size) ⟨callB_of na hts (jT_good hc) rfl rfl rfl (hts _ hi) (hts _ hlk) ⟨hy.1, hy.2, hdl⟩ hroom, hy1, hts _ hin⟩ hpre rfl hna hl.1 hS0 (lv_room (m := m) (pc := pc) (ls := ls) (rest := S) hcat) hdg hcc'
  · exact va_runIN (Ts := jT) ⟨hx, hb, hml, hown, hts⟩ (hCt H.size) ⟨va_cnB na hts (jT_good hc) rfl rfl rfl (hN.1 _ hlk) (hts _ hi) ⟨hy.1, hy.2, hdl⟩ hroom, hy1, hts _ hin⟩ hpre rfl hna hl.1 hS0 (lv_room (m := m) (pc := pc) (ls := ls) (rest := S) hcat) hdg hcc'
/-- Object() -/
theorem j_obj {idx a : Nat} (hw : Cond.methodLink own idx objectInit ∈ jT) (hw2 : Cond.instanceMethod objectInit ∈ jT) (hw3 : Cond.code objectInit ⟨#[0xb1]⟩ 1 none ∈ jT) (hdg : decode cc pc = .ok (.invokespecial idx, 3)) (hn : pc + 3 = n) (hd : 1 ≤ d) (hcat : (S.map fun v => v.category).sum ≤ 8) (k : J l Z own nm cc nL rt d MC MS Q n L S ws kc ks) : J l Z own nm cc nL rt d MC MS Q pc L (.ref a :: S) ws kc ks := by
  subst hn
  intro p e R s m args below meth c A QQ H locs ls hC hB hP hD hS hl
  have go := k p e R s m args below meth c A QQ H locs ls hC hB hP hD hS hl
  obtain ⟨hx, hb, hml, hown, hts, hR, hA, hE, hN, hnm'⟩ := hC
  obtain ⟨hR1, hR2, hR3, hR4⟩ := hR
  exact W.objInit hx hb hown (hts _ hw) (hts _ hw2) (hts _ hw3) rfl (by rw [hml]; exact hl.1) rfl hdg (Nat.le_trans hd hR1) (by show 2 * 0 + _ + 12 ≤ _; omega) go
theorem j_min {idx : Nat} {x y : Int32} (hw : Cond.methodLink own idx Lib.Math.min.name ∈ jT) (hw2 : Cond.static Lib.Math.min.name ∈ jT) (hw3 : Cond.initialized "java/lang/Math" ∈ jT) (hw4 : Cond.code Lib.Math.min.name Lib.Math.min.code 2 (some .int) ∈ jT) (hdg : decode cc pc = .ok (.invokestatic idx, 3)) (hn : pc + 3 = n) (hd : 1 ≤ d) (hcat : (S.map fun v => v.category).sum ≤ 8) (hc : kc ≤ MC ∧ ks ≤ MS)
    (k : J l Z own nm cc nL rt d MC MS Q n L (.int (if y < x then y else x) :: S) ws kc ks) : J l Z own nm cc nL rt d MC MS Q pc L (.int y :: .int x :: S) ws kc ks := by
  subst hn
  intro p e R s m args below meth c A QQ H locs ls hC hB hP hD hS hl
  have go := k p e R s m args below meth c A QQ H locs ls hC hB hP hD hS hl
  obtain ⟨hx, hb, hml, hown, hts, hR, hA, hE, hN, hnm'⟩ := hC
  obtain ⟨hR1, hR2, hR3, hR4⟩ := hR
  exact va_mmin hx hb (by rw [hml]; exact hl.1.symm) hown (hts _ hw) (hts _ hw2) (hts _ hw3) (hts _ hw4) (Nat.le_trans hd hR1) (by omega) (Nat.le_trans hc.1 hR3) (Nat.le_trans hc.2 hR4) hdg go
theorem j_max {idx : Nat} {x y : Int32} (hw : Cond.methodLink own idx Lib.Math.max.name ∈ jT) (hw2 : Cond.static Lib.Math.max.name ∈ jT) (hw3 : Cond.initialized "java/lang/Math" ∈ jT) (hw4 : Cond.code Lib.Math.max.name Lib.Math.max.code 2 (some .int) ∈ jT) (hdg : decode cc pc = .ok (.invokestatic idx, 3)) (hn : pc + 3 = n) (hd : 1 ≤ d) (hcat : (S.map fun v => v.category).sum ≤ 8) (hc : kc ≤ MC ∧ ks ≤ MS)
    (k : J l Z own nm cc nL rt d MC MS Q n L (.int (if x < y then y else x) :: S) ws kc ks) : J l Z own nm cc nL rt d MC MS Q pc L (.int y :: .int x :: S) ws kc ks := by
  subst hn
  intro p e R s m args below meth c A QQ H locs ls hC hB hP hD hS hl
  have go := k p e R s m args below meth c A QQ H locs ls hC hB hP hD hS hl
  obtain ⟨hx, hb, hml, hown, hts, hR, hA, hE, hN, hnm'⟩ := hC
  obtain ⟨hR1, hR2, hR3, hR4⟩ := hR
  exact va_mmax hx hb (by rw [hml]; exact hl.1.symm) hown (hts _ hw) (hts _ hw2) (hts _ hw3) (hts _ hw4) (Nat.le_trans hd hR1) (by omega) (Nat.le_trans hc.1 hR3) (Nat.le_trans hc.2 hR4) hdg go
theorem j_copyi {idx q0 q1 a0 a1 n0 n1 : Nat} {f g : Nat → Int32} {sp dp z : Int32} (hw : Cond.methodLink own idx arraycopyName ∈ jT) (hw1 : Cond.native arraycopyName ∈ jT) (hw2 : Cond.static arraycopyName ∈ jT) (hw3 : Cond.initialized "java/lang/System" ∈ jT) (hdg : decode cc pc = .ok (.invokestatic idx, 3)) (hn : pc + 3 = n) (he0 : ws[q0]? = some (a0, .inl (Z.2.1 0, n0, .inl f))) (he1 : ws[q1]? = some (a1, .inl (Z.2.1 0, n1, .inl g)))
    (h1 : ¬ sp < 0) (h2 : ¬ dp < 0) (h3 : ¬ z < 0) (h4 : sp.toNatClampNeg + z.toNatClampNeg ≤ n0) (h5 : dp.toNatClampNeg + z.toNatClampNeg ≤ n1) (hd : 1 ≤ d) (hcat : (S.map fun v => v.category).sum ≤ 8)
    (k : J l Z own nm cc nL rt d MC MS Q n L S (ws.set q1 (a1, .inl (Z.2.1 0, n1, .inl (va_cpy f g sp.toNatClampNeg dp.toNatClampNeg z.toNatClampNeg)))) kc ks) : J l Z own nm cc nL rt d MC MS Q pc L (.int z :: .int dp :: .ref a1 :: .int sp :: .ref a0 :: S) ws kc ks := by
  subst hn
  intro p e R s m args below meth c A QQ H locs ls hC hB hP hD hS hl
  have go := fun (H1 : Heap) (locs1 : List Loc) (x1 : va_P Z.1 vwCl _ H1) (x2 : va_D A _) (x3 : va_S A s.heap H1 locs1) => k p e R s m args below meth c A QQ H1 locs1 ls hC hB x1 x2 x3 hl
  obtain ⟨hx, hb, hml, hown, hts, hR, hA, hE, hN, hnm'⟩ := hC
  obtain ⟨hR1, hR2, hR3, hR4⟩ := hR
  have h9 : nativeFrameWords "java/lang/System" "arraycopy" 5 + 11 ≤ 28 := by decide +kernel
  have hroomC : (S.map fun v => v.category).sum + (nativeFrameWords "java/lang/System" "arraycopy" 5 + 11) ≤ R.locals := by omega
  exact va_copyi hx hb (by rw [hml]; exact hl.1.symm) hown (hts _ hw) (hts _ hw1) (hts _ hw2) (hts _ hw3) hE.1 hP hD hS q0 q1 0 0 he0 he1 rfl rfl rfl h1 h2 h3 h4 h5 (fun _ _ => rfl) (Nat.le_trans hd hR1) hroomC hdg go
theorem j_copyl {idx q0 q1 a0 a1 n0 n1 : Nat} {f g : Nat → Int64} {sp dp z : Int32} (hw : Cond.methodLink own idx arraycopyName ∈ jT) (hw1 : Cond.native arraycopyName ∈ jT) (hw2 : Cond.static arraycopyName ∈ jT) (hw3 : Cond.initialized "java/lang/System" ∈ jT) (hdg : decode cc pc = .ok (.invokestatic idx, 3)) (hn : pc + 3 = n) (he0 : ws[q0]? = some (a0, .inl (Z.2.1 1, n0, .inr (.inl f)))) (he1 : ws[q1]? = some (a1, .inl (Z.2.1 1, n1, .inr (.inl g))))
    (h1 : ¬ sp < 0) (h2 : ¬ dp < 0) (h3 : ¬ z < 0) (h4 : sp.toNatClampNeg + z.toNatClampNeg ≤ n0) (h5 : dp.toNatClampNeg + z.toNatClampNeg ≤ n1) (hd : 1 ≤ d) (hcat : (S.map fun v => v.category).sum ≤ 8)
    (k : J l Z own nm cc nL rt d MC MS Q n L S (ws.set q1 (a1, .inl (Z.2.1 1, n1, .inr (.inl (va_cpy f g sp.toNatClampNeg dp.toNatClampNeg z.toNatClampNeg))))) kc ks) : J l Z own nm cc nL rt d MC MS Q pc L (.int z :: .int dp :: .ref a1 :: .int sp :: .ref a0 :: S) ws kc ks := by
  subst hn
  intro p e R s m args below meth c A QQ H locs ls hC hB hP hD hS hl
  have go := fun (H1 : Heap) (locs1 : List Loc) (x1 : va_P Z.1 vwCl _ H1) (x2 : va_D A _) (x3 : va_S A s.heap H1 locs1) => k p e R s m args below meth c A QQ H1 locs1 ls hC hB x1 x2 x3 hl
  obtain ⟨hx, hb, hml, hown, hts, hR, hA, hE, hN, hnm'⟩ := hC
  obtain ⟨hR1, hR2, hR3, hR4⟩ := hR
  have h9 : nativeFrameWords "java/lang/System" "arraycopy" 5 + 11 ≤ 28 := by decide +kernel
  have hroomC : (S.map fun v => v.category).sum + (nativeFrameWords "java/lang/System" "arraycopy" 5 + 11) ≤ R.locals := by omega
  exact va_copyl hx hb (by rw [hml]; exact hl.1.symm) hown (hts _ hw) (hts _ hw1) (hts _ hw2) (hts _ hw3) hE.1 hP hD hS q0 q1 1 1 he0 he1 rfl rfl rfl h1 h2 h3 h4 h5 (fun _ _ => rfl) (Nat.le_trans hd hR1) hroomC hdg go
end JM
/-! ===== worlds as memories ===== -/
/-- V.1 j k: the int at place k of cell j (a field or an element), V.2 j k the long -/
abbrev jMem : Type := (Nat → Nat → Int32) × (Nat → Nat → Int64)
/-- a cell: an object (its class, its fields: 0 an int, 1 a long, 2 null, r + 3 the cell r); or a row (0 of ints, 1 of longs, b + 2 of the cells b, b + 2, b + 4 ..) and its length -/
abbrev jD : Type := (Nat × List Nat) ⊕ (Nat × Nat)
def jval (q : Nat → Nat) (V : jMem) (j k : Nat) : Nat → Value
  | 0 => .int (V.1 j k)
  | 1 => .long (V.2 j k)
  | 2 => .null
  | r + 3 => .ref (q r)
def jfl (q : Nat → Nat) (V : jMem) (j : Nat) : Nat → List Nat → List Value
  | _, [] => []
  | k, f :: r => jval q V j k f :: jfl q V j (k + 1) r
def jrow (Z : jZ) (q : Nat → Nat) (V : jMem) (j n : Nat) : Nat → va_E
  | 0 => .inl (Z.2.1 0, n, .inl (V.1 j))
  | 1 => .inl (Z.2.1 1, n, .inr (.inl (V.2 j)))
  | b + 2 => .inl (Z.2.1 2, n, .inr (.inr (.inr (.inr (fun i => some (q (b + 2 * i)))))))
def jcell (Z : jZ) (q : Nat → Nat) (V : jMem) (j : Nat) : jD → va_E
  | .inl o => .inr (o.1, jfl q V j 0 o.2)
  | .inr a => jrow Z q V j a.2 a.1
def jwF (Z : jZ) (q : Nat → Nat) (V : jMem) : Nat → List jD → va_W
  | _, [] => []
  | j, c :: r => (q j, jcell Z q V j c) :: jwF Z q V (j + 1) r
def jw (Z : jZ) (q : Nat → Nat) (V : jMem) (ds : List jD) : va_W := jwF Z q V 0 ds
theorem jfl_at (q : Nat → Nat) (V : jMem) (j : Nat) : ∀ (fs : List Nat) (k i : Nat), (jfl q V j k fs)[i]? = (fs[i]?).map (jval q V j (k + i))
  | [], k, i => by simp [jfl]
  | f :: r, k, 0 => by simp [jfl]
  | f :: r, k, i + 1 => by
    have h := jfl_at q V j r (k + 1) i
    simp only [jfl, List.getElem?_cons_succ, h]
    rw [show k + 1 + i = k + (i + 1) by omega]
theorem jfl_len (q : Nat → Nat) (V : jMem) (j : Nat) : ∀ (fs : List Nat) (k : Nat), (jfl q V j k fs).length = fs.length
  | [], k => rfl
  | f :: r, k => by simp [jfl, jfl_len q V j r (k + 1)]
theorem jwF_at (Z : jZ) (q : Nat → Nat) (V : jMem) : ∀ (ds : List jD) (j i : Nat), (jwF Z q V j ds)[i]? = (ds[i]?).map (fun c => (q (j + i), jcell Z q V (j + i) c))
  | [], j, i => by simp [jwF]
  | c :: r, j, 0 => by simp [jwF]
  | c :: r, j, i + 1 => by
    have h := jwF_at Z q V r (j + 1) i
    simp only [jwF, List.getElem?_cons_succ, h]
    rw [show j + 1 + i = j + (i + 1) by omega]
theorem jw_at {Z : jZ} {q : Nat → Nat} {V : jMem} {ds : List jD} {i : Nat} {c : jD} (h : ds[i]? = some c) : (jw Z q V ds)[i]? = some (q i, jcell Z q V i c) := by
  unfold jw
  rw [jwF_at, h]
  simp
/-- one int, one long, a whole row is written -/
def jsI (V : jMem) (j k : Nat) (x : Int32) : jMem := (fun a => if a = j then upd (V.1 j) k x else V.1 a, V.2)
def jsL (V : jMem) (j k : Nat) (x : Int64) : jMem := (V.1, fun a => if a = j then vp_updL (V.2 j) k x else V.2 a)
def jsA (V : jMem) (j : Nat) (f : Nat → Int32) : jMem := (fun a => if a = j then f else V.1 a, V.2)
def jsB (V : jMem) (j : Nat) (f : Nat → Int64) : jMem := (V.1, fun a => if a = j then f else V.2 a)
theorem jcell_off {Z : jZ} {q : Nat → Nat} {V V' : jMem} {j : Nat} (h1 : V'.1 j = V.1 j) (h2 : V'.2 j = V.2 j) (c : jD) : jcell Z q V' j c = jcell Z q V j c := by
  have hv : ∀ k f, jval q V' j k f = jval q V j k f := by
    intro k f
    match f with
    | 0 => simp [jval, h1]
    | 1 => simp [jval, h2]
    | 2 => rfl
    | r + 3 => rfl
  have hf : ∀ (fs : List Nat) (k : Nat), jfl q V' j k fs = jfl q V j k fs := by
    intro fs
    induction fs with
    | nil => intro k; rfl
    | cons f r ih => intro k; simp [jfl, hv, ih]
  match c with
  | .inl o => simp [jcell, hf]
  | .inr (0, n) => simp [jcell, jrow, h1]
  | .inr (1, n) => simp [jcell, jrow, h2]
  | .inr (b + 2, n) => rfl
theorem jw_set {Z : jZ} {q : Nat → Nat} {V V' : jMem} {ds : List jD} {j : Nat} {c : jD} {e : va_E} (h : ds[j]? = some c) (h1 : ∀ a, a ≠ j → V'.1 a = V.1 a) (h2 : ∀ a, a ≠ j → V'.2 a = V.2 a) (he : e = jcell Z q V' j c) : (jw Z q V ds).set j (q j, e) = jw Z q V' ds := by
  subst he
  apply List.ext_getElem?
  intro i
  have hlen : (jw Z q V ds).length = ds.length := by
    have key : ∀ (ds : List jD) (j : Nat), (jwF Z q V j ds).length = ds.length := by
      intro ds
      induction ds with
      | nil => intro j; rfl
      | cons c r ih => intro j; simp [jwF, ih]
    exact key ds 0
  have hj : j < ds.length := (List.getElem?_eq_some_iff.mp h).1
  rw [List.getElem?_set]
  by_cases hij : j = i
  · subst hij
    rw [if_pos rfl, if_pos (by rw [hlen]; exact hj), jw_at h]
  · rw [if_neg hij]
    cases hi : ds[i]? with
    | none =>
      unfold jw
      rw [jwF_at, jwF_at, hi]
      rfl
    | some c' => rw [jw_at hi, jw_at hi, jcell_off (h1 i (fun z => hij z.symm)) (h2 i (fun z => hij z.symm))]
theorem jfl_set {q : Nat → Nat} {V V' : jMem} {j k : Nat} {fs : List Nat} {v : Value} {f : Nat} (hf : fs[k]? = some f) (hv : v = jval q V' j k f) (h : ∀ i g, i ≠ k → jval q V' j i g = jval q V j i g) : (jfl q V j 0 fs).set k v = jfl q V' j 0 fs := by
  apply List.ext_getElem?
  intro i
  have hk : k < fs.length := (List.getElem?_eq_some_iff.mp hf).1
  rw [List.getElem?_set]
  by_cases hik : k = i
  · subst hik
    rw [if_pos rfl, if_pos (by rw [jfl_len]; exact hk), jfl_at, hf, hv]
    simp
  · rw [if_neg hik, jfl_at, jfl_at]
    cases hi : fs[i]? with
    | none => rfl
    | some g => simp [h i g (fun z => hik z.symm)]
section JW
variable {l : Launch} {Z : jZ} {own nm : String} {cc : ByteArray} {nL : Nat} {rt : Option FieldType} {d MC MS : Nat} {Q : Option Value → va_W → Prop} {pc n : Nat} {L : List (Nat × Value)} {S : List Value} {q : Nat → Nat} {V : jMem} {ds : List jD} {kc ks : Nat}
theorem m_geti {idx ci k j : Nat} {ty : FieldType} {fin : Bool} {fs : List Nat} (hF : jF own idx ci k ty fin) (hdg : decode cc pc = .ok (.getfield idx, 3)) (hn : pc + 3 = n) (hd : ds[j]? = some (.inl (ci, fs))) (hf : fs[k]? = some 0) (kk : J l Z own nm cc nL rt d MC MS Q n L (.int (V.1 j k) :: S) (jw Z q V ds) kc ks) : J l Z own nm cc nL rt d MC MS Q pc L (.ref (q j) :: S) (jw Z q V ds) kc ks :=
  j_get hF hdg hn (jw_at hd) (v := .int (V.1 j k)) (by rw [jfl_at, hf]; simp [jval]) kk
theorem m_getl {idx ci k j : Nat} {ty : FieldType} {fin : Bool} {fs : List Nat} (hF : jF own idx ci k ty fin) (hdg : decode cc pc = .ok (.getfield idx, 3)) (hn : pc + 3 = n) (hd : ds[j]? = some (.inl (ci, fs))) (hf : fs[k]? = some 1) (kk : J l Z own nm cc nL rt d MC MS Q n L (.long (V.2 j k) :: S) (jw Z q V ds) kc ks) : J l Z own nm cc nL rt d MC MS Q pc L (.ref (q j) :: S) (jw Z q V ds) kc ks :=
  j_get hF hdg hn (jw_at hd) (v := .long (V.2 j k)) (by rw [jfl_at, hf]; simp [jval]) kk
theorem m_getr {idx ci k j r : Nat} {ty : FieldType} {fin : Bool} {fs : List Nat} (hF : jF own idx ci k ty fin) (hdg : decode cc pc = .ok (.getfield idx, 3)) (hn : pc + 3 = n) (hd : ds[j]? = some (.inl (ci, fs))) (hf : fs[k]? = some (r + 3)) (kk : J l Z own nm cc nL rt d MC MS Q n L (.ref (q r) :: S) (jw Z q V ds) kc ks) : J l Z own nm cc nL rt d MC MS Q pc L (.ref (q j) :: S) (jw Z q V ds) kc ks :=
  j_get hF hdg hn (jw_at hd) (v := .ref (q r)) (by rw [jfl_at, hf]; simp [jval]) kk
theorem jsI_cell {j k ci : Nat} {x : Int32} {fs : List Nat} (hf : fs[k]? = some 0) : (.inr (ci, (jfl q V j 0 fs).set k (.int x)) : va_E) = jcell Z q (jsI V j k x) j (.inl (ci, fs)) := by
  show (.inr (ci, (jfl q V j 0 fs).set k (.int x)) : va_E) = .inr (ci, jfl q (jsI V j k x) j 0 fs)
  rw [jfl_set hf (V' := jsI V j k x) (by simp [jval, jsI, upd]) (fun i g hi => by
    match g with
    | 0 => simp [jval, jsI, upd, hi]
    | 1 => rfl
    | 2 => rfl
    | r + 3 => rfl)]
theorem jsL_cell {j k ci : Nat} {x : Int64} {fs : List Nat} (hf : fs[k]? = some 1) : (.inr (ci, (jfl q V j 0 fs).set k (.long x)) : va_E) = jcell Z q (jsL V j k x) j (.inl (ci, fs)) := by
  show (.inr (ci, (jfl q V j 0 fs).set k (.long x)) : va_E) = .inr (ci, jfl q (jsL V j k x) j 0 fs)
  rw [jfl_set hf (V' := jsL V j k x) (by simp [jval, jsL, vp_updL]) (fun i g hi => by
    match g with
    | 0 => rfl
    | 1 => simp [jval, jsL, vp_updL, hi]
    | 2 => rfl
    | r + 3 => rfl)]
theorem m_puti {idx ci k j : Nat} {fs : List Nat} {x : Int32} (hF : jF own idx ci k .int false) (hdg : decode cc pc = .ok (.putfield idx, 3)) (hn : pc + 3 = n) (hd : ds[j]? = some (.inl (ci, fs))) (hf : fs[k]? = some 0) (kk : J l Z own nm cc nL rt d MC MS Q n L S (jw Z q (jsI V j k x) ds) kc ks) : J l Z own nm cc nL rt d MC MS Q pc L (.int x :: .ref (q j) :: S) (jw Z q V ds) kc ks := by
  refine j_put hF hdg hn (jw_at hd) (by rw [jfl_len]; exact (List.getElem?_eq_some_iff.mp hf).1) rfl rfl ?_
  rw [jw_set (Z := Z) (q := q) (V := V) (V' := jsI V j k x) hd (fun a ha => by simp [jsI, ha]) (fun a ha => rfl) (jsI_cell hf)]
  exact kk
theorem m_putz {idx ci k j : Nat} {fs : List Nat} {x : Int32} (hF : jF own idx ci k .boolean false) (hdg : decode cc pc = .ok (.putfield idx, 3)) (hn : pc + 3 = n) (hd : ds[j]? = some (.inl (ci, fs))) (hf : fs[k]? = some 0) (hx : x = 0 ∨ x = 1) (kk : J l Z own nm cc nL rt d MC MS Q n L S (jw Z q (jsI V j k x) ds) kc ks) : J l Z own nm cc nL rt d MC MS Q pc L (.int x :: .ref (q j) :: S) (jw Z q V ds) kc ks := by
  refine j_put hF hdg hn (jw_at hd) (by rw [jfl_len]; exact (List.getElem?_eq_some_iff.mp hf).1) (by rcases hx with rfl | rfl <;> rfl) (by rcases hx with rfl | rfl <;> rfl) ?_
  rw [jw_set (Z := Z) (q := q) (V := V) (V' := jsI V j k x) hd (fun a ha => by simp [jsI, ha]) (fun a ha => rfl) (jsI_cell hf)]
  exact kk
theorem m_putl {idx ci k j : Nat} {fs : List Nat} {x : Int64} (hF : jF own idx ci k .long false) (hdg : decode cc pc = .ok (.putfield idx, 3)) (hn : pc + 3 = n) (hd : ds[j]? = some (.inl (ci, fs))) (hf : fs[k]? = some 1) (kk : J l Z own nm cc nL rt d MC MS Q n L S (jw Z q (jsL V j k x) ds) kc ks) : J l Z own nm cc nL rt d MC MS Q pc L (.long x :: .ref (q j) :: S) (jw Z q V ds) kc ks := by
  refine j_put hF hdg hn (jw_at hd) (by rw [jfl_len]; exact (List.getElem?_eq_some_iff.mp hf).1) rfl rfl ?_
  rw [jw_set (Z := Z) (q := q) (V := V) (V' := jsL V j k x) hd (fun a ha => rfl) (fun a ha => by simp [jsL, ha]) (jsL_cell hf)]
  exact kk
theorem m_iald {j N : Nat} {i : Int32} (hdg : decode cc pc = .ok (.iaload, 1)) (hn : pc + 1 = n) (hd : ds[j]? = some (.inr (0, N))) (hin : vp_in i N) (k : J l Z own nm cc nL rt d MC MS Q n L (.int (V.1 j i.toNatClampNeg) :: S) (jw Z q V ds) kc ks) : J l Z own nm cc nL rt d MC MS Q pc L (.int i :: .ref (q j) :: S) (jw Z q V ds) kc ks := j_iald hdg hn (jw_at hd) hin k
theorem m_lald {j N : Nat} {i : Int32} (hdg : decode cc pc = .ok (.laload, 1)) (hn : pc + 1 = n) (hd : ds[j]? = some (.inr (1, N))) (hin : vp_in i N) (k : J l Z own nm cc nL rt d MC MS Q n L (.long (V.2 j i.toNatClampNeg) :: S) (jw Z q V ds) kc ks) : J l Z own nm cc nL rt d MC MS Q pc L (.int i :: .ref (q j) :: S) (jw Z q V ds) kc ks := j_lald hdg hn (jw_at hd) hin k
theorem m_aald {j b N : Nat} {i : Int32} (hdg : decode cc pc = .ok (.aaload, 1)) (hn : pc + 1 = n) (hd : ds[j]? = some (.inr (b + 2, N))) (hin : vp_in i N) (k : J l Z own nm cc nL rt d MC MS Q n L (.ref (q (b + 2 * i.toNatClampNeg)) :: S) (jw Z q V ds) kc ks) : J l Z own nm cc nL rt d MC MS Q pc L (.int i :: .ref (q j) :: S) (jw Z q V ds) kc ks := j_aald (f := fun i => some (q (b + 2 * i))) hdg hn (jw_at hd) hin k
theorem m_iast {j N : Nat} {i x : Int32} (hdg : decode cc pc = .ok (.iastore, 1)) (hn : pc + 1 = n) (hd : ds[j]? = some (.inr (0, N))) (hin : vp_in i N) (k : J l Z own nm cc nL rt d MC MS Q n L S (jw Z q (jsI V j i.toNatClampNeg x) ds) kc ks) : J l Z own nm cc nL rt d MC MS Q pc L (.int x :: .int i :: .ref (q j) :: S) (jw Z q V ds) kc ks := by
  refine j_iast hdg hn (jw_at hd) hin ?_
  rw [jw_set (Z := Z) (q := q) (V := V) (V' := jsI V j i.toNatClampNeg x) hd (fun a ha => by simp [jsI, ha]) (fun a ha => rfl) (by simp [jcell, jrow, jsI])]
  exact k
theorem m_last {j N : Nat} {i : Int32} {x : Int64} (hdg : decode cc pc = .ok (.lastore, 1)) (hn : pc + 1 = n) (hd : ds[j]? = some (.inr (1, N))) (hin : vp_in i N) (k : J l Z own nm cc nL rt d MC MS Q n L S (jw Z q (jsL V j i.toNatClampNeg x) ds) kc ks) : J l Z own nm cc nL rt d MC MS Q pc L (.long x :: .int i :: .ref (q j) :: S) (jw Z q V ds) kc ks := by
  refine j_last hdg hn (jw_at hd) hin ?_
  rw [jw_set (Z := Z) (q := q) (V := V) (V' := jsL V j i.toNatClampNeg x) hd (fun a ha => rfl) (fun a ha => by simp [jsL, ha]) (by simp [jcell, jrow, jsL])]
  exact k
theorem m_alen {j N : Nat} (hdg : decode cc pc = .ok (.arraylength, 1)) (hn : pc + 1 = n) (hd : ds[j]? = some (.inr (1, N))) (k : J l Z own nm cc nL rt d MC MS Q n L (.int (nI N) :: S) (jw Z q V ds) kc ks) : J l Z own nm cc nL rt d MC MS Q pc L (.ref (q j) :: S) (jw Z q V ds) kc ks := by
  subst hn
  intro p e R s m args below meth c A QQ H locs ls hC hB hP hD hS hl
  exact va_alen hC.1 hC.2.1 hC.2.2.2.2.2.2.2.1.1 hP j 1 (jw_at hd) rfl rfl hdg (k p e R s m args below meth c A QQ H locs ls hC hB hP hD hS hl)
theorem m_copyi {idx j0 j1 n0 n1 : Nat} {sp dp z : Int32} (hw : Cond.methodLink own idx arraycopyName ∈ jT) (hw1 : Cond.native arraycopyName ∈ jT) (hw2 : Cond.static arraycopyName ∈ jT) (hw3 : Cond.initialized "java/lang/System" ∈ jT) (hdg : decode cc pc = .ok (.invokestatic idx, 3)) (hn : pc + 3 = n) (hd0 : ds[j0]? = some (.inr (0, n0))) (hd1 : ds[j1]? = some (.inr (0, n1)))
    (h1 : ¬ sp < 0) (h2 : ¬ dp < 0) (h3 : ¬ z < 0) (h4 : sp.toNatClampNeg + z.toNatClampNeg ≤ n0) (h5 : dp.toNatClampNeg + z.toNatClampNeg ≤ n1) (hdd : 1 ≤ d) (hcat : (S.map fun v => v.category).sum ≤ 8)
    (k : J l Z own nm cc nL rt d MC MS Q n L S (jw Z q (jsA V j1 (va_cpy (V.1 j0) (V.1 j1) sp.toNatClampNeg dp.toNatClampNeg z.toNatClampNeg)) ds) kc ks) : J l Z own nm cc nL rt d MC MS Q pc L (.int z :: .int dp :: .ref (q j1) :: .int sp :: .ref (q j0) :: S) (jw Z q V ds) kc ks := by
  refine j_copyi hw hw1 hw2 hw3 hdg hn (jw_at hd0) (jw_at hd1) h1 h2 h3 h4 h5 hdd hcat ?_
  rw [jw_set (Z := Z) (q := q) (V := V) (V' := jsA V j1 (va_cpy (V.1 j0) (V.1 j1) sp.toNatClampNeg dp.toNatClampNeg z.toNatClampNeg)) hd1 (fun a ha => by simp [jsA, ha]) (fun a ha => rfl) (by simp [jcell, jrow, jsA])]
  exact k
theorem m_copyl {idx j0 j1 n0 n1 : Nat} {sp dp z : Int32} (hw : Cond.methodLink own idx arraycopyName ∈ jT) (hw1 : Cond.native arraycopyName ∈ jT) (hw2 : Cond.static arraycopyName ∈ jT) (hw3 : Cond.initialized "java/lang/System" ∈ jT) (hdg : decode cc pc = .ok (.invokestatic idx, 3)) (hn : pc + 3 = n) (hd0 : ds[j0]? = some (.inr (1, n0))) (hd1 : ds[j1]? = some (.inr (1, n1)))
    (h1 : ¬ sp < 0) (h2 : ¬ dp < 0) (h3 : ¬ z < 0) (h4 : sp.toNatClampNeg + z.toNatClampNeg ≤ n0) (h5 : dp.toNatClampNeg + z.toNatClampNeg ≤ n1) (hdd : 1 ≤ d) (hcat : (S.map fun v => v.category).sum ≤ 8)
    (k : J l Z own nm cc nL rt d MC MS Q n L S (jw Z q (jsB V j1 (va_cpy (V.2 j0) (V.2 j1) sp.toNatClampNeg dp.toNatClampNeg z.toNatClampNeg)) ds) kc ks) : J l Z own nm cc nL rt d MC MS Q pc L (.int z :: .int dp :: .ref (q j1) :: .int sp :: .ref (q j0) :: S) (jw Z q V ds) kc ks := by
  refine j_copyl hw hw1 hw2 hw3 hdg hn (jw_at hd0) (jw_at hd1) h1 h2 h3 h4 h5 hdd hcat ?_
  rw [jw_set (Z := Z) (q := q) (V := V) (V' := jsB V j1 (va_cpy (V.2 j0) (V.2 j1) sp.toNatClampNeg dp.toNatClampNeg z.toNatClampNeg)) hd1 (fun a ha => rfl) (fun a ha => by simp [jsB, ha]) (by simp [jcell, jrow, jsB])]
  exact k
/-- a contract without chance: from the memory V the method answers r and leaves V' -/
abbrev CtD (l : Launch) (Z : jZ) (y : MethodName) (cc : ByteArray) (nL : Nat) (rt : Option FieldType) (d : Nat) (q : Nat → Nat) (ds : List jD) (av : List Value) (V : jMem) (r : Option Value) (V' : jMem) : Prop := Ct l Z y cc nL rt d 0 0 av (jw Z q V ds) (fun r' w => r' = r ∧ w = jw Z q V' ds)
theorem m_callS {idx : Nat} {y : MethodName} {cc' : ByteArray} {nL' : Nat} {rt' : Option FieldType} {na d' : Nat} {As rest : List Value} {r : Option Value} {V' : jMem} {S' : List Value} (hM : jM own idx y cc' nL' rt' na ∧ Cond.static y ∈ jT) (hdg : decode cc pc = .ok (.invokestatic idx, 3)) (hn : pc + 3 = n) (hCt : CtD l Z y cc' nL' rt' d' q ds As V r V')
    (hna : As.length = na) (hS0 : S = As.reverse ++ rest) (hS1 : S' = r.toList ++ rest) (hcat : (rest.map fun v => v.category).sum ≤ 8) (hd : d' + 1 ≤ d) (hcc : kc ≤ MC ∧ ks ≤ MS) (kk : J l Z own nm cc nL rt d MC MS Q n L S' (jw Z q V' ds) kc ks) : J l Z own nm cc nL rt d MC MS Q pc L S (jw Z q V ds) kc ks :=
  j_callS hM.1 hM.2 hdg hn hCt hna hS0 hcat hd hcc (fun r ws' h => by obtain ⟨rfl, rfl⟩ := h; subst hS1; exact kk)
theorem m_callV {idx j ci : Nat} {y : MethodName} {cc' : ByteArray} {nL' : Nat} {rt' : Option FieldType} {na d' : Nat} {As rest : List Value} {r : Option Value} {V' : jMem} {S' : List Value} {fs : List Nat} {rc : vw_C} (hM : jM own idx y cc' nL' rt' na ∧ Cond.instanceMethod y ∈ jT ∧ Cond.selects y.cls y y ∈ jT) (hdg : decode cc pc = .ok (.invokevirtual idx, 3)) (hn : pc + 3 = n) (hCt : CtD l Z y cc' nL' rt' d' q ds (.ref (q j) :: As) V r V') (hd0 : ds[j]? = some (.inl (ci, fs))) (hc0 : vwCl[ci]? = some rc) (hC0 : rc.1 = y.cls)
    (hna : As.length = na) (hS0 : S = As.reverse ++ .ref (q j) :: rest) (hS1 : S' = r.toList ++ rest) (hcat : (rest.map fun v => v.category).sum ≤ 8) (hd : d' + 1 ≤ d) (hcc : kc ≤ MC ∧ ks ≤ MS) (kk : J l Z own nm cc nL rt d MC MS Q n L S' (jw Z q V' ds) kc ks) : J l Z own nm cc nL rt d MC MS Q pc L S (jw Z q V ds) kc ks :=
  j_callV hM.1 hM.2.1 hM.2.2 hdg hn hCt (jRecv_obj (jw_at hd0) hc0 hC0) hna hS0 hcat hd hcc (fun r ws' h => by obtain ⟨rfl, rfl⟩ := h; subst hS1; exact kk)
end JW
end
section
theorem inX0 : ∀ w ∈ wsX00, w ∈ jT := by decide +kernel
theorem inX1 : ∀ w ∈ wsX10, w ∈ jT := by decide +kernel
theorem inX2 : ∀ w ∈ wsX20, w ∈ jT := by decide +kernel
theorem inX3 : ∀ w ∈ wsX30, w ∈ jT := by decide +kernel
theorem inX4 : ∀ w ∈ wsX40, w ∈ jT := by decide +kernel
theorem inX5 : ∀ w ∈ wsX50, w ∈ jT := by decide +kernel
theorem fX4_12 : jF RX4 12 4 0 (.object "AcreBuys$Land") true := ⟨RX4, TX4, 8, tyX4, rfl, by decide, inX4, tyX4_ok, nmX4, rfl, rfl, rfl, Or.inl (jT_of 259 (by decide +kernel) rfl)⟩
theorem fX4_16 : jF RX4 16 4 1 (.object "AcreBuys$Land") true := ⟨RX4, TX4, 8, tyX4, rfl, by decide, inX4, tyX4_ok, nmX4, rfl, rfl, rfl, Or.inl (jT_of 260 (by decide +kernel) rfl)⟩
theorem fX4_19 : jF RX4 19 4 2 (.object "AcreBuys$Land") true := ⟨RX4, TX4, 8, tyX4, rfl, by decide, inX4, tyX4_ok, nmX4, rfl, rfl, rfl, Or.inl (jT_of 261 (by decide +kernel) rfl)⟩
theorem fX4_25 : jF RX4 25 4 3 (.object "AcreBuys$OrderSearch") true := ⟨RX4, TX4, 8, tyX4, rfl, by decide, inX4, tyX4_ok, nmX4, rfl, rfl, rfl, Or.inl (jT_of 262 (by decide +kernel) rfl)⟩
theorem fX4_32 : jF RX4 32 4 4 (.object "AcreBuys$Tape") true := ⟨RX4, TX4, 8, tyX4, rfl, by decide, inX4, tyX4_ok, nmX4, rfl, rfl, rfl, Or.inl (jT_of 263 (by decide +kernel) rfl)⟩
theorem fX4_38 : jF RX4 38 4 5 (.array (.object "AcreBuys$Sheet")) true := ⟨RX4, TX4, 8, tyX4, rfl, by decide, inX4, tyX4_ok, nmX4, rfl, rfl, rfl, Or.inl (jT_of 264 (by decide +kernel) rfl)⟩
theorem fX4_43 : jF RX4 43 4 6 (.array .int) true := ⟨RX4, TX4, 8, tyX4, rfl, by decide, inX4, tyX4_ok, nmX4, rfl, rfl, rfl, Or.inl (jT_of 265 (by decide +kernel) rfl)⟩
theorem fX4_47 : jF RX4 47 4 7 .boolean false := ⟨RX4, TX4, 8, tyX4, rfl, by decide, inX4, tyX4_ok, nmX4, rfl, rfl, rfl, Or.inl (jT_of 266 (by decide +kernel) rfl)⟩
theorem fX4_64 : jF RX4 64 0 0 .int false := ⟨RX0, TX0, 17, tyX0, rfl, by decide, inX0, tyX0_ok, nmX0, rfl, rfl, rfl, Or.inr ⟨"AcreBuys", jNest_of 116 (by decide +kernel) rfl⟩⟩
theorem fX4_76 : jF RX4 76 0 1 (.array .int) true := ⟨RX0, TX0, 17, tyX0, rfl, by decide, inX0, tyX0_ok, nmX0, rfl, rfl, rfl, Or.inr ⟨"AcreBuys", jNest_of 119 (by decide +kernel) rfl⟩⟩
theorem fX4_79 : jF RX4 79 0 2 (.array .int) true := ⟨RX0, TX0, 17, tyX0, rfl, by decide, inX0, tyX0_ok, nmX0, rfl, rfl, rfl, Or.inr ⟨"AcreBuys", jNest_of 121 (by decide +kernel) rfl⟩⟩
theorem fX4_82 : jF RX4 82 0 3 (.array .int) true := ⟨RX0, TX0, 17, tyX0, rfl, by decide, inX0, tyX0_ok, nmX0, rfl, rfl, rfl, Or.inr ⟨"AcreBuys", jNest_of 123 (by decide +kernel) rfl⟩⟩
theorem fX4_85 : jF RX4 85 0 4 (.array .int) true := ⟨RX0, TX0, 17, tyX0, rfl, by decide, inX0, tyX0_ok, nmX0, rfl, rfl, rfl, Or.inr ⟨"AcreBuys", jNest_of 125 (by decide +kernel) rfl⟩⟩
theorem fX4_94 : jF RX4 94 0 5 .int false := ⟨RX0, TX0, 17, tyX0, rfl, by decide, inX0, tyX0_ok, nmX0, rfl, rfl, rfl, Or.inr ⟨"AcreBuys", jNest_of 127 (by decide +kernel) rfl⟩⟩
theorem sX4_115 : Cond.fieldLink RX4 115 RX4 "RULE_LIMITS" "[I" ∈ jT := jT_of 382 (by decide +kernel) rfl
theorem fX4_118 : jF RX4 118 0 13 (.array .int) true := ⟨RX0, TX0, 17, tyX0, rfl, by decide, inX0, tyX0_ok, nmX0, rfl, rfl, rfl, Or.inr ⟨"AcreBuys", jNest_of 144 (by decide +kernel) rfl⟩⟩
theorem fX4_129 : jF RX4 129 0 10 .int false := ⟨RX0, TX0, 17, tyX0, rfl, by decide, inX0, tyX0_ok, nmX0, rfl, rfl, rfl, Or.inr ⟨"AcreBuys", jNest_of 138 (by decide +kernel) rfl⟩⟩
theorem fX4_132 : jF RX4 132 0 7 .int false := ⟨RX0, TX0, 17, tyX0, rfl, by decide, inX0, tyX0_ok, nmX0, rfl, rfl, rfl, Or.inr ⟨"AcreBuys", jNest_of 132 (by decide +kernel) rfl⟩⟩
theorem fX4_147 : jF RX4 147 0 8 (.array .int) true := ⟨RX0, TX0, 17, tyX0, rfl, by decide, inX0, tyX0_ok, nmX0, rfl, rfl, rfl, Or.inr ⟨"AcreBuys", jNest_of 134 (by decide +kernel) rfl⟩⟩
theorem fX4_150 : jF RX4 150 0 9 (.array .int) true := ⟨RX0, TX0, 17, tyX0, rfl, by decide, inX0, tyX0_ok, nmX0, rfl, rfl, rfl, Or.inr ⟨"AcreBuys", jNest_of 136 (by decide +kernel) rfl⟩⟩
theorem fX4_167 : jF RX4 167 0 12 .int false := ⟨RX0, TX0, 17, tyX0, rfl, by decide, inX0, tyX0_ok, nmX0, rfl, rfl, rfl, Or.inr ⟨"AcreBuys", jNest_of 142 (by decide +kernel) rfl⟩⟩
theorem fX4_170 : jF RX4 170 0 11 .long false := ⟨RX0, TX0, 17, tyX0, rfl, by decide, inX0, tyX0_ok, nmX0, rfl, rfl, rfl, Or.inr ⟨"AcreBuys", jNest_of 140 (by decide +kernel) rfl⟩⟩
theorem fX4_174 : jF RX4 174 0 6 .int false := ⟨RX0, TX0, 17, tyX0, rfl, by decide, inX0, tyX0_ok, nmX0, rfl, rfl, rfl, Or.inr ⟨"AcreBuys", jNest_of 130 (by decide +kernel) rfl⟩⟩
theorem fX4_183 : jF RX4 183 0 14 .int false := ⟨RX0, TX0, 17, tyX0, rfl, by decide, inX0, tyX0_ok, nmX0, rfl, rfl, rfl, Or.inr ⟨"AcreBuys", jNest_of 146 (by decide +kernel) rfl⟩⟩
theorem fX4_192 : jF RX4 192 0 15 (.array .int) true := ⟨RX0, TX0, 17, tyX0, rfl, by decide, inX0, tyX0_ok, nmX0, rfl, rfl, rfl, Or.inr ⟨"AcreBuys", jNest_of 148 (by decide +kernel) rfl⟩⟩
theorem fX4_195 : jF RX4 195 0 16 (.array .int) true := ⟨RX0, TX0, 17, tyX0, rfl, by decide, inX0, tyX0_ok, nmX0, rfl, rfl, rfl, Or.inr ⟨"AcreBuys", jNest_of 150 (by decide +kernel) rfl⟩⟩
theorem fX4_236 : jF RX4 236 3 1 .int false := ⟨RX3, TX3, 6, tyX3, rfl, by decide, inX3, tyX3_ok, nmX3, rfl, rfl, rfl, Or.inr ⟨"AcreBuys", jNest_of 217 (by decide +kernel) rfl⟩⟩
theorem fX4_258 : jF RX4 258 2 1 .int false := ⟨RX2, TX2, 3, tyX2, rfl, by decide, inX2, tyX2_ok, nmX2, rfl, rfl, rfl, Or.inr ⟨"AcreBuys", jNest_of 248 (by decide +kernel) rfl⟩⟩
theorem fX4_271 : jF RX4 271 2 0 .int false := ⟨RX2, TX2, 3, tyX2, rfl, by decide, inX2, tyX2_ok, nmX2, rfl, rfl, rfl, Or.inr ⟨"AcreBuys", jNest_of 246 (by decide +kernel) rfl⟩⟩
theorem fX4_277 : jF RX4 277 2 2 (.array .long) true := ⟨RX2, TX2, 3, tyX2, rfl, by decide, inX2, tyX2_ok, nmX2, rfl, rfl, rfl, Or.inr ⟨"AcreBuys", jNest_of 250 (by decide +kernel) rfl⟩⟩
theorem sX4_296 : Cond.fieldLink RX4 296 RX4 "UNDER" "[I" ∈ jT := jT_of 370 (by decide +kernel) rfl
theorem fX4_314 : jF RX4 314 3 2 .int false := ⟨RX3, TX3, 6, tyX3, rfl, by decide, inX3, tyX3_ok, nmX3, rfl, rfl, rfl, Or.inr ⟨"AcreBuys", jNest_of 219 (by decide +kernel) rfl⟩⟩
theorem fX4_317 : jF RX4 317 3 4 .int false := ⟨RX3, TX3, 6, tyX3, rfl, by decide, inX3, tyX3_ok, nmX3, rfl, rfl, rfl, Or.inr ⟨"AcreBuys", jNest_of 222 (by decide +kernel) rfl⟩⟩
theorem fX4_355 : jF RX4 355 3 5 .int false := ⟨RX3, TX3, 6, tyX3, rfl, by decide, inX3, tyX3_ok, nmX3, rfl, rfl, rfl, Or.inr ⟨"AcreBuys", jNest_of 224 (by decide +kernel) rfl⟩⟩
theorem fX0_9 : jF RX0 9 0 1 (.array .int) true := ⟨RX0, TX0, 17, tyX0, rfl, by decide, inX0, tyX0_ok, nmX0, rfl, rfl, rfl, Or.inl (jT_of 118 (by decide +kernel) rfl)⟩
theorem fX0_15 : jF RX0 15 0 2 (.array .int) true := ⟨RX0, TX0, 17, tyX0, rfl, by decide, inX0, tyX0_ok, nmX0, rfl, rfl, rfl, Or.inl (jT_of 120 (by decide +kernel) rfl)⟩
theorem fX0_18 : jF RX0 18 0 3 (.array .int) true := ⟨RX0, TX0, 17, tyX0, rfl, by decide, inX0, tyX0_ok, nmX0, rfl, rfl, rfl, Or.inl (jT_of 122 (by decide +kernel) rfl)⟩
theorem fX0_21 : jF RX0 21 0 4 (.array .int) true := ⟨RX0, TX0, 17, tyX0, rfl, by decide, inX0, tyX0_ok, nmX0, rfl, rfl, rfl, Or.inl (jT_of 124 (by decide +kernel) rfl)⟩
theorem fX0_24 : jF RX0 24 0 8 (.array .int) true := ⟨RX0, TX0, 17, tyX0, rfl, by decide, inX0, tyX0_ok, nmX0, rfl, rfl, rfl, Or.inl (jT_of 133 (by decide +kernel) rfl)⟩
theorem fX0_27 : jF RX0 27 0 9 (.array .int) true := ⟨RX0, TX0, 17, tyX0, rfl, by decide, inX0, tyX0_ok, nmX0, rfl, rfl, rfl, Or.inl (jT_of 135 (by decide +kernel) rfl)⟩
theorem fX0_30 : jF RX0 30 0 12 .int false := ⟨RX0, TX0, 17, tyX0, rfl, by decide, inX0, tyX0_ok, nmX0, rfl, rfl, rfl, Or.inl (jT_of 141 (by decide +kernel) rfl)⟩
theorem fX0_34 : jF RX0 34 0 13 (.array .int) true := ⟨RX0, TX0, 17, tyX0, rfl, by decide, inX0, tyX0_ok, nmX0, rfl, rfl, rfl, Or.inl (jT_of 143 (by decide +kernel) rfl)⟩
theorem fX0_37 : jF RX0 37 0 15 (.array .int) true := ⟨RX0, TX0, 17, tyX0, rfl, by decide, inX0, tyX0_ok, nmX0, rfl, rfl, rfl, Or.inl (jT_of 147 (by decide +kernel) rfl)⟩
theorem fX0_40 : jF RX0 40 0 16 (.array .int) true := ⟨RX0, TX0, 17, tyX0, rfl, by decide, inX0, tyX0_ok, nmX0, rfl, rfl, rfl, Or.inl (jT_of 149 (by decide +kernel) rfl)⟩
theorem fX0_43 : jF RX0 43 0 0 .int false := ⟨RX0, TX0, 17, tyX0, rfl, by decide, inX0, tyX0_ok, nmX0, rfl, rfl, rfl, Or.inl (jT_of 115 (by decide +kernel) rfl)⟩
theorem fX0_52 : jF RX0 52 0 5 .int false := ⟨RX0, TX0, 17, tyX0, rfl, by decide, inX0, tyX0_ok, nmX0, rfl, rfl, rfl, Or.inl (jT_of 126 (by decide +kernel) rfl)⟩
theorem fX0_55 : jF RX0 55 0 6 .int false := ⟨RX0, TX0, 17, tyX0, rfl, by decide, inX0, tyX0_ok, nmX0, rfl, rfl, rfl, Or.inl (jT_of 129 (by decide +kernel) rfl)⟩
theorem fX0_58 : jF RX0 58 0 7 .int false := ⟨RX0, TX0, 17, tyX0, rfl, by decide, inX0, tyX0_ok, nmX0, rfl, rfl, rfl, Or.inl (jT_of 131 (by decide +kernel) rfl)⟩
theorem fX0_61 : jF RX0 61 0 10 .int false := ⟨RX0, TX0, 17, tyX0, rfl, by decide, inX0, tyX0_ok, nmX0, rfl, rfl, rfl, Or.inl (jT_of 137 (by decide +kernel) rfl)⟩
theorem fX0_64 : jF RX0 64 0 11 .long false := ⟨RX0, TX0, 17, tyX0, rfl, by decide, inX0, tyX0_ok, nmX0, rfl, rfl, rfl, Or.inl (jT_of 139 (by decide +kernel) rfl)⟩
theorem fX0_68 : jF RX0 68 0 14 .int false := ⟨RX0, TX0, 17, tyX0, rfl, by decide, inX0, tyX0_ok, nmX0, rfl, rfl, rfl, Or.inl (jT_of 145 (by decide +kernel) rfl)⟩
theorem fX1_9 : jF RX1 9 1 1 (.array .int) true := ⟨RX1, TX1, 5, tyX1, rfl, by decide, inX1, tyX1_ok, nmX1, rfl, rfl, rfl, Or.inl (jT_of 194 (by decide +kernel) rfl)⟩
theorem fX1_15 : jF RX1 15 1 2 (.array .int) true := ⟨RX1, TX1, 5, tyX1, rfl, by decide, inX1, tyX1_ok, nmX1, rfl, rfl, rfl, Or.inl (jT_of 195 (by decide +kernel) rfl)⟩
theorem fX1_18 : jF RX1 18 1 3 (.array .int) true := ⟨RX1, TX1, 5, tyX1, rfl, by decide, inX1, tyX1_ok, nmX1, rfl, rfl, rfl, Or.inl (jT_of 196 (by decide +kernel) rfl)⟩
theorem fX1_21 : jF RX1 21 1 4 (.array .int) true := ⟨RX1, TX1, 5, tyX1, rfl, by decide, inX1, tyX1_ok, nmX1, rfl, rfl, rfl, Or.inl (jT_of 197 (by decide +kernel) rfl)⟩
theorem fX1_28 : jF RX1 28 1 0 .int false := ⟨RX1, TX1, 5, tyX1, rfl, by decide, inX1, tyX1_ok, nmX1, rfl, rfl, rfl, Or.inl (jT_of 193 (by decide +kernel) rfl)⟩
theorem fX1_46 : jF RX1 46 0 0 .int false := ⟨RX0, TX0, 17, tyX0, rfl, by decide, inX0, tyX0_ok, nmX0, rfl, rfl, rfl, Or.inr ⟨"AcreBuys", jNest_of 117 (by decide +kernel) rfl⟩⟩
theorem fX1_54 : jF RX1 54 0 5 .int false := ⟨RX0, TX0, 17, tyX0, rfl, by decide, inX0, tyX0_ok, nmX0, rfl, rfl, rfl, Or.inr ⟨"AcreBuys", jNest_of 128 (by decide +kernel) rfl⟩⟩
theorem fX2_9 : jF RX2 9 2 2 (.array .long) true := ⟨RX2, TX2, 3, tyX2, rfl, by decide, inX2, tyX2_ok, nmX2, rfl, rfl, rfl, Or.inl (jT_of 249 (by decide +kernel) rfl)⟩
theorem fX2_15 : jF RX2 15 2 0 .int false := ⟨RX2, TX2, 3, tyX2, rfl, by decide, inX2, tyX2_ok, nmX2, rfl, rfl, rfl, Or.inl (jT_of 245 (by decide +kernel) rfl)⟩
theorem fX2_19 : jF RX2 19 2 1 .int false := ⟨RX2, TX2, 3, tyX2, rfl, by decide, inX2, tyX2_ok, nmX2, rfl, rfl, rfl, Or.inl (jT_of 247 (by decide +kernel) rfl)⟩
theorem fX3_9 : jF RX3 9 3 0 (.array .int) true := ⟨RX3, TX3, 6, tyX3, rfl, by decide, inX3, tyX3_ok, nmX3, rfl, rfl, rfl, Or.inl (jT_of 215 (by decide +kernel) rfl)⟩
theorem fX3_15 : jF RX3 15 3 1 .int false := ⟨RX3, TX3, 6, tyX3, rfl, by decide, inX3, tyX3_ok, nmX3, rfl, rfl, rfl, Or.inl (jT_of 216 (by decide +kernel) rfl)⟩
theorem fX3_19 : jF RX3 19 3 3 .int false := ⟨RX3, TX3, 6, tyX3, rfl, by decide, inX3, tyX3_ok, nmX3, rfl, rfl, rfl, Or.inl (jT_of 220 (by decide +kernel) rfl)⟩
theorem fX3_25 : jF RX3 25 3 2 .int false := ⟨RX3, TX3, 6, tyX3, rfl, by decide, inX3, tyX3_ok, nmX3, rfl, rfl, rfl, Or.inl (jT_of 218 (by decide +kernel) rfl)⟩
theorem fX3_32 : jF RX3 32 3 4 .int false := ⟨RX3, TX3, 6, tyX3, rfl, by decide, inX3, tyX3_ok, nmX3, rfl, rfl, rfl, Or.inl (jT_of 221 (by decide +kernel) rfl)⟩
theorem fX3_39 : jF RX3 39 3 5 .int false := ⟨RX3, TX3, 6, tyX3, rfl, by decide, inX3, tyX3_ok, nmX3, rfl, rfl, rfl, Or.inl (jT_of 223 (by decide +kernel) rfl)⟩
theorem fX5_7 : jF RX5 7 5 0 (.array .int) true := ⟨RX5, TX5, 22, tyX5, rfl, by decide, inX5, tyX5_ok, nmX5, rfl, rfl, rfl, Or.inl (jT_of 822 (by decide +kernel) rfl)⟩
theorem fX5_13 : jF RX5 13 5 1 (.array .int) true := ⟨RX5, TX5, 22, tyX5, rfl, by decide, inX5, tyX5_ok, nmX5, rfl, rfl, rfl, Or.inl (jT_of 823 (by decide +kernel) rfl)⟩
theorem fX5_16 : jF RX5 16 5 2 (.array .int) true := ⟨RX5, TX5, 22, tyX5, rfl, by decide, inX5, tyX5_ok, nmX5, rfl, rfl, rfl, Or.inl (jT_of 824 (by decide +kernel) rfl)⟩
theorem fX5_19 : jF RX5 19 5 6 (.array .int) true := ⟨RX5, TX5, 22, tyX5, rfl, by decide, inX5, tyX5_ok, nmX5, rfl, rfl, rfl, Or.inl (jT_of 828 (by decide +kernel) rfl)⟩
theorem fX5_22 : jF RX5 22 5 7 (.array .int) true := ⟨RX5, TX5, 22, tyX5, rfl, by decide, inX5, tyX5_ok, nmX5, rfl, rfl, rfl, Or.inl (jT_of 829 (by decide +kernel) rfl)⟩
theorem fX5_25 : jF RX5 25 5 9 (.array .int) true := ⟨RX5, TX5, 22, tyX5, rfl, by decide, inX5, tyX5_ok, nmX5, rfl, rfl, rfl, Or.inl (jT_of 831 (by decide +kernel) rfl)⟩
theorem fX5_28 : jF RX5 28 5 10 (.array .int) true := ⟨RX5, TX5, 22, tyX5, rfl, by decide, inX5, tyX5_ok, nmX5, rfl, rfl, rfl, Or.inl (jT_of 832 (by decide +kernel) rfl)⟩
theorem fX5_31 : jF RX5 31 5 11 (.array .long) true := ⟨RX5, TX5, 22, tyX5, rfl, by decide, inX5, tyX5_ok, nmX5, rfl, rfl, rfl, Or.inl (jT_of 833 (by decide +kernel) rfl)⟩
theorem fX5_35 : jF RX5 35 5 12 (.array .int) true := ⟨RX5, TX5, 22, tyX5, rfl, by decide, inX5, tyX5_ok, nmX5, rfl, rfl, rfl, Or.inl (jT_of 834 (by decide +kernel) rfl)⟩
theorem fX5_38 : jF RX5 38 5 14 (.array .int) true := ⟨RX5, TX5, 22, tyX5, rfl, by decide, inX5, tyX5_ok, nmX5, rfl, rfl, rfl, Or.inl (jT_of 836 (by decide +kernel) rfl)⟩
theorem fX5_41 : jF RX5 41 5 21 (.array .int) true := ⟨RX5, TX5, 22, tyX5, rfl, by decide, inX5, tyX5_ok, nmX5, rfl, rfl, rfl, Or.inl (jT_of 843 (by decide +kernel) rfl)⟩
theorem fX5_104 : jF RX5 104 5 3 .long false := ⟨RX5, TX5, 22, tyX5, rfl, by decide, inX5, tyX5_ok, nmX5, rfl, rfl, rfl, Or.inl (jT_of 825 (by decide +kernel) rfl)⟩
theorem fX5_152 : jF RX5 152 5 13 .int false := ⟨RX5, TX5, 22, tyX5, rfl, by decide, inX5, tyX5_ok, nmX5, rfl, rfl, rfl, Or.inl (jT_of 835 (by decide +kernel) rfl)⟩
theorem fX5_167 : jF RX5 167 5 15 .int false := ⟨RX5, TX5, 22, tyX5, rfl, by decide, inX5, tyX5_ok, nmX5, rfl, rfl, rfl, Or.inl (jT_of 837 (by decide +kernel) rfl)⟩
theorem fX5_175 : jF RX5 175 5 8 .int false := ⟨RX5, TX5, 22, tyX5, rfl, by decide, inX5, tyX5_ok, nmX5, rfl, rfl, rfl, Or.inl (jT_of 830 (by decide +kernel) rfl)⟩
theorem fX5_178 : jF RX5 178 5 16 .int false := ⟨RX5, TX5, 22, tyX5, rfl, by decide, inX5, tyX5_ok, nmX5, rfl, rfl, rfl, Or.inl (jT_of 838 (by decide +kernel) rfl)⟩
theorem fX5_181 : jF RX5 181 5 17 .int false := ⟨RX5, TX5, 22, tyX5, rfl, by decide, inX5, tyX5_ok, nmX5, rfl, rfl, rfl, Or.inl (jT_of 839 (by decide +kernel) rfl)⟩
theorem fX5_187 : jF RX5 187 5 18 .int false := ⟨RX5, TX5, 22, tyX5, rfl, by decide, inX5, tyX5_ok, nmX5, rfl, rfl, rfl, Or.inl (jT_of 840 (by decide +kernel) rfl)⟩
theorem fX5_197 : jF RX5 197 5 19 .int false := ⟨RX5, TX5, 22, tyX5, rfl, by decide, inX5, tyX5_ok, nmX5, rfl, rfl, rfl, Or.inl (jT_of 841 (by decide +kernel) rfl)⟩
theorem fX5_204 : jF RX5 204 5 20 .boolean false := ⟨RX5, TX5, 22, tyX5, rfl, by decide, inX5, tyX5_ok, nmX5, rfl, rfl, rfl, Or.inl (jT_of 842 (by decide +kernel) rfl)⟩
theorem fX5_240 : jF RX5 240 5 4 .long false := ⟨RX5, TX5, 22, tyX5, rfl, by decide, inX5, tyX5_ok, nmX5, rfl, rfl, rfl, Or.inl (jT_of 826 (by decide +kernel) rfl)⟩
theorem fX5_243 : jF RX5 243 5 5 .boolean false := ⟨RX5, TX5, 22, tyX5, rfl, by decide, inX5, tyX5_ok, nmX5, rfl, rfl, rfl, Or.inl (jT_of 827 (by decide +kernel) rfl)⟩
theorem wX4_59 : Cond.constant RX4 59 (-1000000001) ∈ jT := jT_of 294 (by decide +kernel) rfl
theorem wX4_68 : Cond.constant RX4 68 (-1000000002) ∈ jT := jT_of 299 (by decide +kernel) rfl
theorem wX4_111 : Cond.constant RX4 111 (-1000000003) ∈ jT := jT_of 372 (by decide +kernel) rfl
theorem wX4_121 : Cond.constant RX4 121 (99999) ∈ jT := jT_of 388 (by decide +kernel) rfl
theorem wX4_125 : Cond.constant RX4 125 (-1000000005) ∈ jT := jT_of 401 (by decide +kernel) rfl
theorem wX4_146 : Cond.constant RX4 146 (-1000000004) ∈ jT := jT_of 436 (by decide +kernel) rfl
theorem wX4_226 : Cond.constant RX4 226 (9999999) ∈ jT := jT_of 572 (by decide +kernel) rfl
theorem wX4_254 : Cond.constant RX4 254 (-1000000007) ∈ jT := jT_of 515 (by decide +kernel) rfl
theorem wX4_270 : Cond.constant RX4 270 (-1000000006) ∈ jT := jT_of 761 (by decide +kernel) rfl
theorem wX0_126 : Cond.constant RX0 126 (1103515245) ∈ jT := jT_of 458 (by decide +kernel) rfl
theorem wX1_32 : Cond.constant RX1 32 (1073741824) ∈ jT := jT_of 532 (by decide +kernel) rfl
theorem wX5_44 : Cond.constant RX5 44 (-1000000001) ∈ jT := jT_of 898 (by decide +kernel) rfl
theorem wX5_64 : Cond.constant RX5 64 (-1000000002) ∈ jT := jT_of 903 (by decide +kernel) rfl
theorem wX5_100 : Cond.constant RX5 100 (-1000000003) ∈ jT := jT_of 960 (by decide +kernel) rfl
theorem wX5_114 : Cond.constant RX5 114 (-1000000005) ∈ jT := jT_of 981 (by decide +kernel) rfl
theorem wX5_127 : Cond.constant RX5 127 (-1000000004) ∈ jT := jT_of 1002 (by decide +kernel) rfl
theorem wX5_128 : Cond.constant RX5 128 (1103515245) ∈ jT := jT_of 1015 (by decide +kernel) rfl
theorem wX5_163 : Cond.constant RX5 163 (-1000000007) ∈ jT := jT_of 1073 (by decide +kernel) rfl
theorem wX5_235 : Cond.constant RX5 235 (-1000000006) ∈ jT := jT_of 1186 (by decide +kernel) rfl
theorem wJ6_265 : Cond.constant RJ6 265 (1431655765) ∈ jT := jT_of 339 (by decide +kernel) rfl
theorem wJ6_266 : Cond.constant RJ6 266 (858993459) ∈ jT := jT_of 340 (by decide +kernel) rfl
theorem wJ6_267 : Cond.constant RJ6 267 (252645135) ∈ jT := jT_of 341 (by decide +kernel) rfl
theorem wX4_291 : Cond.constantLong RX4 291 (99999) ∈ jT := jT_of 787 (by decide +kernel) rfl
theorem wL_138 : Cond.constantLong RL 138 (4294967295) ∈ jT := jT_of 1232 (by decide +kernel) rfl
theorem wX5_52 : Cond.constantLong RX5 52 (5) ∈ jT := jT_of 893 (by decide +kernel) rfl
theorem wX5_58 : Cond.constantLong RX5 58 (9999) ∈ jT := jT_of 897 (by decide +kernel) rfl
theorem wX5_86 : Cond.constantLong RX5 86 (7) ∈ jT := jT_of 920 (by decide +kernel) rfl
theorem wX5_91 : Cond.constantLong RX5 91 (3) ∈ jT := jT_of 949 (by decide +kernel) rfl
theorem wX5_93 : Cond.constantLong RX5 93 (9) ∈ jT := jT_of 950 (by decide +kernel) rfl
theorem wX5_95 : Cond.constantLong RX5 95 (16383) ∈ jT := jT_of 951 (by decide +kernel) rfl
theorem wX5_108 : Cond.constantLong RX5 108 (99999) ∈ jT := jT_of 976 (by decide +kernel) rfl
theorem wX5_119 : Cond.constantLong RX5 119 (99) ∈ jT := jT_of 990 (by decide +kernel) rfl
theorem wX5_144 : Cond.constantLong RX5 144 (4) ∈ jT := jT_of 1044 (by decide +kernel) rfl
theorem wX5_173 : Cond.constantLong RX5 173 (9999999) ∈ jT := jT_of 1102 (by decide +kernel) rfl
theorem wX5_190 : Cond.constantLong RX5 190 (97) ∈ jT := jT_of 1139 (by decide +kernel) rfl
theorem wX5_192 : Cond.constantLong RX5 192 (122) ∈ jT := jT_of 1140 (by decide +kernel) rfl
theorem wX5_200 : Cond.constantLong RX5 200 (48) ∈ jT := jT_of 1145 (by decide +kernel) rfl
theorem wX5_202 : Cond.constantLong RX5 202 (57) ∈ jT := jT_of 1146 (by decide +kernel) rfl
theorem wX5_249 : Cond.constantLong RX5 249 (-1) ∈ jT := jT_of 1230 (by decide +kernel) rfl
theorem wX5_251 : Cond.constantLong RX5 251 (6) ∈ jT := jT_of 1231 (by decide +kernel) rfl
theorem oi_link0 : Cond.instanceMethod objectInit ∈ jT := jT_of 107 (by decide +kernel) rfl
theorem oi_code : Cond.code objectInit ⟨#[0xb1]⟩ 1 none ∈ jT := jT_of 108 (by decide +kernel) rfl
theorem mm_min : Cond.static Lib.Math.min.name ∈ jT ∧ Cond.initialized "java/lang/Math" ∈ jT ∧ Cond.code Lib.Math.min.name Lib.Math.min.code 2 (some .int) ∈ jT := ⟨jT_of 353 (by decide +kernel) rfl, jT_of 94 (by decide +kernel) rfl, jT_of 354 (by decide +kernel) rfl⟩
theorem mm_max : Cond.static Lib.Math.max.name ∈ jT ∧ Cond.initialized "java/lang/Math" ∈ jT ∧ Cond.code Lib.Math.max.name Lib.Math.max.code 2 (some .int) ∈ jT := ⟨jT_of 430 (by decide +kernel) rfl, jT_of 94 (by decide +kernel) rfl, jT_of 431 (by decide +kernel) rfl⟩
theorem ac_facts : Cond.native arraycopyName ∈ jT ∧ Cond.static arraycopyName ∈ jT ∧ Cond.initialized "java/lang/System" ∈ jT := ⟨jT_of 624 (by decide +kernel) rfl, jT_of 623 (by decide +kernel) rfl, jT_of 95 (by decide +kernel) rfl⟩
theorem kX4_3 : Cond.methodLink RX4 3 objectInit ∈ jT := jT_of 106 (by decide +kernel) rfl
theorem cfX0_init : Cond.code yX0_init cX0_init 1 none ∈ jT := jT_of 113 (by decide +kernel) rfl
theorem ciX0_init : Cond.initialized yX0_init.cls ∈ jT := jT_of 88 (by decide +kernel) rfl
theorem cnX0_init : Cond.instanceMethod yX0_init ∈ jT := jT_of 112 (by decide +kernel) rfl
theorem kX4_11 : jM RX4 11 yX0_init cX0_init 1 none 0 ∧ Cond.instanceMethod yX0_init ∈ jT := ⟨⟨cfX0_init, ciX0_init, ⟨by decide, by decide⟩, by decide +kernel, by decide, Or.inr ⟨"AcreBuys", jNest_of 111 (by decide +kernel) rfl⟩⟩, cnX0_init⟩
theorem cfX1_init : Cond.code yX1_init cX1_init 1 none ∈ jT := jT_of 191 (by decide +kernel) rfl
theorem ciX1_init : Cond.initialized yX1_init.cls ∈ jT := jT_of 89 (by decide +kernel) rfl
theorem cnX1_init : Cond.instanceMethod yX1_init ∈ jT := jT_of 190 (by decide +kernel) rfl
theorem kX4_24 : jM RX4 24 yX1_init cX1_init 1 none 0 ∧ Cond.instanceMethod yX1_init ∈ jT := ⟨⟨cfX1_init, ciX1_init, ⟨by decide, by decide⟩, by decide +kernel, by decide, Or.inr ⟨"AcreBuys", jNest_of 189 (by decide +kernel) rfl⟩⟩, cnX1_init⟩
theorem cfX3_init : Cond.code yX3_init cX3_init 1 none ∈ jT := jT_of 213 (by decide +kernel) rfl
theorem ciX3_init : Cond.initialized yX3_init.cls ∈ jT := jT_of 90 (by decide +kernel) rfl
theorem cnX3_init : Cond.instanceMethod yX3_init ∈ jT := jT_of 212 (by decide +kernel) rfl
theorem kX4_31 : jM RX4 31 yX3_init cX3_init 1 none 0 ∧ Cond.instanceMethod yX3_init ∈ jT := ⟨⟨cfX3_init, ciX3_init, ⟨by decide, by decide⟩, by decide +kernel, by decide, Or.inr ⟨"AcreBuys", jNest_of 211 (by decide +kernel) rfl⟩⟩, cnX3_init⟩
theorem cfX2_init : Cond.code yX2_init cX2_init 1 none ∈ jT := jT_of 243 (by decide +kernel) rfl
theorem ciX2_init : Cond.initialized yX2_init.cls ∈ jT := jT_of 91 (by decide +kernel) rfl
theorem cnX2_init : Cond.instanceMethod yX2_init ∈ jT := jT_of 242 (by decide +kernel) rfl
theorem kX4_42 : jM RX4 42 yX2_init cX2_init 1 none 0 ∧ Cond.instanceMethod yX2_init ∈ jT := ⟨⟨cfX2_init, ciX2_init, ⟨by decide, by decide⟩, by decide +kernel, by decide, Or.inr ⟨"AcreBuys", jNest_of 241 (by decide +kernel) rfl⟩⟩, cnX2_init⟩
theorem cfX4_isKind : Cond.code yX4_isKind cX4_isKind 1 (some .boolean) ∈ jT := jT_of 290 (by decide +kernel) rfl
theorem ciX4_isKind : Cond.initialized yX4_isKind.cls ∈ jT := jT_of 87 (by decide +kernel) rfl
theorem csX4_isKind : Cond.static yX4_isKind ∈ jT := jT_of 289 (by decide +kernel) rfl
theorem kX4_51 : jM RX4 51 yX4_isKind cX4_isKind 1 (some .boolean) 1 ∧ Cond.static yX4_isKind ∈ jT := ⟨⟨cfX4_isKind, ciX4_isKind, ⟨by decide, by decide⟩, by decide +kernel, by decide, Or.inl (jT_of 288 (by decide +kernel) rfl)⟩, csX4_isKind⟩
theorem cfX4_isWithin : Cond.code yX4_isWithin cX4_isWithin 3 (some .boolean) ∈ jT := jT_of 293 (by decide +kernel) rfl
theorem ciX4_isWithin : Cond.initialized yX4_isWithin.cls ∈ jT := jT_of 87 (by decide +kernel) rfl
theorem csX4_isWithin : Cond.static yX4_isWithin ∈ jT := jT_of 292 (by decide +kernel) rfl
theorem kX4_55 : jM RX4 55 yX4_isWithin cX4_isWithin 3 (some .boolean) 3 ∧ Cond.static yX4_isWithin ∈ jT := ⟨⟨cfX4_isWithin, ciX4_isWithin, ⟨by decide, by decide⟩, by decide +kernel, by decide, Or.inl (jT_of 291 (by decide +kernel) rfl)⟩, csX4_isWithin⟩
theorem cfX4_refuse : Cond.code yX4_refuse cX4_refuse 3 (some .int) ∈ jT := jT_of 298 (by decide +kernel) rfl
theorem ciX4_refuse : Cond.initialized yX4_refuse.cls ∈ jT := jT_of 87 (by decide +kernel) rfl
theorem cnX4_refuse : Cond.instanceMethod yX4_refuse ∈ jT := jT_of 297 (by decide +kernel) rfl
theorem clX4_refuse : Cond.selects yX4_refuse.cls yX4_refuse yX4_refuse ∈ jT := jT_of 0 (by decide +kernel) rfl
theorem kX4_60 : jM RX4 60 yX4_refuse cX4_refuse 3 (some .int) 1 ∧ Cond.instanceMethod yX4_refuse ∈ jT ∧ Cond.selects yX4_refuse.cls yX4_refuse yX4_refuse ∈ jT := ⟨⟨cfX4_refuse, ciX4_refuse, ⟨by decide, by decide⟩, by decide +kernel, by decide, Or.inl (jT_of 295 (by decide +kernel) rfl)⟩, cnX4_refuse, clX4_refuse⟩
theorem cfX0_addField : Cond.code yX0_addField cX0_addField 4 (some .int) ∈ jT := jT_of 303 (by decide +kernel) rfl
theorem ciX0_addField : Cond.initialized yX0_addField.cls ∈ jT := jT_of 88 (by decide +kernel) rfl
theorem cnX0_addField : Cond.instanceMethod yX0_addField ∈ jT := jT_of 302 (by decide +kernel) rfl
theorem clX0_addField : Cond.selects yX0_addField.cls yX0_addField yX0_addField ∈ jT := jT_of 1 (by decide +kernel) rfl
theorem kX4_69 : jM RX4 69 yX0_addField cX0_addField 4 (some .int) 2 ∧ Cond.instanceMethod yX0_addField ∈ jT ∧ Cond.selects yX0_addField.cls yX0_addField yX0_addField ∈ jT := ⟨⟨cfX0_addField, ciX0_addField, ⟨by decide, by decide⟩, by decide +kernel, by decide, Or.inr ⟨"AcreBuys", jNest_of 300 (by decide +kernel) rfl⟩⟩, cnX0_addField, clX0_addField⟩
theorem cfX0_hasField : Cond.code yX0_hasField cX0_hasField 2 (some .boolean) ∈ jT := jT_of 311 (by decide +kernel) rfl
theorem ciX0_hasField : Cond.initialized yX0_hasField.cls ∈ jT := jT_of 88 (by decide +kernel) rfl
theorem cnX0_hasField : Cond.instanceMethod yX0_hasField ∈ jT := jT_of 310 (by decide +kernel) rfl
theorem clX0_hasField : Cond.selects yX0_hasField.cls yX0_hasField yX0_hasField ∈ jT := jT_of 2 (by decide +kernel) rfl
theorem kX4_73 : jM RX4 73 yX0_hasField cX0_hasField 2 (some .boolean) 1 ∧ Cond.instanceMethod yX0_hasField ∈ jT ∧ Cond.selects yX0_hasField.cls yX0_hasField yX0_hasField ∈ jT := ⟨⟨cfX0_hasField, ciX0_hasField, ⟨by decide, by decide⟩, by decide +kernel, by decide, Or.inr ⟨"AcreBuys", jNest_of 308 (by decide +kernel) rfl⟩⟩, cnX0_hasField, clX0_hasField⟩
theorem cfX0_holderOf : Cond.code yX0_holderOf cX0_holderOf 2 (some .int) ∈ jT := jT_of 316 (by decide +kernel) rfl
theorem ciX0_holderOf : Cond.initialized yX0_holderOf.cls ∈ jT := jT_of 88 (by decide +kernel) rfl
theorem cnX0_holderOf : Cond.instanceMethod yX0_holderOf ∈ jT := jT_of 315 (by decide +kernel) rfl
theorem clX0_holderOf : Cond.selects yX0_holderOf.cls yX0_holderOf yX0_holderOf ∈ jT := jT_of 3 (by decide +kernel) rfl
theorem kX4_88 : jM RX4 88 yX0_holderOf cX0_holderOf 2 (some .int) 1 ∧ Cond.instanceMethod yX0_holderOf ∈ jT ∧ Cond.selects yX0_holderOf.cls yX0_holderOf yX0_holderOf ∈ jT := ⟨⟨cfX0_holderOf, ciX0_holderOf, ⟨by decide, by decide⟩, by decide +kernel, by decide, Or.inr ⟨"AcreBuys", jNest_of 313 (by decide +kernel) rfl⟩⟩, cnX0_holderOf, clX0_holderOf⟩
theorem cfX0_priceNow : Cond.code yX0_priceNow cX0_priceNow 2 (some .int) ∈ jT := jT_of 323 (by decide +kernel) rfl
theorem ciX0_priceNow : Cond.initialized yX0_priceNow.cls ∈ jT := jT_of 88 (by decide +kernel) rfl
theorem cnX0_priceNow : Cond.instanceMethod yX0_priceNow ∈ jT := jT_of 322 (by decide +kernel) rfl
theorem clX0_priceNow : Cond.selects yX0_priceNow.cls yX0_priceNow yX0_priceNow ∈ jT := jT_of 4 (by decide +kernel) rfl
theorem kX4_91 : jM RX4 91 yX0_priceNow cX0_priceNow 2 (some .int) 1 ∧ Cond.instanceMethod yX0_priceNow ∈ jT ∧ Cond.selects yX0_priceNow.cls yX0_priceNow yX0_priceNow ∈ jT := ⟨⟨cfX0_priceNow, ciX0_priceNow, ⟨by decide, by decide⟩, by decide +kernel, by decide, Or.inr ⟨"AcreBuys", jNest_of 320 (by decide +kernel) rfl⟩⟩, cnX0_priceNow, clX0_priceNow⟩
theorem cfX0_heardBy : Cond.code yX0_heardBy cX0_heardBy 3 (some .int) ∈ jT := jT_of 331 (by decide +kernel) rfl
theorem ciX0_heardBy : Cond.initialized yX0_heardBy.cls ∈ jT := jT_of 88 (by decide +kernel) rfl
theorem cnX0_heardBy : Cond.instanceMethod yX0_heardBy ∈ jT := jT_of 330 (by decide +kernel) rfl
theorem clX0_heardBy : Cond.selects yX0_heardBy.cls yX0_heardBy yX0_heardBy ∈ jT := jT_of 6 (by decide +kernel) rfl
theorem kX4_97 : jM RX4 97 yX0_heardBy cX0_heardBy 3 (some .int) 2 ∧ Cond.instanceMethod yX0_heardBy ∈ jT ∧ Cond.selects yX0_heardBy.cls yX0_heardBy yX0_heardBy ∈ jT := ⟨⟨cfX0_heardBy, ciX0_heardBy, ⟨by decide, by decide⟩, by decide +kernel, by decide, Or.inr ⟨"AcreBuys", jNest_of 355 (by decide +kernel) rfl⟩⟩, cnX0_heardBy, clX0_heardBy⟩
theorem cfX4_wareOf : Cond.code yX4_wareOf cX4_wareOf 2 (some .int) ∈ jT := jT_of 351 (by decide +kernel) rfl
theorem ciX4_wareOf : Cond.initialized yX4_wareOf.cls ∈ jT := jT_of 87 (by decide +kernel) rfl
theorem csX4_wareOf : Cond.static yX4_wareOf ∈ jT := jT_of 350 (by decide +kernel) rfl
theorem kX4_100 : jM RX4 100 yX4_wareOf cX4_wareOf 2 (some .int) 2 ∧ Cond.static yX4_wareOf ∈ jT := ⟨⟨cfX4_wareOf, ciX4_wareOf, ⟨by decide, by decide⟩, by decide +kernel, by decide, Or.inl (jT_of 349 (by decide +kernel) rfl)⟩, csX4_wareOf⟩
theorem cfX4_swap : Cond.code yX4_swap cX4_swap 4 (some .int) ∈ jT := jT_of 362 (by decide +kernel) rfl
theorem ciX4_swap : Cond.initialized yX4_swap.cls ∈ jT := jT_of 87 (by decide +kernel) rfl
theorem csX4_swap : Cond.static yX4_swap ∈ jT := jT_of 361 (by decide +kernel) rfl
theorem kX4_103 : jM RX4 103 yX4_swap cX4_swap 4 (some .int) 3 ∧ Cond.static yX4_swap ∈ jT := ⟨⟨cfX4_swap, ciX4_swap, ⟨by decide, by decide⟩, by decide +kernel, by decide, Or.inl (jT_of 360 (by decide +kernel) rfl)⟩, csX4_swap⟩
theorem cfX4_isOfKind : Cond.code yX4_isOfKind cX4_isOfKind 4 (some .boolean) ∈ jT := jT_of 369 (by decide +kernel) rfl
theorem ciX4_isOfKind : Cond.initialized yX4_isOfKind.cls ∈ jT := jT_of 87 (by decide +kernel) rfl
theorem csX4_isOfKind : Cond.static yX4_isOfKind ∈ jT := jT_of 368 (by decide +kernel) rfl
theorem kX4_107 : jM RX4 107 yX4_isOfKind cX4_isOfKind 4 (some .boolean) 2 ∧ Cond.static yX4_isOfKind ∈ jT := ⟨⟨cfX4_isOfKind, ciX4_isOfKind, ⟨by decide, by decide⟩, by decide +kernel, by decide, Or.inl (jT_of 367 (by decide +kernel) rfl)⟩, csX4_isOfKind⟩
theorem cfX0_priceBy : Cond.code yX0_priceBy cX0_priceBy 3 (some .int) ∈ jT := jT_of 327 (by decide +kernel) rfl
theorem ciX0_priceBy : Cond.initialized yX0_priceBy.cls ∈ jT := jT_of 88 (by decide +kernel) rfl
theorem cnX0_priceBy : Cond.instanceMethod yX0_priceBy ∈ jT := jT_of 326 (by decide +kernel) rfl
theorem clX0_priceBy : Cond.selects yX0_priceBy.cls yX0_priceBy yX0_priceBy ∈ jT := jT_of 5 (by decide +kernel) rfl
theorem kX4_112 : jM RX4 112 yX0_priceBy cX0_priceBy 3 (some .int) 2 ∧ Cond.instanceMethod yX0_priceBy ∈ jT ∧ Cond.selects yX0_priceBy.cls yX0_priceBy yX0_priceBy ∈ jT := ⟨⟨cfX0_priceBy, ciX0_priceBy, ⟨by decide, by decide⟩, by decide +kernel, by decide, Or.inr ⟨"AcreBuys", jNest_of 377 (by decide +kernel) rfl⟩⟩, cnX0_priceBy, clX0_priceBy⟩
theorem cfX0_isFree : Cond.code yX0_isFree cX0_isFree 2 (some .boolean) ∈ jT := jT_of 392 (by decide +kernel) rfl
theorem ciX0_isFree : Cond.initialized yX0_isFree.cls ∈ jT := jT_of 88 (by decide +kernel) rfl
theorem cnX0_isFree : Cond.instanceMethod yX0_isFree ∈ jT := jT_of 391 (by decide +kernel) rfl
theorem clX0_isFree : Cond.selects yX0_isFree.cls yX0_isFree yX0_isFree ∈ jT := jT_of 9 (by decide +kernel) rfl
theorem kX4_122 : jM RX4 122 yX0_isFree cX0_isFree 2 (some .boolean) 1 ∧ Cond.instanceMethod yX0_isFree ∈ jT ∧ Cond.selects yX0_isFree.cls yX0_isFree yX0_isFree ∈ jT := ⟨⟨cfX0_isFree, ciX0_isFree, ⟨by decide, by decide⟩, by decide +kernel, by decide, Or.inr ⟨"AcreBuys", jNest_of 389 (by decide +kernel) rfl⟩⟩, cnX0_isFree, clX0_isFree⟩
theorem cfX0_bid : Cond.code yX0_bid cX0_bid 3 (some .boolean) ∈ jT := jT_of 405 (by decide +kernel) rfl
theorem ciX0_bid : Cond.initialized yX0_bid.cls ∈ jT := jT_of 88 (by decide +kernel) rfl
theorem cnX0_bid : Cond.instanceMethod yX0_bid ∈ jT := jT_of 404 (by decide +kernel) rfl
theorem clX0_bid : Cond.selects yX0_bid.cls yX0_bid yX0_bid ∈ jT := jT_of 12 (by decide +kernel) rfl
theorem kX4_126 : jM RX4 126 yX0_bid cX0_bid 3 (some .boolean) 2 ∧ Cond.instanceMethod yX0_bid ∈ jT ∧ Cond.selects yX0_bid.cls yX0_bid yX0_bid ∈ jT := ⟨⟨cfX0_bid, ciX0_bid, ⟨by decide, by decide⟩, by decide +kernel, by decide, Or.inr ⟨"AcreBuys", jNest_of 402 (by decide +kernel) rfl⟩⟩, cnX0_bid, clX0_bid⟩
theorem cfX4_isIn : Cond.code yX4_isIn cX4_isIn 2 (some .boolean) ∈ jT := jT_of 319 (by decide +kernel) rfl
theorem ciX4_isIn : Cond.initialized yX4_isIn.cls ∈ jT := jT_of 87 (by decide +kernel) rfl
theorem csX4_isIn : Cond.static yX4_isIn ∈ jT := jT_of 318 (by decide +kernel) rfl
theorem kX4_135 : jM RX4 135 yX4_isIn cX4_isIn 2 (some .boolean) 2 ∧ Cond.static yX4_isIn ∈ jT := ⟨⟨cfX4_isIn, ciX4_isIn, ⟨by decide, by decide⟩, by decide +kernel, by decide, Or.inl (jT_of 420 (by decide +kernel) rfl)⟩, csX4_isIn⟩
theorem cfJ6_bitCount_0f7a4 : Cond.code yJ6_bitCount_0f7a4 cJ6_bitCount_0f7a4 1 (some .int) ∈ jT := jT_of 338 (by decide +kernel) rfl
theorem ciJ6_bitCount_0f7a4 : Cond.initialized yJ6_bitCount_0f7a4.cls ∈ jT := jT_of 93 (by decide +kernel) rfl
theorem csJ6_bitCount_0f7a4 : Cond.static yJ6_bitCount_0f7a4 ∈ jT := jT_of 337 (by decide +kernel) rfl
theorem kX4_138 : jM RX4 138 yJ6_bitCount_0f7a4 cJ6_bitCount_0f7a4 1 (some .int) 1 ∧ Cond.static yJ6_bitCount_0f7a4 ∈ jT := ⟨⟨cfJ6_bitCount_0f7a4, ciJ6_bitCount_0f7a4, ⟨by decide, by decide⟩, by decide +kernel, by decide, Or.inl (jT_of 421 (by decide +kernel) rfl)⟩, csJ6_bitCount_0f7a4⟩
theorem cfX0_takePaper : Cond.code yX0_takePaper cX0_takePaper 5 (some .int) ∈ jT := jT_of 425 (by decide +kernel) rfl
theorem ciX0_takePaper : Cond.initialized yX0_takePaper.cls ∈ jT := jT_of 88 (by decide +kernel) rfl
theorem cnX0_takePaper : Cond.instanceMethod yX0_takePaper ∈ jT := jT_of 424 (by decide +kernel) rfl
theorem clX0_takePaper : Cond.selects yX0_takePaper.cls yX0_takePaper yX0_takePaper ∈ jT := jT_of 15 (by decide +kernel) rfl
theorem kX4_143 : jM RX4 143 yX0_takePaper cX0_takePaper 5 (some .int) 2 ∧ Cond.instanceMethod yX0_takePaper ∈ jT ∧ Cond.selects yX0_takePaper.cls yX0_takePaper yX0_takePaper ∈ jT := ⟨⟨cfX0_takePaper, ciX0_takePaper, ⟨by decide, by decide⟩, by decide +kernel, by decide, Or.inr ⟨"AcreBuys", jNest_of 422 (by decide +kernel) rfl⟩⟩, cnX0_takePaper, clX0_takePaper⟩
theorem cfX0_buy : Cond.code yX0_buy cX0_buy 3 none ∈ jT := jT_of 410 (by decide +kernel) rfl
theorem ciX0_buy : Cond.initialized yX0_buy.cls ∈ jT := jT_of 88 (by decide +kernel) rfl
theorem cnX0_buy : Cond.instanceMethod yX0_buy ∈ jT := jT_of 409 (by decide +kernel) rfl
theorem clX0_buy : Cond.selects yX0_buy.cls yX0_buy yX0_buy ∈ jT := jT_of 13 (by decide +kernel) rfl
theorem kX4_153 : jM RX4 153 yX0_buy cX0_buy 3 none 2 ∧ Cond.instanceMethod yX0_buy ∈ jT ∧ Cond.selects yX0_buy.cls yX0_buy yX0_buy ∈ jT := ⟨⟨cfX0_buy, ciX0_buy, ⟨by decide, by decide⟩, by decide +kernel, by decide, Or.inr ⟨"AcreBuys", jNest_of 441 (by decide +kernel) rfl⟩⟩, cnX0_buy, clX0_buy⟩
theorem cfX0_dropPastPapers : Cond.code yX0_dropPastPapers cX0_dropPastPapers 2 none ∈ jT := jT_of 453 (by decide +kernel) rfl
theorem ciX0_dropPastPapers : Cond.initialized yX0_dropPastPapers.cls ∈ jT := jT_of 88 (by decide +kernel) rfl
theorem cnX0_dropPastPapers : Cond.instanceMethod yX0_dropPastPapers ∈ jT := jT_of 452 (by decide +kernel) rfl
theorem clX0_dropPastPapers : Cond.selects yX0_dropPastPapers.cls yX0_dropPastPapers yX0_dropPastPapers ∈ jT := jT_of 16 (by decide +kernel) rfl
theorem kX4_157 : jM RX4 157 yX0_dropPastPapers cX0_dropPastPapers 2 none 0 ∧ Cond.instanceMethod yX0_dropPastPapers ∈ jT ∧ Cond.selects yX0_dropPastPapers.cls yX0_dropPastPapers yX0_dropPastPapers ∈ jT := ⟨⟨cfX0_dropPastPapers, ciX0_dropPastPapers, ⟨by decide, by decide⟩, by decide +kernel, by decide, Or.inr ⟨"AcreBuys", jNest_of 450 (by decide +kernel) rfl⟩⟩, cnX0_dropPastPapers, clX0_dropPastPapers⟩
theorem cfX0_rivalTakes : Cond.code yX0_rivalTakes cX0_rivalTakes 5 (some .int) ∈ jT := jT_of 457 (by decide +kernel) rfl
theorem ciX0_rivalTakes : Cond.initialized yX0_rivalTakes.cls ∈ jT := jT_of 88 (by decide +kernel) rfl
theorem cnX0_rivalTakes : Cond.instanceMethod yX0_rivalTakes ∈ jT := jT_of 456 (by decide +kernel) rfl
theorem clX0_rivalTakes : Cond.selects yX0_rivalTakes.cls yX0_rivalTakes yX0_rivalTakes ∈ jT := jT_of 17 (by decide +kernel) rfl
theorem kX4_160 : jM RX4 160 yX0_rivalTakes cX0_rivalTakes 5 (some .int) 0 ∧ Cond.instanceMethod yX0_rivalTakes ∈ jT ∧ Cond.selects yX0_rivalTakes.cls yX0_rivalTakes yX0_rivalTakes ∈ jT := ⟨⟨cfX0_rivalTakes, ciX0_rivalTakes, ⟨by decide, by decide⟩, by decide +kernel, by decide, Or.inr ⟨"AcreBuys", jNest_of 454 (by decide +kernel) rfl⟩⟩, cnX0_rivalTakes, clX0_rivalTakes⟩
theorem cfX0_calmDown : Cond.code yX0_calmDown cX0_calmDown 2 none ∈ jT := jT_of 463 (by decide +kernel) rfl
theorem ciX0_calmDown : Cond.initialized yX0_calmDown.cls ∈ jT := jT_of 88 (by decide +kernel) rfl
theorem cnX0_calmDown : Cond.instanceMethod yX0_calmDown ∈ jT := jT_of 462 (by decide +kernel) rfl
theorem clX0_calmDown : Cond.selects yX0_calmDown.cls yX0_calmDown yX0_calmDown ∈ jT := jT_of 18 (by decide +kernel) rfl
theorem kX4_164 : jM RX4 164 yX0_calmDown cX0_calmDown 2 none 0 ∧ Cond.instanceMethod yX0_calmDown ∈ jT ∧ Cond.selects yX0_calmDown.cls yX0_calmDown yX0_calmDown ∈ jT := ⟨⟨cfX0_calmDown, ciX0_calmDown, ⟨by decide, by decide⟩, by decide +kernel, by decide, Or.inr ⟨"AcreBuys", jNest_of 460 (by decide +kernel) rfl⟩⟩, cnX0_calmDown, clX0_calmDown⟩
theorem cfX0_freeIn : Cond.code yX0_freeIn cX0_freeIn 2 (some .int) ∈ jT := jT_of 396 (by decide +kernel) rfl
theorem ciX0_freeIn : Cond.initialized yX0_freeIn.cls ∈ jT := jT_of 88 (by decide +kernel) rfl
theorem cnX0_freeIn : Cond.instanceMethod yX0_freeIn ∈ jT := jT_of 395 (by decide +kernel) rfl
theorem clX0_freeIn : Cond.selects yX0_freeIn.cls yX0_freeIn yX0_freeIn ∈ jT := jT_of 10 (by decide +kernel) rfl
theorem kX4_177 : jM RX4 177 yX0_freeIn cX0_freeIn 2 (some .int) 1 ∧ Cond.instanceMethod yX0_freeIn ∈ jT ∧ Cond.selects yX0_freeIn.cls yX0_freeIn yX0_freeIn ∈ jT := ⟨⟨cfX0_freeIn, ciX0_freeIn, ⟨by decide, by decide⟩, by decide +kernel, by decide, Or.inr ⟨"AcreBuys", jNest_of 472 (by decide +kernel) rfl⟩⟩, cnX0_freeIn, clX0_freeIn⟩
theorem cfX0_allFields : Cond.code yX0_allFields cX0_allFields 1 (some .int) ∈ jT := jT_of 400 (by decide +kernel) rfl
theorem ciX0_allFields : Cond.initialized yX0_allFields.cls ∈ jT := jT_of 88 (by decide +kernel) rfl
theorem cnX0_allFields : Cond.instanceMethod yX0_allFields ∈ jT := jT_of 399 (by decide +kernel) rfl
theorem clX0_allFields : Cond.selects yX0_allFields.cls yX0_allFields yX0_allFields ∈ jT := jT_of 11 (by decide +kernel) rfl
theorem kX4_180 : jM RX4 180 yX0_allFields cX0_allFields 1 (some .int) 0 ∧ Cond.instanceMethod yX0_allFields ∈ jT ∧ Cond.selects yX0_allFields.cls yX0_allFields yX0_allFields ∈ jT := ⟨⟨cfX0_allFields, ciX0_allFields, ⟨by decide, by decide⟩, by decide +kernel, by decide, Or.inr ⟨"AcreBuys", jNest_of 477 (by decide +kernel) rfl⟩⟩, cnX0_allFields, clX0_allFields⟩
theorem cfX0_addStrip : Cond.code yX0_addStrip cX0_addStrip 4 (some .int) ∈ jT := jT_of 481 (by decide +kernel) rfl
theorem ciX0_addStrip : Cond.initialized yX0_addStrip.cls ∈ jT := jT_of 88 (by decide +kernel) rfl
theorem cnX0_addStrip : Cond.instanceMethod yX0_addStrip ∈ jT := jT_of 480 (by decide +kernel) rfl
theorem clX0_addStrip : Cond.selects yX0_addStrip.cls yX0_addStrip yX0_addStrip ∈ jT := jT_of 19 (by decide +kernel) rfl
theorem kX4_186 : jM RX4 186 yX0_addStrip cX0_addStrip 4 (some .int) 2 ∧ Cond.instanceMethod yX0_addStrip ∈ jT ∧ Cond.selects yX0_addStrip.cls yX0_addStrip yX0_addStrip ∈ jT := ⟨⟨cfX0_addStrip, ciX0_addStrip, ⟨by decide, by decide⟩, by decide +kernel, by decide, Or.inr ⟨"AcreBuys", jNest_of 478 (by decide +kernel) rfl⟩⟩, cnX0_addStrip, clX0_addStrip⟩
theorem cfX0_hasStrip : Cond.code yX0_hasStrip cX0_hasStrip 2 (some .boolean) ∈ jT := jT_of 489 (by decide +kernel) rfl
theorem ciX0_hasStrip : Cond.initialized yX0_hasStrip.cls ∈ jT := jT_of 88 (by decide +kernel) rfl
theorem cnX0_hasStrip : Cond.instanceMethod yX0_hasStrip ∈ jT := jT_of 488 (by decide +kernel) rfl
theorem clX0_hasStrip : Cond.selects yX0_hasStrip.cls yX0_hasStrip yX0_hasStrip ∈ jT := jT_of 20 (by decide +kernel) rfl
theorem kX4_189 : jM RX4 189 yX0_hasStrip cX0_hasStrip 2 (some .boolean) 1 ∧ Cond.instanceMethod yX0_hasStrip ∈ jT ∧ Cond.selects yX0_hasStrip.cls yX0_hasStrip yX0_hasStrip ∈ jT := ⟨⟨cfX0_hasStrip, ciX0_hasStrip, ⟨by decide, by decide⟩, by decide +kernel, by decide, Or.inr ⟨"AcreBuys", jNest_of 486 (by decide +kernel) rfl⟩⟩, cnX0_hasStrip, clX0_hasStrip⟩
theorem cfX0_isHad : Cond.code yX0_isHad cX0_isHad 2 (some .boolean) ∈ jT := jT_of 493 (by decide +kernel) rfl
theorem ciX0_isHad : Cond.initialized yX0_isHad.cls ∈ jT := jT_of 88 (by decide +kernel) rfl
theorem cnX0_isHad : Cond.instanceMethod yX0_isHad ∈ jT := jT_of 492 (by decide +kernel) rfl
theorem clX0_isHad : Cond.selects yX0_isHad.cls yX0_isHad yX0_isHad ∈ jT := jT_of 21 (by decide +kernel) rfl
theorem kX4_198 : jM RX4 198 yX0_isHad cX0_isHad 2 (some .boolean) 1 ∧ Cond.instanceMethod yX0_isHad ∈ jT ∧ Cond.selects yX0_isHad.cls yX0_isHad yX0_isHad ∈ jT := ⟨⟨cfX0_isHad, ciX0_isHad, ⟨by decide, by decide⟩, by decide +kernel, by decide, Or.inr ⟨"AcreBuys", jNest_of 490 (by decide +kernel) rfl⟩⟩, cnX0_isHad, clX0_isHad⟩
theorem cfX0_canBe : Cond.code yX0_canBe cX0_canBe 2 (some .boolean) ∈ jT := jT_of 501 (by decide +kernel) rfl
theorem ciX0_canBe : Cond.initialized yX0_canBe.cls ∈ jT := jT_of 88 (by decide +kernel) rfl
theorem cnX0_canBe : Cond.instanceMethod yX0_canBe ∈ jT := jT_of 500 (by decide +kernel) rfl
theorem clX0_canBe : Cond.selects yX0_canBe.cls yX0_canBe yX0_canBe ∈ jT := jT_of 23 (by decide +kernel) rfl
theorem kX4_201 : jM RX4 201 yX0_canBe cX0_canBe 2 (some .boolean) 1 ∧ Cond.instanceMethod yX0_canBe ∈ jT ∧ Cond.selects yX0_canBe.cls yX0_canBe yX0_canBe ∈ jT := ⟨⟨cfX0_canBe, ciX0_canBe, ⟨by decide, by decide⟩, by decide +kernel, by decide, Or.inr ⟨"AcreBuys", jNest_of 498 (by decide +kernel) rfl⟩⟩, cnX0_canBe, clX0_canBe⟩
theorem cfX4_hindranceOf : Cond.code yX4_hindranceOf cX4_hindranceOf 2 (some .int) ∈ jT := jT_of 513 (by decide +kernel) rfl
theorem ciX4_hindranceOf : Cond.initialized yX4_hindranceOf.cls ∈ jT := jT_of 87 (by decide +kernel) rfl
theorem cnX4_hindranceOf : Cond.instanceMethod yX4_hindranceOf ∈ jT := jT_of 512 (by decide +kernel) rfl
theorem clX4_hindranceOf : Cond.selects yX4_hindranceOf.cls yX4_hindranceOf yX4_hindranceOf ∈ jT := jT_of 24 (by decide +kernel) rfl
theorem kX4_204 : jM RX4 204 yX4_hindranceOf cX4_hindranceOf 2 (some .int) 1 ∧ Cond.instanceMethod yX4_hindranceOf ∈ jT ∧ Cond.selects yX4_hindranceOf.cls yX4_hindranceOf yX4_hindranceOf ∈ jT := ⟨⟨cfX4_hindranceOf, ciX4_hindranceOf, ⟨by decide, by decide⟩, by decide +kernel, by decide, Or.inl (jT_of 510 (by decide +kernel) rfl)⟩, cnX4_hindranceOf, clX4_hindranceOf⟩
theorem cfX4_leastCost : Cond.code yX4_leastCost cX4_leastCost 2 (some .int) ∈ jT := jT_of 519 (by decide +kernel) rfl
theorem ciX4_leastCost : Cond.initialized yX4_leastCost.cls ∈ jT := jT_of 87 (by decide +kernel) rfl
theorem cnX4_leastCost : Cond.instanceMethod yX4_leastCost ∈ jT := jT_of 518 (by decide +kernel) rfl
theorem clX4_leastCost : Cond.selects yX4_leastCost.cls yX4_leastCost yX4_leastCost ∈ jT := jT_of 25 (by decide +kernel) rfl
theorem kX4_207 : jM RX4 207 yX4_leastCost cX4_leastCost 2 (some .int) 1 ∧ Cond.instanceMethod yX4_leastCost ∈ jT ∧ Cond.selects yX4_leastCost.cls yX4_leastCost yX4_leastCost ∈ jT := ⟨⟨cfX4_leastCost, ciX4_leastCost, ⟨by decide, by decide⟩, by decide +kernel, by decide, Or.inl (jT_of 516 (by decide +kernel) rfl)⟩, cnX4_leastCost, clX4_leastCost⟩
theorem cfX0_missingOf : Cond.code yX0_missingOf cX0_missingOf 2 (some .int) ∈ jT := jT_of 497 (by decide +kernel) rfl
theorem ciX0_missingOf : Cond.initialized yX0_missingOf.cls ∈ jT := jT_of 88 (by decide +kernel) rfl
theorem cnX0_missingOf : Cond.instanceMethod yX0_missingOf ∈ jT := jT_of 496 (by decide +kernel) rfl
theorem clX0_missingOf : Cond.selects yX0_missingOf.cls yX0_missingOf yX0_missingOf ∈ jT := jT_of 22 (by decide +kernel) rfl
theorem kX4_210 : jM RX4 210 yX0_missingOf cX0_missingOf 2 (some .int) 1 ∧ Cond.instanceMethod yX0_missingOf ∈ jT ∧ Cond.selects yX0_missingOf.cls yX0_missingOf yX0_missingOf ∈ jT := ⟨⟨cfX0_missingOf, ciX0_missingOf, ⟨by decide, by decide⟩, by decide +kernel, by decide, Or.inr ⟨"AcreBuys", jNest_of 514 (by decide +kernel) rfl⟩⟩, cnX0_missingOf, clX0_missingOf⟩
theorem cfX1_run : Cond.code yX1_run cX1_run 7 (some .int) ∈ jT := jT_of 523 (by decide +kernel) rfl
theorem ciX1_run : Cond.initialized yX1_run.cls ∈ jT := jT_of 89 (by decide +kernel) rfl
theorem cnX1_run : Cond.instanceMethod yX1_run ∈ jT := jT_of 522 (by decide +kernel) rfl
theorem clX1_run : Cond.selects yX1_run.cls yX1_run yX1_run ∈ jT := jT_of 26 (by decide +kernel) rfl
theorem kX4_213 : jM RX4 213 yX1_run cX1_run 7 (some .int) 2 ∧ Cond.instanceMethod yX1_run ∈ jT ∧ Cond.selects yX1_run.cls yX1_run yX1_run ∈ jT := ⟨⟨cfX1_run, ciX1_run, ⟨by decide, by decide⟩, by decide +kernel, by decide, Or.inr ⟨"AcreBuys", jNest_of 520 (by decide +kernel) rfl⟩⟩, cnX1_run, clX1_run⟩
theorem cfX1_fieldAt : Cond.code yX1_fieldAt cX1_fieldAt 5 (some .int) ∈ jT := jT_of 545 (by decide +kernel) rfl
theorem ciX1_fieldAt : Cond.initialized yX1_fieldAt.cls ∈ jT := jT_of 89 (by decide +kernel) rfl
theorem cnX1_fieldAt : Cond.instanceMethod yX1_fieldAt ∈ jT := jT_of 544 (by decide +kernel) rfl
theorem clX1_fieldAt : Cond.selects yX1_fieldAt.cls yX1_fieldAt yX1_fieldAt ∈ jT := jT_of 29 (by decide +kernel) rfl
theorem kX4_217 : jM RX4 217 yX1_fieldAt cX1_fieldAt 5 (some .int) 1 ∧ Cond.instanceMethod yX1_fieldAt ∈ jT ∧ Cond.selects yX1_fieldAt.cls yX1_fieldAt yX1_fieldAt ∈ jT := ⟨⟨cfX1_fieldAt, ciX1_fieldAt, ⟨by decide, by decide⟩, by decide +kernel, by decide, Or.inr ⟨"AcreBuys", jNest_of 542 (by decide +kernel) rfl⟩⟩, cnX1_fieldAt, clX1_fieldAt⟩
theorem cfX0_dearestLast : Cond.code yX0_dearestLast cX0_dearestLast 6 (some .int) ∈ jT := jT_of 562 (by decide +kernel) rfl
theorem ciX0_dearestLast : Cond.initialized yX0_dearestLast.cls ∈ jT := jT_of 88 (by decide +kernel) rfl
theorem cnX0_dearestLast : Cond.instanceMethod yX0_dearestLast ∈ jT := jT_of 561 (by decide +kernel) rfl
theorem clX0_dearestLast : Cond.selects yX0_dearestLast.cls yX0_dearestLast yX0_dearestLast ∈ jT := jT_of 31 (by decide +kernel) rfl
theorem kX4_220 : jM RX4 220 yX0_dearestLast cX0_dearestLast 6 (some .int) 1 ∧ Cond.instanceMethod yX0_dearestLast ∈ jT ∧ Cond.selects yX0_dearestLast.cls yX0_dearestLast yX0_dearestLast ∈ jT := ⟨⟨cfX0_dearestLast, ciX0_dearestLast, ⟨by decide, by decide⟩, by decide +kernel, by decide, Or.inr ⟨"AcreBuys", jNest_of 559 (by decide +kernel) rfl⟩⟩, cnX0_dearestLast, clX0_dearestLast⟩
theorem cfX0_priceAsLast : Cond.code yX0_priceAsLast cX0_priceAsLast 3 (some .int) ∈ jT := jT_of 566 (by decide +kernel) rfl
theorem ciX0_priceAsLast : Cond.initialized yX0_priceAsLast.cls ∈ jT := jT_of 88 (by decide +kernel) rfl
theorem cnX0_priceAsLast : Cond.instanceMethod yX0_priceAsLast ∈ jT := jT_of 565 (by decide +kernel) rfl
theorem clX0_priceAsLast : Cond.selects yX0_priceAsLast.cls yX0_priceAsLast yX0_priceAsLast ∈ jT := jT_of 32 (by decide +kernel) rfl
theorem kX4_223 : jM RX4 223 yX0_priceAsLast cX0_priceAsLast 3 (some .int) 2 ∧ Cond.instanceMethod yX0_priceAsLast ∈ jT ∧ Cond.selects yX0_priceAsLast.cls yX0_priceAsLast yX0_priceAsLast ∈ jT := ⟨⟨cfX0_priceAsLast, ciX0_priceAsLast, ⟨by decide, by decide⟩, by decide +kernel, by decide, Or.inr ⟨"AcreBuys", jNest_of 567 (by decide +kernel) rfl⟩⟩, cnX0_priceAsLast, clX0_priceAsLast⟩
theorem cfX4_paperCost : Cond.code yX4_paperCost cX4_paperCost 1 (some .int) ∈ jT := jT_of 428 (by decide +kernel) rfl
theorem ciX4_paperCost : Cond.initialized yX4_paperCost.cls ∈ jT := jT_of 87 (by decide +kernel) rfl
theorem csX4_paperCost : Cond.static yX4_paperCost ∈ jT := jT_of 427 (by decide +kernel) rfl
theorem kX4_227 : jM RX4 227 yX4_paperCost cX4_paperCost 1 (some .int) 1 ∧ Cond.static yX4_paperCost ∈ jT := ⟨⟨cfX4_paperCost, ciX4_paperCost, ⟨by decide, by decide⟩, by decide +kernel, by decide, Or.inl (jT_of 577 (by decide +kernel) rfl)⟩, csX4_paperCost⟩
theorem cfX0_worthsIn : Cond.code yX0_worthsIn cX0_worthsIn 4 (some .int) ∈ jT := jT_of 585 (by decide +kernel) rfl
theorem ciX0_worthsIn : Cond.initialized yX0_worthsIn.cls ∈ jT := jT_of 88 (by decide +kernel) rfl
theorem cnX0_worthsIn : Cond.instanceMethod yX0_worthsIn ∈ jT := jT_of 584 (by decide +kernel) rfl
theorem clX0_worthsIn : Cond.selects yX0_worthsIn.cls yX0_worthsIn yX0_worthsIn ∈ jT := jT_of 33 (by decide +kernel) rfl
theorem kX4_230 : jM RX4 230 yX0_worthsIn cX0_worthsIn 4 (some .int) 1 ∧ Cond.instanceMethod yX0_worthsIn ∈ jT ∧ Cond.selects yX0_worthsIn.cls yX0_worthsIn yX0_worthsIn ∈ jT := ⟨⟨cfX0_worthsIn, ciX0_worthsIn, ⟨by decide, by decide⟩, by decide +kernel, by decide, Or.inr ⟨"AcreBuys", jNest_of 582 (by decide +kernel) rfl⟩⟩, cnX0_worthsIn, clX0_worthsIn⟩
theorem cfX0_quietestFirst : Cond.code yX0_quietestFirst cX0_quietestFirst 7 (some .int) ∈ jT := jT_of 597 (by decide +kernel) rfl
theorem ciX0_quietestFirst : Cond.initialized yX0_quietestFirst.cls ∈ jT := jT_of 88 (by decide +kernel) rfl
theorem cnX0_quietestFirst : Cond.instanceMethod yX0_quietestFirst ∈ jT := jT_of 596 (by decide +kernel) rfl
theorem clX0_quietestFirst : Cond.selects yX0_quietestFirst.cls yX0_quietestFirst yX0_quietestFirst ∈ jT := jT_of 34 (by decide +kernel) rfl
theorem kX4_233 : jM RX4 233 yX0_quietestFirst cX0_quietestFirst 7 (some .int) 1 ∧ Cond.instanceMethod yX0_quietestFirst ∈ jT ∧ Cond.selects yX0_quietestFirst.cls yX0_quietestFirst yX0_quietestFirst ∈ jT := ⟨⟨cfX0_quietestFirst, ciX0_quietestFirst, ⟨by decide, by decide⟩, by decide +kernel, by decide, Or.inr ⟨"AcreBuys", jNest_of 594 (by decide +kernel) rfl⟩⟩, cnX0_quietestFirst, clX0_quietestFirst⟩
theorem cfX3_add : Cond.code yX3_add cX3_add 2 none ∈ jT := jT_of 609 (by decide +kernel) rfl
theorem ciX3_add : Cond.initialized yX3_add.cls ∈ jT := jT_of 90 (by decide +kernel) rfl
theorem cnX3_add : Cond.instanceMethod yX3_add ∈ jT := jT_of 608 (by decide +kernel) rfl
theorem clX3_add : Cond.selects yX3_add.cls yX3_add yX3_add ∈ jT := jT_of 36 (by decide +kernel) rfl
theorem kX4_239 : jM RX4 239 yX3_add cX3_add 2 none 1 ∧ Cond.instanceMethod yX3_add ∈ jT ∧ Cond.selects yX3_add.cls yX3_add yX3_add ∈ jT := ⟨⟨cfX3_add, ciX3_add, ⟨by decide, by decide⟩, by decide +kernel, by decide, Or.inr ⟨"AcreBuys", jNest_of 606 (by decide +kernel) rfl⟩⟩, cnX3_add, clX3_add⟩
theorem cfX0_become : Cond.code yX0_become cX0_become 2 none ∈ jT := jT_of 621 (by decide +kernel) rfl
theorem ciX0_become : Cond.initialized yX0_become.cls ∈ jT := jT_of 88 (by decide +kernel) rfl
theorem cnX0_become : Cond.instanceMethod yX0_become ∈ jT := jT_of 620 (by decide +kernel) rfl
theorem clX0_become : Cond.selects yX0_become.cls yX0_become yX0_become ∈ jT := jT_of 37 (by decide +kernel) rfl
theorem kX4_243 : jM RX4 243 yX0_become cX0_become 2 none 1 ∧ Cond.instanceMethod yX0_become ∈ jT ∧ Cond.selects yX0_become.cls yX0_become yX0_become ∈ jT := ⟨⟨cfX0_become, ciX0_become, ⟨by decide, by decide⟩, by decide +kernel, by decide, Or.inr ⟨"AcreBuys", jNest_of 618 (by decide +kernel) rfl⟩⟩, cnX0_become, clX0_become⟩
theorem cfX4_readItems : Cond.code yX4_readItems cX4_readItems 3 (some .int) ∈ jT := jT_of 627 (by decide +kernel) rfl
theorem ciX4_readItems : Cond.initialized yX4_readItems.cls ∈ jT := jT_of 87 (by decide +kernel) rfl
theorem csX4_readItems : Cond.static yX4_readItems ∈ jT := jT_of 626 (by decide +kernel) rfl
theorem kX4_247 : jM RX4 247 yX4_readItems cX4_readItems 3 (some .int) 2 ∧ Cond.static yX4_readItems ∈ jT := ⟨⟨cfX4_readItems, ciX4_readItems, ⟨by decide, by decide⟩, by decide +kernel, by decide, Or.inl (jT_of 625 (by decide +kernel) rfl)⟩, csX4_readItems⟩
theorem cfX4_isSheet : Cond.code yX4_isSheet cX4_isSheet 1 (some .boolean) ∈ jT := jT_of 741 (by decide +kernel) rfl
theorem ciX4_isSheet : Cond.initialized yX4_isSheet.cls ∈ jT := jT_of 87 (by decide +kernel) rfl
theorem csX4_isSheet : Cond.static yX4_isSheet ∈ jT := jT_of 740 (by decide +kernel) rfl
theorem kX4_251 : jM RX4 251 yX4_isSheet cX4_isSheet 1 (some .boolean) 1 ∧ Cond.static yX4_isSheet ∈ jT := ⟨⟨cfX4_isSheet, ciX4_isSheet, ⟨by decide, by decide⟩, by decide +kernel, by decide, Or.inl (jT_of 739 (by decide +kernel) rfl)⟩, csX4_isSheet⟩
theorem cfX2_lay : Cond.code yX2_lay cX2_lay 3 none ∈ jT := jT_of 745 (by decide +kernel) rfl
theorem ciX2_lay : Cond.initialized yX2_lay.cls ∈ jT := jT_of 91 (by decide +kernel) rfl
theorem cnX2_lay : Cond.instanceMethod yX2_lay ∈ jT := jT_of 744 (by decide +kernel) rfl
theorem clX2_lay : Cond.selects yX2_lay.cls yX2_lay yX2_lay ∈ jT := jT_of 43 (by decide +kernel) rfl
theorem kX4_255 : jM RX4 255 yX2_lay cX2_lay 3 none 2 ∧ Cond.instanceMethod yX2_lay ∈ jT ∧ Cond.selects yX2_lay.cls yX2_lay yX2_lay ∈ jT := ⟨⟨cfX2_lay, ciX2_lay, ⟨by decide, by decide⟩, by decide +kernel, by decide, Or.inr ⟨"AcreBuys", jNest_of 742 (by decide +kernel) rfl⟩⟩, cnX2_lay, clX2_lay⟩
theorem cfX4_sheetFault : Cond.code yX4_sheetFault cX4_sheetFault 2 (some .int) ∈ jT := jT_of 756 (by decide +kernel) rfl
theorem ciX4_sheetFault : Cond.initialized yX4_sheetFault.cls ∈ jT := jT_of 87 (by decide +kernel) rfl
theorem cnX4_sheetFault : Cond.instanceMethod yX4_sheetFault ∈ jT := jT_of 755 (by decide +kernel) rfl
theorem clX4_sheetFault : Cond.selects yX4_sheetFault.cls yX4_sheetFault yX4_sheetFault ∈ jT := jT_of 44 (by decide +kernel) rfl
theorem kX4_259 : jM RX4 259 yX4_sheetFault cX4_sheetFault 2 (some .int) 1 ∧ Cond.instanceMethod yX4_sheetFault ∈ jT ∧ Cond.selects yX4_sheetFault.cls yX4_sheetFault yX4_sheetFault ∈ jT := ⟨⟨cfX4_sheetFault, ciX4_sheetFault, ⟨by decide, by decide⟩, by decide +kernel, by decide, Or.inl (jT_of 753 (by decide +kernel) rfl)⟩, cnX4_sheetFault, clX4_sheetFault⟩
theorem cfX2_put : Cond.code yX2_put cX2_put 6 (some .long) ∈ jT := jT_of 765 (by decide +kernel) rfl
theorem ciX2_put : Cond.initialized yX2_put.cls ∈ jT := jT_of 91 (by decide +kernel) rfl
theorem cnX2_put : Cond.instanceMethod yX2_put ∈ jT := jT_of 764 (by decide +kernel) rfl
theorem clX2_put : Cond.selects yX2_put.cls yX2_put yX2_put ∈ jT := jT_of 46 (by decide +kernel) rfl
theorem kX4_262 : jM RX4 262 yX2_put cX2_put 6 (some .long) 2 ∧ Cond.instanceMethod yX2_put ∈ jT ∧ Cond.selects yX2_put.cls yX2_put yX2_put ∈ jT := ⟨⟨cfX2_put, ciX2_put, ⟨by decide, by decide⟩, by decide +kernel, by decide, Or.inr ⟨"AcreBuys", jNest_of 762 (by decide +kernel) rfl⟩⟩, cnX2_put, clX2_put⟩
theorem cfX2_isMissing : Cond.code yX2_isMissing cX2_isMissing 1 (some .boolean) ∈ jT := jT_of 760 (by decide +kernel) rfl
theorem ciX2_isMissing : Cond.initialized yX2_isMissing.cls ∈ jT := jT_of 91 (by decide +kernel) rfl
theorem cnX2_isMissing : Cond.instanceMethod yX2_isMissing ∈ jT := jT_of 759 (by decide +kernel) rfl
theorem clX2_isMissing : Cond.selects yX2_isMissing.cls yX2_isMissing yX2_isMissing ∈ jT := jT_of 45 (by decide +kernel) rfl
theorem kX4_266 : jM RX4 266 yX2_isMissing cX2_isMissing 1 (some .boolean) 0 ∧ Cond.instanceMethod yX2_isMissing ∈ jT ∧ Cond.selects yX2_isMissing.cls yX2_isMissing yX2_isMissing ∈ jT := ⟨⟨cfX2_isMissing, ciX2_isMissing, ⟨by decide, by decide⟩, by decide +kernel, by decide, Or.inr ⟨"AcreBuys", jNest_of 757 (by decide +kernel) rfl⟩⟩, cnX2_isMissing, clX2_isMissing⟩
theorem cfX2_holds : Cond.code yX2_holds cX2_holds 3 (some .boolean) ∈ jT := jT_of 773 (by decide +kernel) rfl
theorem ciX2_holds : Cond.initialized yX2_holds.cls ∈ jT := jT_of 91 (by decide +kernel) rfl
theorem cnX2_holds : Cond.instanceMethod yX2_holds ∈ jT := jT_of 772 (by decide +kernel) rfl
theorem clX2_holds : Cond.selects yX2_holds.cls yX2_holds yX2_holds ∈ jT := jT_of 47 (by decide +kernel) rfl
theorem kX4_274 : jM RX4 274 yX2_holds cX2_holds 3 (some .boolean) 2 ∧ Cond.instanceMethod yX2_holds ∈ jT ∧ Cond.selects yX2_holds.cls yX2_holds yX2_holds ∈ jT := ⟨⟨cfX2_holds, ciX2_holds, ⟨by decide, by decide⟩, by decide +kernel, by decide, Or.inr ⟨"AcreBuys", jNest_of 770 (by decide +kernel) rfl⟩⟩, cnX2_holds, clX2_holds⟩
theorem kX4_281 : Cond.methodLink RX4 281 arraycopyName ∈ jT := jT_of 774 (by decide +kernel) rfl
theorem cfX0_fieldTold : Cond.code yX0_fieldTold cX0_fieldTold 3 (some .int) ∈ jT := jT_of 782 (by decide +kernel) rfl
theorem ciX0_fieldTold : Cond.initialized yX0_fieldTold.cls ∈ jT := jT_of 88 (by decide +kernel) rfl
theorem cnX0_fieldTold : Cond.instanceMethod yX0_fieldTold ∈ jT := jT_of 781 (by decide +kernel) rfl
theorem clX0_fieldTold : Cond.selects yX0_fieldTold.cls yX0_fieldTold yX0_fieldTold ∈ jT := jT_of 48 (by decide +kernel) rfl
theorem kX4_287 : jM RX4 287 yX0_fieldTold cX0_fieldTold 3 (some .int) 1 ∧ Cond.instanceMethod yX0_fieldTold ∈ jT ∧ Cond.selects yX0_fieldTold.cls yX0_fieldTold yX0_fieldTold ∈ jT := ⟨⟨cfX0_fieldTold, ciX0_fieldTold, ⟨by decide, by decide⟩, by decide +kernel, by decide, Or.inr ⟨"AcreBuys", jNest_of 779 (by decide +kernel) rfl⟩⟩, cnX0_fieldTold, clX0_fieldTold⟩
theorem cfX0_allWary : Cond.code yX0_allWary cX0_allWary 3 (some .int) ∈ jT := jT_of 811 (by decide +kernel) rfl
theorem ciX0_allWary : Cond.initialized yX0_allWary.cls ∈ jT := jT_of 88 (by decide +kernel) rfl
theorem cnX0_allWary : Cond.instanceMethod yX0_allWary ∈ jT := jT_of 810 (by decide +kernel) rfl
theorem clX0_allWary : Cond.selects yX0_allWary.cls yX0_allWary yX0_allWary ∈ jT := jT_of 49 (by decide +kernel) rfl
theorem kX4_293 : jM RX4 293 yX0_allWary cX0_allWary 3 (some .int) 0 ∧ Cond.instanceMethod yX0_allWary ∈ jT ∧ Cond.selects yX0_allWary.cls yX0_allWary yX0_allWary ∈ jT := ⟨⟨cfX0_allWary, ciX0_allWary, ⟨by decide, by decide⟩, by decide +kernel, by decide, Or.inr ⟨"AcreBuys", jNest_of 808 (by decide +kernel) rfl⟩⟩, cnX0_allWary, clX0_allWary⟩
theorem kX4_299 : Cond.methodLink RX4 299 Lib.Math.min.name ∈ jT := jT_of 352 (by decide +kernel) rfl
theorem kX4_304 : Cond.methodLink RX4 304 Lib.Math.max.name ∈ jT := jT_of 429 (by decide +kernel) rfl
theorem cfX3_start : Cond.code yX3_start cX3_start 1 none ∈ jT := jT_of 631 (by decide +kernel) rfl
theorem ciX3_start : Cond.initialized yX3_start.cls ∈ jT := jT_of 90 (by decide +kernel) rfl
theorem cnX3_start : Cond.instanceMethod yX3_start ∈ jT := jT_of 630 (by decide +kernel) rfl
theorem clX3_start : Cond.selects yX3_start.cls yX3_start yX3_start ∈ jT := jT_of 38 (by decide +kernel) rfl
theorem kX4_307 : jM RX4 307 yX3_start cX3_start 1 none 0 ∧ Cond.instanceMethod yX3_start ∈ jT ∧ Cond.selects yX3_start.cls yX3_start yX3_start ∈ jT := ⟨⟨cfX3_start, ciX3_start, ⟨by decide, by decide⟩, by decide +kernel, by decide, Or.inr ⟨"AcreBuys", jNest_of 628 (by decide +kernel) rfl⟩⟩, cnX3_start, clX3_start⟩
theorem cfX4_readItem : Cond.code yX4_readItem cX4_readItem 3 (some .boolean) ∈ jT := jT_of 647 (by decide +kernel) rfl
theorem ciX4_readItem : Cond.initialized yX4_readItem.cls ∈ jT := jT_of 87 (by decide +kernel) rfl
theorem csX4_readItem : Cond.static yX4_readItem ∈ jT := jT_of 646 (by decide +kernel) rfl
theorem kX4_310 : jM RX4 310 yX4_readItem cX4_readItem 3 (some .boolean) 2 ∧ Cond.static yX4_readItem ∈ jT := ⟨⟨cfX4_readItem, ciX4_readItem, ⟨by decide, by decide⟩, by decide +kernel, by decide, Or.inl (jT_of 645 (by decide +kernel) rfl)⟩, csX4_readItem⟩
theorem cfX3_next : Cond.code yX3_next cX3_next 2 none ∈ jT := jT_of 635 (by decide +kernel) rfl
theorem ciX3_next : Cond.initialized yX3_next.cls ∈ jT := jT_of 90 (by decide +kernel) rfl
theorem cnX3_next : Cond.instanceMethod yX3_next ∈ jT := jT_of 634 (by decide +kernel) rfl
theorem clX3_next : Cond.selects yX3_next.cls yX3_next yX3_next ∈ jT := jT_of 39 (by decide +kernel) rfl
theorem kX4_320 : jM RX4 320 yX3_next cX3_next 2 none 0 ∧ Cond.instanceMethod yX3_next ∈ jT ∧ Cond.selects yX3_next.cls yX3_next yX3_next ∈ jT := ⟨⟨cfX3_next, ciX3_next, ⟨by decide, by decide⟩, by decide +kernel, by decide, Or.inr ⟨"AcreBuys", jNest_of 707 (by decide +kernel) rfl⟩⟩, cnX3_next, clX3_next⟩
theorem cfX3_isWord : Cond.code yX3_isWord cX3_isWord 3 (some .boolean) ∈ jT := jT_of 652 (by decide +kernel) rfl
theorem ciX3_isWord : Cond.initialized yX3_isWord.cls ∈ jT := jT_of 90 (by decide +kernel) rfl
theorem cnX3_isWord : Cond.instanceMethod yX3_isWord ∈ jT := jT_of 651 (by decide +kernel) rfl
theorem clX3_isWord : Cond.selects yX3_isWord.cls yX3_isWord yX3_isWord ∈ jT := jT_of 42 (by decide +kernel) rfl
theorem kX4_325 : jM RX4 325 yX3_isWord cX3_isWord 3 (some .boolean) 1 ∧ Cond.instanceMethod yX3_isWord ∈ jT ∧ Cond.selects yX3_isWord.cls yX3_isWord yX3_isWord ∈ jT := ⟨⟨cfX3_isWord, ciX3_isWord, ⟨by decide, by decide⟩, by decide +kernel, by decide, Or.inr ⟨"AcreBuys", jNest_of 649 (by decide +kernel) rfl⟩⟩, cnX3_isWord, clX3_isWord⟩
theorem cfX4_readStrip : Cond.code yX4_readStrip cX4_readStrip 4 (some .boolean) ∈ jT := jT_of 703 (by decide +kernel) rfl
theorem ciX4_readStrip : Cond.initialized yX4_readStrip.cls ∈ jT := jT_of 87 (by decide +kernel) rfl
theorem csX4_readStrip : Cond.static yX4_readStrip ∈ jT := jT_of 702 (by decide +kernel) rfl
theorem kX4_329 : jM RX4 329 yX4_readStrip cX4_readStrip 4 (some .boolean) 2 ∧ Cond.static yX4_readStrip ∈ jT := ⟨⟨cfX4_readStrip, ciX4_readStrip, ⟨by decide, by decide⟩, by decide +kernel, by decide, Or.inl (jT_of 701 (by decide +kernel) rfl)⟩, csX4_readStrip⟩
theorem cfX4_kindName : Cond.code yX4_kindName cX4_kindName 1 (some (.object "java/lang/String")) ∈ jT := jT_of 714 (by decide +kernel) rfl
theorem ciX4_kindName : Cond.initialized yX4_kindName.cls ∈ jT := jT_of 87 (by decide +kernel) rfl
theorem csX4_kindName : Cond.static yX4_kindName ∈ jT := jT_of 713 (by decide +kernel) rfl
theorem kX4_332 : jM RX4 332 yX4_kindName cX4_kindName 1 (some (.object "java/lang/String")) 1 ∧ Cond.static yX4_kindName ∈ jT := ⟨⟨cfX4_kindName, ciX4_kindName, ⟨by decide, by decide⟩, by decide +kernel, by decide, Or.inl (jT_of 712 (by decide +kernel) rfl)⟩, csX4_kindName⟩
theorem cfX4_readField : Cond.code yX4_readField cX4_readField 5 (some .boolean) ∈ jT := jT_of 724 (by decide +kernel) rfl
theorem ciX4_readField : Cond.initialized yX4_readField.cls ∈ jT := jT_of 87 (by decide +kernel) rfl
theorem csX4_readField : Cond.static yX4_readField ∈ jT := jT_of 723 (by decide +kernel) rfl
theorem kX4_336 : jM RX4 336 yX4_readField cX4_readField 5 (some .boolean) 3 ∧ Cond.static yX4_readField ∈ jT := ⟨⟨cfX4_readField, ciX4_readField, ⟨by decide, by decide⟩, by decide +kernel, by decide, Or.inl (jT_of 722 (by decide +kernel) rfl)⟩, csX4_readField⟩
theorem cfX4_ruleName : Cond.code yX4_ruleName cX4_ruleName 1 (some (.object "java/lang/String")) ∈ jT := jT_of 729 (by decide +kernel) rfl
theorem ciX4_ruleName : Cond.initialized yX4_ruleName.cls ∈ jT := jT_of 87 (by decide +kernel) rfl
theorem csX4_ruleName : Cond.static yX4_ruleName ∈ jT := jT_of 728 (by decide +kernel) rfl
theorem kX4_340 : jM RX4 340 yX4_ruleName cX4_ruleName 1 (some (.object "java/lang/String")) 1 ∧ Cond.static yX4_ruleName ∈ jT := ⟨⟨cfX4_ruleName, ciX4_ruleName, ⟨by decide, by decide⟩, by decide +kernel, by decide, Or.inl (jT_of 727 (by decide +kernel) rfl)⟩, csX4_ruleName⟩
theorem cfX4_readInto : Cond.code yX4_readInto cX4_readInto 5 (some .boolean) ∈ jT := jT_of 711 (by decide +kernel) rfl
theorem ciX4_readInto : Cond.initialized yX4_readInto.cls ∈ jT := jT_of 87 (by decide +kernel) rfl
theorem csX4_readInto : Cond.static yX4_readInto ∈ jT := jT_of 710 (by decide +kernel) rfl
theorem kX4_343 : jM RX4 343 yX4_readInto cX4_readInto 5 (some .boolean) 5 ∧ Cond.static yX4_readInto ∈ jT := ⟨⟨cfX4_readInto, ciX4_readInto, ⟨by decide, by decide⟩, by decide +kernel, by decide, Or.inl (jT_of 709 (by decide +kernel) rfl)⟩, csX4_readInto⟩
theorem cfX4_readSet : Cond.code yX4_readSet cX4_readSet 4 (some .int) ∈ jT := jT_of 706 (by decide +kernel) rfl
theorem ciX4_readSet : Cond.initialized yX4_readSet.cls ∈ jT := jT_of 87 (by decide +kernel) rfl
theorem csX4_readSet : Cond.static yX4_readSet ∈ jT := jT_of 705 (by decide +kernel) rfl
theorem kX4_349 : jM RX4 349 yX4_readSet cX4_readSet 4 (some .int) 2 ∧ Cond.static yX4_readSet ∈ jT := ⟨⟨cfX4_readSet, ciX4_readSet, ⟨by decide, by decide⟩, by decide +kernel, by decide, Or.inl (jT_of 704 (by decide +kernel) rfl)⟩, csX4_readSet⟩
theorem kX0_3 : Cond.methodLink RX0 3 objectInit ∈ jT := jT_of 114 (by decide +kernel) rfl
theorem kX0_46 : Cond.methodLink RX0 46 arraycopyName ∈ jT := jT_of 622 (by decide +kernel) rfl
theorem kX0_71 : jM RX0 71 yX4_isWithin cX4_isWithin 3 (some .boolean) 3 ∧ Cond.static yX4_isWithin ∈ jT := ⟨⟨cfX4_isWithin, ciX4_isWithin, ⟨by decide, by decide⟩, by decide +kernel, by decide, Or.inr ⟨"AcreBuys", jNest_of 312 (by decide +kernel) rfl⟩⟩, csX4_isWithin⟩
theorem kX0_75 : jM RX0 75 yX0_allFields cX0_allFields 1 (some .int) 0 ∧ Cond.instanceMethod yX0_allFields ∈ jT ∧ Cond.selects yX0_allFields.cls yX0_allFields yX0_allFields ∈ jT := ⟨⟨cfX0_allFields, ciX0_allFields, ⟨by decide, by decide⟩, by decide +kernel, by decide, Or.inl (jT_of 397 (by decide +kernel) rfl)⟩, cnX0_allFields, clX0_allFields⟩
theorem kX0_79 : jM RX0 79 yX0_freeIn cX0_freeIn 2 (some .int) 1 ∧ Cond.instanceMethod yX0_freeIn ∈ jT ∧ Cond.selects yX0_freeIn.cls yX0_freeIn yX0_freeIn ∈ jT := ⟨⟨cfX0_freeIn, ciX0_freeIn, ⟨by decide, by decide⟩, by decide +kernel, by decide, Or.inl (jT_of 393 (by decide +kernel) rfl)⟩, cnX0_freeIn, clX0_freeIn⟩
theorem kX0_83 : jM RX0 83 yX4_isIn cX4_isIn 2 (some .boolean) 2 ∧ Cond.static yX4_isIn ∈ jT := ⟨⟨cfX4_isIn, ciX4_isIn, ⟨by decide, by decide⟩, by decide +kernel, by decide, Or.inr ⟨"AcreBuys", jNest_of 317 (by decide +kernel) rfl⟩⟩, csX4_isIn⟩
theorem cfX0_tellersOf : Cond.code yX0_tellersOf cX0_tellersOf 4 (some .int) ∈ jT := jT_of 335 (by decide +kernel) rfl
theorem ciX0_tellersOf : Cond.initialized yX0_tellersOf.cls ∈ jT := jT_of 88 (by decide +kernel) rfl
theorem cnX0_tellersOf : Cond.instanceMethod yX0_tellersOf ∈ jT := jT_of 334 (by decide +kernel) rfl
theorem clX0_tellersOf : Cond.selects yX0_tellersOf.cls yX0_tellersOf yX0_tellersOf ∈ jT := jT_of 7 (by decide +kernel) rfl
theorem kX0_87 : jM RX0 87 yX0_tellersOf cX0_tellersOf 4 (some .int) 1 ∧ Cond.instanceMethod yX0_tellersOf ∈ jT ∧ Cond.selects yX0_tellersOf.cls yX0_tellersOf yX0_tellersOf ∈ jT := ⟨⟨cfX0_tellersOf, ciX0_tellersOf, ⟨by decide, by decide⟩, by decide +kernel, by decide, Or.inl (jT_of 332 (by decide +kernel) rfl)⟩, cnX0_tellersOf, clX0_tellersOf⟩
theorem kX0_90 : jM RX0 90 yJ6_bitCount_0f7a4 cJ6_bitCount_0f7a4 1 (some .int) 1 ∧ Cond.static yJ6_bitCount_0f7a4 ∈ jT := ⟨⟨cfJ6_bitCount_0f7a4, ciJ6_bitCount_0f7a4, ⟨by decide, by decide⟩, by decide +kernel, by decide, Or.inl (jT_of 336 (by decide +kernel) rfl)⟩, csJ6_bitCount_0f7a4⟩
theorem cfX4_priceOf : Cond.code yX4_priceOf cX4_priceOf 7 (some .int) ∈ jT := jT_of 348 (by decide +kernel) rfl
theorem ciX4_priceOf : Cond.initialized yX4_priceOf.cls ∈ jT := jT_of 87 (by decide +kernel) rfl
theorem csX4_priceOf : Cond.static yX4_priceOf ∈ jT := jT_of 347 (by decide +kernel) rfl
theorem kX0_95 : jM RX0 95 yX4_priceOf cX4_priceOf 7 (some .int) 4 ∧ Cond.static yX4_priceOf ∈ jT := ⟨⟨cfX4_priceOf, ciX4_priceOf, ⟨by decide, by decide⟩, by decide +kernel, by decide, Or.inr ⟨"AcreBuys", jNest_of 346 (by decide +kernel) rfl⟩⟩, csX4_priceOf⟩
theorem kX0_99 : jM RX0 99 yX0_heardBy cX0_heardBy 3 (some .int) 2 ∧ Cond.instanceMethod yX0_heardBy ∈ jT ∧ Cond.selects yX0_heardBy.cls yX0_heardBy yX0_heardBy ∈ jT := ⟨⟨cfX0_heardBy, ciX0_heardBy, ⟨by decide, by decide⟩, by decide +kernel, by decide, Or.inl (jT_of 328 (by decide +kernel) rfl)⟩, cnX0_heardBy, clX0_heardBy⟩
theorem cfX0_priceHearing : Cond.code yX0_priceHearing cX0_priceHearing 3 (some .int) ∈ jT := jT_of 345 (by decide +kernel) rfl
theorem ciX0_priceHearing : Cond.initialized yX0_priceHearing.cls ∈ jT := jT_of 88 (by decide +kernel) rfl
theorem cnX0_priceHearing : Cond.instanceMethod yX0_priceHearing ∈ jT := jT_of 344 (by decide +kernel) rfl
theorem clX0_priceHearing : Cond.selects yX0_priceHearing.cls yX0_priceHearing yX0_priceHearing ∈ jT := jT_of 8 (by decide +kernel) rfl
theorem kX0_103 : jM RX0 103 yX0_priceHearing cX0_priceHearing 3 (some .int) 2 ∧ Cond.instanceMethod yX0_priceHearing ∈ jT ∧ Cond.selects yX0_priceHearing.cls yX0_priceHearing yX0_priceHearing ∈ jT := ⟨⟨cfX0_priceHearing, ciX0_priceHearing, ⟨by decide, by decide⟩, by decide +kernel, by decide, Or.inl (jT_of 342 (by decide +kernel) rfl)⟩, cnX0_priceHearing, clX0_priceHearing⟩
theorem kX0_106 : jM RX0 106 yX0_priceBy cX0_priceBy 3 (some .int) 2 ∧ Cond.instanceMethod yX0_priceBy ∈ jT ∧ Cond.selects yX0_priceBy.cls yX0_priceBy yX0_priceBy ∈ jT := ⟨⟨cfX0_priceBy, ciX0_priceBy, ⟨by decide, by decide⟩, by decide +kernel, by decide, Or.inl (jT_of 324 (by decide +kernel) rfl)⟩, cnX0_priceBy, clX0_priceBy⟩
theorem cfX0_dropPaper : Cond.code yX0_dropPaper cX0_dropPaper 2 none ∈ jT := jT_of 414 (by decide +kernel) rfl
theorem ciX0_dropPaper : Cond.initialized yX0_dropPaper.cls ∈ jT := jT_of 88 (by decide +kernel) rfl
theorem cnX0_dropPaper : Cond.instanceMethod yX0_dropPaper ∈ jT := jT_of 413 (by decide +kernel) rfl
theorem clX0_dropPaper : Cond.selects yX0_dropPaper.cls yX0_dropPaper yX0_dropPaper ∈ jT := jT_of 14 (by decide +kernel) rfl
theorem kX0_109 : jM RX0 109 yX0_dropPaper cX0_dropPaper 2 none 1 ∧ Cond.instanceMethod yX0_dropPaper ∈ jT ∧ Cond.selects yX0_dropPaper.cls yX0_dropPaper yX0_dropPaper ∈ jT := ⟨⟨cfX0_dropPaper, ciX0_dropPaper, ⟨by decide, by decide⟩, by decide +kernel, by decide, Or.inl (jT_of 411 (by decide +kernel) rfl)⟩, cnX0_dropPaper, clX0_dropPaper⟩
theorem kX0_113 : jM RX0 113 yX0_priceNow cX0_priceNow 2 (some .int) 1 ∧ Cond.instanceMethod yX0_priceNow ∈ jT ∧ Cond.selects yX0_priceNow.cls yX0_priceNow yX0_priceNow ∈ jT := ⟨⟨cfX0_priceNow, ciX0_priceNow, ⟨by decide, by decide⟩, by decide +kernel, by decide, Or.inl (jT_of 406 (by decide +kernel) rfl)⟩, cnX0_priceNow, clX0_priceNow⟩
theorem kX0_116 : jM RX0 116 yX0_buy cX0_buy 3 none 2 ∧ Cond.instanceMethod yX0_buy ∈ jT ∧ Cond.selects yX0_buy.cls yX0_buy yX0_buy ∈ jT := ⟨⟨cfX0_buy, ciX0_buy, ⟨by decide, by decide⟩, by decide +kernel, by decide, Or.inl (jT_of 407 (by decide +kernel) rfl)⟩, cnX0_buy, clX0_buy⟩
theorem kX0_120 : jM RX0 120 yX4_wareOf cX4_wareOf 2 (some .int) 2 ∧ Cond.static yX4_wareOf ∈ jT := ⟨⟨cfX4_wareOf, ciX4_wareOf, ⟨by decide, by decide⟩, by decide +kernel, by decide, Or.inr ⟨"AcreBuys", jNest_of 415 (by decide +kernel) rfl⟩⟩, csX4_wareOf⟩
theorem kX0_123 : jM RX0 123 yX4_paperCost cX4_paperCost 1 (some .int) 1 ∧ Cond.static yX4_paperCost ∈ jT := ⟨⟨cfX4_paperCost, ciX4_paperCost, ⟨by decide, by decide⟩, by decide +kernel, by decide, Or.inr ⟨"AcreBuys", jNest_of 426 (by decide +kernel) rfl⟩⟩, csX4_paperCost⟩
theorem kX0_127 : jM RX0 127 yX0_isFree cX0_isFree 2 (some .boolean) 1 ∧ Cond.instanceMethod yX0_isFree ∈ jT ∧ Cond.selects yX0_isFree.cls yX0_isFree yX0_isFree ∈ jT := ⟨⟨cfX0_isFree, ciX0_isFree, ⟨by decide, by decide⟩, by decide +kernel, by decide, Or.inl (jT_of 459 (by decide +kernel) rfl)⟩, cnX0_isFree, clX0_isFree⟩
theorem kX0_131 : jM RX0 131 yX0_missingOf cX0_missingOf 2 (some .int) 1 ∧ Cond.instanceMethod yX0_missingOf ∈ jT ∧ Cond.selects yX0_missingOf.cls yX0_missingOf yX0_missingOf ∈ jT := ⟨⟨cfX0_missingOf, ciX0_missingOf, ⟨by decide, by decide⟩, by decide +kernel, by decide, Or.inl (jT_of 494 (by decide +kernel) rfl)⟩, cnX0_missingOf, clX0_missingOf⟩
theorem kX0_134 : jM RX0 134 yX0_priceAsLast cX0_priceAsLast 3 (some .int) 2 ∧ Cond.instanceMethod yX0_priceAsLast ∈ jT ∧ Cond.selects yX0_priceAsLast.cls yX0_priceAsLast yX0_priceAsLast ∈ jT := ⟨⟨cfX0_priceAsLast, ciX0_priceAsLast, ⟨by decide, by decide⟩, by decide +kernel, by decide, Or.inl (jT_of 563 (by decide +kernel) rfl)⟩, cnX0_priceAsLast, clX0_priceAsLast⟩
theorem cfX0_pricesIn : Cond.code yX0_pricesIn cX0_pricesIn 5 (some .int) ∈ jT := jT_of 601 (by decide +kernel) rfl
theorem ciX0_pricesIn : Cond.initialized yX0_pricesIn.cls ∈ jT := jT_of 88 (by decide +kernel) rfl
theorem cnX0_pricesIn : Cond.instanceMethod yX0_pricesIn ∈ jT := jT_of 600 (by decide +kernel) rfl
theorem clX0_pricesIn : Cond.selects yX0_pricesIn.cls yX0_pricesIn yX0_pricesIn ∈ jT := jT_of 35 (by decide +kernel) rfl
theorem kX0_137 : jM RX0 137 yX0_pricesIn cX0_pricesIn 5 (some .int) 2 ∧ Cond.instanceMethod yX0_pricesIn ∈ jT ∧ Cond.selects yX0_pricesIn.cls yX0_pricesIn yX0_pricesIn ∈ jT := ⟨⟨cfX0_pricesIn, ciX0_pricesIn, ⟨by decide, by decide⟩, by decide +kernel, by decide, Or.inl (jT_of 598 (by decide +kernel) rfl)⟩, cnX0_pricesIn, clX0_pricesIn⟩
theorem kX1_3 : Cond.methodLink RX1 3 objectInit ∈ jT := jT_of 192 (by decide +kernel) rfl
theorem cfX1_layRow : Cond.code yX1_layRow cX1_layRow 7 none ∈ jT := jT_of 527 (by decide +kernel) rfl
theorem ciX1_layRow : Cond.initialized yX1_layRow.cls ∈ jT := jT_of 89 (by decide +kernel) rfl
theorem cnX1_layRow : Cond.instanceMethod yX1_layRow ∈ jT := jT_of 526 (by decide +kernel) rfl
theorem clX1_layRow : Cond.selects yX1_layRow.cls yX1_layRow yX1_layRow ∈ jT := jT_of 27 (by decide +kernel) rfl
theorem kX1_24 : jM RX1 24 yX1_layRow cX1_layRow 7 none 2 ∧ Cond.instanceMethod yX1_layRow ∈ jT ∧ Cond.selects yX1_layRow.cls yX1_layRow yX1_layRow ∈ jT := ⟨⟨cfX1_layRow, ciX1_layRow, ⟨by decide, by decide⟩, by decide +kernel, by decide, Or.inl (jT_of 524 (by decide +kernel) rfl)⟩, cnX1_layRow, clX1_layRow⟩
theorem kX1_33 : jM RX1 33 yX4_isIn cX4_isIn 2 (some .boolean) 2 ∧ Cond.static yX4_isIn ∈ jT := ⟨⟨cfX4_isIn, ciX4_isIn, ⟨by decide, by decide⟩, by decide +kernel, by decide, Or.inr ⟨"AcreBuys", jNest_of 528 (by decide +kernel) rfl⟩⟩, csX4_isIn⟩
theorem cfX1_costBy : Cond.code yX1_costBy cX1_costBy 4 (some .int) ∈ jT := jT_of 536 (by decide +kernel) rfl
theorem ciX1_costBy : Cond.initialized yX1_costBy.cls ∈ jT := jT_of 89 (by decide +kernel) rfl
theorem cnX1_costBy : Cond.instanceMethod yX1_costBy ∈ jT := jT_of 535 (by decide +kernel) rfl
theorem clX1_costBy : Cond.selects yX1_costBy.cls yX1_costBy yX1_costBy ∈ jT := jT_of 28 (by decide +kernel) rfl
theorem kX1_37 : jM RX1 37 yX1_costBy cX1_costBy 4 (some .int) 2 ∧ Cond.instanceMethod yX1_costBy ∈ jT ∧ Cond.selects yX1_costBy.cls yX1_costBy yX1_costBy ∈ jT := ⟨⟨cfX1_costBy, ciX1_costBy, ⟨by decide, by decide⟩, by decide +kernel, by decide, Or.inl (jT_of 533 (by decide +kernel) rfl)⟩, cnX1_costBy, clX1_costBy⟩
theorem kX1_41 : Cond.methodLink RX1 41 Lib.Math.min.name ∈ jT := jT_of 537 (by decide +kernel) rfl
theorem kX1_50 : jM RX1 50 yX0_tellersOf cX0_tellersOf 4 (some .int) 1 ∧ Cond.instanceMethod yX0_tellersOf ∈ jT ∧ Cond.selects yX0_tellersOf.cls yX0_tellersOf yX0_tellersOf ∈ jT := ⟨⟨cfX0_tellersOf, ciX0_tellersOf, ⟨by decide, by decide⟩, by decide +kernel, by decide, Or.inr ⟨"AcreBuys", jNest_of 529 (by decide +kernel) rfl⟩⟩, cnX0_tellersOf, clX0_tellersOf⟩
theorem kX1_57 : jM RX1 57 yJ6_bitCount_0f7a4 cJ6_bitCount_0f7a4 1 (some .int) 1 ∧ Cond.static yJ6_bitCount_0f7a4 ∈ jT := ⟨⟨cfJ6_bitCount_0f7a4, ciJ6_bitCount_0f7a4, ⟨by decide, by decide⟩, by decide +kernel, by decide, Or.inl (jT_of 530 (by decide +kernel) rfl)⟩, csJ6_bitCount_0f7a4⟩
theorem kX1_62 : jM RX1 62 yX0_priceHearing cX0_priceHearing 3 (some .int) 2 ∧ Cond.instanceMethod yX0_priceHearing ∈ jT ∧ Cond.selects yX0_priceHearing.cls yX0_priceHearing yX0_priceHearing ∈ jT := ⟨⟨cfX0_priceHearing, ciX0_priceHearing, ⟨by decide, by decide⟩, by decide +kernel, by decide, Or.inr ⟨"AcreBuys", jNest_of 531 (by decide +kernel) rfl⟩⟩, cnX0_priceHearing, clX0_priceHearing⟩
theorem kX1_65 : jM RX1 65 yX4_isWithin cX4_isWithin 3 (some .boolean) 3 ∧ Cond.static yX4_isWithin ∈ jT := ⟨⟨cfX4_isWithin, ciX4_isWithin, ⟨by decide, by decide⟩, by decide +kernel, by decide, Or.inr ⟨"AcreBuys", jNest_of 546 (by decide +kernel) rfl⟩⟩, csX4_isWithin⟩
theorem cfX1_nextOf : Cond.code yX1_nextOf cX1_nextOf 3 (some .int) ∈ jT := jT_of 550 (by decide +kernel) rfl
theorem ciX1_nextOf : Cond.initialized yX1_nextOf.cls ∈ jT := jT_of 89 (by decide +kernel) rfl
theorem cnX1_nextOf : Cond.instanceMethod yX1_nextOf ∈ jT := jT_of 549 (by decide +kernel) rfl
theorem clX1_nextOf : Cond.selects yX1_nextOf.cls yX1_nextOf yX1_nextOf ∈ jT := jT_of 30 (by decide +kernel) rfl
theorem kX1_69 : jM RX1 69 yX1_nextOf cX1_nextOf 3 (some .int) 1 ∧ Cond.instanceMethod yX1_nextOf ∈ jT ∧ Cond.selects yX1_nextOf.cls yX1_nextOf yX1_nextOf ∈ jT := ⟨⟨cfX1_nextOf, ciX1_nextOf, ⟨by decide, by decide⟩, by decide +kernel, by decide, Or.inl (jT_of 547 (by decide +kernel) rfl)⟩, cnX1_nextOf, clX1_nextOf⟩
theorem kX2_3 : Cond.methodLink RX2 3 objectInit ∈ jT := jT_of 244 (by decide +kernel) rfl
theorem cfJ7_fill_d0a16 : Cond.code yJ7_fill_d0a16 cJ7_fill_d0a16 5 none ∈ jT := jT_of 748 (by decide +kernel) rfl
theorem ciJ7_fill_d0a16 : Cond.initialized yJ7_fill_d0a16.cls ∈ jT := jT_of 100 (by decide +kernel) rfl
theorem csJ7_fill_d0a16 : Cond.static yJ7_fill_d0a16 ∈ jT := jT_of 747 (by decide +kernel) rfl
theorem kX2_22 : jM RX2 22 yJ7_fill_d0a16 cJ7_fill_d0a16 5 none 2 ∧ Cond.static yJ7_fill_d0a16 ∈ jT := ⟨⟨cfJ7_fill_d0a16, ciJ7_fill_d0a16, ⟨by decide, by decide⟩, by decide +kernel, by decide, Or.inl (jT_of 746 (by decide +kernel) rfl)⟩, csJ7_fill_d0a16⟩
theorem kX3_3 : Cond.methodLink RX3 3 objectInit ∈ jT := jT_of 214 (by decide +kernel) rfl
theorem kX3_22 : jM RX3 22 yX3_next cX3_next 2 none 0 ∧ Cond.instanceMethod yX3_next ∈ jT ∧ Cond.selects yX3_next.cls yX3_next yX3_next ∈ jT := ⟨⟨cfX3_next, ciX3_next, ⟨by decide, by decide⟩, by decide +kernel, by decide, Or.inl (jT_of 632 (by decide +kernel) rfl)⟩, cnX3_next, clX3_next⟩
theorem cfX3_tokenAt : Cond.code yX3_tokenAt cX3_tokenAt 3 (some .int) ∈ jT := jT_of 639 (by decide +kernel) rfl
theorem ciX3_tokenAt : Cond.initialized yX3_tokenAt.cls ∈ jT := jT_of 90 (by decide +kernel) rfl
theorem cnX3_tokenAt : Cond.instanceMethod yX3_tokenAt ∈ jT := jT_of 638 (by decide +kernel) rfl
theorem clX3_tokenAt : Cond.selects yX3_tokenAt.cls yX3_tokenAt yX3_tokenAt ∈ jT := jT_of 40 (by decide +kernel) rfl
theorem kX3_28 : jM RX3 28 yX3_tokenAt cX3_tokenAt 3 (some .int) 1 ∧ Cond.instanceMethod yX3_tokenAt ∈ jT ∧ Cond.selects yX3_tokenAt.cls yX3_tokenAt yX3_tokenAt ∈ jT := ⟨⟨cfX3_tokenAt, ciX3_tokenAt, ⟨by decide, by decide⟩, by decide +kernel, by decide, Or.inl (jT_of 636 (by decide +kernel) rfl)⟩, cnX3_tokenAt, clX3_tokenAt⟩
theorem cfX3_numberAtHand : Cond.code yX3_numberAtHand cX3_numberAtHand 3 (some .int) ∈ jT := jT_of 643 (by decide +kernel) rfl
theorem ciX3_numberAtHand : Cond.initialized yX3_numberAtHand.cls ∈ jT := jT_of 90 (by decide +kernel) rfl
theorem cnX3_numberAtHand : Cond.instanceMethod yX3_numberAtHand ∈ jT := jT_of 642 (by decide +kernel) rfl
theorem clX3_numberAtHand : Cond.selects yX3_numberAtHand.cls yX3_numberAtHand yX3_numberAtHand ∈ jT := jT_of 41 (by decide +kernel) rfl
theorem kX3_35 : jM RX3 35 yX3_numberAtHand cX3_numberAtHand 3 (some .int) 0 ∧ Cond.instanceMethod yX3_numberAtHand ∈ jT ∧ Cond.selects yX3_numberAtHand.cls yX3_numberAtHand yX3_numberAtHand ∈ jT := ⟨⟨cfX3_numberAtHand, ciX3_numberAtHand, ⟨by decide, by decide⟩, by decide +kernel, by decide, Or.inl (jT_of 640 (by decide +kernel) rfl)⟩, cnX3_numberAtHand, clX3_numberAtHand⟩
theorem kX3_42 : Cond.methodLink RX3 42 Lib.Math.min.name ∈ jT := jT_of 644 (by decide +kernel) rfl
theorem cfJ0_length_8abf5 : Cond.code yJ0_length_8abf5 cJ0_length_8abf5 1 (some .int) ∈ jT := jT_of 656 (by decide +kernel) rfl
theorem ciJ0_length_8abf5 : Cond.initialized yJ0_length_8abf5.cls ∈ jT := jT_of 96 (by decide +kernel) rfl
theorem cnJ0_length_8abf5 : Cond.instanceMethod yJ0_length_8abf5 ∈ jT := jT_of 654 (by decide +kernel) rfl
theorem clJ0_length_8abf5 : Cond.selects yJ0_length_8abf5.cls yJ0_length_8abf5 yJ0_length_8abf5 ∈ jT := jT_of 655 (by decide +kernel) rfl
theorem kX3_48 : jM RX3 48 yJ0_length_8abf5 cJ0_length_8abf5 1 (some .int) 0 ∧ Cond.instanceMethod yJ0_length_8abf5 ∈ jT ∧ Cond.selects yJ0_length_8abf5.cls yJ0_length_8abf5 yJ0_length_8abf5 ∈ jT := ⟨⟨cfJ0_length_8abf5, ciJ0_length_8abf5, ⟨by decide, by decide⟩, by decide +kernel, by decide, Or.inl (jT_of 653 (by decide +kernel) rfl)⟩, cnJ0_length_8abf5, clJ0_length_8abf5⟩
theorem cfJ0_charAt_5068e : Cond.code yJ0_charAt_5068e cJ0_charAt_5068e 2 (some .char) ∈ jT := jT_of 666 (by decide +kernel) rfl
theorem ciJ0_charAt_5068e : Cond.initialized yJ0_charAt_5068e.cls ∈ jT := jT_of 96 (by decide +kernel) rfl
theorem cnJ0_charAt_5068e : Cond.instanceMethod yJ0_charAt_5068e ∈ jT := jT_of 664 (by decide +kernel) rfl
theorem clJ0_charAt_5068e : Cond.selects yJ0_charAt_5068e.cls yJ0_charAt_5068e yJ0_charAt_5068e ∈ jT := jT_of 665 (by decide +kernel) rfl
theorem kX3_53 : jM RX3 53 yJ0_charAt_5068e cJ0_charAt_5068e 2 (some .char) 1 ∧ Cond.instanceMethod yJ0_charAt_5068e ∈ jT ∧ Cond.selects yJ0_charAt_5068e.cls yJ0_charAt_5068e yJ0_charAt_5068e ∈ jT := ⟨⟨cfJ0_charAt_5068e, ciJ0_charAt_5068e, ⟨by decide, by decide⟩, by decide +kernel, by decide, Or.inl (jT_of 663 (by decide +kernel) rfl)⟩, cnJ0_charAt_5068e, clJ0_charAt_5068e⟩
theorem cfX4_init : Cond.code yX4_init cX4_init 2 none ∈ jT := jT_of 105 (by decide +kernel) rfl
theorem ciX4_init : Cond.initialized yX4_init.cls ∈ jT := jT_of 87 (by decide +kernel) rfl
theorem cnX4_init : Cond.instanceMethod yX4_init ∈ jT := jT_of 104 (by decide +kernel) rfl
theorem kL_9 : jM RL 9 yX4_init cX4_init 2 none 0 ∧ Cond.instanceMethod yX4_init ∈ jT := ⟨⟨cfX4_init, ciX4_init, ⟨by decide, by decide⟩, by decide +kernel, by decide, Or.inl (jT_of 103 (by decide +kernel) rfl)⟩, cnX4_init⟩
theorem cfX5_init : Cond.code yX5_init cX5_init 1 none ∈ jT := jT_of 820 (by decide +kernel) rfl
theorem ciX5_init : Cond.initialized yX5_init.cls ∈ jT := jT_of 92 (by decide +kernel) rfl
theorem cnX5_init : Cond.instanceMethod yX5_init ∈ jT := jT_of 819 (by decide +kernel) rfl
theorem kL_12 : jM RL 12 yX5_init cX5_init 1 none 0 ∧ Cond.instanceMethod yX5_init ∈ jT := ⟨⟨cfX5_init, ciX5_init, ⟨by decide, by decide⟩, by decide +kernel, by decide, Or.inl (jT_of 818 (by decide +kernel) rfl)⟩, cnX5_init⟩
theorem cfX4_field : Cond.code yX4_field cX4_field 3 (some .int) ∈ jT := jT_of 287 (by decide +kernel) rfl
theorem ciX4_field : Cond.initialized yX4_field.cls ∈ jT := jT_of 87 (by decide +kernel) rfl
theorem cnX4_field : Cond.instanceMethod yX4_field ∈ jT := jT_of 285 (by decide +kernel) rfl
theorem clX4_field : Cond.selects yX4_field.cls yX4_field yX4_field ∈ jT := jT_of 286 (by decide +kernel) rfl
theorem kL_13 : jM RL 13 yX4_field cX4_field 3 (some .int) 2 ∧ Cond.instanceMethod yX4_field ∈ jT ∧ Cond.selects yX4_field.cls yX4_field yX4_field ∈ jT := ⟨⟨cfX4_field, ciX4_field, ⟨by decide, by decide⟩, by decide +kernel, by decide, Or.inl (jT_of 284 (by decide +kernel) rfl)⟩, cnX4_field, clX4_field⟩
theorem cfX5_field : Cond.code yX5_field cX5_field 3 (some .int) ∈ jT := jT_of 892 (by decide +kernel) rfl
theorem ciX5_field : Cond.initialized yX5_field.cls ∈ jT := jT_of 92 (by decide +kernel) rfl
theorem cnX5_field : Cond.instanceMethod yX5_field ∈ jT := jT_of 890 (by decide +kernel) rfl
theorem clX5_field : Cond.selects yX5_field.cls yX5_field yX5_field ∈ jT := jT_of 891 (by decide +kernel) rfl
theorem kL_17 : jM RL 17 yX5_field cX5_field 3 (some .int) 2 ∧ Cond.instanceMethod yX5_field ∈ jT ∧ Cond.selects yX5_field.cls yX5_field yX5_field ∈ jT := ⟨⟨cfX5_field, ciX5_field, ⟨by decide, by decide⟩, by decide +kernel, by decide, Or.inl (jT_of 889 (by decide +kernel) rfl)⟩, cnX5_field, clX5_field⟩
theorem cfX4_of : Cond.code yX4_of cX4_of 3 (some .int) ∈ jT := jT_of 307 (by decide +kernel) rfl
theorem ciX4_of : Cond.initialized yX4_of.cls ∈ jT := jT_of 87 (by decide +kernel) rfl
theorem cnX4_of : Cond.instanceMethod yX4_of ∈ jT := jT_of 305 (by decide +kernel) rfl
theorem clX4_of : Cond.selects yX4_of.cls yX4_of yX4_of ∈ jT := jT_of 306 (by decide +kernel) rfl
theorem kL_18 : jM RL 18 yX4_of cX4_of 3 (some .int) 2 ∧ Cond.instanceMethod yX4_of ∈ jT ∧ Cond.selects yX4_of.cls yX4_of yX4_of ∈ jT := ⟨⟨cfX4_of, ciX4_of, ⟨by decide, by decide⟩, by decide +kernel, by decide, Or.inl (jT_of 304 (by decide +kernel) rfl)⟩, cnX4_of, clX4_of⟩
theorem cfX5_of : Cond.code yX5_of cX5_of 3 (some .int) ∈ jT := jT_of 915 (by decide +kernel) rfl
theorem ciX5_of : Cond.initialized yX5_of.cls ∈ jT := jT_of 92 (by decide +kernel) rfl
theorem cnX5_of : Cond.instanceMethod yX5_of ∈ jT := jT_of 913 (by decide +kernel) rfl
theorem clX5_of : Cond.selects yX5_of.cls yX5_of yX5_of ∈ jT := jT_of 914 (by decide +kernel) rfl
theorem kL_21 : jM RL 21 yX5_of cX5_of 3 (some .int) 2 ∧ Cond.instanceMethod yX5_of ∈ jT ∧ Cond.selects yX5_of.cls yX5_of yX5_of ∈ jT := ⟨⟨cfX5_of, ciX5_of, ⟨by decide, by decide⟩, by decide +kernel, by decide, Or.inl (jT_of 912 (by decide +kernel) rfl)⟩, cnX5_of, clX5_of⟩
theorem cfX4_set : Cond.code yX4_set cX4_set 4 (some .int) ∈ jT := jT_of 359 (by decide +kernel) rfl
theorem ciX4_set : Cond.initialized yX4_set.cls ∈ jT := jT_of 87 (by decide +kernel) rfl
theorem cnX4_set : Cond.instanceMethod yX4_set ∈ jT := jT_of 357 (by decide +kernel) rfl
theorem clX4_set : Cond.selects yX4_set.cls yX4_set yX4_set ∈ jT := jT_of 358 (by decide +kernel) rfl
theorem kL_22 : jM RL 22 yX4_set cX4_set 4 (some .int) 3 ∧ Cond.instanceMethod yX4_set ∈ jT ∧ Cond.selects yX4_set.cls yX4_set yX4_set ∈ jT := ⟨⟨cfX4_set, ciX4_set, ⟨by decide, by decide⟩, by decide +kernel, by decide, Or.inl (jT_of 356 (by decide +kernel) rfl)⟩, cnX4_set, clX4_set⟩
theorem cfX5_set : Cond.code yX5_set cX5_set 4 (some .int) ∈ jT := jT_of 948 (by decide +kernel) rfl
theorem ciX5_set : Cond.initialized yX5_set.cls ∈ jT := jT_of 92 (by decide +kernel) rfl
theorem cnX5_set : Cond.instanceMethod yX5_set ∈ jT := jT_of 946 (by decide +kernel) rfl
theorem clX5_set : Cond.selects yX5_set.cls yX5_set yX5_set ∈ jT := jT_of 947 (by decide +kernel) rfl
theorem kL_26 : jM RL 26 yX5_set cX5_set 4 (some .int) 3 ∧ Cond.instanceMethod yX5_set ∈ jT ∧ Cond.selects yX5_set.cls yX5_set yX5_set ∈ jT := ⟨⟨cfX5_set, ciX5_set, ⟨by decide, by decide⟩, by decide +kernel, by decide, Or.inl (jT_of 945 (by decide +kernel) rfl)⟩, cnX5_set, clX5_set⟩
theorem cfX4_as : Cond.code yX4_as cX4_as 3 (some .int) ∈ jT := jT_of 366 (by decide +kernel) rfl
theorem ciX4_as : Cond.initialized yX4_as.cls ∈ jT := jT_of 87 (by decide +kernel) rfl
theorem cnX4_as : Cond.instanceMethod yX4_as ∈ jT := jT_of 364 (by decide +kernel) rfl
theorem clX4_as : Cond.selects yX4_as.cls yX4_as yX4_as ∈ jT := jT_of 365 (by decide +kernel) rfl
theorem kL_27 : jM RL 27 yX4_as cX4_as 3 (some .int) 2 ∧ Cond.instanceMethod yX4_as ∈ jT ∧ Cond.selects yX4_as.cls yX4_as yX4_as ∈ jT := ⟨⟨cfX4_as, ciX4_as, ⟨by decide, by decide⟩, by decide +kernel, by decide, Or.inl (jT_of 363 (by decide +kernel) rfl)⟩, cnX4_as, clX4_as⟩
theorem cfX5_as : Cond.code yX5_as cX5_as 5 (some .int) ∈ jT := jT_of 959 (by decide +kernel) rfl
theorem ciX5_as : Cond.initialized yX5_as.cls ∈ jT := jT_of 92 (by decide +kernel) rfl
theorem cnX5_as : Cond.instanceMethod yX5_as ∈ jT := jT_of 957 (by decide +kernel) rfl
theorem clX5_as : Cond.selects yX5_as.cls yX5_as yX5_as ∈ jT := jT_of 958 (by decide +kernel) rfl
theorem kL_30 : jM RL 30 yX5_as cX5_as 5 (some .int) 2 ∧ Cond.instanceMethod yX5_as ∈ jT ∧ Cond.selects yX5_as.cls yX5_as yX5_as ∈ jT := ⟨⟨cfX5_as, ciX5_as, ⟨by decide, by decide⟩, by decide +kernel, by decide, Or.inl (jT_of 956 (by decide +kernel) rfl)⟩, cnX5_as, clX5_as⟩
theorem cfX4_asks : Cond.code yX4_asks cX4_asks 3 (some .int) ∈ jT := jT_of 376 (by decide +kernel) rfl
theorem ciX4_asks : Cond.initialized yX4_asks.cls ∈ jT := jT_of 87 (by decide +kernel) rfl
theorem cnX4_asks : Cond.instanceMethod yX4_asks ∈ jT := jT_of 374 (by decide +kernel) rfl
theorem clX4_asks : Cond.selects yX4_asks.cls yX4_asks yX4_asks ∈ jT := jT_of 375 (by decide +kernel) rfl
theorem kL_31 : jM RL 31 yX4_asks cX4_asks 3 (some .int) 2 ∧ Cond.instanceMethod yX4_asks ∈ jT ∧ Cond.selects yX4_asks.cls yX4_asks yX4_asks ∈ jT := ⟨⟨cfX4_asks, ciX4_asks, ⟨by decide, by decide⟩, by decide +kernel, by decide, Or.inl (jT_of 373 (by decide +kernel) rfl)⟩, cnX4_asks, clX4_asks⟩
theorem cfX5_asks : Cond.code yX5_asks cX5_asks 3 (some .int) ∈ jT := jT_of 964 (by decide +kernel) rfl
theorem ciX5_asks : Cond.initialized yX5_asks.cls ∈ jT := jT_of 92 (by decide +kernel) rfl
theorem cnX5_asks : Cond.instanceMethod yX5_asks ∈ jT := jT_of 962 (by decide +kernel) rfl
theorem clX5_asks : Cond.selects yX5_asks.cls yX5_asks yX5_asks ∈ jT := jT_of 963 (by decide +kernel) rfl
theorem kL_34 : jM RL 34 yX5_asks cX5_asks 3 (some .int) 2 ∧ Cond.instanceMethod yX5_asks ∈ jT ∧ Cond.selects yX5_asks.cls yX5_asks yX5_asks ∈ jT := ⟨⟨cfX5_asks, ciX5_asks, ⟨by decide, by decide⟩, by decide +kernel, by decide, Or.inl (jT_of 961 (by decide +kernel) rfl)⟩, cnX5_asks, clX5_asks⟩
theorem cfX4_rule : Cond.code yX4_rule cX4_rule 3 (some .int) ∈ jT := jT_of 381 (by decide +kernel) rfl
theorem ciX4_rule : Cond.initialized yX4_rule.cls ∈ jT := jT_of 87 (by decide +kernel) rfl
theorem cnX4_rule : Cond.instanceMethod yX4_rule ∈ jT := jT_of 379 (by decide +kernel) rfl
theorem clX4_rule : Cond.selects yX4_rule.cls yX4_rule yX4_rule ∈ jT := jT_of 380 (by decide +kernel) rfl
theorem kL_35 : jM RL 35 yX4_rule cX4_rule 3 (some .int) 2 ∧ Cond.instanceMethod yX4_rule ∈ jT ∧ Cond.selects yX4_rule.cls yX4_rule yX4_rule ∈ jT := ⟨⟨cfX4_rule, ciX4_rule, ⟨by decide, by decide⟩, by decide +kernel, by decide, Or.inl (jT_of 378 (by decide +kernel) rfl)⟩, cnX4_rule, clX4_rule⟩
theorem cfX5_rule : Cond.code yX5_rule cX5_rule 3 (some .int) ∈ jT := jT_of 968 (by decide +kernel) rfl
theorem ciX5_rule : Cond.initialized yX5_rule.cls ∈ jT := jT_of 92 (by decide +kernel) rfl
theorem cnX5_rule : Cond.instanceMethod yX5_rule ∈ jT := jT_of 966 (by decide +kernel) rfl
theorem clX5_rule : Cond.selects yX5_rule.cls yX5_rule yX5_rule ∈ jT := jT_of 967 (by decide +kernel) rfl
theorem kL_38 : jM RL 38 yX5_rule cX5_rule 3 (some .int) 2 ∧ Cond.instanceMethod yX5_rule ∈ jT ∧ Cond.selects yX5_rule.cls yX5_rule yX5_rule ∈ jT := ⟨⟨cfX5_rule, ciX5_rule, ⟨by decide, by decide⟩, by decide +kernel, by decide, Or.inl (jT_of 965 (by decide +kernel) rfl)⟩, cnX5_rule, clX5_rule⟩
theorem cfX4_offer : Cond.code yX4_offer cX4_offer 3 (some .int) ∈ jT := jT_of 387 (by decide +kernel) rfl
theorem ciX4_offer : Cond.initialized yX4_offer.cls ∈ jT := jT_of 87 (by decide +kernel) rfl
theorem cnX4_offer : Cond.instanceMethod yX4_offer ∈ jT := jT_of 385 (by decide +kernel) rfl
theorem clX4_offer : Cond.selects yX4_offer.cls yX4_offer yX4_offer ∈ jT := jT_of 386 (by decide +kernel) rfl
theorem kL_39 : jM RL 39 yX4_offer cX4_offer 3 (some .int) 2 ∧ Cond.instanceMethod yX4_offer ∈ jT ∧ Cond.selects yX4_offer.cls yX4_offer yX4_offer ∈ jT := ⟨⟨cfX4_offer, ciX4_offer, ⟨by decide, by decide⟩, by decide +kernel, by decide, Or.inl (jT_of 384 (by decide +kernel) rfl)⟩, cnX4_offer, clX4_offer⟩
theorem cfX5_offer : Cond.code yX5_offer cX5_offer 3 (some .int) ∈ jT := jT_of 975 (by decide +kernel) rfl
theorem ciX5_offer : Cond.initialized yX5_offer.cls ∈ jT := jT_of 92 (by decide +kernel) rfl
theorem cnX5_offer : Cond.instanceMethod yX5_offer ∈ jT := jT_of 973 (by decide +kernel) rfl
theorem clX5_offer : Cond.selects yX5_offer.cls yX5_offer yX5_offer ∈ jT := jT_of 974 (by decide +kernel) rfl
theorem kL_42 : jM RL 42 yX5_offer cX5_offer 3 (some .int) 2 ∧ Cond.instanceMethod yX5_offer ∈ jT ∧ Cond.selects yX5_offer.cls yX5_offer yX5_offer ∈ jT := ⟨⟨cfX5_offer, ciX5_offer, ⟨by decide, by decide⟩, by decide +kernel, by decide, Or.inl (jT_of 972 (by decide +kernel) rfl)⟩, cnX5_offer, clX5_offer⟩
theorem cfX4_paper : Cond.code yX4_paper cX4_paper 3 (some .int) ∈ jT := jT_of 419 (by decide +kernel) rfl
theorem ciX4_paper : Cond.initialized yX4_paper.cls ∈ jT := jT_of 87 (by decide +kernel) rfl
theorem cnX4_paper : Cond.instanceMethod yX4_paper ∈ jT := jT_of 417 (by decide +kernel) rfl
theorem clX4_paper : Cond.selects yX4_paper.cls yX4_paper yX4_paper ∈ jT := jT_of 418 (by decide +kernel) rfl
theorem kL_43 : jM RL 43 yX4_paper cX4_paper 3 (some .int) 2 ∧ Cond.instanceMethod yX4_paper ∈ jT ∧ Cond.selects yX4_paper.cls yX4_paper yX4_paper ∈ jT := ⟨⟨cfX4_paper, ciX4_paper, ⟨by decide, by decide⟩, by decide +kernel, by decide, Or.inl (jT_of 416 (by decide +kernel) rfl)⟩, cnX4_paper, clX4_paper⟩
theorem cfX5_paper : Cond.code yX5_paper cX5_paper 4 (some .int) ∈ jT := jT_of 989 (by decide +kernel) rfl
theorem ciX5_paper : Cond.initialized yX5_paper.cls ∈ jT := jT_of 92 (by decide +kernel) rfl
theorem cnX5_paper : Cond.instanceMethod yX5_paper ∈ jT := jT_of 987 (by decide +kernel) rfl
theorem clX5_paper : Cond.selects yX5_paper.cls yX5_paper yX5_paper ∈ jT := jT_of 988 (by decide +kernel) rfl
theorem kL_46 : jM RL 46 yX5_paper cX5_paper 4 (some .int) 2 ∧ Cond.instanceMethod yX5_paper ∈ jT ∧ Cond.selects yX5_paper.cls yX5_paper yX5_paper ∈ jT := ⟨⟨cfX5_paper, ciX5_paper, ⟨by decide, by decide⟩, by decide +kernel, by decide, Or.inl (jT_of 986 (by decide +kernel) rfl)⟩, cnX5_paper, clX5_paper⟩
theorem cfX4_paperOf : Cond.code yX4_paperOf cX4_paperOf 3 (some .int) ∈ jT := jT_of 435 (by decide +kernel) rfl
theorem ciX4_paperOf : Cond.initialized yX4_paperOf.cls ∈ jT := jT_of 87 (by decide +kernel) rfl
theorem cnX4_paperOf : Cond.instanceMethod yX4_paperOf ∈ jT := jT_of 433 (by decide +kernel) rfl
theorem clX4_paperOf : Cond.selects yX4_paperOf.cls yX4_paperOf yX4_paperOf ∈ jT := jT_of 434 (by decide +kernel) rfl
theorem kL_47 : jM RL 47 yX4_paperOf cX4_paperOf 3 (some .int) 2 ∧ Cond.instanceMethod yX4_paperOf ∈ jT ∧ Cond.selects yX4_paperOf.cls yX4_paperOf yX4_paperOf ∈ jT := ⟨⟨cfX4_paperOf, ciX4_paperOf, ⟨by decide, by decide⟩, by decide +kernel, by decide, Or.inl (jT_of 432 (by decide +kernel) rfl)⟩, cnX4_paperOf, clX4_paperOf⟩
theorem cfX5_paperOf : Cond.code yX5_paperOf cX5_paperOf 3 (some .int) ∈ jT := jT_of 1001 (by decide +kernel) rfl
theorem ciX5_paperOf : Cond.initialized yX5_paperOf.cls ∈ jT := jT_of 92 (by decide +kernel) rfl
theorem cnX5_paperOf : Cond.instanceMethod yX5_paperOf ∈ jT := jT_of 999 (by decide +kernel) rfl
theorem clX5_paperOf : Cond.selects yX5_paperOf.cls yX5_paperOf yX5_paperOf ∈ jT := jT_of 1000 (by decide +kernel) rfl
theorem kL_50 : jM RL 50 yX5_paperOf cX5_paperOf 3 (some .int) 2 ∧ Cond.instanceMethod yX5_paperOf ∈ jT ∧ Cond.selects yX5_paperOf.cls yX5_paperOf yX5_paperOf ∈ jT := ⟨⟨cfX5_paperOf, ciX5_paperOf, ⟨by decide, by decide⟩, by decide +kernel, by decide, Or.inl (jT_of 998 (by decide +kernel) rfl)⟩, cnX5_paperOf, clX5_paperOf⟩
theorem cfX4_claim : Cond.code yX4_claim cX4_claim 2 (some .int) ∈ jT := jT_of 440 (by decide +kernel) rfl
theorem ciX4_claim : Cond.initialized yX4_claim.cls ∈ jT := jT_of 87 (by decide +kernel) rfl
theorem cnX4_claim : Cond.instanceMethod yX4_claim ∈ jT := jT_of 438 (by decide +kernel) rfl
theorem clX4_claim : Cond.selects yX4_claim.cls yX4_claim yX4_claim ∈ jT := jT_of 439 (by decide +kernel) rfl
theorem kL_51 : jM RL 51 yX4_claim cX4_claim 2 (some .int) 1 ∧ Cond.instanceMethod yX4_claim ∈ jT ∧ Cond.selects yX4_claim.cls yX4_claim yX4_claim ∈ jT := ⟨⟨cfX4_claim, ciX4_claim, ⟨by decide, by decide⟩, by decide +kernel, by decide, Or.inl (jT_of 437 (by decide +kernel) rfl)⟩, cnX4_claim, clX4_claim⟩
theorem cfX5_claim : Cond.code yX5_claim cX5_claim 3 (some .int) ∈ jT := jT_of 1006 (by decide +kernel) rfl
theorem ciX5_claim : Cond.initialized yX5_claim.cls ∈ jT := jT_of 92 (by decide +kernel) rfl
theorem cnX5_claim : Cond.instanceMethod yX5_claim ∈ jT := jT_of 1004 (by decide +kernel) rfl
theorem clX5_claim : Cond.selects yX5_claim.cls yX5_claim yX5_claim ∈ jT := jT_of 1005 (by decide +kernel) rfl
theorem kL_55 : jM RL 55 yX5_claim cX5_claim 3 (some .int) 1 ∧ Cond.instanceMethod yX5_claim ∈ jT ∧ Cond.selects yX5_claim.cls yX5_claim yX5_claim ∈ jT := ⟨⟨cfX5_claim, ciX5_claim, ⟨by decide, by decide⟩, by decide +kernel, by decide, Or.inl (jT_of 1003 (by decide +kernel) rfl)⟩, cnX5_claim, clX5_claim⟩
theorem cfX4_county : Cond.code yX4_county cX4_county 3 (some .int) ∈ jT := jT_of 445 (by decide +kernel) rfl
theorem ciX4_county : Cond.initialized yX4_county.cls ∈ jT := jT_of 87 (by decide +kernel) rfl
theorem cnX4_county : Cond.instanceMethod yX4_county ∈ jT := jT_of 443 (by decide +kernel) rfl
theorem clX4_county : Cond.selects yX4_county.cls yX4_county yX4_county ∈ jT := jT_of 444 (by decide +kernel) rfl
theorem kL_56 : jM RL 56 yX4_county cX4_county 3 (some .int) 1 ∧ Cond.instanceMethod yX4_county ∈ jT ∧ Cond.selects yX4_county.cls yX4_county yX4_county ∈ jT := ⟨⟨cfX4_county, ciX4_county, ⟨by decide, by decide⟩, by decide +kernel, by decide, Or.inl (jT_of 442 (by decide +kernel) rfl)⟩, cnX4_county, clX4_county⟩
theorem cfX5_county : Cond.code yX5_county cX5_county 3 (some .int) ∈ jT := jT_of 1010 (by decide +kernel) rfl
theorem ciX5_county : Cond.initialized yX5_county.cls ∈ jT := jT_of 92 (by decide +kernel) rfl
theorem cnX5_county : Cond.instanceMethod yX5_county ∈ jT := jT_of 1008 (by decide +kernel) rfl
theorem clX5_county : Cond.selects yX5_county.cls yX5_county yX5_county ∈ jT := jT_of 1009 (by decide +kernel) rfl
theorem kL_59 : jM RL 59 yX5_county cX5_county 3 (some .int) 1 ∧ Cond.instanceMethod yX5_county ∈ jT ∧ Cond.selects yX5_county.cls yX5_county yX5_county ∈ jT := ⟨⟨cfX5_county, ciX5_county, ⟨by decide, by decide⟩, by decide +kernel, by decide, Or.inl (jT_of 1007 (by decide +kernel) rfl)⟩, cnX5_county, clX5_county⟩
theorem cfX4_month : Cond.code yX4_month cX4_month 2 (some .int) ∈ jT := jT_of 449 (by decide +kernel) rfl
theorem ciX4_month : Cond.initialized yX4_month.cls ∈ jT := jT_of 87 (by decide +kernel) rfl
theorem cnX4_month : Cond.instanceMethod yX4_month ∈ jT := jT_of 447 (by decide +kernel) rfl
theorem clX4_month : Cond.selects yX4_month.cls yX4_month yX4_month ∈ jT := jT_of 448 (by decide +kernel) rfl
theorem kL_60 : jM RL 60 yX4_month cX4_month 2 (some .int) 0 ∧ Cond.instanceMethod yX4_month ∈ jT ∧ Cond.selects yX4_month.cls yX4_month yX4_month ∈ jT := ⟨⟨cfX4_month, ciX4_month, ⟨by decide, by decide⟩, by decide +kernel, by decide, Or.inl (jT_of 446 (by decide +kernel) rfl)⟩, cnX4_month, clX4_month⟩
theorem cfX5_month : Cond.code yX5_month cX5_month 4 (some .int) ∈ jT := jT_of 1014 (by decide +kernel) rfl
theorem ciX5_month : Cond.initialized yX5_month.cls ∈ jT := jT_of 92 (by decide +kernel) rfl
theorem cnX5_month : Cond.instanceMethod yX5_month ∈ jT := jT_of 1012 (by decide +kernel) rfl
theorem clX5_month : Cond.selects yX5_month.cls yX5_month yX5_month ∈ jT := jT_of 1013 (by decide +kernel) rfl
theorem kL_64 : jM RL 64 yX5_month cX5_month 4 (some .int) 0 ∧ Cond.instanceMethod yX5_month ∈ jT ∧ Cond.selects yX5_month.cls yX5_month yX5_month ∈ jT := ⟨⟨cfX5_month, ciX5_month, ⟨by decide, by decide⟩, by decide +kernel, by decide, Or.inl (jT_of 1011 (by decide +kernel) rfl)⟩, cnX5_month, clX5_month⟩
theorem cfX4_seed : Cond.code yX4_seed cX4_seed 3 (some .int) ∈ jT := jT_of 467 (by decide +kernel) rfl
theorem ciX4_seed : Cond.initialized yX4_seed.cls ∈ jT := jT_of 87 (by decide +kernel) rfl
theorem cnX4_seed : Cond.instanceMethod yX4_seed ∈ jT := jT_of 465 (by decide +kernel) rfl
theorem clX4_seed : Cond.selects yX4_seed.cls yX4_seed yX4_seed ∈ jT := jT_of 466 (by decide +kernel) rfl
theorem kL_65 : jM RL 65 yX4_seed cX4_seed 3 (some .int) 1 ∧ Cond.instanceMethod yX4_seed ∈ jT ∧ Cond.selects yX4_seed.cls yX4_seed yX4_seed ∈ jT := ⟨⟨cfX4_seed, ciX4_seed, ⟨by decide, by decide⟩, by decide +kernel, by decide, Or.inl (jT_of 464 (by decide +kernel) rfl)⟩, cnX4_seed, clX4_seed⟩
theorem cfX5_seed : Cond.code yX5_seed cX5_seed 2 (some .int) ∈ jT := jT_of 1019 (by decide +kernel) rfl
theorem ciX5_seed : Cond.initialized yX5_seed.cls ∈ jT := jT_of 92 (by decide +kernel) rfl
theorem cnX5_seed : Cond.instanceMethod yX5_seed ∈ jT := jT_of 1017 (by decide +kernel) rfl
theorem clX5_seed : Cond.selects yX5_seed.cls yX5_seed yX5_seed ∈ jT := jT_of 1018 (by decide +kernel) rfl
theorem kL_68 : jM RL 68 yX5_seed cX5_seed 2 (some .int) 1 ∧ Cond.instanceMethod yX5_seed ∈ jT ∧ Cond.selects yX5_seed.cls yX5_seed yX5_seed ∈ jT := ⟨⟨cfX5_seed, ciX5_seed, ⟨by decide, by decide⟩, by decide +kernel, by decide, Or.inl (jT_of 1016 (by decide +kernel) rfl)⟩, cnX5_seed, clX5_seed⟩
theorem cfX4_stands : Cond.code yX4_stands cX4_stands 2 (some .long) ∈ jT := jT_of 471 (by decide +kernel) rfl
theorem ciX4_stands : Cond.initialized yX4_stands.cls ∈ jT := jT_of 87 (by decide +kernel) rfl
theorem cnX4_stands : Cond.instanceMethod yX4_stands ∈ jT := jT_of 469 (by decide +kernel) rfl
theorem clX4_stands : Cond.selects yX4_stands.cls yX4_stands yX4_stands ∈ jT := jT_of 470 (by decide +kernel) rfl
theorem kL_69 : jM RL 69 yX4_stands cX4_stands 2 (some .long) 1 ∧ Cond.instanceMethod yX4_stands ∈ jT ∧ Cond.selects yX4_stands.cls yX4_stands yX4_stands ∈ jT := ⟨⟨cfX4_stands, ciX4_stands, ⟨by decide, by decide⟩, by decide +kernel, by decide, Or.inl (jT_of 468 (by decide +kernel) rfl)⟩, cnX4_stands, clX4_stands⟩
theorem cfX5_stands : Cond.code yX5_stands cX5_stands 2 (some .long) ∈ jT := jT_of 1023 (by decide +kernel) rfl
theorem ciX5_stands : Cond.initialized yX5_stands.cls ∈ jT := jT_of 92 (by decide +kernel) rfl
theorem cnX5_stands : Cond.instanceMethod yX5_stands ∈ jT := jT_of 1021 (by decide +kernel) rfl
theorem clX5_stands : Cond.selects yX5_stands.cls yX5_stands yX5_stands ∈ jT := jT_of 1022 (by decide +kernel) rfl
theorem kL_73 : jM RL 73 yX5_stands cX5_stands 2 (some .long) 1 ∧ Cond.instanceMethod yX5_stands ∈ jT ∧ Cond.selects yX5_stands.cls yX5_stands yX5_stands ∈ jT := ⟨⟨cfX5_stands, ciX5_stands, ⟨by decide, by decide⟩, by decide +kernel, by decide, Or.inl (jT_of 1020 (by decide +kernel) rfl)⟩, cnX5_stands, clX5_stands⟩
theorem cfX4_strip : Cond.code yX4_strip cX4_strip 3 (some .int) ∈ jT := jT_of 476 (by decide +kernel) rfl
theorem ciX4_strip : Cond.initialized yX4_strip.cls ∈ jT := jT_of 87 (by decide +kernel) rfl
theorem cnX4_strip : Cond.instanceMethod yX4_strip ∈ jT := jT_of 474 (by decide +kernel) rfl
theorem clX4_strip : Cond.selects yX4_strip.cls yX4_strip yX4_strip ∈ jT := jT_of 475 (by decide +kernel) rfl
theorem kL_74 : jM RL 74 yX4_strip cX4_strip 3 (some .int) 2 ∧ Cond.instanceMethod yX4_strip ∈ jT ∧ Cond.selects yX4_strip.cls yX4_strip yX4_strip ∈ jT := ⟨⟨cfX4_strip, ciX4_strip, ⟨by decide, by decide⟩, by decide +kernel, by decide, Or.inl (jT_of 473 (by decide +kernel) rfl)⟩, cnX4_strip, clX4_strip⟩
theorem cfX5_strip : Cond.code yX5_strip cX5_strip 3 (some .int) ∈ jT := jT_of 1031 (by decide +kernel) rfl
theorem ciX5_strip : Cond.initialized yX5_strip.cls ∈ jT := jT_of 92 (by decide +kernel) rfl
theorem cnX5_strip : Cond.instanceMethod yX5_strip ∈ jT := jT_of 1029 (by decide +kernel) rfl
theorem clX5_strip : Cond.selects yX5_strip.cls yX5_strip yX5_strip ∈ jT := jT_of 1030 (by decide +kernel) rfl
theorem kL_77 : jM RL 77 yX5_strip cX5_strip 3 (some .int) 2 ∧ Cond.instanceMethod yX5_strip ∈ jT ∧ Cond.selects yX5_strip.cls yX5_strip yX5_strip ∈ jT := ⟨⟨cfX5_strip, ciX5_strip, ⟨by decide, by decide⟩, by decide +kernel, by decide, Or.inl (jT_of 1028 (by decide +kernel) rfl)⟩, cnX5_strip, clX5_strip⟩
theorem cfX4_stripOf : Cond.code yX4_stripOf cX4_stripOf 3 (some .int) ∈ jT := jT_of 485 (by decide +kernel) rfl
theorem ciX4_stripOf : Cond.initialized yX4_stripOf.cls ∈ jT := jT_of 87 (by decide +kernel) rfl
theorem cnX4_stripOf : Cond.instanceMethod yX4_stripOf ∈ jT := jT_of 483 (by decide +kernel) rfl
theorem clX4_stripOf : Cond.selects yX4_stripOf.cls yX4_stripOf yX4_stripOf ∈ jT := jT_of 484 (by decide +kernel) rfl
theorem kL_78 : jM RL 78 yX4_stripOf cX4_stripOf 3 (some .int) 2 ∧ Cond.instanceMethod yX4_stripOf ∈ jT ∧ Cond.selects yX4_stripOf.cls yX4_stripOf yX4_stripOf ∈ jT := ⟨⟨cfX4_stripOf, ciX4_stripOf, ⟨by decide, by decide⟩, by decide +kernel, by decide, Or.inl (jT_of 482 (by decide +kernel) rfl)⟩, cnX4_stripOf, clX4_stripOf⟩
theorem cfX5_stripOf : Cond.code yX5_stripOf cX5_stripOf 3 (some .int) ∈ jT := jT_of 1039 (by decide +kernel) rfl
theorem ciX5_stripOf : Cond.initialized yX5_stripOf.cls ∈ jT := jT_of 92 (by decide +kernel) rfl
theorem cnX5_stripOf : Cond.instanceMethod yX5_stripOf ∈ jT := jT_of 1037 (by decide +kernel) rfl
theorem clX5_stripOf : Cond.selects yX5_stripOf.cls yX5_stripOf yX5_stripOf ∈ jT := jT_of 1038 (by decide +kernel) rfl
theorem kL_81 : jM RL 81 yX5_stripOf cX5_stripOf 3 (some .int) 2 ∧ Cond.instanceMethod yX5_stripOf ∈ jT ∧ Cond.selects yX5_stripOf.cls yX5_stripOf yX5_stripOf ∈ jT := ⟨⟨cfX5_stripOf, ciX5_stripOf, ⟨by decide, by decide⟩, by decide +kernel, by decide, Or.inl (jT_of 1036 (by decide +kernel) rfl)⟩, cnX5_stripOf, clX5_stripOf⟩
theorem cfX4_had : Cond.code yX4_had cX4_had 3 (some .int) ∈ jT := jT_of 505 (by decide +kernel) rfl
theorem ciX4_had : Cond.initialized yX4_had.cls ∈ jT := jT_of 87 (by decide +kernel) rfl
theorem cnX4_had : Cond.instanceMethod yX4_had ∈ jT := jT_of 503 (by decide +kernel) rfl
theorem clX4_had : Cond.selects yX4_had.cls yX4_had yX4_had ∈ jT := jT_of 504 (by decide +kernel) rfl
theorem kL_82 : jM RL 82 yX4_had cX4_had 3 (some .int) 0 ∧ Cond.instanceMethod yX4_had ∈ jT ∧ Cond.selects yX4_had.cls yX4_had yX4_had ∈ jT := ⟨⟨cfX4_had, ciX4_had, ⟨by decide, by decide⟩, by decide +kernel, by decide, Or.inl (jT_of 502 (by decide +kernel) rfl)⟩, cnX4_had, clX4_had⟩
theorem cfX5_had : Cond.code yX5_had cX5_had 3 (some .int) ∈ jT := jT_of 1064 (by decide +kernel) rfl
theorem ciX5_had : Cond.initialized yX5_had.cls ∈ jT := jT_of 92 (by decide +kernel) rfl
theorem cnX5_had : Cond.instanceMethod yX5_had ∈ jT := jT_of 1062 (by decide +kernel) rfl
theorem clX5_had : Cond.selects yX5_had.cls yX5_had yX5_had ∈ jT := jT_of 1063 (by decide +kernel) rfl
theorem kL_85 : jM RL 85 yX5_had cX5_had 3 (some .int) 0 ∧ Cond.instanceMethod yX5_had ∈ jT ∧ Cond.selects yX5_had.cls yX5_had yX5_had ∈ jT := ⟨⟨cfX5_had, ciX5_had, ⟨by decide, by decide⟩, by decide +kernel, by decide, Or.inl (jT_of 1061 (by decide +kernel) rfl)⟩, cnX5_had, clX5_had⟩
theorem cfX4_least : Cond.code yX4_least cX4_least 3 (some .int) ∈ jT := jT_of 509 (by decide +kernel) rfl
theorem ciX4_least : Cond.initialized yX4_least.cls ∈ jT := jT_of 87 (by decide +kernel) rfl
theorem cnX4_least : Cond.instanceMethod yX4_least ∈ jT := jT_of 507 (by decide +kernel) rfl
theorem clX4_least : Cond.selects yX4_least.cls yX4_least yX4_least ∈ jT := jT_of 508 (by decide +kernel) rfl
theorem kL_86 : jM RL 86 yX4_least cX4_least 3 (some .int) 1 ∧ Cond.instanceMethod yX4_least ∈ jT ∧ Cond.selects yX4_least.cls yX4_least yX4_least ∈ jT := ⟨⟨cfX4_least, ciX4_least, ⟨by decide, by decide⟩, by decide +kernel, by decide, Or.inl (jT_of 506 (by decide +kernel) rfl)⟩, cnX4_least, clX4_least⟩
theorem cfX5_least : Cond.code yX5_least cX5_least 2 (some .int) ∈ jT := jT_of 1068 (by decide +kernel) rfl
theorem ciX5_least : Cond.initialized yX5_least.cls ∈ jT := jT_of 92 (by decide +kernel) rfl
theorem cnX5_least : Cond.instanceMethod yX5_least ∈ jT := jT_of 1066 (by decide +kernel) rfl
theorem clX5_least : Cond.selects yX5_least.cls yX5_least yX5_least ∈ jT := jT_of 1067 (by decide +kernel) rfl
theorem kL_89 : jM RL 89 yX5_least cX5_least 2 (some .int) 1 ∧ Cond.instanceMethod yX5_least ∈ jT ∧ Cond.selects yX5_least.cls yX5_least yX5_least ∈ jT := ⟨⟨cfX5_least, ciX5_least, ⟨by decide, by decide⟩, by decide +kernel, by decide, Or.inl (jT_of 1065 (by decide +kernel) rfl)⟩, cnX5_least, clX5_least⟩
theorem cfX4_order : Cond.code yX4_order cX4_order 5 (some .int) ∈ jT := jT_of 541 (by decide +kernel) rfl
theorem ciX4_order : Cond.initialized yX4_order.cls ∈ jT := jT_of 87 (by decide +kernel) rfl
theorem cnX4_order : Cond.instanceMethod yX4_order ∈ jT := jT_of 539 (by decide +kernel) rfl
theorem clX4_order : Cond.selects yX4_order.cls yX4_order yX4_order ∈ jT := jT_of 540 (by decide +kernel) rfl
theorem kL_90 : jM RL 90 yX4_order cX4_order 5 (some .int) 2 ∧ Cond.instanceMethod yX4_order ∈ jT ∧ Cond.selects yX4_order.cls yX4_order yX4_order ∈ jT := ⟨⟨cfX4_order, ciX4_order, ⟨by decide, by decide⟩, by decide +kernel, by decide, Or.inl (jT_of 538 (by decide +kernel) rfl)⟩, cnX4_order, clX4_order⟩
theorem cfX5_order : Cond.code yX5_order cX5_order 9 (some .int) ∈ jT := jT_of 1085 (by decide +kernel) rfl
theorem ciX5_order : Cond.initialized yX5_order.cls ∈ jT := jT_of 92 (by decide +kernel) rfl
theorem cnX5_order : Cond.instanceMethod yX5_order ∈ jT := jT_of 1083 (by decide +kernel) rfl
theorem clX5_order : Cond.selects yX5_order.cls yX5_order yX5_order ∈ jT := jT_of 1084 (by decide +kernel) rfl
theorem kL_93 : jM RL 93 yX5_order cX5_order 9 (some .int) 2 ∧ Cond.instanceMethod yX5_order ∈ jT ∧ Cond.selects yX5_order.cls yX5_order yX5_order ∈ jT := ⟨⟨cfX5_order, ciX5_order, ⟨by decide, by decide⟩, by decide +kernel, by decide, Or.inl (jT_of 1082 (by decide +kernel) rfl)⟩, cnX5_order, clX5_order⟩
theorem cfX4_best : Cond.code yX4_best cX4_best 5 (some .int) ∈ jT := jT_of 554 (by decide +kernel) rfl
theorem ciX4_best : Cond.initialized yX4_best.cls ∈ jT := jT_of 87 (by decide +kernel) rfl
theorem cnX4_best : Cond.instanceMethod yX4_best ∈ jT := jT_of 552 (by decide +kernel) rfl
theorem clX4_best : Cond.selects yX4_best.cls yX4_best yX4_best ∈ jT := jT_of 553 (by decide +kernel) rfl
theorem kL_94 : jM RL 94 yX4_best cX4_best 5 (some .int) 0 ∧ Cond.instanceMethod yX4_best ∈ jT ∧ Cond.selects yX4_best.cls yX4_best yX4_best ∈ jT := ⟨⟨cfX4_best, ciX4_best, ⟨by decide, by decide⟩, by decide +kernel, by decide, Or.inl (jT_of 551 (by decide +kernel) rfl)⟩, cnX4_best, clX4_best⟩
theorem cfX5_best : Cond.code yX5_best cX5_best 2 (some .int) ∈ jT := jT_of 1089 (by decide +kernel) rfl
theorem ciX5_best : Cond.initialized yX5_best.cls ∈ jT := jT_of 92 (by decide +kernel) rfl
theorem cnX5_best : Cond.instanceMethod yX5_best ∈ jT := jT_of 1087 (by decide +kernel) rfl
theorem clX5_best : Cond.selects yX5_best.cls yX5_best yX5_best ∈ jT := jT_of 1088 (by decide +kernel) rfl
theorem kL_97 : jM RL 97 yX5_best cX5_best 2 (some .int) 0 ∧ Cond.instanceMethod yX5_best ∈ jT ∧ Cond.selects yX5_best.cls yX5_best yX5_best ∈ jT := ⟨⟨cfX5_best, ciX5_best, ⟨by decide, by decide⟩, by decide +kernel, by decide, Or.inl (jT_of 1086 (by decide +kernel) rfl)⟩, cnX5_best, clX5_best⟩
theorem cfX4_last : Cond.code yX4_last cX4_last 4 (some .int) ∈ jT := jT_of 558 (by decide +kernel) rfl
theorem ciX4_last : Cond.initialized yX4_last.cls ∈ jT := jT_of 87 (by decide +kernel) rfl
theorem cnX4_last : Cond.instanceMethod yX4_last ∈ jT := jT_of 556 (by decide +kernel) rfl
theorem clX4_last : Cond.selects yX4_last.cls yX4_last yX4_last ∈ jT := jT_of 557 (by decide +kernel) rfl
theorem kL_98 : jM RL 98 yX4_last cX4_last 4 (some .int) 2 ∧ Cond.instanceMethod yX4_last ∈ jT ∧ Cond.selects yX4_last.cls yX4_last yX4_last ∈ jT := ⟨⟨cfX4_last, ciX4_last, ⟨by decide, by decide⟩, by decide +kernel, by decide, Or.inl (jT_of 555 (by decide +kernel) rfl)⟩, cnX4_last, clX4_last⟩
theorem cfX5_last : Cond.code yX5_last cX5_last 8 (some .int) ∈ jT := jT_of 1097 (by decide +kernel) rfl
theorem ciX5_last : Cond.initialized yX5_last.cls ∈ jT := jT_of 92 (by decide +kernel) rfl
theorem cnX5_last : Cond.instanceMethod yX5_last ∈ jT := jT_of 1095 (by decide +kernel) rfl
theorem clX5_last : Cond.selects yX5_last.cls yX5_last yX5_last ∈ jT := jT_of 1096 (by decide +kernel) rfl
theorem kL_101 : jM RL 101 yX5_last cX5_last 8 (some .int) 2 ∧ Cond.instanceMethod yX5_last ∈ jT ∧ Cond.selects yX5_last.cls yX5_last yX5_last ∈ jT := ⟨⟨cfX5_last, ciX5_last, ⟨by decide, by decide⟩, by decide +kernel, by decide, Or.inl (jT_of 1094 (by decide +kernel) rfl)⟩, cnX5_last, clX5_last⟩
theorem cfX4_giveUp : Cond.code yX4_giveUp cX4_giveUp 3 (some .int) ∈ jT := jT_of 571 (by decide +kernel) rfl
theorem ciX4_giveUp : Cond.initialized yX4_giveUp.cls ∈ jT := jT_of 87 (by decide +kernel) rfl
theorem cnX4_giveUp : Cond.instanceMethod yX4_giveUp ∈ jT := jT_of 569 (by decide +kernel) rfl
theorem clX4_giveUp : Cond.selects yX4_giveUp.cls yX4_giveUp yX4_giveUp ∈ jT := jT_of 570 (by decide +kernel) rfl
theorem kL_102 : jM RL 102 yX4_giveUp cX4_giveUp 3 (some .int) 1 ∧ Cond.instanceMethod yX4_giveUp ∈ jT ∧ Cond.selects yX4_giveUp.cls yX4_giveUp yX4_giveUp ∈ jT := ⟨⟨cfX4_giveUp, ciX4_giveUp, ⟨by decide, by decide⟩, by decide +kernel, by decide, Or.inl (jT_of 568 (by decide +kernel) rfl)⟩, cnX4_giveUp, clX4_giveUp⟩
theorem cfX5_giveUp : Cond.code yX5_giveUp cX5_giveUp 2 (some .int) ∈ jT := jT_of 1101 (by decide +kernel) rfl
theorem ciX5_giveUp : Cond.initialized yX5_giveUp.cls ∈ jT := jT_of 92 (by decide +kernel) rfl
theorem cnX5_giveUp : Cond.instanceMethod yX5_giveUp ∈ jT := jT_of 1099 (by decide +kernel) rfl
theorem clX5_giveUp : Cond.selects yX5_giveUp.cls yX5_giveUp yX5_giveUp ∈ jT := jT_of 1100 (by decide +kernel) rfl
theorem kL_105 : jM RL 105 yX5_giveUp cX5_giveUp 2 (some .int) 1 ∧ Cond.instanceMethod yX5_giveUp ∈ jT ∧ Cond.selects yX5_giveUp.cls yX5_giveUp yX5_giveUp ∈ jT := ⟨⟨cfX5_giveUp, ciX5_giveUp, ⟨by decide, by decide⟩, by decide +kernel, by decide, Or.inl (jT_of 1098 (by decide +kernel) rfl)⟩, cnX5_giveUp, clX5_giveUp⟩
theorem cfX4_rights : Cond.code yX4_rights cX4_rights 6 (some .int) ∈ jT := jT_of 576 (by decide +kernel) rfl
theorem ciX4_rights : Cond.initialized yX4_rights.cls ∈ jT := jT_of 87 (by decide +kernel) rfl
theorem cnX4_rights : Cond.instanceMethod yX4_rights ∈ jT := jT_of 574 (by decide +kernel) rfl
theorem clX4_rights : Cond.selects yX4_rights.cls yX4_rights yX4_rights ∈ jT := jT_of 575 (by decide +kernel) rfl
theorem kL_106 : jM RL 106 yX4_rights cX4_rights 6 (some .int) 1 ∧ Cond.instanceMethod yX4_rights ∈ jT ∧ Cond.selects yX4_rights.cls yX4_rights yX4_rights ∈ jT := ⟨⟨cfX4_rights, ciX4_rights, ⟨by decide, by decide⟩, by decide +kernel, by decide, Or.inl (jT_of 573 (by decide +kernel) rfl)⟩, cnX4_rights, clX4_rights⟩
theorem cfX5_rights : Cond.code yX5_rights cX5_rights 5 (some .int) ∈ jT := jT_of 1106 (by decide +kernel) rfl
theorem ciX5_rights : Cond.initialized yX5_rights.cls ∈ jT := jT_of 92 (by decide +kernel) rfl
theorem cnX5_rights : Cond.instanceMethod yX5_rights ∈ jT := jT_of 1104 (by decide +kernel) rfl
theorem clX5_rights : Cond.selects yX5_rights.cls yX5_rights yX5_rights ∈ jT := jT_of 1105 (by decide +kernel) rfl
theorem kL_109 : jM RL 109 yX5_rights cX5_rights 5 (some .int) 1 ∧ Cond.instanceMethod yX5_rights ∈ jT ∧ Cond.selects yX5_rights.cls yX5_rights yX5_rights ∈ jT := ⟨⟨cfX5_rights, ciX5_rights, ⟨by decide, by decide⟩, by decide +kernel, by decide, Or.inl (jT_of 1103 (by decide +kernel) rfl)⟩, cnX5_rights, clX5_rights⟩
theorem cfX4_share : Cond.code yX4_share cX4_share 7 (some .int) ∈ jT := jT_of 581 (by decide +kernel) rfl
theorem ciX4_share : Cond.initialized yX4_share.cls ∈ jT := jT_of 87 (by decide +kernel) rfl
theorem cnX4_share : Cond.instanceMethod yX4_share ∈ jT := jT_of 579 (by decide +kernel) rfl
theorem clX4_share : Cond.selects yX4_share.cls yX4_share yX4_share ∈ jT := jT_of 580 (by decide +kernel) rfl
theorem kL_110 : jM RL 110 yX4_share cX4_share 7 (some .int) 3 ∧ Cond.instanceMethod yX4_share ∈ jT ∧ Cond.selects yX4_share.cls yX4_share yX4_share ∈ jT := ⟨⟨cfX4_share, ciX4_share, ⟨by decide, by decide⟩, by decide +kernel, by decide, Or.inl (jT_of 578 (by decide +kernel) rfl)⟩, cnX4_share, clX4_share⟩
theorem cfX5_share : Cond.code yX5_share cX5_share 9 (some .int) ∈ jT := jT_of 1110 (by decide +kernel) rfl
theorem ciX5_share : Cond.initialized yX5_share.cls ∈ jT := jT_of 92 (by decide +kernel) rfl
theorem cnX5_share : Cond.instanceMethod yX5_share ∈ jT := jT_of 1108 (by decide +kernel) rfl
theorem clX5_share : Cond.selects yX5_share.cls yX5_share yX5_share ∈ jT := jT_of 1109 (by decide +kernel) rfl
theorem kL_113 : jM RL 113 yX5_share cX5_share 9 (some .int) 3 ∧ Cond.instanceMethod yX5_share ∈ jT ∧ Cond.selects yX5_share.cls yX5_share yX5_share ∈ jT := ⟨⟨cfX5_share, ciX5_share, ⟨by decide, by decide⟩, by decide +kernel, by decide, Or.inl (jT_of 1107 (by decide +kernel) rfl)⟩, cnX5_share, clX5_share⟩
theorem cfX4_common : Cond.code yX4_common cX4_common 4 (some .int) ∈ jT := jT_of 589 (by decide +kernel) rfl
theorem ciX4_common : Cond.initialized yX4_common.cls ∈ jT := jT_of 87 (by decide +kernel) rfl
theorem cnX4_common : Cond.instanceMethod yX4_common ∈ jT := jT_of 587 (by decide +kernel) rfl
theorem clX4_common : Cond.selects yX4_common.cls yX4_common yX4_common ∈ jT := jT_of 588 (by decide +kernel) rfl
theorem kL_114 : jM RL 114 yX4_common cX4_common 4 (some .int) 0 ∧ Cond.instanceMethod yX4_common ∈ jT ∧ Cond.selects yX4_common.cls yX4_common yX4_common ∈ jT := ⟨⟨cfX4_common, ciX4_common, ⟨by decide, by decide⟩, by decide +kernel, by decide, Or.inl (jT_of 586 (by decide +kernel) rfl)⟩, cnX4_common, clX4_common⟩
theorem cfX5_common : Cond.code yX5_common cX5_common 4 (some .int) ∈ jT := jT_of 1114 (by decide +kernel) rfl
theorem ciX5_common : Cond.initialized yX5_common.cls ∈ jT := jT_of 92 (by decide +kernel) rfl
theorem cnX5_common : Cond.instanceMethod yX5_common ∈ jT := jT_of 1112 (by decide +kernel) rfl
theorem clX5_common : Cond.selects yX5_common.cls yX5_common yX5_common ∈ jT := jT_of 1113 (by decide +kernel) rfl
theorem kL_117 : jM RL 117 yX5_common cX5_common 4 (some .int) 0 ∧ Cond.instanceMethod yX5_common ∈ jT ∧ Cond.selects yX5_common.cls yX5_common yX5_common ∈ jT := ⟨⟨cfX5_common, ciX5_common, ⟨by decide, by decide⟩, by decide +kernel, by decide, Or.inl (jT_of 1111 (by decide +kernel) rfl)⟩, cnX5_common, clX5_common⟩
theorem cfX4_first : Cond.code yX4_first cX4_first 3 (some .int) ∈ jT := jT_of 593 (by decide +kernel) rfl
theorem ciX4_first : Cond.initialized yX4_first.cls ∈ jT := jT_of 87 (by decide +kernel) rfl
theorem cnX4_first : Cond.instanceMethod yX4_first ∈ jT := jT_of 591 (by decide +kernel) rfl
theorem clX4_first : Cond.selects yX4_first.cls yX4_first yX4_first ∈ jT := jT_of 592 (by decide +kernel) rfl
theorem kL_118 : jM RL 118 yX4_first cX4_first 3 (some .int) 1 ∧ Cond.instanceMethod yX4_first ∈ jT ∧ Cond.selects yX4_first.cls yX4_first yX4_first ∈ jT := ⟨⟨cfX4_first, ciX4_first, ⟨by decide, by decide⟩, by decide +kernel, by decide, Or.inl (jT_of 590 (by decide +kernel) rfl)⟩, cnX4_first, clX4_first⟩
theorem cfX5_first : Cond.code yX5_first cX5_first 8 (some .int) ∈ jT := jT_of 1118 (by decide +kernel) rfl
theorem ciX5_first : Cond.initialized yX5_first.cls ∈ jT := jT_of 92 (by decide +kernel) rfl
theorem cnX5_first : Cond.instanceMethod yX5_first ∈ jT := jT_of 1116 (by decide +kernel) rfl
theorem clX5_first : Cond.selects yX5_first.cls yX5_first yX5_first ∈ jT := jT_of 1117 (by decide +kernel) rfl
theorem kL_121 : jM RL 121 yX5_first cX5_first 8 (some .int) 1 ∧ Cond.instanceMethod yX5_first ∈ jT ∧ Cond.selects yX5_first.cls yX5_first yX5_first ∈ jT := ⟨⟨cfX5_first, ciX5_first, ⟨by decide, by decide⟩, by decide +kernel, by decide, Or.inl (jT_of 1115 (by decide +kernel) rfl)⟩, cnX5_first, clX5_first⟩
theorem cfX4_feed : Cond.code yX4_feed cX4_feed 4 (some .int) ∈ jT := jT_of 605 (by decide +kernel) rfl
theorem ciX4_feed : Cond.initialized yX4_feed.cls ∈ jT := jT_of 87 (by decide +kernel) rfl
theorem cnX4_feed : Cond.instanceMethod yX4_feed ∈ jT := jT_of 603 (by decide +kernel) rfl
theorem clX4_feed : Cond.selects yX4_feed.cls yX4_feed yX4_feed ∈ jT := jT_of 604 (by decide +kernel) rfl
theorem kL_122 : jM RL 122 yX4_feed cX4_feed 4 (some .int) 2 ∧ Cond.instanceMethod yX4_feed ∈ jT ∧ Cond.selects yX4_feed.cls yX4_feed yX4_feed ∈ jT := ⟨⟨cfX4_feed, ciX4_feed, ⟨by decide, by decide⟩, by decide +kernel, by decide, Or.inl (jT_of 602 (by decide +kernel) rfl)⟩, cnX4_feed, clX4_feed⟩
theorem cfX5_feed : Cond.code yX5_feed cX5_feed 4 (some .int) ∈ jT := jT_of 1122 (by decide +kernel) rfl
theorem ciX5_feed : Cond.initialized yX5_feed.cls ∈ jT := jT_of 92 (by decide +kernel) rfl
theorem cnX5_feed : Cond.instanceMethod yX5_feed ∈ jT := jT_of 1120 (by decide +kernel) rfl
theorem clX5_feed : Cond.selects yX5_feed.cls yX5_feed yX5_feed ∈ jT := jT_of 1121 (by decide +kernel) rfl
theorem kL_125 : jM RL 125 yX5_feed cX5_feed 4 (some .int) 2 ∧ Cond.instanceMethod yX5_feed ∈ jT ∧ Cond.selects yX5_feed.cls yX5_feed yX5_feed ∈ jT := ⟨⟨cfX5_feed, ciX5_feed, ⟨by decide, by decide⟩, by decide +kernel, by decide, Or.inl (jT_of 1119 (by decide +kernel) rfl)⟩, cnX5_feed, clX5_feed⟩
theorem cfX4_wipe : Cond.code yX4_wipe cX4_wipe 2 (some .int) ∈ jT := jT_of 613 (by decide +kernel) rfl
theorem ciX4_wipe : Cond.initialized yX4_wipe.cls ∈ jT := jT_of 87 (by decide +kernel) rfl
theorem cnX4_wipe : Cond.instanceMethod yX4_wipe ∈ jT := jT_of 611 (by decide +kernel) rfl
theorem clX4_wipe : Cond.selects yX4_wipe.cls yX4_wipe yX4_wipe ∈ jT := jT_of 612 (by decide +kernel) rfl
theorem kL_126 : jM RL 126 yX4_wipe cX4_wipe 2 (some .int) 0 ∧ Cond.instanceMethod yX4_wipe ∈ jT ∧ Cond.selects yX4_wipe.cls yX4_wipe yX4_wipe ∈ jT := ⟨⟨cfX4_wipe, ciX4_wipe, ⟨by decide, by decide⟩, by decide +kernel, by decide, Or.inl (jT_of 610 (by decide +kernel) rfl)⟩, cnX4_wipe, clX4_wipe⟩
theorem cfX5_wipe : Cond.code yX5_wipe cX5_wipe 2 (some .int) ∈ jT := jT_of 1126 (by decide +kernel) rfl
theorem ciX5_wipe : Cond.initialized yX5_wipe.cls ∈ jT := jT_of 92 (by decide +kernel) rfl
theorem cnX5_wipe : Cond.instanceMethod yX5_wipe ∈ jT := jT_of 1124 (by decide +kernel) rfl
theorem clX5_wipe : Cond.selects yX5_wipe.cls yX5_wipe yX5_wipe ∈ jT := jT_of 1125 (by decide +kernel) rfl
theorem kL_129 : jM RL 129 yX5_wipe cX5_wipe 2 (some .int) 0 ∧ Cond.instanceMethod yX5_wipe ∈ jT ∧ Cond.selects yX5_wipe.cls yX5_wipe yX5_wipe ∈ jT := ⟨⟨cfX5_wipe, ciX5_wipe, ⟨by decide, by decide⟩, by decide +kernel, by decide, Or.inl (jT_of 1123 (by decide +kernel) rfl)⟩, cnX5_wipe, clX5_wipe⟩
theorem cfX4_plan : Cond.code yX4_plan cX4_plan 2 (some .int) ∈ jT := jT_of 617 (by decide +kernel) rfl
theorem ciX4_plan : Cond.initialized yX4_plan.cls ∈ jT := jT_of 87 (by decide +kernel) rfl
theorem cnX4_plan : Cond.instanceMethod yX4_plan ∈ jT := jT_of 615 (by decide +kernel) rfl
theorem clX4_plan : Cond.selects yX4_plan.cls yX4_plan yX4_plan ∈ jT := jT_of 616 (by decide +kernel) rfl
theorem kL_130 : jM RL 130 yX4_plan cX4_plan 2 (some .int) 0 ∧ Cond.instanceMethod yX4_plan ∈ jT ∧ Cond.selects yX4_plan.cls yX4_plan yX4_plan ∈ jT := ⟨⟨cfX4_plan, ciX4_plan, ⟨by decide, by decide⟩, by decide +kernel, by decide, Or.inl (jT_of 614 (by decide +kernel) rfl)⟩, cnX4_plan, clX4_plan⟩
theorem cfX5_plan : Cond.code yX5_plan cX5_plan 3 (some .int) ∈ jT := jT_of 1130 (by decide +kernel) rfl
theorem ciX5_plan : Cond.initialized yX5_plan.cls ∈ jT := jT_of 92 (by decide +kernel) rfl
theorem cnX5_plan : Cond.instanceMethod yX5_plan ∈ jT := jT_of 1128 (by decide +kernel) rfl
theorem clX5_plan : Cond.selects yX5_plan.cls yX5_plan yX5_plan ∈ jT := jT_of 1129 (by decide +kernel) rfl
theorem kL_133 : jM RL 133 yX5_plan cX5_plan 3 (some .int) 0 ∧ Cond.instanceMethod yX5_plan ∈ jT ∧ Cond.selects yX5_plan.cls yX5_plan yX5_plan ∈ jT := ⟨⟨cfX5_plan, ciX5_plan, ⟨by decide, by decide⟩, by decide +kernel, by decide, Or.inl (jT_of 1127 (by decide +kernel) rfl)⟩, cnX5_plan, clX5_plan⟩
theorem cfX4_sheet : Cond.code yX4_sheet cX4_sheet 4 (some .int) ∈ jT := jT_of 738 (by decide +kernel) rfl
theorem ciX4_sheet : Cond.initialized yX4_sheet.cls ∈ jT := jT_of 87 (by decide +kernel) rfl
theorem cnX4_sheet : Cond.instanceMethod yX4_sheet ∈ jT := jT_of 736 (by decide +kernel) rfl
theorem clX4_sheet : Cond.selects yX4_sheet.cls yX4_sheet yX4_sheet ∈ jT := jT_of 737 (by decide +kernel) rfl
theorem kL_134 : jM RL 134 yX4_sheet cX4_sheet 4 (some .int) 3 ∧ Cond.instanceMethod yX4_sheet ∈ jT ∧ Cond.selects yX4_sheet.cls yX4_sheet yX4_sheet ∈ jT := ⟨⟨cfX4_sheet, ciX4_sheet, ⟨by decide, by decide⟩, by decide +kernel, by decide, Or.inl (jT_of 735 (by decide +kernel) rfl)⟩, cnX4_sheet, clX4_sheet⟩
theorem cfX5_sheet : Cond.code yX5_sheet cX5_sheet 5 (some .int) ∈ jT := jT_of 1178 (by decide +kernel) rfl
theorem ciX5_sheet : Cond.initialized yX5_sheet.cls ∈ jT := jT_of 92 (by decide +kernel) rfl
theorem cnX5_sheet : Cond.instanceMethod yX5_sheet ∈ jT := jT_of 1176 (by decide +kernel) rfl
theorem clX5_sheet : Cond.selects yX5_sheet.cls yX5_sheet yX5_sheet ∈ jT := jT_of 1177 (by decide +kernel) rfl
theorem kL_137 : jM RL 137 yX5_sheet cX5_sheet 5 (some .int) 3 ∧ Cond.instanceMethod yX5_sheet ∈ jT ∧ Cond.selects yX5_sheet.cls yX5_sheet yX5_sheet ∈ jT := ⟨⟨cfX5_sheet, ciX5_sheet, ⟨by decide, by decide⟩, by decide +kernel, by decide, Or.inl (jT_of 1175 (by decide +kernel) rfl)⟩, cnX5_sheet, clX5_sheet⟩
theorem cfX4_write : Cond.code yX4_write cX4_write 6 (some .long) ∈ jT := jT_of 752 (by decide +kernel) rfl
theorem ciX4_write : Cond.initialized yX4_write.cls ∈ jT := jT_of 87 (by decide +kernel) rfl
theorem cnX4_write : Cond.instanceMethod yX4_write ∈ jT := jT_of 750 (by decide +kernel) rfl
theorem clX4_write : Cond.selects yX4_write.cls yX4_write yX4_write ∈ jT := jT_of 751 (by decide +kernel) rfl
theorem kL_140 : jM RL 140 yX4_write cX4_write 6 (some .long) 3 ∧ Cond.instanceMethod yX4_write ∈ jT ∧ Cond.selects yX4_write.cls yX4_write yX4_write ∈ jT := ⟨⟨cfX4_write, ciX4_write, ⟨by decide, by decide⟩, by decide +kernel, by decide, Or.inl (jT_of 749 (by decide +kernel) rfl)⟩, cnX4_write, clX4_write⟩
theorem cfX5_write : Cond.code yX5_write cX5_write 7 (some .long) ∈ jT := jT_of 1185 (by decide +kernel) rfl
theorem ciX5_write : Cond.initialized yX5_write.cls ∈ jT := jT_of 92 (by decide +kernel) rfl
theorem cnX5_write : Cond.instanceMethod yX5_write ∈ jT := jT_of 1183 (by decide +kernel) rfl
theorem clX5_write : Cond.selects yX5_write.cls yX5_write yX5_write ∈ jT := jT_of 1184 (by decide +kernel) rfl
theorem kL_144 : jM RL 144 yX5_write cX5_write 7 (some .long) 3 ∧ Cond.instanceMethod yX5_write ∈ jT ∧ Cond.selects yX5_write.cls yX5_write yX5_write ∈ jT := ⟨⟨cfX5_write, ciX5_write, ⟨by decide, by decide⟩, by decide +kernel, by decide, Or.inl (jT_of 1182 (by decide +kernel) rfl)⟩, cnX5_write, clX5_write⟩
theorem cfX4_copy : Cond.code yX4_copy cX4_copy 8 (some .int) ∈ jT := jT_of 769 (by decide +kernel) rfl
theorem ciX4_copy : Cond.initialized yX4_copy.cls ∈ jT := jT_of 87 (by decide +kernel) rfl
theorem cnX4_copy : Cond.instanceMethod yX4_copy ∈ jT := jT_of 767 (by decide +kernel) rfl
theorem clX4_copy : Cond.selects yX4_copy.cls yX4_copy yX4_copy ∈ jT := jT_of 768 (by decide +kernel) rfl
theorem kL_145 : jM RL 145 yX4_copy cX4_copy 8 (some .int) 5 ∧ Cond.instanceMethod yX4_copy ∈ jT ∧ Cond.selects yX4_copy.cls yX4_copy yX4_copy ∈ jT := ⟨⟨cfX4_copy, ciX4_copy, ⟨by decide, by decide⟩, by decide +kernel, by decide, Or.inl (jT_of 766 (by decide +kernel) rfl)⟩, cnX4_copy, clX4_copy⟩
theorem cfX5_copy : Cond.code yX5_copy cX5_copy 10 (some .int) ∈ jT := jT_of 1193 (by decide +kernel) rfl
theorem ciX5_copy : Cond.initialized yX5_copy.cls ∈ jT := jT_of 92 (by decide +kernel) rfl
theorem cnX5_copy : Cond.instanceMethod yX5_copy ∈ jT := jT_of 1191 (by decide +kernel) rfl
theorem clX5_copy : Cond.selects yX5_copy.cls yX5_copy yX5_copy ∈ jT := jT_of 1192 (by decide +kernel) rfl
theorem kL_149 : jM RL 149 yX5_copy cX5_copy 10 (some .int) 5 ∧ Cond.instanceMethod yX5_copy ∈ jT ∧ Cond.selects yX5_copy.cls yX5_copy yX5_copy ∈ jT := ⟨⟨cfX5_copy, ciX5_copy, ⟨by decide, by decide⟩, by decide +kernel, by decide, Or.inl (jT_of 1190 (by decide +kernel) rfl)⟩, cnX5_copy, clX5_copy⟩
theorem cfX4_cost : Cond.code yX4_cost cX4_cost 9 (some .long) ∈ jT := jT_of 778 (by decide +kernel) rfl
theorem ciX4_cost : Cond.initialized yX4_cost.cls ∈ jT := jT_of 87 (by decide +kernel) rfl
theorem cnX4_cost : Cond.instanceMethod yX4_cost ∈ jT := jT_of 776 (by decide +kernel) rfl
theorem clX4_cost : Cond.selects yX4_cost.cls yX4_cost yX4_cost ∈ jT := jT_of 777 (by decide +kernel) rfl
theorem kL_150 : jM RL 150 yX4_cost cX4_cost 9 (some .long) 1 ∧ Cond.instanceMethod yX4_cost ∈ jT ∧ Cond.selects yX4_cost.cls yX4_cost yX4_cost ∈ jT := ⟨⟨cfX4_cost, ciX4_cost, ⟨by decide, by decide⟩, by decide +kernel, by decide, Or.inl (jT_of 775 (by decide +kernel) rfl)⟩, cnX4_cost, clX4_cost⟩
theorem cfX5_cost : Cond.code yX5_cost cX5_cost 8 (some .long) ∈ jT := jT_of 1197 (by decide +kernel) rfl
theorem ciX5_cost : Cond.initialized yX5_cost.cls ∈ jT := jT_of 92 (by decide +kernel) rfl
theorem cnX5_cost : Cond.instanceMethod yX5_cost ∈ jT := jT_of 1195 (by decide +kernel) rfl
theorem clX5_cost : Cond.selects yX5_cost.cls yX5_cost yX5_cost ∈ jT := jT_of 1196 (by decide +kernel) rfl
theorem kL_153 : jM RL 153 yX5_cost cX5_cost 8 (some .long) 1 ∧ Cond.instanceMethod yX5_cost ∈ jT ∧ Cond.selects yX5_cost.cls yX5_cost yX5_cost ∈ jT := ⟨⟨cfX5_cost, ciX5_cost, ⟨by decide, by decide⟩, by decide +kernel, by decide, Or.inl (jT_of 1194 (by decide +kernel) rfl)⟩, cnX5_cost, clX5_cost⟩
theorem cfX4_offers : Cond.code yX4_offers cX4_offers 10 (some .int) ∈ jT := jT_of 786 (by decide +kernel) rfl
theorem ciX4_offers : Cond.initialized yX4_offers.cls ∈ jT := jT_of 87 (by decide +kernel) rfl
theorem cnX4_offers : Cond.instanceMethod yX4_offers ∈ jT := jT_of 784 (by decide +kernel) rfl
theorem clX4_offers : Cond.selects yX4_offers.cls yX4_offers yX4_offers ∈ jT := jT_of 785 (by decide +kernel) rfl
theorem kL_154 : jM RL 154 yX4_offers cX4_offers 10 (some .int) 1 ∧ Cond.instanceMethod yX4_offers ∈ jT ∧ Cond.selects yX4_offers.cls yX4_offers yX4_offers ∈ jT := ⟨⟨cfX4_offers, ciX4_offers, ⟨by decide, by decide⟩, by decide +kernel, by decide, Or.inl (jT_of 783 (by decide +kernel) rfl)⟩, cnX4_offers, clX4_offers⟩
theorem cfX5_offers : Cond.code yX5_offers cX5_offers 8 (some .int) ∈ jT := jT_of 1201 (by decide +kernel) rfl
theorem ciX5_offers : Cond.initialized yX5_offers.cls ∈ jT := jT_of 92 (by decide +kernel) rfl
theorem cnX5_offers : Cond.instanceMethod yX5_offers ∈ jT := jT_of 1199 (by decide +kernel) rfl
theorem clX5_offers : Cond.selects yX5_offers.cls yX5_offers yX5_offers ∈ jT := jT_of 1200 (by decide +kernel) rfl
theorem kL_157 : jM RL 157 yX5_offers cX5_offers 8 (some .int) 1 ∧ Cond.instanceMethod yX5_offers ∈ jT ∧ Cond.selects yX5_offers.cls yX5_offers yX5_offers ∈ jT := ⟨⟨cfX5_offers, ciX5_offers, ⟨by decide, by decide⟩, by decide +kernel, by decide, Or.inl (jT_of 1198 (by decide +kernel) rfl)⟩, cnX5_offers, clX5_offers⟩
theorem cfX4_read : Cond.code yX4_read cX4_read 5 (some .int) ∈ jT := jT_of 791 (by decide +kernel) rfl
theorem ciX4_read : Cond.initialized yX4_read.cls ∈ jT := jT_of 87 (by decide +kernel) rfl
theorem cnX4_read : Cond.instanceMethod yX4_read ∈ jT := jT_of 789 (by decide +kernel) rfl
theorem clX4_read : Cond.selects yX4_read.cls yX4_read yX4_read ∈ jT := jT_of 790 (by decide +kernel) rfl
theorem kL_158 : jM RL 158 yX4_read cX4_read 5 (some .int) 1 ∧ Cond.instanceMethod yX4_read ∈ jT ∧ Cond.selects yX4_read.cls yX4_read yX4_read ∈ jT := ⟨⟨cfX4_read, ciX4_read, ⟨by decide, by decide⟩, by decide +kernel, by decide, Or.inl (jT_of 788 (by decide +kernel) rfl)⟩, cnX4_read, clX4_read⟩
theorem cfX5_read : Cond.code yX5_read cX5_read 3 (some .int) ∈ jT := jT_of 1205 (by decide +kernel) rfl
theorem ciX5_read : Cond.initialized yX5_read.cls ∈ jT := jT_of 92 (by decide +kernel) rfl
theorem cnX5_read : Cond.instanceMethod yX5_read ∈ jT := jT_of 1203 (by decide +kernel) rfl
theorem clX5_read : Cond.selects yX5_read.cls yX5_read yX5_read ∈ jT := jT_of 1204 (by decide +kernel) rfl
theorem kL_161 : jM RL 161 yX5_read cX5_read 3 (some .int) 1 ∧ Cond.instanceMethod yX5_read ∈ jT ∧ Cond.selects yX5_read.cls yX5_read yX5_read ∈ jT := ⟨⟨cfX5_read, ciX5_read, ⟨by decide, by decide⟩, by decide +kernel, by decide, Or.inl (jT_of 1202 (by decide +kernel) rfl)⟩, cnX5_read, clX5_read⟩
theorem cfX4_image : Cond.code yX4_image cX4_image 1 (some .int) ∈ jT := jT_of 795 (by decide +kernel) rfl
theorem ciX4_image : Cond.initialized yX4_image.cls ∈ jT := jT_of 87 (by decide +kernel) rfl
theorem cnX4_image : Cond.instanceMethod yX4_image ∈ jT := jT_of 793 (by decide +kernel) rfl
theorem clX4_image : Cond.selects yX4_image.cls yX4_image yX4_image ∈ jT := jT_of 794 (by decide +kernel) rfl
theorem kL_162 : jM RL 162 yX4_image cX4_image 1 (some .int) 0 ∧ Cond.instanceMethod yX4_image ∈ jT ∧ Cond.selects yX4_image.cls yX4_image yX4_image ∈ jT := ⟨⟨cfX4_image, ciX4_image, ⟨by decide, by decide⟩, by decide +kernel, by decide, Or.inl (jT_of 792 (by decide +kernel) rfl)⟩, cnX4_image, clX4_image⟩
theorem cfX5_image : Cond.code yX5_image cX5_image 2 (some .int) ∈ jT := jT_of 1209 (by decide +kernel) rfl
theorem ciX5_image : Cond.initialized yX5_image.cls ∈ jT := jT_of 92 (by decide +kernel) rfl
theorem cnX5_image : Cond.instanceMethod yX5_image ∈ jT := jT_of 1207 (by decide +kernel) rfl
theorem clX5_image : Cond.selects yX5_image.cls yX5_image yX5_image ∈ jT := jT_of 1208 (by decide +kernel) rfl
theorem kL_165 : jM RL 165 yX5_image cX5_image 2 (some .int) 0 ∧ Cond.instanceMethod yX5_image ∈ jT ∧ Cond.selects yX5_image.cls yX5_image yX5_image ∈ jT := ⟨⟨cfX5_image, ciX5_image, ⟨by decide, by decide⟩, by decide +kernel, by decide, Or.inl (jT_of 1206 (by decide +kernel) rfl)⟩, cnX5_image, clX5_image⟩
theorem cfX4_undo : Cond.code yX4_undo cX4_undo 1 (some .int) ∈ jT := jT_of 799 (by decide +kernel) rfl
theorem ciX4_undo : Cond.initialized yX4_undo.cls ∈ jT := jT_of 87 (by decide +kernel) rfl
theorem cnX4_undo : Cond.instanceMethod yX4_undo ∈ jT := jT_of 797 (by decide +kernel) rfl
theorem clX4_undo : Cond.selects yX4_undo.cls yX4_undo yX4_undo ∈ jT := jT_of 798 (by decide +kernel) rfl
theorem kL_166 : jM RL 166 yX4_undo cX4_undo 1 (some .int) 0 ∧ Cond.instanceMethod yX4_undo ∈ jT ∧ Cond.selects yX4_undo.cls yX4_undo yX4_undo ∈ jT := ⟨⟨cfX4_undo, ciX4_undo, ⟨by decide, by decide⟩, by decide +kernel, by decide, Or.inl (jT_of 796 (by decide +kernel) rfl)⟩, cnX4_undo, clX4_undo⟩
theorem cfX5_undo : Cond.code yX5_undo cX5_undo 2 (some .int) ∈ jT := jT_of 1213 (by decide +kernel) rfl
theorem ciX5_undo : Cond.initialized yX5_undo.cls ∈ jT := jT_of 92 (by decide +kernel) rfl
theorem cnX5_undo : Cond.instanceMethod yX5_undo ∈ jT := jT_of 1211 (by decide +kernel) rfl
theorem clX5_undo : Cond.selects yX5_undo.cls yX5_undo yX5_undo ∈ jT := jT_of 1212 (by decide +kernel) rfl
theorem kL_169 : jM RL 169 yX5_undo cX5_undo 2 (some .int) 0 ∧ Cond.instanceMethod yX5_undo ∈ jT ∧ Cond.selects yX5_undo.cls yX5_undo yX5_undo ∈ jT := ⟨⟨cfX5_undo, ciX5_undo, ⟨by decide, by decide⟩, by decide +kernel, by decide, Or.inl (jT_of 1210 (by decide +kernel) rfl)⟩, cnX5_undo, clX5_undo⟩
theorem cfX4_tear : Cond.code yX4_tear cX4_tear 2 (some .int) ∈ jT := jT_of 803 (by decide +kernel) rfl
theorem ciX4_tear : Cond.initialized yX4_tear.cls ∈ jT := jT_of 87 (by decide +kernel) rfl
theorem cnX4_tear : Cond.instanceMethod yX4_tear ∈ jT := jT_of 801 (by decide +kernel) rfl
theorem clX4_tear : Cond.selects yX4_tear.cls yX4_tear yX4_tear ∈ jT := jT_of 802 (by decide +kernel) rfl
theorem kL_170 : jM RL 170 yX4_tear cX4_tear 2 (some .int) 0 ∧ Cond.instanceMethod yX4_tear ∈ jT ∧ Cond.selects yX4_tear.cls yX4_tear yX4_tear ∈ jT := ⟨⟨cfX4_tear, ciX4_tear, ⟨by decide, by decide⟩, by decide +kernel, by decide, Or.inl (jT_of 800 (by decide +kernel) rfl)⟩, cnX4_tear, clX4_tear⟩
theorem cfX5_tear : Cond.code yX5_tear cX5_tear 2 (some .int) ∈ jT := jT_of 1217 (by decide +kernel) rfl
theorem ciX5_tear : Cond.initialized yX5_tear.cls ∈ jT := jT_of 92 (by decide +kernel) rfl
theorem cnX5_tear : Cond.instanceMethod yX5_tear ∈ jT := jT_of 1215 (by decide +kernel) rfl
theorem clX5_tear : Cond.selects yX5_tear.cls yX5_tear yX5_tear ∈ jT := jT_of 1216 (by decide +kernel) rfl
theorem kL_173 : jM RL 173 yX5_tear cX5_tear 2 (some .int) 0 ∧ Cond.instanceMethod yX5_tear ∈ jT ∧ Cond.selects yX5_tear.cls yX5_tear yX5_tear ∈ jT := ⟨⟨cfX5_tear, ciX5_tear, ⟨by decide, by decide⟩, by decide +kernel, by decide, Or.inl (jT_of 1214 (by decide +kernel) rfl)⟩, cnX5_tear, clX5_tear⟩
theorem cfX4_count : Cond.code yX4_count cX4_count 2 (some .int) ∈ jT := jT_of 807 (by decide +kernel) rfl
theorem ciX4_count : Cond.initialized yX4_count.cls ∈ jT := jT_of 87 (by decide +kernel) rfl
theorem cnX4_count : Cond.instanceMethod yX4_count ∈ jT := jT_of 805 (by decide +kernel) rfl
theorem clX4_count : Cond.selects yX4_count.cls yX4_count yX4_count ∈ jT := jT_of 806 (by decide +kernel) rfl
theorem kL_174 : jM RL 174 yX4_count cX4_count 2 (some .int) 1 ∧ Cond.instanceMethod yX4_count ∈ jT ∧ Cond.selects yX4_count.cls yX4_count yX4_count ∈ jT := ⟨⟨cfX4_count, ciX4_count, ⟨by decide, by decide⟩, by decide +kernel, by decide, Or.inl (jT_of 804 (by decide +kernel) rfl)⟩, cnX4_count, clX4_count⟩
theorem cfX5_count : Cond.code yX5_count cX5_count 2 (some .int) ∈ jT := jT_of 1221 (by decide +kernel) rfl
theorem ciX5_count : Cond.initialized yX5_count.cls ∈ jT := jT_of 92 (by decide +kernel) rfl
theorem cnX5_count : Cond.instanceMethod yX5_count ∈ jT := jT_of 1219 (by decide +kernel) rfl
theorem clX5_count : Cond.selects yX5_count.cls yX5_count yX5_count ∈ jT := jT_of 1220 (by decide +kernel) rfl
theorem kL_177 : jM RL 177 yX5_count cX5_count 2 (some .int) 1 ∧ Cond.instanceMethod yX5_count ∈ jT ∧ Cond.selects yX5_count.cls yX5_count yX5_count ∈ jT := ⟨⟨cfX5_count, ciX5_count, ⟨by decide, by decide⟩, by decide +kernel, by decide, Or.inl (jT_of 1218 (by decide +kernel) rfl)⟩, cnX5_count, clX5_count⟩
theorem cfX4_status : Cond.code yX4_status cX4_status 4 (some .int) ∈ jT := jT_of 815 (by decide +kernel) rfl
theorem ciX4_status : Cond.initialized yX4_status.cls ∈ jT := jT_of 87 (by decide +kernel) rfl
theorem cnX4_status : Cond.instanceMethod yX4_status ∈ jT := jT_of 813 (by decide +kernel) rfl
theorem clX4_status : Cond.selects yX4_status.cls yX4_status yX4_status ∈ jT := jT_of 814 (by decide +kernel) rfl
theorem kL_178 : jM RL 178 yX4_status cX4_status 4 (some .int) 1 ∧ Cond.instanceMethod yX4_status ∈ jT ∧ Cond.selects yX4_status.cls yX4_status yX4_status ∈ jT := ⟨⟨cfX4_status, ciX4_status, ⟨by decide, by decide⟩, by decide +kernel, by decide, Or.inl (jT_of 812 (by decide +kernel) rfl)⟩, cnX4_status, clX4_status⟩
theorem cfX5_status : Cond.code yX5_status cX5_status 2 (some .int) ∈ jT := jT_of 1229 (by decide +kernel) rfl
theorem ciX5_status : Cond.initialized yX5_status.cls ∈ jT := jT_of 92 (by decide +kernel) rfl
theorem cnX5_status : Cond.instanceMethod yX5_status ∈ jT := jT_of 1227 (by decide +kernel) rfl
theorem clX5_status : Cond.selects yX5_status.cls yX5_status yX5_status ∈ jT := jT_of 1228 (by decide +kernel) rfl
theorem kL_181 : jM RL 181 yX5_status cX5_status 2 (some .int) 1 ∧ Cond.instanceMethod yX5_status ∈ jT ∧ Cond.selects yX5_status.cls yX5_status yX5_status ∈ jT := ⟨⟨cfX5_status, ciX5_status, ⟨by decide, by decide⟩, by decide +kernel, by decide, Or.inl (jT_of 1226 (by decide +kernel) rfl)⟩, cnX5_status, clX5_status⟩
theorem kX5_1 : Cond.methodLink RX5 1 objectInit ∈ jT := jT_of 821 (by decide +kernel) rfl
theorem cfX5_has : Cond.code yX5_has cX5_has 3 (some .int) ∈ jT := jT_of 924 (by decide +kernel) rfl
theorem ciX5_has : Cond.initialized yX5_has.cls ∈ jT := jT_of 92 (by decide +kernel) rfl
theorem cnX5_has : Cond.instanceMethod yX5_has ∈ jT := jT_of 923 (by decide +kernel) rfl
theorem clX5_has : Cond.selects yX5_has.cls yX5_has yX5_has ∈ jT := jT_of 54 (by decide +kernel) rfl
theorem kX5_45 : jM RX5 45 yX5_has cX5_has 3 (some .int) 2 ∧ Cond.instanceMethod yX5_has ∈ jT ∧ Cond.selects yX5_has.cls yX5_has yX5_has ∈ jT := ⟨⟨cfX5_has, ciX5_has, ⟨by decide, by decide⟩, by decide +kernel, by decide, Or.inl (jT_of 921 (by decide +kernel) rfl)⟩, cnX5_has, clX5_has⟩
theorem cfX5_at : Cond.code yX5_at cX5_at 3 (some .int) ∈ jT := jT_of 911 (by decide +kernel) rfl
theorem ciX5_at : Cond.initialized yX5_at.cls ∈ jT := jT_of 92 (by decide +kernel) rfl
theorem cnX5_at : Cond.instanceMethod yX5_at ∈ jT := jT_of 910 (by decide +kernel) rfl
theorem clX5_at : Cond.selects yX5_at.cls yX5_at yX5_at ∈ jT := jT_of 52 (by decide +kernel) rfl
theorem kX5_49 : jM RX5 49 yX5_at cX5_at 3 (some .int) 2 ∧ Cond.instanceMethod yX5_at ∈ jT ∧ Cond.selects yX5_at.cls yX5_at yX5_at ∈ jT := ⟨⟨cfX5_at, ciX5_at, ⟨by decide, by decide⟩, by decide +kernel, by decide, Or.inl (jT_of 908 (by decide +kernel) rfl)⟩, cnX5_at, clX5_at⟩
theorem cfX5_isIn : Cond.code yX5_isIn cX5_isIn 6 (some .boolean) ∈ jT := jT_of 896 (by decide +kernel) rfl
theorem ciX5_isIn : Cond.initialized yX5_isIn.cls ∈ jT := jT_of 92 (by decide +kernel) rfl
theorem csX5_isIn : Cond.static yX5_isIn ∈ jT := jT_of 895 (by decide +kernel) rfl
theorem kX5_54 : jM RX5 54 yX5_isIn cX5_isIn 6 (some .boolean) 3 ∧ Cond.static yX5_isIn ∈ jT := ⟨⟨cfX5_isIn, ciX5_isIn, ⟨by decide, by decide⟩, by decide +kernel, by decide, Or.inl (jT_of 894 (by decide +kernel) rfl)⟩, csX5_isIn⟩
theorem cfX5_finds : Cond.code yX5_finds cX5_finds 2 (some .int) ∈ jT := jT_of 902 (by decide +kernel) rfl
theorem ciX5_finds : Cond.initialized yX5_finds.cls ∈ jT := jT_of 92 (by decide +kernel) rfl
theorem cnX5_finds : Cond.instanceMethod yX5_finds ∈ jT := jT_of 901 (by decide +kernel) rfl
theorem clX5_finds : Cond.selects yX5_finds.cls yX5_finds yX5_finds ∈ jT := jT_of 50 (by decide +kernel) rfl
theorem kX5_60 : jM RX5 60 yX5_finds cX5_finds 2 (some .int) 1 ∧ Cond.instanceMethod yX5_finds ∈ jT ∧ Cond.selects yX5_finds.cls yX5_finds yX5_finds ∈ jT := ⟨⟨cfX5_finds, ciX5_finds, ⟨by decide, by decide⟩, by decide +kernel, by decide, Or.inl (jT_of 899 (by decide +kernel) rfl)⟩, cnX5_finds, clX5_finds⟩
theorem cfX5_comes : Cond.code yX5_comes cX5_comes 4 none ∈ jT := jT_of 907 (by decide +kernel) rfl
theorem ciX5_comes : Cond.initialized yX5_comes.cls ∈ jT := jT_of 92 (by decide +kernel) rfl
theorem cnX5_comes : Cond.instanceMethod yX5_comes ∈ jT := jT_of 906 (by decide +kernel) rfl
theorem clX5_comes : Cond.selects yX5_comes.cls yX5_comes yX5_comes ∈ jT := jT_of 51 (by decide +kernel) rfl
theorem kX5_65 : jM RX5 65 yX5_comes cX5_comes 4 none 2 ∧ Cond.instanceMethod yX5_comes ∈ jT ∧ Cond.selects yX5_comes.cls yX5_comes yX5_comes ∈ jT := ⟨⟨cfX5_comes, ciX5_comes, ⟨by decide, by decide⟩, by decide +kernel, by decide, Or.inl (jT_of 904 (by decide +kernel) rfl)⟩, cnX5_comes, clX5_comes⟩
theorem cfX5_heardBy : Cond.code yX5_heardBy cX5_heardBy 5 (some .int) ∈ jT := jT_of 940 (by decide +kernel) rfl
theorem ciX5_heardBy : Cond.initialized yX5_heardBy.cls ∈ jT := jT_of 92 (by decide +kernel) rfl
theorem cnX5_heardBy : Cond.instanceMethod yX5_heardBy ∈ jT := jT_of 939 (by decide +kernel) rfl
theorem clX5_heardBy : Cond.selects yX5_heardBy.cls yX5_heardBy yX5_heardBy ∈ jT := jT_of 58 (by decide +kernel) rfl
theorem kX5_69 : jM RX5 69 yX5_heardBy cX5_heardBy 5 (some .int) 2 ∧ Cond.instanceMethod yX5_heardBy ∈ jT ∧ Cond.selects yX5_heardBy.cls yX5_heardBy yX5_heardBy ∈ jT := ⟨⟨cfX5_heardBy, ciX5_heardBy, ⟨by decide, by decide⟩, by decide +kernel, by decide, Or.inl (jT_of 937 (by decide +kernel) rfl)⟩, cnX5_heardBy, clX5_heardBy⟩
theorem cfX5_wareBy : Cond.code yX5_wareBy cX5_wareBy 4 (some .int) ∈ jT := jT_of 944 (by decide +kernel) rfl
theorem ciX5_wareBy : Cond.initialized yX5_wareBy.cls ∈ jT := jT_of 92 (by decide +kernel) rfl
theorem cnX5_wareBy : Cond.instanceMethod yX5_wareBy ∈ jT := jT_of 943 (by decide +kernel) rfl
theorem clX5_wareBy : Cond.selects yX5_wareBy.cls yX5_wareBy yX5_wareBy ∈ jT := jT_of 59 (by decide +kernel) rfl
theorem kX5_72 : jM RX5 72 yX5_wareBy cX5_wareBy 4 (some .int) 2 ∧ Cond.instanceMethod yX5_wareBy ∈ jT ∧ Cond.selects yX5_wareBy.cls yX5_wareBy yX5_wareBy ∈ jT := ⟨⟨cfX5_wareBy, ciX5_wareBy, ⟨by decide, by decide⟩, by decide +kernel, by decide, Or.inl (jT_of 941 (by decide +kernel) rfl)⟩, cnX5_wareBy, clX5_wareBy⟩
theorem cfX5_ours : Cond.code yX5_ours cX5_ours 3 (some .int) ∈ jT := jT_of 932 (by decide +kernel) rfl
theorem ciX5_ours : Cond.initialized yX5_ours.cls ∈ jT := jT_of 92 (by decide +kernel) rfl
theorem cnX5_ours : Cond.instanceMethod yX5_ours ∈ jT := jT_of 931 (by decide +kernel) rfl
theorem clX5_ours : Cond.selects yX5_ours.cls yX5_ours yX5_ours ∈ jT := jT_of 56 (by decide +kernel) rfl
theorem kX5_75 : jM RX5 75 yX5_ours cX5_ours 3 (some .int) 0 ∧ Cond.instanceMethod yX5_ours ∈ jT ∧ Cond.selects yX5_ours.cls yX5_ours yX5_ours ∈ jT := ⟨⟨cfX5_ours, ciX5_ours, ⟨by decide, by decide⟩, by decide +kernel, by decide, Or.inl (jT_of 929 (by decide +kernel) rfl)⟩, cnX5_ours, clX5_ours⟩
theorem cfX5_asksBy : Cond.code yX5_asksBy cX5_asksBy 9 (some .int) ∈ jT := jT_of 936 (by decide +kernel) rfl
theorem ciX5_asksBy : Cond.initialized yX5_asksBy.cls ∈ jT := jT_of 92 (by decide +kernel) rfl
theorem cnX5_asksBy : Cond.instanceMethod yX5_asksBy ∈ jT := jT_of 935 (by decide +kernel) rfl
theorem clX5_asksBy : Cond.selects yX5_asksBy.cls yX5_asksBy yX5_asksBy ∈ jT := jT_of 57 (by decide +kernel) rfl
theorem kX5_79 : jM RX5 79 yX5_asksBy cX5_asksBy 9 (some .int) 2 ∧ Cond.instanceMethod yX5_asksBy ∈ jT ∧ Cond.selects yX5_asksBy.cls yX5_asksBy yX5_asksBy ∈ jT := ⟨⟨cfX5_asksBy, ciX5_asksBy, ⟨by decide, by decide⟩, by decide +kernel, by decide, Or.inl (jT_of 933 (by decide +kernel) rfl)⟩, cnX5_asksBy, clX5_asksBy⟩
theorem cfX5_isField : Cond.code yX5_isField cX5_isField 3 (some .boolean) ∈ jT := jT_of 919 (by decide +kernel) rfl
theorem ciX5_isField : Cond.initialized yX5_isField.cls ∈ jT := jT_of 92 (by decide +kernel) rfl
theorem cnX5_isField : Cond.instanceMethod yX5_isField ∈ jT := jT_of 918 (by decide +kernel) rfl
theorem clX5_isField : Cond.selects yX5_isField.cls yX5_isField yX5_isField ∈ jT := jT_of 53 (by decide +kernel) rfl
theorem kX5_82 : jM RX5 82 yX5_isField cX5_isField 3 (some .boolean) 1 ∧ Cond.instanceMethod yX5_isField ∈ jT ∧ Cond.selects yX5_isField.cls yX5_isField yX5_isField ∈ jT := ⟨⟨cfX5_isField, ciX5_isField, ⟨by decide, by decide⟩, by decide +kernel, by decide, Or.inl (jT_of 916 (by decide +kernel) rfl)⟩, cnX5_isField, clX5_isField⟩
theorem cfX5_asksNow : Cond.code yX5_asksNow cX5_asksNow 2 (some .int) ∈ jT := jT_of 928 (by decide +kernel) rfl
theorem ciX5_asksNow : Cond.initialized yX5_asksNow.cls ∈ jT := jT_of 92 (by decide +kernel) rfl
theorem cnX5_asksNow : Cond.instanceMethod yX5_asksNow ∈ jT := jT_of 927 (by decide +kernel) rfl
theorem clX5_asksNow : Cond.selects yX5_asksNow.cls yX5_asksNow yX5_asksNow ∈ jT := jT_of 55 (by decide +kernel) rfl
theorem kX5_88 : jM RX5 88 yX5_asksNow cX5_asksNow 2 (some .int) 1 ∧ Cond.instanceMethod yX5_asksNow ∈ jT ∧ Cond.selects yX5_asksNow.cls yX5_asksNow yX5_asksNow ∈ jT := ⟨⟨cfX5_asksNow, ciX5_asksNow, ⟨by decide, by decide⟩, by decide +kernel, by decide, Or.inl (jT_of 925 (by decide +kernel) rfl)⟩, cnX5_asksNow, clX5_asksNow⟩
theorem cfX5_becomes : Cond.code yX5_becomes cX5_becomes 4 (some .int) ∈ jT := jT_of 955 (by decide +kernel) rfl
theorem ciX5_becomes : Cond.initialized yX5_becomes.cls ∈ jT := jT_of 92 (by decide +kernel) rfl
theorem cnX5_becomes : Cond.instanceMethod yX5_becomes ∈ jT := jT_of 954 (by decide +kernel) rfl
theorem clX5_becomes : Cond.selects yX5_becomes.cls yX5_becomes yX5_becomes ∈ jT := jT_of 60 (by decide +kernel) rfl
theorem kX5_97 : jM RX5 97 yX5_becomes cX5_becomes 4 (some .int) 2 ∧ Cond.instanceMethod yX5_becomes ∈ jT ∧ Cond.selects yX5_becomes.cls yX5_becomes yX5_becomes ∈ jT := ⟨⟨cfX5_becomes, ciX5_becomes, ⟨by decide, by decide⟩, by decide +kernel, by decide, Or.inl (jT_of 952 (by decide +kernel) rfl)⟩, cnX5_becomes, clX5_becomes⟩
theorem cfX5_mostOf : Cond.code yX5_mostOf cX5_mostOf 1 (some .int) ∈ jT := jT_of 971 (by decide +kernel) rfl
theorem ciX5_mostOf : Cond.initialized yX5_mostOf.cls ∈ jT := jT_of 92 (by decide +kernel) rfl
theorem csX5_mostOf : Cond.static yX5_mostOf ∈ jT := jT_of 970 (by decide +kernel) rfl
theorem kX5_101 : jM RX5 101 yX5_mostOf cX5_mostOf 1 (some .int) 1 ∧ Cond.static yX5_mostOf ∈ jT := ⟨⟨cfX5_mostOf, ciX5_mostOf, ⟨by decide, by decide⟩, by decide +kernel, by decide, Or.inl (jT_of 969 (by decide +kernel) rfl)⟩, csX5_mostOf⟩
theorem cfX5_isFree : Cond.code yX5_isFree cX5_isFree 2 (some .boolean) ∈ jT := jT_of 980 (by decide +kernel) rfl
theorem ciX5_isFree : Cond.initialized yX5_isFree.cls ∈ jT := jT_of 92 (by decide +kernel) rfl
theorem cnX5_isFree : Cond.instanceMethod yX5_isFree ∈ jT := jT_of 979 (by decide +kernel) rfl
theorem clX5_isFree : Cond.selects yX5_isFree.cls yX5_isFree yX5_isFree ∈ jT := jT_of 61 (by decide +kernel) rfl
theorem kX5_110 : jM RX5 110 yX5_isFree cX5_isFree 2 (some .boolean) 1 ∧ Cond.instanceMethod yX5_isFree ∈ jT ∧ Cond.selects yX5_isFree.cls yX5_isFree yX5_isFree ∈ jT := ⟨⟨cfX5_isFree, ciX5_isFree, ⟨by decide, by decide⟩, by decide +kernel, by decide, Or.inl (jT_of 977 (by decide +kernel) rfl)⟩, cnX5_isFree, clX5_isFree⟩
theorem cfX5_offered : Cond.code yX5_offered cX5_offered 4 (some .boolean) ∈ jT := jT_of 985 (by decide +kernel) rfl
theorem ciX5_offered : Cond.initialized yX5_offered.cls ∈ jT := jT_of 92 (by decide +kernel) rfl
theorem cnX5_offered : Cond.instanceMethod yX5_offered ∈ jT := jT_of 984 (by decide +kernel) rfl
theorem clX5_offered : Cond.selects yX5_offered.cls yX5_offered yX5_offered ∈ jT := jT_of 62 (by decide +kernel) rfl
theorem kX5_115 : jM RX5 115 yX5_offered cX5_offered 4 (some .boolean) 2 ∧ Cond.instanceMethod yX5_offered ∈ jT ∧ Cond.selects yX5_offered.cls yX5_offered yX5_offered ∈ jT := ⟨⟨cfX5_offered, ciX5_offered, ⟨by decide, by decide⟩, by decide +kernel, by decide, Or.inl (jT_of 982 (by decide +kernel) rfl)⟩, cnX5_offered, clX5_offered⟩
theorem cfX5_papers : Cond.code yX5_papers cX5_papers 3 (some .int) ∈ jT := jT_of 994 (by decide +kernel) rfl
theorem ciX5_papers : Cond.initialized yX5_papers.cls ∈ jT := jT_of 92 (by decide +kernel) rfl
theorem cnX5_papers : Cond.instanceMethod yX5_papers ∈ jT := jT_of 993 (by decide +kernel) rfl
theorem clX5_papers : Cond.selects yX5_papers.cls yX5_papers yX5_papers ∈ jT := jT_of 63 (by decide +kernel) rfl
theorem kX5_121 : jM RX5 121 yX5_papers cX5_papers 3 (some .int) 0 ∧ Cond.instanceMethod yX5_papers ∈ jT ∧ Cond.selects yX5_papers.cls yX5_papers yX5_papers ∈ jT := ⟨⟨cfX5_papers, ciX5_papers, ⟨by decide, by decide⟩, by decide +kernel, by decide, Or.inl (jT_of 991 (by decide +kernel) rfl)⟩, cnX5_papers, clX5_papers⟩
theorem cfX5_paperFor : Cond.code yX5_paperFor cX5_paperFor 1 (some .int) ∈ jT := jT_of 997 (by decide +kernel) rfl
theorem ciX5_paperFor : Cond.initialized yX5_paperFor.cls ∈ jT := jT_of 92 (by decide +kernel) rfl
theorem csX5_paperFor : Cond.static yX5_paperFor ∈ jT := jT_of 996 (by decide +kernel) rfl
theorem kX5_124 : jM RX5 124 yX5_paperFor cX5_paperFor 1 (some .int) 1 ∧ Cond.static yX5_paperFor ∈ jT := ⟨⟨cfX5_paperFor, ciX5_paperFor, ⟨by decide, by decide⟩, by decide +kernel, by decide, Or.inl (jT_of 995 (by decide +kernel) rfl)⟩, csX5_paperFor⟩
theorem cfX5_thatAre : Cond.code yX5_thatAre cX5_thatAre 4 (some .int) ∈ jT := jT_of 1027 (by decide +kernel) rfl
theorem ciX5_thatAre : Cond.initialized yX5_thatAre.cls ∈ jT := jT_of 92 (by decide +kernel) rfl
theorem cnX5_thatAre : Cond.instanceMethod yX5_thatAre ∈ jT := jT_of 1026 (by decide +kernel) rfl
theorem clX5_thatAre : Cond.selects yX5_thatAre.cls yX5_thatAre yX5_thatAre ∈ jT := jT_of 64 (by decide +kernel) rfl
theorem kX5_129 : jM RX5 129 yX5_thatAre cX5_thatAre 4 (some .int) 1 ∧ Cond.instanceMethod yX5_thatAre ∈ jT ∧ Cond.selects yX5_thatAre.cls yX5_thatAre yX5_thatAre ∈ jT := ⟨⟨cfX5_thatAre, ciX5_thatAre, ⟨by decide, by decide⟩, by decide +kernel, by decide, Or.inl (jT_of 1024 (by decide +kernel) rfl)⟩, cnX5_thatAre, clX5_thatAre⟩
theorem cfX5_comesStrip : Cond.code yX5_comesStrip cX5_comesStrip 3 none ∈ jT := jT_of 1035 (by decide +kernel) rfl
theorem ciX5_comesStrip : Cond.initialized yX5_comesStrip.cls ∈ jT := jT_of 92 (by decide +kernel) rfl
theorem cnX5_comesStrip : Cond.instanceMethod yX5_comesStrip ∈ jT := jT_of 1034 (by decide +kernel) rfl
theorem clX5_comesStrip : Cond.selects yX5_comesStrip.cls yX5_comesStrip yX5_comesStrip ∈ jT := jT_of 65 (by decide +kernel) rfl
theorem kX5_132 : jM RX5 132 yX5_comesStrip cX5_comesStrip 3 none 2 ∧ Cond.instanceMethod yX5_comesStrip ∈ jT ∧ Cond.selects yX5_comesStrip.cls yX5_comesStrip yX5_comesStrip ∈ jT := ⟨⟨cfX5_comesStrip, ciX5_comesStrip, ⟨by decide, by decide⟩, by decide +kernel, by decide, Or.inl (jT_of 1032 (by decide +kernel) rfl)⟩, cnX5_comesStrip, clX5_comesStrip⟩
theorem cfX5_setOf : Cond.code yX5_setOf cX5_setOf 2 (some .int) ∈ jT := jT_of 1056 (by decide +kernel) rfl
theorem ciX5_setOf : Cond.initialized yX5_setOf.cls ∈ jT := jT_of 92 (by decide +kernel) rfl
theorem cnX5_setOf : Cond.instanceMethod yX5_setOf ∈ jT := jT_of 1055 (by decide +kernel) rfl
theorem clX5_setOf : Cond.selects yX5_setOf.cls yX5_setOf yX5_setOf ∈ jT := jT_of 69 (by decide +kernel) rfl
theorem kX5_135 : jM RX5 135 yX5_setOf cX5_setOf 2 (some .int) 1 ∧ Cond.instanceMethod yX5_setOf ∈ jT ∧ Cond.selects yX5_setOf.cls yX5_setOf yX5_setOf ∈ jT := ⟨⟨cfX5_setOf, ciX5_setOf, ⟨by decide, by decide⟩, by decide +kernel, by decide, Or.inl (jT_of 1053 (by decide +kernel) rfl)⟩, cnX5_setOf, clX5_setOf⟩
theorem cfX5_thoseOf : Cond.code yX5_thoseOf cX5_thoseOf 5 (some .int) ∈ jT := jT_of 1052 (by decide +kernel) rfl
theorem ciX5_thoseOf : Cond.initialized yX5_thoseOf.cls ∈ jT := jT_of 92 (by decide +kernel) rfl
theorem cnX5_thoseOf : Cond.instanceMethod yX5_thoseOf ∈ jT := jT_of 1051 (by decide +kernel) rfl
theorem clX5_thoseOf : Cond.selects yX5_thoseOf.cls yX5_thoseOf yX5_thoseOf ∈ jT := jT_of 68 (by decide +kernel) rfl
theorem kX5_138 : jM RX5 138 yX5_thoseOf cX5_thoseOf 5 (some .int) 2 ∧ Cond.instanceMethod yX5_thoseOf ∈ jT ∧ Cond.selects yX5_thoseOf.cls yX5_thoseOf yX5_thoseOf ∈ jT := ⟨⟨cfX5_thoseOf, ciX5_thoseOf, ⟨by decide, by decide⟩, by decide +kernel, by decide, Or.inl (jT_of 1049 (by decide +kernel) rfl)⟩, cnX5_thoseOf, clX5_thoseOf⟩
theorem cfX5_isStrip : Cond.code yX5_isStrip cX5_isStrip 2 (some .boolean) ∈ jT := jT_of 1043 (by decide +kernel) rfl
theorem ciX5_isStrip : Cond.initialized yX5_isStrip.cls ∈ jT := jT_of 92 (by decide +kernel) rfl
theorem cnX5_isStrip : Cond.instanceMethod yX5_isStrip ∈ jT := jT_of 1042 (by decide +kernel) rfl
theorem clX5_isStrip : Cond.selects yX5_isStrip.cls yX5_isStrip yX5_isStrip ∈ jT := jT_of 66 (by decide +kernel) rfl
theorem kX5_141 : jM RX5 141 yX5_isStrip cX5_isStrip 2 (some .boolean) 1 ∧ Cond.instanceMethod yX5_isStrip ∈ jT ∧ Cond.selects yX5_isStrip.cls yX5_isStrip yX5_isStrip ∈ jT := ⟨⟨cfX5_isStrip, ciX5_isStrip, ⟨by decide, by decide⟩, by decide +kernel, by decide, Or.inl (jT_of 1040 (by decide +kernel) rfl)⟩, cnX5_isStrip, clX5_isStrip⟩
theorem cfX5_isHad : Cond.code yX5_isHad cX5_isHad 2 (some .boolean) ∈ jT := jT_of 1048 (by decide +kernel) rfl
theorem ciX5_isHad : Cond.initialized yX5_isHad.cls ∈ jT := jT_of 92 (by decide +kernel) rfl
theorem cnX5_isHad : Cond.instanceMethod yX5_isHad ∈ jT := jT_of 1047 (by decide +kernel) rfl
theorem clX5_isHad : Cond.selects yX5_isHad.cls yX5_isHad yX5_isHad ∈ jT := jT_of 67 (by decide +kernel) rfl
theorem kX5_146 : jM RX5 146 yX5_isHad cX5_isHad 2 (some .boolean) 1 ∧ Cond.instanceMethod yX5_isHad ∈ jT ∧ Cond.selects yX5_isHad.cls yX5_isHad yX5_isHad ∈ jT := ⟨⟨cfX5_isHad, ciX5_isHad, ⟨by decide, by decide⟩, by decide +kernel, by decide, Or.inl (jT_of 1045 (by decide +kernel) rfl)⟩, cnX5_isHad, clX5_isHad⟩
theorem cfX5_canBe : Cond.code yX5_canBe cX5_canBe 2 (some .boolean) ∈ jT := jT_of 1060 (by decide +kernel) rfl
theorem ciX5_canBe : Cond.initialized yX5_canBe.cls ∈ jT := jT_of 92 (by decide +kernel) rfl
theorem cnX5_canBe : Cond.instanceMethod yX5_canBe ∈ jT := jT_of 1059 (by decide +kernel) rfl
theorem clX5_canBe : Cond.selects yX5_canBe.cls yX5_canBe yX5_canBe ∈ jT := jT_of 70 (by decide +kernel) rfl
theorem kX5_149 : jM RX5 149 yX5_canBe cX5_canBe 2 (some .boolean) 1 ∧ Cond.instanceMethod yX5_canBe ∈ jT ∧ Cond.selects yX5_canBe.cls yX5_canBe yX5_canBe ∈ jT := ⟨⟨cfX5_canBe, ciX5_canBe, ⟨by decide, by decide⟩, by decide +kernel, by decide, Or.inl (jT_of 1057 (by decide +kernel) rfl)⟩, cnX5_canBe, clX5_canBe⟩
theorem cfX5_asksBehind : Cond.code yX5_asksBehind cX5_asksBehind 5 (some .int) ∈ jT := jT_of 1081 (by decide +kernel) rfl
theorem ciX5_asksBehind : Cond.initialized yX5_asksBehind.cls ∈ jT := jT_of 92 (by decide +kernel) rfl
theorem cnX5_asksBehind : Cond.instanceMethod yX5_asksBehind ∈ jT := jT_of 1080 (by decide +kernel) rfl
theorem clX5_asksBehind : Cond.selects yX5_asksBehind.cls yX5_asksBehind yX5_asksBehind ∈ jT := jT_of 73 (by decide +kernel) rfl
theorem kX5_156 : jM RX5 156 yX5_asksBehind cX5_asksBehind 5 (some .int) 2 ∧ Cond.instanceMethod yX5_asksBehind ∈ jT ∧ Cond.selects yX5_asksBehind.cls yX5_asksBehind yX5_asksBehind ∈ jT := ⟨⟨cfX5_asksBehind, ciX5_asksBehind, ⟨by decide, by decide⟩, by decide +kernel, by decide, Or.inl (jT_of 1078 (by decide +kernel) rfl)⟩, cnX5_asksBehind, clX5_asksBehind⟩
theorem cfX5_findWanted : Cond.code yX5_findWanted cX5_findWanted 3 none ∈ jT := jT_of 1072 (by decide +kernel) rfl
theorem ciX5_findWanted : Cond.initialized yX5_findWanted.cls ∈ jT := jT_of 92 (by decide +kernel) rfl
theorem cnX5_findWanted : Cond.instanceMethod yX5_findWanted ∈ jT := jT_of 1071 (by decide +kernel) rfl
theorem clX5_findWanted : Cond.selects yX5_findWanted.cls yX5_findWanted yX5_findWanted ∈ jT := jT_of 71 (by decide +kernel) rfl
theorem kX5_159 : jM RX5 159 yX5_findWanted cX5_findWanted 3 none 1 ∧ Cond.instanceMethod yX5_findWanted ∈ jT ∧ Cond.selects yX5_findWanted.cls yX5_findWanted yX5_findWanted ∈ jT := ⟨⟨cfX5_findWanted, ciX5_findWanted, ⟨by decide, by decide⟩, by decide +kernel, by decide, Or.inl (jT_of 1069 (by decide +kernel) rfl)⟩, cnX5_findWanted, clX5_findWanted⟩
theorem cfX5_findLeast : Cond.code yX5_findLeast cX5_findLeast 6 (some .int) ∈ jT := jT_of 1077 (by decide +kernel) rfl
theorem ciX5_findLeast : Cond.initialized yX5_findLeast.cls ∈ jT := jT_of 92 (by decide +kernel) rfl
theorem cnX5_findLeast : Cond.instanceMethod yX5_findLeast ∈ jT := jT_of 1076 (by decide +kernel) rfl
theorem clX5_findLeast : Cond.selects yX5_findLeast.cls yX5_findLeast yX5_findLeast ∈ jT := jT_of 72 (by decide +kernel) rfl
theorem kX5_164 : jM RX5 164 yX5_findLeast cX5_findLeast 6 (some .int) 0 ∧ Cond.instanceMethod yX5_findLeast ∈ jT ∧ Cond.selects yX5_findLeast.cls yX5_findLeast yX5_findLeast ∈ jT := ⟨⟨cfX5_findLeast, ciX5_findLeast, ⟨by decide, by decide⟩, by decide +kernel, by decide, Or.inl (jT_of 1074 (by decide +kernel) rfl)⟩, cnX5_findLeast, clX5_findLeast⟩
theorem cfX5_bestStrip : Cond.code yX5_bestStrip cX5_bestStrip 4 (some .int) ∈ jT := jT_of 1093 (by decide +kernel) rfl
theorem ciX5_bestStrip : Cond.initialized yX5_bestStrip.cls ∈ jT := jT_of 92 (by decide +kernel) rfl
theorem cnX5_bestStrip : Cond.instanceMethod yX5_bestStrip ∈ jT := jT_of 1092 (by decide +kernel) rfl
theorem clX5_bestStrip : Cond.selects yX5_bestStrip.cls yX5_bestStrip yX5_bestStrip ∈ jT := jT_of 74 (by decide +kernel) rfl
theorem kX5_170 : jM RX5 170 yX5_bestStrip cX5_bestStrip 4 (some .int) 0 ∧ Cond.instanceMethod yX5_bestStrip ∈ jT ∧ Cond.selects yX5_bestStrip.cls yX5_bestStrip yX5_bestStrip ∈ jT := ⟨⟨cfX5_bestStrip, ciX5_bestStrip, ⟨by decide, by decide⟩, by decide +kernel, by decide, Or.inl (jT_of 1090 (by decide +kernel) rfl)⟩, cnX5_bestStrip, clX5_bestStrip⟩
theorem cfX5_byteAt : Cond.code yX5_byteAt cX5_byteAt 2 (some .int) ∈ jT := jT_of 1138 (by decide +kernel) rfl
theorem ciX5_byteAt : Cond.initialized yX5_byteAt.cls ∈ jT := jT_of 92 (by decide +kernel) rfl
theorem cnX5_byteAt : Cond.instanceMethod yX5_byteAt ∈ jT := jT_of 1137 (by decide +kernel) rfl
theorem clX5_byteAt : Cond.selects yX5_byteAt.cls yX5_byteAt yX5_byteAt ∈ jT := jT_of 76 (by decide +kernel) rfl
theorem kX5_184 : jM RX5 184 yX5_byteAt cX5_byteAt 2 (some .int) 1 ∧ Cond.instanceMethod yX5_byteAt ∈ jT ∧ Cond.selects yX5_byteAt.cls yX5_byteAt yX5_byteAt ∈ jT := ⟨⟨cfX5_byteAt, ciX5_byteAt, ⟨by decide, by decide⟩, by decide +kernel, by decide, Or.inl (jT_of 1135 (by decide +kernel) rfl)⟩, cnX5_byteAt, clX5_byteAt⟩
theorem cfX5_wordHere : Cond.code yX5_wordHere cX5_wordHere 5 (some .int) ∈ jT := jT_of 1144 (by decide +kernel) rfl
theorem ciX5_wordHere : Cond.initialized yX5_wordHere.cls ∈ jT := jT_of 92 (by decide +kernel) rfl
theorem cnX5_wordHere : Cond.instanceMethod yX5_wordHere ∈ jT := jT_of 1143 (by decide +kernel) rfl
theorem clX5_wordHere : Cond.selects yX5_wordHere.cls yX5_wordHere yX5_wordHere ∈ jT := jT_of 77 (by decide +kernel) rfl
theorem kX5_194 : jM RX5 194 yX5_wordHere cX5_wordHere 5 (some .int) 0 ∧ Cond.instanceMethod yX5_wordHere ∈ jT ∧ Cond.selects yX5_wordHere.cls yX5_wordHere yX5_wordHere ∈ jT := ⟨⟨cfX5_wordHere, ciX5_wordHere, ⟨by decide, by decide⟩, by decide +kernel, by decide, Or.inl (jT_of 1141 (by decide +kernel) rfl)⟩, cnX5_wordHere, clX5_wordHere⟩
theorem cfX5_isWord : Cond.code yX5_isWord cX5_isWord 2 (some .boolean) ∈ jT := jT_of 1166 (by decide +kernel) rfl
theorem ciX5_isWord : Cond.initialized yX5_isWord.cls ∈ jT := jT_of 92 (by decide +kernel) rfl
theorem cnX5_isWord : Cond.instanceMethod yX5_isWord ∈ jT := jT_of 1165 (by decide +kernel) rfl
theorem clX5_isWord : Cond.selects yX5_isWord.cls yX5_isWord yX5_isWord ∈ jT := jT_of 82 (by decide +kernel) rfl
theorem kX5_208 : jM RX5 208 yX5_isWord cX5_isWord 2 (some .boolean) 1 ∧ Cond.instanceMethod yX5_isWord ∈ jT ∧ Cond.selects yX5_isWord.cls yX5_isWord yX5_isWord ∈ jT := ⟨⟨cfX5_isWord, ciX5_isWord, ⟨by decide, by decide⟩, by decide +kernel, by decide, Or.inl (jT_of 1163 (by decide +kernel) rfl)⟩, cnX5_isWord, clX5_isWord⟩
theorem cfX5_goesOn : Cond.code yX5_goesOn cX5_goesOn 2 none ∈ jT := jT_of 1134 (by decide +kernel) rfl
theorem ciX5_goesOn : Cond.initialized yX5_goesOn.cls ∈ jT := jT_of 92 (by decide +kernel) rfl
theorem cnX5_goesOn : Cond.instanceMethod yX5_goesOn ∈ jT := jT_of 1133 (by decide +kernel) rfl
theorem clX5_goesOn : Cond.selects yX5_goesOn.cls yX5_goesOn yX5_goesOn ∈ jT := jT_of 75 (by decide +kernel) rfl
theorem kX5_211 : jM RX5 211 yX5_goesOn cX5_goesOn 2 none 0 ∧ Cond.instanceMethod yX5_goesOn ∈ jT ∧ Cond.selects yX5_goesOn.cls yX5_goesOn yX5_goesOn ∈ jT := ⟨⟨cfX5_goesOn, ciX5_goesOn, ⟨by decide, by decide⟩, by decide +kernel, by decide, Or.inl (jT_of 1131 (by decide +kernel) rfl)⟩, cnX5_goesOn, clX5_goesOn⟩
theorem cfX5_number : Cond.code yX5_number cX5_number 4 (some .int) ∈ jT := jT_of 1158 (by decide +kernel) rfl
theorem ciX5_number : Cond.initialized yX5_number.cls ∈ jT := jT_of 92 (by decide +kernel) rfl
theorem cnX5_number : Cond.instanceMethod yX5_number ∈ jT := jT_of 1157 (by decide +kernel) rfl
theorem clX5_number : Cond.selects yX5_number.cls yX5_number yX5_number ∈ jT := jT_of 80 (by decide +kernel) rfl
theorem kX5_214 : jM RX5 214 yX5_number cX5_number 4 (some .int) 2 ∧ Cond.instanceMethod yX5_number ∈ jT ∧ Cond.selects yX5_number.cls yX5_number yX5_number ∈ jT := ⟨⟨cfX5_number, ciX5_number, ⟨by decide, by decide⟩, by decide +kernel, by decide, Or.inl (jT_of 1155 (by decide +kernel) rfl)⟩, cnX5_number, clX5_number⟩
theorem cfX5_takes : Cond.code yX5_takes cX5_takes 3 (some .boolean) ∈ jT := jT_of 1162 (by decide +kernel) rfl
theorem ciX5_takes : Cond.initialized yX5_takes.cls ∈ jT := jT_of 92 (by decide +kernel) rfl
theorem cnX5_takes : Cond.instanceMethod yX5_takes ∈ jT := jT_of 1161 (by decide +kernel) rfl
theorem clX5_takes : Cond.selects yX5_takes.cls yX5_takes yX5_takes ∈ jT := jT_of 81 (by decide +kernel) rfl
theorem kX5_217 : jM RX5 217 yX5_takes cX5_takes 3 (some .boolean) 1 ∧ Cond.instanceMethod yX5_takes ∈ jT ∧ Cond.selects yX5_takes.cls yX5_takes yX5_takes ∈ jT := ⟨⟨cfX5_takes, ciX5_takes, ⟨by decide, by decide⟩, by decide +kernel, by decide, Or.inl (jT_of 1159 (by decide +kernel) rfl)⟩, cnX5_takes, clX5_takes⟩
theorem cfX5_numbersBelow : Cond.code yX5_numbersBelow cX5_numbersBelow 5 (some .int) ∈ jT := jT_of 1170 (by decide +kernel) rfl
theorem ciX5_numbersBelow : Cond.initialized yX5_numbersBelow.cls ∈ jT := jT_of 92 (by decide +kernel) rfl
theorem cnX5_numbersBelow : Cond.instanceMethod yX5_numbersBelow ∈ jT := jT_of 1169 (by decide +kernel) rfl
theorem clX5_numbersBelow : Cond.selects yX5_numbersBelow.cls yX5_numbersBelow yX5_numbersBelow ∈ jT := jT_of 83 (by decide +kernel) rfl
theorem kX5_220 : jM RX5 220 yX5_numbersBelow cX5_numbersBelow 5 (some .int) 1 ∧ Cond.instanceMethod yX5_numbersBelow ∈ jT ∧ Cond.selects yX5_numbersBelow.cls yX5_numbersBelow yX5_numbersBelow ∈ jT := ⟨⟨cfX5_numbersBelow, ciX5_numbersBelow, ⟨by decide, by decide⟩, by decide +kernel, by decide, Or.inl (jT_of 1167 (by decide +kernel) rfl)⟩, cnX5_numbersBelow, clX5_numbersBelow⟩
theorem cfX5_fieldItem : Cond.code yX5_fieldItem cX5_fieldItem 5 none ∈ jT := jT_of 1154 (by decide +kernel) rfl
theorem ciX5_fieldItem : Cond.initialized yX5_fieldItem.cls ∈ jT := jT_of 92 (by decide +kernel) rfl
theorem cnX5_fieldItem : Cond.instanceMethod yX5_fieldItem ∈ jT := jT_of 1153 (by decide +kernel) rfl
theorem clX5_fieldItem : Cond.selects yX5_fieldItem.cls yX5_fieldItem yX5_fieldItem ∈ jT := jT_of 79 (by decide +kernel) rfl
theorem kX5_223 : jM RX5 223 yX5_fieldItem cX5_fieldItem 5 none 1 ∧ Cond.instanceMethod yX5_fieldItem ∈ jT ∧ Cond.selects yX5_fieldItem.cls yX5_fieldItem yX5_fieldItem ∈ jT := ⟨⟨cfX5_fieldItem, ciX5_fieldItem, ⟨by decide, by decide⟩, by decide +kernel, by decide, Or.inl (jT_of 1151 (by decide +kernel) rfl)⟩, cnX5_fieldItem, clX5_fieldItem⟩
theorem cfX5_stripItem : Cond.code yX5_stripItem cX5_stripItem 3 none ∈ jT := jT_of 1174 (by decide +kernel) rfl
theorem ciX5_stripItem : Cond.initialized yX5_stripItem.cls ∈ jT := jT_of 92 (by decide +kernel) rfl
theorem cnX5_stripItem : Cond.instanceMethod yX5_stripItem ∈ jT := jT_of 1173 (by decide +kernel) rfl
theorem clX5_stripItem : Cond.selects yX5_stripItem.cls yX5_stripItem yX5_stripItem ∈ jT := jT_of 84 (by decide +kernel) rfl
theorem kX5_226 : jM RX5 226 yX5_stripItem cX5_stripItem 3 none 0 ∧ Cond.instanceMethod yX5_stripItem ∈ jT ∧ Cond.selects yX5_stripItem.cls yX5_stripItem yX5_stripItem ∈ jT := ⟨⟨cfX5_stripItem, ciX5_stripItem, ⟨by decide, by decide⟩, by decide +kernel, by decide, Or.inl (jT_of 1171 (by decide +kernel) rfl)⟩, cnX5_stripItem, clX5_stripItem⟩
theorem cfX5_item : Cond.code yX5_item cX5_item 3 none ∈ jT := jT_of 1150 (by decide +kernel) rfl
theorem ciX5_item : Cond.initialized yX5_item.cls ∈ jT := jT_of 92 (by decide +kernel) rfl
theorem cnX5_item : Cond.instanceMethod yX5_item ∈ jT := jT_of 1149 (by decide +kernel) rfl
theorem clX5_item : Cond.selects yX5_item.cls yX5_item yX5_item ∈ jT := jT_of 78 (by decide +kernel) rfl
theorem kX5_229 : jM RX5 229 yX5_item cX5_item 3 none 0 ∧ Cond.instanceMethod yX5_item ∈ jT ∧ Cond.selects yX5_item.cls yX5_item yX5_item ∈ jT := ⟨⟨cfX5_item, ciX5_item, ⟨by decide, by decide⟩, by decide +kernel, by decide, Or.inl (jT_of 1147 (by decide +kernel) rfl)⟩, cnX5_item, clX5_item⟩
theorem cfX5_isSheet : Cond.code yX5_isSheet cX5_isSheet 1 (some .boolean) ∈ jT := jT_of 1181 (by decide +kernel) rfl
theorem ciX5_isSheet : Cond.initialized yX5_isSheet.cls ∈ jT := jT_of 92 (by decide +kernel) rfl
theorem csX5_isSheet : Cond.static yX5_isSheet ∈ jT := jT_of 1180 (by decide +kernel) rfl
theorem kX5_232 : jM RX5 232 yX5_isSheet cX5_isSheet 1 (some .boolean) 1 ∧ Cond.static yX5_isSheet ∈ jT := ⟨⟨cfX5_isSheet, ciX5_isSheet, ⟨by decide, by decide⟩, by decide +kernel, by decide, Or.inl (jT_of 1179 (by decide +kernel) rfl)⟩, csX5_isSheet⟩
theorem cfX5_narrow : Cond.code yX5_narrow cX5_narrow 3 (some .long) ∈ jT := jT_of 1189 (by decide +kernel) rfl
theorem ciX5_narrow : Cond.initialized yX5_narrow.cls ∈ jT := jT_of 92 (by decide +kernel) rfl
theorem csX5_narrow : Cond.static yX5_narrow ∈ jT := jT_of 1188 (by decide +kernel) rfl
theorem kX5_236 : jM RX5 236 yX5_narrow cX5_narrow 3 (some .long) 2 ∧ Cond.static yX5_narrow ∈ jT := ⟨⟨cfX5_narrow, ciX5_narrow, ⟨by decide, by decide⟩, by decide +kernel, by decide, Or.inl (jT_of 1187 (by decide +kernel) rfl)⟩, csX5_narrow⟩
theorem cfX5_allWary : Cond.code yX5_allWary cX5_allWary 3 (some .int) ∈ jT := jT_of 1225 (by decide +kernel) rfl
theorem ciX5_allWary : Cond.initialized yX5_allWary.cls ∈ jT := jT_of 92 (by decide +kernel) rfl
theorem cnX5_allWary : Cond.instanceMethod yX5_allWary ∈ jT := jT_of 1224 (by decide +kernel) rfl
theorem clX5_allWary : Cond.selects yX5_allWary.cls yX5_allWary yX5_allWary ∈ jT := jT_of 85 (by decide +kernel) rfl
theorem kX5_246 : jM RX5 246 yX5_allWary cX5_allWary 3 (some .int) 0 ∧ Cond.instanceMethod yX5_allWary ∈ jT ∧ Cond.selects yX5_allWary.cls yX5_allWary yX5_allWary ∈ jT := ⟨⟨cfX5_allWary, ciX5_allWary, ⟨by decide, by decide⟩, by decide +kernel, by decide, Or.inl (jT_of 1222 (by decide +kernel) rfl)⟩, cnX5_allWary, clX5_allWary⟩
theorem cfJ0_coder_7d493 : Cond.code yJ0_coder_7d493 cJ0_coder_7d493 1 (some .byte) ∈ jT := jT_of 660 (by decide +kernel) rfl
theorem ciJ0_coder_7d493 : Cond.initialized yJ0_coder_7d493.cls ∈ jT := jT_of 96 (by decide +kernel) rfl
theorem cnJ0_coder_7d493 : Cond.instanceMethod yJ0_coder_7d493 ∈ jT := jT_of 658 (by decide +kernel) rfl
theorem clJ0_coder_7d493 : Cond.selects yJ0_coder_7d493.cls yJ0_coder_7d493 yJ0_coder_7d493 ∈ jT := jT_of 659 (by decide +kernel) rfl
theorem kJ0_335 : jM RJ0 335 yJ0_coder_7d493 cJ0_coder_7d493 1 (some .byte) 0 ∧ Cond.instanceMethod yJ0_coder_7d493 ∈ jT ∧ Cond.selects yJ0_coder_7d493.cls yJ0_coder_7d493 yJ0_coder_7d493 ∈ jT := ⟨⟨cfJ0_coder_7d493, ciJ0_coder_7d493, ⟨by decide, by decide⟩, by decide +kernel, by decide, Or.inl (jT_of 657 (by decide +kernel) rfl)⟩, cnJ0_coder_7d493, clJ0_coder_7d493⟩
theorem cfJ0_isLatin1_aae02 : Cond.code yJ0_isLatin1_aae02 cJ0_isLatin1_aae02 1 (some .boolean) ∈ jT := jT_of 670 (by decide +kernel) rfl
theorem ciJ0_isLatin1_aae02 : Cond.initialized yJ0_isLatin1_aae02.cls ∈ jT := jT_of 96 (by decide +kernel) rfl
theorem cnJ0_isLatin1_aae02 : Cond.instanceMethod yJ0_isLatin1_aae02 ∈ jT := jT_of 668 (by decide +kernel) rfl
theorem clJ0_isLatin1_aae02 : Cond.selects yJ0_isLatin1_aae02.cls yJ0_isLatin1_aae02 yJ0_isLatin1_aae02 ∈ jT := jT_of 669 (by decide +kernel) rfl
theorem kJ0_492 : jM RJ0 492 yJ0_isLatin1_aae02 cJ0_isLatin1_aae02 1 (some .boolean) 0 ∧ Cond.instanceMethod yJ0_isLatin1_aae02 ∈ jT ∧ Cond.selects yJ0_isLatin1_aae02.cls yJ0_isLatin1_aae02 yJ0_isLatin1_aae02 ∈ jT := ⟨⟨cfJ0_isLatin1_aae02, ciJ0_isLatin1_aae02, ⟨by decide, by decide⟩, by decide +kernel, by decide, Or.inl (jT_of 667 (by decide +kernel) rfl)⟩, cnJ0_isLatin1_aae02, clJ0_isLatin1_aae02⟩
theorem cfJ1_charAt_3b067 : Cond.code yJ1_charAt_3b067 cJ1_charAt_3b067 2 (some .char) ∈ jT := jT_of 673 (by decide +kernel) rfl
theorem ciJ1_charAt_3b067 : Cond.initialized yJ1_charAt_3b067.cls ∈ jT := jT_of 97 (by decide +kernel) rfl
theorem csJ1_charAt_3b067 : Cond.static yJ1_charAt_3b067 ∈ jT := jT_of 672 (by decide +kernel) rfl
theorem kJ0_495 : jM RJ0 495 yJ1_charAt_3b067 cJ1_charAt_3b067 2 (some .char) 2 ∧ Cond.static yJ1_charAt_3b067 ∈ jT := ⟨⟨cfJ1_charAt_3b067, ciJ1_charAt_3b067, ⟨by decide, by decide⟩, by decide +kernel, by decide, Or.inl (jT_of 671 (by decide +kernel) rfl)⟩, csJ1_charAt_3b067⟩
theorem cfJ2_charAt_3b067 : Cond.code yJ2_charAt_3b067 cJ2_charAt_3b067 2 (some .char) ∈ jT := jT_of 684 (by decide +kernel) rfl
theorem ciJ2_charAt_3b067 : Cond.initialized yJ2_charAt_3b067.cls ∈ jT := jT_of 99 (by decide +kernel) rfl
theorem csJ2_charAt_3b067 : Cond.static yJ2_charAt_3b067 ∈ jT := jT_of 683 (by decide +kernel) rfl
theorem kJ0_498 : jM RJ0 498 yJ2_charAt_3b067 cJ2_charAt_3b067 2 (some .char) 2 ∧ Cond.static yJ2_charAt_3b067 ∈ jT := ⟨⟨cfJ2_charAt_3b067, ciJ2_charAt_3b067, ⟨by decide, by decide⟩, by decide +kernel, by decide, Or.inl (jT_of 682 (by decide +kernel) rfl)⟩, csJ2_charAt_3b067⟩
theorem cfJ3_checkIndex_8e157 : Cond.code yJ3_checkIndex_8e157 cJ3_checkIndex_8e157 3 (some .int) ∈ jT := jT_of 681 (by decide +kernel) rfl
theorem ciJ3_checkIndex_8e157 : Cond.initialized yJ3_checkIndex_8e157.cls ∈ jT := jT_of 98 (by decide +kernel) rfl
theorem csJ3_checkIndex_8e157 : Cond.static yJ3_checkIndex_8e157 ∈ jT := jT_of 680 (by decide +kernel) rfl
theorem kJ0_1059 : jM RJ0 1059 yJ3_checkIndex_8e157 cJ3_checkIndex_8e157 3 (some .int) 3 ∧ Cond.static yJ3_checkIndex_8e157 ∈ jT := ⟨⟨cfJ3_checkIndex_8e157, ciJ3_checkIndex_8e157, ⟨by decide, by decide⟩, by decide +kernel, by decide, Or.inl (jT_of 679 (by decide +kernel) rfl)⟩, csJ3_checkIndex_8e157⟩
theorem cfJ0_checkIndex_df160 : Cond.code yJ0_checkIndex_df160 cJ0_checkIndex_df160 2 none ∈ jT := jT_of 676 (by decide +kernel) rfl
theorem ciJ0_checkIndex_df160 : Cond.initialized yJ0_checkIndex_df160.cls ∈ jT := jT_of 96 (by decide +kernel) rfl
theorem csJ0_checkIndex_df160 : Cond.static yJ0_checkIndex_df160 ∈ jT := jT_of 675 (by decide +kernel) rfl
theorem kJ1_9 : jM RJ1 9 yJ0_checkIndex_df160 cJ0_checkIndex_df160 2 none 2 ∧ Cond.static yJ0_checkIndex_df160 ∈ jT := ⟨⟨cfJ0_checkIndex_df160, ciJ0_checkIndex_df160, ⟨by decide, by decide⟩, by decide +kernel, by decide, Or.inl (jT_of 674 (by decide +kernel) rfl)⟩, csJ0_checkIndex_df160⟩
theorem cfJ2_length_9d52b : Cond.code yJ2_length_9d52b cJ2_length_9d52b 1 (some .int) ∈ jT := jT_of 690 (by decide +kernel) rfl
theorem ciJ2_length_9d52b : Cond.initialized yJ2_length_9d52b.cls ∈ jT := jT_of 99 (by decide +kernel) rfl
theorem csJ2_length_9d52b : Cond.static yJ2_length_9d52b ∈ jT := jT_of 689 (by decide +kernel) rfl
theorem kJ2_48 : jM RJ2 48 yJ2_length_9d52b cJ2_length_9d52b 1 (some .int) 1 ∧ Cond.static yJ2_length_9d52b ∈ jT := ⟨⟨cfJ2_length_9d52b, ciJ2_length_9d52b, ⟨by decide, by decide⟩, by decide +kernel, by decide, Or.inl (jT_of 688 (by decide +kernel) rfl)⟩, csJ2_length_9d52b⟩
theorem cfJ2_checkIndex_2214a : Cond.code yJ2_checkIndex_2214a cJ2_checkIndex_2214a 2 none ∈ jT := jT_of 687 (by decide +kernel) rfl
theorem ciJ2_checkIndex_2214a : Cond.initialized yJ2_checkIndex_2214a.cls ∈ jT := jT_of 99 (by decide +kernel) rfl
theorem csJ2_checkIndex_2214a : Cond.static yJ2_checkIndex_2214a ∈ jT := jT_of 686 (by decide +kernel) rfl
theorem kJ2_67 : jM RJ2 67 yJ2_checkIndex_2214a cJ2_checkIndex_2214a 2 none 2 ∧ Cond.static yJ2_checkIndex_2214a ∈ jT := ⟨⟨cfJ2_checkIndex_2214a, ciJ2_checkIndex_2214a, ⟨by decide, by decide⟩, by decide +kernel, by decide, Or.inl (jT_of 685 (by decide +kernel) rfl)⟩, csJ2_checkIndex_2214a⟩
theorem cfJ2_getChar_3b067 : Cond.code yJ2_getChar_3b067 cJ2_getChar_3b067 2 (some .char) ∈ jT := jT_of 694 (by decide +kernel) rfl
theorem ciJ2_getChar_3b067 : Cond.initialized yJ2_getChar_3b067.cls ∈ jT := jT_of 99 (by decide +kernel) rfl
theorem csJ2_getChar_3b067 : Cond.static yJ2_getChar_3b067 ∈ jT := jT_of 693 (by decide +kernel) rfl
theorem kJ2_71 : jM RJ2 71 yJ2_getChar_3b067 cJ2_getChar_3b067 2 (some .char) 2 ∧ Cond.static yJ2_getChar_3b067 ∈ jT := ⟨⟨cfJ2_getChar_3b067, ciJ2_getChar_3b067, ⟨by decide, by decide⟩, by decide +kernel, by decide, Or.inl (jT_of 692 (by decide +kernel) rfl)⟩, csJ2_getChar_3b067⟩
theorem kJ2_414 : jM RJ2 414 yJ0_checkIndex_df160 cJ0_checkIndex_df160 2 none 2 ∧ Cond.static yJ0_checkIndex_df160 ∈ jT := ⟨⟨cfJ0_checkIndex_df160, ciJ0_checkIndex_df160, ⟨by decide, by decide⟩, by decide +kernel, by decide, Or.inl (jT_of 691 (by decide +kernel) rfl)⟩, csJ0_checkIndex_df160⟩
def dX : List jD := [.inl (4, [4, 14, 24, 34, 39, 41, 50, 0]), .inl (0, [0, 5, 6, 7, 8, 0, 0, 0, 9, 10, 0, 1, 0, 11, 0, 12, 13]), .inr (0, 14), .inr (0, 14), .inr (0, 14), .inr (0, 14), .inr (0, 14), .inr (0, 14), .inr (0, 4), .inr (0, 6), .inr (0, 6), .inl (0, [0, 15, 16, 17, 18, 0, 0, 0, 19, 20, 0, 1, 0, 21, 0, 22, 23]), .inr (0, 14), .inr (0, 14), .inr (0, 14), .inr (0, 14), .inr (0, 14), .inr (0, 14), .inr (0, 4), .inr (0, 6), .inr (0, 6), .inl (0, [0, 25, 26, 27, 28, 0, 0, 0, 29, 30, 0, 1, 0, 31, 0, 32, 33]), .inr (0, 14), .inr (0, 14), .inr (0, 14), .inr (0, 14), .inr (0, 14), .inr (0, 14), .inr (0, 4), .inr (0, 6), .inr (0, 6), .inl (1, [0, 35, 36, 37, 38]), .inr (0, 10), .inr (0, 10), .inr (0, 100), .inr (0, 1024), .inl (3, [40, 0, 0, 0, 0, 0]), .inr (0, 120), .inr (41, 4), .inl (2, [0, 0, 43]), .inr (1, 40), .inl (2, [0, 0, 45]), .inr (1, 40), .inl (2, [0, 0, 47]), .inr (1, 40), .inl (2, [0, 0, 49]), .inr (1, 40), .inr (0, 7)]
def dM : List jD := [.inl (5, [4, 5, 6, 1, 1, 0, 7, 8, 0, 9, 10, 11, 12, 0, 13, 0, 0, 0, 0, 0, 0, 14]), .inr (0, 120), .inr (0, 120), .inr (0, 120), .inr (0, 8), .inr (0, 120), .inr (0, 4), .inr (0, 4), .inr (1, 160), .inr (0, 14), .inr (0, 1024), .inr (0, 83)]
end
section
/-! rows for methods that make nothing: short forms for the walks that a program lays -/
theorem jif_pos {α : Type} {c : Prop} {i : Decidable c} {a b r : α} (hc : c) (h : @ite α c i a b = r) : a = r := by rw [if_pos hc] at h; exact h
theorem jif_neg {α : Type} {c : Prop} {i : Decidable c} {a b r : α} (hc : ¬ c) (h : @ite α c i a b = r) : b = r := by rw [if_neg hc] at h; exact h
def jg {α : Type} (b : Bool) (x : Option α) : Option α := match b with
  | true => x
  | false => none
theorem jg_of {α : Type} {b : Bool} {x : Option α} {r : α} (h : jg b x = some r) : b = true ∧ x = some r := by
  cases b with
  | true => exact ⟨rfl, h⟩
  | false => cases h
theorem jg_t {α : Type} (x : Option α) : jg true x = x := rfl
theorem jg_p {α : Type} {b : Bool} (h : b = true) (x : Option α) : jg b x = x := by subst h; rfl
theorem jb_of {α β : Type} {x : Option α} {f : α → Option β} {r : β} (h : x.bind f = some r) : ∃ a : α, x = some a ∧ f a = some r := Option.bind_eq_some_iff.mp h
def jl {α β : Type} (x : α) (f : α → β) : β := f x
theorem jl_of {α β : Type} {x : α} {f : α → β} {r : β} (h : jl x f = r) {y : α} (hy : y = x) : f y = r := by subst hy; exact h
/-- an index within; 0 or 1; another than 0 -/
def jin (i : Int32) (n : Nat) : Bool := decide (0 ≤ i.toInt ∧ i.toInt < n)
theorem jin_vp {i : Int32} {n : Nat} (h : jin i n = true) : vp_in i n := vp_in_iff.mpr (of_decide_eq_true h)
def jzb (x : Int32) : Bool := decide (x = 0 ∨ x = 1)
theorem jzb_of {x : Int32} (h : jzb x = true) : x = 0 ∨ x = 1 := of_decide_eq_true h
def jnz (x : Int32) : Bool := decide (¬ x = 0)
theorem jnz_of {x : Int32} (h : jnz x = true) : ¬ x = 0 := of_decide_eq_true h
def jnzl (x : Int64) : Bool := decide (¬ x = 0)
theorem jnzl_of {x : Int64} (h : jnzl x = true) : ¬ x = 0 := of_decide_eq_true h
section OR
variable {l : Launch} {Z : jZ} {own nm : String} {cc : ByteArray} {nL : Nat} {rt : Option FieldType} {d : Nat} {Q : Option Value → va_W → Prop} {pc n : Nat} {L : List (Nat × Value)} {S : List Value} {q : Nat → Nat} {V : jMem} {ds : List jD} {MC MS kc ks : Nat} {ws : va_W}
theorem o_iald {j N k : Nat} {i : Int32} (hk : i.toNatClampNeg = k) (hdg : decode cc pc = .ok (.iaload, 1)) (hn : pc + 1 = n) (hd : ds[j]? = some (.inr (0, N))) (hin : vp_in i N) (kk : J l Z own nm cc nL rt d MC MS Q n L (.int (V.1 j k) :: S) (jw Z q V ds) kc ks) : J l Z own nm cc nL rt d MC MS Q pc L (.int i :: .ref (q j) :: S) (jw Z q V ds) kc ks := by subst hk; exact m_iald hdg hn hd hin kk
theorem o_lald {j N k : Nat} {i : Int32} (hk : i.toNatClampNeg = k) (hdg : decode cc pc = .ok (.laload, 1)) (hn : pc + 1 = n) (hd : ds[j]? = some (.inr (1, N))) (hin : vp_in i N) (kk : J l Z own nm cc nL rt d MC MS Q n L (.long (V.2 j k) :: S) (jw Z q V ds) kc ks) : J l Z own nm cc nL rt d MC MS Q pc L (.int i :: .ref (q j) :: S) (jw Z q V ds) kc ks := by subst hk; exact m_lald hdg hn hd hin kk
theorem o_iast {j N k : Nat} {i x : Int32} (hk : i.toNatClampNeg = k) (hdg : decode cc pc = .ok (.iastore, 1)) (hn : pc + 1 = n) (hd : ds[j]? = some (.inr (0, N))) (hin : vp_in i N) (kk : J l Z own nm cc nL rt d MC MS Q n L S (jw Z q (jsI V j k x) ds) kc ks) : J l Z own nm cc nL rt d MC MS Q pc L (.int x :: .int i :: .ref (q j) :: S) (jw Z q V ds) kc ks := by subst hk; exact m_iast hdg hn hd hin kk
theorem o_last {j N k : Nat} {i : Int32} {x : Int64} (hk : i.toNatClampNeg = k) (hdg : decode cc pc = .ok (.lastore, 1)) (hn : pc + 1 = n) (hd : ds[j]? = some (.inr (1, N))) (hin : vp_in i N) (kk : J l Z own nm cc nL rt d MC MS Q n L S (jw Z q (jsL V j k x) ds) kc ks) : J l Z own nm cc nL rt d MC MS Q pc L (.long x :: .int i :: .ref (q j) :: S) (jw Z q V ds) kc ks := by subst hk; exact m_last hdg hn hd hin kk
theorem o_aald {j b N k : Nat} {i : Int32} (hk : i.toNatClampNeg = k) (hdg : decode cc pc = .ok (.aaload, 1)) (hn : pc + 1 = n) (hd : ds[j]? = some (.inr (b + 2, N))) (hin : vp_in i N) (kk : J l Z own nm cc nL rt d MC MS Q n L (.ref (q (b + 2 * k)) :: S) (jw Z q V ds) kc ks) : J l Z own nm cc nL rt d MC MS Q pc L (.int i :: .ref (q j) :: S) (jw Z q V ds) kc ks := by subst hk; exact m_aald hdg hn hd hin kk
theorem j_ts_in {dflt lo hi : Int} {offs : Array Int} {len : Nat} {x : Int32} {z off : Int} {tgt : Nat} (hdg : decode cc pc = .ok (.tableswitch dflt lo hi offs, len)) (hx : x.toInt = z) (h1 : ¬ z < lo) (h2 : ¬ hi < z) (ho : offs[(z - lo).toNat]? = some off) (ht : (pc : Int) + off = (tgt : Int))
    (kk : J l Z own nm cc nL rt d MC MS Q tgt L S ws kc ks) : J l Z own nm cc nL rt d MC MS Q pc L (.int x :: S) ws kc ks := by
  subst hx
  intro p e R s m args below meth c A QQ H locs ls hC hB hP hD hS hl
  exact lv_tableIn hC.1 hC.2.1 hdg h1 h2 ho ht (kk p e R s m args below meth c A QQ H locs ls hC hB hP hD hS hl)
theorem j_ts_out {dflt lo hi : Int} {offs : Array Int} {len : Nat} {x : Int32} {tgt : Nat} (hdg : decode cc pc = .ok (.tableswitch dflt lo hi offs, len)) (h : x.toInt < lo ∨ hi < x.toInt) (ht : (pc : Int) + dflt = (tgt : Int))
    (kk : J l Z own nm cc nL rt d MC MS Q tgt L S ws kc ks) : J l Z own nm cc nL rt d MC MS Q pc L (.int x :: S) ws kc ks := by
  intro p e R s m args below meth c A QQ H locs ls hC hB hP hD hS hl
  exact lv_tableOut hC.1 hC.2.1 hdg h ht (kk p e R s m args below meth c A QQ H locs ls hC hB hP hD hS hl)
theorem j_ts_lit {x z : Int32} (h : x = z) {k : Int} (hz : z.toInt = k) : x.toInt = k := by rw [h]; exact hz
theorem j_ts_ne {x z : Int32} (h : ¬ x = z) {k : Int} (hz : z.toInt = k) : x.toInt ≠ k := fun e => h (Int32.toInt_inj.mp (e.trans hz.symm))
theorem j_zreturn {x : Int32} (hdg : decode cc pc = .ok (.ireturn, 1)) (hr : rt = some .boolean) (hx : x = 0 ∨ x = 1) (hc : kc ≤ MC ∧ ks ≤ MS) (hq : Q (some (.int x)) ws) : J l Z own nm cc nL rt d MC MS Q pc L [.int x] ws kc ks :=
  j_ireturn hdg hr (by rcases hx with rfl | rfl <;> rfl) hc hq
theorem o_callS_i {idx : Nat} {y : MethodName} {cc' : ByteArray} {nL' : Nat} {rt' : Option FieldType} {na d' : Nat} {As rest : List Value} {x : Int32} {V' : jMem} (hM : jM own idx y cc' nL' rt' na ∧ Cond.static y ∈ jT) (hdg : decode cc pc = .ok (.invokestatic idx, 3)) (hn : pc + 3 = n) (hCt : CtD l Z y cc' nL' rt' d' q ds As V (some (.int x)) V')
    (hna : As.length = na) (hS0 : S = As.reverse ++ rest) (hcat : (rest.map fun v => v.category).sum ≤ 8) (hd : d' + 1 ≤ d) (kk : J l Z own nm cc nL rt d 0 0 Q n L (.int x :: rest) (jw Z q V' ds) 0 0) : J l Z own nm cc nL rt d 0 0 Q pc L S (jw Z q V ds) 0 0 := m_callS hM hdg hn hCt hna hS0 rfl hcat hd ⟨Nat.le_refl _, Nat.le_refl _⟩ kk
theorem o_callV_i {idx j ci : Nat} {y : MethodName} {cc' : ByteArray} {nL' : Nat} {rt' : Option FieldType} {na d' : Nat} {As rest : List Value} {x : Int32} {V' : jMem} {fs : List Nat} {rc : vw_C} (hM : jM own idx y cc' nL' rt' na ∧ Cond.instanceMethod y ∈ jT ∧ Cond.selects y.cls y y ∈ jT) (hdg : decode cc pc = .ok (.invokevirtual idx, 3)) (hn : pc + 3 = n) (hCt : CtD l Z y cc' nL' rt' d' q ds (.ref (q j) :: As) V (some (.int x)) V') (hd0 : ds[j]? = some (.inl (ci, fs))) (hc0 : vwCl[ci]? = some rc) (hC0 : rc.1 = y.cls)
    (hna : As.length = na) (hS0 : S = As.reverse ++ .ref (q j) :: rest) (hcat : (rest.map fun v => v.category).sum ≤ 8) (hd : d' + 1 ≤ d) (kk : J l Z own nm cc nL rt d 0 0 Q n L (.int x :: rest) (jw Z q V' ds) 0 0) : J l Z own nm cc nL rt d 0 0 Q pc L S (jw Z q V ds) 0 0 := m_callV hM hdg hn hCt hd0 hc0 hC0 hna hS0 rfl hcat hd ⟨Nat.le_refl _, Nat.le_refl _⟩ kk
theorem o_callT_i {idx i : Nat} {y : MethodName} {cc' : ByteArray} {nL' : Nat} {rt' : Option FieldType} {na d' : Nat} {As rest : List Value} {x : Int32} {V' : jMem} (hi : i < 15) (hy : y.cls = "java/lang/String") (hM : jM own idx y cc' nL' rt' na ∧ Cond.instanceMethod y ∈ jT ∧ Cond.selects y.cls y y ∈ jT) (hdg : decode cc pc = .ok (.invokevirtual idx, 3)) (hn : pc + 3 = n) (hCt : CtD l Z y cc' nL' rt' d' q ds (.ref (Z.2.2.1 i) :: As) V (some (.int x)) V')
    (hna : As.length = na) (hS0 : S = As.reverse ++ .ref (Z.2.2.1 i) :: rest) (hcat : (rest.map fun v => v.category).sum ≤ 8) (hd : d' + 1 ≤ d) (kk : J l Z own nm cc nL rt d 0 0 Q n L (.int x :: rest) (jw Z q V' ds) 0 0) : J l Z own nm cc nL rt d 0 0 Q pc L S (jw Z q V ds) 0 0 :=
  j_callV hM.1 hM.2.1 hM.2.2 hdg hn hCt (by rw [hy]; exact jRecv_str hi) hna hS0 hcat hd ⟨Nat.le_refl _, Nat.le_refl _⟩ (fun r ws' h => by obtain ⟨rfl, rfl⟩ := h; exact kk)
theorem o_callS_l {idx : Nat} {y : MethodName} {cc' : ByteArray} {nL' : Nat} {rt' : Option FieldType} {na d' : Nat} {As rest : List Value} {x : Int64} {V' : jMem} (hM : jM own idx y cc' nL' rt' na ∧ Cond.static y ∈ jT) (hdg : decode cc pc = .ok (.invokestatic idx, 3)) (hn : pc + 3 = n) (hCt : CtD l Z y cc' nL' rt' d' q ds As V (some (.long x)) V')
    (hna : As.length = na) (hS0 : S = As.reverse ++ rest) (hcat : (rest.map fun v => v.category).sum ≤ 8) (hd : d' + 1 ≤ d) (kk : J l Z own nm cc nL rt d 0 0 Q n L (.long x :: rest) (jw Z q V' ds) 0 0) : J l Z own nm cc nL rt d 0 0 Q pc L S (jw Z q V ds) 0 0 := m_callS hM hdg hn hCt hna hS0 rfl hcat hd ⟨Nat.le_refl _, Nat.le_refl _⟩ kk
theorem o_callV_l {idx j ci : Nat} {y : MethodName} {cc' : ByteArray} {nL' : Nat} {rt' : Option FieldType} {na d' : Nat} {As rest : List Value} {x : Int64} {V' : jMem} {fs : List Nat} {rc : vw_C} (hM : jM own idx y cc' nL' rt' na ∧ Cond.instanceMethod y ∈ jT ∧ Cond.selects y.cls y y ∈ jT) (hdg : decode cc pc = .ok (.invokevirtual idx, 3)) (hn : pc + 3 = n) (hCt : CtD l Z y cc' nL' rt' d' q ds (.ref (q j) :: As) V (some (.long x)) V') (hd0 : ds[j]? = some (.inl (ci, fs))) (hc0 : vwCl[ci]? = some rc) (hC0 : rc.1 = y.cls)
    (hna : As.length = na) (hS0 : S = As.reverse ++ .ref (q j) :: rest) (hcat : (rest.map fun v => v.category).sum ≤ 8) (hd : d' + 1 ≤ d) (kk : J l Z own nm cc nL rt d 0 0 Q n L (.long x :: rest) (jw Z q V' ds) 0 0) : J l Z own nm cc nL rt d 0 0 Q pc L S (jw Z q V ds) 0 0 := m_callV hM hdg hn hCt hd0 hc0 hC0 hna hS0 rfl hcat hd ⟨Nat.le_refl _, Nat.le_refl _⟩ kk
theorem o_callT_l {idx i : Nat} {y : MethodName} {cc' : ByteArray} {nL' : Nat} {rt' : Option FieldType} {na d' : Nat} {As rest : List Value} {x : Int64} {V' : jMem} (hi : i < 15) (hy : y.cls = "java/lang/String") (hM : jM own idx y cc' nL' rt' na ∧ Cond.instanceMethod y ∈ jT ∧ Cond.selects y.cls y y ∈ jT) (hdg : decode cc pc = .ok (.invokevirtual idx, 3)) (hn : pc + 3 = n) (hCt : CtD l Z y cc' nL' rt' d' q ds (.ref (Z.2.2.1 i) :: As) V (some (.long x)) V')
    (hna : As.length = na) (hS0 : S = As.reverse ++ .ref (Z.2.2.1 i) :: rest) (hcat : (rest.map fun v => v.category).sum ≤ 8) (hd : d' + 1 ≤ d) (kk : J l Z own nm cc nL rt d 0 0 Q n L (.long x :: rest) (jw Z q V' ds) 0 0) : J l Z own nm cc nL rt d 0 0 Q pc L S (jw Z q V ds) 0 0 :=
  j_callV hM.1 hM.2.1 hM.2.2 hdg hn hCt (by rw [hy]; exact jRecv_str hi) hna hS0 hcat hd ⟨Nat.le_refl _, Nat.le_refl _⟩ (fun r ws' h => by obtain ⟨rfl, rfl⟩ := h; exact kk)
theorem o_callS_v {idx : Nat} {y : MethodName} {cc' : ByteArray} {nL' : Nat} {rt' : Option FieldType} {na d' : Nat} {As rest : List Value}  {V' : jMem} (hM : jM own idx y cc' nL' rt' na ∧ Cond.static y ∈ jT) (hdg : decode cc pc = .ok (.invokestatic idx, 3)) (hn : pc + 3 = n) (hCt : CtD l Z y cc' nL' rt' d' q ds As V none V')
    (hna : As.length = na) (hS0 : S = As.reverse ++ rest) (hcat : (rest.map fun v => v.category).sum ≤ 8) (hd : d' + 1 ≤ d) (kk : J l Z own nm cc nL rt d 0 0 Q n L (rest) (jw Z q V' ds) 0 0) : J l Z own nm cc nL rt d 0 0 Q pc L S (jw Z q V ds) 0 0 := m_callS hM hdg hn hCt hna hS0 rfl hcat hd ⟨Nat.le_refl _, Nat.le_refl _⟩ kk
theorem o_callV_v {idx j ci : Nat} {y : MethodName} {cc' : ByteArray} {nL' : Nat} {rt' : Option FieldType} {na d' : Nat} {As rest : List Value}  {V' : jMem} {fs : List Nat} {rc : vw_C} (hM : jM own idx y cc' nL' rt' na ∧ Cond.instanceMethod y ∈ jT ∧ Cond.selects y.cls y y ∈ jT) (hdg : decode cc pc = .ok (.invokevirtual idx, 3)) (hn : pc + 3 = n) (hCt : CtD l Z y cc' nL' rt' d' q ds (.ref (q j) :: As) V none V') (hd0 : ds[j]? = some (.inl (ci, fs))) (hc0 : vwCl[ci]? = some rc) (hC0 : rc.1 = y.cls)
    (hna : As.length = na) (hS0 : S = As.reverse ++ .ref (q j) :: rest) (hcat : (rest.map fun v => v.category).sum ≤ 8) (hd : d' + 1 ≤ d) (kk : J l Z own nm cc nL rt d 0 0 Q n L (rest) (jw Z q V' ds) 0 0) : J l Z own nm cc nL rt d 0 0 Q pc L S (jw Z q V ds) 0 0 := m_callV hM hdg hn hCt hd0 hc0 hC0 hna hS0 rfl hcat hd ⟨Nat.le_refl _, Nat.le_refl _⟩ kk
theorem o_callT_v {idx i : Nat} {y : MethodName} {cc' : ByteArray} {nL' : Nat} {rt' : Option FieldType} {na d' : Nat} {As rest : List Value}  {V' : jMem} (hi : i < 15) (hy : y.cls = "java/lang/String") (hM : jM own idx y cc' nL' rt' na ∧ Cond.instanceMethod y ∈ jT ∧ Cond.selects y.cls y y ∈ jT) (hdg : decode cc pc = .ok (.invokevirtual idx, 3)) (hn : pc + 3 = n) (hCt : CtD l Z y cc' nL' rt' d' q ds (.ref (Z.2.2.1 i) :: As) V none V')
    (hna : As.length = na) (hS0 : S = As.reverse ++ .ref (Z.2.2.1 i) :: rest) (hcat : (rest.map fun v => v.category).sum ≤ 8) (hd : d' + 1 ≤ d) (kk : J l Z own nm cc nL rt d 0 0 Q n L (rest) (jw Z q V' ds) 0 0) : J l Z own nm cc nL rt d 0 0 Q pc L S (jw Z q V ds) 0 0 :=
  j_callV hM.1 hM.2.1 hM.2.2 hdg hn hCt (by rw [hy]; exact jRecv_str hi) hna hS0 hcat hd ⟨Nat.le_refl _, Nat.le_refl _⟩ (fun r ws' h => by obtain ⟨rfl, rfl⟩ := h; exact kk)
theorem o_callS_a {idx : Nat} {y : MethodName} {cc' : ByteArray} {nL' : Nat} {rt' : Option FieldType} {na d' : Nat} {As rest : List Value} {x : Nat} {V' : jMem} (hM : jM own idx y cc' nL' rt' na ∧ Cond.static y ∈ jT) (hdg : decode cc pc = .ok (.invokestatic idx, 3)) (hn : pc + 3 = n) (hCt : CtD l Z y cc' nL' rt' d' q ds As V (some (.ref x)) V')
    (hna : As.length = na) (hS0 : S = As.reverse ++ rest) (hcat : (rest.map fun v => v.category).sum ≤ 8) (hd : d' + 1 ≤ d) (kk : J l Z own nm cc nL rt d 0 0 Q n L (.ref x :: rest) (jw Z q V' ds) 0 0) : J l Z own nm cc nL rt d 0 0 Q pc L S (jw Z q V ds) 0 0 := m_callS hM hdg hn hCt hna hS0 rfl hcat hd ⟨Nat.le_refl _, Nat.le_refl _⟩ kk
theorem o_callV_a {idx j ci : Nat} {y : MethodName} {cc' : ByteArray} {nL' : Nat} {rt' : Option FieldType} {na d' : Nat} {As rest : List Value} {x : Nat} {V' : jMem} {fs : List Nat} {rc : vw_C} (hM : jM own idx y cc' nL' rt' na ∧ Cond.instanceMethod y ∈ jT ∧ Cond.selects y.cls y y ∈ jT) (hdg : decode cc pc = .ok (.invokevirtual idx, 3)) (hn : pc + 3 = n) (hCt : CtD l Z y cc' nL' rt' d' q ds (.ref (q j) :: As) V (some (.ref x)) V') (hd0 : ds[j]? = some (.inl (ci, fs))) (hc0 : vwCl[ci]? = some rc) (hC0 : rc.1 = y.cls)
    (hna : As.length = na) (hS0 : S = As.reverse ++ .ref (q j) :: rest) (hcat : (rest.map fun v => v.category).sum ≤ 8) (hd : d' + 1 ≤ d) (kk : J l Z own nm cc nL rt d 0 0 Q n L (.ref x :: rest) (jw Z q V' ds) 0 0) : J l Z own nm cc nL rt d 0 0 Q pc L S (jw Z q V ds) 0 0 := m_callV hM hdg hn hCt hd0 hc0 hC0 hna hS0 rfl hcat hd ⟨Nat.le_refl _, Nat.le_refl _⟩ kk
theorem o_callT_a {idx i : Nat} {y : MethodName} {cc' : ByteArray} {nL' : Nat} {rt' : Option FieldType} {na d' : Nat} {As rest : List Value} {x : Nat} {V' : jMem} (hi : i < 15) (hy : y.cls = "java/lang/String") (hM : jM own idx y cc' nL' rt' na ∧ Cond.instanceMethod y ∈ jT ∧ Cond.selects y.cls y y ∈ jT) (hdg : decode cc pc = .ok (.invokevirtual idx, 3)) (hn : pc + 3 = n) (hCt : CtD l Z y cc' nL' rt' d' q ds (.ref (Z.2.2.1 i) :: As) V (some (.ref x)) V')
    (hna : As.length = na) (hS0 : S = As.reverse ++ .ref (Z.2.2.1 i) :: rest) (hcat : (rest.map fun v => v.category).sum ≤ 8) (hd : d' + 1 ≤ d) (kk : J l Z own nm cc nL rt d 0 0 Q n L (.ref x :: rest) (jw Z q V' ds) 0 0) : J l Z own nm cc nL rt d 0 0 Q pc L S (jw Z q V ds) 0 0 :=
  j_callV hM.1 hM.2.1 hM.2.2 hdg hn hCt (by rw [hy]; exact jRecv_str hi) hna hS0 hcat hd ⟨Nat.le_refl _, Nat.le_refl _⟩ (fun r ws' h => by obtain ⟨rfl, rfl⟩ := h; exact kk)
end OR
end

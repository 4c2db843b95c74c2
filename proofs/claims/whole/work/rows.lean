section
-- ===== PART A: goes FIRST, ahead of the names: the tables' words, and 'selects' of the private methods out of them =====
/-- a private method of a class that the tables say can be made, by its rows of tables_1 -/
def lw_okq (q : MethodName × Nat) : Prop := (q.1.cls ≠ "java/lang/invoke/MethodHandle" ∧ q.1.cls ≠ "java/lang/invoke/VarHandle") ∧ Cond.instantiable q.1.cls q.2 ∈ tables_1 ∧ Cond.privateMethod q.1 ∈ tables_1 ∧ Cond.instanceMethod q.1 ∈ tables_1
theorem lw_p0 : lw_okq (⟨"AcreBuys", "refuse", "(I)I"⟩, 8) := ⟨⟨by decide +kernel, by decide +kernel⟩, List.mem_of_getElem? (i := 16) (by decide +kernel), List.mem_of_getElem? (i := 210) (by decide +kernel), List.mem_of_getElem? (i := 211) (by decide +kernel)⟩
theorem lw_p1 : lw_okq (⟨"AcreBuys$Land", "addField", "(II)I"⟩, 17) := ⟨⟨by decide +kernel, by decide +kernel⟩, List.mem_of_getElem? (i := 24) (by decide +kernel), List.mem_of_getElem? (i := 215) (by decide +kernel), List.mem_of_getElem? (i := 216) (by decide +kernel)⟩
theorem lw_p2 : lw_okq (⟨"AcreBuys$Land", "hasField", "(I)Z"⟩, 17) := ⟨⟨by decide +kernel, by decide +kernel⟩, List.mem_of_getElem? (i := 24) (by decide +kernel), List.mem_of_getElem? (i := 223) (by decide +kernel), List.mem_of_getElem? (i := 224) (by decide +kernel)⟩
theorem lw_p3 : lw_okq (⟨"AcreBuys$Land", "holderOf", "(I)I"⟩, 17) := ⟨⟨by decide +kernel, by decide +kernel⟩, List.mem_of_getElem? (i := 24) (by decide +kernel), List.mem_of_getElem? (i := 228) (by decide +kernel), List.mem_of_getElem? (i := 229) (by decide +kernel)⟩
theorem lw_p4 : lw_okq (⟨"AcreBuys$Land", "priceNow", "(I)I"⟩, 17) := ⟨⟨by decide +kernel, by decide +kernel⟩, List.mem_of_getElem? (i := 24) (by decide +kernel), List.mem_of_getElem? (i := 235) (by decide +kernel), List.mem_of_getElem? (i := 236) (by decide +kernel)⟩
theorem lw_p5 : lw_okq (⟨"AcreBuys$Land", "priceBy", "(II)I"⟩, 17) := ⟨⟨by decide +kernel, by decide +kernel⟩, List.mem_of_getElem? (i := 24) (by decide +kernel), List.mem_of_getElem? (i := 239) (by decide +kernel), List.mem_of_getElem? (i := 240) (by decide +kernel)⟩
theorem lw_p6 : lw_okq (⟨"AcreBuys$Land", "heardBy", "(II)I"⟩, 17) := ⟨⟨by decide +kernel, by decide +kernel⟩, List.mem_of_getElem? (i := 24) (by decide +kernel), List.mem_of_getElem? (i := 243) (by decide +kernel), List.mem_of_getElem? (i := 244) (by decide +kernel)⟩
theorem lw_p7 : lw_okq (⟨"AcreBuys$Land", "tellersOf", "(I)I"⟩, 17) := ⟨⟨by decide +kernel, by decide +kernel⟩, List.mem_of_getElem? (i := 24) (by decide +kernel), List.mem_of_getElem? (i := 247) (by decide +kernel), List.mem_of_getElem? (i := 248) (by decide +kernel)⟩
theorem lw_p8 : lw_okq (⟨"AcreBuys$Land", "priceHearing", "(II)I"⟩, 17) := ⟨⟨by decide +kernel, by decide +kernel⟩, List.mem_of_getElem? (i := 24) (by decide +kernel), List.mem_of_getElem? (i := 257) (by decide +kernel), List.mem_of_getElem? (i := 258) (by decide +kernel)⟩
theorem lw_p9 : lw_okq (⟨"AcreBuys$Land", "isFree", "(I)Z"⟩, 17) := ⟨⟨by decide +kernel, by decide +kernel⟩, List.mem_of_getElem? (i := 24) (by decide +kernel), List.mem_of_getElem? (i := 304) (by decide +kernel), List.mem_of_getElem? (i := 305) (by decide +kernel)⟩
theorem lw_p10 : lw_okq (⟨"AcreBuys$Land", "freeIn", "(I)I"⟩, 17) := ⟨⟨by decide +kernel, by decide +kernel⟩, List.mem_of_getElem? (i := 24) (by decide +kernel), List.mem_of_getElem? (i := 308) (by decide +kernel), List.mem_of_getElem? (i := 309) (by decide +kernel)⟩
theorem lw_p11 : lw_okq (⟨"AcreBuys$Land", "allFields", "()I"⟩, 17) := ⟨⟨by decide +kernel, by decide +kernel⟩, List.mem_of_getElem? (i := 24) (by decide +kernel), List.mem_of_getElem? (i := 312) (by decide +kernel), List.mem_of_getElem? (i := 313) (by decide +kernel)⟩
theorem lw_p12 : lw_okq (⟨"AcreBuys$Land", "bid", "(II)Z"⟩, 17) := ⟨⟨by decide +kernel, by decide +kernel⟩, List.mem_of_getElem? (i := 24) (by decide +kernel), List.mem_of_getElem? (i := 317) (by decide +kernel), List.mem_of_getElem? (i := 318) (by decide +kernel)⟩
theorem lw_p13 : lw_okq (⟨"AcreBuys$Land", "buy", "(II)V"⟩, 17) := ⟨⟨by decide +kernel, by decide +kernel⟩, List.mem_of_getElem? (i := 24) (by decide +kernel), List.mem_of_getElem? (i := 322) (by decide +kernel), List.mem_of_getElem? (i := 323) (by decide +kernel)⟩
theorem lw_p14 : lw_okq (⟨"AcreBuys$Land", "dropPaper", "(I)V"⟩, 17) := ⟨⟨by decide +kernel, by decide +kernel⟩, List.mem_of_getElem? (i := 24) (by decide +kernel), List.mem_of_getElem? (i := 326) (by decide +kernel), List.mem_of_getElem? (i := 327) (by decide +kernel)⟩
theorem lw_p15 : lw_okq (⟨"AcreBuys$Land", "takePaper", "(II)I"⟩, 17) := ⟨⟨by decide +kernel, by decide +kernel⟩, List.mem_of_getElem? (i := 24) (by decide +kernel), List.mem_of_getElem? (i := 337) (by decide +kernel), List.mem_of_getElem? (i := 338) (by decide +kernel)⟩
def lw_privs_1 : List (MethodName × Nat) := [(⟨"AcreBuys", "refuse", "(I)I"⟩, 8), (⟨"AcreBuys$Land", "addField", "(II)I"⟩, 17), (⟨"AcreBuys$Land", "hasField", "(I)Z"⟩, 17), (⟨"AcreBuys$Land", "holderOf", "(I)I"⟩, 17), (⟨"AcreBuys$Land", "priceNow", "(I)I"⟩, 17), (⟨"AcreBuys$Land", "priceBy", "(II)I"⟩, 17), (⟨"AcreBuys$Land", "heardBy", "(II)I"⟩, 17), (⟨"AcreBuys$Land", "tellersOf", "(I)I"⟩, 17), (⟨"AcreBuys$Land", "priceHearing", "(II)I"⟩, 17), (⟨"AcreBuys$Land", "isFree", "(I)Z"⟩, 17), (⟨"AcreBuys$Land", "freeIn", "(I)I"⟩, 17), (⟨"AcreBuys$Land", "allFields", "()I"⟩, 17), (⟨"AcreBuys$Land", "bid", "(II)Z"⟩, 17), (⟨"AcreBuys$Land", "buy", "(II)V"⟩, 17), (⟨"AcreBuys$Land", "dropPaper", "(I)V"⟩, 17), (⟨"AcreBuys$Land", "takePaper", "(II)I"⟩, 17)]
theorem lw_r1 : ∀ q ∈ lw_privs_1, lw_okq q := List.forall_mem_cons.mpr ⟨lw_p0, List.forall_mem_cons.mpr ⟨lw_p1, List.forall_mem_cons.mpr ⟨lw_p2, List.forall_mem_cons.mpr ⟨lw_p3, List.forall_mem_cons.mpr ⟨lw_p4, List.forall_mem_cons.mpr ⟨lw_p5, List.forall_mem_cons.mpr ⟨lw_p6, List.forall_mem_cons.mpr ⟨lw_p7, List.forall_mem_cons.mpr ⟨lw_p8, List.forall_mem_cons.mpr ⟨lw_p9, List.forall_mem_cons.mpr ⟨lw_p10, List.forall_mem_cons.mpr ⟨lw_p11, List.forall_mem_cons.mpr ⟨lw_p12, List.forall_mem_cons.mpr ⟨lw_p13, List.forall_mem_cons.mpr ⟨lw_p14, List.forall_mem_cons.mpr ⟨lw_p15, fun _ h => absurd h List.not_mem_nil⟩⟩⟩⟩⟩⟩⟩⟩⟩⟩⟩⟩⟩⟩⟩⟩
theorem lw_p16 : lw_okq (⟨"AcreBuys$Land", "dropPastPapers", "()V"⟩, 17) := ⟨⟨by decide +kernel, by decide +kernel⟩, List.mem_of_getElem? (i := 24) (by decide +kernel), List.mem_of_getElem? (i := 365) (by decide +kernel), List.mem_of_getElem? (i := 366) (by decide +kernel)⟩
theorem lw_p17 : lw_okq (⟨"AcreBuys$Land", "rivalTakes", "()I"⟩, 17) := ⟨⟨by decide +kernel, by decide +kernel⟩, List.mem_of_getElem? (i := 24) (by decide +kernel), List.mem_of_getElem? (i := 369) (by decide +kernel), List.mem_of_getElem? (i := 370) (by decide +kernel)⟩
theorem lw_p18 : lw_okq (⟨"AcreBuys$Land", "calmDown", "()V"⟩, 17) := ⟨⟨by decide +kernel, by decide +kernel⟩, List.mem_of_getElem? (i := 24) (by decide +kernel), List.mem_of_getElem? (i := 375) (by decide +kernel), List.mem_of_getElem? (i := 376) (by decide +kernel)⟩
theorem lw_p19 : lw_okq (⟨"AcreBuys$Land", "addStrip", "(II)I"⟩, 17) := ⟨⟨by decide +kernel, by decide +kernel⟩, List.mem_of_getElem? (i := 24) (by decide +kernel), List.mem_of_getElem? (i := 393) (by decide +kernel), List.mem_of_getElem? (i := 394) (by decide +kernel)⟩
theorem lw_p20 : lw_okq (⟨"AcreBuys$Land", "hasStrip", "(I)Z"⟩, 17) := ⟨⟨by decide +kernel, by decide +kernel⟩, List.mem_of_getElem? (i := 24) (by decide +kernel), List.mem_of_getElem? (i := 401) (by decide +kernel), List.mem_of_getElem? (i := 402) (by decide +kernel)⟩
theorem lw_p21 : lw_okq (⟨"AcreBuys$Land", "isHad", "(I)Z"⟩, 17) := ⟨⟨by decide +kernel, by decide +kernel⟩, List.mem_of_getElem? (i := 24) (by decide +kernel), List.mem_of_getElem? (i := 405) (by decide +kernel), List.mem_of_getElem? (i := 406) (by decide +kernel)⟩
theorem lw_p22 : lw_okq (⟨"AcreBuys$Land", "missingOf", "(I)I"⟩, 17) := ⟨⟨by decide +kernel, by decide +kernel⟩, List.mem_of_getElem? (i := 24) (by decide +kernel), List.mem_of_getElem? (i := 409) (by decide +kernel), List.mem_of_getElem? (i := 410) (by decide +kernel)⟩
theorem lw_p23 : lw_okq (⟨"AcreBuys$Land", "canBe", "(I)Z"⟩, 17) := ⟨⟨by decide +kernel, by decide +kernel⟩, List.mem_of_getElem? (i := 24) (by decide +kernel), List.mem_of_getElem? (i := 413) (by decide +kernel), List.mem_of_getElem? (i := 414) (by decide +kernel)⟩
theorem lw_p24 : lw_okq (⟨"AcreBuys", "hindranceOf", "(I)I"⟩, 8) := ⟨⟨by decide +kernel, by decide +kernel⟩, List.mem_of_getElem? (i := 16) (by decide +kernel), List.mem_of_getElem? (i := 425) (by decide +kernel), List.mem_of_getElem? (i := 426) (by decide +kernel)⟩
theorem lw_p25 : lw_okq (⟨"AcreBuys", "leastCost", "(I)I"⟩, 8) := ⟨⟨by decide +kernel, by decide +kernel⟩, List.mem_of_getElem? (i := 16) (by decide +kernel), List.mem_of_getElem? (i := 431) (by decide +kernel), List.mem_of_getElem? (i := 432) (by decide +kernel)⟩
theorem lw_p26 : lw_okq (⟨"AcreBuys$OrderSearch", "run", "(LAcreBuys$Land;I)I"⟩, 5) := ⟨⟨by decide +kernel, by decide +kernel⟩, List.mem_of_getElem? (i := 102) (by decide +kernel), List.mem_of_getElem? (i := 435) (by decide +kernel), List.mem_of_getElem? (i := 436) (by decide +kernel)⟩
theorem lw_p27 : lw_okq (⟨"AcreBuys$OrderSearch", "layRow", "(LAcreBuys$Land;I)V"⟩, 5) := ⟨⟨by decide +kernel, by decide +kernel⟩, List.mem_of_getElem? (i := 102) (by decide +kernel), List.mem_of_getElem? (i := 439) (by decide +kernel), List.mem_of_getElem? (i := 440) (by decide +kernel)⟩
theorem lw_p28 : lw_okq (⟨"AcreBuys$OrderSearch", "costBy", "(II)I"⟩, 5) := ⟨⟨by decide +kernel, by decide +kernel⟩, List.mem_of_getElem? (i := 102) (by decide +kernel), List.mem_of_getElem? (i := 448) (by decide +kernel), List.mem_of_getElem? (i := 449) (by decide +kernel)⟩
theorem lw_p29 : lw_okq (⟨"AcreBuys$OrderSearch", "fieldAt", "(I)I"⟩, 5) := ⟨⟨by decide +kernel, by decide +kernel⟩, List.mem_of_getElem? (i := 102) (by decide +kernel), List.mem_of_getElem? (i := 457) (by decide +kernel), List.mem_of_getElem? (i := 458) (by decide +kernel)⟩
theorem lw_p30 : lw_okq (⟨"AcreBuys$OrderSearch", "nextOf", "(I)I"⟩, 5) := ⟨⟨by decide +kernel, by decide +kernel⟩, List.mem_of_getElem? (i := 102) (by decide +kernel), List.mem_of_getElem? (i := 462) (by decide +kernel), List.mem_of_getElem? (i := 463) (by decide +kernel)⟩
theorem lw_p31 : lw_okq (⟨"AcreBuys$Land", "dearestLast", "(I)I"⟩, 17) := ⟨⟨by decide +kernel, by decide +kernel⟩, List.mem_of_getElem? (i := 24) (by decide +kernel), List.mem_of_getElem? (i := 474) (by decide +kernel), List.mem_of_getElem? (i := 475) (by decide +kernel)⟩
def lw_privs_2 : List (MethodName × Nat) := [(⟨"AcreBuys$Land", "dropPastPapers", "()V"⟩, 17), (⟨"AcreBuys$Land", "rivalTakes", "()I"⟩, 17), (⟨"AcreBuys$Land", "calmDown", "()V"⟩, 17), (⟨"AcreBuys$Land", "addStrip", "(II)I"⟩, 17), (⟨"AcreBuys$Land", "hasStrip", "(I)Z"⟩, 17), (⟨"AcreBuys$Land", "isHad", "(I)Z"⟩, 17), (⟨"AcreBuys$Land", "missingOf", "(I)I"⟩, 17), (⟨"AcreBuys$Land", "canBe", "(I)Z"⟩, 17), (⟨"AcreBuys", "hindranceOf", "(I)I"⟩, 8), (⟨"AcreBuys", "leastCost", "(I)I"⟩, 8), (⟨"AcreBuys$OrderSearch", "run", "(LAcreBuys$Land;I)I"⟩, 5), (⟨"AcreBuys$OrderSearch", "layRow", "(LAcreBuys$Land;I)V"⟩, 5), (⟨"AcreBuys$OrderSearch", "costBy", "(II)I"⟩, 5), (⟨"AcreBuys$OrderSearch", "fieldAt", "(I)I"⟩, 5), (⟨"AcreBuys$OrderSearch", "nextOf", "(I)I"⟩, 5), (⟨"AcreBuys$Land", "dearestLast", "(I)I"⟩, 17)]
theorem lw_r2 : ∀ q ∈ lw_privs_2, lw_okq q := List.forall_mem_cons.mpr ⟨lw_p16, List.forall_mem_cons.mpr ⟨lw_p17, List.forall_mem_cons.mpr ⟨lw_p18, List.forall_mem_cons.mpr ⟨lw_p19, List.forall_mem_cons.mpr ⟨lw_p20, List.forall_mem_cons.mpr ⟨lw_p21, List.forall_mem_cons.mpr ⟨lw_p22, List.forall_mem_cons.mpr ⟨lw_p23, List.forall_mem_cons.mpr ⟨lw_p24, List.forall_mem_cons.mpr ⟨lw_p25, List.forall_mem_cons.mpr ⟨lw_p26, List.forall_mem_cons.mpr ⟨lw_p27, List.forall_mem_cons.mpr ⟨lw_p28, List.forall_mem_cons.mpr ⟨lw_p29, List.forall_mem_cons.mpr ⟨lw_p30, List.forall_mem_cons.mpr ⟨lw_p31, fun _ h => absurd h List.not_mem_nil⟩⟩⟩⟩⟩⟩⟩⟩⟩⟩⟩⟩⟩⟩⟩⟩
theorem lw_p32 : lw_okq (⟨"AcreBuys$Land", "priceAsLast", "(II)I"⟩, 17) := ⟨⟨by decide +kernel, by decide +kernel⟩, List.mem_of_getElem? (i := 24) (by decide +kernel), List.mem_of_getElem? (i := 478) (by decide +kernel), List.mem_of_getElem? (i := 479) (by decide +kernel)⟩
theorem lw_p33 : lw_okq (⟨"AcreBuys$Land", "worthsIn", "(I)I"⟩, 17) := ⟨⟨by decide +kernel, by decide +kernel⟩, List.mem_of_getElem? (i := 24) (by decide +kernel), List.mem_of_getElem? (i := 497) (by decide +kernel), List.mem_of_getElem? (i := 498) (by decide +kernel)⟩
theorem lw_p34 : lw_okq (⟨"AcreBuys$Land", "quietestFirst", "(I)I"⟩, 17) := ⟨⟨by decide +kernel, by decide +kernel⟩, List.mem_of_getElem? (i := 24) (by decide +kernel), List.mem_of_getElem? (i := 509) (by decide +kernel), List.mem_of_getElem? (i := 510) (by decide +kernel)⟩
theorem lw_p35 : lw_okq (⟨"AcreBuys$Land", "pricesIn", "(II)I"⟩, 17) := ⟨⟨by decide +kernel, by decide +kernel⟩, List.mem_of_getElem? (i := 24) (by decide +kernel), List.mem_of_getElem? (i := 513) (by decide +kernel), List.mem_of_getElem? (i := 514) (by decide +kernel)⟩
theorem lw_p36 : lw_okq (⟨"AcreBuys$Tape", "add", "(I)V"⟩, 6) := ⟨⟨by decide +kernel, by decide +kernel⟩, List.mem_of_getElem? (i := 124) (by decide +kernel), List.mem_of_getElem? (i := 521) (by decide +kernel), List.mem_of_getElem? (i := 522) (by decide +kernel)⟩
theorem lw_p37 : lw_okq (⟨"AcreBuys$Land", "become", "(LAcreBuys$Land;)V"⟩, 17) := ⟨⟨by decide +kernel, by decide +kernel⟩, List.mem_of_getElem? (i := 24) (by decide +kernel), List.mem_of_getElem? (i := 533) (by decide +kernel), List.mem_of_getElem? (i := 534) (by decide +kernel)⟩
theorem lw_p38 : lw_okq (⟨"AcreBuys$Tape", "start", "()V"⟩, 6) := ⟨⟨by decide +kernel, by decide +kernel⟩, List.mem_of_getElem? (i := 124) (by decide +kernel), List.mem_of_getElem? (i := 543) (by decide +kernel), List.mem_of_getElem? (i := 544) (by decide +kernel)⟩
theorem lw_p39 : lw_okq (⟨"AcreBuys$Tape", "next", "()V"⟩, 6) := ⟨⟨by decide +kernel, by decide +kernel⟩, List.mem_of_getElem? (i := 124) (by decide +kernel), List.mem_of_getElem? (i := 547) (by decide +kernel), List.mem_of_getElem? (i := 548) (by decide +kernel)⟩
theorem lw_p40 : lw_okq (⟨"AcreBuys$Tape", "tokenAt", "(I)I"⟩, 6) := ⟨⟨by decide +kernel, by decide +kernel⟩, List.mem_of_getElem? (i := 124) (by decide +kernel), List.mem_of_getElem? (i := 551) (by decide +kernel), List.mem_of_getElem? (i := 552) (by decide +kernel)⟩
theorem lw_p41 : lw_okq (⟨"AcreBuys$Tape", "numberAtHand", "()I"⟩, 6) := ⟨⟨by decide +kernel, by decide +kernel⟩, List.mem_of_getElem? (i := 124) (by decide +kernel), List.mem_of_getElem? (i := 555) (by decide +kernel), List.mem_of_getElem? (i := 556) (by decide +kernel)⟩
theorem lw_p42 : lw_okq (⟨"AcreBuys$Tape", "isWord", "(Ljava/lang/String;)Z"⟩, 6) := ⟨⟨by decide +kernel, by decide +kernel⟩, List.mem_of_getElem? (i := 124) (by decide +kernel), List.mem_of_getElem? (i := 564) (by decide +kernel), List.mem_of_getElem? (i := 565) (by decide +kernel)⟩
theorem lw_p43 : lw_okq (⟨"AcreBuys$Sheet", "lay", "(II)V"⟩, 3) := ⟨⟨by decide +kernel, by decide +kernel⟩, List.mem_of_getElem? (i := 154) (by decide +kernel), List.mem_of_getElem? (i := 657) (by decide +kernel), List.mem_of_getElem? (i := 658) (by decide +kernel)⟩
theorem lw_p44 : lw_okq (⟨"AcreBuys", "sheetFault", "(I)I"⟩, 8) := ⟨⟨by decide +kernel, by decide +kernel⟩, List.mem_of_getElem? (i := 16) (by decide +kernel), List.mem_of_getElem? (i := 668) (by decide +kernel), List.mem_of_getElem? (i := 669) (by decide +kernel)⟩
theorem lw_p45 : lw_okq (⟨"AcreBuys$Sheet", "isMissing", "()Z"⟩, 3) := ⟨⟨by decide +kernel, by decide +kernel⟩, List.mem_of_getElem? (i := 154) (by decide +kernel), List.mem_of_getElem? (i := 672) (by decide +kernel), List.mem_of_getElem? (i := 673) (by decide +kernel)⟩
theorem lw_p46 : lw_okq (⟨"AcreBuys$Sheet", "put", "(IJ)J"⟩, 3) := ⟨⟨by decide +kernel, by decide +kernel⟩, List.mem_of_getElem? (i := 154) (by decide +kernel), List.mem_of_getElem? (i := 677) (by decide +kernel), List.mem_of_getElem? (i := 678) (by decide +kernel)⟩
theorem lw_p47 : lw_okq (⟨"AcreBuys$Sheet", "holds", "(II)Z"⟩, 3) := ⟨⟨by decide +kernel, by decide +kernel⟩, List.mem_of_getElem? (i := 154) (by decide +kernel), List.mem_of_getElem? (i := 685) (by decide +kernel), List.mem_of_getElem? (i := 686) (by decide +kernel)⟩
def lw_privs_3 : List (MethodName × Nat) := [(⟨"AcreBuys$Land", "priceAsLast", "(II)I"⟩, 17), (⟨"AcreBuys$Land", "worthsIn", "(I)I"⟩, 17), (⟨"AcreBuys$Land", "quietestFirst", "(I)I"⟩, 17), (⟨"AcreBuys$Land", "pricesIn", "(II)I"⟩, 17), (⟨"AcreBuys$Tape", "add", "(I)V"⟩, 6), (⟨"AcreBuys$Land", "become", "(LAcreBuys$Land;)V"⟩, 17), (⟨"AcreBuys$Tape", "start", "()V"⟩, 6), (⟨"AcreBuys$Tape", "next", "()V"⟩, 6), (⟨"AcreBuys$Tape", "tokenAt", "(I)I"⟩, 6), (⟨"AcreBuys$Tape", "numberAtHand", "()I"⟩, 6), (⟨"AcreBuys$Tape", "isWord", "(Ljava/lang/String;)Z"⟩, 6), (⟨"AcreBuys$Sheet", "lay", "(II)V"⟩, 3), (⟨"AcreBuys", "sheetFault", "(I)I"⟩, 8), (⟨"AcreBuys$Sheet", "isMissing", "()Z"⟩, 3), (⟨"AcreBuys$Sheet", "put", "(IJ)J"⟩, 3), (⟨"AcreBuys$Sheet", "holds", "(II)Z"⟩, 3)]
theorem lw_r3 : ∀ q ∈ lw_privs_3, lw_okq q := List.forall_mem_cons.mpr ⟨lw_p32, List.forall_mem_cons.mpr ⟨lw_p33, List.forall_mem_cons.mpr ⟨lw_p34, List.forall_mem_cons.mpr ⟨lw_p35, List.forall_mem_cons.mpr ⟨lw_p36, List.forall_mem_cons.mpr ⟨lw_p37, List.forall_mem_cons.mpr ⟨lw_p38, List.forall_mem_cons.mpr ⟨lw_p39, List.forall_mem_cons.mpr ⟨lw_p40, List.forall_mem_cons.mpr ⟨lw_p41, List.forall_mem_cons.mpr ⟨lw_p42, List.forall_mem_cons.mpr ⟨lw_p43, List.forall_mem_cons.mpr ⟨lw_p44, List.forall_mem_cons.mpr ⟨lw_p45, List.forall_mem_cons.mpr ⟨lw_p46, List.forall_mem_cons.mpr ⟨lw_p47, fun _ h => absurd h List.not_mem_nil⟩⟩⟩⟩⟩⟩⟩⟩⟩⟩⟩⟩⟩⟩⟩⟩
theorem lw_p48 : lw_okq (⟨"AcreBuys$Land", "fieldTold", "(J)I"⟩, 17) := ⟨⟨by decide +kernel, by decide +kernel⟩, List.mem_of_getElem? (i := 24) (by decide +kernel), List.mem_of_getElem? (i := 694) (by decide +kernel), List.mem_of_getElem? (i := 695) (by decide +kernel)⟩
theorem lw_p49 : lw_okq (⟨"AcreBuys$Land", "allWary", "()I"⟩, 17) := ⟨⟨by decide +kernel, by decide +kernel⟩, List.mem_of_getElem? (i := 24) (by decide +kernel), List.mem_of_getElem? (i := 723) (by decide +kernel), List.mem_of_getElem? (i := 724) (by decide +kernel)⟩
theorem lw_p50 : lw_okq (⟨"AcreBuysModel", "finds", "(I)I"⟩, 22) := ⟨⟨by decide +kernel, by decide +kernel⟩, List.mem_of_getElem? (i := 731) (by decide +kernel), List.mem_of_getElem? (i := 814) (by decide +kernel), List.mem_of_getElem? (i := 815) (by decide +kernel)⟩
theorem lw_p51 : lw_okq (⟨"AcreBuysModel", "comes", "(II)V"⟩, 22) := ⟨⟨by decide +kernel, by decide +kernel⟩, List.mem_of_getElem? (i := 731) (by decide +kernel), List.mem_of_getElem? (i := 819) (by decide +kernel), List.mem_of_getElem? (i := 820) (by decide +kernel)⟩
theorem lw_p52 : lw_okq (⟨"AcreBuysModel", "at", "(II)I"⟩, 22) := ⟨⟨by decide +kernel, by decide +kernel⟩, List.mem_of_getElem? (i := 731) (by decide +kernel), List.mem_of_getElem? (i := 823) (by decide +kernel), List.mem_of_getElem? (i := 824) (by decide +kernel)⟩
theorem lw_p53 : lw_okq (⟨"AcreBuysModel", "isField", "(J)Z"⟩, 22) := ⟨⟨by decide +kernel, by decide +kernel⟩, List.mem_of_getElem? (i := 731) (by decide +kernel), List.mem_of_getElem? (i := 831) (by decide +kernel), List.mem_of_getElem? (i := 832) (by decide +kernel)⟩
theorem lw_p54 : lw_okq (⟨"AcreBuysModel", "has", "(II)I"⟩, 22) := ⟨⟨by decide +kernel, by decide +kernel⟩, List.mem_of_getElem? (i := 731) (by decide +kernel), List.mem_of_getElem? (i := 836) (by decide +kernel), List.mem_of_getElem? (i := 837) (by decide +kernel)⟩
theorem lw_p55 : lw_okq (⟨"AcreBuysModel", "asksNow", "(I)I"⟩, 22) := ⟨⟨by decide +kernel, by decide +kernel⟩, List.mem_of_getElem? (i := 731) (by decide +kernel), List.mem_of_getElem? (i := 840) (by decide +kernel), List.mem_of_getElem? (i := 841) (by decide +kernel)⟩
theorem lw_p56 : lw_okq (⟨"AcreBuysModel", "ours", "()I"⟩, 22) := ⟨⟨by decide +kernel, by decide +kernel⟩, List.mem_of_getElem? (i := 731) (by decide +kernel), List.mem_of_getElem? (i := 844) (by decide +kernel), List.mem_of_getElem? (i := 845) (by decide +kernel)⟩
theorem lw_p57 : lw_okq (⟨"AcreBuysModel", "asksBy", "(II)I"⟩, 22) := ⟨⟨by decide +kernel, by decide +kernel⟩, List.mem_of_getElem? (i := 731) (by decide +kernel), List.mem_of_getElem? (i := 848) (by decide +kernel), List.mem_of_getElem? (i := 849) (by decide +kernel)⟩
theorem lw_p58 : lw_okq (⟨"AcreBuysModel", "heardBy", "(II)I"⟩, 22) := ⟨⟨by decide +kernel, by decide +kernel⟩, List.mem_of_getElem? (i := 731) (by decide +kernel), List.mem_of_getElem? (i := 852) (by decide +kernel), List.mem_of_getElem? (i := 853) (by decide +kernel)⟩
theorem lw_p59 : lw_okq (⟨"AcreBuysModel", "wareBy", "(II)I"⟩, 22) := ⟨⟨by decide +kernel, by decide +kernel⟩, List.mem_of_getElem? (i := 731) (by decide +kernel), List.mem_of_getElem? (i := 856) (by decide +kernel), List.mem_of_getElem? (i := 857) (by decide +kernel)⟩
theorem lw_p60 : lw_okq (⟨"AcreBuysModel", "becomes", "(II)I"⟩, 22) := ⟨⟨by decide +kernel, by decide +kernel⟩, List.mem_of_getElem? (i := 731) (by decide +kernel), List.mem_of_getElem? (i := 867) (by decide +kernel), List.mem_of_getElem? (i := 868) (by decide +kernel)⟩
theorem lw_p61 : lw_okq (⟨"AcreBuysModel", "isFree", "(I)Z"⟩, 22) := ⟨⟨by decide +kernel, by decide +kernel⟩, List.mem_of_getElem? (i := 731) (by decide +kernel), List.mem_of_getElem? (i := 892) (by decide +kernel), List.mem_of_getElem? (i := 893) (by decide +kernel)⟩
theorem lw_p62 : lw_okq (⟨"AcreBuysModel", "offered", "(II)Z"⟩, 22) := ⟨⟨by decide +kernel, by decide +kernel⟩, List.mem_of_getElem? (i := 731) (by decide +kernel), List.mem_of_getElem? (i := 897) (by decide +kernel), List.mem_of_getElem? (i := 898) (by decide +kernel)⟩
theorem lw_p63 : lw_okq (⟨"AcreBuysModel", "papers", "()I"⟩, 22) := ⟨⟨by decide +kernel, by decide +kernel⟩, List.mem_of_getElem? (i := 731) (by decide +kernel), List.mem_of_getElem? (i := 906) (by decide +kernel), List.mem_of_getElem? (i := 907) (by decide +kernel)⟩
def lw_privs_4 : List (MethodName × Nat) := [(⟨"AcreBuys$Land", "fieldTold", "(J)I"⟩, 17), (⟨"AcreBuys$Land", "allWary", "()I"⟩, 17), (⟨"AcreBuysModel", "finds", "(I)I"⟩, 22), (⟨"AcreBuysModel", "comes", "(II)V"⟩, 22), (⟨"AcreBuysModel", "at", "(II)I"⟩, 22), (⟨"AcreBuysModel", "isField", "(J)Z"⟩, 22), (⟨"AcreBuysModel", "has", "(II)I"⟩, 22), (⟨"AcreBuysModel", "asksNow", "(I)I"⟩, 22), (⟨"AcreBuysModel", "ours", "()I"⟩, 22), (⟨"AcreBuysModel", "asksBy", "(II)I"⟩, 22), (⟨"AcreBuysModel", "heardBy", "(II)I"⟩, 22), (⟨"AcreBuysModel", "wareBy", "(II)I"⟩, 22), (⟨"AcreBuysModel", "becomes", "(II)I"⟩, 22), (⟨"AcreBuysModel", "isFree", "(I)Z"⟩, 22), (⟨"AcreBuysModel", "offered", "(II)Z"⟩, 22), (⟨"AcreBuysModel", "papers", "()I"⟩, 22)]
theorem lw_r4 : ∀ q ∈ lw_privs_4, lw_okq q := List.forall_mem_cons.mpr ⟨lw_p48, List.forall_mem_cons.mpr ⟨lw_p49, List.forall_mem_cons.mpr ⟨lw_p50, List.forall_mem_cons.mpr ⟨lw_p51, List.forall_mem_cons.mpr ⟨lw_p52, List.forall_mem_cons.mpr ⟨lw_p53, List.forall_mem_cons.mpr ⟨lw_p54, List.forall_mem_cons.mpr ⟨lw_p55, List.forall_mem_cons.mpr ⟨lw_p56, List.forall_mem_cons.mpr ⟨lw_p57, List.forall_mem_cons.mpr ⟨lw_p58, List.forall_mem_cons.mpr ⟨lw_p59, List.forall_mem_cons.mpr ⟨lw_p60, List.forall_mem_cons.mpr ⟨lw_p61, List.forall_mem_cons.mpr ⟨lw_p62, List.forall_mem_cons.mpr ⟨lw_p63, fun _ h => absurd h List.not_mem_nil⟩⟩⟩⟩⟩⟩⟩⟩⟩⟩⟩⟩⟩⟩⟩⟩
theorem lw_p64 : lw_okq (⟨"AcreBuysModel", "thatAre", "(I)I"⟩, 22) := ⟨⟨by decide +kernel, by decide +kernel⟩, List.mem_of_getElem? (i := 731) (by decide +kernel), List.mem_of_getElem? (i := 939) (by decide +kernel), List.mem_of_getElem? (i := 940) (by decide +kernel)⟩
theorem lw_p65 : lw_okq (⟨"AcreBuysModel", "comesStrip", "(II)V"⟩, 22) := ⟨⟨by decide +kernel, by decide +kernel⟩, List.mem_of_getElem? (i := 731) (by decide +kernel), List.mem_of_getElem? (i := 947) (by decide +kernel), List.mem_of_getElem? (i := 948) (by decide +kernel)⟩
theorem lw_p66 : lw_okq (⟨"AcreBuysModel", "isStrip", "(I)Z"⟩, 22) := ⟨⟨by decide +kernel, by decide +kernel⟩, List.mem_of_getElem? (i := 731) (by decide +kernel), List.mem_of_getElem? (i := 955) (by decide +kernel), List.mem_of_getElem? (i := 956) (by decide +kernel)⟩
theorem lw_p67 : lw_okq (⟨"AcreBuysModel", "isHad", "(I)Z"⟩, 22) := ⟨⟨by decide +kernel, by decide +kernel⟩, List.mem_of_getElem? (i := 731) (by decide +kernel), List.mem_of_getElem? (i := 960) (by decide +kernel), List.mem_of_getElem? (i := 961) (by decide +kernel)⟩
theorem lw_p68 : lw_okq (⟨"AcreBuysModel", "thoseOf", "(II)I"⟩, 22) := ⟨⟨by decide +kernel, by decide +kernel⟩, List.mem_of_getElem? (i := 731) (by decide +kernel), List.mem_of_getElem? (i := 964) (by decide +kernel), List.mem_of_getElem? (i := 965) (by decide +kernel)⟩
theorem lw_p69 : lw_okq (⟨"AcreBuysModel", "setOf", "(I)I"⟩, 22) := ⟨⟨by decide +kernel, by decide +kernel⟩, List.mem_of_getElem? (i := 731) (by decide +kernel), List.mem_of_getElem? (i := 968) (by decide +kernel), List.mem_of_getElem? (i := 969) (by decide +kernel)⟩
theorem lw_p70 : lw_okq (⟨"AcreBuysModel", "canBe", "(I)Z"⟩, 22) := ⟨⟨by decide +kernel, by decide +kernel⟩, List.mem_of_getElem? (i := 731) (by decide +kernel), List.mem_of_getElem? (i := 972) (by decide +kernel), List.mem_of_getElem? (i := 973) (by decide +kernel)⟩
theorem lw_p71 : lw_okq (⟨"AcreBuysModel", "findWanted", "(I)V"⟩, 22) := ⟨⟨by decide +kernel, by decide +kernel⟩, List.mem_of_getElem? (i := 731) (by decide +kernel), List.mem_of_getElem? (i := 984) (by decide +kernel), List.mem_of_getElem? (i := 985) (by decide +kernel)⟩
theorem lw_p72 : lw_okq (⟨"AcreBuysModel", "findLeast", "()I"⟩, 22) := ⟨⟨by decide +kernel, by decide +kernel⟩, List.mem_of_getElem? (i := 731) (by decide +kernel), List.mem_of_getElem? (i := 989) (by decide +kernel), List.mem_of_getElem? (i := 990) (by decide +kernel)⟩
theorem lw_p73 : lw_okq (⟨"AcreBuysModel", "asksBehind", "(II)I"⟩, 22) := ⟨⟨by decide +kernel, by decide +kernel⟩, List.mem_of_getElem? (i := 731) (by decide +kernel), List.mem_of_getElem? (i := 993) (by decide +kernel), List.mem_of_getElem? (i := 994) (by decide +kernel)⟩
theorem lw_p74 : lw_okq (⟨"AcreBuysModel", "bestStrip", "()I"⟩, 22) := ⟨⟨by decide +kernel, by decide +kernel⟩, List.mem_of_getElem? (i := 731) (by decide +kernel), List.mem_of_getElem? (i := 1005) (by decide +kernel), List.mem_of_getElem? (i := 1006) (by decide +kernel)⟩
theorem lw_p75 : lw_okq (⟨"AcreBuysModel", "goesOn", "()V"⟩, 22) := ⟨⟨by decide +kernel, by decide +kernel⟩, List.mem_of_getElem? (i := 731) (by decide +kernel), List.mem_of_getElem? (i := 1046) (by decide +kernel), List.mem_of_getElem? (i := 1047) (by decide +kernel)⟩
theorem lw_p76 : lw_okq (⟨"AcreBuysModel", "byteAt", "(I)I"⟩, 22) := ⟨⟨by decide +kernel, by decide +kernel⟩, List.mem_of_getElem? (i := 731) (by decide +kernel), List.mem_of_getElem? (i := 1050) (by decide +kernel), List.mem_of_getElem? (i := 1051) (by decide +kernel)⟩
theorem lw_p77 : lw_okq (⟨"AcreBuysModel", "wordHere", "()I"⟩, 22) := ⟨⟨by decide +kernel, by decide +kernel⟩, List.mem_of_getElem? (i := 731) (by decide +kernel), List.mem_of_getElem? (i := 1056) (by decide +kernel), List.mem_of_getElem? (i := 1057) (by decide +kernel)⟩
theorem lw_p78 : lw_okq (⟨"AcreBuysModel", "item", "()V"⟩, 22) := ⟨⟨by decide +kernel, by decide +kernel⟩, List.mem_of_getElem? (i := 731) (by decide +kernel), List.mem_of_getElem? (i := 1062) (by decide +kernel), List.mem_of_getElem? (i := 1063) (by decide +kernel)⟩
theorem lw_p79 : lw_okq (⟨"AcreBuysModel", "fieldItem", "(I)V"⟩, 22) := ⟨⟨by decide +kernel, by decide +kernel⟩, List.mem_of_getElem? (i := 731) (by decide +kernel), List.mem_of_getElem? (i := 1066) (by decide +kernel), List.mem_of_getElem? (i := 1067) (by decide +kernel)⟩
def lw_privs_5 : List (MethodName × Nat) := [(⟨"AcreBuysModel", "thatAre", "(I)I"⟩, 22), (⟨"AcreBuysModel", "comesStrip", "(II)V"⟩, 22), (⟨"AcreBuysModel", "isStrip", "(I)Z"⟩, 22), (⟨"AcreBuysModel", "isHad", "(I)Z"⟩, 22), (⟨"AcreBuysModel", "thoseOf", "(II)I"⟩, 22), (⟨"AcreBuysModel", "setOf", "(I)I"⟩, 22), (⟨"AcreBuysModel", "canBe", "(I)Z"⟩, 22), (⟨"AcreBuysModel", "findWanted", "(I)V"⟩, 22), (⟨"AcreBuysModel", "findLeast", "()I"⟩, 22), (⟨"AcreBuysModel", "asksBehind", "(II)I"⟩, 22), (⟨"AcreBuysModel", "bestStrip", "()I"⟩, 22), (⟨"AcreBuysModel", "goesOn", "()V"⟩, 22), (⟨"AcreBuysModel", "byteAt", "(I)I"⟩, 22), (⟨"AcreBuysModel", "wordHere", "()I"⟩, 22), (⟨"AcreBuysModel", "item", "()V"⟩, 22), (⟨"AcreBuysModel", "fieldItem", "(I)V"⟩, 22)]
theorem lw_r5 : ∀ q ∈ lw_privs_5, lw_okq q := List.forall_mem_cons.mpr ⟨lw_p64, List.forall_mem_cons.mpr ⟨lw_p65, List.forall_mem_cons.mpr ⟨lw_p66, List.forall_mem_cons.mpr ⟨lw_p67, List.forall_mem_cons.mpr ⟨lw_p68, List.forall_mem_cons.mpr ⟨lw_p69, List.forall_mem_cons.mpr ⟨lw_p70, List.forall_mem_cons.mpr ⟨lw_p71, List.forall_mem_cons.mpr ⟨lw_p72, List.forall_mem_cons.mpr ⟨lw_p73, List.forall_mem_cons.mpr ⟨lw_p74, List.forall_mem_cons.mpr ⟨lw_p75, List.forall_mem_cons.mpr ⟨lw_p76, List.forall_mem_cons.mpr ⟨lw_p77, List.forall_mem_cons.mpr ⟨lw_p78, List.forall_mem_cons.mpr ⟨lw_p79, fun _ h => absurd h List.not_mem_nil⟩⟩⟩⟩⟩⟩⟩⟩⟩⟩⟩⟩⟩⟩⟩⟩
theorem lw_p80 : lw_okq (⟨"AcreBuysModel", "number", "(II)I"⟩, 22) := ⟨⟨by decide +kernel, by decide +kernel⟩, List.mem_of_getElem? (i := 731) (by decide +kernel), List.mem_of_getElem? (i := 1070) (by decide +kernel), List.mem_of_getElem? (i := 1071) (by decide +kernel)⟩
theorem lw_p81 : lw_okq (⟨"AcreBuysModel", "takes", "(I)Z"⟩, 22) := ⟨⟨by decide +kernel, by decide +kernel⟩, List.mem_of_getElem? (i := 731) (by decide +kernel), List.mem_of_getElem? (i := 1074) (by decide +kernel), List.mem_of_getElem? (i := 1075) (by decide +kernel)⟩
theorem lw_p82 : lw_okq (⟨"AcreBuysModel", "isWord", "(I)Z"⟩, 22) := ⟨⟨by decide +kernel, by decide +kernel⟩, List.mem_of_getElem? (i := 731) (by decide +kernel), List.mem_of_getElem? (i := 1078) (by decide +kernel), List.mem_of_getElem? (i := 1079) (by decide +kernel)⟩
theorem lw_p83 : lw_okq (⟨"AcreBuysModel", "numbersBelow", "(I)I"⟩, 22) := ⟨⟨by decide +kernel, by decide +kernel⟩, List.mem_of_getElem? (i := 731) (by decide +kernel), List.mem_of_getElem? (i := 1082) (by decide +kernel), List.mem_of_getElem? (i := 1083) (by decide +kernel)⟩
theorem lw_p84 : lw_okq (⟨"AcreBuysModel", "stripItem", "()V"⟩, 22) := ⟨⟨by decide +kernel, by decide +kernel⟩, List.mem_of_getElem? (i := 731) (by decide +kernel), List.mem_of_getElem? (i := 1086) (by decide +kernel), List.mem_of_getElem? (i := 1087) (by decide +kernel)⟩
theorem lw_p85 : lw_okq (⟨"AcreBuysModel", "allWary", "()I"⟩, 22) := ⟨⟨by decide +kernel, by decide +kernel⟩, List.mem_of_getElem? (i := 731) (by decide +kernel), List.mem_of_getElem? (i := 1137) (by decide +kernel), List.mem_of_getElem? (i := 1138) (by decide +kernel)⟩
def lw_privs_6 : List (MethodName × Nat) := [(⟨"AcreBuysModel", "number", "(II)I"⟩, 22), (⟨"AcreBuysModel", "takes", "(I)Z"⟩, 22), (⟨"AcreBuysModel", "isWord", "(I)Z"⟩, 22), (⟨"AcreBuysModel", "numbersBelow", "(I)I"⟩, 22), (⟨"AcreBuysModel", "stripItem", "()V"⟩, 22), (⟨"AcreBuysModel", "allWary", "()I"⟩, 22)]
theorem lw_r6 : ∀ q ∈ lw_privs_6, lw_okq q := List.forall_mem_cons.mpr ⟨lw_p80, List.forall_mem_cons.mpr ⟨lw_p81, List.forall_mem_cons.mpr ⟨lw_p82, List.forall_mem_cons.mpr ⟨lw_p83, List.forall_mem_cons.mpr ⟨lw_p84, List.forall_mem_cons.mpr ⟨lw_p85, fun _ h => absurd h List.not_mem_nil⟩⟩⟩⟩⟩⟩
def lw_privs : List (MethodName × Nat) := lw_privs_1 ++ (lw_privs_2 ++ (lw_privs_3 ++ (lw_privs_4 ++ (lw_privs_5 ++ (lw_privs_6)))))
def lw_tbl : List Cond := k2_sels lw_privs ++ tables_1
theorem lw_privs_ok : ∀ q ∈ lw_privs, lw_okq q := by
  show ∀ q ∈ lw_privs_1 ++ (lw_privs_2 ++ (lw_privs_3 ++ (lw_privs_4 ++ (lw_privs_5 ++ (lw_privs_6))))), lw_okq q
  exact List.forall_mem_append.mpr ⟨lw_r1, List.forall_mem_append.mpr ⟨lw_r2, List.forall_mem_append.mpr ⟨lw_r3, List.forall_mem_append.mpr ⟨lw_r4, List.forall_mem_append.mpr ⟨lw_r5, lw_r6⟩⟩⟩⟩⟩

/-! ===== BEGIN printed: names, fields, word lists, decode rows ===== -/
def RX0 : String := "AcreBuys$Land"
def TX0 : u_T := fun k => match k with
  | 0 => ("AcreBuys$Land", "fields", "I", false)
  | 1 => ("AcreBuys$Land", "kinds", "[I", true)
  | 2 => ("AcreBuys$Land", "worths", "[I", true)
  | 3 => ("AcreBuys$Land", "wary", "[I", true)
  | 4 => ("AcreBuys$Land", "tells", "[I", true)
  | 5 => ("AcreBuys$Land", "ours", "I", false)
  | 6 => ("AcreBuys$Land", "lost", "I", false)
  | 7 => ("AcreBuys$Land", "papers", "I", false)
  | 8 => ("AcreBuys$Land", "prices", "[I", true)
  | 9 => ("AcreBuys$Land", "tills", "[I", true)
  | 10 => ("AcreBuys$Land", "month", "I", false)
  | 11 => ("AcreBuys$Land", "spent", "J", false)
  | 12 => ("AcreBuys$Land", "z", "I", false)
  | 13 => ("AcreBuys$Land", "rules", "[I", true)
  | 14 => ("AcreBuys$Land", "strips", "I", false)
  | 15 => ("AcreBuys$Land", "sets", "[I", true)
  | _ => ("AcreBuys$Land", "rounds", "[I", true)
def tyX0 : Nat → FieldType := fun k => match k with
  | 0 => .int
  | 1 => .array .int
  | 2 => .array .int
  | 3 => .array .int
  | 4 => .array .int
  | 5 => .int
  | 6 => .int
  | 7 => .int
  | 8 => .array .int
  | 9 => .array .int
  | 10 => .int
  | 11 => .long
  | 12 => .int
  | 13 => .array .int
  | 14 => .int
  | 15 => .array .int
  | _ => .array .int
abbrev wsX00 : List Cond := u_ws RX0 TX0 17
theorem nmX0 : ∀ a, a < 17 → ∀ b, b < 17 → a ≠ b → (TX0 a).2.1 ≠ (TX0 b).2.1 := by decide +kernel
theorem tyX0_ok : ∀ k, k < 17 → parseFieldDescriptor (TX0 k).2.2.1 = some (tyX0 k) := by decide +kernel
abbrev cX0_init : ByteArray := prog_2_method_1_code
def yX0_init : MethodName := ⟨RX0, "<init>", "()V"⟩
abbrev cX0_become : ByteArray := prog_2_method_2_code
def yX0_become : MethodName := ⟨RX0, "become", "(LAcreBuys$Land;)V"⟩
abbrev cX0_addField : ByteArray := prog_2_method_3_code
def yX0_addField : MethodName := ⟨RX0, "addField", "(II)I"⟩
abbrev cX0_addStrip : ByteArray := prog_2_method_4_code
def yX0_addStrip : MethodName := ⟨RX0, "addStrip", "(II)I"⟩
abbrev cX0_hasField : ByteArray := prog_2_method_5_code
def yX0_hasField : MethodName := ⟨RX0, "hasField", "(I)Z"⟩
abbrev cX0_fieldTold : ByteArray := prog_2_method_6_code
def yX0_fieldTold : MethodName := ⟨RX0, "fieldTold", "(J)I"⟩
abbrev cX0_hasStrip : ByteArray := prog_2_method_7_code
def yX0_hasStrip : MethodName := ⟨RX0, "hasStrip", "(I)Z"⟩
abbrev cX0_allFields : ByteArray := prog_2_method_8_code
def yX0_allFields : MethodName := ⟨RX0, "allFields", "()I"⟩
abbrev cX0_freeIn : ByteArray := prog_2_method_9_code
def yX0_freeIn : MethodName := ⟨RX0, "freeIn", "(I)I"⟩
abbrev cX0_isFree : ByteArray := prog_2_method_10_code
def yX0_isFree : MethodName := ⟨RX0, "isFree", "(I)Z"⟩
abbrev cX0_holderOf : ByteArray := prog_2_method_11_code
def yX0_holderOf : MethodName := ⟨RX0, "holderOf", "(I)I"⟩
abbrev cX0_tellersOf : ByteArray := prog_2_method_12_code
def yX0_tellersOf : MethodName := ⟨RX0, "tellersOf", "(I)I"⟩
abbrev cX0_heardBy : ByteArray := prog_2_method_13_code
def yX0_heardBy : MethodName := ⟨RX0, "heardBy", "(II)I"⟩
abbrev cX0_priceHearing : ByteArray := prog_2_method_14_code
def yX0_priceHearing : MethodName := ⟨RX0, "priceHearing", "(II)I"⟩
abbrev cX0_priceBy : ByteArray := prog_2_method_15_code
def yX0_priceBy : MethodName := ⟨RX0, "priceBy", "(II)I"⟩
abbrev cX0_priceNow : ByteArray := prog_2_method_16_code
def yX0_priceNow : MethodName := ⟨RX0, "priceNow", "(I)I"⟩
abbrev cX0_worthsIn : ByteArray := prog_2_method_17_code
def yX0_worthsIn : MethodName := ⟨RX0, "worthsIn", "(I)I"⟩
abbrev cX0_pricesIn : ByteArray := prog_2_method_18_code
def yX0_pricesIn : MethodName := ⟨RX0, "pricesIn", "(II)I"⟩
abbrev cX0_allWary : ByteArray := prog_2_method_19_code
def yX0_allWary : MethodName := ⟨RX0, "allWary", "()I"⟩
abbrev cX0_buy : ByteArray := prog_2_method_20_code
def yX0_buy : MethodName := ⟨RX0, "buy", "(II)V"⟩
abbrev cX0_dropPaper : ByteArray := prog_2_method_21_code
def yX0_dropPaper : MethodName := ⟨RX0, "dropPaper", "(I)V"⟩
abbrev cX0_bid : ByteArray := prog_2_method_22_code
def yX0_bid : MethodName := ⟨RX0, "bid", "(II)Z"⟩
abbrev cX0_takePaper : ByteArray := prog_2_method_23_code
def yX0_takePaper : MethodName := ⟨RX0, "takePaper", "(II)I"⟩
abbrev cX0_dropPastPapers : ByteArray := prog_2_method_24_code
def yX0_dropPastPapers : MethodName := ⟨RX0, "dropPastPapers", "()V"⟩
abbrev cX0_rivalTakes : ByteArray := prog_2_method_25_code
def yX0_rivalTakes : MethodName := ⟨RX0, "rivalTakes", "()I"⟩
abbrev cX0_calmDown : ByteArray := prog_2_method_26_code
def yX0_calmDown : MethodName := ⟨RX0, "calmDown", "()V"⟩
abbrev cX0_canBe : ByteArray := prog_2_method_27_code
def yX0_canBe : MethodName := ⟨RX0, "canBe", "(I)Z"⟩
abbrev cX0_missingOf : ByteArray := prog_2_method_28_code
def yX0_missingOf : MethodName := ⟨RX0, "missingOf", "(I)I"⟩
abbrev cX0_isHad : ByteArray := prog_2_method_29_code
def yX0_isHad : MethodName := ⟨RX0, "isHad", "(I)Z"⟩
abbrev cX0_priceAsLast : ByteArray := prog_2_method_30_code
def yX0_priceAsLast : MethodName := ⟨RX0, "priceAsLast", "(II)I"⟩
abbrev cX0_dearestLast : ByteArray := prog_2_method_31_code
def yX0_dearestLast : MethodName := ⟨RX0, "dearestLast", "(I)I"⟩
abbrev cX0_quietestFirst : ByteArray := prog_2_method_32_code
def yX0_quietestFirst : MethodName := ⟨RX0, "quietestFirst", "(I)I"⟩
def RX1 : String := "AcreBuys$OrderSearch"
def TX1 : u_T := fun k => match k with
  | 0 => ("AcreBuys$OrderSearch", "size", "I", false)
  | 1 => ("AcreBuys$OrderSearch", "fields", "[I", true)
  | 2 => ("AcreBuys$OrderSearch", "tellers", "[I", true)
  | 3 => ("AcreBuys$OrderSearch", "prices", "[I", true)
  | _ => ("AcreBuys$OrderSearch", "rest", "[I", true)
def tyX1 : Nat → FieldType := fun k => match k with
  | 0 => .int
  | 1 => .array .int
  | 2 => .array .int
  | 3 => .array .int
  | _ => .array .int
abbrev wsX10 : List Cond := u_ws RX1 TX1 5
theorem nmX1 : ∀ a, a < 5 → ∀ b, b < 5 → a ≠ b → (TX1 a).2.1 ≠ (TX1 b).2.1 := by decide +kernel
theorem tyX1_ok : ∀ k, k < 5 → parseFieldDescriptor (TX1 k).2.2.1 = some (tyX1 k) := by decide +kernel
abbrev cX1_init : ByteArray := prog_3_method_1_code
def yX1_init : MethodName := ⟨RX1, "<init>", "()V"⟩
abbrev cX1_run : ByteArray := prog_3_method_2_code
def yX1_run : MethodName := ⟨RX1, "run", "(LAcreBuys$Land;I)I"⟩
abbrev cX1_layRow : ByteArray := prog_3_method_3_code
def yX1_layRow : MethodName := ⟨RX1, "layRow", "(LAcreBuys$Land;I)V"⟩
abbrev cX1_costBy : ByteArray := prog_3_method_4_code
def yX1_costBy : MethodName := ⟨RX1, "costBy", "(II)I"⟩
abbrev cX1_fieldAt : ByteArray := prog_3_method_5_code
def yX1_fieldAt : MethodName := ⟨RX1, "fieldAt", "(I)I"⟩
abbrev cX1_nextOf : ByteArray := prog_3_method_6_code
def yX1_nextOf : MethodName := ⟨RX1, "nextOf", "(I)I"⟩
def RX2 : String := "AcreBuys$Sheet"
def TX2 : u_T := fun k => match k with
  | 0 => ("AcreBuys$Sheet", "bits", "I", false)
  | 1 => ("AcreBuys$Sheet", "size", "I", false)
  | _ => ("AcreBuys$Sheet", "numbers", "[J", true)
def tyX2 : Nat → FieldType := fun k => match k with
  | 0 => .int
  | 1 => .int
  | _ => .array .long
abbrev wsX20 : List Cond := u_ws RX2 TX2 3
theorem nmX2 : ∀ a, a < 3 → ∀ b, b < 3 → a ≠ b → (TX2 a).2.1 ≠ (TX2 b).2.1 := by decide +kernel
theorem tyX2_ok : ∀ k, k < 3 → parseFieldDescriptor (TX2 k).2.2.1 = some (tyX2 k) := by decide +kernel
abbrev cX2_init : ByteArray := prog_4_method_1_code
def yX2_init : MethodName := ⟨RX2, "<init>", "()V"⟩
abbrev cX2_isMissing : ByteArray := prog_4_method_2_code
def yX2_isMissing : MethodName := ⟨RX2, "isMissing", "()Z"⟩
abbrev cX2_lay : ByteArray := prog_4_method_3_code
def yX2_lay : MethodName := ⟨RX2, "lay", "(II)V"⟩
abbrev cX2_put : ByteArray := prog_4_method_4_code
def yX2_put : MethodName := ⟨RX2, "put", "(IJ)J"⟩
abbrev cX2_holds : ByteArray := prog_4_method_5_code
def yX2_holds : MethodName := ⟨RX2, "holds", "(II)Z"⟩
def RX3 : String := "AcreBuys$Tape"
def TX3 : u_T := fun k => match k with
  | 0 => ("AcreBuys$Tape", "bytes", "[I", true)
  | 1 => ("AcreBuys$Tape", "size", "I", false)
  | 2 => ("AcreBuys$Tape", "at", "I", false)
  | 3 => ("AcreBuys$Tape", "end", "I", false)
  | 4 => ("AcreBuys$Tape", "token", "I", false)
  | _ => ("AcreBuys$Tape", "value", "I", false)
def tyX3 : Nat → FieldType := fun k => match k with
  | 0 => .array .int
  | 1 => .int
  | 2 => .int
  | 3 => .int
  | 4 => .int
  | _ => .int
abbrev wsX30 : List Cond := u_ws RX3 TX3 6
theorem nmX3 : ∀ a, a < 6 → ∀ b, b < 6 → a ≠ b → (TX3 a).2.1 ≠ (TX3 b).2.1 := by decide +kernel
theorem tyX3_ok : ∀ k, k < 6 → parseFieldDescriptor (TX3 k).2.2.1 = some (tyX3 k) := by decide +kernel
abbrev cX3_init : ByteArray := prog_5_method_1_code
def yX3_init : MethodName := ⟨RX3, "<init>", "()V"⟩
abbrev cX3_add : ByteArray := prog_5_method_2_code
def yX3_add : MethodName := ⟨RX3, "add", "(I)V"⟩
abbrev cX3_start : ByteArray := prog_5_method_3_code
def yX3_start : MethodName := ⟨RX3, "start", "()V"⟩
abbrev cX3_next : ByteArray := prog_5_method_4_code
def yX3_next : MethodName := ⟨RX3, "next", "()V"⟩
abbrev cX3_numberAtHand : ByteArray := prog_5_method_5_code
def yX3_numberAtHand : MethodName := ⟨RX3, "numberAtHand", "()I"⟩
abbrev cX3_tokenAt : ByteArray := prog_5_method_6_code
def yX3_tokenAt : MethodName := ⟨RX3, "tokenAt", "(I)I"⟩
abbrev cX3_isWord : ByteArray := prog_5_method_7_code
def yX3_isWord : MethodName := ⟨RX3, "isWord", "(Ljava/lang/String;)Z"⟩
def RX4 : String := "AcreBuys"
def TX4 : u_T := fun k => match k with
  | 0 => ("AcreBuys", "land", "LAcreBuys$Land;", true)
  | 1 => ("AcreBuys", "keptLand", "LAcreBuys$Land;", true)
  | 2 => ("AcreBuys", "beforePlan", "LAcreBuys$Land;", true)
  | 3 => ("AcreBuys", "search", "LAcreBuys$OrderSearch;", true)
  | 4 => ("AcreBuys", "tape", "LAcreBuys$Tape;", true)
  | 5 => ("AcreBuys", "sheets", "[LAcreBuys$Sheet;", true)
  | 6 => ("AcreBuys", "told", "[I", true)
  | _ => ("AcreBuys", "kept", "Z", false)
def tyX4 : Nat → FieldType := fun k => match k with
  | 0 => .object "AcreBuys$Land"
  | 1 => .object "AcreBuys$Land"
  | 2 => .object "AcreBuys$Land"
  | 3 => .object "AcreBuys$OrderSearch"
  | 4 => .object "AcreBuys$Tape"
  | 5 => .array (.object "AcreBuys$Sheet")
  | 6 => .array .int
  | _ => .boolean
abbrev wsX40 : List Cond := u_ws RX4 TX4 8
theorem nmX4 : ∀ a, a < 8 → ∀ b, b < 8 → a ≠ b → (TX4 a).2.1 ≠ (TX4 b).2.1 := by decide +kernel
theorem tyX4_ok : ∀ k, k < 8 → parseFieldDescriptor (TX4 k).2.2.1 = some (tyX4 k) := by decide +kernel
abbrev cX4_init : ByteArray := prog_1_method_1_code
def yX4_init : MethodName := ⟨RX4, "<init>", "()V"⟩
abbrev cX4_field : ByteArray := prog_1_method_2_code
def yX4_field : MethodName := ⟨RX4, "field", "(II)I"⟩
abbrev cX4_of : ByteArray := prog_1_method_3_code
def yX4_of : MethodName := ⟨RX4, "of", "(II)I"⟩
abbrev cX4_set : ByteArray := prog_1_method_4_code
def yX4_set : MethodName := ⟨RX4, "set", "(III)I"⟩
abbrev cX4_as : ByteArray := prog_1_method_5_code
def yX4_as : MethodName := ⟨RX4, "as", "(II)I"⟩
abbrev cX4_asks : ByteArray := prog_1_method_6_code
def yX4_asks : MethodName := ⟨RX4, "asks", "(II)I"⟩
abbrev cX4_rule : ByteArray := prog_1_method_7_code
def yX4_rule : MethodName := ⟨RX4, "rule", "(II)I"⟩
abbrev cX4_offer : ByteArray := prog_1_method_8_code
def yX4_offer : MethodName := ⟨RX4, "offer", "(II)I"⟩
abbrev cX4_paper : ByteArray := prog_1_method_9_code
def yX4_paper : MethodName := ⟨RX4, "paper", "(II)I"⟩
abbrev cX4_paperOf : ByteArray := prog_1_method_10_code
def yX4_paperOf : MethodName := ⟨RX4, "paperOf", "(II)I"⟩
abbrev cX4_claim : ByteArray := prog_1_method_11_code
def yX4_claim : MethodName := ⟨RX4, "claim", "(I)I"⟩
abbrev cX4_county : ByteArray := prog_1_method_12_code
def yX4_county : MethodName := ⟨RX4, "county", "(I)I"⟩
abbrev cX4_month : ByteArray := prog_1_method_13_code
def yX4_month : MethodName := ⟨RX4, "month", "()I"⟩
abbrev cX4_seed : ByteArray := prog_1_method_14_code
def yX4_seed : MethodName := ⟨RX4, "seed", "(I)I"⟩
abbrev cX4_stands : ByteArray := prog_1_method_15_code
def yX4_stands : MethodName := ⟨RX4, "stands", "(I)J"⟩
abbrev cX4_strip : ByteArray := prog_1_method_16_code
def yX4_strip : MethodName := ⟨RX4, "strip", "(II)I"⟩
abbrev cX4_stripOf : ByteArray := prog_1_method_17_code
def yX4_stripOf : MethodName := ⟨RX4, "stripOf", "(II)I"⟩
abbrev cX4_had : ByteArray := prog_1_method_18_code
def yX4_had : MethodName := ⟨RX4, "had", "()I"⟩
abbrev cX4_least : ByteArray := prog_1_method_19_code
def yX4_least : MethodName := ⟨RX4, "least", "(I)I"⟩
abbrev cX4_order : ByteArray := prog_1_method_20_code
def yX4_order : MethodName := ⟨RX4, "order", "(II)I"⟩
abbrev cX4_best : ByteArray := prog_1_method_21_code
def yX4_best : MethodName := ⟨RX4, "best", "()I"⟩
abbrev cX4_last : ByteArray := prog_1_method_22_code
def yX4_last : MethodName := ⟨RX4, "last", "(II)I"⟩
abbrev cX4_giveUp : ByteArray := prog_1_method_23_code
def yX4_giveUp : MethodName := ⟨RX4, "giveUp", "(I)I"⟩
abbrev cX4_rights : ByteArray := prog_1_method_24_code
def yX4_rights : MethodName := ⟨RX4, "rights", "(I)I"⟩
abbrev cX4_share : ByteArray := prog_1_method_25_code
def yX4_share : MethodName := ⟨RX4, "share", "(III)I"⟩
abbrev cX4_common : ByteArray := prog_1_method_26_code
def yX4_common : MethodName := ⟨RX4, "common", "()I"⟩
abbrev cX4_first : ByteArray := prog_1_method_27_code
def yX4_first : MethodName := ⟨RX4, "first", "(I)I"⟩
abbrev cX4_feed : ByteArray := prog_1_method_28_code
def yX4_feed : MethodName := ⟨RX4, "feed", "(II)I"⟩
abbrev cX4_wipe : ByteArray := prog_1_method_29_code
def yX4_wipe : MethodName := ⟨RX4, "wipe", "()I"⟩
abbrev cX4_plan : ByteArray := prog_1_method_30_code
def yX4_plan : MethodName := ⟨RX4, "plan", "()I"⟩
abbrev cX4_sheet : ByteArray := prog_1_method_31_code
def yX4_sheet : MethodName := ⟨RX4, "sheet", "(III)I"⟩
abbrev cX4_write : ByteArray := prog_1_method_32_code
def yX4_write : MethodName := ⟨RX4, "write", "(IIJ)J"⟩
abbrev cX4_copy : ByteArray := prog_1_method_33_code
def yX4_copy : MethodName := ⟨RX4, "copy", "(IIIII)I"⟩
abbrev cX4_cost : ByteArray := prog_1_method_34_code
def yX4_cost : MethodName := ⟨RX4, "cost", "(I)J"⟩
abbrev cX4_offers : ByteArray := prog_1_method_35_code
def yX4_offers : MethodName := ⟨RX4, "offers", "(I)I"⟩
abbrev cX4_read : ByteArray := prog_1_method_36_code
def yX4_read : MethodName := ⟨RX4, "read", "(I)I"⟩
abbrev cX4_image : ByteArray := prog_1_method_37_code
def yX4_image : MethodName := ⟨RX4, "image", "()I"⟩
abbrev cX4_undo : ByteArray := prog_1_method_38_code
def yX4_undo : MethodName := ⟨RX4, "undo", "()I"⟩
abbrev cX4_tear : ByteArray := prog_1_method_39_code
def yX4_tear : MethodName := ⟨RX4, "tear", "()I"⟩
abbrev cX4_count : ByteArray := prog_1_method_40_code
def yX4_count : MethodName := ⟨RX4, "count", "(I)I"⟩
abbrev cX4_status : ByteArray := prog_1_method_41_code
def yX4_status : MethodName := ⟨RX4, "status", "(I)I"⟩
abbrev cX4_refuse : ByteArray := prog_1_method_42_code
def yX4_refuse : MethodName := ⟨RX4, "refuse", "(I)I"⟩
abbrev cX4_hindranceOf : ByteArray := prog_1_method_43_code
def yX4_hindranceOf : MethodName := ⟨RX4, "hindranceOf", "(I)I"⟩
abbrev cX4_leastCost : ByteArray := prog_1_method_44_code
def yX4_leastCost : MethodName := ⟨RX4, "leastCost", "(I)I"⟩
abbrev cX4_sheetFault : ByteArray := prog_1_method_45_code
def yX4_sheetFault : MethodName := ⟨RX4, "sheetFault", "(I)I"⟩
abbrev cX4_isSheet : ByteArray := prog_1_method_46_code
def yX4_isSheet : MethodName := ⟨RX4, "isSheet", "(I)Z"⟩
abbrev cX4_isKind : ByteArray := prog_1_method_47_code
def yX4_isKind : MethodName := ⟨RX4, "isKind", "(I)Z"⟩
abbrev cX4_isWithin : ByteArray := prog_1_method_48_code
def yX4_isWithin : MethodName := ⟨RX4, "isWithin", "(III)Z"⟩
abbrev cX4_isIn : ByteArray := prog_1_method_49_code
def yX4_isIn : MethodName := ⟨RX4, "isIn", "(II)Z"⟩
abbrev cX4_swap : ByteArray := prog_1_method_50_code
def yX4_swap : MethodName := ⟨RX4, "swap", "([III)I"⟩
abbrev cX4_isOfKind : ByteArray := prog_1_method_51_code
def yX4_isOfKind : MethodName := ⟨RX4, "isOfKind", "(II)Z"⟩
abbrev cX4_wareOf : ByteArray := prog_1_method_52_code
def yX4_wareOf : MethodName := ⟨RX4, "wareOf", "(II)I"⟩
abbrev cX4_paperCost : ByteArray := prog_1_method_53_code
def yX4_paperCost : MethodName := ⟨RX4, "paperCost", "(I)I"⟩
abbrev cX4_priceOf : ByteArray := prog_1_method_54_code
def yX4_priceOf : MethodName := ⟨RX4, "priceOf", "(IIII)I"⟩
abbrev cX4_readItems : ByteArray := prog_1_method_55_code
def yX4_readItems : MethodName := ⟨RX4, "readItems", "(LAcreBuys$Tape;LAcreBuys$Land;)I"⟩
abbrev cX4_readItem : ByteArray := prog_1_method_56_code
def yX4_readItem : MethodName := ⟨RX4, "readItem", "(LAcreBuys$Tape;LAcreBuys$Land;)Z"⟩
abbrev cX4_readField : ByteArray := prog_1_method_57_code
def yX4_readField : MethodName := ⟨RX4, "readField", "(LAcreBuys$Tape;LAcreBuys$Land;I)Z"⟩
abbrev cX4_readStrip : ByteArray := prog_1_method_58_code
def yX4_readStrip : MethodName := ⟨RX4, "readStrip", "(LAcreBuys$Tape;LAcreBuys$Land;)Z"⟩
abbrev cX4_readInto : ByteArray := prog_1_method_59_code
def yX4_readInto : MethodName := ⟨RX4, "readInto", "(LAcreBuys$Tape;[IIII)Z"⟩
abbrev cX4_readSet : ByteArray := prog_1_method_60_code
def yX4_readSet : MethodName := ⟨RX4, "readSet", "(LAcreBuys$Tape;I)I"⟩
abbrev cX4_kindName : ByteArray := prog_1_method_61_code
def yX4_kindName : MethodName := ⟨RX4, "kindName", "(I)Ljava/lang/String;"⟩
abbrev cX4_ruleName : ByteArray := prog_1_method_62_code
def yX4_ruleName : MethodName := ⟨RX4, "ruleName", "(I)Ljava/lang/String;"⟩
def RX5 : String := "AcreBuysModel"
def TX5 : u_T := fun k => match k with
  | 0 => ("AcreBuysModel", "s", "[I", true)
  | 1 => ("AcreBuysModel", "kept", "[I", true)
  | 2 => ("AcreBuysModel", "tried", "[I", true)
  | 3 => ("AcreBuysModel", "spent", "J", false)
  | 4 => ("AcreBuysModel", "keptSpent", "J", false)
  | 5 => ("AcreBuysModel", "isKept", "Z", false)
  | 6 => ("AcreBuysModel", "findings", "[I", true)
  | 7 => ("AcreBuysModel", "tape", "[I", true)
  | 8 => ("AcreBuysModel", "taped", "I", false)
  | 9 => ("AcreBuysModel", "bitsOf", "[I", true)
  | 10 => ("AcreBuysModel", "sizes", "[I", true)
  | 11 => ("AcreBuysModel", "numbers", "[J", true)
  | 12 => ("AcreBuysModel", "wanted", "[I", true)
  | 13 => ("AcreBuysModel", "wantedMany", "I", false)
  | 14 => ("AcreBuysModel", "leastBehind", "[I", true)
  | 15 => ("AcreBuysModel", "bestCost", "I", false)
  | 16 => ("AcreBuysModel", "from", "I", false)
  | 17 => ("AcreBuysModel", "to", "I", false)
  | 18 => ("AcreBuysModel", "token", "I", false)
  | 19 => ("AcreBuysModel", "value", "I", false)
  | 20 => ("AcreBuysModel", "isBad", "Z", false)
  | _ => ("AcreBuysModel", "letters", "[I", true)
def tyX5 : Nat → FieldType := fun k => match k with
  | 0 => .array .int
  | 1 => .array .int
  | 2 => .array .int
  | 3 => .long
  | 4 => .long
  | 5 => .boolean
  | 6 => .array .int
  | 7 => .array .int
  | 8 => .int
  | 9 => .array .int
  | 10 => .array .int
  | 11 => .array .long
  | 12 => .array .int
  | 13 => .int
  | 14 => .array .int
  | 15 => .int
  | 16 => .int
  | 17 => .int
  | 18 => .int
  | 19 => .int
  | 20 => .boolean
  | _ => .array .int
abbrev wsX50 : List Cond := u_ws RX5 TX5 22
theorem nmX5 : ∀ a, a < 22 → ∀ b, b < 22 → a ≠ b → (TX5 a).2.1 ≠ (TX5 b).2.1 := by decide +kernel
theorem tyX5_ok : ∀ k, k < 22 → parseFieldDescriptor (TX5 k).2.2.1 = some (tyX5 k) := by decide +kernel
abbrev cX5_init : ByteArray := prog_7_method_1_code
def yX5_init : MethodName := ⟨RX5, "<init>", "()V"⟩
abbrev cX5_isIn : ByteArray := prog_7_method_2_code
def yX5_isIn : MethodName := ⟨RX5, "isIn", "(JJJ)Z"⟩
abbrev cX5_finds : ByteArray := prog_7_method_3_code
def yX5_finds : MethodName := ⟨RX5, "finds", "(I)I"⟩
abbrev cX5_at : ByteArray := prog_7_method_4_code
def yX5_at : MethodName := ⟨RX5, "at", "(II)I"⟩
abbrev cX5_has : ByteArray := prog_7_method_5_code
def yX5_has : MethodName := ⟨RX5, "has", "(II)I"⟩
abbrev cX5_isField : ByteArray := prog_7_method_6_code
def yX5_isField : MethodName := ⟨RX5, "isField", "(J)Z"⟩
abbrev cX5_isFree : ByteArray := prog_7_method_7_code
def yX5_isFree : MethodName := ⟨RX5, "isFree", "(I)Z"⟩
abbrev cX5_becomes : ByteArray := prog_7_method_8_code
def yX5_becomes : MethodName := ⟨RX5, "becomes", "(II)I"⟩
abbrev cX5_comes : ByteArray := prog_7_method_9_code
def yX5_comes : MethodName := ⟨RX5, "comes", "(II)V"⟩
abbrev cX5_field : ByteArray := prog_7_method_10_code
def yX5_field : MethodName := ⟨RX5, "field", "(II)I"⟩
abbrev cX5_ours : ByteArray := prog_7_method_11_code
def yX5_ours : MethodName := ⟨RX5, "ours", "()I"⟩
abbrev cX5_heardBy : ByteArray := prog_7_method_12_code
def yX5_heardBy : MethodName := ⟨RX5, "heardBy", "(II)I"⟩
abbrev cX5_wareBy : ByteArray := prog_7_method_13_code
def yX5_wareBy : MethodName := ⟨RX5, "wareBy", "(II)I"⟩
abbrev cX5_asksBy : ByteArray := prog_7_method_14_code
def yX5_asksBy : MethodName := ⟨RX5, "asksBy", "(II)I"⟩
abbrev cX5_asksNow : ByteArray := prog_7_method_15_code
def yX5_asksNow : MethodName := ⟨RX5, "asksNow", "(I)I"⟩
abbrev cX5_of : ByteArray := prog_7_method_16_code
def yX5_of : MethodName := ⟨RX5, "of", "(II)I"⟩
abbrev cX5_set : ByteArray := prog_7_method_17_code
def yX5_set : MethodName := ⟨RX5, "set", "(III)I"⟩
abbrev cX5_as : ByteArray := prog_7_method_18_code
def yX5_as : MethodName := ⟨RX5, "as", "(II)I"⟩
abbrev cX5_asks : ByteArray := prog_7_method_19_code
def yX5_asks : MethodName := ⟨RX5, "asks", "(II)I"⟩
abbrev cX5_mostOf : ByteArray := prog_7_method_20_code
def yX5_mostOf : MethodName := ⟨RX5, "mostOf", "(I)I"⟩
abbrev cX5_rule : ByteArray := prog_7_method_21_code
def yX5_rule : MethodName := ⟨RX5, "rule", "(II)I"⟩
abbrev cX5_offered : ByteArray := prog_7_method_22_code
def yX5_offered : MethodName := ⟨RX5, "offered", "(II)Z"⟩
abbrev cX5_offer : ByteArray := prog_7_method_23_code
def yX5_offer : MethodName := ⟨RX5, "offer", "(II)I"⟩
abbrev cX5_papers : ByteArray := prog_7_method_24_code
def yX5_papers : MethodName := ⟨RX5, "papers", "()I"⟩
abbrev cX5_paperFor : ByteArray := prog_7_method_25_code
def yX5_paperFor : MethodName := ⟨RX5, "paperFor", "(I)I"⟩
abbrev cX5_paper : ByteArray := prog_7_method_26_code
def yX5_paper : MethodName := ⟨RX5, "paper", "(II)I"⟩
abbrev cX5_paperOf : ByteArray := prog_7_method_27_code
def yX5_paperOf : MethodName := ⟨RX5, "paperOf", "(II)I"⟩
abbrev cX5_claim : ByteArray := prog_7_method_28_code
def yX5_claim : MethodName := ⟨RX5, "claim", "(I)I"⟩
abbrev cX5_county : ByteArray := prog_7_method_29_code
def yX5_county : MethodName := ⟨RX5, "county", "(I)I"⟩
abbrev cX5_month : ByteArray := prog_7_method_30_code
def yX5_month : MethodName := ⟨RX5, "month", "()I"⟩
abbrev cX5_seed : ByteArray := prog_7_method_31_code
def yX5_seed : MethodName := ⟨RX5, "seed", "(I)I"⟩
abbrev cX5_thatAre : ByteArray := prog_7_method_32_code
def yX5_thatAre : MethodName := ⟨RX5, "thatAre", "(I)I"⟩
abbrev cX5_stands : ByteArray := prog_7_method_33_code
def yX5_stands : MethodName := ⟨RX5, "stands", "(I)J"⟩
abbrev cX5_isStrip : ByteArray := prog_7_method_34_code
def yX5_isStrip : MethodName := ⟨RX5, "isStrip", "(I)Z"⟩
abbrev cX5_setOf : ByteArray := prog_7_method_35_code
def yX5_setOf : MethodName := ⟨RX5, "setOf", "(I)I"⟩
abbrev cX5_comesStrip : ByteArray := prog_7_method_36_code
def yX5_comesStrip : MethodName := ⟨RX5, "comesStrip", "(II)V"⟩
abbrev cX5_strip : ByteArray := prog_7_method_37_code
def yX5_strip : MethodName := ⟨RX5, "strip", "(II)I"⟩
abbrev cX5_thoseOf : ByteArray := prog_7_method_38_code
def yX5_thoseOf : MethodName := ⟨RX5, "thoseOf", "(II)I"⟩
abbrev cX5_isHad : ByteArray := prog_7_method_39_code
def yX5_isHad : MethodName := ⟨RX5, "isHad", "(I)Z"⟩
abbrev cX5_canBe : ByteArray := prog_7_method_40_code
def yX5_canBe : MethodName := ⟨RX5, "canBe", "(I)Z"⟩
abbrev cX5_stripOf : ByteArray := prog_7_method_41_code
def yX5_stripOf : MethodName := ⟨RX5, "stripOf", "(II)I"⟩
abbrev cX5_had : ByteArray := prog_7_method_42_code
def yX5_had : MethodName := ⟨RX5, "had", "()I"⟩
abbrev cX5_findWanted : ByteArray := prog_7_method_43_code
def yX5_findWanted : MethodName := ⟨RX5, "findWanted", "(I)V"⟩
abbrev cX5_asksBehind : ByteArray := prog_7_method_44_code
def yX5_asksBehind : MethodName := ⟨RX5, "asksBehind", "(II)I"⟩
abbrev cX5_findLeast : ByteArray := prog_7_method_45_code
def yX5_findLeast : MethodName := ⟨RX5, "findLeast", "()I"⟩
abbrev cX5_least : ByteArray := prog_7_method_46_code
def yX5_least : MethodName := ⟨RX5, "least", "(I)I"⟩
abbrev cX5_order : ByteArray := prog_7_method_47_code
def yX5_order : MethodName := ⟨RX5, "order", "(II)I"⟩
abbrev cX5_bestStrip : ByteArray := prog_7_method_48_code
def yX5_bestStrip : MethodName := ⟨RX5, "bestStrip", "()I"⟩
abbrev cX5_best : ByteArray := prog_7_method_49_code
def yX5_best : MethodName := ⟨RX5, "best", "()I"⟩
abbrev cX5_last : ByteArray := prog_7_method_50_code
def yX5_last : MethodName := ⟨RX5, "last", "(II)I"⟩
abbrev cX5_giveUp : ByteArray := prog_7_method_51_code
def yX5_giveUp : MethodName := ⟨RX5, "giveUp", "(I)I"⟩
abbrev cX5_rights : ByteArray := prog_7_method_52_code
def yX5_rights : MethodName := ⟨RX5, "rights", "(I)I"⟩
abbrev cX5_share : ByteArray := prog_7_method_53_code
def yX5_share : MethodName := ⟨RX5, "share", "(III)I"⟩
abbrev cX5_common : ByteArray := prog_7_method_54_code
def yX5_common : MethodName := ⟨RX5, "common", "()I"⟩
abbrev cX5_first : ByteArray := prog_7_method_55_code
def yX5_first : MethodName := ⟨RX5, "first", "(I)I"⟩
abbrev cX5_feed : ByteArray := prog_7_method_56_code
def yX5_feed : MethodName := ⟨RX5, "feed", "(II)I"⟩
abbrev cX5_wipe : ByteArray := prog_7_method_57_code
def yX5_wipe : MethodName := ⟨RX5, "wipe", "()I"⟩
abbrev cX5_byteAt : ByteArray := prog_7_method_58_code
def yX5_byteAt : MethodName := ⟨RX5, "byteAt", "(I)I"⟩
abbrev cX5_wordHere : ByteArray := prog_7_method_59_code
def yX5_wordHere : MethodName := ⟨RX5, "wordHere", "()I"⟩
abbrev cX5_goesOn : ByteArray := prog_7_method_60_code
def yX5_goesOn : MethodName := ⟨RX5, "goesOn", "()V"⟩
abbrev cX5_isWord : ByteArray := prog_7_method_61_code
def yX5_isWord : MethodName := ⟨RX5, "isWord", "(I)Z"⟩
abbrev cX5_takes : ByteArray := prog_7_method_62_code
def yX5_takes : MethodName := ⟨RX5, "takes", "(I)Z"⟩
abbrev cX5_number : ByteArray := prog_7_method_63_code
def yX5_number : MethodName := ⟨RX5, "number", "(II)I"⟩
abbrev cX5_numbersBelow : ByteArray := prog_7_method_64_code
def yX5_numbersBelow : MethodName := ⟨RX5, "numbersBelow", "(I)I"⟩
abbrev cX5_fieldItem : ByteArray := prog_7_method_65_code
def yX5_fieldItem : MethodName := ⟨RX5, "fieldItem", "(I)V"⟩
abbrev cX5_stripItem : ByteArray := prog_7_method_66_code
def yX5_stripItem : MethodName := ⟨RX5, "stripItem", "()V"⟩
abbrev cX5_item : ByteArray := prog_7_method_67_code
def yX5_item : MethodName := ⟨RX5, "item", "()V"⟩
abbrev cX5_plan : ByteArray := prog_7_method_68_code
def yX5_plan : MethodName := ⟨RX5, "plan", "()I"⟩
abbrev cX5_isSheet : ByteArray := prog_7_method_69_code
def yX5_isSheet : MethodName := ⟨RX5, "isSheet", "(I)Z"⟩
abbrev cX5_narrow : ByteArray := prog_7_method_70_code
def yX5_narrow : MethodName := ⟨RX5, "narrow", "(IJ)J"⟩
abbrev cX5_sheet : ByteArray := prog_7_method_71_code
def yX5_sheet : MethodName := ⟨RX5, "sheet", "(III)I"⟩
abbrev cX5_write : ByteArray := prog_7_method_72_code
def yX5_write : MethodName := ⟨RX5, "write", "(IIJ)J"⟩
abbrev cX5_copy : ByteArray := prog_7_method_73_code
def yX5_copy : MethodName := ⟨RX5, "copy", "(IIIII)I"⟩
abbrev cX5_cost : ByteArray := prog_7_method_74_code
def yX5_cost : MethodName := ⟨RX5, "cost", "(I)J"⟩
abbrev cX5_offers : ByteArray := prog_7_method_75_code
def yX5_offers : MethodName := ⟨RX5, "offers", "(I)I"⟩
abbrev cX5_read : ByteArray := prog_7_method_76_code
def yX5_read : MethodName := ⟨RX5, "read", "(I)I"⟩
abbrev cX5_image : ByteArray := prog_7_method_77_code
def yX5_image : MethodName := ⟨RX5, "image", "()I"⟩
abbrev cX5_undo : ByteArray := prog_7_method_78_code
def yX5_undo : MethodName := ⟨RX5, "undo", "()I"⟩
abbrev cX5_tear : ByteArray := prog_7_method_79_code
def yX5_tear : MethodName := ⟨RX5, "tear", "()I"⟩
abbrev cX5_allWary : ByteArray := prog_7_method_80_code
def yX5_allWary : MethodName := ⟨RX5, "allWary", "()I"⟩
abbrev cX5_count : ByteArray := prog_7_method_81_code
def yX5_count : MethodName := ⟨RX5, "count", "(I)I"⟩
abbrev cX5_status : ByteArray := prog_7_method_82_code
def yX5_status : MethodName := ⟨RX5, "status", "(I)I"⟩
def RJx145de : String := "java/io/Serializable"
def TJx145de : u_T := fun k => match k with
  | _ => ("", "", "", false)
def tyJx145de : Nat → FieldType := fun k => match k with
  | _ => .int
abbrev wsJx145de0 : List Cond := u_ws RJx145de TJx145de 0
theorem nmJx145de : ∀ a, a < 0 → ∀ b, b < 0 → a ≠ b → (TJx145de a).2.1 ≠ (TJx145de b).2.1 := by decide +kernel
theorem tyJx145de_ok : ∀ k, k < 0 → parseFieldDescriptor (TJx145de k).2.2.1 = some (tyJx145de k) := by decide +kernel
def RJx9f9b0 : String := "java/lang/CharSequence"
def TJx9f9b0 : u_T := fun k => match k with
  | _ => ("", "", "", false)
def tyJx9f9b0 : Nat → FieldType := fun k => match k with
  | _ => .int
abbrev wsJx9f9b00 : List Cond := u_ws RJx9f9b0 TJx9f9b0 0
theorem nmJx9f9b0 : ∀ a, a < 0 → ∀ b, b < 0 → a ≠ b → (TJx9f9b0 a).2.1 ≠ (TJx9f9b0 b).2.1 := by decide +kernel
theorem tyJx9f9b0_ok : ∀ k, k < 0 → parseFieldDescriptor (TJx9f9b0 k).2.2.1 = some (tyJx9f9b0 k) := by decide +kernel
def RJxb160c : String := "java/lang/Comparable"
def TJxb160c : u_T := fun k => match k with
  | _ => ("", "", "", false)
def tyJxb160c : Nat → FieldType := fun k => match k with
  | _ => .int
abbrev wsJxb160c0 : List Cond := u_ws RJxb160c TJxb160c 0
theorem nmJxb160c : ∀ a, a < 0 → ∀ b, b < 0 → a ≠ b → (TJxb160c a).2.1 ≠ (TJxb160c b).2.1 := by decide +kernel
theorem tyJxb160c_ok : ∀ k, k < 0 → parseFieldDescriptor (TJxb160c k).2.2.1 = some (tyJxb160c k) := by decide +kernel
def RJ6 : String := "java/lang/Integer"
def TJ6 : u_T := fun k => match k with
  | _ => ("", "", "", false)
def tyJ6 : Nat → FieldType := fun k => match k with
  | _ => .int
abbrev wsJ60 : List Cond := u_ws RJ6 TJ6 0
theorem nmJ6 : ∀ a, a < 0 → ∀ b, b < 0 → a ≠ b → (TJ6 a).2.1 ≠ (TJ6 b).2.1 := by decide +kernel
theorem tyJ6_ok : ∀ k, k < 0 → parseFieldDescriptor (TJ6 k).2.2.1 = some (tyJ6 k) := by decide +kernel
abbrev cJ6_bitCount_0f7a4 : ByteArray := prog_8_method_49_code
def yJ6_bitCount_0f7a4 : MethodName := ⟨RJ6, "bitCount", "(I)I"⟩
def RJ9 : String := "java/lang/Math"
def TJ9 : u_T := fun k => match k with
  | _ => ("", "", "", false)
def tyJ9 : Nat → FieldType := fun k => match k with
  | _ => .int
abbrev wsJ90 : List Cond := u_ws RJ9 TJ9 0
theorem nmJ9 : ∀ a, a < 0 → ∀ b, b < 0 → a ≠ b → (TJ9 a).2.1 ≠ (TJ9 b).2.1 := by decide +kernel
theorem tyJ9_ok : ∀ k, k < 0 → parseFieldDescriptor (TJ9 k).2.2.1 = some (tyJ9 k) := by decide +kernel
abbrev cJ9_max_7cf53 : ByteArray := prog_9_method_65_code
def yJ9_max_7cf53 : MethodName := ⟨RJ9, "max", "(II)I"⟩
abbrev cJ9_min_7cf53 : ByteArray := prog_9_method_69_code
def yJ9_min_7cf53 : MethodName := ⟨RJ9, "min", "(II)I"⟩
def RJ0 : String := "java/lang/String"
def TJ0 : u_T := fun k => match k with
  | _ => ("", "", "", false)
def tyJ0 : Nat → FieldType := fun k => match k with
  | _ => .int
abbrev wsJ00 : List Cond := u_ws RJ0 TJ0 0
theorem nmJ0 : ∀ a, a < 0 → ∀ b, b < 0 → a ≠ b → (TJ0 a).2.1 ≠ (TJ0 b).2.1 := by decide +kernel
theorem tyJ0_ok : ∀ k, k < 0 → parseFieldDescriptor (TJ0 k).2.2.1 = some (tyJ0 k) := by decide +kernel
abbrev cJ0_length_8abf5 : ByteArray := prog_10_method_54_code
def yJ0_length_8abf5 : MethodName := ⟨RJ0, "length", "()I"⟩
abbrev cJ0_charAt_5068e : ByteArray := prog_10_method_56_code
def yJ0_charAt_5068e : MethodName := ⟨RJ0, "charAt", "(I)C"⟩
abbrev cJ0_coder_7d493 : ByteArray := prog_10_method_152_code
def yJ0_coder_7d493 : MethodName := ⟨RJ0, "coder", "()B"⟩
abbrev cJ0_isLatin1_aae02 : ByteArray := prog_10_method_154_code
def yJ0_isLatin1_aae02 : MethodName := ⟨RJ0, "isLatin1", "()Z"⟩
abbrev cJ0_checkIndex_df160 : ByteArray := prog_10_method_155_code
def yJ0_checkIndex_df160 : MethodName := ⟨RJ0, "checkIndex", "(II)V"⟩
def RJ1 : String := "java/lang/StringLatin1"
def TJ1 : u_T := fun k => match k with
  | _ => ("", "", "", false)
def tyJ1 : Nat → FieldType := fun k => match k with
  | _ => .int
abbrev wsJ10 : List Cond := u_ws RJ1 TJ1 0
theorem nmJ1 : ∀ a, a < 0 → ∀ b, b < 0 → a ≠ b → (TJ1 a).2.1 ≠ (TJ1 b).2.1 := by decide +kernel
theorem tyJ1_ok : ∀ k, k < 0 → parseFieldDescriptor (TJ1 k).2.2.1 = some (tyJ1 k) := by decide +kernel
abbrev cJ1_charAt_3b067 : ByteArray := prog_11_method_2_code
def yJ1_charAt_3b067 : MethodName := ⟨RJ1, "charAt", "([BI)C"⟩
def RJ2 : String := "java/lang/StringUTF16"
def TJ2 : u_T := fun k => match k with
  | _ => ("", "", "", false)
def tyJ2 : Nat → FieldType := fun k => match k with
  | _ => .int
abbrev wsJ20 : List Cond := u_ws RJ2 TJ2 0
theorem nmJ2 : ∀ a, a < 0 → ∀ b, b < 0 → a ≠ b → (TJ2 a).2.1 ≠ (TJ2 b).2.1 := by decide +kernel
theorem tyJ2_ok : ∀ k, k < 0 → parseFieldDescriptor (TJ2 k).2.2.1 = some (tyJ2 k) := by decide +kernel
abbrev cJ2_getChar_3b067 : ByteArray := prog_12_method_5_code
def yJ2_getChar_3b067 : MethodName := ⟨RJ2, "getChar", "([BI)C"⟩
abbrev cJ2_length_9d52b : ByteArray := prog_12_method_6_code
def yJ2_length_9d52b : MethodName := ⟨RJ2, "length", "([B)I"⟩
abbrev cJ2_charAt_3b067 : ByteArray := prog_12_method_83_code
def yJ2_charAt_3b067 : MethodName := ⟨RJ2, "charAt", "([BI)C"⟩
abbrev cJ2_checkIndex_2214a : ByteArray := prog_12_method_91_code
def yJ2_checkIndex_2214a : MethodName := ⟨RJ2, "checkIndex", "(I[B)V"⟩
def RJ10 : String := "java/lang/System"
def TJ10 : u_T := fun k => match k with
  | _ => ("", "", "", false)
def tyJ10 : Nat → FieldType := fun k => match k with
  | _ => .int
abbrev wsJ100 : List Cond := u_ws RJ10 TJ10 0
theorem nmJ10 : ∀ a, a < 0 → ∀ b, b < 0 → a ≠ b → (TJ10 a).2.1 ≠ (TJ10 b).2.1 := by decide +kernel
theorem tyJ10_ok : ∀ k, k < 0 → parseFieldDescriptor (TJ10 k).2.2.1 = some (tyJ10 k) := by decide +kernel
def RJxfd54e : String := "java/lang/constant/Constable"
def TJxfd54e : u_T := fun k => match k with
  | _ => ("", "", "", false)
def tyJxfd54e : Nat → FieldType := fun k => match k with
  | _ => .int
abbrev wsJxfd54e0 : List Cond := u_ws RJxfd54e TJxfd54e 0
theorem nmJxfd54e : ∀ a, a < 0 → ∀ b, b < 0 → a ≠ b → (TJxfd54e a).2.1 ≠ (TJxfd54e b).2.1 := by decide +kernel
theorem tyJxfd54e_ok : ∀ k, k < 0 → parseFieldDescriptor (TJxfd54e k).2.2.1 = some (tyJxfd54e k) := by decide +kernel
def RJx3cf43 : String := "java/lang/constant/ConstantDesc"
def TJx3cf43 : u_T := fun k => match k with
  | _ => ("", "", "", false)
def tyJx3cf43 : Nat → FieldType := fun k => match k with
  | _ => .int
abbrev wsJx3cf430 : List Cond := u_ws RJx3cf43 TJx3cf43 0
theorem nmJx3cf43 : ∀ a, a < 0 → ∀ b, b < 0 → a ≠ b → (TJx3cf43 a).2.1 ≠ (TJx3cf43 b).2.1 := by decide +kernel
theorem tyJx3cf43_ok : ∀ k, k < 0 → parseFieldDescriptor (TJx3cf43 k).2.2.1 = some (tyJx3cf43 k) := by decide +kernel
def RJ7 : String := "java/util/Arrays"
def TJ7 : u_T := fun k => match k with
  | _ => ("", "", "", false)
def tyJ7 : Nat → FieldType := fun k => match k with
  | _ => .int
abbrev wsJ70 : List Cond := u_ws RJ7 TJ7 0
theorem nmJ7 : ∀ a, a < 0 → ∀ b, b < 0 → a ≠ b → (TJ7 a).2.1 ≠ (TJ7 b).2.1 := by decide +kernel
theorem tyJ7_ok : ∀ k, k < 0 → parseFieldDescriptor (TJ7 k).2.2.1 = some (tyJ7 k) := by decide +kernel
abbrev cJ7_fill_d0a16 : ByteArray := prog_14_method_101_code
def yJ7_fill_d0a16 : MethodName := ⟨RJ7, "fill", "([JJ)V"⟩
def RJ3 : String := "jdk/internal/util/Preconditions"
def TJ3 : u_T := fun k => match k with
  | _ => ("", "", "", false)
def tyJ3 : Nat → FieldType := fun k => match k with
  | _ => .int
abbrev wsJ30 : List Cond := u_ws RJ3 TJ3 0
theorem nmJ3 : ∀ a, a < 0 → ∀ b, b < 0 → a ≠ b → (TJ3 a).2.1 ≠ (TJ3 b).2.1 := by decide +kernel
theorem tyJ3_ok : ∀ k, k < 0 → parseFieldDescriptor (TJ3 k).2.2.1 = some (tyJ3 k) := by decide +kernel
abbrev cJ3_checkIndex_8e157 : ByteArray := prog_15_method_11_code
def yJ3_checkIndex_8e157 : MethodName := ⟨RJ3, "checkIndex", "(IILjava/util/function/BiFunction;)I"⟩
def RL : String := "AcreBuysLaw"
abbrev cL_law : ByteArray := code
def yL_law : MethodName := ⟨RL, "law", "([I)Z"⟩
abbrev vwCl : List vw_C := [(RX0, TX0, 17), (RX1, TX1, 5), (RX2, TX2, 3), (RX3, TX3, 6), (RX4, TX4, 8), (RX5, TX5, 22)]
end
section
/-! the words that hold on the tables for every warmed state -/
def jT : List Cond := lw_tbl.filter goodWord
theorem jT_of {w : Cond} (i : Nat) (h : lw_tbl[i]? = some w) (hg : goodWord w = true) : w ∈ jT := List.mem_filter.mpr ⟨List.mem_of_getElem? h, hg⟩
end
section
/-! ===== what stays as it was at the start: class data, statics, String constants, the script ===== -/
/-- Z.1 class data; Z.2.1 0, 1, 2 the classes of int rows, long rows, rows of Sheets; 3, 4 the cells of UNDER and RULE_LIMITS; 5, 6 the script's cell and length; then the cells of the String constants and of their bytes; the script -/
abbrev jZ : Type := va_G × (Nat → Nat) × (Nat → Nat) × (Nat → Nat) × (Nat → Int32)
def jTys (Z : jZ) : List (ClassId × FieldType) := [(Z.2.1 0, .int), (Z.2.1 1, .long), (Z.2.1 2, .object RX2)]
def jIdx : List Nat := [323, 353, 358, 360, 362, 364, 366, 368, 370, 347, 348, 372, 374, 376, 378]
def jTxt : List String := ["strip", "round", "owner", "keen", "stubborn", "talker", "lord", "brother", "", "wary", "tells", "zeal", "calm", "law", "power"]
def jLen : List Nat := [5, 5, 5, 4, 8, 6, 4, 7, 0, 4, 5, 4, 4, 3, 5]
def jByt : List (List Int32) := [[115, 116, 114, 105, 112], [114, 111, 117, 110, 100], [111, 119, 110, 101, 114], [107, 101, 101, 110], [115, 116, 117, 98, 98, 111, 114, 110], [116, 97, 108, 107, 101, 114], [108, 111, 114, 100], [98, 114, 111, 116, 104, 101, 114], [], [119, 97, 114, 121], [116, 101, 108, 108, 115], [122, 101, 97, 108], [99, 97, 108, 109], [108, 97, 119], [112, 111, 119, 101, 114]]
def jUnder (j : Nat) : Int32 := [-1, 0, 0, 0, 2, 3].getD j 0
def jLims (j : Nat) : Int32 := [100, 9, 999, 9].getD j 0
def jE (Z : jZ) (A : Nat → Prop) (U : State) (H : Heap) : Prop :=
  va_K Z.1 vwCl (jTys Z) U ∧ va_Z RX4 "UNDER" "[I" (.ref (Z.2.1 3)) A U H ∧ va_T .int (Z.2.1 3) 6 (fun j => .int (jUnder j)) A U H ∧
  va_Z RX4 "RULE_LIMITS" "[I" (.ref (Z.2.1 4)) A U H ∧ va_T .int (Z.2.1 4) 4 (fun j => .int (jLims j)) A U H ∧
  va_Z "java/lang/String" "COMPACT_STRINGS" "Z" (.int 1) A U H ∧ va_Zq "jdk/internal/util/Preconditions" "SIOOBE_FORMATTER" "Ljava/util/function/BiFunction;" A U H ∧
  vk_S 15 jLen jByt Z.2.2.1 Z.2.2.2.1 A U H ∧ va_X (Z.2.1 5) (Z.2.1 6) Z.2.2.2.2 U H ∧ (Z.2.1 5) < H.size ∧ ¬ A (Z.2.1 5)
def jNestOk : Cond → Bool
  | .methodLinkNest _ _ _ _ => true
  | .fieldLinkNest _ _ _ _ _ _ => true
  | _ => false
def jNest : List Cond := lw_tbl.filter jNestOk
theorem jNest_of {w : Cond} (i : Nat) (h : lw_tbl[i]? = some w) (hg : jNestOk w = true) : w ∈ jNest := List.mem_filter.mpr ⟨List.mem_of_getElem? h, hg⟩
def jN (Z : jZ) (U : State) : Prop := (∀ w ∈ jNest, va_Nw w U) ∧ ∀ i, i < 15 → vk_R RX4 (jIdx.getD i 0) (jTxt.getD i "") (Z.2.2.1 i) U
theorem jE.next {Z : jZ} {A A' : Nat → Prop} {s U : State} {H : Heap} {locs : List Loc} (h : jE Z A s s.heap) (hS : va_S A s.heap H locs) (hU : U.heap = H) (hW : s.WarmedH U.vm) (hA : ∀ q, A' q → A q) : jE Z A' U U.heap := by
  obtain ⟨h1, h2, h3, h4, h5, h6, h7, h8, h9, h10, h11⟩ := h
  have k := hS.2.1
  have v := hW.alike
  rw [hU]
  exact ⟨h1.moved v, ((h2.kept k).narrow hA).moved v, ((h3.kept k).narrow hA).moved v, ((h4.kept k).narrow hA).moved v, ((h5.kept k).narrow hA).moved v, ((h6.kept k).narrow hA).moved v, ((h7.kept k).narrow hA).moved v, ((h8.kept k).narrow hA).moved v,
    (h9.kept (k _ h10 h11)).moved v, Nat.lt_of_lt_of_le h10 hS.1, fun h => h11 (hA _ h)⟩
theorem jE.calling {Z : jZ} {A : Nat → Prop} {U : State} (g : JFrame) (mk : MethodId) (a : Array Value) (h : jE Z A U U.heap) : jE Z A (U.calling g mk a) (U.calling g mk a).heap := by
  obtain ⟨h1, h2, h3, h4, h5, h6, h7, h8, h9, h10, h11⟩ := h
  have v : U.vm.Alike (U.calling g mk a).vm := Vm.Alike.refl U.vm
  exact ⟨h1.moved v, h2.moved v, h3.moved v, h4.moved v, h5.moved v, h6.moved v, h7.moved v, h8.moved v, h9.moved v, h10, h11⟩
theorem jN.next {Z : jZ} {s U : State} (h : jN Z s) (hW : s.WarmedH U.vm) : jN Z U := by
  refine ⟨fun w hw => ?_, fun i hi => (h.2 i hi).warm hW⟩
  have h1 := h.1 w hw
  have h2 := (List.mem_filter.mp hw).2
  cases w <;> first | exact va_Nw.warmM hW h1 | exact va_Nw.warmF hW h1 | (exact absurd h2 (by simp [jNestOk]))
theorem jN.calling {Z : jZ} {U : State} (g : JFrame) (mk : MethodId) (a : Array Value) (h : jN Z U) : jN Z (U.calling g mk a) := by
  refine ⟨fun w hw => ?_, fun i hi => (h.2 i hi).same rfl⟩
  have h1 := h.1 w hw
  have h2 := (List.mem_filter.mp hw).2
  cases w <;> first | exact va_Nw.same rfl rfl h1 | (exact absurd h2 (by simp [jNestOk]))
/-! ===== the judgement ===== -/
def jCx (p : Program) (R : Room) (s : State) (m : MethodId) (args : Array Value) (meth : Method) (c : Code) (own nm : String) (cc : ByteArray) (nL d MC MS : Nat) (Z : jZ) (A : Nat → Prop) : Prop :=
  p.tables.exec = Jvm.exec ∧ c.code = cc ∧ c.maxLocals = nL ∧ s.vm.findClass own = some m.cls ∧ (∀ w ∈ jT, w.before args s = true) ∧ (d ≤ R.frames ∧ 36 * d ≤ R.locals ∧ MC ≤ R.cells ∧ MS ≤ R.slots) ∧ (∀ q, s.heap.size ≤ q → A q) ∧ jE Z A s s.heap ∧ jN Z s ∧ meth.name = nm
def jR (rt : Option FieldType) (ins : Instr) (r : Option Value) : Prop :=
  (ins = .return_ ∧ r = none ∧ rt = none) ∨ (∃ (v : Int32) (ty : FieldType), ins = .ireturn ∧ r = some (.int v) ∧ rt = some ty ∧ narrow ty (.int v) = .int v) ∨ (∃ v : Int64, ins = .lreturn ∧ r = some (.long v) ∧ rt = some .long) ∨ (∃ (a : Nat) (n : String), ins = .areturn ∧ r = some (.ref a) ∧ rt = some (.object n))
def jBack (p : Program) (l : Launch) (e : Env) (R : Room) (s : State) (m : MethodId) (args : Array Value) (below : List Frame) (meth : Method) (c : Code) (Z : jZ) (A : Nat → Prop) (cc : ByteArray) (rt : Option FieldType) (MC MS : Nat) (Q : Option Value → va_W → Prop) (QQ : State → Prop) : Prop :=
  ∀ (ins : Instr) (r : Option Value) (ws : va_W) (H : Heap) (locs : List Loc) (pc : Nat) (ls : Array Slot), jR rt ins r → decode cc pc = .ok (ins, 1) → Q r ws → va_P Z.1 vwCl ws H → va_D A ws → va_S A s.heap H locs → W p l e R s m args below meth c H locs MC MS QQ (F0 m pc ls r.toList)
def J (l : Launch) (Z : jZ) (own nm : String) (cc : ByteArray) (nL : Nat) (rt : Option FieldType) (d MC MS : Nat) (Q : Option Value → va_W → Prop) (pc : Nat) (L : List (Nat × Value)) (S : List Value) (ws : va_W) (kc ks : Nat) : Prop :=
  ∀ (p : Program) (e : Env) (R : Room) (s : State) (m : MethodId) (args : Array Value) (below : List Frame) (meth : Method) (c : Code) (A : Nat → Prop) (QQ : State → Prop) (H : Heap) (locs : List Loc) (ls : Array Slot),
    jCx p R s m args meth c own nm cc nL d MC MS Z A → jBack p l e R s m args below meth c Z A cc rt MC MS Q QQ → va_P Z.1 vwCl ws H → va_D A ws → va_S A s.heap H locs → lv_has ls nL L →
    W p l e R s m args below meth c H locs kc ks QQ (F0 m pc ls S)
/-- a contract: from the world ws the method answers r and leaves ws', so that Q r ws' -/
def Ct (l : Launch) (Z : jZ) (y : MethodName) (cc : ByteArray) (nL : Nat) (rt : Option FieldType) (d MC MS : Nat) (av : List Value) (ws : va_W) (Q : Option Value → va_W → Prop) : Prop :=
  ∀ sz : Nat, Met l y (.code y cc nL rt :: jT) ({ frames := d, cells := MC, slots := MS, locals := 36 * d })
    (va_Pc av (fun U => U.heap.size = sz ∧ va_P Z.1 vwCl ws U.heap ∧ va_D (fun _ => True) ws ∧ jE Z (va_A ws sz) U U.heap ∧ jN Z U))
    (fun _ st oc t => (∃ (r : Option Value) (ws' : va_W), oc = .returned r ∧ Q r ws' ∧ va_P Z.1 vwCl ws' t.heap ∧ va_D (va_A ws sz) ws') ∧ va_F (va_A ws sz) st t) MC MS (va_A ws sz)
theorem Ct_of {l : Launch} {Z : jZ} {y : MethodName} {cc : ByteArray} {nL : Nat} {rt : Option FieldType} {d MC MS : Nat} {av : List Value} {ws : va_W} {Q : Option Value → va_W → Prop} {L : List (Nat × Value)} {own nm : String}
    (ho : y.cls = own) (hn : y.name = nm) (hpl : plainName y.cls = true) (hL : lv_args 0 av = L) (hlen : (lg_sl av).length ≤ nL) (h : J l Z own nm cc nL rt d MC MS Q 0 L [] ws 0 0) : Ct l Z y cc nL rt d MC MS av ws Q := by
  intro sz
  subst ho
  subst hn
  refine Met.ofW (cc := cc) (maxL := nL) (ret := rt) hpl rfl ?_
  intro p e s m args below meth c s₁ B hml hv
  obtain ⟨rfl, hsz, hP, hD0, hE, hN⟩ := hv
  have hx := B.exec
  have hb := B.bytes
  have hr := B.returns
  have hlocks := B.notSynchronized
  have hts := atoms_spec (ws := .code y cc nL rt :: jT) B.pre
  subst hsz
  have hD := hD0.self (sz := s.heap.size)
  have hl := lv_entry av (n := nL) hlen
  rw [lg_entry_eq]
  rw [hL] at hl
  refine h p e _ s m _ below meth c (va_A ws s.heap.size) _ s.heap [] _ ⟨hx, hb, hml, findClass_of_methodNamed B.named, fun w hw => hts w (List.mem_cons_of_mem _ hw), ⟨Nat.le_refl _, Nat.le_refl _, Nat.le_refl _, Nat.le_refl _⟩, fun q hq => Or.inr hq, hE, hN, (name_of_methodNamed B.named B.method).1⟩ ?_ hP hD va_S.rf hl
  intro ins r ws' H' locs' pc' ls' hR hdg hQ hP' hD' hS'
  have key : ∀ t : State, t.heap = H' → s.WarmedH t.vm → (∃ (r' : Option Value) (ws'' : va_W), Outcome.returned r = .returned r' ∧ Q r' ws'' ∧ va_P Z.1 vwCl ws'' t.heap ∧ va_D (va_A ws s.heap.size) ws'') ∧ va_F (va_A ws s.heap.size) s t := fun t ht _ => ⟨⟨r, ws', rfl, hQ, by rw [ht]; exact hP', hD'⟩, hS'.F ht⟩
  rcases hR with ⟨rfl, rfl, rfl⟩ | ⟨v, ty, rfl, rfl, rfl, hn⟩ | ⟨v, rfl, rfl, rfl⟩ | ⟨a, n, rfl, rfl, rfl⟩
  · exact W.vret hx hb hr key hS'.2.2 hdg
  · exact W.zret hx hb hr hn key hS'.2.2 hdg
  · exact W.lret hx hb hr key hS'.2.2 hdg
  · exact W.aret hx hb hr (Or.inl ⟨n, rfl⟩) (Or.inr ⟨a, rfl⟩) key hS'.2.2 hdg
/-! ===== locals, as a list ===== -/
def jlk : List (Nat × Value) → Nat → Option Value
  | [], _ => none
  | q :: r, i => cond (Nat.beq q.1 i) (some q.2) (jlk r i)
theorem jlk_mem : ∀ {L : List (Nat × Value)} {i : Nat} {v : Value}, jlk L i = some v → ∃ k : Nat, L[k]? = some (i, v)
  | [], i, v, h => by simp [jlk] at h
  | q :: r, i, v, h => by
    unfold jlk at h
    cases hb : Nat.beq q.1 i with
    | true =>
      rw [hb] at h
      have e1 : q.1 = i := Nat.eq_of_beq_eq_true hb
      have e2 : q.2 = v := by simpa using h
      exact ⟨0, by subst e1; subst e2; rfl⟩
    | false =>
      rw [hb] at h
      obtain ⟨k, hk⟩ := jlk_mem (L := r) (show jlk r i = some v by simpa using h)
      exact ⟨k + 1, by simpa using hk⟩
theorem jlk_at {ls : Array Slot} {nL : Nat} {L : List (Nat × Value)} {i : Nat} {v : Value} (hl : lv_has ls nL L) (h : jlk L i = some v) : ls[i]? = some (.val v) := by
  obtain ⟨k, hk⟩ := jlk_mem h
  exact lv_at hl k hk
section JR
variable {l : Launch} {Z : jZ} {own nm : String} {cc : ByteArray} {nL : Nat} {rt : Option FieldType} {d MC MS : Nat} {Q : Option Value → va_W → Prop} {pc n : Nat} {L : List (Nat × Value)} {S : List Value} {ws : va_W} {kc ks : Nat}
theorem j_sub {L' : List (Nat × Value)} (is : List Nat) (hl : lv_pick L is = L') (k : J l Z own nm cc nL rt d MC MS Q pc L' S ws kc ks) : J l Z own nm cc nL rt d MC MS Q pc L S ws kc ks :=
  fun p e R s m args below meth c A QQ H locs ls hC hB hP hD hS h => k p e R s m args below meth c A QQ H locs ls hC hB hP hD hS (lv_sub h is hl)
theorem j_iconst {i : Int} {v : Int32} (hdg : decode cc pc = .ok (.iconst i, 1)) (hn : pc + 1 = n) (hv : Int32.ofInt i = v) (k : J l Z own nm cc nL rt d MC MS Q n L (.int v :: S) ws kc ks) : J l Z own nm cc nL rt d MC MS Q pc L S ws kc ks := by subst hn; exact fun p e R s m args below meth c A QQ H locs ls hC hB hP hD hS hl => lv_iconst hC.1 hC.2.1 hdg hv (k p e R s m args below meth c A QQ H locs ls hC hB hP hD hS hl)
theorem j_bipush {i : Int} {v : Int32} (hdg : decode cc pc = .ok (.bipush i, 2)) (hn : pc + 2 = n) (hv : (Int8.ofInt i).toInt32 = v) (k : J l Z own nm cc nL rt d MC MS Q n L (.int v :: S) ws kc ks) : J l Z own nm cc nL rt d MC MS Q pc L S ws kc ks := by subst hn; exact fun p e R s m args below meth c A QQ H locs ls hC hB hP hD hS hl => lv_bipush hC.1 hC.2.1 hdg hv (k p e R s m args below meth c A QQ H locs ls hC hB hP hD hS hl)
theorem j_sipush {i : Int} {v : Int32} (hdg : decode cc pc = .ok (.sipush i, 3)) (hn : pc + 3 = n) (hv : (Int16.ofInt i).toInt32 = v) (k : J l Z own nm cc nL rt d MC MS Q n L (.int v :: S) ws kc ks) : J l Z own nm cc nL rt d MC MS Q pc L S ws kc ks := by subst hn; exact fun p e R s m args below meth c A QQ H locs ls hC hB hP hD hS hl => lv_sipush hC.1 hC.2.1 hdg hv (k p e R s m args below meth c A QQ H locs ls hC hB hP hD hS hl)
theorem j_lconst {i : Fin 2} {v : Int64} (hdg : decode cc pc = .ok (.lconst i, 1)) (hn : pc + 1 = n) (hv : Int64.ofNat (i : Nat) = v) (k : J l Z own nm cc nL rt d MC MS Q n L (.long v :: S) ws kc ks) : J l Z own nm cc nL rt d MC MS Q pc L S ws kc ks := by subst hn; exact fun p e R s m args below meth c A QQ H locs ls hC hB hP hD hS hl => lv_lconst hC.1 hC.2.1 hdg hv (k p e R s m args below meth c A QQ H locs ls hC hB hP hD hS hl)
theorem j_iload_n {i : Fin 4} {x : Int32} (hdg : decode cc pc = .ok (.iload_n i, 1)) (hn : pc + 1 = n) (hx : jlk L (i : Nat) = some (.int x)) (k : J l Z own nm cc nL rt d MC MS Q n L (.int x :: S) ws kc ks) : J l Z own nm cc nL rt d MC MS Q pc L S ws kc ks := by subst hn; exact fun p e R s m args below meth c A QQ H locs ls hC hB hP hD hS hl => lv_iload_n hC.1 hC.2.1 hdg rfl (jlk_at hl hx) (k p e R s m args below meth c A QQ H locs ls hC hB hP hD hS hl)
theorem j_iload {i : Nat} {x : Int32} (hdg : decode cc pc = .ok (.iload i, 2)) (hn : pc + 2 = n) (hx : jlk L i = some (.int x)) (k : J l Z own nm cc nL rt d MC MS Q n L (.int x :: S) ws kc ks) : J l Z own nm cc nL rt d MC MS Q pc L S ws kc ks := by subst hn; exact fun p e R s m args below meth c A QQ H locs ls hC hB hP hD hS hl => lv_iload hC.1 hC.2.1 hdg (jlk_at hl hx) (k p e R s m args below meth c A QQ H locs ls hC hB hP hD hS hl)
theorem j_istore_n {j : Fin 4} {i : Nat} {x : Int32} {L' : List (Nat × Value)} (hdg : decode cc pc = .ok (.istore_n j, 1)) (hn : pc + 1 = n) (hi : (j : Nat) = i) (hlt : i < nL) (hL : (i, Value.int x) :: L.filter (fun q => !(q.1 == i) && !(q.1 + 1 == i && q.2.category == 2)) = L') (k : J l Z own nm cc nL rt d MC MS Q n L' S ws kc ks) : J l Z own nm cc nL rt d MC MS Q pc L (.int x :: S) ws kc ks := by subst hn; exact fun p e R s m args below meth c A QQ H locs ls hC hB hP hD hS hl => lv_istore_n hC.1 hC.2.1 hdg hi hl hlt hL (fun ls hl => k p e R s m args below meth c A QQ H locs ls hC hB hP hD hS hl)
theorem j_istore {i : Nat} {x : Int32} {L' : List (Nat × Value)} (hdg : decode cc pc = .ok (.istore i, 2)) (hn : pc + 2 = n) (hlt : i < nL) (hL : (i, Value.int x) :: L.filter (fun q => !(q.1 == i) && !(q.1 + 1 == i && q.2.category == 2)) = L') (k : J l Z own nm cc nL rt d MC MS Q n L' S ws kc ks) : J l Z own nm cc nL rt d MC MS Q pc L (.int x :: S) ws kc ks := by subst hn; exact fun p e R s m args below meth c A QQ H locs ls hC hB hP hD hS hl => lv_istore hC.1 hC.2.1 hdg hl hlt hL (fun ls hl => k p e R s m args below meth c A QQ H locs ls hC hB hP hD hS hl)
theorem j_lload_n {i : Fin 4} {x : Int64} (hdg : decode cc pc = .ok (.lload_n i, 1)) (hn : pc + 1 = n) (hx : jlk L (i : Nat) = some (.long x)) (k : J l Z own nm cc nL rt d MC MS Q n L (.long x :: S) ws kc ks) : J l Z own nm cc nL rt d MC MS Q pc L S ws kc ks := by subst hn; exact fun p e R s m args below meth c A QQ H locs ls hC hB hP hD hS hl => lv_lload_n hC.1 hC.2.1 hdg rfl (jlk_at hl hx) (k p e R s m args below meth c A QQ H locs ls hC hB hP hD hS hl)
theorem j_lload {i : Nat} {x : Int64} (hdg : decode cc pc = .ok (.lload i, 2)) (hn : pc + 2 = n) (hx : jlk L i = some (.long x)) (k : J l Z own nm cc nL rt d MC MS Q n L (.long x :: S) ws kc ks) : J l Z own nm cc nL rt d MC MS Q pc L S ws kc ks := by subst hn; exact fun p e R s m args below meth c A QQ H locs ls hC hB hP hD hS hl => lv_lload hC.1 hC.2.1 hdg (jlk_at hl hx) (k p e R s m args below meth c A QQ H locs ls hC hB hP hD hS hl)
theorem j_lstore_n {j : Fin 4} {i : Nat} {x : Int64} {L' : List (Nat × Value)} (hdg : decode cc pc = .ok (.lstore_n j, 1)) (hn : pc + 1 = n) (hi : (j : Nat) = i) (hlt : i + 1 < nL) (hL : (i, Value.long x) :: L.filter (fun q => !(q.1 == i) && (!(q.1 == i + 1) && !(q.1 + 1 == i && q.2.category == 2))) = L') (k : J l Z own nm cc nL rt d MC MS Q n L' S ws kc ks) : J l Z own nm cc nL rt d MC MS Q pc L (.long x :: S) ws kc ks := by subst hn; exact fun p e R s m args below meth c A QQ H locs ls hC hB hP hD hS hl => lv_lstore_n hC.1 hC.2.1 hdg hi hl hlt hL (fun ls hl => k p e R s m args below meth c A QQ H locs ls hC hB hP hD hS hl)
theorem j_lstore {i : Nat} {x : Int64} {L' : List (Nat × Value)} (hdg : decode cc pc = .ok (.lstore i, 2)) (hn : pc + 2 = n) (hlt : i + 1 < nL) (hL : (i, Value.long x) :: L.filter (fun q => !(q.1 == i) && (!(q.1 == i + 1) && !(q.1 + 1 == i && q.2.category == 2))) = L') (k : J l Z own nm cc nL rt d MC MS Q n L' S ws kc ks) : J l Z own nm cc nL rt d MC MS Q pc L (.long x :: S) ws kc ks := by subst hn; exact fun p e R s m args below meth c A QQ H locs ls hC hB hP hD hS hl => lv_lstore hC.1 hC.2.1 hdg hl hlt hL (fun ls hl => k p e R s m args below meth c A QQ H locs ls hC hB hP hD hS hl)
theorem j_aload_n {i : Fin 4} {x : Nat} (hdg : decode cc pc = .ok (.aload_n i, 1)) (hn : pc + 1 = n) (hx : jlk L (i : Nat) = some (.ref x)) (k : J l Z own nm cc nL rt d MC MS Q n L (.ref x :: S) ws kc ks) : J l Z own nm cc nL rt d MC MS Q pc L S ws kc ks := by subst hn; exact fun p e R s m args below meth c A QQ H locs ls hC hB hP hD hS hl => lv_aload_n hC.1 hC.2.1 hdg rfl (jlk_at hl hx) (k p e R s m args below meth c A QQ H locs ls hC hB hP hD hS hl)
theorem j_aload {i : Nat} {x : Nat} (hdg : decode cc pc = .ok (.aload i, 2)) (hn : pc + 2 = n) (hx : jlk L i = some (.ref x)) (k : J l Z own nm cc nL rt d MC MS Q n L (.ref x :: S) ws kc ks) : J l Z own nm cc nL rt d MC MS Q pc L S ws kc ks := by subst hn; exact fun p e R s m args below meth c A QQ H locs ls hC hB hP hD hS hl => lv_aload hC.1 hC.2.1 hdg (jlk_at hl hx) (k p e R s m args below meth c A QQ H locs ls hC hB hP hD hS hl)
theorem j_astore_n {j : Fin 4} {i : Nat} {x : Nat} {L' : List (Nat × Value)} (hdg : decode cc pc = .ok (.astore_n j, 1)) (hn : pc + 1 = n) (hi : (j : Nat) = i) (hlt : i < nL) (hL : (i, Value.ref x) :: L.filter (fun q => !(q.1 == i) && !(q.1 + 1 == i && q.2.category == 2)) = L') (k : J l Z own nm cc nL rt d MC MS Q n L' S ws kc ks) : J l Z own nm cc nL rt d MC MS Q pc L (.ref x :: S) ws kc ks := by subst hn; exact fun p e R s m args below meth c A QQ H locs ls hC hB hP hD hS hl => lv_astore_n hC.1 hC.2.1 hdg hi hl hlt hL (fun ls hl => k p e R s m args below meth c A QQ H locs ls hC hB hP hD hS hl)
theorem j_astore {i : Nat} {x : Nat} {L' : List (Nat × Value)} (hdg : decode cc pc = .ok (.astore i, 2)) (hn : pc + 2 = n) (hlt : i < nL) (hL : (i, Value.ref x) :: L.filter (fun q => !(q.1 == i) && !(q.1 + 1 == i && q.2.category == 2)) = L') (k : J l Z own nm cc nL rt d MC MS Q n L' S ws kc ks) : J l Z own nm cc nL rt d MC MS Q pc L (.ref x :: S) ws kc ks := by subst hn; exact fun p e R s m args below meth c A QQ H locs ls hC hB hP hD hS hl => lv_astore hC.1 hC.2.1 hdg hl hlt hL (fun ls hl => k p e R s m args below meth c A QQ H locs ls hC hB hP hD hS hl)
theorem j_iinc {i : Nat} {a : Int} {x v : Int32} {L' : List (Nat × Value)} (hdg : decode cc pc = .ok (.iinc i a, 3)) (hn : pc + 3 = n) (hx : jlk L i = some (.int x)) (hv : x + Int32.ofInt a = v) (hlt : i < nL) (hL : (i, Value.int v) :: L.filter (fun q => !(q.1 == i) && !(q.1 + 1 == i && q.2.category == 2)) = L') (k : J l Z own nm cc nL rt d MC MS Q n L' S ws kc ks) : J l Z own nm cc nL rt d MC MS Q pc L S ws kc ks := by
  subst hn
  obtain ⟨kk, hk⟩ := jlk_mem hx
  exact fun p e R s m args below meth c A QQ H locs ls hC hB hP hD hS hl => lv_iinc hC.1 hC.2.1 hdg hl hk hv hlt hL (fun ls hl => k p e R s m args below meth c A QQ H locs ls hC hB hP hD hS hl)
theorem j_iadd {x y : Int32} (hdg : decode cc pc = .ok (.iadd, 1)) (hn : pc + 1 = n)  (k : J l Z own nm cc nL rt d MC MS Q n L (.int (x + y) :: S) ws kc ks) : J l Z own nm cc nL rt d MC MS Q pc L (.int y :: .int x :: S) ws kc ks := by subst hn; exact fun p e R s m args below meth c A QQ H locs ls hC hB hP hD hS hl => lv_iadd hC.1 hC.2.1 hdg  (k p e R s m args below meth c A QQ H locs ls hC hB hP hD hS hl)
theorem j_isub {x y : Int32} (hdg : decode cc pc = .ok (.isub, 1)) (hn : pc + 1 = n)  (k : J l Z own nm cc nL rt d MC MS Q n L (.int (x - y) :: S) ws kc ks) : J l Z own nm cc nL rt d MC MS Q pc L (.int y :: .int x :: S) ws kc ks := by subst hn; exact fun p e R s m args below meth c A QQ H locs ls hC hB hP hD hS hl => lv_isub hC.1 hC.2.1 hdg  (k p e R s m args below meth c A QQ H locs ls hC hB hP hD hS hl)
theorem j_imul {x y : Int32} (hdg : decode cc pc = .ok (.imul, 1)) (hn : pc + 1 = n)  (k : J l Z own nm cc nL rt d MC MS Q n L (.int (x * y) :: S) ws kc ks) : J l Z own nm cc nL rt d MC MS Q pc L (.int y :: .int x :: S) ws kc ks := by subst hn; exact fun p e R s m args below meth c A QQ H locs ls hC hB hP hD hS hl => lv_imul hC.1 hC.2.1 hdg  (k p e R s m args below meth c A QQ H locs ls hC hB hP hD hS hl)
theorem j_iand {x y : Int32} (hdg : decode cc pc = .ok (.iand, 1)) (hn : pc + 1 = n)  (k : J l Z own nm cc nL rt d MC MS Q n L (.int (x &&& y) :: S) ws kc ks) : J l Z own nm cc nL rt d MC MS Q pc L (.int y :: .int x :: S) ws kc ks := by subst hn; exact fun p e R s m args below meth c A QQ H locs ls hC hB hP hD hS hl => lv_iand hC.1 hC.2.1 hdg  (k p e R s m args below meth c A QQ H locs ls hC hB hP hD hS hl)
theorem j_ior {x y : Int32} (hdg : decode cc pc = .ok (.ior, 1)) (hn : pc + 1 = n)  (k : J l Z own nm cc nL rt d MC MS Q n L (.int (x ||| y) :: S) ws kc ks) : J l Z own nm cc nL rt d MC MS Q pc L (.int y :: .int x :: S) ws kc ks := by subst hn; exact fun p e R s m args below meth c A QQ H locs ls hC hB hP hD hS hl => lv_ior hC.1 hC.2.1 hdg  (k p e R s m args below meth c A QQ H locs ls hC hB hP hD hS hl)
theorem j_ixor {x y : Int32} (hdg : decode cc pc = .ok (.ixor, 1)) (hn : pc + 1 = n)  (k : J l Z own nm cc nL rt d MC MS Q n L (.int (x ^^^ y) :: S) ws kc ks) : J l Z own nm cc nL rt d MC MS Q pc L (.int y :: .int x :: S) ws kc ks := by subst hn; exact fun p e R s m args below meth c A QQ H locs ls hC hB hP hD hS hl => lv_ixor hC.1 hC.2.1 hdg  (k p e R s m args below meth c A QQ H locs ls hC hB hP hD hS hl)
theorem j_ishl {x y : Int32} (hdg : decode cc pc = .ok (.ishl, 1)) (hn : pc + 1 = n)  (k : J l Z own nm cc nL rt d MC MS Q n L (.int (x <<< (y &&& 31)) :: S) ws kc ks) : J l Z own nm cc nL rt d MC MS Q pc L (.int y :: .int x :: S) ws kc ks := by subst hn; exact fun p e R s m args below meth c A QQ H locs ls hC hB hP hD hS hl => lv_ishl hC.1 hC.2.1 hdg  (k p e R s m args below meth c A QQ H locs ls hC hB hP hD hS hl)
theorem j_ishr {x y : Int32} (hdg : decode cc pc = .ok (.ishr, 1)) (hn : pc + 1 = n)  (k : J l Z own nm cc nL rt d MC MS Q n L (.int (x >>> (y &&& 31)) :: S) ws kc ks) : J l Z own nm cc nL rt d MC MS Q pc L (.int y :: .int x :: S) ws kc ks := by subst hn; exact fun p e R s m args below meth c A QQ H locs ls hC hB hP hD hS hl => lv_ishr hC.1 hC.2.1 hdg  (k p e R s m args below meth c A QQ H locs ls hC hB hP hD hS hl)
theorem j_idiv {x y : Int32} (hdg : decode cc pc = .ok (.idiv, 1)) (hn : pc + 1 = n) (hne : ¬ y = 0) (k : J l Z own nm cc nL rt d MC MS Q n L (.int (x / y) :: S) ws kc ks) : J l Z own nm cc nL rt d MC MS Q pc L (.int y :: .int x :: S) ws kc ks := by subst hn; exact fun p e R s m args below meth c A QQ H locs ls hC hB hP hD hS hl => lv_idiv hC.1 hC.2.1 hdg hne (k p e R s m args below meth c A QQ H locs ls hC hB hP hD hS hl)
theorem j_irem {x y : Int32} (hdg : decode cc pc = .ok (.irem, 1)) (hn : pc + 1 = n) (hne : ¬ y = 0) (k : J l Z own nm cc nL rt d MC MS Q n L (.int (x - x / y * y) :: S) ws kc ks) : J l Z own nm cc nL rt d MC MS Q pc L (.int y :: .int x :: S) ws kc ks := by subst hn; exact fun p e R s m args below meth c A QQ H locs ls hC hB hP hD hS hl => lv_irem hC.1 hC.2.1 hdg hne (k p e R s m args below meth c A QQ H locs ls hC hB hP hD hS hl)
theorem j_iushr {x y : Int32} (hdg : decode cc pc = .ok (.iushr, 1)) (hn : pc + 1 = n)  (k : J l Z own nm cc nL rt d MC MS Q n L (.int ((x.toUInt32 >>> (y.toUInt32 &&& Int32.toUInt32 31)).toInt32) :: S) ws kc ks) : J l Z own nm cc nL rt d MC MS Q pc L (.int y :: .int x :: S) ws kc ks := by subst hn; exact fun p e R s m args below meth c A QQ H locs ls hC hB hP hD hS hl => lv_iushr hC.1 hC.2.1 hdg rfl (k p e R s m args below meth c A QQ H locs ls hC hB hP hD hS hl)
theorem j_ladd {x y : Int64} (hdg : decode cc pc = .ok (.ladd, 1)) (hn : pc + 1 = n)  (k : J l Z own nm cc nL rt d MC MS Q n L (.long (x + y) :: S) ws kc ks) : J l Z own nm cc nL rt d MC MS Q pc L (.long y :: .long x :: S) ws kc ks := by subst hn; exact fun p e R s m args below meth c A QQ H locs ls hC hB hP hD hS hl => lv_ladd hC.1 hC.2.1 hdg  (k p e R s m args below meth c A QQ H locs ls hC hB hP hD hS hl)
theorem j_lsub {x y : Int64} (hdg : decode cc pc = .ok (.lsub, 1)) (hn : pc + 1 = n)  (k : J l Z own nm cc nL rt d MC MS Q n L (.long (x - y) :: S) ws kc ks) : J l Z own nm cc nL rt d MC MS Q pc L (.long y :: .long x :: S) ws kc ks := by subst hn; exact fun p e R s m args below meth c A QQ H locs ls hC hB hP hD hS hl => lv_lsub hC.1 hC.2.1 hdg  (k p e R s m args below meth c A QQ H locs ls hC hB hP hD hS hl)
theorem j_lmul {x y : Int64} (hdg : decode cc pc = .ok (.lmul, 1)) (hn : pc + 1 = n)  (k : J l Z own nm cc nL rt d MC MS Q n L (.long (x * y) :: S) ws kc ks) : J l Z own nm cc nL rt d MC MS Q pc L (.long y :: .long x :: S) ws kc ks := by subst hn; exact fun p e R s m args below meth c A QQ H locs ls hC hB hP hD hS hl => lv_lmul hC.1 hC.2.1 hdg  (k p e R s m args below meth c A QQ H locs ls hC hB hP hD hS hl)
theorem j_land {x y : Int64} (hdg : decode cc pc = .ok (.land, 1)) (hn : pc + 1 = n)  (k : J l Z own nm cc nL rt d MC MS Q n L (.long (x &&& y) :: S) ws kc ks) : J l Z own nm cc nL rt d MC MS Q pc L (.long y :: .long x :: S) ws kc ks := by subst hn; exact fun p e R s m args below meth c A QQ H locs ls hC hB hP hD hS hl => lv_land hC.1 hC.2.1 hdg  (k p e R s m args below meth c A QQ H locs ls hC hB hP hD hS hl)
theorem j_lor {x y : Int64} (hdg : decode cc pc = .ok (.lor, 1)) (hn : pc + 1 = n)  (k : J l Z own nm cc nL rt d MC MS Q n L (.long (x ||| y) :: S) ws kc ks) : J l Z own nm cc nL rt d MC MS Q pc L (.long y :: .long x :: S) ws kc ks := by subst hn; exact fun p e R s m args below meth c A QQ H locs ls hC hB hP hD hS hl => lv_lor hC.1 hC.2.1 hdg  (k p e R s m args below meth c A QQ H locs ls hC hB hP hD hS hl)
theorem j_ldiv {x y : Int64} (hdg : decode cc pc = .ok (.ldiv, 1)) (hn : pc + 1 = n) (hne : ¬ y = 0) (k : J l Z own nm cc nL rt d MC MS Q n L (.long (x / y) :: S) ws kc ks) : J l Z own nm cc nL rt d MC MS Q pc L (.long y :: .long x :: S) ws kc ks := by subst hn; exact fun p e R s m args below meth c A QQ H locs ls hC hB hP hD hS hl => lv_ldiv hC.1 hC.2.1 hdg hne (k p e R s m args below meth c A QQ H locs ls hC hB hP hD hS hl)
theorem j_lshl {x : Int64} {y : Int32} (hdg : decode cc pc = .ok (.lshl, 1)) (hn : pc + 1 = n)  (k : J l Z own nm cc nL rt d MC MS Q n L (.long (x <<< (y.toInt64 &&& 63)) :: S) ws kc ks) : J l Z own nm cc nL rt d MC MS Q pc L (.int y :: .long x :: S) ws kc ks := by subst hn; exact fun p e R s m args below meth c A QQ H locs ls hC hB hP hD hS hl => lv_lshl hC.1 hC.2.1 hdg rfl (k p e R s m args below meth c A QQ H locs ls hC hB hP hD hS hl)
theorem j_lcmp {x y : Int64} (hdg : decode cc pc = .ok (.lcmp, 1)) (hn : pc + 1 = n)  (k : J l Z own nm cc nL rt d MC MS Q n L (.int (lg_cmp x y) :: S) ws kc ks) : J l Z own nm cc nL rt d MC MS Q pc L (.long y :: .long x :: S) ws kc ks := by subst hn; exact fun p e R s m args below meth c A QQ H locs ls hC hB hP hD hS hl => W.lcmp hC.1 hC.2.1 hdg  (k p e R s m args below meth c A QQ H locs ls hC hB hP hD hS hl)
theorem j_i2l {x : Int32} (hdg : decode cc pc = .ok (.i2l, 1)) (hn : pc + 1 = n)  (k : J l Z own nm cc nL rt d MC MS Q n L (.long x.toInt64 :: S) ws kc ks) : J l Z own nm cc nL rt d MC MS Q pc L (.int x :: S) ws kc ks := by subst hn; exact fun p e R s m args below meth c A QQ H locs ls hC hB hP hD hS hl => lv_i2l hC.1 hC.2.1 hdg rfl (k p e R s m args below meth c A QQ H locs ls hC hB hP hD hS hl)
theorem j_l2i {x : Int64} (hdg : decode cc pc = .ok (.l2i, 1)) (hn : pc + 1 = n)  (k : J l Z own nm cc nL rt d MC MS Q n L (.int x.toInt32 :: S) ws kc ks) : J l Z own nm cc nL rt d MC MS Q pc L (.long x :: S) ws kc ks := by subst hn; exact fun p e R s m args below meth c A QQ H locs ls hC hB hP hD hS hl => lv_l2i hC.1 hC.2.1 hdg rfl (k p e R s m args below meth c A QQ H locs ls hC hB hP hD hS hl)
theorem j_i2b {x : Int32} (hdg : decode cc pc = .ok (.i2b, 1)) (hn : pc + 1 = n)  (k : J l Z own nm cc nL rt d MC MS Q n L (.int x.toInt8.toInt32 :: S) ws kc ks) : J l Z own nm cc nL rt d MC MS Q pc L (.int x :: S) ws kc ks := by subst hn; exact fun p e R s m args below meth c A QQ H locs ls hC hB hP hD hS hl => lv_i2b hC.1 hC.2.1 hdg rfl (k p e R s m args below meth c A QQ H locs ls hC hB hP hD hS hl)
theorem j_i2s {x : Int32} (hdg : decode cc pc = .ok (.i2s, 1)) (hn : pc + 1 = n)  (k : J l Z own nm cc nL rt d MC MS Q n L (.int x.toInt16.toInt32 :: S) ws kc ks) : J l Z own nm cc nL rt d MC MS Q pc L (.int x :: S) ws kc ks := by subst hn; exact fun p e R s m args below meth c A QQ H locs ls hC hB hP hD hS hl => lv_i2s hC.1 hC.2.1 hdg rfl (k p e R s m args below meth c A QQ H locs ls hC hB hP hD hS hl)
theorem j_i2c {x : Int32} (hdg : decode cc pc = .ok (.i2c, 1)) (hn : pc + 1 = n)  (k : J l Z own nm cc nL rt d MC MS Q n L (.int (x.toUInt32 % 65536).toInt32 :: S) ws kc ks) : J l Z own nm cc nL rt d MC MS Q pc L (.int x :: S) ws kc ks := by subst hn; exact fun p e R s m args below meth c A QQ H locs ls hC hB hP hD hS hl => lv_i2c hC.1 hC.2.1 hdg rfl (k p e R s m args below meth c A QQ H locs ls hC hB hP hD hS hl)
theorem j_dup {v : Value} (hdg : decode cc pc = .ok (.dup, 1)) (hn : pc + 1 = n) (hv : v.category = 1) (k : J l Z own nm cc nL rt d MC MS Q n L (v :: v :: S) ws kc ks) : J l Z own nm cc nL rt d MC MS Q pc L (v :: S) ws kc ks := by subst hn; exact fun p e R s m args below meth c A QQ H locs ls hC hB hP hD hS hl => lv_dup hC.1 hC.2.1 hdg hv (k p e R s m args below meth c A QQ H locs ls hC hB hP hD hS hl)
theorem j_pop {v : Value} (hdg : decode cc pc = .ok (.pop, 1)) (hn : pc + 1 = n) (hv : v.category = 1) (k : J l Z own nm cc nL rt d MC MS Q n L S ws kc ks) : J l Z own nm cc nL rt d MC MS Q pc L (v :: S) ws kc ks := by subst hn; exact fun p e R s m args below meth c A QQ H locs ls hC hB hP hD hS hl => lv_pop hC.1 hC.2.1 hdg hv (k p e R s m args below meth c A QQ H locs ls hC hB hP hD hS hl)
theorem j_dup2 {v w : Value} (hdg : decode cc pc = .ok (.dup2, 1)) (hn : pc + 1 = n) (hv : v.category = 1) (hw : w.category = 1) (k : J l Z own nm cc nL rt d MC MS Q n L (v :: w :: v :: w :: S) ws kc ks) : J l Z own nm cc nL rt d MC MS Q pc L (v :: w :: S) ws kc ks := by subst hn; exact fun p e R s m args below meth c A QQ H locs ls hC hB hP hD hS hl => lv_dup2_11 hC.1 hC.2.1 hdg hv hw (k p e R s m args below meth c A QQ H locs ls hC hB hP hD hS hl)
theorem j_if_eq {x : Int32} {off : Int} {tgt : Nat} (hdg : decode cc pc = .ok (.ifCond .eq off, 3)) (hn : pc + 3 = n) (ht : (pc : Int) + off = (tgt : Int)) (kt : x = 0 → J l Z own nm cc nL rt d MC MS Q tgt L S ws kc ks) (kf : ¬ x = 0 → J l Z own nm cc nL rt d MC MS Q n L S ws kc ks) : J l Z own nm cc nL rt d MC MS Q pc L (.int x :: S) ws kc ks := by subst hn; exact fun p e R s m args below meth c A QQ H locs ls hC hB hP hD hS hl => lv_if_eq hC.1 hC.2.1 hdg ht (fun h => kt h p e R s m args below meth c A QQ H locs ls hC hB hP hD hS hl) (fun h => kf h p e R s m args below meth c A QQ H locs ls hC hB hP hD hS hl)
theorem j_icmp_eq {x y : Int32} {off : Int} {tgt : Nat} (hdg : decode cc pc = .ok (.if_icmp .eq off, 3)) (hn : pc + 3 = n) (ht : (pc : Int) + off = (tgt : Int)) (kt : x = y → J l Z own nm cc nL rt d MC MS Q tgt L S ws kc ks) (kf : ¬ x = y → J l Z own nm cc nL rt d MC MS Q n L S ws kc ks) : J l Z own nm cc nL rt d MC MS Q pc L (.int y :: .int x :: S) ws kc ks := by subst hn; exact fun p e R s m args below meth c A QQ H locs ls hC hB hP hD hS hl => lv_icmp_eq hC.1 hC.2.1 hdg ht (fun h => kt h p e R s m args below meth c A QQ H locs ls hC hB hP hD hS hl) (fun h => kf h p e R s m args below meth c A QQ H locs ls hC hB hP hD hS hl)
theorem j_if_ne {x : Int32} {off : Int} {tgt : Nat} (hdg : decode cc pc = .ok (.ifCond .ne off, 3)) (hn : pc + 3 = n) (ht : (pc : Int) + off = (tgt : Int)) (kt : ¬ x = 0 → J l Z own nm cc nL rt d MC MS Q tgt L S ws kc ks) (kf : x = 0 → J l Z own nm cc nL rt d MC MS Q n L S ws kc ks) : J l Z own nm cc nL rt d MC MS Q pc L (.int x :: S) ws kc ks := by subst hn; exact fun p e R s m args below meth c A QQ H locs ls hC hB hP hD hS hl => lv_if_ne hC.1 hC.2.1 hdg ht (fun h => kt h p e R s m args below meth c A QQ H locs ls hC hB hP hD hS hl) (fun h => kf h p e R s m args below meth c A QQ H locs ls hC hB hP hD hS hl)
theorem j_icmp_ne {x y : Int32} {off : Int} {tgt : Nat} (hdg : decode cc pc = .ok (.if_icmp .ne off, 3)) (hn : pc + 3 = n) (ht : (pc : Int) + off = (tgt : Int)) (kt : ¬ x = y → J l Z own nm cc nL rt d MC MS Q tgt L S ws kc ks) (kf : x = y → J l Z own nm cc nL rt d MC MS Q n L S ws kc ks) : J l Z own nm cc nL rt d MC MS Q pc L (.int y :: .int x :: S) ws kc ks := by subst hn; exact fun p e R s m args below meth c A QQ H locs ls hC hB hP hD hS hl => lv_icmp_ne hC.1 hC.2.1 hdg ht (fun h => kt h p e R s m args below meth c A QQ H locs ls hC hB hP hD hS hl) (fun h => kf h p e R s m args below meth c A QQ H locs ls hC hB hP hD hS hl)
theorem j_if_lt {x : Int32} {off : Int} {tgt : Nat} (hdg : decode cc pc = .ok (.ifCond .lt off, 3)) (hn : pc + 3 = n) (ht : (pc : Int) + off = (tgt : Int)) (kt : x < 0 → J l Z own nm cc nL rt d MC MS Q tgt L S ws kc ks) (kf : ¬ x < 0 → J l Z own nm cc nL rt d MC MS Q n L S ws kc ks) : J l Z own nm cc nL rt d MC MS Q pc L (.int x :: S) ws kc ks := by subst hn; exact fun p e R s m args below meth c A QQ H locs ls hC hB hP hD hS hl => lv_if_lt hC.1 hC.2.1 hdg ht (fun h => kt h p e R s m args below meth c A QQ H locs ls hC hB hP hD hS hl) (fun h => kf h p e R s m args below meth c A QQ H locs ls hC hB hP hD hS hl)
theorem j_icmp_lt {x y : Int32} {off : Int} {tgt : Nat} (hdg : decode cc pc = .ok (.if_icmp .lt off, 3)) (hn : pc + 3 = n) (ht : (pc : Int) + off = (tgt : Int)) (kt : x < y → J l Z own nm cc nL rt d MC MS Q tgt L S ws kc ks) (kf : ¬ x < y → J l Z own nm cc nL rt d MC MS Q n L S ws kc ks) : J l Z own nm cc nL rt d MC MS Q pc L (.int y :: .int x :: S) ws kc ks := by subst hn; exact fun p e R s m args below meth c A QQ H locs ls hC hB hP hD hS hl => lv_icmp_lt hC.1 hC.2.1 hdg ht (fun h => kt h p e R s m args below meth c A QQ H locs ls hC hB hP hD hS hl) (fun h => kf h p e R s m args below meth c A QQ H locs ls hC hB hP hD hS hl)
theorem j_if_ge {x : Int32} {off : Int} {tgt : Nat} (hdg : decode cc pc = .ok (.ifCond .ge off, 3)) (hn : pc + 3 = n) (ht : (pc : Int) + off = (tgt : Int)) (kt : 0 ≤ x → J l Z own nm cc nL rt d MC MS Q tgt L S ws kc ks) (kf : ¬ 0 ≤ x → J l Z own nm cc nL rt d MC MS Q n L S ws kc ks) : J l Z own nm cc nL rt d MC MS Q pc L (.int x :: S) ws kc ks := by subst hn; exact fun p e R s m args below meth c A QQ H locs ls hC hB hP hD hS hl => lv_if_ge hC.1 hC.2.1 hdg ht (fun h => kt h p e R s m args below meth c A QQ H locs ls hC hB hP hD hS hl) (fun h => kf h p e R s m args below meth c A QQ H locs ls hC hB hP hD hS hl)
theorem j_icmp_ge {x y : Int32} {off : Int} {tgt : Nat} (hdg : decode cc pc = .ok (.if_icmp .ge off, 3)) (hn : pc + 3 = n) (ht : (pc : Int) + off = (tgt : Int)) (kt : y ≤ x → J l Z own nm cc nL rt d MC MS Q tgt L S ws kc ks) (kf : ¬ y ≤ x → J l Z own nm cc nL rt d MC MS Q n L S ws kc ks) : J l Z own nm cc nL rt d MC MS Q pc L (.int y :: .int x :: S) ws kc ks := by subst hn; exact fun p e R s m args below meth c A QQ H locs ls hC hB hP hD hS hl => lv_icmp_ge hC.1 hC.2.1 hdg ht (fun h => kt h p e R s m args below meth c A QQ H locs ls hC hB hP hD hS hl) (fun h => kf h p e R s m args below meth c A QQ H locs ls hC hB hP hD hS hl)
theorem j_if_gt {x : Int32} {off : Int} {tgt : Nat} (hdg : decode cc pc = .ok (.ifCond .gt off, 3)) (hn : pc + 3 = n) (ht : (pc : Int) + off = (tgt : Int)) (kt : 0 < x → J l Z own nm cc nL rt d MC MS Q tgt L S ws kc ks) (kf : ¬ 0 < x → J l Z own nm cc nL rt d MC MS Q n L S ws kc ks) : J l Z own nm cc nL rt d MC MS Q pc L (.int x :: S) ws kc ks := by subst hn; exact fun p e R s m args below meth c A QQ H locs ls hC hB hP hD hS hl => lv_if_gt hC.1 hC.2.1 hdg ht (fun h => kt h p e R s m args below meth c A QQ H locs ls hC hB hP hD hS hl) (fun h => kf h p e R s m args below meth c A QQ H locs ls hC hB hP hD hS hl)
theorem j_icmp_gt {x y : Int32} {off : Int} {tgt : Nat} (hdg : decode cc pc = .ok (.if_icmp .gt off, 3)) (hn : pc + 3 = n) (ht : (pc : Int) + off = (tgt : Int)) (kt : y < x → J l Z own nm cc nL rt d MC MS Q tgt L S ws kc ks) (kf : ¬ y < x → J l Z own nm cc nL rt d MC MS Q n L S ws kc ks) : J l Z own nm cc nL rt d MC MS Q pc L (.int y :: .int x :: S) ws kc ks := by subst hn; exact fun p e R s m args below meth c A QQ H locs ls hC hB hP hD hS hl => lv_icmp_gt hC.1 hC.2.1 hdg ht (fun h => kt h p e R s m args below meth c A QQ H locs ls hC hB hP hD hS hl) (fun h => kf h p e R s m args below meth c A QQ H locs ls hC hB hP hD hS hl)
theorem j_if_le {x : Int32} {off : Int} {tgt : Nat} (hdg : decode cc pc = .ok (.ifCond .le off, 3)) (hn : pc + 3 = n) (ht : (pc : Int) + off = (tgt : Int)) (kt : x ≤ 0 → J l Z own nm cc nL rt d MC MS Q tgt L S ws kc ks) (kf : ¬ x ≤ 0 → J l Z own nm cc nL rt d MC MS Q n L S ws kc ks) : J l Z own nm cc nL rt d MC MS Q pc L (.int x :: S) ws kc ks := by subst hn; exact fun p e R s m args below meth c A QQ H locs ls hC hB hP hD hS hl => lv_if_le hC.1 hC.2.1 hdg ht (fun h => kt h p e R s m args below meth c A QQ H locs ls hC hB hP hD hS hl) (fun h => kf h p e R s m args below meth c A QQ H locs ls hC hB hP hD hS hl)
theorem j_icmp_le {x y : Int32} {off : Int} {tgt : Nat} (hdg : decode cc pc = .ok (.if_icmp .le off, 3)) (hn : pc + 3 = n) (ht : (pc : Int) + off = (tgt : Int)) (kt : x ≤ y → J l Z own nm cc nL rt d MC MS Q tgt L S ws kc ks) (kf : ¬ x ≤ y → J l Z own nm cc nL rt d MC MS Q n L S ws kc ks) : J l Z own nm cc nL rt d MC MS Q pc L (.int y :: .int x :: S) ws kc ks := by subst hn; exact fun p e R s m args below meth c A QQ H locs ls hC hB hP hD hS hl => lv_icmp_le hC.1 hC.2.1 hdg ht (fun h => kt h p e R s m args below meth c A QQ H locs ls hC hB hP hD hS hl) (fun h => kf h p e R s m args below meth c A QQ H locs ls hC hB hP hD hS hl)
theorem j_goto {off : Int} {tgt : Nat} (hdg : decode cc pc = .ok (.goto off, 3)) (ht : (pc : Int) + off = (tgt : Int)) (k : J l Z own nm cc nL rt d MC MS Q tgt L S ws kc ks) : J l Z own nm cc nL rt d MC MS Q pc L S ws kc ks := fun p e R s m args below meth c A QQ H locs ls hC hB hP hD hS hl => lv_goto hC.1 hC.2.1 hdg ht (k p e R s m args below meth c A QQ H locs ls hC hB hP hD hS hl)
theorem j_table {dflt lo hi : Int} {offs : Array Int} {len : Nat} {x : Int32} (hdg : decode cc pc = .ok (.tableswitch dflt lo hi offs, len)) (ko : (x.toInt < lo ∨ hi < x.toInt) → ∀ tgt : Nat, (pc : Int) + dflt = (tgt : Int) → J l Z own nm cc nL rt d MC MS Q tgt L S ws kc ks)
    (ki : ∀ (off : Int) (tgt : Nat), ¬ x.toInt < lo → ¬ hi < x.toInt → offs[(x.toInt - lo).toNat]? = some off → (pc : Int) + off = (tgt : Int) → J l Z own nm cc nL rt d MC MS Q tgt L S ws kc ks) (hd : ∃ t : Nat, (pc : Int) + dflt = (t : Int)) (hs : ∀ off ∈ offs, ∃ t : Nat, (pc : Int) + off = (t : Int)) (hz : (offs.size : Int) = hi - lo + 1) : J l Z own nm cc nL rt d MC MS Q pc L (.int x :: S) ws kc ks := by
  intro p e R s m args below meth c A QQ H locs ls hC hB hP hD hS hl
  by_cases h : x.toInt < lo ∨ hi < x.toInt
  · obtain ⟨t, ht⟩ := hd
    exact lv_tableOut hC.1 hC.2.1 hdg h ht (ko h t ht p e R s m args below meth c A QQ H locs ls hC hB hP hD hS hl)
  · have h1 : ¬ x.toInt < lo := fun z => h (Or.inl z)
    have h2 : ¬ hi < x.toInt := fun z => h (Or.inr z)
    have hlt : (x.toInt - lo).toNat < offs.size := by omega
    obtain ⟨t, ht⟩ := hs _ (Array.getElem_mem hlt)
    exact lv_tableIn hC.1 hC.2.1 hdg h1 h2 (Array.getElem?_eq_getElem hlt) ht (ki _ t h1 h2 (Array.getElem?_eq_getElem hlt) ht p e R s m args below meth c A QQ H locs ls hC hB hP hD hS hl)
theorem j_ldc {i : Nat} {v : Int32} (hdg : decode cc pc = .ok (.ldc i, 2)) (hn : pc + 2 = n) (hw : Cond.constant own i v ∈ jT) (k : J l Z own nm cc nL rt d MC MS Q n L (.int v :: S) ws kc ks) : J l Z own nm cc nL rt d MC MS Q pc L S ws kc ks := by subst hn; exact fun p e R s m args below meth c A QQ H locs ls hC hB hP hD hS hl => lv_ldc hC.1 hC.2.1 hC.2.2.2.1 (hC.2.2.2.2.1 _ hw) hdg (k p e R s m args below meth c A QQ H locs ls hC hB hP hD hS hl)
theorem j_ldcw {i : Nat} {v : Int32} (hdg : decode cc pc = .ok (.ldc_w i, 3)) (hn : pc + 3 = n) (hw : Cond.constant own i v ∈ jT) (k : J l Z own nm cc nL rt d MC MS Q n L (.int v :: S) ws kc ks) : J l Z own nm cc nL rt d MC MS Q pc L S ws kc ks := by subst hn; exact fun p e R s m args below meth c A QQ H locs ls hC hB hP hD hS hl => lv_ldcw hC.1 hC.2.1 hC.2.2.2.1 (hC.2.2.2.2.1 _ hw) hdg (k p e R s m args below meth c A QQ H locs ls hC hB hP hD hS hl)
theorem j_ldc2 {i : Nat} {v : Int64} (hdg : decode cc pc = .ok (.ldc2_w i, 3)) (hn : pc + 3 = n) (hw : Cond.constantLong own i v ∈ jT) (k : J l Z own nm cc nL rt d MC MS Q n L (.long v :: S) ws kc ks) : J l Z own nm cc nL rt d MC MS Q pc L S ws kc ks := by subst hn; exact fun p e R s m args below meth c A QQ H locs ls hC hB hP hD hS hl => lv_ldc2 hC.1 hC.2.1 hC.2.2.2.1 (hC.2.2.2.2.1 _ hw) hdg (k p e R s m args below meth c A QQ H locs ls hC hB hP hD hS hl)
theorem j_ireturn {x : Int32} {ty : FieldType} (hdg : decode cc pc = .ok (.ireturn, 1)) (hr : rt = some ty) (hz : narrow ty (.int x) = .int x) (hc : kc ≤ MC ∧ ks ≤ MS) (hq : Q (some (.int x)) ws) : J l Z own nm cc nL rt d MC MS Q pc L [.int x] ws kc ks := fun p e R s m args below meth c A QQ H locs ls hC hB hP hD hS hl => W.widen hc.1 hc.2 (hB .ireturn (some (.int x)) ws H locs pc ls (Or.inr (Or.inl ⟨x, ty, rfl, rfl, hr, hz⟩)) hdg hq hP hD hS)
theorem j_lreturn {x : Int64} (hdg : decode cc pc = .ok (.lreturn, 1)) (hr : rt = some .long) (hc : kc ≤ MC ∧ ks ≤ MS) (hq : Q (some (.long x)) ws) : J l Z own nm cc nL rt d MC MS Q pc L [.long x] ws kc ks := fun p e R s m args below meth c A QQ H locs ls hC hB hP hD hS hl => W.widen hc.1 hc.2 (hB .lreturn (some (.long x)) ws H locs pc ls (Or.inr (Or.inr (Or.inl ⟨x, rfl, rfl, hr⟩))) hdg hq hP hD hS)
theorem j_areturn {a : Nat} {t : String} (hdg : decode cc pc = .ok (.areturn, 1)) (hr : rt = some (.object t)) (hc : kc ≤ MC ∧ ks ≤ MS) (hq : Q (some (.ref a)) ws) : J l Z own nm cc nL rt d MC MS Q pc L [.ref a] ws kc ks := fun p e R s m args below meth c A QQ H locs ls hC hB hP hD hS hl => W.widen hc.1 hc.2 (hB .areturn (some (.ref a)) ws H locs pc ls (Or.inr (Or.inr (Or.inr ⟨a, t, rfl, rfl, hr⟩))) hdg hq hP hD hS)
theorem j_return (hdg : decode cc pc = .ok (.return_, 1)) (hr : rt = none) (hc : kc ≤ MC ∧ ks ≤ MS) (hq : Q none ws) : J l Z own nm cc nL rt d MC MS Q pc L [] ws kc ks := fun p e R s m args below meth c A QQ H locs ls hC hB hP hD hS hl => W.widen hc.1 hc.2 (hB .return_ none ws H locs pc ls (Or.inl ⟨rfl, rfl, hr⟩) hdg hq hP hD hS)
end JR
end
section
/-! ===== fields ===== -/
/-- what the tables say of a field instruction: in class own, constant idx names field k (of type ty) of the class at place ci -/
def jF (own : String) (idx ci k : Nat) (ty : FieldType) (fin : Bool) : Prop := ∃ (C : String) (T : u_T) (N : Nat) (ty0 : Nat → FieldType), vwCl[ci]? = some (C, T, N) ∧ k < N ∧ (∀ w ∈ u_ws C T N, w ∈ jT) ∧ (∀ k, k < N → parseFieldDescriptor (T k).2.2.1 = some (ty0 k)) ∧ (∀ a, a < N → ∀ b, b < N → a ≠ b → (T a).2.1 ≠ (T b).2.1) ∧ (T k).1 = C ∧ (T k).2.2.2 = fin ∧ ty0 k = ty ∧ (Cond.fieldLink own idx C (T k).2.1 (T k).2.2.1 ∈ jT ∨ ∃ h : String, Cond.fieldLinkNest own idx C (T k).2.1 (T k).2.2.1 h ∈ jNest)
section JM
variable {l : Launch} {Z : jZ} {own nm : String} {cc : ByteArray} {nL : Nat} {rt : Option FieldType} {d MC MS : Nat} {Q : Option Value → va_W → Prop} {pc n : Nat} {L : List (Nat × Value)} {S : List Value} {ws : va_W} {kc ks : Nat}
theorem j_get {idx ci k p0 a : Nat} {ty : FieldType} {fin : Bool} {fs : List Value} {v : Value} (hF : jF own idx ci k ty fin) (hdg : decode cc pc = .ok (.getfield idx, 3)) (hn : pc + 3 = n) (he : ws[p0]? = some (a, .inr (ci, fs))) (hv : fs[k]? = some v)
    (kk : J l Z own nm cc nL rt d MC MS Q n L (v :: S) ws kc ks) : J l Z own nm cc nL rt d MC MS Q pc L (.ref a :: S) ws kc ks := by
  subst hn
  obtain ⟨C, T, N, ty0, hc, hk, hin, hty, hnm, h1, h2, h3, hl⟩ := hF
  intro p e R s m args below meth c A QQ H locs ls hC hB hP hD hS hl'
  have go := kk p e R s m args below meth c A QQ H locs ls hC hB hP hD hS hl'
  obtain ⟨hx, hb, hml, hown, hts, hR, hA, hE, hN, hnm'⟩ := hC
  rcases hl with hl | ⟨h, hl⟩
  · exact va_get hx hb hts hin hown hE.1 hP p0 he hc k hk (hts _ hl) (fun x h => by rw [h1] at h; exact h) hv hdg go
  · exact va_getN hx hb hts hin hown hE.1 hP p0 he hc k hk (va_Nw.use rfl (hN.1 _ hl)) (fun x h => by rw [h1] at h; exact h) hv hdg go
theorem j_put {idx ci k p0 a : Nat} {ty : FieldType} {fs : List Value} {v : Value} (hF : jF own idx ci k ty false) (hdg : decode cc pc = .ok (.putfield idx, 3)) (hn : pc + 3 = n) (he : ws[p0]? = some (a, .inr (ci, fs))) (hl : k < fs.length) (hnv : narrow ty v = v) (hfit : fits ty v = true)
    (kk : J l Z own nm cc nL rt d MC MS Q n L S (ws.set p0 (a, .inr (ci, fs.set k v))) kc ks) : J l Z own nm cc nL rt d MC MS Q pc L (v :: .ref a :: S) ws kc ks := by
  subst hn
  obtain ⟨C, T, N, ty0, hc, hk, hin, hty, hnm, h1, h2, h3, hlk⟩ := hF
  subst h3
  intro p e R s m args below meth c A QQ H locs ls hC hB hP hD hS hl'
  have go := fun (H1 : Heap) (locs1 : List Loc) (x1 : va_P Z.1 vwCl (ws.set p0 (a, .inr (ci, fs.set k v))) H1) (x2 : va_D A (ws.set p0 (a, .inr (ci, fs.set k v)))) (x3 : va_S A s.heap H1 locs1) => kk p e R s m args below meth c A QQ H1 locs1 ls hC hB x1 x2 x3 hl'
  obtain ⟨hx, hb, hml, hown, hts, hR, hA, hE, hN, hnm'⟩ := hC
  rcases hlk with hlk | ⟨h, hlk⟩
  · exact va_put hx hb hts hin ty0 hty hnm hown hE.1 hP hD hS p0 he hc k hk (hts _ hlk) (fun x h => by rw [h1] at h; exact h) h2 (hty k hk) hnv hfit hl hdg go
  · exact va_putN hx hb hts hin ty0 hty hnm hown hE.1 hP hD hS p0 he hc k hk (va_Nw.use rfl (hN.1 _ hlk)) (fun x h => by rw [h1] at h; exact h) h2 (hty k hk) hnv hfit hl hdg go
/-- a final field, in a constructor of its class -/
theorem j_putF {idx ci k p0 a : Nat} {ty : FieldType} {fs : List Value} {v : Value} (hF : jF own idx ci k ty true) (hnest : ∀ (h x y z : String), Cond.fieldLinkNest own idx x y z h ∉ jNest) (hinit : nm = "<init>") (hown0 : ∀ q : vw_C, vwCl[ci]? = some q → q.1 = own) (hdg : decode cc pc = .ok (.putfield idx, 3)) (hn : pc + 3 = n) (he : ws[p0]? = some (a, .inr (ci, fs))) (hl : k < fs.length) (hnv : narrow ty v = v) (hfit : fits ty v = true)
    (kk : J l Z own nm cc nL rt d MC MS Q n L S (ws.set p0 (a, .inr (ci, fs.set k v))) kc ks) : J l Z own nm cc nL rt d MC MS Q pc L (v :: .ref a :: S) ws kc ks := by
  subst hn
  obtain ⟨C, T, N, ty0, hc, hk, hin, hty, hnm, h1, h2, h3, hlk⟩ := hF
  subst h3
  have hCo : C = own := hown0 _ hc
  intro p e R s m args below meth c A QQ H locs ls hC hB hP hD hS hl'
  have go := fun (H1 : Heap) (locs1 : List Loc) (x1 : va_P Z.1 vwCl (ws.set p0 (a, .inr (ci, fs.set k v))) H1) (x2 : va_D A (ws.set p0 (a, .inr (ci, fs.set k v)))) (x3 : va_S A s.heap H1 locs1) => kk p e R s m args below meth c A QQ H1 locs1 ls hC hB x1 x2 x3 hl'
  obtain ⟨hx, hb, hml, hown, hts, hR, hA, hE, hN, hnm'⟩ := hC
  rcases hlk with hlk | ⟨h, hlk⟩
  · exact va_putF hx hb hts hin ty0 hty hnm hown hE.1 hP hD hS p0 he hc k hk (hts _ hlk) (fun x h => by rw [h1] at h; exact h) h2 (hnm'.trans hinit) (h1.trans hCo) (hty k hk) hnv hfit hl hdg go
  · exact absurd hlk (hnest _ _ _ _)
theorem j_iald {p0 a N : Nat} {f : Nat → Int32} {i : Int32} (hdg : decode cc pc = .ok (.iaload, 1)) (hn : pc + 1 = n) (he : ws[p0]? = some (a, .inl (Z.2.1 0, N, .inl f))) (hin : vp_in i N) (k : J l Z own nm cc nL rt d MC MS Q n L (.int (f i.toNatClampNeg) :: S) ws kc ks) : J l Z own nm cc nL rt d MC MS Q pc L (.int i :: .ref a :: S) ws kc ks := by
  subst hn
  intro p e R s m args below meth c A QQ H locs ls hC hB hP hD hS hl
  exact va_iald hC.1 hC.2.1 hC.2.2.2.2.2.2.2.1.1 hP p0 0 he rfl hin hdg (k p e R s m args below meth c A QQ H locs ls hC hB hP hD hS hl)
theorem j_iast {p0 a N : Nat} {f : Nat → Int32} {i : Int32} {x : Int32} (hdg : decode cc pc = .ok (.iastore, 1)) (hn : pc + 1 = n) (he : ws[p0]? = some (a, .inl (Z.2.1 0, N, .inl f))) (hin : vp_in i N) (k : J l Z own nm cc nL rt d MC MS Q n L S (ws.set p0 (a, .inl (Z.2.1 0, N, .inl (upd f i.toNatClampNeg x)))) kc ks) : J l Z own nm cc nL rt d MC MS Q pc L (.int x :: .int i :: .ref a :: S) ws kc ks := by
  subst hn
  intro p e R s m args below meth c A QQ H locs ls hC hB hP hD hS hl
  exact va_iast hC.1 hC.2.1 hC.2.2.2.2.2.2.2.1.1 hP hD hS p0 0 he rfl hin hdg (fun H locs hP hD hS => k p e R s m args below meth c A QQ H locs ls hC hB hP hD hS hl)
theorem j_lald {p0 a N : Nat} {f : Nat → Int64} {i : Int32} (hdg : decode cc pc = .ok (.laload, 1)) (hn : pc + 1 = n) (he : ws[p0]? = some (a, .inl (Z.2.1 1, N, .inr (.inl f)))) (hin : vp_in i N) (k : J l Z own nm cc nL rt d MC MS Q n L (.long (f i.toNatClampNeg) :: S) ws kc ks) : J l Z own nm cc nL rt d MC MS Q pc L (.int i :: .ref a :: S) ws kc ks := by
  subst hn
  intro p e R s m args below meth c A QQ H locs ls hC hB hP hD hS hl
  exact va_lald hC.1 hC.2.1 hC.2.2.2.2.2.2.2.1.1 hP p0 1 he rfl hin hdg (k p e R s m args below meth c A QQ H locs ls hC hB hP hD hS hl)
theorem j_last {p0 a N : Nat} {f : Nat → Int64} {i : Int32} {x : Int64} (hdg : decode cc pc = .ok (.lastore, 1)) (hn : pc + 1 = n) (he : ws[p0]? = some (a, .inl (Z.2.1 1, N, .inr (.inl f)))) (hin : vp_in i N) (k : J l Z own nm cc nL rt d MC MS Q n L S (ws.set p0 (a, .inl (Z.2.1 1, N, .inr (.inl (vp_updL f i.toNatClampNeg x))))) kc ks) : J l Z own nm cc nL rt d MC MS Q pc L (.long x :: .int i :: .ref a :: S) ws kc ks := by
  subst hn
  intro p e R s m args below meth c A QQ H locs ls hC hB hP hD hS hl
  exact va_last hC.1 hC.2.1 hC.2.2.2.2.2.2.2.1.1 hP hD hS p0 1 he rfl hin hdg (fun H locs hP hD hS => k p e R s m args below meth c A QQ H locs ls hC hB hP hD hS hl)
theorem j_aald {p0 a N : Nat} {f : Nat → Option Nat} {i : Int32} (hdg : decode cc pc = .ok (.aaload, 1)) (hn : pc + 1 = n) (he : ws[p0]? = some (a, .inl (Z.2.1 2, N, .inr (.inr (.inr (.inr f)))))) (hin : vp_in i N) (k : J l Z own nm cc nL rt d MC MS Q n L (va_rf (f i.toNatClampNeg) :: S) ws kc ks) : J l Z own nm cc nL rt d MC MS Q pc L (.int i :: .ref a :: S) ws kc ks := by
  subst hn
  intro p e R s m args below meth c A QQ H locs ls hC hB hP hD hS hl
  exact va_aldq hC.1 hC.2.1 hC.2.2.2.2.2.2.2.1.1 hP p0 2 he rfl hin hdg (k p e R s m args below meth c A QQ H locs ls hC hB hP hD hS hl)
theorem j_getU {idx : Nat} (hw : Cond.fieldLink own idx RX4 "UNDER" "[I" ∈ jT) (hdg : decode cc pc = .ok (.getstatic idx, 3)) (hn : pc + 3 = n) (k : J l Z own nm cc nL rt d MC MS Q n L (.ref (Z.2.1 3) :: S) ws kc ks) : J l Z own nm cc nL rt d MC MS Q pc L S ws kc ks := by
  subst hn
  intro p e R s m args below meth c A QQ H locs ls hC hB hP hD hS hl
  exact va_gets hC.1 hC.2.1 hC.2.2.2.2.2.2.2.1.2.1 hS hC.2.2.2.1 (hC.2.2.2.2.1 _ hw) (fun _ h => h) hdg (k p e R s m args below meth c A QQ H locs ls hC hB hP hD hS hl)
theorem j_ldU {i : Int32} (hdg : decode cc pc = .ok (.iaload, 1)) (hn : pc + 1 = n) (hin : vp_in i 6) (k : J l Z own nm cc nL rt d MC MS Q n L (.int (jUnder i.toNatClampNeg) :: S) ws kc ks) : J l Z own nm cc nL rt d MC MS Q pc L (.int i :: .ref (Z.2.1 3) :: S) ws kc ks := by
  subst hn
  intro p e R s m args below meth c A QQ H locs ls hC hB hP hD hS hl
  exact va_ti hC.1 hC.2.1 hC.2.2.2.2.2.2.2.1.2.2.1 hS hin rfl hdg (k p e R s m args below meth c A QQ H locs ls hC hB hP hD hS hl)
theorem j_getR {idx : Nat} (hw : Cond.fieldLink own idx RX4 "RULE_LIMITS" "[I" ∈ jT) (hdg : decode cc pc = .ok (.getstatic idx, 3)) (hn : pc + 3 = n) (k : J l Z own nm cc nL rt d MC MS Q n L (.ref (Z.2.1 4) :: S) ws kc ks) : J l Z own nm cc nL rt d MC MS Q pc L S ws kc ks := by
  subst hn
  intro p e R s m args below meth c A QQ H locs ls hC hB hP hD hS hl
  exact va_gets hC.1 hC.2.1 hC.2.2.2.2.2.2.2.1.2.2.2.1 hS hC.2.2.2.1 (hC.2.2.2.2.1 _ hw) (fun _ h => h) hdg (k p e R s m args below meth c A QQ H locs ls hC hB hP hD hS hl)
theorem j_ldR {i : Int32} (hdg : decode cc pc = .ok (.iaload, 1)) (hn : pc + 1 = n) (hin : vp_in i 4) (k : J l Z own nm cc nL rt d MC MS Q n L (.int (jLims i.toNatClampNeg) :: S) ws kc ks) : J l Z own nm cc nL rt d MC MS Q pc L (.int i :: .ref (Z.2.1 4) :: S) ws kc ks := by
  subst hn
  intro p e R s m args below meth c A QQ H locs ls hC hB hP hD hS hl
  exact va_ti hC.1 hC.2.1 hC.2.2.2.2.2.2.2.1.2.2.2.2.1 hS hin rfl hdg (k p e R s m args below meth c A QQ H locs ls hC hB hP hD hS hl)
theorem j_sld {i : Int32} (hdg : decode cc pc = .ok (.iaload, 1)) (hn : pc + 1 = n) (hin : vp_in i (Z.2.1 6)) (k : J l Z own nm cc nL rt d MC MS Q n L (.int (Z.2.2.2.2 i.toNatClampNeg) :: S) ws kc ks) : J l Z own nm cc nL rt d MC MS Q pc L (.int i :: .ref (Z.2.1 5) :: S) ws kc ks := by
  subst hn
  intro p e R s m args below meth c A QQ H locs ls hC hB hP hD hS hl
  obtain ⟨x1, x2, x3⟩ := hC.2.2.2.2.2.2.2.1.2.2.2.2.2.2.2.2
  exact va_sld hC.1 hC.2.1 x1 x2 x3 hS hin hdg (k p e R s m args below meth c A QQ H locs ls hC hB hP hD hS hl)
theorem j_slen (hdg : decode cc pc = .ok (.arraylength, 1)) (hn : pc + 1 = n) (k : J l Z own nm cc nL rt d MC MS Q n L (.int (nI (Z.2.1 6)) :: S) ws kc ks) : J l Z own nm cc nL rt d MC MS Q pc L (.ref (Z.2.1 5) :: S) ws kc ks := by
  subst hn
  intro p e R s m args below meth c A QQ H locs ls hC hB hP hD hS hl
  obtain ⟨x1, x2, x3⟩ := hC.2.2.2.2.2.2.2.1.2.2.2.2.2.2.2.2
  exact va_slen hC.1 hC.2.1 x1 x2 x3 hS hdg (k p e R s m args below meth c A QQ H locs ls hC hB hP hD hS hl)
theorem j_ldcS {i idx : Nat} (hi : i < 15) (hix : jIdx.getD i 0 = idx) (ho : own = RX4) (hdg : decode cc pc = .ok (.ldc idx, 2)) (hn : pc + 2 = n) (k : J l Z own nm cc nL rt d MC MS Q n L (.ref (Z.2.2.1 i) :: S) ws kc ks) : J l Z own nm cc nL rt d MC MS Q pc L S ws kc ks := by
  subst hn
  subst hix
  subst ho
  intro p e R s m args below meth c A QQ H locs ls hC hB hP hD hS hl
  exact va_ldcS hC.1 hC.2.1 hC.2.2.2.1 (hC.2.2.2.2.2.2.2.2.1.2 i hi) hdg (k p e R s m args below meth c A QQ H locs ls hC hB hP hD hS hl)
/-! ===== calls ===== -/
def jM (own : String) (idx : Nat) (y : MethodName) (cc : ByteArray) (nL : Nat) (rt : Option FieldType) (na : Nat) : Prop := Cond.code y cc nL rt ∈ jT ∧ Cond.initialized y.cls ∈ jT ∧ (y.cls ≠ "java/lang/invoke/MethodHandle" ∧ y.cls ≠ "java/lang/invoke/VarHandle") ∧ (parseMethodDescriptor y.desc).map (fun d => d.parameters.length) = some na ∧ nL ≤ 17 ∧ (Cond.methodLink own idx y ∈ jT ∨ ∃ h : String, Cond.methodLinkNest own idx y h ∈ jNest)
abbrev jRm (d MC MS : Nat) : Room := { frames := d, cells := MC, slots := MS, locals := 36 * d }
abbrev jPc (Z : jZ) (av : List Value) (ws : va_W) (sz : Nat) : Array Value → State → Prop := va_Pc av (fun U => U.heap.size = sz ∧ va_P Z.1 vwCl ws U.heap ∧ va_D (fun _ => True) ws ∧ jE Z (va_A ws sz) U U.heap ∧ jN Z U)
abbrev jQc (Z : jZ) (ws : va_W) (sz : Nat) (Q : Option Value → va_W → Prop) : Array Value → State → Outcome → State → Prop := fun _ st oc t => (∃ (r : Option Value) (ws' : va_W), oc = .returned r ∧ Q r ws' ∧ va_P Z.1 vwCl ws' t.heap ∧ va_D (va_A ws sz) ws') ∧ va_F (va_A ws sz) st t
theorem jPc_blind {av : List Value} {sz : Nat} : FrameBlind (jPc Z av ws sz) := fun a U g mk h => by
  obtain ⟨h1, h2, h3, h4, h5, h6⟩ := h
  exact ⟨h1, h2, h3, h4, h5.calling g mk a, h6.calling g mk a⟩
theorem jA_sub {A : Nat → Prop} {s : State} {H : Heap} {locs : List Loc} (hD : va_D A ws) (hS : va_S A s.heap H locs) (hA : ∀ q, s.heap.size ≤ q → A q) : ∀ q, va_A ws H.size q → A q := fun q h => by
  rcases h with ⟨k, e, h⟩ | h
  · exact hD.2 k (q, e) h
  · exact hA q (Nat.le_trans hS.1 h)
theorem jPc_at {av : List Value} {A : Nat → Prop} {s U : State} {H : Heap} {locs : List Loc} (hP : va_P Z.1 vwCl ws H) (hD : va_D A ws) (hS : va_S A s.heap H locs) (hA : ∀ q, s.heap.size ≤ q → A q) (hE : jE Z A s s.heap) (hN : jN Z s) (hU : U.heap = H) (hW : s.WarmedH U.vm) : jPc Z av ws H.size av.toArray U :=
  ⟨rfl, by rw [hU], by rw [hU]; exact hP, hD.weaken (fun _ _ _ _ => trivial), hE.next hS hU hW (jA_sub hD hS hA), hN.next hW⟩
theorem j_run {p : Program} {e : Env} {R : Room} {s : State} {m : MethodId} {args : Array Value} {below : List Frame} {meth : Method} {c : Code} {A : Nat → Prop} {QQ : State → Prop} {H : Heap} {locs : List Loc} {ls : Array Slot} {MC' MS' : Nat} {av rest : List Value} {Q' : Option Value → va_W → Prop}
    (hr : va_Run p l e R s m args below meth c H locs kc ks MC' MS' (F0 m pc ls S) rest (jQc Z ws H.size Q' av.toArray) (va_A ws H.size)) (hD : va_D A ws) (hS : va_S A s.heap H locs) (hA : ∀ q, s.heap.size ≤ q → A q)
    (kk : ∀ (r : Option Value) (ws' : va_W) (H1 : Heap) (locs1 : List Loc), Q' r ws' → va_P Z.1 vwCl ws' H1 → va_D A ws' → va_S A s.heap H1 locs1 → W p l e R s m args below meth c H1 locs1 (kc + MC') (ks + MS') QQ (F0 m (pc + 3) ls (r.toList ++ rest))) : W p l e R s m args below meth c H locs kc ks QQ (F0 m pc ls S) := by
  intro T hT X
  obtain ⟨v, st₀, t, T', L, h0, X', hL, e1, e2, ⟨⟨r, ws', hv, hq, hP', hD'⟩, hz, hk⟩, st⟩ := hr T hT X
  cases hv
  rw [h0] at hz hk
  have hsub := jA_sub hD hS hA
  obtain ⟨t2, a1, b1⟩ := kk v ws' T'.heap (locs ++ L) hq (by rw [e1]; exact hP') (hD'.weaken (fun _ q _ h => hsub q.1 h))
    ⟨Nat.le_trans hS.1 (by rw [e1]; exact hz), fun q h1 h2 => by rw [e1, hk q (Nat.lt_of_lt_of_le h1 hS.1) (fun z => h2 (hsub q z))]; exact hS.2.1 q h1 h2, fun q hq => by
      rcases List.mem_append.mp hq with h | h
      · exact hS.2.2 q h
      · exact hsub _ (hL q h)⟩ T' rfl X'
  exact ⟨t2, st t2 a1, b1⟩
theorem jT_good {y : MethodName} {cc' : ByteArray} {nL' : Nat} {rt' : Option FieldType} (hc : Cond.code y cc' nL' rt' ∈ jT) : GoodIn jT (.code y cc' nL' rt' :: jT) := fun w hw => by
  have h : w ∈ jT := by
    rcases List.mem_cons.mp hw with rfl | h
    · exact hc
    · exact h
  exact ⟨h, good_of_word (List.mem_filter.mp h).2⟩
theorem j_callS {idx : Nat} {y : MethodName} {cc' : ByteArray} {nL' : Nat} {rt' : Option FieldType} {na d' MC' MS' : Nat} {As rest : List Value} {Q' : Option Value → va_W → Prop} (hM : jM own idx y cc' nL' rt' na) (hst : Cond.static y ∈ jT) (hdg : decode cc pc = .ok (.invokestatic idx, 3)) (hn : pc + 3 = n) (hCt : Ct l Z y cc' nL' rt' d' MC' MS' As ws Q')
    (hna : As.length = na) (hS0 : S = As.reverse ++ rest) (hcat : (rest.map fun v => v.category).sum ≤ 8) (hd : d' + 1 ≤ d) (hcc : kc + MC' ≤ MC ∧ ks + MS' ≤ MS) (kk : ∀ (r : Option Value) (ws' : va_W), Q' r ws' → J l Z own nm cc nL rt d MC MS Q n L (r.toList ++ rest) ws' (kc + MC') (ks + MS')) : J l Z own nm cc nL rt d MC MS Q pc L S ws kc ks := by
  subst hn
  obtain ⟨hc, hi, hy, hdl, hnl, hlk⟩ := hM
  intro p e R s m args below meth c A QQ H locs ls hC hB hP hD hS hl
  have go := fun (r : Option Value) (ws' : va_W) (H1 : Heap) (locs1 : List Loc) (x0 : Q' r ws') (x1 : va_P Z.1 vwCl ws' H1) (x2 : va_D A ws') (x3 : va_S A s.heap H1 locs1) => kk r ws' x0 p e R s m args below meth c A QQ H1 locs1 ls hC hB x1 x2 x3 hl
  obtain ⟨hx, hb, hml, hown, hts, hR, hA, hE, hN, hnm'⟩ := hC
  obtain ⟨hR1, hR2, hR3, hR4⟩ := hR
  have hpre : PreS s H (jPc Z As ws H.size) As := ⟨jPc_blind, fun U hU hW => jPc_at hP hD hS hA hE hN hU hW⟩
  have hroom : (jRm d' MC' MS').frames + 1 ≤ R.frames ∧ 8 + (nL' + 11) + (jRm d' MC' MS').locals ≤ R.locals := ⟨Nat.le_trans hd hR1, by show 8 + (nL' + 11) + 36 * d' ≤ R.locals; omega⟩
  have hcc' : kc + MC' ≤ R.cells ∧ ks + MS' ≤ R.slots := ⟨Nat.le_trans hcc.1 hR3, Nat.le_trans hcc.2 hR4⟩
  refine j_run (av := As) (rest := rest) (Q' := Q') ?_ hD hS hA go
  rcases hlk with hlk | ⟨h, hlk⟩
  · exact va_runS (Ts := jT) ⟨hx, hb, hml, hown, hts⟩ (hCt H.size) ⟨callB_of na hts (jT_good hc) rfl rfl rfl (hts _ hi) (hts _ hlk) ⟨hy.1, hy.2, hdl⟩ hroom, hts _ hst⟩ hpre rfl hna hl.1 hS0 (lv_room (m := m) (pc := pc) (ls := ls) (rest := S) hcat) hdg hcc'
  · exact va_runSN (Ts := jT) ⟨hx, hb, hml, hown, hts⟩ (hCt H.size) ⟨va_cnB na hts (jT_good hc) rfl rfl rfl (hN.1 _ hlk) (hts _ hi) ⟨hy.1, hy.2, hdl⟩ hroom, hts _ hst, trivial⟩ hpre rfl hna hl.1 hS0 (lv_room (m := m) (pc := pc) (ls := ls) (rest := S) hcat) hdg hcc'
/-- the receiver: an object of the class -/
def jRecv (Z : jZ) (ws : va_W) (b : Nat) (C : String) : Prop := ∀ (s : State) (H : Heap) (locs : List Loc) (A : Nat → Prop), jE Z A s s.heap → va_P Z.1 vwCl ws H → va_S A s.heap H locs → ∃ cell : Cell, H[b]? = some cell ∧ cell.vm.isStatics = false ∧ s.vm.findClass C = some cell.cls
theorem jRecv_obj {b p0 ci : Nat} {C : String} {r : vw_C} {fs : List Value} (he : ws[p0]? = some (b, .inr (ci, fs))) (hc : vwCl[ci]? = some r) (hC : r.1 = C) : jRecv Z ws b C := fun s H locs A hE hP hS => by subst hC; exact va_recv hE.1 hP hc he
theorem jRecv_str {i : Nat} (hi : i < 15) : jRecv Z ws (Z.2.2.1 i) "java/lang/String" := fun s H locs A hE hP hS => vk_recv hE.2.2.2.2.2.2.2.1 hi hS
theorem j_callV {idx : Nat} {y : MethodName} {cc' : ByteArray} {nL' : Nat} {rt' : Option FieldType} {na d' MC' MS' b : Nat} {As rest : List Value} {Q' : Option Value → va_W → Prop} (hM : jM own idx y cc' nL' rt' na) (hin : Cond.instanceMethod y ∈ jT) (hse : Cond.selects y.cls y y ∈ jT) (hdg : decode cc pc = .ok (.invokevirtual idx, 3)) (hn : pc + 3 = n) (hCt : Ct l Z y cc' nL' rt' d' MC' MS' (.ref b :: As) ws Q') (hrv : jRecv Z ws b y.cls)
    (hna : As.length = na) (hS0 : S = As.reverse ++ .ref b :: rest) (hcat : (rest.map fun v => v.category).sum ≤ 8) (hd : d' + 1 ≤ d) (hcc : kc + MC' ≤ MC ∧ ks + MS' ≤ MS) (kk : ∀ (r : Option Value) (ws' : va_W), Q' r ws' → J l Z own nm cc nL rt d MC MS Q n L (r.toList ++ rest) ws' (kc + MC') (ks + MS')) : J l Z own nm cc nL rt d MC MS Q pc L S ws kc ks := by
  subst hn
  obtain ⟨hc, hi, hy, hdl, hnl, hlk⟩ := hM
  intro p e R s m args below meth c A QQ H locs ls hC hB hP hD hS hl
  have go := fun (r : Option Value) (ws' : va_W) (H1 : Heap) (locs1 : List Loc) (x0 : Q' r ws') (x1 : va_P Z.1 vwCl ws' H1) (x2 : va_D A ws') (x3 : va_S A s.heap H1 locs1) => kk r ws' x0 p e R s m args below meth c A QQ H1 locs1 ls hC hB x1 x2 x3 hl
  obtain ⟨hx, hb, hml, hown, hts, hR, hA, hE, hN, hnm'⟩ := hC
  obtain ⟨hR1, hR2, hR3, hR4⟩ := hR
  have hpre : PreV s H y.cls b (jPc Z (.ref b :: As) ws H.size) As := ⟨jPc_blind, hrv s H locs A hE hP hS, fun U hU hW => jPc_at hP hD hS hA hE hN hU hW⟩
  have hroom : (jRm d' MC' MS').frames + 1 ≤ R.frames ∧ 8 + (nL' + 11) + (jRm d' MC' MS').locals ≤ R.locals := ⟨Nat.le_trans hd hR1, by show 8 + (nL' + 11) + 36 * d' ≤ R.locals; omega⟩
  have hcc' : kc + MC' ≤ R.cells ∧ ks + MS' ≤ R.slots := ⟨Nat.le_trans hcc.1 hR3, Nat.le_trans hcc.2 hR4⟩
  refine j_run (av := .ref b :: As) (rest := rest) (Q' := Q') ?_ hD hS hA go
  rcases hlk with hlk | ⟨h, hlk⟩
  · exact va_runV (Ts := jT) ⟨hx, hb, hml, hown, hts⟩ (hCt H.size) ⟨callB_of na hts (jT_good hc) rfl rfl rfl (hts _ hi) (hts _ hlk) ⟨hy.1, hy.2, hdl⟩ hroom, hts _ hin, hts _ hse⟩ hpre rfl hna hl.1 hS0 (lv_room (m := m) (pc := pc) (ls := ls) (rest := S) hcat) hdg hcc'
  · exact va_runVN (Ts := jT) ⟨hx, hb, hml, hown, hts⟩ (hCt H.size) ⟨va_cnB na hts (jT_good hc) rfl rfl rfl (hN.1 _ hlk) (hts _ hi) ⟨hy.1, hy.2, hdl⟩ hroom, hts _ hin, hts _ hse⟩ hpre rfl hna hl.1 hS0 (lv_room (m := m) (pc := pc) (ls := ls) (rest := S) hcat) hdg hcc'
theorem j_callI {idx : Nat} {y : MethodName} {cc' : ByteArray} {nL' : Nat} {na d' MC' MS' b : Nat} {As rest : List Value} {Q' : Option Value → va_W → Prop} (hM : jM own idx y cc' nL' none na) (hin : Cond.instanceMethod y ∈ jT) (hy1 : y.name = "<init>") (hdg : decode cc pc = .ok (.invokespecial idx, 3)) (hn : pc + 3 = n) (hCt : Ct l Z y cc' nL' none d' MC' MS' (.ref b :: As) ws Q')
    (hna : As.length = na) (hS0 : S = As.reverse ++ .ref b :: rest) (hcat : (rest.map fun v => v.category).sum ≤ 8) (hd : d' + 1 ≤ d) (hcc : kc + MC' ≤ MC ∧ ks + MS' ≤ MS) (kk : ∀ (r : Option Value) (ws' : va_W), Q' r ws' → J l Z own nm cc nL rt d MC MS Q n L (r.toList ++ rest) ws' (kc + MC') (ks + MS')) : J l Z own nm cc nL rt d MC MS Q pc L S ws kc ks := by
  subst hn
  obtain ⟨hc, hi, hy, hdl, hnl, hlk⟩ := hM
  intro p e R s m args below meth c A QQ H locs ls hC hB hP hD hS hl
  have go := fun (r : Option Value) (ws' : va_W) (H1 : Heap) (locs1 : List Loc) (x0 : Q' r ws') (x1 : va_P Z.1 vwCl ws' H1) (x2 : va_D A ws') (x3 : va_S A s.heap H1 locs1) => kk r ws' x0 p e R s m args below meth c A QQ H1 locs1 ls hC hB x1 x2 x3 hl
  obtain ⟨hx, hb, hml, hown, hts, hR, hA, hE, hN, hnm'⟩ := hC
  obtain ⟨hR1, hR2, hR3, hR4⟩ := hR
  have hpre : PreS s H (jPc Z (.ref b :: As) ws H.size) (.ref b :: As) := ⟨jPc_blind, fun U hU hW => jPc_at hP hD hS hA hE hN hU hW⟩
  have hroom : (jRm d' MC' MS').frames + 1 ≤ R.frames ∧ 8 + (nL' + 11) + (jRm d' MC' MS').locals ≤ R.locals := ⟨Nat.le_trans hd hR1, by show 8 + (nL' + 11) + 36 * d' ≤ R.locals; omega⟩
  have hcc' : kc + MC' ≤ R.cells ∧ ks + MS' ≤ R.slots := ⟨Nat.le_trans hcc.1 hR3, Nat.le_trans hcc.2 hR4⟩
  refine j_run (av := .ref b :: As) (rest := rest) (Q' := Q') ?_ hD hS hA go
  rcases hlk with hlk | ⟨h, hlk⟩
  · exact va_runI (Ts := jT) ⟨hx, hb, hml, hown, hts⟩ (hCt H.size) ⟨callB_of na hts (jT_good hc) rfl rfl rfl (hts _ hi) (hts _ hlk) ⟨hy.1, hy.2, hdl⟩ hroom, hy1, hts _ hin⟩ hpre rfl hna hl.1 hS0 (lv_room (m := m) (pc := pc) (ls := ls) (rest := S) hcat) hdg hcc'
  · exact va_runIN (Ts := jT) ⟨hx, hb, hml, hown, hts⟩ (hCt H.size) ⟨va_cnB na hts (jT_good hc) rfl rfl rfl (hN.1 _ hlk) (hts _ hi) ⟨hy.1, hy.2, hdl⟩ hroom, hy1, hts _ hin⟩ hpre rfl hna hl.1 hS0 (lv_room (m := m) (pc := pc) (ls := ls) (rest := S) hcat) hdg hcc'
/-- Object() -/
theorem j_obj {idx a : Nat} (hw : Cond.methodLink own idx objectInit ∈ jT) (hw2 : Cond.instanceMethod objectInit ∈ jT) (hw3 : Cond.code objectInit ⟨#[0xb1]⟩ 1 none ∈ jT) (hdg : decode cc pc = .ok (.invokespecial idx, 3)) (hn : pc + 3 = n) (hd : 1 ≤ d) (hcat : (S.map fun v => v.category).sum ≤ 8) (k : J l Z own nm cc nL rt d MC MS Q n L S ws kc ks) : J l Z own nm cc nL rt d MC MS Q pc L (.ref a :: S) ws kc ks := by
  subst hn
  intro p e R s m args below meth c A QQ H locs ls hC hB hP hD hS hl
  have go := k p e R s m args below meth c A QQ H locs ls hC hB hP hD hS hl
  obtain ⟨hx, hb, hml, hown, hts, hR, hA, hE, hN, hnm'⟩ := hC
  obtain ⟨hR1, hR2, hR3, hR4⟩ := hR
  exact W.objInit hx hb hown (hts _ hw) (hts _ hw2) (hts _ hw3) rfl (by rw [hml]; exact hl.1) rfl hdg (Nat.le_trans hd hR1) (by show 2 * 0 + _ + 12 ≤ _; omega) go
theorem j_min {idx : Nat} {x y : Int32} (hw : Cond.methodLink own idx Lib.Math.min.name ∈ jT) (hw2 : Cond.static Lib.Math.min.name ∈ jT) (hw3 : Cond.initialized "java/lang/Math" ∈ jT) (hw4 : Cond.code Lib.Math.min.name Lib.Math.min.code 2 (some .int) ∈ jT) (hdg : decode cc pc = .ok (.invokestatic idx, 3)) (hn : pc + 3 = n) (hd : 1 ≤ d) (hcat : (S.map fun v => v.category).sum ≤ 8) (hc : kc ≤ MC ∧ ks ≤ MS)
    (k : J l Z own nm cc nL rt d MC MS Q n L (.int (if y < x then y else x) :: S) ws kc ks) : J l Z own nm cc nL rt d MC MS Q pc L (.int y :: .int x :: S) ws kc ks := by
  subst hn
  intro p e R s m args below meth c A QQ H locs ls hC hB hP hD hS hl
  have go := k p e R s m args below meth c A QQ H locs ls hC hB hP hD hS hl
  obtain ⟨hx, hb, hml, hown, hts, hR, hA, hE, hN, hnm'⟩ := hC
  obtain ⟨hR1, hR2, hR3, hR4⟩ := hR
  exact va_mmin hx hb (by rw [hml]; exact hl.1.symm) hown (hts _ hw) (hts _ hw2) (hts _ hw3) (hts _ hw4) (Nat.le_trans hd hR1) (by omega) (Nat.le_trans hc.1 hR3) (Nat.le_trans hc.2 hR4) hdg go
theorem j_max {idx : Nat} {x y : Int32} (hw : Cond.methodLink own idx Lib.Math.max.name ∈ jT) (hw2 : Cond.static Lib.Math.max.name ∈ jT) (hw3 : Cond.initialized "java/lang/Math" ∈ jT) (hw4 : Cond.code Lib.Math.max.name Lib.Math.max.code 2 (some .int) ∈ jT) (hdg : decode cc pc = .ok (.invokestatic idx, 3)) (hn : pc + 3 = n) (hd : 1 ≤ d) (hcat : (S.map fun v => v.category).sum ≤ 8) (hc : kc ≤ MC ∧ ks ≤ MS)
    (k : J l Z own nm cc nL rt d MC MS Q n L (.int (if x < y then y else x) :: S) ws kc ks) : J l Z own nm cc nL rt d MC MS Q pc L (.int y :: .int x :: S) ws kc ks := by
  subst hn
  intro p e R s m args below meth c A QQ H locs ls hC hB hP hD hS hl
  have go := k p e R s m args below meth c A QQ H locs ls hC hB hP hD hS hl
  obtain ⟨hx, hb, hml, hown, hts, hR, hA, hE, hN, hnm'⟩ := hC
  obtain ⟨hR1, hR2, hR3, hR4⟩ := hR
  exact va_mmax hx hb (by rw [hml]; exact hl.1.symm) hown (hts _ hw) (hts _ hw2) (hts _ hw3) (hts _ hw4) (Nat.le_trans hd hR1) (by omega) (Nat.le_trans hc.1 hR3) (Nat.le_trans hc.2 hR4) hdg go
theorem j_copyi {idx q0 q1 a0 a1 n0 n1 : Nat} {f g : Nat → Int32} {sp dp z : Int32} (hw : Cond.methodLink own idx arraycopyName ∈ jT) (hw1 : Cond.native arraycopyName ∈ jT) (hw2 : Cond.static arraycopyName ∈ jT) (hw3 : Cond.initialized "java/lang/System" ∈ jT) (hdg : decode cc pc = .ok (.invokestatic idx, 3)) (hn : pc + 3 = n) (he0 : ws[q0]? = some (a0, .inl (Z.2.1 0, n0, .inl f))) (he1 : ws[q1]? = some (a1, .inl (Z.2.1 0, n1, .inl g)))
    (h1 : ¬ sp < 0) (h2 : ¬ dp < 0) (h3 : ¬ z < 0) (h4 : sp.toNatClampNeg + z.toNatClampNeg ≤ n0) (h5 : dp.toNatClampNeg + z.toNatClampNeg ≤ n1) (hd : 1 ≤ d) (hcat : (S.map fun v => v.category).sum ≤ 8)
    (k : J l Z own nm cc nL rt d MC MS Q n L S (ws.set q1 (a1, .inl (Z.2.1 0, n1, .inl (va_cpy f g sp.toNatClampNeg dp.toNatClampNeg z.toNatClampNeg)))) kc ks) : J l Z own nm cc nL rt d MC MS Q pc L (.int z :: .int dp :: .ref a1 :: .int sp :: .ref a0 :: S) ws kc ks := by
  subst hn
  intro p e R s m args below meth c A QQ H locs ls hC hB hP hD hS hl
  have go := fun (H1 : Heap) (locs1 : List Loc) (x1 : va_P Z.1 vwCl _ H1) (x2 : va_D A _) (x3 : va_S A s.heap H1 locs1) => k p e R s m args below meth c A QQ H1 locs1 ls hC hB x1 x2 x3 hl
  obtain ⟨hx, hb, hml, hown, hts, hR, hA, hE, hN, hnm'⟩ := hC
  obtain ⟨hR1, hR2, hR3, hR4⟩ := hR
  have h9 : nativeFrameWords "java/lang/System" "arraycopy" 5 + 11 ≤ 28 := by decide +kernel
  have hroomC : (S.map fun v => v.category).sum + (nativeFrameWords "java/lang/System" "arraycopy" 5 + 11) ≤ R.locals := by omega
  exact va_copyi hx hb (by rw [hml]; exact hl.1.symm) hown (hts _ hw) (hts _ hw1) (hts _ hw2) (hts _ hw3) hE.1 hP hD hS q0 q1 0 0 he0 he1 rfl rfl rfl h1 h2 h3 h4 h5 (fun _ _ => rfl) (Nat.le_trans hd hR1) hroomC hdg go
theorem j_copyl {idx q0 q1 a0 a1 n0 n1 : Nat} {f g : Nat → Int64} {sp dp z : Int32} (hw : Cond.methodLink own idx arraycopyName ∈ jT) (hw1 : Cond.native arraycopyName ∈ jT) (hw2 : Cond.static arraycopyName ∈ jT) (hw3 : Cond.initialized "java/lang/System" ∈ jT) (hdg : decode cc pc = .ok (.invokestatic idx, 3)) (hn : pc + 3 = n) (he0 : ws[q0]? = some (a0, .inl (Z.2.1 1, n0, .inr (.inl f)))) (he1 : ws[q1]? = some (a1, .inl (Z.2.1 1, n1, .inr (.inl g))))
    (h1 : ¬ sp < 0) (h2 : ¬ dp < 0) (h3 : ¬ z < 0) (h4 : sp.toNatClampNeg + z.toNatClampNeg ≤ n0) (h5 : dp.toNatClampNeg + z.toNatClampNeg ≤ n1) (hd : 1 ≤ d) (hcat : (S.map fun v => v.category).sum ≤ 8)
    (k : J l Z own nm cc nL rt d MC MS Q n L S (ws.set q1 (a1, .inl (Z.2.1 1, n1, .inr (.inl (va_cpy f g sp.toNatClampNeg dp.toNatClampNeg z.toNatClampNeg))))) kc ks) : J l Z own nm cc nL rt d MC MS Q pc L (.int z :: .int dp :: .ref a1 :: .int sp :: .ref a0 :: S) ws kc ks := by
  subst hn
  intro p e R s m args below meth c A QQ H locs ls hC hB hP hD hS hl
  have go := fun (H1 : Heap) (locs1 : List Loc) (x1 : va_P Z.1 vwCl _ H1) (x2 : va_D A _) (x3 : va_S A s.heap H1 locs1) => k p e R s m args below meth c A QQ H1 locs1 ls hC hB x1 x2 x3 hl
  obtain ⟨hx, hb, hml, hown, hts, hR, hA, hE, hN, hnm'⟩ := hC
  obtain ⟨hR1, hR2, hR3, hR4⟩ := hR
  have h9 : nativeFrameWords "java/lang/System" "arraycopy" 5 + 11 ≤ 28 := by decide +kernel
  have hroomC : (S.map fun v => v.category).sum + (nativeFrameWords "java/lang/System" "arraycopy" 5 + 11) ≤ R.locals := by omega
  exact va_copyl hx hb (by rw [hml]; exact hl.1.symm) hown (hts _ hw) (hts _ hw1) (hts _ hw2) (hts _ hw3) hE.1 hP hD hS q0 q1 1 1 he0 he1 rfl rfl rfl h1 h2 h3 h4 h5 (fun _ _ => rfl) (Nat.le_trans hd hR1) hroomC hdg go
end JM
/-! ===== worlds as memories ===== -/
/-- V.1 j k: the int at place k of cell j (a field or an element), V.2 j k the long -/
abbrev jMem : Type := (Nat → Nat → Int32) × (Nat → Nat → Int64)
/-- a cell: an object (its class, its fields: 0 an int, 1 a long, 2 null, r + 3 the cell r); or a row (0 of ints, 1 of longs, b + 2 of the cells b, b + 2, b + 4 ..) and its length -/
abbrev jD : Type := (Nat × List Nat) ⊕ (Nat × Nat)
def jval (q : Nat → Nat) (V : jMem) (j k : Nat) : Nat → Value
  | 0 => .int (V.1 j k)
  | 1 => .long (V.2 j k)
  | 2 => .null
  | r + 3 => .ref (q r)
def jfl (q : Nat → Nat) (V : jMem) (j : Nat) : Nat → List Nat → List Value
  | _, [] => []
  | k, f :: r => jval q V j k f :: jfl q V j (k + 1) r
def jrow (Z : jZ) (q : Nat → Nat) (V : jMem) (j n : Nat) : Nat → va_E
  | 0 => .inl (Z.2.1 0, n, .inl (V.1 j))
  | 1 => .inl (Z.2.1 1, n, .inr (.inl (V.2 j)))
  | b + 2 => .inl (Z.2.1 2, n, .inr (.inr (.inr (.inr (fun i => some (q (b + 2 * i)))))))
def jcell (Z : jZ) (q : Nat → Nat) (V : jMem) (j : Nat) : jD → va_E
  | .inl o => .inr (o.1, jfl q V j 0 o.2)
  | .inr a => jrow Z q V j a.2 a.1
def jwF (Z : jZ) (q : Nat → Nat) (V : jMem) : Nat → List jD → va_W
  | _, [] => []
  | j, c :: r => (q j, jcell Z q V j c) :: jwF Z q V (j + 1) r
def jw (Z : jZ) (q : Nat → Nat) (V : jMem) (ds : List jD) : va_W := jwF Z q V 0 ds
theorem jfl_at (q : Nat → Nat) (V : jMem) (j : Nat) : ∀ (fs : List Nat) (k i : Nat), (jfl q V j k fs)[i]? = (fs[i]?).map (jval q V j (k + i))
  | [], k, i => by simp [jfl]
  | f :: r, k, 0 => by simp [jfl]
  | f :: r, k, i + 1 => by
    have h := jfl_at q V j r (k + 1) i
    simp only [jfl, List.getElem?_cons_succ, h]
    rw [show k + 1 + i = k + (i + 1) by omega]
theorem jfl_len (q : Nat → Nat) (V : jMem) (j : Nat) : ∀ (fs : List Nat) (k : Nat), (jfl q V j k fs).length = fs.length
  | [], k => rfl
  | f :: r, k => by simp [jfl, jfl_len q V j r (k + 1)]
theorem jwF_at (Z : jZ) (q : Nat → Nat) (V : jMem) : ∀ (ds : List jD) (j i : Nat), (jwF Z q V j ds)[i]? = (ds[i]?).map (fun c => (q (j + i), jcell Z q V (j + i) c))
  | [], j, i => by simp [jwF]
  | c :: r, j, 0 => by simp [jwF]
  | c :: r, j, i + 1 => by
    have h := jwF_at Z q V r (j + 1) i
    simp only [jwF, List.getElem?_cons_succ, h]
    rw [show j + 1 + i = j + (i + 1) by omega]
theorem jw_at {Z : jZ} {q : Nat → Nat} {V : jMem} {ds : List jD} {i : Nat} {c : jD} (h : ds[i]? = some c) : (jw Z q V ds)[i]? = some (q i, jcell Z q V i c) := by
  unfold jw
  rw [jwF_at, h]
  simp
/-- one int, one long, a whole row is written -/
def jsI (V : jMem) (j k : Nat) (x : Int32) : jMem := (fun a => if a = j then upd (V.1 j) k x else V.1 a, V.2)
def jsL (V : jMem) (j k : Nat) (x : Int64) : jMem := (V.1, fun a => if a = j then vp_updL (V.2 j) k x else V.2 a)
def jsA (V : jMem) (j : Nat) (f : Nat → Int32) : jMem := (fun a => if a = j then f else V.1 a, V.2)
def jsB (V : jMem) (j : Nat) (f : Nat → Int64) : jMem := (V.1, fun a => if a = j then f else V.2 a)
theorem jcell_off {Z : jZ} {q : Nat → Nat} {V V' : jMem} {j : Nat} (h1 : V'.1 j = V.1 j) (h2 : V'.2 j = V.2 j) (c : jD) : jcell Z q V' j c = jcell Z q V j c := by
  have hv : ∀ k f, jval q V' j k f = jval q V j k f := by
    intro k f
    match f with
    | 0 => simp [jval, h1]
    | 1 => simp [jval, h2]
    | 2 => rfl
    | r + 3 => rfl
  have hf : ∀ (fs : List Nat) (k : Nat), jfl q V' j k fs = jfl q V j k fs := by
    intro fs
    induction fs with
    | nil => intro k; rfl
    | cons f r ih => intro k; simp [jfl, hv, ih]
  match c with
  | .inl o => simp [jcell, hf]
  | .inr (0, n) => simp [jcell, jrow, h1]
  | .inr (1, n) => simp [jcell, jrow, h2]
  | .inr (b + 2, n) => rfl
theorem jw_set {Z : jZ} {q : Nat → Nat} {V V' : jMem} {ds : List jD} {j : Nat} {c : jD} {e : va_E} (h : ds[j]? = some c) (h1 : ∀ a, a ≠ j → V'.1 a = V.1 a) (h2 : ∀ a, a ≠ j → V'.2 a = V.2 a) (he : e = jcell Z q V' j c) : (jw Z q V ds).set j (q j, e) = jw Z q V' ds := by
  subst he
  apply List.ext_getElem?
  intro i
  have hlen : (jw Z q V ds).length = ds.length := by
    have key : ∀ (ds : List jD) (j : Nat), (jwF Z q V j ds).length = ds.length := by
      intro ds
      induction ds with
      | nil => intro j; rfl
      | cons c r ih => intro j; simp [jwF, ih]
    exact key ds 0
  have hj : j < ds.length := (List.getElem?_eq_some_iff.mp h).1
  rw [List.getElem?_set]
  by_cases hij : j = i
  · subst hij
    rw [if_pos rfl, if_pos (by rw [hlen]; exact hj), jw_at h]
  · rw [if_neg hij]
    cases hi : ds[i]? with
    | none =>
      unfold jw
      rw [jwF_at, jwF_at, hi]
      rfl
    | some c' => rw [jw_at hi, jw_at hi, jcell_off (h1 i (fun z => hij z.symm)) (h2 i (fun z => hij z.symm))]
theorem jfl_set {q : Nat → Nat} {V V' : jMem} {j k : Nat} {fs : List Nat} {v : Value} {f : Nat} (hf : fs[k]? = some f) (hv : v = jval q V' j k f) (h : ∀ i g, i ≠ k → jval q V' j i g = jval q V j i g) : (jfl q V j 0 fs).set k v = jfl q V' j 0 fs := by
  apply List.ext_getElem?
  intro i
  have hk : k < fs.length := (List.getElem?_eq_some_iff.mp hf).1
  rw [List.getElem?_set]
  by_cases hik : k = i
  · subst hik
    rw [if_pos rfl, if_pos (by rw [jfl_len]; exact hk), jfl_at, hf, hv]
    simp
  · rw [if_neg hik, jfl_at, jfl_at]
    cases hi : fs[i]? with
    | none => rfl
    | some g => simp [h i g (fun z => hik z.symm)]
section JW
variable {l : Launch} {Z : jZ} {own nm : String} {cc : ByteArray} {nL : Nat} {rt : Option FieldType} {d MC MS : Nat} {Q : Option Value → va_W → Prop} {pc n : Nat} {L : List (Nat × Value)} {S : List Value} {q : Nat → Nat} {V : jMem} {ds : List jD} {kc ks : Nat}
theorem m_geti {idx ci k j : Nat} {ty : FieldType} {fin : Bool} {fs : List Nat} (hF : jF own idx ci k ty fin) (hdg : decode cc pc = .ok (.getfield idx, 3)) (hn : pc + 3 = n) (hd : ds[j]? = some (.inl (ci, fs))) (hf : fs[k]? = some 0) (kk : J l Z own nm cc nL rt d MC MS Q n L (.int (V.1 j k) :: S) (jw Z q V ds) kc ks) : J l Z own nm cc nL rt d MC MS Q pc L (.ref (q j) :: S) (jw Z q V ds) kc ks :=
  j_get hF hdg hn (jw_at hd) (v := .int (V.1 j k)) (by rw [jfl_at, hf]; simp [jval]) kk
theorem m_getl {idx ci k j : Nat} {ty : FieldType} {fin : Bool} {fs : List Nat} (hF : jF own idx ci k ty fin) (hdg : decode cc pc = .ok (.getfield idx, 3)) (hn : pc + 3 = n) (hd : ds[j]? = some (.inl (ci, fs))) (hf : fs[k]? = some 1) (kk : J l Z own nm cc nL rt d MC MS Q n L (.long (V.2 j k) :: S) (jw Z q V ds) kc ks) : J l Z own nm cc nL rt d MC MS Q pc L (.ref (q j) :: S) (jw Z q V ds) kc ks :=
  j_get hF hdg hn (jw_at hd) (v := .long (V.2 j k)) (by rw [jfl_at, hf]; simp [jval]) kk
theorem m_getr {idx ci k j r : Nat} {ty : FieldType} {fin : Bool} {fs : List Nat} (hF : jF own idx ci k ty fin) (hdg : decode cc pc = .ok (.getfield idx, 3)) (hn : pc + 3 = n) (hd : ds[j]? = some (.inl (ci, fs))) (hf : fs[k]? = some (r + 3)) (kk : J l Z own nm cc nL rt d MC MS Q n L (.ref (q r) :: S) (jw Z q V ds) kc ks) : J l Z own nm cc nL rt d MC MS Q pc L (.ref (q j) :: S) (jw Z q V ds) kc ks :=
  j_get hF hdg hn (jw_at hd) (v := .ref (q r)) (by rw [jfl_at, hf]; simp [jval]) kk
theorem jsI_cell {j k ci : Nat} {x : Int32} {fs : List Nat} (hf : fs[k]? = some 0) : (.inr (ci, (jfl q V j 0 fs).set k (.int x)) : va_E) = jcell Z q (jsI V j k x) j (.inl (ci, fs)) := by
  show (.inr (ci, (jfl q V j 0 fs).set k (.int x)) : va_E) = .inr (ci, jfl q (jsI V j k x) j 0 fs)
  rw [jfl_set hf (V' := jsI V j k x) (by simp [jval, jsI, upd]) (fun i g hi => by
    match g with
    | 0 => simp [jval, jsI, upd, hi]
    | 1 => rfl
    | 2 => rfl
    | r + 3 => rfl)]
theorem jsL_cell {j k ci : Nat} {x : Int64} {fs : List Nat} (hf : fs[k]? = some 1) : (.inr (ci, (jfl q V j 0 fs).set k (.long x)) : va_E) = jcell Z q (jsL V j k x) j (.inl (ci, fs)) := by
  show (.inr (ci, (jfl q V j 0 fs).set k (.long x)) : va_E) = .inr (ci, jfl q (jsL V j k x) j 0 fs)
  rw [jfl_set hf (V' := jsL V j k x) (by simp [jval, jsL, vp_updL]) (fun i g hi => by
    match g with
    | 0 => rfl
    | 1 => simp [jval, jsL, vp_updL, hi]
    | 2 => rfl
    | r + 3 => rfl)]
theorem m_puti {idx ci k j : Nat} {fs : List Nat} {x : Int32} (hF : jF own idx ci k .int false) (hdg : decode cc pc = .ok (.putfield idx, 3)) (hn : pc + 3 = n) (hd : ds[j]? = some (.inl (ci, fs))) (hf : fs[k]? = some 0) (kk : J l Z own nm cc nL rt d MC MS Q n L S (jw Z q (jsI V j k x) ds) kc ks) : J l Z own nm cc nL rt d MC MS Q pc L (.int x :: .ref (q j) :: S) (jw Z q V ds) kc ks := by
  refine j_put hF hdg hn (jw_at hd) (by rw [jfl_len]; exact (List.getElem?_eq_some_iff.mp hf).1) rfl rfl ?_
  rw [jw_set (Z := Z) (q := q) (V := V) (V' := jsI V j k x) hd (fun a ha => by simp [jsI, ha]) (fun a ha => rfl) (jsI_cell hf)]
  exact kk
theorem m_putz {idx ci k j : Nat} {fs : List Nat} {x : Int32} (hF : jF own idx ci k .boolean false) (hdg : decode cc pc = .ok (.putfield idx, 3)) (hn : pc + 3 = n) (hd : ds[j]? = some (.inl (ci, fs))) (hf : fs[k]? = some 0) (hx : x = 0 ∨ x = 1) (kk : J l Z own nm cc nL rt d MC MS Q n L S (jw Z q (jsI V j k x) ds) kc ks) : J l Z own nm cc nL rt d MC MS Q pc L (.int x :: .ref (q j) :: S) (jw Z q V ds) kc ks := by
  refine j_put hF hdg hn (jw_at hd) (by rw [jfl_len]; exact (List.getElem?_eq_some_iff.mp hf).1) (by rcases hx with rfl | rfl <;> rfl) (by rcases hx with rfl | rfl <;> rfl) ?_
  rw [jw_set (Z := Z) (q := q) (V := V) (V' := jsI V j k x) hd (fun a ha => by simp [jsI, ha]) (fun a ha => rfl) (jsI_cell hf)]
  exact kk
theorem m_putl {idx ci k j : Nat} {fs : List Nat} {x : Int64} (hF : jF own idx ci k .long false) (hdg : decode cc pc = .ok (.putfield idx, 3)) (hn : pc + 3 = n) (hd : ds[j]? = some (.inl (ci, fs))) (hf : fs[k]? = some 1) (kk : J l Z own nm cc nL rt d MC MS Q n L S (jw Z q (jsL V j k x) ds) kc ks) : J l Z own nm cc nL rt d MC MS Q pc L (.long x :: .ref (q j) :: S) (jw Z q V ds) kc ks := by
  refine j_put hF hdg hn (jw_at hd) (by rw [jfl_len]; exact (List.getElem?_eq_some_iff.mp hf).1) rfl rfl ?_
  rw [jw_set (Z := Z) (q := q) (V := V) (V' := jsL V j k x) hd (fun a ha => rfl) (fun a ha => by simp [jsL, ha]) (jsL_cell hf)]
  exact kk
theorem m_iald {j N : Nat} {i : Int32} (hdg : decode cc pc = .ok (.iaload, 1)) (hn : pc + 1 = n) (hd : ds[j]? = some (.inr (0, N))) (hin : vp_in i N) (k : J l Z own nm cc nL rt d MC MS Q n L (.int (V.1 j i.toNatClampNeg) :: S) (jw Z q V ds) kc ks) : J l Z own nm cc nL rt d MC MS Q pc L (.int i :: .ref (q j) :: S) (jw Z q V ds) kc ks := j_iald hdg hn (jw_at hd) hin k
theorem m_lald {j N : Nat} {i : Int32} (hdg : decode cc pc = .ok (.laload, 1)) (hn : pc + 1 = n) (hd : ds[j]? = some (.inr (1, N))) (hin : vp_in i N) (k : J l Z own nm cc nL rt d MC MS Q n L (.long (V.2 j i.toNatClampNeg) :: S) (jw Z q V ds) kc ks) : J l Z own nm cc nL rt d MC MS Q pc L (.int i :: .ref (q j) :: S) (jw Z q V ds) kc ks := j_lald hdg hn (jw_at hd) hin k
theorem m_aald {j b N : Nat} {i : Int32} (hdg : decode cc pc = .ok (.aaload, 1)) (hn : pc + 1 = n) (hd : ds[j]? = some (.inr (b + 2, N))) (hin : vp_in i N) (k : J l Z own nm cc nL rt d MC MS Q n L (.ref (q (b + 2 * i.toNatClampNeg)) :: S) (jw Z q V ds) kc ks) : J l Z own nm cc nL rt d MC MS Q pc L (.int i :: .ref (q j) :: S) (jw Z q V ds) kc ks := j_aald (f := fun i => some (q (b + 2 * i))) hdg hn (jw_at hd) hin k
theorem m_iast {j N : Nat} {i x : Int32} (hdg : decode cc pc = .ok (.iastore, 1)) (hn : pc + 1 = n) (hd : ds[j]? = some (.inr (0, N))) (hin : vp_in i N) (k : J l Z own nm cc nL rt d MC MS Q n L S (jw Z q (jsI V j i.toNatClampNeg x) ds) kc ks) : J l Z own nm cc nL rt d MC MS Q pc L (.int x :: .int i :: .ref (q j) :: S) (jw Z q V ds) kc ks := by
  refine j_iast hdg hn (jw_at hd) hin ?_
  rw [jw_set (Z := Z) (q := q) (V := V) (V' := jsI V j i.toNatClampNeg x) hd (fun a ha => by simp [jsI, ha]) (fun a ha => rfl) (by simp [jcell, jrow, jsI])]
  exact k
theorem m_last {j N : Nat} {i : Int32} {x : Int64} (hdg : decode cc pc = .ok (.lastore, 1)) (hn : pc + 1 = n) (hd : ds[j]? = some (.inr (1, N))) (hin : vp_in i N) (k : J l Z own nm cc nL rt d MC MS Q n L S (jw Z q (jsL V j i.toNatClampNeg x) ds) kc ks) : J l Z own nm cc nL rt d MC MS Q pc L (.long x :: .int i :: .ref (q j) :: S) (jw Z q V ds) kc ks := by
  refine j_last hdg hn (jw_at hd) hin ?_
  rw [jw_set (Z := Z) (q := q) (V := V) (V' := jsL V j i.toNatClampNeg x) hd (fun a ha => rfl) (fun a ha => by simp [jsL, ha]) (by simp [jcell, jrow, jsL])]
  exact k
theorem m_alen {j N : Nat} (hdg : decode cc pc = .ok (.arraylength, 1)) (hn : pc + 1 = n) (hd : ds[j]? = some (.inr (1, N))) (k : J l Z own nm cc nL rt d MC MS Q n L (.int (nI N) :: S) (jw Z q V ds) kc ks) : J l Z own nm cc nL rt d MC MS Q pc L (.ref (q j) :: S) (jw Z q V ds) kc ks := by
  subst hn
  intro p e R s m args below meth c A QQ H locs ls hC hB hP hD hS hl
  exact va_alen hC.1 hC.2.1 hC.2.2.2.2.2.2.2.1.1 hP j 1 (jw_at hd) rfl rfl hdg (k p e R s m args below meth c A QQ H locs ls hC hB hP hD hS hl)
theorem m_copyi {idx j0 j1 n0 n1 : Nat} {sp dp z : Int32} (hw : Cond.methodLink own idx arraycopyName ∈ jT) (hw1 : Cond.native arraycopyName ∈ jT) (hw2 : Cond.static arraycopyName ∈ jT) (hw3 : Cond.initialized "java/lang/System" ∈ jT) (hdg : decode cc pc = .ok (.invokestatic idx, 3)) (hn : pc + 3 = n) (hd0 : ds[j0]? = some (.inr (0, n0))) (hd1 : ds[j1]? = some (.inr (0, n1)))
    (h1 : ¬ sp < 0) (h2 : ¬ dp < 0) (h3 : ¬ z < 0) (h4 : sp.toNatClampNeg + z.toNatClampNeg ≤ n0) (h5 : dp.toNatClampNeg + z.toNatClampNeg ≤ n1) (hdd : 1 ≤ d) (hcat : (S.map fun v => v.category).sum ≤ 8)
    (k : J l Z own nm cc nL rt d MC MS Q n L S (jw Z q (jsA V j1 (va_cpy (V.1 j0) (V.1 j1) sp.toNatClampNeg dp.toNatClampNeg z.toNatClampNeg)) ds) kc ks) : J l Z own nm cc nL rt d MC MS Q pc L (.int z :: .int dp :: .ref (q j1) :: .int sp :: .ref (q j0) :: S) (jw Z q V ds) kc ks := by
  refine j_copyi hw hw1 hw2 hw3 hdg hn (jw_at hd0) (jw_at hd1) h1 h2 h3 h4 h5 hdd hcat ?_
  rw [jw_set (Z := Z) (q := q) (V := V) (V' := jsA V j1 (va_cpy (V.1 j0) (V.1 j1) sp.toNatClampNeg dp.toNatClampNeg z.toNatClampNeg)) hd1 (fun a ha => by simp [jsA, ha]) (fun a ha => rfl) (by simp [jcell, jrow, jsA])]
  exact k
theorem m_copyl {idx j0 j1 n0 n1 : Nat} {sp dp z : Int32} (hw : Cond.methodLink own idx arraycopyName ∈ jT) (hw1 : Cond.native arraycopyName ∈ jT) (hw2 : Cond.static arraycopyName ∈ jT) (hw3 : Cond.initialized "java/lang/System" ∈ jT) (hdg : decode cc pc = .ok (.invokestatic idx, 3)) (hn : pc + 3 = n) (hd0 : ds[j0]? = some (.inr (1, n0))) (hd1 : ds[j1]? = some (.inr (1, n1)))
    (h1 : ¬ sp < 0) (h2 : ¬ dp < 0) (h3 : ¬ z < 0) (h4 : sp.toNatClampNeg + z.toNatClampNeg ≤ n0) (h5 : dp.toNatClampNeg + z.toNatClampNeg ≤ n1) (hdd : 1 ≤ d) (hcat : (S.map fun v => v.category).sum ≤ 8)
    (k : J l Z own nm cc nL rt d MC MS Q n L S (jw Z q (jsB V j1 (va_cpy (V.2 j0) (V.2 j1) sp.toNatClampNeg dp.toNatClampNeg z.toNatClampNeg)) ds) kc ks) : J l Z own nm cc nL rt d MC MS Q pc L (.int z :: .int dp :: .ref (q j1) :: .int sp :: .ref (q j0) :: S) (jw Z q V ds) kc ks := by
  refine j_copyl hw hw1 hw2 hw3 hdg hn (jw_at hd0) (jw_at hd1) h1 h2 h3 h4 h5 hdd hcat ?_
  rw [jw_set (Z := Z) (q := q) (V := V) (V' := jsB V j1 (va_cpy (V.2 j0) (V.2 j1) sp.toNatClampNeg dp.toNatClampNeg z.toNatClampNeg)) hd1 (fun a ha => rfl) (fun a ha => by simp [jsB, ha]) (by simp [jcell, jrow, jsB])]
  exact k
/-- a contract without chance: from the memory V the method answers r and leaves V' -/
abbrev CtD (l : Launch) (Z : jZ) (y : MethodName) (cc : ByteArray) (nL : Nat) (rt : Option FieldType) (d : Nat) (q : Nat → Nat) (ds : List jD) (av : List Value) (V : jMem) (r : Option Value) (V' : jMem) : Prop := Ct l Z y cc nL rt d 0 0 av (jw Z q V ds) (fun r' w => r' = r ∧ w = jw Z q V' ds)
theorem m_callS {idx : Nat} {y : MethodName} {cc' : ByteArray} {nL' : Nat} {rt' : Option FieldType} {na d' : Nat} {As rest : List Value} {r : Option Value} {V' : jMem} {S' : List Value} (hM : jM own idx y cc' nL' rt' na ∧ Cond.static y ∈ jT) (hdg : decode cc pc = .ok (.invokestatic idx, 3)) (hn : pc + 3 = n) (hCt : CtD l Z y cc' nL' rt' d' q ds As V r V')
    (hna : As.length = na) (hS0 : S = As.reverse ++ rest) (hS1 : S' = r.toList ++ rest) (hcat : (rest.map fun v => v.category).sum ≤ 8) (hd : d' + 1 ≤ d) (hcc : kc ≤ MC ∧ ks ≤ MS) (kk : J l Z own nm cc nL rt d MC MS Q n L S' (jw Z q V' ds) kc ks) : J l Z own nm cc nL rt d MC MS Q pc L S (jw Z q V ds) kc ks :=
  j_callS hM.1 hM.2 hdg hn hCt hna hS0 hcat hd hcc (fun r ws' h => by obtain ⟨rfl, rfl⟩ := h; subst hS1; exact kk)
theorem m_callV {idx j ci : Nat} {y : MethodName} {cc' : ByteArray} {nL' : Nat} {rt' : Option FieldType} {na d' : Nat} {As rest : List Value} {r : Option Value} {V' : jMem} {S' : List Value} {fs : List Nat} {rc : vw_C} (hM : jM own idx y cc' nL' rt' na ∧ Cond.instanceMethod y ∈ jT ∧ Cond.selects y.cls y y ∈ jT) (hdg : decode cc pc = .ok (.invokevirtual idx, 3)) (hn : pc + 3 = n) (hCt : CtD l Z y cc' nL' rt' d' q ds (.ref (q j) :: As) V r V') (hd0 : ds[j]? = some (.inl (ci, fs))) (hc0 : vwCl[ci]? = some rc) (hC0 : rc.1 = y.cls)
    (hna : As.length = na) (hS0 : S = As.reverse ++ .ref (q j) :: rest) (hS1 : S' = r.toList ++ rest) (hcat : (rest.map fun v => v.category).sum ≤ 8) (hd : d' + 1 ≤ d) (hcc : kc ≤ MC ∧ ks ≤ MS) (kk : J l Z own nm cc nL rt d MC MS Q n L S' (jw Z q V' ds) kc ks) : J l Z own nm cc nL rt d MC MS Q pc L S (jw Z q V ds) kc ks :=
  j_callV hM.1 hM.2.1 hM.2.2 hdg hn hCt (jRecv_obj (jw_at hd0) hc0 hC0) hna hS0 hcat hd hcc (fun r ws' h => by obtain ⟨rfl, rfl⟩ := h; subst hS1; exact kk)
end JW
end

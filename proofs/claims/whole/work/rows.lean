section
-- ===== PART A: goes FIRST, ahead of the names: the tables' words, and 'selects' of the private methods out of them =====
/-- a private method of a class that the tables say can be made, by its rows of tables_1 -/
def lw_okq (q : MethodName × Nat) : Prop := (q.1.cls ≠ "java/lang/invoke/MethodHandle" ∧ q.1.cls ≠ "java/lang/invoke/VarHandle") ∧ Cond.instantiable q.1.cls q.2 ∈ tables_1 ∧ Cond.privateMethod q.1 ∈ tables_1 ∧ Cond.instanceMethod q.1 ∈ tables_1
theorem lw_p0 : lw_okq (⟨"SpooledPost", "takeTextLine", "()I"⟩, 5) := ⟨⟨by decide +kernel, by decide +kernel⟩, List.mem_of_getElem? (i := 18) (by decide +kernel), List.mem_of_getElem? (i := 234) (by decide +kernel), List.mem_of_getElem? (i := 235) (by decide +kernel)⟩
theorem lw_p1 : lw_okq (⟨"SpooledPost", "endText", "()I"⟩, 5) := ⟨⟨by decide +kernel, by decide +kernel⟩, List.mem_of_getElem? (i := 18) (by decide +kernel), List.mem_of_getElem? (i := 242) (by decide +kernel), List.mem_of_getElem? (i := 243) (by decide +kernel)⟩
theorem lw_p2 : lw_okq (⟨"SpooledPost", "spoolSession", "()I"⟩, 5) := ⟨⟨by decide +kernel, by decide +kernel⟩, List.mem_of_getElem? (i := 18) (by decide +kernel), List.mem_of_getElem? (i := 250) (by decide +kernel), List.mem_of_getElem? (i := 251) (by decide +kernel)⟩
theorem lw_p3 : lw_okq (⟨"SpooledPost", "obey", "()I"⟩, 5) := ⟨⟨by decide +kernel, by decide +kernel⟩, List.mem_of_getElem? (i := 18) (by decide +kernel), List.mem_of_getElem? (i := 305) (by decide +kernel), List.mem_of_getElem? (i := 306) (by decide +kernel)⟩
theorem lw_p4 : lw_okq (⟨"SpooledPost", "commandOfLine", "()LSpooledPost$Command;"⟩, 5) := ⟨⟨by decide +kernel, by decide +kernel⟩, List.mem_of_getElem? (i := 18) (by decide +kernel), List.mem_of_getElem? (i := 309) (by decide +kernel), List.mem_of_getElem? (i := 310) (by decide +kernel)⟩
theorem lw_p5 : lw_okq (⟨"SpooledPost", "isWrittenRight", "(LSpooledPost$Command;)Z"⟩, 5) := ⟨⟨by decide +kernel, by decide +kernel⟩, List.mem_of_getElem? (i := 18) (by decide +kernel), List.mem_of_getElem? (i := 370) (by decide +kernel), List.mem_of_getElem? (i := 371) (by decide +kernel)⟩
theorem lw_p6 : lw_okq (⟨"SpooledPost", "isBracketed", "(Ljava/lang/String;)Z"⟩, 5) := ⟨⟨by decide +kernel, by decide +kernel⟩, List.mem_of_getElem? (i := 18) (by decide +kernel), List.mem_of_getElem? (i := 390) (by decide +kernel), List.mem_of_getElem? (i := 391) (by decide +kernel)⟩
theorem lw_p7 : lw_okq (⟨"SpooledPost", "isBracketEmpty", "(Ljava/lang/String;)Z"⟩, 5) := ⟨⟨by decide +kernel, by decide +kernel⟩, List.mem_of_getElem? (i := 18) (by decide +kernel), List.mem_of_getElem? (i := 394) (by decide +kernel), List.mem_of_getElem? (i := 395) (by decide +kernel)⟩
theorem lw_p8 : lw_okq (⟨"SpooledPost", "isPathIn", "(Ljava/lang/String;)Z"⟩, 5) := ⟨⟨by decide +kernel, by decide +kernel⟩, List.mem_of_getElem? (i := 18) (by decide +kernel), List.mem_of_getElem? (i := 402) (by decide +kernel), List.mem_of_getElem? (i := 403) (by decide +kernel)⟩
theorem lw_p9 : lw_okq (⟨"SpooledPost", "greet", "()I"⟩, 5) := ⟨⟨by decide +kernel, by decide +kernel⟩, List.mem_of_getElem? (i := 18) (by decide +kernel), List.mem_of_getElem? (i := 414) (by decide +kernel), List.mem_of_getElem? (i := 415) (by decide +kernel)⟩
theorem lw_p10 : lw_okq (⟨"SpooledPost", "beginTransaction", "()I"⟩, 5) := ⟨⟨by decide +kernel, by decide +kernel⟩, List.mem_of_getElem? (i := 18) (by decide +kernel), List.mem_of_getElem? (i := 418) (by decide +kernel), List.mem_of_getElem? (i := 419) (by decide +kernel)⟩
theorem lw_p11 : lw_okq (⟨"SpooledPost", "addRecipient", "()I"⟩, 5) := ⟨⟨by decide +kernel, by decide +kernel⟩, List.mem_of_getElem? (i := 18) (by decide +kernel), List.mem_of_getElem? (i := 424) (by decide +kernel), List.mem_of_getElem? (i := 425) (by decide +kernel)⟩
theorem lw_p12 : lw_okq (⟨"SpooledPost", "beginText", "()I"⟩, 5) := ⟨⟨by decide +kernel, by decide +kernel⟩, List.mem_of_getElem? (i := 18) (by decide +kernel), List.mem_of_getElem? (i := 428) (by decide +kernel), List.mem_of_getElem? (i := 429) (by decide +kernel)⟩
theorem lw_p13 : lw_okq (⟨"SpooledPost", "settle", "(LSpooledPost$Letter;LSpooledPost$Recipient;I)I"⟩, 5) := ⟨⟨by decide +kernel, by decide +kernel⟩, List.mem_of_getElem? (i := 18) (by decide +kernel), List.mem_of_getElem? (i := 482) (by decide +kernel), List.mem_of_getElem? (i := 483) (by decide +kernel)⟩
theorem lw_p14 : lw_okq (⟨"SpooledPost", "postpone", "(LSpooledPost$Recipient;)I"⟩, 5) := ⟨⟨by decide +kernel, by decide +kernel⟩, List.mem_of_getElem? (i := 18) (by decide +kernel), List.mem_of_getElem? (i := 492) (by decide +kernel), List.mem_of_getElem? (i := 493) (by decide +kernel)⟩
theorem lw_p15 : lw_okq (⟨"SpooledPost", "giveBack", "(LSpooledPost$Letter;LSpooledPost$Recipient;)I"⟩, 5) := ⟨⟨by decide +kernel, by decide +kernel⟩, List.mem_of_getElem? (i := 18) (by decide +kernel), List.mem_of_getElem? (i := 496) (by decide +kernel), List.mem_of_getElem? (i := 497) (by decide +kernel)⟩
def lw_privs_1 : List (MethodName × Nat) := [(⟨"SpooledPost", "takeTextLine", "()I"⟩, 5), (⟨"SpooledPost", "endText", "()I"⟩, 5), (⟨"SpooledPost", "spoolSession", "()I"⟩, 5), (⟨"SpooledPost", "obey", "()I"⟩, 5), (⟨"SpooledPost", "commandOfLine", "()LSpooledPost$Command;"⟩, 5), (⟨"SpooledPost", "isWrittenRight", "(LSpooledPost$Command;)Z"⟩, 5), (⟨"SpooledPost", "isBracketed", "(Ljava/lang/String;)Z"⟩, 5), (⟨"SpooledPost", "isBracketEmpty", "(Ljava/lang/String;)Z"⟩, 5), (⟨"SpooledPost", "isPathIn", "(Ljava/lang/String;)Z"⟩, 5), (⟨"SpooledPost", "greet", "()I"⟩, 5), (⟨"SpooledPost", "beginTransaction", "()I"⟩, 5), (⟨"SpooledPost", "addRecipient", "()I"⟩, 5), (⟨"SpooledPost", "beginText", "()I"⟩, 5), (⟨"SpooledPost", "settle", "(LSpooledPost$Letter;LSpooledPost$Recipient;I)I"⟩, 5), (⟨"SpooledPost", "postpone", "(LSpooledPost$Recipient;)I"⟩, 5), (⟨"SpooledPost", "giveBack", "(LSpooledPost$Letter;LSpooledPost$Recipient;)I"⟩, 5)]
theorem lw_r1 : ∀ q ∈ lw_privs_1, lw_okq q := List.forall_mem_cons.mpr ⟨lw_p0, List.forall_mem_cons.mpr ⟨lw_p1, List.forall_mem_cons.mpr ⟨lw_p2, List.forall_mem_cons.mpr ⟨lw_p3, List.forall_mem_cons.mpr ⟨lw_p4, List.forall_mem_cons.mpr ⟨lw_p5, List.forall_mem_cons.mpr ⟨lw_p6, List.forall_mem_cons.mpr ⟨lw_p7, List.forall_mem_cons.mpr ⟨lw_p8, List.forall_mem_cons.mpr ⟨lw_p9, List.forall_mem_cons.mpr ⟨lw_p10, List.forall_mem_cons.mpr ⟨lw_p11, List.forall_mem_cons.mpr ⟨lw_p12, List.forall_mem_cons.mpr ⟨lw_p13, List.forall_mem_cons.mpr ⟨lw_p14, List.forall_mem_cons.mpr ⟨lw_p15, fun _ h => absurd h List.not_mem_nil⟩⟩⟩⟩⟩⟩⟩⟩⟩⟩⟩⟩⟩⟩⟩⟩
theorem lw_p16 : lw_okq (⟨"SpooledPost", "spoolReturn", "(LSpooledPost$Letter;LSpooledPost$Recipient;)Z"⟩, 5) := ⟨⟨by decide +kernel, by decide +kernel⟩, List.mem_of_getElem? (i := 18) (by decide +kernel), List.mem_of_getElem? (i := 500) (by decide +kernel), List.mem_of_getElem? (i := 501) (by decide +kernel)⟩
theorem lw_p17 : lw_okq (⟨"SpooledPost", "findRecipient", "(II)LSpooledPost$Recipient;"⟩, 5) := ⟨⟨by decide +kernel, by decide +kernel⟩, List.mem_of_getElem? (i := 18) (by decide +kernel), List.mem_of_getElem? (i := 545) (by decide +kernel), List.mem_of_getElem? (i := 546) (by decide +kernel)⟩
theorem lw_p18 : lw_okq (⟨"SpooledPost$PartReader", "splitLines", "()V"⟩, 6) := ⟨⟨by decide +kernel, by decide +kernel⟩, List.mem_of_getElem? (i := 172) (by decide +kernel), List.mem_of_getElem? (i := 561) (by decide +kernel), List.mem_of_getElem? (i := 562) (by decide +kernel)⟩
theorem lw_p19 : lw_okq (⟨"SpooledPost$PartReader", "takePart", "(III)Z"⟩, 6) := ⟨⟨by decide +kernel, by decide +kernel⟩, List.mem_of_getElem? (i := 172) (by decide +kernel), List.mem_of_getElem? (i := 566) (by decide +kernel), List.mem_of_getElem? (i := 567) (by decide +kernel)⟩
theorem lw_p20 : lw_okq (⟨"SpooledPost$PartReader", "findHeadEnd", "(II)I"⟩, 6) := ⟨⟨by decide +kernel, by decide +kernel⟩, List.mem_of_getElem? (i := 172) (by decide +kernel), List.mem_of_getElem? (i := 570) (by decide +kernel), List.mem_of_getElem? (i := 571) (by decide +kernel)⟩
theorem lw_p21 : lw_okq (⟨"SpooledPost$PartReader", "lineEnd", "(I)I"⟩, 6) := ⟨⟨by decide +kernel, by decide +kernel⟩, List.mem_of_getElem? (i := 172) (by decide +kernel), List.mem_of_getElem? (i := 574) (by decide +kernel), List.mem_of_getElem? (i := 575) (by decide +kernel)⟩
theorem lw_p22 : lw_okq (⟨"SpooledPost$PartReader", "isHeadRight", "(II)Z"⟩, 6) := ⟨⟨by decide +kernel, by decide +kernel⟩, List.mem_of_getElem? (i := 172) (by decide +kernel), List.mem_of_getElem? (i := 578) (by decide +kernel), List.mem_of_getElem? (i := 579) (by decide +kernel)⟩
theorem lw_p23 : lw_okq (⟨"SpooledPost$PartReader", "isField", "(I)Z"⟩, 6) := ⟨⟨by decide +kernel, by decide +kernel⟩, List.mem_of_getElem? (i := 172) (by decide +kernel), List.mem_of_getElem? (i := 582) (by decide +kernel), List.mem_of_getElem? (i := 583) (by decide +kernel)⟩
theorem lw_p24 : lw_okq (⟨"SpooledPost$PartReader", "findBoundary", "(II)I"⟩, 6) := ⟨⟨by decide +kernel, by decide +kernel⟩, List.mem_of_getElem? (i := 172) (by decide +kernel), List.mem_of_getElem? (i := 587) (by decide +kernel), List.mem_of_getElem? (i := 588) (by decide +kernel)⟩
theorem lw_p25 : lw_okq (⟨"SpooledPost$PartReader", "findBoundaryBetween", "(II)I"⟩, 6) := ⟨⟨by decide +kernel, by decide +kernel⟩, List.mem_of_getElem? (i := 172) (by decide +kernel), List.mem_of_getElem? (i := 594) (by decide +kernel), List.mem_of_getElem? (i := 595) (by decide +kernel)⟩
theorem lw_p26 : lw_okq (⟨"SpooledPost$PartReader", "boundaryLength", "(I)I"⟩, 6) := ⟨⟨by decide +kernel, by decide +kernel⟩, List.mem_of_getElem? (i := 172) (by decide +kernel), List.mem_of_getElem? (i := 600) (by decide +kernel), List.mem_of_getElem? (i := 601) (by decide +kernel)⟩
theorem lw_p27 : lw_okq (⟨"SpooledPost$PartReader", "takeBody", "(IIII)Z"⟩, 6) := ⟨⟨by decide +kernel, by decide +kernel⟩, List.mem_of_getElem? (i := 172) (by decide +kernel), List.mem_of_getElem? (i := 604) (by decide +kernel), List.mem_of_getElem? (i := 605) (by decide +kernel)⟩
theorem lw_p28 : lw_okq (⟨"SpooledPost$PartReader", "borderKind", "(III)I"⟩, 6) := ⟨⟨by decide +kernel, by decide +kernel⟩, List.mem_of_getElem? (i := 172) (by decide +kernel), List.mem_of_getElem? (i := 608) (by decide +kernel), List.mem_of_getElem? (i := 609) (by decide +kernel)⟩
theorem lw_p29 : lw_okq (⟨"SpooledPost$PartReader", "isDashed", "(I)Z"⟩, 6) := ⟨⟨by decide +kernel, by decide +kernel⟩, List.mem_of_getElem? (i := 172) (by decide +kernel), List.mem_of_getElem? (i := 612) (by decide +kernel), List.mem_of_getElem? (i := 613) (by decide +kernel)⟩
theorem lw_p30 : lw_okq (⟨"SpooledPost$PartReader", "repeats", "(III)Z"⟩, 6) := ⟨⟨by decide +kernel, by decide +kernel⟩, List.mem_of_getElem? (i := 172) (by decide +kernel), List.mem_of_getElem? (i := 616) (by decide +kernel), List.mem_of_getElem? (i := 617) (by decide +kernel)⟩
theorem lw_p31 : lw_okq (⟨"SpooledPostModel", "textLine", "()I"⟩, 31) := ⟨⟨by decide +kernel, by decide +kernel⟩, List.mem_of_getElem? (i := 628) (by decide +kernel), List.mem_of_getElem? (i := 738) (by decide +kernel), List.mem_of_getElem? (i := 739) (by decide +kernel)⟩
def lw_privs_2 : List (MethodName × Nat) := [(⟨"SpooledPost", "spoolReturn", "(LSpooledPost$Letter;LSpooledPost$Recipient;)Z"⟩, 5), (⟨"SpooledPost", "findRecipient", "(II)LSpooledPost$Recipient;"⟩, 5), (⟨"SpooledPost$PartReader", "splitLines", "()V"⟩, 6), (⟨"SpooledPost$PartReader", "takePart", "(III)Z"⟩, 6), (⟨"SpooledPost$PartReader", "findHeadEnd", "(II)I"⟩, 6), (⟨"SpooledPost$PartReader", "lineEnd", "(I)I"⟩, 6), (⟨"SpooledPost$PartReader", "isHeadRight", "(II)Z"⟩, 6), (⟨"SpooledPost$PartReader", "isField", "(I)Z"⟩, 6), (⟨"SpooledPost$PartReader", "findBoundary", "(II)I"⟩, 6), (⟨"SpooledPost$PartReader", "findBoundaryBetween", "(II)I"⟩, 6), (⟨"SpooledPost$PartReader", "boundaryLength", "(I)I"⟩, 6), (⟨"SpooledPost$PartReader", "takeBody", "(IIII)Z"⟩, 6), (⟨"SpooledPost$PartReader", "borderKind", "(III)I"⟩, 6), (⟨"SpooledPost$PartReader", "isDashed", "(I)Z"⟩, 6), (⟨"SpooledPost$PartReader", "repeats", "(III)Z"⟩, 6), (⟨"SpooledPostModel", "textLine", "()I"⟩, 31)]
theorem lw_r2 : ∀ q ∈ lw_privs_2, lw_okq q := List.forall_mem_cons.mpr ⟨lw_p16, List.forall_mem_cons.mpr ⟨lw_p17, List.forall_mem_cons.mpr ⟨lw_p18, List.forall_mem_cons.mpr ⟨lw_p19, List.forall_mem_cons.mpr ⟨lw_p20, List.forall_mem_cons.mpr ⟨lw_p21, List.forall_mem_cons.mpr ⟨lw_p22, List.forall_mem_cons.mpr ⟨lw_p23, List.forall_mem_cons.mpr ⟨lw_p24, List.forall_mem_cons.mpr ⟨lw_p25, List.forall_mem_cons.mpr ⟨lw_p26, List.forall_mem_cons.mpr ⟨lw_p27, List.forall_mem_cons.mpr ⟨lw_p28, List.forall_mem_cons.mpr ⟨lw_p29, List.forall_mem_cons.mpr ⟨lw_p30, List.forall_mem_cons.mpr ⟨lw_p31, fun _ h => absurd h List.not_mem_nil⟩⟩⟩⟩⟩⟩⟩⟩⟩⟩⟩⟩⟩⟩⟩⟩
theorem lw_p32 : lw_okq (⟨"SpooledPostModel", "put", "(II)V"⟩, 31) := ⟨⟨by decide +kernel, by decide +kernel⟩, List.mem_of_getElem? (i := 628) (by decide +kernel), List.mem_of_getElem? (i := 742) (by decide +kernel), List.mem_of_getElem? (i := 743) (by decide +kernel)⟩
theorem lw_p33 : lw_okq (⟨"SpooledPostModel", "spooled", "()I"⟩, 31) := ⟨⟨by decide +kernel, by decide +kernel⟩, List.mem_of_getElem? (i := 628) (by decide +kernel), List.mem_of_getElem? (i := 746) (by decide +kernel), List.mem_of_getElem? (i := 747) (by decide +kernel)⟩
theorem lw_p34 : lw_okq (⟨"SpooledPostModel", "spool", "(I)Z"⟩, 31) := ⟨⟨by decide +kernel, by decide +kernel⟩, List.mem_of_getElem? (i := 628) (by decide +kernel), List.mem_of_getElem? (i := 750) (by decide +kernel), List.mem_of_getElem? (i := 751) (by decide +kernel)⟩
theorem lw_p35 : lw_okq (⟨"SpooledPostModel", "write", "()Z"⟩, 31) := ⟨⟨by decide +kernel, by decide +kernel⟩, List.mem_of_getElem? (i := 628) (by decide +kernel), List.mem_of_getElem? (i := 754) (by decide +kernel), List.mem_of_getElem? (i := 755) (by decide +kernel)⟩
theorem lw_p36 : lw_okq (⟨"SpooledPostModel", "breakDown", "()V"⟩, 31) := ⟨⟨by decide +kernel, by decide +kernel⟩, List.mem_of_getElem? (i := 628) (by decide +kernel), List.mem_of_getElem? (i := 758) (by decide +kernel), List.mem_of_getElem? (i := 759) (by decide +kernel)⟩
theorem lw_p37 : lw_okq (⟨"SpooledPostModel", "copyPath", "(II)V"⟩, 31) := ⟨⟨by decide +kernel, by decide +kernel⟩, List.mem_of_getElem? (i := 628) (by decide +kernel), List.mem_of_getElem? (i := 762) (by decide +kernel), List.mem_of_getElem? (i := 763) (by decide +kernel)⟩
theorem lw_p38 : lw_okq (⟨"SpooledPostModel", "command", "()I"⟩, 31) := ⟨⟨by decide +kernel, by decide +kernel⟩, List.mem_of_getElem? (i := 628) (by decide +kernel), List.mem_of_getElem? (i := 766) (by decide +kernel), List.mem_of_getElem? (i := 767) (by decide +kernel)⟩
theorem lw_p39 : lw_okq (⟨"SpooledPostModel", "wordCode", "()I"⟩, 31) := ⟨⟨by decide +kernel, by decide +kernel⟩, List.mem_of_getElem? (i := 628) (by decide +kernel), List.mem_of_getElem? (i := 770) (by decide +kernel), List.mem_of_getElem? (i := 771) (by decide +kernel)⟩
theorem lw_p40 : lw_okq (⟨"SpooledPostModel", "charAt", "(I)I"⟩, 31) := ⟨⟨by decide +kernel, by decide +kernel⟩, List.mem_of_getElem? (i := 628) (by decide +kernel), List.mem_of_getElem? (i := 774) (by decide +kernel), List.mem_of_getElem? (i := 775) (by decide +kernel)⟩
theorem lw_p41 : lw_okq (⟨"SpooledPostModel", "fits", "(I)Z"⟩, 31) := ⟨⟨by decide +kernel, by decide +kernel⟩, List.mem_of_getElem? (i := 628) (by decide +kernel), List.mem_of_getElem? (i := 789) (by decide +kernel), List.mem_of_getElem? (i := 790) (by decide +kernel)⟩
theorem lw_p42 : lw_okq (⟨"SpooledPostModel", "isDomain", "(II)Z"⟩, 31) := ⟨⟨by decide +kernel, by decide +kernel⟩, List.mem_of_getElem? (i := 628) (by decide +kernel), List.mem_of_getElem? (i := 793) (by decide +kernel), List.mem_of_getElem? (i := 794) (by decide +kernel)⟩
theorem lw_p43 : lw_okq (⟨"SpooledPostModel", "bracketed", "(Z)Z"⟩, 31) := ⟨⟨by decide +kernel, by decide +kernel⟩, List.mem_of_getElem? (i := 628) (by decide +kernel), List.mem_of_getElem? (i := 803) (by decide +kernel), List.mem_of_getElem? (i := 804) (by decide +kernel)⟩
theorem lw_p44 : lw_okq (⟨"SpooledPostModel", "isPath", "(II)Z"⟩, 31) := ⟨⟨by decide +kernel, by decide +kernel⟩, List.mem_of_getElem? (i := 628) (by decide +kernel), List.mem_of_getElem? (i := 807) (by decide +kernel), List.mem_of_getElem? (i := 808) (by decide +kernel)⟩
theorem lw_p45 : lw_okq (⟨"SpooledPostModel", "isLocal", "(II)Z"⟩, 31) := ⟨⟨by decide +kernel, by decide +kernel⟩, List.mem_of_getElem? (i := 628) (by decide +kernel), List.mem_of_getElem? (i := 811) (by decide +kernel), List.mem_of_getElem? (i := 812) (by decide +kernel)⟩
theorem lw_p46 : lw_okq (⟨"SpooledPostModel", "mail", "()I"⟩, 31) := ⟨⟨by decide +kernel, by decide +kernel⟩, List.mem_of_getElem? (i := 628) (by decide +kernel), List.mem_of_getElem? (i := 815) (by decide +kernel), List.mem_of_getElem? (i := 816) (by decide +kernel)⟩
theorem lw_p47 : lw_okq (⟨"SpooledPostModel", "keepPath", "(II)V"⟩, 31) := ⟨⟨by decide +kernel, by decide +kernel⟩, List.mem_of_getElem? (i := 628) (by decide +kernel), List.mem_of_getElem? (i := 819) (by decide +kernel), List.mem_of_getElem? (i := 820) (by decide +kernel)⟩
def lw_privs_3 : List (MethodName × Nat) := [(⟨"SpooledPostModel", "put", "(II)V"⟩, 31), (⟨"SpooledPostModel", "spooled", "()I"⟩, 31), (⟨"SpooledPostModel", "spool", "(I)Z"⟩, 31), (⟨"SpooledPostModel", "write", "()Z"⟩, 31), (⟨"SpooledPostModel", "breakDown", "()V"⟩, 31), (⟨"SpooledPostModel", "copyPath", "(II)V"⟩, 31), (⟨"SpooledPostModel", "command", "()I"⟩, 31), (⟨"SpooledPostModel", "wordCode", "()I"⟩, 31), (⟨"SpooledPostModel", "charAt", "(I)I"⟩, 31), (⟨"SpooledPostModel", "fits", "(I)Z"⟩, 31), (⟨"SpooledPostModel", "isDomain", "(II)Z"⟩, 31), (⟨"SpooledPostModel", "bracketed", "(Z)Z"⟩, 31), (⟨"SpooledPostModel", "isPath", "(II)Z"⟩, 31), (⟨"SpooledPostModel", "isLocal", "(II)Z"⟩, 31), (⟨"SpooledPostModel", "mail", "()I"⟩, 31), (⟨"SpooledPostModel", "keepPath", "(II)V"⟩, 31)]
theorem lw_r3 : ∀ q ∈ lw_privs_3, lw_okq q := List.forall_mem_cons.mpr ⟨lw_p32, List.forall_mem_cons.mpr ⟨lw_p33, List.forall_mem_cons.mpr ⟨lw_p34, List.forall_mem_cons.mpr ⟨lw_p35, List.forall_mem_cons.mpr ⟨lw_p36, List.forall_mem_cons.mpr ⟨lw_p37, List.forall_mem_cons.mpr ⟨lw_p38, List.forall_mem_cons.mpr ⟨lw_p39, List.forall_mem_cons.mpr ⟨lw_p40, List.forall_mem_cons.mpr ⟨lw_p41, List.forall_mem_cons.mpr ⟨lw_p42, List.forall_mem_cons.mpr ⟨lw_p43, List.forall_mem_cons.mpr ⟨lw_p44, List.forall_mem_cons.mpr ⟨lw_p45, List.forall_mem_cons.mpr ⟨lw_p46, List.forall_mem_cons.mpr ⟨lw_p47, fun _ h => absurd h List.not_mem_nil⟩⟩⟩⟩⟩⟩⟩⟩⟩⟩⟩⟩⟩⟩⟩⟩
theorem lw_p48 : lw_okq (⟨"SpooledPostModel", "recipient", "()I"⟩, 31) := ⟨⟨by decide +kernel, by decide +kernel⟩, List.mem_of_getElem? (i := 628) (by decide +kernel), List.mem_of_getElem? (i := 823) (by decide +kernel), List.mem_of_getElem? (i := 824) (by decide +kernel)⟩
theorem lw_p49 : lw_okq (⟨"SpooledPostModel", "isLetterAt", "(I)Z"⟩, 31) := ⟨⟨by decide +kernel, by decide +kernel⟩, List.mem_of_getElem? (i := 628) (by decide +kernel), List.mem_of_getElem? (i := 839) (by decide +kernel), List.mem_of_getElem? (i := 840) (by decide +kernel)⟩
theorem lw_p50 : lw_okq (⟨"SpooledPostModel", "nextOne", "()I"⟩, 31) := ⟨⟨by decide +kernel, by decide +kernel⟩, List.mem_of_getElem? (i := 628) (by decide +kernel), List.mem_of_getElem? (i := 851) (by decide +kernel), List.mem_of_getElem? (i := 852) (by decide +kernel)⟩
theorem lw_p51 : lw_okq (⟨"SpooledPostModel", "tell", "(II)Z"⟩, 31) := ⟨⟨by decide +kernel, by decide +kernel⟩, List.mem_of_getElem? (i := 628) (by decide +kernel), List.mem_of_getElem? (i := 859) (by decide +kernel), List.mem_of_getElem? (i := 860) (by decide +kernel)⟩
theorem lw_p52 : lw_okq (⟨"SpooledPostModel", "tidy", "(I)V"⟩, 31) := ⟨⟨by decide +kernel, by decide +kernel⟩, List.mem_of_getElem? (i := 628) (by decide +kernel), List.mem_of_getElem? (i := 868) (by decide +kernel), List.mem_of_getElem? (i := 869) (by decide +kernel)⟩
theorem lw_p53 : lw_okq (⟨"SpooledPostModel", "placeOf", "(I)I"⟩, 31) := ⟨⟨by decide +kernel, by decide +kernel⟩, List.mem_of_getElem? (i := 628) (by decide +kernel), List.mem_of_getElem? (i := 876) (by decide +kernel), List.mem_of_getElem? (i := 877) (by decide +kernel)⟩
theorem lw_p54 : lw_okq (⟨"SpooledPostModel", "divided", "(I)Z"⟩, 31) := ⟨⟨by decide +kernel, by decide +kernel⟩, List.mem_of_getElem? (i := 628) (by decide +kernel), List.mem_of_getElem? (i := 880) (by decide +kernel), List.mem_of_getElem? (i := 881) (by decide +kernel)⟩
theorem lw_p55 : lw_okq (⟨"SpooledPostModel", "findLines", "(I)V"⟩, 31) := ⟨⟨by decide +kernel, by decide +kernel⟩, List.mem_of_getElem? (i := 628) (by decide +kernel), List.mem_of_getElem? (i := 884) (by decide +kernel), List.mem_of_getElem? (i := 885) (by decide +kernel)⟩
theorem lw_p56 : lw_okq (⟨"SpooledPostModel", "headEnd", "(II)I"⟩, 31) := ⟨⟨by decide +kernel, by decide +kernel⟩, List.mem_of_getElem? (i := 628) (by decide +kernel), List.mem_of_getElem? (i := 888) (by decide +kernel), List.mem_of_getElem? (i := 889) (by decide +kernel)⟩
theorem lw_p57 : lw_okq (⟨"SpooledPostModel", "isEmpty", "(I)Z"⟩, 31) := ⟨⟨by decide +kernel, by decide +kernel⟩, List.mem_of_getElem? (i := 628) (by decide +kernel), List.mem_of_getElem? (i := 892) (by decide +kernel), List.mem_of_getElem? (i := 893) (by decide +kernel)⟩
theorem lw_p58 : lw_okq (⟨"SpooledPostModel", "endOf", "(I)I"⟩, 31) := ⟨⟨by decide +kernel, by decide +kernel⟩, List.mem_of_getElem? (i := 628) (by decide +kernel), List.mem_of_getElem? (i := 896) (by decide +kernel), List.mem_of_getElem? (i := 897) (by decide +kernel)⟩
theorem lw_p59 : lw_okq (⟨"SpooledPostModel", "rightHead", "(II)Z"⟩, 31) := ⟨⟨by decide +kernel, by decide +kernel⟩, List.mem_of_getElem? (i := 628) (by decide +kernel), List.mem_of_getElem? (i := 900) (by decide +kernel), List.mem_of_getElem? (i := 901) (by decide +kernel)⟩
theorem lw_p60 : lw_okq (⟨"SpooledPostModel", "colon", "(I)I"⟩, 31) := ⟨⟨by decide +kernel, by decide +kernel⟩, List.mem_of_getElem? (i := 628) (by decide +kernel), List.mem_of_getElem? (i := 904) (by decide +kernel), List.mem_of_getElem? (i := 905) (by decide +kernel)⟩
theorem lw_p61 : lw_okq (⟨"SpooledPostModel", "isMulti", "(II)Z"⟩, 31) := ⟨⟨by decide +kernel, by decide +kernel⟩, List.mem_of_getElem? (i := 628) (by decide +kernel), List.mem_of_getElem? (i := 908) (by decide +kernel), List.mem_of_getElem? (i := 909) (by decide +kernel)⟩
theorem lw_p62 : lw_okq (⟨"SpooledPostModel", "matches", "(IIJJI)Z"⟩, 31) := ⟨⟨by decide +kernel, by decide +kernel⟩, List.mem_of_getElem? (i := 628) (by decide +kernel), List.mem_of_getElem? (i := 914) (by decide +kernel), List.mem_of_getElem? (i := 915) (by decide +kernel)⟩
theorem lw_p63 : lw_okq (⟨"SpooledPostModel", "boundary", "(II)Z"⟩, 31) := ⟨⟨by decide +kernel, by decide +kernel⟩, List.mem_of_getElem? (i := 628) (by decide +kernel), List.mem_of_getElem? (i := 918) (by decide +kernel), List.mem_of_getElem? (i := 919) (by decide +kernel)⟩
def lw_privs_4 : List (MethodName × Nat) := [(⟨"SpooledPostModel", "recipient", "()I"⟩, 31), (⟨"SpooledPostModel", "isLetterAt", "(I)Z"⟩, 31), (⟨"SpooledPostModel", "nextOne", "()I"⟩, 31), (⟨"SpooledPostModel", "tell", "(II)Z"⟩, 31), (⟨"SpooledPostModel", "tidy", "(I)V"⟩, 31), (⟨"SpooledPostModel", "placeOf", "(I)I"⟩, 31), (⟨"SpooledPostModel", "divided", "(I)Z"⟩, 31), (⟨"SpooledPostModel", "findLines", "(I)V"⟩, 31), (⟨"SpooledPostModel", "headEnd", "(II)I"⟩, 31), (⟨"SpooledPostModel", "isEmpty", "(I)Z"⟩, 31), (⟨"SpooledPostModel", "endOf", "(I)I"⟩, 31), (⟨"SpooledPostModel", "rightHead", "(II)Z"⟩, 31), (⟨"SpooledPostModel", "colon", "(I)I"⟩, 31), (⟨"SpooledPostModel", "isMulti", "(II)Z"⟩, 31), (⟨"SpooledPostModel", "matches", "(IIJJI)Z"⟩, 31), (⟨"SpooledPostModel", "boundary", "(II)Z"⟩, 31)]
theorem lw_r4 : ∀ q ∈ lw_privs_4, lw_okq q := List.forall_mem_cons.mpr ⟨lw_p48, List.forall_mem_cons.mpr ⟨lw_p49, List.forall_mem_cons.mpr ⟨lw_p50, List.forall_mem_cons.mpr ⟨lw_p51, List.forall_mem_cons.mpr ⟨lw_p52, List.forall_mem_cons.mpr ⟨lw_p53, List.forall_mem_cons.mpr ⟨lw_p54, List.forall_mem_cons.mpr ⟨lw_p55, List.forall_mem_cons.mpr ⟨lw_p56, List.forall_mem_cons.mpr ⟨lw_p57, List.forall_mem_cons.mpr ⟨lw_p58, List.forall_mem_cons.mpr ⟨lw_p59, List.forall_mem_cons.mpr ⟨lw_p60, List.forall_mem_cons.mpr ⟨lw_p61, List.forall_mem_cons.mpr ⟨lw_p62, List.forall_mem_cons.mpr ⟨lw_p63, fun _ h => absurd h List.not_mem_nil⟩⟩⟩⟩⟩⟩⟩⟩⟩⟩⟩⟩⟩⟩⟩⟩
theorem lw_p64 : lw_okq (⟨"SpooledPostModel", "divide", "(III)Z"⟩, 31) := ⟨⟨by decide +kernel, by decide +kernel⟩, List.mem_of_getElem? (i := 628) (by decide +kernel), List.mem_of_getElem? (i := 926) (by decide +kernel), List.mem_of_getElem? (i := 927) (by decide +kernel)⟩
theorem lw_p65 : lw_okq (⟨"SpooledPostModel", "border", "(I)I"⟩, 31) := ⟨⟨by decide +kernel, by decide +kernel⟩, List.mem_of_getElem? (i := 628) (by decide +kernel), List.mem_of_getElem? (i := 930) (by decide +kernel), List.mem_of_getElem? (i := 931) (by decide +kernel)⟩
def lw_privs_5 : List (MethodName × Nat) := [(⟨"SpooledPostModel", "divide", "(III)Z"⟩, 31), (⟨"SpooledPostModel", "border", "(I)I"⟩, 31)]
theorem lw_r5 : ∀ q ∈ lw_privs_5, lw_okq q := List.forall_mem_cons.mpr ⟨lw_p64, List.forall_mem_cons.mpr ⟨lw_p65, fun _ h => absurd h List.not_mem_nil⟩⟩
def lw_privs : List (MethodName × Nat) := lw_privs_1 ++ (lw_privs_2 ++ (lw_privs_3 ++ (lw_privs_4 ++ (lw_privs_5))))
def lw_tbl : List Cond := k2_sels lw_privs ++ tables_1
theorem lw_privs_ok : ∀ q ∈ lw_privs, lw_okq q := by
  show ∀ q ∈ lw_privs_1 ++ (lw_privs_2 ++ (lw_privs_3 ++ (lw_privs_4 ++ (lw_privs_5)))), lw_okq q
  exact List.forall_mem_append.mpr ⟨lw_r1, List.forall_mem_append.mpr ⟨lw_r2, List.forall_mem_append.mpr ⟨lw_r3, List.forall_mem_append.mpr ⟨lw_r4, lw_r5⟩⟩⟩⟩
end
section
def kT_P : u_T := fun k => match k with
  | 0 => ("SpooledPost", "line", "LSpooledPost$Row;", true)
  | 1 => ("SpooledPost", "session", "LSpooledPost$Session;", true)
  | 2 => ("SpooledPost", "spool", "LSpooledPost$Spool;", true)
  | 3 => ("SpooledPost", "reader", "LSpooledPost$PartReader;", true)
  | _ => ("SpooledPost", "now", "I", false)
def kY_P : Nat → FieldType := fun k => match k with
  | 0 => .object "SpooledPost$Row"
  | 1 => .object "SpooledPost$Session"
  | 2 => .object "SpooledPost$Spool"
  | 3 => .object "SpooledPost$PartReader"
  | _ => .int
theorem kN_P : ∀ a, a < 5 → ∀ b, b < 5 → a ≠ b → (kT_P a).2.1 ≠ (kT_P b).2.1 := by decide +kernel
theorem kO_P : ∀ k, k < 5 → parseFieldDescriptor (kT_P k).2.2.1 = some (kY_P k) := by decide +kernel
def kT_R : u_T := fun k => match k with
  | 0 => ("SpooledPost$Row", "chars", "[C", true)
  | _ => ("SpooledPost$Row", "length", "I", false)
def kY_R : Nat → FieldType := fun k => match k with
  | 0 => .array (.char)
  | _ => .int
theorem kN_R : ∀ a, a < 2 → ∀ b, b < 2 → a ≠ b → (kT_R a).2.1 ≠ (kT_R b).2.1 := by decide +kernel
theorem kO_R : ∀ k, k < 2 → parseFieldDescriptor (kT_R k).2.2.1 = some (kY_R k) := by decide +kernel
def kT_S : u_T := fun k => match k with
  | 0 => ("SpooledPost$Session", "sender", "LSpooledPost$Row;", true)
  | 1 => ("SpooledPost$Session", "recipients", "[LSpooledPost$Row;", true)
  | 2 => ("SpooledPost$Session", "text", "LSpooledPost$Row;", true)
  | 3 => ("SpooledPost$Session", "recipientCount", "I", false)
  | 4 => ("SpooledPost$Session", "greeted", "Z", false)
  | 5 => ("SpooledPost$Session", "inTransaction", "Z", false)
  | 6 => ("SpooledPost$Session", "taking", "Z", false)
  | _ => ("SpooledPost$Session", "tooLong", "Z", false)
def kY_S : Nat → FieldType := fun k => match k with
  | 0 => .object "SpooledPost$Row"
  | 1 => .array (.object "SpooledPost$Row")
  | 2 => .object "SpooledPost$Row"
  | 3 => .int
  | 4 => .boolean
  | 5 => .boolean
  | 6 => .boolean
  | _ => .boolean
theorem kN_S : ∀ a, a < 8 → ∀ b, b < 8 → a ≠ b → (kT_S a).2.1 ≠ (kT_S b).2.1 := by decide +kernel
theorem kO_S : ∀ k, k < 8 → parseFieldDescriptor (kT_S k).2.2.1 = some (kY_S k) := by decide +kernel
def kT_O : u_T := fun k => match k with
  | 0 => ("SpooledPost$Spool", "row", "[LSpooledPost$Letter;", true)
  | 1 => ("SpooledPost$Spool", "count", "I", false)
  | 2 => ("SpooledPost$Spool", "nextNumber", "I", false)
  | 3 => ("SpooledPost$Spool", "writesLeft", "I", false)
  | _ => ("SpooledPost$Spool", "down", "Z", false)
def kY_O : Nat → FieldType := fun k => match k with
  | 0 => .array (.object "SpooledPost$Letter")
  | 1 => .int
  | 2 => .int
  | 3 => .int
  | _ => .boolean
theorem kN_O : ∀ a, a < 5 → ∀ b, b < 5 → a ≠ b → (kT_O a).2.1 ≠ (kT_O b).2.1 := by decide +kernel
theorem kO_O : ∀ k, k < 5 → parseFieldDescriptor (kT_O k).2.2.1 = some (kY_O k) := by decide +kernel
def kT_L : u_T := fun k => match k with
  | 0 => ("SpooledPost$Letter", "sender", "LSpooledPost$Row;", true)
  | 1 => ("SpooledPost$Letter", "recipients", "[LSpooledPost$Recipient;", true)
  | 2 => ("SpooledPost$Letter", "text", "LSpooledPost$Row;", true)
  | 3 => ("SpooledPost$Letter", "recipientCount", "I", false)
  | 4 => ("SpooledPost$Letter", "number", "I", false)
  | _ => ("SpooledPost$Letter", "sealed", "Z", false)
def kY_L : Nat → FieldType := fun k => match k with
  | 0 => .object "SpooledPost$Row"
  | 1 => .array (.object "SpooledPost$Recipient")
  | 2 => .object "SpooledPost$Row"
  | 3 => .int
  | 4 => .int
  | _ => .boolean
theorem kN_L : ∀ a, a < 6 → ∀ b, b < 6 → a ≠ b → (kT_L a).2.1 ≠ (kT_L b).2.1 := by decide +kernel
theorem kO_L : ∀ k, k < 6 → parseFieldDescriptor (kT_L k).2.2.1 = some (kY_L k) := by decide +kernel
def kT_C : u_T := fun k => match k with
  | 0 => ("SpooledPost$Recipient", "path", "LSpooledPost$Row;", true)
  | 1 => ("SpooledPost$Recipient", "fate", "I", false)
  | 2 => ("SpooledPost$Recipient", "tries", "I", false)
  | _ => ("SpooledPost$Recipient", "due", "I", false)
def kY_C : Nat → FieldType := fun k => match k with
  | 0 => .object "SpooledPost$Row"
  | 1 => .int
  | 2 => .int
  | _ => .int
theorem kN_C : ∀ a, a < 4 → ∀ b, b < 4 → a ≠ b → (kT_C a).2.1 ≠ (kT_C b).2.1 := by decide +kernel
theorem kO_C : ∀ k, k < 4 → parseFieldDescriptor (kT_C k).2.2.1 = some (kY_C k) := by decide +kernel
def kT_D : u_T := fun k => match k with
  | 0 => ("SpooledPost$PartReader", "lineStarts", "[I", true)
  | 1 => ("SpooledPost$PartReader", "facts", "[I", true)
  | 2 => ("SpooledPost$PartReader", "text", "LSpooledPost$Row;", false)
  | 3 => ("SpooledPost$PartReader", "lineCount", "I", false)
  | 4 => ("SpooledPost$PartReader", "count", "I", false)
  | _ => ("SpooledPost$PartReader", "readNumber", "I", false)
def kY_D : Nat → FieldType := fun k => match k with
  | 0 => .array (.int)
  | 1 => .array (.int)
  | 2 => .object "SpooledPost$Row"
  | 3 => .int
  | 4 => .int
  | _ => .int
theorem kN_D : ∀ a, a < 6 → ∀ b, b < 6 → a ≠ b → (kT_D a).2.1 ≠ (kT_D b).2.1 := by decide +kernel
theorem kO_D : ∀ k, k < 6 → parseFieldDescriptor (kT_D k).2.2.1 = some (kY_D k) := by decide +kernel
def kT_M : u_T := fun k => match k with
  | 0 => ("SpooledPostModel", "up", "Z", false)
  | 1 => ("SpooledPostModel", "now", "I", false)
  | 2 => ("SpooledPostModel", "given", "I", false)
  | 3 => ("SpooledPostModel", "writes", "I", false)
  | 4 => ("SpooledPostModel", "line", "[I", true)
  | 5 => ("SpooledPostModel", "length", "I", false)
  | 6 => ("SpooledPostModel", "greeted", "Z", false)
  | 7 => ("SpooledPostModel", "begun", "Z", false)
  | 8 => ("SpooledPostModel", "taking", "Z", false)
  | 9 => ("SpooledPostModel", "number", "[I", true)
  | 10 => ("SpooledPostModel", "sealed", "[Z", true)
  | 11 => ("SpooledPostModel", "texts", "[I", true)
  | 12 => ("SpooledPostModel", "textSize", "[I", true)
  | 13 => ("SpooledPostModel", "paths", "[I", true)
  | 14 => ("SpooledPostModel", "pathSize", "[I", true)
  | 15 => ("SpooledPostModel", "many", "[I", true)
  | 16 => ("SpooledPostModel", "fate", "[I", true)
  | 17 => ("SpooledPostModel", "dueAt", "[I", true)
  | 18 => ("SpooledPostModel", "lines", "I", false)
  | 19 => ("SpooledPostModel", "lineAt", "[I", true)
  | 20 => ("SpooledPostModel", "found", "I", false)
  | 21 => ("SpooledPostModel", "partDepth", "[I", true)
  | 22 => ("SpooledPostModel", "partFrom", "[I", true)
  | 23 => ("SpooledPostModel", "partTo", "[I", true)
  | 24 => ("SpooledPostModel", "partMulti", "[Z", true)
  | 25 => ("SpooledPostModel", "open", "I", false)
  | 26 => ("SpooledPostModel", "rowFrom", "[I", true)
  | 27 => ("SpooledPostModel", "rowTo", "[I", true)
  | 28 => ("SpooledPostModel", "rowDepth", "[I", true)
  | 29 => ("SpooledPostModel", "mark", "I", false)
  | _ => ("SpooledPostModel", "markSize", "I", false)
def kY_M : Nat → FieldType := fun k => match k with
  | 0 => .boolean
  | 1 => .int
  | 2 => .int
  | 3 => .int
  | 4 => .array (.int)
  | 5 => .int
  | 6 => .boolean
  | 7 => .boolean
  | 8 => .boolean
  | 9 => .array (.int)
  | 10 => .array (.boolean)
  | 11 => .array (.int)
  | 12 => .array (.int)
  | 13 => .array (.int)
  | 14 => .array (.int)
  | 15 => .array (.int)
  | 16 => .array (.int)
  | 17 => .array (.int)
  | 18 => .int
  | 19 => .array (.int)
  | 20 => .int
  | 21 => .array (.int)
  | 22 => .array (.int)
  | 23 => .array (.int)
  | 24 => .array (.boolean)
  | 25 => .int
  | 26 => .array (.int)
  | 27 => .array (.int)
  | 28 => .array (.int)
  | 29 => .int
  | _ => .int
theorem kN_M : ∀ a, a < 31 → ∀ b, b < 31 → a ≠ b → (kT_M a).2.1 ≠ (kT_M b).2.1 := by decide +kernel
theorem kO_M : ∀ k, k < 31 → parseFieldDescriptor (kT_M k).2.2.1 = some (kY_M k) := by decide +kernel
abbrev vwCl : List vw_C := [("SpooledPost", kT_P, 5), ("SpooledPost$Row", kT_R, 2), ("SpooledPost$Session", kT_S, 8), ("SpooledPost$Spool", kT_O, 5), ("SpooledPost$Letter", kT_L, 6), ("SpooledPost$Recipient", kT_C, 4), ("SpooledPost$PartReader", kT_D, 6), ("SpooledPostModel", kT_M, 31)]
/-- the words that every method is given -/
def WS : List Cond := lw_tbl.filter goodWord
theorem WSin {w : Cond} (h1 : w ∈ lw_tbl) (h2 : goodWord w = true) : w ∈ WS := List.mem_filter.mpr ⟨h1, h2⟩
theorem zgood : ∀ w ∈ WS, ((w.onTables && w.keeps) = true ∨ ∃ ty, w = .arrayClass ty) := fun w h => good_of_word (List.mem_filter.mp h).2
theorem WStbl : ∀ w ∈ WS, w ∈ lw_tbl := fun w h => (List.mem_filter.mp h).1
theorem kI_P : ∀ w ∈ u_ws "SpooledPost" kT_P 5, w ∈ WS := by decide +kernel
theorem kI_R : ∀ w ∈ u_ws "SpooledPost$Row" kT_R 2, w ∈ WS := by decide +kernel
theorem kI_S : ∀ w ∈ u_ws "SpooledPost$Session" kT_S 8, w ∈ WS := by decide +kernel
theorem kI_O : ∀ w ∈ u_ws "SpooledPost$Spool" kT_O 5, w ∈ WS := by decide +kernel
theorem kI_L : ∀ w ∈ u_ws "SpooledPost$Letter" kT_L 6, w ∈ WS := by decide +kernel
theorem kI_C : ∀ w ∈ u_ws "SpooledPost$Recipient" kT_C 4, w ∈ WS := by decide +kernel
theorem kI_D : ∀ w ∈ u_ws "SpooledPost$PartReader" kT_D 6, w ∈ WS := by decide +kernel
theorem kI_M : ∀ w ∈ u_ws "SpooledPostModel" kT_M 31, w ∈ WS := by decide +kernel
end
section
/-! THE SMALL MACHINE: values, heaps, cells by kind; frames of it (EvAt) and calls of it (EvCall), said over the kit's W and Met. -/
abbrev ZV : Type := Int32 ⊕ (Int64 ⊕ Option (Nat × Nat))
abbrev vI (x : Int32) : ZV := .inl x
abbrev vL (x : Int64) : ZV := .inr (.inl x)
abbrev vQ (o : Option (Nat × Nat)) : ZV := .inr (.inr o)
abbrev ZH : Type := (Nat → Nat → Nat → Int32) × (Nat → Nat → Nat → Option Nat)
/-- addresses by kind and place; class numbers and slots; array classes; the first address that is ours -/
abbrev ZG : Type := (Nat → Nat → Nat) × va_G × (Nat → ClassId) × Nat
/-- a method: name, code, locals, what it returns -/
abbrev ZM : Type := MethodName × ByteArray × Nat × Option FieldType
def zv (G : ZG) : ZV → Value
  | .inl x => .int x
  | .inr (.inl x) => .long x
  | .inr (.inr none) => .null
  | .inr (.inr (some q)) => .ref (G.1 q.1 q.2)
def zi (h : ZH) (k i j : Nat) : Int32 := h.1 k i j
def zr (h : ZH) (k i j : Nat) : Option Nat := h.2 k i j
def zw (h : ZH) (k i j : Nat) (x : Int32) : ZH := (fun a b c => if a = k ∧ b = i ∧ c = j then x else h.1 a b c, h.2)
def zwr (h : ZH) (k i j : Nat) (x : Option Nat) : ZH := (h.1, fun a b c => if a = k ∧ b = i ∧ c = j then x else h.2 a b c)
def zcp (h : ZH) (k i i2 sp dp n : Nat) : ZH := (fun a b c => if a = k ∧ b = i2 ∧ dp ≤ c ∧ c < dp + n then h.1 k i (sp + (c - dp)) else h.1 a b c, h.2)
theorem zi_zw (h : ZH) (k i j : Nat) (x : Int32) (a b c : Nat) : zi (zw h k i j x) a b c = if a = k ∧ b = i ∧ c = j then x else zi h a b c := rfl
theorem zr_zw (h : ZH) (k i j : Nat) (x : Int32) (a b c : Nat) : zr (zw h k i j x) a b c = zr h a b c := rfl
theorem zr_zwr (h : ZH) (k i j : Nat) (x : Option Nat) (a b c : Nat) : zr (zwr h k i j x) a b c = if a = k ∧ b = i ∧ c = j then x else zr h a b c := rfl
theorem zi_zwr (h : ZH) (k i j : Nat) (x : Option Nat) (a b c : Nat) : zi (zwr h k i j x) a b c = zi h a b c := rfl
theorem zi_zcp (h : ZH) (k i i2 sp dp n a b c : Nat) : zi (zcp h k i i2 sp dp n) a b c = if a = k ∧ b = i2 ∧ dp ≤ c ∧ c < dp + n then zi h k i (sp + (c - dp)) else zi h a b c := rfl
theorem zr_zcp (h : ZH) (k i i2 sp dp n a b c : Nat) : zr (zcp h k i i2 sp dp n) a b c = zr h a b c := rfl
def zkinds : Nat := 15
def zcnt : Nat → Nat
  | 0 => 1
  | 1 => 43
  | 2 => 43
  | 3 => 1
  | 4 => 1
  | 5 => 1
  | 6 => 1
  | 7 => 6
  | 8 => 6
  | 9 => 24
  | 10 => 1
  | 11 => 2
  | 12 => 1
  | 13 => 16
  | 14 => 2
  | _ => 0
def zobj : Nat → Option (Nat × Nat)
  | 0 => some (0, 5)
  | 1 => some (1, 2)
  | 3 => some (2, 8)
  | 5 => some (3, 5)
  | 7 => some (4, 6)
  | 9 => some (5, 4)
  | 10 => some (6, 6)
  | 12 => some (7, 31)
  | _ => none
def zarr : Nat → Nat
  | 2 => 1
  | 4 => 3
  | 6 => 4
  | 8 => 5
  | 11 => 0
  | 13 => 0
  | 14 => 2
  | _ => 0
def zarrT : List FieldType := [.int, .char, .boolean, .object "SpooledPost$Row", .object "SpooledPost$Letter", .object "SpooledPost$Recipient"]
def zra : Nat → Nat
  | 4 => 1
  | 6 => 2
  | 8 => 1
  | _ => 0
def zcap (r : Nat) : Nat := if r = 0 then 72 else if r = 6 then 600 else if 13 ≤ r ∧ r < 19 then 600 else 40
def zLen : Nat → Nat → Nat
  | 2, r => zcap r
  | 4, _ => 4
  | 6, _ => 6
  | 8, _ => 4
  | 11, 0 => 601
  | 11, _ => 64
  | 13, 0 => 72
  | 13, 1 => 6
  | 13, 2 => 4816
  | 13, 3 => 8
  | 13, 4 => 1600
  | 13, 5 => 40
  | 13, 6 => 8
  | 13, 7 => 24
  | 13, 8 => 24
  | 13, 9 => 604
  | 13, 10 => 17
  | 13, 11 => 17
  | 13, 12 => 17
  | 13, 13 => 700
  | 13, 14 => 700
  | 13, _ => 700
  | 14, 0 => 6
  | 14, _ => 17
  | _, _ => 0
/-- a field: 0 a number, 1 a reference that never changes, 2 one that may -/
def zft : Nat → Nat → Nat
  | 0, 0 => 1
  | 0, 1 => 1
  | 0, 2 => 1
  | 0, 3 => 1
  | 1, 0 => 1
  | 3, 0 => 1
  | 3, 1 => 1
  | 3, 2 => 1
  | 5, 0 => 1
  | 7, 0 => 1
  | 7, 1 => 1
  | 7, 2 => 1
  | 9, 0 => 1
  | 10, 0 => 1
  | 10, 1 => 1
  | 10, 2 => 2
  | 12, 4 => 1
  | 12, 9 => 1
  | 12, 10 => 1
  | 12, 11 => 1
  | 12, 12 => 1
  | 12, 13 => 1
  | 12, 14 => 1
  | 12, 15 => 1
  | 12, 16 => 1
  | 12, 17 => 1
  | 12, 19 => 1
  | 12, 21 => 1
  | 12, 22 => 1
  | 12, 23 => 1
  | 12, 24 => 1
  | 12, 26 => 1
  | 12, 27 => 1
  | 12, 28 => 1
  | _, _ => 0
def zrf : Nat → Nat → Nat → Nat × Nat
  | 0, _, 0 => (1, 0)
  | 0, _, 1 => (3, 0)
  | 0, _, 2 => (5, 0)
  | 0, _, 3 => (10, 0)
  | 1, i, 0 => (2, i)
  | 3, _, 0 => (1, 1)
  | 3, _, 1 => (4, 0)
  | 3, _, 2 => (1, 6)
  | 5, _, 0 => (6, 0)
  | 7, i, 0 => (1, 7 + i)
  | 7, i, 1 => (8, i)
  | 7, i, 2 => (1, 13 + i)
  | 9, i, 0 => (1, 19 + i)
  | 10, _, 0 => (11, 0)
  | 10, _, 1 => (11, 1)
  | 12, _, 4 => (13, 0)
  | 12, _, 9 => (13, 1)
  | 12, _, 10 => (14, 0)
  | 12, _, 11 => (13, 2)
  | 12, _, 12 => (13, 3)
  | 12, _, 13 => (13, 4)
  | 12, _, 14 => (13, 5)
  | 12, _, 15 => (13, 6)
  | 12, _, 16 => (13, 7)
  | 12, _, 17 => (13, 8)
  | 12, _, 19 => (13, 9)
  | 12, _, 21 => (13, 10)
  | 12, _, 22 => (13, 11)
  | 12, _, 23 => (13, 12)
  | 12, _, 24 => (14, 1)
  | 12, _, 26 => (13, 13)
  | 12, _, 27 => (13, 14)
  | 12, _, 28 => (13, 15)
  | 4, _, j => (1, 2 + j)
  | 8, i, j => (9, 4 * i + j)
  | _, _, _ => (0, 0)
def ztk : Nat → Nat → Nat
  | 6, _ => 7
  | 10, _ => 1
  | _, _ => 0
def zfld (G : ZG) (h : ZH) (k i j : Nat) : Value := match zft k j with
  | 0 => .int (h.1 k i j)
  | 1 => .ref (G.1 (zrf k i j).1 (zrf k i j).2)
  | _ => va_rf ((h.2 k i j).map (G.1 (ztk k j)))
def zav (G : ZG) (h : ZH) (k i j : Nat) : Option Nat := match zra k with
  | 1 => some (G.1 (zrf k i j).1 (zrf k i j).2)
  | _ => (h.2 k i j).map (G.1 (ztk k 0))
def zE (G : ZG) (h : ZH) (k i : Nat) : va_E := match zobj k with
  | some (ci, N) => .inr (ci, (List.range N).map (zfld G h k i))
  | none => .inl (G.2.2.1 (zarr k), zLen k i, match zra k with | 0 => .inl (fun j => h.1 k i j) | _ => .inr (.inr (.inr (.inr (zav G h k i)))))
def zall : List (Nat × Nat) := (List.range zkinds).flatMap (fun k => (List.range (zcnt k)).map (fun i => (k, i)))
def zws (G : ZG) (h : ZH) : va_W := zall.map (fun c => (G.1 c.1 c.2, zE G h c.1 c.2))
def zA (G : ZG) : Nat → Prop := fun q => G.2.2.2 ≤ q
def zRep (G : ZG) (h : ZH) (H : Heap) : Prop := va_P G.2.1 vwCl (zws G h) H
def zOK (G : ZG) : Prop := (∀ (a b : Nat) (c c' : Nat × Nat), zall[a]? = some c → zall[b]? = some c' → G.1 c.1 c.2 = G.1 c'.1 c'.2 → a = b) ∧ ∀ c ∈ zall, G.2.2.2 ≤ G.1 c.1 c.2
def ztys (G : ZG) : List (ClassId × FieldType) := zarrT.zipIdx.map (fun q => (G.2.2.1 q.2, q.1))
/-! the constants: the enum, its table, the texts -/
def zSL : List Nat := [4, 4, 4, 4, 4, 4, 4, 4, 7, 5, 10, 13, 10, 9]
def zSB : List (List Int32) := [[104, 101, 108, 111], [101, 104, 108, 111], [109, 97, 105, 108], [114, 99, 112, 116], [100, 97, 116, 97], [114, 115, 101, 116], [110, 111, 111, 112], [113, 117, 105, 116], [32, 102, 114, 111, 109, 58, 60], [32, 116, 111, 58, 60], [82, 101, 116, 117, 114, 110, 101, 100, 58, 32], [99, 111, 110, 116, 101, 110, 116, 45, 116, 121, 112, 101, 58], [109, 117, 108, 116, 105, 112, 97, 114, 116, 47], [98, 111, 117, 110, 100, 97, 114, 121, 61]]
def zSw : List Int32 := [1, 2, 3, 4, 5, 6, 0, 7]
def zFmt (G : ZG) (U : State) (H : Heap) : Prop := va_Z "jdk/internal/util/Preconditions" "SIOOBE_FORMATTER" "Ljava/util/function/BiFunction;" .null (zA G) U H ∨ va_Z "jdk/internal/util/Preconditions" "SIOOBE_FORMATTER" "Ljava/util/function/BiFunction;" (.ref (G.1 25 0)) (zA G) U H
def zConst (G : ZG) (U : State) (H : Heap) : Prop :=
  va_Z "SpooledPost" "COMMANDS" "[LSpooledPost$Command;" (.ref (G.1 21 0)) (zA G) U H ∧
  va_T (.object "SpooledPost$Command") (G.1 21 0) 8 (fun j => .ref (G.1 20 j)) (zA G) U H ∧
  va_Z "SpooledPost$1" "$SwitchMap$SpooledPost$Command" "[I" (.ref (G.1 23 0)) (zA G) U H ∧
  va_T .int (G.1 23 0) 8 (fun j => .int (zSw.getD j 0)) (zA G) U H ∧
  va_Z "java/lang/String" "COMPACT_STRINGS" "Z" (.int 1) (zA G) U H ∧
  vk_S 14 zSL zSB (G.1 22) (G.1 24) (zA G) U H ∧
  (∀ i, i < 8 → va_O "SpooledPost$Command" (G.1 20 i) (zA G) U H ∧ va_OF "SpooledPost$Command" "word" "Ljava/lang/String;" (.ref (G.1 22 i)) (G.1 20 i) (zA G) U H ∧ va_OF "java/lang/Enum" "ordinal" "I" (.int (nI i)) (G.1 20 i) (zA G) U H) ∧
  zFmt G U H ∧
  (vk_R "SpooledPost" 225 " from:<" (G.1 22 8) U ∧ vk_R "SpooledPost" 237 " to:<" (G.1 22 9) U ∧ vk_R "SpooledPost" 308 "Returned: " (G.1 22 10) U ∧ vk_R "SpooledPost$PartReader" 90 "content-type:" (G.1 22 11) U ∧ vk_R "SpooledPost$PartReader" 104 "multipart/" (G.1 22 12) U ∧ vk_R "SpooledPost$PartReader" 106 "boundary=" (G.1 22 13) U)
theorem zConst.kept {G : ZG} {U : State} {H H1 : Heap} (h : zConst G U H) (hq : ∀ a : Nat, a < H.size → ¬ zA G a → H1[a]? = H[a]?) : zConst G U H1 := by
  obtain ⟨a1, a2, a3, a4, a5, a6, a7, a8, a9⟩ := h
  exact ⟨a1.kept hq, a2.kept hq, a3.kept hq, a4.kept hq, a5.kept hq, a6.kept hq, fun i hi => ⟨(a7 i hi).1.kept hq, (a7 i hi).2.1.kept hq, (a7 i hi).2.2.kept hq⟩, a8.elim (fun z => Or.inl (z.kept hq)) (fun z => Or.inr (z.kept hq)), a9⟩
theorem zConst.warm {G : ZG} {s U : State} {H : Heap} (hW : s.WarmedH U.vm) (h : zConst G s H) : zConst G U H := by
  obtain ⟨a1, a2, a3, a4, a5, a6, a7, a8, b1, b2, b3, b4, b5, b6⟩ := h
  have hv := hW.alike
  exact ⟨a1.moved hv, a2.moved hv, a3.moved hv, a4.moved hv, a5.moved hv, a6.moved hv, fun i hi => ⟨(a7 i hi).1.moved hv, (a7 i hi).2.1.moved hv, (a7 i hi).2.2.moved hv⟩, a8.elim (fun z => Or.inl (z.moved hv)) (fun z => Or.inr (z.moved hv)), b1.warm hW, b2.warm hW, b3.warm hW, b4.warm hW, b5.warm hW, b6.warm hW⟩
theorem zConst.same {G : ZG} {u U : State} (hv : U.vm = u.vm) (hh : U.heap = u.heap) (h : zConst G u u.heap) : zConst G U U.heap := by
  obtain ⟨a1, a2, a3, a4, a5, a6, a7, a8, b1, b2, b3, b4, b5, b6⟩ := h
  have hl : u.vm.Alike U.vm := by rw [hv]; exact Vm.Alike.refl _
  rw [hh]
  exact ⟨a1.moved hl, a2.moved hl, a3.moved hl, a4.moved hl, a5.moved hl, a6.moved hl, fun i hi => ⟨(a7 i hi).1.moved hl, (a7 i hi).2.1.moved hl, (a7 i hi).2.2.moved hl⟩, a8.elim (fun z => Or.inl (z.moved hl)) (fun z => Or.inr (z.moved hl)), b1.same hv, b2.same hv, b3.same hv, b4.same hv, b5.same hv, b6.same hv⟩
theorem zin {k i : Nat} (hk : k < zkinds) (hi : i < zcnt k) : (k, i) ∈ zall := by
  unfold zall
  rw [List.mem_flatMap]
  exact ⟨k, List.mem_range.mpr hk, List.mem_map.mpr ⟨i, List.mem_range.mpr hi, rfl⟩⟩
theorem zE_congr {G : ZG} {h h' : ZH} {k i : Nat} (h1 : h'.1 k i = h.1 k i) (h2 : h'.2 k i = h.2 k i) : zE G h' k i = zE G h k i := by
  have e1 : zfld G h' k i = zfld G h k i := by funext j; unfold zfld; rw [h1, h2]
  have e2 : zav G h' k i = zav G h k i := by funext j; unfold zav; rw [h2]
  unfold zE
  rw [e1, e2, h1]
theorem zD {G : ZG} (h : ZH) (hO : zOK G) : va_D (zA G) (zws G h) := by
  refine ⟨fun i j p q hi hj e => ?_, fun k q hq => ?_⟩
  · unfold zws at hi hj
    rw [List.getElem?_map] at hi hj
    cases ha : zall[i]? with
    | none => rw [ha] at hi; cases hi
    | some c =>
      cases hb : zall[j]? with
      | none => rw [hb] at hj; cases hj
      | some c' =>
        rw [ha] at hi; rw [hb] at hj
        cases hi; cases hj
        exact hO.1 i j c c' ha hb e
  · unfold zws at hq
    rw [List.getElem?_map] at hq
    cases ha : zall[k]? with
    | none => rw [ha] at hq; cases hq
    | some c =>
      rw [ha] at hq
      cases hq
      exact hO.2 c (List.mem_of_getElem? ha)
theorem zpos {G : ZG} (hO : zOK G) {k i : Nat} (hk : (k, i) ∈ zall) : ∃ q0 : Nat, (∀ h : ZH, (zws G h)[q0]? = some (G.1 k i, zE G h k i)) ∧ ∀ h h' : ZH, (∀ a b : Nat, (a, b) ≠ (k, i) → h'.1 a b = h.1 a b ∧ h'.2 a b = h.2 a b) → (zws G h).set q0 (G.1 k i, zE G h' k i) = zws G h' := by
  obtain ⟨q0, hq⟩ := List.getElem?_of_mem hk
  refine ⟨q0, fun h => ?_, fun h h' hh => ?_⟩
  · unfold zws
    rw [List.getElem?_map, hq]
    rfl
  · have hl : q0 < (zws G h).length := by
      unfold zws
      rw [List.length_map]
      exact (List.getElem?_eq_some_iff.mp hq).1
    apply List.ext_getElem?
    intro j
    by_cases e : j = q0
    · subst e
      rw [List.getElem?_set_self hl]
      unfold zws
      rw [List.getElem?_map, hq]
      rfl
    · rw [List.getElem?_set_ne (Ne.symm e)]
      unfold zws
      rw [List.getElem?_map, List.getElem?_map]
      cases hc : zall[j]? with
      | none => rfl
      | some c =>
        have hne : (c.1, c.2) ≠ (k, i) := by
          intro z
          exact e (hO.1 j q0 c (k, i) hc hq (by rw [show c = (k, i) from z]))
        obtain ⟨h1, h2⟩ := hh c.1 c.2 hne
        show some (G.1 c.1 c.2, zE G h c.1 c.2) = some (G.1 c.1 c.2, zE G h' c.1 c.2)
        rw [zE_congr h1 h2]
theorem zw_off (h : ZH) (k i j : Nat) (x : Int32) : ∀ a b : Nat, (a, b) ≠ (k, i) → (zw h k i j x).1 a b = h.1 a b ∧ (zw h k i j x).2 a b = h.2 a b := by
  intro a b hab
  refine ⟨?_, rfl⟩
  funext c
  show (if a = k ∧ b = i ∧ c = j then x else h.1 a b c) = h.1 a b c
  rw [if_neg]
  rintro ⟨rfl, rfl, -⟩
  exact hab rfl
theorem zwr_off (h : ZH) (k i j : Nat) (x : Option Nat) : ∀ a b : Nat, (a, b) ≠ (k, i) → (zwr h k i j x).1 a b = h.1 a b ∧ (zwr h k i j x).2 a b = h.2 a b := by
  intro a b hab
  refine ⟨rfl, ?_⟩
  funext c
  show (if a = k ∧ b = i ∧ c = j then x else h.2 a b c) = h.2 a b c
  rw [if_neg]
  rintro ⟨rfl, rfl, -⟩
  exact hab rfl
theorem zcp_off (h : ZH) (k i i2 sp dp n : Nat) : ∀ a b : Nat, (a, b) ≠ (k, i2) → (zcp h k i i2 sp dp n).1 a b = h.1 a b ∧ (zcp h k i i2 sp dp n).2 a b = h.2 a b := by
  intro a b hab
  refine ⟨?_, rfl⟩
  funext c
  show (if a = k ∧ b = i2 ∧ dp ≤ c ∧ c < dp + n then _ else h.1 a b c) = h.1 a b c
  rw [if_neg]
  rintro ⟨rfl, rfl, -⟩
  exact hab rfl
/-! locals -/
def zpairs (G : ZG) : Nat → List (Option ZV) → List (Nat × Value)
  | _, [] => []
  | i, none :: t => zpairs G (i + 1) t
  | i, some v :: t => (i, zv G v) :: zpairs G (i + 1) t
theorem zpairs_mem {G : ZG} {q : Nat × Value} : ∀ (lv : List (Option ZV)) (i : Nat), q ∈ zpairs G i lv ↔ ∃ (j : Nat) (v : ZV), lv[j]? = some (some v) ∧ q = (i + j, zv G v) := by
  intro lv
  induction lv with
  | nil => intro i; simp [zpairs]
  | cons a t ih =>
    intro i
    have key : (∃ (j : Nat) (v : ZV), t[j]? = some (some v) ∧ q = (i + 1 + j, zv G v)) ↔ ∃ (j : Nat) (v : ZV), (a :: t)[j + 1]? = some (some v) ∧ q = (i + (j + 1), zv G v) := by
      constructor
      · rintro ⟨j, v, h1, h2⟩
        exact ⟨j, v, by simpa using h1, by rw [h2, show i + 1 + j = i + (j + 1) by omega]⟩
      · rintro ⟨j, v, h1, h2⟩
        exact ⟨j, v, by simpa using h1, by rw [h2, show i + 1 + j = i + (j + 1) by omega]⟩
    cases a with
    | none =>
      rw [zpairs, ih, key]
      constructor
      · rintro ⟨j, v, h1, h2⟩
        exact ⟨j + 1, v, h1, h2⟩
      · rintro ⟨j, v, h1, h2⟩
        cases j with
        | zero => simp at h1
        | succ j => exact ⟨j, v, h1, h2⟩
    | some w =>
      rw [zpairs, List.mem_cons, ih, key]
      constructor
      · rintro (h | ⟨j, v, h1, h2⟩)
        · exact ⟨0, w, by simp, by rw [h]; rfl⟩
        · exact ⟨j + 1, v, h1, h2⟩
      · rintro ⟨j, v, h1, h2⟩
        cases j with
        | zero =>
          have : w = v := by simpa using h1
          subst this
          exact Or.inl h2
        | succ j => exact Or.inr ⟨j, v, h1, h2⟩
def zLv (G : ZG) (n : Nat) (ls : Array Slot) (lv : List (Option ZV)) : Prop := lv_has ls n (zpairs G 0 lv)
theorem zLv_at {G : ZG} {n : Nat} {ls : Array Slot} {lv : List (Option ZV)} (h : zLv G n ls lv) {i : Nat} {v : ZV} (hi : lv[i]? = some (some v)) : ls[i]? = some (.val (zv G v)) := by
  have := h.2.2 (i, zv G v) ((zpairs_mem lv 0).mpr ⟨i, v, hi, by rw [Nat.zero_add]⟩)
  exact this
def zcat : ZV → Nat
  | .inr (.inl _) => 2
  | _ => 1
theorem zcat_zv (G : ZG) (v : ZV) : (zv G v).category = zcat v := by
  rcases v with x | x | _ | q <;> rfl
/-- no long stands just ahead of local i -/
def zst (lv : List (Option ZV)) (i : Nat) : Bool := match i with
  | 0 => true
  | i + 1 => match lv[i]? with
    | some (some v) => zcat v == 1
    | _ => true
theorem zLv_set {G : ZG} {n : Nat} {ls' : Array Slot} {lv : List (Option ZV)} {i : Nat} {v : ZV} (hz : zst lv i = true)
    (h : lv_has ls' n ((i, zv G v) :: (zpairs G 0 lv).filter (fun q => !(q.1 == i) && !(q.1 + 1 == i && q.2.category == 2)))) : zLv G n ls' (lv.set i (some v)) := by
  refine ⟨h.1, h.2.1, fun q hq => h.2.2 q ?_⟩
  obtain ⟨j, w, h1, h2⟩ := (zpairs_mem _ 0).mp hq
  rw [Nat.zero_add] at h2
  subst h2
  by_cases e : j = i
  · subst e
    have hl : j < lv.length := by
      have := (List.getElem?_eq_some_iff.mp h1).1
      simpa using this
    rw [List.getElem?_set_self hl] at h1
    cases h1
    exact List.mem_cons_self
  · rw [List.getElem?_set_ne (Ne.symm e)] at h1
    refine List.mem_cons_of_mem _ (List.mem_filter.mpr ⟨(zpairs_mem _ 0).mpr ⟨j, w, h1, by rw [Nat.zero_add]⟩, ?_⟩)
    have hne : (j == i) = false := by simpa using e
    show (!(j == i) && !(j + 1 == i && (zv G w).category == 2)) = true
    rw [hne, zcat_zv]
    by_cases e2 : j + 1 = i
    · subst e2
      have : (zcat w == 1) = true := by
        have h3 := hz
        unfold zst at h3
        simp only [h1] at h3
        exact h3
      have h4 : zcat w = 1 := by simpa using this
      rw [h4]
      simp
    · have : (j + 1 == i) = false := by simpa using e2
      rw [this]
      rfl
def zloc : List ZV → List (Option ZV)
  | [] => []
  | v :: t => if zcat v = 2 then some v :: none :: zloc t else some v :: zloc t
theorem zloc_len (G : ZG) : ∀ as : List ZV, (lg_sl (as.map (zv G))).length = (zloc as).length := by
  intro as
  induction as with
  | nil => rfl
  | cons v t ih =>
    unfold lg_sl at ih ⊢
    rw [List.map_cons, List.flatMap_cons, List.length_append, ih, zcat_zv, zloc]
    by_cases e : zcat v = 2
    · rw [if_pos e, if_pos e]
      simp
      omega
    · rw [if_neg e, if_neg e]
      simp
      omega
theorem zloc_args (G : ZG) (k : Nat) : ∀ (as : List ZV) (i : Nat), zpairs G i (zloc as ++ List.replicate k none) = lv_args i (as.map (zv G)) := by
  intro as
  induction as with
  | nil =>
    intro i
    show zpairs G i (List.replicate k none) = []
    induction k generalizing i with
    | zero => rfl
    | succ k ih => rw [List.replicate_succ, zpairs, ih]
  | cons v t ih =>
    intro i
    rw [List.map_cons, lv_args, zcat_zv, zloc]
    by_cases e : zcat v = 2
    · rw [if_pos e, if_pos e]
      show zpairs G i (some v :: none :: (zloc t ++ List.replicate k none)) = _
      rw [zpairs, zpairs, ih]
    · rw [if_neg e, if_neg e]
      show zpairs G i (some v :: (zloc t ++ List.replicate k none)) = _
      rw [zpairs, ih]
/-! frames and calls -/
def rmD (d : Nat) : Room := { frames := d, cells := 0, slots := 0, locals := 60 * d }
def zwsM (M : ZM) : List Cond := Cond.code M.1 M.2.1 M.2.2.1 M.2.2.2 :: WS
def zQc (G : ZG) (Q : Option ZV → ZH → Prop) : Array Value → State → Outcome → State → Prop := fun _ st o t =>
  ∃ (r : Option ZV) (h' : ZH), o = .returned (r.map (zv G)) ∧ Q r h' ∧ zRep G h' t.heap ∧ va_F (zA G) st t
def zCtx (M : ZM) (G : ZG) (p : Program) (s : State) (m : MethodId) (args : Array Value) (meth : Method) (c : Code) : Prop :=
  p.tables.exec = Jvm.exec ∧ c.code = M.2.1 ∧ meth.sig.returnType = M.2.2.2 ∧ c.maxLocals = M.2.2.1 ∧ (∀ w ∈ zwsM M, w.before args s = true) ∧ s.vm.findClass M.1.cls = some m.cls ∧ meth.locks = false ∧ va_K G.2.1 vwCl (ztys G) s ∧ zOK G ∧ zConst G s s.heap
def EvAt (d : Nat) (M : ZM) (pc : Nat) (lv : List (Option ZV)) (st : List ZV) (h : ZH) (Q : Option ZV → ZH → Prop) : Prop :=
  ∀ (G : ZG) (p : Program) (l : Launch) (e : Env) (s : State) (m : MethodId) (args : Array Value) (below : List Frame) (meth : Method) (c : Code) (H : Heap) (locs : List Loc) (ls : Array Slot),
    zCtx M G p s m args meth c → zRep G h H → va_S (zA G) s.heap H locs → zLv G M.2.2.1 ls lv →
    W p l e (rmD d) s m args below meth c H locs 0 0 (MQ below (zQc G Q) args s 0 0 (zA G)) (F0 m pc ls (st.map (zv G)))
def zPc (G : ZG) (as : List ZV) (h : ZH) : Array Value → State → Prop := va_Pc (as.map (zv G)) (fun U => zRep G h U.heap ∧ va_K G.2.1 vwCl (ztys G) U ∧ zConst G U U.heap)
def EvCall (d : Nat) (M : ZM) (as : List ZV) (h : ZH) (Q : Option ZV → ZH → Prop) : Prop :=
  ∀ (l : Launch) (G : ZG), zOK G → Met l M.1 (zwsM M) (rmD d) (zPc G as h) (zQc G Q) 0 0 (zA G)
def zQI (Q : Int32 → ZH → Prop) : Option ZV → ZH → Prop := fun r h' => ∃ x : Int32, r = some (vI x) ∧ Q x h'
def zQV (Q : ZH → Prop) : Option ZV → ZH → Prop := fun r h' => r = none ∧ Q h'
/-- an answer that is null or a cell of kind k -/
def zQR (k : Nat) (Q : Option Nat → ZH → Prop) : Option ZV → ZH → Prop := fun r h' => ∃ o : Option Nat, r = some (vQ (o.map (Prod.mk k))) ∧ (∀ i, o = some i → i < zcnt k) ∧ Q o h'
abbrev EvI (d : Nat) (M : ZM) (as : List ZV) (h : ZH) (Q : Int32 → ZH → Prop) : Prop := EvCall d M as h (zQI Q)
abbrev EvV (d : Nat) (M : ZM) (as : List ZV) (h : ZH) (Q : ZH → Prop) : Prop := EvCall d M as h (zQV Q)
abbrev EvR (k : Nat) (d : Nat) (M : ZM) (as : List ZV) (h : ZH) (Q : Option Nat → ZH → Prop) : Prop := EvCall d M as h (zQR k Q)
theorem zPc_blind (G : ZG) (as : List ZV) (h : ZH) : FrameBlind (zPc G as h) := by
  intro a U g mk q
  obtain ⟨q0, q1, q2, q3⟩ := q
  exact ⟨q0, q1, va_K.moved (u := U) (U := U.calling g mk a) (Vm.Alike.refl U.vm) q2, zConst.same (U := U.calling g mk a) (u := U) rfl rfl q3⟩
theorem zPc_of {G : ZG} {as : List ZV} {h : ZH} {s U : State} {H : Heap} {locs : List Loc} (hU : U.heap = H) (hW : s.WarmedH U.vm) (hR : zRep G h H) (hK : va_K G.2.1 vwCl (ztys G) s) (hC : zConst G s s.heap) (hS : va_S (zA G) s.heap H locs) : zPc G as h (as.map (zv G)).toArray U := by
  refine ⟨rfl, by rw [hU]; exact hR, va_K.moved hW.alike hK, ?_⟩
  rw [hU]
  exact zConst.warm hW (zConst.kept hC hS.2.1)
theorem zo_entry {d : Nat} {M : ZM} {as : List ZV} {h : ZH} {Q : Option ZV → ZH → Prop} (hy : plainName M.1.cls = true) (hlen : (zloc as).length ≤ M.2.2.1)
    (k : EvAt d M 0 (zloc as ++ List.replicate (M.2.2.1 - (zloc as).length) none) [] h Q) : EvCall d M as h Q := by
  intro l G hO
  refine Met.ofW (cc := M.2.1) (maxL := M.2.2.1) (ret := M.2.2.2) hy rfl ?_
  intro p e s m args below meth c s₁ B hml hv
  obtain ⟨rfl, hrep, hK, hC⟩ := hv
  have hts := atoms_spec (ws := zwsM M) B.pre
  have hown : s.vm.findClass M.1.cls = some m.cls := findClass_of_methodNamed B.named
  have hl := lv_entry (as.map (zv G)) (n := M.2.2.1) (by rw [zloc_len]; exact hlen)
  rw [lg_entry_eq]
  refine k G p l e s m _ below meth c s.heap [] _ ⟨B.exec, B.bytes, B.returns, hml, hts, hown, B.notSynchronized, hK, hO, hC⟩ hrep va_S.rf ?_
  unfold zLv
  rw [zloc_args]
  exact hl
theorem zo_mono {d : Nat} {M : ZM} {pc : Nat} {lv : List (Option ZV)} {st : List ZV} {h : ZH} {Q Q' : Option ZV → ZH → Prop} (hQ : ∀ r h', Q r h' → Q' r h') (k : EvAt d M pc lv st h Q) : EvAt d M pc lv st h Q' := by
  intro G p l e s m args below meth c H locs ls B hR hS hl T hT X
  obtain ⟨t, a1, o, b1, b2, ⟨r, h', c1, c2, c3⟩, b4⟩ := k G p l e s m args below meth c H locs ls B hR hS hl T hT X
  exact ⟨t, a1, o, b1, b2, ⟨r, h', c1, hQ r h' c2, c3⟩, b4⟩
end
section
section ZOps
variable {d : Nat} {M : ZM} {pc : Nat} {lv : List (Option ZV)} {st : List ZV} {h : ZH} {Q : Option ZV → ZH → Prop}
theorem zX_hts {M : ZM} {G : ZG} {p : Program} {s : State} {m : MethodId} {args : Array Value} {meth : Method} {c : Code} (B : zCtx M G p s m args meth c) {w : Cond} (hw : w ∈ WS) : w.before args s = true := B.2.2.2.2.1 w (List.mem_cons_of_mem _ hw)
theorem zo_iconst {n : Int} {v : Int32} (hd : decode M.2.1 pc = .ok (.iconst n, 1)) (hv : Int32.ofInt n = v) (k : EvAt d M (pc + 1) lv (vI v :: st) h Q) : EvAt d M pc lv st h Q := fun G p l e s m args below meth c H locs ls B hR hS hl => lv_iconst B.1 B.2.1 hd hv (k G p l e s m args below meth c H locs ls B hR hS hl)
theorem zo_bipush {n : Int} {v : Int32} (hd : decode M.2.1 pc = .ok (.bipush n, 2)) (hv : (Int8.ofInt n).toInt32 = v) (k : EvAt d M (pc + 2) lv (vI v :: st) h Q) : EvAt d M pc lv st h Q := fun G p l e s m args below meth c H locs ls B hR hS hl => lv_bipush B.1 B.2.1 hd hv (k G p l e s m args below meth c H locs ls B hR hS hl)
theorem zo_sipush {n : Int} {v : Int32} (hd : decode M.2.1 pc = .ok (.sipush n, 3)) (hv : (Int16.ofInt n).toInt32 = v) (k : EvAt d M (pc + 3) lv (vI v :: st) h Q) : EvAt d M pc lv st h Q := fun G p l e s m args below meth c H locs ls B hR hS hl => lv_sipush B.1 B.2.1 hd hv (k G p l e s m args below meth c H locs ls B hR hS hl)
theorem zo_lconst {n : Fin 2} {v : Int64} (hd : decode M.2.1 pc = .ok (.lconst n, 1)) (hv : Int64.ofNat n = v) (k : EvAt d M (pc + 1) lv (vL v :: st) h Q) : EvAt d M pc lv st h Q := fun G p l e s m args below meth c H locs ls B hR hS hl => lv_lconst B.1 B.2.1 hd hv (k G p l e s m args below meth c H locs ls B hR hS hl)
theorem zo_ldc {idx : Nat} {v : Int32} (hw : Cond.constant M.1.cls idx v ∈ WS) (hd : decode M.2.1 pc = .ok (.ldc idx, 2)) (k : EvAt d M (pc + 2) lv (vI v :: st) h Q) : EvAt d M pc lv st h Q := fun G p l e s m args below meth c H locs ls B hR hS hl => lv_ldc B.1 B.2.1 B.2.2.2.2.2.1 (zX_hts B hw) hd (k G p l e s m args below meth c H locs ls B hR hS hl)
theorem zo_ldc2 {idx : Nat} {v : Int64} (hw : Cond.constantLong M.1.cls idx v ∈ WS) (hd : decode M.2.1 pc = .ok (.ldc2_w idx, 3)) (k : EvAt d M (pc + 3) lv (vL v :: st) h Q) : EvAt d M pc lv st h Q := fun G p l e s m args below meth c H locs ls B hR hS hl => lv_ldc2 B.1 B.2.1 B.2.2.2.2.2.1 (zX_hts B hw) hd (k G p l e s m args below meth c H locs ls B hR hS hl)
theorem zo_null (hd : decode M.2.1 pc = .ok (.aconst_null, 1)) (k : EvAt d M (pc + 1) lv (vQ none :: st) h Q) : EvAt d M pc lv st h Q := fun G p l e s m args below meth c H locs ls B hR hS hl => lv_null B.1 B.2.1 hd (k G p l e s m args below meth c H locs ls B hR hS hl)
theorem zo_iload_n {k : Fin 4} {i : Nat} {x : Int32} (hd : decode M.2.1 pc = .ok (.iload_n k, 1)) (hi : (k : Nat) = i) (hx : lv[i]? = some (some (vI x))) (k : EvAt d M (pc + 1) lv (vI x :: st) h Q) : EvAt d M pc lv st h Q := fun G p l e s m args below meth c H locs ls B hR hS hl => lv_iload_n B.1 B.2.1 hd hi (zLv_at hl hx) (k G p l e s m args below meth c H locs ls B hR hS hl)
theorem zo_iload {i : Nat} {x : Int32} (hd : decode M.2.1 pc = .ok (.iload i, 2)) (hx : lv[i]? = some (some (vI x))) (k : EvAt d M (pc + 2) lv (vI x :: st) h Q) : EvAt d M pc lv st h Q := fun G p l e s m args below meth c H locs ls B hR hS hl => lv_iload B.1 B.2.1 hd (zLv_at hl hx) (k G p l e s m args below meth c H locs ls B hR hS hl)
theorem zo_lload_n {k : Fin 4} {i : Nat} {x : Int64} (hd : decode M.2.1 pc = .ok (.lload_n k, 1)) (hi : (k : Nat) = i) (hx : lv[i]? = some (some (vL x))) (k : EvAt d M (pc + 1) lv (vL x :: st) h Q) : EvAt d M pc lv st h Q := fun G p l e s m args below meth c H locs ls B hR hS hl => lv_lload_n B.1 B.2.1 hd hi (zLv_at hl hx) (k G p l e s m args below meth c H locs ls B hR hS hl)
theorem zo_lload {i : Nat} {x : Int64} (hd : decode M.2.1 pc = .ok (.lload i, 2)) (hx : lv[i]? = some (some (vL x))) (k : EvAt d M (pc + 2) lv (vL x :: st) h Q) : EvAt d M pc lv st h Q := fun G p l e s m args below meth c H locs ls B hR hS hl => lv_lload B.1 B.2.1 hd (zLv_at hl hx) (k G p l e s m args below meth c H locs ls B hR hS hl)
theorem zo_aload_n {k : Fin 4} {i : Nat} {o : Option (Nat × Nat)} (hd : decode M.2.1 pc = .ok (.aload_n k, 1)) (hi : (k : Nat) = i) (hx : lv[i]? = some (some (vQ o))) (k : EvAt d M (pc + 1) lv (vQ o :: st) h Q) : EvAt d M pc lv st h Q := by
  intro G p l e s m args below meth c H locs ls B hR hS hl
  cases o with
  | none => exact lv_aload_nN B.1 B.2.1 hd hi (zLv_at hl hx) (k G p l e s m args below meth c H locs ls B hR hS hl)
  | some q => exact lv_aload_n B.1 B.2.1 hd hi (zLv_at hl hx) (k G p l e s m args below meth c H locs ls B hR hS hl)
theorem zo_aload {i : Nat} {o : Option (Nat × Nat)} (hd : decode M.2.1 pc = .ok (.aload i, 2)) (hx : lv[i]? = some (some (vQ o))) (k : EvAt d M (pc + 2) lv (vQ o :: st) h Q) : EvAt d M pc lv st h Q := by
  intro G p l e s m args below meth c H locs ls B hR hS hl
  cases o with
  | none => exact lv_aloadN B.1 B.2.1 hd (zLv_at hl hx) (k G p l e s m args below meth c H locs ls B hR hS hl)
  | some q => exact lv_aload B.1 B.2.1 hd (zLv_at hl hx) (k G p l e s m args below meth c H locs ls B hR hS hl)
theorem zo_istore_n {k : Fin 4} {i : Nat} {x : Int32} (hd : decode M.2.1 pc = .ok (.istore_n k, 1)) (hi : (k : Nat) = i) (hn : i < M.2.2.1) (hz : zst lv i = true) (k : EvAt d M (pc + 1) (lv.set i (some (vI x))) st h Q) : EvAt d M pc lv (vI x :: st) h Q := fun G p l e s m args below meth c H locs ls B hR hS hl => lv_istore_n B.1 B.2.1 hd hi hl hn rfl (fun ls' hl' => k G p l e s m args below meth c H locs ls' B hR hS (zLv_set hz hl'))
theorem zo_istore {i : Nat} {x : Int32} (hd : decode M.2.1 pc = .ok (.istore i, 2)) (hn : i < M.2.2.1) (hz : zst lv i = true) (k : EvAt d M (pc + 2) (lv.set i (some (vI x))) st h Q) : EvAt d M pc lv (vI x :: st) h Q := fun G p l e s m args below meth c H locs ls B hR hS hl => lv_istore B.1 B.2.1 hd hl hn rfl (fun ls' hl' => k G p l e s m args below meth c H locs ls' B hR hS (zLv_set hz hl'))
theorem zo_astore_n {k : Fin 4} {i : Nat} {o : Option (Nat × Nat)} (hd : decode M.2.1 pc = .ok (.astore_n k, 1)) (hi : (k : Nat) = i) (hn : i < M.2.2.1) (hz : zst lv i = true) (k : EvAt d M (pc + 1) (lv.set i (some (vQ o))) st h Q) : EvAt d M pc lv (vQ o :: st) h Q := by
  intro G p l e s m args below meth c H locs ls B hR hS hl
  cases o with
  | none => exact lv_astore_nN B.1 B.2.1 hd hi hl hn rfl (fun ls' hl' => k G p l e s m args below meth c H locs ls' B hR hS (zLv_set hz hl'))
  | some q => exact lv_astore_n B.1 B.2.1 hd hi hl hn rfl (fun ls' hl' => k G p l e s m args below meth c H locs ls' B hR hS (zLv_set hz hl'))
theorem zo_astore {i : Nat} {o : Option (Nat × Nat)} (hd : decode M.2.1 pc = .ok (.astore i, 2)) (hn : i < M.2.2.1) (hz : zst lv i = true) (k : EvAt d M (pc + 2) (lv.set i (some (vQ o))) st h Q) : EvAt d M pc lv (vQ o :: st) h Q := by
  intro G p l e s m args below meth c H locs ls B hR hS hl
  cases o with
  | none => exact lv_astoreN B.1 B.2.1 hd hl hn rfl (fun ls' hl' => k G p l e s m args below meth c H locs ls' B hR hS (zLv_set hz hl'))
  | some q => exact lv_astore B.1 B.2.1 hd hl hn rfl (fun ls' hl' => k G p l e s m args below meth c H locs ls' B hR hS (zLv_set hz hl'))
theorem zo_iinc {i : Nat} {n : Int} {x v : Int32} (hd : decode M.2.1 pc = .ok (.iinc i n, 3)) (hx : lv[i]? = some (some (vI x))) (hv : x + Int32.ofInt n = v) (hn : i < M.2.2.1) (hz : zst lv i = true) (k : EvAt d M (pc + 3) (lv.set i (some (vI v))) st h Q) : EvAt d M pc lv st h Q := by
  intro G p l e s m args below meth c H locs ls B hR hS hl
  obtain ⟨kk, hkk⟩ := List.getElem?_of_mem ((zpairs_mem (G := G) lv 0).mpr ⟨i, vI x, hx, rfl⟩)
  rw [Nat.zero_add] at hkk
  exact lv_iinc B.1 B.2.1 hd hl hkk hv hn rfl (fun ls' hl' => k G p l e s m args below meth c H locs ls' B hR hS (zLv_set hz hl'))
theorem zo_iadd {x y : Int32} (hd : decode M.2.1 pc = .ok (.iadd, 1)) (k : EvAt d M (pc + 1) lv (vI (x + y) :: st) h Q) : EvAt d M pc lv (vI y :: vI x :: st) h Q := fun G p l e s m args below meth c H locs ls B hR hS hl => lv_iadd B.1 B.2.1 hd (k G p l e s m args below meth c H locs ls B hR hS hl)
theorem zo_isub {x y : Int32} (hd : decode M.2.1 pc = .ok (.isub, 1)) (k : EvAt d M (pc + 1) lv (vI (x - y) :: st) h Q) : EvAt d M pc lv (vI y :: vI x :: st) h Q := fun G p l e s m args below meth c H locs ls B hR hS hl => lv_isub B.1 B.2.1 hd (k G p l e s m args below meth c H locs ls B hR hS hl)
theorem zo_imul {x y : Int32} (hd : decode M.2.1 pc = .ok (.imul, 1)) (k : EvAt d M (pc + 1) lv (vI (x * y) :: st) h Q) : EvAt d M pc lv (vI y :: vI x :: st) h Q := fun G p l e s m args below meth c H locs ls B hR hS hl => lv_imul B.1 B.2.1 hd (k G p l e s m args below meth c H locs ls B hR hS hl)
theorem zo_iand {x y : Int32} (hd : decode M.2.1 pc = .ok (.iand, 1)) (k : EvAt d M (pc + 1) lv (vI (x &&& y) :: st) h Q) : EvAt d M pc lv (vI y :: vI x :: st) h Q := fun G p l e s m args below meth c H locs ls B hR hS hl => lv_iand B.1 B.2.1 hd (k G p l e s m args below meth c H locs ls B hR hS hl)
theorem zo_ior {x y : Int32} (hd : decode M.2.1 pc = .ok (.ior, 1)) (k : EvAt d M (pc + 1) lv (vI (x ||| y) :: st) h Q) : EvAt d M pc lv (vI y :: vI x :: st) h Q := fun G p l e s m args below meth c H locs ls B hR hS hl => lv_ior B.1 B.2.1 hd (k G p l e s m args below meth c H locs ls B hR hS hl)
theorem zo_ishl {x y : Int32} (hd : decode M.2.1 pc = .ok (.ishl, 1)) (k : EvAt d M (pc + 1) lv (vI (x <<< (y &&& 31)) :: st) h Q) : EvAt d M pc lv (vI y :: vI x :: st) h Q := fun G p l e s m args below meth c H locs ls B hR hS hl => lv_ishl B.1 B.2.1 hd (k G p l e s m args below meth c H locs ls B hR hS hl)
theorem zo_ishr {x y : Int32} (hd : decode M.2.1 pc = .ok (.ishr, 1)) (k : EvAt d M (pc + 1) lv (vI (x >>> (y &&& 31)) :: st) h Q) : EvAt d M pc lv (vI y :: vI x :: st) h Q := fun G p l e s m args below meth c H locs ls B hR hS hl => lv_ishr B.1 B.2.1 hd (k G p l e s m args below meth c H locs ls B hR hS hl)
theorem zo_idiv {x y : Int32} (hd : decode M.2.1 pc = .ok (.idiv, 1)) (hne : ¬ y = 0) (k : EvAt d M (pc + 1) lv (vI (x / y) :: st) h Q) : EvAt d M pc lv (vI y :: vI x :: st) h Q := fun G p l e s m args below meth c H locs ls B hR hS hl => lv_idiv B.1 B.2.1 hd hne (k G p l e s m args below meth c H locs ls B hR hS hl)
theorem zo_irem {x y : Int32} (hd : decode M.2.1 pc = .ok (.irem, 1)) (hne : ¬ y = 0) (k : EvAt d M (pc + 1) lv (vI (x - x / y * y) :: st) h Q) : EvAt d M pc lv (vI y :: vI x :: st) h Q := fun G p l e s m args below meth c H locs ls B hR hS hl => lv_irem B.1 B.2.1 hd hne (k G p l e s m args below meth c H locs ls B hR hS hl)
theorem zo_land {x y : Int64} (hd : decode M.2.1 pc = .ok (.land, 1)) (k : EvAt d M (pc + 1) lv (vL (x &&& y) :: st) h Q) : EvAt d M pc lv (vL y :: vL x :: st) h Q := fun G p l e s m args below meth c H locs ls B hR hS hl => lv_land B.1 B.2.1 hd (k G p l e s m args below meth c H locs ls B hR hS hl)
theorem zo_lor {x y : Int64} (hd : decode M.2.1 pc = .ok (.lor, 1)) (k : EvAt d M (pc + 1) lv (vL (x ||| y) :: st) h Q) : EvAt d M pc lv (vL y :: vL x :: st) h Q := fun G p l e s m args below meth c H locs ls B hR hS hl => lv_lor B.1 B.2.1 hd (k G p l e s m args below meth c H locs ls B hR hS hl)
theorem zo_lshl {x : Int64} {y : Int32} (hd : decode M.2.1 pc = .ok (.lshl, 1)) (k : EvAt d M (pc + 1) lv (vL (x <<< (y.toInt64 &&& 63)) :: st) h Q) : EvAt d M pc lv (vI y :: vL x :: st) h Q := fun G p l e s m args below meth c H locs ls B hR hS hl => lv_lshl B.1 B.2.1 hd rfl (k G p l e s m args below meth c H locs ls B hR hS hl)
theorem zo_lshr {x : Int64} {y : Int32} (hd : decode M.2.1 pc = .ok (.lshr, 1)) (k : EvAt d M (pc + 1) lv (vL (x >>> (y.toInt64 &&& 63)) :: st) h Q) : EvAt d M pc lv (vI y :: vL x :: st) h Q := fun G p l e s m args below meth c H locs ls B hR hS hl => lv_lshr B.1 B.2.1 hd rfl (k G p l e s m args below meth c H locs ls B hR hS hl)
theorem zo_lushr {x : Int64} {y : Int32} (hd : decode M.2.1 pc = .ok (.lushr, 1)) (k : EvAt d M (pc + 1) lv (vL ((x.toUInt64 >>> (y.toInt64.toUInt64 &&& Int64.toUInt64 63)).toInt64) :: st) h Q) : EvAt d M pc lv (vI y :: vL x :: st) h Q := fun G p l e s m args below meth c H locs ls B hR hS hl => lv_lushr B.1 B.2.1 hd rfl (k G p l e s m args below meth c H locs ls B hR hS hl)
theorem zo_i2l {x : Int32} (hd : decode M.2.1 pc = .ok (.i2l, 1)) (k : EvAt d M (pc + 1) lv (vL x.toInt64 :: st) h Q) : EvAt d M pc lv (vI x :: st) h Q := fun G p l e s m args below meth c H locs ls B hR hS hl => lv_i2l B.1 B.2.1 hd rfl (k G p l e s m args below meth c H locs ls B hR hS hl)
theorem zo_l2i {x : Int64} (hd : decode M.2.1 pc = .ok (.l2i, 1)) (k : EvAt d M (pc + 1) lv (vI x.toInt32 :: st) h Q) : EvAt d M pc lv (vL x :: st) h Q := fun G p l e s m args below meth c H locs ls B hR hS hl => lv_l2i B.1 B.2.1 hd rfl (k G p l e s m args below meth c H locs ls B hR hS hl)
theorem zo_i2c {x : Int32} (hd : decode M.2.1 pc = .ok (.i2c, 1)) (k : EvAt d M (pc + 1) lv (vI (x.toUInt32 % 65536).toInt32 :: st) h Q) : EvAt d M pc lv (vI x :: st) h Q := fun G p l e s m args below meth c H locs ls B hR hS hl => lv_i2c B.1 B.2.1 hd rfl (k G p l e s m args below meth c H locs ls B hR hS hl)
theorem zo_lcmp {x y : Int64} (hd : decode M.2.1 pc = .ok (.lcmp, 1)) (k : EvAt d M (pc + 1) lv (vI (lg_cmp x y) :: st) h Q) : EvAt d M pc lv (vL y :: vL x :: st) h Q := fun G p l e s m args below meth c H locs ls B hR hS hl => W.lcmp B.1 B.2.1 hd (k G p l e s m args below meth c H locs ls B hR hS hl)
theorem zo_dup {a : ZV} (ha : zcat a = 1) (hd : decode M.2.1 pc = .ok (.dup, 1)) (k : EvAt d M (pc + 1) lv (a :: a :: st) h Q) : EvAt d M pc lv (a :: st) h Q := fun G p l e s m args below meth c H locs ls B hR hS hl => lv_dup B.1 B.2.1 hd (by rw [zcat_zv]; exact ha) (k G p l e s m args below meth c H locs ls B hR hS hl)
theorem zo_pop {a : ZV} (ha : zcat a = 1) (hd : decode M.2.1 pc = .ok (.pop, 1)) (k : EvAt d M (pc + 1) lv st h Q) : EvAt d M pc lv (a :: st) h Q := fun G p l e s m args below meth c H locs ls B hR hS hl => lv_pop B.1 B.2.1 hd (by rw [zcat_zv]; exact ha) (k G p l e s m args below meth c H locs ls B hR hS hl)
theorem zo_dup_x1 {a b : ZV} (ha : zcat a = 1) (hb : zcat b = 1) (hd : decode M.2.1 pc = .ok (.dup_x1, 1)) (k : EvAt d M (pc + 1) lv (a :: b :: a :: st) h Q) : EvAt d M pc lv (a :: b :: st) h Q := fun G p l e s m args below meth c H locs ls B hR hS hl => lv_dup_x1 B.1 B.2.1 hd (by rw [zcat_zv]; exact ha) (by rw [zcat_zv]; exact hb) (k G p l e s m args below meth c H locs ls B hR hS hl)
theorem zo_dup2 {a b : ZV} (ha : zcat a = 1) (hb : zcat b = 1) (hd : decode M.2.1 pc = .ok (.dup2, 1)) (k : EvAt d M (pc + 1) lv (a :: b :: a :: b :: st) h Q) : EvAt d M pc lv (a :: b :: st) h Q := fun G p l e s m args below meth c H locs ls B hR hS hl => lv_dup2_11 B.1 B.2.1 hd (by rw [zcat_zv]; exact ha) (by rw [zcat_zv]; exact hb) (k G p l e s m args below meth c H locs ls B hR hS hl)
theorem zo_if_eq {x : Int32} {off : Int} {tgt : Nat} (hd : decode M.2.1 pc = .ok (.ifCond .eq off, 3)) (ht : (pc : Int) + off = (tgt : Int)) (kt : x = 0 → EvAt d M tgt lv st h Q) (kf : ¬ x = 0 → EvAt d M (pc + 3) lv st h Q) : EvAt d M pc lv (vI x :: st) h Q := fun G p l e s m args below meth c H locs ls B hR hS hl => lv_if_eq B.1 B.2.1 hd ht (fun z => kt z G p l e s m args below meth c H locs ls B hR hS hl) (fun z => kf z G p l e s m args below meth c H locs ls B hR hS hl)
theorem zo_icmp_eq {x y : Int32} {off : Int} {tgt : Nat} (hd : decode M.2.1 pc = .ok (.if_icmp .eq off, 3)) (ht : (pc : Int) + off = (tgt : Int)) (kt : x = y → EvAt d M tgt lv st h Q) (kf : ¬ x = y → EvAt d M (pc + 3) lv st h Q) : EvAt d M pc lv (vI y :: vI x :: st) h Q := fun G p l e s m args below meth c H locs ls B hR hS hl => lv_icmp_eq B.1 B.2.1 hd ht (fun z => kt z G p l e s m args below meth c H locs ls B hR hS hl) (fun z => kf z G p l e s m args below meth c H locs ls B hR hS hl)
theorem zo_if_ne {x : Int32} {off : Int} {tgt : Nat} (hd : decode M.2.1 pc = .ok (.ifCond .ne off, 3)) (ht : (pc : Int) + off = (tgt : Int)) (kt : ¬ x = 0 → EvAt d M tgt lv st h Q) (kf : x = 0 → EvAt d M (pc + 3) lv st h Q) : EvAt d M pc lv (vI x :: st) h Q := fun G p l e s m args below meth c H locs ls B hR hS hl => lv_if_ne B.1 B.2.1 hd ht (fun z => kt z G p l e s m args below meth c H locs ls B hR hS hl) (fun z => kf z G p l e s m args below meth c H locs ls B hR hS hl)
theorem zo_icmp_ne {x y : Int32} {off : Int} {tgt : Nat} (hd : decode M.2.1 pc = .ok (.if_icmp .ne off, 3)) (ht : (pc : Int) + off = (tgt : Int)) (kt : ¬ x = y → EvAt d M tgt lv st h Q) (kf : x = y → EvAt d M (pc + 3) lv st h Q) : EvAt d M pc lv (vI y :: vI x :: st) h Q := fun G p l e s m args below meth c H locs ls B hR hS hl => lv_icmp_ne B.1 B.2.1 hd ht (fun z => kt z G p l e s m args below meth c H locs ls B hR hS hl) (fun z => kf z G p l e s m args below meth c H locs ls B hR hS hl)
theorem zo_if_lt {x : Int32} {off : Int} {tgt : Nat} (hd : decode M.2.1 pc = .ok (.ifCond .lt off, 3)) (ht : (pc : Int) + off = (tgt : Int)) (kt : x < 0 → EvAt d M tgt lv st h Q) (kf : ¬ x < 0 → EvAt d M (pc + 3) lv st h Q) : EvAt d M pc lv (vI x :: st) h Q := fun G p l e s m args below meth c H locs ls B hR hS hl => lv_if_lt B.1 B.2.1 hd ht (fun z => kt z G p l e s m args below meth c H locs ls B hR hS hl) (fun z => kf z G p l e s m args below meth c H locs ls B hR hS hl)
theorem zo_icmp_lt {x y : Int32} {off : Int} {tgt : Nat} (hd : decode M.2.1 pc = .ok (.if_icmp .lt off, 3)) (ht : (pc : Int) + off = (tgt : Int)) (kt : x < y → EvAt d M tgt lv st h Q) (kf : ¬ x < y → EvAt d M (pc + 3) lv st h Q) : EvAt d M pc lv (vI y :: vI x :: st) h Q := fun G p l e s m args below meth c H locs ls B hR hS hl => lv_icmp_lt B.1 B.2.1 hd ht (fun z => kt z G p l e s m args below meth c H locs ls B hR hS hl) (fun z => kf z G p l e s m args below meth c H locs ls B hR hS hl)
theorem zo_if_ge {x : Int32} {off : Int} {tgt : Nat} (hd : decode M.2.1 pc = .ok (.ifCond .ge off, 3)) (ht : (pc : Int) + off = (tgt : Int)) (kt : 0 ≤ x → EvAt d M tgt lv st h Q) (kf : ¬ 0 ≤ x → EvAt d M (pc + 3) lv st h Q) : EvAt d M pc lv (vI x :: st) h Q := fun G p l e s m args below meth c H locs ls B hR hS hl => lv_if_ge B.1 B.2.1 hd ht (fun z => kt z G p l e s m args below meth c H locs ls B hR hS hl) (fun z => kf z G p l e s m args below meth c H locs ls B hR hS hl)
theorem zo_icmp_ge {x y : Int32} {off : Int} {tgt : Nat} (hd : decode M.2.1 pc = .ok (.if_icmp .ge off, 3)) (ht : (pc : Int) + off = (tgt : Int)) (kt : y ≤ x → EvAt d M tgt lv st h Q) (kf : ¬ y ≤ x → EvAt d M (pc + 3) lv st h Q) : EvAt d M pc lv (vI y :: vI x :: st) h Q := fun G p l e s m args below meth c H locs ls B hR hS hl => lv_icmp_ge B.1 B.2.1 hd ht (fun z => kt z G p l e s m args below meth c H locs ls B hR hS hl) (fun z => kf z G p l e s m args below meth c H locs ls B hR hS hl)
theorem zo_if_gt {x : Int32} {off : Int} {tgt : Nat} (hd : decode M.2.1 pc = .ok (.ifCond .gt off, 3)) (ht : (pc : Int) + off = (tgt : Int)) (kt : 0 < x → EvAt d M tgt lv st h Q) (kf : ¬ 0 < x → EvAt d M (pc + 3) lv st h Q) : EvAt d M pc lv (vI x :: st) h Q := fun G p l e s m args below meth c H locs ls B hR hS hl => lv_if_gt B.1 B.2.1 hd ht (fun z => kt z G p l e s m args below meth c H locs ls B hR hS hl) (fun z => kf z G p l e s m args below meth c H locs ls B hR hS hl)
theorem zo_icmp_gt {x y : Int32} {off : Int} {tgt : Nat} (hd : decode M.2.1 pc = .ok (.if_icmp .gt off, 3)) (ht : (pc : Int) + off = (tgt : Int)) (kt : y < x → EvAt d M tgt lv st h Q) (kf : ¬ y < x → EvAt d M (pc + 3) lv st h Q) : EvAt d M pc lv (vI y :: vI x :: st) h Q := fun G p l e s m args below meth c H locs ls B hR hS hl => lv_icmp_gt B.1 B.2.1 hd ht (fun z => kt z G p l e s m args below meth c H locs ls B hR hS hl) (fun z => kf z G p l e s m args below meth c H locs ls B hR hS hl)
theorem zo_if_le {x : Int32} {off : Int} {tgt : Nat} (hd : decode M.2.1 pc = .ok (.ifCond .le off, 3)) (ht : (pc : Int) + off = (tgt : Int)) (kt : x ≤ 0 → EvAt d M tgt lv st h Q) (kf : ¬ x ≤ 0 → EvAt d M (pc + 3) lv st h Q) : EvAt d M pc lv (vI x :: st) h Q := fun G p l e s m args below meth c H locs ls B hR hS hl => lv_if_le B.1 B.2.1 hd ht (fun z => kt z G p l e s m args below meth c H locs ls B hR hS hl) (fun z => kf z G p l e s m args below meth c H locs ls B hR hS hl)
theorem zo_icmp_le {x y : Int32} {off : Int} {tgt : Nat} (hd : decode M.2.1 pc = .ok (.if_icmp .le off, 3)) (ht : (pc : Int) + off = (tgt : Int)) (kt : x ≤ y → EvAt d M tgt lv st h Q) (kf : ¬ x ≤ y → EvAt d M (pc + 3) lv st h Q) : EvAt d M pc lv (vI y :: vI x :: st) h Q := fun G p l e s m args below meth c H locs ls B hR hS hl => lv_icmp_le B.1 B.2.1 hd ht (fun z => kt z G p l e s m args below meth c H locs ls B hR hS hl) (fun z => kf z G p l e s m args below meth c H locs ls B hR hS hl)
theorem zo_goto {off : Int} {tgt : Nat} (hd : decode M.2.1 pc = .ok (.goto off, 3)) (ht : (pc : Int) + off = (tgt : Int)) (k : EvAt d M tgt lv st h Q) : EvAt d M pc lv st h Q := fun G p l e s m args below meth c H locs ls B hR hS hl => lv_goto B.1 B.2.1 hd ht (k G p l e s m args below meth c H locs ls B hR hS hl)
theorem zo_ifnull {o : Option (Nat × Nat)} {off : Int} {tgt : Nat} (hd : decode M.2.1 pc = .ok (.ifnull off, 3)) (ht : (pc : Int) + off = (tgt : Int)) (kt : o = none → EvAt d M tgt lv st h Q) (kf : ∀ q, o = some q → EvAt d M (pc + 3) lv st h Q) : EvAt d M pc lv (vQ o :: st) h Q := by
  intro G p l e s m args below meth c H locs ls B hR hS hl
  cases o with
  | none => exact lv_ifnullN B.1 B.2.1 hd ht (kt rfl G p l e s m args below meth c H locs ls B hR hS hl)
  | some q => exact lv_ifnull B.1 B.2.1 hd (kf q rfl G p l e s m args below meth c H locs ls B hR hS hl)
theorem zo_ifnonnull {o : Option (Nat × Nat)} {off : Int} {tgt : Nat} (hd : decode M.2.1 pc = .ok (.ifnonnull off, 3)) (ht : (pc : Int) + off = (tgt : Int)) (kt : ∀ q, o = some q → EvAt d M tgt lv st h Q) (kf : o = none → EvAt d M (pc + 3) lv st h Q) : EvAt d M pc lv (vQ o :: st) h Q := by
  intro G p l e s m args below meth c H locs ls B hR hS hl
  cases o with
  | none => exact lv_ifnonnullN B.1 B.2.1 hd (kf rfl G p l e s m args below meth c H locs ls B hR hS hl)
  | some q => exact lv_ifnonnull B.1 B.2.1 hd ht (kt q rfl G p l e s m args below meth c H locs ls B hR hS hl)
theorem zv_rf (G : ZG) (o : Option (Nat × Nat)) : zv G (vQ o) = va_rf (o.map (fun q => G.1 q.1 q.2)) := by
  cases o <;> rfl
theorem zv_inj {G : ZG} (hO : zOK G) {o1 o2 : Option (Nat × Nat)} (h1 : ∀ q, o1 = some q → q ∈ zall) (h2 : ∀ q, o2 = some q → q ∈ zall) : o1.map (fun q => G.1 q.1 q.2) = o2.map (fun q => G.1 q.1 q.2) ↔ o1 = o2 := by
  constructor
  · intro hh
    cases o1 with
    | none => cases o2 with
      | none => rfl
      | some b => cases hh
    | some a => cases o2 with
      | none => cases hh
      | some b =>
        obtain ⟨i, hi⟩ := List.getElem?_of_mem (h1 a rfl)
        obtain ⟨j, hj⟩ := List.getElem?_of_mem (h2 b rfl)
        have e := hO.1 i j a b hi hj (Option.some.inj hh)
        subst e
        rw [hi] at hj
        exact hj
  · intro hh; rw [hh]
theorem zo_acmp_eq {o1 o2 : Option (Nat × Nat)} {off : Int} {tgt : Nat} (h1 : ∀ q, o1 = some q → q ∈ zall) (h2 : ∀ q, o2 = some q → q ∈ zall) (hd : decode M.2.1 pc = .ok (.if_acmp .eq off, 3)) (ht : (pc : Int) + off = (tgt : Int)) (kt : o1 = o2 → EvAt d M tgt lv st h Q) (kf : ¬ o1 = o2 → EvAt d M (pc + 3) lv st h Q) : EvAt d M pc lv (vQ o2 :: vQ o1 :: st) h Q := by
  intro G p l e s m args below meth c H locs ls B hR hS hl
  show W p l e (rmD d) s m args below meth c H locs 0 0 _ (F0 m pc ls (zv G (vQ o2) :: zv G (vQ o1) :: st.map (zv G)))
  rw [zv_rf, zv_rf]
  exact lv_acmp_eq B.1 B.2.1 hd ht (fun z => kt ((zv_inj B.2.2.2.2.2.2.2.2.1 h1 h2).mp z) G p l e s m args below meth c H locs ls B hR hS hl) (fun z => kf (fun y => z ((zv_inj B.2.2.2.2.2.2.2.2.1 h1 h2).mpr y)) G p l e s m args below meth c H locs ls B hR hS hl)
theorem zo_acmp_ne {o1 o2 : Option (Nat × Nat)} {off : Int} {tgt : Nat} (h1 : ∀ q, o1 = some q → q ∈ zall) (h2 : ∀ q, o2 = some q → q ∈ zall) (hd : decode M.2.1 pc = .ok (.if_acmp .ne off, 3)) (ht : (pc : Int) + off = (tgt : Int)) (kt : ¬ o1 = o2 → EvAt d M tgt lv st h Q) (kf : o1 = o2 → EvAt d M (pc + 3) lv st h Q) : EvAt d M pc lv (vQ o2 :: vQ o1 :: st) h Q := by
  intro G p l e s m args below meth c H locs ls B hR hS hl
  show W p l e (rmD d) s m args below meth c H locs 0 0 _ (F0 m pc ls (zv G (vQ o2) :: zv G (vQ o1) :: st.map (zv G)))
  rw [zv_rf, zv_rf]
  exact lv_acmp_ne B.1 B.2.1 hd ht (fun z => kt (fun y => z ((zv_inj B.2.2.2.2.2.2.2.2.1 h1 h2).mpr y)) G p l e s m args below meth c H locs ls B hR hS hl) (fun z => kf ((zv_inj B.2.2.2.2.2.2.2.2.1 h1 h2).mp z) G p l e s m args below meth c H locs ls B hR hS hl)
theorem zo_table {dflt lo hi : Int} {offs : Array Int} {len : Nat} {x : Int32} (hd : decode M.2.1 pc = .ok (.tableswitch dflt lo hi offs, len)) {td : Nat} (hdf : (pc : Int) + dflt = (td : Int)) (f : Nat → Nat) (hf : ∀ i : Nat, i < (hi - lo + 1).toNat → ∃ off, offs[i]? = some off ∧ (pc : Int) + off = (f i : Int))
    (ko : x.toInt < lo ∨ hi < x.toInt → EvAt d M td lv st h Q) (ki : ∀ i : Nat, i < (hi - lo + 1).toNat → x.toInt = lo + i → EvAt d M (f i) lv st h Q) : EvAt d M pc lv (vI x :: st) h Q := by
  intro G p l e s m args below meth c H locs ls B hR hS hl
  by_cases h1 : x.toInt < lo
  · exact lv_tableOut B.1 B.2.1 hd (Or.inl h1) hdf (ko (Or.inl h1) G p l e s m args below meth c H locs ls B hR hS hl)
  · by_cases h2 : hi < x.toInt
    · exact lv_tableOut B.1 B.2.1 hd (Or.inr h2) hdf (ko (Or.inr h2) G p l e s m args below meth c H locs ls B hR hS hl)
    · obtain ⟨off, ho, ht⟩ := hf (x.toInt - lo).toNat (by omega)
      exact lv_tableIn B.1 B.2.1 hd h1 h2 ho ht (ki _ (by omega) (by omega) G p l e s m args below meth c H locs ls B hR hS hl)
theorem zo_lookup {dflt : Int} {ps : Array (Int × Int)} {len : Nat} {x : Int32} {off : Int} {tgt : Nat} (hd : decode M.2.1 pc = .ok (.lookupswitch dflt ps, len)) (hp : (ps.toList.zip (ps.toList.drop 1)).all (fun (a, next) => a.1 < next.1) = true) (ho : Op.lookupswitch.offset ps.toList dflt x.toInt = off) (ht : (pc : Int) + off = (tgt : Int)) (k : EvAt d M tgt lv st h Q) : EvAt d M pc lv (vI x :: st) h Q := fun G p l e s m args below meth c H locs ls B hR hS hl => lv_lookup B.1 B.2.1 hd hp ho ht (k G p l e s m args below meth c H locs ls B hR hS hl)
theorem zo_iret {x : Int32} (hr : M.2.2.2 = some .int) (hd : decode M.2.1 pc = .ok (.ireturn, 1)) (hq : Q (some (vI x)) h) : EvAt d M pc lv (vI x :: []) h Q := fun G p l e s m args below meth c H locs ls B hR hS hl => W.iret B.1 B.2.1 (B.2.2.1.trans hr) (fun t ht hW => ⟨_, h, rfl, hq, by rw [ht]; exact hR, hS.F ht⟩) hS.2.2 hd (hlocks := B.2.2.2.2.2.2.1)
theorem zo_zret {x : Int32} {ty : FieldType} (hr : M.2.2.2 = some ty) (hn : narrow ty (.int x) = .int x) (hd : decode M.2.1 pc = .ok (.ireturn, 1)) (hq : Q (some (vI x)) h) : EvAt d M pc lv (vI x :: []) h Q := fun G p l e s m args below meth c H locs ls B hR hS hl => W.zret B.1 B.2.1 (B.2.2.1.trans hr) hn (fun t ht hW => ⟨_, h, rfl, hq, by rw [ht]; exact hR, hS.F ht⟩) hS.2.2 hd (hlocks := B.2.2.2.2.2.2.1)
theorem zo_vret (hr : M.2.2.2 = none) (hd : decode M.2.1 pc = .ok (.return_, 1)) (hq : Q (none) h) : EvAt d M pc lv [] h Q := fun G p l e s m args below meth c H locs ls B hR hS hl => W.vret B.1 B.2.1 (B.2.2.1.trans hr) (fun t ht hW => ⟨_, h, rfl, hq, by rw [ht]; exact hR, hS.F ht⟩) hS.2.2 hd (hlocks := B.2.2.2.2.2.2.1)
theorem zo_aret {o : Option (Nat × Nat)} {rt : FieldType} (hr : M.2.2.2 = some rt) (hrt : (∃ n, rt = .object n) ∨ ∃ t, rt = .array t) (hd : decode M.2.1 pc = .ok (.areturn, 1)) (hq : Q (some (vQ o)) h) : EvAt d M pc lv (vQ o :: []) h Q := by
  intro G p l e s m args below meth c H locs ls B hR hS hl
  refine W.aret B.1 B.2.1 (B.2.2.1.trans hr) hrt ?_ (fun t ht hW => ⟨_, h, rfl, hq, by rw [ht]; exact hR, hS.F ht⟩) hS.2.2 hd (hlocks := B.2.2.2.2.2.2.1)
  cases o with
  | none => exact Or.inl rfl
  | some q => exact Or.inr ⟨_, rfl⟩
theorem zo_get {k i j idx ci N : Nat} {C : String} {T : u_T} (hk : (k, i) ∈ zall) (ho : zobj k = some (ci, N)) (hc : vwCl[ci]? = some (C, T, N)) (hin : ∀ w ∈ u_ws C T N, w ∈ WS) (hj : j < N) (hlk : Cond.fieldLink M.1.cls idx (T j).1 (T j).2.1 (T j).2.2.1 ∈ WS) {v : ZV} (hv : ∀ G, zfld G h k i j = zv G v) (hd : decode M.2.1 pc = .ok (.getfield idx, 3)) (kk : EvAt d M (pc + 3) lv (v :: st) h Q) : EvAt d M pc lv (vQ (some (k, i)) :: st) h Q := by
  intro G p l e s m args below meth c H locs ls B hR hS hl
  obtain ⟨q0, e1, -⟩ := zpos B.2.2.2.2.2.2.2.2.1 hk
  have he := e1 h
  unfold zE at he
  rw [ho] at he
  exact va_get B.1 B.2.1 (Ts := WS) (fun w hw => zX_hts B hw) hin B.2.2.2.2.2.1 B.2.2.2.2.2.2.2.1 hR q0 he hc j hj (zX_hts B hlk) (fun _ z => z) (v := zv G v) (by rw [List.getElem?_map, List.getElem?_range hj]; exact congrArg some (hv G)) hd (kk G p l e s m args below meth c H locs ls B hR hS hl)
theorem zmap_set {α : Type} (N j : Nat) (f g : Nat → α) (v : α) (h1 : g j = v) (h2 : ∀ a, a ≠ j → g a = f a) : (List.range N).map g = ((List.range N).map f).set j v := by
  apply List.ext_getElem?
  intro a
  rw [List.getElem?_map]
  by_cases hl : a < N
  · rw [List.getElem?_range hl]
    by_cases e : a = j
    · subst e
      rw [List.getElem?_set_self (by simpa using hl)]
      show some (g a) = some v
      rw [h1]
    · rw [List.getElem?_set_ne (Ne.symm e), List.getElem?_map, List.getElem?_range hl]
      show some (g a) = some (f a)
      rw [h2 a e]
  · rw [List.getElem?_eq_none (by simpa using hl), List.getElem?_eq_none (by simpa using hl)]
    rfl
theorem zw_1 (h : ZH) (k i j : Nat) (x : Int32) (a : Nat) : (zw h k i j x).1 k i a = if a = j then x else h.1 k i a := by
  show (if k = k ∧ i = i ∧ a = j then x else _) = _
  simp
theorem zwr_2 (h : ZH) (k i j : Nat) (x : Option Nat) (a : Nat) : (zwr h k i j x).2 k i a = if a = j then x else h.2 k i a := by
  show (if k = k ∧ i = i ∧ a = j then x else _) = _
  simp
theorem zE_put {G : ZG} {h : ZH} {k i j ci N : Nat} {x : Int32} (ho : zobj k = some (ci, N)) (hft : zft k j = 0) : zE G (zw h k i j x) k i = .inr (ci, ((List.range N).map (zfld G h k i)).set j (.int x)) := by
  unfold zE
  rw [ho]
  refine congrArg Sum.inr (congrArg (Prod.mk ci) (zmap_set N j _ _ _ ?_ (fun a e => ?_)))
  · unfold zfld
    rw [hft, zw_1, if_pos rfl]
    rfl
  · unfold zfld
    rw [zw_1, if_neg e]
    rfl
theorem zE_putR {G : ZG} {h : ZH} {k i j ci N : Nat} {q : Nat} (ho : zobj k = some (ci, N)) (hft : zft k j = 2) : zE G (zwr h k i j (some q)) k i = .inr (ci, ((List.range N).map (zfld G h k i)).set j (.ref (G.1 (ztk k j) q))) := by
  unfold zE
  rw [ho]
  refine congrArg Sum.inr (congrArg (Prod.mk ci) (zmap_set N j _ _ _ ?_ (fun a e => ?_)))
  · unfold zfld
    rw [hft, zwr_2, if_pos rfl]
    rfl
  · unfold zfld
    rw [zwr_2, if_neg e]
    rfl
theorem zo_putI {k i j idx ci N : Nat} {C : String} {T : u_T} {ty0 : Nat → FieldType} {ty : FieldType} {x : Int32} (hk : (k, i) ∈ zall) (ho : zobj k = some (ci, N)) (hc : vwCl[ci]? = some (C, T, N)) (hin : ∀ w ∈ u_ws C T N, w ∈ WS) (hty : ∀ k, k < N → parseFieldDescriptor (T k).2.2.1 = some (ty0 k)) (hnm : ∀ a, a < N → ∀ b, b < N → a ≠ b → (T a).2.1 ≠ (T b).2.1) (hj : j < N) (hlk : Cond.fieldLink M.1.cls idx (T j).1 (T j).2.1 (T j).2.2.1 ∈ WS) (hft : zft k j = 0) (hfin : (T j).2.2.2 = false) (htj : ty0 j = ty) (hn : narrow ty (.int x) = .int x) (hfit : fits ty (.int x) = true) (hd : decode M.2.1 pc = .ok (.putfield idx, 3)) (kk : EvAt d M (pc + 3) lv st (zw h k i j x) Q) : EvAt d M pc lv (vI x :: vQ (some (k, i)) :: st) h Q := by
  intro G p l e s m args below meth c H locs ls B hR hS hl
  obtain ⟨q0, e1, e2⟩ := zpos B.2.2.2.2.2.2.2.2.1 hk
  have he := e1 h
  have hset := e2 h (zw h k i j x) (zw_off h k i j x)
  rw [zE_put ho hft] at hset
  unfold zE at he
  rw [ho] at he
  refine va_put B.1 B.2.1 (Ts := WS) (fun w hw => zX_hts B hw) hin ty0 hty hnm B.2.2.2.2.2.1 B.2.2.2.2.2.2.2.1 hR (zD h B.2.2.2.2.2.2.2.2.1) hS q0 he hc j hj (zX_hts B hlk) (fun _ z => z) hfin (ty := ty) (v := .int x) (by rw [← htj]; exact hty j hj) hn hfit (by simpa using hj) hd (fun H1 locs1 hP1 hD1 hS1 => ?_)
  rw [hset] at hP1
  exact kk G p l e s m args below meth c H1 locs1 ls B hP1 hS1 hl
theorem zo_putR {k i j idx ci N q : Nat} {C : String} {T : u_T} {ty0 : Nat → FieldType} {ty : FieldType} (hk : (k, i) ∈ zall) (ho : zobj k = some (ci, N)) (hc : vwCl[ci]? = some (C, T, N)) (hin : ∀ w ∈ u_ws C T N, w ∈ WS) (hty : ∀ k, k < N → parseFieldDescriptor (T k).2.2.1 = some (ty0 k)) (hnm : ∀ a, a < N → ∀ b, b < N → a ≠ b → (T a).2.1 ≠ (T b).2.1) (hj : j < N) (hlk : Cond.fieldLink M.1.cls idx (T j).1 (T j).2.1 (T j).2.2.1 ∈ WS) (hft : zft k j = 2) (hfin : (T j).2.2.2 = false) (htj : ty0 j = ty) (hn : ∀ a, narrow ty (.ref a) = .ref a) (hfit : ∀ a, fits ty (.ref a) = true) (hd : decode M.2.1 pc = .ok (.putfield idx, 3)) (kk : EvAt d M (pc + 3) lv st (zwr h k i j (some q)) Q) : EvAt d M pc lv (vQ (some (ztk k j, q)) :: vQ (some (k, i)) :: st) h Q := by
  intro G p l e s m args below meth c H locs ls B hR hS hl
  obtain ⟨q0, e1, e2⟩ := zpos B.2.2.2.2.2.2.2.2.1 hk
  have he := e1 h
  have hset := e2 h (zwr h k i j (some q)) (zwr_off h k i j (some q))
  rw [zE_putR ho hft] at hset
  unfold zE at he
  rw [ho] at he
  refine va_put B.1 B.2.1 (Ts := WS) (fun w hw => zX_hts B hw) hin ty0 hty hnm B.2.2.2.2.2.1 B.2.2.2.2.2.2.2.1 hR (zD h B.2.2.2.2.2.2.2.2.1) hS q0 he hc j hj (zX_hts B hlk) (fun _ z => z) hfin (ty := ty) (v := .ref (G.1 (ztk k j) q)) (by rw [← htj]; exact hty j hj) (hn _) (hfit _) (by simpa using hj) hd (fun H1 locs1 hP1 hD1 hS1 => ?_)
  rw [hset] at hP1
  exact kk G p l e s m args below meth c H1 locs1 ls B hP1 hS1 hl
theorem ztys_at (G : ZG) {t : Nat} {ty : FieldType} (h : zarrT[t]? = some ty) : (ztys G)[t]? = some (G.2.2.1 t, ty) := by
  unfold ztys
  rw [List.getElem?_map, List.getElem?_zipIdx, h]
  simp
theorem zE_arr {G : ZG} {h : ZH} {k i : Nat} (ho : zobj k = none) (hra : zra k = 0) : zE G h k i = .inl (G.2.2.1 (zarr k), zLen k i, .inl (fun j => h.1 k i j)) := by
  unfold zE
  rw [ho, hra]
  rfl
theorem zE_arrQ {G : ZG} {h : ZH} {k i n : Nat} (ho : zobj k = none) (hra : zra k = n + 1) : zE G h k i = .inl (G.2.2.1 (zarr k), zLen k i, .inr (.inr (.inr (.inr (zav G h k i))))) := by
  unfold zE
  rw [ho, hra]
  rfl
theorem zE_ast {G : ZG} {h : ZH} {k i n : Nat} {x : Int32} (ho : zobj k = none) (hra : zra k = 0) : zE G (zw h k i n x) k i = .inl (G.2.2.1 (zarr k), zLen k i, .inl (upd (fun j => h.1 k i j) n x)) := by
  rw [zE_arr ho hra]
  refine congrArg Sum.inl (congrArg (Prod.mk _) (congrArg (Prod.mk _) (congrArg Sum.inl ?_)))
  funext a
  rw [zw_1]
  rfl
theorem zo_iald {k i : Nat} {x : Int32} (hk : (k, i) ∈ zall) (ho : zobj k = none) (hra : zra k = 0) (hat : zarrT[zarr k]? = some .int) (hin : vp_in x (zLen k i)) (hd : decode M.2.1 pc = .ok (.iaload, 1)) (kk : EvAt d M (pc + 1) lv (vI (zi h k i x.toNatClampNeg) :: st) h Q) : EvAt d M pc lv (vI x :: vQ (some (k, i)) :: st) h Q := by
  intro G p l e s m args below meth c H locs ls B hR hS hl
  obtain ⟨q0, e1, -⟩ := zpos B.2.2.2.2.2.2.2.2.1 hk
  have he := e1 h
  rw [zE_arr ho hra] at he
  exact va_iald B.1 B.2.1 B.2.2.2.2.2.2.2.1 hR q0 _ he (ztys_at G hat) hin hd (kk G p l e s m args below meth c H locs ls B hR hS hl)
theorem zo_cald {k i : Nat} {x : Int32} (hk : (k, i) ∈ zall) (ho : zobj k = none) (hra : zra k = 0) (hat : zarrT[zarr k]? = some .char) (hin : vp_in x (zLen k i)) (hd : decode M.2.1 pc = .ok (.caload, 1)) (kk : EvAt d M (pc + 1) lv (vI (zi h k i x.toNatClampNeg) :: st) h Q) : EvAt d M pc lv (vI x :: vQ (some (k, i)) :: st) h Q := by
  intro G p l e s m args below meth c H locs ls B hR hS hl
  obtain ⟨q0, e1, -⟩ := zpos B.2.2.2.2.2.2.2.2.1 hk
  have he := e1 h
  rw [zE_arr ho hra] at he
  exact va_cald B.1 B.2.1 B.2.2.2.2.2.2.2.1 hR q0 _ he (ztys_at G hat) hin hd (kk G p l e s m args below meth c H locs ls B hR hS hl)
theorem zo_zald {k i : Nat} {x : Int32} (hk : (k, i) ∈ zall) (ho : zobj k = none) (hra : zra k = 0) (hat : zarrT[zarr k]? = some .boolean) (hin : vp_in x (zLen k i)) (hd : decode M.2.1 pc = .ok (.baload, 1)) (kk : EvAt d M (pc + 1) lv (vI (zi h k i x.toNatClampNeg) :: st) h Q) : EvAt d M pc lv (vI x :: vQ (some (k, i)) :: st) h Q := by
  intro G p l e s m args below meth c H locs ls B hR hS hl
  obtain ⟨q0, e1, -⟩ := zpos B.2.2.2.2.2.2.2.2.1 hk
  have he := e1 h
  rw [zE_arr ho hra] at he
  exact va_zald B.1 B.2.1 B.2.2.2.2.2.2.2.1 hR q0 _ he (ztys_at G hat) hin hd (kk G p l e s m args below meth c H locs ls B hR hS hl)
theorem zo_iast {k i : Nat} {y x : Int32} (hk : (k, i) ∈ zall) (ho : zobj k = none) (hra : zra k = 0) (hat : zarrT[zarr k]? = some .int) (hin : vp_in y (zLen k i)) (hd : decode M.2.1 pc = .ok (.iastore, 1)) (kk : EvAt d M (pc + 1) lv st (zw h k i y.toNatClampNeg x) Q) : EvAt d M pc lv (vI x :: vI y :: vQ (some (k, i)) :: st) h Q := by
  intro G p l e s m args below meth c H locs ls B hR hS hl
  obtain ⟨q0, e1, e2⟩ := zpos B.2.2.2.2.2.2.2.2.1 hk
  have he := e1 h
  have hset := e2 h (zw h k i y.toNatClampNeg x) (zw_off h k i y.toNatClampNeg x)
  rw [zE_ast ho hra] at hset
  rw [zE_arr ho hra] at he
  refine va_iast B.1 B.2.1 B.2.2.2.2.2.2.2.1 hR (zD h B.2.2.2.2.2.2.2.2.1) hS q0 _ he (ztys_at G hat) hin hd (fun H1 locs1 hP1 hD1 hS1 => ?_)
  rw [hset] at hP1
  exact kk G p l e s m args below meth c H1 locs1 ls B hP1 hS1 hl
theorem zo_cast {k i : Nat} {y x : Int32} (hk : (k, i) ∈ zall) (ho : zobj k = none) (hra : zra k = 0) (hat : zarrT[zarr k]? = some .char) (hin : vp_in y (zLen k i)) (hd : decode M.2.1 pc = .ok (.castore, 1)) (kk : EvAt d M (pc + 1) lv st (zw h k i y.toNatClampNeg (vp_nar .char x)) Q) : EvAt d M pc lv (vI x :: vI y :: vQ (some (k, i)) :: st) h Q := by
  intro G p l e s m args below meth c H locs ls B hR hS hl
  obtain ⟨q0, e1, e2⟩ := zpos B.2.2.2.2.2.2.2.2.1 hk
  have he := e1 h
  have hset := e2 h (zw h k i y.toNatClampNeg (vp_nar .char x)) (zw_off h k i y.toNatClampNeg (vp_nar .char x))
  rw [zE_ast ho hra] at hset
  rw [zE_arr ho hra] at he
  refine va_cast B.1 B.2.1 B.2.2.2.2.2.2.2.1 hR (zD h B.2.2.2.2.2.2.2.2.1) hS q0 _ he (ztys_at G hat) hin hd (fun H1 locs1 hP1 hD1 hS1 => ?_)
  rw [hset] at hP1
  exact kk G p l e s m args below meth c H1 locs1 ls B hP1 hS1 hl
theorem zo_zast {k i : Nat} {y x : Int32} (hk : (k, i) ∈ zall) (ho : zobj k = none) (hra : zra k = 0) (hat : zarrT[zarr k]? = some .boolean) (hin : vp_in y (zLen k i)) (hd : decode M.2.1 pc = .ok (.bastore, 1)) (kk : EvAt d M (pc + 1) lv st (zw h k i y.toNatClampNeg (vp_nar .boolean x)) Q) : EvAt d M pc lv (vI x :: vI y :: vQ (some (k, i)) :: st) h Q := by
  intro G p l e s m args below meth c H locs ls B hR hS hl
  obtain ⟨q0, e1, e2⟩ := zpos B.2.2.2.2.2.2.2.2.1 hk
  have he := e1 h
  have hset := e2 h (zw h k i y.toNatClampNeg (vp_nar .boolean x)) (zw_off h k i y.toNatClampNeg (vp_nar .boolean x))
  rw [zE_ast ho hra] at hset
  rw [zE_arr ho hra] at he
  refine va_zast B.1 B.2.1 B.2.2.2.2.2.2.2.1 hR (zD h B.2.2.2.2.2.2.2.2.1) hS q0 _ he (ztys_at G hat) hin hd (fun H1 locs1 hP1 hD1 hS1 => ?_)
  rw [hset] at hP1
  exact kk G p l e s m args below meth c H1 locs1 ls B hP1 hS1 hl
theorem zo_alen {k i : Nat} {ty : FieldType} (hk : (k, i) ∈ zall) (ho : zobj k = none) (hat : zarrT[zarr k]? = some ty) (hd : decode M.2.1 pc = .ok (.arraylength, 1)) (kk : EvAt d M (pc + 1) lv (vI (nI (zLen k i)) :: st) h Q) : EvAt d M pc lv (vQ (some (k, i)) :: st) h Q := by
  intro G p l e s m args below meth c H locs ls B hR hS hl
  obtain ⟨q0, e1, -⟩ := zpos B.2.2.2.2.2.2.2.2.1 hk
  have he := e1 h
  unfold zE at he
  rw [ho] at he
  exact va_alen B.1 B.2.1 B.2.2.2.2.2.2.2.1 hR q0 _ he (ztys_at G hat) rfl hd (kk G p l e s m args below meth c H locs ls B hR hS hl)
theorem zo_aald1 {k i : Nat} {C : String} {x : Int32} (hk : (k, i) ∈ zall) (ho : zobj k = none) (hra : zra k = 1) (hat : zarrT[zarr k]? = some (.object C)) (hin : vp_in x (zLen k i)) (hd : decode M.2.1 pc = .ok (.aaload, 1)) (kk : EvAt d M (pc + 1) lv (vQ (some (zrf k i x.toNatClampNeg)) :: st) h Q) : EvAt d M pc lv (vI x :: vQ (some (k, i)) :: st) h Q := by
  intro G p l e s m args below meth c H locs ls B hR hS hl
  obtain ⟨q0, e1, -⟩ := zpos B.2.2.2.2.2.2.2.2.1 hk
  have he := e1 h
  rw [zE_arrQ ho hra] at he
  refine va_aldq B.1 B.2.1 B.2.2.2.2.2.2.2.1 hR q0 _ he (ztys_at G hat) hin hd ?_
  unfold zav
  rw [hra]
  exact kk G p l e s m args below meth c H locs ls B hR hS hl
theorem zo_aald2 {k i q : Nat} {C : String} {x : Int32} (hk : (k, i) ∈ zall) (ho : zobj k = none) (hra : zra k = 2) (hat : zarrT[zarr k]? = some (.object C)) (hin : vp_in x (zLen k i)) (hq : zr h k i x.toNatClampNeg = some q) (hd : decode M.2.1 pc = .ok (.aaload, 1)) (kk : EvAt d M (pc + 1) lv (vQ (some (ztk k 0, q)) :: st) h Q) : EvAt d M pc lv (vI x :: vQ (some (k, i)) :: st) h Q := by
  intro G p l e s m args below meth c H locs ls B hR hS hl
  obtain ⟨q0, e1, -⟩ := zpos B.2.2.2.2.2.2.2.2.1 hk
  have he := e1 h
  rw [zE_arrQ ho hra] at he
  refine va_aldq B.1 B.2.1 B.2.2.2.2.2.2.2.1 hR q0 _ he (ztys_at G hat) hin hd ?_
  unfold zav
  rw [hra]
  unfold zr at hq
  rw [hq]
  exact kk G p l e s m args below meth c H locs ls B hR hS hl
theorem zo_aast {k i q ci N : Nat} {r : vw_C} {y : Int32} (hk : (k, i) ∈ zall) (hkq : (ztk k 0, q) ∈ zall) (ho : zobj k = none) (hra : zra k = 2) (hoq : zobj (ztk k 0) = some (ci, N)) (hc : vwCl[ci]? = some r) (hat : zarrT[zarr k]? = some (.object r.1)) (hin : vp_in y (zLen k i)) (hd : decode M.2.1 pc = .ok (.aastore, 1)) (kk : EvAt d M (pc + 1) lv st (zwr h k i y.toNatClampNeg (some q)) Q) : EvAt d M pc lv (vQ (some (ztk k 0, q)) :: vI y :: vQ (some (k, i)) :: st) h Q := by
  intro G p l e s m args below meth c H locs ls B hR hS hl
  obtain ⟨q0, e1, e2⟩ := zpos B.2.2.2.2.2.2.2.2.1 hk
  obtain ⟨q1, f1, -⟩ := zpos B.2.2.2.2.2.2.2.2.1 hkq
  have he := e1 h
  have hf := f1 h
  have hset := e2 h (zwr h k i y.toNatClampNeg (some q)) (zwr_off h k i y.toNatClampNeg (some q))
  have hE : zE G (zwr h k i y.toNatClampNeg (some q)) k i = .inl (G.2.2.1 (zarr k), zLen k i, .inr (.inr (.inr (.inr (va_up (zav G h k i) y.toNatClampNeg (some (G.1 (ztk k 0) q))))))) := by
    rw [zE_arrQ ho hra]
    refine congrArg Sum.inl (congrArg (Prod.mk _) (congrArg (Prod.mk _) (congrArg (fun z => Sum.inr (Sum.inr (Sum.inr (Sum.inr z)))) ?_)))
    funext a
    unfold zav va_up
    rw [hra, zwr_2]
    by_cases e : a = y.toNatClampNeg
    · rw [if_pos e, if_pos e]; rfl
    · rw [if_neg e, if_neg e]
  rw [hE] at hset
  rw [zE_arrQ ho hra] at he
  unfold zE at hf
  rw [hoq] at hf
  refine va_astq B.1 B.2.1 B.2.2.2.2.2.2.2.1 hR (zD h B.2.2.2.2.2.2.2.2.1) hS q0 _ q1 ci he (ztys_at G hat) hf hc hin hd (fun H1 locs1 hP1 hD1 hS1 => ?_)
  rw [hset] at hP1
  exact kk G p l e s m args below meth c H1 locs1 ls B hP1 hS1 hl
theorem zS_call {G : ZG} {H0 H H1 : Heap} {locs L : List Loc} {st0 t : State} (hS : va_S (zA G) H0 H locs) (h0 : st0.heap = H) (e1 : H1 = t.heap) (hF : va_F (zA G) st0 t) (hL : ∀ q ∈ L, zA G q.base) : va_S (zA G) H0 H1 (locs ++ L) := by
  obtain ⟨f1, f2⟩ := hF
  rw [h0] at f1 f2
  refine ⟨by rw [e1]; exact Nat.le_trans hS.1 f1, fun q h1 h2 => ?_, fun q hq => ?_⟩
  · rw [e1, f2 q (Nat.lt_of_lt_of_le h1 hS.1) h2]
    exact hS.2.1 q h1 h2
  · rcases List.mem_append.mp hq with z | z
    · exact hS.2.2 q z
    · exact hL q z
def zCv (N : ZM) (C : String) (n : Nat) : Prop := Cond.code N.1 N.2.1 N.2.2.1 N.2.2.2 ∈ WS ∧ Cond.instanceMethod N.1 ∈ WS ∧ Cond.selects C N.1 N.1 ∈ WS ∧ Cond.initialized C ∈ WS ∧ (N.1.cls = C ∧ N.1.cls ≠ "java/lang/invoke/MethodHandle" ∧ N.1.cls ≠ "java/lang/invoke/VarHandle" ∧ (parseMethodDescriptor N.1.desc).map (fun d => d.parameters.length) = some n) ∧ N.2.2.1 ≤ 41
def zCs (N : ZM) (n : Nat) : Prop := Cond.code N.1 N.2.1 N.2.2.1 N.2.2.2 ∈ WS ∧ Cond.static N.1 ∈ WS ∧ Cond.initialized N.1.cls ∈ WS ∧ (N.1.cls ≠ "java/lang/invoke/MethodHandle" ∧ N.1.cls ≠ "java/lang/invoke/VarHandle" ∧ (parseMethodDescriptor N.1.desc).map (fun d => d.parameters.length) = some n) ∧ N.2.2.1 ≤ 41
theorem zgoodIn (M N : ZM) (hN : Cond.code N.1 N.2.1 N.2.2.1 N.2.2.2 ∈ WS) : GoodIn (zwsM M) (zwsM N) := by
  intro w hw
  rcases List.mem_cons.mp hw with rfl | hw
  · exact ⟨List.mem_cons_of_mem _ hN, Or.inl rfl⟩
  · exact ⟨List.mem_cons_of_mem _ hw, zgood w hw⟩
theorem zgoodIn2 {M N : ZM} {a : List Cond} (hN : Cond.code N.1 N.2.1 N.2.2.1 N.2.2.2 ∈ WS) (ha : ∀ w ∈ a, w ∈ WS) : GoodIn (zwsM M) (a ++ zwsM N) := by
  intro w hw
  rcases List.mem_append.mp hw with hw | hw
  · exact ⟨List.mem_cons_of_mem _ (ha w hw), zgood w (ha w hw)⟩
  · exact zgoodIn M N hN w hw
theorem zSum (G : ZG) : ∀ st : List ZV, ((st.map (zv G)).map fun v => v.category) = st.map zcat := by
  intro st
  rw [List.map_map]
  exact List.map_congr_left (fun v _ => zcat_zv G v)
theorem zo_callV {N : ZM} {Q0 : Option ZV → ZH → Prop} {as stk : List ZV} {k i idx ci Nf n : Nat} {C : String} {T : u_T} (hk : (k, i) ∈ zall) (ho : zobj k = some (ci, Nf)) (hc : vwCl[ci]? = some (C, T, Nf)) (hv : zCv N C n) (hlk : Cond.methodLink M.1.cls idx N.1 ∈ WS)
    (hn : as.length = n) (hst : stk = as.reverse ++ vQ (some (k, i)) :: st) (hcat : (st.map zcat).sum ≤ 8)
    (hd : decode M.2.1 pc = .ok (.invokevirtual idx, 3)) (kk : EvCall d N (vQ (some (k, i)) :: as) h Q0) (hq0 : ∀ r h', Q0 r h' → EvAt (d + 1) M (pc + 3) lv (r.toList ++ st) h' Q) : EvAt (d + 1) M pc lv stk h Q := by
  intro G p l e s m args below meth c H locs ls B hR hS hl
  obtain ⟨q0, e1, -⟩ := zpos B.2.2.2.2.2.2.2.2.1 hk
  have he := e1 h
  unfold zE at he
  rw [ho] at he
  obtain ⟨hN, hw2, hw3, hw4, hds, hnl⟩ := hv
  have hw : ∀ w ∈ ([.methodLink M.1.cls idx N.1, .instanceMethod N.1, .selects C N.1 N.1, .initialized C] : List Cond), w ∈ WS := by
    intro w hw
    simp only [List.mem_cons, List.not_mem_nil, or_false] at hw
    rcases hw with rfl | rfl | rfl | rfl
    · exact hlk
    · exact hw2
    · exact hw3
    · exact hw4
  have cw : CallW (rmD (d + 1)) s args M.1.cls C idx N.1 N.2.1 N.2.2.1 N.2.2.2 (zwsM N) (rmD d) 0 0 n := cwV n (Ts := zwsM M) B.2.2.2.2.1 (zgoodIn2 hN hw) rfl rfl rfl hds ⟨Nat.le_refl _, by show 8 + (N.2.2.1 + 11) + 60 * d ≤ 60 * (d + 1); omega⟩
  have hrun := va_runV (p := p) (e := e) (below := below) (meth := meth) (locs := locs) (cells := 0) (slots := 0) (b := G.1 k i) (As := as.map (zv G)) (rest := st.map (zv G)) (g := F0 m pc ls (stk.map (zv G))) ⟨B.1, B.2.1, B.2.2.2.1, B.2.2.2.2.2.1, B.2.2.2.2.1⟩ (kk l G B.2.2.2.2.2.2.2.2.1) cw ⟨zPc_blind G _ h, va_recv B.2.2.2.2.2.2.2.1 hR hc he, fun U hU hW => zPc_of (as := vQ (some (k, i)) :: as) hU hW hR B.2.2.2.2.2.2.2.1 B.2.2.2.2.2.2.2.2.2 hS⟩ rfl (by simpa using hn) hl.1 (by rw [hst]; simp; rfl) (lv_room (by rw [zSum]; exact hcat)) hd ⟨Nat.le_refl _, Nat.le_refl _⟩
  intro T hT X
  obtain ⟨v, st₀, t, T', L, h0, X', hL, e1, e2, ⟨r, h', ho, hQ, hrep, hF⟩, stp⟩ := hrun T hT X
  cases ho
  obtain ⟨t2, a1, b1⟩ := hq0 r h' hQ G p l e s m args below meth c T'.heap (locs ++ L) ls B (by rw [e1]; exact hrep) (zS_call hS h0 e1 hF hL) hl T' rfl X'
  refine ⟨t2, stp t2 ?_, b1⟩
  have hfr : (F0 m (pc + 3) ls ((r.toList ++ st).map (zv G))) = { F0 m pc ls (stk.map (zv G)) with pc := (F0 m pc ls (stk.map (zv G))).pc + 3, stack := (r.map (zv G)).toList ++ st.map (zv G) } := by
    cases r <;> simp
  rw [← hfr]
  exact a1
theorem zo_callS {N : ZM} {Q0 : Option ZV → ZH → Prop} {as stk : List ZV} {idx n : Nat} (hv : zCs N n) (hlk : Cond.methodLink M.1.cls idx N.1 ∈ WS)
    (hn : as.length = n) (hst : stk = as.reverse ++ st) (hcat : (st.map zcat).sum ≤ 8)
    (hd : decode M.2.1 pc = .ok (.invokestatic idx, 3)) (kk : EvCall d N as h Q0) (hq0 : ∀ r h', Q0 r h' → EvAt (d + 1) M (pc + 3) lv (r.toList ++ st) h' Q) : EvAt (d + 1) M pc lv stk h Q := by
  intro G p l e s m args below meth c H locs ls B hR hS hl
  obtain ⟨hN, hw2, hw3, hds, hnl⟩ := hv
  have hmem : ∀ w ∈ zwsM N, ∀ (a' : Array Value) (U : State), s.WarmedH U.vm → w.before a' U = true := fun w hw' a' U hW => by
    obtain ⟨g1, g2⟩ := zgoodIn M N hN w hw'
    exact word_at hW g2 (B.2.2.2.2.1 w g1)
  have cw : CallB (rmD (d + 1)) s args M.1.cls idx N.1 N.2.1 N.2.2.1 N.2.2.2 (zwsM N) (rmD d) 0 0 n ∧ (Cond.static N.1).before args s = true := ⟨⟨rfl, rfl, Nat.le_refl _, by show 8 + (N.2.2.1 + 11) + 60 * d ≤ 60 * (d + 1); omega, hmem, List.mem_cons_self, zX_hts B hN, zX_hts B hw3, ⟨hds.1, hds.2.1⟩, fun sig hs => by
      have h3 := hds.2.2
      rw [hs] at h3
      exact (Option.some.inj h3).symm, zX_hts B hlk⟩, zX_hts B hw2⟩
  have hrun := va_runS (p := p) (e := e) (below := below) (meth := meth) (locs := locs) (cells := 0) (slots := 0) (As := as.map (zv G)) (rest := st.map (zv G)) (g := F0 m pc ls (stk.map (zv G))) ⟨B.1, B.2.1, B.2.2.2.1, B.2.2.2.2.2.1, B.2.2.2.2.1⟩ (kk l G B.2.2.2.2.2.2.2.2.1) cw ⟨zPc_blind G _ h, fun U hU hW => zPc_of (as := as) hU hW hR B.2.2.2.2.2.2.2.1 B.2.2.2.2.2.2.2.2.2 hS⟩ rfl (by simpa using hn) hl.1 (by rw [hst]; simp) (lv_room (by rw [zSum]; exact hcat)) hd ⟨Nat.le_refl _, Nat.le_refl _⟩
  intro T hT X
  obtain ⟨v, st₀, t, T', L, h0, X', hL, e1, e2, ⟨r, h', ho, hQ, hrep, hF⟩, stp⟩ := hrun T hT X
  cases ho
  obtain ⟨t2, a1, b1⟩ := hq0 r h' hQ G p l e s m args below meth c T'.heap (locs ++ L) ls B (by rw [e1]; exact hrep) (zS_call hS h0 e1 hF hL) hl T' rfl X'
  refine ⟨t2, stp t2 ?_, b1⟩
  have hfr : (F0 m (pc + 3) ls ((r.toList ++ st).map (zv G))) = { F0 m pc ls (stk.map (zv G)) with pc := (F0 m pc ls (stk.map (zv G))).pc + 3, stack := (r.map (zv G)).toList ++ st.map (zv G) } := by
    cases r <;> simp
  rw [← hfr]
  exact a1
theorem zo_callK {N : ZM} {Q0 : Option ZV → ZH → Prop} {as stk : List ZV} {k i idx n : Nat} {C : String} (hrc : ∀ (G : ZG) (s : State) (H : Heap) (locs : List Loc), zConst G s s.heap → va_S (zA G) s.heap H locs → ∃ cell : Cell, H[G.1 k i]? = some cell ∧ cell.vm.isStatics = false ∧ s.vm.findClass C = some cell.cls) (hv : zCv N C n) (hlk : Cond.methodLink M.1.cls idx N.1 ∈ WS)
    (hn : as.length = n) (hst : stk = as.reverse ++ vQ (some (k, i)) :: st) (hcat : (st.map zcat).sum ≤ 8)
    (hd : decode M.2.1 pc = .ok (.invokevirtual idx, 3)) (kk : EvCall d N (vQ (some (k, i)) :: as) h Q0) (hq0 : ∀ r h', Q0 r h' → EvAt (d + 1) M (pc + 3) lv (r.toList ++ st) h' Q) : EvAt (d + 1) M pc lv stk h Q := by
  intro G p l e s m args below meth c H locs ls B hR hS hl
  obtain ⟨hN, hw2, hw3, hw4, hds, hnl⟩ := hv
  have hw : ∀ w ∈ ([.methodLink M.1.cls idx N.1, .instanceMethod N.1, .selects C N.1 N.1, .initialized C] : List Cond), w ∈ WS := by
    intro w hw
    simp only [List.mem_cons, List.not_mem_nil, or_false] at hw
    rcases hw with rfl | rfl | rfl | rfl
    · exact hlk
    · exact hw2
    · exact hw3
    · exact hw4
  have cw : CallW (rmD (d + 1)) s args M.1.cls C idx N.1 N.2.1 N.2.2.1 N.2.2.2 (zwsM N) (rmD d) 0 0 n := cwV n (Ts := zwsM M) B.2.2.2.2.1 (zgoodIn2 hN hw) rfl rfl rfl hds ⟨Nat.le_refl _, by show 8 + (N.2.2.1 + 11) + 60 * d ≤ 60 * (d + 1); omega⟩
  have hrun := va_runV (p := p) (e := e) (below := below) (meth := meth) (locs := locs) (cells := 0) (slots := 0) (b := G.1 k i) (As := as.map (zv G)) (rest := st.map (zv G)) (g := F0 m pc ls (stk.map (zv G))) ⟨B.1, B.2.1, B.2.2.2.1, B.2.2.2.2.2.1, B.2.2.2.2.1⟩ (kk l G B.2.2.2.2.2.2.2.2.1) cw ⟨zPc_blind G _ h, hrc G s H locs B.2.2.2.2.2.2.2.2.2 hS, fun U hU hW => zPc_of (as := vQ (some (k, i)) :: as) hU hW hR B.2.2.2.2.2.2.2.1 B.2.2.2.2.2.2.2.2.2 hS⟩ rfl (by simpa using hn) hl.1 (by rw [hst]; simp; rfl) (lv_room (by rw [zSum]; exact hcat)) hd ⟨Nat.le_refl _, Nat.le_refl _⟩
  intro T hT X
  obtain ⟨v, st₀, t, T', L, h0, X', hL, e1, e2, ⟨r, h', ho, hQ, hrep, hF⟩, stp⟩ := hrun T hT X
  cases ho
  obtain ⟨t2, a1, b1⟩ := hq0 r h' hQ G p l e s m args below meth c T'.heap (locs ++ L) ls B (by rw [e1]; exact hrep) (zS_call hS h0 e1 hF hL) hl T' rfl X'
  refine ⟨t2, stp t2 ?_, b1⟩
  have hfr : (F0 m (pc + 3) ls ((r.toList ++ st).map (zv G))) = { F0 m pc ls (stk.map (zv G)) with pc := (F0 m pc ls (stk.map (zv G))).pc + 3, stack := (r.map (zv G)).toList ++ st.map (zv G) } := by
    cases r <;> simp
  rw [← hfr]
  exact a1
theorem zo_callVI {N : ZM} {Q0 : Int32 → ZH → Prop} {as stk : List ZV} {k i idx ci Nf n : Nat} {C : String} {T : u_T} (hk : (k, i) ∈ zall) (ho : zobj k = some (ci, Nf)) (hc : vwCl[ci]? = some (C, T, Nf)) (hv : zCv N C n) (hlk : Cond.methodLink M.1.cls idx N.1 ∈ WS) (hn : as.length = n) (hst : stk = as.reverse ++ vQ (some (k, i)) :: st) (hcat : (st.map zcat).sum ≤ 8) (hd : decode M.2.1 pc = .ok (.invokevirtual idx, 3)) (kk : EvI d N (vQ (some (k, i)) :: as) h Q0) (hq0 : ∀ x h', Q0 x h' → EvAt (d + 1) M (pc + 3) lv (vI x :: st) h' Q) : EvAt (d + 1) M pc lv stk h Q := zo_callV hk ho hc hv hlk hn hst hcat hd kk (fun r h' ⟨x, e, hq⟩ => by subst e; exact hq0 x h' hq)
theorem zo_callVV {N : ZM} {Q0 : ZH → Prop} {as stk : List ZV} {k i idx ci Nf n : Nat} {C : String} {T : u_T} (hk : (k, i) ∈ zall) (ho : zobj k = some (ci, Nf)) (hc : vwCl[ci]? = some (C, T, Nf)) (hv : zCv N C n) (hlk : Cond.methodLink M.1.cls idx N.1 ∈ WS) (hn : as.length = n) (hst : stk = as.reverse ++ vQ (some (k, i)) :: st) (hcat : (st.map zcat).sum ≤ 8) (hd : decode M.2.1 pc = .ok (.invokevirtual idx, 3)) (kk : EvV d N (vQ (some (k, i)) :: as) h Q0) (hq0 : ∀ h', Q0 h' → EvAt (d + 1) M (pc + 3) lv st h' Q) : EvAt (d + 1) M pc lv stk h Q := zo_callV hk ho hc hv hlk hn hst hcat hd kk (fun r h' ⟨e, hq⟩ => by subst e; exact hq0 h' hq)
theorem zo_callVR {N : ZM} {kq : Nat} {Q0 : Option Nat → ZH → Prop} {as stk : List ZV} {k i idx ci Nf n : Nat} {C : String} {T : u_T} (hk : (k, i) ∈ zall) (ho : zobj k = some (ci, Nf)) (hc : vwCl[ci]? = some (C, T, Nf)) (hv : zCv N C n) (hlk : Cond.methodLink M.1.cls idx N.1 ∈ WS) (hn : as.length = n) (hst : stk = as.reverse ++ vQ (some (k, i)) :: st) (hcat : (st.map zcat).sum ≤ 8) (hd : decode M.2.1 pc = .ok (.invokevirtual idx, 3)) (kk : EvR kq d N (vQ (some (k, i)) :: as) h Q0) (hq0 : ∀ o h', (∀ i, o = some i → i < zcnt kq) → Q0 o h' → EvAt (d + 1) M (pc + 3) lv (vQ (o.map (Prod.mk kq)) :: st) h' Q) : EvAt (d + 1) M pc lv stk h Q := zo_callV hk ho hc hv hlk hn hst hcat hd kk (fun r h' ⟨o, e, hv, hq⟩ => by subst e; exact hq0 o h' hv hq)
theorem zo_callSI {N : ZM} {Q0 : Int32 → ZH → Prop} {as stk : List ZV} {idx n : Nat} (hv : zCs N n) (hlk : Cond.methodLink M.1.cls idx N.1 ∈ WS) (hn : as.length = n) (hst : stk = as.reverse ++ st) (hcat : (st.map zcat).sum ≤ 8) (hd : decode M.2.1 pc = .ok (.invokestatic idx, 3)) (kk : EvI d N as h Q0) (hq0 : ∀ x h', Q0 x h' → EvAt (d + 1) M (pc + 3) lv (vI x :: st) h' Q) : EvAt (d + 1) M pc lv stk h Q := zo_callS hv hlk hn hst hcat hd kk (fun r h' ⟨x, e, hq⟩ => by subst e; exact hq0 x h' hq)
theorem zo_callSV {N : ZM} {Q0 : ZH → Prop} {as stk : List ZV} {idx n : Nat} (hv : zCs N n) (hlk : Cond.methodLink M.1.cls idx N.1 ∈ WS) (hn : as.length = n) (hst : stk = as.reverse ++ st) (hcat : (st.map zcat).sum ≤ 8) (hd : decode M.2.1 pc = .ok (.invokestatic idx, 3)) (kk : EvV d N as h Q0) (hq0 : ∀ h', Q0 h' → EvAt (d + 1) M (pc + 3) lv st h' Q) : EvAt (d + 1) M pc lv stk h Q := zo_callS hv hlk hn hst hcat hd kk (fun r h' ⟨e, hq⟩ => by subst e; exact hq0 h' hq)
theorem zo_callSR {N : ZM} {kq : Nat} {Q0 : Option Nat → ZH → Prop} {as stk : List ZV} {idx n : Nat} (hv : zCs N n) (hlk : Cond.methodLink M.1.cls idx N.1 ∈ WS) (hn : as.length = n) (hst : stk = as.reverse ++ st) (hcat : (st.map zcat).sum ≤ 8) (hd : decode M.2.1 pc = .ok (.invokestatic idx, 3)) (kk : EvR kq d N as h Q0) (hq0 : ∀ o h', (∀ i, o = some i → i < zcnt kq) → Q0 o h' → EvAt (d + 1) M (pc + 3) lv (vQ (o.map (Prod.mk kq)) :: st) h' Q) : EvAt (d + 1) M pc lv stk h Q := zo_callS hv hlk hn hst hcat hd kk (fun r h' ⟨o, e, hv, hq⟩ => by subst e; exact hq0 o h' hv hq)
theorem zo_iretI {x : Int32} {Q : Int32 → ZH → Prop} (hr : M.2.2.2 = some .int) (hd : decode M.2.1 pc = .ok (.ireturn, 1)) (hq : Q x h) : EvAt d M pc lv (vI x :: []) h (zQI Q) := zo_iret hr hd ⟨x, rfl, hq⟩
theorem zo_zretI {x : Int32} {ty : FieldType} {Q : Int32 → ZH → Prop} (hr : M.2.2.2 = some ty) (hn : narrow ty (.int x) = .int x) (hd : decode M.2.1 pc = .ok (.ireturn, 1)) (hq : Q x h) : EvAt d M pc lv (vI x :: []) h (zQI Q) := zo_zret hr hn hd ⟨x, rfl, hq⟩
theorem zo_vretV {Q : ZH → Prop} (hr : M.2.2.2 = none) (hd : decode M.2.1 pc = .ok (.return_, 1)) (hq : Q h) : EvAt d M pc lv [] h (zQV Q) := zo_vret hr hd ⟨rfl, hq⟩
theorem zo_aretO {k : Nat} {o : Option Nat} {Q : Option Nat → ZH → Prop} {C : String} (hr : M.2.2.2 = some (.object C)) (hv : ∀ i, o = some i → i < zcnt k) (hd : decode M.2.1 pc = .ok (.areturn, 1)) (hq : Q o h) : EvAt d M pc lv (vQ (o.map (Prod.mk k)) :: []) h (zQR k Q) := zo_aret hr (Or.inl ⟨_, rfl⟩) hd ⟨o, rfl, hv, hq⟩
theorem zo_ifnullK {k : Nat} {o : Option Nat} {off : Int} {tgt : Nat} (hd : decode M.2.1 pc = .ok (.ifnull off, 3)) (ht : (pc : Int) + off = (tgt : Int)) (kt : o = none → EvAt d M tgt lv st h Q) (kf : ∀ i, o = some i → EvAt d M (pc + 3) lv st h Q) : EvAt d M pc lv (vQ (o.map (Prod.mk k)) :: st) h Q := zo_ifnull hd ht (fun e => kt (by cases o with | none => rfl | some i => cases e)) (fun q e => by cases o with | none => cases e | some i => exact kf i rfl)
theorem zo_ifnonnullK {k : Nat} {o : Option Nat} {off : Int} {tgt : Nat} (hd : decode M.2.1 pc = .ok (.ifnonnull off, 3)) (ht : (pc : Int) + off = (tgt : Int)) (kt : ∀ i, o = some i → EvAt d M tgt lv st h Q) (kf : o = none → EvAt d M (pc + 3) lv st h Q) : EvAt d M pc lv (vQ (o.map (Prod.mk k)) :: st) h Q := zo_ifnonnull hd ht (fun q e => by cases o with | none => cases e | some i => exact kt i rfl) (fun e => kf (by cases o with | none => rfl | some i => cases e))
theorem zo_acmpK_eq {k a b : Nat} {off : Int} {tgt : Nat} (hk : k < zkinds) (ha : a < zcnt k) (hb : b < zcnt k) (hd : decode M.2.1 pc = .ok (.if_acmp .eq off, 3)) (ht : (pc : Int) + off = (tgt : Int)) (kt : a = b → EvAt d M tgt lv st h Q) (kf : ¬ a = b → EvAt d M (pc + 3) lv st h Q) : EvAt d M pc lv (vQ (some (k, b)) :: vQ (some (k, a)) :: st) h Q := zo_acmp_eq (fun q e => by cases e; exact zin hk ha) (fun q e => by cases e; exact zin hk hb) hd ht (fun e => kt (by cases e; rfl)) (fun e => kf (fun z => e (by rw [z])))
theorem zo_acmpK_ne {k a b : Nat} {off : Int} {tgt : Nat} (hk : k < zkinds) (ha : a < zcnt k) (hb : b < zcnt k) (hd : decode M.2.1 pc = .ok (.if_acmp .ne off, 3)) (ht : (pc : Int) + off = (tgt : Int)) (kt : ¬ a = b → EvAt d M tgt lv st h Q) (kf : a = b → EvAt d M (pc + 3) lv st h Q) : EvAt d M pc lv (vQ (some (k, b)) :: vQ (some (k, a)) :: st) h Q := zo_acmp_ne (fun q e => by cases e; exact zin hk ha) (fun q e => by cases e; exact zin hk hb) hd ht (fun e => kt (fun z => e (by rw [z]))) (fun e => kf (by cases e; rfl))
theorem zo_entryF {d : Nat} {M : ZM} {as : List ZV} {h : ZH} {Q : Option ZV → ZH → Prop} (hy : plainFor M.1 = true) (hlen : (zloc as).length ≤ M.2.2.1)
    (k : EvAt d M 0 (zloc as ++ List.replicate (M.2.2.1 - (zloc as).length) none) [] h Q) : EvCall d M as h Q := by
  intro l G hO
  refine va_MetF (cc := M.2.1) (maxL := M.2.2.1) (ret := M.2.2.2) hy rfl ?_
  intro p e s m args below meth c s₁ B hml hv
  obtain ⟨rfl, hrep, hK, hC⟩ := hv
  have hts := atoms_spec (ws := zwsM M) B.pre
  have hown : s.vm.findClass M.1.cls = some m.cls := findClass_of_methodNamed B.named
  have hl := lv_entry (as.map (zv G)) (n := M.2.2.1) (by rw [zloc_len]; exact hlen)
  rw [lg_entry_eq]
  refine k G p l e s m _ below meth c s.heap [] _ ⟨B.exec, B.bytes, B.returns, hml, hts, hown, B.notSynchronized, hK, hO, hC⟩ hrep va_S.rf ?_
  unfold zLv
  rw [zloc_args]
  exact hl
end ZOps
end
section
def m_P_init : ZM := (⟨"SpooledPost", "<init>", "()V"⟩, prog_1_method_1_code, 1, none)
def m_R_init : ZM := (⟨"SpooledPost$Row", "<init>", "(I)V"⟩, prog_8_method_1_code, 2, none)
def m_S_init : ZM := (⟨"SpooledPost$Session", "<init>", "()V"⟩, prog_9_method_1_code, 2, none)
def m_O_init : ZM := (⟨"SpooledPost$Spool", "<init>", "()V"⟩, prog_10_method_1_code, 2, none)
def m_L_init : ZM := (⟨"SpooledPost$Letter", "<init>", "()V"⟩, prog_5_method_1_code, 2, none)
def m_C_init : ZM := (⟨"SpooledPost$Recipient", "<init>", "()V"⟩, prog_7_method_1_code, 1, none)
def m_D_init : ZM := (⟨"SpooledPost$PartReader", "<init>", "()V"⟩, prog_6_method_1_code, 1, none)
def m_P_type : ZM := (⟨"SpooledPost", "type", "(J)Z"⟩, prog_1_method_2_code, 5, some .boolean)
def m_P_typedLength : ZM := (⟨"SpooledPost", "typedLength", "(J)I"⟩, prog_1_method_19_code, 4, some .int)
def m_P_typedCode : ZM := (⟨"SpooledPost", "typedCode", "(JI)I"⟩, prog_1_method_18_code, 3, some .int)
def m_R_add : ZM := (⟨"SpooledPost$Row", "add", "(C)V"⟩, prog_8_method_4_code, 2, none)
def m_P_enter : ZM := (⟨"SpooledPost", "enter", "()I"⟩, prog_1_method_3_code, 2, some .int)
def m_P_takeTextLine : ZM := (⟨"SpooledPost", "takeTextLine", "()I"⟩, prog_1_method_33_code, 2, some .int)
def m_R_at : ZM := (⟨"SpooledPost$Row", "at", "(I)C"⟩, prog_8_method_3_code, 2, some .char)
def m_P_endText : ZM := (⟨"SpooledPost", "endText", "()I"⟩, prog_1_method_34_code, 2, some .int)
def m_O_isFull : ZM := (⟨"SpooledPost$Spool", "isFull", "()Z"⟩, prog_10_method_3_code, 1, some .boolean)
def m_P_spoolSession : ZM := (⟨"SpooledPost", "spoolSession", "()I"⟩, prog_1_method_35_code, 3, some .int)
def m_O_begin : ZM := (⟨"SpooledPost$Spool", "begin", "()LSpooledPost$Letter;"⟩, prog_10_method_4_code, 3, some (.object "SpooledPost$Letter"))
def m_O_write : ZM := (⟨"SpooledPost$Spool", "write", "()Z"⟩, prog_10_method_2_code, 1, some .boolean)
def m_L_begin : ZM := (⟨"SpooledPost$Letter", "begin", "(I)V"⟩, prog_5_method_2_code, 2, none)
def m_R_clear : ZM := (⟨"SpooledPost$Row", "clear", "()V"⟩, prog_8_method_2_code, 1, none)
def m_R_addRow : ZM := (⟨"SpooledPost$Row", "addRow", "(LSpooledPost$Row;)V"⟩, prog_8_method_6_code, 3, none)
def m_JM_min : ZM := (⟨"java/lang/Math", "min", "(II)I"⟩, prog_14_method_69_code, 2, some .int)
def m_L_address : ZM := (⟨"SpooledPost$Letter", "address", "(LSpooledPost$Row;I)V"⟩, prog_5_method_3_code, 4, none)
def m_O_seal : ZM := (⟨"SpooledPost$Spool", "seal", "(LSpooledPost$Letter;)Z"⟩, prog_10_method_5_code, 2, some .boolean)
def m_S_endTransaction : ZM := (⟨"SpooledPost$Session", "endTransaction", "()V"⟩, prog_9_method_3_code, 1, none)
def m_S_addTextLine : ZM := (⟨"SpooledPost$Session", "addTextLine", "(LSpooledPost$Row;I)V"⟩, prog_9_method_4_code, 3, none)
def m_R_addPiece : ZM := (⟨"SpooledPost$Row", "addPiece", "(LSpooledPost$Row;II)V"⟩, prog_8_method_5_code, 5, none)
def m_P_obey : ZM := (⟨"SpooledPost", "obey", "()I"⟩, prog_1_method_22_code, 2, some .int)
def m_P_commandOfLine : ZM := (⟨"SpooledPost", "commandOfLine", "()LSpooledPost$Command;"⟩, prog_1_method_23_code, 2, some (.object "SpooledPost$Command"))
def m_R_matches : ZM := (⟨"SpooledPost$Row", "matches", "(ILjava/lang/String;)Z"⟩, prog_8_method_8_code, 4, some .boolean)
def m_JS_length : ZM := (⟨"java/lang/String", "length", "()I"⟩, prog_15_method_54_code, 1, some .int)
def m_JS_coder : ZM := (⟨"java/lang/String", "coder", "()B"⟩, prog_15_method_152_code, 1, some .byte)
def m_G_small : ZM := (⟨"SpooledPost$Grammar", "small", "(C)C"⟩, prog_4_method_2_code, 1, some .char)
def m_JS_charAt : ZM := (⟨"java/lang/String", "charAt", "(I)C"⟩, prog_15_method_56_code, 2, some .char)
def m_JS_isLatin1 : ZM := (⟨"java/lang/String", "isLatin1", "()Z"⟩, prog_15_method_154_code, 1, some .boolean)
def m_JL_charAt : ZM := (⟨"java/lang/StringLatin1", "charAt", "([BI)C"⟩, prog_16_method_2_code, 2, some .char)
def m_JS_checkIndex : ZM := (⟨"java/lang/String", "checkIndex", "(II)V"⟩, prog_15_method_155_code, 2, none)
def m_JP_checkIndex : ZM := (⟨"jdk/internal/util/Preconditions", "checkIndex", "(IILjava/util/function/BiFunction;)I"⟩, prog_19_method_11_code, 3, some .int)
def m_JU_charAt : ZM := (⟨"java/lang/StringUTF16", "charAt", "([BI)C"⟩, prog_17_method_83_code, 2, some .char)
def m_JU_checkIndex : ZM := (⟨"java/lang/StringUTF16", "checkIndex", "(I[B)V"⟩, prog_17_method_91_code, 2, none)
def m_JU_length : ZM := (⟨"java/lang/StringUTF16", "length", "([B)I"⟩, prog_17_method_6_code, 1, some .int)
def m_JU_getChar : ZM := (⟨"java/lang/StringUTF16", "getChar", "([BI)C"⟩, prog_17_method_5_code, 2, some .char)
def m_P_isWrittenRight : ZM := (⟨"SpooledPost", "isWrittenRight", "(LSpooledPost$Command;)Z"⟩, prog_1_method_24_code, 2, some .boolean)
def m_JE_ordinal : ZM := (⟨"java/lang/Enum", "ordinal", "()I"⟩, prog_13_method_2_code, 1, some .int)
def m_G_isDomain : ZM := (⟨"SpooledPost$Grammar", "isDomain", "(LSpooledPost$Row;II)Z"⟩, prog_4_method_6_code, 7, some .boolean)
def m_G_isLetterOrDigit : ZM := (⟨"SpooledPost$Grammar", "isLetterOrDigit", "(C)Z"⟩, prog_4_method_3_code, 1, some .boolean)
def m_P_isBracketed : ZM := (⟨"SpooledPost", "isBracketed", "(Ljava/lang/String;)Z"⟩, prog_1_method_25_code, 2, some .boolean)
def m_P_isBracketEmpty : ZM := (⟨"SpooledPost", "isBracketEmpty", "(Ljava/lang/String;)Z"⟩, prog_1_method_26_code, 2, some .boolean)
def m_P_bracketStart : ZM := (⟨"SpooledPost", "bracketStart", "(Ljava/lang/String;)I"⟩, prog_1_method_28_code, 1, some .int)
def m_P_isPathIn : ZM := (⟨"SpooledPost", "isPathIn", "(Ljava/lang/String;)Z"⟩, prog_1_method_27_code, 2, some .boolean)
def m_G_isPath : ZM := (⟨"SpooledPost$Grammar", "isPath", "(LSpooledPost$Row;II)Z"⟩, prog_4_method_4_code, 4, some .boolean)
def m_G_isLocal : ZM := (⟨"SpooledPost$Grammar", "isLocal", "(LSpooledPost$Row;II)Z"⟩, prog_4_method_5_code, 7, some .boolean)
def m_P_greet : ZM := (⟨"SpooledPost", "greet", "()I"⟩, prog_1_method_29_code, 1, some .int)
def m_P_beginTransaction : ZM := (⟨"SpooledPost", "beginTransaction", "()I"⟩, prog_1_method_30_code, 1, some .int)
def m_P_addRecipient : ZM := (⟨"SpooledPost", "addRecipient", "()I"⟩, prog_1_method_31_code, 2, some .int)
def m_P_beginText : ZM := (⟨"SpooledPost", "beginText", "()I"⟩, prog_1_method_32_code, 1, some .int)
def m_S_forget : ZM := (⟨"SpooledPost$Session", "forget", "()V"⟩, prog_9_method_2_code, 1, none)
def m_P_breakAfter : ZM := (⟨"SpooledPost", "breakAfter", "(I)Z"⟩, prog_1_method_4_code, 2, some .boolean)
def m_P_restart : ZM := (⟨"SpooledPost", "restart", "()I"⟩, prog_1_method_5_code, 1, some .int)
def m_O_recover : ZM := (⟨"SpooledPost$Spool", "recover", "()V"⟩, prog_10_method_6_code, 2, none)
def m_O_drop : ZM := (⟨"SpooledPost$Spool", "drop", "(LSpooledPost$Letter;)V"⟩, prog_10_method_7_code, 5, none)
def m_O_sealedCount : ZM := (⟨"SpooledPost$Spool", "sealedCount", "()I"⟩, prog_10_method_8_code, 3, some .int)
def m_P_pass : ZM := (⟨"SpooledPost", "pass", "(I)I"⟩, prog_1_method_6_code, 2, some .int)
def m_P_next : ZM := (⟨"SpooledPost", "next", "()I"⟩, prog_1_method_7_code, 2, some .int)
def m_O_holderOfNext : ZM := (⟨"SpooledPost$Spool", "holderOfNext", "(I)LSpooledPost$Letter;"⟩, prog_10_method_11_code, 6, some (.object "SpooledPost$Letter"))
def m_L_firstDue : ZM := (⟨"SpooledPost$Letter", "firstDue", "(I)LSpooledPost$Recipient;"⟩, prog_5_method_6_code, 6, some (.object "SpooledPost$Recipient"))
def m_P_reply : ZM := (⟨"SpooledPost", "reply", "(I)I"⟩, prog_1_method_8_code, 4, some .int)
def m_P_isReplyCode : ZM := (⟨"SpooledPost", "isReplyCode", "(I)Z"⟩, prog_1_method_20_code, 1, some .boolean)
def m_P_settle : ZM := (⟨"SpooledPost", "settle", "(LSpooledPost$Letter;LSpooledPost$Recipient;I)I"⟩, prog_1_method_36_code, 4, some .int)
def m_L_isAwaited : ZM := (⟨"SpooledPost$Letter", "isAwaited", "()Z"⟩, prog_5_method_5_code, 2, some .boolean)
def m_P_postpone : ZM := (⟨"SpooledPost", "postpone", "(LSpooledPost$Recipient;)I"⟩, prog_1_method_37_code, 2, some .int)
def m_P_giveBack : ZM := (⟨"SpooledPost", "giveBack", "(LSpooledPost$Letter;LSpooledPost$Recipient;)I"⟩, prog_1_method_38_code, 4, some .int)
def m_P_spoolReturn : ZM := (⟨"SpooledPost", "spoolReturn", "(LSpooledPost$Letter;LSpooledPost$Recipient;)Z"⟩, prog_1_method_39_code, 4, some .boolean)
def m_R_addWords : ZM := (⟨"SpooledPost$Row", "addWords", "(Ljava/lang/String;)V"⟩, prog_8_method_7_code, 3, none)
def m_P_state : ZM := (⟨"SpooledPost", "state", "()I"⟩, prog_1_method_9_code, 1, some .int)
def m_P_letters : ZM := (⟨"SpooledPost", "letters", "()I"⟩, prog_1_method_10_code, 1, some .int)
def m_P_letter : ZM := (⟨"SpooledPost", "letter", "(I)I"⟩, prog_1_method_11_code, 2, some .int)
def m_O_sealedNumber : ZM := (⟨"SpooledPost$Spool", "sealedNumber", "(I)I"⟩, prog_10_method_9_code, 4, some .int)
def m_P_text : ZM := (⟨"SpooledPost", "text", "(II)C"⟩, prog_1_method_12_code, 4, some .char)
def m_O_find : ZM := (⟨"SpooledPost$Spool", "find", "(I)LSpooledPost$Letter;"⟩, prog_10_method_10_code, 3, some (.object "SpooledPost$Letter"))
def m_P_path : ZM := (⟨"SpooledPost", "path", "(III)C"⟩, prog_1_method_13_code, 6, some .char)
def m_L_recipientAt : ZM := (⟨"SpooledPost$Letter", "recipientAt", "(I)LSpooledPost$Recipient;"⟩, prog_5_method_4_code, 2, some (.object "SpooledPost$Recipient"))
def m_P_recipient : ZM := (⟨"SpooledPost", "recipient", "(II)I"⟩, prog_1_method_14_code, 4, some .int)
def m_P_findRecipient : ZM := (⟨"SpooledPost", "findRecipient", "(II)LSpooledPost$Recipient;"⟩, prog_1_method_21_code, 4, some (.object "SpooledPost$Recipient"))
def m_P_due : ZM := (⟨"SpooledPost", "due", "(II)I"⟩, prog_1_method_15_code, 4, some .int)
def m_P_parts : ZM := (⟨"SpooledPost", "parts", "(I)I"⟩, prog_1_method_16_code, 3, some .int)
def m_D_read : ZM := (⟨"SpooledPost$PartReader", "read", "(LSpooledPost$Letter;)V"⟩, prog_6_method_2_code, 2, none)
def m_D_splitLines : ZM := (⟨"SpooledPost$PartReader", "splitLines", "()V"⟩, prog_6_method_4_code, 2, none)
def m_D_takePart : ZM := (⟨"SpooledPost$PartReader", "takePart", "(III)Z"⟩, prog_6_method_6_code, 7, some .boolean)
def m_D_findHeadEnd : ZM := (⟨"SpooledPost$PartReader", "findHeadEnd", "(II)I"⟩, prog_6_method_8_code, 4, some .int)
def m_D_lineEnd : ZM := (⟨"SpooledPost$PartReader", "lineEnd", "(I)I"⟩, prog_6_method_5_code, 2, some .int)
def m_D_isHeadRight : ZM := (⟨"SpooledPost$PartReader", "isHeadRight", "(II)Z"⟩, prog_6_method_9_code, 5, some .boolean)
def m_D_isField : ZM := (⟨"SpooledPost$PartReader", "isField", "(I)Z"⟩, prog_6_method_10_code, 6, some .boolean)
def m_D_findBoundary : ZM := (⟨"SpooledPost$PartReader", "findBoundary", "(II)I"⟩, prog_6_method_11_code, 4, some .int)
def m_D_findBoundaryBetween : ZM := (⟨"SpooledPost$PartReader", "findBoundaryBetween", "(II)I"⟩, prog_6_method_12_code, 7, some .int)
def m_D_boundaryLength : ZM := (⟨"SpooledPost$PartReader", "boundaryLength", "(I)I"⟩, prog_6_method_13_code, 3, some .int)
def m_D_takeBody : ZM := (⟨"SpooledPost$PartReader", "takeBody", "(IIII)Z"⟩, prog_6_method_7_code, 9, some .boolean)
def m_D_borderKind : ZM := (⟨"SpooledPost$PartReader", "borderKind", "(III)I"⟩, prog_6_method_14_code, 6, some .int)
def m_D_isDashed : ZM := (⟨"SpooledPost$PartReader", "isDashed", "(I)Z"⟩, prog_6_method_15_code, 2, some .boolean)
def m_D_repeats : ZM := (⟨"SpooledPost$PartReader", "repeats", "(III)Z"⟩, prog_6_method_16_code, 5, some .boolean)
def m_P_part : ZM := (⟨"SpooledPost", "part", "(III)I"⟩, prog_1_method_17_code, 5, some .int)
def m_D_fact : ZM := (⟨"SpooledPost$PartReader", "fact", "(II)I"⟩, prog_6_method_3_code, 3, some .int)
def m_M_init : ZM := (⟨"SpooledPostModel", "<init>", "()V"⟩, prog_12_method_1_code, 2, none)
def m_M_type : ZM := (⟨"SpooledPostModel", "type", "(J)Z"⟩, prog_12_method_5_code, 5, some .boolean)
def m_M_enter : ZM := (⟨"SpooledPostModel", "enter", "()I"⟩, prog_12_method_24_code, 2, some .int)
def m_M_textLine : ZM := (⟨"SpooledPostModel", "textLine", "()I"⟩, prog_12_method_23_code, 2, some .int)
def m_M_put : ZM := (⟨"SpooledPostModel", "put", "(II)V"⟩, prog_12_method_22_code, 3, none)
def m_M_spooled : ZM := (⟨"SpooledPostModel", "spooled", "()I"⟩, prog_12_method_6_code, 3, some .int)
def m_M_spool : ZM := (⟨"SpooledPostModel", "spool", "(I)Z"⟩, prog_12_method_10_code, 5, some .boolean)
def m_M_write : ZM := (⟨"SpooledPostModel", "write", "()Z"⟩, prog_12_method_8_code, 1, some .boolean)
def m_M_breakDown : ZM := (⟨"SpooledPostModel", "breakDown", "()V"⟩, prog_12_method_7_code, 1, none)
def m_M_copyPath : ZM := (⟨"SpooledPostModel", "copyPath", "(II)V"⟩, prog_12_method_9_code, 4, none)
def m_M_command : ZM := (⟨"SpooledPostModel", "command", "()I"⟩, prog_12_method_19_code, 3, some .int)
def m_M_wordCode : ZM := (⟨"SpooledPostModel", "wordCode", "()I"⟩, prog_12_method_16_code, 2, some .int)
def m_M_charAt : ZM := (⟨"SpooledPostModel", "charAt", "(I)I"⟩, prog_12_method_14_code, 2, some .int)
def m_M_lower : ZM := (⟨"SpooledPostModel", "lower", "(I)I"⟩, prog_12_method_4_code, 1, some .int)
def m_M_fits : ZM := (⟨"SpooledPostModel", "fits", "(I)Z"⟩, prog_12_method_17_code, 2, some .boolean)
def m_M_isDomain : ZM := (⟨"SpooledPostModel", "isDomain", "(II)Z"⟩, prog_12_method_11_code, 7, some .boolean)
def m_M_isAlnum : ZM := (⟨"SpooledPostModel", "isAlnum", "(I)Z"⟩, prog_12_method_3_code, 1, some .boolean)
def m_M_isLetter : ZM := (⟨"SpooledPostModel", "isLetter", "(I)Z"⟩, prog_12_method_2_code, 1, some .boolean)
def m_M_bracketed : ZM := (⟨"SpooledPostModel", "bracketed", "(Z)Z"⟩, prog_12_method_15_code, 4, some .boolean)
def m_M_isPath : ZM := (⟨"SpooledPostModel", "isPath", "(II)Z"⟩, prog_12_method_13_code, 4, some .boolean)
def m_M_isLocal : ZM := (⟨"SpooledPostModel", "isLocal", "(II)Z"⟩, prog_12_method_12_code, 7, some .boolean)
def m_M_mail : ZM := (⟨"SpooledPostModel", "mail", "()I"⟩, prog_12_method_20_code, 1, some .int)
def m_M_keepPath : ZM := (⟨"SpooledPostModel", "keepPath", "(II)V"⟩, prog_12_method_18_code, 4, none)
def m_M_recipient0 : ZM := (⟨"SpooledPostModel", "recipient", "()I"⟩, prog_12_method_21_code, 1, some .int)
def m_M_breakAfter : ZM := (⟨"SpooledPostModel", "breakAfter", "(I)Z"⟩, prog_12_method_25_code, 2, some .boolean)
def m_M_restart : ZM := (⟨"SpooledPostModel", "restart", "()I"⟩, prog_12_method_26_code, 2, some .int)
def m_M_letters : ZM := (⟨"SpooledPostModel", "letters", "()I"⟩, prog_12_method_51_code, 3, some .int)
def m_M_isLetterAt : ZM := (⟨"SpooledPostModel", "isLetterAt", "(I)Z"⟩, prog_12_method_28_code, 2, some .boolean)
def m_M_pass : ZM := (⟨"SpooledPostModel", "pass", "(I)I"⟩, prog_12_method_27_code, 2, some .int)
def m_M_next : ZM := (⟨"SpooledPostModel", "next", "()I"⟩, prog_12_method_30_code, 2, some .int)
def m_M_nextOne : ZM := (⟨"SpooledPostModel", "nextOne", "()I"⟩, prog_12_method_29_code, 6, some .int)
def m_M_reply : ZM := (⟨"SpooledPostModel", "reply", "(I)I"⟩, prog_12_method_34_code, 4, some .int)
def m_M_tell : ZM := (⟨"SpooledPostModel", "tell", "(II)Z"⟩, prog_12_method_33_code, 4, some .boolean)
def m_M_at : ZM := (⟨"SpooledPostModel", "at", "(JJI)I"⟩, prog_12_method_32_code, 5, some .int)
def m_M_tidy : ZM := (⟨"SpooledPostModel", "tidy", "(I)V"⟩, prog_12_method_31_code, 4, none)
def m_M_parts : ZM := (⟨"SpooledPostModel", "parts", "(I)I"⟩, prog_12_method_48_code, 3, some .int)
def m_M_placeOf : ZM := (⟨"SpooledPostModel", "placeOf", "(I)I"⟩, prog_12_method_35_code, 4, some .int)
def m_M_divided : ZM := (⟨"SpooledPostModel", "divided", "(I)Z"⟩, prog_12_method_47_code, 7, some .boolean)
def m_M_findLines : ZM := (⟨"SpooledPostModel", "findLines", "(I)V"⟩, prog_12_method_36_code, 3, none)
def m_M_headEnd : ZM := (⟨"SpooledPostModel", "headEnd", "(II)I"⟩, prog_12_method_41_code, 4, some .int)
def m_M_isEmpty : ZM := (⟨"SpooledPostModel", "isEmpty", "(I)Z"⟩, prog_12_method_38_code, 2, some .boolean)
def m_M_endOf : ZM := (⟨"SpooledPostModel", "endOf", "(I)I"⟩, prog_12_method_37_code, 2, some .int)
def m_M_rightHead : ZM := (⟨"SpooledPostModel", "rightHead", "(II)Z"⟩, prog_12_method_42_code, 5, some .boolean)
def m_M_colon : ZM := (⟨"SpooledPostModel", "colon", "(I)I"⟩, prog_12_method_40_code, 3, some .int)
def m_M_isMulti : ZM := (⟨"SpooledPostModel", "isMulti", "(II)Z"⟩, prog_12_method_44_code, 5, some .boolean)
def m_M_matches : ZM := (⟨"SpooledPostModel", "matches", "(IIJJI)Z"⟩, prog_12_method_39_code, 10, some .boolean)
def m_M_boundary : ZM := (⟨"SpooledPostModel", "boundary", "(II)Z"⟩, prog_12_method_43_code, 5, some .boolean)
def m_M_divide : ZM := (⟨"SpooledPostModel", "divide", "(III)Z"⟩, prog_12_method_46_code, 8, some .boolean)
def m_M_border : ZM := (⟨"SpooledPostModel", "border", "(I)I"⟩, prog_12_method_45_code, 6, some .int)
def m_M_part : ZM := (⟨"SpooledPostModel", "part", "(III)I"⟩, prog_12_method_49_code, 5, some .int)
def m_M_state : ZM := (⟨"SpooledPostModel", "state", "()I"⟩, prog_12_method_50_code, 1, some .int)
def m_M_letter : ZM := (⟨"SpooledPostModel", "letter", "(I)I"⟩, prog_12_method_52_code, 7, some .int)
def m_M_text : ZM := (⟨"SpooledPostModel", "text", "(II)C"⟩, prog_12_method_53_code, 4, some .char)
def m_M_path : ZM := (⟨"SpooledPostModel", "path", "(III)C"⟩, prog_12_method_54_code, 6, some .char)
def m_M_recipient1 : ZM := (⟨"SpooledPostModel", "recipient", "(II)I"⟩, prog_12_method_55_code, 4, some .int)
def m_M_due : ZM := (⟨"SpooledPostModel", "due", "(II)I"⟩, prog_12_method_56_code, 4, some .int)
end
section
theorem d_P_type_0 : decode prog_1_method_2_code 0 = .ok (.lload_n 1, 1) := by decide +kernel
theorem d_P_type_1 : decode prog_1_method_2_code 1 = .ok (.invokestatic 43, 3) := by decide +kernel
theorem d_P_type_4 : decode prog_1_method_2_code 4 = .ok (.istore_n 3, 1) := by decide +kernel
theorem d_P_type_5 : decode prog_1_method_2_code 5 = .ok (.aload_n 0, 1) := by decide +kernel
theorem d_P_type_6 : decode prog_1_method_2_code 6 = .ok (.getfield 28, 3) := by decide +kernel
theorem d_P_type_9 : decode prog_1_method_2_code 9 = .ok (.getfield 47, 3) := by decide +kernel
theorem d_P_type_12 : decode prog_1_method_2_code 12 = .ok (.ifCond .ne 22, 3) := by decide +kernel
theorem d_P_type_15 : decode prog_1_method_2_code 15 = .ok (.iload_n 3, 1) := by decide +kernel
theorem d_P_type_16 : decode prog_1_method_2_code 16 = .ok (.iconst (-1), 1) := by decide +kernel
theorem d_P_type_17 : decode prog_1_method_2_code 17 = .ok (.if_icmp .eq 17, 3) := by decide +kernel
theorem d_P_type_20 : decode prog_1_method_2_code 20 = .ok (.aload_n 0, 1) := by decide +kernel
theorem d_P_type_21 : decode prog_1_method_2_code 21 = .ok (.getfield 14, 3) := by decide +kernel
theorem d_P_type_24 : decode prog_1_method_2_code 24 = .ok (.getfield 51, 3) := by decide +kernel
theorem d_P_type_27 : decode prog_1_method_2_code 27 = .ok (.iload_n 3, 1) := by decide +kernel
theorem d_P_type_28 : decode prog_1_method_2_code 28 = .ok (.iadd, 1) := by decide +kernel
theorem d_P_type_29 : decode prog_1_method_2_code 29 = .ok (.bipush 72, 2) := by decide +kernel
theorem d_P_type_31 : decode prog_1_method_2_code 31 = .ok (.if_icmp .le 5, 3) := by decide +kernel
theorem d_P_type_34 : decode prog_1_method_2_code 34 = .ok (.iconst 0, 1) := by decide +kernel
theorem d_P_type_35 : decode prog_1_method_2_code 35 = .ok (.ireturn, 1) := by decide +kernel
theorem d_P_type_36 : decode prog_1_method_2_code 36 = .ok (.iconst 0, 1) := by decide +kernel
theorem d_P_type_37 : decode prog_1_method_2_code 37 = .ok (.istore 4, 2) := by decide +kernel
theorem d_P_type_39 : decode prog_1_method_2_code 39 = .ok (.iload 4, 2) := by decide +kernel
theorem d_P_type_41 : decode prog_1_method_2_code 41 = .ok (.iload_n 3, 1) := by decide +kernel
theorem d_P_type_42 : decode prog_1_method_2_code 42 = .ok (.if_icmp .ge 23, 3) := by decide +kernel
theorem d_P_type_45 : decode prog_1_method_2_code 45 = .ok (.aload_n 0, 1) := by decide +kernel
theorem d_P_type_46 : decode prog_1_method_2_code 46 = .ok (.getfield 14, 3) := by decide +kernel
theorem d_P_type_49 : decode prog_1_method_2_code 49 = .ok (.lload_n 1, 1) := by decide +kernel
theorem d_P_type_50 : decode prog_1_method_2_code 50 = .ok (.iload 4, 2) := by decide +kernel
theorem d_P_type_52 : decode prog_1_method_2_code 52 = .ok (.invokestatic 54, 3) := by decide +kernel
theorem d_P_type_55 : decode prog_1_method_2_code 55 = .ok (.i2c, 1) := by decide +kernel
theorem d_P_type_56 : decode prog_1_method_2_code 56 = .ok (.invokevirtual 58, 3) := by decide +kernel
theorem d_P_type_59 : decode prog_1_method_2_code 59 = .ok (.iinc 4 1, 3) := by decide +kernel
theorem d_P_type_62 : decode prog_1_method_2_code 62 = .ok (.goto (-23), 3) := by decide +kernel
theorem d_P_type_65 : decode prog_1_method_2_code 65 = .ok (.iconst 1, 1) := by decide +kernel
theorem d_P_type_66 : decode prog_1_method_2_code 66 = .ok (.ireturn, 1) := by decide +kernel
theorem d_P_typedLength_0 : decode prog_1_method_19_code 0 = .ok (.iconst 0, 1) := by decide +kernel
theorem d_P_typedLength_1 : decode prog_1_method_19_code 1 = .ok (.istore_n 2, 1) := by decide +kernel
theorem d_P_typedLength_2 : decode prog_1_method_19_code 2 = .ok (.iload_n 2, 1) := by decide +kernel
theorem d_P_typedLength_3 : decode prog_1_method_19_code 3 = .ok (.bipush 8, 2) := by decide +kernel
theorem d_P_typedLength_5 : decode prog_1_method_19_code 5 = .ok (.if_icmp .ge 35, 3) := by decide +kernel
theorem d_P_typedLength_8 : decode prog_1_method_19_code 8 = .ok (.lload_n 0, 1) := by decide +kernel
theorem d_P_typedLength_9 : decode prog_1_method_19_code 9 = .ok (.iload_n 2, 1) := by decide +kernel
theorem d_P_typedLength_10 : decode prog_1_method_19_code 10 = .ok (.invokestatic 54, 3) := by decide +kernel
theorem d_P_typedLength_13 : decode prog_1_method_19_code 13 = .ok (.istore_n 3, 1) := by decide +kernel
theorem d_P_typedLength_14 : decode prog_1_method_19_code 14 = .ok (.iload_n 3, 1) := by decide +kernel
theorem d_P_typedLength_15 : decode prog_1_method_19_code 15 = .ok (.ifCond .ne 5, 3) := by decide +kernel
theorem d_P_typedLength_18 : decode prog_1_method_19_code 18 = .ok (.iload_n 2, 1) := by decide +kernel
theorem d_P_typedLength_19 : decode prog_1_method_19_code 19 = .ok (.ireturn, 1) := by decide +kernel
theorem d_P_typedLength_20 : decode prog_1_method_19_code 20 = .ok (.iload_n 3, 1) := by decide +kernel
theorem d_P_typedLength_21 : decode prog_1_method_19_code 21 = .ok (.bipush 32, 2) := by decide +kernel
theorem d_P_typedLength_23 : decode prog_1_method_19_code 23 = .ok (.if_icmp .lt 9, 3) := by decide +kernel
theorem d_P_typedLength_26 : decode prog_1_method_19_code 26 = .ok (.iload_n 3, 1) := by decide +kernel
theorem d_P_typedLength_27 : decode prog_1_method_19_code 27 = .ok (.bipush 126, 2) := by decide +kernel
theorem d_P_typedLength_29 : decode prog_1_method_19_code 29 = .ok (.if_icmp .le 5, 3) := by decide +kernel
theorem d_P_typedLength_32 : decode prog_1_method_19_code 32 = .ok (.iconst (-1), 1) := by decide +kernel
theorem d_P_typedLength_33 : decode prog_1_method_19_code 33 = .ok (.ireturn, 1) := by decide +kernel
theorem d_P_typedLength_34 : decode prog_1_method_19_code 34 = .ok (.iinc 2 1, 3) := by decide +kernel
theorem d_P_typedLength_37 : decode prog_1_method_19_code 37 = .ok (.goto (-35), 3) := by decide +kernel
theorem d_P_typedLength_40 : decode prog_1_method_19_code 40 = .ok (.bipush 8, 2) := by decide +kernel
theorem d_P_typedLength_42 : decode prog_1_method_19_code 42 = .ok (.ireturn, 1) := by decide +kernel
theorem d_P_typedCode_0 : decode prog_1_method_18_code 0 = .ok (.lload_n 0, 1) := by decide +kernel
theorem d_P_typedCode_1 : decode prog_1_method_18_code 1 = .ok (.bipush 8, 2) := by decide +kernel
theorem d_P_typedCode_3 : decode prog_1_method_18_code 3 = .ok (.iload_n 2, 1) := by decide +kernel
theorem d_P_typedCode_4 : decode prog_1_method_18_code 4 = .ok (.imul, 1) := by decide +kernel
theorem d_P_typedCode_5 : decode prog_1_method_18_code 5 = .ok (.lushr, 1) := by decide +kernel
theorem d_P_typedCode_6 : decode prog_1_method_18_code 6 = .ok (.ldc2_w 171, 3) := by decide +kernel
theorem d_P_typedCode_9 : decode prog_1_method_18_code 9 = .ok (.land, 1) := by decide +kernel
theorem d_P_typedCode_10 : decode prog_1_method_18_code 10 = .ok (.l2i, 1) := by decide +kernel
theorem d_P_typedCode_11 : decode prog_1_method_18_code 11 = .ok (.ireturn, 1) := by decide +kernel
theorem d_R_add_0 : decode prog_8_method_4_code 0 = .ok (.aload_n 0, 1) := by decide +kernel
theorem d_R_add_1 : decode prog_8_method_4_code 1 = .ok (.getfield 13, 3) := by decide +kernel
theorem d_R_add_4 : decode prog_8_method_4_code 4 = .ok (.aload_n 0, 1) := by decide +kernel
theorem d_R_add_5 : decode prog_8_method_4_code 5 = .ok (.getfield 7, 3) := by decide +kernel
theorem d_R_add_8 : decode prog_8_method_4_code 8 = .ok (.arraylength, 1) := by decide +kernel
theorem d_R_add_9 : decode prog_8_method_4_code 9 = .ok (.if_icmp .ge 23, 3) := by decide +kernel
theorem d_R_add_12 : decode prog_8_method_4_code 12 = .ok (.aload_n 0, 1) := by decide +kernel
theorem d_R_add_13 : decode prog_8_method_4_code 13 = .ok (.getfield 7, 3) := by decide +kernel
theorem d_R_add_16 : decode prog_8_method_4_code 16 = .ok (.aload_n 0, 1) := by decide +kernel
theorem d_R_add_17 : decode prog_8_method_4_code 17 = .ok (.getfield 13, 3) := by decide +kernel
theorem d_R_add_20 : decode prog_8_method_4_code 20 = .ok (.iload_n 1, 1) := by decide +kernel
theorem d_R_add_21 : decode prog_8_method_4_code 21 = .ok (.castore, 1) := by decide +kernel
theorem d_R_add_22 : decode prog_8_method_4_code 22 = .ok (.aload_n 0, 1) := by decide +kernel
theorem d_R_add_23 : decode prog_8_method_4_code 23 = .ok (.dup, 1) := by decide +kernel
theorem d_R_add_24 : decode prog_8_method_4_code 24 = .ok (.getfield 13, 3) := by decide +kernel
theorem d_R_add_27 : decode prog_8_method_4_code 27 = .ok (.iconst 1, 1) := by decide +kernel
theorem d_R_add_28 : decode prog_8_method_4_code 28 = .ok (.iadd, 1) := by decide +kernel
theorem d_R_add_29 : decode prog_8_method_4_code 29 = .ok (.putfield 13, 3) := by decide +kernel
theorem d_R_add_32 : decode prog_8_method_4_code 32 = .ok (.return_, 1) := by decide +kernel
theorem d_P_enter_0 : decode prog_1_method_3_code 0 = .ok (.aload_n 0, 1) := by decide +kernel
theorem d_P_enter_1 : decode prog_1_method_3_code 1 = .ok (.getfield 28, 3) := by decide +kernel
theorem d_P_enter_4 : decode prog_1_method_3_code 4 = .ok (.getfield 47, 3) := by decide +kernel
theorem d_P_enter_7 : decode prog_1_method_3_code 7 = .ok (.ifCond .eq 5, 3) := by decide +kernel
theorem d_P_enter_10 : decode prog_1_method_3_code 10 = .ok (.iconst (-1), 1) := by decide +kernel
theorem d_P_enter_11 : decode prog_1_method_3_code 11 = .ok (.ireturn, 1) := by decide +kernel
theorem d_P_enter_12 : decode prog_1_method_3_code 12 = .ok (.aload_n 0, 1) := by decide +kernel
theorem d_P_enter_13 : decode prog_1_method_3_code 13 = .ok (.getfield 21, 3) := by decide +kernel
theorem d_P_enter_16 : decode prog_1_method_3_code 16 = .ok (.getfield 62, 3) := by decide +kernel
theorem d_P_enter_19 : decode prog_1_method_3_code 19 = .ok (.ifCond .eq 10, 3) := by decide +kernel
theorem d_P_enter_22 : decode prog_1_method_3_code 22 = .ok (.aload_n 0, 1) := by decide +kernel
theorem d_P_enter_23 : decode prog_1_method_3_code 23 = .ok (.invokevirtual 65, 3) := by decide +kernel
theorem d_P_enter_26 : decode prog_1_method_3_code 26 = .ok (.goto 7, 3) := by decide +kernel
theorem d_P_enter_29 : decode prog_1_method_3_code 29 = .ok (.aload_n 0, 1) := by decide +kernel
theorem d_P_enter_30 : decode prog_1_method_3_code 30 = .ok (.invokevirtual 69, 3) := by decide +kernel
theorem d_P_enter_33 : decode prog_1_method_3_code 33 = .ok (.istore_n 1, 1) := by decide +kernel
theorem d_P_enter_34 : decode prog_1_method_3_code 34 = .ok (.aload_n 0, 1) := by decide +kernel
theorem d_P_enter_35 : decode prog_1_method_3_code 35 = .ok (.getfield 14, 3) := by decide +kernel
theorem d_P_enter_38 : decode prog_1_method_3_code 38 = .ok (.invokevirtual 72, 3) := by decide +kernel
theorem d_P_enter_41 : decode prog_1_method_3_code 41 = .ok (.iload_n 1, 1) := by decide +kernel
theorem d_P_enter_42 : decode prog_1_method_3_code 42 = .ok (.ireturn, 1) := by decide +kernel
theorem d_P_takeTextLine_0 : decode prog_1_method_33_code 0 = .ok (.aload_n 0, 1) := by decide +kernel
theorem d_P_takeTextLine_1 : decode prog_1_method_33_code 1 = .ok (.getfield 14, 3) := by decide +kernel
theorem d_P_takeTextLine_4 : decode prog_1_method_33_code 4 = .ok (.iconst 0, 1) := by decide +kernel
theorem d_P_takeTextLine_5 : decode prog_1_method_33_code 5 = .ok (.invokevirtual 137, 3) := by decide +kernel
theorem d_P_takeTextLine_8 : decode prog_1_method_33_code 8 = .ok (.bipush 46, 2) := by decide +kernel
theorem d_P_takeTextLine_10 : decode prog_1_method_33_code 10 = .ok (.if_icmp .ne 7, 3) := by decide +kernel
theorem d_P_takeTextLine_13 : decode prog_1_method_33_code 13 = .ok (.iconst 1, 1) := by decide +kernel
theorem d_P_takeTextLine_14 : decode prog_1_method_33_code 14 = .ok (.goto 4, 3) := by decide +kernel
theorem d_P_takeTextLine_17 : decode prog_1_method_33_code 17 = .ok (.iconst 0, 1) := by decide +kernel
theorem d_P_takeTextLine_18 : decode prog_1_method_33_code 18 = .ok (.istore_n 1, 1) := by decide +kernel
theorem d_P_takeTextLine_19 : decode prog_1_method_33_code 19 = .ok (.iload_n 1, 1) := by decide +kernel
theorem d_P_takeTextLine_20 : decode prog_1_method_33_code 20 = .ok (.ifCond .eq 19, 3) := by decide +kernel
theorem d_P_takeTextLine_23 : decode prog_1_method_33_code 23 = .ok (.aload_n 0, 1) := by decide +kernel
theorem d_P_takeTextLine_24 : decode prog_1_method_33_code 24 = .ok (.getfield 14, 3) := by decide +kernel
theorem d_P_takeTextLine_27 : decode prog_1_method_33_code 27 = .ok (.getfield 51, 3) := by decide +kernel
theorem d_P_takeTextLine_30 : decode prog_1_method_33_code 30 = .ok (.iconst 1, 1) := by decide +kernel
theorem d_P_takeTextLine_31 : decode prog_1_method_33_code 31 = .ok (.if_icmp .ne 8, 3) := by decide +kernel
theorem d_P_takeTextLine_34 : decode prog_1_method_33_code 34 = .ok (.aload_n 0, 1) := by decide +kernel
theorem d_P_takeTextLine_35 : decode prog_1_method_33_code 35 = .ok (.invokevirtual 270, 3) := by decide +kernel
theorem d_P_takeTextLine_38 : decode prog_1_method_33_code 38 = .ok (.ireturn, 1) := by decide +kernel
theorem d_P_takeTextLine_39 : decode prog_1_method_33_code 39 = .ok (.aload_n 0, 1) := by decide +kernel
theorem d_P_takeTextLine_40 : decode prog_1_method_33_code 40 = .ok (.getfield 21, 3) := by decide +kernel
theorem d_P_takeTextLine_43 : decode prog_1_method_33_code 43 = .ok (.aload_n 0, 1) := by decide +kernel
theorem d_P_takeTextLine_44 : decode prog_1_method_33_code 44 = .ok (.getfield 14, 3) := by decide +kernel
theorem d_P_takeTextLine_47 : decode prog_1_method_33_code 47 = .ok (.iload_n 1, 1) := by decide +kernel
theorem d_P_takeTextLine_48 : decode prog_1_method_33_code 48 = .ok (.ifCond .eq 7, 3) := by decide +kernel
theorem d_P_takeTextLine_51 : decode prog_1_method_33_code 51 = .ok (.iconst 1, 1) := by decide +kernel
theorem d_P_takeTextLine_52 : decode prog_1_method_33_code 52 = .ok (.goto 4, 3) := by decide +kernel
theorem d_P_takeTextLine_55 : decode prog_1_method_33_code 55 = .ok (.iconst 0, 1) := by decide +kernel
theorem d_P_takeTextLine_56 : decode prog_1_method_33_code 56 = .ok (.invokevirtual 273, 3) := by decide +kernel
theorem d_P_takeTextLine_59 : decode prog_1_method_33_code 59 = .ok (.iconst 0, 1) := by decide +kernel
theorem d_P_takeTextLine_60 : decode prog_1_method_33_code 60 = .ok (.ireturn, 1) := by decide +kernel
theorem d_R_at_0 : decode prog_8_method_3_code 0 = .ok (.iload_n 1, 1) := by decide +kernel
theorem d_R_at_1 : decode prog_8_method_3_code 1 = .ok (.ifCond .lt 20, 3) := by decide +kernel
theorem d_R_at_4 : decode prog_8_method_3_code 4 = .ok (.iload_n 1, 1) := by decide +kernel
theorem d_R_at_5 : decode prog_8_method_3_code 5 = .ok (.aload_n 0, 1) := by decide +kernel
theorem d_R_at_6 : decode prog_8_method_3_code 6 = .ok (.getfield 13, 3) := by decide +kernel
theorem d_R_at_9 : decode prog_8_method_3_code 9 = .ok (.if_icmp .ge 12, 3) := by decide +kernel
theorem d_R_at_12 : decode prog_8_method_3_code 12 = .ok (.aload_n 0, 1) := by decide +kernel
theorem d_R_at_13 : decode prog_8_method_3_code 13 = .ok (.getfield 7, 3) := by decide +kernel
theorem d_R_at_16 : decode prog_8_method_3_code 16 = .ok (.iload_n 1, 1) := by decide +kernel
theorem d_R_at_17 : decode prog_8_method_3_code 17 = .ok (.caload, 1) := by decide +kernel
theorem d_R_at_18 : decode prog_8_method_3_code 18 = .ok (.goto 4, 3) := by decide +kernel
theorem d_R_at_21 : decode prog_8_method_3_code 21 = .ok (.iconst 0, 1) := by decide +kernel
theorem d_R_at_22 : decode prog_8_method_3_code 22 = .ok (.ireturn, 1) := by decide +kernel
theorem d_P_endText_0 : decode prog_1_method_34_code 0 = .ok (.aload_n 0, 1) := by decide +kernel
theorem d_P_endText_1 : decode prog_1_method_34_code 1 = .ok (.getfield 21, 3) := by decide +kernel
theorem d_P_endText_4 : decode prog_1_method_34_code 4 = .ok (.getfield 266, 3) := by decide +kernel
theorem d_P_endText_7 : decode prog_1_method_34_code 7 = .ok (.ifCond .eq 9, 3) := by decide +kernel
theorem d_P_endText_10 : decode prog_1_method_34_code 10 = .ok (.sipush 552, 3) := by decide +kernel
theorem d_P_endText_13 : decode prog_1_method_34_code 13 = .ok (.goto 23, 3) := by decide +kernel
theorem d_P_endText_16 : decode prog_1_method_34_code 16 = .ok (.aload_n 0, 1) := by decide +kernel
theorem d_P_endText_17 : decode prog_1_method_34_code 17 = .ok (.getfield 28, 3) := by decide +kernel
theorem d_P_endText_20 : decode prog_1_method_34_code 20 = .ok (.invokevirtual 250, 3) := by decide +kernel
theorem d_P_endText_23 : decode prog_1_method_34_code 23 = .ok (.ifCond .eq 9, 3) := by decide +kernel
theorem d_P_endText_26 : decode prog_1_method_34_code 26 = .ok (.sipush 452, 3) := by decide +kernel
theorem d_P_endText_29 : decode prog_1_method_34_code 29 = .ok (.goto 7, 3) := by decide +kernel
theorem d_P_endText_32 : decode prog_1_method_34_code 32 = .ok (.aload_n 0, 1) := by decide +kernel
theorem d_P_endText_33 : decode prog_1_method_34_code 33 = .ok (.invokevirtual 277, 3) := by decide +kernel
theorem d_P_endText_36 : decode prog_1_method_34_code 36 = .ok (.istore_n 1, 1) := by decide +kernel
theorem d_P_endText_37 : decode prog_1_method_34_code 37 = .ok (.aload_n 0, 1) := by decide +kernel
theorem d_P_endText_38 : decode prog_1_method_34_code 38 = .ok (.getfield 21, 3) := by decide +kernel
theorem d_P_endText_41 : decode prog_1_method_34_code 41 = .ok (.invokevirtual 204, 3) := by decide +kernel
theorem d_P_endText_44 : decode prog_1_method_34_code 44 = .ok (.iload_n 1, 1) := by decide +kernel
theorem d_P_endText_45 : decode prog_1_method_34_code 45 = .ok (.ireturn, 1) := by decide +kernel
theorem d_O_isFull_0 : decode prog_10_method_3_code 0 = .ok (.aload_n 0, 1) := by decide +kernel
theorem d_O_isFull_1 : decode prog_10_method_3_code 1 = .ok (.getfield 26, 3) := by decide +kernel
theorem d_O_isFull_4 : decode prog_10_method_3_code 4 = .ok (.bipush 6, 2) := by decide +kernel
theorem d_O_isFull_6 : decode prog_10_method_3_code 6 = .ok (.if_icmp .lt 7, 3) := by decide +kernel
theorem d_O_isFull_9 : decode prog_10_method_3_code 9 = .ok (.iconst 1, 1) := by decide +kernel
theorem d_O_isFull_10 : decode prog_10_method_3_code 10 = .ok (.goto 4, 3) := by decide +kernel
theorem d_O_isFull_13 : decode prog_10_method_3_code 13 = .ok (.iconst 0, 1) := by decide +kernel
theorem d_O_isFull_14 : decode prog_10_method_3_code 14 = .ok (.ireturn, 1) := by decide +kernel
theorem d_P_spoolSession_0 : decode prog_1_method_35_code 0 = .ok (.aload_n 0, 1) := by decide +kernel
theorem d_P_spoolSession_1 : decode prog_1_method_35_code 1 = .ok (.getfield 28, 3) := by decide +kernel
theorem d_P_spoolSession_4 : decode prog_1_method_35_code 4 = .ok (.invokevirtual 280, 3) := by decide +kernel
theorem d_P_spoolSession_7 : decode prog_1_method_35_code 7 = .ok (.astore_n 1, 1) := by decide +kernel
theorem d_P_spoolSession_8 : decode prog_1_method_35_code 8 = .ok (.aload_n 1, 1) := by decide +kernel
theorem d_P_spoolSession_9 : decode prog_1_method_35_code 9 = .ok (.ifnonnull 5, 3) := by decide +kernel
theorem d_P_spoolSession_12 : decode prog_1_method_35_code 12 = .ok (.iconst 0, 1) := by decide +kernel
theorem d_P_spoolSession_13 : decode prog_1_method_35_code 13 = .ok (.ireturn, 1) := by decide +kernel
theorem d_P_spoolSession_14 : decode prog_1_method_35_code 14 = .ok (.aload_n 1, 1) := by decide +kernel
theorem d_P_spoolSession_15 : decode prog_1_method_35_code 15 = .ok (.getfield 141, 3) := by decide +kernel
theorem d_P_spoolSession_18 : decode prog_1_method_35_code 18 = .ok (.aload_n 0, 1) := by decide +kernel
theorem d_P_spoolSession_19 : decode prog_1_method_35_code 19 = .ok (.getfield 21, 3) := by decide +kernel
theorem d_P_spoolSession_22 : decode prog_1_method_35_code 22 = .ok (.getfield 254, 3) := by decide +kernel
theorem d_P_spoolSession_25 : decode prog_1_method_35_code 25 = .ok (.invokevirtual 284, 3) := by decide +kernel
theorem d_P_spoolSession_28 : decode prog_1_method_35_code 28 = .ok (.iconst 0, 1) := by decide +kernel
theorem d_P_spoolSession_29 : decode prog_1_method_35_code 29 = .ok (.istore_n 2, 1) := by decide +kernel
theorem d_P_spoolSession_30 : decode prog_1_method_35_code 30 = .ok (.iload_n 2, 1) := by decide +kernel
theorem d_P_spoolSession_31 : decode prog_1_method_35_code 31 = .ok (.aload_n 0, 1) := by decide +kernel
theorem d_P_spoolSession_32 : decode prog_1_method_35_code 32 = .ok (.getfield 21, 3) := by decide +kernel
theorem d_P_spoolSession_35 : decode prog_1_method_35_code 35 = .ok (.getfield 259, 3) := by decide +kernel
theorem d_P_spoolSession_38 : decode prog_1_method_35_code 38 = .ok (.if_icmp .ge 26, 3) := by decide +kernel
theorem d_P_spoolSession_41 : decode prog_1_method_35_code 41 = .ok (.aload_n 1, 1) := by decide +kernel
theorem d_P_spoolSession_42 : decode prog_1_method_35_code 42 = .ok (.aload_n 0, 1) := by decide +kernel
theorem d_P_spoolSession_43 : decode prog_1_method_35_code 43 = .ok (.getfield 21, 3) := by decide +kernel
theorem d_P_spoolSession_46 : decode prog_1_method_35_code 46 = .ok (.getfield 262, 3) := by decide +kernel
theorem d_P_spoolSession_49 : decode prog_1_method_35_code 49 = .ok (.iload_n 2, 1) := by decide +kernel
theorem d_P_spoolSession_50 : decode prog_1_method_35_code 50 = .ok (.aaload, 1) := by decide +kernel
theorem d_P_spoolSession_51 : decode prog_1_method_35_code 51 = .ok (.aload_n 0, 1) := by decide +kernel
theorem d_P_spoolSession_52 : decode prog_1_method_35_code 52 = .ok (.getfield 39, 3) := by decide +kernel
theorem d_P_spoolSession_55 : decode prog_1_method_35_code 55 = .ok (.invokevirtual 288, 3) := by decide +kernel
theorem d_P_spoolSession_58 : decode prog_1_method_35_code 58 = .ok (.iinc 2 1, 3) := by decide +kernel
theorem d_P_spoolSession_61 : decode prog_1_method_35_code 61 = .ok (.goto (-31), 3) := by decide +kernel
theorem d_P_spoolSession_64 : decode prog_1_method_35_code 64 = .ok (.aload_n 1, 1) := by decide +kernel
theorem d_P_spoolSession_65 : decode prog_1_method_35_code 65 = .ok (.getfield 134, 3) := by decide +kernel
theorem d_P_spoolSession_68 : decode prog_1_method_35_code 68 = .ok (.aload_n 0, 1) := by decide +kernel
theorem d_P_spoolSession_69 : decode prog_1_method_35_code 69 = .ok (.getfield 21, 3) := by decide +kernel
theorem d_P_spoolSession_72 : decode prog_1_method_35_code 72 = .ok (.getfield 269, 3) := by decide +kernel
theorem d_P_spoolSession_75 : decode prog_1_method_35_code 75 = .ok (.invokevirtual 284, 3) := by decide +kernel
theorem d_P_spoolSession_78 : decode prog_1_method_35_code 78 = .ok (.aload_n 0, 1) := by decide +kernel
theorem d_P_spoolSession_79 : decode prog_1_method_35_code 79 = .ok (.getfield 28, 3) := by decide +kernel
theorem d_P_spoolSession_82 : decode prog_1_method_35_code 82 = .ok (.aload_n 1, 1) := by decide +kernel
theorem d_P_spoolSession_83 : decode prog_1_method_35_code 83 = .ok (.invokevirtual 291, 3) := by decide +kernel
theorem d_P_spoolSession_86 : decode prog_1_method_35_code 86 = .ok (.ifCond .eq 9, 3) := by decide +kernel
theorem d_P_spoolSession_89 : decode prog_1_method_35_code 89 = .ok (.sipush 250, 3) := by decide +kernel
theorem d_P_spoolSession_92 : decode prog_1_method_35_code 92 = .ok (.goto 4, 3) := by decide +kernel
theorem d_P_spoolSession_95 : decode prog_1_method_35_code 95 = .ok (.iconst 0, 1) := by decide +kernel
theorem d_P_spoolSession_96 : decode prog_1_method_35_code 96 = .ok (.ireturn, 1) := by decide +kernel
theorem d_O_begin_0 : decode prog_10_method_4_code 0 = .ok (.aload_n 0, 1) := by decide +kernel
theorem d_O_begin_1 : decode prog_10_method_4_code 1 = .ok (.invokevirtual 29, 3) := by decide +kernel
theorem d_O_begin_4 : decode prog_10_method_4_code 4 = .ok (.ifCond .eq 5, 3) := by decide +kernel
theorem d_O_begin_7 : decode prog_10_method_4_code 7 = .ok (.aconst_null, 1) := by decide +kernel
theorem d_O_begin_8 : decode prog_10_method_4_code 8 = .ok (.areturn, 1) := by decide +kernel
theorem d_O_begin_9 : decode prog_10_method_4_code 9 = .ok (.aload_n 0, 1) := by decide +kernel
theorem d_O_begin_10 : decode prog_10_method_4_code 10 = .ok (.getfield 33, 3) := by decide +kernel
theorem d_O_begin_13 : decode prog_10_method_4_code 13 = .ok (.istore_n 1, 1) := by decide +kernel
theorem d_O_begin_14 : decode prog_10_method_4_code 14 = .ok (.aload_n 0, 1) := by decide +kernel
theorem d_O_begin_15 : decode prog_10_method_4_code 15 = .ok (.dup, 1) := by decide +kernel
theorem d_O_begin_16 : decode prog_10_method_4_code 16 = .ok (.getfield 33, 3) := by decide +kernel
theorem d_O_begin_19 : decode prog_10_method_4_code 19 = .ok (.iconst 1, 1) := by decide +kernel
theorem d_O_begin_20 : decode prog_10_method_4_code 20 = .ok (.iadd, 1) := by decide +kernel
theorem d_O_begin_21 : decode prog_10_method_4_code 21 = .ok (.putfield 33, 3) := by decide +kernel
theorem d_O_begin_24 : decode prog_10_method_4_code 24 = .ok (.aload_n 0, 1) := by decide +kernel
theorem d_O_begin_25 : decode prog_10_method_4_code 25 = .ok (.invokevirtual 36, 3) := by decide +kernel
theorem d_O_begin_28 : decode prog_10_method_4_code 28 = .ok (.ifCond .ne 5, 3) := by decide +kernel
theorem d_O_begin_31 : decode prog_10_method_4_code 31 = .ok (.aconst_null, 1) := by decide +kernel
theorem d_O_begin_32 : decode prog_10_method_4_code 32 = .ok (.areturn, 1) := by decide +kernel
theorem d_O_begin_33 : decode prog_10_method_4_code 33 = .ok (.aload_n 0, 1) := by decide +kernel
theorem d_O_begin_34 : decode prog_10_method_4_code 34 = .ok (.getfield 11, 3) := by decide +kernel
theorem d_O_begin_37 : decode prog_10_method_4_code 37 = .ok (.aload_n 0, 1) := by decide +kernel
theorem d_O_begin_38 : decode prog_10_method_4_code 38 = .ok (.getfield 26, 3) := by decide +kernel
theorem d_O_begin_41 : decode prog_10_method_4_code 41 = .ok (.aaload, 1) := by decide +kernel
theorem d_O_begin_42 : decode prog_10_method_4_code 42 = .ok (.astore_n 2, 1) := by decide +kernel
theorem d_O_begin_43 : decode prog_10_method_4_code 43 = .ok (.aload_n 2, 1) := by decide +kernel
theorem d_O_begin_44 : decode prog_10_method_4_code 44 = .ok (.iload_n 1, 1) := by decide +kernel
theorem d_O_begin_45 : decode prog_10_method_4_code 45 = .ok (.invokevirtual 39, 3) := by decide +kernel
theorem d_O_begin_48 : decode prog_10_method_4_code 48 = .ok (.aload_n 0, 1) := by decide +kernel
theorem d_O_begin_49 : decode prog_10_method_4_code 49 = .ok (.dup, 1) := by decide +kernel
theorem d_O_begin_50 : decode prog_10_method_4_code 50 = .ok (.getfield 26, 3) := by decide +kernel
theorem d_O_begin_53 : decode prog_10_method_4_code 53 = .ok (.iconst 1, 1) := by decide +kernel
theorem d_O_begin_54 : decode prog_10_method_4_code 54 = .ok (.iadd, 1) := by decide +kernel
theorem d_O_begin_55 : decode prog_10_method_4_code 55 = .ok (.putfield 26, 3) := by decide +kernel
theorem d_O_begin_58 : decode prog_10_method_4_code 58 = .ok (.aload_n 2, 1) := by decide +kernel
theorem d_O_begin_59 : decode prog_10_method_4_code 59 = .ok (.areturn, 1) := by decide +kernel
theorem d_O_write_0 : decode prog_10_method_2_code 0 = .ok (.aload_n 0, 1) := by decide +kernel
theorem d_O_write_1 : decode prog_10_method_2_code 1 = .ok (.getfield 18, 3) := by decide +kernel
theorem d_O_write_4 : decode prog_10_method_2_code 4 = .ok (.ifCond .ne 10, 3) := by decide +kernel
theorem d_O_write_7 : decode prog_10_method_2_code 7 = .ok (.aload_n 0, 1) := by decide +kernel
theorem d_O_write_8 : decode prog_10_method_2_code 8 = .ok (.iconst 1, 1) := by decide +kernel
theorem d_O_write_9 : decode prog_10_method_2_code 9 = .ok (.putfield 22, 3) := by decide +kernel
theorem d_O_write_12 : decode prog_10_method_2_code 12 = .ok (.iconst 0, 1) := by decide +kernel
theorem d_O_write_13 : decode prog_10_method_2_code 13 = .ok (.ireturn, 1) := by decide +kernel
theorem d_O_write_14 : decode prog_10_method_2_code 14 = .ok (.aload_n 0, 1) := by decide +kernel
theorem d_O_write_15 : decode prog_10_method_2_code 15 = .ok (.getfield 18, 3) := by decide +kernel
theorem d_O_write_18 : decode prog_10_method_2_code 18 = .ok (.ifCond .le 13, 3) := by decide +kernel
theorem d_O_write_21 : decode prog_10_method_2_code 21 = .ok (.aload_n 0, 1) := by decide +kernel
theorem d_O_write_22 : decode prog_10_method_2_code 22 = .ok (.dup, 1) := by decide +kernel
theorem d_O_write_23 : decode prog_10_method_2_code 23 = .ok (.getfield 18, 3) := by decide +kernel
theorem d_O_write_26 : decode prog_10_method_2_code 26 = .ok (.iconst 1, 1) := by decide +kernel
theorem d_O_write_27 : decode prog_10_method_2_code 27 = .ok (.isub, 1) := by decide +kernel
theorem d_O_write_28 : decode prog_10_method_2_code 28 = .ok (.putfield 18, 3) := by decide +kernel
theorem d_O_write_31 : decode prog_10_method_2_code 31 = .ok (.iconst 1, 1) := by decide +kernel
theorem d_O_write_32 : decode prog_10_method_2_code 32 = .ok (.ireturn, 1) := by decide +kernel
theorem d_L_begin_0 : decode prog_5_method_2_code 0 = .ok (.aload_n 0, 1) := by decide +kernel
theorem d_L_begin_1 : decode prog_5_method_2_code 1 = .ok (.iload_n 1, 1) := by decide +kernel
theorem d_L_begin_2 : decode prog_5_method_2_code 2 = .ok (.putfield 30, 3) := by decide +kernel
theorem d_L_begin_5 : decode prog_5_method_2_code 5 = .ok (.aload_n 0, 1) := by decide +kernel
theorem d_L_begin_6 : decode prog_5_method_2_code 6 = .ok (.iconst 0, 1) := by decide +kernel
theorem d_L_begin_7 : decode prog_5_method_2_code 7 = .ok (.putfield 34, 3) := by decide +kernel
theorem d_L_begin_10 : decode prog_5_method_2_code 10 = .ok (.aload_n 0, 1) := by decide +kernel
theorem d_L_begin_11 : decode prog_5_method_2_code 11 = .ok (.iconst 0, 1) := by decide +kernel
theorem d_L_begin_12 : decode prog_5_method_2_code 12 = .ok (.putfield 38, 3) := by decide +kernel
theorem d_L_begin_15 : decode prog_5_method_2_code 15 = .ok (.aload_n 0, 1) := by decide +kernel
theorem d_L_begin_16 : decode prog_5_method_2_code 16 = .ok (.getfield 14, 3) := by decide +kernel
theorem d_L_begin_19 : decode prog_5_method_2_code 19 = .ok (.invokevirtual 41, 3) := by decide +kernel
theorem d_L_begin_22 : decode prog_5_method_2_code 22 = .ok (.aload_n 0, 1) := by decide +kernel
theorem d_L_begin_23 : decode prog_5_method_2_code 23 = .ok (.getfield 27, 3) := by decide +kernel
theorem d_L_begin_26 : decode prog_5_method_2_code 26 = .ok (.invokevirtual 41, 3) := by decide +kernel
theorem d_L_begin_29 : decode prog_5_method_2_code 29 = .ok (.return_, 1) := by decide +kernel
theorem d_R_clear_0 : decode prog_8_method_2_code 0 = .ok (.aload_n 0, 1) := by decide +kernel
theorem d_R_clear_1 : decode prog_8_method_2_code 1 = .ok (.iconst 0, 1) := by decide +kernel
theorem d_R_clear_2 : decode prog_8_method_2_code 2 = .ok (.putfield 13, 3) := by decide +kernel
theorem d_R_clear_5 : decode prog_8_method_2_code 5 = .ok (.return_, 1) := by decide +kernel
theorem d_R_addRow_0 : decode prog_8_method_6_code 0 = .ok (.aload_n 1, 1) := by decide +kernel
theorem d_R_addRow_1 : decode prog_8_method_6_code 1 = .ok (.getfield 13, 3) := by decide +kernel
theorem d_R_addRow_4 : decode prog_8_method_6_code 4 = .ok (.aload_n 0, 1) := by decide +kernel
theorem d_R_addRow_5 : decode prog_8_method_6_code 5 = .ok (.getfield 7, 3) := by decide +kernel
theorem d_R_addRow_8 : decode prog_8_method_6_code 8 = .ok (.arraylength, 1) := by decide +kernel
theorem d_R_addRow_9 : decode prog_8_method_6_code 9 = .ok (.aload_n 0, 1) := by decide +kernel
theorem d_R_addRow_10 : decode prog_8_method_6_code 10 = .ok (.getfield 13, 3) := by decide +kernel
theorem d_R_addRow_13 : decode prog_8_method_6_code 13 = .ok (.isub, 1) := by decide +kernel
theorem d_R_addRow_14 : decode prog_8_method_6_code 14 = .ok (.invokestatic 25, 3) := by decide +kernel
theorem d_R_addRow_17 : decode prog_8_method_6_code 17 = .ok (.istore_n 2, 1) := by decide +kernel
theorem d_R_addRow_18 : decode prog_8_method_6_code 18 = .ok (.aload_n 1, 1) := by decide +kernel
theorem d_R_addRow_19 : decode prog_8_method_6_code 19 = .ok (.getfield 7, 3) := by decide +kernel
theorem d_R_addRow_22 : decode prog_8_method_6_code 22 = .ok (.iconst 0, 1) := by decide +kernel
theorem d_R_addRow_23 : decode prog_8_method_6_code 23 = .ok (.aload_n 0, 1) := by decide +kernel
theorem d_R_addRow_24 : decode prog_8_method_6_code 24 = .ok (.getfield 7, 3) := by decide +kernel
theorem d_R_addRow_27 : decode prog_8_method_6_code 27 = .ok (.aload_n 0, 1) := by decide +kernel
theorem d_R_addRow_28 : decode prog_8_method_6_code 28 = .ok (.getfield 13, 3) := by decide +kernel
theorem d_R_addRow_31 : decode prog_8_method_6_code 31 = .ok (.iload_n 2, 1) := by decide +kernel
theorem d_R_addRow_32 : decode prog_8_method_6_code 32 = .ok (.invokestatic 31, 3) := by decide +kernel
theorem d_R_addRow_35 : decode prog_8_method_6_code 35 = .ok (.aload_n 0, 1) := by decide +kernel
theorem d_R_addRow_36 : decode prog_8_method_6_code 36 = .ok (.dup, 1) := by decide +kernel
theorem d_R_addRow_37 : decode prog_8_method_6_code 37 = .ok (.getfield 13, 3) := by decide +kernel
theorem d_R_addRow_40 : decode prog_8_method_6_code 40 = .ok (.iload_n 2, 1) := by decide +kernel
theorem d_R_addRow_41 : decode prog_8_method_6_code 41 = .ok (.iadd, 1) := by decide +kernel
theorem d_R_addRow_42 : decode prog_8_method_6_code 42 = .ok (.putfield 13, 3) := by decide +kernel
theorem d_R_addRow_45 : decode prog_8_method_6_code 45 = .ok (.return_, 1) := by decide +kernel
theorem d_JM_min_0 : decode prog_14_method_69_code 0 = .ok (.iload_n 0, 1) := by decide +kernel
theorem d_JM_min_1 : decode prog_14_method_69_code 1 = .ok (.iload_n 1, 1) := by decide +kernel
theorem d_JM_min_2 : decode prog_14_method_69_code 2 = .ok (.if_icmp .gt 7, 3) := by decide +kernel
theorem d_JM_min_5 : decode prog_14_method_69_code 5 = .ok (.iload_n 0, 1) := by decide +kernel
theorem d_JM_min_6 : decode prog_14_method_69_code 6 = .ok (.goto 4, 3) := by decide +kernel
theorem d_JM_min_9 : decode prog_14_method_69_code 9 = .ok (.iload_n 1, 1) := by decide +kernel
theorem d_JM_min_10 : decode prog_14_method_69_code 10 = .ok (.ireturn, 1) := by decide +kernel
theorem d_L_address_0 : decode prog_5_method_3_code 0 = .ok (.aload_n 0, 1) := by decide +kernel
theorem d_L_address_1 : decode prog_5_method_3_code 1 = .ok (.getfield 38, 3) := by decide +kernel
theorem d_L_address_4 : decode prog_5_method_3_code 4 = .ok (.iconst 4, 1) := by decide +kernel
theorem d_L_address_5 : decode prog_5_method_3_code 5 = .ok (.if_icmp .ge 53, 3) := by decide +kernel
theorem d_L_address_8 : decode prog_5_method_3_code 8 = .ok (.aload_n 0, 1) := by decide +kernel
theorem d_L_address_9 : decode prog_5_method_3_code 9 = .ok (.getfield 22, 3) := by decide +kernel
theorem d_L_address_12 : decode prog_5_method_3_code 12 = .ok (.aload_n 0, 1) := by decide +kernel
theorem d_L_address_13 : decode prog_5_method_3_code 13 = .ok (.getfield 38, 3) := by decide +kernel
theorem d_L_address_16 : decode prog_5_method_3_code 16 = .ok (.aaload, 1) := by decide +kernel
theorem d_L_address_17 : decode prog_5_method_3_code 17 = .ok (.astore_n 3, 1) := by decide +kernel
theorem d_L_address_18 : decode prog_5_method_3_code 18 = .ok (.aload_n 3, 1) := by decide +kernel
theorem d_L_address_19 : decode prog_5_method_3_code 19 = .ok (.getfield 44, 3) := by decide +kernel
theorem d_L_address_22 : decode prog_5_method_3_code 22 = .ok (.invokevirtual 41, 3) := by decide +kernel
theorem d_L_address_25 : decode prog_5_method_3_code 25 = .ok (.aload_n 3, 1) := by decide +kernel
theorem d_L_address_26 : decode prog_5_method_3_code 26 = .ok (.getfield 44, 3) := by decide +kernel
theorem d_L_address_29 : decode prog_5_method_3_code 29 = .ok (.aload_n 1, 1) := by decide +kernel
theorem d_L_address_30 : decode prog_5_method_3_code 30 = .ok (.invokevirtual 47, 3) := by decide +kernel
theorem d_L_address_33 : decode prog_5_method_3_code 33 = .ok (.aload_n 3, 1) := by decide +kernel
theorem d_L_address_34 : decode prog_5_method_3_code 34 = .ok (.iconst 0, 1) := by decide +kernel
theorem d_L_address_35 : decode prog_5_method_3_code 35 = .ok (.putfield 51, 3) := by decide +kernel
theorem d_L_address_38 : decode prog_5_method_3_code 38 = .ok (.aload_n 3, 1) := by decide +kernel
theorem d_L_address_39 : decode prog_5_method_3_code 39 = .ok (.iconst 0, 1) := by decide +kernel
theorem d_L_address_40 : decode prog_5_method_3_code 40 = .ok (.putfield 54, 3) := by decide +kernel
theorem d_L_address_43 : decode prog_5_method_3_code 43 = .ok (.aload_n 3, 1) := by decide +kernel
theorem d_L_address_44 : decode prog_5_method_3_code 44 = .ok (.iload_n 2, 1) := by decide +kernel
theorem d_L_address_45 : decode prog_5_method_3_code 45 = .ok (.putfield 57, 3) := by decide +kernel
theorem d_L_address_48 : decode prog_5_method_3_code 48 = .ok (.aload_n 0, 1) := by decide +kernel
theorem d_L_address_49 : decode prog_5_method_3_code 49 = .ok (.dup, 1) := by decide +kernel
theorem d_L_address_50 : decode prog_5_method_3_code 50 = .ok (.getfield 38, 3) := by decide +kernel
theorem d_L_address_53 : decode prog_5_method_3_code 53 = .ok (.iconst 1, 1) := by decide +kernel
theorem d_L_address_54 : decode prog_5_method_3_code 54 = .ok (.iadd, 1) := by decide +kernel
theorem d_L_address_55 : decode prog_5_method_3_code 55 = .ok (.putfield 38, 3) := by decide +kernel
theorem d_L_address_58 : decode prog_5_method_3_code 58 = .ok (.return_, 1) := by decide +kernel
theorem d_O_seal_0 : decode prog_10_method_5_code 0 = .ok (.aload_n 1, 1) := by decide +kernel
theorem d_O_seal_1 : decode prog_10_method_5_code 1 = .ok (.aload_n 0, 1) := by decide +kernel
theorem d_O_seal_2 : decode prog_10_method_5_code 2 = .ok (.invokevirtual 36, 3) := by decide +kernel
theorem d_O_seal_5 : decode prog_10_method_5_code 5 = .ok (.putfield 43, 3) := by decide +kernel
theorem d_O_seal_8 : decode prog_10_method_5_code 8 = .ok (.aload_n 1, 1) := by decide +kernel
theorem d_O_seal_9 : decode prog_10_method_5_code 9 = .ok (.getfield 43, 3) := by decide +kernel
theorem d_O_seal_12 : decode prog_10_method_5_code 12 = .ok (.ireturn, 1) := by decide +kernel
theorem d_S_endTransaction_0 : decode prog_9_method_3_code 0 = .ok (.aload_n 0, 1) := by decide +kernel
theorem d_S_endTransaction_1 : decode prog_9_method_3_code 1 = .ok (.iconst 0, 1) := by decide +kernel
theorem d_S_endTransaction_2 : decode prog_9_method_3_code 2 = .ok (.putfield 34, 3) := by decide +kernel
theorem d_S_endTransaction_5 : decode prog_9_method_3_code 5 = .ok (.aload_n 0, 1) := by decide +kernel
theorem d_S_endTransaction_6 : decode prog_9_method_3_code 6 = .ok (.iconst 0, 1) := by decide +kernel
theorem d_S_endTransaction_7 : decode prog_9_method_3_code 7 = .ok (.putfield 37, 3) := by decide +kernel
theorem d_S_endTransaction_10 : decode prog_9_method_3_code 10 = .ok (.aload_n 0, 1) := by decide +kernel
theorem d_S_endTransaction_11 : decode prog_9_method_3_code 11 = .ok (.iconst 0, 1) := by decide +kernel
theorem d_S_endTransaction_12 : decode prog_9_method_3_code 12 = .ok (.putfield 40, 3) := by decide +kernel
theorem d_S_endTransaction_15 : decode prog_9_method_3_code 15 = .ok (.return_, 1) := by decide +kernel
theorem d_S_addTextLine_0 : decode prog_9_method_4_code 0 = .ok (.aload_n 0, 1) := by decide +kernel
theorem d_S_addTextLine_1 : decode prog_9_method_4_code 1 = .ok (.getfield 24, 3) := by decide +kernel
theorem d_S_addTextLine_4 : decode prog_9_method_4_code 4 = .ok (.getfield 44, 3) := by decide +kernel
theorem d_S_addTextLine_7 : decode prog_9_method_4_code 7 = .ok (.aload_n 1, 1) := by decide +kernel
theorem d_S_addTextLine_8 : decode prog_9_method_4_code 8 = .ok (.getfield 44, 3) := by decide +kernel
theorem d_S_addTextLine_11 : decode prog_9_method_4_code 11 = .ok (.iadd, 1) := by decide +kernel
theorem d_S_addTextLine_12 : decode prog_9_method_4_code 12 = .ok (.iload_n 2, 1) := by decide +kernel
theorem d_S_addTextLine_13 : decode prog_9_method_4_code 13 = .ok (.isub, 1) := by decide +kernel
theorem d_S_addTextLine_14 : decode prog_9_method_4_code 14 = .ok (.iconst 1, 1) := by decide +kernel
theorem d_S_addTextLine_15 : decode prog_9_method_4_code 15 = .ok (.iadd, 1) := by decide +kernel
theorem d_S_addTextLine_16 : decode prog_9_method_4_code 16 = .ok (.sipush 600, 3) := by decide +kernel
theorem d_S_addTextLine_19 : decode prog_9_method_4_code 19 = .ok (.if_icmp .le 8, 3) := by decide +kernel
theorem d_S_addTextLine_22 : decode prog_9_method_4_code 22 = .ok (.aload_n 0, 1) := by decide +kernel
theorem d_S_addTextLine_23 : decode prog_9_method_4_code 23 = .ok (.iconst 1, 1) := by decide +kernel
theorem d_S_addTextLine_24 : decode prog_9_method_4_code 24 = .ok (.putfield 47, 3) := by decide +kernel
theorem d_S_addTextLine_27 : decode prog_9_method_4_code 27 = .ok (.aload_n 0, 1) := by decide +kernel
theorem d_S_addTextLine_28 : decode prog_9_method_4_code 28 = .ok (.getfield 47, 3) := by decide +kernel
theorem d_S_addTextLine_31 : decode prog_9_method_4_code 31 = .ok (.ifCond .ne 25, 3) := by decide +kernel
theorem d_S_addTextLine_34 : decode prog_9_method_4_code 34 = .ok (.aload_n 0, 1) := by decide +kernel
theorem d_S_addTextLine_35 : decode prog_9_method_4_code 35 = .ok (.getfield 24, 3) := by decide +kernel
theorem d_S_addTextLine_38 : decode prog_9_method_4_code 38 = .ok (.aload_n 1, 1) := by decide +kernel
theorem d_S_addTextLine_39 : decode prog_9_method_4_code 39 = .ok (.iload_n 2, 1) := by decide +kernel
theorem d_S_addTextLine_40 : decode prog_9_method_4_code 40 = .ok (.aload_n 1, 1) := by decide +kernel
theorem d_S_addTextLine_41 : decode prog_9_method_4_code 41 = .ok (.getfield 44, 3) := by decide +kernel
theorem d_S_addTextLine_44 : decode prog_9_method_4_code 44 = .ok (.invokevirtual 50, 3) := by decide +kernel
theorem d_S_addTextLine_47 : decode prog_9_method_4_code 47 = .ok (.aload_n 0, 1) := by decide +kernel
theorem d_S_addTextLine_48 : decode prog_9_method_4_code 48 = .ok (.getfield 24, 3) := by decide +kernel
theorem d_S_addTextLine_51 : decode prog_9_method_4_code 51 = .ok (.bipush 10, 2) := by decide +kernel
theorem d_S_addTextLine_53 : decode prog_9_method_4_code 53 = .ok (.invokevirtual 54, 3) := by decide +kernel
theorem d_S_addTextLine_56 : decode prog_9_method_4_code 56 = .ok (.return_, 1) := by decide +kernel
theorem d_R_addPiece_0 : decode prog_8_method_5_code 0 = .ok (.iload_n 2, 1) := by decide +kernel
theorem d_R_addPiece_1 : decode prog_8_method_5_code 1 = .ok (.istore 4, 2) := by decide +kernel
theorem d_R_addPiece_3 : decode prog_8_method_5_code 3 = .ok (.iload 4, 2) := by decide +kernel
theorem d_R_addPiece_5 : decode prog_8_method_5_code 5 = .ok (.iload_n 3, 1) := by decide +kernel
theorem d_R_addPiece_6 : decode prog_8_method_5_code 6 = .ok (.if_icmp .ge 19, 3) := by decide +kernel
theorem d_R_addPiece_9 : decode prog_8_method_5_code 9 = .ok (.aload_n 0, 1) := by decide +kernel
theorem d_R_addPiece_10 : decode prog_8_method_5_code 10 = .ok (.aload_n 1, 1) := by decide +kernel
theorem d_R_addPiece_11 : decode prog_8_method_5_code 11 = .ok (.iload 4, 2) := by decide +kernel
theorem d_R_addPiece_13 : decode prog_8_method_5_code 13 = .ok (.invokevirtual 17, 3) := by decide +kernel
theorem d_R_addPiece_16 : decode prog_8_method_5_code 16 = .ok (.invokevirtual 21, 3) := by decide +kernel
theorem d_R_addPiece_19 : decode prog_8_method_5_code 19 = .ok (.iinc 4 1, 3) := by decide +kernel
theorem d_R_addPiece_22 : decode prog_8_method_5_code 22 = .ok (.goto (-19), 3) := by decide +kernel
theorem d_R_addPiece_25 : decode prog_8_method_5_code 25 = .ok (.return_, 1) := by decide +kernel
theorem d_P_obey_0 : decode prog_1_method_22_code 0 = .ok (.aload_n 0, 1) := by decide +kernel
theorem d_P_obey_1 : decode prog_1_method_22_code 1 = .ok (.invokevirtual 173, 3) := by decide +kernel
theorem d_P_obey_4 : decode prog_1_method_22_code 4 = .ok (.astore_n 1, 1) := by decide +kernel
theorem d_P_obey_5 : decode prog_1_method_22_code 5 = .ok (.aload_n 1, 1) := by decide +kernel
theorem d_P_obey_6 : decode prog_1_method_22_code 6 = .ok (.ifnonnull 7, 3) := by decide +kernel
theorem d_P_obey_9 : decode prog_1_method_22_code 9 = .ok (.sipush 500, 3) := by decide +kernel
theorem d_P_obey_12 : decode prog_1_method_22_code 12 = .ok (.ireturn, 1) := by decide +kernel
theorem d_P_obey_13 : decode prog_1_method_22_code 13 = .ok (.aload_n 0, 1) := by decide +kernel
theorem d_P_obey_14 : decode prog_1_method_22_code 14 = .ok (.aload_n 1, 1) := by decide +kernel
theorem d_P_obey_15 : decode prog_1_method_22_code 15 = .ok (.invokevirtual 177, 3) := by decide +kernel
theorem d_P_obey_18 : decode prog_1_method_22_code 18 = .ok (.ifCond .ne 7, 3) := by decide +kernel
theorem d_P_obey_21 : decode prog_1_method_22_code 21 = .ok (.sipush 501, 3) := by decide +kernel
theorem d_P_obey_24 : decode prog_1_method_22_code 24 = .ok (.ireturn, 1) := by decide +kernel
theorem d_P_obey_25 : decode prog_1_method_22_code 25 = .ok (.getstatic 181, 3) := by decide +kernel
theorem d_P_obey_28 : decode prog_1_method_22_code 28 = .ok (.aload_n 1, 1) := by decide +kernel
theorem d_P_obey_29 : decode prog_1_method_22_code 29 = .ok (.invokevirtual 187, 3) := by decide +kernel
theorem d_P_obey_32 : decode prog_1_method_22_code 32 = .ok (.iaload, 1) := by decide +kernel
theorem d_P_obey_33 : decode prog_1_method_22_code 33 = .ok (.tableswitch 85 1 7 #[43, 43, 48, 53, 58, 63, 74], 43) := by decide +kernel
theorem d_P_obey_76 : decode prog_1_method_22_code 76 = .ok (.aload_n 0, 1) := by decide +kernel
theorem d_P_obey_77 : decode prog_1_method_22_code 77 = .ok (.invokevirtual 192, 3) := by decide +kernel
theorem d_P_obey_80 : decode prog_1_method_22_code 80 = .ok (.ireturn, 1) := by decide +kernel
theorem d_P_obey_81 : decode prog_1_method_22_code 81 = .ok (.aload_n 0, 1) := by decide +kernel
theorem d_P_obey_82 : decode prog_1_method_22_code 82 = .ok (.invokevirtual 195, 3) := by decide +kernel
theorem d_P_obey_85 : decode prog_1_method_22_code 85 = .ok (.ireturn, 1) := by decide +kernel
theorem d_P_obey_86 : decode prog_1_method_22_code 86 = .ok (.aload_n 0, 1) := by decide +kernel
theorem d_P_obey_87 : decode prog_1_method_22_code 87 = .ok (.invokevirtual 198, 3) := by decide +kernel
theorem d_P_obey_90 : decode prog_1_method_22_code 90 = .ok (.ireturn, 1) := by decide +kernel
theorem d_P_obey_91 : decode prog_1_method_22_code 91 = .ok (.aload_n 0, 1) := by decide +kernel
theorem d_P_obey_92 : decode prog_1_method_22_code 92 = .ok (.invokevirtual 201, 3) := by decide +kernel
theorem d_P_obey_95 : decode prog_1_method_22_code 95 = .ok (.ireturn, 1) := by decide +kernel
theorem d_P_obey_96 : decode prog_1_method_22_code 96 = .ok (.aload_n 0, 1) := by decide +kernel
theorem d_P_obey_97 : decode prog_1_method_22_code 97 = .ok (.getfield 21, 3) := by decide +kernel
theorem d_P_obey_100 : decode prog_1_method_22_code 100 = .ok (.invokevirtual 204, 3) := by decide +kernel
theorem d_P_obey_103 : decode prog_1_method_22_code 103 = .ok (.sipush 250, 3) := by decide +kernel
theorem d_P_obey_106 : decode prog_1_method_22_code 106 = .ok (.ireturn, 1) := by decide +kernel
theorem d_P_obey_107 : decode prog_1_method_22_code 107 = .ok (.aload_n 0, 1) := by decide +kernel
theorem d_P_obey_108 : decode prog_1_method_22_code 108 = .ok (.getfield 21, 3) := by decide +kernel
theorem d_P_obey_111 : decode prog_1_method_22_code 111 = .ok (.invokevirtual 81, 3) := by decide +kernel
theorem d_P_obey_114 : decode prog_1_method_22_code 114 = .ok (.sipush 221, 3) := by decide +kernel
theorem d_P_obey_117 : decode prog_1_method_22_code 117 = .ok (.ireturn, 1) := by decide +kernel
theorem d_P_obey_118 : decode prog_1_method_22_code 118 = .ok (.sipush 250, 3) := by decide +kernel
theorem d_P_obey_121 : decode prog_1_method_22_code 121 = .ok (.ireturn, 1) := by decide +kernel
theorem d_P_commandOfLine_0 : decode prog_1_method_23_code 0 = .ok (.aload_n 0, 1) := by decide +kernel
theorem d_P_commandOfLine_1 : decode prog_1_method_23_code 1 = .ok (.getfield 14, 3) := by decide +kernel
theorem d_P_commandOfLine_4 : decode prog_1_method_23_code 4 = .ok (.getfield 51, 3) := by decide +kernel
theorem d_P_commandOfLine_7 : decode prog_1_method_23_code 7 = .ok (.iconst 4, 1) := by decide +kernel
theorem d_P_commandOfLine_8 : decode prog_1_method_23_code 8 = .ok (.if_icmp .le 18, 3) := by decide +kernel
theorem d_P_commandOfLine_11 : decode prog_1_method_23_code 11 = .ok (.aload_n 0, 1) := by decide +kernel
theorem d_P_commandOfLine_12 : decode prog_1_method_23_code 12 = .ok (.getfield 14, 3) := by decide +kernel
theorem d_P_commandOfLine_15 : decode prog_1_method_23_code 15 = .ok (.iconst 4, 1) := by decide +kernel
theorem d_P_commandOfLine_16 : decode prog_1_method_23_code 16 = .ok (.invokevirtual 137, 3) := by decide +kernel
theorem d_P_commandOfLine_19 : decode prog_1_method_23_code 19 = .ok (.bipush 32, 2) := by decide +kernel
theorem d_P_commandOfLine_21 : decode prog_1_method_23_code 21 = .ok (.if_icmp .eq 5, 3) := by decide +kernel
theorem d_P_commandOfLine_24 : decode prog_1_method_23_code 24 = .ok (.aconst_null, 1) := by decide +kernel
theorem d_P_commandOfLine_25 : decode prog_1_method_23_code 25 = .ok (.areturn, 1) := by decide +kernel
theorem d_P_commandOfLine_26 : decode prog_1_method_23_code 26 = .ok (.iconst 0, 1) := by decide +kernel
theorem d_P_commandOfLine_27 : decode prog_1_method_23_code 27 = .ok (.istore_n 1, 1) := by decide +kernel
theorem d_P_commandOfLine_28 : decode prog_1_method_23_code 28 = .ok (.iload_n 1, 1) := by decide +kernel
theorem d_P_commandOfLine_29 : decode prog_1_method_23_code 29 = .ok (.getstatic 207, 3) := by decide +kernel
theorem d_P_commandOfLine_32 : decode prog_1_method_23_code 32 = .ok (.arraylength, 1) := by decide +kernel
theorem d_P_commandOfLine_33 : decode prog_1_method_23_code 33 = .ok (.if_icmp .ge 34, 3) := by decide +kernel
theorem d_P_commandOfLine_36 : decode prog_1_method_23_code 36 = .ok (.aload_n 0, 1) := by decide +kernel
theorem d_P_commandOfLine_37 : decode prog_1_method_23_code 37 = .ok (.getfield 14, 3) := by decide +kernel
theorem d_P_commandOfLine_40 : decode prog_1_method_23_code 40 = .ok (.iconst 0, 1) := by decide +kernel
theorem d_P_commandOfLine_41 : decode prog_1_method_23_code 41 = .ok (.getstatic 207, 3) := by decide +kernel
theorem d_P_commandOfLine_44 : decode prog_1_method_23_code 44 = .ok (.iload_n 1, 1) := by decide +kernel
theorem d_P_commandOfLine_45 : decode prog_1_method_23_code 45 = .ok (.aaload, 1) := by decide +kernel
theorem d_P_commandOfLine_46 : decode prog_1_method_23_code 46 = .ok (.getfield 211, 3) := by decide +kernel
theorem d_P_commandOfLine_49 : decode prog_1_method_23_code 49 = .ok (.invokevirtual 215, 3) := by decide +kernel
theorem d_P_commandOfLine_52 : decode prog_1_method_23_code 52 = .ok (.ifCond .eq 9, 3) := by decide +kernel
theorem d_P_commandOfLine_55 : decode prog_1_method_23_code 55 = .ok (.getstatic 207, 3) := by decide +kernel
theorem d_P_commandOfLine_58 : decode prog_1_method_23_code 58 = .ok (.iload_n 1, 1) := by decide +kernel
theorem d_P_commandOfLine_59 : decode prog_1_method_23_code 59 = .ok (.aaload, 1) := by decide +kernel
theorem d_P_commandOfLine_60 : decode prog_1_method_23_code 60 = .ok (.areturn, 1) := by decide +kernel
theorem d_P_commandOfLine_61 : decode prog_1_method_23_code 61 = .ok (.iinc 1 1, 3) := by decide +kernel
theorem d_P_commandOfLine_64 : decode prog_1_method_23_code 64 = .ok (.goto (-36), 3) := by decide +kernel
theorem d_P_commandOfLine_67 : decode prog_1_method_23_code 67 = .ok (.aconst_null, 1) := by decide +kernel
theorem d_P_commandOfLine_68 : decode prog_1_method_23_code 68 = .ok (.areturn, 1) := by decide +kernel
theorem d_R_matches_0 : decode prog_8_method_8_code 0 = .ok (.iload_n 1, 1) := by decide +kernel
theorem d_R_matches_1 : decode prog_8_method_8_code 1 = .ok (.ifCond .lt 16, 3) := by decide +kernel
theorem d_R_matches_4 : decode prog_8_method_8_code 4 = .ok (.iload_n 1, 1) := by decide +kernel
theorem d_R_matches_5 : decode prog_8_method_8_code 5 = .ok (.aload_n 0, 1) := by decide +kernel
theorem d_R_matches_6 : decode prog_8_method_8_code 6 = .ok (.getfield 13, 3) := by decide +kernel
theorem d_R_matches_9 : decode prog_8_method_8_code 9 = .ok (.aload_n 2, 1) := by decide +kernel
theorem d_R_matches_10 : decode prog_8_method_8_code 10 = .ok (.invokevirtual 37, 3) := by decide +kernel
theorem d_R_matches_13 : decode prog_8_method_8_code 13 = .ok (.isub, 1) := by decide +kernel
theorem d_R_matches_14 : decode prog_8_method_8_code 14 = .ok (.if_icmp .le 5, 3) := by decide +kernel
theorem d_R_matches_17 : decode prog_8_method_8_code 17 = .ok (.iconst 0, 1) := by decide +kernel
theorem d_R_matches_18 : decode prog_8_method_8_code 18 = .ok (.ireturn, 1) := by decide +kernel
theorem d_R_matches_19 : decode prog_8_method_8_code 19 = .ok (.iconst 0, 1) := by decide +kernel
theorem d_R_matches_20 : decode prog_8_method_8_code 20 = .ok (.istore_n 3, 1) := by decide +kernel
theorem d_R_matches_21 : decode prog_8_method_8_code 21 = .ok (.iload_n 3, 1) := by decide +kernel
theorem d_R_matches_22 : decode prog_8_method_8_code 22 = .ok (.aload_n 2, 1) := by decide +kernel
theorem d_R_matches_23 : decode prog_8_method_8_code 23 = .ok (.invokevirtual 37, 3) := by decide +kernel
theorem d_R_matches_26 : decode prog_8_method_8_code 26 = .ok (.if_icmp .ge 30, 3) := by decide +kernel
theorem d_R_matches_29 : decode prog_8_method_8_code 29 = .ok (.aload_n 0, 1) := by decide +kernel
theorem d_R_matches_30 : decode prog_8_method_8_code 30 = .ok (.getfield 7, 3) := by decide +kernel
theorem d_R_matches_33 : decode prog_8_method_8_code 33 = .ok (.iload_n 1, 1) := by decide +kernel
theorem d_R_matches_34 : decode prog_8_method_8_code 34 = .ok (.iload_n 3, 1) := by decide +kernel
theorem d_R_matches_35 : decode prog_8_method_8_code 35 = .ok (.iadd, 1) := by decide +kernel
theorem d_R_matches_36 : decode prog_8_method_8_code 36 = .ok (.caload, 1) := by decide +kernel
theorem d_R_matches_37 : decode prog_8_method_8_code 37 = .ok (.invokestatic 45, 3) := by decide +kernel
theorem d_R_matches_40 : decode prog_8_method_8_code 40 = .ok (.aload_n 2, 1) := by decide +kernel
theorem d_R_matches_41 : decode prog_8_method_8_code 41 = .ok (.iload_n 3, 1) := by decide +kernel
theorem d_R_matches_42 : decode prog_8_method_8_code 42 = .ok (.invokevirtual 42, 3) := by decide +kernel
theorem d_R_matches_45 : decode prog_8_method_8_code 45 = .ok (.if_icmp .eq 5, 3) := by decide +kernel
theorem d_R_matches_48 : decode prog_8_method_8_code 48 = .ok (.iconst 0, 1) := by decide +kernel
theorem d_R_matches_49 : decode prog_8_method_8_code 49 = .ok (.ireturn, 1) := by decide +kernel
theorem d_R_matches_50 : decode prog_8_method_8_code 50 = .ok (.iinc 3 1, 3) := by decide +kernel
theorem d_R_matches_53 : decode prog_8_method_8_code 53 = .ok (.goto (-32), 3) := by decide +kernel
theorem d_R_matches_56 : decode prog_8_method_8_code 56 = .ok (.iconst 1, 1) := by decide +kernel
theorem d_R_matches_57 : decode prog_8_method_8_code 57 = .ok (.ireturn, 1) := by decide +kernel
theorem d_JS_length_0 : decode prog_15_method_54_code 0 = .ok (.aload_n 0, 1) := by decide +kernel
theorem d_JS_length_1 : decode prog_15_method_54_code 1 = .ok (.getfield 9, 3) := by decide +kernel
theorem d_JS_length_4 : decode prog_15_method_54_code 4 = .ok (.arraylength, 1) := by decide +kernel
theorem d_JS_length_5 : decode prog_15_method_54_code 5 = .ok (.aload_n 0, 1) := by decide +kernel
theorem d_JS_length_6 : decode prog_15_method_54_code 6 = .ok (.invokevirtual 335, 3) := by decide +kernel
theorem d_JS_length_9 : decode prog_15_method_54_code 9 = .ok (.ishr, 1) := by decide +kernel
theorem d_JS_length_10 : decode prog_15_method_54_code 10 = .ok (.ireturn, 1) := by decide +kernel
theorem d_JS_coder_0 : decode prog_15_method_152_code 0 = .ok (.getstatic 38, 3) := by decide +kernel
theorem d_JS_coder_3 : decode prog_15_method_152_code 3 = .ok (.ifCond .eq 10, 3) := by decide +kernel
theorem d_JS_coder_6 : decode prog_15_method_152_code 6 = .ok (.aload_n 0, 1) := by decide +kernel
theorem d_JS_coder_7 : decode prog_15_method_152_code 7 = .ok (.getfield 15, 3) := by decide +kernel
theorem d_JS_coder_10 : decode prog_15_method_152_code 10 = .ok (.goto 4, 3) := by decide +kernel
theorem d_JS_coder_13 : decode prog_15_method_152_code 13 = .ok (.iconst 1, 1) := by decide +kernel
theorem d_JS_coder_14 : decode prog_15_method_152_code 14 = .ok (.ireturn, 1) := by decide +kernel
theorem d_G_small_0 : decode prog_4_method_2_code 0 = .ok (.iload_n 0, 1) := by decide +kernel
theorem d_G_small_1 : decode prog_4_method_2_code 1 = .ok (.bipush 65, 2) := by decide +kernel
theorem d_G_small_3 : decode prog_4_method_2_code 3 = .ok (.if_icmp .lt 17, 3) := by decide +kernel
theorem d_G_small_6 : decode prog_4_method_2_code 6 = .ok (.iload_n 0, 1) := by decide +kernel
theorem d_G_small_7 : decode prog_4_method_2_code 7 = .ok (.bipush 90, 2) := by decide +kernel
theorem d_G_small_9 : decode prog_4_method_2_code 9 = .ok (.if_icmp .gt 11, 3) := by decide +kernel
theorem d_G_small_12 : decode prog_4_method_2_code 12 = .ok (.iload_n 0, 1) := by decide +kernel
theorem d_G_small_13 : decode prog_4_method_2_code 13 = .ok (.bipush 32, 2) := by decide +kernel
theorem d_G_small_15 : decode prog_4_method_2_code 15 = .ok (.iadd, 1) := by decide +kernel
theorem d_G_small_16 : decode prog_4_method_2_code 16 = .ok (.i2c, 1) := by decide +kernel
theorem d_G_small_17 : decode prog_4_method_2_code 17 = .ok (.goto 4, 3) := by decide +kernel
theorem d_G_small_20 : decode prog_4_method_2_code 20 = .ok (.iload_n 0, 1) := by decide +kernel
theorem d_G_small_21 : decode prog_4_method_2_code 21 = .ok (.ireturn, 1) := by decide +kernel
theorem d_JS_charAt_0 : decode prog_15_method_56_code 0 = .ok (.aload_n 0, 1) := by decide +kernel
theorem d_JS_charAt_1 : decode prog_15_method_56_code 1 = .ok (.invokevirtual 492, 3) := by decide +kernel
theorem d_JS_charAt_4 : decode prog_15_method_56_code 4 = .ok (.ifCond .eq 12, 3) := by decide +kernel
theorem d_JS_charAt_7 : decode prog_15_method_56_code 7 = .ok (.aload_n 0, 1) := by decide +kernel
theorem d_JS_charAt_8 : decode prog_15_method_56_code 8 = .ok (.getfield 9, 3) := by decide +kernel
theorem d_JS_charAt_11 : decode prog_15_method_56_code 11 = .ok (.iload_n 1, 1) := by decide +kernel
theorem d_JS_charAt_12 : decode prog_15_method_56_code 12 = .ok (.invokestatic 495, 3) := by decide +kernel
theorem d_JS_charAt_15 : decode prog_15_method_56_code 15 = .ok (.ireturn, 1) := by decide +kernel
theorem d_JS_charAt_16 : decode prog_15_method_56_code 16 = .ok (.aload_n 0, 1) := by decide +kernel
theorem d_JS_charAt_17 : decode prog_15_method_56_code 17 = .ok (.getfield 9, 3) := by decide +kernel
theorem d_JS_charAt_20 : decode prog_15_method_56_code 20 = .ok (.iload_n 1, 1) := by decide +kernel
theorem d_JS_charAt_21 : decode prog_15_method_56_code 21 = .ok (.invokestatic 498, 3) := by decide +kernel
theorem d_JS_charAt_24 : decode prog_15_method_56_code 24 = .ok (.ireturn, 1) := by decide +kernel
theorem d_JS_isLatin1_0 : decode prog_15_method_154_code 0 = .ok (.getstatic 38, 3) := by decide +kernel
theorem d_JS_isLatin1_3 : decode prog_15_method_154_code 3 = .ok (.ifCond .eq 14, 3) := by decide +kernel
theorem d_JS_isLatin1_6 : decode prog_15_method_154_code 6 = .ok (.aload_n 0, 1) := by decide +kernel
theorem d_JS_isLatin1_7 : decode prog_15_method_154_code 7 = .ok (.getfield 15, 3) := by decide +kernel
theorem d_JS_isLatin1_10 : decode prog_15_method_154_code 10 = .ok (.ifCond .ne 7, 3) := by decide +kernel
theorem d_JS_isLatin1_13 : decode prog_15_method_154_code 13 = .ok (.iconst 1, 1) := by decide +kernel
theorem d_JS_isLatin1_14 : decode prog_15_method_154_code 14 = .ok (.goto 4, 3) := by decide +kernel
theorem d_JS_isLatin1_17 : decode prog_15_method_154_code 17 = .ok (.iconst 0, 1) := by decide +kernel
theorem d_JS_isLatin1_18 : decode prog_15_method_154_code 18 = .ok (.ireturn, 1) := by decide +kernel
theorem d_JL_charAt_0 : decode prog_16_method_2_code 0 = .ok (.iload_n 1, 1) := by decide +kernel
theorem d_JL_charAt_1 : decode prog_16_method_2_code 1 = .ok (.aload_n 0, 1) := by decide +kernel
theorem d_JL_charAt_2 : decode prog_16_method_2_code 2 = .ok (.arraylength, 1) := by decide +kernel
theorem d_JL_charAt_3 : decode prog_16_method_2_code 3 = .ok (.invokestatic 9, 3) := by decide +kernel
theorem d_JL_charAt_6 : decode prog_16_method_2_code 6 = .ok (.aload_n 0, 1) := by decide +kernel
theorem d_JL_charAt_7 : decode prog_16_method_2_code 7 = .ok (.iload_n 1, 1) := by decide +kernel
theorem d_JL_charAt_8 : decode prog_16_method_2_code 8 = .ok (.baload, 1) := by decide +kernel
theorem d_JL_charAt_9 : decode prog_16_method_2_code 9 = .ok (.sipush 255, 3) := by decide +kernel
theorem d_JL_charAt_12 : decode prog_16_method_2_code 12 = .ok (.iand, 1) := by decide +kernel
theorem d_JL_charAt_13 : decode prog_16_method_2_code 13 = .ok (.i2c, 1) := by decide +kernel
theorem d_JL_charAt_14 : decode prog_16_method_2_code 14 = .ok (.ireturn, 1) := by decide +kernel
theorem d_JS_checkIndex_0 : decode prog_15_method_155_code 0 = .ok (.iload_n 0, 1) := by decide +kernel
theorem d_JS_checkIndex_1 : decode prog_15_method_155_code 1 = .ok (.iload_n 1, 1) := by decide +kernel
theorem d_JS_checkIndex_2 : decode prog_15_method_155_code 2 = .ok (.getstatic 1053, 3) := by decide +kernel
theorem d_JS_checkIndex_5 : decode prog_15_method_155_code 5 = .ok (.invokestatic 1059, 3) := by decide +kernel
theorem d_JS_checkIndex_8 : decode prog_15_method_155_code 8 = .ok (.pop, 1) := by decide +kernel
theorem d_JS_checkIndex_9 : decode prog_15_method_155_code 9 = .ok (.return_, 1) := by decide +kernel
theorem d_JP_checkIndex_0 : decode prog_19_method_11_code 0 = .ok (.iload_n 0, 1) := by decide +kernel
theorem d_JP_checkIndex_1 : decode prog_19_method_11_code 1 = .ok (.ifCond .lt 8, 3) := by decide +kernel
theorem d_JP_checkIndex_4 : decode prog_19_method_11_code 4 = .ok (.iload_n 0, 1) := by decide +kernel
theorem d_JP_checkIndex_5 : decode prog_19_method_11_code 5 = .ok (.iload_n 1, 1) := by decide +kernel
theorem d_JP_checkIndex_6 : decode prog_19_method_11_code 6 = .ok (.if_icmp .lt 10, 3) := by decide +kernel
theorem d_JP_checkIndex_9 : decode prog_19_method_11_code 9 = .ok (.aload_n 2, 1) := by decide +kernel
theorem d_JP_checkIndex_10 : decode prog_19_method_11_code 10 = .ok (.iload_n 0, 1) := by decide +kernel
theorem d_JP_checkIndex_11 : decode prog_19_method_11_code 11 = .ok (.iload_n 1, 1) := by decide +kernel
theorem d_JP_checkIndex_12 : decode prog_19_method_11_code 12 = .ok (.invokestatic 95, 3) := by decide +kernel
theorem d_JP_checkIndex_15 : decode prog_19_method_11_code 15 = .ok (.athrow, 1) := by decide +kernel
theorem d_JP_checkIndex_16 : decode prog_19_method_11_code 16 = .ok (.iload_n 0, 1) := by decide +kernel
theorem d_JP_checkIndex_17 : decode prog_19_method_11_code 17 = .ok (.ireturn, 1) := by decide +kernel
theorem d_P_isWrittenRight_0 : decode prog_1_method_24_code 0 = .ok (.getstatic 181, 3) := by decide +kernel
theorem d_P_isWrittenRight_3 : decode prog_1_method_24_code 3 = .ok (.aload_n 1, 1) := by decide +kernel
theorem d_P_isWrittenRight_4 : decode prog_1_method_24_code 4 = .ok (.invokevirtual 187, 3) := by decide +kernel
theorem d_P_isWrittenRight_7 : decode prog_1_method_24_code 7 = .ok (.iaload, 1) := by decide +kernel
theorem d_P_isWrittenRight_8 : decode prog_1_method_24_code 8 = .ok (.tableswitch 105 1 4 #[32, 32, 48, 81], 32) := by decide +kernel
theorem d_P_isWrittenRight_40 : decode prog_1_method_24_code 40 = .ok (.aload_n 0, 1) := by decide +kernel
theorem d_P_isWrittenRight_41 : decode prog_1_method_24_code 41 = .ok (.getfield 14, 3) := by decide +kernel
theorem d_P_isWrittenRight_44 : decode prog_1_method_24_code 44 = .ok (.iconst 5, 1) := by decide +kernel
theorem d_P_isWrittenRight_45 : decode prog_1_method_24_code 45 = .ok (.aload_n 0, 1) := by decide +kernel
theorem d_P_isWrittenRight_46 : decode prog_1_method_24_code 46 = .ok (.getfield 14, 3) := by decide +kernel
theorem d_P_isWrittenRight_49 : decode prog_1_method_24_code 49 = .ok (.getfield 51, 3) := by decide +kernel
theorem d_P_isWrittenRight_52 : decode prog_1_method_24_code 52 = .ok (.invokestatic 219, 3) := by decide +kernel
theorem d_P_isWrittenRight_55 : decode prog_1_method_24_code 55 = .ok (.ireturn, 1) := by decide +kernel
theorem d_P_isWrittenRight_56 : decode prog_1_method_24_code 56 = .ok (.aload_n 0, 1) := by decide +kernel
theorem d_P_isWrittenRight_57 : decode prog_1_method_24_code 57 = .ok (.ldc 225, 2) := by decide +kernel
theorem d_P_isWrittenRight_59 : decode prog_1_method_24_code 59 = .ok (.invokevirtual 227, 3) := by decide +kernel
theorem d_P_isWrittenRight_62 : decode prog_1_method_24_code 62 = .ok (.ifCond .eq 25, 3) := by decide +kernel
theorem d_P_isWrittenRight_65 : decode prog_1_method_24_code 65 = .ok (.aload_n 0, 1) := by decide +kernel
theorem d_P_isWrittenRight_66 : decode prog_1_method_24_code 66 = .ok (.ldc 225, 2) := by decide +kernel
theorem d_P_isWrittenRight_68 : decode prog_1_method_24_code 68 = .ok (.invokevirtual 231, 3) := by decide +kernel
theorem d_P_isWrittenRight_71 : decode prog_1_method_24_code 71 = .ok (.ifCond .ne 12, 3) := by decide +kernel
theorem d_P_isWrittenRight_74 : decode prog_1_method_24_code 74 = .ok (.aload_n 0, 1) := by decide +kernel
theorem d_P_isWrittenRight_75 : decode prog_1_method_24_code 75 = .ok (.ldc 225, 2) := by decide +kernel
theorem d_P_isWrittenRight_77 : decode prog_1_method_24_code 77 = .ok (.invokevirtual 234, 3) := by decide +kernel
theorem d_P_isWrittenRight_80 : decode prog_1_method_24_code 80 = .ok (.ifCond .eq 7, 3) := by decide +kernel
theorem d_P_isWrittenRight_83 : decode prog_1_method_24_code 83 = .ok (.iconst 1, 1) := by decide +kernel
theorem d_P_isWrittenRight_84 : decode prog_1_method_24_code 84 = .ok (.goto 4, 3) := by decide +kernel
theorem d_P_isWrittenRight_87 : decode prog_1_method_24_code 87 = .ok (.iconst 0, 1) := by decide +kernel
theorem d_P_isWrittenRight_88 : decode prog_1_method_24_code 88 = .ok (.ireturn, 1) := by decide +kernel
theorem d_P_isWrittenRight_89 : decode prog_1_method_24_code 89 = .ok (.aload_n 0, 1) := by decide +kernel
theorem d_P_isWrittenRight_90 : decode prog_1_method_24_code 90 = .ok (.ldc 237, 2) := by decide +kernel
theorem d_P_isWrittenRight_92 : decode prog_1_method_24_code 92 = .ok (.invokevirtual 227, 3) := by decide +kernel
theorem d_P_isWrittenRight_95 : decode prog_1_method_24_code 95 = .ok (.ifCond .eq 16, 3) := by decide +kernel
theorem d_P_isWrittenRight_98 : decode prog_1_method_24_code 98 = .ok (.aload_n 0, 1) := by decide +kernel
theorem d_P_isWrittenRight_99 : decode prog_1_method_24_code 99 = .ok (.ldc 237, 2) := by decide +kernel
theorem d_P_isWrittenRight_101 : decode prog_1_method_24_code 101 = .ok (.invokevirtual 234, 3) := by decide +kernel
theorem d_P_isWrittenRight_104 : decode prog_1_method_24_code 104 = .ok (.ifCond .eq 7, 3) := by decide +kernel
theorem d_P_isWrittenRight_107 : decode prog_1_method_24_code 107 = .ok (.iconst 1, 1) := by decide +kernel
theorem d_P_isWrittenRight_108 : decode prog_1_method_24_code 108 = .ok (.goto 4, 3) := by decide +kernel
theorem d_P_isWrittenRight_111 : decode prog_1_method_24_code 111 = .ok (.iconst 0, 1) := by decide +kernel
theorem d_P_isWrittenRight_112 : decode prog_1_method_24_code 112 = .ok (.ireturn, 1) := by decide +kernel
theorem d_P_isWrittenRight_113 : decode prog_1_method_24_code 113 = .ok (.aload_n 0, 1) := by decide +kernel
theorem d_P_isWrittenRight_114 : decode prog_1_method_24_code 114 = .ok (.getfield 14, 3) := by decide +kernel
theorem d_P_isWrittenRight_117 : decode prog_1_method_24_code 117 = .ok (.getfield 51, 3) := by decide +kernel
theorem d_P_isWrittenRight_120 : decode prog_1_method_24_code 120 = .ok (.iconst 4, 1) := by decide +kernel
theorem d_P_isWrittenRight_121 : decode prog_1_method_24_code 121 = .ok (.if_icmp .ne 7, 3) := by decide +kernel
theorem d_P_isWrittenRight_124 : decode prog_1_method_24_code 124 = .ok (.iconst 1, 1) := by decide +kernel
theorem d_P_isWrittenRight_125 : decode prog_1_method_24_code 125 = .ok (.goto 4, 3) := by decide +kernel
theorem d_P_isWrittenRight_128 : decode prog_1_method_24_code 128 = .ok (.iconst 0, 1) := by decide +kernel
theorem d_P_isWrittenRight_129 : decode prog_1_method_24_code 129 = .ok (.ireturn, 1) := by decide +kernel
theorem d_JE_ordinal_0 : decode prog_13_method_2_code 0 = .ok (.aload_n 0, 1) := by decide +kernel
theorem d_JE_ordinal_1 : decode prog_13_method_2_code 1 = .ok (.getfield 7, 3) := by decide +kernel
theorem d_JE_ordinal_4 : decode prog_13_method_2_code 4 = .ok (.ireturn, 1) := by decide +kernel
theorem d_G_isDomain_0 : decode prog_4_method_6_code 0 = .ok (.iload_n 2, 1) := by decide +kernel
theorem d_G_isDomain_1 : decode prog_4_method_6_code 1 = .ok (.iload_n 1, 1) := by decide +kernel
theorem d_G_isDomain_2 : decode prog_4_method_6_code 2 = .ok (.isub, 1) := by decide +kernel
theorem d_G_isDomain_3 : decode prog_4_method_6_code 3 = .ok (.bipush 32, 2) := by decide +kernel
theorem d_G_isDomain_5 : decode prog_4_method_6_code 5 = .ok (.if_icmp .le 5, 3) := by decide +kernel
theorem d_G_isDomain_8 : decode prog_4_method_6_code 8 = .ok (.iconst 0, 1) := by decide +kernel
theorem d_G_isDomain_9 : decode prog_4_method_6_code 9 = .ok (.ireturn, 1) := by decide +kernel
theorem d_G_isDomain_10 : decode prog_4_method_6_code 10 = .ok (.bipush 46, 2) := by decide +kernel
theorem d_G_isDomain_12 : decode prog_4_method_6_code 12 = .ok (.istore_n 3, 1) := by decide +kernel
theorem d_G_isDomain_13 : decode prog_4_method_6_code 13 = .ok (.iload_n 1, 1) := by decide +kernel
theorem d_G_isDomain_14 : decode prog_4_method_6_code 14 = .ok (.istore 4, 2) := by decide +kernel
theorem d_G_isDomain_16 : decode prog_4_method_6_code 16 = .ok (.iload 4, 2) := by decide +kernel
theorem d_G_isDomain_18 : decode prog_4_method_6_code 18 = .ok (.iload_n 2, 1) := by decide +kernel
theorem d_G_isDomain_19 : decode prog_4_method_6_code 19 = .ok (.if_icmp .ge 69, 3) := by decide +kernel
theorem d_G_isDomain_22 : decode prog_4_method_6_code 22 = .ok (.aload_n 0, 1) := by decide +kernel
theorem d_G_isDomain_23 : decode prog_4_method_6_code 23 = .ok (.iload 4, 2) := by decide +kernel
theorem d_G_isDomain_25 : decode prog_4_method_6_code 25 = .ok (.invokevirtual 9, 3) := by decide +kernel
theorem d_G_isDomain_28 : decode prog_4_method_6_code 28 = .ok (.istore 5, 2) := by decide +kernel
theorem d_G_isDomain_30 : decode prog_4_method_6_code 30 = .ok (.iload 5, 2) := by decide +kernel
theorem d_G_isDomain_32 : decode prog_4_method_6_code 32 = .ok (.bipush 46, 2) := by decide +kernel
theorem d_G_isDomain_34 : decode prog_4_method_6_code 34 = .ok (.if_icmp .ne 10, 3) := by decide +kernel
theorem d_G_isDomain_37 : decode prog_4_method_6_code 37 = .ok (.iload_n 3, 1) := by decide +kernel
theorem d_G_isDomain_38 : decode prog_4_method_6_code 38 = .ok (.invokestatic 24, 3) := by decide +kernel
theorem d_G_isDomain_41 : decode prog_4_method_6_code 41 = .ok (.goto 29, 3) := by decide +kernel
theorem d_G_isDomain_44 : decode prog_4_method_6_code 44 = .ok (.iload 5, 2) := by decide +kernel
theorem d_G_isDomain_46 : decode prog_4_method_6_code 46 = .ok (.bipush 45, 2) := by decide +kernel
theorem d_G_isDomain_48 : decode prog_4_method_6_code 48 = .ok (.if_icmp .ne 17, 3) := by decide +kernel
theorem d_G_isDomain_51 : decode prog_4_method_6_code 51 = .ok (.iload_n 3, 1) := by decide +kernel
theorem d_G_isDomain_52 : decode prog_4_method_6_code 52 = .ok (.bipush 46, 2) := by decide +kernel
theorem d_G_isDomain_54 : decode prog_4_method_6_code 54 = .ok (.if_icmp .eq 7, 3) := by decide +kernel
theorem d_G_isDomain_57 : decode prog_4_method_6_code 57 = .ok (.iconst 1, 1) := by decide +kernel
theorem d_G_isDomain_58 : decode prog_4_method_6_code 58 = .ok (.goto 12, 3) := by decide +kernel
theorem d_G_isDomain_61 : decode prog_4_method_6_code 61 = .ok (.iconst 0, 1) := by decide +kernel
theorem d_G_isDomain_62 : decode prog_4_method_6_code 62 = .ok (.goto 8, 3) := by decide +kernel
theorem d_G_isDomain_65 : decode prog_4_method_6_code 65 = .ok (.iload 5, 2) := by decide +kernel
theorem d_G_isDomain_67 : decode prog_4_method_6_code 67 = .ok (.invokestatic 24, 3) := by decide +kernel
theorem d_G_isDomain_70 : decode prog_4_method_6_code 70 = .ok (.istore 6, 2) := by decide +kernel
theorem d_G_isDomain_72 : decode prog_4_method_6_code 72 = .ok (.iload 6, 2) := by decide +kernel
theorem d_G_isDomain_74 : decode prog_4_method_6_code 74 = .ok (.ifCond .ne 5, 3) := by decide +kernel
theorem d_G_isDomain_77 : decode prog_4_method_6_code 77 = .ok (.iconst 0, 1) := by decide +kernel
theorem d_G_isDomain_78 : decode prog_4_method_6_code 78 = .ok (.ireturn, 1) := by decide +kernel
theorem d_G_isDomain_79 : decode prog_4_method_6_code 79 = .ok (.iload 5, 2) := by decide +kernel
theorem d_G_isDomain_81 : decode prog_4_method_6_code 81 = .ok (.istore_n 3, 1) := by decide +kernel
theorem d_G_isDomain_82 : decode prog_4_method_6_code 82 = .ok (.iinc 4 1, 3) := by decide +kernel
theorem d_G_isDomain_85 : decode prog_4_method_6_code 85 = .ok (.goto (-69), 3) := by decide +kernel
theorem d_G_isDomain_88 : decode prog_4_method_6_code 88 = .ok (.iload_n 3, 1) := by decide +kernel
theorem d_G_isDomain_89 : decode prog_4_method_6_code 89 = .ok (.invokestatic 24, 3) := by decide +kernel
theorem d_G_isDomain_92 : decode prog_4_method_6_code 92 = .ok (.ireturn, 1) := by decide +kernel
theorem d_G_isLetterOrDigit_0 : decode prog_4_method_3_code 0 = .ok (.iload_n 0, 1) := by decide +kernel
theorem d_G_isLetterOrDigit_1 : decode prog_4_method_3_code 1 = .ok (.bipush 97, 2) := by decide +kernel
theorem d_G_isLetterOrDigit_3 : decode prog_4_method_3_code 3 = .ok (.if_icmp .lt 9, 3) := by decide +kernel
theorem d_G_isLetterOrDigit_6 : decode prog_4_method_3_code 6 = .ok (.iload_n 0, 1) := by decide +kernel
theorem d_G_isLetterOrDigit_7 : decode prog_4_method_3_code 7 = .ok (.bipush 122, 2) := by decide +kernel
theorem d_G_isLetterOrDigit_9 : decode prog_4_method_3_code 9 = .ok (.if_icmp .le 27, 3) := by decide +kernel
theorem d_G_isLetterOrDigit_12 : decode prog_4_method_3_code 12 = .ok (.iload_n 0, 1) := by decide +kernel
theorem d_G_isLetterOrDigit_13 : decode prog_4_method_3_code 13 = .ok (.bipush 65, 2) := by decide +kernel
theorem d_G_isLetterOrDigit_15 : decode prog_4_method_3_code 15 = .ok (.if_icmp .lt 9, 3) := by decide +kernel
theorem d_G_isLetterOrDigit_18 : decode prog_4_method_3_code 18 = .ok (.iload_n 0, 1) := by decide +kernel
theorem d_G_isLetterOrDigit_19 : decode prog_4_method_3_code 19 = .ok (.bipush 90, 2) := by decide +kernel
theorem d_G_isLetterOrDigit_21 : decode prog_4_method_3_code 21 = .ok (.if_icmp .le 15, 3) := by decide +kernel
theorem d_G_isLetterOrDigit_24 : decode prog_4_method_3_code 24 = .ok (.iload_n 0, 1) := by decide +kernel
theorem d_G_isLetterOrDigit_25 : decode prog_4_method_3_code 25 = .ok (.bipush 48, 2) := by decide +kernel
theorem d_G_isLetterOrDigit_27 : decode prog_4_method_3_code 27 = .ok (.if_icmp .lt 13, 3) := by decide +kernel
theorem d_G_isLetterOrDigit_30 : decode prog_4_method_3_code 30 = .ok (.iload_n 0, 1) := by decide +kernel
theorem d_G_isLetterOrDigit_31 : decode prog_4_method_3_code 31 = .ok (.bipush 57, 2) := by decide +kernel
theorem d_G_isLetterOrDigit_33 : decode prog_4_method_3_code 33 = .ok (.if_icmp .gt 7, 3) := by decide +kernel
theorem d_G_isLetterOrDigit_36 : decode prog_4_method_3_code 36 = .ok (.iconst 1, 1) := by decide +kernel
theorem d_G_isLetterOrDigit_37 : decode prog_4_method_3_code 37 = .ok (.goto 4, 3) := by decide +kernel
theorem d_G_isLetterOrDigit_40 : decode prog_4_method_3_code 40 = .ok (.iconst 0, 1) := by decide +kernel
theorem d_G_isLetterOrDigit_41 : decode prog_4_method_3_code 41 = .ok (.ireturn, 1) := by decide +kernel
theorem d_P_isBracketed_0 : decode prog_1_method_25_code 0 = .ok (.aload_n 0, 1) := by decide +kernel
theorem d_P_isBracketed_1 : decode prog_1_method_25_code 1 = .ok (.getfield 14, 3) := by decide +kernel
theorem d_P_isBracketed_4 : decode prog_1_method_25_code 4 = .ok (.iconst 4, 1) := by decide +kernel
theorem d_P_isBracketed_5 : decode prog_1_method_25_code 5 = .ok (.aload_n 1, 1) := by decide +kernel
theorem d_P_isBracketed_6 : decode prog_1_method_25_code 6 = .ok (.invokevirtual 215, 3) := by decide +kernel
theorem d_P_isBracketed_9 : decode prog_1_method_25_code 9 = .ok (.ifCond .eq 28, 3) := by decide +kernel
theorem d_P_isBracketed_12 : decode prog_1_method_25_code 12 = .ok (.aload_n 0, 1) := by decide +kernel
theorem d_P_isBracketed_13 : decode prog_1_method_25_code 13 = .ok (.getfield 14, 3) := by decide +kernel
theorem d_P_isBracketed_16 : decode prog_1_method_25_code 16 = .ok (.aload_n 0, 1) := by decide +kernel
theorem d_P_isBracketed_17 : decode prog_1_method_25_code 17 = .ok (.getfield 14, 3) := by decide +kernel
theorem d_P_isBracketed_20 : decode prog_1_method_25_code 20 = .ok (.getfield 51, 3) := by decide +kernel
theorem d_P_isBracketed_23 : decode prog_1_method_25_code 23 = .ok (.iconst 1, 1) := by decide +kernel
theorem d_P_isBracketed_24 : decode prog_1_method_25_code 24 = .ok (.isub, 1) := by decide +kernel
theorem d_P_isBracketed_25 : decode prog_1_method_25_code 25 = .ok (.invokevirtual 137, 3) := by decide +kernel
theorem d_P_isBracketed_28 : decode prog_1_method_25_code 28 = .ok (.bipush 62, 2) := by decide +kernel
theorem d_P_isBracketed_30 : decode prog_1_method_25_code 30 = .ok (.if_icmp .ne 7, 3) := by decide +kernel
theorem d_P_isBracketed_33 : decode prog_1_method_25_code 33 = .ok (.iconst 1, 1) := by decide +kernel
theorem d_P_isBracketed_34 : decode prog_1_method_25_code 34 = .ok (.goto 4, 3) := by decide +kernel
theorem d_P_isBracketed_37 : decode prog_1_method_25_code 37 = .ok (.iconst 0, 1) := by decide +kernel
theorem d_P_isBracketed_38 : decode prog_1_method_25_code 38 = .ok (.ireturn, 1) := by decide +kernel
theorem d_P_isBracketEmpty_0 : decode prog_1_method_26_code 0 = .ok (.aload_n 1, 1) := by decide +kernel
theorem d_P_isBracketEmpty_1 : decode prog_1_method_26_code 1 = .ok (.invokestatic 239, 3) := by decide +kernel
theorem d_P_isBracketEmpty_4 : decode prog_1_method_26_code 4 = .ok (.aload_n 0, 1) := by decide +kernel
theorem d_P_isBracketEmpty_5 : decode prog_1_method_26_code 5 = .ok (.getfield 14, 3) := by decide +kernel
theorem d_P_isBracketEmpty_8 : decode prog_1_method_26_code 8 = .ok (.getfield 51, 3) := by decide +kernel
theorem d_P_isBracketEmpty_11 : decode prog_1_method_26_code 11 = .ok (.iconst 1, 1) := by decide +kernel
theorem d_P_isBracketEmpty_12 : decode prog_1_method_26_code 12 = .ok (.isub, 1) := by decide +kernel
theorem d_P_isBracketEmpty_13 : decode prog_1_method_26_code 13 = .ok (.if_icmp .ne 7, 3) := by decide +kernel
theorem d_P_isBracketEmpty_16 : decode prog_1_method_26_code 16 = .ok (.iconst 1, 1) := by decide +kernel
theorem d_P_isBracketEmpty_17 : decode prog_1_method_26_code 17 = .ok (.goto 4, 3) := by decide +kernel
theorem d_P_isBracketEmpty_20 : decode prog_1_method_26_code 20 = .ok (.iconst 0, 1) := by decide +kernel
theorem d_P_isBracketEmpty_21 : decode prog_1_method_26_code 21 = .ok (.ireturn, 1) := by decide +kernel
theorem d_P_bracketStart_0 : decode prog_1_method_28_code 0 = .ok (.iconst 4, 1) := by decide +kernel
theorem d_P_bracketStart_1 : decode prog_1_method_28_code 1 = .ok (.aload_n 0, 1) := by decide +kernel
theorem d_P_bracketStart_2 : decode prog_1_method_28_code 2 = .ok (.invokevirtual 246, 3) := by decide +kernel
theorem d_P_bracketStart_5 : decode prog_1_method_28_code 5 = .ok (.iadd, 1) := by decide +kernel
theorem d_P_bracketStart_6 : decode prog_1_method_28_code 6 = .ok (.ireturn, 1) := by decide +kernel
theorem d_P_isPathIn_0 : decode prog_1_method_27_code 0 = .ok (.aload_n 0, 1) := by decide +kernel
theorem d_P_isPathIn_1 : decode prog_1_method_27_code 1 = .ok (.getfield 14, 3) := by decide +kernel
theorem d_P_isPathIn_4 : decode prog_1_method_27_code 4 = .ok (.aload_n 1, 1) := by decide +kernel
theorem d_P_isPathIn_5 : decode prog_1_method_27_code 5 = .ok (.invokestatic 239, 3) := by decide +kernel
theorem d_P_isPathIn_8 : decode prog_1_method_27_code 8 = .ok (.aload_n 0, 1) := by decide +kernel
theorem d_P_isPathIn_9 : decode prog_1_method_27_code 9 = .ok (.getfield 14, 3) := by decide +kernel
theorem d_P_isPathIn_12 : decode prog_1_method_27_code 12 = .ok (.getfield 51, 3) := by decide +kernel
theorem d_P_isPathIn_15 : decode prog_1_method_27_code 15 = .ok (.iconst 1, 1) := by decide +kernel
theorem d_P_isPathIn_16 : decode prog_1_method_27_code 16 = .ok (.isub, 1) := by decide +kernel
theorem d_P_isPathIn_17 : decode prog_1_method_27_code 17 = .ok (.invokestatic 243, 3) := by decide +kernel
theorem d_P_isPathIn_20 : decode prog_1_method_27_code 20 = .ok (.ireturn, 1) := by decide +kernel
theorem d_G_isPath_0 : decode prog_4_method_4_code 0 = .ok (.iload_n 2, 1) := by decide +kernel
theorem d_G_isPath_1 : decode prog_4_method_4_code 1 = .ok (.iload_n 1, 1) := by decide +kernel
theorem d_G_isPath_2 : decode prog_4_method_4_code 2 = .ok (.isub, 1) := by decide +kernel
theorem d_G_isPath_3 : decode prog_4_method_4_code 3 = .ok (.bipush 40, 2) := by decide +kernel
theorem d_G_isPath_5 : decode prog_4_method_4_code 5 = .ok (.if_icmp .le 5, 3) := by decide +kernel
theorem d_G_isPath_8 : decode prog_4_method_4_code 8 = .ok (.iconst 0, 1) := by decide +kernel
theorem d_G_isPath_9 : decode prog_4_method_4_code 9 = .ok (.ireturn, 1) := by decide +kernel
theorem d_G_isPath_10 : decode prog_4_method_4_code 10 = .ok (.iload_n 1, 1) := by decide +kernel
theorem d_G_isPath_11 : decode prog_4_method_4_code 11 = .ok (.istore_n 3, 1) := by decide +kernel
theorem d_G_isPath_12 : decode prog_4_method_4_code 12 = .ok (.iload_n 3, 1) := by decide +kernel
theorem d_G_isPath_13 : decode prog_4_method_4_code 13 = .ok (.iload_n 2, 1) := by decide +kernel
theorem d_G_isPath_14 : decode prog_4_method_4_code 14 = .ok (.if_icmp .ge 45, 3) := by decide +kernel
theorem d_G_isPath_17 : decode prog_4_method_4_code 17 = .ok (.aload_n 0, 1) := by decide +kernel
theorem d_G_isPath_18 : decode prog_4_method_4_code 18 = .ok (.iload_n 3, 1) := by decide +kernel
theorem d_G_isPath_19 : decode prog_4_method_4_code 19 = .ok (.invokevirtual 9, 3) := by decide +kernel
theorem d_G_isPath_22 : decode prog_4_method_4_code 22 = .ok (.bipush 64, 2) := by decide +kernel
theorem d_G_isPath_24 : decode prog_4_method_4_code 24 = .ok (.if_icmp .ne 29, 3) := by decide +kernel
theorem d_G_isPath_27 : decode prog_4_method_4_code 27 = .ok (.aload_n 0, 1) := by decide +kernel
theorem d_G_isPath_28 : decode prog_4_method_4_code 28 = .ok (.iload_n 1, 1) := by decide +kernel
theorem d_G_isPath_29 : decode prog_4_method_4_code 29 = .ok (.iload_n 3, 1) := by decide +kernel
theorem d_G_isPath_30 : decode prog_4_method_4_code 30 = .ok (.invokestatic 15, 3) := by decide +kernel
theorem d_G_isPath_33 : decode prog_4_method_4_code 33 = .ok (.ifCond .eq 18, 3) := by decide +kernel
theorem d_G_isPath_36 : decode prog_4_method_4_code 36 = .ok (.aload_n 0, 1) := by decide +kernel
theorem d_G_isPath_37 : decode prog_4_method_4_code 37 = .ok (.iload_n 3, 1) := by decide +kernel
theorem d_G_isPath_38 : decode prog_4_method_4_code 38 = .ok (.iconst 1, 1) := by decide +kernel
theorem d_G_isPath_39 : decode prog_4_method_4_code 39 = .ok (.iadd, 1) := by decide +kernel
theorem d_G_isPath_40 : decode prog_4_method_4_code 40 = .ok (.iload_n 2, 1) := by decide +kernel
theorem d_G_isPath_41 : decode prog_4_method_4_code 41 = .ok (.invokestatic 21, 3) := by decide +kernel
theorem d_G_isPath_44 : decode prog_4_method_4_code 44 = .ok (.ifCond .eq 7, 3) := by decide +kernel
theorem d_G_isPath_47 : decode prog_4_method_4_code 47 = .ok (.iconst 1, 1) := by decide +kernel
theorem d_G_isPath_48 : decode prog_4_method_4_code 48 = .ok (.goto 4, 3) := by decide +kernel
theorem d_G_isPath_51 : decode prog_4_method_4_code 51 = .ok (.iconst 0, 1) := by decide +kernel
theorem d_G_isPath_52 : decode prog_4_method_4_code 52 = .ok (.ireturn, 1) := by decide +kernel
theorem d_G_isPath_53 : decode prog_4_method_4_code 53 = .ok (.iinc 3 1, 3) := by decide +kernel
theorem d_G_isPath_56 : decode prog_4_method_4_code 56 = .ok (.goto (-44), 3) := by decide +kernel
theorem d_G_isPath_59 : decode prog_4_method_4_code 59 = .ok (.iconst 0, 1) := by decide +kernel
theorem d_G_isPath_60 : decode prog_4_method_4_code 60 = .ok (.ireturn, 1) := by decide +kernel
theorem d_G_isLocal_0 : decode prog_4_method_5_code 0 = .ok (.iconst 0, 1) := by decide +kernel
theorem d_G_isLocal_1 : decode prog_4_method_5_code 1 = .ok (.istore_n 3, 1) := by decide +kernel
theorem d_G_isLocal_2 : decode prog_4_method_5_code 2 = .ok (.iload_n 1, 1) := by decide +kernel
theorem d_G_isLocal_3 : decode prog_4_method_5_code 3 = .ok (.istore 4, 2) := by decide +kernel
theorem d_G_isLocal_5 : decode prog_4_method_5_code 5 = .ok (.iload 4, 2) := by decide +kernel
theorem d_G_isLocal_7 : decode prog_4_method_5_code 7 = .ok (.iload_n 2, 1) := by decide +kernel
theorem d_G_isLocal_8 : decode prog_4_method_5_code 8 = .ok (.if_icmp .ge 74, 3) := by decide +kernel
theorem d_G_isLocal_11 : decode prog_4_method_5_code 11 = .ok (.aload_n 0, 1) := by decide +kernel
theorem d_G_isLocal_12 : decode prog_4_method_5_code 12 = .ok (.iload 4, 2) := by decide +kernel
theorem d_G_isLocal_14 : decode prog_4_method_5_code 14 = .ok (.invokevirtual 9, 3) := by decide +kernel
theorem d_G_isLocal_17 : decode prog_4_method_5_code 17 = .ok (.istore 5, 2) := by decide +kernel
theorem d_G_isLocal_19 : decode prog_4_method_5_code 19 = .ok (.iload 5, 2) := by decide +kernel
theorem d_G_isLocal_21 : decode prog_4_method_5_code 21 = .ok (.invokestatic 24, 3) := by decide +kernel
theorem d_G_isLocal_24 : decode prog_4_method_5_code 24 = .ok (.ifCond .ne 24, 3) := by decide +kernel
theorem d_G_isLocal_27 : decode prog_4_method_5_code 27 = .ok (.iload 5, 2) := by decide +kernel
theorem d_G_isLocal_29 : decode prog_4_method_5_code 29 = .ok (.bipush 45, 2) := by decide +kernel
theorem d_G_isLocal_31 : decode prog_4_method_5_code 31 = .ok (.if_icmp .eq 17, 3) := by decide +kernel
theorem d_G_isLocal_34 : decode prog_4_method_5_code 34 = .ok (.iload 5, 2) := by decide +kernel
theorem d_G_isLocal_36 : decode prog_4_method_5_code 36 = .ok (.bipush 95, 2) := by decide +kernel
theorem d_G_isLocal_38 : decode prog_4_method_5_code 38 = .ok (.if_icmp .eq 10, 3) := by decide +kernel
theorem d_G_isLocal_41 : decode prog_4_method_5_code 41 = .ok (.iload 5, 2) := by decide +kernel
theorem d_G_isLocal_43 : decode prog_4_method_5_code 43 = .ok (.bipush 43, 2) := by decide +kernel
theorem d_G_isLocal_45 : decode prog_4_method_5_code 45 = .ok (.if_icmp .ne 7, 3) := by decide +kernel
theorem d_G_isLocal_48 : decode prog_4_method_5_code 48 = .ok (.iconst 1, 1) := by decide +kernel
theorem d_G_isLocal_49 : decode prog_4_method_5_code 49 = .ok (.goto 4, 3) := by decide +kernel
theorem d_G_isLocal_52 : decode prog_4_method_5_code 52 = .ok (.iconst 0, 1) := by decide +kernel
theorem d_G_isLocal_53 : decode prog_4_method_5_code 53 = .ok (.istore 6, 2) := by decide +kernel
theorem d_G_isLocal_55 : decode prog_4_method_5_code 55 = .ok (.iload 6, 2) := by decide +kernel
theorem d_G_isLocal_57 : decode prog_4_method_5_code 57 = .ok (.ifCond .ne 16, 3) := by decide +kernel
theorem d_G_isLocal_60 : decode prog_4_method_5_code 60 = .ok (.iload 5, 2) := by decide +kernel
theorem d_G_isLocal_62 : decode prog_4_method_5_code 62 = .ok (.bipush 46, 2) := by decide +kernel
theorem d_G_isLocal_64 : decode prog_4_method_5_code 64 = .ok (.if_icmp .ne 7, 3) := by decide +kernel
theorem d_G_isLocal_67 : decode prog_4_method_5_code 67 = .ok (.iload_n 3, 1) := by decide +kernel
theorem d_G_isLocal_68 : decode prog_4_method_5_code 68 = .ok (.ifCond .ne 5, 3) := by decide +kernel
theorem d_G_isLocal_71 : decode prog_4_method_5_code 71 = .ok (.iconst 0, 1) := by decide +kernel
theorem d_G_isLocal_72 : decode prog_4_method_5_code 72 = .ok (.ireturn, 1) := by decide +kernel
theorem d_G_isLocal_73 : decode prog_4_method_5_code 73 = .ok (.iload 6, 2) := by decide +kernel
theorem d_G_isLocal_75 : decode prog_4_method_5_code 75 = .ok (.istore_n 3, 1) := by decide +kernel
theorem d_G_isLocal_76 : decode prog_4_method_5_code 76 = .ok (.iinc 4 1, 3) := by decide +kernel
theorem d_G_isLocal_79 : decode prog_4_method_5_code 79 = .ok (.goto (-74), 3) := by decide +kernel
theorem d_G_isLocal_82 : decode prog_4_method_5_code 82 = .ok (.iload_n 3, 1) := by decide +kernel
theorem d_G_isLocal_83 : decode prog_4_method_5_code 83 = .ok (.ireturn, 1) := by decide +kernel
theorem d_P_greet_0 : decode prog_1_method_29_code 0 = .ok (.aload_n 0, 1) := by decide +kernel
theorem d_P_greet_1 : decode prog_1_method_29_code 1 = .ok (.getfield 21, 3) := by decide +kernel
theorem d_P_greet_4 : decode prog_1_method_29_code 4 = .ok (.iconst 1, 1) := by decide +kernel
theorem d_P_greet_5 : decode prog_1_method_29_code 5 = .ok (.putfield 124, 3) := by decide +kernel
theorem d_P_greet_8 : decode prog_1_method_29_code 8 = .ok (.aload_n 0, 1) := by decide +kernel
theorem d_P_greet_9 : decode prog_1_method_29_code 9 = .ok (.getfield 21, 3) := by decide +kernel
theorem d_P_greet_12 : decode prog_1_method_29_code 12 = .ok (.invokevirtual 204, 3) := by decide +kernel
theorem d_P_greet_15 : decode prog_1_method_29_code 15 = .ok (.sipush 250, 3) := by decide +kernel
theorem d_P_greet_18 : decode prog_1_method_29_code 18 = .ok (.ireturn, 1) := by decide +kernel
theorem d_P_beginTransaction_0 : decode prog_1_method_30_code 0 = .ok (.aload_n 0, 1) := by decide +kernel
theorem d_P_beginTransaction_1 : decode prog_1_method_30_code 1 = .ok (.getfield 21, 3) := by decide +kernel
theorem d_P_beginTransaction_4 : decode prog_1_method_30_code 4 = .ok (.getfield 124, 3) := by decide +kernel
theorem d_P_beginTransaction_7 : decode prog_1_method_30_code 7 = .ok (.ifCond .eq 13, 3) := by decide +kernel
theorem d_P_beginTransaction_10 : decode prog_1_method_30_code 10 = .ok (.aload_n 0, 1) := by decide +kernel
theorem d_P_beginTransaction_11 : decode prog_1_method_30_code 11 = .ok (.getfield 21, 3) := by decide +kernel
theorem d_P_beginTransaction_14 : decode prog_1_method_30_code 14 = .ok (.getfield 121, 3) := by decide +kernel
theorem d_P_beginTransaction_17 : decode prog_1_method_30_code 17 = .ok (.ifCond .eq 7, 3) := by decide +kernel
theorem d_P_beginTransaction_20 : decode prog_1_method_30_code 20 = .ok (.sipush 503, 3) := by decide +kernel
theorem d_P_beginTransaction_23 : decode prog_1_method_30_code 23 = .ok (.ireturn, 1) := by decide +kernel
theorem d_P_beginTransaction_24 : decode prog_1_method_30_code 24 = .ok (.aload_n 0, 1) := by decide +kernel
theorem d_P_beginTransaction_25 : decode prog_1_method_30_code 25 = .ok (.getfield 28, 3) := by decide +kernel
theorem d_P_beginTransaction_28 : decode prog_1_method_30_code 28 = .ok (.invokevirtual 250, 3) := by decide +kernel
theorem d_P_beginTransaction_31 : decode prog_1_method_30_code 31 = .ok (.ifCond .eq 7, 3) := by decide +kernel
theorem d_P_beginTransaction_34 : decode prog_1_method_30_code 34 = .ok (.sipush 452, 3) := by decide +kernel
theorem d_P_beginTransaction_37 : decode prog_1_method_30_code 37 = .ok (.ireturn, 1) := by decide +kernel
theorem d_P_beginTransaction_38 : decode prog_1_method_30_code 38 = .ok (.aload_n 0, 1) := by decide +kernel
theorem d_P_beginTransaction_39 : decode prog_1_method_30_code 39 = .ok (.getfield 21, 3) := by decide +kernel
theorem d_P_beginTransaction_42 : decode prog_1_method_30_code 42 = .ok (.iconst 1, 1) := by decide +kernel
theorem d_P_beginTransaction_43 : decode prog_1_method_30_code 43 = .ok (.putfield 121, 3) := by decide +kernel
theorem d_P_beginTransaction_46 : decode prog_1_method_30_code 46 = .ok (.aload_n 0, 1) := by decide +kernel
end
section
theorem d_P_beginTransaction_47 : decode prog_1_method_30_code 47 = .ok (.getfield 21, 3) := by decide +kernel
theorem d_P_beginTransaction_50 : decode prog_1_method_30_code 50 = .ok (.getfield 254, 3) := by decide +kernel
theorem d_P_beginTransaction_53 : decode prog_1_method_30_code 53 = .ok (.invokevirtual 72, 3) := by decide +kernel
theorem d_P_beginTransaction_56 : decode prog_1_method_30_code 56 = .ok (.aload_n 0, 1) := by decide +kernel
theorem d_P_beginTransaction_57 : decode prog_1_method_30_code 57 = .ok (.getfield 21, 3) := by decide +kernel
theorem d_P_beginTransaction_60 : decode prog_1_method_30_code 60 = .ok (.getfield 254, 3) := by decide +kernel
theorem d_P_beginTransaction_63 : decode prog_1_method_30_code 63 = .ok (.aload_n 0, 1) := by decide +kernel
theorem d_P_beginTransaction_64 : decode prog_1_method_30_code 64 = .ok (.getfield 14, 3) := by decide +kernel
theorem d_P_beginTransaction_67 : decode prog_1_method_30_code 67 = .ok (.ldc 225, 2) := by decide +kernel
theorem d_P_beginTransaction_69 : decode prog_1_method_30_code 69 = .ok (.invokestatic 239, 3) := by decide +kernel
theorem d_P_beginTransaction_72 : decode prog_1_method_30_code 72 = .ok (.aload_n 0, 1) := by decide +kernel
theorem d_P_beginTransaction_73 : decode prog_1_method_30_code 73 = .ok (.getfield 14, 3) := by decide +kernel
theorem d_P_beginTransaction_76 : decode prog_1_method_30_code 76 = .ok (.getfield 51, 3) := by decide +kernel
theorem d_P_beginTransaction_79 : decode prog_1_method_30_code 79 = .ok (.iconst 1, 1) := by decide +kernel
theorem d_P_beginTransaction_80 : decode prog_1_method_30_code 80 = .ok (.isub, 1) := by decide +kernel
theorem d_P_beginTransaction_81 : decode prog_1_method_30_code 81 = .ok (.invokevirtual 255, 3) := by decide +kernel
theorem d_P_beginTransaction_84 : decode prog_1_method_30_code 84 = .ok (.sipush 250, 3) := by decide +kernel
theorem d_P_beginTransaction_87 : decode prog_1_method_30_code 87 = .ok (.ireturn, 1) := by decide +kernel
theorem d_P_addRecipient_0 : decode prog_1_method_31_code 0 = .ok (.aload_n 0, 1) := by decide +kernel
theorem d_P_addRecipient_1 : decode prog_1_method_31_code 1 = .ok (.getfield 21, 3) := by decide +kernel
theorem d_P_addRecipient_4 : decode prog_1_method_31_code 4 = .ok (.getfield 121, 3) := by decide +kernel
theorem d_P_addRecipient_7 : decode prog_1_method_31_code 7 = .ok (.ifCond .ne 7, 3) := by decide +kernel
theorem d_P_addRecipient_10 : decode prog_1_method_31_code 10 = .ok (.sipush 503, 3) := by decide +kernel
theorem d_P_addRecipient_13 : decode prog_1_method_31_code 13 = .ok (.ireturn, 1) := by decide +kernel
theorem d_P_addRecipient_14 : decode prog_1_method_31_code 14 = .ok (.aload_n 0, 1) := by decide +kernel
theorem d_P_addRecipient_15 : decode prog_1_method_31_code 15 = .ok (.getfield 21, 3) := by decide +kernel
theorem d_P_addRecipient_18 : decode prog_1_method_31_code 18 = .ok (.getfield 259, 3) := by decide +kernel
theorem d_P_addRecipient_21 : decode prog_1_method_31_code 21 = .ok (.iconst 4, 1) := by decide +kernel
theorem d_P_addRecipient_22 : decode prog_1_method_31_code 22 = .ok (.if_icmp .lt 7, 3) := by decide +kernel
theorem d_P_addRecipient_25 : decode prog_1_method_31_code 25 = .ok (.sipush 452, 3) := by decide +kernel
theorem d_P_addRecipient_28 : decode prog_1_method_31_code 28 = .ok (.ireturn, 1) := by decide +kernel
theorem d_P_addRecipient_29 : decode prog_1_method_31_code 29 = .ok (.aload_n 0, 1) := by decide +kernel
theorem d_P_addRecipient_30 : decode prog_1_method_31_code 30 = .ok (.getfield 21, 3) := by decide +kernel
theorem d_P_addRecipient_33 : decode prog_1_method_31_code 33 = .ok (.getfield 262, 3) := by decide +kernel
theorem d_P_addRecipient_36 : decode prog_1_method_31_code 36 = .ok (.aload_n 0, 1) := by decide +kernel
theorem d_P_addRecipient_37 : decode prog_1_method_31_code 37 = .ok (.getfield 21, 3) := by decide +kernel
theorem d_P_addRecipient_40 : decode prog_1_method_31_code 40 = .ok (.getfield 259, 3) := by decide +kernel
theorem d_P_addRecipient_43 : decode prog_1_method_31_code 43 = .ok (.aaload, 1) := by decide +kernel
theorem d_P_addRecipient_44 : decode prog_1_method_31_code 44 = .ok (.astore_n 1, 1) := by decide +kernel
theorem d_P_addRecipient_45 : decode prog_1_method_31_code 45 = .ok (.aload_n 1, 1) := by decide +kernel
theorem d_P_addRecipient_46 : decode prog_1_method_31_code 46 = .ok (.invokevirtual 72, 3) := by decide +kernel
theorem d_P_addRecipient_49 : decode prog_1_method_31_code 49 = .ok (.aload_n 1, 1) := by decide +kernel
theorem d_P_addRecipient_50 : decode prog_1_method_31_code 50 = .ok (.aload_n 0, 1) := by decide +kernel
theorem d_P_addRecipient_51 : decode prog_1_method_31_code 51 = .ok (.getfield 14, 3) := by decide +kernel
theorem d_P_addRecipient_54 : decode prog_1_method_31_code 54 = .ok (.ldc 237, 2) := by decide +kernel
theorem d_P_addRecipient_56 : decode prog_1_method_31_code 56 = .ok (.invokestatic 239, 3) := by decide +kernel
theorem d_P_addRecipient_59 : decode prog_1_method_31_code 59 = .ok (.aload_n 0, 1) := by decide +kernel
theorem d_P_addRecipient_60 : decode prog_1_method_31_code 60 = .ok (.getfield 14, 3) := by decide +kernel
theorem d_P_addRecipient_63 : decode prog_1_method_31_code 63 = .ok (.getfield 51, 3) := by decide +kernel
theorem d_P_addRecipient_66 : decode prog_1_method_31_code 66 = .ok (.iconst 1, 1) := by decide +kernel
theorem d_P_addRecipient_67 : decode prog_1_method_31_code 67 = .ok (.isub, 1) := by decide +kernel
theorem d_P_addRecipient_68 : decode prog_1_method_31_code 68 = .ok (.invokevirtual 255, 3) := by decide +kernel
theorem d_P_addRecipient_71 : decode prog_1_method_31_code 71 = .ok (.aload_n 0, 1) := by decide +kernel
theorem d_P_addRecipient_72 : decode prog_1_method_31_code 72 = .ok (.getfield 21, 3) := by decide +kernel
theorem d_P_addRecipient_75 : decode prog_1_method_31_code 75 = .ok (.dup, 1) := by decide +kernel
theorem d_P_addRecipient_76 : decode prog_1_method_31_code 76 = .ok (.getfield 259, 3) := by decide +kernel
theorem d_P_addRecipient_79 : decode prog_1_method_31_code 79 = .ok (.iconst 1, 1) := by decide +kernel
theorem d_P_addRecipient_80 : decode prog_1_method_31_code 80 = .ok (.iadd, 1) := by decide +kernel
theorem d_P_addRecipient_81 : decode prog_1_method_31_code 81 = .ok (.putfield 259, 3) := by decide +kernel
theorem d_P_addRecipient_84 : decode prog_1_method_31_code 84 = .ok (.sipush 250, 3) := by decide +kernel
theorem d_P_addRecipient_87 : decode prog_1_method_31_code 87 = .ok (.ireturn, 1) := by decide +kernel
theorem d_P_beginText_0 : decode prog_1_method_32_code 0 = .ok (.aload_n 0, 1) := by decide +kernel
theorem d_P_beginText_1 : decode prog_1_method_32_code 1 = .ok (.getfield 21, 3) := by decide +kernel
theorem d_P_beginText_4 : decode prog_1_method_32_code 4 = .ok (.getfield 121, 3) := by decide +kernel
theorem d_P_beginText_7 : decode prog_1_method_32_code 7 = .ok (.ifCond .eq 13, 3) := by decide +kernel
theorem d_P_beginText_10 : decode prog_1_method_32_code 10 = .ok (.aload_n 0, 1) := by decide +kernel
theorem d_P_beginText_11 : decode prog_1_method_32_code 11 = .ok (.getfield 21, 3) := by decide +kernel
theorem d_P_beginText_14 : decode prog_1_method_32_code 14 = .ok (.getfield 259, 3) := by decide +kernel
theorem d_P_beginText_17 : decode prog_1_method_32_code 17 = .ok (.ifCond .ne 7, 3) := by decide +kernel
theorem d_P_beginText_20 : decode prog_1_method_32_code 20 = .ok (.sipush 503, 3) := by decide +kernel
theorem d_P_beginText_23 : decode prog_1_method_32_code 23 = .ok (.ireturn, 1) := by decide +kernel
theorem d_P_beginText_24 : decode prog_1_method_32_code 24 = .ok (.aload_n 0, 1) := by decide +kernel
theorem d_P_beginText_25 : decode prog_1_method_32_code 25 = .ok (.getfield 21, 3) := by decide +kernel
theorem d_P_beginText_28 : decode prog_1_method_32_code 28 = .ok (.iconst 1, 1) := by decide +kernel
theorem d_P_beginText_29 : decode prog_1_method_32_code 29 = .ok (.putfield 62, 3) := by decide +kernel
theorem d_P_beginText_32 : decode prog_1_method_32_code 32 = .ok (.aload_n 0, 1) := by decide +kernel
theorem d_P_beginText_33 : decode prog_1_method_32_code 33 = .ok (.getfield 21, 3) := by decide +kernel
theorem d_P_beginText_36 : decode prog_1_method_32_code 36 = .ok (.iconst 0, 1) := by decide +kernel
theorem d_P_beginText_37 : decode prog_1_method_32_code 37 = .ok (.putfield 266, 3) := by decide +kernel
theorem d_P_beginText_40 : decode prog_1_method_32_code 40 = .ok (.aload_n 0, 1) := by decide +kernel
theorem d_P_beginText_41 : decode prog_1_method_32_code 41 = .ok (.getfield 21, 3) := by decide +kernel
theorem d_P_beginText_44 : decode prog_1_method_32_code 44 = .ok (.getfield 269, 3) := by decide +kernel
theorem d_P_beginText_47 : decode prog_1_method_32_code 47 = .ok (.invokevirtual 72, 3) := by decide +kernel
theorem d_P_beginText_50 : decode prog_1_method_32_code 50 = .ok (.sipush 354, 3) := by decide +kernel
theorem d_P_beginText_53 : decode prog_1_method_32_code 53 = .ok (.ireturn, 1) := by decide +kernel
theorem d_S_forget_0 : decode prog_9_method_2_code 0 = .ok (.aload_n 0, 1) := by decide +kernel
theorem d_S_forget_1 : decode prog_9_method_2_code 1 = .ok (.iconst 0, 1) := by decide +kernel
theorem d_S_forget_2 : decode prog_9_method_2_code 2 = .ok (.putfield 27, 3) := by decide +kernel
theorem d_S_forget_5 : decode prog_9_method_2_code 5 = .ok (.aload_n 0, 1) := by decide +kernel
theorem d_S_forget_6 : decode prog_9_method_2_code 6 = .ok (.invokevirtual 31, 3) := by decide +kernel
theorem d_S_forget_9 : decode prog_9_method_2_code 9 = .ok (.return_, 1) := by decide +kernel
theorem d_P_breakAfter_0 : decode prog_1_method_4_code 0 = .ok (.aload_n 0, 1) := by decide +kernel
theorem d_P_breakAfter_1 : decode prog_1_method_4_code 1 = .ok (.getfield 28, 3) := by decide +kernel
theorem d_P_breakAfter_4 : decode prog_1_method_4_code 4 = .ok (.getfield 47, 3) := by decide +kernel
theorem d_P_breakAfter_7 : decode prog_1_method_4_code 7 = .ok (.ifCond .ne 13, 3) := by decide +kernel
theorem d_P_breakAfter_10 : decode prog_1_method_4_code 10 = .ok (.iload_n 1, 1) := by decide +kernel
theorem d_P_breakAfter_11 : decode prog_1_method_4_code 11 = .ok (.ifCond .lt 9, 3) := by decide +kernel
theorem d_P_breakAfter_14 : decode prog_1_method_4_code 14 = .ok (.iload_n 1, 1) := by decide +kernel
theorem d_P_breakAfter_15 : decode prog_1_method_4_code 15 = .ok (.bipush 20, 2) := by decide +kernel
theorem d_P_breakAfter_17 : decode prog_1_method_4_code 17 = .ok (.if_icmp .le 5, 3) := by decide +kernel
theorem d_P_breakAfter_20 : decode prog_1_method_4_code 20 = .ok (.iconst 0, 1) := by decide +kernel
theorem d_P_breakAfter_21 : decode prog_1_method_4_code 21 = .ok (.ireturn, 1) := by decide +kernel
theorem d_P_breakAfter_22 : decode prog_1_method_4_code 22 = .ok (.aload_n 0, 1) := by decide +kernel
theorem d_P_breakAfter_23 : decode prog_1_method_4_code 23 = .ok (.getfield 28, 3) := by decide +kernel
theorem d_P_breakAfter_26 : decode prog_1_method_4_code 26 = .ok (.iload_n 1, 1) := by decide +kernel
theorem d_P_breakAfter_27 : decode prog_1_method_4_code 27 = .ok (.putfield 75, 3) := by decide +kernel
theorem d_P_breakAfter_30 : decode prog_1_method_4_code 30 = .ok (.iconst 1, 1) := by decide +kernel
theorem d_P_breakAfter_31 : decode prog_1_method_4_code 31 = .ok (.ireturn, 1) := by decide +kernel
theorem d_P_restart_0 : decode prog_1_method_5_code 0 = .ok (.aload_n 0, 1) := by decide +kernel
theorem d_P_restart_1 : decode prog_1_method_5_code 1 = .ok (.getfield 28, 3) := by decide +kernel
theorem d_P_restart_4 : decode prog_1_method_5_code 4 = .ok (.getfield 47, 3) := by decide +kernel
theorem d_P_restart_7 : decode prog_1_method_5_code 7 = .ok (.ifCond .ne 5, 3) := by decide +kernel
theorem d_P_restart_10 : decode prog_1_method_5_code 10 = .ok (.iconst (-1), 1) := by decide +kernel
theorem d_P_restart_11 : decode prog_1_method_5_code 11 = .ok (.ireturn, 1) := by decide +kernel
theorem d_P_restart_12 : decode prog_1_method_5_code 12 = .ok (.aload_n 0, 1) := by decide +kernel
theorem d_P_restart_13 : decode prog_1_method_5_code 13 = .ok (.getfield 28, 3) := by decide +kernel
theorem d_P_restart_16 : decode prog_1_method_5_code 16 = .ok (.invokevirtual 78, 3) := by decide +kernel
theorem d_P_restart_19 : decode prog_1_method_5_code 19 = .ok (.aload_n 0, 1) := by decide +kernel
theorem d_P_restart_20 : decode prog_1_method_5_code 20 = .ok (.getfield 21, 3) := by decide +kernel
theorem d_P_restart_23 : decode prog_1_method_5_code 23 = .ok (.invokevirtual 81, 3) := by decide +kernel
theorem d_P_restart_26 : decode prog_1_method_5_code 26 = .ok (.aload_n 0, 1) := by decide +kernel
theorem d_P_restart_27 : decode prog_1_method_5_code 27 = .ok (.getfield 14, 3) := by decide +kernel
theorem d_P_restart_30 : decode prog_1_method_5_code 30 = .ok (.invokevirtual 72, 3) := by decide +kernel
theorem d_P_restart_33 : decode prog_1_method_5_code 33 = .ok (.aload_n 0, 1) := by decide +kernel
theorem d_P_restart_34 : decode prog_1_method_5_code 34 = .ok (.getfield 28, 3) := by decide +kernel
theorem d_P_restart_37 : decode prog_1_method_5_code 37 = .ok (.invokevirtual 84, 3) := by decide +kernel
theorem d_P_restart_40 : decode prog_1_method_5_code 40 = .ok (.ireturn, 1) := by decide +kernel
theorem d_O_recover_0 : decode prog_10_method_6_code 0 = .ok (.aload_n 0, 1) := by decide +kernel
theorem d_O_recover_1 : decode prog_10_method_6_code 1 = .ok (.getfield 26, 3) := by decide +kernel
theorem d_O_recover_4 : decode prog_10_method_6_code 4 = .ok (.iconst 1, 1) := by decide +kernel
theorem d_O_recover_5 : decode prog_10_method_6_code 5 = .ok (.isub, 1) := by decide +kernel
theorem d_O_recover_6 : decode prog_10_method_6_code 6 = .ok (.istore_n 1, 1) := by decide +kernel
theorem d_O_recover_7 : decode prog_10_method_6_code 7 = .ok (.iload_n 1, 1) := by decide +kernel
theorem d_O_recover_8 : decode prog_10_method_6_code 8 = .ok (.ifCond .lt 31, 3) := by decide +kernel
theorem d_O_recover_11 : decode prog_10_method_6_code 11 = .ok (.aload_n 0, 1) := by decide +kernel
theorem d_O_recover_12 : decode prog_10_method_6_code 12 = .ok (.getfield 11, 3) := by decide +kernel
theorem d_O_recover_15 : decode prog_10_method_6_code 15 = .ok (.iload_n 1, 1) := by decide +kernel
theorem d_O_recover_16 : decode prog_10_method_6_code 16 = .ok (.aaload, 1) := by decide +kernel
theorem d_O_recover_17 : decode prog_10_method_6_code 17 = .ok (.getfield 43, 3) := by decide +kernel
theorem d_O_recover_20 : decode prog_10_method_6_code 20 = .ok (.ifCond .ne 13, 3) := by decide +kernel
theorem d_O_recover_23 : decode prog_10_method_6_code 23 = .ok (.aload_n 0, 1) := by decide +kernel
theorem d_O_recover_24 : decode prog_10_method_6_code 24 = .ok (.aload_n 0, 1) := by decide +kernel
theorem d_O_recover_25 : decode prog_10_method_6_code 25 = .ok (.getfield 11, 3) := by decide +kernel
theorem d_O_recover_28 : decode prog_10_method_6_code 28 = .ok (.iload_n 1, 1) := by decide +kernel
theorem d_O_recover_29 : decode prog_10_method_6_code 29 = .ok (.aaload, 1) := by decide +kernel
theorem d_O_recover_30 : decode prog_10_method_6_code 30 = .ok (.invokevirtual 46, 3) := by decide +kernel
theorem d_O_recover_33 : decode prog_10_method_6_code 33 = .ok (.iinc 1 (-1), 3) := by decide +kernel
theorem d_O_recover_36 : decode prog_10_method_6_code 36 = .ok (.goto (-29), 3) := by decide +kernel
theorem d_O_recover_39 : decode prog_10_method_6_code 39 = .ok (.aload_n 0, 1) := by decide +kernel
theorem d_O_recover_40 : decode prog_10_method_6_code 40 = .ok (.iconst (-1), 1) := by decide +kernel
theorem d_O_recover_41 : decode prog_10_method_6_code 41 = .ok (.putfield 18, 3) := by decide +kernel
theorem d_O_recover_44 : decode prog_10_method_6_code 44 = .ok (.aload_n 0, 1) := by decide +kernel
theorem d_O_recover_45 : decode prog_10_method_6_code 45 = .ok (.iconst 0, 1) := by decide +kernel
theorem d_O_recover_46 : decode prog_10_method_6_code 46 = .ok (.putfield 22, 3) := by decide +kernel
theorem d_O_recover_49 : decode prog_10_method_6_code 49 = .ok (.return_, 1) := by decide +kernel
theorem d_O_drop_0 : decode prog_10_method_7_code 0 = .ok (.iconst 0, 1) := by decide +kernel
theorem d_O_drop_1 : decode prog_10_method_7_code 1 = .ok (.istore_n 2, 1) := by decide +kernel
theorem d_O_drop_2 : decode prog_10_method_7_code 2 = .ok (.iconst 0, 1) := by decide +kernel
theorem d_O_drop_3 : decode prog_10_method_7_code 3 = .ok (.istore_n 3, 1) := by decide +kernel
theorem d_O_drop_4 : decode prog_10_method_7_code 4 = .ok (.iload_n 3, 1) := by decide +kernel
theorem d_O_drop_5 : decode prog_10_method_7_code 5 = .ok (.aload_n 0, 1) := by decide +kernel
theorem d_O_drop_6 : decode prog_10_method_7_code 6 = .ok (.getfield 26, 3) := by decide +kernel
theorem d_O_drop_9 : decode prog_10_method_7_code 9 = .ok (.if_icmp .ge 34, 3) := by decide +kernel
theorem d_O_drop_12 : decode prog_10_method_7_code 12 = .ok (.aload_n 0, 1) := by decide +kernel
theorem d_O_drop_13 : decode prog_10_method_7_code 13 = .ok (.getfield 11, 3) := by decide +kernel
theorem d_O_drop_16 : decode prog_10_method_7_code 16 = .ok (.iload_n 3, 1) := by decide +kernel
theorem d_O_drop_17 : decode prog_10_method_7_code 17 = .ok (.aaload, 1) := by decide +kernel
theorem d_O_drop_18 : decode prog_10_method_7_code 18 = .ok (.astore 4, 2) := by decide +kernel
theorem d_O_drop_20 : decode prog_10_method_7_code 20 = .ok (.aload 4, 2) := by decide +kernel
theorem d_O_drop_22 : decode prog_10_method_7_code 22 = .ok (.aload_n 1, 1) := by decide +kernel
theorem d_O_drop_23 : decode prog_10_method_7_code 23 = .ok (.if_acmp .eq 14, 3) := by decide +kernel
theorem d_O_drop_26 : decode prog_10_method_7_code 26 = .ok (.aload_n 0, 1) := by decide +kernel
theorem d_O_drop_27 : decode prog_10_method_7_code 27 = .ok (.getfield 11, 3) := by decide +kernel
theorem d_O_drop_30 : decode prog_10_method_7_code 30 = .ok (.iload_n 2, 1) := by decide +kernel
theorem d_O_drop_31 : decode prog_10_method_7_code 31 = .ok (.aload 4, 2) := by decide +kernel
theorem d_O_drop_33 : decode prog_10_method_7_code 33 = .ok (.aastore, 1) := by decide +kernel
theorem d_O_drop_34 : decode prog_10_method_7_code 34 = .ok (.iinc 2 1, 3) := by decide +kernel
theorem d_O_drop_37 : decode prog_10_method_7_code 37 = .ok (.iinc 3 1, 3) := by decide +kernel
theorem d_O_drop_40 : decode prog_10_method_7_code 40 = .ok (.goto (-36), 3) := by decide +kernel
theorem d_O_drop_43 : decode prog_10_method_7_code 43 = .ok (.iload_n 2, 1) := by decide +kernel
theorem d_O_drop_44 : decode prog_10_method_7_code 44 = .ok (.aload_n 0, 1) := by decide +kernel
theorem d_O_drop_45 : decode prog_10_method_7_code 45 = .ok (.getfield 26, 3) := by decide +kernel
theorem d_O_drop_48 : decode prog_10_method_7_code 48 = .ok (.if_icmp .ge 15, 3) := by decide +kernel
theorem d_O_drop_51 : decode prog_10_method_7_code 51 = .ok (.aload_n 0, 1) := by decide +kernel
theorem d_O_drop_52 : decode prog_10_method_7_code 52 = .ok (.getfield 11, 3) := by decide +kernel
theorem d_O_drop_55 : decode prog_10_method_7_code 55 = .ok (.iload_n 2, 1) := by decide +kernel
theorem d_O_drop_56 : decode prog_10_method_7_code 56 = .ok (.aload_n 1, 1) := by decide +kernel
theorem d_O_drop_57 : decode prog_10_method_7_code 57 = .ok (.aastore, 1) := by decide +kernel
theorem d_O_drop_58 : decode prog_10_method_7_code 58 = .ok (.aload_n 0, 1) := by decide +kernel
theorem d_O_drop_59 : decode prog_10_method_7_code 59 = .ok (.iload_n 2, 1) := by decide +kernel
theorem d_O_drop_60 : decode prog_10_method_7_code 60 = .ok (.putfield 26, 3) := by decide +kernel
theorem d_O_drop_63 : decode prog_10_method_7_code 63 = .ok (.return_, 1) := by decide +kernel
theorem d_O_sealedCount_0 : decode prog_10_method_8_code 0 = .ok (.iconst 0, 1) := by decide +kernel
theorem d_O_sealedCount_1 : decode prog_10_method_8_code 1 = .ok (.istore_n 1, 1) := by decide +kernel
theorem d_O_sealedCount_2 : decode prog_10_method_8_code 2 = .ok (.iconst 0, 1) := by decide +kernel
theorem d_O_sealedCount_3 : decode prog_10_method_8_code 3 = .ok (.istore_n 2, 1) := by decide +kernel
theorem d_O_sealedCount_4 : decode prog_10_method_8_code 4 = .ok (.iload_n 2, 1) := by decide +kernel
theorem d_O_sealedCount_5 : decode prog_10_method_8_code 5 = .ok (.aload_n 0, 1) := by decide +kernel
theorem d_O_sealedCount_6 : decode prog_10_method_8_code 6 = .ok (.getfield 26, 3) := by decide +kernel
theorem d_O_sealedCount_9 : decode prog_10_method_8_code 9 = .ok (.if_icmp .ge 24, 3) := by decide +kernel
theorem d_O_sealedCount_12 : decode prog_10_method_8_code 12 = .ok (.aload_n 0, 1) := by decide +kernel
theorem d_O_sealedCount_13 : decode prog_10_method_8_code 13 = .ok (.getfield 11, 3) := by decide +kernel
theorem d_O_sealedCount_16 : decode prog_10_method_8_code 16 = .ok (.iload_n 2, 1) := by decide +kernel
theorem d_O_sealedCount_17 : decode prog_10_method_8_code 17 = .ok (.aaload, 1) := by decide +kernel
theorem d_O_sealedCount_18 : decode prog_10_method_8_code 18 = .ok (.getfield 43, 3) := by decide +kernel
theorem d_O_sealedCount_21 : decode prog_10_method_8_code 21 = .ok (.ifCond .eq 6, 3) := by decide +kernel
theorem d_O_sealedCount_24 : decode prog_10_method_8_code 24 = .ok (.iinc 1 1, 3) := by decide +kernel
theorem d_O_sealedCount_27 : decode prog_10_method_8_code 27 = .ok (.iinc 2 1, 3) := by decide +kernel
theorem d_O_sealedCount_30 : decode prog_10_method_8_code 30 = .ok (.goto (-26), 3) := by decide +kernel
theorem d_O_sealedCount_33 : decode prog_10_method_8_code 33 = .ok (.iload_n 1, 1) := by decide +kernel
theorem d_O_sealedCount_34 : decode prog_10_method_8_code 34 = .ok (.ireturn, 1) := by decide +kernel
theorem d_P_pass_0 : decode prog_1_method_6_code 0 = .ok (.iload_n 1, 1) := by decide +kernel
theorem d_P_pass_1 : decode prog_1_method_6_code 1 = .ok (.ifCond .lt 10, 3) := by decide +kernel
theorem d_P_pass_4 : decode prog_1_method_6_code 4 = .ok (.iload_n 1, 1) := by decide +kernel
theorem d_P_pass_5 : decode prog_1_method_6_code 5 = .ok (.sipush 1000, 3) := by decide +kernel
theorem d_P_pass_8 : decode prog_1_method_6_code 8 = .ok (.if_icmp .le 5, 3) := by decide +kernel
theorem d_P_pass_11 : decode prog_1_method_6_code 11 = .ok (.iconst (-1), 1) := by decide +kernel
theorem d_P_pass_12 : decode prog_1_method_6_code 12 = .ok (.ireturn, 1) := by decide +kernel
theorem d_P_pass_13 : decode prog_1_method_6_code 13 = .ok (.aload_n 0, 1) := by decide +kernel
theorem d_P_pass_14 : decode prog_1_method_6_code 14 = .ok (.dup, 1) := by decide +kernel
theorem d_P_pass_15 : decode prog_1_method_6_code 15 = .ok (.getfield 39, 3) := by decide +kernel
theorem d_P_pass_18 : decode prog_1_method_6_code 18 = .ok (.iload_n 1, 1) := by decide +kernel
theorem d_P_pass_19 : decode prog_1_method_6_code 19 = .ok (.iadd, 1) := by decide +kernel
theorem d_P_pass_20 : decode prog_1_method_6_code 20 = .ok (.putfield 39, 3) := by decide +kernel
theorem d_P_pass_23 : decode prog_1_method_6_code 23 = .ok (.aload_n 0, 1) := by decide +kernel
theorem d_P_pass_24 : decode prog_1_method_6_code 24 = .ok (.getfield 39, 3) := by decide +kernel
theorem d_P_pass_27 : decode prog_1_method_6_code 27 = .ok (.ireturn, 1) := by decide +kernel
theorem d_P_next_0 : decode prog_1_method_7_code 0 = .ok (.aload_n 0, 1) := by decide +kernel
theorem d_P_next_1 : decode prog_1_method_7_code 1 = .ok (.getfield 28, 3) := by decide +kernel
theorem d_P_next_4 : decode prog_1_method_7_code 4 = .ok (.getfield 47, 3) := by decide +kernel
theorem d_P_next_7 : decode prog_1_method_7_code 7 = .ok (.ifCond .eq 7, 3) := by decide +kernel
theorem d_P_next_10 : decode prog_1_method_7_code 10 = .ok (.aconst_null, 1) := by decide +kernel
theorem d_P_next_11 : decode prog_1_method_7_code 11 = .ok (.goto 14, 3) := by decide +kernel
theorem d_P_next_14 : decode prog_1_method_7_code 14 = .ok (.aload_n 0, 1) := by decide +kernel
theorem d_P_next_15 : decode prog_1_method_7_code 15 = .ok (.getfield 28, 3) := by decide +kernel
theorem d_P_next_18 : decode prog_1_method_7_code 18 = .ok (.aload_n 0, 1) := by decide +kernel
theorem d_P_next_19 : decode prog_1_method_7_code 19 = .ok (.getfield 39, 3) := by decide +kernel
theorem d_P_next_22 : decode prog_1_method_7_code 22 = .ok (.invokevirtual 87, 3) := by decide +kernel
theorem d_P_next_25 : decode prog_1_method_7_code 25 = .ok (.astore_n 1, 1) := by decide +kernel
theorem d_P_next_26 : decode prog_1_method_7_code 26 = .ok (.aload_n 1, 1) := by decide +kernel
theorem d_P_next_27 : decode prog_1_method_7_code 27 = .ok (.ifnonnull 7, 3) := by decide +kernel
theorem d_P_next_30 : decode prog_1_method_7_code 30 = .ok (.iconst (-1), 1) := by decide +kernel
theorem d_P_next_31 : decode prog_1_method_7_code 31 = .ok (.goto 7, 3) := by decide +kernel
theorem d_P_next_34 : decode prog_1_method_7_code 34 = .ok (.aload_n 1, 1) := by decide +kernel
theorem d_P_next_35 : decode prog_1_method_7_code 35 = .ok (.getfield 91, 3) := by decide +kernel
theorem d_P_next_38 : decode prog_1_method_7_code 38 = .ok (.ireturn, 1) := by decide +kernel
theorem d_O_holderOfNext_0 : decode prog_10_method_11_code 0 = .ok (.aconst_null, 1) := by decide +kernel
theorem d_O_holderOfNext_1 : decode prog_10_method_11_code 1 = .ok (.astore_n 2, 1) := by decide +kernel
theorem d_O_holderOfNext_2 : decode prog_10_method_11_code 2 = .ok (.aconst_null, 1) := by decide +kernel
theorem d_O_holderOfNext_3 : decode prog_10_method_11_code 3 = .ok (.astore_n 3, 1) := by decide +kernel
theorem d_O_holderOfNext_4 : decode prog_10_method_11_code 4 = .ok (.iconst 0, 1) := by decide +kernel
theorem d_O_holderOfNext_5 : decode prog_10_method_11_code 5 = .ok (.istore 4, 2) := by decide +kernel
theorem d_O_holderOfNext_7 : decode prog_10_method_11_code 7 = .ok (.iload 4, 2) := by decide +kernel
theorem d_O_holderOfNext_9 : decode prog_10_method_11_code 9 = .ok (.aload_n 0, 1) := by decide +kernel
theorem d_O_holderOfNext_10 : decode prog_10_method_11_code 10 = .ok (.getfield 26, 3) := by decide +kernel
theorem d_O_holderOfNext_13 : decode prog_10_method_11_code 13 = .ok (.if_icmp .ge 71, 3) := by decide +kernel
theorem d_O_holderOfNext_16 : decode prog_10_method_11_code 16 = .ok (.aload_n 0, 1) := by decide +kernel
theorem d_O_holderOfNext_17 : decode prog_10_method_11_code 17 = .ok (.getfield 11, 3) := by decide +kernel
theorem d_O_holderOfNext_20 : decode prog_10_method_11_code 20 = .ok (.iload 4, 2) := by decide +kernel
theorem d_O_holderOfNext_22 : decode prog_10_method_11_code 22 = .ok (.aaload, 1) := by decide +kernel
theorem d_O_holderOfNext_23 : decode prog_10_method_11_code 23 = .ok (.getfield 43, 3) := by decide +kernel
theorem d_O_holderOfNext_26 : decode prog_10_method_11_code 26 = .ok (.ifCond .eq 17, 3) := by decide +kernel
theorem d_O_holderOfNext_29 : decode prog_10_method_11_code 29 = .ok (.aload_n 0, 1) := by decide +kernel
theorem d_O_holderOfNext_30 : decode prog_10_method_11_code 30 = .ok (.getfield 11, 3) := by decide +kernel
theorem d_O_holderOfNext_33 : decode prog_10_method_11_code 33 = .ok (.iload 4, 2) := by decide +kernel
theorem d_O_holderOfNext_35 : decode prog_10_method_11_code 35 = .ok (.aaload, 1) := by decide +kernel
theorem d_O_holderOfNext_36 : decode prog_10_method_11_code 36 = .ok (.iload_n 1, 1) := by decide +kernel
theorem d_O_holderOfNext_37 : decode prog_10_method_11_code 37 = .ok (.invokevirtual 53, 3) := by decide +kernel
theorem d_O_holderOfNext_40 : decode prog_10_method_11_code 40 = .ok (.goto 4, 3) := by decide +kernel
theorem d_O_holderOfNext_43 : decode prog_10_method_11_code 43 = .ok (.aconst_null, 1) := by decide +kernel
theorem d_O_holderOfNext_44 : decode prog_10_method_11_code 44 = .ok (.astore 5, 2) := by decide +kernel
theorem d_O_holderOfNext_46 : decode prog_10_method_11_code 46 = .ok (.aload 5, 2) := by decide +kernel
theorem d_O_holderOfNext_48 : decode prog_10_method_11_code 48 = .ok (.ifnull 30, 3) := by decide +kernel
theorem d_O_holderOfNext_51 : decode prog_10_method_11_code 51 = .ok (.aload_n 3, 1) := by decide +kernel
theorem d_O_holderOfNext_52 : decode prog_10_method_11_code 52 = .ok (.ifnull 15, 3) := by decide +kernel
theorem d_O_holderOfNext_55 : decode prog_10_method_11_code 55 = .ok (.aload 5, 2) := by decide +kernel
theorem d_O_holderOfNext_57 : decode prog_10_method_11_code 57 = .ok (.getfield 57, 3) := by decide +kernel
theorem d_O_holderOfNext_60 : decode prog_10_method_11_code 60 = .ok (.aload_n 3, 1) := by decide +kernel
theorem d_O_holderOfNext_61 : decode prog_10_method_11_code 61 = .ok (.getfield 57, 3) := by decide +kernel
theorem d_O_holderOfNext_64 : decode prog_10_method_11_code 64 = .ok (.if_icmp .ge 14, 3) := by decide +kernel
theorem d_O_holderOfNext_67 : decode prog_10_method_11_code 67 = .ok (.aload_n 0, 1) := by decide +kernel
theorem d_O_holderOfNext_68 : decode prog_10_method_11_code 68 = .ok (.getfield 11, 3) := by decide +kernel
theorem d_O_holderOfNext_71 : decode prog_10_method_11_code 71 = .ok (.iload 4, 2) := by decide +kernel
theorem d_O_holderOfNext_73 : decode prog_10_method_11_code 73 = .ok (.aaload, 1) := by decide +kernel
theorem d_O_holderOfNext_74 : decode prog_10_method_11_code 74 = .ok (.astore_n 2, 1) := by decide +kernel
theorem d_O_holderOfNext_75 : decode prog_10_method_11_code 75 = .ok (.aload 5, 2) := by decide +kernel
theorem d_O_holderOfNext_77 : decode prog_10_method_11_code 77 = .ok (.astore_n 3, 1) := by decide +kernel
theorem d_O_holderOfNext_78 : decode prog_10_method_11_code 78 = .ok (.iinc 4 1, 3) := by decide +kernel
theorem d_O_holderOfNext_81 : decode prog_10_method_11_code 81 = .ok (.goto (-74), 3) := by decide +kernel
theorem d_O_holderOfNext_84 : decode prog_10_method_11_code 84 = .ok (.aload_n 2, 1) := by decide +kernel
theorem d_O_holderOfNext_85 : decode prog_10_method_11_code 85 = .ok (.areturn, 1) := by decide +kernel
theorem d_L_firstDue_0 : decode prog_5_method_6_code 0 = .ok (.aconst_null, 1) := by decide +kernel
theorem d_L_firstDue_1 : decode prog_5_method_6_code 1 = .ok (.astore_n 2, 1) := by decide +kernel
theorem d_L_firstDue_2 : decode prog_5_method_6_code 2 = .ok (.iconst 0, 1) := by decide +kernel
theorem d_L_firstDue_3 : decode prog_5_method_6_code 3 = .ok (.istore_n 3, 1) := by decide +kernel
theorem d_L_firstDue_4 : decode prog_5_method_6_code 4 = .ok (.iload_n 3, 1) := by decide +kernel
theorem d_L_firstDue_5 : decode prog_5_method_6_code 5 = .ok (.aload_n 0, 1) := by decide +kernel
theorem d_L_firstDue_6 : decode prog_5_method_6_code 6 = .ok (.getfield 38, 3) := by decide +kernel
theorem d_L_firstDue_9 : decode prog_5_method_6_code 9 = .ok (.if_icmp .ge 65, 3) := by decide +kernel
theorem d_L_firstDue_12 : decode prog_5_method_6_code 12 = .ok (.aload_n 0, 1) := by decide +kernel
theorem d_L_firstDue_13 : decode prog_5_method_6_code 13 = .ok (.getfield 22, 3) := by decide +kernel
theorem d_L_firstDue_16 : decode prog_5_method_6_code 16 = .ok (.iload_n 3, 1) := by decide +kernel
theorem d_L_firstDue_17 : decode prog_5_method_6_code 17 = .ok (.aaload, 1) := by decide +kernel
theorem d_L_firstDue_18 : decode prog_5_method_6_code 18 = .ok (.astore 4, 2) := by decide +kernel
theorem d_L_firstDue_20 : decode prog_5_method_6_code 20 = .ok (.aload 4, 2) := by decide +kernel
theorem d_L_firstDue_22 : decode prog_5_method_6_code 22 = .ok (.getfield 51, 3) := by decide +kernel
theorem d_L_firstDue_25 : decode prog_5_method_6_code 25 = .ok (.ifCond .ne 16, 3) := by decide +kernel
theorem d_L_firstDue_28 : decode prog_5_method_6_code 28 = .ok (.aload 4, 2) := by decide +kernel
theorem d_L_firstDue_30 : decode prog_5_method_6_code 30 = .ok (.getfield 57, 3) := by decide +kernel
theorem d_L_firstDue_33 : decode prog_5_method_6_code 33 = .ok (.iload_n 1, 1) := by decide +kernel
theorem d_L_firstDue_34 : decode prog_5_method_6_code 34 = .ok (.if_icmp .gt 7, 3) := by decide +kernel
theorem d_L_firstDue_37 : decode prog_5_method_6_code 37 = .ok (.iconst 1, 1) := by decide +kernel
theorem d_L_firstDue_38 : decode prog_5_method_6_code 38 = .ok (.goto 4, 3) := by decide +kernel
theorem d_L_firstDue_41 : decode prog_5_method_6_code 41 = .ok (.iconst 0, 1) := by decide +kernel
theorem d_L_firstDue_42 : decode prog_5_method_6_code 42 = .ok (.istore 5, 2) := by decide +kernel
theorem d_L_firstDue_44 : decode prog_5_method_6_code 44 = .ok (.iload 5, 2) := by decide +kernel
theorem d_L_firstDue_46 : decode prog_5_method_6_code 46 = .ok (.ifCond .eq 22, 3) := by decide +kernel
theorem d_L_firstDue_49 : decode prog_5_method_6_code 49 = .ok (.aload_n 2, 1) := by decide +kernel
theorem d_L_firstDue_50 : decode prog_5_method_6_code 50 = .ok (.ifnull 15, 3) := by decide +kernel
theorem d_L_firstDue_53 : decode prog_5_method_6_code 53 = .ok (.aload 4, 2) := by decide +kernel
theorem d_L_firstDue_55 : decode prog_5_method_6_code 55 = .ok (.getfield 57, 3) := by decide +kernel
theorem d_L_firstDue_58 : decode prog_5_method_6_code 58 = .ok (.aload_n 2, 1) := by decide +kernel
theorem d_L_firstDue_59 : decode prog_5_method_6_code 59 = .ok (.getfield 57, 3) := by decide +kernel
theorem d_L_firstDue_62 : decode prog_5_method_6_code 62 = .ok (.if_icmp .ge 6, 3) := by decide +kernel
theorem d_L_firstDue_65 : decode prog_5_method_6_code 65 = .ok (.aload 4, 2) := by decide +kernel
theorem d_L_firstDue_67 : decode prog_5_method_6_code 67 = .ok (.astore_n 2, 1) := by decide +kernel
theorem d_L_firstDue_68 : decode prog_5_method_6_code 68 = .ok (.iinc 3 1, 3) := by decide +kernel
theorem d_L_firstDue_71 : decode prog_5_method_6_code 71 = .ok (.goto (-67), 3) := by decide +kernel
theorem d_L_firstDue_74 : decode prog_5_method_6_code 74 = .ok (.aload_n 2, 1) := by decide +kernel
theorem d_L_firstDue_75 : decode prog_5_method_6_code 75 = .ok (.areturn, 1) := by decide +kernel
theorem d_P_reply_0 : decode prog_1_method_8_code 0 = .ok (.aload_n 0, 1) := by decide +kernel
theorem d_P_reply_1 : decode prog_1_method_8_code 1 = .ok (.getfield 28, 3) := by decide +kernel
theorem d_P_reply_4 : decode prog_1_method_8_code 4 = .ok (.getfield 47, 3) := by decide +kernel
theorem d_P_reply_7 : decode prog_1_method_8_code 7 = .ok (.ifCond .eq 7, 3) := by decide +kernel
theorem d_P_reply_10 : decode prog_1_method_8_code 10 = .ok (.aconst_null, 1) := by decide +kernel
theorem d_P_reply_11 : decode prog_1_method_8_code 11 = .ok (.goto 14, 3) := by decide +kernel
theorem d_P_reply_14 : decode prog_1_method_8_code 14 = .ok (.aload_n 0, 1) := by decide +kernel
theorem d_P_reply_15 : decode prog_1_method_8_code 15 = .ok (.getfield 28, 3) := by decide +kernel
theorem d_P_reply_18 : decode prog_1_method_8_code 18 = .ok (.aload_n 0, 1) := by decide +kernel
theorem d_P_reply_19 : decode prog_1_method_8_code 19 = .ok (.getfield 39, 3) := by decide +kernel
theorem d_P_reply_22 : decode prog_1_method_8_code 22 = .ok (.invokevirtual 87, 3) := by decide +kernel
theorem d_P_reply_25 : decode prog_1_method_8_code 25 = .ok (.astore_n 2, 1) := by decide +kernel
theorem d_P_reply_26 : decode prog_1_method_8_code 26 = .ok (.aload_n 2, 1) := by decide +kernel
theorem d_P_reply_27 : decode prog_1_method_8_code 27 = .ok (.ifnull 10, 3) := by decide +kernel
theorem d_P_reply_30 : decode prog_1_method_8_code 30 = .ok (.iload_n 1, 1) := by decide +kernel
theorem d_P_reply_31 : decode prog_1_method_8_code 31 = .ok (.invokestatic 96, 3) := by decide +kernel
theorem d_P_reply_34 : decode prog_1_method_8_code 34 = .ok (.ifCond .ne 5, 3) := by decide +kernel
theorem d_P_reply_37 : decode prog_1_method_8_code 37 = .ok (.iconst (-1), 1) := by decide +kernel
theorem d_P_reply_38 : decode prog_1_method_8_code 38 = .ok (.ireturn, 1) := by decide +kernel
theorem d_P_reply_39 : decode prog_1_method_8_code 39 = .ok (.aload_n 2, 1) := by decide +kernel
theorem d_P_reply_40 : decode prog_1_method_8_code 40 = .ok (.aload_n 0, 1) := by decide +kernel
theorem d_P_reply_41 : decode prog_1_method_8_code 41 = .ok (.getfield 39, 3) := by decide +kernel
theorem d_P_reply_44 : decode prog_1_method_8_code 44 = .ok (.invokevirtual 100, 3) := by decide +kernel
theorem d_P_reply_47 : decode prog_1_method_8_code 47 = .ok (.astore_n 3, 1) := by decide +kernel
theorem d_P_reply_48 : decode prog_1_method_8_code 48 = .ok (.aload_n 3, 1) := by decide +kernel
theorem d_P_reply_49 : decode prog_1_method_8_code 49 = .ok (.ifnonnull 5, 3) := by decide +kernel
theorem d_P_reply_52 : decode prog_1_method_8_code 52 = .ok (.iconst (-1), 1) := by decide +kernel
theorem d_P_reply_53 : decode prog_1_method_8_code 53 = .ok (.ireturn, 1) := by decide +kernel
theorem d_P_reply_54 : decode prog_1_method_8_code 54 = .ok (.iload_n 1, 1) := by decide +kernel
theorem d_P_reply_55 : decode prog_1_method_8_code 55 = .ok (.sipush 300, 3) := by decide +kernel
theorem d_P_reply_58 : decode prog_1_method_8_code 58 = .ok (.if_icmp .ge 11, 3) := by decide +kernel
theorem d_P_reply_61 : decode prog_1_method_8_code 61 = .ok (.aload_n 0, 1) := by decide +kernel
theorem d_P_reply_62 : decode prog_1_method_8_code 62 = .ok (.aload_n 2, 1) := by decide +kernel
theorem d_P_reply_63 : decode prog_1_method_8_code 63 = .ok (.aload_n 3, 1) := by decide +kernel
theorem d_P_reply_64 : decode prog_1_method_8_code 64 = .ok (.iconst 1, 1) := by decide +kernel
theorem d_P_reply_65 : decode prog_1_method_8_code 65 = .ok (.invokevirtual 104, 3) := by decide +kernel
theorem d_P_reply_68 : decode prog_1_method_8_code 68 = .ok (.ireturn, 1) := by decide +kernel
theorem d_P_reply_69 : decode prog_1_method_8_code 69 = .ok (.iload_n 1, 1) := by decide +kernel
theorem d_P_reply_70 : decode prog_1_method_8_code 70 = .ok (.sipush 500, 3) := by decide +kernel
theorem d_P_reply_73 : decode prog_1_method_8_code 73 = .ok (.if_icmp .ge 17, 3) := by decide +kernel
theorem d_P_reply_76 : decode prog_1_method_8_code 76 = .ok (.aload_n 3, 1) := by decide +kernel
theorem d_P_reply_77 : decode prog_1_method_8_code 77 = .ok (.getfield 108, 3) := by decide +kernel
theorem d_P_reply_80 : decode prog_1_method_8_code 80 = .ok (.iconst 3, 1) := by decide +kernel
theorem d_P_reply_81 : decode prog_1_method_8_code 81 = .ok (.if_icmp .ge 9, 3) := by decide +kernel
theorem d_P_reply_84 : decode prog_1_method_8_code 84 = .ok (.aload_n 0, 1) := by decide +kernel
theorem d_P_reply_85 : decode prog_1_method_8_code 85 = .ok (.aload_n 3, 1) := by decide +kernel
theorem d_P_reply_86 : decode prog_1_method_8_code 86 = .ok (.invokevirtual 113, 3) := by decide +kernel
theorem d_P_reply_89 : decode prog_1_method_8_code 89 = .ok (.ireturn, 1) := by decide +kernel
theorem d_P_reply_90 : decode prog_1_method_8_code 90 = .ok (.aload_n 0, 1) := by decide +kernel
theorem d_P_reply_91 : decode prog_1_method_8_code 91 = .ok (.aload_n 2, 1) := by decide +kernel
theorem d_P_reply_92 : decode prog_1_method_8_code 92 = .ok (.aload_n 3, 1) := by decide +kernel
theorem d_P_reply_93 : decode prog_1_method_8_code 93 = .ok (.invokevirtual 117, 3) := by decide +kernel
theorem d_P_reply_96 : decode prog_1_method_8_code 96 = .ok (.ireturn, 1) := by decide +kernel
theorem d_P_isReplyCode_0 : decode prog_1_method_20_code 0 = .ok (.iload_n 0, 1) := by decide +kernel
theorem d_P_isReplyCode_1 : decode prog_1_method_20_code 1 = .ok (.sipush 200, 3) := by decide +kernel
theorem d_P_isReplyCode_4 : decode prog_1_method_20_code 4 = .ok (.if_icmp .lt 10, 3) := by decide +kernel
theorem d_P_isReplyCode_7 : decode prog_1_method_20_code 7 = .ok (.iload_n 0, 1) := by decide +kernel
theorem d_P_isReplyCode_8 : decode prog_1_method_20_code 8 = .ok (.sipush 299, 3) := by decide +kernel
theorem d_P_isReplyCode_11 : decode prog_1_method_20_code 11 = .ok (.if_icmp .le 17, 3) := by decide +kernel
theorem d_P_isReplyCode_14 : decode prog_1_method_20_code 14 = .ok (.iload_n 0, 1) := by decide +kernel
theorem d_P_isReplyCode_15 : decode prog_1_method_20_code 15 = .ok (.sipush 400, 3) := by decide +kernel
theorem d_P_isReplyCode_18 : decode prog_1_method_20_code 18 = .ok (.if_icmp .lt 14, 3) := by decide +kernel
theorem d_P_isReplyCode_21 : decode prog_1_method_20_code 21 = .ok (.iload_n 0, 1) := by decide +kernel
theorem d_P_isReplyCode_22 : decode prog_1_method_20_code 22 = .ok (.sipush 599, 3) := by decide +kernel
theorem d_P_isReplyCode_25 : decode prog_1_method_20_code 25 = .ok (.if_icmp .gt 7, 3) := by decide +kernel
theorem d_P_isReplyCode_28 : decode prog_1_method_20_code 28 = .ok (.iconst 1, 1) := by decide +kernel
theorem d_P_isReplyCode_29 : decode prog_1_method_20_code 29 = .ok (.goto 4, 3) := by decide +kernel
theorem d_P_isReplyCode_32 : decode prog_1_method_20_code 32 = .ok (.iconst 0, 1) := by decide +kernel
theorem d_P_isReplyCode_33 : decode prog_1_method_20_code 33 = .ok (.ireturn, 1) := by decide +kernel
theorem d_P_settle_0 : decode prog_1_method_36_code 0 = .ok (.aload_n 0, 1) := by decide +kernel
theorem d_P_settle_1 : decode prog_1_method_36_code 1 = .ok (.getfield 28, 3) := by decide +kernel
theorem d_P_settle_4 : decode prog_1_method_36_code 4 = .ok (.invokevirtual 295, 3) := by decide +kernel
theorem d_P_settle_7 : decode prog_1_method_36_code 7 = .ok (.ifCond .ne 5, 3) := by decide +kernel
theorem d_P_settle_10 : decode prog_1_method_36_code 10 = .ok (.iconst 0, 1) := by decide +kernel
theorem d_P_settle_11 : decode prog_1_method_36_code 11 = .ok (.ireturn, 1) := by decide +kernel
theorem d_P_settle_12 : decode prog_1_method_36_code 12 = .ok (.aload_n 2, 1) := by decide +kernel
theorem d_P_settle_13 : decode prog_1_method_36_code 13 = .ok (.iload_n 3, 1) := by decide +kernel
theorem d_P_settle_14 : decode prog_1_method_36_code 14 = .ok (.putfield 154, 3) := by decide +kernel
theorem d_P_settle_17 : decode prog_1_method_36_code 17 = .ok (.aload_n 1, 1) := by decide +kernel
theorem d_P_settle_18 : decode prog_1_method_36_code 18 = .ok (.invokevirtual 298, 3) := by decide +kernel
theorem d_P_settle_21 : decode prog_1_method_36_code 21 = .ok (.ifCond .ne 11, 3) := by decide +kernel
theorem d_P_settle_24 : decode prog_1_method_36_code 24 = .ok (.aload_n 0, 1) := by decide +kernel
theorem d_P_settle_25 : decode prog_1_method_36_code 25 = .ok (.getfield 28, 3) := by decide +kernel
theorem d_P_settle_28 : decode prog_1_method_36_code 28 = .ok (.aload_n 1, 1) := by decide +kernel
theorem d_P_settle_29 : decode prog_1_method_36_code 29 = .ok (.invokevirtual 301, 3) := by decide +kernel
theorem d_P_settle_32 : decode prog_1_method_36_code 32 = .ok (.iload_n 3, 1) := by decide +kernel
theorem d_P_settle_33 : decode prog_1_method_36_code 33 = .ok (.ireturn, 1) := by decide +kernel
theorem d_L_isAwaited_0 : decode prog_5_method_5_code 0 = .ok (.iconst 0, 1) := by decide +kernel
theorem d_L_isAwaited_1 : decode prog_5_method_5_code 1 = .ok (.istore_n 1, 1) := by decide +kernel
theorem d_L_isAwaited_2 : decode prog_5_method_5_code 2 = .ok (.iload_n 1, 1) := by decide +kernel
theorem d_L_isAwaited_3 : decode prog_5_method_5_code 3 = .ok (.aload_n 0, 1) := by decide +kernel
theorem d_L_isAwaited_4 : decode prog_5_method_5_code 4 = .ok (.getfield 38, 3) := by decide +kernel
theorem d_L_isAwaited_7 : decode prog_5_method_5_code 7 = .ok (.if_icmp .ge 23, 3) := by decide +kernel
theorem d_L_isAwaited_10 : decode prog_5_method_5_code 10 = .ok (.aload_n 0, 1) := by decide +kernel
theorem d_L_isAwaited_11 : decode prog_5_method_5_code 11 = .ok (.getfield 22, 3) := by decide +kernel
theorem d_L_isAwaited_14 : decode prog_5_method_5_code 14 = .ok (.iload_n 1, 1) := by decide +kernel
theorem d_L_isAwaited_15 : decode prog_5_method_5_code 15 = .ok (.aaload, 1) := by decide +kernel
theorem d_L_isAwaited_16 : decode prog_5_method_5_code 16 = .ok (.getfield 51, 3) := by decide +kernel
theorem d_L_isAwaited_19 : decode prog_5_method_5_code 19 = .ok (.ifCond .ne 5, 3) := by decide +kernel
theorem d_L_isAwaited_22 : decode prog_5_method_5_code 22 = .ok (.iconst 1, 1) := by decide +kernel
theorem d_L_isAwaited_23 : decode prog_5_method_5_code 23 = .ok (.ireturn, 1) := by decide +kernel
theorem d_L_isAwaited_24 : decode prog_5_method_5_code 24 = .ok (.iinc 1 1, 3) := by decide +kernel
theorem d_L_isAwaited_27 : decode prog_5_method_5_code 27 = .ok (.goto (-25), 3) := by decide +kernel
theorem d_L_isAwaited_30 : decode prog_5_method_5_code 30 = .ok (.iconst 0, 1) := by decide +kernel
theorem d_L_isAwaited_31 : decode prog_5_method_5_code 31 = .ok (.ireturn, 1) := by decide +kernel
theorem d_P_postpone_0 : decode prog_1_method_37_code 0 = .ok (.aload_n 0, 1) := by decide +kernel
theorem d_P_postpone_1 : decode prog_1_method_37_code 1 = .ok (.getfield 28, 3) := by decide +kernel
theorem d_P_postpone_4 : decode prog_1_method_37_code 4 = .ok (.invokevirtual 295, 3) := by decide +kernel
theorem d_P_postpone_7 : decode prog_1_method_37_code 7 = .ok (.ifCond .eq 30, 3) := by decide +kernel
theorem d_P_postpone_10 : decode prog_1_method_37_code 10 = .ok (.aload_n 1, 1) := by decide +kernel
theorem d_P_postpone_11 : decode prog_1_method_37_code 11 = .ok (.dup, 1) := by decide +kernel
theorem d_P_postpone_12 : decode prog_1_method_37_code 12 = .ok (.getfield 108, 3) := by decide +kernel
theorem d_P_postpone_15 : decode prog_1_method_37_code 15 = .ok (.iconst 1, 1) := by decide +kernel
theorem d_P_postpone_16 : decode prog_1_method_37_code 16 = .ok (.iadd, 1) := by decide +kernel
theorem d_P_postpone_17 : decode prog_1_method_37_code 17 = .ok (.putfield 108, 3) := by decide +kernel
theorem d_P_postpone_20 : decode prog_1_method_37_code 20 = .ok (.aload_n 1, 1) := by decide +kernel
theorem d_P_postpone_21 : decode prog_1_method_37_code 21 = .ok (.aload_n 0, 1) := by decide +kernel
theorem d_P_postpone_22 : decode prog_1_method_37_code 22 = .ok (.getfield 39, 3) := by decide +kernel
theorem d_P_postpone_25 : decode prog_1_method_37_code 25 = .ok (.iconst 1, 1) := by decide +kernel
theorem d_P_postpone_26 : decode prog_1_method_37_code 26 = .ok (.iconst 2, 1) := by decide +kernel
theorem d_P_postpone_27 : decode prog_1_method_37_code 27 = .ok (.aload_n 1, 1) := by decide +kernel
theorem d_P_postpone_28 : decode prog_1_method_37_code 28 = .ok (.getfield 108, 3) := by decide +kernel
theorem d_P_postpone_31 : decode prog_1_method_37_code 31 = .ok (.imul, 1) := by decide +kernel
theorem d_P_postpone_32 : decode prog_1_method_37_code 32 = .ok (.ishl, 1) := by decide +kernel
theorem d_P_postpone_33 : decode prog_1_method_37_code 33 = .ok (.iadd, 1) := by decide +kernel
theorem d_P_postpone_34 : decode prog_1_method_37_code 34 = .ok (.putfield 157, 3) := by decide +kernel
theorem d_P_postpone_37 : decode prog_1_method_37_code 37 = .ok (.iconst 0, 1) := by decide +kernel
theorem d_P_postpone_38 : decode prog_1_method_37_code 38 = .ok (.ireturn, 1) := by decide +kernel
theorem d_P_giveBack_0 : decode prog_1_method_38_code 0 = .ok (.aload_n 1, 1) := by decide +kernel
theorem d_P_giveBack_1 : decode prog_1_method_38_code 1 = .ok (.getfield 141, 3) := by decide +kernel
theorem d_P_giveBack_4 : decode prog_1_method_38_code 4 = .ok (.getfield 51, 3) := by decide +kernel
theorem d_P_giveBack_7 : decode prog_1_method_38_code 7 = .ok (.ifCond .le 17, 3) := by decide +kernel
theorem d_P_giveBack_10 : decode prog_1_method_38_code 10 = .ok (.aload_n 0, 1) := by decide +kernel
theorem d_P_giveBack_11 : decode prog_1_method_38_code 11 = .ok (.getfield 28, 3) := by decide +kernel
theorem d_P_giveBack_14 : decode prog_1_method_38_code 14 = .ok (.invokevirtual 250, 3) := by decide +kernel
theorem d_P_giveBack_17 : decode prog_1_method_38_code 17 = .ok (.ifCond .ne 7, 3) := by decide +kernel
theorem d_P_giveBack_20 : decode prog_1_method_38_code 20 = .ok (.iconst 1, 1) := by decide +kernel
theorem d_P_giveBack_21 : decode prog_1_method_38_code 21 = .ok (.goto 4, 3) := by decide +kernel
theorem d_P_giveBack_24 : decode prog_1_method_38_code 24 = .ok (.iconst 0, 1) := by decide +kernel
theorem d_P_giveBack_25 : decode prog_1_method_38_code 25 = .ok (.istore_n 3, 1) := by decide +kernel
theorem d_P_giveBack_26 : decode prog_1_method_38_code 26 = .ok (.iload_n 3, 1) := by decide +kernel
theorem d_P_giveBack_27 : decode prog_1_method_38_code 27 = .ok (.ifCond .eq 14, 3) := by decide +kernel
theorem d_P_giveBack_30 : decode prog_1_method_38_code 30 = .ok (.aload_n 0, 1) := by decide +kernel
theorem d_P_giveBack_31 : decode prog_1_method_38_code 31 = .ok (.aload_n 1, 1) := by decide +kernel
theorem d_P_giveBack_32 : decode prog_1_method_38_code 32 = .ok (.aload_n 2, 1) := by decide +kernel
theorem d_P_giveBack_33 : decode prog_1_method_38_code 33 = .ok (.invokevirtual 304, 3) := by decide +kernel
theorem d_P_giveBack_36 : decode prog_1_method_38_code 36 = .ok (.ifCond .ne 5, 3) := by decide +kernel
theorem d_P_giveBack_39 : decode prog_1_method_38_code 39 = .ok (.iconst 0, 1) := by decide +kernel
theorem d_P_giveBack_40 : decode prog_1_method_38_code 40 = .ok (.ireturn, 1) := by decide +kernel
theorem d_P_giveBack_41 : decode prog_1_method_38_code 41 = .ok (.aload_n 0, 1) := by decide +kernel
theorem d_P_giveBack_42 : decode prog_1_method_38_code 42 = .ok (.aload_n 1, 1) := by decide +kernel
theorem d_P_giveBack_43 : decode prog_1_method_38_code 43 = .ok (.aload_n 2, 1) := by decide +kernel
theorem d_P_giveBack_44 : decode prog_1_method_38_code 44 = .ok (.iconst 2, 1) := by decide +kernel
theorem d_P_giveBack_45 : decode prog_1_method_38_code 45 = .ok (.invokevirtual 104, 3) := by decide +kernel
theorem d_P_giveBack_48 : decode prog_1_method_38_code 48 = .ok (.ireturn, 1) := by decide +kernel
theorem d_P_spoolReturn_0 : decode prog_1_method_39_code 0 = .ok (.aload_n 0, 1) := by decide +kernel
theorem d_P_spoolReturn_1 : decode prog_1_method_39_code 1 = .ok (.getfield 28, 3) := by decide +kernel
theorem d_P_spoolReturn_4 : decode prog_1_method_39_code 4 = .ok (.invokevirtual 280, 3) := by decide +kernel
theorem d_P_spoolReturn_7 : decode prog_1_method_39_code 7 = .ok (.astore_n 3, 1) := by decide +kernel
theorem d_P_spoolReturn_8 : decode prog_1_method_39_code 8 = .ok (.aload_n 3, 1) := by decide +kernel
theorem d_P_spoolReturn_9 : decode prog_1_method_39_code 9 = .ok (.ifnonnull 5, 3) := by decide +kernel
theorem d_P_spoolReturn_12 : decode prog_1_method_39_code 12 = .ok (.iconst 0, 1) := by decide +kernel
theorem d_P_spoolReturn_13 : decode prog_1_method_39_code 13 = .ok (.ireturn, 1) := by decide +kernel
theorem d_P_spoolReturn_14 : decode prog_1_method_39_code 14 = .ok (.aload_n 3, 1) := by decide +kernel
theorem d_P_spoolReturn_15 : decode prog_1_method_39_code 15 = .ok (.aload_n 1, 1) := by decide +kernel
theorem d_P_spoolReturn_16 : decode prog_1_method_39_code 16 = .ok (.getfield 141, 3) := by decide +kernel
theorem d_P_spoolReturn_19 : decode prog_1_method_39_code 19 = .ok (.aload_n 0, 1) := by decide +kernel
theorem d_P_spoolReturn_20 : decode prog_1_method_39_code 20 = .ok (.getfield 39, 3) := by decide +kernel
theorem d_P_spoolReturn_23 : decode prog_1_method_39_code 23 = .ok (.invokevirtual 288, 3) := by decide +kernel
theorem d_P_spoolReturn_26 : decode prog_1_method_39_code 26 = .ok (.aload_n 3, 1) := by decide +kernel
theorem d_P_spoolReturn_27 : decode prog_1_method_39_code 27 = .ok (.getfield 134, 3) := by decide +kernel
theorem d_P_spoolReturn_30 : decode prog_1_method_39_code 30 = .ok (.bipush 10, 2) := by decide +kernel
theorem d_P_spoolReturn_32 : decode prog_1_method_39_code 32 = .ok (.invokevirtual 58, 3) := by decide +kernel
theorem d_P_spoolReturn_35 : decode prog_1_method_39_code 35 = .ok (.aload_n 3, 1) := by decide +kernel
theorem d_P_spoolReturn_36 : decode prog_1_method_39_code 36 = .ok (.getfield 134, 3) := by decide +kernel
theorem d_P_spoolReturn_39 : decode prog_1_method_39_code 39 = .ok (.ldc_w 308, 3) := by decide +kernel
theorem d_P_spoolReturn_42 : decode prog_1_method_39_code 42 = .ok (.invokevirtual 310, 3) := by decide +kernel
theorem d_P_spoolReturn_45 : decode prog_1_method_39_code 45 = .ok (.aload_n 3, 1) := by decide +kernel
theorem d_P_spoolReturn_46 : decode prog_1_method_39_code 46 = .ok (.getfield 134, 3) := by decide +kernel
theorem d_P_spoolReturn_49 : decode prog_1_method_39_code 49 = .ok (.aload_n 2, 1) := by decide +kernel
theorem d_P_spoolReturn_50 : decode prog_1_method_39_code 50 = .ok (.getfield 147, 3) := by decide +kernel
theorem d_P_spoolReturn_53 : decode prog_1_method_39_code 53 = .ok (.invokevirtual 284, 3) := by decide +kernel
theorem d_P_spoolReturn_56 : decode prog_1_method_39_code 56 = .ok (.aload_n 3, 1) := by decide +kernel
theorem d_P_spoolReturn_57 : decode prog_1_method_39_code 57 = .ok (.getfield 134, 3) := by decide +kernel
theorem d_P_spoolReturn_60 : decode prog_1_method_39_code 60 = .ok (.bipush 10, 2) := by decide +kernel
theorem d_P_spoolReturn_62 : decode prog_1_method_39_code 62 = .ok (.invokevirtual 58, 3) := by decide +kernel
theorem d_P_spoolReturn_65 : decode prog_1_method_39_code 65 = .ok (.aload_n 0, 1) := by decide +kernel
theorem d_P_spoolReturn_66 : decode prog_1_method_39_code 66 = .ok (.getfield 28, 3) := by decide +kernel
theorem d_P_spoolReturn_69 : decode prog_1_method_39_code 69 = .ok (.aload_n 3, 1) := by decide +kernel
theorem d_P_spoolReturn_70 : decode prog_1_method_39_code 70 = .ok (.invokevirtual 291, 3) := by decide +kernel
theorem d_P_spoolReturn_73 : decode prog_1_method_39_code 73 = .ok (.ireturn, 1) := by decide +kernel
theorem d_R_addWords_0 : decode prog_8_method_7_code 0 = .ok (.iconst 0, 1) := by decide +kernel
theorem d_R_addWords_1 : decode prog_8_method_7_code 1 = .ok (.istore_n 2, 1) := by decide +kernel
theorem d_R_addWords_2 : decode prog_8_method_7_code 2 = .ok (.iload_n 2, 1) := by decide +kernel
theorem d_R_addWords_3 : decode prog_8_method_7_code 3 = .ok (.aload_n 1, 1) := by decide +kernel
theorem d_R_addWords_4 : decode prog_8_method_7_code 4 = .ok (.invokevirtual 37, 3) := by decide +kernel
theorem d_R_addWords_7 : decode prog_8_method_7_code 7 = .ok (.if_icmp .ge 18, 3) := by decide +kernel
theorem d_R_addWords_10 : decode prog_8_method_7_code 10 = .ok (.aload_n 0, 1) := by decide +kernel
theorem d_R_addWords_11 : decode prog_8_method_7_code 11 = .ok (.aload_n 1, 1) := by decide +kernel
theorem d_R_addWords_12 : decode prog_8_method_7_code 12 = .ok (.iload_n 2, 1) := by decide +kernel
theorem d_R_addWords_13 : decode prog_8_method_7_code 13 = .ok (.invokevirtual 42, 3) := by decide +kernel
theorem d_R_addWords_16 : decode prog_8_method_7_code 16 = .ok (.invokevirtual 21, 3) := by decide +kernel
theorem d_R_addWords_19 : decode prog_8_method_7_code 19 = .ok (.iinc 2 1, 3) := by decide +kernel
theorem d_R_addWords_22 : decode prog_8_method_7_code 22 = .ok (.goto (-20), 3) := by decide +kernel
theorem d_R_addWords_25 : decode prog_8_method_7_code 25 = .ok (.return_, 1) := by decide +kernel
theorem d_P_state_0 : decode prog_1_method_9_code 0 = .ok (.aload_n 0, 1) := by decide +kernel
theorem d_P_state_1 : decode prog_1_method_9_code 1 = .ok (.getfield 28, 3) := by decide +kernel
theorem d_P_state_4 : decode prog_1_method_9_code 4 = .ok (.getfield 47, 3) := by decide +kernel
theorem d_P_state_7 : decode prog_1_method_9_code 7 = .ok (.ifCond .eq 5, 3) := by decide +kernel
theorem d_P_state_10 : decode prog_1_method_9_code 10 = .ok (.iconst 0, 1) := by decide +kernel
theorem d_P_state_11 : decode prog_1_method_9_code 11 = .ok (.ireturn, 1) := by decide +kernel
theorem d_P_state_12 : decode prog_1_method_9_code 12 = .ok (.aload_n 0, 1) := by decide +kernel
theorem d_P_state_13 : decode prog_1_method_9_code 13 = .ok (.getfield 21, 3) := by decide +kernel
theorem d_P_state_16 : decode prog_1_method_9_code 16 = .ok (.getfield 62, 3) := by decide +kernel
theorem d_P_state_19 : decode prog_1_method_9_code 19 = .ok (.ifCond .eq 5, 3) := by decide +kernel
theorem d_P_state_22 : decode prog_1_method_9_code 22 = .ok (.iconst 4, 1) := by decide +kernel
theorem d_P_state_23 : decode prog_1_method_9_code 23 = .ok (.ireturn, 1) := by decide +kernel
theorem d_P_state_24 : decode prog_1_method_9_code 24 = .ok (.aload_n 0, 1) := by decide +kernel
theorem d_P_state_25 : decode prog_1_method_9_code 25 = .ok (.getfield 21, 3) := by decide +kernel
theorem d_P_state_28 : decode prog_1_method_9_code 28 = .ok (.getfield 121, 3) := by decide +kernel
theorem d_P_state_31 : decode prog_1_method_9_code 31 = .ok (.ifCond .eq 5, 3) := by decide +kernel
theorem d_P_state_34 : decode prog_1_method_9_code 34 = .ok (.iconst 3, 1) := by decide +kernel
theorem d_P_state_35 : decode prog_1_method_9_code 35 = .ok (.ireturn, 1) := by decide +kernel
theorem d_P_state_36 : decode prog_1_method_9_code 36 = .ok (.aload_n 0, 1) := by decide +kernel
theorem d_P_state_37 : decode prog_1_method_9_code 37 = .ok (.getfield 21, 3) := by decide +kernel
theorem d_P_state_40 : decode prog_1_method_9_code 40 = .ok (.getfield 124, 3) := by decide +kernel
theorem d_P_state_43 : decode prog_1_method_9_code 43 = .ok (.ifCond .eq 7, 3) := by decide +kernel
theorem d_P_state_46 : decode prog_1_method_9_code 46 = .ok (.iconst 2, 1) := by decide +kernel
theorem d_P_state_47 : decode prog_1_method_9_code 47 = .ok (.goto 4, 3) := by decide +kernel
theorem d_P_state_50 : decode prog_1_method_9_code 50 = .ok (.iconst 1, 1) := by decide +kernel
theorem d_P_state_51 : decode prog_1_method_9_code 51 = .ok (.ireturn, 1) := by decide +kernel
theorem d_P_letters_0 : decode prog_1_method_10_code 0 = .ok (.aload_n 0, 1) := by decide +kernel
theorem d_P_letters_1 : decode prog_1_method_10_code 1 = .ok (.getfield 28, 3) := by decide +kernel
theorem d_P_letters_4 : decode prog_1_method_10_code 4 = .ok (.invokevirtual 84, 3) := by decide +kernel
theorem d_P_letters_7 : decode prog_1_method_10_code 7 = .ok (.ireturn, 1) := by decide +kernel
theorem d_P_letter_0 : decode prog_1_method_11_code 0 = .ok (.aload_n 0, 1) := by decide +kernel
theorem d_P_letter_1 : decode prog_1_method_11_code 1 = .ok (.getfield 28, 3) := by decide +kernel
theorem d_P_letter_4 : decode prog_1_method_11_code 4 = .ok (.iload_n 1, 1) := by decide +kernel
theorem d_P_letter_5 : decode prog_1_method_11_code 5 = .ok (.invokevirtual 127, 3) := by decide +kernel
theorem d_P_letter_8 : decode prog_1_method_11_code 8 = .ok (.ireturn, 1) := by decide +kernel
theorem d_O_sealedNumber_0 : decode prog_10_method_9_code 0 = .ok (.iconst 0, 1) := by decide +kernel
theorem d_O_sealedNumber_1 : decode prog_10_method_9_code 1 = .ok (.istore_n 2, 1) := by decide +kernel
theorem d_O_sealedNumber_2 : decode prog_10_method_9_code 2 = .ok (.iconst 0, 1) := by decide +kernel
theorem d_O_sealedNumber_3 : decode prog_10_method_9_code 3 = .ok (.istore_n 3, 1) := by decide +kernel
theorem d_O_sealedNumber_4 : decode prog_10_method_9_code 4 = .ok (.iload_n 3, 1) := by decide +kernel
theorem d_O_sealedNumber_5 : decode prog_10_method_9_code 5 = .ok (.aload_n 0, 1) := by decide +kernel
theorem d_O_sealedNumber_6 : decode prog_10_method_9_code 6 = .ok (.getfield 26, 3) := by decide +kernel
theorem d_O_sealedNumber_9 : decode prog_10_method_9_code 9 = .ok (.if_icmp .ge 39, 3) := by decide +kernel
theorem d_O_sealedNumber_12 : decode prog_10_method_9_code 12 = .ok (.aload_n 0, 1) := by decide +kernel
theorem d_O_sealedNumber_13 : decode prog_10_method_9_code 13 = .ok (.getfield 11, 3) := by decide +kernel
theorem d_O_sealedNumber_16 : decode prog_10_method_9_code 16 = .ok (.iload_n 3, 1) := by decide +kernel
theorem d_O_sealedNumber_17 : decode prog_10_method_9_code 17 = .ok (.aaload, 1) := by decide +kernel
theorem d_O_sealedNumber_18 : decode prog_10_method_9_code 18 = .ok (.getfield 43, 3) := by decide +kernel
theorem d_O_sealedNumber_21 : decode prog_10_method_9_code 21 = .ok (.ifCond .eq 21, 3) := by decide +kernel
theorem d_O_sealedNumber_24 : decode prog_10_method_9_code 24 = .ok (.iload_n 2, 1) := by decide +kernel
theorem d_O_sealedNumber_25 : decode prog_10_method_9_code 25 = .ok (.iload_n 1, 1) := by decide +kernel
theorem d_O_sealedNumber_26 : decode prog_10_method_9_code 26 = .ok (.if_icmp .ne 13, 3) := by decide +kernel
theorem d_O_sealedNumber_29 : decode prog_10_method_9_code 29 = .ok (.aload_n 0, 1) := by decide +kernel
theorem d_O_sealedNumber_30 : decode prog_10_method_9_code 30 = .ok (.getfield 11, 3) := by decide +kernel
theorem d_O_sealedNumber_33 : decode prog_10_method_9_code 33 = .ok (.iload_n 3, 1) := by decide +kernel
theorem d_O_sealedNumber_34 : decode prog_10_method_9_code 34 = .ok (.aaload, 1) := by decide +kernel
theorem d_O_sealedNumber_35 : decode prog_10_method_9_code 35 = .ok (.getfield 50, 3) := by decide +kernel
theorem d_O_sealedNumber_38 : decode prog_10_method_9_code 38 = .ok (.ireturn, 1) := by decide +kernel
theorem d_O_sealedNumber_39 : decode prog_10_method_9_code 39 = .ok (.iinc 2 1, 3) := by decide +kernel
theorem d_O_sealedNumber_42 : decode prog_10_method_9_code 42 = .ok (.iinc 3 1, 3) := by decide +kernel
theorem d_O_sealedNumber_45 : decode prog_10_method_9_code 45 = .ok (.goto (-41), 3) := by decide +kernel
theorem d_O_sealedNumber_48 : decode prog_10_method_9_code 48 = .ok (.iconst (-1), 1) := by decide +kernel
theorem d_O_sealedNumber_49 : decode prog_10_method_9_code 49 = .ok (.ireturn, 1) := by decide +kernel
theorem d_P_text_0 : decode prog_1_method_12_code 0 = .ok (.aload_n 0, 1) := by decide +kernel
theorem d_P_text_1 : decode prog_1_method_12_code 1 = .ok (.getfield 28, 3) := by decide +kernel
theorem d_P_text_4 : decode prog_1_method_12_code 4 = .ok (.iload_n 1, 1) := by decide +kernel
theorem d_P_text_5 : decode prog_1_method_12_code 5 = .ok (.invokevirtual 131, 3) := by decide +kernel
theorem d_P_text_8 : decode prog_1_method_12_code 8 = .ok (.astore_n 3, 1) := by decide +kernel
theorem d_P_text_9 : decode prog_1_method_12_code 9 = .ok (.aload_n 3, 1) := by decide +kernel
theorem d_P_text_10 : decode prog_1_method_12_code 10 = .ok (.ifnonnull 7, 3) := by decide +kernel
theorem d_P_text_13 : decode prog_1_method_12_code 13 = .ok (.iconst 0, 1) := by decide +kernel
theorem d_P_text_14 : decode prog_1_method_12_code 14 = .ok (.goto 11, 3) := by decide +kernel
theorem d_P_text_17 : decode prog_1_method_12_code 17 = .ok (.aload_n 3, 1) := by decide +kernel
theorem d_P_text_18 : decode prog_1_method_12_code 18 = .ok (.getfield 134, 3) := by decide +kernel
theorem d_P_text_21 : decode prog_1_method_12_code 21 = .ok (.iload_n 2, 1) := by decide +kernel
theorem d_P_text_22 : decode prog_1_method_12_code 22 = .ok (.invokevirtual 137, 3) := by decide +kernel
theorem d_P_text_25 : decode prog_1_method_12_code 25 = .ok (.ireturn, 1) := by decide +kernel
theorem d_O_find_0 : decode prog_10_method_10_code 0 = .ok (.iconst 0, 1) := by decide +kernel
theorem d_O_find_1 : decode prog_10_method_10_code 1 = .ok (.istore_n 2, 1) := by decide +kernel
theorem d_O_find_2 : decode prog_10_method_10_code 2 = .ok (.iload_n 2, 1) := by decide +kernel
theorem d_O_find_3 : decode prog_10_method_10_code 3 = .ok (.aload_n 0, 1) := by decide +kernel
theorem d_O_find_4 : decode prog_10_method_10_code 4 = .ok (.getfield 26, 3) := by decide +kernel
theorem d_O_find_7 : decode prog_10_method_10_code 7 = .ok (.if_icmp .ge 41, 3) := by decide +kernel
theorem d_O_find_10 : decode prog_10_method_10_code 10 = .ok (.aload_n 0, 1) := by decide +kernel
theorem d_O_find_11 : decode prog_10_method_10_code 11 = .ok (.getfield 11, 3) := by decide +kernel
theorem d_O_find_14 : decode prog_10_method_10_code 14 = .ok (.iload_n 2, 1) := by decide +kernel
theorem d_O_find_15 : decode prog_10_method_10_code 15 = .ok (.aaload, 1) := by decide +kernel
theorem d_O_find_16 : decode prog_10_method_10_code 16 = .ok (.getfield 43, 3) := by decide +kernel
theorem d_O_find_19 : decode prog_10_method_10_code 19 = .ok (.ifCond .eq 23, 3) := by decide +kernel
theorem d_O_find_22 : decode prog_10_method_10_code 22 = .ok (.aload_n 0, 1) := by decide +kernel
theorem d_O_find_23 : decode prog_10_method_10_code 23 = .ok (.getfield 11, 3) := by decide +kernel
theorem d_O_find_26 : decode prog_10_method_10_code 26 = .ok (.iload_n 2, 1) := by decide +kernel
theorem d_O_find_27 : decode prog_10_method_10_code 27 = .ok (.aaload, 1) := by decide +kernel
theorem d_O_find_28 : decode prog_10_method_10_code 28 = .ok (.getfield 50, 3) := by decide +kernel
theorem d_O_find_31 : decode prog_10_method_10_code 31 = .ok (.iload_n 1, 1) := by decide +kernel
theorem d_O_find_32 : decode prog_10_method_10_code 32 = .ok (.if_icmp .ne 10, 3) := by decide +kernel
theorem d_O_find_35 : decode prog_10_method_10_code 35 = .ok (.aload_n 0, 1) := by decide +kernel
theorem d_O_find_36 : decode prog_10_method_10_code 36 = .ok (.getfield 11, 3) := by decide +kernel
theorem d_O_find_39 : decode prog_10_method_10_code 39 = .ok (.iload_n 2, 1) := by decide +kernel
theorem d_O_find_40 : decode prog_10_method_10_code 40 = .ok (.aaload, 1) := by decide +kernel
theorem d_O_find_41 : decode prog_10_method_10_code 41 = .ok (.areturn, 1) := by decide +kernel
theorem d_O_find_42 : decode prog_10_method_10_code 42 = .ok (.iinc 2 1, 3) := by decide +kernel
theorem d_O_find_45 : decode prog_10_method_10_code 45 = .ok (.goto (-43), 3) := by decide +kernel
theorem d_O_find_48 : decode prog_10_method_10_code 48 = .ok (.aconst_null, 1) := by decide +kernel
theorem d_O_find_49 : decode prog_10_method_10_code 49 = .ok (.areturn, 1) := by decide +kernel
theorem d_P_path_0 : decode prog_1_method_13_code 0 = .ok (.aload_n 0, 1) := by decide +kernel
theorem d_P_path_1 : decode prog_1_method_13_code 1 = .ok (.getfield 28, 3) := by decide +kernel
theorem d_P_path_4 : decode prog_1_method_13_code 4 = .ok (.iload_n 1, 1) := by decide +kernel
theorem d_P_path_5 : decode prog_1_method_13_code 5 = .ok (.invokevirtual 131, 3) := by decide +kernel
theorem d_P_path_8 : decode prog_1_method_13_code 8 = .ok (.astore 4, 2) := by decide +kernel
theorem d_P_path_10 : decode prog_1_method_13_code 10 = .ok (.aload 4, 2) := by decide +kernel
theorem d_P_path_12 : decode prog_1_method_13_code 12 = .ok (.ifnonnull 5, 3) := by decide +kernel
theorem d_P_path_15 : decode prog_1_method_13_code 15 = .ok (.iconst 0, 1) := by decide +kernel
theorem d_P_path_16 : decode prog_1_method_13_code 16 = .ok (.ireturn, 1) := by decide +kernel
theorem d_P_path_17 : decode prog_1_method_13_code 17 = .ok (.iload_n 2, 1) := by decide +kernel
theorem d_P_path_18 : decode prog_1_method_13_code 18 = .ok (.iconst (-1), 1) := by decide +kernel
theorem d_P_path_19 : decode prog_1_method_13_code 19 = .ok (.if_icmp .ne 13, 3) := by decide +kernel
theorem d_P_path_22 : decode prog_1_method_13_code 22 = .ok (.aload 4, 2) := by decide +kernel
theorem d_P_path_24 : decode prog_1_method_13_code 24 = .ok (.getfield 141, 3) := by decide +kernel
theorem d_P_path_27 : decode prog_1_method_13_code 27 = .ok (.iload_n 3, 1) := by decide +kernel
theorem d_P_path_28 : decode prog_1_method_13_code 28 = .ok (.invokevirtual 137, 3) := by decide +kernel
theorem d_P_path_31 : decode prog_1_method_13_code 31 = .ok (.ireturn, 1) := by decide +kernel
theorem d_P_path_32 : decode prog_1_method_13_code 32 = .ok (.aload 4, 2) := by decide +kernel
theorem d_P_path_34 : decode prog_1_method_13_code 34 = .ok (.iload_n 2, 1) := by decide +kernel
theorem d_P_path_35 : decode prog_1_method_13_code 35 = .ok (.invokevirtual 144, 3) := by decide +kernel
theorem d_P_path_38 : decode prog_1_method_13_code 38 = .ok (.astore 5, 2) := by decide +kernel
theorem d_P_path_40 : decode prog_1_method_13_code 40 = .ok (.aload 5, 2) := by decide +kernel
theorem d_P_path_42 : decode prog_1_method_13_code 42 = .ok (.ifnonnull 7, 3) := by decide +kernel
theorem d_P_path_45 : decode prog_1_method_13_code 45 = .ok (.iconst 0, 1) := by decide +kernel
theorem d_P_path_46 : decode prog_1_method_13_code 46 = .ok (.goto 12, 3) := by decide +kernel
theorem d_P_path_49 : decode prog_1_method_13_code 49 = .ok (.aload 5, 2) := by decide +kernel
theorem d_P_path_51 : decode prog_1_method_13_code 51 = .ok (.getfield 147, 3) := by decide +kernel
theorem d_P_path_54 : decode prog_1_method_13_code 54 = .ok (.iload_n 3, 1) := by decide +kernel
theorem d_P_path_55 : decode prog_1_method_13_code 55 = .ok (.invokevirtual 137, 3) := by decide +kernel
theorem d_P_path_58 : decode prog_1_method_13_code 58 = .ok (.ireturn, 1) := by decide +kernel
theorem d_L_recipientAt_0 : decode prog_5_method_4_code 0 = .ok (.iload_n 1, 1) := by decide +kernel
theorem d_L_recipientAt_1 : decode prog_5_method_4_code 1 = .ok (.ifCond .lt 20, 3) := by decide +kernel
theorem d_L_recipientAt_4 : decode prog_5_method_4_code 4 = .ok (.iload_n 1, 1) := by decide +kernel
theorem d_L_recipientAt_5 : decode prog_5_method_4_code 5 = .ok (.aload_n 0, 1) := by decide +kernel
theorem d_L_recipientAt_6 : decode prog_5_method_4_code 6 = .ok (.getfield 38, 3) := by decide +kernel
theorem d_L_recipientAt_9 : decode prog_5_method_4_code 9 = .ok (.if_icmp .ge 12, 3) := by decide +kernel
theorem d_L_recipientAt_12 : decode prog_5_method_4_code 12 = .ok (.aload_n 0, 1) := by decide +kernel
theorem d_L_recipientAt_13 : decode prog_5_method_4_code 13 = .ok (.getfield 22, 3) := by decide +kernel
theorem d_L_recipientAt_16 : decode prog_5_method_4_code 16 = .ok (.iload_n 1, 1) := by decide +kernel
theorem d_L_recipientAt_17 : decode prog_5_method_4_code 17 = .ok (.aaload, 1) := by decide +kernel
theorem d_L_recipientAt_18 : decode prog_5_method_4_code 18 = .ok (.goto 4, 3) := by decide +kernel
theorem d_L_recipientAt_21 : decode prog_5_method_4_code 21 = .ok (.aconst_null, 1) := by decide +kernel
theorem d_L_recipientAt_22 : decode prog_5_method_4_code 22 = .ok (.areturn, 1) := by decide +kernel
theorem d_P_recipient_0 : decode prog_1_method_14_code 0 = .ok (.aload_n 0, 1) := by decide +kernel
theorem d_P_recipient_1 : decode prog_1_method_14_code 1 = .ok (.iload_n 1, 1) := by decide +kernel
theorem d_P_recipient_2 : decode prog_1_method_14_code 2 = .ok (.iload_n 2, 1) := by decide +kernel
theorem d_P_recipient_3 : decode prog_1_method_14_code 3 = .ok (.invokevirtual 150, 3) := by decide +kernel
theorem d_P_recipient_6 : decode prog_1_method_14_code 6 = .ok (.astore_n 3, 1) := by decide +kernel
theorem d_P_recipient_7 : decode prog_1_method_14_code 7 = .ok (.aload_n 3, 1) := by decide +kernel
theorem d_P_recipient_8 : decode prog_1_method_14_code 8 = .ok (.ifnonnull 5, 3) := by decide +kernel
theorem d_P_recipient_11 : decode prog_1_method_14_code 11 = .ok (.iconst (-1), 1) := by decide +kernel
theorem d_P_recipient_12 : decode prog_1_method_14_code 12 = .ok (.ireturn, 1) := by decide +kernel
theorem d_P_recipient_13 : decode prog_1_method_14_code 13 = .ok (.aload_n 3, 1) := by decide +kernel
theorem d_P_recipient_14 : decode prog_1_method_14_code 14 = .ok (.getfield 154, 3) := by decide +kernel
theorem d_P_recipient_17 : decode prog_1_method_14_code 17 = .ok (.ifCond .ne 10, 3) := by decide +kernel
theorem d_P_recipient_20 : decode prog_1_method_14_code 20 = .ok (.aload_n 3, 1) := by decide +kernel
theorem d_P_recipient_21 : decode prog_1_method_14_code 21 = .ok (.getfield 108, 3) := by decide +kernel
theorem d_P_recipient_24 : decode prog_1_method_14_code 24 = .ok (.goto 10, 3) := by decide +kernel
theorem d_P_recipient_27 : decode prog_1_method_14_code 27 = .ok (.bipush 10, 2) := by decide +kernel
theorem d_P_recipient_29 : decode prog_1_method_14_code 29 = .ok (.aload_n 3, 1) := by decide +kernel
theorem d_P_recipient_30 : decode prog_1_method_14_code 30 = .ok (.getfield 154, 3) := by decide +kernel
theorem d_P_recipient_33 : decode prog_1_method_14_code 33 = .ok (.imul, 1) := by decide +kernel
theorem d_P_recipient_34 : decode prog_1_method_14_code 34 = .ok (.ireturn, 1) := by decide +kernel
theorem d_P_findRecipient_0 : decode prog_1_method_21_code 0 = .ok (.aload_n 0, 1) := by decide +kernel
theorem d_P_findRecipient_1 : decode prog_1_method_21_code 1 = .ok (.getfield 28, 3) := by decide +kernel
theorem d_P_findRecipient_4 : decode prog_1_method_21_code 4 = .ok (.iload_n 1, 1) := by decide +kernel
theorem d_P_findRecipient_5 : decode prog_1_method_21_code 5 = .ok (.invokevirtual 131, 3) := by decide +kernel
theorem d_P_findRecipient_8 : decode prog_1_method_21_code 8 = .ok (.astore_n 3, 1) := by decide +kernel
theorem d_P_findRecipient_9 : decode prog_1_method_21_code 9 = .ok (.aload_n 3, 1) := by decide +kernel
theorem d_P_findRecipient_10 : decode prog_1_method_21_code 10 = .ok (.ifnonnull 7, 3) := by decide +kernel
theorem d_P_findRecipient_13 : decode prog_1_method_21_code 13 = .ok (.aconst_null, 1) := by decide +kernel
theorem d_P_findRecipient_14 : decode prog_1_method_21_code 14 = .ok (.goto 8, 3) := by decide +kernel
theorem d_P_findRecipient_17 : decode prog_1_method_21_code 17 = .ok (.aload_n 3, 1) := by decide +kernel
theorem d_P_findRecipient_18 : decode prog_1_method_21_code 18 = .ok (.iload_n 2, 1) := by decide +kernel
theorem d_P_findRecipient_19 : decode prog_1_method_21_code 19 = .ok (.invokevirtual 144, 3) := by decide +kernel
theorem d_P_findRecipient_22 : decode prog_1_method_21_code 22 = .ok (.areturn, 1) := by decide +kernel
theorem d_P_due_0 : decode prog_1_method_15_code 0 = .ok (.aload_n 0, 1) := by decide +kernel
theorem d_P_due_1 : decode prog_1_method_15_code 1 = .ok (.iload_n 1, 1) := by decide +kernel
theorem d_P_due_2 : decode prog_1_method_15_code 2 = .ok (.iload_n 2, 1) := by decide +kernel
theorem d_P_due_3 : decode prog_1_method_15_code 3 = .ok (.invokevirtual 150, 3) := by decide +kernel
theorem d_P_due_6 : decode prog_1_method_15_code 6 = .ok (.astore_n 3, 1) := by decide +kernel
theorem d_P_due_7 : decode prog_1_method_15_code 7 = .ok (.aload_n 3, 1) := by decide +kernel
theorem d_P_due_8 : decode prog_1_method_15_code 8 = .ok (.ifnull 10, 3) := by decide +kernel
theorem d_P_due_11 : decode prog_1_method_15_code 11 = .ok (.aload_n 3, 1) := by decide +kernel
theorem d_P_due_12 : decode prog_1_method_15_code 12 = .ok (.getfield 154, 3) := by decide +kernel
theorem d_P_due_15 : decode prog_1_method_15_code 15 = .ok (.ifCond .eq 7, 3) := by decide +kernel
theorem d_P_due_18 : decode prog_1_method_15_code 18 = .ok (.iconst (-1), 1) := by decide +kernel
theorem d_P_due_19 : decode prog_1_method_15_code 19 = .ok (.goto 7, 3) := by decide +kernel
theorem d_P_due_22 : decode prog_1_method_15_code 22 = .ok (.aload_n 3, 1) := by decide +kernel
theorem d_P_due_23 : decode prog_1_method_15_code 23 = .ok (.getfield 157, 3) := by decide +kernel
theorem d_P_due_26 : decode prog_1_method_15_code 26 = .ok (.ireturn, 1) := by decide +kernel
theorem d_P_parts_0 : decode prog_1_method_16_code 0 = .ok (.aload_n 0, 1) := by decide +kernel
theorem d_P_parts_1 : decode prog_1_method_16_code 1 = .ok (.getfield 28, 3) := by decide +kernel
theorem d_P_parts_4 : decode prog_1_method_16_code 4 = .ok (.iload_n 1, 1) := by decide +kernel
theorem d_P_parts_5 : decode prog_1_method_16_code 5 = .ok (.invokevirtual 131, 3) := by decide +kernel
theorem d_P_parts_8 : decode prog_1_method_16_code 8 = .ok (.astore_n 2, 1) := by decide +kernel
theorem d_P_parts_9 : decode prog_1_method_16_code 9 = .ok (.aload_n 2, 1) := by decide +kernel
theorem d_P_parts_10 : decode prog_1_method_16_code 10 = .ok (.ifnonnull 5, 3) := by decide +kernel
theorem d_P_parts_13 : decode prog_1_method_16_code 13 = .ok (.iconst (-1), 1) := by decide +kernel
theorem d_P_parts_14 : decode prog_1_method_16_code 14 = .ok (.ireturn, 1) := by decide +kernel
theorem d_P_parts_15 : decode prog_1_method_16_code 15 = .ok (.aload_n 0, 1) := by decide +kernel
theorem d_P_parts_16 : decode prog_1_method_16_code 16 = .ok (.getfield 35, 3) := by decide +kernel
theorem d_P_parts_19 : decode prog_1_method_16_code 19 = .ok (.aload_n 2, 1) := by decide +kernel
theorem d_P_parts_20 : decode prog_1_method_16_code 20 = .ok (.invokevirtual 160, 3) := by decide +kernel
theorem d_P_parts_23 : decode prog_1_method_16_code 23 = .ok (.aload_n 0, 1) := by decide +kernel
theorem d_P_parts_24 : decode prog_1_method_16_code 24 = .ok (.getfield 35, 3) := by decide +kernel
theorem d_P_parts_27 : decode prog_1_method_16_code 27 = .ok (.getfield 164, 3) := by decide +kernel
theorem d_P_parts_30 : decode prog_1_method_16_code 30 = .ok (.ireturn, 1) := by decide +kernel
theorem d_D_read_0 : decode prog_6_method_2_code 0 = .ok (.aload_n 1, 1) := by decide +kernel
theorem d_D_read_1 : decode prog_6_method_2_code 1 = .ok (.getfield 22, 3) := by decide +kernel
theorem d_D_read_4 : decode prog_6_method_2_code 4 = .ok (.aload_n 0, 1) := by decide +kernel
theorem d_D_read_5 : decode prog_6_method_2_code 5 = .ok (.getfield 18, 3) := by decide +kernel
theorem d_D_read_8 : decode prog_6_method_2_code 8 = .ok (.if_icmp .ne 4, 3) := by decide +kernel
theorem d_D_read_11 : decode prog_6_method_2_code 11 = .ok (.return_, 1) := by decide +kernel
theorem d_D_read_12 : decode prog_6_method_2_code 12 = .ok (.aload_n 0, 1) := by decide +kernel
theorem d_D_read_13 : decode prog_6_method_2_code 13 = .ok (.aload_n 1, 1) := by decide +kernel
theorem d_D_read_14 : decode prog_6_method_2_code 14 = .ok (.getfield 22, 3) := by decide +kernel
theorem d_D_read_17 : decode prog_6_method_2_code 17 = .ok (.putfield 18, 3) := by decide +kernel
theorem d_D_read_20 : decode prog_6_method_2_code 20 = .ok (.aload_n 0, 1) := by decide +kernel
theorem d_D_read_21 : decode prog_6_method_2_code 21 = .ok (.aload_n 1, 1) := by decide +kernel
theorem d_D_read_22 : decode prog_6_method_2_code 22 = .ok (.getfield 27, 3) := by decide +kernel
theorem d_D_read_25 : decode prog_6_method_2_code 25 = .ok (.putfield 31, 3) := by decide +kernel
theorem d_D_read_28 : decode prog_6_method_2_code 28 = .ok (.aload_n 0, 1) := by decide +kernel
theorem d_D_read_29 : decode prog_6_method_2_code 29 = .ok (.invokevirtual 32, 3) := by decide +kernel
theorem d_D_read_32 : decode prog_6_method_2_code 32 = .ok (.aload_n 0, 1) := by decide +kernel
theorem d_D_read_33 : decode prog_6_method_2_code 33 = .ok (.iconst 0, 1) := by decide +kernel
theorem d_D_read_34 : decode prog_6_method_2_code 34 = .ok (.putfield 35, 3) := by decide +kernel
theorem d_D_read_37 : decode prog_6_method_2_code 37 = .ok (.aload_n 0, 1) := by decide +kernel
theorem d_D_read_38 : decode prog_6_method_2_code 38 = .ok (.iconst 0, 1) := by decide +kernel
theorem d_D_read_39 : decode prog_6_method_2_code 39 = .ok (.aload_n 0, 1) := by decide +kernel
theorem d_D_read_40 : decode prog_6_method_2_code 40 = .ok (.getfield 38, 3) := by decide +kernel
theorem d_D_read_43 : decode prog_6_method_2_code 43 = .ok (.iconst 0, 1) := by decide +kernel
theorem d_D_read_44 : decode prog_6_method_2_code 44 = .ok (.invokevirtual 41, 3) := by decide +kernel
theorem d_D_read_47 : decode prog_6_method_2_code 47 = .ok (.ifCond .ne 8, 3) := by decide +kernel
theorem d_D_read_50 : decode prog_6_method_2_code 50 = .ok (.aload_n 0, 1) := by decide +kernel
theorem d_D_read_51 : decode prog_6_method_2_code 51 = .ok (.iconst 0, 1) := by decide +kernel
theorem d_D_read_52 : decode prog_6_method_2_code 52 = .ok (.putfield 35, 3) := by decide +kernel
theorem d_D_read_55 : decode prog_6_method_2_code 55 = .ok (.return_, 1) := by decide +kernel
theorem d_D_splitLines_0 : decode prog_6_method_4_code 0 = .ok (.aload_n 0, 1) := by decide +kernel
theorem d_D_splitLines_1 : decode prog_6_method_4_code 1 = .ok (.iconst 0, 1) := by decide +kernel
theorem d_D_splitLines_2 : decode prog_6_method_4_code 2 = .ok (.putfield 38, 3) := by decide +kernel
theorem d_D_splitLines_5 : decode prog_6_method_4_code 5 = .ok (.aload_n 0, 1) := by decide +kernel
theorem d_D_splitLines_6 : decode prog_6_method_4_code 6 = .ok (.getfield 9, 3) := by decide +kernel
theorem d_D_splitLines_9 : decode prog_6_method_4_code 9 = .ok (.iconst 0, 1) := by decide +kernel
theorem d_D_splitLines_10 : decode prog_6_method_4_code 10 = .ok (.iconst 0, 1) := by decide +kernel
theorem d_D_splitLines_11 : decode prog_6_method_4_code 11 = .ok (.iastore, 1) := by decide +kernel
theorem d_D_splitLines_12 : decode prog_6_method_4_code 12 = .ok (.iconst 0, 1) := by decide +kernel
theorem d_D_splitLines_13 : decode prog_6_method_4_code 13 = .ok (.istore_n 1, 1) := by decide +kernel
theorem d_D_splitLines_14 : decode prog_6_method_4_code 14 = .ok (.iload_n 1, 1) := by decide +kernel
theorem d_D_splitLines_15 : decode prog_6_method_4_code 15 = .ok (.aload_n 0, 1) := by decide +kernel
theorem d_D_splitLines_16 : decode prog_6_method_4_code 16 = .ok (.getfield 31, 3) := by decide +kernel
theorem d_D_splitLines_19 : decode prog_6_method_4_code 19 = .ok (.getfield 45, 3) := by decide +kernel
theorem d_D_splitLines_22 : decode prog_6_method_4_code 22 = .ok (.if_icmp .ge 44, 3) := by decide +kernel
theorem d_D_splitLines_25 : decode prog_6_method_4_code 25 = .ok (.aload_n 0, 1) := by decide +kernel
theorem d_D_splitLines_26 : decode prog_6_method_4_code 26 = .ok (.getfield 31, 3) := by decide +kernel
theorem d_D_splitLines_29 : decode prog_6_method_4_code 29 = .ok (.iload_n 1, 1) := by decide +kernel
theorem d_D_splitLines_30 : decode prog_6_method_4_code 30 = .ok (.invokevirtual 50, 3) := by decide +kernel
theorem d_D_splitLines_33 : decode prog_6_method_4_code 33 = .ok (.bipush 10, 2) := by decide +kernel
theorem d_D_splitLines_35 : decode prog_6_method_4_code 35 = .ok (.if_icmp .ne 25, 3) := by decide +kernel
theorem d_D_splitLines_38 : decode prog_6_method_4_code 38 = .ok (.aload_n 0, 1) := by decide +kernel
theorem d_D_splitLines_39 : decode prog_6_method_4_code 39 = .ok (.dup, 1) := by decide +kernel
theorem d_D_splitLines_40 : decode prog_6_method_4_code 40 = .ok (.getfield 38, 3) := by decide +kernel
theorem d_D_splitLines_43 : decode prog_6_method_4_code 43 = .ok (.iconst 1, 1) := by decide +kernel
theorem d_D_splitLines_44 : decode prog_6_method_4_code 44 = .ok (.iadd, 1) := by decide +kernel
theorem d_D_splitLines_45 : decode prog_6_method_4_code 45 = .ok (.putfield 38, 3) := by decide +kernel
theorem d_D_splitLines_48 : decode prog_6_method_4_code 48 = .ok (.aload_n 0, 1) := by decide +kernel
theorem d_D_splitLines_49 : decode prog_6_method_4_code 49 = .ok (.getfield 9, 3) := by decide +kernel
theorem d_D_splitLines_52 : decode prog_6_method_4_code 52 = .ok (.aload_n 0, 1) := by decide +kernel
theorem d_D_splitLines_53 : decode prog_6_method_4_code 53 = .ok (.getfield 38, 3) := by decide +kernel
theorem d_D_splitLines_56 : decode prog_6_method_4_code 56 = .ok (.iload_n 1, 1) := by decide +kernel
theorem d_D_splitLines_57 : decode prog_6_method_4_code 57 = .ok (.iconst 1, 1) := by decide +kernel
theorem d_D_splitLines_58 : decode prog_6_method_4_code 58 = .ok (.iadd, 1) := by decide +kernel
theorem d_D_splitLines_59 : decode prog_6_method_4_code 59 = .ok (.iastore, 1) := by decide +kernel
theorem d_D_splitLines_60 : decode prog_6_method_4_code 60 = .ok (.iinc 1 1, 3) := by decide +kernel
theorem d_D_splitLines_63 : decode prog_6_method_4_code 63 = .ok (.goto (-49), 3) := by decide +kernel
theorem d_D_splitLines_66 : decode prog_6_method_4_code 66 = .ok (.return_, 1) := by decide +kernel
theorem d_D_takePart_0 : decode prog_6_method_6_code 0 = .ok (.iload_n 3, 1) := by decide +kernel
theorem d_D_takePart_1 : decode prog_6_method_6_code 1 = .ok (.iconst 4, 1) := by decide +kernel
theorem d_D_takePart_2 : decode prog_6_method_6_code 2 = .ok (.if_icmp .gt 12, 3) := by decide +kernel
theorem d_D_takePart_5 : decode prog_6_method_6_code 5 = .ok (.aload_n 0, 1) := by decide +kernel
theorem d_D_takePart_6 : decode prog_6_method_6_code 6 = .ok (.getfield 35, 3) := by decide +kernel
theorem d_D_takePart_9 : decode prog_6_method_6_code 9 = .ok (.bipush 16, 2) := by decide +kernel
theorem d_D_takePart_11 : decode prog_6_method_6_code 11 = .ok (.if_icmp .lt 5, 3) := by decide +kernel
theorem d_D_takePart_14 : decode prog_6_method_6_code 14 = .ok (.iconst 0, 1) := by decide +kernel
theorem d_D_takePart_15 : decode prog_6_method_6_code 15 = .ok (.ireturn, 1) := by decide +kernel
theorem d_D_takePart_16 : decode prog_6_method_6_code 16 = .ok (.aload_n 0, 1) := by decide +kernel
theorem d_D_takePart_17 : decode prog_6_method_6_code 17 = .ok (.getfield 35, 3) := by decide +kernel
theorem d_D_takePart_20 : decode prog_6_method_6_code 20 = .ok (.iconst 4, 1) := by decide +kernel
theorem d_D_takePart_21 : decode prog_6_method_6_code 21 = .ok (.imul, 1) := by decide +kernel
theorem d_D_takePart_22 : decode prog_6_method_6_code 22 = .ok (.istore 4, 2) := by decide +kernel
theorem d_D_takePart_24 : decode prog_6_method_6_code 24 = .ok (.aload_n 0, 1) := by decide +kernel
theorem d_D_takePart_25 : decode prog_6_method_6_code 25 = .ok (.dup, 1) := by decide +kernel
theorem d_D_takePart_26 : decode prog_6_method_6_code 26 = .ok (.getfield 35, 3) := by decide +kernel
theorem d_D_takePart_29 : decode prog_6_method_6_code 29 = .ok (.iconst 1, 1) := by decide +kernel
theorem d_D_takePart_30 : decode prog_6_method_6_code 30 = .ok (.iadd, 1) := by decide +kernel
theorem d_D_takePart_31 : decode prog_6_method_6_code 31 = .ok (.putfield 35, 3) := by decide +kernel
theorem d_D_takePart_34 : decode prog_6_method_6_code 34 = .ok (.aload_n 0, 1) := by decide +kernel
theorem d_D_takePart_35 : decode prog_6_method_6_code 35 = .ok (.iload_n 1, 1) := by decide +kernel
theorem d_D_takePart_36 : decode prog_6_method_6_code 36 = .ok (.iload_n 2, 1) := by decide +kernel
theorem d_D_takePart_37 : decode prog_6_method_6_code 37 = .ok (.invokevirtual 54, 3) := by decide +kernel
theorem d_D_takePart_40 : decode prog_6_method_6_code 40 = .ok (.istore 5, 2) := by decide +kernel
theorem d_D_takePart_42 : decode prog_6_method_6_code 42 = .ok (.aload_n 0, 1) := by decide +kernel
theorem d_D_takePart_43 : decode prog_6_method_6_code 43 = .ok (.iload_n 1, 1) := by decide +kernel
theorem d_D_takePart_44 : decode prog_6_method_6_code 44 = .ok (.iload 5, 2) := by decide +kernel
theorem d_D_takePart_46 : decode prog_6_method_6_code 46 = .ok (.invokevirtual 58, 3) := by decide +kernel
theorem d_D_takePart_49 : decode prog_6_method_6_code 49 = .ok (.ifCond .ne 5, 3) := by decide +kernel
theorem d_D_takePart_52 : decode prog_6_method_6_code 52 = .ok (.iconst 0, 1) := by decide +kernel
theorem d_D_takePart_53 : decode prog_6_method_6_code 53 = .ok (.ireturn, 1) := by decide +kernel
theorem d_D_takePart_54 : decode prog_6_method_6_code 54 = .ok (.aload_n 0, 1) := by decide +kernel
theorem d_D_takePart_55 : decode prog_6_method_6_code 55 = .ok (.iload_n 1, 1) := by decide +kernel
theorem d_D_takePart_56 : decode prog_6_method_6_code 56 = .ok (.iload 5, 2) := by decide +kernel
theorem d_D_takePart_58 : decode prog_6_method_6_code 58 = .ok (.invokevirtual 62, 3) := by decide +kernel
theorem d_D_takePart_61 : decode prog_6_method_6_code 61 = .ok (.istore 6, 2) := by decide +kernel
theorem d_D_takePart_63 : decode prog_6_method_6_code 63 = .ok (.aload_n 0, 1) := by decide +kernel
theorem d_D_takePart_64 : decode prog_6_method_6_code 64 = .ok (.getfield 15, 3) := by decide +kernel
theorem d_D_takePart_67 : decode prog_6_method_6_code 67 = .ok (.iload 4, 2) := by decide +kernel
theorem d_D_takePart_69 : decode prog_6_method_6_code 69 = .ok (.iconst 0, 1) := by decide +kernel
theorem d_D_takePart_70 : decode prog_6_method_6_code 70 = .ok (.iadd, 1) := by decide +kernel
theorem d_D_takePart_71 : decode prog_6_method_6_code 71 = .ok (.iload_n 3, 1) := by decide +kernel
theorem d_D_takePart_72 : decode prog_6_method_6_code 72 = .ok (.iastore, 1) := by decide +kernel
theorem d_D_takePart_73 : decode prog_6_method_6_code 73 = .ok (.aload_n 0, 1) := by decide +kernel
theorem d_D_takePart_74 : decode prog_6_method_6_code 74 = .ok (.getfield 15, 3) := by decide +kernel
theorem d_D_takePart_77 : decode prog_6_method_6_code 77 = .ok (.iload 4, 2) := by decide +kernel
theorem d_D_takePart_79 : decode prog_6_method_6_code 79 = .ok (.iconst 1, 1) := by decide +kernel
theorem d_D_takePart_80 : decode prog_6_method_6_code 80 = .ok (.iadd, 1) := by decide +kernel
theorem d_D_takePart_81 : decode prog_6_method_6_code 81 = .ok (.iload 6, 2) := by decide +kernel
theorem d_D_takePart_83 : decode prog_6_method_6_code 83 = .ok (.iconst (-1), 1) := by decide +kernel
theorem d_D_takePart_84 : decode prog_6_method_6_code 84 = .ok (.if_icmp .ne 7, 3) := by decide +kernel
theorem d_D_takePart_87 : decode prog_6_method_6_code 87 = .ok (.iconst 0, 1) := by decide +kernel
theorem d_D_takePart_88 : decode prog_6_method_6_code 88 = .ok (.goto 4, 3) := by decide +kernel
theorem d_D_takePart_91 : decode prog_6_method_6_code 91 = .ok (.iconst 1, 1) := by decide +kernel
theorem d_D_takePart_92 : decode prog_6_method_6_code 92 = .ok (.iastore, 1) := by decide +kernel
theorem d_D_takePart_93 : decode prog_6_method_6_code 93 = .ok (.aload_n 0, 1) := by decide +kernel
theorem d_D_takePart_94 : decode prog_6_method_6_code 94 = .ok (.getfield 15, 3) := by decide +kernel
theorem d_D_takePart_97 : decode prog_6_method_6_code 97 = .ok (.iload 4, 2) := by decide +kernel
theorem d_D_takePart_99 : decode prog_6_method_6_code 99 = .ok (.iconst 2, 1) := by decide +kernel
theorem d_D_takePart_100 : decode prog_6_method_6_code 100 = .ok (.iadd, 1) := by decide +kernel
theorem d_D_takePart_101 : decode prog_6_method_6_code 101 = .ok (.iload_n 1, 1) := by decide +kernel
theorem d_D_takePart_102 : decode prog_6_method_6_code 102 = .ok (.iastore, 1) := by decide +kernel
theorem d_D_takePart_103 : decode prog_6_method_6_code 103 = .ok (.aload_n 0, 1) := by decide +kernel
theorem d_D_takePart_104 : decode prog_6_method_6_code 104 = .ok (.getfield 15, 3) := by decide +kernel
theorem d_D_takePart_107 : decode prog_6_method_6_code 107 = .ok (.iload 4, 2) := by decide +kernel
theorem d_D_takePart_109 : decode prog_6_method_6_code 109 = .ok (.iconst 3, 1) := by decide +kernel
theorem d_D_takePart_110 : decode prog_6_method_6_code 110 = .ok (.iadd, 1) := by decide +kernel
theorem d_D_takePart_111 : decode prog_6_method_6_code 111 = .ok (.iload_n 2, 1) := by decide +kernel
theorem d_D_takePart_112 : decode prog_6_method_6_code 112 = .ok (.iload_n 1, 1) := by decide +kernel
theorem d_D_takePart_113 : decode prog_6_method_6_code 113 = .ok (.isub, 1) := by decide +kernel
theorem d_D_takePart_114 : decode prog_6_method_6_code 114 = .ok (.iastore, 1) := by decide +kernel
theorem d_D_takePart_115 : decode prog_6_method_6_code 115 = .ok (.iload 6, 2) := by decide +kernel
theorem d_D_takePart_117 : decode prog_6_method_6_code 117 = .ok (.iconst (-1), 1) := by decide +kernel
theorem d_D_takePart_118 : decode prog_6_method_6_code 118 = .ok (.if_icmp .eq 18, 3) := by decide +kernel
theorem d_D_takePart_121 : decode prog_6_method_6_code 121 = .ok (.aload_n 0, 1) := by decide +kernel
theorem d_D_takePart_122 : decode prog_6_method_6_code 122 = .ok (.iload 5, 2) := by decide +kernel
theorem d_D_takePart_124 : decode prog_6_method_6_code 124 = .ok (.iconst 1, 1) := by decide +kernel
theorem d_D_takePart_125 : decode prog_6_method_6_code 125 = .ok (.iadd, 1) := by decide +kernel
theorem d_D_takePart_126 : decode prog_6_method_6_code 126 = .ok (.iload_n 2, 1) := by decide +kernel
theorem d_D_takePart_127 : decode prog_6_method_6_code 127 = .ok (.iload 6, 2) := by decide +kernel
theorem d_D_takePart_129 : decode prog_6_method_6_code 129 = .ok (.iload_n 3, 1) := by decide +kernel
theorem d_D_takePart_130 : decode prog_6_method_6_code 130 = .ok (.invokevirtual 65, 3) := by decide +kernel
theorem d_D_takePart_133 : decode prog_6_method_6_code 133 = .ok (.ifCond .eq 7, 3) := by decide +kernel
end
section
theorem d_D_takePart_136 : decode prog_6_method_6_code 136 = .ok (.iconst 1, 1) := by decide +kernel
theorem d_D_takePart_137 : decode prog_6_method_6_code 137 = .ok (.goto 4, 3) := by decide +kernel
theorem d_D_takePart_140 : decode prog_6_method_6_code 140 = .ok (.iconst 0, 1) := by decide +kernel
theorem d_D_takePart_141 : decode prog_6_method_6_code 141 = .ok (.ireturn, 1) := by decide +kernel
theorem d_D_findHeadEnd_0 : decode prog_6_method_8_code 0 = .ok (.iload_n 1, 1) := by decide +kernel
theorem d_D_findHeadEnd_1 : decode prog_6_method_8_code 1 = .ok (.istore_n 3, 1) := by decide +kernel
theorem d_D_findHeadEnd_2 : decode prog_6_method_8_code 2 = .ok (.iload_n 3, 1) := by decide +kernel
theorem d_D_findHeadEnd_3 : decode prog_6_method_8_code 3 = .ok (.iload_n 2, 1) := by decide +kernel
theorem d_D_findHeadEnd_4 : decode prog_6_method_8_code 4 = .ok (.if_icmp .ge 25, 3) := by decide +kernel
theorem d_D_findHeadEnd_7 : decode prog_6_method_8_code 7 = .ok (.aload_n 0, 1) := by decide +kernel
theorem d_D_findHeadEnd_8 : decode prog_6_method_8_code 8 = .ok (.getfield 9, 3) := by decide +kernel
theorem d_D_findHeadEnd_11 : decode prog_6_method_8_code 11 = .ok (.iload_n 3, 1) := by decide +kernel
theorem d_D_findHeadEnd_12 : decode prog_6_method_8_code 12 = .ok (.iaload, 1) := by decide +kernel
theorem d_D_findHeadEnd_13 : decode prog_6_method_8_code 13 = .ok (.aload_n 0, 1) := by decide +kernel
theorem d_D_findHeadEnd_14 : decode prog_6_method_8_code 14 = .ok (.iload_n 3, 1) := by decide +kernel
theorem d_D_findHeadEnd_15 : decode prog_6_method_8_code 15 = .ok (.invokevirtual 77, 3) := by decide +kernel
theorem d_D_findHeadEnd_18 : decode prog_6_method_8_code 18 = .ok (.if_icmp .ne 5, 3) := by decide +kernel
theorem d_D_findHeadEnd_21 : decode prog_6_method_8_code 21 = .ok (.iload_n 3, 1) := by decide +kernel
theorem d_D_findHeadEnd_22 : decode prog_6_method_8_code 22 = .ok (.ireturn, 1) := by decide +kernel
theorem d_D_findHeadEnd_23 : decode prog_6_method_8_code 23 = .ok (.iinc 3 1, 3) := by decide +kernel
theorem d_D_findHeadEnd_26 : decode prog_6_method_8_code 26 = .ok (.goto (-24), 3) := by decide +kernel
theorem d_D_findHeadEnd_29 : decode prog_6_method_8_code 29 = .ok (.iload_n 2, 1) := by decide +kernel
theorem d_D_findHeadEnd_30 : decode prog_6_method_8_code 30 = .ok (.ireturn, 1) := by decide +kernel
theorem d_D_lineEnd_0 : decode prog_6_method_5_code 0 = .ok (.aload_n 0, 1) := by decide +kernel
theorem d_D_lineEnd_1 : decode prog_6_method_5_code 1 = .ok (.getfield 9, 3) := by decide +kernel
theorem d_D_lineEnd_4 : decode prog_6_method_5_code 4 = .ok (.iload_n 1, 1) := by decide +kernel
theorem d_D_lineEnd_5 : decode prog_6_method_5_code 5 = .ok (.iconst 1, 1) := by decide +kernel
theorem d_D_lineEnd_6 : decode prog_6_method_5_code 6 = .ok (.iadd, 1) := by decide +kernel
theorem d_D_lineEnd_7 : decode prog_6_method_5_code 7 = .ok (.iaload, 1) := by decide +kernel
theorem d_D_lineEnd_8 : decode prog_6_method_5_code 8 = .ok (.iconst 1, 1) := by decide +kernel
theorem d_D_lineEnd_9 : decode prog_6_method_5_code 9 = .ok (.isub, 1) := by decide +kernel
theorem d_D_lineEnd_10 : decode prog_6_method_5_code 10 = .ok (.ireturn, 1) := by decide +kernel
theorem d_D_isHeadRight_0 : decode prog_6_method_9_code 0 = .ok (.iload_n 1, 1) := by decide +kernel
theorem d_D_isHeadRight_1 : decode prog_6_method_9_code 1 = .ok (.istore_n 3, 1) := by decide +kernel
theorem d_D_isHeadRight_2 : decode prog_6_method_9_code 2 = .ok (.iload_n 3, 1) := by decide +kernel
theorem d_D_isHeadRight_3 : decode prog_6_method_9_code 3 = .ok (.iload_n 2, 1) := by decide +kernel
theorem d_D_isHeadRight_4 : decode prog_6_method_9_code 4 = .ok (.if_icmp .ge 54, 3) := by decide +kernel
theorem d_D_isHeadRight_7 : decode prog_6_method_9_code 7 = .ok (.iload_n 3, 1) := by decide +kernel
theorem d_D_isHeadRight_8 : decode prog_6_method_9_code 8 = .ok (.iload_n 1, 1) := by decide +kernel
theorem d_D_isHeadRight_9 : decode prog_6_method_9_code 9 = .ok (.if_icmp .le 25, 3) := by decide +kernel
theorem d_D_isHeadRight_12 : decode prog_6_method_9_code 12 = .ok (.aload_n 0, 1) := by decide +kernel
theorem d_D_isHeadRight_13 : decode prog_6_method_9_code 13 = .ok (.getfield 31, 3) := by decide +kernel
theorem d_D_isHeadRight_16 : decode prog_6_method_9_code 16 = .ok (.aload_n 0, 1) := by decide +kernel
theorem d_D_isHeadRight_17 : decode prog_6_method_9_code 17 = .ok (.getfield 9, 3) := by decide +kernel
theorem d_D_isHeadRight_20 : decode prog_6_method_9_code 20 = .ok (.iload_n 3, 1) := by decide +kernel
theorem d_D_isHeadRight_21 : decode prog_6_method_9_code 21 = .ok (.iaload, 1) := by decide +kernel
theorem d_D_isHeadRight_22 : decode prog_6_method_9_code 22 = .ok (.invokevirtual 50, 3) := by decide +kernel
theorem d_D_isHeadRight_25 : decode prog_6_method_9_code 25 = .ok (.bipush 32, 2) := by decide +kernel
theorem d_D_isHeadRight_27 : decode prog_6_method_9_code 27 = .ok (.if_icmp .ne 7, 3) := by decide +kernel
theorem d_D_isHeadRight_30 : decode prog_6_method_9_code 30 = .ok (.iconst 1, 1) := by decide +kernel
theorem d_D_isHeadRight_31 : decode prog_6_method_9_code 31 = .ok (.goto 4, 3) := by decide +kernel
theorem d_D_isHeadRight_34 : decode prog_6_method_9_code 34 = .ok (.iconst 0, 1) := by decide +kernel
theorem d_D_isHeadRight_35 : decode prog_6_method_9_code 35 = .ok (.istore 4, 2) := by decide +kernel
theorem d_D_isHeadRight_37 : decode prog_6_method_9_code 37 = .ok (.iload 4, 2) := by decide +kernel
theorem d_D_isHeadRight_39 : decode prog_6_method_9_code 39 = .ok (.ifCond .ne 13, 3) := by decide +kernel
theorem d_D_isHeadRight_42 : decode prog_6_method_9_code 42 = .ok (.aload_n 0, 1) := by decide +kernel
theorem d_D_isHeadRight_43 : decode prog_6_method_9_code 43 = .ok (.iload_n 3, 1) := by decide +kernel
theorem d_D_isHeadRight_44 : decode prog_6_method_9_code 44 = .ok (.invokevirtual 80, 3) := by decide +kernel
theorem d_D_isHeadRight_47 : decode prog_6_method_9_code 47 = .ok (.ifCond .ne 5, 3) := by decide +kernel
theorem d_D_isHeadRight_50 : decode prog_6_method_9_code 50 = .ok (.iconst 0, 1) := by decide +kernel
theorem d_D_isHeadRight_51 : decode prog_6_method_9_code 51 = .ok (.ireturn, 1) := by decide +kernel
theorem d_D_isHeadRight_52 : decode prog_6_method_9_code 52 = .ok (.iinc 3 1, 3) := by decide +kernel
theorem d_D_isHeadRight_55 : decode prog_6_method_9_code 55 = .ok (.goto (-53), 3) := by decide +kernel
theorem d_D_isHeadRight_58 : decode prog_6_method_9_code 58 = .ok (.iconst 1, 1) := by decide +kernel
theorem d_D_isHeadRight_59 : decode prog_6_method_9_code 59 = .ok (.ireturn, 1) := by decide +kernel
theorem d_D_isField_0 : decode prog_6_method_10_code 0 = .ok (.aload_n 0, 1) := by decide +kernel
theorem d_D_isField_1 : decode prog_6_method_10_code 1 = .ok (.getfield 9, 3) := by decide +kernel
theorem d_D_isField_4 : decode prog_6_method_10_code 4 = .ok (.iload_n 1, 1) := by decide +kernel
theorem d_D_isField_5 : decode prog_6_method_10_code 5 = .ok (.iaload, 1) := by decide +kernel
theorem d_D_isField_6 : decode prog_6_method_10_code 6 = .ok (.istore_n 2, 1) := by decide +kernel
theorem d_D_isField_7 : decode prog_6_method_10_code 7 = .ok (.aload_n 0, 1) := by decide +kernel
theorem d_D_isField_8 : decode prog_6_method_10_code 8 = .ok (.iload_n 1, 1) := by decide +kernel
theorem d_D_isField_9 : decode prog_6_method_10_code 9 = .ok (.invokevirtual 77, 3) := by decide +kernel
theorem d_D_isField_12 : decode prog_6_method_10_code 12 = .ok (.istore_n 3, 1) := by decide +kernel
theorem d_D_isField_13 : decode prog_6_method_10_code 13 = .ok (.iload_n 2, 1) := by decide +kernel
theorem d_D_isField_14 : decode prog_6_method_10_code 14 = .ok (.istore 4, 2) := by decide +kernel
theorem d_D_isField_16 : decode prog_6_method_10_code 16 = .ok (.iload 4, 2) := by decide +kernel
theorem d_D_isField_18 : decode prog_6_method_10_code 18 = .ok (.iload_n 3, 1) := by decide +kernel
theorem d_D_isField_19 : decode prog_6_method_10_code 19 = .ok (.if_icmp .ge 56, 3) := by decide +kernel
theorem d_D_isField_22 : decode prog_6_method_10_code 22 = .ok (.aload_n 0, 1) := by decide +kernel
theorem d_D_isField_23 : decode prog_6_method_10_code 23 = .ok (.getfield 31, 3) := by decide +kernel
theorem d_D_isField_26 : decode prog_6_method_10_code 26 = .ok (.iload 4, 2) := by decide +kernel
theorem d_D_isField_28 : decode prog_6_method_10_code 28 = .ok (.invokevirtual 50, 3) := by decide +kernel
theorem d_D_isField_31 : decode prog_6_method_10_code 31 = .ok (.istore 5, 2) := by decide +kernel
theorem d_D_isField_33 : decode prog_6_method_10_code 33 = .ok (.iload 5, 2) := by decide +kernel
theorem d_D_isField_35 : decode prog_6_method_10_code 35 = .ok (.bipush 58, 2) := by decide +kernel
theorem d_D_isField_37 : decode prog_6_method_10_code 37 = .ok (.if_icmp .ne 15, 3) := by decide +kernel
theorem d_D_isField_40 : decode prog_6_method_10_code 40 = .ok (.iload 4, 2) := by decide +kernel
theorem d_D_isField_42 : decode prog_6_method_10_code 42 = .ok (.iload_n 2, 1) := by decide +kernel
theorem d_D_isField_43 : decode prog_6_method_10_code 43 = .ok (.if_icmp .le 7, 3) := by decide +kernel
theorem d_D_isField_46 : decode prog_6_method_10_code 46 = .ok (.iconst 1, 1) := by decide +kernel
theorem d_D_isField_47 : decode prog_6_method_10_code 47 = .ok (.goto 4, 3) := by decide +kernel
theorem d_D_isField_50 : decode prog_6_method_10_code 50 = .ok (.iconst 0, 1) := by decide +kernel
theorem d_D_isField_51 : decode prog_6_method_10_code 51 = .ok (.ireturn, 1) := by decide +kernel
theorem d_D_isField_52 : decode prog_6_method_10_code 52 = .ok (.iload 5, 2) := by decide +kernel
theorem d_D_isField_54 : decode prog_6_method_10_code 54 = .ok (.invokestatic 84, 3) := by decide +kernel
theorem d_D_isField_57 : decode prog_6_method_10_code 57 = .ok (.ifCond .ne 12, 3) := by decide +kernel
theorem d_D_isField_60 : decode prog_6_method_10_code 60 = .ok (.iload 5, 2) := by decide +kernel
theorem d_D_isField_62 : decode prog_6_method_10_code 62 = .ok (.bipush 45, 2) := by decide +kernel
theorem d_D_isField_64 : decode prog_6_method_10_code 64 = .ok (.if_icmp .eq 5, 3) := by decide +kernel
theorem d_D_isField_67 : decode prog_6_method_10_code 67 = .ok (.iconst 0, 1) := by decide +kernel
theorem d_D_isField_68 : decode prog_6_method_10_code 68 = .ok (.ireturn, 1) := by decide +kernel
theorem d_D_isField_69 : decode prog_6_method_10_code 69 = .ok (.iinc 4 1, 3) := by decide +kernel
theorem d_D_isField_72 : decode prog_6_method_10_code 72 = .ok (.goto (-56), 3) := by decide +kernel
theorem d_D_isField_75 : decode prog_6_method_10_code 75 = .ok (.iconst 0, 1) := by decide +kernel
theorem d_D_isField_76 : decode prog_6_method_10_code 76 = .ok (.ireturn, 1) := by decide +kernel
theorem d_D_findBoundary_0 : decode prog_6_method_11_code 0 = .ok (.iload_n 1, 1) := by decide +kernel
theorem d_D_findBoundary_1 : decode prog_6_method_11_code 1 = .ok (.istore_n 3, 1) := by decide +kernel
theorem d_D_findBoundary_2 : decode prog_6_method_11_code 2 = .ok (.iload_n 3, 1) := by decide +kernel
theorem d_D_findBoundary_3 : decode prog_6_method_11_code 3 = .ok (.iload_n 2, 1) := by decide +kernel
theorem d_D_findBoundary_4 : decode prog_6_method_11_code 4 = .ok (.if_icmp .ge 49, 3) := by decide +kernel
theorem d_D_findBoundary_7 : decode prog_6_method_11_code 7 = .ok (.aload_n 0, 1) := by decide +kernel
theorem d_D_findBoundary_8 : decode prog_6_method_11_code 8 = .ok (.getfield 31, 3) := by decide +kernel
theorem d_D_findBoundary_11 : decode prog_6_method_11_code 11 = .ok (.aload_n 0, 1) := by decide +kernel
theorem d_D_findBoundary_12 : decode prog_6_method_11_code 12 = .ok (.getfield 9, 3) := by decide +kernel
theorem d_D_findBoundary_15 : decode prog_6_method_11_code 15 = .ok (.iload_n 3, 1) := by decide +kernel
theorem d_D_findBoundary_16 : decode prog_6_method_11_code 16 = .ok (.iaload, 1) := by decide +kernel
theorem d_D_findBoundary_17 : decode prog_6_method_11_code 17 = .ok (.ldc 90, 2) := by decide +kernel
theorem d_D_findBoundary_19 : decode prog_6_method_11_code 19 = .ok (.invokevirtual 92, 3) := by decide +kernel
theorem d_D_findBoundary_22 : decode prog_6_method_11_code 22 = .ok (.ifCond .eq 25, 3) := by decide +kernel
theorem d_D_findBoundary_25 : decode prog_6_method_11_code 25 = .ok (.aload_n 0, 1) := by decide +kernel
theorem d_D_findBoundary_26 : decode prog_6_method_11_code 26 = .ok (.aload_n 0, 1) := by decide +kernel
theorem d_D_findBoundary_27 : decode prog_6_method_11_code 27 = .ok (.getfield 9, 3) := by decide +kernel
theorem d_D_findBoundary_30 : decode prog_6_method_11_code 30 = .ok (.iload_n 3, 1) := by decide +kernel
theorem d_D_findBoundary_31 : decode prog_6_method_11_code 31 = .ok (.iaload, 1) := by decide +kernel
theorem d_D_findBoundary_32 : decode prog_6_method_11_code 32 = .ok (.ldc 90, 2) := by decide +kernel
theorem d_D_findBoundary_34 : decode prog_6_method_11_code 34 = .ok (.invokevirtual 96, 3) := by decide +kernel
theorem d_D_findBoundary_37 : decode prog_6_method_11_code 37 = .ok (.iadd, 1) := by decide +kernel
theorem d_D_findBoundary_38 : decode prog_6_method_11_code 38 = .ok (.aload_n 0, 1) := by decide +kernel
theorem d_D_findBoundary_39 : decode prog_6_method_11_code 39 = .ok (.iload_n 3, 1) := by decide +kernel
theorem d_D_findBoundary_40 : decode prog_6_method_11_code 40 = .ok (.invokevirtual 77, 3) := by decide +kernel
theorem d_D_findBoundary_43 : decode prog_6_method_11_code 43 = .ok (.invokevirtual 101, 3) := by decide +kernel
theorem d_D_findBoundary_46 : decode prog_6_method_11_code 46 = .ok (.ireturn, 1) := by decide +kernel
theorem d_D_findBoundary_47 : decode prog_6_method_11_code 47 = .ok (.iinc 3 1, 3) := by decide +kernel
theorem d_D_findBoundary_50 : decode prog_6_method_11_code 50 = .ok (.goto (-48), 3) := by decide +kernel
theorem d_D_findBoundary_53 : decode prog_6_method_11_code 53 = .ok (.iconst (-1), 1) := by decide +kernel
theorem d_D_findBoundary_54 : decode prog_6_method_11_code 54 = .ok (.ireturn, 1) := by decide +kernel
theorem d_D_findBoundaryBetween_0 : decode prog_6_method_12_code 0 = .ok (.iload_n 1, 1) := by decide +kernel
theorem d_D_findBoundaryBetween_1 : decode prog_6_method_12_code 1 = .ok (.istore_n 3, 1) := by decide +kernel
theorem d_D_findBoundaryBetween_2 : decode prog_6_method_12_code 2 = .ok (.iload_n 3, 1) := by decide +kernel
theorem d_D_findBoundaryBetween_3 : decode prog_6_method_12_code 3 = .ok (.iload_n 2, 1) := by decide +kernel
theorem d_D_findBoundaryBetween_4 : decode prog_6_method_12_code 4 = .ok (.if_icmp .ge 22, 3) := by decide +kernel
theorem d_D_findBoundaryBetween_7 : decode prog_6_method_12_code 7 = .ok (.aload_n 0, 1) := by decide +kernel
theorem d_D_findBoundaryBetween_8 : decode prog_6_method_12_code 8 = .ok (.getfield 31, 3) := by decide +kernel
theorem d_D_findBoundaryBetween_11 : decode prog_6_method_12_code 11 = .ok (.iload_n 3, 1) := by decide +kernel
theorem d_D_findBoundaryBetween_12 : decode prog_6_method_12_code 12 = .ok (.invokevirtual 50, 3) := by decide +kernel
theorem d_D_findBoundaryBetween_15 : decode prog_6_method_12_code 15 = .ok (.bipush 32, 2) := by decide +kernel
theorem d_D_findBoundaryBetween_17 : decode prog_6_method_12_code 17 = .ok (.if_icmp .ne 9, 3) := by decide +kernel
theorem d_D_findBoundaryBetween_20 : decode prog_6_method_12_code 20 = .ok (.iinc 3 1, 3) := by decide +kernel
theorem d_D_findBoundaryBetween_23 : decode prog_6_method_12_code 23 = .ok (.goto (-21), 3) := by decide +kernel
theorem d_D_findBoundaryBetween_26 : decode prog_6_method_12_code 26 = .ok (.aload_n 0, 1) := by decide +kernel
theorem d_D_findBoundaryBetween_27 : decode prog_6_method_12_code 27 = .ok (.getfield 31, 3) := by decide +kernel
theorem d_D_findBoundaryBetween_30 : decode prog_6_method_12_code 30 = .ok (.iload_n 3, 1) := by decide +kernel
theorem d_D_findBoundaryBetween_31 : decode prog_6_method_12_code 31 = .ok (.ldc 104, 2) := by decide +kernel
theorem d_D_findBoundaryBetween_33 : decode prog_6_method_12_code 33 = .ok (.invokevirtual 92, 3) := by decide +kernel
theorem d_D_findBoundaryBetween_36 : decode prog_6_method_12_code 36 = .ok (.ifCond .ne 5, 3) := by decide +kernel
theorem d_D_findBoundaryBetween_39 : decode prog_6_method_12_code 39 = .ok (.iconst (-1), 1) := by decide +kernel
theorem d_D_findBoundaryBetween_40 : decode prog_6_method_12_code 40 = .ok (.ireturn, 1) := by decide +kernel
theorem d_D_findBoundaryBetween_41 : decode prog_6_method_12_code 41 = .ok (.iload_n 3, 1) := by decide +kernel
theorem d_D_findBoundaryBetween_42 : decode prog_6_method_12_code 42 = .ok (.ldc 104, 2) := by decide +kernel
theorem d_D_findBoundaryBetween_44 : decode prog_6_method_12_code 44 = .ok (.invokevirtual 96, 3) := by decide +kernel
theorem d_D_findBoundaryBetween_47 : decode prog_6_method_12_code 47 = .ok (.iadd, 1) := by decide +kernel
theorem d_D_findBoundaryBetween_48 : decode prog_6_method_12_code 48 = .ok (.istore 4, 2) := by decide +kernel
theorem d_D_findBoundaryBetween_50 : decode prog_6_method_12_code 50 = .ok (.iload 4, 2) := by decide +kernel
theorem d_D_findBoundaryBetween_52 : decode prog_6_method_12_code 52 = .ok (.iload_n 2, 1) := by decide +kernel
theorem d_D_findBoundaryBetween_53 : decode prog_6_method_12_code 53 = .ok (.if_icmp .ge 61, 3) := by decide +kernel
theorem d_D_findBoundaryBetween_56 : decode prog_6_method_12_code 56 = .ok (.aload_n 0, 1) := by decide +kernel
theorem d_D_findBoundaryBetween_57 : decode prog_6_method_12_code 57 = .ok (.getfield 31, 3) := by decide +kernel
theorem d_D_findBoundaryBetween_60 : decode prog_6_method_12_code 60 = .ok (.iload 4, 2) := by decide +kernel
theorem d_D_findBoundaryBetween_62 : decode prog_6_method_12_code 62 = .ok (.ldc 106, 2) := by decide +kernel
theorem d_D_findBoundaryBetween_64 : decode prog_6_method_12_code 64 = .ok (.invokevirtual 92, 3) := by decide +kernel
theorem d_D_findBoundaryBetween_67 : decode prog_6_method_12_code 67 = .ok (.ifCond .eq 41, 3) := by decide +kernel
theorem d_D_findBoundaryBetween_70 : decode prog_6_method_12_code 70 = .ok (.iload 4, 2) := by decide +kernel
theorem d_D_findBoundaryBetween_72 : decode prog_6_method_12_code 72 = .ok (.ldc 106, 2) := by decide +kernel
theorem d_D_findBoundaryBetween_74 : decode prog_6_method_12_code 74 = .ok (.invokevirtual 96, 3) := by decide +kernel
theorem d_D_findBoundaryBetween_77 : decode prog_6_method_12_code 77 = .ok (.iadd, 1) := by decide +kernel
theorem d_D_findBoundaryBetween_78 : decode prog_6_method_12_code 78 = .ok (.istore 5, 2) := by decide +kernel
theorem d_D_findBoundaryBetween_80 : decode prog_6_method_12_code 80 = .ok (.aload_n 0, 1) := by decide +kernel
theorem d_D_findBoundaryBetween_81 : decode prog_6_method_12_code 81 = .ok (.iload 5, 2) := by decide +kernel
theorem d_D_findBoundaryBetween_83 : decode prog_6_method_12_code 83 = .ok (.invokevirtual 69, 3) := by decide +kernel
theorem d_D_findBoundaryBetween_86 : decode prog_6_method_12_code 86 = .ok (.istore 6, 2) := by decide +kernel
theorem d_D_findBoundaryBetween_88 : decode prog_6_method_12_code 88 = .ok (.iload 6, 2) := by decide +kernel
theorem d_D_findBoundaryBetween_90 : decode prog_6_method_12_code 90 = .ok (.iconst 1, 1) := by decide +kernel
theorem d_D_findBoundaryBetween_91 : decode prog_6_method_12_code 91 = .ok (.if_icmp .lt 15, 3) := by decide +kernel
theorem d_D_findBoundaryBetween_94 : decode prog_6_method_12_code 94 = .ok (.iload 6, 2) := by decide +kernel
theorem d_D_findBoundaryBetween_96 : decode prog_6_method_12_code 96 = .ok (.bipush 20, 2) := by decide +kernel
theorem d_D_findBoundaryBetween_98 : decode prog_6_method_12_code 98 = .ok (.if_icmp .gt 8, 3) := by decide +kernel
theorem d_D_findBoundaryBetween_101 : decode prog_6_method_12_code 101 = .ok (.iload 5, 2) := by decide +kernel
theorem d_D_findBoundaryBetween_103 : decode prog_6_method_12_code 103 = .ok (.goto 4, 3) := by decide +kernel
theorem d_D_findBoundaryBetween_106 : decode prog_6_method_12_code 106 = .ok (.iconst (-1), 1) := by decide +kernel
theorem d_D_findBoundaryBetween_107 : decode prog_6_method_12_code 107 = .ok (.ireturn, 1) := by decide +kernel
theorem d_D_findBoundaryBetween_108 : decode prog_6_method_12_code 108 = .ok (.iinc 4 1, 3) := by decide +kernel
theorem d_D_findBoundaryBetween_111 : decode prog_6_method_12_code 111 = .ok (.goto (-61), 3) := by decide +kernel
theorem d_D_findBoundaryBetween_114 : decode prog_6_method_12_code 114 = .ok (.iconst (-1), 1) := by decide +kernel
theorem d_D_findBoundaryBetween_115 : decode prog_6_method_12_code 115 = .ok (.ireturn, 1) := by decide +kernel
theorem d_D_boundaryLength_0 : decode prog_6_method_13_code 0 = .ok (.iload_n 1, 1) := by decide +kernel
theorem d_D_boundaryLength_1 : decode prog_6_method_13_code 1 = .ok (.istore_n 2, 1) := by decide +kernel
theorem d_D_boundaryLength_2 : decode prog_6_method_13_code 2 = .ok (.iload_n 2, 1) := by decide +kernel
theorem d_D_boundaryLength_3 : decode prog_6_method_13_code 3 = .ok (.aload_n 0, 1) := by decide +kernel
theorem d_D_boundaryLength_4 : decode prog_6_method_13_code 4 = .ok (.getfield 31, 3) := by decide +kernel
theorem d_D_boundaryLength_7 : decode prog_6_method_13_code 7 = .ok (.getfield 45, 3) := by decide +kernel
theorem d_D_boundaryLength_10 : decode prog_6_method_13_code 10 = .ok (.if_icmp .ge 23, 3) := by decide +kernel
theorem d_D_boundaryLength_13 : decode prog_6_method_13_code 13 = .ok (.aload_n 0, 1) := by decide +kernel
theorem d_D_boundaryLength_14 : decode prog_6_method_13_code 14 = .ok (.getfield 31, 3) := by decide +kernel
theorem d_D_boundaryLength_17 : decode prog_6_method_13_code 17 = .ok (.iload_n 2, 1) := by decide +kernel
theorem d_D_boundaryLength_18 : decode prog_6_method_13_code 18 = .ok (.invokevirtual 50, 3) := by decide +kernel
theorem d_D_boundaryLength_21 : decode prog_6_method_13_code 21 = .ok (.invokestatic 84, 3) := by decide +kernel
theorem d_D_boundaryLength_24 : decode prog_6_method_13_code 24 = .ok (.ifCond .eq 9, 3) := by decide +kernel
theorem d_D_boundaryLength_27 : decode prog_6_method_13_code 27 = .ok (.iinc 2 1, 3) := by decide +kernel
theorem d_D_boundaryLength_30 : decode prog_6_method_13_code 30 = .ok (.goto (-28), 3) := by decide +kernel
theorem d_D_boundaryLength_33 : decode prog_6_method_13_code 33 = .ok (.iload_n 2, 1) := by decide +kernel
theorem d_D_boundaryLength_34 : decode prog_6_method_13_code 34 = .ok (.iload_n 1, 1) := by decide +kernel
theorem d_D_boundaryLength_35 : decode prog_6_method_13_code 35 = .ok (.isub, 1) := by decide +kernel
theorem d_D_boundaryLength_36 : decode prog_6_method_13_code 36 = .ok (.ireturn, 1) := by decide +kernel
theorem d_D_takeBody_0 : decode prog_6_method_7_code 0 = .ok (.aload_n 0, 1) := by decide +kernel
theorem d_D_takeBody_1 : decode prog_6_method_7_code 1 = .ok (.iload_n 3, 1) := by decide +kernel
theorem d_D_takeBody_2 : decode prog_6_method_7_code 2 = .ok (.invokevirtual 69, 3) := by decide +kernel
theorem d_D_takeBody_5 : decode prog_6_method_7_code 5 = .ok (.istore 5, 2) := by decide +kernel
theorem d_D_takeBody_7 : decode prog_6_method_7_code 7 = .ok (.iconst (-1), 1) := by decide +kernel
theorem d_D_takeBody_8 : decode prog_6_method_7_code 8 = .ok (.istore 6, 2) := by decide +kernel
theorem d_D_takeBody_10 : decode prog_6_method_7_code 10 = .ok (.iload_n 1, 1) := by decide +kernel
theorem d_D_takeBody_11 : decode prog_6_method_7_code 11 = .ok (.istore 7, 2) := by decide +kernel
theorem d_D_takeBody_13 : decode prog_6_method_7_code 13 = .ok (.iload 7, 2) := by decide +kernel
theorem d_D_takeBody_15 : decode prog_6_method_7_code 15 = .ok (.iload_n 2, 1) := by decide +kernel
theorem d_D_takeBody_16 : decode prog_6_method_7_code 16 = .ok (.if_icmp .ge 75, 3) := by decide +kernel
theorem d_D_takeBody_19 : decode prog_6_method_7_code 19 = .ok (.aload_n 0, 1) := by decide +kernel
theorem d_D_takeBody_20 : decode prog_6_method_7_code 20 = .ok (.iload 7, 2) := by decide +kernel
theorem d_D_takeBody_22 : decode prog_6_method_7_code 22 = .ok (.iload_n 3, 1) := by decide +kernel
theorem d_D_takeBody_23 : decode prog_6_method_7_code 23 = .ok (.iload 5, 2) := by decide +kernel
theorem d_D_takeBody_25 : decode prog_6_method_7_code 25 = .ok (.invokevirtual 73, 3) := by decide +kernel
theorem d_D_takeBody_28 : decode prog_6_method_7_code 28 = .ok (.istore 8, 2) := by decide +kernel
theorem d_D_takeBody_30 : decode prog_6_method_7_code 30 = .ok (.iload 8, 2) := by decide +kernel
theorem d_D_takeBody_32 : decode prog_6_method_7_code 32 = .ok (.ifCond .ne 6, 3) := by decide +kernel
theorem d_D_takeBody_35 : decode prog_6_method_7_code 35 = .ok (.goto 50, 3) := by decide +kernel
theorem d_D_takeBody_38 : decode prog_6_method_7_code 38 = .ok (.iload 6, 2) := by decide +kernel
theorem d_D_takeBody_40 : decode prog_6_method_7_code 40 = .ok (.iconst (-1), 1) := by decide +kernel
theorem d_D_takeBody_41 : decode prog_6_method_7_code 41 = .ok (.if_icmp .eq 20, 3) := by decide +kernel
theorem d_D_takeBody_44 : decode prog_6_method_7_code 44 = .ok (.aload_n 0, 1) := by decide +kernel
theorem d_D_takeBody_45 : decode prog_6_method_7_code 45 = .ok (.iload 6, 2) := by decide +kernel
theorem d_D_takeBody_47 : decode prog_6_method_7_code 47 = .ok (.iload 7, 2) := by decide +kernel
theorem d_D_takeBody_49 : decode prog_6_method_7_code 49 = .ok (.iload 4, 2) := by decide +kernel
theorem d_D_takeBody_51 : decode prog_6_method_7_code 51 = .ok (.iconst 1, 1) := by decide +kernel
theorem d_D_takeBody_52 : decode prog_6_method_7_code 52 = .ok (.iadd, 1) := by decide +kernel
theorem d_D_takeBody_53 : decode prog_6_method_7_code 53 = .ok (.invokevirtual 41, 3) := by decide +kernel
theorem d_D_takeBody_56 : decode prog_6_method_7_code 56 = .ok (.ifCond .ne 5, 3) := by decide +kernel
theorem d_D_takeBody_59 : decode prog_6_method_7_code 59 = .ok (.iconst 0, 1) := by decide +kernel
theorem d_D_takeBody_60 : decode prog_6_method_7_code 60 = .ok (.ireturn, 1) := by decide +kernel
theorem d_D_takeBody_61 : decode prog_6_method_7_code 61 = .ok (.iload 8, 2) := by decide +kernel
theorem d_D_takeBody_63 : decode prog_6_method_7_code 63 = .ok (.iconst 2, 1) := by decide +kernel
theorem d_D_takeBody_64 : decode prog_6_method_7_code 64 = .ok (.if_icmp .ne 15, 3) := by decide +kernel
theorem d_D_takeBody_67 : decode prog_6_method_7_code 67 = .ok (.iload 6, 2) := by decide +kernel
theorem d_D_takeBody_69 : decode prog_6_method_7_code 69 = .ok (.iconst (-1), 1) := by decide +kernel
theorem d_D_takeBody_70 : decode prog_6_method_7_code 70 = .ok (.if_icmp .eq 7, 3) := by decide +kernel
theorem d_D_takeBody_73 : decode prog_6_method_7_code 73 = .ok (.iconst 1, 1) := by decide +kernel
theorem d_D_takeBody_74 : decode prog_6_method_7_code 74 = .ok (.goto 4, 3) := by decide +kernel
theorem d_D_takeBody_77 : decode prog_6_method_7_code 77 = .ok (.iconst 0, 1) := by decide +kernel
theorem d_D_takeBody_78 : decode prog_6_method_7_code 78 = .ok (.ireturn, 1) := by decide +kernel
theorem d_D_takeBody_79 : decode prog_6_method_7_code 79 = .ok (.iload 7, 2) := by decide +kernel
theorem d_D_takeBody_81 : decode prog_6_method_7_code 81 = .ok (.iconst 1, 1) := by decide +kernel
theorem d_D_takeBody_82 : decode prog_6_method_7_code 82 = .ok (.iadd, 1) := by decide +kernel
theorem d_D_takeBody_83 : decode prog_6_method_7_code 83 = .ok (.istore 6, 2) := by decide +kernel
theorem d_D_takeBody_85 : decode prog_6_method_7_code 85 = .ok (.iinc 7 1, 3) := by decide +kernel
theorem d_D_takeBody_88 : decode prog_6_method_7_code 88 = .ok (.goto (-75), 3) := by decide +kernel
theorem d_D_takeBody_91 : decode prog_6_method_7_code 91 = .ok (.iconst 0, 1) := by decide +kernel
theorem d_D_takeBody_92 : decode prog_6_method_7_code 92 = .ok (.ireturn, 1) := by decide +kernel
theorem d_D_borderKind_0 : decode prog_6_method_14_code 0 = .ok (.aload_n 0, 1) := by decide +kernel
theorem d_D_borderKind_1 : decode prog_6_method_14_code 1 = .ok (.getfield 9, 3) := by decide +kernel
theorem d_D_borderKind_4 : decode prog_6_method_14_code 4 = .ok (.iload_n 1, 1) := by decide +kernel
theorem d_D_borderKind_5 : decode prog_6_method_14_code 5 = .ok (.iaload, 1) := by decide +kernel
theorem d_D_borderKind_6 : decode prog_6_method_14_code 6 = .ok (.istore 4, 2) := by decide +kernel
theorem d_D_borderKind_8 : decode prog_6_method_14_code 8 = .ok (.iload 4, 2) := by decide +kernel
theorem d_D_borderKind_10 : decode prog_6_method_14_code 10 = .ok (.iconst 2, 1) := by decide +kernel
theorem d_D_borderKind_11 : decode prog_6_method_14_code 11 = .ok (.iadd, 1) := by decide +kernel
theorem d_D_borderKind_12 : decode prog_6_method_14_code 12 = .ok (.iload_n 3, 1) := by decide +kernel
theorem d_D_borderKind_13 : decode prog_6_method_14_code 13 = .ok (.iadd, 1) := by decide +kernel
theorem d_D_borderKind_14 : decode prog_6_method_14_code 14 = .ok (.istore 5, 2) := by decide +kernel
theorem d_D_borderKind_16 : decode prog_6_method_14_code 16 = .ok (.aload_n 0, 1) := by decide +kernel
theorem d_D_borderKind_17 : decode prog_6_method_14_code 17 = .ok (.iload 4, 2) := by decide +kernel
theorem d_D_borderKind_19 : decode prog_6_method_14_code 19 = .ok (.invokevirtual 108, 3) := by decide +kernel
theorem d_D_borderKind_22 : decode prog_6_method_14_code 22 = .ok (.ifCond .eq 16, 3) := by decide +kernel
theorem d_D_borderKind_25 : decode prog_6_method_14_code 25 = .ok (.aload_n 0, 1) := by decide +kernel
theorem d_D_borderKind_26 : decode prog_6_method_14_code 26 = .ok (.iload 4, 2) := by decide +kernel
theorem d_D_borderKind_28 : decode prog_6_method_14_code 28 = .ok (.iconst 2, 1) := by decide +kernel
theorem d_D_borderKind_29 : decode prog_6_method_14_code 29 = .ok (.iadd, 1) := by decide +kernel
theorem d_D_borderKind_30 : decode prog_6_method_14_code 30 = .ok (.iload_n 2, 1) := by decide +kernel
theorem d_D_borderKind_31 : decode prog_6_method_14_code 31 = .ok (.iload_n 3, 1) := by decide +kernel
theorem d_D_borderKind_32 : decode prog_6_method_14_code 32 = .ok (.invokevirtual 111, 3) := by decide +kernel
theorem d_D_borderKind_35 : decode prog_6_method_14_code 35 = .ok (.ifCond .ne 5, 3) := by decide +kernel
theorem d_D_borderKind_38 : decode prog_6_method_14_code 38 = .ok (.iconst 0, 1) := by decide +kernel
theorem d_D_borderKind_39 : decode prog_6_method_14_code 39 = .ok (.ireturn, 1) := by decide +kernel
theorem d_D_borderKind_40 : decode prog_6_method_14_code 40 = .ok (.iload 5, 2) := by decide +kernel
theorem d_D_borderKind_42 : decode prog_6_method_14_code 42 = .ok (.aload_n 0, 1) := by decide +kernel
theorem d_D_borderKind_43 : decode prog_6_method_14_code 43 = .ok (.iload_n 1, 1) := by decide +kernel
theorem d_D_borderKind_44 : decode prog_6_method_14_code 44 = .ok (.invokevirtual 77, 3) := by decide +kernel
theorem d_D_borderKind_47 : decode prog_6_method_14_code 47 = .ok (.if_icmp .ne 5, 3) := by decide +kernel
theorem d_D_borderKind_50 : decode prog_6_method_14_code 50 = .ok (.iconst 1, 1) := by decide +kernel
theorem d_D_borderKind_51 : decode prog_6_method_14_code 51 = .ok (.ireturn, 1) := by decide +kernel
theorem d_D_borderKind_52 : decode prog_6_method_14_code 52 = .ok (.iload 5, 2) := by decide +kernel
theorem d_D_borderKind_54 : decode prog_6_method_14_code 54 = .ok (.iconst 2, 1) := by decide +kernel
theorem d_D_borderKind_55 : decode prog_6_method_14_code 55 = .ok (.iadd, 1) := by decide +kernel
theorem d_D_borderKind_56 : decode prog_6_method_14_code 56 = .ok (.aload_n 0, 1) := by decide +kernel
theorem d_D_borderKind_57 : decode prog_6_method_14_code 57 = .ok (.iload_n 1, 1) := by decide +kernel
theorem d_D_borderKind_58 : decode prog_6_method_14_code 58 = .ok (.invokevirtual 77, 3) := by decide +kernel
theorem d_D_borderKind_61 : decode prog_6_method_14_code 61 = .ok (.if_icmp .ne 16, 3) := by decide +kernel
theorem d_D_borderKind_64 : decode prog_6_method_14_code 64 = .ok (.aload_n 0, 1) := by decide +kernel
theorem d_D_borderKind_65 : decode prog_6_method_14_code 65 = .ok (.iload 5, 2) := by decide +kernel
theorem d_D_borderKind_67 : decode prog_6_method_14_code 67 = .ok (.invokevirtual 108, 3) := by decide +kernel
theorem d_D_borderKind_70 : decode prog_6_method_14_code 70 = .ok (.ifCond .eq 7, 3) := by decide +kernel
theorem d_D_borderKind_73 : decode prog_6_method_14_code 73 = .ok (.iconst 2, 1) := by decide +kernel
theorem d_D_borderKind_74 : decode prog_6_method_14_code 74 = .ok (.goto 4, 3) := by decide +kernel
theorem d_D_borderKind_77 : decode prog_6_method_14_code 77 = .ok (.iconst 0, 1) := by decide +kernel
theorem d_D_borderKind_78 : decode prog_6_method_14_code 78 = .ok (.ireturn, 1) := by decide +kernel
theorem d_D_isDashed_0 : decode prog_6_method_15_code 0 = .ok (.aload_n 0, 1) := by decide +kernel
theorem d_D_isDashed_1 : decode prog_6_method_15_code 1 = .ok (.getfield 31, 3) := by decide +kernel
theorem d_D_isDashed_4 : decode prog_6_method_15_code 4 = .ok (.iload_n 1, 1) := by decide +kernel
theorem d_D_isDashed_5 : decode prog_6_method_15_code 5 = .ok (.invokevirtual 50, 3) := by decide +kernel
theorem d_D_isDashed_8 : decode prog_6_method_15_code 8 = .ok (.bipush 45, 2) := by decide +kernel
theorem d_D_isDashed_10 : decode prog_6_method_15_code 10 = .ok (.if_icmp .ne 22, 3) := by decide +kernel
theorem d_D_isDashed_13 : decode prog_6_method_15_code 13 = .ok (.aload_n 0, 1) := by decide +kernel
theorem d_D_isDashed_14 : decode prog_6_method_15_code 14 = .ok (.getfield 31, 3) := by decide +kernel
theorem d_D_isDashed_17 : decode prog_6_method_15_code 17 = .ok (.iload_n 1, 1) := by decide +kernel
theorem d_D_isDashed_18 : decode prog_6_method_15_code 18 = .ok (.iconst 1, 1) := by decide +kernel
theorem d_D_isDashed_19 : decode prog_6_method_15_code 19 = .ok (.iadd, 1) := by decide +kernel
theorem d_D_isDashed_20 : decode prog_6_method_15_code 20 = .ok (.invokevirtual 50, 3) := by decide +kernel
theorem d_D_isDashed_23 : decode prog_6_method_15_code 23 = .ok (.bipush 45, 2) := by decide +kernel
theorem d_D_isDashed_25 : decode prog_6_method_15_code 25 = .ok (.if_icmp .ne 7, 3) := by decide +kernel
theorem d_D_isDashed_28 : decode prog_6_method_15_code 28 = .ok (.iconst 1, 1) := by decide +kernel
theorem d_D_isDashed_29 : decode prog_6_method_15_code 29 = .ok (.goto 4, 3) := by decide +kernel
theorem d_D_isDashed_32 : decode prog_6_method_15_code 32 = .ok (.iconst 0, 1) := by decide +kernel
theorem d_D_isDashed_33 : decode prog_6_method_15_code 33 = .ok (.ireturn, 1) := by decide +kernel
theorem d_D_repeats_0 : decode prog_6_method_16_code 0 = .ok (.iconst 0, 1) := by decide +kernel
theorem d_D_repeats_1 : decode prog_6_method_16_code 1 = .ok (.istore 4, 2) := by decide +kernel
theorem d_D_repeats_3 : decode prog_6_method_16_code 3 = .ok (.iload 4, 2) := by decide +kernel
theorem d_D_repeats_5 : decode prog_6_method_16_code 5 = .ok (.iload_n 3, 1) := by decide +kernel
theorem d_D_repeats_6 : decode prog_6_method_16_code 6 = .ok (.if_icmp .ge 36, 3) := by decide +kernel
theorem d_D_repeats_9 : decode prog_6_method_16_code 9 = .ok (.aload_n 0, 1) := by decide +kernel
theorem d_D_repeats_10 : decode prog_6_method_16_code 10 = .ok (.getfield 31, 3) := by decide +kernel
theorem d_D_repeats_13 : decode prog_6_method_16_code 13 = .ok (.iload_n 1, 1) := by decide +kernel
theorem d_D_repeats_14 : decode prog_6_method_16_code 14 = .ok (.iload 4, 2) := by decide +kernel
theorem d_D_repeats_16 : decode prog_6_method_16_code 16 = .ok (.iadd, 1) := by decide +kernel
theorem d_D_repeats_17 : decode prog_6_method_16_code 17 = .ok (.invokevirtual 50, 3) := by decide +kernel
theorem d_D_repeats_20 : decode prog_6_method_16_code 20 = .ok (.aload_n 0, 1) := by decide +kernel
theorem d_D_repeats_21 : decode prog_6_method_16_code 21 = .ok (.getfield 31, 3) := by decide +kernel
theorem d_D_repeats_24 : decode prog_6_method_16_code 24 = .ok (.iload_n 2, 1) := by decide +kernel
theorem d_D_repeats_25 : decode prog_6_method_16_code 25 = .ok (.iload 4, 2) := by decide +kernel
theorem d_D_repeats_27 : decode prog_6_method_16_code 27 = .ok (.iadd, 1) := by decide +kernel
theorem d_D_repeats_28 : decode prog_6_method_16_code 28 = .ok (.invokevirtual 50, 3) := by decide +kernel
theorem d_D_repeats_31 : decode prog_6_method_16_code 31 = .ok (.if_icmp .eq 5, 3) := by decide +kernel
theorem d_D_repeats_34 : decode prog_6_method_16_code 34 = .ok (.iconst 0, 1) := by decide +kernel
theorem d_D_repeats_35 : decode prog_6_method_16_code 35 = .ok (.ireturn, 1) := by decide +kernel
theorem d_D_repeats_36 : decode prog_6_method_16_code 36 = .ok (.iinc 4 1, 3) := by decide +kernel
theorem d_D_repeats_39 : decode prog_6_method_16_code 39 = .ok (.goto (-36), 3) := by decide +kernel
theorem d_D_repeats_42 : decode prog_6_method_16_code 42 = .ok (.iconst 1, 1) := by decide +kernel
theorem d_D_repeats_43 : decode prog_6_method_16_code 43 = .ok (.ireturn, 1) := by decide +kernel
theorem d_P_part_0 : decode prog_1_method_17_code 0 = .ok (.aload_n 0, 1) := by decide +kernel
theorem d_P_part_1 : decode prog_1_method_17_code 1 = .ok (.getfield 28, 3) := by decide +kernel
theorem d_P_part_4 : decode prog_1_method_17_code 4 = .ok (.iload_n 1, 1) := by decide +kernel
theorem d_P_part_5 : decode prog_1_method_17_code 5 = .ok (.invokevirtual 131, 3) := by decide +kernel
theorem d_P_part_8 : decode prog_1_method_17_code 8 = .ok (.astore 4, 2) := by decide +kernel
theorem d_P_part_10 : decode prog_1_method_17_code 10 = .ok (.aload 4, 2) := by decide +kernel
theorem d_P_part_12 : decode prog_1_method_17_code 12 = .ok (.ifnonnull 5, 3) := by decide +kernel
theorem d_P_part_15 : decode prog_1_method_17_code 15 = .ok (.iconst (-1), 1) := by decide +kernel
theorem d_P_part_16 : decode prog_1_method_17_code 16 = .ok (.ireturn, 1) := by decide +kernel
theorem d_P_part_17 : decode prog_1_method_17_code 17 = .ok (.aload_n 0, 1) := by decide +kernel
theorem d_P_part_18 : decode prog_1_method_17_code 18 = .ok (.getfield 35, 3) := by decide +kernel
theorem d_P_part_21 : decode prog_1_method_17_code 21 = .ok (.aload 4, 2) := by decide +kernel
theorem d_P_part_23 : decode prog_1_method_17_code 23 = .ok (.invokevirtual 160, 3) := by decide +kernel
theorem d_P_part_26 : decode prog_1_method_17_code 26 = .ok (.aload_n 0, 1) := by decide +kernel
theorem d_P_part_27 : decode prog_1_method_17_code 27 = .ok (.getfield 35, 3) := by decide +kernel
theorem d_P_part_30 : decode prog_1_method_17_code 30 = .ok (.iload_n 2, 1) := by decide +kernel
theorem d_P_part_31 : decode prog_1_method_17_code 31 = .ok (.iload_n 3, 1) := by decide +kernel
theorem d_P_part_32 : decode prog_1_method_17_code 32 = .ok (.invokevirtual 167, 3) := by decide +kernel
theorem d_P_part_35 : decode prog_1_method_17_code 35 = .ok (.ireturn, 1) := by decide +kernel
theorem d_D_fact_0 : decode prog_6_method_3_code 0 = .ok (.iload_n 1, 1) := by decide +kernel
theorem d_D_fact_1 : decode prog_6_method_3_code 1 = .ok (.ifCond .lt 20, 3) := by decide +kernel
theorem d_D_fact_4 : decode prog_6_method_3_code 4 = .ok (.iload_n 1, 1) := by decide +kernel
theorem d_D_fact_5 : decode prog_6_method_3_code 5 = .ok (.aload_n 0, 1) := by decide +kernel
theorem d_D_fact_6 : decode prog_6_method_3_code 6 = .ok (.getfield 35, 3) := by decide +kernel
theorem d_D_fact_9 : decode prog_6_method_3_code 9 = .ok (.if_icmp .ge 12, 3) := by decide +kernel
theorem d_D_fact_12 : decode prog_6_method_3_code 12 = .ok (.iload_n 2, 1) := by decide +kernel
theorem d_D_fact_13 : decode prog_6_method_3_code 13 = .ok (.ifCond .lt 8, 3) := by decide +kernel
theorem d_D_fact_16 : decode prog_6_method_3_code 16 = .ok (.iload_n 2, 1) := by decide +kernel
theorem d_D_fact_17 : decode prog_6_method_3_code 17 = .ok (.iconst 4, 1) := by decide +kernel
theorem d_D_fact_18 : decode prog_6_method_3_code 18 = .ok (.if_icmp .lt 5, 3) := by decide +kernel
theorem d_D_fact_21 : decode prog_6_method_3_code 21 = .ok (.iconst (-1), 1) := by decide +kernel
theorem d_D_fact_22 : decode prog_6_method_3_code 22 = .ok (.ireturn, 1) := by decide +kernel
theorem d_D_fact_23 : decode prog_6_method_3_code 23 = .ok (.aload_n 0, 1) := by decide +kernel
theorem d_D_fact_24 : decode prog_6_method_3_code 24 = .ok (.getfield 15, 3) := by decide +kernel
theorem d_D_fact_27 : decode prog_6_method_3_code 27 = .ok (.iload_n 1, 1) := by decide +kernel
theorem d_D_fact_28 : decode prog_6_method_3_code 28 = .ok (.iconst 4, 1) := by decide +kernel
theorem d_D_fact_29 : decode prog_6_method_3_code 29 = .ok (.imul, 1) := by decide +kernel
theorem d_D_fact_30 : decode prog_6_method_3_code 30 = .ok (.iload_n 2, 1) := by decide +kernel
theorem d_D_fact_31 : decode prog_6_method_3_code 31 = .ok (.iadd, 1) := by decide +kernel
theorem d_D_fact_32 : decode prog_6_method_3_code 32 = .ok (.iaload, 1) := by decide +kernel
theorem d_D_fact_33 : decode prog_6_method_3_code 33 = .ok (.ireturn, 1) := by decide +kernel
theorem d_M_type_0 : decode prog_12_method_5_code 0 = .ok (.iconst 0, 1) := by decide +kernel
theorem d_M_type_1 : decode prog_12_method_5_code 1 = .ok (.istore_n 3, 1) := by decide +kernel
theorem d_M_type_2 : decode prog_12_method_5_code 2 = .ok (.iload_n 3, 1) := by decide +kernel
theorem d_M_type_3 : decode prog_12_method_5_code 3 = .ok (.bipush 8, 2) := by decide +kernel
theorem d_M_type_5 : decode prog_12_method_5_code 5 = .ok (.if_icmp .ge 54, 3) := by decide +kernel
theorem d_M_type_8 : decode prog_12_method_5_code 8 = .ok (.lload_n 1, 1) := by decide +kernel
theorem d_M_type_9 : decode prog_12_method_5_code 9 = .ok (.bipush 8, 2) := by decide +kernel
theorem d_M_type_11 : decode prog_12_method_5_code 11 = .ok (.iload_n 3, 1) := by decide +kernel
theorem d_M_type_12 : decode prog_12_method_5_code 12 = .ok (.imul, 1) := by decide +kernel
theorem d_M_type_13 : decode prog_12_method_5_code 13 = .ok (.lshr, 1) := by decide +kernel
theorem d_M_type_14 : decode prog_12_method_5_code 14 = .ok (.ldc2_w 77, 3) := by decide +kernel
theorem d_M_type_17 : decode prog_12_method_5_code 17 = .ok (.land, 1) := by decide +kernel
theorem d_M_type_18 : decode prog_12_method_5_code 18 = .ok (.lconst 0, 1) := by decide +kernel
theorem d_M_type_19 : decode prog_12_method_5_code 19 = .ok (.lcmp, 1) := by decide +kernel
theorem d_M_type_20 : decode prog_12_method_5_code 20 = .ok (.ifCond .eq 39, 3) := by decide +kernel
theorem d_M_type_23 : decode prog_12_method_5_code 23 = .ok (.lload_n 1, 1) := by decide +kernel
theorem d_M_type_24 : decode prog_12_method_5_code 24 = .ok (.bipush 8, 2) := by decide +kernel
theorem d_M_type_26 : decode prog_12_method_5_code 26 = .ok (.iload_n 3, 1) := by decide +kernel
theorem d_M_type_27 : decode prog_12_method_5_code 27 = .ok (.imul, 1) := by decide +kernel
theorem d_M_type_28 : decode prog_12_method_5_code 28 = .ok (.lshr, 1) := by decide +kernel
theorem d_M_type_29 : decode prog_12_method_5_code 29 = .ok (.ldc2_w 77, 3) := by decide +kernel
theorem d_M_type_32 : decode prog_12_method_5_code 32 = .ok (.land, 1) := by decide +kernel
theorem d_M_type_33 : decode prog_12_method_5_code 33 = .ok (.l2i, 1) := by decide +kernel
theorem d_M_type_34 : decode prog_12_method_5_code 34 = .ok (.istore 4, 2) := by decide +kernel
theorem d_M_type_36 : decode prog_12_method_5_code 36 = .ok (.iload 4, 2) := by decide +kernel
theorem d_M_type_38 : decode prog_12_method_5_code 38 = .ok (.bipush 32, 2) := by decide +kernel
theorem d_M_type_40 : decode prog_12_method_5_code 40 = .ok (.if_icmp .lt 10, 3) := by decide +kernel
theorem d_M_type_43 : decode prog_12_method_5_code 43 = .ok (.iload 4, 2) := by decide +kernel
theorem d_M_type_45 : decode prog_12_method_5_code 45 = .ok (.bipush 126, 2) := by decide +kernel
theorem d_M_type_47 : decode prog_12_method_5_code 47 = .ok (.if_icmp .le 5, 3) := by decide +kernel
theorem d_M_type_50 : decode prog_12_method_5_code 50 = .ok (.iconst 0, 1) := by decide +kernel
theorem d_M_type_51 : decode prog_12_method_5_code 51 = .ok (.ireturn, 1) := by decide +kernel
theorem d_M_type_52 : decode prog_12_method_5_code 52 = .ok (.iload_n 3, 1) := by decide +kernel
theorem d_M_type_53 : decode prog_12_method_5_code 53 = .ok (.iconst 1, 1) := by decide +kernel
theorem d_M_type_54 : decode prog_12_method_5_code 54 = .ok (.iadd, 1) := by decide +kernel
theorem d_M_type_55 : decode prog_12_method_5_code 55 = .ok (.istore_n 3, 1) := by decide +kernel
theorem d_M_type_56 : decode prog_12_method_5_code 56 = .ok (.goto (-54), 3) := by decide +kernel
theorem d_M_type_59 : decode prog_12_method_5_code 59 = .ok (.aload_n 0, 1) := by decide +kernel
theorem d_M_type_60 : decode prog_12_method_5_code 60 = .ok (.getfield 7, 3) := by decide +kernel
theorem d_M_type_63 : decode prog_12_method_5_code 63 = .ok (.ifCond .eq 14, 3) := by decide +kernel
theorem d_M_type_66 : decode prog_12_method_5_code 66 = .ok (.aload_n 0, 1) := by decide +kernel
theorem d_M_type_67 : decode prog_12_method_5_code 67 = .ok (.getfield 79, 3) := by decide +kernel
theorem d_M_type_70 : decode prog_12_method_5_code 70 = .ok (.iload_n 3, 1) := by decide +kernel
theorem d_M_type_71 : decode prog_12_method_5_code 71 = .ok (.iadd, 1) := by decide +kernel
theorem d_M_type_72 : decode prog_12_method_5_code 72 = .ok (.bipush 72, 2) := by decide +kernel
theorem d_M_type_74 : decode prog_12_method_5_code 74 = .ok (.if_icmp .le 5, 3) := by decide +kernel
theorem d_M_type_77 : decode prog_12_method_5_code 77 = .ok (.iconst 0, 1) := by decide +kernel
theorem d_M_type_78 : decode prog_12_method_5_code 78 = .ok (.ireturn, 1) := by decide +kernel
theorem d_M_type_79 : decode prog_12_method_5_code 79 = .ok (.iconst 0, 1) := by decide +kernel
theorem d_M_type_80 : decode prog_12_method_5_code 80 = .ok (.istore 4, 2) := by decide +kernel
theorem d_M_type_82 : decode prog_12_method_5_code 82 = .ok (.iload 4, 2) := by decide +kernel
theorem d_M_type_84 : decode prog_12_method_5_code 84 = .ok (.iload_n 3, 1) := by decide +kernel
theorem d_M_type_85 : decode prog_12_method_5_code 85 = .ok (.if_icmp .ge 40, 3) := by decide +kernel
theorem d_M_type_88 : decode prog_12_method_5_code 88 = .ok (.aload_n 0, 1) := by decide +kernel
theorem d_M_type_89 : decode prog_12_method_5_code 89 = .ok (.getfield 17, 3) := by decide +kernel
theorem d_M_type_92 : decode prog_12_method_5_code 92 = .ok (.aload_n 0, 1) := by decide +kernel
theorem d_M_type_93 : decode prog_12_method_5_code 93 = .ok (.getfield 79, 3) := by decide +kernel
theorem d_M_type_96 : decode prog_12_method_5_code 96 = .ok (.lload_n 1, 1) := by decide +kernel
theorem d_M_type_97 : decode prog_12_method_5_code 97 = .ok (.bipush 8, 2) := by decide +kernel
theorem d_M_type_99 : decode prog_12_method_5_code 99 = .ok (.iload 4, 2) := by decide +kernel
theorem d_M_type_101 : decode prog_12_method_5_code 101 = .ok (.imul, 1) := by decide +kernel
theorem d_M_type_102 : decode prog_12_method_5_code 102 = .ok (.lshr, 1) := by decide +kernel
theorem d_M_type_103 : decode prog_12_method_5_code 103 = .ok (.ldc2_w 77, 3) := by decide +kernel
theorem d_M_type_106 : decode prog_12_method_5_code 106 = .ok (.land, 1) := by decide +kernel
theorem d_M_type_107 : decode prog_12_method_5_code 107 = .ok (.l2i, 1) := by decide +kernel
theorem d_M_type_108 : decode prog_12_method_5_code 108 = .ok (.iastore, 1) := by decide +kernel
theorem d_M_type_109 : decode prog_12_method_5_code 109 = .ok (.aload_n 0, 1) := by decide +kernel
theorem d_M_type_110 : decode prog_12_method_5_code 110 = .ok (.aload_n 0, 1) := by decide +kernel
theorem d_M_type_111 : decode prog_12_method_5_code 111 = .ok (.getfield 79, 3) := by decide +kernel
theorem d_M_type_114 : decode prog_12_method_5_code 114 = .ok (.iconst 1, 1) := by decide +kernel
theorem d_M_type_115 : decode prog_12_method_5_code 115 = .ok (.iadd, 1) := by decide +kernel
theorem d_M_type_116 : decode prog_12_method_5_code 116 = .ok (.putfield 79, 3) := by decide +kernel
theorem d_M_type_119 : decode prog_12_method_5_code 119 = .ok (.iinc 4 1, 3) := by decide +kernel
theorem d_M_type_122 : decode prog_12_method_5_code 122 = .ok (.goto (-40), 3) := by decide +kernel
theorem d_M_type_125 : decode prog_12_method_5_code 125 = .ok (.iconst 1, 1) := by decide +kernel
theorem d_M_type_126 : decode prog_12_method_5_code 126 = .ok (.ireturn, 1) := by decide +kernel
theorem d_M_enter_0 : decode prog_12_method_24_code 0 = .ok (.aload_n 0, 1) := by decide +kernel
theorem d_M_enter_1 : decode prog_12_method_24_code 1 = .ok (.getfield 7, 3) := by decide +kernel
theorem d_M_enter_4 : decode prog_12_method_24_code 4 = .ok (.ifCond .ne 5, 3) := by decide +kernel
theorem d_M_enter_7 : decode prog_12_method_24_code 7 = .ok (.iconst (-1), 1) := by decide +kernel
theorem d_M_enter_8 : decode prog_12_method_24_code 8 = .ok (.ireturn, 1) := by decide +kernel
theorem d_M_enter_9 : decode prog_12_method_24_code 9 = .ok (.aload_n 0, 1) := by decide +kernel
theorem d_M_enter_10 : decode prog_12_method_24_code 10 = .ok (.getfield 88, 3) := by decide +kernel
theorem d_M_enter_13 : decode prog_12_method_24_code 13 = .ok (.ifCond .eq 10, 3) := by decide +kernel
theorem d_M_enter_16 : decode prog_12_method_24_code 16 = .ok (.aload_n 0, 1) := by decide +kernel
theorem d_M_enter_17 : decode prog_12_method_24_code 17 = .ok (.invokevirtual 165, 3) := by decide +kernel
theorem d_M_enter_20 : decode prog_12_method_24_code 20 = .ok (.goto 7, 3) := by decide +kernel
theorem d_M_enter_23 : decode prog_12_method_24_code 23 = .ok (.aload_n 0, 1) := by decide +kernel
theorem d_M_enter_24 : decode prog_12_method_24_code 24 = .ok (.invokevirtual 168, 3) := by decide +kernel
theorem d_M_enter_27 : decode prog_12_method_24_code 27 = .ok (.istore_n 1, 1) := by decide +kernel
theorem d_M_enter_28 : decode prog_12_method_24_code 28 = .ok (.aload_n 0, 1) := by decide +kernel
theorem d_M_enter_29 : decode prog_12_method_24_code 29 = .ok (.iconst 0, 1) := by decide +kernel
theorem d_M_enter_30 : decode prog_12_method_24_code 30 = .ok (.putfield 79, 3) := by decide +kernel
theorem d_M_enter_33 : decode prog_12_method_24_code 33 = .ok (.iload_n 1, 1) := by decide +kernel
theorem d_M_enter_34 : decode prog_12_method_24_code 34 = .ok (.ireturn, 1) := by decide +kernel
theorem d_M_textLine_0 : decode prog_12_method_23_code 0 = .ok (.aload_n 0, 1) := by decide +kernel
theorem d_M_textLine_1 : decode prog_12_method_23_code 1 = .ok (.getfield 79, 3) := by decide +kernel
theorem d_M_textLine_4 : decode prog_12_method_23_code 4 = .ok (.iconst 1, 1) := by decide +kernel
theorem d_M_textLine_5 : decode prog_12_method_23_code 5 = .ok (.if_icmp .ne 14, 3) := by decide +kernel
theorem d_M_textLine_8 : decode prog_12_method_23_code 8 = .ok (.aload_n 0, 1) := by decide +kernel
theorem d_M_textLine_9 : decode prog_12_method_23_code 9 = .ok (.getfield 17, 3) := by decide +kernel
theorem d_M_textLine_12 : decode prog_12_method_23_code 12 = .ok (.iconst 0, 1) := by decide +kernel
theorem d_M_textLine_13 : decode prog_12_method_23_code 13 = .ok (.iaload, 1) := by decide +kernel
theorem d_M_textLine_14 : decode prog_12_method_23_code 14 = .ok (.bipush 46, 2) := by decide +kernel
theorem d_M_textLine_16 : decode prog_12_method_23_code 16 = .ok (.if_icmp .eq 63, 3) := by decide +kernel
theorem d_M_textLine_19 : decode prog_12_method_23_code 19 = .ok (.aload_n 0, 1) := by decide +kernel
theorem d_M_textLine_20 : decode prog_12_method_23_code 20 = .ok (.getfield 79, 3) := by decide +kernel
theorem d_M_textLine_23 : decode prog_12_method_23_code 23 = .ok (.ifCond .le 18, 3) := by decide +kernel
theorem d_M_textLine_26 : decode prog_12_method_23_code 26 = .ok (.aload_n 0, 1) := by decide +kernel
theorem d_M_textLine_27 : decode prog_12_method_23_code 27 = .ok (.getfield 17, 3) := by decide +kernel
theorem d_M_textLine_30 : decode prog_12_method_23_code 30 = .ok (.iconst 0, 1) := by decide +kernel
theorem d_M_textLine_31 : decode prog_12_method_23_code 31 = .ok (.iaload, 1) := by decide +kernel
theorem d_M_textLine_32 : decode prog_12_method_23_code 32 = .ok (.bipush 46, 2) := by decide +kernel
theorem d_M_textLine_34 : decode prog_12_method_23_code 34 = .ok (.if_icmp .ne 7, 3) := by decide +kernel
theorem d_M_textLine_37 : decode prog_12_method_23_code 37 = .ok (.iconst 1, 1) := by decide +kernel
theorem d_M_textLine_38 : decode prog_12_method_23_code 38 = .ok (.goto 4, 3) := by decide +kernel
theorem d_M_textLine_41 : decode prog_12_method_23_code 41 = .ok (.iconst 0, 1) := by decide +kernel
theorem d_M_textLine_42 : decode prog_12_method_23_code 42 = .ok (.istore_n 1, 1) := by decide +kernel
theorem d_M_textLine_43 : decode prog_12_method_23_code 43 = .ok (.iload_n 1, 1) := by decide +kernel
theorem d_M_textLine_44 : decode prog_12_method_23_code 44 = .ok (.aload_n 0, 1) := by decide +kernel
theorem d_M_textLine_45 : decode prog_12_method_23_code 45 = .ok (.getfield 79, 3) := by decide +kernel
theorem d_M_textLine_48 : decode prog_12_method_23_code 48 = .ok (.if_icmp .ge 21, 3) := by decide +kernel
theorem d_M_textLine_51 : decode prog_12_method_23_code 51 = .ok (.aload_n 0, 1) := by decide +kernel
theorem d_M_textLine_52 : decode prog_12_method_23_code 52 = .ok (.bipush 6, 2) := by decide +kernel
theorem d_M_textLine_54 : decode prog_12_method_23_code 54 = .ok (.aload_n 0, 1) := by decide +kernel
theorem d_M_textLine_55 : decode prog_12_method_23_code 55 = .ok (.getfield 17, 3) := by decide +kernel
theorem d_M_textLine_58 : decode prog_12_method_23_code 58 = .ok (.iload_n 1, 1) := by decide +kernel
theorem d_M_textLine_59 : decode prog_12_method_23_code 59 = .ok (.iaload, 1) := by decide +kernel
theorem d_M_textLine_60 : decode prog_12_method_23_code 60 = .ok (.invokevirtual 159, 3) := by decide +kernel
theorem d_M_textLine_63 : decode prog_12_method_23_code 63 = .ok (.iinc 1 1, 3) := by decide +kernel
theorem d_M_textLine_66 : decode prog_12_method_23_code 66 = .ok (.goto (-23), 3) := by decide +kernel
theorem d_M_textLine_69 : decode prog_12_method_23_code 69 = .ok (.aload_n 0, 1) := by decide +kernel
theorem d_M_textLine_70 : decode prog_12_method_23_code 70 = .ok (.bipush 6, 2) := by decide +kernel
theorem d_M_textLine_72 : decode prog_12_method_23_code 72 = .ok (.bipush 10, 2) := by decide +kernel
theorem d_M_textLine_74 : decode prog_12_method_23_code 74 = .ok (.invokevirtual 159, 3) := by decide +kernel
theorem d_M_textLine_77 : decode prog_12_method_23_code 77 = .ok (.iconst 0, 1) := by decide +kernel
theorem d_M_textLine_78 : decode prog_12_method_23_code 78 = .ok (.ireturn, 1) := by decide +kernel
theorem d_M_textLine_79 : decode prog_12_method_23_code 79 = .ok (.aload_n 0, 1) := by decide +kernel
theorem d_M_textLine_80 : decode prog_12_method_23_code 80 = .ok (.iconst 0, 1) := by decide +kernel
theorem d_M_textLine_81 : decode prog_12_method_23_code 81 = .ok (.putfield 88, 3) := by decide +kernel
theorem d_M_textLine_84 : decode prog_12_method_23_code 84 = .ok (.aload_n 0, 1) := by decide +kernel
theorem d_M_textLine_85 : decode prog_12_method_23_code 85 = .ok (.iconst 0, 1) := by decide +kernel
theorem d_M_textLine_86 : decode prog_12_method_23_code 86 = .ok (.putfield 85, 3) := by decide +kernel
theorem d_M_textLine_89 : decode prog_12_method_23_code 89 = .ok (.aload_n 0, 1) := by decide +kernel
theorem d_M_textLine_90 : decode prog_12_method_23_code 90 = .ok (.getfield 31, 3) := by decide +kernel
theorem d_M_textLine_93 : decode prog_12_method_23_code 93 = .ok (.bipush 6, 2) := by decide +kernel
theorem d_M_textLine_95 : decode prog_12_method_23_code 95 = .ok (.iaload, 1) := by decide +kernel
theorem d_M_textLine_96 : decode prog_12_method_23_code 96 = .ok (.sipush 600, 3) := by decide +kernel
theorem d_M_textLine_99 : decode prog_12_method_23_code 99 = .ok (.if_icmp .le 7, 3) := by decide +kernel
theorem d_M_textLine_102 : decode prog_12_method_23_code 102 = .ok (.sipush 552, 3) := by decide +kernel
theorem d_M_textLine_105 : decode prog_12_method_23_code 105 = .ok (.ireturn, 1) := by decide +kernel
theorem d_M_textLine_106 : decode prog_12_method_23_code 106 = .ok (.aload_n 0, 1) := by decide +kernel
theorem d_M_textLine_107 : decode prog_12_method_23_code 107 = .ok (.invokevirtual 153, 3) := by decide +kernel
theorem d_M_textLine_110 : decode prog_12_method_23_code 110 = .ok (.bipush 6, 2) := by decide +kernel
theorem d_M_textLine_112 : decode prog_12_method_23_code 112 = .ok (.if_icmp .ne 7, 3) := by decide +kernel
theorem d_M_textLine_115 : decode prog_12_method_23_code 115 = .ok (.sipush 452, 3) := by decide +kernel
theorem d_M_textLine_118 : decode prog_12_method_23_code 118 = .ok (.ireturn, 1) := by decide +kernel
theorem d_M_textLine_119 : decode prog_12_method_23_code 119 = .ok (.aload_n 0, 1) := by decide +kernel
theorem d_M_textLine_120 : decode prog_12_method_23_code 120 = .ok (.bipush 6, 2) := by decide +kernel
theorem d_M_textLine_122 : decode prog_12_method_23_code 122 = .ok (.invokevirtual 162, 3) := by decide +kernel
theorem d_M_textLine_125 : decode prog_12_method_23_code 125 = .ok (.ifCond .eq 9, 3) := by decide +kernel
theorem d_M_textLine_128 : decode prog_12_method_23_code 128 = .ok (.sipush 250, 3) := by decide +kernel
theorem d_M_textLine_131 : decode prog_12_method_23_code 131 = .ok (.goto 4, 3) := by decide +kernel
theorem d_M_textLine_134 : decode prog_12_method_23_code 134 = .ok (.iconst 0, 1) := by decide +kernel
theorem d_M_textLine_135 : decode prog_12_method_23_code 135 = .ok (.ireturn, 1) := by decide +kernel
theorem d_M_put_0 : decode prog_12_method_22_code 0 = .ok (.aload_n 0, 1) := by decide +kernel
theorem d_M_put_1 : decode prog_12_method_22_code 1 = .ok (.getfield 31, 3) := by decide +kernel
theorem d_M_put_4 : decode prog_12_method_22_code 4 = .ok (.iload_n 1, 1) := by decide +kernel
theorem d_M_put_5 : decode prog_12_method_22_code 5 = .ok (.iaload, 1) := by decide +kernel
theorem d_M_put_6 : decode prog_12_method_22_code 6 = .ok (.sipush 602, 3) := by decide +kernel
theorem d_M_put_9 : decode prog_12_method_22_code 9 = .ok (.if_icmp .ge 35, 3) := by decide +kernel
theorem d_M_put_12 : decode prog_12_method_22_code 12 = .ok (.aload_n 0, 1) := by decide +kernel
theorem d_M_put_13 : decode prog_12_method_22_code 13 = .ok (.getfield 28, 3) := by decide +kernel
theorem d_M_put_16 : decode prog_12_method_22_code 16 = .ok (.sipush 602, 3) := by decide +kernel
theorem d_M_put_19 : decode prog_12_method_22_code 19 = .ok (.iload_n 1, 1) := by decide +kernel
theorem d_M_put_20 : decode prog_12_method_22_code 20 = .ok (.imul, 1) := by decide +kernel
theorem d_M_put_21 : decode prog_12_method_22_code 21 = .ok (.aload_n 0, 1) := by decide +kernel
theorem d_M_put_22 : decode prog_12_method_22_code 22 = .ok (.getfield 31, 3) := by decide +kernel
theorem d_M_put_25 : decode prog_12_method_22_code 25 = .ok (.iload_n 1, 1) := by decide +kernel
theorem d_M_put_26 : decode prog_12_method_22_code 26 = .ok (.iaload, 1) := by decide +kernel
theorem d_M_put_27 : decode prog_12_method_22_code 27 = .ok (.iadd, 1) := by decide +kernel
theorem d_M_put_28 : decode prog_12_method_22_code 28 = .ok (.iload_n 2, 1) := by decide +kernel
theorem d_M_put_29 : decode prog_12_method_22_code 29 = .ok (.iastore, 1) := by decide +kernel
theorem d_M_put_30 : decode prog_12_method_22_code 30 = .ok (.aload_n 0, 1) := by decide +kernel
theorem d_M_put_31 : decode prog_12_method_22_code 31 = .ok (.getfield 31, 3) := by decide +kernel
theorem d_M_put_34 : decode prog_12_method_22_code 34 = .ok (.iload_n 1, 1) := by decide +kernel
theorem d_M_put_35 : decode prog_12_method_22_code 35 = .ok (.aload_n 0, 1) := by decide +kernel
theorem d_M_put_36 : decode prog_12_method_22_code 36 = .ok (.getfield 31, 3) := by decide +kernel
theorem d_M_put_39 : decode prog_12_method_22_code 39 = .ok (.iload_n 1, 1) := by decide +kernel
theorem d_M_put_40 : decode prog_12_method_22_code 40 = .ok (.iaload, 1) := by decide +kernel
theorem d_M_put_41 : decode prog_12_method_22_code 41 = .ok (.iconst 1, 1) := by decide +kernel
theorem d_M_put_42 : decode prog_12_method_22_code 42 = .ok (.iadd, 1) := by decide +kernel
theorem d_M_put_43 : decode prog_12_method_22_code 43 = .ok (.iastore, 1) := by decide +kernel
theorem d_M_put_44 : decode prog_12_method_22_code 44 = .ok (.return_, 1) := by decide +kernel
theorem d_M_spooled_0 : decode prog_12_method_6_code 0 = .ok (.iconst 0, 1) := by decide +kernel
theorem d_M_spooled_1 : decode prog_12_method_6_code 1 = .ok (.istore_n 1, 1) := by decide +kernel
theorem d_M_spooled_2 : decode prog_12_method_6_code 2 = .ok (.iconst 0, 1) := by decide +kernel
theorem d_M_spooled_3 : decode prog_12_method_6_code 3 = .ok (.istore_n 2, 1) := by decide +kernel
theorem d_M_spooled_4 : decode prog_12_method_6_code 4 = .ok (.iload_n 2, 1) := by decide +kernel
theorem d_M_spooled_5 : decode prog_12_method_6_code 5 = .ok (.bipush 6, 2) := by decide +kernel
theorem d_M_spooled_7 : decode prog_12_method_6_code 7 = .ok (.if_icmp .ge 26, 3) := by decide +kernel
theorem d_M_spooled_10 : decode prog_12_method_6_code 10 = .ok (.aload_n 0, 1) := by decide +kernel
theorem d_M_spooled_11 : decode prog_12_method_6_code 11 = .ok (.getfield 21, 3) := by decide +kernel
theorem d_M_spooled_14 : decode prog_12_method_6_code 14 = .ok (.iload_n 2, 1) := by decide +kernel
theorem d_M_spooled_15 : decode prog_12_method_6_code 15 = .ok (.iaload, 1) := by decide +kernel
theorem d_M_spooled_16 : decode prog_12_method_6_code 16 = .ok (.ifCond .lt 9, 3) := by decide +kernel
theorem d_M_spooled_19 : decode prog_12_method_6_code 19 = .ok (.iload_n 1, 1) := by decide +kernel
theorem d_M_spooled_20 : decode prog_12_method_6_code 20 = .ok (.iconst 1, 1) := by decide +kernel
theorem d_M_spooled_21 : decode prog_12_method_6_code 21 = .ok (.iadd, 1) := by decide +kernel
theorem d_M_spooled_22 : decode prog_12_method_6_code 22 = .ok (.goto 4, 3) := by decide +kernel
theorem d_M_spooled_25 : decode prog_12_method_6_code 25 = .ok (.iload_n 1, 1) := by decide +kernel
theorem d_M_spooled_26 : decode prog_12_method_6_code 26 = .ok (.istore_n 1, 1) := by decide +kernel
theorem d_M_spooled_27 : decode prog_12_method_6_code 27 = .ok (.iinc 2 1, 3) := by decide +kernel
theorem d_M_spooled_30 : decode prog_12_method_6_code 30 = .ok (.goto (-26), 3) := by decide +kernel
theorem d_M_spooled_33 : decode prog_12_method_6_code 33 = .ok (.iload_n 1, 1) := by decide +kernel
theorem d_M_spooled_34 : decode prog_12_method_6_code 34 = .ok (.ireturn, 1) := by decide +kernel
theorem d_M_spool_0 : decode prog_12_method_10_code 0 = .ok (.aload_n 0, 1) := by decide +kernel
theorem d_M_spool_1 : decode prog_12_method_10_code 1 = .ok (.getfield 94, 3) := by decide +kernel
theorem d_M_spool_4 : decode prog_12_method_10_code 4 = .ok (.istore_n 2, 1) := by decide +kernel
theorem d_M_spool_5 : decode prog_12_method_10_code 5 = .ok (.aload_n 0, 1) := by decide +kernel
theorem d_M_spool_6 : decode prog_12_method_10_code 6 = .ok (.aload_n 0, 1) := by decide +kernel
theorem d_M_spool_7 : decode prog_12_method_10_code 7 = .ok (.getfield 94, 3) := by decide +kernel
theorem d_M_spool_10 : decode prog_12_method_10_code 10 = .ok (.iconst 1, 1) := by decide +kernel
theorem d_M_spool_11 : decode prog_12_method_10_code 11 = .ok (.iadd, 1) := by decide +kernel
theorem d_M_spool_12 : decode prog_12_method_10_code 12 = .ok (.putfield 94, 3) := by decide +kernel
theorem d_M_spool_15 : decode prog_12_method_10_code 15 = .ok (.aload_n 0, 1) := by decide +kernel
theorem d_M_spool_16 : decode prog_12_method_10_code 16 = .ok (.invokevirtual 97, 3) := by decide +kernel
theorem d_M_spool_19 : decode prog_12_method_10_code 19 = .ok (.ifCond .ne 5, 3) := by decide +kernel
theorem d_M_spool_22 : decode prog_12_method_10_code 22 = .ok (.iconst 0, 1) := by decide +kernel
theorem d_M_spool_23 : decode prog_12_method_10_code 23 = .ok (.ireturn, 1) := by decide +kernel
theorem d_M_spool_24 : decode prog_12_method_10_code 24 = .ok (.iconst 0, 1) := by decide +kernel
theorem d_M_spool_25 : decode prog_12_method_10_code 25 = .ok (.istore_n 3, 1) := by decide +kernel
theorem d_M_spool_26 : decode prog_12_method_10_code 26 = .ok (.aload_n 0, 1) := by decide +kernel
theorem d_M_spool_27 : decode prog_12_method_10_code 27 = .ok (.getfield 21, 3) := by decide +kernel
theorem d_M_spool_30 : decode prog_12_method_10_code 30 = .ok (.iload_n 3, 1) := by decide +kernel
theorem d_M_spool_31 : decode prog_12_method_10_code 31 = .ok (.iaload, 1) := by decide +kernel
theorem d_M_spool_32 : decode prog_12_method_10_code 32 = .ok (.ifCond .lt 10, 3) := by decide +kernel
theorem d_M_spool_35 : decode prog_12_method_10_code 35 = .ok (.iload_n 3, 1) := by decide +kernel
theorem d_M_spool_36 : decode prog_12_method_10_code 36 = .ok (.iconst 1, 1) := by decide +kernel
theorem d_M_spool_37 : decode prog_12_method_10_code 37 = .ok (.iadd, 1) := by decide +kernel
theorem d_M_spool_38 : decode prog_12_method_10_code 38 = .ok (.istore_n 3, 1) := by decide +kernel
theorem d_M_spool_39 : decode prog_12_method_10_code 39 = .ok (.goto (-13), 3) := by decide +kernel
theorem d_M_spool_42 : decode prog_12_method_10_code 42 = .ok (.aload_n 0, 1) := by decide +kernel
theorem d_M_spool_43 : decode prog_12_method_10_code 43 = .ok (.getfield 21, 3) := by decide +kernel
theorem d_M_spool_46 : decode prog_12_method_10_code 46 = .ok (.iload_n 3, 1) := by decide +kernel
theorem d_M_spool_47 : decode prog_12_method_10_code 47 = .ok (.iload_n 2, 1) := by decide +kernel
theorem d_M_spool_48 : decode prog_12_method_10_code 48 = .ok (.iastore, 1) := by decide +kernel
theorem d_M_spool_49 : decode prog_12_method_10_code 49 = .ok (.aload_n 0, 1) := by decide +kernel
theorem d_M_spool_50 : decode prog_12_method_10_code 50 = .ok (.getfield 24, 3) := by decide +kernel
theorem d_M_spool_53 : decode prog_12_method_10_code 53 = .ok (.iload_n 3, 1) := by decide +kernel
theorem d_M_spool_54 : decode prog_12_method_10_code 54 = .ok (.iconst 0, 1) := by decide +kernel
theorem d_M_spool_55 : decode prog_12_method_10_code 55 = .ok (.bastore, 1) := by decide +kernel
theorem d_M_spool_56 : decode prog_12_method_10_code 56 = .ok (.aload_n 0, 1) := by decide +kernel
theorem d_M_spool_57 : decode prog_12_method_10_code 57 = .ok (.getfield 31, 3) := by decide +kernel
theorem d_M_spool_60 : decode prog_12_method_10_code 60 = .ok (.iload_n 3, 1) := by decide +kernel
theorem d_M_spool_61 : decode prog_12_method_10_code 61 = .ok (.aload_n 0, 1) := by decide +kernel
theorem d_M_spool_62 : decode prog_12_method_10_code 62 = .ok (.getfield 31, 3) := by decide +kernel
theorem d_M_spool_65 : decode prog_12_method_10_code 65 = .ok (.iload_n 1, 1) := by decide +kernel
theorem d_M_spool_66 : decode prog_12_method_10_code 66 = .ok (.iaload, 1) := by decide +kernel
theorem d_M_spool_67 : decode prog_12_method_10_code 67 = .ok (.iastore, 1) := by decide +kernel
theorem d_M_spool_68 : decode prog_12_method_10_code 68 = .ok (.iconst 0, 1) := by decide +kernel
theorem d_M_spool_69 : decode prog_12_method_10_code 69 = .ok (.istore 4, 2) := by decide +kernel
theorem d_M_spool_71 : decode prog_12_method_10_code 71 = .ok (.iload 4, 2) := by decide +kernel
theorem d_M_spool_73 : decode prog_12_method_10_code 73 = .ok (.sipush 600, 3) := by decide +kernel
theorem d_M_spool_76 : decode prog_12_method_10_code 76 = .ok (.if_icmp .ge 35, 3) := by decide +kernel
theorem d_M_spool_79 : decode prog_12_method_10_code 79 = .ok (.aload_n 0, 1) := by decide +kernel
theorem d_M_spool_80 : decode prog_12_method_10_code 80 = .ok (.getfield 28, 3) := by decide +kernel
theorem d_M_spool_83 : decode prog_12_method_10_code 83 = .ok (.sipush 602, 3) := by decide +kernel
theorem d_M_spool_86 : decode prog_12_method_10_code 86 = .ok (.iload_n 3, 1) := by decide +kernel
theorem d_M_spool_87 : decode prog_12_method_10_code 87 = .ok (.imul, 1) := by decide +kernel
theorem d_M_spool_88 : decode prog_12_method_10_code 88 = .ok (.iload 4, 2) := by decide +kernel
theorem d_M_spool_90 : decode prog_12_method_10_code 90 = .ok (.iadd, 1) := by decide +kernel
theorem d_M_spool_91 : decode prog_12_method_10_code 91 = .ok (.aload_n 0, 1) := by decide +kernel
theorem d_M_spool_92 : decode prog_12_method_10_code 92 = .ok (.getfield 28, 3) := by decide +kernel
theorem d_M_spool_95 : decode prog_12_method_10_code 95 = .ok (.sipush 602, 3) := by decide +kernel
theorem d_M_spool_98 : decode prog_12_method_10_code 98 = .ok (.iload_n 1, 1) := by decide +kernel
theorem d_M_spool_99 : decode prog_12_method_10_code 99 = .ok (.imul, 1) := by decide +kernel
theorem d_M_spool_100 : decode prog_12_method_10_code 100 = .ok (.iload 4, 2) := by decide +kernel
theorem d_M_spool_102 : decode prog_12_method_10_code 102 = .ok (.iadd, 1) := by decide +kernel
theorem d_M_spool_103 : decode prog_12_method_10_code 103 = .ok (.iaload, 1) := by decide +kernel
theorem d_M_spool_104 : decode prog_12_method_10_code 104 = .ok (.iastore, 1) := by decide +kernel
theorem d_M_spool_105 : decode prog_12_method_10_code 105 = .ok (.iinc 4 1, 3) := by decide +kernel
theorem d_M_spool_108 : decode prog_12_method_10_code 108 = .ok (.goto (-37), 3) := by decide +kernel
theorem d_M_spool_111 : decode prog_12_method_10_code 111 = .ok (.aload_n 0, 1) := by decide +kernel
theorem d_M_spool_112 : decode prog_12_method_10_code 112 = .ok (.getfield 40, 3) := by decide +kernel
theorem d_M_spool_115 : decode prog_12_method_10_code 115 = .ok (.iload_n 3, 1) := by decide +kernel
theorem d_M_spool_116 : decode prog_12_method_10_code 116 = .ok (.aload_n 0, 1) := by decide +kernel
theorem d_M_spool_117 : decode prog_12_method_10_code 117 = .ok (.getfield 40, 3) := by decide +kernel
theorem d_M_spool_120 : decode prog_12_method_10_code 120 = .ok (.iload_n 1, 1) := by decide +kernel
theorem d_M_spool_121 : decode prog_12_method_10_code 121 = .ok (.iaload, 1) := by decide +kernel
theorem d_M_spool_122 : decode prog_12_method_10_code 122 = .ok (.iastore, 1) := by decide +kernel
theorem d_M_spool_123 : decode prog_12_method_10_code 123 = .ok (.iconst 0, 1) := by decide +kernel
theorem d_M_spool_124 : decode prog_12_method_10_code 124 = .ok (.istore 4, 2) := by decide +kernel
theorem d_M_spool_126 : decode prog_12_method_10_code 126 = .ok (.iload 4, 2) := by decide +kernel
theorem d_M_spool_128 : decode prog_12_method_10_code 128 = .ok (.iconst 5, 1) := by decide +kernel
theorem d_M_spool_129 : decode prog_12_method_10_code 129 = .ok (.if_icmp .ge 25, 3) := by decide +kernel
theorem d_M_spool_132 : decode prog_12_method_10_code 132 = .ok (.aload_n 0, 1) := by decide +kernel
theorem d_M_spool_133 : decode prog_12_method_10_code 133 = .ok (.iconst 5, 1) := by decide +kernel
theorem d_M_spool_134 : decode prog_12_method_10_code 134 = .ok (.iload_n 1, 1) := by decide +kernel
theorem d_M_spool_135 : decode prog_12_method_10_code 135 = .ok (.imul, 1) := by decide +kernel
theorem d_M_spool_136 : decode prog_12_method_10_code 136 = .ok (.iload 4, 2) := by decide +kernel
theorem d_M_spool_138 : decode prog_12_method_10_code 138 = .ok (.iadd, 1) := by decide +kernel
theorem d_M_spool_139 : decode prog_12_method_10_code 139 = .ok (.iconst 5, 1) := by decide +kernel
theorem d_M_spool_140 : decode prog_12_method_10_code 140 = .ok (.iload_n 3, 1) := by decide +kernel
theorem d_M_spool_141 : decode prog_12_method_10_code 141 = .ok (.imul, 1) := by decide +kernel
theorem d_M_spool_142 : decode prog_12_method_10_code 142 = .ok (.iload 4, 2) := by decide +kernel
theorem d_M_spool_144 : decode prog_12_method_10_code 144 = .ok (.iadd, 1) := by decide +kernel
theorem d_M_spool_145 : decode prog_12_method_10_code 145 = .ok (.invokevirtual 101, 3) := by decide +kernel
theorem d_M_spool_148 : decode prog_12_method_10_code 148 = .ok (.iinc 4 1, 3) := by decide +kernel
theorem d_M_spool_151 : decode prog_12_method_10_code 151 = .ok (.goto (-25), 3) := by decide +kernel
theorem d_M_spool_154 : decode prog_12_method_10_code 154 = .ok (.iconst 0, 1) := by decide +kernel
theorem d_M_spool_155 : decode prog_12_method_10_code 155 = .ok (.istore 4, 2) := by decide +kernel
theorem d_M_spool_157 : decode prog_12_method_10_code 157 = .ok (.iload 4, 2) := by decide +kernel
theorem d_M_spool_159 : decode prog_12_method_10_code 159 = .ok (.iconst 4, 1) := by decide +kernel
theorem d_M_spool_160 : decode prog_12_method_10_code 160 = .ok (.if_icmp .ge 36, 3) := by decide +kernel
theorem d_M_spool_163 : decode prog_12_method_10_code 163 = .ok (.aload_n 0, 1) := by decide +kernel
theorem d_M_spool_164 : decode prog_12_method_10_code 164 = .ok (.getfield 43, 3) := by decide +kernel
theorem d_M_spool_167 : decode prog_12_method_10_code 167 = .ok (.iconst 4, 1) := by decide +kernel
theorem d_M_spool_168 : decode prog_12_method_10_code 168 = .ok (.iload_n 3, 1) := by decide +kernel
theorem d_M_spool_169 : decode prog_12_method_10_code 169 = .ok (.imul, 1) := by decide +kernel
theorem d_M_spool_170 : decode prog_12_method_10_code 170 = .ok (.iload 4, 2) := by decide +kernel
theorem d_M_spool_172 : decode prog_12_method_10_code 172 = .ok (.iadd, 1) := by decide +kernel
theorem d_M_spool_173 : decode prog_12_method_10_code 173 = .ok (.iconst 0, 1) := by decide +kernel
theorem d_M_spool_174 : decode prog_12_method_10_code 174 = .ok (.iastore, 1) := by decide +kernel
theorem d_M_spool_175 : decode prog_12_method_10_code 175 = .ok (.aload_n 0, 1) := by decide +kernel
theorem d_M_spool_176 : decode prog_12_method_10_code 176 = .ok (.getfield 46, 3) := by decide +kernel
theorem d_M_spool_179 : decode prog_12_method_10_code 179 = .ok (.iconst 4, 1) := by decide +kernel
theorem d_M_spool_180 : decode prog_12_method_10_code 180 = .ok (.iload_n 3, 1) := by decide +kernel
theorem d_M_spool_181 : decode prog_12_method_10_code 181 = .ok (.imul, 1) := by decide +kernel
theorem d_M_spool_182 : decode prog_12_method_10_code 182 = .ok (.iload 4, 2) := by decide +kernel
theorem d_M_spool_184 : decode prog_12_method_10_code 184 = .ok (.iadd, 1) := by decide +kernel
theorem d_M_spool_185 : decode prog_12_method_10_code 185 = .ok (.aload_n 0, 1) := by decide +kernel
theorem d_M_spool_186 : decode prog_12_method_10_code 186 = .ok (.getfield 105, 3) := by decide +kernel
theorem d_M_spool_189 : decode prog_12_method_10_code 189 = .ok (.iastore, 1) := by decide +kernel
theorem d_M_spool_190 : decode prog_12_method_10_code 190 = .ok (.iinc 4 1, 3) := by decide +kernel
theorem d_M_spool_193 : decode prog_12_method_10_code 193 = .ok (.goto (-36), 3) := by decide +kernel
theorem d_M_spool_196 : decode prog_12_method_10_code 196 = .ok (.aload_n 0, 1) := by decide +kernel
theorem d_M_spool_197 : decode prog_12_method_10_code 197 = .ok (.getfield 24, 3) := by decide +kernel
theorem d_M_spool_200 : decode prog_12_method_10_code 200 = .ok (.iload_n 3, 1) := by decide +kernel
theorem d_M_spool_201 : decode prog_12_method_10_code 201 = .ok (.aload_n 0, 1) := by decide +kernel
theorem d_M_spool_202 : decode prog_12_method_10_code 202 = .ok (.invokevirtual 97, 3) := by decide +kernel
theorem d_M_spool_205 : decode prog_12_method_10_code 205 = .ok (.bastore, 1) := by decide +kernel
theorem d_M_spool_206 : decode prog_12_method_10_code 206 = .ok (.aload_n 0, 1) := by decide +kernel
theorem d_M_spool_207 : decode prog_12_method_10_code 207 = .ok (.getfield 24, 3) := by decide +kernel
theorem d_M_spool_210 : decode prog_12_method_10_code 210 = .ok (.iload_n 3, 1) := by decide +kernel
theorem d_M_spool_211 : decode prog_12_method_10_code 211 = .ok (.baload, 1) := by decide +kernel
theorem d_M_spool_212 : decode prog_12_method_10_code 212 = .ok (.ireturn, 1) := by decide +kernel
theorem d_M_write_0 : decode prog_12_method_8_code 0 = .ok (.aload_n 0, 1) := by decide +kernel
theorem d_M_write_1 : decode prog_12_method_8_code 1 = .ok (.getfield 13, 3) := by decide +kernel
theorem d_M_write_4 : decode prog_12_method_8_code 4 = .ok (.ifCond .ne 9, 3) := by decide +kernel
theorem d_M_write_7 : decode prog_12_method_8_code 7 = .ok (.aload_n 0, 1) := by decide +kernel
theorem d_M_write_8 : decode prog_12_method_8_code 8 = .ok (.invokevirtual 91, 3) := by decide +kernel
theorem d_M_write_11 : decode prog_12_method_8_code 11 = .ok (.iconst 0, 1) := by decide +kernel
theorem d_M_write_12 : decode prog_12_method_8_code 12 = .ok (.ireturn, 1) := by decide +kernel
theorem d_M_write_13 : decode prog_12_method_8_code 13 = .ok (.aload_n 0, 1) := by decide +kernel
theorem d_M_write_14 : decode prog_12_method_8_code 14 = .ok (.aload_n 0, 1) := by decide +kernel
theorem d_M_write_15 : decode prog_12_method_8_code 15 = .ok (.getfield 13, 3) := by decide +kernel
theorem d_M_write_18 : decode prog_12_method_8_code 18 = .ok (.ifCond .le 12, 3) := by decide +kernel
theorem d_M_write_21 : decode prog_12_method_8_code 21 = .ok (.aload_n 0, 1) := by decide +kernel
theorem d_M_write_22 : decode prog_12_method_8_code 22 = .ok (.getfield 13, 3) := by decide +kernel
theorem d_M_write_25 : decode prog_12_method_8_code 25 = .ok (.iconst 1, 1) := by decide +kernel
theorem d_M_write_26 : decode prog_12_method_8_code 26 = .ok (.isub, 1) := by decide +kernel
theorem d_M_write_27 : decode prog_12_method_8_code 27 = .ok (.goto 7, 3) := by decide +kernel
theorem d_M_write_30 : decode prog_12_method_8_code 30 = .ok (.aload_n 0, 1) := by decide +kernel
theorem d_M_write_31 : decode prog_12_method_8_code 31 = .ok (.getfield 13, 3) := by decide +kernel
theorem d_M_write_34 : decode prog_12_method_8_code 34 = .ok (.putfield 13, 3) := by decide +kernel
theorem d_M_write_37 : decode prog_12_method_8_code 37 = .ok (.iconst 1, 1) := by decide +kernel
theorem d_M_write_38 : decode prog_12_method_8_code 38 = .ok (.ireturn, 1) := by decide +kernel
theorem d_M_breakDown_0 : decode prog_12_method_7_code 0 = .ok (.aload_n 0, 1) := by decide +kernel
theorem d_M_breakDown_1 : decode prog_12_method_7_code 1 = .ok (.iconst 0, 1) := by decide +kernel
theorem d_M_breakDown_2 : decode prog_12_method_7_code 2 = .ok (.putfield 7, 3) := by decide +kernel
theorem d_M_breakDown_5 : decode prog_12_method_7_code 5 = .ok (.aload_n 0, 1) := by decide +kernel
theorem d_M_breakDown_6 : decode prog_12_method_7_code 6 = .ok (.iconst 0, 1) := by decide +kernel
theorem d_M_breakDown_7 : decode prog_12_method_7_code 7 = .ok (.putfield 82, 3) := by decide +kernel
theorem d_M_breakDown_10 : decode prog_12_method_7_code 10 = .ok (.aload_n 0, 1) := by decide +kernel
theorem d_M_breakDown_11 : decode prog_12_method_7_code 11 = .ok (.iconst 0, 1) := by decide +kernel
theorem d_M_breakDown_12 : decode prog_12_method_7_code 12 = .ok (.putfield 85, 3) := by decide +kernel
theorem d_M_breakDown_15 : decode prog_12_method_7_code 15 = .ok (.aload_n 0, 1) := by decide +kernel
theorem d_M_breakDown_16 : decode prog_12_method_7_code 16 = .ok (.iconst 0, 1) := by decide +kernel
theorem d_M_breakDown_17 : decode prog_12_method_7_code 17 = .ok (.putfield 88, 3) := by decide +kernel
theorem d_M_breakDown_20 : decode prog_12_method_7_code 20 = .ok (.aload_n 0, 1) := by decide +kernel
theorem d_M_breakDown_21 : decode prog_12_method_7_code 21 = .ok (.iconst (-1), 1) := by decide +kernel
theorem d_M_breakDown_22 : decode prog_12_method_7_code 22 = .ok (.putfield 13, 3) := by decide +kernel
theorem d_M_breakDown_25 : decode prog_12_method_7_code 25 = .ok (.return_, 1) := by decide +kernel
theorem d_M_copyPath_0 : decode prog_12_method_9_code 0 = .ok (.aload_n 0, 1) := by decide +kernel
theorem d_M_copyPath_1 : decode prog_12_method_9_code 1 = .ok (.getfield 37, 3) := by decide +kernel
theorem d_M_copyPath_4 : decode prog_12_method_9_code 4 = .ok (.iload_n 2, 1) := by decide +kernel
theorem d_M_copyPath_5 : decode prog_12_method_9_code 5 = .ok (.aload_n 0, 1) := by decide +kernel
theorem d_M_copyPath_6 : decode prog_12_method_9_code 6 = .ok (.getfield 37, 3) := by decide +kernel
theorem d_M_copyPath_9 : decode prog_12_method_9_code 9 = .ok (.iload_n 1, 1) := by decide +kernel
theorem d_M_copyPath_10 : decode prog_12_method_9_code 10 = .ok (.iaload, 1) := by decide +kernel
theorem d_M_copyPath_11 : decode prog_12_method_9_code 11 = .ok (.iastore, 1) := by decide +kernel
theorem d_M_copyPath_12 : decode prog_12_method_9_code 12 = .ok (.iconst 0, 1) := by decide +kernel
theorem d_M_copyPath_13 : decode prog_12_method_9_code 13 = .ok (.istore_n 3, 1) := by decide +kernel
theorem d_M_copyPath_14 : decode prog_12_method_9_code 14 = .ok (.iload_n 3, 1) := by decide +kernel
theorem d_M_copyPath_15 : decode prog_12_method_9_code 15 = .ok (.bipush 40, 2) := by decide +kernel
theorem d_M_copyPath_17 : decode prog_12_method_9_code 17 = .ok (.if_icmp .ge 31, 3) := by decide +kernel
theorem d_M_copyPath_20 : decode prog_12_method_9_code 20 = .ok (.aload_n 0, 1) := by decide +kernel
theorem d_M_copyPath_21 : decode prog_12_method_9_code 21 = .ok (.getfield 34, 3) := by decide +kernel
theorem d_M_copyPath_24 : decode prog_12_method_9_code 24 = .ok (.bipush 40, 2) := by decide +kernel
theorem d_M_copyPath_26 : decode prog_12_method_9_code 26 = .ok (.iload_n 2, 1) := by decide +kernel
theorem d_M_copyPath_27 : decode prog_12_method_9_code 27 = .ok (.imul, 1) := by decide +kernel
theorem d_M_copyPath_28 : decode prog_12_method_9_code 28 = .ok (.iload_n 3, 1) := by decide +kernel
theorem d_M_copyPath_29 : decode prog_12_method_9_code 29 = .ok (.iadd, 1) := by decide +kernel
theorem d_M_copyPath_30 : decode prog_12_method_9_code 30 = .ok (.aload_n 0, 1) := by decide +kernel
theorem d_M_copyPath_31 : decode prog_12_method_9_code 31 = .ok (.getfield 34, 3) := by decide +kernel
theorem d_M_copyPath_34 : decode prog_12_method_9_code 34 = .ok (.bipush 40, 2) := by decide +kernel
theorem d_M_copyPath_36 : decode prog_12_method_9_code 36 = .ok (.iload_n 1, 1) := by decide +kernel
theorem d_M_copyPath_37 : decode prog_12_method_9_code 37 = .ok (.imul, 1) := by decide +kernel
theorem d_M_copyPath_38 : decode prog_12_method_9_code 38 = .ok (.iload_n 3, 1) := by decide +kernel
theorem d_M_copyPath_39 : decode prog_12_method_9_code 39 = .ok (.iadd, 1) := by decide +kernel
theorem d_M_copyPath_40 : decode prog_12_method_9_code 40 = .ok (.iaload, 1) := by decide +kernel
theorem d_M_copyPath_41 : decode prog_12_method_9_code 41 = .ok (.iastore, 1) := by decide +kernel
theorem d_M_copyPath_42 : decode prog_12_method_9_code 42 = .ok (.iinc 3 1, 3) := by decide +kernel
theorem d_M_copyPath_45 : decode prog_12_method_9_code 45 = .ok (.goto (-31), 3) := by decide +kernel
theorem d_M_copyPath_48 : decode prog_12_method_9_code 48 = .ok (.return_, 1) := by decide +kernel
theorem d_M_command_0 : decode prog_12_method_19_code 0 = .ok (.aload_n 0, 1) := by decide +kernel
theorem d_M_command_1 : decode prog_12_method_19_code 1 = .ok (.invokevirtual 136, 3) := by decide +kernel
theorem d_M_command_4 : decode prog_12_method_19_code 4 = .ok (.istore_n 1, 1) := by decide +kernel
theorem d_M_command_5 : decode prog_12_method_19_code 5 = .ok (.iload_n 1, 1) := by decide +kernel
theorem d_M_command_6 : decode prog_12_method_19_code 6 = .ok (.ldc 125, 2) := by decide +kernel
theorem d_M_command_8 : decode prog_12_method_19_code 8 = .ok (.if_icmp .eq 45, 3) := by decide +kernel
theorem d_M_command_11 : decode prog_12_method_19_code 11 = .ok (.iload_n 1, 1) := by decide +kernel
theorem d_M_command_12 : decode prog_12_method_19_code 12 = .ok (.ldc 126, 2) := by decide +kernel
theorem d_M_command_14 : decode prog_12_method_19_code 14 = .ok (.if_icmp .eq 39, 3) := by decide +kernel
theorem d_M_command_17 : decode prog_12_method_19_code 17 = .ok (.iload_n 1, 1) := by decide +kernel
theorem d_M_command_18 : decode prog_12_method_19_code 18 = .ok (.ldc 127, 2) := by decide +kernel
theorem d_M_command_20 : decode prog_12_method_19_code 20 = .ok (.if_icmp .eq 33, 3) := by decide +kernel
theorem d_M_command_23 : decode prog_12_method_19_code 23 = .ok (.iload_n 1, 1) := by decide +kernel
theorem d_M_command_24 : decode prog_12_method_19_code 24 = .ok (.ldc 135, 2) := by decide +kernel
theorem d_M_command_26 : decode prog_12_method_19_code 26 = .ok (.if_icmp .eq 27, 3) := by decide +kernel
theorem d_M_command_29 : decode prog_12_method_19_code 29 = .ok (.iload_n 1, 1) := by decide +kernel
theorem d_M_command_30 : decode prog_12_method_19_code 30 = .ok (.ldc 140, 2) := by decide +kernel
theorem d_M_command_32 : decode prog_12_method_19_code 32 = .ok (.if_icmp .eq 21, 3) := by decide +kernel
theorem d_M_command_35 : decode prog_12_method_19_code 35 = .ok (.iload_n 1, 1) := by decide +kernel
theorem d_M_command_36 : decode prog_12_method_19_code 36 = .ok (.ldc 141, 2) := by decide +kernel
theorem d_M_command_38 : decode prog_12_method_19_code 38 = .ok (.if_icmp .eq 15, 3) := by decide +kernel
theorem d_M_command_41 : decode prog_12_method_19_code 41 = .ok (.iload_n 1, 1) := by decide +kernel
theorem d_M_command_42 : decode prog_12_method_19_code 42 = .ok (.ldc 142, 2) := by decide +kernel
theorem d_M_command_44 : decode prog_12_method_19_code 44 = .ok (.if_icmp .eq 9, 3) := by decide +kernel
theorem d_M_command_47 : decode prog_12_method_19_code 47 = .ok (.iload_n 1, 1) := by decide +kernel
theorem d_M_command_48 : decode prog_12_method_19_code 48 = .ok (.ldc 143, 2) := by decide +kernel
theorem d_M_command_50 : decode prog_12_method_19_code 50 = .ok (.if_icmp .ne 7, 3) := by decide +kernel
theorem d_M_command_53 : decode prog_12_method_19_code 53 = .ok (.iconst 1, 1) := by decide +kernel
theorem d_M_command_54 : decode prog_12_method_19_code 54 = .ok (.goto 4, 3) := by decide +kernel
theorem d_M_command_57 : decode prog_12_method_19_code 57 = .ok (.iconst 0, 1) := by decide +kernel
theorem d_M_command_58 : decode prog_12_method_19_code 58 = .ok (.istore_n 2, 1) := by decide +kernel
theorem d_M_command_59 : decode prog_12_method_19_code 59 = .ok (.iload_n 2, 1) := by decide +kernel
theorem d_M_command_60 : decode prog_12_method_19_code 60 = .ok (.ifCond .eq 11, 3) := by decide +kernel
theorem d_M_command_63 : decode prog_12_method_19_code 63 = .ok (.aload_n 0, 1) := by decide +kernel
theorem d_M_command_64 : decode prog_12_method_19_code 64 = .ok (.iload_n 1, 1) := by decide +kernel
theorem d_M_command_65 : decode prog_12_method_19_code 65 = .ok (.invokevirtual 144, 3) := by decide +kernel
theorem d_M_command_68 : decode prog_12_method_19_code 68 = .ok (.ifCond .ne 17, 3) := by decide +kernel
theorem d_M_command_71 : decode prog_12_method_19_code 71 = .ok (.iload_n 2, 1) := by decide +kernel
theorem d_M_command_72 : decode prog_12_method_19_code 72 = .ok (.ifCond .eq 9, 3) := by decide +kernel
theorem d_M_command_75 : decode prog_12_method_19_code 75 = .ok (.sipush 501, 3) := by decide +kernel
theorem d_M_command_78 : decode prog_12_method_19_code 78 = .ok (.goto 6, 3) := by decide +kernel
theorem d_M_command_81 : decode prog_12_method_19_code 81 = .ok (.sipush 500, 3) := by decide +kernel
theorem d_M_command_84 : decode prog_12_method_19_code 84 = .ok (.ireturn, 1) := by decide +kernel
theorem d_M_command_85 : decode prog_12_method_19_code 85 = .ok (.iload_n 1, 1) := by decide +kernel
theorem d_M_command_86 : decode prog_12_method_19_code 86 = .ok (.ldc 125, 2) := by decide +kernel
theorem d_M_command_88 : decode prog_12_method_19_code 88 = .ok (.if_icmp .eq 9, 3) := by decide +kernel
theorem d_M_command_91 : decode prog_12_method_19_code 91 = .ok (.iload_n 1, 1) := by decide +kernel
theorem d_M_command_92 : decode prog_12_method_19_code 92 = .ok (.ldc 126, 2) := by decide +kernel
theorem d_M_command_94 : decode prog_12_method_19_code 94 = .ok (.if_icmp .ne 17, 3) := by decide +kernel
theorem d_M_command_97 : decode prog_12_method_19_code 97 = .ok (.aload_n 0, 1) := by decide +kernel
theorem d_M_command_98 : decode prog_12_method_19_code 98 = .ok (.iconst 1, 1) := by decide +kernel
theorem d_M_command_99 : decode prog_12_method_19_code 99 = .ok (.putfield 82, 3) := by decide +kernel
theorem d_M_command_102 : decode prog_12_method_19_code 102 = .ok (.aload_n 0, 1) := by decide +kernel
theorem d_M_command_103 : decode prog_12_method_19_code 103 = .ok (.iconst 0, 1) := by decide +kernel
theorem d_M_command_104 : decode prog_12_method_19_code 104 = .ok (.putfield 85, 3) := by decide +kernel
theorem d_M_command_107 : decode prog_12_method_19_code 107 = .ok (.sipush 250, 3) := by decide +kernel
theorem d_M_command_110 : decode prog_12_method_19_code 110 = .ok (.ireturn, 1) := by decide +kernel
theorem d_M_command_111 : decode prog_12_method_19_code 111 = .ok (.iload_n 1, 1) := by decide +kernel
theorem d_M_command_112 : decode prog_12_method_19_code 112 = .ok (.ldc 127, 2) := by decide +kernel
theorem d_M_command_114 : decode prog_12_method_19_code 114 = .ok (.if_icmp .ne 8, 3) := by decide +kernel
theorem d_M_command_117 : decode prog_12_method_19_code 117 = .ok (.aload_n 0, 1) := by decide +kernel
theorem d_M_command_118 : decode prog_12_method_19_code 118 = .ok (.invokevirtual 147, 3) := by decide +kernel
theorem d_M_command_121 : decode prog_12_method_19_code 121 = .ok (.ireturn, 1) := by decide +kernel
theorem d_M_command_122 : decode prog_12_method_19_code 122 = .ok (.iload_n 1, 1) := by decide +kernel
theorem d_M_command_123 : decode prog_12_method_19_code 123 = .ok (.ldc 135, 2) := by decide +kernel
theorem d_M_command_125 : decode prog_12_method_19_code 125 = .ok (.if_icmp .ne 8, 3) := by decide +kernel
theorem d_M_command_128 : decode prog_12_method_19_code 128 = .ok (.aload_n 0, 1) := by decide +kernel
theorem d_M_command_129 : decode prog_12_method_19_code 129 = .ok (.invokevirtual 150, 3) := by decide +kernel
theorem d_M_command_132 : decode prog_12_method_19_code 132 = .ok (.ireturn, 1) := by decide +kernel
theorem d_M_command_133 : decode prog_12_method_19_code 133 = .ok (.iload_n 1, 1) := by decide +kernel
theorem d_M_command_134 : decode prog_12_method_19_code 134 = .ok (.ldc 140, 2) := by decide +kernel
theorem d_M_command_136 : decode prog_12_method_19_code 136 = .ok (.if_icmp .ne 41, 3) := by decide +kernel
theorem d_M_command_139 : decode prog_12_method_19_code 139 = .ok (.aload_n 0, 1) := by decide +kernel
theorem d_M_command_140 : decode prog_12_method_19_code 140 = .ok (.getfield 85, 3) := by decide +kernel
theorem d_M_command_143 : decode prog_12_method_19_code 143 = .ok (.ifCond .eq 13, 3) := by decide +kernel
theorem d_M_command_146 : decode prog_12_method_19_code 146 = .ok (.aload_n 0, 1) := by decide +kernel
theorem d_M_command_147 : decode prog_12_method_19_code 147 = .ok (.getfield 40, 3) := by decide +kernel
theorem d_M_command_150 : decode prog_12_method_19_code 150 = .ok (.bipush 6, 2) := by decide +kernel
theorem d_M_command_152 : decode prog_12_method_19_code 152 = .ok (.iaload, 1) := by decide +kernel
theorem d_M_command_153 : decode prog_12_method_19_code 153 = .ok (.ifCond .ne 7, 3) := by decide +kernel
theorem d_M_command_156 : decode prog_12_method_19_code 156 = .ok (.sipush 503, 3) := by decide +kernel
theorem d_M_command_159 : decode prog_12_method_19_code 159 = .ok (.ireturn, 1) := by decide +kernel
theorem d_M_command_160 : decode prog_12_method_19_code 160 = .ok (.aload_n 0, 1) := by decide +kernel
theorem d_M_command_161 : decode prog_12_method_19_code 161 = .ok (.iconst 1, 1) := by decide +kernel
theorem d_M_command_162 : decode prog_12_method_19_code 162 = .ok (.putfield 88, 3) := by decide +kernel
theorem d_M_command_165 : decode prog_12_method_19_code 165 = .ok (.aload_n 0, 1) := by decide +kernel
theorem d_M_command_166 : decode prog_12_method_19_code 166 = .ok (.getfield 31, 3) := by decide +kernel
theorem d_M_command_169 : decode prog_12_method_19_code 169 = .ok (.bipush 6, 2) := by decide +kernel
theorem d_M_command_171 : decode prog_12_method_19_code 171 = .ok (.iconst 0, 1) := by decide +kernel
end
section
theorem d_M_command_172 : decode prog_12_method_19_code 172 = .ok (.iastore, 1) := by decide +kernel
theorem d_M_command_173 : decode prog_12_method_19_code 173 = .ok (.sipush 354, 3) := by decide +kernel
theorem d_M_command_176 : decode prog_12_method_19_code 176 = .ok (.ireturn, 1) := by decide +kernel
theorem d_M_command_177 : decode prog_12_method_19_code 177 = .ok (.aload_n 0, 1) := by decide +kernel
theorem d_M_command_178 : decode prog_12_method_19_code 178 = .ok (.iload_n 1, 1) := by decide +kernel
theorem d_M_command_179 : decode prog_12_method_19_code 179 = .ok (.ldc 142, 2) := by decide +kernel
theorem d_M_command_181 : decode prog_12_method_19_code 181 = .ok (.if_icmp .ne 14, 3) := by decide +kernel
theorem d_M_command_184 : decode prog_12_method_19_code 184 = .ok (.aload_n 0, 1) := by decide +kernel
theorem d_M_command_185 : decode prog_12_method_19_code 185 = .ok (.getfield 85, 3) := by decide +kernel
theorem d_M_command_188 : decode prog_12_method_19_code 188 = .ok (.ifCond .eq 7, 3) := by decide +kernel
theorem d_M_command_191 : decode prog_12_method_19_code 191 = .ok (.iconst 1, 1) := by decide +kernel
theorem d_M_command_192 : decode prog_12_method_19_code 192 = .ok (.goto 4, 3) := by decide +kernel
theorem d_M_command_195 : decode prog_12_method_19_code 195 = .ok (.iconst 0, 1) := by decide +kernel
theorem d_M_command_196 : decode prog_12_method_19_code 196 = .ok (.putfield 85, 3) := by decide +kernel
theorem d_M_command_199 : decode prog_12_method_19_code 199 = .ok (.aload_n 0, 1) := by decide +kernel
theorem d_M_command_200 : decode prog_12_method_19_code 200 = .ok (.iload_n 1, 1) := by decide +kernel
theorem d_M_command_201 : decode prog_12_method_19_code 201 = .ok (.ldc 143, 2) := by decide +kernel
theorem d_M_command_203 : decode prog_12_method_19_code 203 = .ok (.if_icmp .eq 14, 3) := by decide +kernel
theorem d_M_command_206 : decode prog_12_method_19_code 206 = .ok (.aload_n 0, 1) := by decide +kernel
theorem d_M_command_207 : decode prog_12_method_19_code 207 = .ok (.getfield 82, 3) := by decide +kernel
theorem d_M_command_210 : decode prog_12_method_19_code 210 = .ok (.ifCond .eq 7, 3) := by decide +kernel
theorem d_M_command_213 : decode prog_12_method_19_code 213 = .ok (.iconst 1, 1) := by decide +kernel
theorem d_M_command_214 : decode prog_12_method_19_code 214 = .ok (.goto 4, 3) := by decide +kernel
theorem d_M_command_217 : decode prog_12_method_19_code 217 = .ok (.iconst 0, 1) := by decide +kernel
theorem d_M_command_218 : decode prog_12_method_19_code 218 = .ok (.putfield 82, 3) := by decide +kernel
theorem d_M_command_221 : decode prog_12_method_19_code 221 = .ok (.iload_n 1, 1) := by decide +kernel
theorem d_M_command_222 : decode prog_12_method_19_code 222 = .ok (.ldc 143, 2) := by decide +kernel
theorem d_M_command_224 : decode prog_12_method_19_code 224 = .ok (.if_icmp .ne 9, 3) := by decide +kernel
theorem d_M_command_227 : decode prog_12_method_19_code 227 = .ok (.sipush 221, 3) := by decide +kernel
theorem d_M_command_230 : decode prog_12_method_19_code 230 = .ok (.goto 6, 3) := by decide +kernel
theorem d_M_command_233 : decode prog_12_method_19_code 233 = .ok (.sipush 250, 3) := by decide +kernel
theorem d_M_command_236 : decode prog_12_method_19_code 236 = .ok (.ireturn, 1) := by decide +kernel
theorem d_M_wordCode_0 : decode prog_12_method_16_code 0 = .ok (.iconst 0, 1) := by decide +kernel
theorem d_M_wordCode_1 : decode prog_12_method_16_code 1 = .ok (.istore_n 1, 1) := by decide +kernel
theorem d_M_wordCode_2 : decode prog_12_method_16_code 2 = .ok (.iload_n 1, 1) := by decide +kernel
theorem d_M_wordCode_3 : decode prog_12_method_16_code 3 = .ok (.aload_n 0, 1) := by decide +kernel
theorem d_M_wordCode_4 : decode prog_12_method_16_code 4 = .ok (.getfield 79, 3) := by decide +kernel
theorem d_M_wordCode_7 : decode prog_12_method_16_code 7 = .ok (.if_icmp .ge 21, 3) := by decide +kernel
theorem d_M_wordCode_10 : decode prog_12_method_16_code 10 = .ok (.aload_n 0, 1) := by decide +kernel
theorem d_M_wordCode_11 : decode prog_12_method_16_code 11 = .ok (.getfield 17, 3) := by decide +kernel
theorem d_M_wordCode_14 : decode prog_12_method_16_code 14 = .ok (.iload_n 1, 1) := by decide +kernel
theorem d_M_wordCode_15 : decode prog_12_method_16_code 15 = .ok (.iaload, 1) := by decide +kernel
theorem d_M_wordCode_16 : decode prog_12_method_16_code 16 = .ok (.bipush 32, 2) := by decide +kernel
theorem d_M_wordCode_18 : decode prog_12_method_16_code 18 = .ok (.if_icmp .eq 10, 3) := by decide +kernel
theorem d_M_wordCode_21 : decode prog_12_method_16_code 21 = .ok (.iload_n 1, 1) := by decide +kernel
theorem d_M_wordCode_22 : decode prog_12_method_16_code 22 = .ok (.iconst 1, 1) := by decide +kernel
theorem d_M_wordCode_23 : decode prog_12_method_16_code 23 = .ok (.iadd, 1) := by decide +kernel
theorem d_M_wordCode_24 : decode prog_12_method_16_code 24 = .ok (.istore_n 1, 1) := by decide +kernel
theorem d_M_wordCode_25 : decode prog_12_method_16_code 25 = .ok (.goto (-23), 3) := by decide +kernel
theorem d_M_wordCode_28 : decode prog_12_method_16_code 28 = .ok (.iload_n 1, 1) := by decide +kernel
theorem d_M_wordCode_29 : decode prog_12_method_16_code 29 = .ok (.iconst 4, 1) := by decide +kernel
theorem d_M_wordCode_30 : decode prog_12_method_16_code 30 = .ok (.if_icmp .ne 38, 3) := by decide +kernel
theorem d_M_wordCode_33 : decode prog_12_method_16_code 33 = .ok (.aload_n 0, 1) := by decide +kernel
theorem d_M_wordCode_34 : decode prog_12_method_16_code 34 = .ok (.iconst 0, 1) := by decide +kernel
theorem d_M_wordCode_35 : decode prog_12_method_16_code 35 = .ok (.invokevirtual 122, 3) := by decide +kernel
theorem d_M_wordCode_38 : decode prog_12_method_16_code 38 = .ok (.bipush 24, 2) := by decide +kernel
theorem d_M_wordCode_40 : decode prog_12_method_16_code 40 = .ok (.ishl, 1) := by decide +kernel
theorem d_M_wordCode_41 : decode prog_12_method_16_code 41 = .ok (.aload_n 0, 1) := by decide +kernel
theorem d_M_wordCode_42 : decode prog_12_method_16_code 42 = .ok (.iconst 1, 1) := by decide +kernel
theorem d_M_wordCode_43 : decode prog_12_method_16_code 43 = .ok (.invokevirtual 122, 3) := by decide +kernel
theorem d_M_wordCode_46 : decode prog_12_method_16_code 46 = .ok (.bipush 16, 2) := by decide +kernel
theorem d_M_wordCode_48 : decode prog_12_method_16_code 48 = .ok (.ishl, 1) := by decide +kernel
theorem d_M_wordCode_49 : decode prog_12_method_16_code 49 = .ok (.ior, 1) := by decide +kernel
theorem d_M_wordCode_50 : decode prog_12_method_16_code 50 = .ok (.aload_n 0, 1) := by decide +kernel
theorem d_M_wordCode_51 : decode prog_12_method_16_code 51 = .ok (.iconst 2, 1) := by decide +kernel
theorem d_M_wordCode_52 : decode prog_12_method_16_code 52 = .ok (.invokevirtual 122, 3) := by decide +kernel
theorem d_M_wordCode_55 : decode prog_12_method_16_code 55 = .ok (.bipush 8, 2) := by decide +kernel
theorem d_M_wordCode_57 : decode prog_12_method_16_code 57 = .ok (.ishl, 1) := by decide +kernel
theorem d_M_wordCode_58 : decode prog_12_method_16_code 58 = .ok (.ior, 1) := by decide +kernel
theorem d_M_wordCode_59 : decode prog_12_method_16_code 59 = .ok (.aload_n 0, 1) := by decide +kernel
theorem d_M_wordCode_60 : decode prog_12_method_16_code 60 = .ok (.iconst 3, 1) := by decide +kernel
theorem d_M_wordCode_61 : decode prog_12_method_16_code 61 = .ok (.invokevirtual 122, 3) := by decide +kernel
theorem d_M_wordCode_64 : decode prog_12_method_16_code 64 = .ok (.ior, 1) := by decide +kernel
theorem d_M_wordCode_65 : decode prog_12_method_16_code 65 = .ok (.goto 4, 3) := by decide +kernel
theorem d_M_wordCode_68 : decode prog_12_method_16_code 68 = .ok (.iconst 0, 1) := by decide +kernel
theorem d_M_wordCode_69 : decode prog_12_method_16_code 69 = .ok (.ireturn, 1) := by decide +kernel
theorem d_M_charAt_0 : decode prog_12_method_14_code 0 = .ok (.iload_n 1, 1) := by decide +kernel
theorem d_M_charAt_1 : decode prog_12_method_14_code 1 = .ok (.aload_n 0, 1) := by decide +kernel
theorem d_M_charAt_2 : decode prog_12_method_14_code 2 = .ok (.getfield 79, 3) := by decide +kernel
theorem d_M_charAt_5 : decode prog_12_method_14_code 5 = .ok (.if_icmp .ge 15, 3) := by decide +kernel
theorem d_M_charAt_8 : decode prog_12_method_14_code 8 = .ok (.aload_n 0, 1) := by decide +kernel
theorem d_M_charAt_9 : decode prog_12_method_14_code 9 = .ok (.getfield 17, 3) := by decide +kernel
theorem d_M_charAt_12 : decode prog_12_method_14_code 12 = .ok (.iload_n 1, 1) := by decide +kernel
theorem d_M_charAt_13 : decode prog_12_method_14_code 13 = .ok (.iaload, 1) := by decide +kernel
theorem d_M_charAt_14 : decode prog_12_method_14_code 14 = .ok (.invokestatic 118, 3) := by decide +kernel
theorem d_M_charAt_17 : decode prog_12_method_14_code 17 = .ok (.goto 4, 3) := by decide +kernel
theorem d_M_charAt_20 : decode prog_12_method_14_code 20 = .ok (.iconst 0, 1) := by decide +kernel
theorem d_M_charAt_21 : decode prog_12_method_14_code 21 = .ok (.ireturn, 1) := by decide +kernel
theorem d_M_lower_0 : decode prog_12_method_4_code 0 = .ok (.iload_n 0, 1) := by decide +kernel
theorem d_M_lower_1 : decode prog_12_method_4_code 1 = .ok (.bipush 65, 2) := by decide +kernel
theorem d_M_lower_3 : decode prog_12_method_4_code 3 = .ok (.if_icmp .lt 16, 3) := by decide +kernel
theorem d_M_lower_6 : decode prog_12_method_4_code 6 = .ok (.iload_n 0, 1) := by decide +kernel
theorem d_M_lower_7 : decode prog_12_method_4_code 7 = .ok (.bipush 90, 2) := by decide +kernel
theorem d_M_lower_9 : decode prog_12_method_4_code 9 = .ok (.if_icmp .gt 10, 3) := by decide +kernel
theorem d_M_lower_12 : decode prog_12_method_4_code 12 = .ok (.iload_n 0, 1) := by decide +kernel
theorem d_M_lower_13 : decode prog_12_method_4_code 13 = .ok (.bipush 32, 2) := by decide +kernel
theorem d_M_lower_15 : decode prog_12_method_4_code 15 = .ok (.iadd, 1) := by decide +kernel
theorem d_M_lower_16 : decode prog_12_method_4_code 16 = .ok (.goto 4, 3) := by decide +kernel
theorem d_M_lower_19 : decode prog_12_method_4_code 19 = .ok (.iload_n 0, 1) := by decide +kernel
theorem d_M_lower_20 : decode prog_12_method_4_code 20 = .ok (.ireturn, 1) := by decide +kernel
theorem d_M_fits_0 : decode prog_12_method_17_code 0 = .ok (.iload_n 1, 1) := by decide +kernel
theorem d_M_fits_1 : decode prog_12_method_17_code 1 = .ok (.ldc 125, 2) := by decide +kernel
theorem d_M_fits_3 : decode prog_12_method_17_code 3 = .ok (.if_icmp .eq 9, 3) := by decide +kernel
theorem d_M_fits_6 : decode prog_12_method_17_code 6 = .ok (.iload_n 1, 1) := by decide +kernel
theorem d_M_fits_7 : decode prog_12_method_17_code 7 = .ok (.ldc 126, 2) := by decide +kernel
theorem d_M_fits_9 : decode prog_12_method_17_code 9 = .ok (.if_icmp .ne 29, 3) := by decide +kernel
theorem d_M_fits_12 : decode prog_12_method_17_code 12 = .ok (.aload_n 0, 1) := by decide +kernel
theorem d_M_fits_13 : decode prog_12_method_17_code 13 = .ok (.getfield 79, 3) := by decide +kernel
theorem d_M_fits_16 : decode prog_12_method_17_code 16 = .ok (.iconst 5, 1) := by decide +kernel
theorem d_M_fits_17 : decode prog_12_method_17_code 17 = .ok (.if_icmp .le 19, 3) := by decide +kernel
theorem d_M_fits_20 : decode prog_12_method_17_code 20 = .ok (.aload_n 0, 1) := by decide +kernel
theorem d_M_fits_21 : decode prog_12_method_17_code 21 = .ok (.iconst 5, 1) := by decide +kernel
theorem d_M_fits_22 : decode prog_12_method_17_code 22 = .ok (.aload_n 0, 1) := by decide +kernel
theorem d_M_fits_23 : decode prog_12_method_17_code 23 = .ok (.getfield 79, 3) := by decide +kernel
theorem d_M_fits_26 : decode prog_12_method_17_code 26 = .ok (.invokevirtual 115, 3) := by decide +kernel
theorem d_M_fits_29 : decode prog_12_method_17_code 29 = .ok (.ifCond .eq 7, 3) := by decide +kernel
theorem d_M_fits_32 : decode prog_12_method_17_code 32 = .ok (.iconst 1, 1) := by decide +kernel
theorem d_M_fits_33 : decode prog_12_method_17_code 33 = .ok (.goto 4, 3) := by decide +kernel
theorem d_M_fits_36 : decode prog_12_method_17_code 36 = .ok (.iconst 0, 1) := by decide +kernel
theorem d_M_fits_37 : decode prog_12_method_17_code 37 = .ok (.ireturn, 1) := by decide +kernel
theorem d_M_fits_38 : decode prog_12_method_17_code 38 = .ok (.iload_n 1, 1) := by decide +kernel
theorem d_M_fits_39 : decode prog_12_method_17_code 39 = .ok (.ldc 127, 2) := by decide +kernel
theorem d_M_fits_41 : decode prog_12_method_17_code 41 = .ok (.if_icmp .ne 41, 3) := by decide +kernel
theorem d_M_fits_44 : decode prog_12_method_17_code 44 = .ok (.aload_n 0, 1) := by decide +kernel
theorem d_M_fits_45 : decode prog_12_method_17_code 45 = .ok (.iconst 1, 1) := by decide +kernel
theorem d_M_fits_46 : decode prog_12_method_17_code 46 = .ok (.invokevirtual 128, 3) := by decide +kernel
theorem d_M_fits_49 : decode prog_12_method_17_code 49 = .ok (.ifCond .eq 31, 3) := by decide +kernel
theorem d_M_fits_52 : decode prog_12_method_17_code 52 = .ok (.aload_n 0, 1) := by decide +kernel
theorem d_M_fits_53 : decode prog_12_method_17_code 53 = .ok (.getfield 79, 3) := by decide +kernel
theorem d_M_fits_56 : decode prog_12_method_17_code 56 = .ok (.bipush 12, 2) := by decide +kernel
theorem d_M_fits_58 : decode prog_12_method_17_code 58 = .ok (.if_icmp .eq 18, 3) := by decide +kernel
theorem d_M_fits_61 : decode prog_12_method_17_code 61 = .ok (.aload_n 0, 1) := by decide +kernel
theorem d_M_fits_62 : decode prog_12_method_17_code 62 = .ok (.bipush 11, 2) := by decide +kernel
theorem d_M_fits_64 : decode prog_12_method_17_code 64 = .ok (.aload_n 0, 1) := by decide +kernel
theorem d_M_fits_65 : decode prog_12_method_17_code 65 = .ok (.getfield 79, 3) := by decide +kernel
theorem d_M_fits_68 : decode prog_12_method_17_code 68 = .ok (.iconst 1, 1) := by decide +kernel
theorem d_M_fits_69 : decode prog_12_method_17_code 69 = .ok (.isub, 1) := by decide +kernel
theorem d_M_fits_70 : decode prog_12_method_17_code 70 = .ok (.invokevirtual 132, 3) := by decide +kernel
theorem d_M_fits_73 : decode prog_12_method_17_code 73 = .ok (.ifCond .eq 7, 3) := by decide +kernel
theorem d_M_fits_76 : decode prog_12_method_17_code 76 = .ok (.iconst 1, 1) := by decide +kernel
theorem d_M_fits_77 : decode prog_12_method_17_code 77 = .ok (.goto 4, 3) := by decide +kernel
theorem d_M_fits_80 : decode prog_12_method_17_code 80 = .ok (.iconst 0, 1) := by decide +kernel
theorem d_M_fits_81 : decode prog_12_method_17_code 81 = .ok (.ireturn, 1) := by decide +kernel
theorem d_M_fits_82 : decode prog_12_method_17_code 82 = .ok (.iload_n 1, 1) := by decide +kernel
theorem d_M_fits_83 : decode prog_12_method_17_code 83 = .ok (.ldc 135, 2) := by decide +kernel
theorem d_M_fits_85 : decode prog_12_method_17_code 85 = .ok (.if_icmp .ne 32, 3) := by decide +kernel
theorem d_M_fits_88 : decode prog_12_method_17_code 88 = .ok (.aload_n 0, 1) := by decide +kernel
theorem d_M_fits_89 : decode prog_12_method_17_code 89 = .ok (.iconst 0, 1) := by decide +kernel
theorem d_M_fits_90 : decode prog_12_method_17_code 90 = .ok (.invokevirtual 128, 3) := by decide +kernel
theorem d_M_fits_93 : decode prog_12_method_17_code 93 = .ok (.ifCond .eq 22, 3) := by decide +kernel
theorem d_M_fits_96 : decode prog_12_method_17_code 96 = .ok (.aload_n 0, 1) := by decide +kernel
theorem d_M_fits_97 : decode prog_12_method_17_code 97 = .ok (.bipush 9, 2) := by decide +kernel
theorem d_M_fits_99 : decode prog_12_method_17_code 99 = .ok (.aload_n 0, 1) := by decide +kernel
theorem d_M_fits_100 : decode prog_12_method_17_code 100 = .ok (.getfield 79, 3) := by decide +kernel
theorem d_M_fits_103 : decode prog_12_method_17_code 103 = .ok (.iconst 1, 1) := by decide +kernel
theorem d_M_fits_104 : decode prog_12_method_17_code 104 = .ok (.isub, 1) := by decide +kernel
theorem d_M_fits_105 : decode prog_12_method_17_code 105 = .ok (.invokevirtual 132, 3) := by decide +kernel
theorem d_M_fits_108 : decode prog_12_method_17_code 108 = .ok (.ifCond .eq 7, 3) := by decide +kernel
theorem d_M_fits_111 : decode prog_12_method_17_code 111 = .ok (.iconst 1, 1) := by decide +kernel
theorem d_M_fits_112 : decode prog_12_method_17_code 112 = .ok (.goto 4, 3) := by decide +kernel
theorem d_M_fits_115 : decode prog_12_method_17_code 115 = .ok (.iconst 0, 1) := by decide +kernel
theorem d_M_fits_116 : decode prog_12_method_17_code 116 = .ok (.ireturn, 1) := by decide +kernel
theorem d_M_fits_117 : decode prog_12_method_17_code 117 = .ok (.aload_n 0, 1) := by decide +kernel
theorem d_M_fits_118 : decode prog_12_method_17_code 118 = .ok (.getfield 79, 3) := by decide +kernel
theorem d_M_fits_121 : decode prog_12_method_17_code 121 = .ok (.iconst 4, 1) := by decide +kernel
theorem d_M_fits_122 : decode prog_12_method_17_code 122 = .ok (.if_icmp .ne 7, 3) := by decide +kernel
theorem d_M_fits_125 : decode prog_12_method_17_code 125 = .ok (.iconst 1, 1) := by decide +kernel
theorem d_M_fits_126 : decode prog_12_method_17_code 126 = .ok (.goto 4, 3) := by decide +kernel
theorem d_M_fits_129 : decode prog_12_method_17_code 129 = .ok (.iconst 0, 1) := by decide +kernel
theorem d_M_fits_130 : decode prog_12_method_17_code 130 = .ok (.ireturn, 1) := by decide +kernel
theorem d_M_isDomain_0 : decode prog_12_method_11_code 0 = .ok (.iload_n 2, 1) := by decide +kernel
theorem d_M_isDomain_1 : decode prog_12_method_11_code 1 = .ok (.iload_n 1, 1) := by decide +kernel
theorem d_M_isDomain_2 : decode prog_12_method_11_code 2 = .ok (.isub, 1) := by decide +kernel
theorem d_M_isDomain_3 : decode prog_12_method_11_code 3 = .ok (.iconst 1, 1) := by decide +kernel
theorem d_M_isDomain_4 : decode prog_12_method_11_code 4 = .ok (.if_icmp .lt 11, 3) := by decide +kernel
theorem d_M_isDomain_7 : decode prog_12_method_11_code 7 = .ok (.iload_n 2, 1) := by decide +kernel
theorem d_M_isDomain_8 : decode prog_12_method_11_code 8 = .ok (.iload_n 1, 1) := by decide +kernel
theorem d_M_isDomain_9 : decode prog_12_method_11_code 9 = .ok (.isub, 1) := by decide +kernel
theorem d_M_isDomain_10 : decode prog_12_method_11_code 10 = .ok (.bipush 32, 2) := by decide +kernel
theorem d_M_isDomain_12 : decode prog_12_method_11_code 12 = .ok (.if_icmp .le 5, 3) := by decide +kernel
theorem d_M_isDomain_15 : decode prog_12_method_11_code 15 = .ok (.iconst 0, 1) := by decide +kernel
theorem d_M_isDomain_16 : decode prog_12_method_11_code 16 = .ok (.ireturn, 1) := by decide +kernel
theorem d_M_isDomain_17 : decode prog_12_method_11_code 17 = .ok (.iconst 1, 1) := by decide +kernel
theorem d_M_isDomain_18 : decode prog_12_method_11_code 18 = .ok (.istore_n 3, 1) := by decide +kernel
theorem d_M_isDomain_19 : decode prog_12_method_11_code 19 = .ok (.bipush 46, 2) := by decide +kernel
theorem d_M_isDomain_21 : decode prog_12_method_11_code 21 = .ok (.istore 4, 2) := by decide +kernel
theorem d_M_isDomain_23 : decode prog_12_method_11_code 23 = .ok (.iload_n 1, 1) := by decide +kernel
theorem d_M_isDomain_24 : decode prog_12_method_11_code 24 = .ok (.istore 5, 2) := by decide +kernel
theorem d_M_isDomain_26 : decode prog_12_method_11_code 26 = .ok (.iload 5, 2) := by decide +kernel
theorem d_M_isDomain_28 : decode prog_12_method_11_code 28 = .ok (.iload_n 2, 1) := by decide +kernel
theorem d_M_isDomain_29 : decode prog_12_method_11_code 29 = .ok (.if_icmp .ge 75, 3) := by decide +kernel
theorem d_M_isDomain_32 : decode prog_12_method_11_code 32 = .ok (.aload_n 0, 1) := by decide +kernel
theorem d_M_isDomain_33 : decode prog_12_method_11_code 33 = .ok (.getfield 17, 3) := by decide +kernel
theorem d_M_isDomain_36 : decode prog_12_method_11_code 36 = .ok (.iload 5, 2) := by decide +kernel
theorem d_M_isDomain_38 : decode prog_12_method_11_code 38 = .ok (.iaload, 1) := by decide +kernel
theorem d_M_isDomain_39 : decode prog_12_method_11_code 39 = .ok (.istore 6, 2) := by decide +kernel
theorem d_M_isDomain_41 : decode prog_12_method_11_code 41 = .ok (.iload_n 3, 1) := by decide +kernel
theorem d_M_isDomain_42 : decode prog_12_method_11_code 42 = .ok (.ifCond .eq 50, 3) := by decide +kernel
theorem d_M_isDomain_45 : decode prog_12_method_11_code 45 = .ok (.iload 6, 2) := by decide +kernel
theorem d_M_isDomain_47 : decode prog_12_method_11_code 47 = .ok (.invokestatic 108, 3) := by decide +kernel
theorem d_M_isDomain_50 : decode prog_12_method_11_code 50 = .ok (.ifCond .ne 38, 3) := by decide +kernel
theorem d_M_isDomain_53 : decode prog_12_method_11_code 53 = .ok (.iload 6, 2) := by decide +kernel
theorem d_M_isDomain_55 : decode prog_12_method_11_code 55 = .ok (.bipush 45, 2) := by decide +kernel
theorem d_M_isDomain_57 : decode prog_12_method_11_code 57 = .ok (.if_icmp .ne 10, 3) := by decide +kernel
theorem d_M_isDomain_60 : decode prog_12_method_11_code 60 = .ok (.iload 4, 2) := by decide +kernel
theorem d_M_isDomain_62 : decode prog_12_method_11_code 62 = .ok (.bipush 46, 2) := by decide +kernel
theorem d_M_isDomain_64 : decode prog_12_method_11_code 64 = .ok (.if_icmp .ne 24, 3) := by decide +kernel
theorem d_M_isDomain_67 : decode prog_12_method_11_code 67 = .ok (.iload 6, 2) := by decide +kernel
theorem d_M_isDomain_69 : decode prog_12_method_11_code 69 = .ok (.bipush 46, 2) := by decide +kernel
theorem d_M_isDomain_71 : decode prog_12_method_11_code 71 = .ok (.if_icmp .ne 21, 3) := by decide +kernel
theorem d_M_isDomain_74 : decode prog_12_method_11_code 74 = .ok (.iload 4, 2) := by decide +kernel
theorem d_M_isDomain_76 : decode prog_12_method_11_code 76 = .ok (.bipush 46, 2) := by decide +kernel
theorem d_M_isDomain_78 : decode prog_12_method_11_code 78 = .ok (.if_icmp .eq 14, 3) := by decide +kernel
theorem d_M_isDomain_81 : decode prog_12_method_11_code 81 = .ok (.iload 4, 2) := by decide +kernel
theorem d_M_isDomain_83 : decode prog_12_method_11_code 83 = .ok (.bipush 45, 2) := by decide +kernel
theorem d_M_isDomain_85 : decode prog_12_method_11_code 85 = .ok (.if_icmp .eq 7, 3) := by decide +kernel
theorem d_M_isDomain_88 : decode prog_12_method_11_code 88 = .ok (.iconst 1, 1) := by decide +kernel
theorem d_M_isDomain_89 : decode prog_12_method_11_code 89 = .ok (.goto 4, 3) := by decide +kernel
theorem d_M_isDomain_92 : decode prog_12_method_11_code 92 = .ok (.iconst 0, 1) := by decide +kernel
theorem d_M_isDomain_93 : decode prog_12_method_11_code 93 = .ok (.istore_n 3, 1) := by decide +kernel
theorem d_M_isDomain_94 : decode prog_12_method_11_code 94 = .ok (.iload 6, 2) := by decide +kernel
theorem d_M_isDomain_96 : decode prog_12_method_11_code 96 = .ok (.istore 4, 2) := by decide +kernel
theorem d_M_isDomain_98 : decode prog_12_method_11_code 98 = .ok (.iinc 5 1, 3) := by decide +kernel
theorem d_M_isDomain_101 : decode prog_12_method_11_code 101 = .ok (.goto (-75), 3) := by decide +kernel
theorem d_M_isDomain_104 : decode prog_12_method_11_code 104 = .ok (.iload_n 3, 1) := by decide +kernel
theorem d_M_isDomain_105 : decode prog_12_method_11_code 105 = .ok (.ifCond .eq 21, 3) := by decide +kernel
theorem d_M_isDomain_108 : decode prog_12_method_11_code 108 = .ok (.iload 4, 2) := by decide +kernel
theorem d_M_isDomain_110 : decode prog_12_method_11_code 110 = .ok (.bipush 46, 2) := by decide +kernel
theorem d_M_isDomain_112 : decode prog_12_method_11_code 112 = .ok (.if_icmp .eq 14, 3) := by decide +kernel
theorem d_M_isDomain_115 : decode prog_12_method_11_code 115 = .ok (.iload 4, 2) := by decide +kernel
theorem d_M_isDomain_117 : decode prog_12_method_11_code 117 = .ok (.bipush 45, 2) := by decide +kernel
theorem d_M_isDomain_119 : decode prog_12_method_11_code 119 = .ok (.if_icmp .eq 7, 3) := by decide +kernel
theorem d_M_isDomain_122 : decode prog_12_method_11_code 122 = .ok (.iconst 1, 1) := by decide +kernel
theorem d_M_isDomain_123 : decode prog_12_method_11_code 123 = .ok (.goto 4, 3) := by decide +kernel
theorem d_M_isDomain_126 : decode prog_12_method_11_code 126 = .ok (.iconst 0, 1) := by decide +kernel
theorem d_M_isDomain_127 : decode prog_12_method_11_code 127 = .ok (.ireturn, 1) := by decide +kernel
theorem d_M_isAlnum_0 : decode prog_12_method_3_code 0 = .ok (.iload_n 0, 1) := by decide +kernel
theorem d_M_isAlnum_1 : decode prog_12_method_3_code 1 = .ok (.invokestatic 73, 3) := by decide +kernel
theorem d_M_isAlnum_4 : decode prog_12_method_3_code 4 = .ok (.ifCond .ne 15, 3) := by decide +kernel
theorem d_M_isAlnum_7 : decode prog_12_method_3_code 7 = .ok (.iload_n 0, 1) := by decide +kernel
theorem d_M_isAlnum_8 : decode prog_12_method_3_code 8 = .ok (.bipush 48, 2) := by decide +kernel
theorem d_M_isAlnum_10 : decode prog_12_method_3_code 10 = .ok (.if_icmp .lt 13, 3) := by decide +kernel
theorem d_M_isAlnum_13 : decode prog_12_method_3_code 13 = .ok (.iload_n 0, 1) := by decide +kernel
theorem d_M_isAlnum_14 : decode prog_12_method_3_code 14 = .ok (.bipush 57, 2) := by decide +kernel
theorem d_M_isAlnum_16 : decode prog_12_method_3_code 16 = .ok (.if_icmp .gt 7, 3) := by decide +kernel
theorem d_M_isAlnum_19 : decode prog_12_method_3_code 19 = .ok (.iconst 1, 1) := by decide +kernel
theorem d_M_isAlnum_20 : decode prog_12_method_3_code 20 = .ok (.goto 4, 3) := by decide +kernel
theorem d_M_isAlnum_23 : decode prog_12_method_3_code 23 = .ok (.iconst 0, 1) := by decide +kernel
theorem d_M_isAlnum_24 : decode prog_12_method_3_code 24 = .ok (.ireturn, 1) := by decide +kernel
theorem d_M_isLetter_0 : decode prog_12_method_2_code 0 = .ok (.iload_n 0, 1) := by decide +kernel
theorem d_M_isLetter_1 : decode prog_12_method_2_code 1 = .ok (.bipush 97, 2) := by decide +kernel
theorem d_M_isLetter_3 : decode prog_12_method_2_code 3 = .ok (.if_icmp .lt 9, 3) := by decide +kernel
theorem d_M_isLetter_6 : decode prog_12_method_2_code 6 = .ok (.iload_n 0, 1) := by decide +kernel
theorem d_M_isLetter_7 : decode prog_12_method_2_code 7 = .ok (.bipush 122, 2) := by decide +kernel
theorem d_M_isLetter_9 : decode prog_12_method_2_code 9 = .ok (.if_icmp .le 15, 3) := by decide +kernel
theorem d_M_isLetter_12 : decode prog_12_method_2_code 12 = .ok (.iload_n 0, 1) := by decide +kernel
theorem d_M_isLetter_13 : decode prog_12_method_2_code 13 = .ok (.bipush 65, 2) := by decide +kernel
theorem d_M_isLetter_15 : decode prog_12_method_2_code 15 = .ok (.if_icmp .lt 13, 3) := by decide +kernel
theorem d_M_isLetter_18 : decode prog_12_method_2_code 18 = .ok (.iload_n 0, 1) := by decide +kernel
theorem d_M_isLetter_19 : decode prog_12_method_2_code 19 = .ok (.bipush 90, 2) := by decide +kernel
theorem d_M_isLetter_21 : decode prog_12_method_2_code 21 = .ok (.if_icmp .gt 7, 3) := by decide +kernel
theorem d_M_isLetter_24 : decode prog_12_method_2_code 24 = .ok (.iconst 1, 1) := by decide +kernel
theorem d_M_isLetter_25 : decode prog_12_method_2_code 25 = .ok (.goto 4, 3) := by decide +kernel
theorem d_M_isLetter_28 : decode prog_12_method_2_code 28 = .ok (.iconst 0, 1) := by decide +kernel
theorem d_M_isLetter_29 : decode prog_12_method_2_code 29 = .ok (.ireturn, 1) := by decide +kernel
theorem d_M_bracketed_0 : decode prog_12_method_15_code 0 = .ok (.aload_n 0, 1) := by decide +kernel
theorem d_M_bracketed_1 : decode prog_12_method_15_code 1 = .ok (.iconst 5, 1) := by decide +kernel
theorem d_M_bracketed_2 : decode prog_12_method_15_code 2 = .ok (.invokevirtual 122, 3) := by decide +kernel
theorem d_M_bracketed_5 : decode prog_12_method_15_code 5 = .ok (.bipush 102, 2) := by decide +kernel
theorem d_M_bracketed_7 : decode prog_12_method_15_code 7 = .ok (.if_icmp .ne 71, 3) := by decide +kernel
theorem d_M_bracketed_10 : decode prog_12_method_15_code 10 = .ok (.aload_n 0, 1) := by decide +kernel
theorem d_M_bracketed_11 : decode prog_12_method_15_code 11 = .ok (.bipush 6, 2) := by decide +kernel
theorem d_M_bracketed_13 : decode prog_12_method_15_code 13 = .ok (.invokevirtual 122, 3) := by decide +kernel
theorem d_M_bracketed_16 : decode prog_12_method_15_code 16 = .ok (.bipush 114, 2) := by decide +kernel
theorem d_M_bracketed_18 : decode prog_12_method_15_code 18 = .ok (.if_icmp .ne 60, 3) := by decide +kernel
theorem d_M_bracketed_21 : decode prog_12_method_15_code 21 = .ok (.aload_n 0, 1) := by decide +kernel
theorem d_M_bracketed_22 : decode prog_12_method_15_code 22 = .ok (.bipush 7, 2) := by decide +kernel
theorem d_M_bracketed_24 : decode prog_12_method_15_code 24 = .ok (.invokevirtual 122, 3) := by decide +kernel
theorem d_M_bracketed_27 : decode prog_12_method_15_code 27 = .ok (.bipush 111, 2) := by decide +kernel
theorem d_M_bracketed_29 : decode prog_12_method_15_code 29 = .ok (.if_icmp .ne 49, 3) := by decide +kernel
theorem d_M_bracketed_32 : decode prog_12_method_15_code 32 = .ok (.aload_n 0, 1) := by decide +kernel
theorem d_M_bracketed_33 : decode prog_12_method_15_code 33 = .ok (.bipush 8, 2) := by decide +kernel
theorem d_M_bracketed_35 : decode prog_12_method_15_code 35 = .ok (.invokevirtual 122, 3) := by decide +kernel
theorem d_M_bracketed_38 : decode prog_12_method_15_code 38 = .ok (.bipush 109, 2) := by decide +kernel
theorem d_M_bracketed_40 : decode prog_12_method_15_code 40 = .ok (.if_icmp .ne 38, 3) := by decide +kernel
theorem d_M_bracketed_43 : decode prog_12_method_15_code 43 = .ok (.aload_n 0, 1) := by decide +kernel
theorem d_M_bracketed_44 : decode prog_12_method_15_code 44 = .ok (.bipush 9, 2) := by decide +kernel
theorem d_M_bracketed_46 : decode prog_12_method_15_code 46 = .ok (.invokevirtual 122, 3) := by decide +kernel
theorem d_M_bracketed_49 : decode prog_12_method_15_code 49 = .ok (.bipush 58, 2) := by decide +kernel
theorem d_M_bracketed_51 : decode prog_12_method_15_code 51 = .ok (.if_icmp .ne 27, 3) := by decide +kernel
theorem d_M_bracketed_54 : decode prog_12_method_15_code 54 = .ok (.aload_n 0, 1) := by decide +kernel
theorem d_M_bracketed_55 : decode prog_12_method_15_code 55 = .ok (.bipush 10, 2) := by decide +kernel
theorem d_M_bracketed_57 : decode prog_12_method_15_code 57 = .ok (.invokevirtual 122, 3) := by decide +kernel
theorem d_M_bracketed_60 : decode prog_12_method_15_code 60 = .ok (.bipush 60, 2) := by decide +kernel
theorem d_M_bracketed_62 : decode prog_12_method_15_code 62 = .ok (.if_icmp .ne 16, 3) := by decide +kernel
theorem d_M_bracketed_65 : decode prog_12_method_15_code 65 = .ok (.aload_n 0, 1) := by decide +kernel
theorem d_M_bracketed_66 : decode prog_12_method_15_code 66 = .ok (.getfield 79, 3) := by decide +kernel
theorem d_M_bracketed_69 : decode prog_12_method_15_code 69 = .ok (.bipush 11, 2) := by decide +kernel
theorem d_M_bracketed_71 : decode prog_12_method_15_code 71 = .ok (.if_icmp .le 7, 3) := by decide +kernel
theorem d_M_bracketed_74 : decode prog_12_method_15_code 74 = .ok (.iconst 1, 1) := by decide +kernel
theorem d_M_bracketed_75 : decode prog_12_method_15_code 75 = .ok (.goto 4, 3) := by decide +kernel
theorem d_M_bracketed_78 : decode prog_12_method_15_code 78 = .ok (.iconst 0, 1) := by decide +kernel
theorem d_M_bracketed_79 : decode prog_12_method_15_code 79 = .ok (.istore_n 2, 1) := by decide +kernel
theorem d_M_bracketed_80 : decode prog_12_method_15_code 80 = .ok (.aload_n 0, 1) := by decide +kernel
theorem d_M_bracketed_81 : decode prog_12_method_15_code 81 = .ok (.iconst 5, 1) := by decide +kernel
theorem d_M_bracketed_82 : decode prog_12_method_15_code 82 = .ok (.invokevirtual 122, 3) := by decide +kernel
theorem d_M_bracketed_85 : decode prog_12_method_15_code 85 = .ok (.bipush 116, 2) := by decide +kernel
theorem d_M_bracketed_87 : decode prog_12_method_15_code 87 = .ok (.if_icmp .ne 49, 3) := by decide +kernel
theorem d_M_bracketed_90 : decode prog_12_method_15_code 90 = .ok (.aload_n 0, 1) := by decide +kernel
theorem d_M_bracketed_91 : decode prog_12_method_15_code 91 = .ok (.bipush 6, 2) := by decide +kernel
theorem d_M_bracketed_93 : decode prog_12_method_15_code 93 = .ok (.invokevirtual 122, 3) := by decide +kernel
theorem d_M_bracketed_96 : decode prog_12_method_15_code 96 = .ok (.bipush 111, 2) := by decide +kernel
theorem d_M_bracketed_98 : decode prog_12_method_15_code 98 = .ok (.if_icmp .ne 38, 3) := by decide +kernel
theorem d_M_bracketed_101 : decode prog_12_method_15_code 101 = .ok (.aload_n 0, 1) := by decide +kernel
theorem d_M_bracketed_102 : decode prog_12_method_15_code 102 = .ok (.bipush 7, 2) := by decide +kernel
theorem d_M_bracketed_104 : decode prog_12_method_15_code 104 = .ok (.invokevirtual 122, 3) := by decide +kernel
theorem d_M_bracketed_107 : decode prog_12_method_15_code 107 = .ok (.bipush 58, 2) := by decide +kernel
theorem d_M_bracketed_109 : decode prog_12_method_15_code 109 = .ok (.if_icmp .ne 27, 3) := by decide +kernel
theorem d_M_bracketed_112 : decode prog_12_method_15_code 112 = .ok (.aload_n 0, 1) := by decide +kernel
theorem d_M_bracketed_113 : decode prog_12_method_15_code 113 = .ok (.bipush 8, 2) := by decide +kernel
theorem d_M_bracketed_115 : decode prog_12_method_15_code 115 = .ok (.invokevirtual 122, 3) := by decide +kernel
theorem d_M_bracketed_118 : decode prog_12_method_15_code 118 = .ok (.bipush 60, 2) := by decide +kernel
theorem d_M_bracketed_120 : decode prog_12_method_15_code 120 = .ok (.if_icmp .ne 16, 3) := by decide +kernel
theorem d_M_bracketed_123 : decode prog_12_method_15_code 123 = .ok (.aload_n 0, 1) := by decide +kernel
theorem d_M_bracketed_124 : decode prog_12_method_15_code 124 = .ok (.getfield 79, 3) := by decide +kernel
theorem d_M_bracketed_127 : decode prog_12_method_15_code 127 = .ok (.bipush 9, 2) := by decide +kernel
theorem d_M_bracketed_129 : decode prog_12_method_15_code 129 = .ok (.if_icmp .le 7, 3) := by decide +kernel
theorem d_M_bracketed_132 : decode prog_12_method_15_code 132 = .ok (.iconst 1, 1) := by decide +kernel
theorem d_M_bracketed_133 : decode prog_12_method_15_code 133 = .ok (.goto 4, 3) := by decide +kernel
theorem d_M_bracketed_136 : decode prog_12_method_15_code 136 = .ok (.iconst 0, 1) := by decide +kernel
theorem d_M_bracketed_137 : decode prog_12_method_15_code 137 = .ok (.istore_n 3, 1) := by decide +kernel
theorem d_M_bracketed_138 : decode prog_12_method_15_code 138 = .ok (.iload_n 1, 1) := by decide +kernel
theorem d_M_bracketed_139 : decode prog_12_method_15_code 139 = .ok (.ifCond .eq 10, 3) := by decide +kernel
theorem d_M_bracketed_142 : decode prog_12_method_15_code 142 = .ok (.iload_n 2, 1) := by decide +kernel
theorem d_M_bracketed_143 : decode prog_12_method_15_code 143 = .ok (.ifCond .eq 30, 3) := by decide +kernel
theorem d_M_bracketed_146 : decode prog_12_method_15_code 146 = .ok (.goto 7, 3) := by decide +kernel
theorem d_M_bracketed_149 : decode prog_12_method_15_code 149 = .ok (.iload_n 3, 1) := by decide +kernel
theorem d_M_bracketed_150 : decode prog_12_method_15_code 150 = .ok (.ifCond .eq 23, 3) := by decide +kernel
theorem d_M_bracketed_153 : decode prog_12_method_15_code 153 = .ok (.aload_n 0, 1) := by decide +kernel
theorem d_M_bracketed_154 : decode prog_12_method_15_code 154 = .ok (.getfield 17, 3) := by decide +kernel
theorem d_M_bracketed_157 : decode prog_12_method_15_code 157 = .ok (.aload_n 0, 1) := by decide +kernel
theorem d_M_bracketed_158 : decode prog_12_method_15_code 158 = .ok (.getfield 79, 3) := by decide +kernel
theorem d_M_bracketed_161 : decode prog_12_method_15_code 161 = .ok (.iconst 1, 1) := by decide +kernel
theorem d_M_bracketed_162 : decode prog_12_method_15_code 162 = .ok (.isub, 1) := by decide +kernel
theorem d_M_bracketed_163 : decode prog_12_method_15_code 163 = .ok (.iaload, 1) := by decide +kernel
theorem d_M_bracketed_164 : decode prog_12_method_15_code 164 = .ok (.bipush 62, 2) := by decide +kernel
theorem d_M_bracketed_166 : decode prog_12_method_15_code 166 = .ok (.if_icmp .ne 7, 3) := by decide +kernel
theorem d_M_bracketed_169 : decode prog_12_method_15_code 169 = .ok (.iconst 1, 1) := by decide +kernel
theorem d_M_bracketed_170 : decode prog_12_method_15_code 170 = .ok (.goto 4, 3) := by decide +kernel
theorem d_M_bracketed_173 : decode prog_12_method_15_code 173 = .ok (.iconst 0, 1) := by decide +kernel
theorem d_M_bracketed_174 : decode prog_12_method_15_code 174 = .ok (.ireturn, 1) := by decide +kernel
theorem d_M_isPath_0 : decode prog_12_method_13_code 0 = .ok (.iload_n 1, 1) := by decide +kernel
theorem d_M_isPath_1 : decode prog_12_method_13_code 1 = .ok (.istore_n 3, 1) := by decide +kernel
theorem d_M_isPath_2 : decode prog_12_method_13_code 2 = .ok (.iload_n 3, 1) := by decide +kernel
theorem d_M_isPath_3 : decode prog_12_method_13_code 3 = .ok (.iload_n 2, 1) := by decide +kernel
theorem d_M_isPath_4 : decode prog_12_method_13_code 4 = .ok (.if_icmp .ge 21, 3) := by decide +kernel
theorem d_M_isPath_7 : decode prog_12_method_13_code 7 = .ok (.aload_n 0, 1) := by decide +kernel
theorem d_M_isPath_8 : decode prog_12_method_13_code 8 = .ok (.getfield 17, 3) := by decide +kernel
theorem d_M_isPath_11 : decode prog_12_method_13_code 11 = .ok (.iload_n 3, 1) := by decide +kernel
theorem d_M_isPath_12 : decode prog_12_method_13_code 12 = .ok (.iaload, 1) := by decide +kernel
theorem d_M_isPath_13 : decode prog_12_method_13_code 13 = .ok (.bipush 64, 2) := by decide +kernel
theorem d_M_isPath_15 : decode prog_12_method_13_code 15 = .ok (.if_icmp .eq 10, 3) := by decide +kernel
theorem d_M_isPath_18 : decode prog_12_method_13_code 18 = .ok (.iload_n 3, 1) := by decide +kernel
theorem d_M_isPath_19 : decode prog_12_method_13_code 19 = .ok (.iconst 1, 1) := by decide +kernel
theorem d_M_isPath_20 : decode prog_12_method_13_code 20 = .ok (.iadd, 1) := by decide +kernel
theorem d_M_isPath_21 : decode prog_12_method_13_code 21 = .ok (.istore_n 3, 1) := by decide +kernel
theorem d_M_isPath_22 : decode prog_12_method_13_code 22 = .ok (.goto (-20), 3) := by decide +kernel
theorem d_M_isPath_25 : decode prog_12_method_13_code 25 = .ok (.iload_n 2, 1) := by decide +kernel
theorem d_M_isPath_26 : decode prog_12_method_13_code 26 = .ok (.iload_n 1, 1) := by decide +kernel
theorem d_M_isPath_27 : decode prog_12_method_13_code 27 = .ok (.isub, 1) := by decide +kernel
theorem d_M_isPath_28 : decode prog_12_method_13_code 28 = .ok (.bipush 40, 2) := by decide +kernel
theorem d_M_isPath_30 : decode prog_12_method_13_code 30 = .ok (.if_icmp .gt 32, 3) := by decide +kernel
theorem d_M_isPath_33 : decode prog_12_method_13_code 33 = .ok (.iload_n 3, 1) := by decide +kernel
theorem d_M_isPath_34 : decode prog_12_method_13_code 34 = .ok (.iload_n 2, 1) := by decide +kernel
theorem d_M_isPath_35 : decode prog_12_method_13_code 35 = .ok (.if_icmp .ge 27, 3) := by decide +kernel
theorem d_M_isPath_38 : decode prog_12_method_13_code 38 = .ok (.aload_n 0, 1) := by decide +kernel
theorem d_M_isPath_39 : decode prog_12_method_13_code 39 = .ok (.iload_n 1, 1) := by decide +kernel
theorem d_M_isPath_40 : decode prog_12_method_13_code 40 = .ok (.iload_n 3, 1) := by decide +kernel
theorem d_M_isPath_41 : decode prog_12_method_13_code 41 = .ok (.invokevirtual 111, 3) := by decide +kernel
theorem d_M_isPath_44 : decode prog_12_method_13_code 44 = .ok (.ifCond .eq 18, 3) := by decide +kernel
theorem d_M_isPath_47 : decode prog_12_method_13_code 47 = .ok (.aload_n 0, 1) := by decide +kernel
theorem d_M_isPath_48 : decode prog_12_method_13_code 48 = .ok (.iload_n 3, 1) := by decide +kernel
theorem d_M_isPath_49 : decode prog_12_method_13_code 49 = .ok (.iconst 1, 1) := by decide +kernel
theorem d_M_isPath_50 : decode prog_12_method_13_code 50 = .ok (.iadd, 1) := by decide +kernel
theorem d_M_isPath_51 : decode prog_12_method_13_code 51 = .ok (.iload_n 2, 1) := by decide +kernel
theorem d_M_isPath_52 : decode prog_12_method_13_code 52 = .ok (.invokevirtual 115, 3) := by decide +kernel
theorem d_M_isPath_55 : decode prog_12_method_13_code 55 = .ok (.ifCond .eq 7, 3) := by decide +kernel
theorem d_M_isPath_58 : decode prog_12_method_13_code 58 = .ok (.iconst 1, 1) := by decide +kernel
theorem d_M_isPath_59 : decode prog_12_method_13_code 59 = .ok (.goto 4, 3) := by decide +kernel
theorem d_M_isPath_62 : decode prog_12_method_13_code 62 = .ok (.iconst 0, 1) := by decide +kernel
theorem d_M_isPath_63 : decode prog_12_method_13_code 63 = .ok (.ireturn, 1) := by decide +kernel
theorem d_M_isLocal_0 : decode prog_12_method_12_code 0 = .ok (.iload_n 2, 1) := by decide +kernel
theorem d_M_isLocal_1 : decode prog_12_method_12_code 1 = .ok (.iload_n 1, 1) := by decide +kernel
theorem d_M_isLocal_2 : decode prog_12_method_12_code 2 = .ok (.if_icmp .le 7, 3) := by decide +kernel
theorem d_M_isLocal_5 : decode prog_12_method_12_code 5 = .ok (.iconst 1, 1) := by decide +kernel
theorem d_M_isLocal_6 : decode prog_12_method_12_code 6 = .ok (.goto 4, 3) := by decide +kernel
theorem d_M_isLocal_9 : decode prog_12_method_12_code 9 = .ok (.iconst 0, 1) := by decide +kernel
theorem d_M_isLocal_10 : decode prog_12_method_12_code 10 = .ok (.istore_n 3, 1) := by decide +kernel
theorem d_M_isLocal_11 : decode prog_12_method_12_code 11 = .ok (.bipush 46, 2) := by decide +kernel
theorem d_M_isLocal_13 : decode prog_12_method_12_code 13 = .ok (.istore 4, 2) := by decide +kernel
theorem d_M_isLocal_15 : decode prog_12_method_12_code 15 = .ok (.iload_n 1, 1) := by decide +kernel
theorem d_M_isLocal_16 : decode prog_12_method_12_code 16 = .ok (.istore 5, 2) := by decide +kernel
theorem d_M_isLocal_18 : decode prog_12_method_12_code 18 = .ok (.iload 5, 2) := by decide +kernel
theorem d_M_isLocal_20 : decode prog_12_method_12_code 20 = .ok (.iload_n 2, 1) := by decide +kernel
theorem d_M_isLocal_21 : decode prog_12_method_12_code 21 = .ok (.if_icmp .ge 75, 3) := by decide +kernel
theorem d_M_isLocal_24 : decode prog_12_method_12_code 24 = .ok (.aload_n 0, 1) := by decide +kernel
theorem d_M_isLocal_25 : decode prog_12_method_12_code 25 = .ok (.getfield 17, 3) := by decide +kernel
theorem d_M_isLocal_28 : decode prog_12_method_12_code 28 = .ok (.iload 5, 2) := by decide +kernel
theorem d_M_isLocal_30 : decode prog_12_method_12_code 30 = .ok (.iaload, 1) := by decide +kernel
theorem d_M_isLocal_31 : decode prog_12_method_12_code 31 = .ok (.istore 6, 2) := by decide +kernel
theorem d_M_isLocal_33 : decode prog_12_method_12_code 33 = .ok (.iload_n 3, 1) := by decide +kernel
theorem d_M_isLocal_34 : decode prog_12_method_12_code 34 = .ok (.ifCond .eq 50, 3) := by decide +kernel
theorem d_M_isLocal_37 : decode prog_12_method_12_code 37 = .ok (.iload 6, 2) := by decide +kernel
theorem d_M_isLocal_39 : decode prog_12_method_12_code 39 = .ok (.invokestatic 108, 3) := by decide +kernel
theorem d_M_isLocal_42 : decode prog_12_method_12_code 42 = .ok (.ifCond .ne 38, 3) := by decide +kernel
theorem d_M_isLocal_45 : decode prog_12_method_12_code 45 = .ok (.iload 6, 2) := by decide +kernel
theorem d_M_isLocal_47 : decode prog_12_method_12_code 47 = .ok (.bipush 45, 2) := by decide +kernel
theorem d_M_isLocal_49 : decode prog_12_method_12_code 49 = .ok (.if_icmp .eq 31, 3) := by decide +kernel
theorem d_M_isLocal_52 : decode prog_12_method_12_code 52 = .ok (.iload 6, 2) := by decide +kernel
theorem d_M_isLocal_54 : decode prog_12_method_12_code 54 = .ok (.bipush 95, 2) := by decide +kernel
theorem d_M_isLocal_56 : decode prog_12_method_12_code 56 = .ok (.if_icmp .eq 24, 3) := by decide +kernel
theorem d_M_isLocal_59 : decode prog_12_method_12_code 59 = .ok (.iload 6, 2) := by decide +kernel
theorem d_M_isLocal_61 : decode prog_12_method_12_code 61 = .ok (.bipush 43, 2) := by decide +kernel
theorem d_M_isLocal_63 : decode prog_12_method_12_code 63 = .ok (.if_icmp .eq 17, 3) := by decide +kernel
theorem d_M_isLocal_66 : decode prog_12_method_12_code 66 = .ok (.iload 6, 2) := by decide +kernel
theorem d_M_isLocal_68 : decode prog_12_method_12_code 68 = .ok (.bipush 46, 2) := by decide +kernel
theorem d_M_isLocal_70 : decode prog_12_method_12_code 70 = .ok (.if_icmp .ne 14, 3) := by decide +kernel
theorem d_M_isLocal_73 : decode prog_12_method_12_code 73 = .ok (.iload 4, 2) := by decide +kernel
theorem d_M_isLocal_75 : decode prog_12_method_12_code 75 = .ok (.bipush 46, 2) := by decide +kernel
theorem d_M_isLocal_77 : decode prog_12_method_12_code 77 = .ok (.if_icmp .eq 7, 3) := by decide +kernel
theorem d_M_isLocal_80 : decode prog_12_method_12_code 80 = .ok (.iconst 1, 1) := by decide +kernel
theorem d_M_isLocal_81 : decode prog_12_method_12_code 81 = .ok (.goto 4, 3) := by decide +kernel
theorem d_M_isLocal_84 : decode prog_12_method_12_code 84 = .ok (.iconst 0, 1) := by decide +kernel
theorem d_M_isLocal_85 : decode prog_12_method_12_code 85 = .ok (.istore_n 3, 1) := by decide +kernel
theorem d_M_isLocal_86 : decode prog_12_method_12_code 86 = .ok (.iload 6, 2) := by decide +kernel
theorem d_M_isLocal_88 : decode prog_12_method_12_code 88 = .ok (.istore 4, 2) := by decide +kernel
theorem d_M_isLocal_90 : decode prog_12_method_12_code 90 = .ok (.iinc 5 1, 3) := by decide +kernel
theorem d_M_isLocal_93 : decode prog_12_method_12_code 93 = .ok (.goto (-75), 3) := by decide +kernel
theorem d_M_isLocal_96 : decode prog_12_method_12_code 96 = .ok (.iload_n 3, 1) := by decide +kernel
theorem d_M_isLocal_97 : decode prog_12_method_12_code 97 = .ok (.ifCond .eq 14, 3) := by decide +kernel
theorem d_M_isLocal_100 : decode prog_12_method_12_code 100 = .ok (.iload 4, 2) := by decide +kernel
theorem d_M_isLocal_102 : decode prog_12_method_12_code 102 = .ok (.bipush 46, 2) := by decide +kernel
theorem d_M_isLocal_104 : decode prog_12_method_12_code 104 = .ok (.if_icmp .eq 7, 3) := by decide +kernel
theorem d_M_isLocal_107 : decode prog_12_method_12_code 107 = .ok (.iconst 1, 1) := by decide +kernel
theorem d_M_isLocal_108 : decode prog_12_method_12_code 108 = .ok (.goto 4, 3) := by decide +kernel
theorem d_M_isLocal_111 : decode prog_12_method_12_code 111 = .ok (.iconst 0, 1) := by decide +kernel
theorem d_M_isLocal_112 : decode prog_12_method_12_code 112 = .ok (.ireturn, 1) := by decide +kernel
theorem d_M_mail_0 : decode prog_12_method_20_code 0 = .ok (.aload_n 0, 1) := by decide +kernel
theorem d_M_mail_1 : decode prog_12_method_20_code 1 = .ok (.getfield 82, 3) := by decide +kernel
theorem d_M_mail_4 : decode prog_12_method_20_code 4 = .ok (.ifCond .eq 10, 3) := by decide +kernel
theorem d_M_mail_7 : decode prog_12_method_20_code 7 = .ok (.aload_n 0, 1) := by decide +kernel
theorem d_M_mail_8 : decode prog_12_method_20_code 8 = .ok (.getfield 85, 3) := by decide +kernel
theorem d_M_mail_11 : decode prog_12_method_20_code 11 = .ok (.ifCond .eq 7, 3) := by decide +kernel
theorem d_M_mail_14 : decode prog_12_method_20_code 14 = .ok (.sipush 503, 3) := by decide +kernel
theorem d_M_mail_17 : decode prog_12_method_20_code 17 = .ok (.ireturn, 1) := by decide +kernel
theorem d_M_mail_18 : decode prog_12_method_20_code 18 = .ok (.aload_n 0, 1) := by decide +kernel
theorem d_M_mail_19 : decode prog_12_method_20_code 19 = .ok (.invokevirtual 153, 3) := by decide +kernel
theorem d_M_mail_22 : decode prog_12_method_20_code 22 = .ok (.bipush 6, 2) := by decide +kernel
theorem d_M_mail_24 : decode prog_12_method_20_code 24 = .ok (.if_icmp .ne 7, 3) := by decide +kernel
theorem d_M_mail_27 : decode prog_12_method_20_code 27 = .ok (.sipush 452, 3) := by decide +kernel
theorem d_M_mail_30 : decode prog_12_method_20_code 30 = .ok (.ireturn, 1) := by decide +kernel
theorem d_M_mail_31 : decode prog_12_method_20_code 31 = .ok (.aload_n 0, 1) := by decide +kernel
theorem d_M_mail_32 : decode prog_12_method_20_code 32 = .ok (.iconst 1, 1) := by decide +kernel
theorem d_M_mail_33 : decode prog_12_method_20_code 33 = .ok (.putfield 85, 3) := by decide +kernel
theorem d_M_mail_36 : decode prog_12_method_20_code 36 = .ok (.aload_n 0, 1) := by decide +kernel
theorem d_M_mail_37 : decode prog_12_method_20_code 37 = .ok (.getfield 40, 3) := by decide +kernel
theorem d_M_mail_40 : decode prog_12_method_20_code 40 = .ok (.bipush 6, 2) := by decide +kernel
theorem d_M_mail_42 : decode prog_12_method_20_code 42 = .ok (.iconst 0, 1) := by decide +kernel
theorem d_M_mail_43 : decode prog_12_method_20_code 43 = .ok (.iastore, 1) := by decide +kernel
theorem d_M_mail_44 : decode prog_12_method_20_code 44 = .ok (.aload_n 0, 1) := by decide +kernel
theorem d_M_mail_45 : decode prog_12_method_20_code 45 = .ok (.bipush 11, 2) := by decide +kernel
theorem d_M_mail_47 : decode prog_12_method_20_code 47 = .ok (.iconst 4, 1) := by decide +kernel
theorem d_M_mail_48 : decode prog_12_method_20_code 48 = .ok (.invokevirtual 156, 3) := by decide +kernel
theorem d_M_mail_51 : decode prog_12_method_20_code 51 = .ok (.sipush 250, 3) := by decide +kernel
theorem d_M_mail_54 : decode prog_12_method_20_code 54 = .ok (.ireturn, 1) := by decide +kernel
theorem d_M_keepPath_0 : decode prog_12_method_18_code 0 = .ok (.aload_n 0, 1) := by decide +kernel
theorem d_M_keepPath_1 : decode prog_12_method_18_code 1 = .ok (.getfield 37, 3) := by decide +kernel
theorem d_M_keepPath_4 : decode prog_12_method_18_code 4 = .ok (.bipush 30, 2) := by decide +kernel
theorem d_M_keepPath_6 : decode prog_12_method_18_code 6 = .ok (.iload_n 2, 1) := by decide +kernel
theorem d_M_keepPath_7 : decode prog_12_method_18_code 7 = .ok (.iadd, 1) := by decide +kernel
theorem d_M_keepPath_8 : decode prog_12_method_18_code 8 = .ok (.aload_n 0, 1) := by decide +kernel
theorem d_M_keepPath_9 : decode prog_12_method_18_code 9 = .ok (.getfield 79, 3) := by decide +kernel
theorem d_M_keepPath_12 : decode prog_12_method_18_code 12 = .ok (.iconst 1, 1) := by decide +kernel
theorem d_M_keepPath_13 : decode prog_12_method_18_code 13 = .ok (.isub, 1) := by decide +kernel
theorem d_M_keepPath_14 : decode prog_12_method_18_code 14 = .ok (.iload_n 1, 1) := by decide +kernel
theorem d_M_keepPath_15 : decode prog_12_method_18_code 15 = .ok (.isub, 1) := by decide +kernel
theorem d_M_keepPath_16 : decode prog_12_method_18_code 16 = .ok (.iastore, 1) := by decide +kernel
theorem d_M_keepPath_17 : decode prog_12_method_18_code 17 = .ok (.iload_n 1, 1) := by decide +kernel
theorem d_M_keepPath_18 : decode prog_12_method_18_code 18 = .ok (.istore_n 3, 1) := by decide +kernel
theorem d_M_keepPath_19 : decode prog_12_method_18_code 19 = .ok (.iload_n 3, 1) := by decide +kernel
theorem d_M_keepPath_20 : decode prog_12_method_18_code 20 = .ok (.aload_n 0, 1) := by decide +kernel
theorem d_M_keepPath_21 : decode prog_12_method_18_code 21 = .ok (.getfield 79, 3) := by decide +kernel
theorem d_M_keepPath_24 : decode prog_12_method_18_code 24 = .ok (.iconst 1, 1) := by decide +kernel
theorem d_M_keepPath_25 : decode prog_12_method_18_code 25 = .ok (.isub, 1) := by decide +kernel
theorem d_M_keepPath_26 : decode prog_12_method_18_code 26 = .ok (.if_icmp .ge 31, 3) := by decide +kernel
theorem d_M_keepPath_29 : decode prog_12_method_18_code 29 = .ok (.aload_n 0, 1) := by decide +kernel
theorem d_M_keepPath_30 : decode prog_12_method_18_code 30 = .ok (.getfield 34, 3) := by decide +kernel
theorem d_M_keepPath_33 : decode prog_12_method_18_code 33 = .ok (.bipush 40, 2) := by decide +kernel
theorem d_M_keepPath_35 : decode prog_12_method_18_code 35 = .ok (.bipush 30, 2) := by decide +kernel
theorem d_M_keepPath_37 : decode prog_12_method_18_code 37 = .ok (.iload_n 2, 1) := by decide +kernel
theorem d_M_keepPath_38 : decode prog_12_method_18_code 38 = .ok (.iadd, 1) := by decide +kernel
theorem d_M_keepPath_39 : decode prog_12_method_18_code 39 = .ok (.imul, 1) := by decide +kernel
theorem d_M_keepPath_40 : decode prog_12_method_18_code 40 = .ok (.iload_n 3, 1) := by decide +kernel
theorem d_M_keepPath_41 : decode prog_12_method_18_code 41 = .ok (.iadd, 1) := by decide +kernel
theorem d_M_keepPath_42 : decode prog_12_method_18_code 42 = .ok (.iload_n 1, 1) := by decide +kernel
theorem d_M_keepPath_43 : decode prog_12_method_18_code 43 = .ok (.isub, 1) := by decide +kernel
theorem d_M_keepPath_44 : decode prog_12_method_18_code 44 = .ok (.aload_n 0, 1) := by decide +kernel
theorem d_M_keepPath_45 : decode prog_12_method_18_code 45 = .ok (.getfield 17, 3) := by decide +kernel
theorem d_M_keepPath_48 : decode prog_12_method_18_code 48 = .ok (.iload_n 3, 1) := by decide +kernel
theorem d_M_keepPath_49 : decode prog_12_method_18_code 49 = .ok (.iaload, 1) := by decide +kernel
theorem d_M_keepPath_50 : decode prog_12_method_18_code 50 = .ok (.iastore, 1) := by decide +kernel
theorem d_M_keepPath_51 : decode prog_12_method_18_code 51 = .ok (.iinc 3 1, 3) := by decide +kernel
theorem d_M_keepPath_54 : decode prog_12_method_18_code 54 = .ok (.goto (-35), 3) := by decide +kernel
theorem d_M_keepPath_57 : decode prog_12_method_18_code 57 = .ok (.return_, 1) := by decide +kernel
theorem d_M_recipient0_0 : decode prog_12_method_21_code 0 = .ok (.aload_n 0, 1) := by decide +kernel
theorem d_M_recipient0_1 : decode prog_12_method_21_code 1 = .ok (.getfield 85, 3) := by decide +kernel
theorem d_M_recipient0_4 : decode prog_12_method_21_code 4 = .ok (.ifCond .ne 7, 3) := by decide +kernel
theorem d_M_recipient0_7 : decode prog_12_method_21_code 7 = .ok (.sipush 503, 3) := by decide +kernel
theorem d_M_recipient0_10 : decode prog_12_method_21_code 10 = .ok (.ireturn, 1) := by decide +kernel
theorem d_M_recipient0_11 : decode prog_12_method_21_code 11 = .ok (.aload_n 0, 1) := by decide +kernel
theorem d_M_recipient0_12 : decode prog_12_method_21_code 12 = .ok (.getfield 40, 3) := by decide +kernel
theorem d_M_recipient0_15 : decode prog_12_method_21_code 15 = .ok (.bipush 6, 2) := by decide +kernel
theorem d_M_recipient0_17 : decode prog_12_method_21_code 17 = .ok (.iaload, 1) := by decide +kernel
theorem d_M_recipient0_18 : decode prog_12_method_21_code 18 = .ok (.iconst 4, 1) := by decide +kernel
theorem d_M_recipient0_19 : decode prog_12_method_21_code 19 = .ok (.if_icmp .ne 7, 3) := by decide +kernel
theorem d_M_recipient0_22 : decode prog_12_method_21_code 22 = .ok (.sipush 452, 3) := by decide +kernel
theorem d_M_recipient0_25 : decode prog_12_method_21_code 25 = .ok (.ireturn, 1) := by decide +kernel
theorem d_M_recipient0_26 : decode prog_12_method_21_code 26 = .ok (.aload_n 0, 1) := by decide +kernel
theorem d_M_recipient0_27 : decode prog_12_method_21_code 27 = .ok (.bipush 9, 2) := by decide +kernel
theorem d_M_recipient0_29 : decode prog_12_method_21_code 29 = .ok (.aload_n 0, 1) := by decide +kernel
theorem d_M_recipient0_30 : decode prog_12_method_21_code 30 = .ok (.getfield 40, 3) := by decide +kernel
theorem d_M_recipient0_33 : decode prog_12_method_21_code 33 = .ok (.bipush 6, 2) := by decide +kernel
theorem d_M_recipient0_35 : decode prog_12_method_21_code 35 = .ok (.iaload, 1) := by decide +kernel
theorem d_M_recipient0_36 : decode prog_12_method_21_code 36 = .ok (.invokevirtual 156, 3) := by decide +kernel
theorem d_M_recipient0_39 : decode prog_12_method_21_code 39 = .ok (.aload_n 0, 1) := by decide +kernel
theorem d_M_recipient0_40 : decode prog_12_method_21_code 40 = .ok (.getfield 40, 3) := by decide +kernel
theorem d_M_recipient0_43 : decode prog_12_method_21_code 43 = .ok (.bipush 6, 2) := by decide +kernel
theorem d_M_recipient0_45 : decode prog_12_method_21_code 45 = .ok (.aload_n 0, 1) := by decide +kernel
theorem d_M_recipient0_46 : decode prog_12_method_21_code 46 = .ok (.getfield 40, 3) := by decide +kernel
theorem d_M_recipient0_49 : decode prog_12_method_21_code 49 = .ok (.bipush 6, 2) := by decide +kernel
theorem d_M_recipient0_51 : decode prog_12_method_21_code 51 = .ok (.iaload, 1) := by decide +kernel
theorem d_M_recipient0_52 : decode prog_12_method_21_code 52 = .ok (.iconst 1, 1) := by decide +kernel
theorem d_M_recipient0_53 : decode prog_12_method_21_code 53 = .ok (.iadd, 1) := by decide +kernel
theorem d_M_recipient0_54 : decode prog_12_method_21_code 54 = .ok (.iastore, 1) := by decide +kernel
theorem d_M_recipient0_55 : decode prog_12_method_21_code 55 = .ok (.sipush 250, 3) := by decide +kernel
theorem d_M_recipient0_58 : decode prog_12_method_21_code 58 = .ok (.ireturn, 1) := by decide +kernel
theorem d_M_breakAfter_0 : decode prog_12_method_25_code 0 = .ok (.aload_n 0, 1) := by decide +kernel
theorem d_M_breakAfter_1 : decode prog_12_method_25_code 1 = .ok (.getfield 7, 3) := by decide +kernel
theorem d_M_breakAfter_4 : decode prog_12_method_25_code 4 = .ok (.ifCond .eq 13, 3) := by decide +kernel
theorem d_M_breakAfter_7 : decode prog_12_method_25_code 7 = .ok (.iload_n 1, 1) := by decide +kernel
theorem d_M_breakAfter_8 : decode prog_12_method_25_code 8 = .ok (.ifCond .lt 9, 3) := by decide +kernel
theorem d_M_breakAfter_11 : decode prog_12_method_25_code 11 = .ok (.iload_n 1, 1) := by decide +kernel
theorem d_M_breakAfter_12 : decode prog_12_method_25_code 12 = .ok (.bipush 20, 2) := by decide +kernel
theorem d_M_breakAfter_14 : decode prog_12_method_25_code 14 = .ok (.if_icmp .le 5, 3) := by decide +kernel
theorem d_M_breakAfter_17 : decode prog_12_method_25_code 17 = .ok (.iconst 0, 1) := by decide +kernel
theorem d_M_breakAfter_18 : decode prog_12_method_25_code 18 = .ok (.ireturn, 1) := by decide +kernel
theorem d_M_breakAfter_19 : decode prog_12_method_25_code 19 = .ok (.aload_n 0, 1) := by decide +kernel
theorem d_M_breakAfter_20 : decode prog_12_method_25_code 20 = .ok (.iload_n 1, 1) := by decide +kernel
theorem d_M_breakAfter_21 : decode prog_12_method_25_code 21 = .ok (.putfield 13, 3) := by decide +kernel
theorem d_M_breakAfter_24 : decode prog_12_method_25_code 24 = .ok (.iconst 1, 1) := by decide +kernel
theorem d_M_breakAfter_25 : decode prog_12_method_25_code 25 = .ok (.ireturn, 1) := by decide +kernel
theorem d_M_restart_0 : decode prog_12_method_26_code 0 = .ok (.aload_n 0, 1) := by decide +kernel
theorem d_M_restart_1 : decode prog_12_method_26_code 1 = .ok (.getfield 7, 3) := by decide +kernel
theorem d_M_restart_4 : decode prog_12_method_26_code 4 = .ok (.ifCond .eq 5, 3) := by decide +kernel
theorem d_M_restart_7 : decode prog_12_method_26_code 7 = .ok (.iconst (-1), 1) := by decide +kernel
theorem d_M_restart_8 : decode prog_12_method_26_code 8 = .ok (.ireturn, 1) := by decide +kernel
theorem d_M_restart_9 : decode prog_12_method_26_code 9 = .ok (.aload_n 0, 1) := by decide +kernel
theorem d_M_restart_10 : decode prog_12_method_26_code 10 = .ok (.iconst 1, 1) := by decide +kernel
theorem d_M_restart_11 : decode prog_12_method_26_code 11 = .ok (.putfield 7, 3) := by decide +kernel
theorem d_M_restart_14 : decode prog_12_method_26_code 14 = .ok (.aload_n 0, 1) := by decide +kernel
theorem d_M_restart_15 : decode prog_12_method_26_code 15 = .ok (.iconst (-1), 1) := by decide +kernel
theorem d_M_restart_16 : decode prog_12_method_26_code 16 = .ok (.putfield 13, 3) := by decide +kernel
theorem d_M_restart_19 : decode prog_12_method_26_code 19 = .ok (.aload_n 0, 1) := by decide +kernel
theorem d_M_restart_20 : decode prog_12_method_26_code 20 = .ok (.iconst 0, 1) := by decide +kernel
theorem d_M_restart_21 : decode prog_12_method_26_code 21 = .ok (.putfield 79, 3) := by decide +kernel
theorem d_M_restart_24 : decode prog_12_method_26_code 24 = .ok (.iconst 0, 1) := by decide +kernel
theorem d_M_restart_25 : decode prog_12_method_26_code 25 = .ok (.istore_n 1, 1) := by decide +kernel
theorem d_M_restart_26 : decode prog_12_method_26_code 26 = .ok (.iload_n 1, 1) := by decide +kernel
theorem d_M_restart_27 : decode prog_12_method_26_code 27 = .ok (.bipush 6, 2) := by decide +kernel
theorem d_M_restart_29 : decode prog_12_method_26_code 29 = .ok (.if_icmp .ge 34, 3) := by decide +kernel
theorem d_M_restart_32 : decode prog_12_method_26_code 32 = .ok (.aload_n 0, 1) := by decide +kernel
theorem d_M_restart_33 : decode prog_12_method_26_code 33 = .ok (.getfield 21, 3) := by decide +kernel
theorem d_M_restart_36 : decode prog_12_method_26_code 36 = .ok (.iload_n 1, 1) := by decide +kernel
theorem d_M_restart_37 : decode prog_12_method_26_code 37 = .ok (.aload_n 0, 1) := by decide +kernel
theorem d_M_restart_38 : decode prog_12_method_26_code 38 = .ok (.getfield 24, 3) := by decide +kernel
theorem d_M_restart_41 : decode prog_12_method_26_code 41 = .ok (.iload_n 1, 1) := by decide +kernel
theorem d_M_restart_42 : decode prog_12_method_26_code 42 = .ok (.baload, 1) := by decide +kernel
theorem d_M_restart_43 : decode prog_12_method_26_code 43 = .ok (.ifCond .eq 12, 3) := by decide +kernel
theorem d_M_restart_46 : decode prog_12_method_26_code 46 = .ok (.aload_n 0, 1) := by decide +kernel
theorem d_M_restart_47 : decode prog_12_method_26_code 47 = .ok (.getfield 21, 3) := by decide +kernel
theorem d_M_restart_50 : decode prog_12_method_26_code 50 = .ok (.iload_n 1, 1) := by decide +kernel
theorem d_M_restart_51 : decode prog_12_method_26_code 51 = .ok (.iaload, 1) := by decide +kernel
theorem d_M_restart_52 : decode prog_12_method_26_code 52 = .ok (.goto 4, 3) := by decide +kernel
theorem d_M_restart_55 : decode prog_12_method_26_code 55 = .ok (.iconst (-1), 1) := by decide +kernel
theorem d_M_restart_56 : decode prog_12_method_26_code 56 = .ok (.iastore, 1) := by decide +kernel
theorem d_M_restart_57 : decode prog_12_method_26_code 57 = .ok (.iinc 1 1, 3) := by decide +kernel
theorem d_M_restart_60 : decode prog_12_method_26_code 60 = .ok (.goto (-34), 3) := by decide +kernel
theorem d_M_restart_63 : decode prog_12_method_26_code 63 = .ok (.aload_n 0, 1) := by decide +kernel
theorem d_M_restart_64 : decode prog_12_method_26_code 64 = .ok (.invokevirtual 171, 3) := by decide +kernel
theorem d_M_restart_67 : decode prog_12_method_26_code 67 = .ok (.ireturn, 1) := by decide +kernel
theorem d_M_letters_0 : decode prog_12_method_51_code 0 = .ok (.iconst 0, 1) := by decide +kernel
theorem d_M_letters_1 : decode prog_12_method_51_code 1 = .ok (.istore_n 1, 1) := by decide +kernel
theorem d_M_letters_2 : decode prog_12_method_51_code 2 = .ok (.iconst 0, 1) := by decide +kernel
theorem d_M_letters_3 : decode prog_12_method_51_code 3 = .ok (.istore_n 2, 1) := by decide +kernel
theorem d_M_letters_4 : decode prog_12_method_51_code 4 = .ok (.iload_n 2, 1) := by decide +kernel
theorem d_M_letters_5 : decode prog_12_method_51_code 5 = .ok (.bipush 6, 2) := by decide +kernel
theorem d_M_letters_7 : decode prog_12_method_51_code 7 = .ok (.if_icmp .ge 25, 3) := by decide +kernel
theorem d_M_letters_10 : decode prog_12_method_51_code 10 = .ok (.aload_n 0, 1) := by decide +kernel
theorem d_M_letters_11 : decode prog_12_method_51_code 11 = .ok (.iload_n 2, 1) := by decide +kernel
theorem d_M_letters_12 : decode prog_12_method_51_code 12 = .ok (.invokevirtual 174, 3) := by decide +kernel
theorem d_M_letters_15 : decode prog_12_method_51_code 15 = .ok (.ifCond .eq 9, 3) := by decide +kernel
theorem d_M_letters_18 : decode prog_12_method_51_code 18 = .ok (.iload_n 1, 1) := by decide +kernel
theorem d_M_letters_19 : decode prog_12_method_51_code 19 = .ok (.iconst 1, 1) := by decide +kernel
theorem d_M_letters_20 : decode prog_12_method_51_code 20 = .ok (.iadd, 1) := by decide +kernel
theorem d_M_letters_21 : decode prog_12_method_51_code 21 = .ok (.goto 4, 3) := by decide +kernel
theorem d_M_letters_24 : decode prog_12_method_51_code 24 = .ok (.iload_n 1, 1) := by decide +kernel
theorem d_M_letters_25 : decode prog_12_method_51_code 25 = .ok (.istore_n 1, 1) := by decide +kernel
theorem d_M_letters_26 : decode prog_12_method_51_code 26 = .ok (.iinc 2 1, 3) := by decide +kernel
theorem d_M_letters_29 : decode prog_12_method_51_code 29 = .ok (.goto (-25), 3) := by decide +kernel
theorem d_M_letters_32 : decode prog_12_method_51_code 32 = .ok (.iload_n 1, 1) := by decide +kernel
theorem d_M_letters_33 : decode prog_12_method_51_code 33 = .ok (.ireturn, 1) := by decide +kernel
theorem d_M_isLetterAt_0 : decode prog_12_method_28_code 0 = .ok (.aload_n 0, 1) := by decide +kernel
theorem d_M_isLetterAt_1 : decode prog_12_method_28_code 1 = .ok (.getfield 21, 3) := by decide +kernel
theorem d_M_isLetterAt_4 : decode prog_12_method_28_code 4 = .ok (.iload_n 1, 1) := by decide +kernel
theorem d_M_isLetterAt_5 : decode prog_12_method_28_code 5 = .ok (.iaload, 1) := by decide +kernel
theorem d_M_isLetterAt_6 : decode prog_12_method_28_code 6 = .ok (.ifCond .lt 16, 3) := by decide +kernel
theorem d_M_isLetterAt_9 : decode prog_12_method_28_code 9 = .ok (.aload_n 0, 1) := by decide +kernel
theorem d_M_isLetterAt_10 : decode prog_12_method_28_code 10 = .ok (.getfield 24, 3) := by decide +kernel
theorem d_M_isLetterAt_13 : decode prog_12_method_28_code 13 = .ok (.iload_n 1, 1) := by decide +kernel
theorem d_M_isLetterAt_14 : decode prog_12_method_28_code 14 = .ok (.baload, 1) := by decide +kernel
theorem d_M_isLetterAt_15 : decode prog_12_method_28_code 15 = .ok (.ifCond .eq 7, 3) := by decide +kernel
theorem d_M_isLetterAt_18 : decode prog_12_method_28_code 18 = .ok (.iconst 1, 1) := by decide +kernel
theorem d_M_isLetterAt_19 : decode prog_12_method_28_code 19 = .ok (.goto 4, 3) := by decide +kernel
theorem d_M_isLetterAt_22 : decode prog_12_method_28_code 22 = .ok (.iconst 0, 1) := by decide +kernel
theorem d_M_isLetterAt_23 : decode prog_12_method_28_code 23 = .ok (.ireturn, 1) := by decide +kernel
theorem d_M_pass_0 : decode prog_12_method_27_code 0 = .ok (.iload_n 1, 1) := by decide +kernel
theorem d_M_pass_1 : decode prog_12_method_27_code 1 = .ok (.ifCond .lt 10, 3) := by decide +kernel
theorem d_M_pass_4 : decode prog_12_method_27_code 4 = .ok (.iload_n 1, 1) := by decide +kernel
theorem d_M_pass_5 : decode prog_12_method_27_code 5 = .ok (.sipush 1000, 3) := by decide +kernel
theorem d_M_pass_8 : decode prog_12_method_27_code 8 = .ok (.if_icmp .le 5, 3) := by decide +kernel
theorem d_M_pass_11 : decode prog_12_method_27_code 11 = .ok (.iconst (-1), 1) := by decide +kernel
theorem d_M_pass_12 : decode prog_12_method_27_code 12 = .ok (.ireturn, 1) := by decide +kernel
theorem d_M_pass_13 : decode prog_12_method_27_code 13 = .ok (.aload_n 0, 1) := by decide +kernel
theorem d_M_pass_14 : decode prog_12_method_27_code 14 = .ok (.aload_n 0, 1) := by decide +kernel
theorem d_M_pass_15 : decode prog_12_method_27_code 15 = .ok (.getfield 105, 3) := by decide +kernel
theorem d_M_pass_18 : decode prog_12_method_27_code 18 = .ok (.iload_n 1, 1) := by decide +kernel
theorem d_M_pass_19 : decode prog_12_method_27_code 19 = .ok (.iadd, 1) := by decide +kernel
theorem d_M_pass_20 : decode prog_12_method_27_code 20 = .ok (.putfield 105, 3) := by decide +kernel
theorem d_M_pass_23 : decode prog_12_method_27_code 23 = .ok (.aload_n 0, 1) := by decide +kernel
theorem d_M_pass_24 : decode prog_12_method_27_code 24 = .ok (.getfield 105, 3) := by decide +kernel
theorem d_M_pass_27 : decode prog_12_method_27_code 27 = .ok (.ireturn, 1) := by decide +kernel
theorem d_M_next_0 : decode prog_12_method_30_code 0 = .ok (.aload_n 0, 1) := by decide +kernel
theorem d_M_next_1 : decode prog_12_method_30_code 1 = .ok (.getfield 7, 3) := by decide +kernel
theorem d_M_next_4 : decode prog_12_method_30_code 4 = .ok (.ifCond .eq 10, 3) := by decide +kernel
theorem d_M_next_7 : decode prog_12_method_30_code 7 = .ok (.aload_n 0, 1) := by decide +kernel
theorem d_M_next_8 : decode prog_12_method_30_code 8 = .ok (.invokevirtual 177, 3) := by decide +kernel
theorem d_M_next_11 : decode prog_12_method_30_code 11 = .ok (.goto 4, 3) := by decide +kernel
theorem d_M_next_14 : decode prog_12_method_30_code 14 = .ok (.iconst (-1), 1) := by decide +kernel
theorem d_M_next_15 : decode prog_12_method_30_code 15 = .ok (.istore_n 1, 1) := by decide +kernel
theorem d_M_next_16 : decode prog_12_method_30_code 16 = .ok (.iload_n 1, 1) := by decide +kernel
theorem d_M_next_17 : decode prog_12_method_30_code 17 = .ok (.ifCond .ge 7, 3) := by decide +kernel
theorem d_M_next_20 : decode prog_12_method_30_code 20 = .ok (.iconst (-1), 1) := by decide +kernel
theorem d_M_next_21 : decode prog_12_method_30_code 21 = .ok (.goto 11, 3) := by decide +kernel
theorem d_M_next_24 : decode prog_12_method_30_code 24 = .ok (.aload_n 0, 1) := by decide +kernel
theorem d_M_next_25 : decode prog_12_method_30_code 25 = .ok (.getfield 21, 3) := by decide +kernel
theorem d_M_next_28 : decode prog_12_method_30_code 28 = .ok (.iload_n 1, 1) := by decide +kernel
theorem d_M_next_29 : decode prog_12_method_30_code 29 = .ok (.iconst 4, 1) := by decide +kernel
theorem d_M_next_30 : decode prog_12_method_30_code 30 = .ok (.idiv, 1) := by decide +kernel
theorem d_M_next_31 : decode prog_12_method_30_code 31 = .ok (.iaload, 1) := by decide +kernel
theorem d_M_next_32 : decode prog_12_method_30_code 32 = .ok (.ireturn, 1) := by decide +kernel
theorem d_M_nextOne_0 : decode prog_12_method_29_code 0 = .ok (.iconst (-1), 1) := by decide +kernel
theorem d_M_nextOne_1 : decode prog_12_method_29_code 1 = .ok (.istore_n 1, 1) := by decide +kernel
theorem d_M_nextOne_2 : decode prog_12_method_29_code 2 = .ok (.iconst 0, 1) := by decide +kernel
theorem d_M_nextOne_3 : decode prog_12_method_29_code 3 = .ok (.istore_n 2, 1) := by decide +kernel
theorem d_M_nextOne_4 : decode prog_12_method_29_code 4 = .ok (.iload_n 2, 1) := by decide +kernel
theorem d_M_nextOne_5 : decode prog_12_method_29_code 5 = .ok (.bipush 24, 2) := by decide +kernel
theorem d_M_nextOne_7 : decode prog_12_method_29_code 7 = .ok (.if_icmp .ge 137, 3) := by decide +kernel
theorem d_M_nextOne_10 : decode prog_12_method_29_code 10 = .ok (.iload_n 2, 1) := by decide +kernel
theorem d_M_nextOne_11 : decode prog_12_method_29_code 11 = .ok (.iconst 4, 1) := by decide +kernel
theorem d_M_nextOne_12 : decode prog_12_method_29_code 12 = .ok (.idiv, 1) := by decide +kernel
theorem d_M_nextOne_13 : decode prog_12_method_29_code 13 = .ok (.istore_n 3, 1) := by decide +kernel
theorem d_M_nextOne_14 : decode prog_12_method_29_code 14 = .ok (.aload_n 0, 1) := by decide +kernel
theorem d_M_nextOne_15 : decode prog_12_method_29_code 15 = .ok (.iload_n 3, 1) := by decide +kernel
theorem d_M_nextOne_16 : decode prog_12_method_29_code 16 = .ok (.invokevirtual 174, 3) := by decide +kernel
theorem d_M_nextOne_19 : decode prog_12_method_29_code 19 = .ok (.ifCond .eq 42, 3) := by decide +kernel
theorem d_M_nextOne_22 : decode prog_12_method_29_code 22 = .ok (.iload_n 2, 1) := by decide +kernel
theorem d_M_nextOne_23 : decode prog_12_method_29_code 23 = .ok (.iconst 4, 1) := by decide +kernel
theorem d_M_nextOne_24 : decode prog_12_method_29_code 24 = .ok (.irem, 1) := by decide +kernel
theorem d_M_nextOne_25 : decode prog_12_method_29_code 25 = .ok (.aload_n 0, 1) := by decide +kernel
theorem d_M_nextOne_26 : decode prog_12_method_29_code 26 = .ok (.getfield 40, 3) := by decide +kernel
theorem d_M_nextOne_29 : decode prog_12_method_29_code 29 = .ok (.iload_n 3, 1) := by decide +kernel
theorem d_M_nextOne_30 : decode prog_12_method_29_code 30 = .ok (.iaload, 1) := by decide +kernel
theorem d_M_nextOne_31 : decode prog_12_method_29_code 31 = .ok (.if_icmp .ge 30, 3) := by decide +kernel
theorem d_M_nextOne_34 : decode prog_12_method_29_code 34 = .ok (.aload_n 0, 1) := by decide +kernel
theorem d_M_nextOne_35 : decode prog_12_method_29_code 35 = .ok (.getfield 43, 3) := by decide +kernel
theorem d_M_nextOne_38 : decode prog_12_method_29_code 38 = .ok (.iload_n 2, 1) := by decide +kernel
theorem d_M_nextOne_39 : decode prog_12_method_29_code 39 = .ok (.iaload, 1) := by decide +kernel
theorem d_M_nextOne_40 : decode prog_12_method_29_code 40 = .ok (.iconst 4, 1) := by decide +kernel
theorem d_M_nextOne_41 : decode prog_12_method_29_code 41 = .ok (.if_icmp .ge 20, 3) := by decide +kernel
theorem d_M_nextOne_44 : decode prog_12_method_29_code 44 = .ok (.aload_n 0, 1) := by decide +kernel
theorem d_M_nextOne_45 : decode prog_12_method_29_code 45 = .ok (.getfield 46, 3) := by decide +kernel
theorem d_M_nextOne_48 : decode prog_12_method_29_code 48 = .ok (.iload_n 2, 1) := by decide +kernel
theorem d_M_nextOne_49 : decode prog_12_method_29_code 49 = .ok (.iaload, 1) := by decide +kernel
theorem d_M_nextOne_50 : decode prog_12_method_29_code 50 = .ok (.aload_n 0, 1) := by decide +kernel
theorem d_M_nextOne_51 : decode prog_12_method_29_code 51 = .ok (.getfield 105, 3) := by decide +kernel
theorem d_M_nextOne_54 : decode prog_12_method_29_code 54 = .ok (.if_icmp .gt 7, 3) := by decide +kernel
theorem d_M_nextOne_57 : decode prog_12_method_29_code 57 = .ok (.iconst 1, 1) := by decide +kernel
theorem d_M_nextOne_58 : decode prog_12_method_29_code 58 = .ok (.goto 4, 3) := by decide +kernel
theorem d_M_nextOne_61 : decode prog_12_method_29_code 61 = .ok (.iconst 0, 1) := by decide +kernel
theorem d_M_nextOne_62 : decode prog_12_method_29_code 62 = .ok (.istore 4, 2) := by decide +kernel
theorem d_M_nextOne_64 : decode prog_12_method_29_code 64 = .ok (.iload 4, 2) := by decide +kernel
theorem d_M_nextOne_66 : decode prog_12_method_29_code 66 = .ok (.ifCond .eq 72, 3) := by decide +kernel
theorem d_M_nextOne_69 : decode prog_12_method_29_code 69 = .ok (.iload_n 1, 1) := by decide +kernel
theorem d_M_nextOne_70 : decode prog_12_method_29_code 70 = .ok (.ifCond .lt 50, 3) := by decide +kernel
theorem d_M_nextOne_73 : decode prog_12_method_29_code 73 = .ok (.aload_n 0, 1) := by decide +kernel
theorem d_M_nextOne_74 : decode prog_12_method_29_code 74 = .ok (.getfield 46, 3) := by decide +kernel
theorem d_M_nextOne_77 : decode prog_12_method_29_code 77 = .ok (.iload_n 2, 1) := by decide +kernel
theorem d_M_nextOne_78 : decode prog_12_method_29_code 78 = .ok (.iaload, 1) := by decide +kernel
theorem d_M_nextOne_79 : decode prog_12_method_29_code 79 = .ok (.aload_n 0, 1) := by decide +kernel
theorem d_M_nextOne_80 : decode prog_12_method_29_code 80 = .ok (.getfield 46, 3) := by decide +kernel
theorem d_M_nextOne_83 : decode prog_12_method_29_code 83 = .ok (.iload_n 1, 1) := by decide +kernel
theorem d_M_nextOne_84 : decode prog_12_method_29_code 84 = .ok (.iaload, 1) := by decide +kernel
theorem d_M_nextOne_85 : decode prog_12_method_29_code 85 = .ok (.if_icmp .lt 35, 3) := by decide +kernel
theorem d_M_nextOne_88 : decode prog_12_method_29_code 88 = .ok (.aload_n 0, 1) := by decide +kernel
theorem d_M_nextOne_89 : decode prog_12_method_29_code 89 = .ok (.getfield 46, 3) := by decide +kernel
theorem d_M_nextOne_92 : decode prog_12_method_29_code 92 = .ok (.iload_n 2, 1) := by decide +kernel
theorem d_M_nextOne_93 : decode prog_12_method_29_code 93 = .ok (.iaload, 1) := by decide +kernel
theorem d_M_nextOne_94 : decode prog_12_method_29_code 94 = .ok (.aload_n 0, 1) := by decide +kernel
theorem d_M_nextOne_95 : decode prog_12_method_29_code 95 = .ok (.getfield 46, 3) := by decide +kernel
theorem d_M_nextOne_98 : decode prog_12_method_29_code 98 = .ok (.iload_n 1, 1) := by decide +kernel
theorem d_M_nextOne_99 : decode prog_12_method_29_code 99 = .ok (.iaload, 1) := by decide +kernel
theorem d_M_nextOne_100 : decode prog_12_method_29_code 100 = .ok (.if_icmp .ne 24, 3) := by decide +kernel
theorem d_M_nextOne_103 : decode prog_12_method_29_code 103 = .ok (.aload_n 0, 1) := by decide +kernel
theorem d_M_nextOne_104 : decode prog_12_method_29_code 104 = .ok (.getfield 21, 3) := by decide +kernel
theorem d_M_nextOne_107 : decode prog_12_method_29_code 107 = .ok (.iload_n 3, 1) := by decide +kernel
theorem d_M_nextOne_108 : decode prog_12_method_29_code 108 = .ok (.iaload, 1) := by decide +kernel
theorem d_M_nextOne_109 : decode prog_12_method_29_code 109 = .ok (.aload_n 0, 1) := by decide +kernel
theorem d_M_nextOne_110 : decode prog_12_method_29_code 110 = .ok (.getfield 21, 3) := by decide +kernel
theorem d_M_nextOne_113 : decode prog_12_method_29_code 113 = .ok (.iload_n 1, 1) := by decide +kernel
theorem d_M_nextOne_114 : decode prog_12_method_29_code 114 = .ok (.iconst 4, 1) := by decide +kernel
theorem d_M_nextOne_115 : decode prog_12_method_29_code 115 = .ok (.idiv, 1) := by decide +kernel
theorem d_M_nextOne_116 : decode prog_12_method_29_code 116 = .ok (.iaload, 1) := by decide +kernel
theorem d_M_nextOne_117 : decode prog_12_method_29_code 117 = .ok (.if_icmp .ge 7, 3) := by decide +kernel
theorem d_M_nextOne_120 : decode prog_12_method_29_code 120 = .ok (.iconst 1, 1) := by decide +kernel
theorem d_M_nextOne_121 : decode prog_12_method_29_code 121 = .ok (.goto 4, 3) := by decide +kernel
theorem d_M_nextOne_124 : decode prog_12_method_29_code 124 = .ok (.iconst 0, 1) := by decide +kernel
theorem d_M_nextOne_125 : decode prog_12_method_29_code 125 = .ok (.istore 5, 2) := by decide +kernel
theorem d_M_nextOne_127 : decode prog_12_method_29_code 127 = .ok (.iload 5, 2) := by decide +kernel
theorem d_M_nextOne_129 : decode prog_12_method_29_code 129 = .ok (.ifCond .eq 7, 3) := by decide +kernel
theorem d_M_nextOne_132 : decode prog_12_method_29_code 132 = .ok (.iload_n 2, 1) := by decide +kernel
theorem d_M_nextOne_133 : decode prog_12_method_29_code 133 = .ok (.goto 4, 3) := by decide +kernel
theorem d_M_nextOne_136 : decode prog_12_method_29_code 136 = .ok (.iload_n 1, 1) := by decide +kernel
theorem d_M_nextOne_137 : decode prog_12_method_29_code 137 = .ok (.istore_n 1, 1) := by decide +kernel
theorem d_M_nextOne_138 : decode prog_12_method_29_code 138 = .ok (.iinc 2 1, 3) := by decide +kernel
theorem d_M_nextOne_141 : decode prog_12_method_29_code 141 = .ok (.goto (-137), 3) := by decide +kernel
theorem d_M_nextOne_144 : decode prog_12_method_29_code 144 = .ok (.iload_n 1, 1) := by decide +kernel
theorem d_M_nextOne_145 : decode prog_12_method_29_code 145 = .ok (.ireturn, 1) := by decide +kernel
theorem d_M_reply_0 : decode prog_12_method_34_code 0 = .ok (.aload_n 0, 1) := by decide +kernel
theorem d_M_reply_1 : decode prog_12_method_34_code 1 = .ok (.getfield 7, 3) := by decide +kernel
theorem d_M_reply_4 : decode prog_12_method_34_code 4 = .ok (.ifCond .eq 10, 3) := by decide +kernel
theorem d_M_reply_7 : decode prog_12_method_34_code 7 = .ok (.aload_n 0, 1) := by decide +kernel
theorem d_M_reply_8 : decode prog_12_method_34_code 8 = .ok (.invokevirtual 177, 3) := by decide +kernel
theorem d_M_reply_11 : decode prog_12_method_34_code 11 = .ok (.goto 4, 3) := by decide +kernel
theorem d_M_reply_14 : decode prog_12_method_34_code 14 = .ok (.iconst (-1), 1) := by decide +kernel
theorem d_M_reply_15 : decode prog_12_method_34_code 15 = .ok (.istore_n 2, 1) := by decide +kernel
theorem d_M_reply_16 : decode prog_12_method_34_code 16 = .ok (.iload_n 2, 1) := by decide +kernel
theorem d_M_reply_17 : decode prog_12_method_34_code 17 = .ok (.ifCond .lt 31, 3) := by decide +kernel
theorem d_M_reply_20 : decode prog_12_method_34_code 20 = .ok (.iload_n 1, 1) := by decide +kernel
theorem d_M_reply_21 : decode prog_12_method_34_code 21 = .ok (.sipush 200, 3) := by decide +kernel
theorem d_M_reply_24 : decode prog_12_method_34_code 24 = .ok (.if_icmp .lt 24, 3) := by decide +kernel
theorem d_M_reply_27 : decode prog_12_method_34_code 27 = .ok (.iload_n 1, 1) := by decide +kernel
theorem d_M_reply_28 : decode prog_12_method_34_code 28 = .ok (.sipush 599, 3) := by decide +kernel
theorem d_M_reply_31 : decode prog_12_method_34_code 31 = .ok (.if_icmp .gt 17, 3) := by decide +kernel
theorem d_M_reply_34 : decode prog_12_method_34_code 34 = .ok (.iload_n 1, 1) := by decide +kernel
theorem d_M_reply_35 : decode prog_12_method_34_code 35 = .ok (.sipush 299, 3) := by decide +kernel
theorem d_M_reply_38 : decode prog_12_method_34_code 38 = .ok (.if_icmp .le 12, 3) := by decide +kernel
theorem d_M_reply_41 : decode prog_12_method_34_code 41 = .ok (.iload_n 1, 1) := by decide +kernel
theorem d_M_reply_42 : decode prog_12_method_34_code 42 = .ok (.sipush 400, 3) := by decide +kernel
theorem d_M_reply_45 : decode prog_12_method_34_code 45 = .ok (.if_icmp .ge 5, 3) := by decide +kernel
theorem d_M_reply_48 : decode prog_12_method_34_code 48 = .ok (.iconst (-1), 1) := by decide +kernel
theorem d_M_reply_49 : decode prog_12_method_34_code 49 = .ok (.ireturn, 1) := by decide +kernel
theorem d_M_reply_50 : decode prog_12_method_34_code 50 = .ok (.iload_n 2, 1) := by decide +kernel
theorem d_M_reply_51 : decode prog_12_method_34_code 51 = .ok (.iconst 4, 1) := by decide +kernel
theorem d_M_reply_52 : decode prog_12_method_34_code 52 = .ok (.idiv, 1) := by decide +kernel
theorem d_M_reply_53 : decode prog_12_method_34_code 53 = .ok (.istore_n 3, 1) := by decide +kernel
theorem d_M_reply_54 : decode prog_12_method_34_code 54 = .ok (.iload_n 1, 1) := by decide +kernel
theorem d_M_reply_55 : decode prog_12_method_34_code 55 = .ok (.sipush 400, 3) := by decide +kernel
theorem d_M_reply_58 : decode prog_12_method_34_code 58 = .ok (.if_icmp .lt 64, 3) := by decide +kernel
theorem d_M_reply_61 : decode prog_12_method_34_code 61 = .ok (.iload_n 1, 1) := by decide +kernel
theorem d_M_reply_62 : decode prog_12_method_34_code 62 = .ok (.sipush 500, 3) := by decide +kernel
theorem d_M_reply_65 : decode prog_12_method_34_code 65 = .ok (.if_icmp .ge 57, 3) := by decide +kernel
theorem d_M_reply_68 : decode prog_12_method_34_code 68 = .ok (.aload_n 0, 1) := by decide +kernel
theorem d_M_reply_69 : decode prog_12_method_34_code 69 = .ok (.getfield 43, 3) := by decide +kernel
theorem d_M_reply_72 : decode prog_12_method_34_code 72 = .ok (.iload_n 2, 1) := by decide +kernel
theorem d_M_reply_73 : decode prog_12_method_34_code 73 = .ok (.iaload, 1) := by decide +kernel
theorem d_M_reply_74 : decode prog_12_method_34_code 74 = .ok (.iconst 3, 1) := by decide +kernel
theorem d_M_reply_75 : decode prog_12_method_34_code 75 = .ok (.if_icmp .ge 47, 3) := by decide +kernel
theorem d_M_reply_78 : decode prog_12_method_34_code 78 = .ok (.aload_n 0, 1) := by decide +kernel
theorem d_M_reply_79 : decode prog_12_method_34_code 79 = .ok (.invokevirtual 97, 3) := by decide +kernel
theorem d_M_reply_82 : decode prog_12_method_34_code 82 = .ok (.ifCond .eq 38, 3) := by decide +kernel
theorem d_M_reply_85 : decode prog_12_method_34_code 85 = .ok (.aload_n 0, 1) := by decide +kernel
theorem d_M_reply_86 : decode prog_12_method_34_code 86 = .ok (.getfield 43, 3) := by decide +kernel
theorem d_M_reply_89 : decode prog_12_method_34_code 89 = .ok (.iload_n 2, 1) := by decide +kernel
theorem d_M_reply_90 : decode prog_12_method_34_code 90 = .ok (.aload_n 0, 1) := by decide +kernel
theorem d_M_reply_91 : decode prog_12_method_34_code 91 = .ok (.getfield 43, 3) := by decide +kernel
theorem d_M_reply_94 : decode prog_12_method_34_code 94 = .ok (.iload_n 2, 1) := by decide +kernel
theorem d_M_reply_95 : decode prog_12_method_34_code 95 = .ok (.iaload, 1) := by decide +kernel
theorem d_M_reply_96 : decode prog_12_method_34_code 96 = .ok (.iconst 1, 1) := by decide +kernel
theorem d_M_reply_97 : decode prog_12_method_34_code 97 = .ok (.iadd, 1) := by decide +kernel
theorem d_M_reply_98 : decode prog_12_method_34_code 98 = .ok (.iastore, 1) := by decide +kernel
theorem d_M_reply_99 : decode prog_12_method_34_code 99 = .ok (.aload_n 0, 1) := by decide +kernel
theorem d_M_reply_100 : decode prog_12_method_34_code 100 = .ok (.getfield 46, 3) := by decide +kernel
theorem d_M_reply_103 : decode prog_12_method_34_code 103 = .ok (.iload_n 2, 1) := by decide +kernel
theorem d_M_reply_104 : decode prog_12_method_34_code 104 = .ok (.aload_n 0, 1) := by decide +kernel
theorem d_M_reply_105 : decode prog_12_method_34_code 105 = .ok (.getfield 105, 3) := by decide +kernel
theorem d_M_reply_108 : decode prog_12_method_34_code 108 = .ok (.iconst 1, 1) := by decide +kernel
theorem d_M_reply_109 : decode prog_12_method_34_code 109 = .ok (.iconst 2, 1) := by decide +kernel
theorem d_M_reply_110 : decode prog_12_method_34_code 110 = .ok (.aload_n 0, 1) := by decide +kernel
theorem d_M_reply_111 : decode prog_12_method_34_code 111 = .ok (.getfield 43, 3) := by decide +kernel
theorem d_M_reply_114 : decode prog_12_method_34_code 114 = .ok (.iload_n 2, 1) := by decide +kernel
theorem d_M_reply_115 : decode prog_12_method_34_code 115 = .ok (.iaload, 1) := by decide +kernel
theorem d_M_reply_116 : decode prog_12_method_34_code 116 = .ok (.imul, 1) := by decide +kernel
theorem d_M_reply_117 : decode prog_12_method_34_code 117 = .ok (.ishl, 1) := by decide +kernel
theorem d_M_reply_118 : decode prog_12_method_34_code 118 = .ok (.iadd, 1) := by decide +kernel
theorem d_M_reply_119 : decode prog_12_method_34_code 119 = .ok (.iastore, 1) := by decide +kernel
theorem d_M_reply_120 : decode prog_12_method_34_code 120 = .ok (.iconst 0, 1) := by decide +kernel
theorem d_M_reply_121 : decode prog_12_method_34_code 121 = .ok (.ireturn, 1) := by decide +kernel
theorem d_M_reply_122 : decode prog_12_method_34_code 122 = .ok (.iload_n 1, 1) := by decide +kernel
theorem d_M_reply_123 : decode prog_12_method_34_code 123 = .ok (.sipush 300, 3) := by decide +kernel
theorem d_M_reply_126 : decode prog_12_method_34_code 126 = .ok (.if_icmp .lt 38, 3) := by decide +kernel
theorem d_M_reply_129 : decode prog_12_method_34_code 129 = .ok (.aload_n 0, 1) := by decide +kernel
theorem d_M_reply_130 : decode prog_12_method_34_code 130 = .ok (.getfield 37, 3) := by decide +kernel
theorem d_M_reply_133 : decode prog_12_method_34_code 133 = .ok (.iconst 5, 1) := by decide +kernel
theorem d_M_reply_134 : decode prog_12_method_34_code 134 = .ok (.iload_n 3, 1) := by decide +kernel
theorem d_M_reply_135 : decode prog_12_method_34_code 135 = .ok (.imul, 1) := by decide +kernel
theorem d_M_reply_136 : decode prog_12_method_34_code 136 = .ok (.iconst 4, 1) := by decide +kernel
theorem d_M_reply_137 : decode prog_12_method_34_code 137 = .ok (.iadd, 1) := by decide +kernel
theorem d_M_reply_138 : decode prog_12_method_34_code 138 = .ok (.iaload, 1) := by decide +kernel
theorem d_M_reply_139 : decode prog_12_method_34_code 139 = .ok (.ifCond .le 25, 3) := by decide +kernel
theorem d_M_reply_142 : decode prog_12_method_34_code 142 = .ok (.aload_n 0, 1) := by decide +kernel
theorem d_M_reply_143 : decode prog_12_method_34_code 143 = .ok (.invokevirtual 153, 3) := by decide +kernel
theorem d_M_reply_146 : decode prog_12_method_34_code 146 = .ok (.bipush 6, 2) := by decide +kernel
theorem d_M_reply_148 : decode prog_12_method_34_code 148 = .ok (.if_icmp .ge 16, 3) := by decide +kernel
theorem d_M_reply_151 : decode prog_12_method_34_code 151 = .ok (.aload_n 0, 1) := by decide +kernel
theorem d_M_reply_152 : decode prog_12_method_34_code 152 = .ok (.iload_n 3, 1) := by decide +kernel
theorem d_M_reply_153 : decode prog_12_method_34_code 153 = .ok (.iload_n 2, 1) := by decide +kernel
theorem d_M_reply_154 : decode prog_12_method_34_code 154 = .ok (.iconst 4, 1) := by decide +kernel
theorem d_M_reply_155 : decode prog_12_method_34_code 155 = .ok (.irem, 1) := by decide +kernel
theorem d_M_reply_156 : decode prog_12_method_34_code 156 = .ok (.invokevirtual 188, 3) := by decide +kernel
theorem d_M_reply_159 : decode prog_12_method_34_code 159 = .ok (.ifCond .ne 5, 3) := by decide +kernel
theorem d_M_reply_162 : decode prog_12_method_34_code 162 = .ok (.iconst 0, 1) := by decide +kernel
theorem d_M_reply_163 : decode prog_12_method_34_code 163 = .ok (.ireturn, 1) := by decide +kernel
theorem d_M_reply_164 : decode prog_12_method_34_code 164 = .ok (.aload_n 0, 1) := by decide +kernel
theorem d_M_reply_165 : decode prog_12_method_34_code 165 = .ok (.invokevirtual 97, 3) := by decide +kernel
theorem d_M_reply_168 : decode prog_12_method_34_code 168 = .ok (.ifCond .ne 5, 3) := by decide +kernel
theorem d_M_reply_171 : decode prog_12_method_34_code 171 = .ok (.iconst 0, 1) := by decide +kernel
theorem d_M_reply_172 : decode prog_12_method_34_code 172 = .ok (.ireturn, 1) := by decide +kernel
theorem d_M_reply_173 : decode prog_12_method_34_code 173 = .ok (.aload_n 0, 1) := by decide +kernel
theorem d_M_reply_174 : decode prog_12_method_34_code 174 = .ok (.getfield 43, 3) := by decide +kernel
theorem d_M_reply_177 : decode prog_12_method_34_code 177 = .ok (.iload_n 2, 1) := by decide +kernel
theorem d_M_reply_178 : decode prog_12_method_34_code 178 = .ok (.iload_n 1, 1) := by decide +kernel
theorem d_M_reply_179 : decode prog_12_method_34_code 179 = .ok (.sipush 300, 3) := by decide +kernel
theorem d_M_reply_182 : decode prog_12_method_34_code 182 = .ok (.if_icmp .ge 8, 3) := by decide +kernel
theorem d_M_reply_185 : decode prog_12_method_34_code 185 = .ok (.bipush 10, 2) := by decide +kernel
theorem d_M_reply_187 : decode prog_12_method_34_code 187 = .ok (.goto 5, 3) := by decide +kernel
theorem d_M_reply_190 : decode prog_12_method_34_code 190 = .ok (.bipush 20, 2) := by decide +kernel
theorem d_M_reply_192 : decode prog_12_method_34_code 192 = .ok (.iastore, 1) := by decide +kernel
theorem d_M_reply_193 : decode prog_12_method_34_code 193 = .ok (.aload_n 0, 1) := by decide +kernel
theorem d_M_reply_194 : decode prog_12_method_34_code 194 = .ok (.iload_n 3, 1) := by decide +kernel
theorem d_M_reply_195 : decode prog_12_method_34_code 195 = .ok (.invokevirtual 191, 3) := by decide +kernel
theorem d_M_reply_198 : decode prog_12_method_34_code 198 = .ok (.iload_n 1, 1) := by decide +kernel
theorem d_M_reply_199 : decode prog_12_method_34_code 199 = .ok (.sipush 300, 3) := by decide +kernel
theorem d_M_reply_202 : decode prog_12_method_34_code 202 = .ok (.if_icmp .ge 7, 3) := by decide +kernel
theorem d_M_reply_205 : decode prog_12_method_34_code 205 = .ok (.iconst 1, 1) := by decide +kernel
theorem d_M_reply_206 : decode prog_12_method_34_code 206 = .ok (.goto 4, 3) := by decide +kernel
theorem d_M_reply_209 : decode prog_12_method_34_code 209 = .ok (.iconst 2, 1) := by decide +kernel
theorem d_M_reply_210 : decode prog_12_method_34_code 210 = .ok (.ireturn, 1) := by decide +kernel
theorem d_M_tell_0 : decode prog_12_method_33_code 0 = .ok (.aload_n 0, 1) := by decide +kernel
theorem d_M_tell_1 : decode prog_12_method_33_code 1 = .ok (.getfield 31, 3) := by decide +kernel
theorem d_M_tell_4 : decode prog_12_method_33_code 4 = .ok (.bipush 7, 2) := by decide +kernel
theorem d_M_tell_6 : decode prog_12_method_33_code 6 = .ok (.iconst 0, 1) := by decide +kernel
theorem d_M_tell_7 : decode prog_12_method_33_code 7 = .ok (.iastore, 1) := by decide +kernel
theorem d_M_tell_8 : decode prog_12_method_33_code 8 = .ok (.aload_n 0, 1) := by decide +kernel
theorem d_M_tell_9 : decode prog_12_method_33_code 9 = .ok (.bipush 7, 2) := by decide +kernel
theorem d_M_tell_11 : decode prog_12_method_33_code 11 = .ok (.bipush 10, 2) := by decide +kernel
theorem d_M_tell_13 : decode prog_12_method_33_code 13 = .ok (.invokevirtual 159, 3) := by decide +kernel
theorem d_M_tell_16 : decode prog_12_method_33_code 16 = .ok (.iconst 0, 1) := by decide +kernel
theorem d_M_tell_17 : decode prog_12_method_33_code 17 = .ok (.istore_n 3, 1) := by decide +kernel
theorem d_M_tell_18 : decode prog_12_method_33_code 18 = .ok (.iload_n 3, 1) := by decide +kernel
theorem d_M_tell_19 : decode prog_12_method_33_code 19 = .ok (.bipush 10, 2) := by decide +kernel
theorem d_M_tell_21 : decode prog_12_method_33_code 21 = .ok (.if_icmp .ge 25, 3) := by decide +kernel
theorem d_M_tell_24 : decode prog_12_method_33_code 24 = .ok (.aload_n 0, 1) := by decide +kernel
theorem d_M_tell_25 : decode prog_12_method_33_code 25 = .ok (.bipush 7, 2) := by decide +kernel
theorem d_M_tell_27 : decode prog_12_method_33_code 27 = .ok (.ldc2_w 180, 3) := by decide +kernel
theorem d_M_tell_30 : decode prog_12_method_33_code 30 = .ok (.ldc2_w 182, 3) := by decide +kernel
theorem d_M_tell_33 : decode prog_12_method_33_code 33 = .ok (.iload_n 3, 1) := by decide +kernel
theorem d_M_tell_34 : decode prog_12_method_33_code 34 = .ok (.invokestatic 184, 3) := by decide +kernel
theorem d_M_tell_37 : decode prog_12_method_33_code 37 = .ok (.invokevirtual 159, 3) := by decide +kernel
theorem d_M_tell_40 : decode prog_12_method_33_code 40 = .ok (.iinc 3 1, 3) := by decide +kernel
theorem d_M_tell_43 : decode prog_12_method_33_code 43 = .ok (.goto (-25), 3) := by decide +kernel
end
section
theorem d_M_tell_46 : decode prog_12_method_33_code 46 = .ok (.iconst 0, 1) := by decide +kernel
theorem d_M_tell_47 : decode prog_12_method_33_code 47 = .ok (.istore_n 3, 1) := by decide +kernel
theorem d_M_tell_48 : decode prog_12_method_33_code 48 = .ok (.iload_n 3, 1) := by decide +kernel
theorem d_M_tell_49 : decode prog_12_method_33_code 49 = .ok (.aload_n 0, 1) := by decide +kernel
theorem d_M_tell_50 : decode prog_12_method_33_code 50 = .ok (.getfield 37, 3) := by decide +kernel
theorem d_M_tell_53 : decode prog_12_method_33_code 53 = .ok (.iconst 5, 1) := by decide +kernel
theorem d_M_tell_54 : decode prog_12_method_33_code 54 = .ok (.iload_n 1, 1) := by decide +kernel
theorem d_M_tell_55 : decode prog_12_method_33_code 55 = .ok (.imul, 1) := by decide +kernel
theorem d_M_tell_56 : decode prog_12_method_33_code 56 = .ok (.iload_n 2, 1) := by decide +kernel
theorem d_M_tell_57 : decode prog_12_method_33_code 57 = .ok (.iadd, 1) := by decide +kernel
theorem d_M_tell_58 : decode prog_12_method_33_code 58 = .ok (.iaload, 1) := by decide +kernel
theorem d_M_tell_59 : decode prog_12_method_33_code 59 = .ok (.if_icmp .ge 30, 3) := by decide +kernel
theorem d_M_tell_62 : decode prog_12_method_33_code 62 = .ok (.aload_n 0, 1) := by decide +kernel
theorem d_M_tell_63 : decode prog_12_method_33_code 63 = .ok (.bipush 7, 2) := by decide +kernel
theorem d_M_tell_65 : decode prog_12_method_33_code 65 = .ok (.aload_n 0, 1) := by decide +kernel
theorem d_M_tell_66 : decode prog_12_method_33_code 66 = .ok (.getfield 34, 3) := by decide +kernel
theorem d_M_tell_69 : decode prog_12_method_33_code 69 = .ok (.bipush 40, 2) := by decide +kernel
theorem d_M_tell_71 : decode prog_12_method_33_code 71 = .ok (.iconst 5, 1) := by decide +kernel
theorem d_M_tell_72 : decode prog_12_method_33_code 72 = .ok (.iload_n 1, 1) := by decide +kernel
theorem d_M_tell_73 : decode prog_12_method_33_code 73 = .ok (.imul, 1) := by decide +kernel
theorem d_M_tell_74 : decode prog_12_method_33_code 74 = .ok (.iload_n 2, 1) := by decide +kernel
theorem d_M_tell_75 : decode prog_12_method_33_code 75 = .ok (.iadd, 1) := by decide +kernel
theorem d_M_tell_76 : decode prog_12_method_33_code 76 = .ok (.imul, 1) := by decide +kernel
theorem d_M_tell_77 : decode prog_12_method_33_code 77 = .ok (.iload_n 3, 1) := by decide +kernel
theorem d_M_tell_78 : decode prog_12_method_33_code 78 = .ok (.iadd, 1) := by decide +kernel
theorem d_M_tell_79 : decode prog_12_method_33_code 79 = .ok (.iaload, 1) := by decide +kernel
theorem d_M_tell_80 : decode prog_12_method_33_code 80 = .ok (.invokevirtual 159, 3) := by decide +kernel
theorem d_M_tell_83 : decode prog_12_method_33_code 83 = .ok (.iinc 3 1, 3) := by decide +kernel
theorem d_M_tell_86 : decode prog_12_method_33_code 86 = .ok (.goto (-38), 3) := by decide +kernel
theorem d_M_tell_89 : decode prog_12_method_33_code 89 = .ok (.aload_n 0, 1) := by decide +kernel
theorem d_M_tell_90 : decode prog_12_method_33_code 90 = .ok (.bipush 7, 2) := by decide +kernel
theorem d_M_tell_92 : decode prog_12_method_33_code 92 = .ok (.bipush 10, 2) := by decide +kernel
theorem d_M_tell_94 : decode prog_12_method_33_code 94 = .ok (.invokevirtual 159, 3) := by decide +kernel
theorem d_M_tell_97 : decode prog_12_method_33_code 97 = .ok (.aload_n 0, 1) := by decide +kernel
theorem d_M_tell_98 : decode prog_12_method_33_code 98 = .ok (.getfield 40, 3) := by decide +kernel
theorem d_M_tell_101 : decode prog_12_method_33_code 101 = .ok (.bipush 7, 2) := by decide +kernel
theorem d_M_tell_103 : decode prog_12_method_33_code 103 = .ok (.iconst 1, 1) := by decide +kernel
theorem d_M_tell_104 : decode prog_12_method_33_code 104 = .ok (.iastore, 1) := by decide +kernel
theorem d_M_tell_105 : decode prog_12_method_33_code 105 = .ok (.aload_n 0, 1) := by decide +kernel
theorem d_M_tell_106 : decode prog_12_method_33_code 106 = .ok (.getfield 37, 3) := by decide +kernel
theorem d_M_tell_109 : decode prog_12_method_33_code 109 = .ok (.bipush 39, 2) := by decide +kernel
theorem d_M_tell_111 : decode prog_12_method_33_code 111 = .ok (.iconst 0, 1) := by decide +kernel
theorem d_M_tell_112 : decode prog_12_method_33_code 112 = .ok (.iastore, 1) := by decide +kernel
theorem d_M_tell_113 : decode prog_12_method_33_code 113 = .ok (.aload_n 0, 1) := by decide +kernel
theorem d_M_tell_114 : decode prog_12_method_33_code 114 = .ok (.iconst 5, 1) := by decide +kernel
theorem d_M_tell_115 : decode prog_12_method_33_code 115 = .ok (.iload_n 1, 1) := by decide +kernel
theorem d_M_tell_116 : decode prog_12_method_33_code 116 = .ok (.imul, 1) := by decide +kernel
theorem d_M_tell_117 : decode prog_12_method_33_code 117 = .ok (.iconst 4, 1) := by decide +kernel
theorem d_M_tell_118 : decode prog_12_method_33_code 118 = .ok (.iadd, 1) := by decide +kernel
theorem d_M_tell_119 : decode prog_12_method_33_code 119 = .ok (.bipush 35, 2) := by decide +kernel
theorem d_M_tell_121 : decode prog_12_method_33_code 121 = .ok (.invokevirtual 101, 3) := by decide +kernel
theorem d_M_tell_124 : decode prog_12_method_33_code 124 = .ok (.aload_n 0, 1) := by decide +kernel
theorem d_M_tell_125 : decode prog_12_method_33_code 125 = .ok (.bipush 7, 2) := by decide +kernel
theorem d_M_tell_127 : decode prog_12_method_33_code 127 = .ok (.invokevirtual 162, 3) := by decide +kernel
theorem d_M_tell_130 : decode prog_12_method_33_code 130 = .ok (.ireturn, 1) := by decide +kernel
theorem d_M_at_0 : decode prog_12_method_32_code 0 = .ok (.iload 4, 2) := by decide +kernel
theorem d_M_at_2 : decode prog_12_method_32_code 2 = .ok (.bipush 8, 2) := by decide +kernel
theorem d_M_at_4 : decode prog_12_method_32_code 4 = .ok (.if_icmp .ge 13, 3) := by decide +kernel
theorem d_M_at_7 : decode prog_12_method_32_code 7 = .ok (.lload_n 0, 1) := by decide +kernel
theorem d_M_at_8 : decode prog_12_method_32_code 8 = .ok (.bipush 8, 2) := by decide +kernel
theorem d_M_at_10 : decode prog_12_method_32_code 10 = .ok (.iload 4, 2) := by decide +kernel
theorem d_M_at_12 : decode prog_12_method_32_code 12 = .ok (.imul, 1) := by decide +kernel
theorem d_M_at_13 : decode prog_12_method_32_code 13 = .ok (.lshr, 1) := by decide +kernel
theorem d_M_at_14 : decode prog_12_method_32_code 14 = .ok (.goto 13, 3) := by decide +kernel
theorem d_M_at_17 : decode prog_12_method_32_code 17 = .ok (.lload_n 2, 1) := by decide +kernel
theorem d_M_at_18 : decode prog_12_method_32_code 18 = .ok (.bipush 8, 2) := by decide +kernel
theorem d_M_at_20 : decode prog_12_method_32_code 20 = .ok (.iload 4, 2) := by decide +kernel
theorem d_M_at_22 : decode prog_12_method_32_code 22 = .ok (.bipush 8, 2) := by decide +kernel
theorem d_M_at_24 : decode prog_12_method_32_code 24 = .ok (.isub, 1) := by decide +kernel
theorem d_M_at_25 : decode prog_12_method_32_code 25 = .ok (.imul, 1) := by decide +kernel
theorem d_M_at_26 : decode prog_12_method_32_code 26 = .ok (.lshr, 1) := by decide +kernel
theorem d_M_at_27 : decode prog_12_method_32_code 27 = .ok (.ldc2_w 77, 3) := by decide +kernel
theorem d_M_at_30 : decode prog_12_method_32_code 30 = .ok (.land, 1) := by decide +kernel
theorem d_M_at_31 : decode prog_12_method_32_code 31 = .ok (.l2i, 1) := by decide +kernel
theorem d_M_at_32 : decode prog_12_method_32_code 32 = .ok (.ireturn, 1) := by decide +kernel
theorem d_M_tidy_0 : decode prog_12_method_31_code 0 = .ok (.iconst 0, 1) := by decide +kernel
theorem d_M_tidy_1 : decode prog_12_method_31_code 1 = .ok (.istore_n 2, 1) := by decide +kernel
theorem d_M_tidy_2 : decode prog_12_method_31_code 2 = .ok (.iconst 0, 1) := by decide +kernel
theorem d_M_tidy_3 : decode prog_12_method_31_code 3 = .ok (.istore_n 3, 1) := by decide +kernel
theorem d_M_tidy_4 : decode prog_12_method_31_code 4 = .ok (.iload_n 3, 1) := by decide +kernel
theorem d_M_tidy_5 : decode prog_12_method_31_code 5 = .ok (.aload_n 0, 1) := by decide +kernel
theorem d_M_tidy_6 : decode prog_12_method_31_code 6 = .ok (.getfield 40, 3) := by decide +kernel
theorem d_M_tidy_9 : decode prog_12_method_31_code 9 = .ok (.iload_n 1, 1) := by decide +kernel
theorem d_M_tidy_10 : decode prog_12_method_31_code 10 = .ok (.iaload, 1) := by decide +kernel
theorem d_M_tidy_11 : decode prog_12_method_31_code 11 = .ok (.if_icmp .ge 33, 3) := by decide +kernel
theorem d_M_tidy_14 : decode prog_12_method_31_code 14 = .ok (.iload_n 2, 1) := by decide +kernel
theorem d_M_tidy_15 : decode prog_12_method_31_code 15 = .ok (.ifCond .ne 17, 3) := by decide +kernel
theorem d_M_tidy_18 : decode prog_12_method_31_code 18 = .ok (.aload_n 0, 1) := by decide +kernel
theorem d_M_tidy_19 : decode prog_12_method_31_code 19 = .ok (.getfield 43, 3) := by decide +kernel
theorem d_M_tidy_22 : decode prog_12_method_31_code 22 = .ok (.iconst 4, 1) := by decide +kernel
theorem d_M_tidy_23 : decode prog_12_method_31_code 23 = .ok (.iload_n 1, 1) := by decide +kernel
theorem d_M_tidy_24 : decode prog_12_method_31_code 24 = .ok (.imul, 1) := by decide +kernel
theorem d_M_tidy_25 : decode prog_12_method_31_code 25 = .ok (.iload_n 3, 1) := by decide +kernel
theorem d_M_tidy_26 : decode prog_12_method_31_code 26 = .ok (.iadd, 1) := by decide +kernel
theorem d_M_tidy_27 : decode prog_12_method_31_code 27 = .ok (.iaload, 1) := by decide +kernel
theorem d_M_tidy_28 : decode prog_12_method_31_code 28 = .ok (.iconst 4, 1) := by decide +kernel
theorem d_M_tidy_29 : decode prog_12_method_31_code 29 = .ok (.if_icmp .ge 7, 3) := by decide +kernel
theorem d_M_tidy_32 : decode prog_12_method_31_code 32 = .ok (.iconst 1, 1) := by decide +kernel
theorem d_M_tidy_33 : decode prog_12_method_31_code 33 = .ok (.goto 4, 3) := by decide +kernel
theorem d_M_tidy_36 : decode prog_12_method_31_code 36 = .ok (.iconst 0, 1) := by decide +kernel
theorem d_M_tidy_37 : decode prog_12_method_31_code 37 = .ok (.istore_n 2, 1) := by decide +kernel
theorem d_M_tidy_38 : decode prog_12_method_31_code 38 = .ok (.iinc 3 1, 3) := by decide +kernel
theorem d_M_tidy_41 : decode prog_12_method_31_code 41 = .ok (.goto (-37), 3) := by decide +kernel
theorem d_M_tidy_44 : decode prog_12_method_31_code 44 = .ok (.aload_n 0, 1) := by decide +kernel
theorem d_M_tidy_45 : decode prog_12_method_31_code 45 = .ok (.getfield 21, 3) := by decide +kernel
theorem d_M_tidy_48 : decode prog_12_method_31_code 48 = .ok (.iload_n 1, 1) := by decide +kernel
theorem d_M_tidy_49 : decode prog_12_method_31_code 49 = .ok (.iload_n 2, 1) := by decide +kernel
theorem d_M_tidy_50 : decode prog_12_method_31_code 50 = .ok (.ifCond .eq 12, 3) := by decide +kernel
theorem d_M_tidy_53 : decode prog_12_method_31_code 53 = .ok (.aload_n 0, 1) := by decide +kernel
theorem d_M_tidy_54 : decode prog_12_method_31_code 54 = .ok (.getfield 21, 3) := by decide +kernel
theorem d_M_tidy_57 : decode prog_12_method_31_code 57 = .ok (.iload_n 1, 1) := by decide +kernel
theorem d_M_tidy_58 : decode prog_12_method_31_code 58 = .ok (.iaload, 1) := by decide +kernel
theorem d_M_tidy_59 : decode prog_12_method_31_code 59 = .ok (.goto 4, 3) := by decide +kernel
theorem d_M_tidy_62 : decode prog_12_method_31_code 62 = .ok (.iconst (-1), 1) := by decide +kernel
theorem d_M_tidy_63 : decode prog_12_method_31_code 63 = .ok (.iastore, 1) := by decide +kernel
theorem d_M_tidy_64 : decode prog_12_method_31_code 64 = .ok (.return_, 1) := by decide +kernel
theorem d_M_parts_0 : decode prog_12_method_48_code 0 = .ok (.aload_n 0, 1) := by decide +kernel
theorem d_M_parts_1 : decode prog_12_method_48_code 1 = .ok (.iload_n 1, 1) := by decide +kernel
theorem d_M_parts_2 : decode prog_12_method_48_code 2 = .ok (.invokevirtual 258, 3) := by decide +kernel
theorem d_M_parts_5 : decode prog_12_method_48_code 5 = .ok (.istore_n 2, 1) := by decide +kernel
theorem d_M_parts_6 : decode prog_12_method_48_code 6 = .ok (.iload_n 2, 1) := by decide +kernel
theorem d_M_parts_7 : decode prog_12_method_48_code 7 = .ok (.ifCond .ge 7, 3) := by decide +kernel
theorem d_M_parts_10 : decode prog_12_method_48_code 10 = .ok (.iconst (-1), 1) := by decide +kernel
theorem d_M_parts_11 : decode prog_12_method_48_code 11 = .ok (.goto 19, 3) := by decide +kernel
theorem d_M_parts_14 : decode prog_12_method_48_code 14 = .ok (.aload_n 0, 1) := by decide +kernel
theorem d_M_parts_15 : decode prog_12_method_48_code 15 = .ok (.iload_n 2, 1) := by decide +kernel
theorem d_M_parts_16 : decode prog_12_method_48_code 16 = .ok (.invokevirtual 261, 3) := by decide +kernel
theorem d_M_parts_19 : decode prog_12_method_48_code 19 = .ok (.ifCond .eq 10, 3) := by decide +kernel
theorem d_M_parts_22 : decode prog_12_method_48_code 22 = .ok (.aload_n 0, 1) := by decide +kernel
theorem d_M_parts_23 : decode prog_12_method_48_code 23 = .ok (.getfield 241, 3) := by decide +kernel
theorem d_M_parts_26 : decode prog_12_method_48_code 26 = .ok (.goto 4, 3) := by decide +kernel
theorem d_M_parts_29 : decode prog_12_method_48_code 29 = .ok (.iconst 0, 1) := by decide +kernel
theorem d_M_parts_30 : decode prog_12_method_48_code 30 = .ok (.ireturn, 1) := by decide +kernel
theorem d_M_placeOf_0 : decode prog_12_method_35_code 0 = .ok (.iconst (-1), 1) := by decide +kernel
theorem d_M_placeOf_1 : decode prog_12_method_35_code 1 = .ok (.istore_n 2, 1) := by decide +kernel
theorem d_M_placeOf_2 : decode prog_12_method_35_code 2 = .ok (.iconst 0, 1) := by decide +kernel
theorem d_M_placeOf_3 : decode prog_12_method_35_code 3 = .ok (.istore_n 3, 1) := by decide +kernel
theorem d_M_placeOf_4 : decode prog_12_method_35_code 4 = .ok (.iload_n 3, 1) := by decide +kernel
theorem d_M_placeOf_5 : decode prog_12_method_35_code 5 = .ok (.bipush 6, 2) := by decide +kernel
theorem d_M_placeOf_7 : decode prog_12_method_35_code 7 = .ok (.if_icmp .ge 38, 3) := by decide +kernel
theorem d_M_placeOf_10 : decode prog_12_method_35_code 10 = .ok (.iload_n 1, 1) := by decide +kernel
theorem d_M_placeOf_11 : decode prog_12_method_35_code 11 = .ok (.ifCond .lt 26, 3) := by decide +kernel
theorem d_M_placeOf_14 : decode prog_12_method_35_code 14 = .ok (.aload_n 0, 1) := by decide +kernel
theorem d_M_placeOf_15 : decode prog_12_method_35_code 15 = .ok (.getfield 21, 3) := by decide +kernel
theorem d_M_placeOf_18 : decode prog_12_method_35_code 18 = .ok (.iload_n 3, 1) := by decide +kernel
theorem d_M_placeOf_19 : decode prog_12_method_35_code 19 = .ok (.iaload, 1) := by decide +kernel
theorem d_M_placeOf_20 : decode prog_12_method_35_code 20 = .ok (.iload_n 1, 1) := by decide +kernel
theorem d_M_placeOf_21 : decode prog_12_method_35_code 21 = .ok (.if_icmp .ne 16, 3) := by decide +kernel
theorem d_M_placeOf_24 : decode prog_12_method_35_code 24 = .ok (.aload_n 0, 1) := by decide +kernel
theorem d_M_placeOf_25 : decode prog_12_method_35_code 25 = .ok (.getfield 24, 3) := by decide +kernel
theorem d_M_placeOf_28 : decode prog_12_method_35_code 28 = .ok (.iload_n 3, 1) := by decide +kernel
theorem d_M_placeOf_29 : decode prog_12_method_35_code 29 = .ok (.baload, 1) := by decide +kernel
theorem d_M_placeOf_30 : decode prog_12_method_35_code 30 = .ok (.ifCond .eq 7, 3) := by decide +kernel
theorem d_M_placeOf_33 : decode prog_12_method_35_code 33 = .ok (.iload_n 3, 1) := by decide +kernel
theorem d_M_placeOf_34 : decode prog_12_method_35_code 34 = .ok (.goto 4, 3) := by decide +kernel
theorem d_M_placeOf_37 : decode prog_12_method_35_code 37 = .ok (.iload_n 2, 1) := by decide +kernel
theorem d_M_placeOf_38 : decode prog_12_method_35_code 38 = .ok (.istore_n 2, 1) := by decide +kernel
theorem d_M_placeOf_39 : decode prog_12_method_35_code 39 = .ok (.iinc 3 1, 3) := by decide +kernel
theorem d_M_placeOf_42 : decode prog_12_method_35_code 42 = .ok (.goto (-38), 3) := by decide +kernel
theorem d_M_placeOf_45 : decode prog_12_method_35_code 45 = .ok (.iload_n 2, 1) := by decide +kernel
theorem d_M_placeOf_46 : decode prog_12_method_35_code 46 = .ok (.ireturn, 1) := by decide +kernel
theorem d_M_divided_0 : decode prog_12_method_47_code 0 = .ok (.aload_n 0, 1) := by decide +kernel
theorem d_M_divided_1 : decode prog_12_method_47_code 1 = .ok (.iload_n 1, 1) := by decide +kernel
theorem d_M_divided_2 : decode prog_12_method_47_code 2 = .ok (.invokevirtual 238, 3) := by decide +kernel
theorem d_M_divided_5 : decode prog_12_method_47_code 5 = .ok (.aload_n 0, 1) := by decide +kernel
theorem d_M_divided_6 : decode prog_12_method_47_code 6 = .ok (.iconst 0, 1) := by decide +kernel
theorem d_M_divided_7 : decode prog_12_method_47_code 7 = .ok (.putfield 241, 3) := by decide +kernel
theorem d_M_divided_10 : decode prog_12_method_47_code 10 = .ok (.aload_n 0, 1) := by decide +kernel
theorem d_M_divided_11 : decode prog_12_method_47_code 11 = .ok (.iconst 1, 1) := by decide +kernel
theorem d_M_divided_12 : decode prog_12_method_47_code 12 = .ok (.putfield 235, 3) := by decide +kernel
theorem d_M_divided_15 : decode prog_12_method_47_code 15 = .ok (.aload_n 0, 1) := by decide +kernel
theorem d_M_divided_16 : decode prog_12_method_47_code 16 = .ok (.getfield 64, 3) := by decide +kernel
theorem d_M_divided_19 : decode prog_12_method_47_code 19 = .ok (.iconst 0, 1) := by decide +kernel
theorem d_M_divided_20 : decode prog_12_method_47_code 20 = .ok (.iconst 0, 1) := by decide +kernel
theorem d_M_divided_21 : decode prog_12_method_47_code 21 = .ok (.iastore, 1) := by decide +kernel
theorem d_M_divided_22 : decode prog_12_method_47_code 22 = .ok (.aload_n 0, 1) := by decide +kernel
theorem d_M_divided_23 : decode prog_12_method_47_code 23 = .ok (.getfield 67, 3) := by decide +kernel
theorem d_M_divided_26 : decode prog_12_method_47_code 26 = .ok (.iconst 0, 1) := by decide +kernel
theorem d_M_divided_27 : decode prog_12_method_47_code 27 = .ok (.aload_n 0, 1) := by decide +kernel
theorem d_M_divided_28 : decode prog_12_method_47_code 28 = .ok (.getfield 195, 3) := by decide +kernel
theorem d_M_divided_31 : decode prog_12_method_47_code 31 = .ok (.iastore, 1) := by decide +kernel
theorem d_M_divided_32 : decode prog_12_method_47_code 32 = .ok (.aload_n 0, 1) := by decide +kernel
theorem d_M_divided_33 : decode prog_12_method_47_code 33 = .ok (.getfield 70, 3) := by decide +kernel
theorem d_M_divided_36 : decode prog_12_method_47_code 36 = .ok (.iconst 0, 1) := by decide +kernel
theorem d_M_divided_37 : decode prog_12_method_47_code 37 = .ok (.iconst 0, 1) := by decide +kernel
theorem d_M_divided_38 : decode prog_12_method_47_code 38 = .ok (.iastore, 1) := by decide +kernel
theorem d_M_divided_39 : decode prog_12_method_47_code 39 = .ok (.aload_n 0, 1) := by decide +kernel
theorem d_M_divided_40 : decode prog_12_method_47_code 40 = .ok (.getfield 235, 3) := by decide +kernel
theorem d_M_divided_43 : decode prog_12_method_47_code 43 = .ok (.ifCond .le 170, 3) := by decide +kernel
theorem d_M_divided_46 : decode prog_12_method_47_code 46 = .ok (.aload_n 0, 1) := by decide +kernel
theorem d_M_divided_47 : decode prog_12_method_47_code 47 = .ok (.aload_n 0, 1) := by decide +kernel
theorem d_M_divided_48 : decode prog_12_method_47_code 48 = .ok (.getfield 235, 3) := by decide +kernel
theorem d_M_divided_51 : decode prog_12_method_47_code 51 = .ok (.iconst 1, 1) := by decide +kernel
theorem d_M_divided_52 : decode prog_12_method_47_code 52 = .ok (.isub, 1) := by decide +kernel
theorem d_M_divided_53 : decode prog_12_method_47_code 53 = .ok (.putfield 235, 3) := by decide +kernel
theorem d_M_divided_56 : decode prog_12_method_47_code 56 = .ok (.aload_n 0, 1) := by decide +kernel
theorem d_M_divided_57 : decode prog_12_method_47_code 57 = .ok (.getfield 64, 3) := by decide +kernel
theorem d_M_divided_60 : decode prog_12_method_47_code 60 = .ok (.aload_n 0, 1) := by decide +kernel
theorem d_M_divided_61 : decode prog_12_method_47_code 61 = .ok (.getfield 235, 3) := by decide +kernel
theorem d_M_divided_64 : decode prog_12_method_47_code 64 = .ok (.iaload, 1) := by decide +kernel
theorem d_M_divided_65 : decode prog_12_method_47_code 65 = .ok (.istore_n 2, 1) := by decide +kernel
theorem d_M_divided_66 : decode prog_12_method_47_code 66 = .ok (.aload_n 0, 1) := by decide +kernel
theorem d_M_divided_67 : decode prog_12_method_47_code 67 = .ok (.getfield 67, 3) := by decide +kernel
theorem d_M_divided_70 : decode prog_12_method_47_code 70 = .ok (.aload_n 0, 1) := by decide +kernel
theorem d_M_divided_71 : decode prog_12_method_47_code 71 = .ok (.getfield 235, 3) := by decide +kernel
theorem d_M_divided_74 : decode prog_12_method_47_code 74 = .ok (.iaload, 1) := by decide +kernel
theorem d_M_divided_75 : decode prog_12_method_47_code 75 = .ok (.istore_n 3, 1) := by decide +kernel
theorem d_M_divided_76 : decode prog_12_method_47_code 76 = .ok (.aload_n 0, 1) := by decide +kernel
theorem d_M_divided_77 : decode prog_12_method_47_code 77 = .ok (.getfield 70, 3) := by decide +kernel
theorem d_M_divided_80 : decode prog_12_method_47_code 80 = .ok (.aload_n 0, 1) := by decide +kernel
theorem d_M_divided_81 : decode prog_12_method_47_code 81 = .ok (.getfield 235, 3) := by decide +kernel
theorem d_M_divided_84 : decode prog_12_method_47_code 84 = .ok (.iaload, 1) := by decide +kernel
theorem d_M_divided_85 : decode prog_12_method_47_code 85 = .ok (.istore 4, 2) := by decide +kernel
theorem d_M_divided_87 : decode prog_12_method_47_code 87 = .ok (.aload_n 0, 1) := by decide +kernel
theorem d_M_divided_88 : decode prog_12_method_47_code 88 = .ok (.iload_n 2, 1) := by decide +kernel
theorem d_M_divided_89 : decode prog_12_method_47_code 89 = .ok (.iload_n 3, 1) := by decide +kernel
theorem d_M_divided_90 : decode prog_12_method_47_code 90 = .ok (.invokevirtual 244, 3) := by decide +kernel
theorem d_M_divided_93 : decode prog_12_method_47_code 93 = .ok (.istore 5, 2) := by decide +kernel
theorem d_M_divided_95 : decode prog_12_method_47_code 95 = .ok (.aload_n 0, 1) := by decide +kernel
theorem d_M_divided_96 : decode prog_12_method_47_code 96 = .ok (.getfield 241, 3) := by decide +kernel
theorem d_M_divided_99 : decode prog_12_method_47_code 99 = .ok (.bipush 16, 2) := by decide +kernel
theorem d_M_divided_101 : decode prog_12_method_47_code 101 = .ok (.if_icmp .eq 13, 3) := by decide +kernel
theorem d_M_divided_104 : decode prog_12_method_47_code 104 = .ok (.aload_n 0, 1) := by decide +kernel
theorem d_M_divided_105 : decode prog_12_method_47_code 105 = .ok (.iload_n 2, 1) := by decide +kernel
theorem d_M_divided_106 : decode prog_12_method_47_code 106 = .ok (.iload 5, 2) := by decide +kernel
theorem d_M_divided_108 : decode prog_12_method_47_code 108 = .ok (.invokevirtual 248, 3) := by decide +kernel
theorem d_M_divided_111 : decode prog_12_method_47_code 111 = .ok (.ifCond .ne 5, 3) := by decide +kernel
theorem d_M_divided_114 : decode prog_12_method_47_code 114 = .ok (.iconst 0, 1) := by decide +kernel
theorem d_M_divided_115 : decode prog_12_method_47_code 115 = .ok (.ireturn, 1) := by decide +kernel
theorem d_M_divided_116 : decode prog_12_method_47_code 116 = .ok (.aload_n 0, 1) := by decide +kernel
theorem d_M_divided_117 : decode prog_12_method_47_code 117 = .ok (.iload_n 2, 1) := by decide +kernel
theorem d_M_divided_118 : decode prog_12_method_47_code 118 = .ok (.iload 5, 2) := by decide +kernel
theorem d_M_divided_120 : decode prog_12_method_47_code 120 = .ok (.invokevirtual 251, 3) := by decide +kernel
theorem d_M_divided_123 : decode prog_12_method_47_code 123 = .ok (.istore 6, 2) := by decide +kernel
theorem d_M_divided_125 : decode prog_12_method_47_code 125 = .ok (.aload_n 0, 1) := by decide +kernel
theorem d_M_divided_126 : decode prog_12_method_47_code 126 = .ok (.getfield 55, 3) := by decide +kernel
theorem d_M_divided_129 : decode prog_12_method_47_code 129 = .ok (.aload_n 0, 1) := by decide +kernel
theorem d_M_divided_130 : decode prog_12_method_47_code 130 = .ok (.getfield 241, 3) := by decide +kernel
theorem d_M_divided_133 : decode prog_12_method_47_code 133 = .ok (.iload_n 2, 1) := by decide +kernel
theorem d_M_divided_134 : decode prog_12_method_47_code 134 = .ok (.iastore, 1) := by decide +kernel
theorem d_M_divided_135 : decode prog_12_method_47_code 135 = .ok (.aload_n 0, 1) := by decide +kernel
theorem d_M_divided_136 : decode prog_12_method_47_code 136 = .ok (.getfield 58, 3) := by decide +kernel
theorem d_M_divided_139 : decode prog_12_method_47_code 139 = .ok (.aload_n 0, 1) := by decide +kernel
theorem d_M_divided_140 : decode prog_12_method_47_code 140 = .ok (.getfield 241, 3) := by decide +kernel
theorem d_M_divided_143 : decode prog_12_method_47_code 143 = .ok (.iload_n 3, 1) := by decide +kernel
theorem d_M_divided_144 : decode prog_12_method_47_code 144 = .ok (.iastore, 1) := by decide +kernel
theorem d_M_divided_145 : decode prog_12_method_47_code 145 = .ok (.aload_n 0, 1) := by decide +kernel
theorem d_M_divided_146 : decode prog_12_method_47_code 146 = .ok (.getfield 52, 3) := by decide +kernel
theorem d_M_divided_149 : decode prog_12_method_47_code 149 = .ok (.aload_n 0, 1) := by decide +kernel
theorem d_M_divided_150 : decode prog_12_method_47_code 150 = .ok (.getfield 241, 3) := by decide +kernel
theorem d_M_divided_153 : decode prog_12_method_47_code 153 = .ok (.iload 4, 2) := by decide +kernel
theorem d_M_divided_155 : decode prog_12_method_47_code 155 = .ok (.iastore, 1) := by decide +kernel
theorem d_M_divided_156 : decode prog_12_method_47_code 156 = .ok (.aload_n 0, 1) := by decide +kernel
theorem d_M_divided_157 : decode prog_12_method_47_code 157 = .ok (.getfield 61, 3) := by decide +kernel
theorem d_M_divided_160 : decode prog_12_method_47_code 160 = .ok (.aload_n 0, 1) := by decide +kernel
theorem d_M_divided_161 : decode prog_12_method_47_code 161 = .ok (.getfield 241, 3) := by decide +kernel
theorem d_M_divided_164 : decode prog_12_method_47_code 164 = .ok (.iload 6, 2) := by decide +kernel
theorem d_M_divided_166 : decode prog_12_method_47_code 166 = .ok (.bastore, 1) := by decide +kernel
theorem d_M_divided_167 : decode prog_12_method_47_code 167 = .ok (.aload_n 0, 1) := by decide +kernel
theorem d_M_divided_168 : decode prog_12_method_47_code 168 = .ok (.aload_n 0, 1) := by decide +kernel
theorem d_M_divided_169 : decode prog_12_method_47_code 169 = .ok (.getfield 241, 3) := by decide +kernel
theorem d_M_divided_172 : decode prog_12_method_47_code 172 = .ok (.iconst 1, 1) := by decide +kernel
theorem d_M_divided_173 : decode prog_12_method_47_code 173 = .ok (.iadd, 1) := by decide +kernel
theorem d_M_divided_174 : decode prog_12_method_47_code 174 = .ok (.putfield 241, 3) := by decide +kernel
theorem d_M_divided_177 : decode prog_12_method_47_code 177 = .ok (.iload 6, 2) := by decide +kernel
theorem d_M_divided_179 : decode prog_12_method_47_code 179 = .ok (.ifCond .eq 31, 3) := by decide +kernel
theorem d_M_divided_182 : decode prog_12_method_47_code 182 = .ok (.aload_n 0, 1) := by decide +kernel
theorem d_M_divided_183 : decode prog_12_method_47_code 183 = .ok (.iload 5, 2) := by decide +kernel
theorem d_M_divided_185 : decode prog_12_method_47_code 185 = .ok (.iload_n 3, 1) := by decide +kernel
theorem d_M_divided_186 : decode prog_12_method_47_code 186 = .ok (.if_icmp .ge 10, 3) := by decide +kernel
theorem d_M_divided_189 : decode prog_12_method_47_code 189 = .ok (.iload 5, 2) := by decide +kernel
theorem d_M_divided_191 : decode prog_12_method_47_code 191 = .ok (.iconst 1, 1) := by decide +kernel
theorem d_M_divided_192 : decode prog_12_method_47_code 192 = .ok (.iadd, 1) := by decide +kernel
theorem d_M_divided_193 : decode prog_12_method_47_code 193 = .ok (.goto 4, 3) := by decide +kernel
theorem d_M_divided_196 : decode prog_12_method_47_code 196 = .ok (.iload_n 3, 1) := by decide +kernel
theorem d_M_divided_197 : decode prog_12_method_47_code 197 = .ok (.iload_n 3, 1) := by decide +kernel
theorem d_M_divided_198 : decode prog_12_method_47_code 198 = .ok (.iload 4, 2) := by decide +kernel
theorem d_M_divided_200 : decode prog_12_method_47_code 200 = .ok (.iconst 1, 1) := by decide +kernel
theorem d_M_divided_201 : decode prog_12_method_47_code 201 = .ok (.iadd, 1) := by decide +kernel
theorem d_M_divided_202 : decode prog_12_method_47_code 202 = .ok (.invokevirtual 254, 3) := by decide +kernel
theorem d_M_divided_205 : decode prog_12_method_47_code 205 = .ok (.ifCond .ne 5, 3) := by decide +kernel
theorem d_M_divided_208 : decode prog_12_method_47_code 208 = .ok (.iconst 0, 1) := by decide +kernel
theorem d_M_divided_209 : decode prog_12_method_47_code 209 = .ok (.ireturn, 1) := by decide +kernel
theorem d_M_divided_210 : decode prog_12_method_47_code 210 = .ok (.goto (-171), 3) := by decide +kernel
theorem d_M_divided_213 : decode prog_12_method_47_code 213 = .ok (.iconst 1, 1) := by decide +kernel
theorem d_M_divided_214 : decode prog_12_method_47_code 214 = .ok (.ireturn, 1) := by decide +kernel
theorem d_M_findLines_0 : decode prog_12_method_36_code 0 = .ok (.aload_n 0, 1) := by decide +kernel
theorem d_M_findLines_1 : decode prog_12_method_36_code 1 = .ok (.iconst 0, 1) := by decide +kernel
theorem d_M_findLines_2 : decode prog_12_method_36_code 2 = .ok (.putfield 195, 3) := by decide +kernel
theorem d_M_findLines_5 : decode prog_12_method_36_code 5 = .ok (.aload_n 0, 1) := by decide +kernel
theorem d_M_findLines_6 : decode prog_12_method_36_code 6 = .ok (.getfield 49, 3) := by decide +kernel
theorem d_M_findLines_9 : decode prog_12_method_36_code 9 = .ok (.iconst 0, 1) := by decide +kernel
theorem d_M_findLines_10 : decode prog_12_method_36_code 10 = .ok (.sipush 602, 3) := by decide +kernel
theorem d_M_findLines_13 : decode prog_12_method_36_code 13 = .ok (.iload_n 1, 1) := by decide +kernel
theorem d_M_findLines_14 : decode prog_12_method_36_code 14 = .ok (.imul, 1) := by decide +kernel
theorem d_M_findLines_15 : decode prog_12_method_36_code 15 = .ok (.iastore, 1) := by decide +kernel
theorem d_M_findLines_16 : decode prog_12_method_36_code 16 = .ok (.iconst 0, 1) := by decide +kernel
theorem d_M_findLines_17 : decode prog_12_method_36_code 17 = .ok (.istore_n 2, 1) := by decide +kernel
theorem d_M_findLines_18 : decode prog_12_method_36_code 18 = .ok (.iload_n 2, 1) := by decide +kernel
theorem d_M_findLines_19 : decode prog_12_method_36_code 19 = .ok (.aload_n 0, 1) := by decide +kernel
theorem d_M_findLines_20 : decode prog_12_method_36_code 20 = .ok (.getfield 31, 3) := by decide +kernel
theorem d_M_findLines_23 : decode prog_12_method_36_code 23 = .ok (.iload_n 1, 1) := by decide +kernel
theorem d_M_findLines_24 : decode prog_12_method_36_code 24 = .ok (.iaload, 1) := by decide +kernel
theorem d_M_findLines_25 : decode prog_12_method_36_code 25 = .ok (.if_icmp .ge 54, 3) := by decide +kernel
theorem d_M_findLines_28 : decode prog_12_method_36_code 28 = .ok (.aload_n 0, 1) := by decide +kernel
theorem d_M_findLines_29 : decode prog_12_method_36_code 29 = .ok (.getfield 28, 3) := by decide +kernel
theorem d_M_findLines_32 : decode prog_12_method_36_code 32 = .ok (.sipush 602, 3) := by decide +kernel
theorem d_M_findLines_35 : decode prog_12_method_36_code 35 = .ok (.iload_n 1, 1) := by decide +kernel
theorem d_M_findLines_36 : decode prog_12_method_36_code 36 = .ok (.imul, 1) := by decide +kernel
theorem d_M_findLines_37 : decode prog_12_method_36_code 37 = .ok (.iload_n 2, 1) := by decide +kernel
theorem d_M_findLines_38 : decode prog_12_method_36_code 38 = .ok (.iadd, 1) := by decide +kernel
theorem d_M_findLines_39 : decode prog_12_method_36_code 39 = .ok (.iaload, 1) := by decide +kernel
theorem d_M_findLines_40 : decode prog_12_method_36_code 40 = .ok (.bipush 10, 2) := by decide +kernel
theorem d_M_findLines_42 : decode prog_12_method_36_code 42 = .ok (.if_icmp .ne 31, 3) := by decide +kernel
theorem d_M_findLines_45 : decode prog_12_method_36_code 45 = .ok (.aload_n 0, 1) := by decide +kernel
theorem d_M_findLines_46 : decode prog_12_method_36_code 46 = .ok (.aload_n 0, 1) := by decide +kernel
theorem d_M_findLines_47 : decode prog_12_method_36_code 47 = .ok (.getfield 195, 3) := by decide +kernel
theorem d_M_findLines_50 : decode prog_12_method_36_code 50 = .ok (.iconst 1, 1) := by decide +kernel
theorem d_M_findLines_51 : decode prog_12_method_36_code 51 = .ok (.iadd, 1) := by decide +kernel
theorem d_M_findLines_52 : decode prog_12_method_36_code 52 = .ok (.putfield 195, 3) := by decide +kernel
theorem d_M_findLines_55 : decode prog_12_method_36_code 55 = .ok (.aload_n 0, 1) := by decide +kernel
theorem d_M_findLines_56 : decode prog_12_method_36_code 56 = .ok (.getfield 49, 3) := by decide +kernel
theorem d_M_findLines_59 : decode prog_12_method_36_code 59 = .ok (.aload_n 0, 1) := by decide +kernel
theorem d_M_findLines_60 : decode prog_12_method_36_code 60 = .ok (.getfield 195, 3) := by decide +kernel
theorem d_M_findLines_63 : decode prog_12_method_36_code 63 = .ok (.sipush 602, 3) := by decide +kernel
theorem d_M_findLines_66 : decode prog_12_method_36_code 66 = .ok (.iload_n 1, 1) := by decide +kernel
theorem d_M_findLines_67 : decode prog_12_method_36_code 67 = .ok (.imul, 1) := by decide +kernel
theorem d_M_findLines_68 : decode prog_12_method_36_code 68 = .ok (.iload_n 2, 1) := by decide +kernel
theorem d_M_findLines_69 : decode prog_12_method_36_code 69 = .ok (.iadd, 1) := by decide +kernel
theorem d_M_findLines_70 : decode prog_12_method_36_code 70 = .ok (.iconst 1, 1) := by decide +kernel
theorem d_M_findLines_71 : decode prog_12_method_36_code 71 = .ok (.iadd, 1) := by decide +kernel
theorem d_M_findLines_72 : decode prog_12_method_36_code 72 = .ok (.iastore, 1) := by decide +kernel
theorem d_M_findLines_73 : decode prog_12_method_36_code 73 = .ok (.iinc 2 1, 3) := by decide +kernel
theorem d_M_findLines_76 : decode prog_12_method_36_code 76 = .ok (.goto (-58), 3) := by decide +kernel
theorem d_M_findLines_79 : decode prog_12_method_36_code 79 = .ok (.return_, 1) := by decide +kernel
theorem d_M_headEnd_0 : decode prog_12_method_41_code 0 = .ok (.iload_n 1, 1) := by decide +kernel
theorem d_M_headEnd_1 : decode prog_12_method_41_code 1 = .ok (.istore_n 3, 1) := by decide +kernel
theorem d_M_headEnd_2 : decode prog_12_method_41_code 2 = .ok (.iload_n 3, 1) := by decide +kernel
theorem d_M_headEnd_3 : decode prog_12_method_41_code 3 = .ok (.iload_n 2, 1) := by decide +kernel
theorem d_M_headEnd_4 : decode prog_12_method_41_code 4 = .ok (.if_icmp .ge 18, 3) := by decide +kernel
theorem d_M_headEnd_7 : decode prog_12_method_41_code 7 = .ok (.aload_n 0, 1) := by decide +kernel
theorem d_M_headEnd_8 : decode prog_12_method_41_code 8 = .ok (.iload_n 3, 1) := by decide +kernel
theorem d_M_headEnd_9 : decode prog_12_method_41_code 9 = .ok (.invokevirtual 201, 3) := by decide +kernel
theorem d_M_headEnd_12 : decode prog_12_method_41_code 12 = .ok (.ifCond .ne 10, 3) := by decide +kernel
theorem d_M_headEnd_15 : decode prog_12_method_41_code 15 = .ok (.iload_n 3, 1) := by decide +kernel
theorem d_M_headEnd_16 : decode prog_12_method_41_code 16 = .ok (.iconst 1, 1) := by decide +kernel
theorem d_M_headEnd_17 : decode prog_12_method_41_code 17 = .ok (.iadd, 1) := by decide +kernel
theorem d_M_headEnd_18 : decode prog_12_method_41_code 18 = .ok (.istore_n 3, 1) := by decide +kernel
theorem d_M_headEnd_19 : decode prog_12_method_41_code 19 = .ok (.goto (-17), 3) := by decide +kernel
theorem d_M_headEnd_22 : decode prog_12_method_41_code 22 = .ok (.iload_n 3, 1) := by decide +kernel
theorem d_M_headEnd_23 : decode prog_12_method_41_code 23 = .ok (.ireturn, 1) := by decide +kernel
theorem d_M_isEmpty_0 : decode prog_12_method_38_code 0 = .ok (.aload_n 0, 1) := by decide +kernel
theorem d_M_isEmpty_1 : decode prog_12_method_38_code 1 = .ok (.iload_n 1, 1) := by decide +kernel
theorem d_M_isEmpty_2 : decode prog_12_method_38_code 2 = .ok (.invokevirtual 198, 3) := by decide +kernel
theorem d_M_isEmpty_5 : decode prog_12_method_38_code 5 = .ok (.aload_n 0, 1) := by decide +kernel
theorem d_M_isEmpty_6 : decode prog_12_method_38_code 6 = .ok (.getfield 49, 3) := by decide +kernel
theorem d_M_isEmpty_9 : decode prog_12_method_38_code 9 = .ok (.iload_n 1, 1) := by decide +kernel
theorem d_M_isEmpty_10 : decode prog_12_method_38_code 10 = .ok (.iaload, 1) := by decide +kernel
theorem d_M_isEmpty_11 : decode prog_12_method_38_code 11 = .ok (.if_icmp .ne 7, 3) := by decide +kernel
theorem d_M_isEmpty_14 : decode prog_12_method_38_code 14 = .ok (.iconst 1, 1) := by decide +kernel
theorem d_M_isEmpty_15 : decode prog_12_method_38_code 15 = .ok (.goto 4, 3) := by decide +kernel
theorem d_M_isEmpty_18 : decode prog_12_method_38_code 18 = .ok (.iconst 0, 1) := by decide +kernel
theorem d_M_isEmpty_19 : decode prog_12_method_38_code 19 = .ok (.ireturn, 1) := by decide +kernel
theorem d_M_endOf_0 : decode prog_12_method_37_code 0 = .ok (.aload_n 0, 1) := by decide +kernel
theorem d_M_endOf_1 : decode prog_12_method_37_code 1 = .ok (.getfield 49, 3) := by decide +kernel
theorem d_M_endOf_4 : decode prog_12_method_37_code 4 = .ok (.iload_n 1, 1) := by decide +kernel
theorem d_M_endOf_5 : decode prog_12_method_37_code 5 = .ok (.iconst 1, 1) := by decide +kernel
theorem d_M_endOf_6 : decode prog_12_method_37_code 6 = .ok (.iadd, 1) := by decide +kernel
theorem d_M_endOf_7 : decode prog_12_method_37_code 7 = .ok (.iaload, 1) := by decide +kernel
theorem d_M_endOf_8 : decode prog_12_method_37_code 8 = .ok (.iconst 1, 1) := by decide +kernel
theorem d_M_endOf_9 : decode prog_12_method_37_code 9 = .ok (.isub, 1) := by decide +kernel
theorem d_M_endOf_10 : decode prog_12_method_37_code 10 = .ok (.ireturn, 1) := by decide +kernel
theorem d_M_rightHead_0 : decode prog_12_method_42_code 0 = .ok (.iconst 1, 1) := by decide +kernel
theorem d_M_rightHead_1 : decode prog_12_method_42_code 1 = .ok (.istore_n 3, 1) := by decide +kernel
theorem d_M_rightHead_2 : decode prog_12_method_42_code 2 = .ok (.iload_n 1, 1) := by decide +kernel
theorem d_M_rightHead_3 : decode prog_12_method_42_code 3 = .ok (.istore 4, 2) := by decide +kernel
theorem d_M_rightHead_5 : decode prog_12_method_42_code 5 = .ok (.iload 4, 2) := by decide +kernel
theorem d_M_rightHead_7 : decode prog_12_method_42_code 7 = .ok (.iload_n 2, 1) := by decide +kernel
theorem d_M_rightHead_8 : decode prog_12_method_42_code 8 = .ok (.if_icmp .ge 51, 3) := by decide +kernel
theorem d_M_rightHead_11 : decode prog_12_method_42_code 11 = .ok (.iload_n 3, 1) := by decide +kernel
theorem d_M_rightHead_12 : decode prog_12_method_42_code 12 = .ok (.ifCond .eq 39, 3) := by decide +kernel
theorem d_M_rightHead_15 : decode prog_12_method_42_code 15 = .ok (.aload_n 0, 1) := by decide +kernel
theorem d_M_rightHead_16 : decode prog_12_method_42_code 16 = .ok (.iload 4, 2) := by decide +kernel
theorem d_M_rightHead_18 : decode prog_12_method_42_code 18 = .ok (.invokevirtual 204, 3) := by decide +kernel
theorem d_M_rightHead_21 : decode prog_12_method_42_code 21 = .ok (.ifCond .ge 26, 3) := by decide +kernel
theorem d_M_rightHead_24 : decode prog_12_method_42_code 24 = .ok (.aload_n 0, 1) := by decide +kernel
theorem d_M_rightHead_25 : decode prog_12_method_42_code 25 = .ok (.getfield 28, 3) := by decide +kernel
theorem d_M_rightHead_28 : decode prog_12_method_42_code 28 = .ok (.aload_n 0, 1) := by decide +kernel
theorem d_M_rightHead_29 : decode prog_12_method_42_code 29 = .ok (.getfield 49, 3) := by decide +kernel
theorem d_M_rightHead_32 : decode prog_12_method_42_code 32 = .ok (.iload 4, 2) := by decide +kernel
theorem d_M_rightHead_34 : decode prog_12_method_42_code 34 = .ok (.iaload, 1) := by decide +kernel
theorem d_M_rightHead_35 : decode prog_12_method_42_code 35 = .ok (.iaload, 1) := by decide +kernel
theorem d_M_rightHead_36 : decode prog_12_method_42_code 36 = .ok (.bipush 32, 2) := by decide +kernel
theorem d_M_rightHead_38 : decode prog_12_method_42_code 38 = .ok (.if_icmp .ne 13, 3) := by decide +kernel
theorem d_M_rightHead_41 : decode prog_12_method_42_code 41 = .ok (.iload 4, 2) := by decide +kernel
theorem d_M_rightHead_43 : decode prog_12_method_42_code 43 = .ok (.iload_n 1, 1) := by decide +kernel
theorem d_M_rightHead_44 : decode prog_12_method_42_code 44 = .ok (.if_icmp .le 7, 3) := by decide +kernel
theorem d_M_rightHead_47 : decode prog_12_method_42_code 47 = .ok (.iconst 1, 1) := by decide +kernel
theorem d_M_rightHead_48 : decode prog_12_method_42_code 48 = .ok (.goto 4, 3) := by decide +kernel
theorem d_M_rightHead_51 : decode prog_12_method_42_code 51 = .ok (.iconst 0, 1) := by decide +kernel
theorem d_M_rightHead_52 : decode prog_12_method_42_code 52 = .ok (.istore_n 3, 1) := by decide +kernel
theorem d_M_rightHead_53 : decode prog_12_method_42_code 53 = .ok (.iinc 4 1, 3) := by decide +kernel
theorem d_M_rightHead_56 : decode prog_12_method_42_code 56 = .ok (.goto (-51), 3) := by decide +kernel
theorem d_M_rightHead_59 : decode prog_12_method_42_code 59 = .ok (.iload_n 3, 1) := by decide +kernel
theorem d_M_rightHead_60 : decode prog_12_method_42_code 60 = .ok (.ireturn, 1) := by decide +kernel
theorem d_M_colon_0 : decode prog_12_method_40_code 0 = .ok (.aload_n 0, 1) := by decide +kernel
theorem d_M_colon_1 : decode prog_12_method_40_code 1 = .ok (.getfield 49, 3) := by decide +kernel
theorem d_M_colon_4 : decode prog_12_method_40_code 4 = .ok (.iload_n 1, 1) := by decide +kernel
theorem d_M_colon_5 : decode prog_12_method_40_code 5 = .ok (.iaload, 1) := by decide +kernel
theorem d_M_colon_6 : decode prog_12_method_40_code 6 = .ok (.istore_n 2, 1) := by decide +kernel
theorem d_M_colon_7 : decode prog_12_method_40_code 7 = .ok (.iload_n 2, 1) := by decide +kernel
theorem d_M_colon_8 : decode prog_12_method_40_code 8 = .ok (.aload_n 0, 1) := by decide +kernel
theorem d_M_colon_9 : decode prog_12_method_40_code 9 = .ok (.iload_n 1, 1) := by decide +kernel
theorem d_M_colon_10 : decode prog_12_method_40_code 10 = .ok (.invokevirtual 198, 3) := by decide +kernel
theorem d_M_colon_13 : decode prog_12_method_40_code 13 = .ok (.if_icmp .ge 33, 3) := by decide +kernel
theorem d_M_colon_16 : decode prog_12_method_40_code 16 = .ok (.aload_n 0, 1) := by decide +kernel
theorem d_M_colon_17 : decode prog_12_method_40_code 17 = .ok (.getfield 28, 3) := by decide +kernel
theorem d_M_colon_20 : decode prog_12_method_40_code 20 = .ok (.iload_n 2, 1) := by decide +kernel
theorem d_M_colon_21 : decode prog_12_method_40_code 21 = .ok (.iaload, 1) := by decide +kernel
theorem d_M_colon_22 : decode prog_12_method_40_code 22 = .ok (.invokestatic 108, 3) := by decide +kernel
theorem d_M_colon_25 : decode prog_12_method_40_code 25 = .ok (.ifCond .ne 14, 3) := by decide +kernel
theorem d_M_colon_28 : decode prog_12_method_40_code 28 = .ok (.aload_n 0, 1) := by decide +kernel
theorem d_M_colon_29 : decode prog_12_method_40_code 29 = .ok (.getfield 28, 3) := by decide +kernel
theorem d_M_colon_32 : decode prog_12_method_40_code 32 = .ok (.iload_n 2, 1) := by decide +kernel
theorem d_M_colon_33 : decode prog_12_method_40_code 33 = .ok (.iaload, 1) := by decide +kernel
theorem d_M_colon_34 : decode prog_12_method_40_code 34 = .ok (.bipush 45, 2) := by decide +kernel
theorem d_M_colon_36 : decode prog_12_method_40_code 36 = .ok (.if_icmp .ne 10, 3) := by decide +kernel
theorem d_M_colon_39 : decode prog_12_method_40_code 39 = .ok (.iload_n 2, 1) := by decide +kernel
theorem d_M_colon_40 : decode prog_12_method_40_code 40 = .ok (.iconst 1, 1) := by decide +kernel
theorem d_M_colon_41 : decode prog_12_method_40_code 41 = .ok (.iadd, 1) := by decide +kernel
theorem d_M_colon_42 : decode prog_12_method_40_code 42 = .ok (.istore_n 2, 1) := by decide +kernel
theorem d_M_colon_43 : decode prog_12_method_40_code 43 = .ok (.goto (-36), 3) := by decide +kernel
theorem d_M_colon_46 : decode prog_12_method_40_code 46 = .ok (.iload_n 2, 1) := by decide +kernel
theorem d_M_colon_47 : decode prog_12_method_40_code 47 = .ok (.aload_n 0, 1) := by decide +kernel
theorem d_M_colon_48 : decode prog_12_method_40_code 48 = .ok (.iload_n 1, 1) := by decide +kernel
theorem d_M_colon_49 : decode prog_12_method_40_code 49 = .ok (.invokevirtual 198, 3) := by decide +kernel
theorem d_M_colon_52 : decode prog_12_method_40_code 52 = .ok (.if_icmp .ge 28, 3) := by decide +kernel
theorem d_M_colon_55 : decode prog_12_method_40_code 55 = .ok (.iload_n 2, 1) := by decide +kernel
theorem d_M_colon_56 : decode prog_12_method_40_code 56 = .ok (.aload_n 0, 1) := by decide +kernel
theorem d_M_colon_57 : decode prog_12_method_40_code 57 = .ok (.getfield 49, 3) := by decide +kernel
theorem d_M_colon_60 : decode prog_12_method_40_code 60 = .ok (.iload_n 1, 1) := by decide +kernel
theorem d_M_colon_61 : decode prog_12_method_40_code 61 = .ok (.iaload, 1) := by decide +kernel
theorem d_M_colon_62 : decode prog_12_method_40_code 62 = .ok (.if_icmp .le 18, 3) := by decide +kernel
theorem d_M_colon_65 : decode prog_12_method_40_code 65 = .ok (.aload_n 0, 1) := by decide +kernel
theorem d_M_colon_66 : decode prog_12_method_40_code 66 = .ok (.getfield 28, 3) := by decide +kernel
theorem d_M_colon_69 : decode prog_12_method_40_code 69 = .ok (.iload_n 2, 1) := by decide +kernel
theorem d_M_colon_70 : decode prog_12_method_40_code 70 = .ok (.iaload, 1) := by decide +kernel
theorem d_M_colon_71 : decode prog_12_method_40_code 71 = .ok (.bipush 58, 2) := by decide +kernel
theorem d_M_colon_73 : decode prog_12_method_40_code 73 = .ok (.if_icmp .ne 7, 3) := by decide +kernel
theorem d_M_colon_76 : decode prog_12_method_40_code 76 = .ok (.iload_n 2, 1) := by decide +kernel
theorem d_M_colon_77 : decode prog_12_method_40_code 77 = .ok (.goto 4, 3) := by decide +kernel
theorem d_M_colon_80 : decode prog_12_method_40_code 80 = .ok (.iconst (-1), 1) := by decide +kernel
theorem d_M_colon_81 : decode prog_12_method_40_code 81 = .ok (.ireturn, 1) := by decide +kernel
theorem d_M_isMulti_0 : decode prog_12_method_44_code 0 = .ok (.iload_n 1, 1) := by decide +kernel
theorem d_M_isMulti_1 : decode prog_12_method_44_code 1 = .ok (.istore_n 3, 1) := by decide +kernel
theorem d_M_isMulti_2 : decode prog_12_method_44_code 2 = .ok (.iload_n 3, 1) := by decide +kernel
theorem d_M_isMulti_3 : decode prog_12_method_44_code 3 = .ok (.iload_n 2, 1) := by decide +kernel
theorem d_M_isMulti_4 : decode prog_12_method_44_code 4 = .ok (.if_icmp .ge 63, 3) := by decide +kernel
theorem d_M_isMulti_7 : decode prog_12_method_44_code 7 = .ok (.aload_n 0, 1) := by decide +kernel
theorem d_M_isMulti_8 : decode prog_12_method_44_code 8 = .ok (.iload_n 3, 1) := by decide +kernel
theorem d_M_isMulti_9 : decode prog_12_method_44_code 9 = .ok (.invokevirtual 204, 3) := by decide +kernel
theorem d_M_isMulti_12 : decode prog_12_method_44_code 12 = .ok (.istore 4, 2) := by decide +kernel
theorem d_M_isMulti_14 : decode prog_12_method_44_code 14 = .ok (.iload 4, 2) := by decide +kernel
theorem d_M_isMulti_16 : decode prog_12_method_44_code 16 = .ok (.aload_n 0, 1) := by decide +kernel
theorem d_M_isMulti_17 : decode prog_12_method_44_code 17 = .ok (.getfield 49, 3) := by decide +kernel
theorem d_M_isMulti_20 : decode prog_12_method_44_code 20 = .ok (.iload_n 3, 1) := by decide +kernel
theorem d_M_isMulti_21 : decode prog_12_method_44_code 21 = .ok (.iaload, 1) := by decide +kernel
theorem d_M_isMulti_22 : decode prog_12_method_44_code 22 = .ok (.bipush 12, 2) := by decide +kernel
theorem d_M_isMulti_24 : decode prog_12_method_44_code 24 = .ok (.iadd, 1) := by decide +kernel
theorem d_M_isMulti_25 : decode prog_12_method_44_code 25 = .ok (.if_icmp .ne 36, 3) := by decide +kernel
theorem d_M_isMulti_28 : decode prog_12_method_44_code 28 = .ok (.aload_n 0, 1) := by decide +kernel
theorem d_M_isMulti_29 : decode prog_12_method_44_code 29 = .ok (.aload_n 0, 1) := by decide +kernel
theorem d_M_isMulti_30 : decode prog_12_method_44_code 30 = .ok (.getfield 49, 3) := by decide +kernel
theorem d_M_isMulti_33 : decode prog_12_method_44_code 33 = .ok (.iload_n 3, 1) := by decide +kernel
theorem d_M_isMulti_34 : decode prog_12_method_44_code 34 = .ok (.iaload, 1) := by decide +kernel
theorem d_M_isMulti_35 : decode prog_12_method_44_code 35 = .ok (.iload 4, 2) := by decide +kernel
theorem d_M_isMulti_37 : decode prog_12_method_44_code 37 = .ok (.ldc2_w 225, 3) := by decide +kernel
theorem d_M_isMulti_40 : decode prog_12_method_44_code 40 = .ok (.ldc2_w 227, 3) := by decide +kernel
theorem d_M_isMulti_43 : decode prog_12_method_44_code 43 = .ok (.bipush 12, 2) := by decide +kernel
theorem d_M_isMulti_45 : decode prog_12_method_44_code 45 = .ok (.invokevirtual 211, 3) := by decide +kernel
theorem d_M_isMulti_48 : decode prog_12_method_44_code 48 = .ok (.ifCond .eq 13, 3) := by decide +kernel
theorem d_M_isMulti_51 : decode prog_12_method_44_code 51 = .ok (.aload_n 0, 1) := by decide +kernel
theorem d_M_isMulti_52 : decode prog_12_method_44_code 52 = .ok (.iload_n 3, 1) := by decide +kernel
theorem d_M_isMulti_53 : decode prog_12_method_44_code 53 = .ok (.iload 4, 2) := by decide +kernel
theorem d_M_isMulti_55 : decode prog_12_method_44_code 55 = .ok (.iconst 1, 1) := by decide +kernel
theorem d_M_isMulti_56 : decode prog_12_method_44_code 56 = .ok (.iadd, 1) := by decide +kernel
theorem d_M_isMulti_57 : decode prog_12_method_44_code 57 = .ok (.invokevirtual 229, 3) := by decide +kernel
theorem d_M_isMulti_60 : decode prog_12_method_44_code 60 = .ok (.ireturn, 1) := by decide +kernel
theorem d_M_isMulti_61 : decode prog_12_method_44_code 61 = .ok (.iinc 3 1, 3) := by decide +kernel
theorem d_M_isMulti_64 : decode prog_12_method_44_code 64 = .ok (.goto (-62), 3) := by decide +kernel
theorem d_M_isMulti_67 : decode prog_12_method_44_code 67 = .ok (.iconst 0, 1) := by decide +kernel
theorem d_M_isMulti_68 : decode prog_12_method_44_code 68 = .ok (.ireturn, 1) := by decide +kernel
theorem d_M_matches_0 : decode prog_12_method_39_code 0 = .ok (.iload_n 1, 1) := by decide +kernel
theorem d_M_matches_1 : decode prog_12_method_39_code 1 = .ok (.iload 7, 2) := by decide +kernel
theorem d_M_matches_3 : decode prog_12_method_39_code 3 = .ok (.iadd, 1) := by decide +kernel
theorem d_M_matches_4 : decode prog_12_method_39_code 4 = .ok (.iload_n 2, 1) := by decide +kernel
theorem d_M_matches_5 : decode prog_12_method_39_code 5 = .ok (.if_icmp .gt 7, 3) := by decide +kernel
theorem d_M_matches_8 : decode prog_12_method_39_code 8 = .ok (.iconst 1, 1) := by decide +kernel
theorem d_M_matches_9 : decode prog_12_method_39_code 9 = .ok (.goto 4, 3) := by decide +kernel
theorem d_M_matches_12 : decode prog_12_method_39_code 12 = .ok (.iconst 0, 1) := by decide +kernel
theorem d_M_matches_13 : decode prog_12_method_39_code 13 = .ok (.istore 8, 2) := by decide +kernel
theorem d_M_matches_15 : decode prog_12_method_39_code 15 = .ok (.iconst 0, 1) := by decide +kernel
theorem d_M_matches_16 : decode prog_12_method_39_code 16 = .ok (.istore 9, 2) := by decide +kernel
theorem d_M_matches_18 : decode prog_12_method_39_code 18 = .ok (.iload 9, 2) := by decide +kernel
theorem d_M_matches_20 : decode prog_12_method_39_code 20 = .ok (.iload 7, 2) := by decide +kernel
theorem d_M_matches_22 : decode prog_12_method_39_code 22 = .ok (.if_icmp .ge 44, 3) := by decide +kernel
theorem d_M_matches_25 : decode prog_12_method_39_code 25 = .ok (.iload 8, 2) := by decide +kernel
theorem d_M_matches_27 : decode prog_12_method_39_code 27 = .ok (.ifCond .eq 39, 3) := by decide +kernel
theorem d_M_matches_30 : decode prog_12_method_39_code 30 = .ok (.aload_n 0, 1) := by decide +kernel
theorem d_M_matches_31 : decode prog_12_method_39_code 31 = .ok (.getfield 28, 3) := by decide +kernel
theorem d_M_matches_34 : decode prog_12_method_39_code 34 = .ok (.iload_n 1, 1) := by decide +kernel
theorem d_M_matches_35 : decode prog_12_method_39_code 35 = .ok (.iload 9, 2) := by decide +kernel
theorem d_M_matches_37 : decode prog_12_method_39_code 37 = .ok (.iadd, 1) := by decide +kernel
theorem d_M_matches_38 : decode prog_12_method_39_code 38 = .ok (.iaload, 1) := by decide +kernel
theorem d_M_matches_39 : decode prog_12_method_39_code 39 = .ok (.invokestatic 118, 3) := by decide +kernel
theorem d_M_matches_42 : decode prog_12_method_39_code 42 = .ok (.lload_n 3, 1) := by decide +kernel
theorem d_M_matches_43 : decode prog_12_method_39_code 43 = .ok (.lload 5, 2) := by decide +kernel
theorem d_M_matches_45 : decode prog_12_method_39_code 45 = .ok (.iload 9, 2) := by decide +kernel
theorem d_M_matches_47 : decode prog_12_method_39_code 47 = .ok (.invokestatic 184, 3) := by decide +kernel
theorem d_M_matches_50 : decode prog_12_method_39_code 50 = .ok (.if_icmp .ne 7, 3) := by decide +kernel
theorem d_M_matches_53 : decode prog_12_method_39_code 53 = .ok (.iconst 1, 1) := by decide +kernel
theorem d_M_matches_54 : decode prog_12_method_39_code 54 = .ok (.goto 4, 3) := by decide +kernel
theorem d_M_matches_57 : decode prog_12_method_39_code 57 = .ok (.iconst 0, 1) := by decide +kernel
theorem d_M_matches_58 : decode prog_12_method_39_code 58 = .ok (.istore 8, 2) := by decide +kernel
theorem d_M_matches_60 : decode prog_12_method_39_code 60 = .ok (.iinc 9 1, 3) := by decide +kernel
theorem d_M_matches_63 : decode prog_12_method_39_code 63 = .ok (.goto (-45), 3) := by decide +kernel
theorem d_M_matches_66 : decode prog_12_method_39_code 66 = .ok (.iload 8, 2) := by decide +kernel
theorem d_M_matches_68 : decode prog_12_method_39_code 68 = .ok (.ireturn, 1) := by decide +kernel
theorem d_M_boundary_0 : decode prog_12_method_43_code 0 = .ok (.iload_n 2, 1) := by decide +kernel
theorem d_M_boundary_1 : decode prog_12_method_43_code 1 = .ok (.istore_n 3, 1) := by decide +kernel
theorem d_M_boundary_2 : decode prog_12_method_43_code 2 = .ok (.aload_n 0, 1) := by decide +kernel
theorem d_M_boundary_3 : decode prog_12_method_43_code 3 = .ok (.iload_n 1, 1) := by decide +kernel
theorem d_M_boundary_4 : decode prog_12_method_43_code 4 = .ok (.invokevirtual 198, 3) := by decide +kernel
theorem d_M_boundary_7 : decode prog_12_method_43_code 7 = .ok (.istore 4, 2) := by decide +kernel
theorem d_M_boundary_9 : decode prog_12_method_43_code 9 = .ok (.iload_n 3, 1) := by decide +kernel
theorem d_M_boundary_10 : decode prog_12_method_43_code 10 = .ok (.iload 4, 2) := by decide +kernel
theorem d_M_boundary_12 : decode prog_12_method_43_code 12 = .ok (.if_icmp .ge 21, 3) := by decide +kernel
theorem d_M_boundary_15 : decode prog_12_method_43_code 15 = .ok (.aload_n 0, 1) := by decide +kernel
theorem d_M_boundary_16 : decode prog_12_method_43_code 16 = .ok (.getfield 28, 3) := by decide +kernel
theorem d_M_boundary_19 : decode prog_12_method_43_code 19 = .ok (.iload_n 3, 1) := by decide +kernel
theorem d_M_boundary_20 : decode prog_12_method_43_code 20 = .ok (.iaload, 1) := by decide +kernel
theorem d_M_boundary_21 : decode prog_12_method_43_code 21 = .ok (.bipush 32, 2) := by decide +kernel
theorem d_M_boundary_23 : decode prog_12_method_43_code 23 = .ok (.if_icmp .ne 10, 3) := by decide +kernel
theorem d_M_boundary_26 : decode prog_12_method_43_code 26 = .ok (.iload_n 3, 1) := by decide +kernel
theorem d_M_boundary_27 : decode prog_12_method_43_code 27 = .ok (.iconst 1, 1) := by decide +kernel
theorem d_M_boundary_28 : decode prog_12_method_43_code 28 = .ok (.iadd, 1) := by decide +kernel
theorem d_M_boundary_29 : decode prog_12_method_43_code 29 = .ok (.istore_n 3, 1) := by decide +kernel
theorem d_M_boundary_30 : decode prog_12_method_43_code 30 = .ok (.goto (-21), 3) := by decide +kernel
theorem d_M_boundary_33 : decode prog_12_method_43_code 33 = .ok (.aload_n 0, 1) := by decide +kernel
theorem d_M_boundary_34 : decode prog_12_method_43_code 34 = .ok (.iload_n 3, 1) := by decide +kernel
theorem d_M_boundary_35 : decode prog_12_method_43_code 35 = .ok (.iload 4, 2) := by decide +kernel
theorem d_M_boundary_37 : decode prog_12_method_43_code 37 = .ok (.ldc2_w 207, 3) := by decide +kernel
theorem d_M_boundary_40 : decode prog_12_method_43_code 40 = .ok (.ldc2_w 209, 3) := by decide +kernel
theorem d_M_boundary_43 : decode prog_12_method_43_code 43 = .ok (.bipush 10, 2) := by decide +kernel
theorem d_M_boundary_45 : decode prog_12_method_43_code 45 = .ok (.invokevirtual 211, 3) := by decide +kernel
theorem d_M_boundary_48 : decode prog_12_method_43_code 48 = .ok (.ifCond .ne 5, 3) := by decide +kernel
theorem d_M_boundary_51 : decode prog_12_method_43_code 51 = .ok (.iconst 0, 1) := by decide +kernel
theorem d_M_boundary_52 : decode prog_12_method_43_code 52 = .ok (.ireturn, 1) := by decide +kernel
theorem d_M_boundary_53 : decode prog_12_method_43_code 53 = .ok (.iload_n 3, 1) := by decide +kernel
theorem d_M_boundary_54 : decode prog_12_method_43_code 54 = .ok (.bipush 10, 2) := by decide +kernel
theorem d_M_boundary_56 : decode prog_12_method_43_code 56 = .ok (.iadd, 1) := by decide +kernel
theorem d_M_boundary_57 : decode prog_12_method_43_code 57 = .ok (.istore_n 3, 1) := by decide +kernel
theorem d_M_boundary_58 : decode prog_12_method_43_code 58 = .ok (.iload_n 3, 1) := by decide +kernel
theorem d_M_boundary_59 : decode prog_12_method_43_code 59 = .ok (.iload 4, 2) := by decide +kernel
theorem d_M_boundary_61 : decode prog_12_method_43_code 61 = .ok (.if_icmp .ge 28, 3) := by decide +kernel
theorem d_M_boundary_64 : decode prog_12_method_43_code 64 = .ok (.aload_n 0, 1) := by decide +kernel
theorem d_M_boundary_65 : decode prog_12_method_43_code 65 = .ok (.iload_n 3, 1) := by decide +kernel
theorem d_M_boundary_66 : decode prog_12_method_43_code 66 = .ok (.iload 4, 2) := by decide +kernel
theorem d_M_boundary_68 : decode prog_12_method_43_code 68 = .ok (.ldc2_w 215, 3) := by decide +kernel
theorem d_M_boundary_71 : decode prog_12_method_43_code 71 = .ok (.ldc2_w 217, 3) := by decide +kernel
theorem d_M_boundary_74 : decode prog_12_method_43_code 74 = .ok (.bipush 9, 2) := by decide +kernel
theorem d_M_boundary_76 : decode prog_12_method_43_code 76 = .ok (.invokevirtual 211, 3) := by decide +kernel
theorem d_M_boundary_79 : decode prog_12_method_43_code 79 = .ok (.ifCond .ne 10, 3) := by decide +kernel
theorem d_M_boundary_82 : decode prog_12_method_43_code 82 = .ok (.iload_n 3, 1) := by decide +kernel
theorem d_M_boundary_83 : decode prog_12_method_43_code 83 = .ok (.iconst 1, 1) := by decide +kernel
theorem d_M_boundary_84 : decode prog_12_method_43_code 84 = .ok (.iadd, 1) := by decide +kernel
theorem d_M_boundary_85 : decode prog_12_method_43_code 85 = .ok (.istore_n 3, 1) := by decide +kernel
theorem d_M_boundary_86 : decode prog_12_method_43_code 86 = .ok (.goto (-28), 3) := by decide +kernel
theorem d_M_boundary_89 : decode prog_12_method_43_code 89 = .ok (.aload_n 0, 1) := by decide +kernel
theorem d_M_boundary_90 : decode prog_12_method_43_code 90 = .ok (.iload_n 3, 1) := by decide +kernel
theorem d_M_boundary_91 : decode prog_12_method_43_code 91 = .ok (.bipush 9, 2) := by decide +kernel
theorem d_M_boundary_93 : decode prog_12_method_43_code 93 = .ok (.iadd, 1) := by decide +kernel
theorem d_M_boundary_94 : decode prog_12_method_43_code 94 = .ok (.putfield 219, 3) := by decide +kernel
theorem d_M_boundary_97 : decode prog_12_method_43_code 97 = .ok (.aload_n 0, 1) := by decide +kernel
theorem d_M_boundary_98 : decode prog_12_method_43_code 98 = .ok (.iconst 0, 1) := by decide +kernel
theorem d_M_boundary_99 : decode prog_12_method_43_code 99 = .ok (.putfield 222, 3) := by decide +kernel
theorem d_M_boundary_102 : decode prog_12_method_43_code 102 = .ok (.aload_n 0, 1) := by decide +kernel
theorem d_M_boundary_103 : decode prog_12_method_43_code 103 = .ok (.getfield 219, 3) := by decide +kernel
theorem d_M_boundary_106 : decode prog_12_method_43_code 106 = .ok (.aload_n 0, 1) := by decide +kernel
theorem d_M_boundary_107 : decode prog_12_method_43_code 107 = .ok (.getfield 222, 3) := by decide +kernel
theorem d_M_boundary_110 : decode prog_12_method_43_code 110 = .ok (.iadd, 1) := by decide +kernel
theorem d_M_boundary_111 : decode prog_12_method_43_code 111 = .ok (.iload 4, 2) := by decide +kernel
theorem d_M_boundary_113 : decode prog_12_method_43_code 113 = .ok (.if_icmp .ge 36, 3) := by decide +kernel
theorem d_M_boundary_116 : decode prog_12_method_43_code 116 = .ok (.aload_n 0, 1) := by decide +kernel
theorem d_M_boundary_117 : decode prog_12_method_43_code 117 = .ok (.getfield 28, 3) := by decide +kernel
theorem d_M_boundary_120 : decode prog_12_method_43_code 120 = .ok (.aload_n 0, 1) := by decide +kernel
theorem d_M_boundary_121 : decode prog_12_method_43_code 121 = .ok (.getfield 219, 3) := by decide +kernel
theorem d_M_boundary_124 : decode prog_12_method_43_code 124 = .ok (.aload_n 0, 1) := by decide +kernel
theorem d_M_boundary_125 : decode prog_12_method_43_code 125 = .ok (.getfield 222, 3) := by decide +kernel
theorem d_M_boundary_128 : decode prog_12_method_43_code 128 = .ok (.iadd, 1) := by decide +kernel
theorem d_M_boundary_129 : decode prog_12_method_43_code 129 = .ok (.iaload, 1) := by decide +kernel
theorem d_M_boundary_130 : decode prog_12_method_43_code 130 = .ok (.invokestatic 108, 3) := by decide +kernel
theorem d_M_boundary_133 : decode prog_12_method_43_code 133 = .ok (.ifCond .eq 16, 3) := by decide +kernel
theorem d_M_boundary_136 : decode prog_12_method_43_code 136 = .ok (.aload_n 0, 1) := by decide +kernel
theorem d_M_boundary_137 : decode prog_12_method_43_code 137 = .ok (.aload_n 0, 1) := by decide +kernel
theorem d_M_boundary_138 : decode prog_12_method_43_code 138 = .ok (.getfield 222, 3) := by decide +kernel
theorem d_M_boundary_141 : decode prog_12_method_43_code 141 = .ok (.iconst 1, 1) := by decide +kernel
theorem d_M_boundary_142 : decode prog_12_method_43_code 142 = .ok (.iadd, 1) := by decide +kernel
theorem d_M_boundary_143 : decode prog_12_method_43_code 143 = .ok (.putfield 222, 3) := by decide +kernel
theorem d_M_boundary_146 : decode prog_12_method_43_code 146 = .ok (.goto (-44), 3) := by decide +kernel
theorem d_M_boundary_149 : decode prog_12_method_43_code 149 = .ok (.iload_n 3, 1) := by decide +kernel
theorem d_M_boundary_150 : decode prog_12_method_43_code 150 = .ok (.iload 4, 2) := by decide +kernel
theorem d_M_boundary_152 : decode prog_12_method_43_code 152 = .ok (.if_icmp .ge 23, 3) := by decide +kernel
theorem d_M_boundary_155 : decode prog_12_method_43_code 155 = .ok (.aload_n 0, 1) := by decide +kernel
theorem d_M_boundary_156 : decode prog_12_method_43_code 156 = .ok (.getfield 222, 3) := by decide +kernel
theorem d_M_boundary_159 : decode prog_12_method_43_code 159 = .ok (.ifCond .le 16, 3) := by decide +kernel
theorem d_M_boundary_162 : decode prog_12_method_43_code 162 = .ok (.aload_n 0, 1) := by decide +kernel
theorem d_M_boundary_163 : decode prog_12_method_43_code 163 = .ok (.getfield 222, 3) := by decide +kernel
theorem d_M_boundary_166 : decode prog_12_method_43_code 166 = .ok (.bipush 20, 2) := by decide +kernel
theorem d_M_boundary_168 : decode prog_12_method_43_code 168 = .ok (.if_icmp .gt 7, 3) := by decide +kernel
theorem d_M_boundary_171 : decode prog_12_method_43_code 171 = .ok (.iconst 1, 1) := by decide +kernel
theorem d_M_boundary_172 : decode prog_12_method_43_code 172 = .ok (.goto 4, 3) := by decide +kernel
theorem d_M_boundary_175 : decode prog_12_method_43_code 175 = .ok (.iconst 0, 1) := by decide +kernel
theorem d_M_boundary_176 : decode prog_12_method_43_code 176 = .ok (.ireturn, 1) := by decide +kernel
theorem d_M_divide_0 : decode prog_12_method_46_code 0 = .ok (.iload_n 1, 1) := by decide +kernel
theorem d_M_divide_1 : decode prog_12_method_46_code 1 = .ok (.istore 4, 2) := by decide +kernel
theorem d_M_divide_3 : decode prog_12_method_46_code 3 = .ok (.iload 4, 2) := by decide +kernel
theorem d_M_divide_5 : decode prog_12_method_46_code 5 = .ok (.iload_n 2, 1) := by decide +kernel
theorem d_M_divide_6 : decode prog_12_method_46_code 6 = .ok (.if_icmp .ge 22, 3) := by decide +kernel
theorem d_M_divide_9 : decode prog_12_method_46_code 9 = .ok (.aload_n 0, 1) := by decide +kernel
theorem d_M_divide_10 : decode prog_12_method_46_code 10 = .ok (.iload 4, 2) := by decide +kernel
theorem d_M_divide_12 : decode prog_12_method_46_code 12 = .ok (.invokevirtual 232, 3) := by decide +kernel
theorem d_M_divide_15 : decode prog_12_method_46_code 15 = .ok (.iconst 2, 1) := by decide +kernel
theorem d_M_divide_16 : decode prog_12_method_46_code 16 = .ok (.if_icmp .eq 12, 3) := by decide +kernel
theorem d_M_divide_19 : decode prog_12_method_46_code 19 = .ok (.iload 4, 2) := by decide +kernel
theorem d_M_divide_21 : decode prog_12_method_46_code 21 = .ok (.iconst 1, 1) := by decide +kernel
theorem d_M_divide_22 : decode prog_12_method_46_code 22 = .ok (.iadd, 1) := by decide +kernel
theorem d_M_divide_23 : decode prog_12_method_46_code 23 = .ok (.istore 4, 2) := by decide +kernel
theorem d_M_divide_25 : decode prog_12_method_46_code 25 = .ok (.goto (-22), 3) := by decide +kernel
theorem d_M_divide_28 : decode prog_12_method_46_code 28 = .ok (.iload 4, 2) := by decide +kernel
theorem d_M_divide_30 : decode prog_12_method_46_code 30 = .ok (.iload_n 2, 1) := by decide +kernel
theorem d_M_divide_31 : decode prog_12_method_46_code 31 = .ok (.if_icmp .ne 5, 3) := by decide +kernel
theorem d_M_divide_34 : decode prog_12_method_46_code 34 = .ok (.iconst 0, 1) := by decide +kernel
theorem d_M_divide_35 : decode prog_12_method_46_code 35 = .ok (.ireturn, 1) := by decide +kernel
theorem d_M_divide_36 : decode prog_12_method_46_code 36 = .ok (.iload 4, 2) := by decide +kernel
theorem d_M_divide_38 : decode prog_12_method_46_code 38 = .ok (.istore 5, 2) := by decide +kernel
theorem d_M_divide_40 : decode prog_12_method_46_code 40 = .ok (.iconst 0, 1) := by decide +kernel
theorem d_M_divide_41 : decode prog_12_method_46_code 41 = .ok (.istore 6, 2) := by decide +kernel
theorem d_M_divide_43 : decode prog_12_method_46_code 43 = .ok (.iload 4, 2) := by decide +kernel
theorem d_M_divide_45 : decode prog_12_method_46_code 45 = .ok (.iconst 1, 1) := by decide +kernel
theorem d_M_divide_46 : decode prog_12_method_46_code 46 = .ok (.isub, 1) := by decide +kernel
theorem d_M_divide_47 : decode prog_12_method_46_code 47 = .ok (.istore 7, 2) := by decide +kernel
theorem d_M_divide_49 : decode prog_12_method_46_code 49 = .ok (.iload 7, 2) := by decide +kernel
theorem d_M_divide_51 : decode prog_12_method_46_code 51 = .ok (.iload_n 1, 1) := by decide +kernel
theorem d_M_divide_52 : decode prog_12_method_46_code 52 = .ok (.if_icmp .lt 73, 3) := by decide +kernel
theorem d_M_divide_55 : decode prog_12_method_46_code 55 = .ok (.aload_n 0, 1) := by decide +kernel
theorem d_M_divide_56 : decode prog_12_method_46_code 56 = .ok (.iload 7, 2) := by decide +kernel
theorem d_M_divide_58 : decode prog_12_method_46_code 58 = .ok (.invokevirtual 232, 3) := by decide +kernel
theorem d_M_divide_61 : decode prog_12_method_46_code 61 = .ok (.iconst 1, 1) := by decide +kernel
theorem d_M_divide_62 : decode prog_12_method_46_code 62 = .ok (.if_icmp .ne 57, 3) := by decide +kernel
theorem d_M_divide_65 : decode prog_12_method_46_code 65 = .ok (.aload_n 0, 1) := by decide +kernel
theorem d_M_divide_66 : decode prog_12_method_46_code 66 = .ok (.getfield 64, 3) := by decide +kernel
theorem d_M_divide_69 : decode prog_12_method_46_code 69 = .ok (.aload_n 0, 1) := by decide +kernel
theorem d_M_divide_70 : decode prog_12_method_46_code 70 = .ok (.getfield 235, 3) := by decide +kernel
theorem d_M_divide_73 : decode prog_12_method_46_code 73 = .ok (.iload 7, 2) := by decide +kernel
theorem d_M_divide_75 : decode prog_12_method_46_code 75 = .ok (.iconst 1, 1) := by decide +kernel
theorem d_M_divide_76 : decode prog_12_method_46_code 76 = .ok (.iadd, 1) := by decide +kernel
theorem d_M_divide_77 : decode prog_12_method_46_code 77 = .ok (.iastore, 1) := by decide +kernel
theorem d_M_divide_78 : decode prog_12_method_46_code 78 = .ok (.aload_n 0, 1) := by decide +kernel
theorem d_M_divide_79 : decode prog_12_method_46_code 79 = .ok (.getfield 67, 3) := by decide +kernel
theorem d_M_divide_82 : decode prog_12_method_46_code 82 = .ok (.aload_n 0, 1) := by decide +kernel
theorem d_M_divide_83 : decode prog_12_method_46_code 83 = .ok (.getfield 235, 3) := by decide +kernel
theorem d_M_divide_86 : decode prog_12_method_46_code 86 = .ok (.iload 5, 2) := by decide +kernel
theorem d_M_divide_88 : decode prog_12_method_46_code 88 = .ok (.iastore, 1) := by decide +kernel
theorem d_M_divide_89 : decode prog_12_method_46_code 89 = .ok (.aload_n 0, 1) := by decide +kernel
theorem d_M_divide_90 : decode prog_12_method_46_code 90 = .ok (.getfield 70, 3) := by decide +kernel
theorem d_M_divide_93 : decode prog_12_method_46_code 93 = .ok (.aload_n 0, 1) := by decide +kernel
theorem d_M_divide_94 : decode prog_12_method_46_code 94 = .ok (.getfield 235, 3) := by decide +kernel
theorem d_M_divide_97 : decode prog_12_method_46_code 97 = .ok (.iload_n 3, 1) := by decide +kernel
theorem d_M_divide_98 : decode prog_12_method_46_code 98 = .ok (.iastore, 1) := by decide +kernel
theorem d_M_divide_99 : decode prog_12_method_46_code 99 = .ok (.aload_n 0, 1) := by decide +kernel
theorem d_M_divide_100 : decode prog_12_method_46_code 100 = .ok (.aload_n 0, 1) := by decide +kernel
theorem d_M_divide_101 : decode prog_12_method_46_code 101 = .ok (.getfield 235, 3) := by decide +kernel
theorem d_M_divide_104 : decode prog_12_method_46_code 104 = .ok (.iconst 1, 1) := by decide +kernel
theorem d_M_divide_105 : decode prog_12_method_46_code 105 = .ok (.iadd, 1) := by decide +kernel
theorem d_M_divide_106 : decode prog_12_method_46_code 106 = .ok (.putfield 235, 3) := by decide +kernel
theorem d_M_divide_109 : decode prog_12_method_46_code 109 = .ok (.iload 7, 2) := by decide +kernel
theorem d_M_divide_111 : decode prog_12_method_46_code 111 = .ok (.istore 5, 2) := by decide +kernel
theorem d_M_divide_113 : decode prog_12_method_46_code 113 = .ok (.iload 6, 2) := by decide +kernel
theorem d_M_divide_115 : decode prog_12_method_46_code 115 = .ok (.iconst 1, 1) := by decide +kernel
theorem d_M_divide_116 : decode prog_12_method_46_code 116 = .ok (.iadd, 1) := by decide +kernel
theorem d_M_divide_117 : decode prog_12_method_46_code 117 = .ok (.istore 6, 2) := by decide +kernel
theorem d_M_divide_119 : decode prog_12_method_46_code 119 = .ok (.iinc 7 (-1), 3) := by decide +kernel
theorem d_M_divide_122 : decode prog_12_method_46_code 122 = .ok (.goto (-73), 3) := by decide +kernel
theorem d_M_divide_125 : decode prog_12_method_46_code 125 = .ok (.iload 6, 2) := by decide +kernel
theorem d_M_divide_127 : decode prog_12_method_46_code 127 = .ok (.ifCond .le 12, 3) := by decide +kernel
theorem d_M_divide_130 : decode prog_12_method_46_code 130 = .ok (.iload_n 3, 1) := by decide +kernel
theorem d_M_divide_131 : decode prog_12_method_46_code 131 = .ok (.iconst 4, 1) := by decide +kernel
theorem d_M_divide_132 : decode prog_12_method_46_code 132 = .ok (.if_icmp .gt 7, 3) := by decide +kernel
theorem d_M_divide_135 : decode prog_12_method_46_code 135 = .ok (.iconst 1, 1) := by decide +kernel
theorem d_M_divide_136 : decode prog_12_method_46_code 136 = .ok (.goto 4, 3) := by decide +kernel
theorem d_M_divide_139 : decode prog_12_method_46_code 139 = .ok (.iconst 0, 1) := by decide +kernel
theorem d_M_divide_140 : decode prog_12_method_46_code 140 = .ok (.ireturn, 1) := by decide +kernel
theorem d_M_border_0 : decode prog_12_method_45_code 0 = .ok (.aload_n 0, 1) := by decide +kernel
theorem d_M_border_1 : decode prog_12_method_45_code 1 = .ok (.getfield 49, 3) := by decide +kernel
theorem d_M_border_4 : decode prog_12_method_45_code 4 = .ok (.iload_n 1, 1) := by decide +kernel
theorem d_M_border_5 : decode prog_12_method_45_code 5 = .ok (.iaload, 1) := by decide +kernel
theorem d_M_border_6 : decode prog_12_method_45_code 6 = .ok (.istore_n 2, 1) := by decide +kernel
theorem d_M_border_7 : decode prog_12_method_45_code 7 = .ok (.aload_n 0, 1) := by decide +kernel
theorem d_M_border_8 : decode prog_12_method_45_code 8 = .ok (.iload_n 1, 1) := by decide +kernel
theorem d_M_border_9 : decode prog_12_method_45_code 9 = .ok (.invokevirtual 198, 3) := by decide +kernel
theorem d_M_border_12 : decode prog_12_method_45_code 12 = .ok (.iload_n 2, 1) := by decide +kernel
theorem d_M_border_13 : decode prog_12_method_45_code 13 = .ok (.isub, 1) := by decide +kernel
theorem d_M_border_14 : decode prog_12_method_45_code 14 = .ok (.iconst 2, 1) := by decide +kernel
theorem d_M_border_15 : decode prog_12_method_45_code 15 = .ok (.isub, 1) := by decide +kernel
theorem d_M_border_16 : decode prog_12_method_45_code 16 = .ok (.aload_n 0, 1) := by decide +kernel
theorem d_M_border_17 : decode prog_12_method_45_code 17 = .ok (.getfield 222, 3) := by decide +kernel
theorem d_M_border_20 : decode prog_12_method_45_code 20 = .ok (.isub, 1) := by decide +kernel
theorem d_M_border_21 : decode prog_12_method_45_code 21 = .ok (.istore_n 3, 1) := by decide +kernel
theorem d_M_border_22 : decode prog_12_method_45_code 22 = .ok (.iload_n 3, 1) := by decide +kernel
theorem d_M_border_23 : decode prog_12_method_45_code 23 = .ok (.ifCond .eq 8, 3) := by decide +kernel
theorem d_M_border_26 : decode prog_12_method_45_code 26 = .ok (.iload_n 3, 1) := by decide +kernel
theorem d_M_border_27 : decode prog_12_method_45_code 27 = .ok (.iconst 2, 1) := by decide +kernel
theorem d_M_border_28 : decode prog_12_method_45_code 28 = .ok (.if_icmp .ne 31, 3) := by decide +kernel
theorem d_M_border_31 : decode prog_12_method_45_code 31 = .ok (.aload_n 0, 1) := by decide +kernel
theorem d_M_border_32 : decode prog_12_method_45_code 32 = .ok (.getfield 28, 3) := by decide +kernel
theorem d_M_border_35 : decode prog_12_method_45_code 35 = .ok (.iload_n 2, 1) := by decide +kernel
theorem d_M_border_36 : decode prog_12_method_45_code 36 = .ok (.iaload, 1) := by decide +kernel
theorem d_M_border_37 : decode prog_12_method_45_code 37 = .ok (.bipush 45, 2) := by decide +kernel
theorem d_M_border_39 : decode prog_12_method_45_code 39 = .ok (.if_icmp .ne 20, 3) := by decide +kernel
theorem d_M_border_42 : decode prog_12_method_45_code 42 = .ok (.aload_n 0, 1) := by decide +kernel
theorem d_M_border_43 : decode prog_12_method_45_code 43 = .ok (.getfield 28, 3) := by decide +kernel
theorem d_M_border_46 : decode prog_12_method_45_code 46 = .ok (.iload_n 2, 1) := by decide +kernel
theorem d_M_border_47 : decode prog_12_method_45_code 47 = .ok (.iconst 1, 1) := by decide +kernel
theorem d_M_border_48 : decode prog_12_method_45_code 48 = .ok (.iadd, 1) := by decide +kernel
theorem d_M_border_49 : decode prog_12_method_45_code 49 = .ok (.iaload, 1) := by decide +kernel
theorem d_M_border_50 : decode prog_12_method_45_code 50 = .ok (.bipush 45, 2) := by decide +kernel
theorem d_M_border_52 : decode prog_12_method_45_code 52 = .ok (.if_icmp .ne 7, 3) := by decide +kernel
theorem d_M_border_55 : decode prog_12_method_45_code 55 = .ok (.iconst 1, 1) := by decide +kernel
theorem d_M_border_56 : decode prog_12_method_45_code 56 = .ok (.goto 4, 3) := by decide +kernel
theorem d_M_border_59 : decode prog_12_method_45_code 59 = .ok (.iconst 0, 1) := by decide +kernel
theorem d_M_border_60 : decode prog_12_method_45_code 60 = .ok (.istore 4, 2) := by decide +kernel
theorem d_M_border_62 : decode prog_12_method_45_code 62 = .ok (.iconst 0, 1) := by decide +kernel
theorem d_M_border_63 : decode prog_12_method_45_code 63 = .ok (.istore 5, 2) := by decide +kernel
theorem d_M_border_65 : decode prog_12_method_45_code 65 = .ok (.iload 5, 2) := by decide +kernel
theorem d_M_border_67 : decode prog_12_method_45_code 67 = .ok (.aload_n 0, 1) := by decide +kernel
theorem d_M_border_68 : decode prog_12_method_45_code 68 = .ok (.getfield 222, 3) := by decide +kernel
theorem d_M_border_71 : decode prog_12_method_45_code 71 = .ok (.if_icmp .ge 47, 3) := by decide +kernel
theorem d_M_border_74 : decode prog_12_method_45_code 74 = .ok (.iload 4, 2) := by decide +kernel
theorem d_M_border_76 : decode prog_12_method_45_code 76 = .ok (.ifCond .eq 42, 3) := by decide +kernel
theorem d_M_border_79 : decode prog_12_method_45_code 79 = .ok (.aload_n 0, 1) := by decide +kernel
theorem d_M_border_80 : decode prog_12_method_45_code 80 = .ok (.getfield 28, 3) := by decide +kernel
theorem d_M_border_83 : decode prog_12_method_45_code 83 = .ok (.iload_n 2, 1) := by decide +kernel
theorem d_M_border_84 : decode prog_12_method_45_code 84 = .ok (.iconst 2, 1) := by decide +kernel
theorem d_M_border_85 : decode prog_12_method_45_code 85 = .ok (.iadd, 1) := by decide +kernel
theorem d_M_border_86 : decode prog_12_method_45_code 86 = .ok (.iload 5, 2) := by decide +kernel
theorem d_M_border_88 : decode prog_12_method_45_code 88 = .ok (.iadd, 1) := by decide +kernel
theorem d_M_border_89 : decode prog_12_method_45_code 89 = .ok (.iaload, 1) := by decide +kernel
theorem d_M_border_90 : decode prog_12_method_45_code 90 = .ok (.aload_n 0, 1) := by decide +kernel
theorem d_M_border_91 : decode prog_12_method_45_code 91 = .ok (.getfield 28, 3) := by decide +kernel
theorem d_M_border_94 : decode prog_12_method_45_code 94 = .ok (.aload_n 0, 1) := by decide +kernel
theorem d_M_border_95 : decode prog_12_method_45_code 95 = .ok (.getfield 219, 3) := by decide +kernel
theorem d_M_border_98 : decode prog_12_method_45_code 98 = .ok (.iload 5, 2) := by decide +kernel
theorem d_M_border_100 : decode prog_12_method_45_code 100 = .ok (.iadd, 1) := by decide +kernel
theorem d_M_border_101 : decode prog_12_method_45_code 101 = .ok (.iaload, 1) := by decide +kernel
theorem d_M_border_102 : decode prog_12_method_45_code 102 = .ok (.if_icmp .ne 7, 3) := by decide +kernel
theorem d_M_border_105 : decode prog_12_method_45_code 105 = .ok (.iconst 1, 1) := by decide +kernel
theorem d_M_border_106 : decode prog_12_method_45_code 106 = .ok (.goto 4, 3) := by decide +kernel
theorem d_M_border_109 : decode prog_12_method_45_code 109 = .ok (.iconst 0, 1) := by decide +kernel
theorem d_M_border_110 : decode prog_12_method_45_code 110 = .ok (.istore 4, 2) := by decide +kernel
theorem d_M_border_112 : decode prog_12_method_45_code 112 = .ok (.iinc 5 1, 3) := by decide +kernel
theorem d_M_border_115 : decode prog_12_method_45_code 115 = .ok (.goto (-50), 3) := by decide +kernel
theorem d_M_border_118 : decode prog_12_method_45_code 118 = .ok (.iload 4, 2) := by decide +kernel
theorem d_M_border_120 : decode prog_12_method_45_code 120 = .ok (.ifCond .eq 7, 3) := by decide +kernel
theorem d_M_border_123 : decode prog_12_method_45_code 123 = .ok (.iload_n 3, 1) := by decide +kernel
theorem d_M_border_124 : decode prog_12_method_45_code 124 = .ok (.ifCond .ne 14, 3) := by decide +kernel
theorem d_M_border_127 : decode prog_12_method_45_code 127 = .ok (.iload 4, 2) := by decide +kernel
theorem d_M_border_129 : decode prog_12_method_45_code 129 = .ok (.ifCond .eq 7, 3) := by decide +kernel
theorem d_M_border_132 : decode prog_12_method_45_code 132 = .ok (.iconst 1, 1) := by decide +kernel
theorem d_M_border_133 : decode prog_12_method_45_code 133 = .ok (.goto 4, 3) := by decide +kernel
theorem d_M_border_136 : decode prog_12_method_45_code 136 = .ok (.iconst 0, 1) := by decide +kernel
theorem d_M_border_137 : decode prog_12_method_45_code 137 = .ok (.ireturn, 1) := by decide +kernel
theorem d_M_border_138 : decode prog_12_method_45_code 138 = .ok (.aload_n 0, 1) := by decide +kernel
theorem d_M_border_139 : decode prog_12_method_45_code 139 = .ok (.getfield 28, 3) := by decide +kernel
theorem d_M_border_142 : decode prog_12_method_45_code 142 = .ok (.iload_n 2, 1) := by decide +kernel
theorem d_M_border_143 : decode prog_12_method_45_code 143 = .ok (.iconst 2, 1) := by decide +kernel
theorem d_M_border_144 : decode prog_12_method_45_code 144 = .ok (.iadd, 1) := by decide +kernel
theorem d_M_border_145 : decode prog_12_method_45_code 145 = .ok (.aload_n 0, 1) := by decide +kernel
theorem d_M_border_146 : decode prog_12_method_45_code 146 = .ok (.getfield 222, 3) := by decide +kernel
theorem d_M_border_149 : decode prog_12_method_45_code 149 = .ok (.iadd, 1) := by decide +kernel
theorem d_M_border_150 : decode prog_12_method_45_code 150 = .ok (.iaload, 1) := by decide +kernel
theorem d_M_border_151 : decode prog_12_method_45_code 151 = .ok (.bipush 45, 2) := by decide +kernel
theorem d_M_border_153 : decode prog_12_method_45_code 153 = .ok (.if_icmp .ne 25, 3) := by decide +kernel
theorem d_M_border_156 : decode prog_12_method_45_code 156 = .ok (.aload_n 0, 1) := by decide +kernel
theorem d_M_border_157 : decode prog_12_method_45_code 157 = .ok (.getfield 28, 3) := by decide +kernel
theorem d_M_border_160 : decode prog_12_method_45_code 160 = .ok (.iload_n 2, 1) := by decide +kernel
theorem d_M_border_161 : decode prog_12_method_45_code 161 = .ok (.iconst 3, 1) := by decide +kernel
theorem d_M_border_162 : decode prog_12_method_45_code 162 = .ok (.iadd, 1) := by decide +kernel
theorem d_M_border_163 : decode prog_12_method_45_code 163 = .ok (.aload_n 0, 1) := by decide +kernel
theorem d_M_border_164 : decode prog_12_method_45_code 164 = .ok (.getfield 222, 3) := by decide +kernel
theorem d_M_border_167 : decode prog_12_method_45_code 167 = .ok (.iadd, 1) := by decide +kernel
theorem d_M_border_168 : decode prog_12_method_45_code 168 = .ok (.iaload, 1) := by decide +kernel
theorem d_M_border_169 : decode prog_12_method_45_code 169 = .ok (.bipush 45, 2) := by decide +kernel
theorem d_M_border_171 : decode prog_12_method_45_code 171 = .ok (.if_icmp .ne 7, 3) := by decide +kernel
theorem d_M_border_174 : decode prog_12_method_45_code 174 = .ok (.iconst 2, 1) := by decide +kernel
theorem d_M_border_175 : decode prog_12_method_45_code 175 = .ok (.goto 4, 3) := by decide +kernel
theorem d_M_border_178 : decode prog_12_method_45_code 178 = .ok (.iconst 0, 1) := by decide +kernel
theorem d_M_border_179 : decode prog_12_method_45_code 179 = .ok (.ireturn, 1) := by decide +kernel
theorem d_M_part_0 : decode prog_12_method_49_code 0 = .ok (.aload_n 0, 1) := by decide +kernel
theorem d_M_part_1 : decode prog_12_method_49_code 1 = .ok (.iload_n 1, 1) := by decide +kernel
theorem d_M_part_2 : decode prog_12_method_49_code 2 = .ok (.invokevirtual 258, 3) := by decide +kernel
theorem d_M_part_5 : decode prog_12_method_49_code 5 = .ok (.istore 4, 2) := by decide +kernel
theorem d_M_part_7 : decode prog_12_method_49_code 7 = .ok (.iload 4, 2) := by decide +kernel
theorem d_M_part_9 : decode prog_12_method_49_code 9 = .ok (.ifCond .lt 33, 3) := by decide +kernel
theorem d_M_part_12 : decode prog_12_method_49_code 12 = .ok (.aload_n 0, 1) := by decide +kernel
theorem d_M_part_13 : decode prog_12_method_49_code 13 = .ok (.iload 4, 2) := by decide +kernel
theorem d_M_part_15 : decode prog_12_method_49_code 15 = .ok (.invokevirtual 261, 3) := by decide +kernel
theorem d_M_part_18 : decode prog_12_method_49_code 18 = .ok (.ifCond .eq 24, 3) := by decide +kernel
theorem d_M_part_21 : decode prog_12_method_49_code 21 = .ok (.iload_n 2, 1) := by decide +kernel
theorem d_M_part_22 : decode prog_12_method_49_code 22 = .ok (.ifCond .lt 20, 3) := by decide +kernel
theorem d_M_part_25 : decode prog_12_method_49_code 25 = .ok (.iload_n 2, 1) := by decide +kernel
theorem d_M_part_26 : decode prog_12_method_49_code 26 = .ok (.aload_n 0, 1) := by decide +kernel
theorem d_M_part_27 : decode prog_12_method_49_code 27 = .ok (.getfield 241, 3) := by decide +kernel
theorem d_M_part_30 : decode prog_12_method_49_code 30 = .ok (.if_icmp .ge 12, 3) := by decide +kernel
theorem d_M_part_33 : decode prog_12_method_49_code 33 = .ok (.iload_n 3, 1) := by decide +kernel
theorem d_M_part_34 : decode prog_12_method_49_code 34 = .ok (.ifCond .lt 8, 3) := by decide +kernel
theorem d_M_part_37 : decode prog_12_method_49_code 37 = .ok (.iload_n 3, 1) := by decide +kernel
theorem d_M_part_38 : decode prog_12_method_49_code 38 = .ok (.iconst 3, 1) := by decide +kernel
theorem d_M_part_39 : decode prog_12_method_49_code 39 = .ok (.if_icmp .le 5, 3) := by decide +kernel
theorem d_M_part_42 : decode prog_12_method_49_code 42 = .ok (.iconst (-1), 1) := by decide +kernel
theorem d_M_part_43 : decode prog_12_method_49_code 43 = .ok (.ireturn, 1) := by decide +kernel
theorem d_M_part_44 : decode prog_12_method_49_code 44 = .ok (.iload_n 3, 1) := by decide +kernel
theorem d_M_part_45 : decode prog_12_method_49_code 45 = .ok (.ifCond .ne 12, 3) := by decide +kernel
theorem d_M_part_48 : decode prog_12_method_49_code 48 = .ok (.aload_n 0, 1) := by decide +kernel
theorem d_M_part_49 : decode prog_12_method_49_code 49 = .ok (.getfield 52, 3) := by decide +kernel
theorem d_M_part_52 : decode prog_12_method_49_code 52 = .ok (.iload_n 2, 1) := by decide +kernel
theorem d_M_part_53 : decode prog_12_method_49_code 53 = .ok (.iaload, 1) := by decide +kernel
theorem d_M_part_54 : decode prog_12_method_49_code 54 = .ok (.goto 52, 3) := by decide +kernel
theorem d_M_part_57 : decode prog_12_method_49_code 57 = .ok (.iload_n 3, 1) := by decide +kernel
theorem d_M_part_58 : decode prog_12_method_49_code 58 = .ok (.iconst 1, 1) := by decide +kernel
theorem d_M_part_59 : decode prog_12_method_49_code 59 = .ok (.if_icmp .ne 20, 3) := by decide +kernel
theorem d_M_part_62 : decode prog_12_method_49_code 62 = .ok (.aload_n 0, 1) := by decide +kernel
theorem d_M_part_63 : decode prog_12_method_49_code 63 = .ok (.getfield 61, 3) := by decide +kernel
theorem d_M_part_66 : decode prog_12_method_49_code 66 = .ok (.iload_n 2, 1) := by decide +kernel
theorem d_M_part_67 : decode prog_12_method_49_code 67 = .ok (.baload, 1) := by decide +kernel
theorem d_M_part_68 : decode prog_12_method_49_code 68 = .ok (.ifCond .eq 7, 3) := by decide +kernel
theorem d_M_part_71 : decode prog_12_method_49_code 71 = .ok (.iconst 1, 1) := by decide +kernel
theorem d_M_part_72 : decode prog_12_method_49_code 72 = .ok (.goto 34, 3) := by decide +kernel
theorem d_M_part_75 : decode prog_12_method_49_code 75 = .ok (.iconst 0, 1) := by decide +kernel
theorem d_M_part_76 : decode prog_12_method_49_code 76 = .ok (.goto 30, 3) := by decide +kernel
theorem d_M_part_79 : decode prog_12_method_49_code 79 = .ok (.iload_n 3, 1) := by decide +kernel
theorem d_M_part_80 : decode prog_12_method_49_code 80 = .ok (.iconst 2, 1) := by decide +kernel
theorem d_M_part_81 : decode prog_12_method_49_code 81 = .ok (.if_icmp .ne 12, 3) := by decide +kernel
theorem d_M_part_84 : decode prog_12_method_49_code 84 = .ok (.aload_n 0, 1) := by decide +kernel
theorem d_M_part_85 : decode prog_12_method_49_code 85 = .ok (.getfield 55, 3) := by decide +kernel
theorem d_M_part_88 : decode prog_12_method_49_code 88 = .ok (.iload_n 2, 1) := by decide +kernel
theorem d_M_part_89 : decode prog_12_method_49_code 89 = .ok (.iaload, 1) := by decide +kernel
theorem d_M_part_90 : decode prog_12_method_49_code 90 = .ok (.goto 16, 3) := by decide +kernel
theorem d_M_part_93 : decode prog_12_method_49_code 93 = .ok (.aload_n 0, 1) := by decide +kernel
theorem d_M_part_94 : decode prog_12_method_49_code 94 = .ok (.getfield 58, 3) := by decide +kernel
theorem d_M_part_97 : decode prog_12_method_49_code 97 = .ok (.iload_n 2, 1) := by decide +kernel
theorem d_M_part_98 : decode prog_12_method_49_code 98 = .ok (.iaload, 1) := by decide +kernel
theorem d_M_part_99 : decode prog_12_method_49_code 99 = .ok (.aload_n 0, 1) := by decide +kernel
theorem d_M_part_100 : decode prog_12_method_49_code 100 = .ok (.getfield 55, 3) := by decide +kernel
theorem d_M_part_103 : decode prog_12_method_49_code 103 = .ok (.iload_n 2, 1) := by decide +kernel
theorem d_M_part_104 : decode prog_12_method_49_code 104 = .ok (.iaload, 1) := by decide +kernel
theorem d_M_part_105 : decode prog_12_method_49_code 105 = .ok (.isub, 1) := by decide +kernel
theorem d_M_part_106 : decode prog_12_method_49_code 106 = .ok (.ireturn, 1) := by decide +kernel
theorem d_M_state_0 : decode prog_12_method_50_code 0 = .ok (.aload_n 0, 1) := by decide +kernel
theorem d_M_state_1 : decode prog_12_method_50_code 1 = .ok (.getfield 7, 3) := by decide +kernel
theorem d_M_state_4 : decode prog_12_method_50_code 4 = .ok (.ifCond .ne 7, 3) := by decide +kernel
theorem d_M_state_7 : decode prog_12_method_50_code 7 = .ok (.iconst 0, 1) := by decide +kernel
theorem d_M_state_8 : decode prog_12_method_50_code 8 = .ok (.goto 37, 3) := by decide +kernel
theorem d_M_state_11 : decode prog_12_method_50_code 11 = .ok (.aload_n 0, 1) := by decide +kernel
theorem d_M_state_12 : decode prog_12_method_50_code 12 = .ok (.getfield 88, 3) := by decide +kernel
theorem d_M_state_15 : decode prog_12_method_50_code 15 = .ok (.ifCond .eq 7, 3) := by decide +kernel
theorem d_M_state_18 : decode prog_12_method_50_code 18 = .ok (.iconst 4, 1) := by decide +kernel
theorem d_M_state_19 : decode prog_12_method_50_code 19 = .ok (.goto 26, 3) := by decide +kernel
theorem d_M_state_22 : decode prog_12_method_50_code 22 = .ok (.aload_n 0, 1) := by decide +kernel
theorem d_M_state_23 : decode prog_12_method_50_code 23 = .ok (.getfield 85, 3) := by decide +kernel
theorem d_M_state_26 : decode prog_12_method_50_code 26 = .ok (.ifCond .eq 7, 3) := by decide +kernel
theorem d_M_state_29 : decode prog_12_method_50_code 29 = .ok (.iconst 3, 1) := by decide +kernel
theorem d_M_state_30 : decode prog_12_method_50_code 30 = .ok (.goto 15, 3) := by decide +kernel
theorem d_M_state_33 : decode prog_12_method_50_code 33 = .ok (.aload_n 0, 1) := by decide +kernel
theorem d_M_state_34 : decode prog_12_method_50_code 34 = .ok (.getfield 82, 3) := by decide +kernel
theorem d_M_state_37 : decode prog_12_method_50_code 37 = .ok (.ifCond .eq 7, 3) := by decide +kernel
theorem d_M_state_40 : decode prog_12_method_50_code 40 = .ok (.iconst 2, 1) := by decide +kernel
theorem d_M_state_41 : decode prog_12_method_50_code 41 = .ok (.goto 4, 3) := by decide +kernel
theorem d_M_state_44 : decode prog_12_method_50_code 44 = .ok (.iconst 1, 1) := by decide +kernel
theorem d_M_state_45 : decode prog_12_method_50_code 45 = .ok (.ireturn, 1) := by decide +kernel
theorem d_M_letter_0 : decode prog_12_method_52_code 0 = .ok (.iconst (-1), 1) := by decide +kernel
theorem d_M_letter_1 : decode prog_12_method_52_code 1 = .ok (.istore_n 2, 1) := by decide +kernel
theorem d_M_letter_2 : decode prog_12_method_52_code 2 = .ok (.iconst 0, 1) := by decide +kernel
theorem d_M_letter_3 : decode prog_12_method_52_code 3 = .ok (.istore_n 3, 1) := by decide +kernel
theorem d_M_letter_4 : decode prog_12_method_52_code 4 = .ok (.iload_n 3, 1) := by decide +kernel
theorem d_M_letter_5 : decode prog_12_method_52_code 5 = .ok (.iload_n 1, 1) := by decide +kernel
theorem d_M_letter_6 : decode prog_12_method_52_code 6 = .ok (.if_icmp .gt 101, 3) := by decide +kernel
theorem d_M_letter_9 : decode prog_12_method_52_code 9 = .ok (.iconst (-1), 1) := by decide +kernel
theorem d_M_letter_10 : decode prog_12_method_52_code 10 = .ok (.istore 4, 2) := by decide +kernel
theorem d_M_letter_12 : decode prog_12_method_52_code 12 = .ok (.iconst 0, 1) := by decide +kernel
end
section
theorem d_M_letter_13 : decode prog_12_method_52_code 13 = .ok (.istore 5, 2) := by decide +kernel
theorem d_M_letter_15 : decode prog_12_method_52_code 15 = .ok (.iload 5, 2) := by decide +kernel
theorem d_M_letter_17 : decode prog_12_method_52_code 17 = .ok (.bipush 6, 2) := by decide +kernel
theorem d_M_letter_19 : decode prog_12_method_52_code 19 = .ok (.if_icmp .ge 72, 3) := by decide +kernel
theorem d_M_letter_22 : decode prog_12_method_52_code 22 = .ok (.aload_n 0, 1) := by decide +kernel
theorem d_M_letter_23 : decode prog_12_method_52_code 23 = .ok (.iload 5, 2) := by decide +kernel
theorem d_M_letter_25 : decode prog_12_method_52_code 25 = .ok (.invokevirtual 174, 3) := by decide +kernel
theorem d_M_letter_28 : decode prog_12_method_52_code 28 = .ok (.ifCond .eq 35, 3) := by decide +kernel
theorem d_M_letter_31 : decode prog_12_method_52_code 31 = .ok (.aload_n 0, 1) := by decide +kernel
theorem d_M_letter_32 : decode prog_12_method_52_code 32 = .ok (.getfield 21, 3) := by decide +kernel
theorem d_M_letter_35 : decode prog_12_method_52_code 35 = .ok (.iload 5, 2) := by decide +kernel
theorem d_M_letter_37 : decode prog_12_method_52_code 37 = .ok (.iaload, 1) := by decide +kernel
theorem d_M_letter_38 : decode prog_12_method_52_code 38 = .ok (.iload_n 2, 1) := by decide +kernel
theorem d_M_letter_39 : decode prog_12_method_52_code 39 = .ok (.if_icmp .le 24, 3) := by decide +kernel
theorem d_M_letter_42 : decode prog_12_method_52_code 42 = .ok (.iload 4, 2) := by decide +kernel
theorem d_M_letter_44 : decode prog_12_method_52_code 44 = .ok (.ifCond .lt 15, 3) := by decide +kernel
theorem d_M_letter_47 : decode prog_12_method_52_code 47 = .ok (.aload_n 0, 1) := by decide +kernel
theorem d_M_letter_48 : decode prog_12_method_52_code 48 = .ok (.getfield 21, 3) := by decide +kernel
theorem d_M_letter_51 : decode prog_12_method_52_code 51 = .ok (.iload 5, 2) := by decide +kernel
theorem d_M_letter_53 : decode prog_12_method_52_code 53 = .ok (.iaload, 1) := by decide +kernel
theorem d_M_letter_54 : decode prog_12_method_52_code 54 = .ok (.iload 4, 2) := by decide +kernel
theorem d_M_letter_56 : decode prog_12_method_52_code 56 = .ok (.if_icmp .ge 7, 3) := by decide +kernel
theorem d_M_letter_59 : decode prog_12_method_52_code 59 = .ok (.iconst 1, 1) := by decide +kernel
theorem d_M_letter_60 : decode prog_12_method_52_code 60 = .ok (.goto 4, 3) := by decide +kernel
theorem d_M_letter_63 : decode prog_12_method_52_code 63 = .ok (.iconst 0, 1) := by decide +kernel
theorem d_M_letter_64 : decode prog_12_method_52_code 64 = .ok (.istore 6, 2) := by decide +kernel
theorem d_M_letter_66 : decode prog_12_method_52_code 66 = .ok (.iload 6, 2) := by decide +kernel
theorem d_M_letter_68 : decode prog_12_method_52_code 68 = .ok (.ifCond .eq 13, 3) := by decide +kernel
theorem d_M_letter_71 : decode prog_12_method_52_code 71 = .ok (.aload_n 0, 1) := by decide +kernel
theorem d_M_letter_72 : decode prog_12_method_52_code 72 = .ok (.getfield 21, 3) := by decide +kernel
theorem d_M_letter_75 : decode prog_12_method_52_code 75 = .ok (.iload 5, 2) := by decide +kernel
theorem d_M_letter_77 : decode prog_12_method_52_code 77 = .ok (.iaload, 1) := by decide +kernel
theorem d_M_letter_78 : decode prog_12_method_52_code 78 = .ok (.goto 5, 3) := by decide +kernel
theorem d_M_letter_81 : decode prog_12_method_52_code 81 = .ok (.iload 4, 2) := by decide +kernel
theorem d_M_letter_83 : decode prog_12_method_52_code 83 = .ok (.istore 4, 2) := by decide +kernel
theorem d_M_letter_85 : decode prog_12_method_52_code 85 = .ok (.iinc 5 1, 3) := by decide +kernel
theorem d_M_letter_88 : decode prog_12_method_52_code 88 = .ok (.goto (-73), 3) := by decide +kernel
theorem d_M_letter_91 : decode prog_12_method_52_code 91 = .ok (.iload 4, 2) := by decide +kernel
theorem d_M_letter_93 : decode prog_12_method_52_code 93 = .ok (.ifCond .ge 5, 3) := by decide +kernel
theorem d_M_letter_96 : decode prog_12_method_52_code 96 = .ok (.iconst (-1), 1) := by decide +kernel
theorem d_M_letter_97 : decode prog_12_method_52_code 97 = .ok (.ireturn, 1) := by decide +kernel
theorem d_M_letter_98 : decode prog_12_method_52_code 98 = .ok (.iload 4, 2) := by decide +kernel
theorem d_M_letter_100 : decode prog_12_method_52_code 100 = .ok (.istore_n 2, 1) := by decide +kernel
theorem d_M_letter_101 : decode prog_12_method_52_code 101 = .ok (.iinc 3 1, 3) := by decide +kernel
theorem d_M_letter_104 : decode prog_12_method_52_code 104 = .ok (.goto (-100), 3) := by decide +kernel
theorem d_M_letter_107 : decode prog_12_method_52_code 107 = .ok (.iload_n 2, 1) := by decide +kernel
theorem d_M_letter_108 : decode prog_12_method_52_code 108 = .ok (.ireturn, 1) := by decide +kernel
theorem d_M_text_0 : decode prog_12_method_53_code 0 = .ok (.aload_n 0, 1) := by decide +kernel
theorem d_M_text_1 : decode prog_12_method_53_code 1 = .ok (.iload_n 1, 1) := by decide +kernel
theorem d_M_text_2 : decode prog_12_method_53_code 2 = .ok (.invokevirtual 258, 3) := by decide +kernel
theorem d_M_text_5 : decode prog_12_method_53_code 5 = .ok (.istore_n 3, 1) := by decide +kernel
theorem d_M_text_6 : decode prog_12_method_53_code 6 = .ok (.iload_n 3, 1) := by decide +kernel
theorem d_M_text_7 : decode prog_12_method_53_code 7 = .ok (.ifCond .lt 17, 3) := by decide +kernel
theorem d_M_text_10 : decode prog_12_method_53_code 10 = .ok (.iload_n 2, 1) := by decide +kernel
theorem d_M_text_11 : decode prog_12_method_53_code 11 = .ok (.ifCond .lt 13, 3) := by decide +kernel
theorem d_M_text_14 : decode prog_12_method_53_code 14 = .ok (.iload_n 2, 1) := by decide +kernel
theorem d_M_text_15 : decode prog_12_method_53_code 15 = .ok (.aload_n 0, 1) := by decide +kernel
theorem d_M_text_16 : decode prog_12_method_53_code 16 = .ok (.getfield 31, 3) := by decide +kernel
theorem d_M_text_19 : decode prog_12_method_53_code 19 = .ok (.iload_n 3, 1) := by decide +kernel
theorem d_M_text_20 : decode prog_12_method_53_code 20 = .ok (.iaload, 1) := by decide +kernel
theorem d_M_text_21 : decode prog_12_method_53_code 21 = .ok (.if_icmp .lt 7, 3) := by decide +kernel
theorem d_M_text_24 : decode prog_12_method_53_code 24 = .ok (.iconst 0, 1) := by decide +kernel
theorem d_M_text_25 : decode prog_12_method_53_code 25 = .ok (.goto 16, 3) := by decide +kernel
theorem d_M_text_28 : decode prog_12_method_53_code 28 = .ok (.aload_n 0, 1) := by decide +kernel
theorem d_M_text_29 : decode prog_12_method_53_code 29 = .ok (.getfield 28, 3) := by decide +kernel
theorem d_M_text_32 : decode prog_12_method_53_code 32 = .ok (.sipush 602, 3) := by decide +kernel
theorem d_M_text_35 : decode prog_12_method_53_code 35 = .ok (.iload_n 3, 1) := by decide +kernel
theorem d_M_text_36 : decode prog_12_method_53_code 36 = .ok (.imul, 1) := by decide +kernel
theorem d_M_text_37 : decode prog_12_method_53_code 37 = .ok (.iload_n 2, 1) := by decide +kernel
theorem d_M_text_38 : decode prog_12_method_53_code 38 = .ok (.iadd, 1) := by decide +kernel
theorem d_M_text_39 : decode prog_12_method_53_code 39 = .ok (.iaload, 1) := by decide +kernel
theorem d_M_text_40 : decode prog_12_method_53_code 40 = .ok (.i2c, 1) := by decide +kernel
theorem d_M_text_41 : decode prog_12_method_53_code 41 = .ok (.ireturn, 1) := by decide +kernel
theorem d_M_path_0 : decode prog_12_method_54_code 0 = .ok (.aload_n 0, 1) := by decide +kernel
theorem d_M_path_1 : decode prog_12_method_54_code 1 = .ok (.iload_n 1, 1) := by decide +kernel
theorem d_M_path_2 : decode prog_12_method_54_code 2 = .ok (.invokevirtual 258, 3) := by decide +kernel
theorem d_M_path_5 : decode prog_12_method_54_code 5 = .ok (.istore 4, 2) := by decide +kernel
theorem d_M_path_7 : decode prog_12_method_54_code 7 = .ok (.iload 4, 2) := by decide +kernel
theorem d_M_path_9 : decode prog_12_method_54_code 9 = .ok (.ifCond .lt 19, 3) := by decide +kernel
theorem d_M_path_12 : decode prog_12_method_54_code 12 = .ok (.iload_n 2, 1) := by decide +kernel
theorem d_M_path_13 : decode prog_12_method_54_code 13 = .ok (.iconst (-1), 1) := by decide +kernel
theorem d_M_path_14 : decode prog_12_method_54_code 14 = .ok (.if_icmp .lt 14, 3) := by decide +kernel
theorem d_M_path_17 : decode prog_12_method_54_code 17 = .ok (.iload_n 2, 1) := by decide +kernel
theorem d_M_path_18 : decode prog_12_method_54_code 18 = .ok (.aload_n 0, 1) := by decide +kernel
theorem d_M_path_19 : decode prog_12_method_54_code 19 = .ok (.getfield 40, 3) := by decide +kernel
theorem d_M_path_22 : decode prog_12_method_54_code 22 = .ok (.iload 4, 2) := by decide +kernel
theorem d_M_path_24 : decode prog_12_method_54_code 24 = .ok (.iaload, 1) := by decide +kernel
theorem d_M_path_25 : decode prog_12_method_54_code 25 = .ok (.if_icmp .lt 5, 3) := by decide +kernel
theorem d_M_path_28 : decode prog_12_method_54_code 28 = .ok (.iconst 0, 1) := by decide +kernel
theorem d_M_path_29 : decode prog_12_method_54_code 29 = .ok (.ireturn, 1) := by decide +kernel
theorem d_M_path_30 : decode prog_12_method_54_code 30 = .ok (.iconst 5, 1) := by decide +kernel
theorem d_M_path_31 : decode prog_12_method_54_code 31 = .ok (.iload 4, 2) := by decide +kernel
theorem d_M_path_33 : decode prog_12_method_54_code 33 = .ok (.imul, 1) := by decide +kernel
theorem d_M_path_34 : decode prog_12_method_54_code 34 = .ok (.iload_n 2, 1) := by decide +kernel
theorem d_M_path_35 : decode prog_12_method_54_code 35 = .ok (.ifCond .ge 7, 3) := by decide +kernel
theorem d_M_path_38 : decode prog_12_method_54_code 38 = .ok (.iconst 4, 1) := by decide +kernel
theorem d_M_path_39 : decode prog_12_method_54_code 39 = .ok (.goto 4, 3) := by decide +kernel
theorem d_M_path_42 : decode prog_12_method_54_code 42 = .ok (.iload_n 2, 1) := by decide +kernel
theorem d_M_path_43 : decode prog_12_method_54_code 43 = .ok (.iadd, 1) := by decide +kernel
theorem d_M_path_44 : decode prog_12_method_54_code 44 = .ok (.istore 5, 2) := by decide +kernel
theorem d_M_path_46 : decode prog_12_method_54_code 46 = .ok (.iload_n 3, 1) := by decide +kernel
theorem d_M_path_47 : decode prog_12_method_54_code 47 = .ok (.ifCond .lt 14, 3) := by decide +kernel
theorem d_M_path_50 : decode prog_12_method_54_code 50 = .ok (.iload_n 3, 1) := by decide +kernel
theorem d_M_path_51 : decode prog_12_method_54_code 51 = .ok (.aload_n 0, 1) := by decide +kernel
theorem d_M_path_52 : decode prog_12_method_54_code 52 = .ok (.getfield 37, 3) := by decide +kernel
theorem d_M_path_55 : decode prog_12_method_54_code 55 = .ok (.iload 5, 2) := by decide +kernel
theorem d_M_path_57 : decode prog_12_method_54_code 57 = .ok (.iaload, 1) := by decide +kernel
theorem d_M_path_58 : decode prog_12_method_54_code 58 = .ok (.if_icmp .lt 7, 3) := by decide +kernel
theorem d_M_path_61 : decode prog_12_method_54_code 61 = .ok (.iconst 0, 1) := by decide +kernel
theorem d_M_path_62 : decode prog_12_method_54_code 62 = .ok (.goto 16, 3) := by decide +kernel
theorem d_M_path_65 : decode prog_12_method_54_code 65 = .ok (.aload_n 0, 1) := by decide +kernel
theorem d_M_path_66 : decode prog_12_method_54_code 66 = .ok (.getfield 34, 3) := by decide +kernel
theorem d_M_path_69 : decode prog_12_method_54_code 69 = .ok (.bipush 40, 2) := by decide +kernel
theorem d_M_path_71 : decode prog_12_method_54_code 71 = .ok (.iload 5, 2) := by decide +kernel
theorem d_M_path_73 : decode prog_12_method_54_code 73 = .ok (.imul, 1) := by decide +kernel
theorem d_M_path_74 : decode prog_12_method_54_code 74 = .ok (.iload_n 3, 1) := by decide +kernel
theorem d_M_path_75 : decode prog_12_method_54_code 75 = .ok (.iadd, 1) := by decide +kernel
theorem d_M_path_76 : decode prog_12_method_54_code 76 = .ok (.iaload, 1) := by decide +kernel
theorem d_M_path_77 : decode prog_12_method_54_code 77 = .ok (.i2c, 1) := by decide +kernel
theorem d_M_path_78 : decode prog_12_method_54_code 78 = .ok (.ireturn, 1) := by decide +kernel
theorem d_M_recipient1_0 : decode prog_12_method_55_code 0 = .ok (.aload_n 0, 1) := by decide +kernel
theorem d_M_recipient1_1 : decode prog_12_method_55_code 1 = .ok (.iload_n 1, 1) := by decide +kernel
theorem d_M_recipient1_2 : decode prog_12_method_55_code 2 = .ok (.invokevirtual 258, 3) := by decide +kernel
theorem d_M_recipient1_5 : decode prog_12_method_55_code 5 = .ok (.istore_n 3, 1) := by decide +kernel
theorem d_M_recipient1_6 : decode prog_12_method_55_code 6 = .ok (.iload_n 3, 1) := by decide +kernel
theorem d_M_recipient1_7 : decode prog_12_method_55_code 7 = .ok (.ifCond .lt 17, 3) := by decide +kernel
theorem d_M_recipient1_10 : decode prog_12_method_55_code 10 = .ok (.iload_n 2, 1) := by decide +kernel
theorem d_M_recipient1_11 : decode prog_12_method_55_code 11 = .ok (.ifCond .lt 13, 3) := by decide +kernel
theorem d_M_recipient1_14 : decode prog_12_method_55_code 14 = .ok (.iload_n 2, 1) := by decide +kernel
theorem d_M_recipient1_15 : decode prog_12_method_55_code 15 = .ok (.aload_n 0, 1) := by decide +kernel
theorem d_M_recipient1_16 : decode prog_12_method_55_code 16 = .ok (.getfield 40, 3) := by decide +kernel
theorem d_M_recipient1_19 : decode prog_12_method_55_code 19 = .ok (.iload_n 3, 1) := by decide +kernel
theorem d_M_recipient1_20 : decode prog_12_method_55_code 20 = .ok (.iaload, 1) := by decide +kernel
theorem d_M_recipient1_21 : decode prog_12_method_55_code 21 = .ok (.if_icmp .lt 7, 3) := by decide +kernel
theorem d_M_recipient1_24 : decode prog_12_method_55_code 24 = .ok (.iconst (-1), 1) := by decide +kernel
theorem d_M_recipient1_25 : decode prog_12_method_55_code 25 = .ok (.goto 13, 3) := by decide +kernel
theorem d_M_recipient1_28 : decode prog_12_method_55_code 28 = .ok (.aload_n 0, 1) := by decide +kernel
theorem d_M_recipient1_29 : decode prog_12_method_55_code 29 = .ok (.getfield 43, 3) := by decide +kernel
theorem d_M_recipient1_32 : decode prog_12_method_55_code 32 = .ok (.iconst 4, 1) := by decide +kernel
theorem d_M_recipient1_33 : decode prog_12_method_55_code 33 = .ok (.iload_n 3, 1) := by decide +kernel
theorem d_M_recipient1_34 : decode prog_12_method_55_code 34 = .ok (.imul, 1) := by decide +kernel
theorem d_M_recipient1_35 : decode prog_12_method_55_code 35 = .ok (.iload_n 2, 1) := by decide +kernel
theorem d_M_recipient1_36 : decode prog_12_method_55_code 36 = .ok (.iadd, 1) := by decide +kernel
theorem d_M_recipient1_37 : decode prog_12_method_55_code 37 = .ok (.iaload, 1) := by decide +kernel
theorem d_M_recipient1_38 : decode prog_12_method_55_code 38 = .ok (.ireturn, 1) := by decide +kernel
theorem d_M_due_0 : decode prog_12_method_56_code 0 = .ok (.aload_n 0, 1) := by decide +kernel
theorem d_M_due_1 : decode prog_12_method_56_code 1 = .ok (.iload_n 1, 1) := by decide +kernel
theorem d_M_due_2 : decode prog_12_method_56_code 2 = .ok (.invokevirtual 258, 3) := by decide +kernel
theorem d_M_due_5 : decode prog_12_method_56_code 5 = .ok (.istore_n 3, 1) := by decide +kernel
theorem d_M_due_6 : decode prog_12_method_56_code 6 = .ok (.iload_n 3, 1) := by decide +kernel
theorem d_M_due_7 : decode prog_12_method_56_code 7 = .ok (.ifCond .lt 31, 3) := by decide +kernel
theorem d_M_due_10 : decode prog_12_method_56_code 10 = .ok (.iload_n 2, 1) := by decide +kernel
theorem d_M_due_11 : decode prog_12_method_56_code 11 = .ok (.ifCond .lt 27, 3) := by decide +kernel
theorem d_M_due_14 : decode prog_12_method_56_code 14 = .ok (.iload_n 2, 1) := by decide +kernel
theorem d_M_due_15 : decode prog_12_method_56_code 15 = .ok (.aload_n 0, 1) := by decide +kernel
theorem d_M_due_16 : decode prog_12_method_56_code 16 = .ok (.getfield 40, 3) := by decide +kernel
theorem d_M_due_19 : decode prog_12_method_56_code 19 = .ok (.iload_n 3, 1) := by decide +kernel
theorem d_M_due_20 : decode prog_12_method_56_code 20 = .ok (.iaload, 1) := by decide +kernel
theorem d_M_due_21 : decode prog_12_method_56_code 21 = .ok (.if_icmp .ge 17, 3) := by decide +kernel
theorem d_M_due_24 : decode prog_12_method_56_code 24 = .ok (.aload_n 0, 1) := by decide +kernel
theorem d_M_due_25 : decode prog_12_method_56_code 25 = .ok (.getfield 43, 3) := by decide +kernel
theorem d_M_due_28 : decode prog_12_method_56_code 28 = .ok (.iconst 4, 1) := by decide +kernel
theorem d_M_due_29 : decode prog_12_method_56_code 29 = .ok (.iload_n 3, 1) := by decide +kernel
theorem d_M_due_30 : decode prog_12_method_56_code 30 = .ok (.imul, 1) := by decide +kernel
theorem d_M_due_31 : decode prog_12_method_56_code 31 = .ok (.iload_n 2, 1) := by decide +kernel
theorem d_M_due_32 : decode prog_12_method_56_code 32 = .ok (.iadd, 1) := by decide +kernel
theorem d_M_due_33 : decode prog_12_method_56_code 33 = .ok (.iaload, 1) := by decide +kernel
theorem d_M_due_34 : decode prog_12_method_56_code 34 = .ok (.iconst 3, 1) := by decide +kernel
theorem d_M_due_35 : decode prog_12_method_56_code 35 = .ok (.if_icmp .le 7, 3) := by decide +kernel
theorem d_M_due_38 : decode prog_12_method_56_code 38 = .ok (.iconst (-1), 1) := by decide +kernel
theorem d_M_due_39 : decode prog_12_method_56_code 39 = .ok (.goto 13, 3) := by decide +kernel
theorem d_M_due_42 : decode prog_12_method_56_code 42 = .ok (.aload_n 0, 1) := by decide +kernel
theorem d_M_due_43 : decode prog_12_method_56_code 43 = .ok (.getfield 46, 3) := by decide +kernel
theorem d_M_due_46 : decode prog_12_method_56_code 46 = .ok (.iconst 4, 1) := by decide +kernel
theorem d_M_due_47 : decode prog_12_method_56_code 47 = .ok (.iload_n 3, 1) := by decide +kernel
theorem d_M_due_48 : decode prog_12_method_56_code 48 = .ok (.imul, 1) := by decide +kernel
theorem d_M_due_49 : decode prog_12_method_56_code 49 = .ok (.iload_n 2, 1) := by decide +kernel
theorem d_M_due_50 : decode prog_12_method_56_code 50 = .ok (.iadd, 1) := by decide +kernel
theorem d_M_due_51 : decode prog_12_method_56_code 51 = .ok (.iaload, 1) := by decide +kernel
theorem d_M_due_52 : decode prog_12_method_56_code 52 = .ok (.ireturn, 1) := by decide +kernel
end
section
theorem wd_0 : (Jvm.Cond.selects "SpooledPost" ({ cls := "SpooledPost", name := "takeTextLine", desc := "()I" } : Jvm.MethodName) ({ cls := "SpooledPost", name := "takeTextLine", desc := "()I" } : Jvm.MethodName)) ∈ WS := WSin (List.mem_of_getElem? (i := 0) (by decide +kernel)) (by decide +kernel)
theorem wd_1 : (Jvm.Cond.selects "SpooledPost" ({ cls := "SpooledPost", name := "endText", desc := "()I" } : Jvm.MethodName) ({ cls := "SpooledPost", name := "endText", desc := "()I" } : Jvm.MethodName)) ∈ WS := WSin (List.mem_of_getElem? (i := 1) (by decide +kernel)) (by decide +kernel)
theorem wd_2 : (Jvm.Cond.selects "SpooledPost" ({ cls := "SpooledPost", name := "spoolSession", desc := "()I" } : Jvm.MethodName) ({ cls := "SpooledPost", name := "spoolSession", desc := "()I" } : Jvm.MethodName)) ∈ WS := WSin (List.mem_of_getElem? (i := 2) (by decide +kernel)) (by decide +kernel)
theorem wd_3 : (Jvm.Cond.selects "SpooledPost" ({ cls := "SpooledPost", name := "obey", desc := "()I" } : Jvm.MethodName) ({ cls := "SpooledPost", name := "obey", desc := "()I" } : Jvm.MethodName)) ∈ WS := WSin (List.mem_of_getElem? (i := 3) (by decide +kernel)) (by decide +kernel)
theorem wd_4 : (Jvm.Cond.selects "SpooledPost" ({ cls := "SpooledPost", name := "commandOfLine", desc := "()LSpooledPost$Command;" } : Jvm.MethodName) ({ cls := "SpooledPost", name := "commandOfLine", desc := "()LSpooledPost$Command;" } : Jvm.MethodName)) ∈ WS := WSin (List.mem_of_getElem? (i := 4) (by decide +kernel)) (by decide +kernel)
theorem wd_5 : (Jvm.Cond.selects "SpooledPost" ({ cls := "SpooledPost", name := "isWrittenRight", desc := "(LSpooledPost$Command;)Z" } : Jvm.MethodName) ({ cls := "SpooledPost", name := "isWrittenRight", desc := "(LSpooledPost$Command;)Z" } : Jvm.MethodName)) ∈ WS := WSin (List.mem_of_getElem? (i := 5) (by decide +kernel)) (by decide +kernel)
theorem wd_6 : (Jvm.Cond.selects "SpooledPost" ({ cls := "SpooledPost", name := "isBracketed", desc := "(Ljava/lang/String;)Z" } : Jvm.MethodName) ({ cls := "SpooledPost", name := "isBracketed", desc := "(Ljava/lang/String;)Z" } : Jvm.MethodName)) ∈ WS := WSin (List.mem_of_getElem? (i := 6) (by decide +kernel)) (by decide +kernel)
theorem wd_7 : (Jvm.Cond.selects "SpooledPost" ({ cls := "SpooledPost", name := "isBracketEmpty", desc := "(Ljava/lang/String;)Z" } : Jvm.MethodName) ({ cls := "SpooledPost", name := "isBracketEmpty", desc := "(Ljava/lang/String;)Z" } : Jvm.MethodName)) ∈ WS := WSin (List.mem_of_getElem? (i := 7) (by decide +kernel)) (by decide +kernel)
theorem wd_8 : (Jvm.Cond.selects "SpooledPost" ({ cls := "SpooledPost", name := "isPathIn", desc := "(Ljava/lang/String;)Z" } : Jvm.MethodName) ({ cls := "SpooledPost", name := "isPathIn", desc := "(Ljava/lang/String;)Z" } : Jvm.MethodName)) ∈ WS := WSin (List.mem_of_getElem? (i := 8) (by decide +kernel)) (by decide +kernel)
theorem wd_9 : (Jvm.Cond.selects "SpooledPost" ({ cls := "SpooledPost", name := "greet", desc := "()I" } : Jvm.MethodName) ({ cls := "SpooledPost", name := "greet", desc := "()I" } : Jvm.MethodName)) ∈ WS := WSin (List.mem_of_getElem? (i := 9) (by decide +kernel)) (by decide +kernel)
theorem wd_10 : (Jvm.Cond.selects "SpooledPost" ({ cls := "SpooledPost", name := "beginTransaction", desc := "()I" } : Jvm.MethodName) ({ cls := "SpooledPost", name := "beginTransaction", desc := "()I" } : Jvm.MethodName)) ∈ WS := WSin (List.mem_of_getElem? (i := 10) (by decide +kernel)) (by decide +kernel)
theorem wd_11 : (Jvm.Cond.selects "SpooledPost" ({ cls := "SpooledPost", name := "addRecipient", desc := "()I" } : Jvm.MethodName) ({ cls := "SpooledPost", name := "addRecipient", desc := "()I" } : Jvm.MethodName)) ∈ WS := WSin (List.mem_of_getElem? (i := 11) (by decide +kernel)) (by decide +kernel)
theorem wd_12 : (Jvm.Cond.selects "SpooledPost" ({ cls := "SpooledPost", name := "beginText", desc := "()I" } : Jvm.MethodName) ({ cls := "SpooledPost", name := "beginText", desc := "()I" } : Jvm.MethodName)) ∈ WS := WSin (List.mem_of_getElem? (i := 12) (by decide +kernel)) (by decide +kernel)
theorem wd_13 : (Jvm.Cond.selects "SpooledPost" ({ cls := "SpooledPost", name := "settle", desc := "(LSpooledPost$Letter;LSpooledPost$Recipient;I)I" } : Jvm.MethodName) ({ cls := "SpooledPost", name := "settle", desc := "(LSpooledPost$Letter;LSpooledPost$Recipient;I)I" } : Jvm.MethodName)) ∈ WS := WSin (List.mem_of_getElem? (i := 13) (by decide +kernel)) (by decide +kernel)
theorem wd_14 : (Jvm.Cond.selects "SpooledPost" ({ cls := "SpooledPost", name := "postpone", desc := "(LSpooledPost$Recipient;)I" } : Jvm.MethodName) ({ cls := "SpooledPost", name := "postpone", desc := "(LSpooledPost$Recipient;)I" } : Jvm.MethodName)) ∈ WS := WSin (List.mem_of_getElem? (i := 14) (by decide +kernel)) (by decide +kernel)
theorem wd_15 : (Jvm.Cond.selects "SpooledPost" ({ cls := "SpooledPost", name := "giveBack", desc := "(LSpooledPost$Letter;LSpooledPost$Recipient;)I" } : Jvm.MethodName) ({ cls := "SpooledPost", name := "giveBack", desc := "(LSpooledPost$Letter;LSpooledPost$Recipient;)I" } : Jvm.MethodName)) ∈ WS := WSin (List.mem_of_getElem? (i := 15) (by decide +kernel)) (by decide +kernel)
theorem wd_16 : (Jvm.Cond.selects "SpooledPost" ({ cls := "SpooledPost", name := "spoolReturn", desc := "(LSpooledPost$Letter;LSpooledPost$Recipient;)Z" } : Jvm.MethodName) ({ cls := "SpooledPost", name := "spoolReturn", desc := "(LSpooledPost$Letter;LSpooledPost$Recipient;)Z" } : Jvm.MethodName)) ∈ WS := WSin (List.mem_of_getElem? (i := 16) (by decide +kernel)) (by decide +kernel)
theorem wd_17 : (Jvm.Cond.selects "SpooledPost" ({ cls := "SpooledPost", name := "findRecipient", desc := "(II)LSpooledPost$Recipient;" } : Jvm.MethodName) ({ cls := "SpooledPost", name := "findRecipient", desc := "(II)LSpooledPost$Recipient;" } : Jvm.MethodName)) ∈ WS := WSin (List.mem_of_getElem? (i := 17) (by decide +kernel)) (by decide +kernel)
theorem wd_18 : (Jvm.Cond.selects "SpooledPost$PartReader" ({ cls := "SpooledPost$PartReader", name := "splitLines", desc := "()V" } : Jvm.MethodName) ({ cls := "SpooledPost$PartReader", name := "splitLines", desc := "()V" } : Jvm.MethodName)) ∈ WS := WSin (List.mem_of_getElem? (i := 18) (by decide +kernel)) (by decide +kernel)
theorem wd_19 : (Jvm.Cond.selects "SpooledPost$PartReader" ({ cls := "SpooledPost$PartReader", name := "takePart", desc := "(III)Z" } : Jvm.MethodName) ({ cls := "SpooledPost$PartReader", name := "takePart", desc := "(III)Z" } : Jvm.MethodName)) ∈ WS := WSin (List.mem_of_getElem? (i := 19) (by decide +kernel)) (by decide +kernel)
theorem wd_20 : (Jvm.Cond.selects "SpooledPost$PartReader" ({ cls := "SpooledPost$PartReader", name := "findHeadEnd", desc := "(II)I" } : Jvm.MethodName) ({ cls := "SpooledPost$PartReader", name := "findHeadEnd", desc := "(II)I" } : Jvm.MethodName)) ∈ WS := WSin (List.mem_of_getElem? (i := 20) (by decide +kernel)) (by decide +kernel)
theorem wd_21 : (Jvm.Cond.selects "SpooledPost$PartReader" ({ cls := "SpooledPost$PartReader", name := "lineEnd", desc := "(I)I" } : Jvm.MethodName) ({ cls := "SpooledPost$PartReader", name := "lineEnd", desc := "(I)I" } : Jvm.MethodName)) ∈ WS := WSin (List.mem_of_getElem? (i := 21) (by decide +kernel)) (by decide +kernel)
theorem wd_22 : (Jvm.Cond.selects "SpooledPost$PartReader" ({ cls := "SpooledPost$PartReader", name := "isHeadRight", desc := "(II)Z" } : Jvm.MethodName) ({ cls := "SpooledPost$PartReader", name := "isHeadRight", desc := "(II)Z" } : Jvm.MethodName)) ∈ WS := WSin (List.mem_of_getElem? (i := 22) (by decide +kernel)) (by decide +kernel)
theorem wd_23 : (Jvm.Cond.selects "SpooledPost$PartReader" ({ cls := "SpooledPost$PartReader", name := "isField", desc := "(I)Z" } : Jvm.MethodName) ({ cls := "SpooledPost$PartReader", name := "isField", desc := "(I)Z" } : Jvm.MethodName)) ∈ WS := WSin (List.mem_of_getElem? (i := 23) (by decide +kernel)) (by decide +kernel)
theorem wd_24 : (Jvm.Cond.selects "SpooledPost$PartReader" ({ cls := "SpooledPost$PartReader", name := "findBoundary", desc := "(II)I" } : Jvm.MethodName) ({ cls := "SpooledPost$PartReader", name := "findBoundary", desc := "(II)I" } : Jvm.MethodName)) ∈ WS := WSin (List.mem_of_getElem? (i := 24) (by decide +kernel)) (by decide +kernel)
theorem wd_25 : (Jvm.Cond.selects "SpooledPost$PartReader" ({ cls := "SpooledPost$PartReader", name := "findBoundaryBetween", desc := "(II)I" } : Jvm.MethodName) ({ cls := "SpooledPost$PartReader", name := "findBoundaryBetween", desc := "(II)I" } : Jvm.MethodName)) ∈ WS := WSin (List.mem_of_getElem? (i := 25) (by decide +kernel)) (by decide +kernel)
theorem wd_26 : (Jvm.Cond.selects "SpooledPost$PartReader" ({ cls := "SpooledPost$PartReader", name := "boundaryLength", desc := "(I)I" } : Jvm.MethodName) ({ cls := "SpooledPost$PartReader", name := "boundaryLength", desc := "(I)I" } : Jvm.MethodName)) ∈ WS := WSin (List.mem_of_getElem? (i := 26) (by decide +kernel)) (by decide +kernel)
theorem wd_27 : (Jvm.Cond.selects "SpooledPost$PartReader" ({ cls := "SpooledPost$PartReader", name := "takeBody", desc := "(IIII)Z" } : Jvm.MethodName) ({ cls := "SpooledPost$PartReader", name := "takeBody", desc := "(IIII)Z" } : Jvm.MethodName)) ∈ WS := WSin (List.mem_of_getElem? (i := 27) (by decide +kernel)) (by decide +kernel)
theorem wd_28 : (Jvm.Cond.selects "SpooledPost$PartReader" ({ cls := "SpooledPost$PartReader", name := "borderKind", desc := "(III)I" } : Jvm.MethodName) ({ cls := "SpooledPost$PartReader", name := "borderKind", desc := "(III)I" } : Jvm.MethodName)) ∈ WS := WSin (List.mem_of_getElem? (i := 28) (by decide +kernel)) (by decide +kernel)
theorem wd_29 : (Jvm.Cond.selects "SpooledPost$PartReader" ({ cls := "SpooledPost$PartReader", name := "isDashed", desc := "(I)Z" } : Jvm.MethodName) ({ cls := "SpooledPost$PartReader", name := "isDashed", desc := "(I)Z" } : Jvm.MethodName)) ∈ WS := WSin (List.mem_of_getElem? (i := 29) (by decide +kernel)) (by decide +kernel)
theorem wd_30 : (Jvm.Cond.selects "SpooledPost$PartReader" ({ cls := "SpooledPost$PartReader", name := "repeats", desc := "(III)Z" } : Jvm.MethodName) ({ cls := "SpooledPost$PartReader", name := "repeats", desc := "(III)Z" } : Jvm.MethodName)) ∈ WS := WSin (List.mem_of_getElem? (i := 30) (by decide +kernel)) (by decide +kernel)
theorem wd_31 : (Jvm.Cond.selects "SpooledPostModel" ({ cls := "SpooledPostModel", name := "textLine", desc := "()I" } : Jvm.MethodName) ({ cls := "SpooledPostModel", name := "textLine", desc := "()I" } : Jvm.MethodName)) ∈ WS := WSin (List.mem_of_getElem? (i := 31) (by decide +kernel)) (by decide +kernel)
theorem wd_32 : (Jvm.Cond.selects "SpooledPostModel" ({ cls := "SpooledPostModel", name := "put", desc := "(II)V" } : Jvm.MethodName) ({ cls := "SpooledPostModel", name := "put", desc := "(II)V" } : Jvm.MethodName)) ∈ WS := WSin (List.mem_of_getElem? (i := 32) (by decide +kernel)) (by decide +kernel)
theorem wd_33 : (Jvm.Cond.selects "SpooledPostModel" ({ cls := "SpooledPostModel", name := "spooled", desc := "()I" } : Jvm.MethodName) ({ cls := "SpooledPostModel", name := "spooled", desc := "()I" } : Jvm.MethodName)) ∈ WS := WSin (List.mem_of_getElem? (i := 33) (by decide +kernel)) (by decide +kernel)
theorem wd_34 : (Jvm.Cond.selects "SpooledPostModel" ({ cls := "SpooledPostModel", name := "spool", desc := "(I)Z" } : Jvm.MethodName) ({ cls := "SpooledPostModel", name := "spool", desc := "(I)Z" } : Jvm.MethodName)) ∈ WS := WSin (List.mem_of_getElem? (i := 34) (by decide +kernel)) (by decide +kernel)
theorem wd_35 : (Jvm.Cond.selects "SpooledPostModel" ({ cls := "SpooledPostModel", name := "write", desc := "()Z" } : Jvm.MethodName) ({ cls := "SpooledPostModel", name := "write", desc := "()Z" } : Jvm.MethodName)) ∈ WS := WSin (List.mem_of_getElem? (i := 35) (by decide +kernel)) (by decide +kernel)
theorem wd_36 : (Jvm.Cond.selects "SpooledPostModel" ({ cls := "SpooledPostModel", name := "breakDown", desc := "()V" } : Jvm.MethodName) ({ cls := "SpooledPostModel", name := "breakDown", desc := "()V" } : Jvm.MethodName)) ∈ WS := WSin (List.mem_of_getElem? (i := 36) (by decide +kernel)) (by decide +kernel)
theorem wd_37 : (Jvm.Cond.selects "SpooledPostModel" ({ cls := "SpooledPostModel", name := "copyPath", desc := "(II)V" } : Jvm.MethodName) ({ cls := "SpooledPostModel", name := "copyPath", desc := "(II)V" } : Jvm.MethodName)) ∈ WS := WSin (List.mem_of_getElem? (i := 37) (by decide +kernel)) (by decide +kernel)
theorem wd_38 : (Jvm.Cond.selects "SpooledPostModel" ({ cls := "SpooledPostModel", name := "command", desc := "()I" } : Jvm.MethodName) ({ cls := "SpooledPostModel", name := "command", desc := "()I" } : Jvm.MethodName)) ∈ WS := WSin (List.mem_of_getElem? (i := 38) (by decide +kernel)) (by decide +kernel)
theorem wd_39 : (Jvm.Cond.selects "SpooledPostModel" ({ cls := "SpooledPostModel", name := "wordCode", desc := "()I" } : Jvm.MethodName) ({ cls := "SpooledPostModel", name := "wordCode", desc := "()I" } : Jvm.MethodName)) ∈ WS := WSin (List.mem_of_getElem? (i := 39) (by decide +kernel)) (by decide +kernel)
theorem wd_40 : (Jvm.Cond.selects "SpooledPostModel" ({ cls := "SpooledPostModel", name := "charAt", desc := "(I)I" } : Jvm.MethodName) ({ cls := "SpooledPostModel", name := "charAt", desc := "(I)I" } : Jvm.MethodName)) ∈ WS := WSin (List.mem_of_getElem? (i := 40) (by decide +kernel)) (by decide +kernel)
theorem wd_41 : (Jvm.Cond.selects "SpooledPostModel" ({ cls := "SpooledPostModel", name := "fits", desc := "(I)Z" } : Jvm.MethodName) ({ cls := "SpooledPostModel", name := "fits", desc := "(I)Z" } : Jvm.MethodName)) ∈ WS := WSin (List.mem_of_getElem? (i := 41) (by decide +kernel)) (by decide +kernel)
theorem wd_42 : (Jvm.Cond.selects "SpooledPostModel" ({ cls := "SpooledPostModel", name := "isDomain", desc := "(II)Z" } : Jvm.MethodName) ({ cls := "SpooledPostModel", name := "isDomain", desc := "(II)Z" } : Jvm.MethodName)) ∈ WS := WSin (List.mem_of_getElem? (i := 42) (by decide +kernel)) (by decide +kernel)
theorem wd_43 : (Jvm.Cond.selects "SpooledPostModel" ({ cls := "SpooledPostModel", name := "bracketed", desc := "(Z)Z" } : Jvm.MethodName) ({ cls := "SpooledPostModel", name := "bracketed", desc := "(Z)Z" } : Jvm.MethodName)) ∈ WS := WSin (List.mem_of_getElem? (i := 43) (by decide +kernel)) (by decide +kernel)
theorem wd_44 : (Jvm.Cond.selects "SpooledPostModel" ({ cls := "SpooledPostModel", name := "isPath", desc := "(II)Z" } : Jvm.MethodName) ({ cls := "SpooledPostModel", name := "isPath", desc := "(II)Z" } : Jvm.MethodName)) ∈ WS := WSin (List.mem_of_getElem? (i := 44) (by decide +kernel)) (by decide +kernel)
theorem wd_45 : (Jvm.Cond.selects "SpooledPostModel" ({ cls := "SpooledPostModel", name := "isLocal", desc := "(II)Z" } : Jvm.MethodName) ({ cls := "SpooledPostModel", name := "isLocal", desc := "(II)Z" } : Jvm.MethodName)) ∈ WS := WSin (List.mem_of_getElem? (i := 45) (by decide +kernel)) (by decide +kernel)
theorem wd_46 : (Jvm.Cond.selects "SpooledPostModel" ({ cls := "SpooledPostModel", name := "mail", desc := "()I" } : Jvm.MethodName) ({ cls := "SpooledPostModel", name := "mail", desc := "()I" } : Jvm.MethodName)) ∈ WS := WSin (List.mem_of_getElem? (i := 46) (by decide +kernel)) (by decide +kernel)
theorem wd_47 : (Jvm.Cond.selects "SpooledPostModel" ({ cls := "SpooledPostModel", name := "keepPath", desc := "(II)V" } : Jvm.MethodName) ({ cls := "SpooledPostModel", name := "keepPath", desc := "(II)V" } : Jvm.MethodName)) ∈ WS := WSin (List.mem_of_getElem? (i := 47) (by decide +kernel)) (by decide +kernel)
theorem wd_48 : (Jvm.Cond.selects "SpooledPostModel" ({ cls := "SpooledPostModel", name := "recipient", desc := "()I" } : Jvm.MethodName) ({ cls := "SpooledPostModel", name := "recipient", desc := "()I" } : Jvm.MethodName)) ∈ WS := WSin (List.mem_of_getElem? (i := 48) (by decide +kernel)) (by decide +kernel)
theorem wd_49 : (Jvm.Cond.selects "SpooledPostModel" ({ cls := "SpooledPostModel", name := "isLetterAt", desc := "(I)Z" } : Jvm.MethodName) ({ cls := "SpooledPostModel", name := "isLetterAt", desc := "(I)Z" } : Jvm.MethodName)) ∈ WS := WSin (List.mem_of_getElem? (i := 49) (by decide +kernel)) (by decide +kernel)
theorem wd_50 : (Jvm.Cond.selects "SpooledPostModel" ({ cls := "SpooledPostModel", name := "nextOne", desc := "()I" } : Jvm.MethodName) ({ cls := "SpooledPostModel", name := "nextOne", desc := "()I" } : Jvm.MethodName)) ∈ WS := WSin (List.mem_of_getElem? (i := 50) (by decide +kernel)) (by decide +kernel)
theorem wd_51 : (Jvm.Cond.selects "SpooledPostModel" ({ cls := "SpooledPostModel", name := "tell", desc := "(II)Z" } : Jvm.MethodName) ({ cls := "SpooledPostModel", name := "tell", desc := "(II)Z" } : Jvm.MethodName)) ∈ WS := WSin (List.mem_of_getElem? (i := 51) (by decide +kernel)) (by decide +kernel)
theorem wd_52 : (Jvm.Cond.selects "SpooledPostModel" ({ cls := "SpooledPostModel", name := "tidy", desc := "(I)V" } : Jvm.MethodName) ({ cls := "SpooledPostModel", name := "tidy", desc := "(I)V" } : Jvm.MethodName)) ∈ WS := WSin (List.mem_of_getElem? (i := 52) (by decide +kernel)) (by decide +kernel)
theorem wd_53 : (Jvm.Cond.selects "SpooledPostModel" ({ cls := "SpooledPostModel", name := "placeOf", desc := "(I)I" } : Jvm.MethodName) ({ cls := "SpooledPostModel", name := "placeOf", desc := "(I)I" } : Jvm.MethodName)) ∈ WS := WSin (List.mem_of_getElem? (i := 53) (by decide +kernel)) (by decide +kernel)
theorem wd_54 : (Jvm.Cond.selects "SpooledPostModel" ({ cls := "SpooledPostModel", name := "divided", desc := "(I)Z" } : Jvm.MethodName) ({ cls := "SpooledPostModel", name := "divided", desc := "(I)Z" } : Jvm.MethodName)) ∈ WS := WSin (List.mem_of_getElem? (i := 54) (by decide +kernel)) (by decide +kernel)
theorem wd_55 : (Jvm.Cond.selects "SpooledPostModel" ({ cls := "SpooledPostModel", name := "findLines", desc := "(I)V" } : Jvm.MethodName) ({ cls := "SpooledPostModel", name := "findLines", desc := "(I)V" } : Jvm.MethodName)) ∈ WS := WSin (List.mem_of_getElem? (i := 55) (by decide +kernel)) (by decide +kernel)
theorem wd_56 : (Jvm.Cond.selects "SpooledPostModel" ({ cls := "SpooledPostModel", name := "headEnd", desc := "(II)I" } : Jvm.MethodName) ({ cls := "SpooledPostModel", name := "headEnd", desc := "(II)I" } : Jvm.MethodName)) ∈ WS := WSin (List.mem_of_getElem? (i := 56) (by decide +kernel)) (by decide +kernel)
theorem wd_57 : (Jvm.Cond.selects "SpooledPostModel" ({ cls := "SpooledPostModel", name := "isEmpty", desc := "(I)Z" } : Jvm.MethodName) ({ cls := "SpooledPostModel", name := "isEmpty", desc := "(I)Z" } : Jvm.MethodName)) ∈ WS := WSin (List.mem_of_getElem? (i := 57) (by decide +kernel)) (by decide +kernel)
theorem wd_58 : (Jvm.Cond.selects "SpooledPostModel" ({ cls := "SpooledPostModel", name := "endOf", desc := "(I)I" } : Jvm.MethodName) ({ cls := "SpooledPostModel", name := "endOf", desc := "(I)I" } : Jvm.MethodName)) ∈ WS := WSin (List.mem_of_getElem? (i := 58) (by decide +kernel)) (by decide +kernel)
theorem wd_59 : (Jvm.Cond.selects "SpooledPostModel" ({ cls := "SpooledPostModel", name := "rightHead", desc := "(II)Z" } : Jvm.MethodName) ({ cls := "SpooledPostModel", name := "rightHead", desc := "(II)Z" } : Jvm.MethodName)) ∈ WS := WSin (List.mem_of_getElem? (i := 59) (by decide +kernel)) (by decide +kernel)
theorem wd_60 : (Jvm.Cond.selects "SpooledPostModel" ({ cls := "SpooledPostModel", name := "colon", desc := "(I)I" } : Jvm.MethodName) ({ cls := "SpooledPostModel", name := "colon", desc := "(I)I" } : Jvm.MethodName)) ∈ WS := WSin (List.mem_of_getElem? (i := 60) (by decide +kernel)) (by decide +kernel)
theorem wd_61 : (Jvm.Cond.selects "SpooledPostModel" ({ cls := "SpooledPostModel", name := "isMulti", desc := "(II)Z" } : Jvm.MethodName) ({ cls := "SpooledPostModel", name := "isMulti", desc := "(II)Z" } : Jvm.MethodName)) ∈ WS := WSin (List.mem_of_getElem? (i := 61) (by decide +kernel)) (by decide +kernel)
theorem wd_62 : (Jvm.Cond.selects "SpooledPostModel" ({ cls := "SpooledPostModel", name := "matches", desc := "(IIJJI)Z" } : Jvm.MethodName) ({ cls := "SpooledPostModel", name := "matches", desc := "(IIJJI)Z" } : Jvm.MethodName)) ∈ WS := WSin (List.mem_of_getElem? (i := 62) (by decide +kernel)) (by decide +kernel)
theorem wd_63 : (Jvm.Cond.selects "SpooledPostModel" ({ cls := "SpooledPostModel", name := "boundary", desc := "(II)Z" } : Jvm.MethodName) ({ cls := "SpooledPostModel", name := "boundary", desc := "(II)Z" } : Jvm.MethodName)) ∈ WS := WSin (List.mem_of_getElem? (i := 63) (by decide +kernel)) (by decide +kernel)
theorem wd_64 : (Jvm.Cond.selects "SpooledPostModel" ({ cls := "SpooledPostModel", name := "divide", desc := "(III)Z" } : Jvm.MethodName) ({ cls := "SpooledPostModel", name := "divide", desc := "(III)Z" } : Jvm.MethodName)) ∈ WS := WSin (List.mem_of_getElem? (i := 64) (by decide +kernel)) (by decide +kernel)
theorem wd_65 : (Jvm.Cond.selects "SpooledPostModel" ({ cls := "SpooledPostModel", name := "border", desc := "(I)I" } : Jvm.MethodName) ({ cls := "SpooledPostModel", name := "border", desc := "(I)I" } : Jvm.MethodName)) ∈ WS := WSin (List.mem_of_getElem? (i := 65) (by decide +kernel)) (by decide +kernel)
theorem wd_67 : (Jvm.Cond.initialized "SpooledPost") ∈ WS := WSin (List.mem_of_getElem? (i := 67) (by decide +kernel)) (by decide +kernel)
theorem wd_68 : (Jvm.Cond.initialized "SpooledPost$Row") ∈ WS := WSin (List.mem_of_getElem? (i := 68) (by decide +kernel)) (by decide +kernel)
theorem wd_69 : (Jvm.Cond.initialized "SpooledPost$Session") ∈ WS := WSin (List.mem_of_getElem? (i := 69) (by decide +kernel)) (by decide +kernel)
theorem wd_70 : (Jvm.Cond.initialized "SpooledPost$Spool") ∈ WS := WSin (List.mem_of_getElem? (i := 70) (by decide +kernel)) (by decide +kernel)
theorem wd_71 : (Jvm.Cond.initialized "SpooledPost$Letter") ∈ WS := WSin (List.mem_of_getElem? (i := 71) (by decide +kernel)) (by decide +kernel)
theorem wd_73 : (Jvm.Cond.initialized "SpooledPost$PartReader") ∈ WS := WSin (List.mem_of_getElem? (i := 73) (by decide +kernel)) (by decide +kernel)
theorem wd_74 : (Jvm.Cond.initialized "SpooledPostModel") ∈ WS := WSin (List.mem_of_getElem? (i := 74) (by decide +kernel)) (by decide +kernel)
theorem wd_75 : (Jvm.Cond.initialized "java/lang/Math") ∈ WS := WSin (List.mem_of_getElem? (i := 75) (by decide +kernel)) (by decide +kernel)
theorem wd_76 : (Jvm.Cond.initialized "java/lang/System") ∈ WS := WSin (List.mem_of_getElem? (i := 76) (by decide +kernel)) (by decide +kernel)
theorem wd_77 : (Jvm.Cond.initialized "java/lang/String") ∈ WS := WSin (List.mem_of_getElem? (i := 77) (by decide +kernel)) (by decide +kernel)
theorem wd_78 : (Jvm.Cond.initialized "SpooledPost$Grammar") ∈ WS := WSin (List.mem_of_getElem? (i := 78) (by decide +kernel)) (by decide +kernel)
theorem wd_79 : (Jvm.Cond.initialized "java/lang/StringLatin1") ∈ WS := WSin (List.mem_of_getElem? (i := 79) (by decide +kernel)) (by decide +kernel)
theorem wd_80 : (Jvm.Cond.initialized "jdk/internal/util/Preconditions") ∈ WS := WSin (List.mem_of_getElem? (i := 80) (by decide +kernel)) (by decide +kernel)
theorem wd_97 : (Jvm.Cond.fieldLink "SpooledPost$Row" (7 : Nat) "SpooledPost$Row" "chars" "[C") ∈ WS := WSin (List.mem_of_getElem? (i := 97) (by decide +kernel)) (by decide +kernel)
theorem wd_98 : (Jvm.Cond.fieldLink "SpooledPost$Row" (13 : Nat) "SpooledPost$Row" "length" "I") ∈ WS := WSin (List.mem_of_getElem? (i := 98) (by decide +kernel)) (by decide +kernel)
theorem wd_99 : (Jvm.Cond.fieldLink "SpooledPost" (51 : Nat) "SpooledPost$Row" "length" "I") ∈ WS := WSin (List.mem_of_getElem? (i := 99) (by decide +kernel)) (by decide +kernel)
theorem wd_100 : (Jvm.Cond.fieldLink "SpooledPost$Session" (44 : Nat) "SpooledPost$Row" "length" "I") ∈ WS := WSin (List.mem_of_getElem? (i := 100) (by decide +kernel)) (by decide +kernel)
theorem wd_101 : (Jvm.Cond.fieldLink "SpooledPost$PartReader" (45 : Nat) "SpooledPost$Row" "length" "I") ∈ WS := WSin (List.mem_of_getElem? (i := 101) (by decide +kernel)) (by decide +kernel)
theorem wd_118 : (Jvm.Cond.fieldLink "SpooledPost" (254 : Nat) "SpooledPost$Session" "sender" "LSpooledPost$Row;") ∈ WS := WSin (List.mem_of_getElem? (i := 118) (by decide +kernel)) (by decide +kernel)
theorem wd_120 : (Jvm.Cond.fieldLink "SpooledPost" (262 : Nat) "SpooledPost$Session" "recipients" "[LSpooledPost$Row;") ∈ WS := WSin (List.mem_of_getElem? (i := 120) (by decide +kernel)) (by decide +kernel)
theorem wd_121 : (Jvm.Cond.fieldLink "SpooledPost$Session" (24 : Nat) "SpooledPost$Session" "text" "LSpooledPost$Row;") ∈ WS := WSin (List.mem_of_getElem? (i := 121) (by decide +kernel)) (by decide +kernel)
theorem wd_122 : (Jvm.Cond.fieldLink "SpooledPost" (269 : Nat) "SpooledPost$Session" "text" "LSpooledPost$Row;") ∈ WS := WSin (List.mem_of_getElem? (i := 122) (by decide +kernel)) (by decide +kernel)
theorem wd_123 : (Jvm.Cond.fieldLink "SpooledPost$Session" (40 : Nat) "SpooledPost$Session" "recipientCount" "I") ∈ WS := WSin (List.mem_of_getElem? (i := 123) (by decide +kernel)) (by decide +kernel)
theorem wd_124 : (Jvm.Cond.fieldLink "SpooledPost" (259 : Nat) "SpooledPost$Session" "recipientCount" "I") ∈ WS := WSin (List.mem_of_getElem? (i := 124) (by decide +kernel)) (by decide +kernel)
theorem wd_125 : (Jvm.Cond.fieldLink "SpooledPost$Session" (27 : Nat) "SpooledPost$Session" "greeted" "Z") ∈ WS := WSin (List.mem_of_getElem? (i := 125) (by decide +kernel)) (by decide +kernel)
theorem wd_126 : (Jvm.Cond.fieldLink "SpooledPost" (124 : Nat) "SpooledPost$Session" "greeted" "Z") ∈ WS := WSin (List.mem_of_getElem? (i := 126) (by decide +kernel)) (by decide +kernel)
theorem wd_127 : (Jvm.Cond.fieldLink "SpooledPost$Session" (34 : Nat) "SpooledPost$Session" "inTransaction" "Z") ∈ WS := WSin (List.mem_of_getElem? (i := 127) (by decide +kernel)) (by decide +kernel)
theorem wd_128 : (Jvm.Cond.fieldLink "SpooledPost" (121 : Nat) "SpooledPost$Session" "inTransaction" "Z") ∈ WS := WSin (List.mem_of_getElem? (i := 128) (by decide +kernel)) (by decide +kernel)
theorem wd_129 : (Jvm.Cond.fieldLink "SpooledPost$Session" (37 : Nat) "SpooledPost$Session" "taking" "Z") ∈ WS := WSin (List.mem_of_getElem? (i := 129) (by decide +kernel)) (by decide +kernel)
theorem wd_130 : (Jvm.Cond.fieldLink "SpooledPost" (62 : Nat) "SpooledPost$Session" "taking" "Z") ∈ WS := WSin (List.mem_of_getElem? (i := 130) (by decide +kernel)) (by decide +kernel)
theorem wd_131 : (Jvm.Cond.fieldLink "SpooledPost$Session" (47 : Nat) "SpooledPost$Session" "tooLong" "Z") ∈ WS := WSin (List.mem_of_getElem? (i := 131) (by decide +kernel)) (by decide +kernel)
theorem wd_132 : (Jvm.Cond.fieldLink "SpooledPost" (266 : Nat) "SpooledPost$Session" "tooLong" "Z") ∈ WS := WSin (List.mem_of_getElem? (i := 132) (by decide +kernel)) (by decide +kernel)
theorem wd_175 : (Jvm.Cond.fieldLink "SpooledPost$Letter" (44 : Nat) "SpooledPost$Recipient" "path" "LSpooledPost$Row;") ∈ WS := WSin (List.mem_of_getElem? (i := 175) (by decide +kernel)) (by decide +kernel)
theorem wd_176 : (Jvm.Cond.fieldLink "SpooledPost" (147 : Nat) "SpooledPost$Recipient" "path" "LSpooledPost$Row;") ∈ WS := WSin (List.mem_of_getElem? (i := 176) (by decide +kernel)) (by decide +kernel)
theorem wd_177 : (Jvm.Cond.fieldLink "SpooledPost$Letter" (51 : Nat) "SpooledPost$Recipient" "fate" "I") ∈ WS := WSin (List.mem_of_getElem? (i := 177) (by decide +kernel)) (by decide +kernel)
theorem wd_178 : (Jvm.Cond.fieldLink "SpooledPost" (154 : Nat) "SpooledPost$Recipient" "fate" "I") ∈ WS := WSin (List.mem_of_getElem? (i := 178) (by decide +kernel)) (by decide +kernel)
theorem wd_179 : (Jvm.Cond.fieldLink "SpooledPost$Letter" (54 : Nat) "SpooledPost$Recipient" "tries" "I") ∈ WS := WSin (List.mem_of_getElem? (i := 179) (by decide +kernel)) (by decide +kernel)
theorem wd_180 : (Jvm.Cond.fieldLink "SpooledPost" (108 : Nat) "SpooledPost$Recipient" "tries" "I") ∈ WS := WSin (List.mem_of_getElem? (i := 180) (by decide +kernel)) (by decide +kernel)
theorem wd_181 : (Jvm.Cond.fieldLink "SpooledPost$Letter" (57 : Nat) "SpooledPost$Recipient" "due" "I") ∈ WS := WSin (List.mem_of_getElem? (i := 181) (by decide +kernel)) (by decide +kernel)
theorem wd_182 : (Jvm.Cond.fieldLink "SpooledPost$Spool" (57 : Nat) "SpooledPost$Recipient" "due" "I") ∈ WS := WSin (List.mem_of_getElem? (i := 182) (by decide +kernel)) (by decide +kernel)
theorem wd_183 : (Jvm.Cond.fieldLink "SpooledPost" (157 : Nat) "SpooledPost$Recipient" "due" "I") ∈ WS := WSin (List.mem_of_getElem? (i := 183) (by decide +kernel)) (by decide +kernel)
theorem wd_193 : (Jvm.Cond.fieldLink "SpooledPost$Letter" (14 : Nat) "SpooledPost$Letter" "sender" "LSpooledPost$Row;") ∈ WS := WSin (List.mem_of_getElem? (i := 193) (by decide +kernel)) (by decide +kernel)
theorem wd_194 : (Jvm.Cond.fieldLink "SpooledPost" (141 : Nat) "SpooledPost$Letter" "sender" "LSpooledPost$Row;") ∈ WS := WSin (List.mem_of_getElem? (i := 194) (by decide +kernel)) (by decide +kernel)
theorem wd_195 : (Jvm.Cond.fieldLink "SpooledPost$Letter" (22 : Nat) "SpooledPost$Letter" "recipients" "[LSpooledPost$Recipient;") ∈ WS := WSin (List.mem_of_getElem? (i := 195) (by decide +kernel)) (by decide +kernel)
theorem wd_196 : (Jvm.Cond.fieldLink "SpooledPost$Letter" (27 : Nat) "SpooledPost$Letter" "text" "LSpooledPost$Row;") ∈ WS := WSin (List.mem_of_getElem? (i := 196) (by decide +kernel)) (by decide +kernel)
theorem wd_197 : (Jvm.Cond.fieldLink "SpooledPost$PartReader" (27 : Nat) "SpooledPost$Letter" "text" "LSpooledPost$Row;") ∈ WS := WSin (List.mem_of_getElem? (i := 197) (by decide +kernel)) (by decide +kernel)
theorem wd_198 : (Jvm.Cond.fieldLink "SpooledPost" (134 : Nat) "SpooledPost$Letter" "text" "LSpooledPost$Row;") ∈ WS := WSin (List.mem_of_getElem? (i := 198) (by decide +kernel)) (by decide +kernel)
theorem wd_199 : (Jvm.Cond.fieldLink "SpooledPost$Letter" (38 : Nat) "SpooledPost$Letter" "recipientCount" "I") ∈ WS := WSin (List.mem_of_getElem? (i := 199) (by decide +kernel)) (by decide +kernel)
theorem wd_200 : (Jvm.Cond.fieldLink "SpooledPost$PartReader" (22 : Nat) "SpooledPost$Letter" "number" "I") ∈ WS := WSin (List.mem_of_getElem? (i := 200) (by decide +kernel)) (by decide +kernel)
theorem wd_201 : (Jvm.Cond.fieldLink "SpooledPost$Letter" (30 : Nat) "SpooledPost$Letter" "number" "I") ∈ WS := WSin (List.mem_of_getElem? (i := 201) (by decide +kernel)) (by decide +kernel)
theorem wd_202 : (Jvm.Cond.fieldLink "SpooledPost" (91 : Nat) "SpooledPost$Letter" "number" "I") ∈ WS := WSin (List.mem_of_getElem? (i := 202) (by decide +kernel)) (by decide +kernel)
theorem wd_203 : (Jvm.Cond.fieldLink "SpooledPost$Spool" (50 : Nat) "SpooledPost$Letter" "number" "I") ∈ WS := WSin (List.mem_of_getElem? (i := 203) (by decide +kernel)) (by decide +kernel)
theorem wd_204 : (Jvm.Cond.fieldLink "SpooledPost$Letter" (34 : Nat) "SpooledPost$Letter" "sealed" "Z") ∈ WS := WSin (List.mem_of_getElem? (i := 204) (by decide +kernel)) (by decide +kernel)
theorem wd_205 : (Jvm.Cond.fieldLink "SpooledPost$Spool" (43 : Nat) "SpooledPost$Letter" "sealed" "Z") ∈ WS := WSin (List.mem_of_getElem? (i := 205) (by decide +kernel)) (by decide +kernel)
theorem wd_219 : (Jvm.Cond.fieldLink "SpooledPost$Spool" (11 : Nat) "SpooledPost$Spool" "row" "[LSpooledPost$Letter;") ∈ WS := WSin (List.mem_of_getElem? (i := 219) (by decide +kernel)) (by decide +kernel)
theorem wd_220 : (Jvm.Cond.fieldLink "SpooledPost$Spool" (26 : Nat) "SpooledPost$Spool" "count" "I") ∈ WS := WSin (List.mem_of_getElem? (i := 220) (by decide +kernel)) (by decide +kernel)
theorem wd_221 : (Jvm.Cond.fieldLink "SpooledPost$Spool" (33 : Nat) "SpooledPost$Spool" "nextNumber" "I") ∈ WS := WSin (List.mem_of_getElem? (i := 221) (by decide +kernel)) (by decide +kernel)
theorem wd_222 : (Jvm.Cond.fieldLink "SpooledPost$Spool" (18 : Nat) "SpooledPost$Spool" "writesLeft" "I") ∈ WS := WSin (List.mem_of_getElem? (i := 222) (by decide +kernel)) (by decide +kernel)
theorem wd_223 : (Jvm.Cond.fieldLink "SpooledPost" (75 : Nat) "SpooledPost$Spool" "writesLeft" "I") ∈ WS := WSin (List.mem_of_getElem? (i := 223) (by decide +kernel)) (by decide +kernel)
theorem wd_224 : (Jvm.Cond.fieldLink "SpooledPost" (47 : Nat) "SpooledPost$Spool" "down" "Z") ∈ WS := WSin (List.mem_of_getElem? (i := 224) (by decide +kernel)) (by decide +kernel)
theorem wd_225 : (Jvm.Cond.fieldLink "SpooledPost$Spool" (22 : Nat) "SpooledPost$Spool" "down" "Z") ∈ WS := WSin (List.mem_of_getElem? (i := 225) (by decide +kernel)) (by decide +kernel)
theorem wd_243 : (Jvm.Cond.fieldLink "SpooledPost$PartReader" (9 : Nat) "SpooledPost$PartReader" "lineStarts" "[I") ∈ WS := WSin (List.mem_of_getElem? (i := 243) (by decide +kernel)) (by decide +kernel)
theorem wd_244 : (Jvm.Cond.fieldLink "SpooledPost$PartReader" (15 : Nat) "SpooledPost$PartReader" "facts" "[I") ∈ WS := WSin (List.mem_of_getElem? (i := 244) (by decide +kernel)) (by decide +kernel)
theorem wd_245 : (Jvm.Cond.fieldLink "SpooledPost$PartReader" (31 : Nat) "SpooledPost$PartReader" "text" "LSpooledPost$Row;") ∈ WS := WSin (List.mem_of_getElem? (i := 245) (by decide +kernel)) (by decide +kernel)
theorem wd_246 : (Jvm.Cond.fieldLink "SpooledPost$PartReader" (38 : Nat) "SpooledPost$PartReader" "lineCount" "I") ∈ WS := WSin (List.mem_of_getElem? (i := 246) (by decide +kernel)) (by decide +kernel)
theorem wd_247 : (Jvm.Cond.fieldLink "SpooledPost$PartReader" (35 : Nat) "SpooledPost$PartReader" "count" "I") ∈ WS := WSin (List.mem_of_getElem? (i := 247) (by decide +kernel)) (by decide +kernel)
theorem wd_248 : (Jvm.Cond.fieldLink "SpooledPost" (164 : Nat) "SpooledPost$PartReader" "count" "I") ∈ WS := WSin (List.mem_of_getElem? (i := 248) (by decide +kernel)) (by decide +kernel)
theorem wd_249 : (Jvm.Cond.fieldLink "SpooledPost$PartReader" (18 : Nat) "SpooledPost$PartReader" "readNumber" "I") ∈ WS := WSin (List.mem_of_getElem? (i := 249) (by decide +kernel)) (by decide +kernel)
theorem wd_264 : (Jvm.Cond.fieldLink "SpooledPost" (14 : Nat) "SpooledPost" "line" "LSpooledPost$Row;") ∈ WS := WSin (List.mem_of_getElem? (i := 264) (by decide +kernel)) (by decide +kernel)
theorem wd_265 : (Jvm.Cond.fieldLink "SpooledPost" (21 : Nat) "SpooledPost" "session" "LSpooledPost$Session;") ∈ WS := WSin (List.mem_of_getElem? (i := 265) (by decide +kernel)) (by decide +kernel)
theorem wd_266 : (Jvm.Cond.fieldLink "SpooledPost" (28 : Nat) "SpooledPost" "spool" "LSpooledPost$Spool;") ∈ WS := WSin (List.mem_of_getElem? (i := 266) (by decide +kernel)) (by decide +kernel)
theorem wd_267 : (Jvm.Cond.fieldLink "SpooledPost" (35 : Nat) "SpooledPost" "reader" "LSpooledPost$PartReader;") ∈ WS := WSin (List.mem_of_getElem? (i := 267) (by decide +kernel)) (by decide +kernel)
theorem wd_268 : (Jvm.Cond.fieldLink "SpooledPost" (39 : Nat) "SpooledPost" "now" "I") ∈ WS := WSin (List.mem_of_getElem? (i := 268) (by decide +kernel)) (by decide +kernel)
theorem wd_281 : (Jvm.Cond.instanceMethod ({ cls := "SpooledPost", name := "type", desc := "(J)Z" } : Jvm.MethodName)) ∈ WS := WSin (List.mem_of_getElem? (i := 281) (by decide +kernel)) (by decide +kernel)
theorem wd_282 : (Jvm.Cond.selects "SpooledPost" ({ cls := "SpooledPost", name := "type", desc := "(J)Z" } : Jvm.MethodName) ({ cls := "SpooledPost", name := "type", desc := "(J)Z" } : Jvm.MethodName)) ∈ WS := WSin (List.mem_of_getElem? (i := 282) (by decide +kernel)) (by decide +kernel)
theorem wd_283 : (Jvm.Cond.code ({ cls := "SpooledPost", name := "type", desc := "(J)Z" } : Jvm.MethodName) prog_1_method_2_code (5 : Nat) (Option.some Jvm.ClassFile.FieldType.boolean)) ∈ WS := WSin (List.mem_of_getElem? (i := 283) (by decide +kernel)) (by decide +kernel)
theorem wd_284 : (Jvm.Cond.methodLink "SpooledPost" (43 : Nat) ({ cls := "SpooledPost", name := "typedLength", desc := "(J)I" } : Jvm.MethodName)) ∈ WS := WSin (List.mem_of_getElem? (i := 284) (by decide +kernel)) (by decide +kernel)
theorem wd_285 : (Jvm.Cond.static ({ cls := "SpooledPost", name := "typedLength", desc := "(J)I" } : Jvm.MethodName)) ∈ WS := WSin (List.mem_of_getElem? (i := 285) (by decide +kernel)) (by decide +kernel)
theorem wd_286 : (Jvm.Cond.code ({ cls := "SpooledPost", name := "typedLength", desc := "(J)I" } : Jvm.MethodName) prog_1_method_19_code (4 : Nat) (Option.some Jvm.ClassFile.FieldType.int)) ∈ WS := WSin (List.mem_of_getElem? (i := 286) (by decide +kernel)) (by decide +kernel)
theorem wd_287 : (Jvm.Cond.methodLink "SpooledPost" (54 : Nat) ({ cls := "SpooledPost", name := "typedCode", desc := "(JI)I" } : Jvm.MethodName)) ∈ WS := WSin (List.mem_of_getElem? (i := 287) (by decide +kernel)) (by decide +kernel)
theorem wd_288 : (Jvm.Cond.static ({ cls := "SpooledPost", name := "typedCode", desc := "(JI)I" } : Jvm.MethodName)) ∈ WS := WSin (List.mem_of_getElem? (i := 288) (by decide +kernel)) (by decide +kernel)
theorem wd_289 : (Jvm.Cond.code ({ cls := "SpooledPost", name := "typedCode", desc := "(JI)I" } : Jvm.MethodName) prog_1_method_18_code (3 : Nat) (Option.some Jvm.ClassFile.FieldType.int)) ∈ WS := WSin (List.mem_of_getElem? (i := 289) (by decide +kernel)) (by decide +kernel)
theorem wd_290 : (Jvm.Cond.constantLong "SpooledPost" (171 : Nat) (255 : Int64)) ∈ WS := WSin (List.mem_of_getElem? (i := 290) (by decide +kernel)) (by decide +kernel)
theorem wd_291 : (Jvm.Cond.methodLink "SpooledPost" (58 : Nat) ({ cls := "SpooledPost$Row", name := "add", desc := "(C)V" } : Jvm.MethodName)) ∈ WS := WSin (List.mem_of_getElem? (i := 291) (by decide +kernel)) (by decide +kernel)
theorem wd_292 : (Jvm.Cond.instanceMethod ({ cls := "SpooledPost$Row", name := "add", desc := "(C)V" } : Jvm.MethodName)) ∈ WS := WSin (List.mem_of_getElem? (i := 292) (by decide +kernel)) (by decide +kernel)
theorem wd_293 : (Jvm.Cond.selects "SpooledPost$Row" ({ cls := "SpooledPost$Row", name := "add", desc := "(C)V" } : Jvm.MethodName) ({ cls := "SpooledPost$Row", name := "add", desc := "(C)V" } : Jvm.MethodName)) ∈ WS := WSin (List.mem_of_getElem? (i := 293) (by decide +kernel)) (by decide +kernel)
theorem wd_294 : (Jvm.Cond.code ({ cls := "SpooledPost$Row", name := "add", desc := "(C)V" } : Jvm.MethodName) prog_8_method_4_code (2 : Nat) (Option.none : Option Jvm.ClassFile.FieldType)) ∈ WS := WSin (List.mem_of_getElem? (i := 294) (by decide +kernel)) (by decide +kernel)
theorem wd_296 : (Jvm.Cond.instanceMethod ({ cls := "SpooledPost", name := "enter", desc := "()I" } : Jvm.MethodName)) ∈ WS := WSin (List.mem_of_getElem? (i := 296) (by decide +kernel)) (by decide +kernel)
theorem wd_297 : (Jvm.Cond.selects "SpooledPost" ({ cls := "SpooledPost", name := "enter", desc := "()I" } : Jvm.MethodName) ({ cls := "SpooledPost", name := "enter", desc := "()I" } : Jvm.MethodName)) ∈ WS := WSin (List.mem_of_getElem? (i := 297) (by decide +kernel)) (by decide +kernel)
theorem wd_298 : (Jvm.Cond.code ({ cls := "SpooledPost", name := "enter", desc := "()I" } : Jvm.MethodName) prog_1_method_3_code (2 : Nat) (Option.some Jvm.ClassFile.FieldType.int)) ∈ WS := WSin (List.mem_of_getElem? (i := 298) (by decide +kernel)) (by decide +kernel)
theorem wd_299 : (Jvm.Cond.methodLink "SpooledPost" (65 : Nat) ({ cls := "SpooledPost", name := "takeTextLine", desc := "()I" } : Jvm.MethodName)) ∈ WS := WSin (List.mem_of_getElem? (i := 299) (by decide +kernel)) (by decide +kernel)
theorem wd_301 : (Jvm.Cond.instanceMethod ({ cls := "SpooledPost", name := "takeTextLine", desc := "()I" } : Jvm.MethodName)) ∈ WS := WSin (List.mem_of_getElem? (i := 301) (by decide +kernel)) (by decide +kernel)
theorem wd_302 : (Jvm.Cond.code ({ cls := "SpooledPost", name := "takeTextLine", desc := "()I" } : Jvm.MethodName) prog_1_method_33_code (2 : Nat) (Option.some Jvm.ClassFile.FieldType.int)) ∈ WS := WSin (List.mem_of_getElem? (i := 302) (by decide +kernel)) (by decide +kernel)
theorem wd_303 : (Jvm.Cond.methodLink "SpooledPost" (137 : Nat) ({ cls := "SpooledPost$Row", name := "at", desc := "(I)C" } : Jvm.MethodName)) ∈ WS := WSin (List.mem_of_getElem? (i := 303) (by decide +kernel)) (by decide +kernel)
theorem wd_304 : (Jvm.Cond.instanceMethod ({ cls := "SpooledPost$Row", name := "at", desc := "(I)C" } : Jvm.MethodName)) ∈ WS := WSin (List.mem_of_getElem? (i := 304) (by decide +kernel)) (by decide +kernel)
theorem wd_305 : (Jvm.Cond.selects "SpooledPost$Row" ({ cls := "SpooledPost$Row", name := "at", desc := "(I)C" } : Jvm.MethodName) ({ cls := "SpooledPost$Row", name := "at", desc := "(I)C" } : Jvm.MethodName)) ∈ WS := WSin (List.mem_of_getElem? (i := 305) (by decide +kernel)) (by decide +kernel)
theorem wd_306 : (Jvm.Cond.code ({ cls := "SpooledPost$Row", name := "at", desc := "(I)C" } : Jvm.MethodName) prog_8_method_3_code (2 : Nat) (Option.some Jvm.ClassFile.FieldType.char)) ∈ WS := WSin (List.mem_of_getElem? (i := 306) (by decide +kernel)) (by decide +kernel)
theorem wd_307 : (Jvm.Cond.methodLink "SpooledPost" (270 : Nat) ({ cls := "SpooledPost", name := "endText", desc := "()I" } : Jvm.MethodName)) ∈ WS := WSin (List.mem_of_getElem? (i := 307) (by decide +kernel)) (by decide +kernel)
theorem wd_309 : (Jvm.Cond.instanceMethod ({ cls := "SpooledPost", name := "endText", desc := "()I" } : Jvm.MethodName)) ∈ WS := WSin (List.mem_of_getElem? (i := 309) (by decide +kernel)) (by decide +kernel)
theorem wd_310 : (Jvm.Cond.code ({ cls := "SpooledPost", name := "endText", desc := "()I" } : Jvm.MethodName) prog_1_method_34_code (2 : Nat) (Option.some Jvm.ClassFile.FieldType.int)) ∈ WS := WSin (List.mem_of_getElem? (i := 310) (by decide +kernel)) (by decide +kernel)
theorem wd_311 : (Jvm.Cond.methodLink "SpooledPost" (250 : Nat) ({ cls := "SpooledPost$Spool", name := "isFull", desc := "()Z" } : Jvm.MethodName)) ∈ WS := WSin (List.mem_of_getElem? (i := 311) (by decide +kernel)) (by decide +kernel)
theorem wd_312 : (Jvm.Cond.instanceMethod ({ cls := "SpooledPost$Spool", name := "isFull", desc := "()Z" } : Jvm.MethodName)) ∈ WS := WSin (List.mem_of_getElem? (i := 312) (by decide +kernel)) (by decide +kernel)
theorem wd_313 : (Jvm.Cond.selects "SpooledPost$Spool" ({ cls := "SpooledPost$Spool", name := "isFull", desc := "()Z" } : Jvm.MethodName) ({ cls := "SpooledPost$Spool", name := "isFull", desc := "()Z" } : Jvm.MethodName)) ∈ WS := WSin (List.mem_of_getElem? (i := 313) (by decide +kernel)) (by decide +kernel)
theorem wd_314 : (Jvm.Cond.code ({ cls := "SpooledPost$Spool", name := "isFull", desc := "()Z" } : Jvm.MethodName) prog_10_method_3_code (1 : Nat) (Option.some Jvm.ClassFile.FieldType.boolean)) ∈ WS := WSin (List.mem_of_getElem? (i := 314) (by decide +kernel)) (by decide +kernel)
theorem wd_315 : (Jvm.Cond.methodLink "SpooledPost" (277 : Nat) ({ cls := "SpooledPost", name := "spoolSession", desc := "()I" } : Jvm.MethodName)) ∈ WS := WSin (List.mem_of_getElem? (i := 315) (by decide +kernel)) (by decide +kernel)
theorem wd_317 : (Jvm.Cond.instanceMethod ({ cls := "SpooledPost", name := "spoolSession", desc := "()I" } : Jvm.MethodName)) ∈ WS := WSin (List.mem_of_getElem? (i := 317) (by decide +kernel)) (by decide +kernel)
theorem wd_318 : (Jvm.Cond.code ({ cls := "SpooledPost", name := "spoolSession", desc := "()I" } : Jvm.MethodName) prog_1_method_35_code (3 : Nat) (Option.some Jvm.ClassFile.FieldType.int)) ∈ WS := WSin (List.mem_of_getElem? (i := 318) (by decide +kernel)) (by decide +kernel)
theorem wd_319 : (Jvm.Cond.methodLink "SpooledPost" (280 : Nat) ({ cls := "SpooledPost$Spool", name := "begin", desc := "()LSpooledPost$Letter;" } : Jvm.MethodName)) ∈ WS := WSin (List.mem_of_getElem? (i := 319) (by decide +kernel)) (by decide +kernel)
theorem wd_320 : (Jvm.Cond.instanceMethod ({ cls := "SpooledPost$Spool", name := "begin", desc := "()LSpooledPost$Letter;" } : Jvm.MethodName)) ∈ WS := WSin (List.mem_of_getElem? (i := 320) (by decide +kernel)) (by decide +kernel)
theorem wd_321 : (Jvm.Cond.selects "SpooledPost$Spool" ({ cls := "SpooledPost$Spool", name := "begin", desc := "()LSpooledPost$Letter;" } : Jvm.MethodName) ({ cls := "SpooledPost$Spool", name := "begin", desc := "()LSpooledPost$Letter;" } : Jvm.MethodName)) ∈ WS := WSin (List.mem_of_getElem? (i := 321) (by decide +kernel)) (by decide +kernel)
theorem wd_322 : (Jvm.Cond.code ({ cls := "SpooledPost$Spool", name := "begin", desc := "()LSpooledPost$Letter;" } : Jvm.MethodName) prog_10_method_4_code (3 : Nat) (Option.some (Jvm.ClassFile.FieldType.object "SpooledPost$Letter"))) ∈ WS := WSin (List.mem_of_getElem? (i := 322) (by decide +kernel)) (by decide +kernel)
theorem wd_323 : (Jvm.Cond.methodLink "SpooledPost$Spool" (29 : Nat) ({ cls := "SpooledPost$Spool", name := "isFull", desc := "()Z" } : Jvm.MethodName)) ∈ WS := WSin (List.mem_of_getElem? (i := 323) (by decide +kernel)) (by decide +kernel)
theorem wd_324 : (Jvm.Cond.methodLink "SpooledPost$Spool" (36 : Nat) ({ cls := "SpooledPost$Spool", name := "write", desc := "()Z" } : Jvm.MethodName)) ∈ WS := WSin (List.mem_of_getElem? (i := 324) (by decide +kernel)) (by decide +kernel)
theorem wd_325 : (Jvm.Cond.instanceMethod ({ cls := "SpooledPost$Spool", name := "write", desc := "()Z" } : Jvm.MethodName)) ∈ WS := WSin (List.mem_of_getElem? (i := 325) (by decide +kernel)) (by decide +kernel)
theorem wd_326 : (Jvm.Cond.selects "SpooledPost$Spool" ({ cls := "SpooledPost$Spool", name := "write", desc := "()Z" } : Jvm.MethodName) ({ cls := "SpooledPost$Spool", name := "write", desc := "()Z" } : Jvm.MethodName)) ∈ WS := WSin (List.mem_of_getElem? (i := 326) (by decide +kernel)) (by decide +kernel)
theorem wd_327 : (Jvm.Cond.code ({ cls := "SpooledPost$Spool", name := "write", desc := "()Z" } : Jvm.MethodName) prog_10_method_2_code (1 : Nat) (Option.some Jvm.ClassFile.FieldType.boolean)) ∈ WS := WSin (List.mem_of_getElem? (i := 327) (by decide +kernel)) (by decide +kernel)
theorem wd_328 : (Jvm.Cond.methodLink "SpooledPost$Spool" (39 : Nat) ({ cls := "SpooledPost$Letter", name := "begin", desc := "(I)V" } : Jvm.MethodName)) ∈ WS := WSin (List.mem_of_getElem? (i := 328) (by decide +kernel)) (by decide +kernel)
theorem wd_329 : (Jvm.Cond.instanceMethod ({ cls := "SpooledPost$Letter", name := "begin", desc := "(I)V" } : Jvm.MethodName)) ∈ WS := WSin (List.mem_of_getElem? (i := 329) (by decide +kernel)) (by decide +kernel)
theorem wd_330 : (Jvm.Cond.selects "SpooledPost$Letter" ({ cls := "SpooledPost$Letter", name := "begin", desc := "(I)V" } : Jvm.MethodName) ({ cls := "SpooledPost$Letter", name := "begin", desc := "(I)V" } : Jvm.MethodName)) ∈ WS := WSin (List.mem_of_getElem? (i := 330) (by decide +kernel)) (by decide +kernel)
theorem wd_331 : (Jvm.Cond.code ({ cls := "SpooledPost$Letter", name := "begin", desc := "(I)V" } : Jvm.MethodName) prog_5_method_2_code (2 : Nat) (Option.none : Option Jvm.ClassFile.FieldType)) ∈ WS := WSin (List.mem_of_getElem? (i := 331) (by decide +kernel)) (by decide +kernel)
theorem wd_332 : (Jvm.Cond.methodLink "SpooledPost$Letter" (41 : Nat) ({ cls := "SpooledPost$Row", name := "clear", desc := "()V" } : Jvm.MethodName)) ∈ WS := WSin (List.mem_of_getElem? (i := 332) (by decide +kernel)) (by decide +kernel)
theorem wd_333 : (Jvm.Cond.instanceMethod ({ cls := "SpooledPost$Row", name := "clear", desc := "()V" } : Jvm.MethodName)) ∈ WS := WSin (List.mem_of_getElem? (i := 333) (by decide +kernel)) (by decide +kernel)
theorem wd_334 : (Jvm.Cond.selects "SpooledPost$Row" ({ cls := "SpooledPost$Row", name := "clear", desc := "()V" } : Jvm.MethodName) ({ cls := "SpooledPost$Row", name := "clear", desc := "()V" } : Jvm.MethodName)) ∈ WS := WSin (List.mem_of_getElem? (i := 334) (by decide +kernel)) (by decide +kernel)
theorem wd_335 : (Jvm.Cond.code ({ cls := "SpooledPost$Row", name := "clear", desc := "()V" } : Jvm.MethodName) prog_8_method_2_code (1 : Nat) (Option.none : Option Jvm.ClassFile.FieldType)) ∈ WS := WSin (List.mem_of_getElem? (i := 335) (by decide +kernel)) (by decide +kernel)
theorem wd_336 : (Jvm.Cond.methodLink "SpooledPost" (284 : Nat) ({ cls := "SpooledPost$Row", name := "addRow", desc := "(LSpooledPost$Row;)V" } : Jvm.MethodName)) ∈ WS := WSin (List.mem_of_getElem? (i := 336) (by decide +kernel)) (by decide +kernel)
theorem wd_337 : (Jvm.Cond.instanceMethod ({ cls := "SpooledPost$Row", name := "addRow", desc := "(LSpooledPost$Row;)V" } : Jvm.MethodName)) ∈ WS := WSin (List.mem_of_getElem? (i := 337) (by decide +kernel)) (by decide +kernel)
theorem wd_338 : (Jvm.Cond.selects "SpooledPost$Row" ({ cls := "SpooledPost$Row", name := "addRow", desc := "(LSpooledPost$Row;)V" } : Jvm.MethodName) ({ cls := "SpooledPost$Row", name := "addRow", desc := "(LSpooledPost$Row;)V" } : Jvm.MethodName)) ∈ WS := WSin (List.mem_of_getElem? (i := 338) (by decide +kernel)) (by decide +kernel)
theorem wd_339 : (Jvm.Cond.code ({ cls := "SpooledPost$Row", name := "addRow", desc := "(LSpooledPost$Row;)V" } : Jvm.MethodName) prog_8_method_6_code (3 : Nat) (Option.none : Option Jvm.ClassFile.FieldType)) ∈ WS := WSin (List.mem_of_getElem? (i := 339) (by decide +kernel)) (by decide +kernel)
theorem wd_340 : (Jvm.Cond.methodLink "SpooledPost$Row" (25 : Nat) ({ cls := "java/lang/Math", name := "min", desc := "(II)I" } : Jvm.MethodName)) ∈ WS := WSin (List.mem_of_getElem? (i := 340) (by decide +kernel)) (by decide +kernel)
theorem wd_341 : (Jvm.Cond.static ({ cls := "java/lang/Math", name := "min", desc := "(II)I" } : Jvm.MethodName)) ∈ WS := WSin (List.mem_of_getElem? (i := 341) (by decide +kernel)) (by decide +kernel)
theorem wd_342 : (Jvm.Cond.code ({ cls := "java/lang/Math", name := "min", desc := "(II)I" } : Jvm.MethodName) prog_14_method_69_code (2 : Nat) (Option.some Jvm.ClassFile.FieldType.int)) ∈ WS := WSin (List.mem_of_getElem? (i := 342) (by decide +kernel)) (by decide +kernel)
theorem wd_343 : (Jvm.Cond.methodLink "SpooledPost$Row" (31 : Nat) ({ cls := "java/lang/System", name := "arraycopy", desc := "(Ljava/lang/Object;ILjava/lang/Object;II)V" } : Jvm.MethodName)) ∈ WS := WSin (List.mem_of_getElem? (i := 343) (by decide +kernel)) (by decide +kernel)
theorem wd_344 : (Jvm.Cond.static ({ cls := "java/lang/System", name := "arraycopy", desc := "(Ljava/lang/Object;ILjava/lang/Object;II)V" } : Jvm.MethodName)) ∈ WS := WSin (List.mem_of_getElem? (i := 344) (by decide +kernel)) (by decide +kernel)
theorem wd_345 : (Jvm.Cond.native ({ cls := "java/lang/System", name := "arraycopy", desc := "(Ljava/lang/Object;ILjava/lang/Object;II)V" } : Jvm.MethodName)) ∈ WS := WSin (List.mem_of_getElem? (i := 345) (by decide +kernel)) (by decide +kernel)
theorem wd_346 : (Jvm.Cond.methodLink "SpooledPost" (288 : Nat) ({ cls := "SpooledPost$Letter", name := "address", desc := "(LSpooledPost$Row;I)V" } : Jvm.MethodName)) ∈ WS := WSin (List.mem_of_getElem? (i := 346) (by decide +kernel)) (by decide +kernel)
theorem wd_347 : (Jvm.Cond.instanceMethod ({ cls := "SpooledPost$Letter", name := "address", desc := "(LSpooledPost$Row;I)V" } : Jvm.MethodName)) ∈ WS := WSin (List.mem_of_getElem? (i := 347) (by decide +kernel)) (by decide +kernel)
theorem wd_348 : (Jvm.Cond.selects "SpooledPost$Letter" ({ cls := "SpooledPost$Letter", name := "address", desc := "(LSpooledPost$Row;I)V" } : Jvm.MethodName) ({ cls := "SpooledPost$Letter", name := "address", desc := "(LSpooledPost$Row;I)V" } : Jvm.MethodName)) ∈ WS := WSin (List.mem_of_getElem? (i := 348) (by decide +kernel)) (by decide +kernel)
theorem wd_349 : (Jvm.Cond.code ({ cls := "SpooledPost$Letter", name := "address", desc := "(LSpooledPost$Row;I)V" } : Jvm.MethodName) prog_5_method_3_code (4 : Nat) (Option.none : Option Jvm.ClassFile.FieldType)) ∈ WS := WSin (List.mem_of_getElem? (i := 349) (by decide +kernel)) (by decide +kernel)
theorem wd_350 : (Jvm.Cond.methodLink "SpooledPost$Letter" (47 : Nat) ({ cls := "SpooledPost$Row", name := "addRow", desc := "(LSpooledPost$Row;)V" } : Jvm.MethodName)) ∈ WS := WSin (List.mem_of_getElem? (i := 350) (by decide +kernel)) (by decide +kernel)
theorem wd_351 : (Jvm.Cond.methodLink "SpooledPost" (291 : Nat) ({ cls := "SpooledPost$Spool", name := "seal", desc := "(LSpooledPost$Letter;)Z" } : Jvm.MethodName)) ∈ WS := WSin (List.mem_of_getElem? (i := 351) (by decide +kernel)) (by decide +kernel)
theorem wd_352 : (Jvm.Cond.instanceMethod ({ cls := "SpooledPost$Spool", name := "seal", desc := "(LSpooledPost$Letter;)Z" } : Jvm.MethodName)) ∈ WS := WSin (List.mem_of_getElem? (i := 352) (by decide +kernel)) (by decide +kernel)
theorem wd_353 : (Jvm.Cond.selects "SpooledPost$Spool" ({ cls := "SpooledPost$Spool", name := "seal", desc := "(LSpooledPost$Letter;)Z" } : Jvm.MethodName) ({ cls := "SpooledPost$Spool", name := "seal", desc := "(LSpooledPost$Letter;)Z" } : Jvm.MethodName)) ∈ WS := WSin (List.mem_of_getElem? (i := 353) (by decide +kernel)) (by decide +kernel)
theorem wd_354 : (Jvm.Cond.code ({ cls := "SpooledPost$Spool", name := "seal", desc := "(LSpooledPost$Letter;)Z" } : Jvm.MethodName) prog_10_method_5_code (2 : Nat) (Option.some Jvm.ClassFile.FieldType.boolean)) ∈ WS := WSin (List.mem_of_getElem? (i := 354) (by decide +kernel)) (by decide +kernel)
theorem wd_355 : (Jvm.Cond.methodLink "SpooledPost" (204 : Nat) ({ cls := "SpooledPost$Session", name := "endTransaction", desc := "()V" } : Jvm.MethodName)) ∈ WS := WSin (List.mem_of_getElem? (i := 355) (by decide +kernel)) (by decide +kernel)
theorem wd_356 : (Jvm.Cond.instanceMethod ({ cls := "SpooledPost$Session", name := "endTransaction", desc := "()V" } : Jvm.MethodName)) ∈ WS := WSin (List.mem_of_getElem? (i := 356) (by decide +kernel)) (by decide +kernel)
theorem wd_357 : (Jvm.Cond.selects "SpooledPost$Session" ({ cls := "SpooledPost$Session", name := "endTransaction", desc := "()V" } : Jvm.MethodName) ({ cls := "SpooledPost$Session", name := "endTransaction", desc := "()V" } : Jvm.MethodName)) ∈ WS := WSin (List.mem_of_getElem? (i := 357) (by decide +kernel)) (by decide +kernel)
theorem wd_358 : (Jvm.Cond.code ({ cls := "SpooledPost$Session", name := "endTransaction", desc := "()V" } : Jvm.MethodName) prog_9_method_3_code (1 : Nat) (Option.none : Option Jvm.ClassFile.FieldType)) ∈ WS := WSin (List.mem_of_getElem? (i := 358) (by decide +kernel)) (by decide +kernel)
theorem wd_359 : (Jvm.Cond.methodLink "SpooledPost" (273 : Nat) ({ cls := "SpooledPost$Session", name := "addTextLine", desc := "(LSpooledPost$Row;I)V" } : Jvm.MethodName)) ∈ WS := WSin (List.mem_of_getElem? (i := 359) (by decide +kernel)) (by decide +kernel)
theorem wd_360 : (Jvm.Cond.instanceMethod ({ cls := "SpooledPost$Session", name := "addTextLine", desc := "(LSpooledPost$Row;I)V" } : Jvm.MethodName)) ∈ WS := WSin (List.mem_of_getElem? (i := 360) (by decide +kernel)) (by decide +kernel)
theorem wd_361 : (Jvm.Cond.selects "SpooledPost$Session" ({ cls := "SpooledPost$Session", name := "addTextLine", desc := "(LSpooledPost$Row;I)V" } : Jvm.MethodName) ({ cls := "SpooledPost$Session", name := "addTextLine", desc := "(LSpooledPost$Row;I)V" } : Jvm.MethodName)) ∈ WS := WSin (List.mem_of_getElem? (i := 361) (by decide +kernel)) (by decide +kernel)
theorem wd_362 : (Jvm.Cond.code ({ cls := "SpooledPost$Session", name := "addTextLine", desc := "(LSpooledPost$Row;I)V" } : Jvm.MethodName) prog_9_method_4_code (3 : Nat) (Option.none : Option Jvm.ClassFile.FieldType)) ∈ WS := WSin (List.mem_of_getElem? (i := 362) (by decide +kernel)) (by decide +kernel)
theorem wd_363 : (Jvm.Cond.methodLink "SpooledPost$Session" (50 : Nat) ({ cls := "SpooledPost$Row", name := "addPiece", desc := "(LSpooledPost$Row;II)V" } : Jvm.MethodName)) ∈ WS := WSin (List.mem_of_getElem? (i := 363) (by decide +kernel)) (by decide +kernel)
theorem wd_364 : (Jvm.Cond.instanceMethod ({ cls := "SpooledPost$Row", name := "addPiece", desc := "(LSpooledPost$Row;II)V" } : Jvm.MethodName)) ∈ WS := WSin (List.mem_of_getElem? (i := 364) (by decide +kernel)) (by decide +kernel)
theorem wd_365 : (Jvm.Cond.selects "SpooledPost$Row" ({ cls := "SpooledPost$Row", name := "addPiece", desc := "(LSpooledPost$Row;II)V" } : Jvm.MethodName) ({ cls := "SpooledPost$Row", name := "addPiece", desc := "(LSpooledPost$Row;II)V" } : Jvm.MethodName)) ∈ WS := WSin (List.mem_of_getElem? (i := 365) (by decide +kernel)) (by decide +kernel)
theorem wd_366 : (Jvm.Cond.code ({ cls := "SpooledPost$Row", name := "addPiece", desc := "(LSpooledPost$Row;II)V" } : Jvm.MethodName) prog_8_method_5_code (5 : Nat) (Option.none : Option Jvm.ClassFile.FieldType)) ∈ WS := WSin (List.mem_of_getElem? (i := 366) (by decide +kernel)) (by decide +kernel)
theorem wd_367 : (Jvm.Cond.methodLink "SpooledPost$Row" (17 : Nat) ({ cls := "SpooledPost$Row", name := "at", desc := "(I)C" } : Jvm.MethodName)) ∈ WS := WSin (List.mem_of_getElem? (i := 367) (by decide +kernel)) (by decide +kernel)
theorem wd_368 : (Jvm.Cond.methodLink "SpooledPost$Row" (21 : Nat) ({ cls := "SpooledPost$Row", name := "add", desc := "(C)V" } : Jvm.MethodName)) ∈ WS := WSin (List.mem_of_getElem? (i := 368) (by decide +kernel)) (by decide +kernel)
theorem wd_369 : (Jvm.Cond.methodLink "SpooledPost$Session" (54 : Nat) ({ cls := "SpooledPost$Row", name := "add", desc := "(C)V" } : Jvm.MethodName)) ∈ WS := WSin (List.mem_of_getElem? (i := 369) (by decide +kernel)) (by decide +kernel)
theorem wd_370 : (Jvm.Cond.methodLink "SpooledPost" (69 : Nat) ({ cls := "SpooledPost", name := "obey", desc := "()I" } : Jvm.MethodName)) ∈ WS := WSin (List.mem_of_getElem? (i := 370) (by decide +kernel)) (by decide +kernel)
theorem wd_372 : (Jvm.Cond.instanceMethod ({ cls := "SpooledPost", name := "obey", desc := "()I" } : Jvm.MethodName)) ∈ WS := WSin (List.mem_of_getElem? (i := 372) (by decide +kernel)) (by decide +kernel)
theorem wd_373 : (Jvm.Cond.code ({ cls := "SpooledPost", name := "obey", desc := "()I" } : Jvm.MethodName) prog_1_method_22_code (2 : Nat) (Option.some Jvm.ClassFile.FieldType.int)) ∈ WS := WSin (List.mem_of_getElem? (i := 373) (by decide +kernel)) (by decide +kernel)
theorem wd_374 : (Jvm.Cond.methodLink "SpooledPost" (173 : Nat) ({ cls := "SpooledPost", name := "commandOfLine", desc := "()LSpooledPost$Command;" } : Jvm.MethodName)) ∈ WS := WSin (List.mem_of_getElem? (i := 374) (by decide +kernel)) (by decide +kernel)
theorem wd_376 : (Jvm.Cond.instanceMethod ({ cls := "SpooledPost", name := "commandOfLine", desc := "()LSpooledPost$Command;" } : Jvm.MethodName)) ∈ WS := WSin (List.mem_of_getElem? (i := 376) (by decide +kernel)) (by decide +kernel)
theorem wd_377 : (Jvm.Cond.code ({ cls := "SpooledPost", name := "commandOfLine", desc := "()LSpooledPost$Command;" } : Jvm.MethodName) prog_1_method_23_code (2 : Nat) (Option.some (Jvm.ClassFile.FieldType.object "SpooledPost$Command"))) ∈ WS := WSin (List.mem_of_getElem? (i := 377) (by decide +kernel)) (by decide +kernel)
theorem wd_378 : (Jvm.Cond.fieldLink "SpooledPost" (207 : Nat) "SpooledPost" "COMMANDS" "[LSpooledPost$Command;") ∈ WS := WSin (List.mem_of_getElem? (i := 378) (by decide +kernel)) (by decide +kernel)
theorem wd_380 : (Jvm.Cond.methodLink "SpooledPost" (215 : Nat) ({ cls := "SpooledPost$Row", name := "matches", desc := "(ILjava/lang/String;)Z" } : Jvm.MethodName)) ∈ WS := WSin (List.mem_of_getElem? (i := 380) (by decide +kernel)) (by decide +kernel)
theorem wd_381 : (Jvm.Cond.instanceMethod ({ cls := "SpooledPost$Row", name := "matches", desc := "(ILjava/lang/String;)Z" } : Jvm.MethodName)) ∈ WS := WSin (List.mem_of_getElem? (i := 381) (by decide +kernel)) (by decide +kernel)
theorem wd_382 : (Jvm.Cond.selects "SpooledPost$Row" ({ cls := "SpooledPost$Row", name := "matches", desc := "(ILjava/lang/String;)Z" } : Jvm.MethodName) ({ cls := "SpooledPost$Row", name := "matches", desc := "(ILjava/lang/String;)Z" } : Jvm.MethodName)) ∈ WS := WSin (List.mem_of_getElem? (i := 382) (by decide +kernel)) (by decide +kernel)
theorem wd_383 : (Jvm.Cond.code ({ cls := "SpooledPost$Row", name := "matches", desc := "(ILjava/lang/String;)Z" } : Jvm.MethodName) prog_8_method_8_code (4 : Nat) (Option.some Jvm.ClassFile.FieldType.boolean)) ∈ WS := WSin (List.mem_of_getElem? (i := 383) (by decide +kernel)) (by decide +kernel)
theorem wd_384 : (Jvm.Cond.methodLink "SpooledPost$Row" (37 : Nat) ({ cls := "java/lang/String", name := "length", desc := "()I" } : Jvm.MethodName)) ∈ WS := WSin (List.mem_of_getElem? (i := 384) (by decide +kernel)) (by decide +kernel)
theorem wd_385 : (Jvm.Cond.instanceMethod ({ cls := "java/lang/String", name := "length", desc := "()I" } : Jvm.MethodName)) ∈ WS := WSin (List.mem_of_getElem? (i := 385) (by decide +kernel)) (by decide +kernel)
theorem wd_386 : (Jvm.Cond.selects "java/lang/String" ({ cls := "java/lang/String", name := "length", desc := "()I" } : Jvm.MethodName) ({ cls := "java/lang/String", name := "length", desc := "()I" } : Jvm.MethodName)) ∈ WS := WSin (List.mem_of_getElem? (i := 386) (by decide +kernel)) (by decide +kernel)
theorem wd_387 : (Jvm.Cond.code ({ cls := "java/lang/String", name := "length", desc := "()I" } : Jvm.MethodName) prog_15_method_54_code (1 : Nat) (Option.some Jvm.ClassFile.FieldType.int)) ∈ WS := WSin (List.mem_of_getElem? (i := 387) (by decide +kernel)) (by decide +kernel)
theorem wd_388 : (Jvm.Cond.methodLink "java/lang/String" (335 : Nat) ({ cls := "java/lang/String", name := "coder", desc := "()B" } : Jvm.MethodName)) ∈ WS := WSin (List.mem_of_getElem? (i := 388) (by decide +kernel)) (by decide +kernel)
theorem wd_389 : (Jvm.Cond.instanceMethod ({ cls := "java/lang/String", name := "coder", desc := "()B" } : Jvm.MethodName)) ∈ WS := WSin (List.mem_of_getElem? (i := 389) (by decide +kernel)) (by decide +kernel)
theorem wd_390 : (Jvm.Cond.selects "java/lang/String" ({ cls := "java/lang/String", name := "coder", desc := "()B" } : Jvm.MethodName) ({ cls := "java/lang/String", name := "coder", desc := "()B" } : Jvm.MethodName)) ∈ WS := WSin (List.mem_of_getElem? (i := 390) (by decide +kernel)) (by decide +kernel)
theorem wd_391 : (Jvm.Cond.code ({ cls := "java/lang/String", name := "coder", desc := "()B" } : Jvm.MethodName) prog_15_method_152_code (1 : Nat) (Option.some Jvm.ClassFile.FieldType.byte)) ∈ WS := WSin (List.mem_of_getElem? (i := 391) (by decide +kernel)) (by decide +kernel)
theorem wd_392 : (Jvm.Cond.fieldLink "java/lang/String" (38 : Nat) "java/lang/String" "COMPACT_STRINGS" "Z") ∈ WS := WSin (List.mem_of_getElem? (i := 392) (by decide +kernel)) (by decide +kernel)
theorem wd_394 : (Jvm.Cond.methodLink "SpooledPost$Row" (45 : Nat) ({ cls := "SpooledPost$Grammar", name := "small", desc := "(C)C" } : Jvm.MethodName)) ∈ WS := WSin (List.mem_of_getElem? (i := 394) (by decide +kernel)) (by decide +kernel)
theorem wd_395 : (Jvm.Cond.static ({ cls := "SpooledPost$Grammar", name := "small", desc := "(C)C" } : Jvm.MethodName)) ∈ WS := WSin (List.mem_of_getElem? (i := 395) (by decide +kernel)) (by decide +kernel)
theorem wd_396 : (Jvm.Cond.code ({ cls := "SpooledPost$Grammar", name := "small", desc := "(C)C" } : Jvm.MethodName) prog_4_method_2_code (1 : Nat) (Option.some Jvm.ClassFile.FieldType.char)) ∈ WS := WSin (List.mem_of_getElem? (i := 396) (by decide +kernel)) (by decide +kernel)
theorem wd_397 : (Jvm.Cond.methodLink "SpooledPost$Row" (42 : Nat) ({ cls := "java/lang/String", name := "charAt", desc := "(I)C" } : Jvm.MethodName)) ∈ WS := WSin (List.mem_of_getElem? (i := 397) (by decide +kernel)) (by decide +kernel)
theorem wd_398 : (Jvm.Cond.instanceMethod ({ cls := "java/lang/String", name := "charAt", desc := "(I)C" } : Jvm.MethodName)) ∈ WS := WSin (List.mem_of_getElem? (i := 398) (by decide +kernel)) (by decide +kernel)
theorem wd_399 : (Jvm.Cond.selects "java/lang/String" ({ cls := "java/lang/String", name := "charAt", desc := "(I)C" } : Jvm.MethodName) ({ cls := "java/lang/String", name := "charAt", desc := "(I)C" } : Jvm.MethodName)) ∈ WS := WSin (List.mem_of_getElem? (i := 399) (by decide +kernel)) (by decide +kernel)
theorem wd_400 : (Jvm.Cond.code ({ cls := "java/lang/String", name := "charAt", desc := "(I)C" } : Jvm.MethodName) prog_15_method_56_code (2 : Nat) (Option.some Jvm.ClassFile.FieldType.char)) ∈ WS := WSin (List.mem_of_getElem? (i := 400) (by decide +kernel)) (by decide +kernel)
theorem wd_401 : (Jvm.Cond.methodLink "java/lang/String" (492 : Nat) ({ cls := "java/lang/String", name := "isLatin1", desc := "()Z" } : Jvm.MethodName)) ∈ WS := WSin (List.mem_of_getElem? (i := 401) (by decide +kernel)) (by decide +kernel)
theorem wd_402 : (Jvm.Cond.instanceMethod ({ cls := "java/lang/String", name := "isLatin1", desc := "()Z" } : Jvm.MethodName)) ∈ WS := WSin (List.mem_of_getElem? (i := 402) (by decide +kernel)) (by decide +kernel)
theorem wd_403 : (Jvm.Cond.selects "java/lang/String" ({ cls := "java/lang/String", name := "isLatin1", desc := "()Z" } : Jvm.MethodName) ({ cls := "java/lang/String", name := "isLatin1", desc := "()Z" } : Jvm.MethodName)) ∈ WS := WSin (List.mem_of_getElem? (i := 403) (by decide +kernel)) (by decide +kernel)
theorem wd_404 : (Jvm.Cond.code ({ cls := "java/lang/String", name := "isLatin1", desc := "()Z" } : Jvm.MethodName) prog_15_method_154_code (1 : Nat) (Option.some Jvm.ClassFile.FieldType.boolean)) ∈ WS := WSin (List.mem_of_getElem? (i := 404) (by decide +kernel)) (by decide +kernel)
theorem wd_405 : (Jvm.Cond.methodLink "java/lang/String" (495 : Nat) ({ cls := "java/lang/StringLatin1", name := "charAt", desc := "([BI)C" } : Jvm.MethodName)) ∈ WS := WSin (List.mem_of_getElem? (i := 405) (by decide +kernel)) (by decide +kernel)
theorem wd_406 : (Jvm.Cond.static ({ cls := "java/lang/StringLatin1", name := "charAt", desc := "([BI)C" } : Jvm.MethodName)) ∈ WS := WSin (List.mem_of_getElem? (i := 406) (by decide +kernel)) (by decide +kernel)
theorem wd_407 : (Jvm.Cond.code ({ cls := "java/lang/StringLatin1", name := "charAt", desc := "([BI)C" } : Jvm.MethodName) prog_16_method_2_code (2 : Nat) (Option.some Jvm.ClassFile.FieldType.char)) ∈ WS := WSin (List.mem_of_getElem? (i := 407) (by decide +kernel)) (by decide +kernel)
theorem wd_408 : (Jvm.Cond.methodLink "java/lang/StringLatin1" (9 : Nat) ({ cls := "java/lang/String", name := "checkIndex", desc := "(II)V" } : Jvm.MethodName)) ∈ WS := WSin (List.mem_of_getElem? (i := 408) (by decide +kernel)) (by decide +kernel)
theorem wd_409 : (Jvm.Cond.static ({ cls := "java/lang/String", name := "checkIndex", desc := "(II)V" } : Jvm.MethodName)) ∈ WS := WSin (List.mem_of_getElem? (i := 409) (by decide +kernel)) (by decide +kernel)
theorem wd_410 : (Jvm.Cond.code ({ cls := "java/lang/String", name := "checkIndex", desc := "(II)V" } : Jvm.MethodName) prog_15_method_155_code (2 : Nat) (Option.none : Option Jvm.ClassFile.FieldType)) ∈ WS := WSin (List.mem_of_getElem? (i := 410) (by decide +kernel)) (by decide +kernel)
theorem wd_411 : (Jvm.Cond.fieldLink "java/lang/String" (1053 : Nat) "jdk/internal/util/Preconditions" "SIOOBE_FORMATTER" "Ljava/util/function/BiFunction;") ∈ WS := WSin (List.mem_of_getElem? (i := 411) (by decide +kernel)) (by decide +kernel)
theorem wd_413 : (Jvm.Cond.methodLink "java/lang/String" (1059 : Nat) ({ cls := "jdk/internal/util/Preconditions", name := "checkIndex", desc := "(IILjava/util/function/BiFunction;)I" } : Jvm.MethodName)) ∈ WS := WSin (List.mem_of_getElem? (i := 413) (by decide +kernel)) (by decide +kernel)
theorem wd_414 : (Jvm.Cond.static ({ cls := "jdk/internal/util/Preconditions", name := "checkIndex", desc := "(IILjava/util/function/BiFunction;)I" } : Jvm.MethodName)) ∈ WS := WSin (List.mem_of_getElem? (i := 414) (by decide +kernel)) (by decide +kernel)
theorem wd_415 : (Jvm.Cond.code ({ cls := "jdk/internal/util/Preconditions", name := "checkIndex", desc := "(IILjava/util/function/BiFunction;)I" } : Jvm.MethodName) prog_19_method_11_code (3 : Nat) (Option.some Jvm.ClassFile.FieldType.int)) ∈ WS := WSin (List.mem_of_getElem? (i := 415) (by decide +kernel)) (by decide +kernel)
theorem wd_435 : (Jvm.Cond.methodLink "SpooledPost" (177 : Nat) ({ cls := "SpooledPost", name := "isWrittenRight", desc := "(LSpooledPost$Command;)Z" } : Jvm.MethodName)) ∈ WS := WSin (List.mem_of_getElem? (i := 435) (by decide +kernel)) (by decide +kernel)
theorem wd_437 : (Jvm.Cond.instanceMethod ({ cls := "SpooledPost", name := "isWrittenRight", desc := "(LSpooledPost$Command;)Z" } : Jvm.MethodName)) ∈ WS := WSin (List.mem_of_getElem? (i := 437) (by decide +kernel)) (by decide +kernel)
theorem wd_438 : (Jvm.Cond.code ({ cls := "SpooledPost", name := "isWrittenRight", desc := "(LSpooledPost$Command;)Z" } : Jvm.MethodName) prog_1_method_24_code (2 : Nat) (Option.some Jvm.ClassFile.FieldType.boolean)) ∈ WS := WSin (List.mem_of_getElem? (i := 438) (by decide +kernel)) (by decide +kernel)
theorem wd_439 : (Jvm.Cond.fieldLink "SpooledPost" (181 : Nat) "SpooledPost$1" "$SwitchMap$SpooledPost$Command" "[I") ∈ WS := WSin (List.mem_of_getElem? (i := 439) (by decide +kernel)) (by decide +kernel)
theorem wd_441 : (Jvm.Cond.methodLink "SpooledPost" (187 : Nat) ({ cls := "SpooledPost$Command", name := "ordinal", desc := "()I" } : Jvm.MethodName)) ∈ WS := WSin (List.mem_of_getElem? (i := 441) (by decide +kernel)) (by decide +kernel)
theorem wd_447 : (Jvm.Cond.methodLink "SpooledPost" (219 : Nat) ({ cls := "SpooledPost$Grammar", name := "isDomain", desc := "(LSpooledPost$Row;II)Z" } : Jvm.MethodName)) ∈ WS := WSin (List.mem_of_getElem? (i := 447) (by decide +kernel)) (by decide +kernel)
theorem wd_448 : (Jvm.Cond.static ({ cls := "SpooledPost$Grammar", name := "isDomain", desc := "(LSpooledPost$Row;II)Z" } : Jvm.MethodName)) ∈ WS := WSin (List.mem_of_getElem? (i := 448) (by decide +kernel)) (by decide +kernel)
theorem wd_449 : (Jvm.Cond.code ({ cls := "SpooledPost$Grammar", name := "isDomain", desc := "(LSpooledPost$Row;II)Z" } : Jvm.MethodName) prog_4_method_6_code (7 : Nat) (Option.some Jvm.ClassFile.FieldType.boolean)) ∈ WS := WSin (List.mem_of_getElem? (i := 449) (by decide +kernel)) (by decide +kernel)
theorem wd_450 : (Jvm.Cond.methodLink "SpooledPost$Grammar" (9 : Nat) ({ cls := "SpooledPost$Row", name := "at", desc := "(I)C" } : Jvm.MethodName)) ∈ WS := WSin (List.mem_of_getElem? (i := 450) (by decide +kernel)) (by decide +kernel)
theorem wd_451 : (Jvm.Cond.methodLink "SpooledPost$Grammar" (24 : Nat) ({ cls := "SpooledPost$Grammar", name := "isLetterOrDigit", desc := "(C)Z" } : Jvm.MethodName)) ∈ WS := WSin (List.mem_of_getElem? (i := 451) (by decide +kernel)) (by decide +kernel)
theorem wd_452 : (Jvm.Cond.static ({ cls := "SpooledPost$Grammar", name := "isLetterOrDigit", desc := "(C)Z" } : Jvm.MethodName)) ∈ WS := WSin (List.mem_of_getElem? (i := 452) (by decide +kernel)) (by decide +kernel)
theorem wd_453 : (Jvm.Cond.code ({ cls := "SpooledPost$Grammar", name := "isLetterOrDigit", desc := "(C)Z" } : Jvm.MethodName) prog_4_method_3_code (1 : Nat) (Option.some Jvm.ClassFile.FieldType.boolean)) ∈ WS := WSin (List.mem_of_getElem? (i := 453) (by decide +kernel)) (by decide +kernel)
theorem wd_455 : (Jvm.Cond.methodLink "SpooledPost" (227 : Nat) ({ cls := "SpooledPost", name := "isBracketed", desc := "(Ljava/lang/String;)Z" } : Jvm.MethodName)) ∈ WS := WSin (List.mem_of_getElem? (i := 455) (by decide +kernel)) (by decide +kernel)
theorem wd_457 : (Jvm.Cond.instanceMethod ({ cls := "SpooledPost", name := "isBracketed", desc := "(Ljava/lang/String;)Z" } : Jvm.MethodName)) ∈ WS := WSin (List.mem_of_getElem? (i := 457) (by decide +kernel)) (by decide +kernel)
theorem wd_458 : (Jvm.Cond.code ({ cls := "SpooledPost", name := "isBracketed", desc := "(Ljava/lang/String;)Z" } : Jvm.MethodName) prog_1_method_25_code (2 : Nat) (Option.some Jvm.ClassFile.FieldType.boolean)) ∈ WS := WSin (List.mem_of_getElem? (i := 458) (by decide +kernel)) (by decide +kernel)
theorem wd_459 : (Jvm.Cond.methodLink "SpooledPost" (231 : Nat) ({ cls := "SpooledPost", name := "isBracketEmpty", desc := "(Ljava/lang/String;)Z" } : Jvm.MethodName)) ∈ WS := WSin (List.mem_of_getElem? (i := 459) (by decide +kernel)) (by decide +kernel)
theorem wd_461 : (Jvm.Cond.instanceMethod ({ cls := "SpooledPost", name := "isBracketEmpty", desc := "(Ljava/lang/String;)Z" } : Jvm.MethodName)) ∈ WS := WSin (List.mem_of_getElem? (i := 461) (by decide +kernel)) (by decide +kernel)
theorem wd_462 : (Jvm.Cond.code ({ cls := "SpooledPost", name := "isBracketEmpty", desc := "(Ljava/lang/String;)Z" } : Jvm.MethodName) prog_1_method_26_code (2 : Nat) (Option.some Jvm.ClassFile.FieldType.boolean)) ∈ WS := WSin (List.mem_of_getElem? (i := 462) (by decide +kernel)) (by decide +kernel)
theorem wd_463 : (Jvm.Cond.methodLink "SpooledPost" (239 : Nat) ({ cls := "SpooledPost", name := "bracketStart", desc := "(Ljava/lang/String;)I" } : Jvm.MethodName)) ∈ WS := WSin (List.mem_of_getElem? (i := 463) (by decide +kernel)) (by decide +kernel)
theorem wd_464 : (Jvm.Cond.static ({ cls := "SpooledPost", name := "bracketStart", desc := "(Ljava/lang/String;)I" } : Jvm.MethodName)) ∈ WS := WSin (List.mem_of_getElem? (i := 464) (by decide +kernel)) (by decide +kernel)
theorem wd_465 : (Jvm.Cond.code ({ cls := "SpooledPost", name := "bracketStart", desc := "(Ljava/lang/String;)I" } : Jvm.MethodName) prog_1_method_28_code (1 : Nat) (Option.some Jvm.ClassFile.FieldType.int)) ∈ WS := WSin (List.mem_of_getElem? (i := 465) (by decide +kernel)) (by decide +kernel)
theorem wd_466 : (Jvm.Cond.methodLink "SpooledPost" (246 : Nat) ({ cls := "java/lang/String", name := "length", desc := "()I" } : Jvm.MethodName)) ∈ WS := WSin (List.mem_of_getElem? (i := 466) (by decide +kernel)) (by decide +kernel)
theorem wd_467 : (Jvm.Cond.methodLink "SpooledPost" (234 : Nat) ({ cls := "SpooledPost", name := "isPathIn", desc := "(Ljava/lang/String;)Z" } : Jvm.MethodName)) ∈ WS := WSin (List.mem_of_getElem? (i := 467) (by decide +kernel)) (by decide +kernel)
theorem wd_469 : (Jvm.Cond.instanceMethod ({ cls := "SpooledPost", name := "isPathIn", desc := "(Ljava/lang/String;)Z" } : Jvm.MethodName)) ∈ WS := WSin (List.mem_of_getElem? (i := 469) (by decide +kernel)) (by decide +kernel)
theorem wd_470 : (Jvm.Cond.code ({ cls := "SpooledPost", name := "isPathIn", desc := "(Ljava/lang/String;)Z" } : Jvm.MethodName) prog_1_method_27_code (2 : Nat) (Option.some Jvm.ClassFile.FieldType.boolean)) ∈ WS := WSin (List.mem_of_getElem? (i := 470) (by decide +kernel)) (by decide +kernel)
theorem wd_471 : (Jvm.Cond.methodLink "SpooledPost" (243 : Nat) ({ cls := "SpooledPost$Grammar", name := "isPath", desc := "(LSpooledPost$Row;II)Z" } : Jvm.MethodName)) ∈ WS := WSin (List.mem_of_getElem? (i := 471) (by decide +kernel)) (by decide +kernel)
theorem wd_472 : (Jvm.Cond.static ({ cls := "SpooledPost$Grammar", name := "isPath", desc := "(LSpooledPost$Row;II)Z" } : Jvm.MethodName)) ∈ WS := WSin (List.mem_of_getElem? (i := 472) (by decide +kernel)) (by decide +kernel)
theorem wd_473 : (Jvm.Cond.code ({ cls := "SpooledPost$Grammar", name := "isPath", desc := "(LSpooledPost$Row;II)Z" } : Jvm.MethodName) prog_4_method_4_code (4 : Nat) (Option.some Jvm.ClassFile.FieldType.boolean)) ∈ WS := WSin (List.mem_of_getElem? (i := 473) (by decide +kernel)) (by decide +kernel)
theorem wd_474 : (Jvm.Cond.methodLink "SpooledPost$Grammar" (15 : Nat) ({ cls := "SpooledPost$Grammar", name := "isLocal", desc := "(LSpooledPost$Row;II)Z" } : Jvm.MethodName)) ∈ WS := WSin (List.mem_of_getElem? (i := 474) (by decide +kernel)) (by decide +kernel)
theorem wd_475 : (Jvm.Cond.static ({ cls := "SpooledPost$Grammar", name := "isLocal", desc := "(LSpooledPost$Row;II)Z" } : Jvm.MethodName)) ∈ WS := WSin (List.mem_of_getElem? (i := 475) (by decide +kernel)) (by decide +kernel)
theorem wd_476 : (Jvm.Cond.code ({ cls := "SpooledPost$Grammar", name := "isLocal", desc := "(LSpooledPost$Row;II)Z" } : Jvm.MethodName) prog_4_method_5_code (7 : Nat) (Option.some Jvm.ClassFile.FieldType.boolean)) ∈ WS := WSin (List.mem_of_getElem? (i := 476) (by decide +kernel)) (by decide +kernel)
theorem wd_477 : (Jvm.Cond.methodLink "SpooledPost$Grammar" (21 : Nat) ({ cls := "SpooledPost$Grammar", name := "isDomain", desc := "(LSpooledPost$Row;II)Z" } : Jvm.MethodName)) ∈ WS := WSin (List.mem_of_getElem? (i := 477) (by decide +kernel)) (by decide +kernel)
theorem wd_479 : (Jvm.Cond.methodLink "SpooledPost" (192 : Nat) ({ cls := "SpooledPost", name := "greet", desc := "()I" } : Jvm.MethodName)) ∈ WS := WSin (List.mem_of_getElem? (i := 479) (by decide +kernel)) (by decide +kernel)
theorem wd_481 : (Jvm.Cond.instanceMethod ({ cls := "SpooledPost", name := "greet", desc := "()I" } : Jvm.MethodName)) ∈ WS := WSin (List.mem_of_getElem? (i := 481) (by decide +kernel)) (by decide +kernel)
theorem wd_482 : (Jvm.Cond.code ({ cls := "SpooledPost", name := "greet", desc := "()I" } : Jvm.MethodName) prog_1_method_29_code (1 : Nat) (Option.some Jvm.ClassFile.FieldType.int)) ∈ WS := WSin (List.mem_of_getElem? (i := 482) (by decide +kernel)) (by decide +kernel)
theorem wd_483 : (Jvm.Cond.methodLink "SpooledPost" (195 : Nat) ({ cls := "SpooledPost", name := "beginTransaction", desc := "()I" } : Jvm.MethodName)) ∈ WS := WSin (List.mem_of_getElem? (i := 483) (by decide +kernel)) (by decide +kernel)
theorem wd_485 : (Jvm.Cond.instanceMethod ({ cls := "SpooledPost", name := "beginTransaction", desc := "()I" } : Jvm.MethodName)) ∈ WS := WSin (List.mem_of_getElem? (i := 485) (by decide +kernel)) (by decide +kernel)
theorem wd_486 : (Jvm.Cond.code ({ cls := "SpooledPost", name := "beginTransaction", desc := "()I" } : Jvm.MethodName) prog_1_method_30_code (1 : Nat) (Option.some Jvm.ClassFile.FieldType.int)) ∈ WS := WSin (List.mem_of_getElem? (i := 486) (by decide +kernel)) (by decide +kernel)
theorem wd_487 : (Jvm.Cond.methodLink "SpooledPost" (72 : Nat) ({ cls := "SpooledPost$Row", name := "clear", desc := "()V" } : Jvm.MethodName)) ∈ WS := WSin (List.mem_of_getElem? (i := 487) (by decide +kernel)) (by decide +kernel)
theorem wd_488 : (Jvm.Cond.methodLink "SpooledPost" (255 : Nat) ({ cls := "SpooledPost$Row", name := "addPiece", desc := "(LSpooledPost$Row;II)V" } : Jvm.MethodName)) ∈ WS := WSin (List.mem_of_getElem? (i := 488) (by decide +kernel)) (by decide +kernel)
theorem wd_489 : (Jvm.Cond.methodLink "SpooledPost" (198 : Nat) ({ cls := "SpooledPost", name := "addRecipient", desc := "()I" } : Jvm.MethodName)) ∈ WS := WSin (List.mem_of_getElem? (i := 489) (by decide +kernel)) (by decide +kernel)
theorem wd_491 : (Jvm.Cond.instanceMethod ({ cls := "SpooledPost", name := "addRecipient", desc := "()I" } : Jvm.MethodName)) ∈ WS := WSin (List.mem_of_getElem? (i := 491) (by decide +kernel)) (by decide +kernel)
theorem wd_492 : (Jvm.Cond.code ({ cls := "SpooledPost", name := "addRecipient", desc := "()I" } : Jvm.MethodName) prog_1_method_31_code (2 : Nat) (Option.some Jvm.ClassFile.FieldType.int)) ∈ WS := WSin (List.mem_of_getElem? (i := 492) (by decide +kernel)) (by decide +kernel)
theorem wd_493 : (Jvm.Cond.methodLink "SpooledPost" (201 : Nat) ({ cls := "SpooledPost", name := "beginText", desc := "()I" } : Jvm.MethodName)) ∈ WS := WSin (List.mem_of_getElem? (i := 493) (by decide +kernel)) (by decide +kernel)
theorem wd_495 : (Jvm.Cond.instanceMethod ({ cls := "SpooledPost", name := "beginText", desc := "()I" } : Jvm.MethodName)) ∈ WS := WSin (List.mem_of_getElem? (i := 495) (by decide +kernel)) (by decide +kernel)
theorem wd_496 : (Jvm.Cond.code ({ cls := "SpooledPost", name := "beginText", desc := "()I" } : Jvm.MethodName) prog_1_method_32_code (1 : Nat) (Option.some Jvm.ClassFile.FieldType.int)) ∈ WS := WSin (List.mem_of_getElem? (i := 496) (by decide +kernel)) (by decide +kernel)
theorem wd_497 : (Jvm.Cond.methodLink "SpooledPost" (81 : Nat) ({ cls := "SpooledPost$Session", name := "forget", desc := "()V" } : Jvm.MethodName)) ∈ WS := WSin (List.mem_of_getElem? (i := 497) (by decide +kernel)) (by decide +kernel)
theorem wd_498 : (Jvm.Cond.instanceMethod ({ cls := "SpooledPost$Session", name := "forget", desc := "()V" } : Jvm.MethodName)) ∈ WS := WSin (List.mem_of_getElem? (i := 498) (by decide +kernel)) (by decide +kernel)
theorem wd_499 : (Jvm.Cond.selects "SpooledPost$Session" ({ cls := "SpooledPost$Session", name := "forget", desc := "()V" } : Jvm.MethodName) ({ cls := "SpooledPost$Session", name := "forget", desc := "()V" } : Jvm.MethodName)) ∈ WS := WSin (List.mem_of_getElem? (i := 499) (by decide +kernel)) (by decide +kernel)
theorem wd_500 : (Jvm.Cond.code ({ cls := "SpooledPost$Session", name := "forget", desc := "()V" } : Jvm.MethodName) prog_9_method_2_code (1 : Nat) (Option.none : Option Jvm.ClassFile.FieldType)) ∈ WS := WSin (List.mem_of_getElem? (i := 500) (by decide +kernel)) (by decide +kernel)
theorem wd_501 : (Jvm.Cond.methodLink "SpooledPost$Session" (31 : Nat) ({ cls := "SpooledPost$Session", name := "endTransaction", desc := "()V" } : Jvm.MethodName)) ∈ WS := WSin (List.mem_of_getElem? (i := 501) (by decide +kernel)) (by decide +kernel)
theorem wd_504 : (Jvm.Cond.instanceMethod ({ cls := "SpooledPost", name := "breakAfter", desc := "(I)Z" } : Jvm.MethodName)) ∈ WS := WSin (List.mem_of_getElem? (i := 504) (by decide +kernel)) (by decide +kernel)
theorem wd_505 : (Jvm.Cond.selects "SpooledPost" ({ cls := "SpooledPost", name := "breakAfter", desc := "(I)Z" } : Jvm.MethodName) ({ cls := "SpooledPost", name := "breakAfter", desc := "(I)Z" } : Jvm.MethodName)) ∈ WS := WSin (List.mem_of_getElem? (i := 505) (by decide +kernel)) (by decide +kernel)
theorem wd_506 : (Jvm.Cond.code ({ cls := "SpooledPost", name := "breakAfter", desc := "(I)Z" } : Jvm.MethodName) prog_1_method_4_code (2 : Nat) (Option.some Jvm.ClassFile.FieldType.boolean)) ∈ WS := WSin (List.mem_of_getElem? (i := 506) (by decide +kernel)) (by decide +kernel)
theorem wd_508 : (Jvm.Cond.instanceMethod ({ cls := "SpooledPost", name := "restart", desc := "()I" } : Jvm.MethodName)) ∈ WS := WSin (List.mem_of_getElem? (i := 508) (by decide +kernel)) (by decide +kernel)
theorem wd_509 : (Jvm.Cond.selects "SpooledPost" ({ cls := "SpooledPost", name := "restart", desc := "()I" } : Jvm.MethodName) ({ cls := "SpooledPost", name := "restart", desc := "()I" } : Jvm.MethodName)) ∈ WS := WSin (List.mem_of_getElem? (i := 509) (by decide +kernel)) (by decide +kernel)
theorem wd_510 : (Jvm.Cond.code ({ cls := "SpooledPost", name := "restart", desc := "()I" } : Jvm.MethodName) prog_1_method_5_code (1 : Nat) (Option.some Jvm.ClassFile.FieldType.int)) ∈ WS := WSin (List.mem_of_getElem? (i := 510) (by decide +kernel)) (by decide +kernel)
theorem wd_511 : (Jvm.Cond.methodLink "SpooledPost" (78 : Nat) ({ cls := "SpooledPost$Spool", name := "recover", desc := "()V" } : Jvm.MethodName)) ∈ WS := WSin (List.mem_of_getElem? (i := 511) (by decide +kernel)) (by decide +kernel)
theorem wd_512 : (Jvm.Cond.instanceMethod ({ cls := "SpooledPost$Spool", name := "recover", desc := "()V" } : Jvm.MethodName)) ∈ WS := WSin (List.mem_of_getElem? (i := 512) (by decide +kernel)) (by decide +kernel)
theorem wd_513 : (Jvm.Cond.selects "SpooledPost$Spool" ({ cls := "SpooledPost$Spool", name := "recover", desc := "()V" } : Jvm.MethodName) ({ cls := "SpooledPost$Spool", name := "recover", desc := "()V" } : Jvm.MethodName)) ∈ WS := WSin (List.mem_of_getElem? (i := 513) (by decide +kernel)) (by decide +kernel)
theorem wd_514 : (Jvm.Cond.code ({ cls := "SpooledPost$Spool", name := "recover", desc := "()V" } : Jvm.MethodName) prog_10_method_6_code (2 : Nat) (Option.none : Option Jvm.ClassFile.FieldType)) ∈ WS := WSin (List.mem_of_getElem? (i := 514) (by decide +kernel)) (by decide +kernel)
theorem wd_515 : (Jvm.Cond.methodLink "SpooledPost$Spool" (46 : Nat) ({ cls := "SpooledPost$Spool", name := "drop", desc := "(LSpooledPost$Letter;)V" } : Jvm.MethodName)) ∈ WS := WSin (List.mem_of_getElem? (i := 515) (by decide +kernel)) (by decide +kernel)
theorem wd_516 : (Jvm.Cond.instanceMethod ({ cls := "SpooledPost$Spool", name := "drop", desc := "(LSpooledPost$Letter;)V" } : Jvm.MethodName)) ∈ WS := WSin (List.mem_of_getElem? (i := 516) (by decide +kernel)) (by decide +kernel)
theorem wd_517 : (Jvm.Cond.selects "SpooledPost$Spool" ({ cls := "SpooledPost$Spool", name := "drop", desc := "(LSpooledPost$Letter;)V" } : Jvm.MethodName) ({ cls := "SpooledPost$Spool", name := "drop", desc := "(LSpooledPost$Letter;)V" } : Jvm.MethodName)) ∈ WS := WSin (List.mem_of_getElem? (i := 517) (by decide +kernel)) (by decide +kernel)
theorem wd_518 : (Jvm.Cond.code ({ cls := "SpooledPost$Spool", name := "drop", desc := "(LSpooledPost$Letter;)V" } : Jvm.MethodName) prog_10_method_7_code (5 : Nat) (Option.none : Option Jvm.ClassFile.FieldType)) ∈ WS := WSin (List.mem_of_getElem? (i := 518) (by decide +kernel)) (by decide +kernel)
theorem wd_519 : (Jvm.Cond.methodLink "SpooledPost" (84 : Nat) ({ cls := "SpooledPost$Spool", name := "sealedCount", desc := "()I" } : Jvm.MethodName)) ∈ WS := WSin (List.mem_of_getElem? (i := 519) (by decide +kernel)) (by decide +kernel)
theorem wd_520 : (Jvm.Cond.instanceMethod ({ cls := "SpooledPost$Spool", name := "sealedCount", desc := "()I" } : Jvm.MethodName)) ∈ WS := WSin (List.mem_of_getElem? (i := 520) (by decide +kernel)) (by decide +kernel)
theorem wd_521 : (Jvm.Cond.selects "SpooledPost$Spool" ({ cls := "SpooledPost$Spool", name := "sealedCount", desc := "()I" } : Jvm.MethodName) ({ cls := "SpooledPost$Spool", name := "sealedCount", desc := "()I" } : Jvm.MethodName)) ∈ WS := WSin (List.mem_of_getElem? (i := 521) (by decide +kernel)) (by decide +kernel)
theorem wd_522 : (Jvm.Cond.code ({ cls := "SpooledPost$Spool", name := "sealedCount", desc := "()I" } : Jvm.MethodName) prog_10_method_8_code (3 : Nat) (Option.some Jvm.ClassFile.FieldType.int)) ∈ WS := WSin (List.mem_of_getElem? (i := 522) (by decide +kernel)) (by decide +kernel)
theorem wd_524 : (Jvm.Cond.instanceMethod ({ cls := "SpooledPost", name := "pass", desc := "(I)I" } : Jvm.MethodName)) ∈ WS := WSin (List.mem_of_getElem? (i := 524) (by decide +kernel)) (by decide +kernel)
theorem wd_525 : (Jvm.Cond.selects "SpooledPost" ({ cls := "SpooledPost", name := "pass", desc := "(I)I" } : Jvm.MethodName) ({ cls := "SpooledPost", name := "pass", desc := "(I)I" } : Jvm.MethodName)) ∈ WS := WSin (List.mem_of_getElem? (i := 525) (by decide +kernel)) (by decide +kernel)
theorem wd_526 : (Jvm.Cond.code ({ cls := "SpooledPost", name := "pass", desc := "(I)I" } : Jvm.MethodName) prog_1_method_6_code (2 : Nat) (Option.some Jvm.ClassFile.FieldType.int)) ∈ WS := WSin (List.mem_of_getElem? (i := 526) (by decide +kernel)) (by decide +kernel)
theorem wd_528 : (Jvm.Cond.instanceMethod ({ cls := "SpooledPost", name := "next", desc := "()I" } : Jvm.MethodName)) ∈ WS := WSin (List.mem_of_getElem? (i := 528) (by decide +kernel)) (by decide +kernel)
theorem wd_529 : (Jvm.Cond.selects "SpooledPost" ({ cls := "SpooledPost", name := "next", desc := "()I" } : Jvm.MethodName) ({ cls := "SpooledPost", name := "next", desc := "()I" } : Jvm.MethodName)) ∈ WS := WSin (List.mem_of_getElem? (i := 529) (by decide +kernel)) (by decide +kernel)
theorem wd_530 : (Jvm.Cond.code ({ cls := "SpooledPost", name := "next", desc := "()I" } : Jvm.MethodName) prog_1_method_7_code (2 : Nat) (Option.some Jvm.ClassFile.FieldType.int)) ∈ WS := WSin (List.mem_of_getElem? (i := 530) (by decide +kernel)) (by decide +kernel)
theorem wd_531 : (Jvm.Cond.methodLink "SpooledPost" (87 : Nat) ({ cls := "SpooledPost$Spool", name := "holderOfNext", desc := "(I)LSpooledPost$Letter;" } : Jvm.MethodName)) ∈ WS := WSin (List.mem_of_getElem? (i := 531) (by decide +kernel)) (by decide +kernel)
theorem wd_532 : (Jvm.Cond.instanceMethod ({ cls := "SpooledPost$Spool", name := "holderOfNext", desc := "(I)LSpooledPost$Letter;" } : Jvm.MethodName)) ∈ WS := WSin (List.mem_of_getElem? (i := 532) (by decide +kernel)) (by decide +kernel)
theorem wd_533 : (Jvm.Cond.selects "SpooledPost$Spool" ({ cls := "SpooledPost$Spool", name := "holderOfNext", desc := "(I)LSpooledPost$Letter;" } : Jvm.MethodName) ({ cls := "SpooledPost$Spool", name := "holderOfNext", desc := "(I)LSpooledPost$Letter;" } : Jvm.MethodName)) ∈ WS := WSin (List.mem_of_getElem? (i := 533) (by decide +kernel)) (by decide +kernel)
theorem wd_534 : (Jvm.Cond.code ({ cls := "SpooledPost$Spool", name := "holderOfNext", desc := "(I)LSpooledPost$Letter;" } : Jvm.MethodName) prog_10_method_11_code (6 : Nat) (Option.some (Jvm.ClassFile.FieldType.object "SpooledPost$Letter"))) ∈ WS := WSin (List.mem_of_getElem? (i := 534) (by decide +kernel)) (by decide +kernel)
theorem wd_535 : (Jvm.Cond.methodLink "SpooledPost$Spool" (53 : Nat) ({ cls := "SpooledPost$Letter", name := "firstDue", desc := "(I)LSpooledPost$Recipient;" } : Jvm.MethodName)) ∈ WS := WSin (List.mem_of_getElem? (i := 535) (by decide +kernel)) (by decide +kernel)
theorem wd_536 : (Jvm.Cond.instanceMethod ({ cls := "SpooledPost$Letter", name := "firstDue", desc := "(I)LSpooledPost$Recipient;" } : Jvm.MethodName)) ∈ WS := WSin (List.mem_of_getElem? (i := 536) (by decide +kernel)) (by decide +kernel)
theorem wd_537 : (Jvm.Cond.selects "SpooledPost$Letter" ({ cls := "SpooledPost$Letter", name := "firstDue", desc := "(I)LSpooledPost$Recipient;" } : Jvm.MethodName) ({ cls := "SpooledPost$Letter", name := "firstDue", desc := "(I)LSpooledPost$Recipient;" } : Jvm.MethodName)) ∈ WS := WSin (List.mem_of_getElem? (i := 537) (by decide +kernel)) (by decide +kernel)
theorem wd_538 : (Jvm.Cond.code ({ cls := "SpooledPost$Letter", name := "firstDue", desc := "(I)LSpooledPost$Recipient;" } : Jvm.MethodName) prog_5_method_6_code (6 : Nat) (Option.some (Jvm.ClassFile.FieldType.object "SpooledPost$Recipient"))) ∈ WS := WSin (List.mem_of_getElem? (i := 538) (by decide +kernel)) (by decide +kernel)
theorem wd_540 : (Jvm.Cond.instanceMethod ({ cls := "SpooledPost", name := "reply", desc := "(I)I" } : Jvm.MethodName)) ∈ WS := WSin (List.mem_of_getElem? (i := 540) (by decide +kernel)) (by decide +kernel)
theorem wd_541 : (Jvm.Cond.selects "SpooledPost" ({ cls := "SpooledPost", name := "reply", desc := "(I)I" } : Jvm.MethodName) ({ cls := "SpooledPost", name := "reply", desc := "(I)I" } : Jvm.MethodName)) ∈ WS := WSin (List.mem_of_getElem? (i := 541) (by decide +kernel)) (by decide +kernel)
theorem wd_542 : (Jvm.Cond.code ({ cls := "SpooledPost", name := "reply", desc := "(I)I" } : Jvm.MethodName) prog_1_method_8_code (4 : Nat) (Option.some Jvm.ClassFile.FieldType.int)) ∈ WS := WSin (List.mem_of_getElem? (i := 542) (by decide +kernel)) (by decide +kernel)
theorem wd_543 : (Jvm.Cond.methodLink "SpooledPost" (96 : Nat) ({ cls := "SpooledPost", name := "isReplyCode", desc := "(I)Z" } : Jvm.MethodName)) ∈ WS := WSin (List.mem_of_getElem? (i := 543) (by decide +kernel)) (by decide +kernel)
theorem wd_544 : (Jvm.Cond.static ({ cls := "SpooledPost", name := "isReplyCode", desc := "(I)Z" } : Jvm.MethodName)) ∈ WS := WSin (List.mem_of_getElem? (i := 544) (by decide +kernel)) (by decide +kernel)
theorem wd_545 : (Jvm.Cond.code ({ cls := "SpooledPost", name := "isReplyCode", desc := "(I)Z" } : Jvm.MethodName) prog_1_method_20_code (1 : Nat) (Option.some Jvm.ClassFile.FieldType.boolean)) ∈ WS := WSin (List.mem_of_getElem? (i := 545) (by decide +kernel)) (by decide +kernel)
theorem wd_546 : (Jvm.Cond.methodLink "SpooledPost" (100 : Nat) ({ cls := "SpooledPost$Letter", name := "firstDue", desc := "(I)LSpooledPost$Recipient;" } : Jvm.MethodName)) ∈ WS := WSin (List.mem_of_getElem? (i := 546) (by decide +kernel)) (by decide +kernel)
theorem wd_547 : (Jvm.Cond.methodLink "SpooledPost" (104 : Nat) ({ cls := "SpooledPost", name := "settle", desc := "(LSpooledPost$Letter;LSpooledPost$Recipient;I)I" } : Jvm.MethodName)) ∈ WS := WSin (List.mem_of_getElem? (i := 547) (by decide +kernel)) (by decide +kernel)
theorem wd_549 : (Jvm.Cond.instanceMethod ({ cls := "SpooledPost", name := "settle", desc := "(LSpooledPost$Letter;LSpooledPost$Recipient;I)I" } : Jvm.MethodName)) ∈ WS := WSin (List.mem_of_getElem? (i := 549) (by decide +kernel)) (by decide +kernel)
theorem wd_550 : (Jvm.Cond.code ({ cls := "SpooledPost", name := "settle", desc := "(LSpooledPost$Letter;LSpooledPost$Recipient;I)I" } : Jvm.MethodName) prog_1_method_36_code (4 : Nat) (Option.some Jvm.ClassFile.FieldType.int)) ∈ WS := WSin (List.mem_of_getElem? (i := 550) (by decide +kernel)) (by decide +kernel)
theorem wd_551 : (Jvm.Cond.methodLink "SpooledPost" (295 : Nat) ({ cls := "SpooledPost$Spool", name := "write", desc := "()Z" } : Jvm.MethodName)) ∈ WS := WSin (List.mem_of_getElem? (i := 551) (by decide +kernel)) (by decide +kernel)
theorem wd_552 : (Jvm.Cond.methodLink "SpooledPost" (298 : Nat) ({ cls := "SpooledPost$Letter", name := "isAwaited", desc := "()Z" } : Jvm.MethodName)) ∈ WS := WSin (List.mem_of_getElem? (i := 552) (by decide +kernel)) (by decide +kernel)
theorem wd_553 : (Jvm.Cond.instanceMethod ({ cls := "SpooledPost$Letter", name := "isAwaited", desc := "()Z" } : Jvm.MethodName)) ∈ WS := WSin (List.mem_of_getElem? (i := 553) (by decide +kernel)) (by decide +kernel)
theorem wd_554 : (Jvm.Cond.selects "SpooledPost$Letter" ({ cls := "SpooledPost$Letter", name := "isAwaited", desc := "()Z" } : Jvm.MethodName) ({ cls := "SpooledPost$Letter", name := "isAwaited", desc := "()Z" } : Jvm.MethodName)) ∈ WS := WSin (List.mem_of_getElem? (i := 554) (by decide +kernel)) (by decide +kernel)
theorem wd_555 : (Jvm.Cond.code ({ cls := "SpooledPost$Letter", name := "isAwaited", desc := "()Z" } : Jvm.MethodName) prog_5_method_5_code (2 : Nat) (Option.some Jvm.ClassFile.FieldType.boolean)) ∈ WS := WSin (List.mem_of_getElem? (i := 555) (by decide +kernel)) (by decide +kernel)
theorem wd_556 : (Jvm.Cond.methodLink "SpooledPost" (301 : Nat) ({ cls := "SpooledPost$Spool", name := "drop", desc := "(LSpooledPost$Letter;)V" } : Jvm.MethodName)) ∈ WS := WSin (List.mem_of_getElem? (i := 556) (by decide +kernel)) (by decide +kernel)
theorem wd_557 : (Jvm.Cond.methodLink "SpooledPost" (113 : Nat) ({ cls := "SpooledPost", name := "postpone", desc := "(LSpooledPost$Recipient;)I" } : Jvm.MethodName)) ∈ WS := WSin (List.mem_of_getElem? (i := 557) (by decide +kernel)) (by decide +kernel)
theorem wd_559 : (Jvm.Cond.instanceMethod ({ cls := "SpooledPost", name := "postpone", desc := "(LSpooledPost$Recipient;)I" } : Jvm.MethodName)) ∈ WS := WSin (List.mem_of_getElem? (i := 559) (by decide +kernel)) (by decide +kernel)
theorem wd_560 : (Jvm.Cond.code ({ cls := "SpooledPost", name := "postpone", desc := "(LSpooledPost$Recipient;)I" } : Jvm.MethodName) prog_1_method_37_code (2 : Nat) (Option.some Jvm.ClassFile.FieldType.int)) ∈ WS := WSin (List.mem_of_getElem? (i := 560) (by decide +kernel)) (by decide +kernel)
theorem wd_561 : (Jvm.Cond.methodLink "SpooledPost" (117 : Nat) ({ cls := "SpooledPost", name := "giveBack", desc := "(LSpooledPost$Letter;LSpooledPost$Recipient;)I" } : Jvm.MethodName)) ∈ WS := WSin (List.mem_of_getElem? (i := 561) (by decide +kernel)) (by decide +kernel)
theorem wd_563 : (Jvm.Cond.instanceMethod ({ cls := "SpooledPost", name := "giveBack", desc := "(LSpooledPost$Letter;LSpooledPost$Recipient;)I" } : Jvm.MethodName)) ∈ WS := WSin (List.mem_of_getElem? (i := 563) (by decide +kernel)) (by decide +kernel)
theorem wd_564 : (Jvm.Cond.code ({ cls := "SpooledPost", name := "giveBack", desc := "(LSpooledPost$Letter;LSpooledPost$Recipient;)I" } : Jvm.MethodName) prog_1_method_38_code (4 : Nat) (Option.some Jvm.ClassFile.FieldType.int)) ∈ WS := WSin (List.mem_of_getElem? (i := 564) (by decide +kernel)) (by decide +kernel)
theorem wd_565 : (Jvm.Cond.methodLink "SpooledPost" (304 : Nat) ({ cls := "SpooledPost", name := "spoolReturn", desc := "(LSpooledPost$Letter;LSpooledPost$Recipient;)Z" } : Jvm.MethodName)) ∈ WS := WSin (List.mem_of_getElem? (i := 565) (by decide +kernel)) (by decide +kernel)
theorem wd_567 : (Jvm.Cond.instanceMethod ({ cls := "SpooledPost", name := "spoolReturn", desc := "(LSpooledPost$Letter;LSpooledPost$Recipient;)Z" } : Jvm.MethodName)) ∈ WS := WSin (List.mem_of_getElem? (i := 567) (by decide +kernel)) (by decide +kernel)
theorem wd_568 : (Jvm.Cond.code ({ cls := "SpooledPost", name := "spoolReturn", desc := "(LSpooledPost$Letter;LSpooledPost$Recipient;)Z" } : Jvm.MethodName) prog_1_method_39_code (4 : Nat) (Option.some Jvm.ClassFile.FieldType.boolean)) ∈ WS := WSin (List.mem_of_getElem? (i := 568) (by decide +kernel)) (by decide +kernel)
theorem wd_570 : (Jvm.Cond.methodLink "SpooledPost" (310 : Nat) ({ cls := "SpooledPost$Row", name := "addWords", desc := "(Ljava/lang/String;)V" } : Jvm.MethodName)) ∈ WS := WSin (List.mem_of_getElem? (i := 570) (by decide +kernel)) (by decide +kernel)
theorem wd_571 : (Jvm.Cond.instanceMethod ({ cls := "SpooledPost$Row", name := "addWords", desc := "(Ljava/lang/String;)V" } : Jvm.MethodName)) ∈ WS := WSin (List.mem_of_getElem? (i := 571) (by decide +kernel)) (by decide +kernel)
theorem wd_572 : (Jvm.Cond.selects "SpooledPost$Row" ({ cls := "SpooledPost$Row", name := "addWords", desc := "(Ljava/lang/String;)V" } : Jvm.MethodName) ({ cls := "SpooledPost$Row", name := "addWords", desc := "(Ljava/lang/String;)V" } : Jvm.MethodName)) ∈ WS := WSin (List.mem_of_getElem? (i := 572) (by decide +kernel)) (by decide +kernel)
theorem wd_573 : (Jvm.Cond.code ({ cls := "SpooledPost$Row", name := "addWords", desc := "(Ljava/lang/String;)V" } : Jvm.MethodName) prog_8_method_7_code (3 : Nat) (Option.none : Option Jvm.ClassFile.FieldType)) ∈ WS := WSin (List.mem_of_getElem? (i := 573) (by decide +kernel)) (by decide +kernel)
theorem wd_575 : (Jvm.Cond.instanceMethod ({ cls := "SpooledPost", name := "state", desc := "()I" } : Jvm.MethodName)) ∈ WS := WSin (List.mem_of_getElem? (i := 575) (by decide +kernel)) (by decide +kernel)
theorem wd_576 : (Jvm.Cond.selects "SpooledPost" ({ cls := "SpooledPost", name := "state", desc := "()I" } : Jvm.MethodName) ({ cls := "SpooledPost", name := "state", desc := "()I" } : Jvm.MethodName)) ∈ WS := WSin (List.mem_of_getElem? (i := 576) (by decide +kernel)) (by decide +kernel)
theorem wd_577 : (Jvm.Cond.code ({ cls := "SpooledPost", name := "state", desc := "()I" } : Jvm.MethodName) prog_1_method_9_code (1 : Nat) (Option.some Jvm.ClassFile.FieldType.int)) ∈ WS := WSin (List.mem_of_getElem? (i := 577) (by decide +kernel)) (by decide +kernel)
theorem wd_579 : (Jvm.Cond.instanceMethod ({ cls := "SpooledPost", name := "letters", desc := "()I" } : Jvm.MethodName)) ∈ WS := WSin (List.mem_of_getElem? (i := 579) (by decide +kernel)) (by decide +kernel)
theorem wd_580 : (Jvm.Cond.selects "SpooledPost" ({ cls := "SpooledPost", name := "letters", desc := "()I" } : Jvm.MethodName) ({ cls := "SpooledPost", name := "letters", desc := "()I" } : Jvm.MethodName)) ∈ WS := WSin (List.mem_of_getElem? (i := 580) (by decide +kernel)) (by decide +kernel)
theorem wd_581 : (Jvm.Cond.code ({ cls := "SpooledPost", name := "letters", desc := "()I" } : Jvm.MethodName) prog_1_method_10_code (1 : Nat) (Option.some Jvm.ClassFile.FieldType.int)) ∈ WS := WSin (List.mem_of_getElem? (i := 581) (by decide +kernel)) (by decide +kernel)
theorem wd_583 : (Jvm.Cond.instanceMethod ({ cls := "SpooledPost", name := "letter", desc := "(I)I" } : Jvm.MethodName)) ∈ WS := WSin (List.mem_of_getElem? (i := 583) (by decide +kernel)) (by decide +kernel)
theorem wd_584 : (Jvm.Cond.selects "SpooledPost" ({ cls := "SpooledPost", name := "letter", desc := "(I)I" } : Jvm.MethodName) ({ cls := "SpooledPost", name := "letter", desc := "(I)I" } : Jvm.MethodName)) ∈ WS := WSin (List.mem_of_getElem? (i := 584) (by decide +kernel)) (by decide +kernel)
theorem wd_585 : (Jvm.Cond.code ({ cls := "SpooledPost", name := "letter", desc := "(I)I" } : Jvm.MethodName) prog_1_method_11_code (2 : Nat) (Option.some Jvm.ClassFile.FieldType.int)) ∈ WS := WSin (List.mem_of_getElem? (i := 585) (by decide +kernel)) (by decide +kernel)
theorem wd_586 : (Jvm.Cond.methodLink "SpooledPost" (127 : Nat) ({ cls := "SpooledPost$Spool", name := "sealedNumber", desc := "(I)I" } : Jvm.MethodName)) ∈ WS := WSin (List.mem_of_getElem? (i := 586) (by decide +kernel)) (by decide +kernel)
theorem wd_587 : (Jvm.Cond.instanceMethod ({ cls := "SpooledPost$Spool", name := "sealedNumber", desc := "(I)I" } : Jvm.MethodName)) ∈ WS := WSin (List.mem_of_getElem? (i := 587) (by decide +kernel)) (by decide +kernel)
theorem wd_588 : (Jvm.Cond.selects "SpooledPost$Spool" ({ cls := "SpooledPost$Spool", name := "sealedNumber", desc := "(I)I" } : Jvm.MethodName) ({ cls := "SpooledPost$Spool", name := "sealedNumber", desc := "(I)I" } : Jvm.MethodName)) ∈ WS := WSin (List.mem_of_getElem? (i := 588) (by decide +kernel)) (by decide +kernel)
theorem wd_589 : (Jvm.Cond.code ({ cls := "SpooledPost$Spool", name := "sealedNumber", desc := "(I)I" } : Jvm.MethodName) prog_10_method_9_code (4 : Nat) (Option.some Jvm.ClassFile.FieldType.int)) ∈ WS := WSin (List.mem_of_getElem? (i := 589) (by decide +kernel)) (by decide +kernel)
theorem wd_591 : (Jvm.Cond.instanceMethod ({ cls := "SpooledPost", name := "text", desc := "(II)C" } : Jvm.MethodName)) ∈ WS := WSin (List.mem_of_getElem? (i := 591) (by decide +kernel)) (by decide +kernel)
theorem wd_592 : (Jvm.Cond.selects "SpooledPost" ({ cls := "SpooledPost", name := "text", desc := "(II)C" } : Jvm.MethodName) ({ cls := "SpooledPost", name := "text", desc := "(II)C" } : Jvm.MethodName)) ∈ WS := WSin (List.mem_of_getElem? (i := 592) (by decide +kernel)) (by decide +kernel)
theorem wd_593 : (Jvm.Cond.code ({ cls := "SpooledPost", name := "text", desc := "(II)C" } : Jvm.MethodName) prog_1_method_12_code (4 : Nat) (Option.some Jvm.ClassFile.FieldType.char)) ∈ WS := WSin (List.mem_of_getElem? (i := 593) (by decide +kernel)) (by decide +kernel)
theorem wd_594 : (Jvm.Cond.methodLink "SpooledPost" (131 : Nat) ({ cls := "SpooledPost$Spool", name := "find", desc := "(I)LSpooledPost$Letter;" } : Jvm.MethodName)) ∈ WS := WSin (List.mem_of_getElem? (i := 594) (by decide +kernel)) (by decide +kernel)
theorem wd_595 : (Jvm.Cond.instanceMethod ({ cls := "SpooledPost$Spool", name := "find", desc := "(I)LSpooledPost$Letter;" } : Jvm.MethodName)) ∈ WS := WSin (List.mem_of_getElem? (i := 595) (by decide +kernel)) (by decide +kernel)
theorem wd_596 : (Jvm.Cond.selects "SpooledPost$Spool" ({ cls := "SpooledPost$Spool", name := "find", desc := "(I)LSpooledPost$Letter;" } : Jvm.MethodName) ({ cls := "SpooledPost$Spool", name := "find", desc := "(I)LSpooledPost$Letter;" } : Jvm.MethodName)) ∈ WS := WSin (List.mem_of_getElem? (i := 596) (by decide +kernel)) (by decide +kernel)
theorem wd_597 : (Jvm.Cond.code ({ cls := "SpooledPost$Spool", name := "find", desc := "(I)LSpooledPost$Letter;" } : Jvm.MethodName) prog_10_method_10_code (3 : Nat) (Option.some (Jvm.ClassFile.FieldType.object "SpooledPost$Letter"))) ∈ WS := WSin (List.mem_of_getElem? (i := 597) (by decide +kernel)) (by decide +kernel)
theorem wd_599 : (Jvm.Cond.instanceMethod ({ cls := "SpooledPost", name := "path", desc := "(III)C" } : Jvm.MethodName)) ∈ WS := WSin (List.mem_of_getElem? (i := 599) (by decide +kernel)) (by decide +kernel)
theorem wd_600 : (Jvm.Cond.selects "SpooledPost" ({ cls := "SpooledPost", name := "path", desc := "(III)C" } : Jvm.MethodName) ({ cls := "SpooledPost", name := "path", desc := "(III)C" } : Jvm.MethodName)) ∈ WS := WSin (List.mem_of_getElem? (i := 600) (by decide +kernel)) (by decide +kernel)
theorem wd_601 : (Jvm.Cond.code ({ cls := "SpooledPost", name := "path", desc := "(III)C" } : Jvm.MethodName) prog_1_method_13_code (6 : Nat) (Option.some Jvm.ClassFile.FieldType.char)) ∈ WS := WSin (List.mem_of_getElem? (i := 601) (by decide +kernel)) (by decide +kernel)
theorem wd_602 : (Jvm.Cond.methodLink "SpooledPost" (144 : Nat) ({ cls := "SpooledPost$Letter", name := "recipientAt", desc := "(I)LSpooledPost$Recipient;" } : Jvm.MethodName)) ∈ WS := WSin (List.mem_of_getElem? (i := 602) (by decide +kernel)) (by decide +kernel)
theorem wd_603 : (Jvm.Cond.instanceMethod ({ cls := "SpooledPost$Letter", name := "recipientAt", desc := "(I)LSpooledPost$Recipient;" } : Jvm.MethodName)) ∈ WS := WSin (List.mem_of_getElem? (i := 603) (by decide +kernel)) (by decide +kernel)
theorem wd_604 : (Jvm.Cond.selects "SpooledPost$Letter" ({ cls := "SpooledPost$Letter", name := "recipientAt", desc := "(I)LSpooledPost$Recipient;" } : Jvm.MethodName) ({ cls := "SpooledPost$Letter", name := "recipientAt", desc := "(I)LSpooledPost$Recipient;" } : Jvm.MethodName)) ∈ WS := WSin (List.mem_of_getElem? (i := 604) (by decide +kernel)) (by decide +kernel)
theorem wd_605 : (Jvm.Cond.code ({ cls := "SpooledPost$Letter", name := "recipientAt", desc := "(I)LSpooledPost$Recipient;" } : Jvm.MethodName) prog_5_method_4_code (2 : Nat) (Option.some (Jvm.ClassFile.FieldType.object "SpooledPost$Recipient"))) ∈ WS := WSin (List.mem_of_getElem? (i := 605) (by decide +kernel)) (by decide +kernel)
theorem wd_607 : (Jvm.Cond.instanceMethod ({ cls := "SpooledPost", name := "recipient", desc := "(II)I" } : Jvm.MethodName)) ∈ WS := WSin (List.mem_of_getElem? (i := 607) (by decide +kernel)) (by decide +kernel)
theorem wd_608 : (Jvm.Cond.selects "SpooledPost" ({ cls := "SpooledPost", name := "recipient", desc := "(II)I" } : Jvm.MethodName) ({ cls := "SpooledPost", name := "recipient", desc := "(II)I" } : Jvm.MethodName)) ∈ WS := WSin (List.mem_of_getElem? (i := 608) (by decide +kernel)) (by decide +kernel)
theorem wd_609 : (Jvm.Cond.code ({ cls := "SpooledPost", name := "recipient", desc := "(II)I" } : Jvm.MethodName) prog_1_method_14_code (4 : Nat) (Option.some Jvm.ClassFile.FieldType.int)) ∈ WS := WSin (List.mem_of_getElem? (i := 609) (by decide +kernel)) (by decide +kernel)
theorem wd_610 : (Jvm.Cond.methodLink "SpooledPost" (150 : Nat) ({ cls := "SpooledPost", name := "findRecipient", desc := "(II)LSpooledPost$Recipient;" } : Jvm.MethodName)) ∈ WS := WSin (List.mem_of_getElem? (i := 610) (by decide +kernel)) (by decide +kernel)
theorem wd_612 : (Jvm.Cond.instanceMethod ({ cls := "SpooledPost", name := "findRecipient", desc := "(II)LSpooledPost$Recipient;" } : Jvm.MethodName)) ∈ WS := WSin (List.mem_of_getElem? (i := 612) (by decide +kernel)) (by decide +kernel)
theorem wd_613 : (Jvm.Cond.code ({ cls := "SpooledPost", name := "findRecipient", desc := "(II)LSpooledPost$Recipient;" } : Jvm.MethodName) prog_1_method_21_code (4 : Nat) (Option.some (Jvm.ClassFile.FieldType.object "SpooledPost$Recipient"))) ∈ WS := WSin (List.mem_of_getElem? (i := 613) (by decide +kernel)) (by decide +kernel)
theorem wd_615 : (Jvm.Cond.instanceMethod ({ cls := "SpooledPost", name := "due", desc := "(II)I" } : Jvm.MethodName)) ∈ WS := WSin (List.mem_of_getElem? (i := 615) (by decide +kernel)) (by decide +kernel)
theorem wd_616 : (Jvm.Cond.selects "SpooledPost" ({ cls := "SpooledPost", name := "due", desc := "(II)I" } : Jvm.MethodName) ({ cls := "SpooledPost", name := "due", desc := "(II)I" } : Jvm.MethodName)) ∈ WS := WSin (List.mem_of_getElem? (i := 616) (by decide +kernel)) (by decide +kernel)
theorem wd_617 : (Jvm.Cond.code ({ cls := "SpooledPost", name := "due", desc := "(II)I" } : Jvm.MethodName) prog_1_method_15_code (4 : Nat) (Option.some Jvm.ClassFile.FieldType.int)) ∈ WS := WSin (List.mem_of_getElem? (i := 617) (by decide +kernel)) (by decide +kernel)
theorem wd_619 : (Jvm.Cond.instanceMethod ({ cls := "SpooledPost", name := "parts", desc := "(I)I" } : Jvm.MethodName)) ∈ WS := WSin (List.mem_of_getElem? (i := 619) (by decide +kernel)) (by decide +kernel)
theorem wd_620 : (Jvm.Cond.selects "SpooledPost" ({ cls := "SpooledPost", name := "parts", desc := "(I)I" } : Jvm.MethodName) ({ cls := "SpooledPost", name := "parts", desc := "(I)I" } : Jvm.MethodName)) ∈ WS := WSin (List.mem_of_getElem? (i := 620) (by decide +kernel)) (by decide +kernel)
theorem wd_621 : (Jvm.Cond.code ({ cls := "SpooledPost", name := "parts", desc := "(I)I" } : Jvm.MethodName) prog_1_method_16_code (3 : Nat) (Option.some Jvm.ClassFile.FieldType.int)) ∈ WS := WSin (List.mem_of_getElem? (i := 621) (by decide +kernel)) (by decide +kernel)
theorem wd_622 : (Jvm.Cond.methodLink "SpooledPost" (160 : Nat) ({ cls := "SpooledPost$PartReader", name := "read", desc := "(LSpooledPost$Letter;)V" } : Jvm.MethodName)) ∈ WS := WSin (List.mem_of_getElem? (i := 622) (by decide +kernel)) (by decide +kernel)
theorem wd_623 : (Jvm.Cond.instanceMethod ({ cls := "SpooledPost$PartReader", name := "read", desc := "(LSpooledPost$Letter;)V" } : Jvm.MethodName)) ∈ WS := WSin (List.mem_of_getElem? (i := 623) (by decide +kernel)) (by decide +kernel)
theorem wd_624 : (Jvm.Cond.selects "SpooledPost$PartReader" ({ cls := "SpooledPost$PartReader", name := "read", desc := "(LSpooledPost$Letter;)V" } : Jvm.MethodName) ({ cls := "SpooledPost$PartReader", name := "read", desc := "(LSpooledPost$Letter;)V" } : Jvm.MethodName)) ∈ WS := WSin (List.mem_of_getElem? (i := 624) (by decide +kernel)) (by decide +kernel)
theorem wd_625 : (Jvm.Cond.code ({ cls := "SpooledPost$PartReader", name := "read", desc := "(LSpooledPost$Letter;)V" } : Jvm.MethodName) prog_6_method_2_code (2 : Nat) (Option.none : Option Jvm.ClassFile.FieldType)) ∈ WS := WSin (List.mem_of_getElem? (i := 625) (by decide +kernel)) (by decide +kernel)
theorem wd_626 : (Jvm.Cond.methodLink "SpooledPost$PartReader" (32 : Nat) ({ cls := "SpooledPost$PartReader", name := "splitLines", desc := "()V" } : Jvm.MethodName)) ∈ WS := WSin (List.mem_of_getElem? (i := 626) (by decide +kernel)) (by decide +kernel)
theorem wd_628 : (Jvm.Cond.instanceMethod ({ cls := "SpooledPost$PartReader", name := "splitLines", desc := "()V" } : Jvm.MethodName)) ∈ WS := WSin (List.mem_of_getElem? (i := 628) (by decide +kernel)) (by decide +kernel)
theorem wd_629 : (Jvm.Cond.code ({ cls := "SpooledPost$PartReader", name := "splitLines", desc := "()V" } : Jvm.MethodName) prog_6_method_4_code (2 : Nat) (Option.none : Option Jvm.ClassFile.FieldType)) ∈ WS := WSin (List.mem_of_getElem? (i := 629) (by decide +kernel)) (by decide +kernel)
theorem wd_630 : (Jvm.Cond.methodLink "SpooledPost$PartReader" (50 : Nat) ({ cls := "SpooledPost$Row", name := "at", desc := "(I)C" } : Jvm.MethodName)) ∈ WS := WSin (List.mem_of_getElem? (i := 630) (by decide +kernel)) (by decide +kernel)
theorem wd_631 : (Jvm.Cond.methodLink "SpooledPost$PartReader" (41 : Nat) ({ cls := "SpooledPost$PartReader", name := "takePart", desc := "(III)Z" } : Jvm.MethodName)) ∈ WS := WSin (List.mem_of_getElem? (i := 631) (by decide +kernel)) (by decide +kernel)
theorem wd_633 : (Jvm.Cond.instanceMethod ({ cls := "SpooledPost$PartReader", name := "takePart", desc := "(III)Z" } : Jvm.MethodName)) ∈ WS := WSin (List.mem_of_getElem? (i := 633) (by decide +kernel)) (by decide +kernel)
theorem wd_634 : (Jvm.Cond.code ({ cls := "SpooledPost$PartReader", name := "takePart", desc := "(III)Z" } : Jvm.MethodName) prog_6_method_6_code (7 : Nat) (Option.some Jvm.ClassFile.FieldType.boolean)) ∈ WS := WSin (List.mem_of_getElem? (i := 634) (by decide +kernel)) (by decide +kernel)
theorem wd_635 : (Jvm.Cond.methodLink "SpooledPost$PartReader" (54 : Nat) ({ cls := "SpooledPost$PartReader", name := "findHeadEnd", desc := "(II)I" } : Jvm.MethodName)) ∈ WS := WSin (List.mem_of_getElem? (i := 635) (by decide +kernel)) (by decide +kernel)
theorem wd_637 : (Jvm.Cond.instanceMethod ({ cls := "SpooledPost$PartReader", name := "findHeadEnd", desc := "(II)I" } : Jvm.MethodName)) ∈ WS := WSin (List.mem_of_getElem? (i := 637) (by decide +kernel)) (by decide +kernel)
theorem wd_638 : (Jvm.Cond.code ({ cls := "SpooledPost$PartReader", name := "findHeadEnd", desc := "(II)I" } : Jvm.MethodName) prog_6_method_8_code (4 : Nat) (Option.some Jvm.ClassFile.FieldType.int)) ∈ WS := WSin (List.mem_of_getElem? (i := 638) (by decide +kernel)) (by decide +kernel)
theorem wd_639 : (Jvm.Cond.methodLink "SpooledPost$PartReader" (77 : Nat) ({ cls := "SpooledPost$PartReader", name := "lineEnd", desc := "(I)I" } : Jvm.MethodName)) ∈ WS := WSin (List.mem_of_getElem? (i := 639) (by decide +kernel)) (by decide +kernel)
theorem wd_641 : (Jvm.Cond.instanceMethod ({ cls := "SpooledPost$PartReader", name := "lineEnd", desc := "(I)I" } : Jvm.MethodName)) ∈ WS := WSin (List.mem_of_getElem? (i := 641) (by decide +kernel)) (by decide +kernel)
theorem wd_642 : (Jvm.Cond.code ({ cls := "SpooledPost$PartReader", name := "lineEnd", desc := "(I)I" } : Jvm.MethodName) prog_6_method_5_code (2 : Nat) (Option.some Jvm.ClassFile.FieldType.int)) ∈ WS := WSin (List.mem_of_getElem? (i := 642) (by decide +kernel)) (by decide +kernel)
theorem wd_643 : (Jvm.Cond.methodLink "SpooledPost$PartReader" (58 : Nat) ({ cls := "SpooledPost$PartReader", name := "isHeadRight", desc := "(II)Z" } : Jvm.MethodName)) ∈ WS := WSin (List.mem_of_getElem? (i := 643) (by decide +kernel)) (by decide +kernel)
theorem wd_645 : (Jvm.Cond.instanceMethod ({ cls := "SpooledPost$PartReader", name := "isHeadRight", desc := "(II)Z" } : Jvm.MethodName)) ∈ WS := WSin (List.mem_of_getElem? (i := 645) (by decide +kernel)) (by decide +kernel)
theorem wd_646 : (Jvm.Cond.code ({ cls := "SpooledPost$PartReader", name := "isHeadRight", desc := "(II)Z" } : Jvm.MethodName) prog_6_method_9_code (5 : Nat) (Option.some Jvm.ClassFile.FieldType.boolean)) ∈ WS := WSin (List.mem_of_getElem? (i := 646) (by decide +kernel)) (by decide +kernel)
theorem wd_647 : (Jvm.Cond.methodLink "SpooledPost$PartReader" (80 : Nat) ({ cls := "SpooledPost$PartReader", name := "isField", desc := "(I)Z" } : Jvm.MethodName)) ∈ WS := WSin (List.mem_of_getElem? (i := 647) (by decide +kernel)) (by decide +kernel)
theorem wd_649 : (Jvm.Cond.instanceMethod ({ cls := "SpooledPost$PartReader", name := "isField", desc := "(I)Z" } : Jvm.MethodName)) ∈ WS := WSin (List.mem_of_getElem? (i := 649) (by decide +kernel)) (by decide +kernel)
theorem wd_650 : (Jvm.Cond.code ({ cls := "SpooledPost$PartReader", name := "isField", desc := "(I)Z" } : Jvm.MethodName) prog_6_method_10_code (6 : Nat) (Option.some Jvm.ClassFile.FieldType.boolean)) ∈ WS := WSin (List.mem_of_getElem? (i := 650) (by decide +kernel)) (by decide +kernel)
theorem wd_651 : (Jvm.Cond.methodLink "SpooledPost$PartReader" (84 : Nat) ({ cls := "SpooledPost$Grammar", name := "isLetterOrDigit", desc := "(C)Z" } : Jvm.MethodName)) ∈ WS := WSin (List.mem_of_getElem? (i := 651) (by decide +kernel)) (by decide +kernel)
theorem wd_652 : (Jvm.Cond.methodLink "SpooledPost$PartReader" (62 : Nat) ({ cls := "SpooledPost$PartReader", name := "findBoundary", desc := "(II)I" } : Jvm.MethodName)) ∈ WS := WSin (List.mem_of_getElem? (i := 652) (by decide +kernel)) (by decide +kernel)
theorem wd_654 : (Jvm.Cond.instanceMethod ({ cls := "SpooledPost$PartReader", name := "findBoundary", desc := "(II)I" } : Jvm.MethodName)) ∈ WS := WSin (List.mem_of_getElem? (i := 654) (by decide +kernel)) (by decide +kernel)
theorem wd_655 : (Jvm.Cond.code ({ cls := "SpooledPost$PartReader", name := "findBoundary", desc := "(II)I" } : Jvm.MethodName) prog_6_method_11_code (4 : Nat) (Option.some Jvm.ClassFile.FieldType.int)) ∈ WS := WSin (List.mem_of_getElem? (i := 655) (by decide +kernel)) (by decide +kernel)
theorem wd_657 : (Jvm.Cond.methodLink "SpooledPost$PartReader" (92 : Nat) ({ cls := "SpooledPost$Row", name := "matches", desc := "(ILjava/lang/String;)Z" } : Jvm.MethodName)) ∈ WS := WSin (List.mem_of_getElem? (i := 657) (by decide +kernel)) (by decide +kernel)
theorem wd_658 : (Jvm.Cond.methodLink "SpooledPost$PartReader" (96 : Nat) ({ cls := "java/lang/String", name := "length", desc := "()I" } : Jvm.MethodName)) ∈ WS := WSin (List.mem_of_getElem? (i := 658) (by decide +kernel)) (by decide +kernel)
theorem wd_659 : (Jvm.Cond.methodLink "SpooledPost$PartReader" (101 : Nat) ({ cls := "SpooledPost$PartReader", name := "findBoundaryBetween", desc := "(II)I" } : Jvm.MethodName)) ∈ WS := WSin (List.mem_of_getElem? (i := 659) (by decide +kernel)) (by decide +kernel)
theorem wd_661 : (Jvm.Cond.instanceMethod ({ cls := "SpooledPost$PartReader", name := "findBoundaryBetween", desc := "(II)I" } : Jvm.MethodName)) ∈ WS := WSin (List.mem_of_getElem? (i := 661) (by decide +kernel)) (by decide +kernel)
theorem wd_662 : (Jvm.Cond.code ({ cls := "SpooledPost$PartReader", name := "findBoundaryBetween", desc := "(II)I" } : Jvm.MethodName) prog_6_method_12_code (7 : Nat) (Option.some Jvm.ClassFile.FieldType.int)) ∈ WS := WSin (List.mem_of_getElem? (i := 662) (by decide +kernel)) (by decide +kernel)
theorem wd_665 : (Jvm.Cond.methodLink "SpooledPost$PartReader" (69 : Nat) ({ cls := "SpooledPost$PartReader", name := "boundaryLength", desc := "(I)I" } : Jvm.MethodName)) ∈ WS := WSin (List.mem_of_getElem? (i := 665) (by decide +kernel)) (by decide +kernel)
theorem wd_667 : (Jvm.Cond.instanceMethod ({ cls := "SpooledPost$PartReader", name := "boundaryLength", desc := "(I)I" } : Jvm.MethodName)) ∈ WS := WSin (List.mem_of_getElem? (i := 667) (by decide +kernel)) (by decide +kernel)
theorem wd_668 : (Jvm.Cond.code ({ cls := "SpooledPost$PartReader", name := "boundaryLength", desc := "(I)I" } : Jvm.MethodName) prog_6_method_13_code (3 : Nat) (Option.some Jvm.ClassFile.FieldType.int)) ∈ WS := WSin (List.mem_of_getElem? (i := 668) (by decide +kernel)) (by decide +kernel)
theorem wd_669 : (Jvm.Cond.methodLink "SpooledPost$PartReader" (65 : Nat) ({ cls := "SpooledPost$PartReader", name := "takeBody", desc := "(IIII)Z" } : Jvm.MethodName)) ∈ WS := WSin (List.mem_of_getElem? (i := 669) (by decide +kernel)) (by decide +kernel)
theorem wd_671 : (Jvm.Cond.instanceMethod ({ cls := "SpooledPost$PartReader", name := "takeBody", desc := "(IIII)Z" } : Jvm.MethodName)) ∈ WS := WSin (List.mem_of_getElem? (i := 671) (by decide +kernel)) (by decide +kernel)
theorem wd_672 : (Jvm.Cond.code ({ cls := "SpooledPost$PartReader", name := "takeBody", desc := "(IIII)Z" } : Jvm.MethodName) prog_6_method_7_code (9 : Nat) (Option.some Jvm.ClassFile.FieldType.boolean)) ∈ WS := WSin (List.mem_of_getElem? (i := 672) (by decide +kernel)) (by decide +kernel)
theorem wd_673 : (Jvm.Cond.methodLink "SpooledPost$PartReader" (73 : Nat) ({ cls := "SpooledPost$PartReader", name := "borderKind", desc := "(III)I" } : Jvm.MethodName)) ∈ WS := WSin (List.mem_of_getElem? (i := 673) (by decide +kernel)) (by decide +kernel)
theorem wd_675 : (Jvm.Cond.instanceMethod ({ cls := "SpooledPost$PartReader", name := "borderKind", desc := "(III)I" } : Jvm.MethodName)) ∈ WS := WSin (List.mem_of_getElem? (i := 675) (by decide +kernel)) (by decide +kernel)
theorem wd_676 : (Jvm.Cond.code ({ cls := "SpooledPost$PartReader", name := "borderKind", desc := "(III)I" } : Jvm.MethodName) prog_6_method_14_code (6 : Nat) (Option.some Jvm.ClassFile.FieldType.int)) ∈ WS := WSin (List.mem_of_getElem? (i := 676) (by decide +kernel)) (by decide +kernel)
theorem wd_677 : (Jvm.Cond.methodLink "SpooledPost$PartReader" (108 : Nat) ({ cls := "SpooledPost$PartReader", name := "isDashed", desc := "(I)Z" } : Jvm.MethodName)) ∈ WS := WSin (List.mem_of_getElem? (i := 677) (by decide +kernel)) (by decide +kernel)
theorem wd_679 : (Jvm.Cond.instanceMethod ({ cls := "SpooledPost$PartReader", name := "isDashed", desc := "(I)Z" } : Jvm.MethodName)) ∈ WS := WSin (List.mem_of_getElem? (i := 679) (by decide +kernel)) (by decide +kernel)
theorem wd_680 : (Jvm.Cond.code ({ cls := "SpooledPost$PartReader", name := "isDashed", desc := "(I)Z" } : Jvm.MethodName) prog_6_method_15_code (2 : Nat) (Option.some Jvm.ClassFile.FieldType.boolean)) ∈ WS := WSin (List.mem_of_getElem? (i := 680) (by decide +kernel)) (by decide +kernel)
theorem wd_681 : (Jvm.Cond.methodLink "SpooledPost$PartReader" (111 : Nat) ({ cls := "SpooledPost$PartReader", name := "repeats", desc := "(III)Z" } : Jvm.MethodName)) ∈ WS := WSin (List.mem_of_getElem? (i := 681) (by decide +kernel)) (by decide +kernel)
theorem wd_683 : (Jvm.Cond.instanceMethod ({ cls := "SpooledPost$PartReader", name := "repeats", desc := "(III)Z" } : Jvm.MethodName)) ∈ WS := WSin (List.mem_of_getElem? (i := 683) (by decide +kernel)) (by decide +kernel)
theorem wd_684 : (Jvm.Cond.code ({ cls := "SpooledPost$PartReader", name := "repeats", desc := "(III)Z" } : Jvm.MethodName) prog_6_method_16_code (5 : Nat) (Option.some Jvm.ClassFile.FieldType.boolean)) ∈ WS := WSin (List.mem_of_getElem? (i := 684) (by decide +kernel)) (by decide +kernel)
theorem wd_686 : (Jvm.Cond.instanceMethod ({ cls := "SpooledPost", name := "part", desc := "(III)I" } : Jvm.MethodName)) ∈ WS := WSin (List.mem_of_getElem? (i := 686) (by decide +kernel)) (by decide +kernel)
theorem wd_687 : (Jvm.Cond.selects "SpooledPost" ({ cls := "SpooledPost", name := "part", desc := "(III)I" } : Jvm.MethodName) ({ cls := "SpooledPost", name := "part", desc := "(III)I" } : Jvm.MethodName)) ∈ WS := WSin (List.mem_of_getElem? (i := 687) (by decide +kernel)) (by decide +kernel)
theorem wd_688 : (Jvm.Cond.code ({ cls := "SpooledPost", name := "part", desc := "(III)I" } : Jvm.MethodName) prog_1_method_17_code (5 : Nat) (Option.some Jvm.ClassFile.FieldType.int)) ∈ WS := WSin (List.mem_of_getElem? (i := 688) (by decide +kernel)) (by decide +kernel)
theorem wd_689 : (Jvm.Cond.methodLink "SpooledPost" (167 : Nat) ({ cls := "SpooledPost$PartReader", name := "fact", desc := "(II)I" } : Jvm.MethodName)) ∈ WS := WSin (List.mem_of_getElem? (i := 689) (by decide +kernel)) (by decide +kernel)
theorem wd_690 : (Jvm.Cond.instanceMethod ({ cls := "SpooledPost$PartReader", name := "fact", desc := "(II)I" } : Jvm.MethodName)) ∈ WS := WSin (List.mem_of_getElem? (i := 690) (by decide +kernel)) (by decide +kernel)
theorem wd_691 : (Jvm.Cond.selects "SpooledPost$PartReader" ({ cls := "SpooledPost$PartReader", name := "fact", desc := "(II)I" } : Jvm.MethodName) ({ cls := "SpooledPost$PartReader", name := "fact", desc := "(II)I" } : Jvm.MethodName)) ∈ WS := WSin (List.mem_of_getElem? (i := 691) (by decide +kernel)) (by decide +kernel)
theorem wd_692 : (Jvm.Cond.code ({ cls := "SpooledPost$PartReader", name := "fact", desc := "(II)I" } : Jvm.MethodName) prog_6_method_3_code (3 : Nat) (Option.some Jvm.ClassFile.FieldType.int)) ∈ WS := WSin (List.mem_of_getElem? (i := 692) (by decide +kernel)) (by decide +kernel)
theorem wd_699 : (Jvm.Cond.fieldLink "SpooledPostModel" (7 : Nat) "SpooledPostModel" "up" "Z") ∈ WS := WSin (List.mem_of_getElem? (i := 699) (by decide +kernel)) (by decide +kernel)
theorem wd_700 : (Jvm.Cond.fieldLink "SpooledPostModel" (105 : Nat) "SpooledPostModel" "now" "I") ∈ WS := WSin (List.mem_of_getElem? (i := 700) (by decide +kernel)) (by decide +kernel)
theorem wd_701 : (Jvm.Cond.fieldLink "SpooledPostModel" (94 : Nat) "SpooledPostModel" "given" "I") ∈ WS := WSin (List.mem_of_getElem? (i := 701) (by decide +kernel)) (by decide +kernel)
theorem wd_702 : (Jvm.Cond.fieldLink "SpooledPostModel" (13 : Nat) "SpooledPostModel" "writes" "I") ∈ WS := WSin (List.mem_of_getElem? (i := 702) (by decide +kernel)) (by decide +kernel)
theorem wd_703 : (Jvm.Cond.fieldLink "SpooledPostModel" (17 : Nat) "SpooledPostModel" "line" "[I") ∈ WS := WSin (List.mem_of_getElem? (i := 703) (by decide +kernel)) (by decide +kernel)
theorem wd_704 : (Jvm.Cond.fieldLink "SpooledPostModel" (79 : Nat) "SpooledPostModel" "length" "I") ∈ WS := WSin (List.mem_of_getElem? (i := 704) (by decide +kernel)) (by decide +kernel)
theorem wd_705 : (Jvm.Cond.fieldLink "SpooledPostModel" (82 : Nat) "SpooledPostModel" "greeted" "Z") ∈ WS := WSin (List.mem_of_getElem? (i := 705) (by decide +kernel)) (by decide +kernel)
theorem wd_706 : (Jvm.Cond.fieldLink "SpooledPostModel" (85 : Nat) "SpooledPostModel" "begun" "Z") ∈ WS := WSin (List.mem_of_getElem? (i := 706) (by decide +kernel)) (by decide +kernel)
theorem wd_707 : (Jvm.Cond.fieldLink "SpooledPostModel" (88 : Nat) "SpooledPostModel" "taking" "Z") ∈ WS := WSin (List.mem_of_getElem? (i := 707) (by decide +kernel)) (by decide +kernel)
theorem wd_708 : (Jvm.Cond.fieldLink "SpooledPostModel" (21 : Nat) "SpooledPostModel" "number" "[I") ∈ WS := WSin (List.mem_of_getElem? (i := 708) (by decide +kernel)) (by decide +kernel)
theorem wd_709 : (Jvm.Cond.fieldLink "SpooledPostModel" (24 : Nat) "SpooledPostModel" "sealed" "[Z") ∈ WS := WSin (List.mem_of_getElem? (i := 709) (by decide +kernel)) (by decide +kernel)
theorem wd_710 : (Jvm.Cond.fieldLink "SpooledPostModel" (28 : Nat) "SpooledPostModel" "texts" "[I") ∈ WS := WSin (List.mem_of_getElem? (i := 710) (by decide +kernel)) (by decide +kernel)
theorem wd_711 : (Jvm.Cond.fieldLink "SpooledPostModel" (31 : Nat) "SpooledPostModel" "textSize" "[I") ∈ WS := WSin (List.mem_of_getElem? (i := 711) (by decide +kernel)) (by decide +kernel)
theorem wd_712 : (Jvm.Cond.fieldLink "SpooledPostModel" (34 : Nat) "SpooledPostModel" "paths" "[I") ∈ WS := WSin (List.mem_of_getElem? (i := 712) (by decide +kernel)) (by decide +kernel)
theorem wd_713 : (Jvm.Cond.fieldLink "SpooledPostModel" (37 : Nat) "SpooledPostModel" "pathSize" "[I") ∈ WS := WSin (List.mem_of_getElem? (i := 713) (by decide +kernel)) (by decide +kernel)
theorem wd_714 : (Jvm.Cond.fieldLink "SpooledPostModel" (40 : Nat) "SpooledPostModel" "many" "[I") ∈ WS := WSin (List.mem_of_getElem? (i := 714) (by decide +kernel)) (by decide +kernel)
theorem wd_715 : (Jvm.Cond.fieldLink "SpooledPostModel" (43 : Nat) "SpooledPostModel" "fate" "[I") ∈ WS := WSin (List.mem_of_getElem? (i := 715) (by decide +kernel)) (by decide +kernel)
theorem wd_716 : (Jvm.Cond.fieldLink "SpooledPostModel" (46 : Nat) "SpooledPostModel" "dueAt" "[I") ∈ WS := WSin (List.mem_of_getElem? (i := 716) (by decide +kernel)) (by decide +kernel)
theorem wd_717 : (Jvm.Cond.fieldLink "SpooledPostModel" (195 : Nat) "SpooledPostModel" "lines" "I") ∈ WS := WSin (List.mem_of_getElem? (i := 717) (by decide +kernel)) (by decide +kernel)
theorem wd_718 : (Jvm.Cond.fieldLink "SpooledPostModel" (49 : Nat) "SpooledPostModel" "lineAt" "[I") ∈ WS := WSin (List.mem_of_getElem? (i := 718) (by decide +kernel)) (by decide +kernel)
theorem wd_719 : (Jvm.Cond.fieldLink "SpooledPostModel" (241 : Nat) "SpooledPostModel" "found" "I") ∈ WS := WSin (List.mem_of_getElem? (i := 719) (by decide +kernel)) (by decide +kernel)
theorem wd_720 : (Jvm.Cond.fieldLink "SpooledPostModel" (52 : Nat) "SpooledPostModel" "partDepth" "[I") ∈ WS := WSin (List.mem_of_getElem? (i := 720) (by decide +kernel)) (by decide +kernel)
theorem wd_721 : (Jvm.Cond.fieldLink "SpooledPostModel" (55 : Nat) "SpooledPostModel" "partFrom" "[I") ∈ WS := WSin (List.mem_of_getElem? (i := 721) (by decide +kernel)) (by decide +kernel)
theorem wd_722 : (Jvm.Cond.fieldLink "SpooledPostModel" (58 : Nat) "SpooledPostModel" "partTo" "[I") ∈ WS := WSin (List.mem_of_getElem? (i := 722) (by decide +kernel)) (by decide +kernel)
theorem wd_723 : (Jvm.Cond.fieldLink "SpooledPostModel" (61 : Nat) "SpooledPostModel" "partMulti" "[Z") ∈ WS := WSin (List.mem_of_getElem? (i := 723) (by decide +kernel)) (by decide +kernel)
theorem wd_724 : (Jvm.Cond.fieldLink "SpooledPostModel" (235 : Nat) "SpooledPostModel" "open" "I") ∈ WS := WSin (List.mem_of_getElem? (i := 724) (by decide +kernel)) (by decide +kernel)
theorem wd_725 : (Jvm.Cond.fieldLink "SpooledPostModel" (64 : Nat) "SpooledPostModel" "rowFrom" "[I") ∈ WS := WSin (List.mem_of_getElem? (i := 725) (by decide +kernel)) (by decide +kernel)
theorem wd_726 : (Jvm.Cond.fieldLink "SpooledPostModel" (67 : Nat) "SpooledPostModel" "rowTo" "[I") ∈ WS := WSin (List.mem_of_getElem? (i := 726) (by decide +kernel)) (by decide +kernel)
theorem wd_727 : (Jvm.Cond.fieldLink "SpooledPostModel" (70 : Nat) "SpooledPostModel" "rowDepth" "[I") ∈ WS := WSin (List.mem_of_getElem? (i := 727) (by decide +kernel)) (by decide +kernel)
theorem wd_728 : (Jvm.Cond.fieldLink "SpooledPostModel" (219 : Nat) "SpooledPostModel" "mark" "I") ∈ WS := WSin (List.mem_of_getElem? (i := 728) (by decide +kernel)) (by decide +kernel)
theorem wd_729 : (Jvm.Cond.fieldLink "SpooledPostModel" (222 : Nat) "SpooledPostModel" "markSize" "I") ∈ WS := WSin (List.mem_of_getElem? (i := 729) (by decide +kernel)) (by decide +kernel)
theorem wd_795 : (Jvm.Cond.instanceMethod ({ cls := "SpooledPostModel", name := "type", desc := "(J)Z" } : Jvm.MethodName)) ∈ WS := WSin (List.mem_of_getElem? (i := 795) (by decide +kernel)) (by decide +kernel)
theorem wd_796 : (Jvm.Cond.selects "SpooledPostModel" ({ cls := "SpooledPostModel", name := "type", desc := "(J)Z" } : Jvm.MethodName) ({ cls := "SpooledPostModel", name := "type", desc := "(J)Z" } : Jvm.MethodName)) ∈ WS := WSin (List.mem_of_getElem? (i := 796) (by decide +kernel)) (by decide +kernel)
theorem wd_797 : (Jvm.Cond.code ({ cls := "SpooledPostModel", name := "type", desc := "(J)Z" } : Jvm.MethodName) prog_12_method_5_code (5 : Nat) (Option.some Jvm.ClassFile.FieldType.boolean)) ∈ WS := WSin (List.mem_of_getElem? (i := 797) (by decide +kernel)) (by decide +kernel)
theorem wd_798 : (Jvm.Cond.constantLong "SpooledPostModel" (77 : Nat) (255 : Int64)) ∈ WS := WSin (List.mem_of_getElem? (i := 798) (by decide +kernel)) (by decide +kernel)
theorem wd_800 : (Jvm.Cond.instanceMethod ({ cls := "SpooledPostModel", name := "enter", desc := "()I" } : Jvm.MethodName)) ∈ WS := WSin (List.mem_of_getElem? (i := 800) (by decide +kernel)) (by decide +kernel)
theorem wd_801 : (Jvm.Cond.selects "SpooledPostModel" ({ cls := "SpooledPostModel", name := "enter", desc := "()I" } : Jvm.MethodName) ({ cls := "SpooledPostModel", name := "enter", desc := "()I" } : Jvm.MethodName)) ∈ WS := WSin (List.mem_of_getElem? (i := 801) (by decide +kernel)) (by decide +kernel)
theorem wd_802 : (Jvm.Cond.code ({ cls := "SpooledPostModel", name := "enter", desc := "()I" } : Jvm.MethodName) prog_12_method_24_code (2 : Nat) (Option.some Jvm.ClassFile.FieldType.int)) ∈ WS := WSin (List.mem_of_getElem? (i := 802) (by decide +kernel)) (by decide +kernel)
theorem wd_803 : (Jvm.Cond.methodLink "SpooledPostModel" (165 : Nat) ({ cls := "SpooledPostModel", name := "textLine", desc := "()I" } : Jvm.MethodName)) ∈ WS := WSin (List.mem_of_getElem? (i := 803) (by decide +kernel)) (by decide +kernel)
theorem wd_805 : (Jvm.Cond.instanceMethod ({ cls := "SpooledPostModel", name := "textLine", desc := "()I" } : Jvm.MethodName)) ∈ WS := WSin (List.mem_of_getElem? (i := 805) (by decide +kernel)) (by decide +kernel)
theorem wd_806 : (Jvm.Cond.code ({ cls := "SpooledPostModel", name := "textLine", desc := "()I" } : Jvm.MethodName) prog_12_method_23_code (2 : Nat) (Option.some Jvm.ClassFile.FieldType.int)) ∈ WS := WSin (List.mem_of_getElem? (i := 806) (by decide +kernel)) (by decide +kernel)
theorem wd_807 : (Jvm.Cond.methodLink "SpooledPostModel" (159 : Nat) ({ cls := "SpooledPostModel", name := "put", desc := "(II)V" } : Jvm.MethodName)) ∈ WS := WSin (List.mem_of_getElem? (i := 807) (by decide +kernel)) (by decide +kernel)
theorem wd_809 : (Jvm.Cond.instanceMethod ({ cls := "SpooledPostModel", name := "put", desc := "(II)V" } : Jvm.MethodName)) ∈ WS := WSin (List.mem_of_getElem? (i := 809) (by decide +kernel)) (by decide +kernel)
theorem wd_810 : (Jvm.Cond.code ({ cls := "SpooledPostModel", name := "put", desc := "(II)V" } : Jvm.MethodName) prog_12_method_22_code (3 : Nat) (Option.none : Option Jvm.ClassFile.FieldType)) ∈ WS := WSin (List.mem_of_getElem? (i := 810) (by decide +kernel)) (by decide +kernel)
theorem wd_811 : (Jvm.Cond.methodLink "SpooledPostModel" (153 : Nat) ({ cls := "SpooledPostModel", name := "spooled", desc := "()I" } : Jvm.MethodName)) ∈ WS := WSin (List.mem_of_getElem? (i := 811) (by decide +kernel)) (by decide +kernel)
theorem wd_813 : (Jvm.Cond.instanceMethod ({ cls := "SpooledPostModel", name := "spooled", desc := "()I" } : Jvm.MethodName)) ∈ WS := WSin (List.mem_of_getElem? (i := 813) (by decide +kernel)) (by decide +kernel)
theorem wd_814 : (Jvm.Cond.code ({ cls := "SpooledPostModel", name := "spooled", desc := "()I" } : Jvm.MethodName) prog_12_method_6_code (3 : Nat) (Option.some Jvm.ClassFile.FieldType.int)) ∈ WS := WSin (List.mem_of_getElem? (i := 814) (by decide +kernel)) (by decide +kernel)
theorem wd_815 : (Jvm.Cond.methodLink "SpooledPostModel" (162 : Nat) ({ cls := "SpooledPostModel", name := "spool", desc := "(I)Z" } : Jvm.MethodName)) ∈ WS := WSin (List.mem_of_getElem? (i := 815) (by decide +kernel)) (by decide +kernel)
theorem wd_817 : (Jvm.Cond.instanceMethod ({ cls := "SpooledPostModel", name := "spool", desc := "(I)Z" } : Jvm.MethodName)) ∈ WS := WSin (List.mem_of_getElem? (i := 817) (by decide +kernel)) (by decide +kernel)
theorem wd_818 : (Jvm.Cond.code ({ cls := "SpooledPostModel", name := "spool", desc := "(I)Z" } : Jvm.MethodName) prog_12_method_10_code (5 : Nat) (Option.some Jvm.ClassFile.FieldType.boolean)) ∈ WS := WSin (List.mem_of_getElem? (i := 818) (by decide +kernel)) (by decide +kernel)
theorem wd_819 : (Jvm.Cond.methodLink "SpooledPostModel" (97 : Nat) ({ cls := "SpooledPostModel", name := "write", desc := "()Z" } : Jvm.MethodName)) ∈ WS := WSin (List.mem_of_getElem? (i := 819) (by decide +kernel)) (by decide +kernel)
theorem wd_821 : (Jvm.Cond.instanceMethod ({ cls := "SpooledPostModel", name := "write", desc := "()Z" } : Jvm.MethodName)) ∈ WS := WSin (List.mem_of_getElem? (i := 821) (by decide +kernel)) (by decide +kernel)
theorem wd_822 : (Jvm.Cond.code ({ cls := "SpooledPostModel", name := "write", desc := "()Z" } : Jvm.MethodName) prog_12_method_8_code (1 : Nat) (Option.some Jvm.ClassFile.FieldType.boolean)) ∈ WS := WSin (List.mem_of_getElem? (i := 822) (by decide +kernel)) (by decide +kernel)
theorem wd_823 : (Jvm.Cond.methodLink "SpooledPostModel" (91 : Nat) ({ cls := "SpooledPostModel", name := "breakDown", desc := "()V" } : Jvm.MethodName)) ∈ WS := WSin (List.mem_of_getElem? (i := 823) (by decide +kernel)) (by decide +kernel)
theorem wd_825 : (Jvm.Cond.instanceMethod ({ cls := "SpooledPostModel", name := "breakDown", desc := "()V" } : Jvm.MethodName)) ∈ WS := WSin (List.mem_of_getElem? (i := 825) (by decide +kernel)) (by decide +kernel)
theorem wd_826 : (Jvm.Cond.code ({ cls := "SpooledPostModel", name := "breakDown", desc := "()V" } : Jvm.MethodName) prog_12_method_7_code (1 : Nat) (Option.none : Option Jvm.ClassFile.FieldType)) ∈ WS := WSin (List.mem_of_getElem? (i := 826) (by decide +kernel)) (by decide +kernel)
theorem wd_827 : (Jvm.Cond.methodLink "SpooledPostModel" (101 : Nat) ({ cls := "SpooledPostModel", name := "copyPath", desc := "(II)V" } : Jvm.MethodName)) ∈ WS := WSin (List.mem_of_getElem? (i := 827) (by decide +kernel)) (by decide +kernel)
theorem wd_829 : (Jvm.Cond.instanceMethod ({ cls := "SpooledPostModel", name := "copyPath", desc := "(II)V" } : Jvm.MethodName)) ∈ WS := WSin (List.mem_of_getElem? (i := 829) (by decide +kernel)) (by decide +kernel)
theorem wd_830 : (Jvm.Cond.code ({ cls := "SpooledPostModel", name := "copyPath", desc := "(II)V" } : Jvm.MethodName) prog_12_method_9_code (4 : Nat) (Option.none : Option Jvm.ClassFile.FieldType)) ∈ WS := WSin (List.mem_of_getElem? (i := 830) (by decide +kernel)) (by decide +kernel)
theorem wd_831 : (Jvm.Cond.methodLink "SpooledPostModel" (168 : Nat) ({ cls := "SpooledPostModel", name := "command", desc := "()I" } : Jvm.MethodName)) ∈ WS := WSin (List.mem_of_getElem? (i := 831) (by decide +kernel)) (by decide +kernel)
theorem wd_833 : (Jvm.Cond.instanceMethod ({ cls := "SpooledPostModel", name := "command", desc := "()I" } : Jvm.MethodName)) ∈ WS := WSin (List.mem_of_getElem? (i := 833) (by decide +kernel)) (by decide +kernel)
theorem wd_834 : (Jvm.Cond.code ({ cls := "SpooledPostModel", name := "command", desc := "()I" } : Jvm.MethodName) prog_12_method_19_code (3 : Nat) (Option.some Jvm.ClassFile.FieldType.int)) ∈ WS := WSin (List.mem_of_getElem? (i := 834) (by decide +kernel)) (by decide +kernel)
theorem wd_835 : (Jvm.Cond.methodLink "SpooledPostModel" (136 : Nat) ({ cls := "SpooledPostModel", name := "wordCode", desc := "()I" } : Jvm.MethodName)) ∈ WS := WSin (List.mem_of_getElem? (i := 835) (by decide +kernel)) (by decide +kernel)
theorem wd_837 : (Jvm.Cond.instanceMethod ({ cls := "SpooledPostModel", name := "wordCode", desc := "()I" } : Jvm.MethodName)) ∈ WS := WSin (List.mem_of_getElem? (i := 837) (by decide +kernel)) (by decide +kernel)
theorem wd_838 : (Jvm.Cond.code ({ cls := "SpooledPostModel", name := "wordCode", desc := "()I" } : Jvm.MethodName) prog_12_method_16_code (2 : Nat) (Option.some Jvm.ClassFile.FieldType.int)) ∈ WS := WSin (List.mem_of_getElem? (i := 838) (by decide +kernel)) (by decide +kernel)
theorem wd_839 : (Jvm.Cond.methodLink "SpooledPostModel" (122 : Nat) ({ cls := "SpooledPostModel", name := "charAt", desc := "(I)I" } : Jvm.MethodName)) ∈ WS := WSin (List.mem_of_getElem? (i := 839) (by decide +kernel)) (by decide +kernel)
theorem wd_841 : (Jvm.Cond.instanceMethod ({ cls := "SpooledPostModel", name := "charAt", desc := "(I)I" } : Jvm.MethodName)) ∈ WS := WSin (List.mem_of_getElem? (i := 841) (by decide +kernel)) (by decide +kernel)
theorem wd_842 : (Jvm.Cond.code ({ cls := "SpooledPostModel", name := "charAt", desc := "(I)I" } : Jvm.MethodName) prog_12_method_14_code (2 : Nat) (Option.some Jvm.ClassFile.FieldType.int)) ∈ WS := WSin (List.mem_of_getElem? (i := 842) (by decide +kernel)) (by decide +kernel)
theorem wd_843 : (Jvm.Cond.methodLink "SpooledPostModel" (118 : Nat) ({ cls := "SpooledPostModel", name := "lower", desc := "(I)I" } : Jvm.MethodName)) ∈ WS := WSin (List.mem_of_getElem? (i := 843) (by decide +kernel)) (by decide +kernel)
theorem wd_844 : (Jvm.Cond.static ({ cls := "SpooledPostModel", name := "lower", desc := "(I)I" } : Jvm.MethodName)) ∈ WS := WSin (List.mem_of_getElem? (i := 844) (by decide +kernel)) (by decide +kernel)
theorem wd_845 : (Jvm.Cond.code ({ cls := "SpooledPostModel", name := "lower", desc := "(I)I" } : Jvm.MethodName) prog_12_method_4_code (1 : Nat) (Option.some Jvm.ClassFile.FieldType.int)) ∈ WS := WSin (List.mem_of_getElem? (i := 845) (by decide +kernel)) (by decide +kernel)
theorem wd_846 : (Jvm.Cond.constant "SpooledPostModel" (125 : Nat) (1751477359 : Int32)) ∈ WS := WSin (List.mem_of_getElem? (i := 846) (by decide +kernel)) (by decide +kernel)
theorem wd_847 : (Jvm.Cond.constant "SpooledPostModel" (126 : Nat) (1701342319 : Int32)) ∈ WS := WSin (List.mem_of_getElem? (i := 847) (by decide +kernel)) (by decide +kernel)
theorem wd_848 : (Jvm.Cond.constant "SpooledPostModel" (127 : Nat) (1835100524 : Int32)) ∈ WS := WSin (List.mem_of_getElem? (i := 848) (by decide +kernel)) (by decide +kernel)
theorem wd_849 : (Jvm.Cond.constant "SpooledPostModel" (135 : Nat) (1919119476 : Int32)) ∈ WS := WSin (List.mem_of_getElem? (i := 849) (by decide +kernel)) (by decide +kernel)
theorem wd_850 : (Jvm.Cond.constant "SpooledPostModel" (140 : Nat) (1684108385 : Int32)) ∈ WS := WSin (List.mem_of_getElem? (i := 850) (by decide +kernel)) (by decide +kernel)
theorem wd_851 : (Jvm.Cond.constant "SpooledPostModel" (141 : Nat) (1920165236 : Int32)) ∈ WS := WSin (List.mem_of_getElem? (i := 851) (by decide +kernel)) (by decide +kernel)
theorem wd_852 : (Jvm.Cond.constant "SpooledPostModel" (142 : Nat) (1852796784 : Int32)) ∈ WS := WSin (List.mem_of_getElem? (i := 852) (by decide +kernel)) (by decide +kernel)
theorem wd_853 : (Jvm.Cond.constant "SpooledPostModel" (143 : Nat) (1903520116 : Int32)) ∈ WS := WSin (List.mem_of_getElem? (i := 853) (by decide +kernel)) (by decide +kernel)
theorem wd_854 : (Jvm.Cond.methodLink "SpooledPostModel" (144 : Nat) ({ cls := "SpooledPostModel", name := "fits", desc := "(I)Z" } : Jvm.MethodName)) ∈ WS := WSin (List.mem_of_getElem? (i := 854) (by decide +kernel)) (by decide +kernel)
theorem wd_856 : (Jvm.Cond.instanceMethod ({ cls := "SpooledPostModel", name := "fits", desc := "(I)Z" } : Jvm.MethodName)) ∈ WS := WSin (List.mem_of_getElem? (i := 856) (by decide +kernel)) (by decide +kernel)
theorem wd_857 : (Jvm.Cond.code ({ cls := "SpooledPostModel", name := "fits", desc := "(I)Z" } : Jvm.MethodName) prog_12_method_17_code (2 : Nat) (Option.some Jvm.ClassFile.FieldType.boolean)) ∈ WS := WSin (List.mem_of_getElem? (i := 857) (by decide +kernel)) (by decide +kernel)
theorem wd_858 : (Jvm.Cond.methodLink "SpooledPostModel" (115 : Nat) ({ cls := "SpooledPostModel", name := "isDomain", desc := "(II)Z" } : Jvm.MethodName)) ∈ WS := WSin (List.mem_of_getElem? (i := 858) (by decide +kernel)) (by decide +kernel)
theorem wd_860 : (Jvm.Cond.instanceMethod ({ cls := "SpooledPostModel", name := "isDomain", desc := "(II)Z" } : Jvm.MethodName)) ∈ WS := WSin (List.mem_of_getElem? (i := 860) (by decide +kernel)) (by decide +kernel)
theorem wd_861 : (Jvm.Cond.code ({ cls := "SpooledPostModel", name := "isDomain", desc := "(II)Z" } : Jvm.MethodName) prog_12_method_11_code (7 : Nat) (Option.some Jvm.ClassFile.FieldType.boolean)) ∈ WS := WSin (List.mem_of_getElem? (i := 861) (by decide +kernel)) (by decide +kernel)
theorem wd_862 : (Jvm.Cond.methodLink "SpooledPostModel" (108 : Nat) ({ cls := "SpooledPostModel", name := "isAlnum", desc := "(I)Z" } : Jvm.MethodName)) ∈ WS := WSin (List.mem_of_getElem? (i := 862) (by decide +kernel)) (by decide +kernel)
theorem wd_863 : (Jvm.Cond.static ({ cls := "SpooledPostModel", name := "isAlnum", desc := "(I)Z" } : Jvm.MethodName)) ∈ WS := WSin (List.mem_of_getElem? (i := 863) (by decide +kernel)) (by decide +kernel)
theorem wd_864 : (Jvm.Cond.code ({ cls := "SpooledPostModel", name := "isAlnum", desc := "(I)Z" } : Jvm.MethodName) prog_12_method_3_code (1 : Nat) (Option.some Jvm.ClassFile.FieldType.boolean)) ∈ WS := WSin (List.mem_of_getElem? (i := 864) (by decide +kernel)) (by decide +kernel)
theorem wd_865 : (Jvm.Cond.methodLink "SpooledPostModel" (73 : Nat) ({ cls := "SpooledPostModel", name := "isLetter", desc := "(I)Z" } : Jvm.MethodName)) ∈ WS := WSin (List.mem_of_getElem? (i := 865) (by decide +kernel)) (by decide +kernel)
theorem wd_866 : (Jvm.Cond.static ({ cls := "SpooledPostModel", name := "isLetter", desc := "(I)Z" } : Jvm.MethodName)) ∈ WS := WSin (List.mem_of_getElem? (i := 866) (by decide +kernel)) (by decide +kernel)
theorem wd_867 : (Jvm.Cond.code ({ cls := "SpooledPostModel", name := "isLetter", desc := "(I)Z" } : Jvm.MethodName) prog_12_method_2_code (1 : Nat) (Option.some Jvm.ClassFile.FieldType.boolean)) ∈ WS := WSin (List.mem_of_getElem? (i := 867) (by decide +kernel)) (by decide +kernel)
theorem wd_868 : (Jvm.Cond.methodLink "SpooledPostModel" (128 : Nat) ({ cls := "SpooledPostModel", name := "bracketed", desc := "(Z)Z" } : Jvm.MethodName)) ∈ WS := WSin (List.mem_of_getElem? (i := 868) (by decide +kernel)) (by decide +kernel)
theorem wd_870 : (Jvm.Cond.instanceMethod ({ cls := "SpooledPostModel", name := "bracketed", desc := "(Z)Z" } : Jvm.MethodName)) ∈ WS := WSin (List.mem_of_getElem? (i := 870) (by decide +kernel)) (by decide +kernel)
theorem wd_871 : (Jvm.Cond.code ({ cls := "SpooledPostModel", name := "bracketed", desc := "(Z)Z" } : Jvm.MethodName) prog_12_method_15_code (4 : Nat) (Option.some Jvm.ClassFile.FieldType.boolean)) ∈ WS := WSin (List.mem_of_getElem? (i := 871) (by decide +kernel)) (by decide +kernel)
theorem wd_872 : (Jvm.Cond.methodLink "SpooledPostModel" (132 : Nat) ({ cls := "SpooledPostModel", name := "isPath", desc := "(II)Z" } : Jvm.MethodName)) ∈ WS := WSin (List.mem_of_getElem? (i := 872) (by decide +kernel)) (by decide +kernel)
theorem wd_874 : (Jvm.Cond.instanceMethod ({ cls := "SpooledPostModel", name := "isPath", desc := "(II)Z" } : Jvm.MethodName)) ∈ WS := WSin (List.mem_of_getElem? (i := 874) (by decide +kernel)) (by decide +kernel)
theorem wd_875 : (Jvm.Cond.code ({ cls := "SpooledPostModel", name := "isPath", desc := "(II)Z" } : Jvm.MethodName) prog_12_method_13_code (4 : Nat) (Option.some Jvm.ClassFile.FieldType.boolean)) ∈ WS := WSin (List.mem_of_getElem? (i := 875) (by decide +kernel)) (by decide +kernel)
theorem wd_876 : (Jvm.Cond.methodLink "SpooledPostModel" (111 : Nat) ({ cls := "SpooledPostModel", name := "isLocal", desc := "(II)Z" } : Jvm.MethodName)) ∈ WS := WSin (List.mem_of_getElem? (i := 876) (by decide +kernel)) (by decide +kernel)
theorem wd_878 : (Jvm.Cond.instanceMethod ({ cls := "SpooledPostModel", name := "isLocal", desc := "(II)Z" } : Jvm.MethodName)) ∈ WS := WSin (List.mem_of_getElem? (i := 878) (by decide +kernel)) (by decide +kernel)
theorem wd_879 : (Jvm.Cond.code ({ cls := "SpooledPostModel", name := "isLocal", desc := "(II)Z" } : Jvm.MethodName) prog_12_method_12_code (7 : Nat) (Option.some Jvm.ClassFile.FieldType.boolean)) ∈ WS := WSin (List.mem_of_getElem? (i := 879) (by decide +kernel)) (by decide +kernel)
theorem wd_880 : (Jvm.Cond.methodLink "SpooledPostModel" (147 : Nat) ({ cls := "SpooledPostModel", name := "mail", desc := "()I" } : Jvm.MethodName)) ∈ WS := WSin (List.mem_of_getElem? (i := 880) (by decide +kernel)) (by decide +kernel)
theorem wd_882 : (Jvm.Cond.instanceMethod ({ cls := "SpooledPostModel", name := "mail", desc := "()I" } : Jvm.MethodName)) ∈ WS := WSin (List.mem_of_getElem? (i := 882) (by decide +kernel)) (by decide +kernel)
theorem wd_883 : (Jvm.Cond.code ({ cls := "SpooledPostModel", name := "mail", desc := "()I" } : Jvm.MethodName) prog_12_method_20_code (1 : Nat) (Option.some Jvm.ClassFile.FieldType.int)) ∈ WS := WSin (List.mem_of_getElem? (i := 883) (by decide +kernel)) (by decide +kernel)
theorem wd_884 : (Jvm.Cond.methodLink "SpooledPostModel" (156 : Nat) ({ cls := "SpooledPostModel", name := "keepPath", desc := "(II)V" } : Jvm.MethodName)) ∈ WS := WSin (List.mem_of_getElem? (i := 884) (by decide +kernel)) (by decide +kernel)
theorem wd_886 : (Jvm.Cond.instanceMethod ({ cls := "SpooledPostModel", name := "keepPath", desc := "(II)V" } : Jvm.MethodName)) ∈ WS := WSin (List.mem_of_getElem? (i := 886) (by decide +kernel)) (by decide +kernel)
theorem wd_887 : (Jvm.Cond.code ({ cls := "SpooledPostModel", name := "keepPath", desc := "(II)V" } : Jvm.MethodName) prog_12_method_18_code (4 : Nat) (Option.none : Option Jvm.ClassFile.FieldType)) ∈ WS := WSin (List.mem_of_getElem? (i := 887) (by decide +kernel)) (by decide +kernel)
theorem wd_888 : (Jvm.Cond.methodLink "SpooledPostModel" (150 : Nat) ({ cls := "SpooledPostModel", name := "recipient", desc := "()I" } : Jvm.MethodName)) ∈ WS := WSin (List.mem_of_getElem? (i := 888) (by decide +kernel)) (by decide +kernel)
theorem wd_890 : (Jvm.Cond.instanceMethod ({ cls := "SpooledPostModel", name := "recipient", desc := "()I" } : Jvm.MethodName)) ∈ WS := WSin (List.mem_of_getElem? (i := 890) (by decide +kernel)) (by decide +kernel)
theorem wd_891 : (Jvm.Cond.code ({ cls := "SpooledPostModel", name := "recipient", desc := "()I" } : Jvm.MethodName) prog_12_method_21_code (1 : Nat) (Option.some Jvm.ClassFile.FieldType.int)) ∈ WS := WSin (List.mem_of_getElem? (i := 891) (by decide +kernel)) (by decide +kernel)
theorem wd_893 : (Jvm.Cond.instanceMethod ({ cls := "SpooledPostModel", name := "breakAfter", desc := "(I)Z" } : Jvm.MethodName)) ∈ WS := WSin (List.mem_of_getElem? (i := 893) (by decide +kernel)) (by decide +kernel)
theorem wd_894 : (Jvm.Cond.selects "SpooledPostModel" ({ cls := "SpooledPostModel", name := "breakAfter", desc := "(I)Z" } : Jvm.MethodName) ({ cls := "SpooledPostModel", name := "breakAfter", desc := "(I)Z" } : Jvm.MethodName)) ∈ WS := WSin (List.mem_of_getElem? (i := 894) (by decide +kernel)) (by decide +kernel)
theorem wd_895 : (Jvm.Cond.code ({ cls := "SpooledPostModel", name := "breakAfter", desc := "(I)Z" } : Jvm.MethodName) prog_12_method_25_code (2 : Nat) (Option.some Jvm.ClassFile.FieldType.boolean)) ∈ WS := WSin (List.mem_of_getElem? (i := 895) (by decide +kernel)) (by decide +kernel)
theorem wd_897 : (Jvm.Cond.instanceMethod ({ cls := "SpooledPostModel", name := "restart", desc := "()I" } : Jvm.MethodName)) ∈ WS := WSin (List.mem_of_getElem? (i := 897) (by decide +kernel)) (by decide +kernel)
theorem wd_898 : (Jvm.Cond.selects "SpooledPostModel" ({ cls := "SpooledPostModel", name := "restart", desc := "()I" } : Jvm.MethodName) ({ cls := "SpooledPostModel", name := "restart", desc := "()I" } : Jvm.MethodName)) ∈ WS := WSin (List.mem_of_getElem? (i := 898) (by decide +kernel)) (by decide +kernel)
theorem wd_899 : (Jvm.Cond.code ({ cls := "SpooledPostModel", name := "restart", desc := "()I" } : Jvm.MethodName) prog_12_method_26_code (2 : Nat) (Option.some Jvm.ClassFile.FieldType.int)) ∈ WS := WSin (List.mem_of_getElem? (i := 899) (by decide +kernel)) (by decide +kernel)
theorem wd_900 : (Jvm.Cond.methodLink "SpooledPostModel" (171 : Nat) ({ cls := "SpooledPostModel", name := "letters", desc := "()I" } : Jvm.MethodName)) ∈ WS := WSin (List.mem_of_getElem? (i := 900) (by decide +kernel)) (by decide +kernel)
theorem wd_901 : (Jvm.Cond.instanceMethod ({ cls := "SpooledPostModel", name := "letters", desc := "()I" } : Jvm.MethodName)) ∈ WS := WSin (List.mem_of_getElem? (i := 901) (by decide +kernel)) (by decide +kernel)
theorem wd_902 : (Jvm.Cond.selects "SpooledPostModel" ({ cls := "SpooledPostModel", name := "letters", desc := "()I" } : Jvm.MethodName) ({ cls := "SpooledPostModel", name := "letters", desc := "()I" } : Jvm.MethodName)) ∈ WS := WSin (List.mem_of_getElem? (i := 902) (by decide +kernel)) (by decide +kernel)
theorem wd_903 : (Jvm.Cond.code ({ cls := "SpooledPostModel", name := "letters", desc := "()I" } : Jvm.MethodName) prog_12_method_51_code (3 : Nat) (Option.some Jvm.ClassFile.FieldType.int)) ∈ WS := WSin (List.mem_of_getElem? (i := 903) (by decide +kernel)) (by decide +kernel)
theorem wd_904 : (Jvm.Cond.methodLink "SpooledPostModel" (174 : Nat) ({ cls := "SpooledPostModel", name := "isLetterAt", desc := "(I)Z" } : Jvm.MethodName)) ∈ WS := WSin (List.mem_of_getElem? (i := 904) (by decide +kernel)) (by decide +kernel)
theorem wd_906 : (Jvm.Cond.instanceMethod ({ cls := "SpooledPostModel", name := "isLetterAt", desc := "(I)Z" } : Jvm.MethodName)) ∈ WS := WSin (List.mem_of_getElem? (i := 906) (by decide +kernel)) (by decide +kernel)
theorem wd_907 : (Jvm.Cond.code ({ cls := "SpooledPostModel", name := "isLetterAt", desc := "(I)Z" } : Jvm.MethodName) prog_12_method_28_code (2 : Nat) (Option.some Jvm.ClassFile.FieldType.boolean)) ∈ WS := WSin (List.mem_of_getElem? (i := 907) (by decide +kernel)) (by decide +kernel)
theorem wd_909 : (Jvm.Cond.instanceMethod ({ cls := "SpooledPostModel", name := "pass", desc := "(I)I" } : Jvm.MethodName)) ∈ WS := WSin (List.mem_of_getElem? (i := 909) (by decide +kernel)) (by decide +kernel)
theorem wd_910 : (Jvm.Cond.selects "SpooledPostModel" ({ cls := "SpooledPostModel", name := "pass", desc := "(I)I" } : Jvm.MethodName) ({ cls := "SpooledPostModel", name := "pass", desc := "(I)I" } : Jvm.MethodName)) ∈ WS := WSin (List.mem_of_getElem? (i := 910) (by decide +kernel)) (by decide +kernel)
theorem wd_911 : (Jvm.Cond.code ({ cls := "SpooledPostModel", name := "pass", desc := "(I)I" } : Jvm.MethodName) prog_12_method_27_code (2 : Nat) (Option.some Jvm.ClassFile.FieldType.int)) ∈ WS := WSin (List.mem_of_getElem? (i := 911) (by decide +kernel)) (by decide +kernel)
theorem wd_913 : (Jvm.Cond.instanceMethod ({ cls := "SpooledPostModel", name := "next", desc := "()I" } : Jvm.MethodName)) ∈ WS := WSin (List.mem_of_getElem? (i := 913) (by decide +kernel)) (by decide +kernel)
theorem wd_914 : (Jvm.Cond.selects "SpooledPostModel" ({ cls := "SpooledPostModel", name := "next", desc := "()I" } : Jvm.MethodName) ({ cls := "SpooledPostModel", name := "next", desc := "()I" } : Jvm.MethodName)) ∈ WS := WSin (List.mem_of_getElem? (i := 914) (by decide +kernel)) (by decide +kernel)
theorem wd_915 : (Jvm.Cond.code ({ cls := "SpooledPostModel", name := "next", desc := "()I" } : Jvm.MethodName) prog_12_method_30_code (2 : Nat) (Option.some Jvm.ClassFile.FieldType.int)) ∈ WS := WSin (List.mem_of_getElem? (i := 915) (by decide +kernel)) (by decide +kernel)
theorem wd_916 : (Jvm.Cond.methodLink "SpooledPostModel" (177 : Nat) ({ cls := "SpooledPostModel", name := "nextOne", desc := "()I" } : Jvm.MethodName)) ∈ WS := WSin (List.mem_of_getElem? (i := 916) (by decide +kernel)) (by decide +kernel)
theorem wd_918 : (Jvm.Cond.instanceMethod ({ cls := "SpooledPostModel", name := "nextOne", desc := "()I" } : Jvm.MethodName)) ∈ WS := WSin (List.mem_of_getElem? (i := 918) (by decide +kernel)) (by decide +kernel)
theorem wd_919 : (Jvm.Cond.code ({ cls := "SpooledPostModel", name := "nextOne", desc := "()I" } : Jvm.MethodName) prog_12_method_29_code (6 : Nat) (Option.some Jvm.ClassFile.FieldType.int)) ∈ WS := WSin (List.mem_of_getElem? (i := 919) (by decide +kernel)) (by decide +kernel)
theorem wd_921 : (Jvm.Cond.instanceMethod ({ cls := "SpooledPostModel", name := "reply", desc := "(I)I" } : Jvm.MethodName)) ∈ WS := WSin (List.mem_of_getElem? (i := 921) (by decide +kernel)) (by decide +kernel)
theorem wd_922 : (Jvm.Cond.selects "SpooledPostModel" ({ cls := "SpooledPostModel", name := "reply", desc := "(I)I" } : Jvm.MethodName) ({ cls := "SpooledPostModel", name := "reply", desc := "(I)I" } : Jvm.MethodName)) ∈ WS := WSin (List.mem_of_getElem? (i := 922) (by decide +kernel)) (by decide +kernel)
theorem wd_923 : (Jvm.Cond.code ({ cls := "SpooledPostModel", name := "reply", desc := "(I)I" } : Jvm.MethodName) prog_12_method_34_code (4 : Nat) (Option.some Jvm.ClassFile.FieldType.int)) ∈ WS := WSin (List.mem_of_getElem? (i := 923) (by decide +kernel)) (by decide +kernel)
theorem wd_924 : (Jvm.Cond.methodLink "SpooledPostModel" (188 : Nat) ({ cls := "SpooledPostModel", name := "tell", desc := "(II)Z" } : Jvm.MethodName)) ∈ WS := WSin (List.mem_of_getElem? (i := 924) (by decide +kernel)) (by decide +kernel)
theorem wd_926 : (Jvm.Cond.instanceMethod ({ cls := "SpooledPostModel", name := "tell", desc := "(II)Z" } : Jvm.MethodName)) ∈ WS := WSin (List.mem_of_getElem? (i := 926) (by decide +kernel)) (by decide +kernel)
theorem wd_927 : (Jvm.Cond.code ({ cls := "SpooledPostModel", name := "tell", desc := "(II)Z" } : Jvm.MethodName) prog_12_method_33_code (4 : Nat) (Option.some Jvm.ClassFile.FieldType.boolean)) ∈ WS := WSin (List.mem_of_getElem? (i := 927) (by decide +kernel)) (by decide +kernel)
theorem wd_928 : (Jvm.Cond.constantLong "SpooledPostModel" (180 : Nat) (7234309814316459346 : Int64)) ∈ WS := WSin (List.mem_of_getElem? (i := 928) (by decide +kernel)) (by decide +kernel)
theorem wd_929 : (Jvm.Cond.constantLong "SpooledPostModel" (182 : Nat) (8250 : Int64)) ∈ WS := WSin (List.mem_of_getElem? (i := 929) (by decide +kernel)) (by decide +kernel)
theorem wd_930 : (Jvm.Cond.methodLink "SpooledPostModel" (184 : Nat) ({ cls := "SpooledPostModel", name := "at", desc := "(JJI)I" } : Jvm.MethodName)) ∈ WS := WSin (List.mem_of_getElem? (i := 930) (by decide +kernel)) (by decide +kernel)
theorem wd_931 : (Jvm.Cond.static ({ cls := "SpooledPostModel", name := "at", desc := "(JJI)I" } : Jvm.MethodName)) ∈ WS := WSin (List.mem_of_getElem? (i := 931) (by decide +kernel)) (by decide +kernel)
theorem wd_932 : (Jvm.Cond.code ({ cls := "SpooledPostModel", name := "at", desc := "(JJI)I" } : Jvm.MethodName) prog_12_method_32_code (5 : Nat) (Option.some Jvm.ClassFile.FieldType.int)) ∈ WS := WSin (List.mem_of_getElem? (i := 932) (by decide +kernel)) (by decide +kernel)
theorem wd_933 : (Jvm.Cond.methodLink "SpooledPostModel" (191 : Nat) ({ cls := "SpooledPostModel", name := "tidy", desc := "(I)V" } : Jvm.MethodName)) ∈ WS := WSin (List.mem_of_getElem? (i := 933) (by decide +kernel)) (by decide +kernel)
theorem wd_935 : (Jvm.Cond.instanceMethod ({ cls := "SpooledPostModel", name := "tidy", desc := "(I)V" } : Jvm.MethodName)) ∈ WS := WSin (List.mem_of_getElem? (i := 935) (by decide +kernel)) (by decide +kernel)
theorem wd_936 : (Jvm.Cond.code ({ cls := "SpooledPostModel", name := "tidy", desc := "(I)V" } : Jvm.MethodName) prog_12_method_31_code (4 : Nat) (Option.none : Option Jvm.ClassFile.FieldType)) ∈ WS := WSin (List.mem_of_getElem? (i := 936) (by decide +kernel)) (by decide +kernel)
theorem wd_938 : (Jvm.Cond.instanceMethod ({ cls := "SpooledPostModel", name := "parts", desc := "(I)I" } : Jvm.MethodName)) ∈ WS := WSin (List.mem_of_getElem? (i := 938) (by decide +kernel)) (by decide +kernel)
theorem wd_939 : (Jvm.Cond.selects "SpooledPostModel" ({ cls := "SpooledPostModel", name := "parts", desc := "(I)I" } : Jvm.MethodName) ({ cls := "SpooledPostModel", name := "parts", desc := "(I)I" } : Jvm.MethodName)) ∈ WS := WSin (List.mem_of_getElem? (i := 939) (by decide +kernel)) (by decide +kernel)
theorem wd_940 : (Jvm.Cond.code ({ cls := "SpooledPostModel", name := "parts", desc := "(I)I" } : Jvm.MethodName) prog_12_method_48_code (3 : Nat) (Option.some Jvm.ClassFile.FieldType.int)) ∈ WS := WSin (List.mem_of_getElem? (i := 940) (by decide +kernel)) (by decide +kernel)
theorem wd_941 : (Jvm.Cond.methodLink "SpooledPostModel" (258 : Nat) ({ cls := "SpooledPostModel", name := "placeOf", desc := "(I)I" } : Jvm.MethodName)) ∈ WS := WSin (List.mem_of_getElem? (i := 941) (by decide +kernel)) (by decide +kernel)
theorem wd_943 : (Jvm.Cond.instanceMethod ({ cls := "SpooledPostModel", name := "placeOf", desc := "(I)I" } : Jvm.MethodName)) ∈ WS := WSin (List.mem_of_getElem? (i := 943) (by decide +kernel)) (by decide +kernel)
theorem wd_944 : (Jvm.Cond.code ({ cls := "SpooledPostModel", name := "placeOf", desc := "(I)I" } : Jvm.MethodName) prog_12_method_35_code (4 : Nat) (Option.some Jvm.ClassFile.FieldType.int)) ∈ WS := WSin (List.mem_of_getElem? (i := 944) (by decide +kernel)) (by decide +kernel)
theorem wd_945 : (Jvm.Cond.methodLink "SpooledPostModel" (261 : Nat) ({ cls := "SpooledPostModel", name := "divided", desc := "(I)Z" } : Jvm.MethodName)) ∈ WS := WSin (List.mem_of_getElem? (i := 945) (by decide +kernel)) (by decide +kernel)
theorem wd_947 : (Jvm.Cond.instanceMethod ({ cls := "SpooledPostModel", name := "divided", desc := "(I)Z" } : Jvm.MethodName)) ∈ WS := WSin (List.mem_of_getElem? (i := 947) (by decide +kernel)) (by decide +kernel)
theorem wd_948 : (Jvm.Cond.code ({ cls := "SpooledPostModel", name := "divided", desc := "(I)Z" } : Jvm.MethodName) prog_12_method_47_code (7 : Nat) (Option.some Jvm.ClassFile.FieldType.boolean)) ∈ WS := WSin (List.mem_of_getElem? (i := 948) (by decide +kernel)) (by decide +kernel)
theorem wd_949 : (Jvm.Cond.methodLink "SpooledPostModel" (238 : Nat) ({ cls := "SpooledPostModel", name := "findLines", desc := "(I)V" } : Jvm.MethodName)) ∈ WS := WSin (List.mem_of_getElem? (i := 949) (by decide +kernel)) (by decide +kernel)
theorem wd_951 : (Jvm.Cond.instanceMethod ({ cls := "SpooledPostModel", name := "findLines", desc := "(I)V" } : Jvm.MethodName)) ∈ WS := WSin (List.mem_of_getElem? (i := 951) (by decide +kernel)) (by decide +kernel)
theorem wd_952 : (Jvm.Cond.code ({ cls := "SpooledPostModel", name := "findLines", desc := "(I)V" } : Jvm.MethodName) prog_12_method_36_code (3 : Nat) (Option.none : Option Jvm.ClassFile.FieldType)) ∈ WS := WSin (List.mem_of_getElem? (i := 952) (by decide +kernel)) (by decide +kernel)
theorem wd_953 : (Jvm.Cond.methodLink "SpooledPostModel" (244 : Nat) ({ cls := "SpooledPostModel", name := "headEnd", desc := "(II)I" } : Jvm.MethodName)) ∈ WS := WSin (List.mem_of_getElem? (i := 953) (by decide +kernel)) (by decide +kernel)
theorem wd_955 : (Jvm.Cond.instanceMethod ({ cls := "SpooledPostModel", name := "headEnd", desc := "(II)I" } : Jvm.MethodName)) ∈ WS := WSin (List.mem_of_getElem? (i := 955) (by decide +kernel)) (by decide +kernel)
theorem wd_956 : (Jvm.Cond.code ({ cls := "SpooledPostModel", name := "headEnd", desc := "(II)I" } : Jvm.MethodName) prog_12_method_41_code (4 : Nat) (Option.some Jvm.ClassFile.FieldType.int)) ∈ WS := WSin (List.mem_of_getElem? (i := 956) (by decide +kernel)) (by decide +kernel)
theorem wd_957 : (Jvm.Cond.methodLink "SpooledPostModel" (201 : Nat) ({ cls := "SpooledPostModel", name := "isEmpty", desc := "(I)Z" } : Jvm.MethodName)) ∈ WS := WSin (List.mem_of_getElem? (i := 957) (by decide +kernel)) (by decide +kernel)
theorem wd_959 : (Jvm.Cond.instanceMethod ({ cls := "SpooledPostModel", name := "isEmpty", desc := "(I)Z" } : Jvm.MethodName)) ∈ WS := WSin (List.mem_of_getElem? (i := 959) (by decide +kernel)) (by decide +kernel)
theorem wd_960 : (Jvm.Cond.code ({ cls := "SpooledPostModel", name := "isEmpty", desc := "(I)Z" } : Jvm.MethodName) prog_12_method_38_code (2 : Nat) (Option.some Jvm.ClassFile.FieldType.boolean)) ∈ WS := WSin (List.mem_of_getElem? (i := 960) (by decide +kernel)) (by decide +kernel)
theorem wd_961 : (Jvm.Cond.methodLink "SpooledPostModel" (198 : Nat) ({ cls := "SpooledPostModel", name := "endOf", desc := "(I)I" } : Jvm.MethodName)) ∈ WS := WSin (List.mem_of_getElem? (i := 961) (by decide +kernel)) (by decide +kernel)
theorem wd_963 : (Jvm.Cond.instanceMethod ({ cls := "SpooledPostModel", name := "endOf", desc := "(I)I" } : Jvm.MethodName)) ∈ WS := WSin (List.mem_of_getElem? (i := 963) (by decide +kernel)) (by decide +kernel)
theorem wd_964 : (Jvm.Cond.code ({ cls := "SpooledPostModel", name := "endOf", desc := "(I)I" } : Jvm.MethodName) prog_12_method_37_code (2 : Nat) (Option.some Jvm.ClassFile.FieldType.int)) ∈ WS := WSin (List.mem_of_getElem? (i := 964) (by decide +kernel)) (by decide +kernel)
theorem wd_965 : (Jvm.Cond.methodLink "SpooledPostModel" (248 : Nat) ({ cls := "SpooledPostModel", name := "rightHead", desc := "(II)Z" } : Jvm.MethodName)) ∈ WS := WSin (List.mem_of_getElem? (i := 965) (by decide +kernel)) (by decide +kernel)
theorem wd_967 : (Jvm.Cond.instanceMethod ({ cls := "SpooledPostModel", name := "rightHead", desc := "(II)Z" } : Jvm.MethodName)) ∈ WS := WSin (List.mem_of_getElem? (i := 967) (by decide +kernel)) (by decide +kernel)
theorem wd_968 : (Jvm.Cond.code ({ cls := "SpooledPostModel", name := "rightHead", desc := "(II)Z" } : Jvm.MethodName) prog_12_method_42_code (5 : Nat) (Option.some Jvm.ClassFile.FieldType.boolean)) ∈ WS := WSin (List.mem_of_getElem? (i := 968) (by decide +kernel)) (by decide +kernel)
theorem wd_969 : (Jvm.Cond.methodLink "SpooledPostModel" (204 : Nat) ({ cls := "SpooledPostModel", name := "colon", desc := "(I)I" } : Jvm.MethodName)) ∈ WS := WSin (List.mem_of_getElem? (i := 969) (by decide +kernel)) (by decide +kernel)
theorem wd_971 : (Jvm.Cond.instanceMethod ({ cls := "SpooledPostModel", name := "colon", desc := "(I)I" } : Jvm.MethodName)) ∈ WS := WSin (List.mem_of_getElem? (i := 971) (by decide +kernel)) (by decide +kernel)
theorem wd_972 : (Jvm.Cond.code ({ cls := "SpooledPostModel", name := "colon", desc := "(I)I" } : Jvm.MethodName) prog_12_method_40_code (3 : Nat) (Option.some Jvm.ClassFile.FieldType.int)) ∈ WS := WSin (List.mem_of_getElem? (i := 972) (by decide +kernel)) (by decide +kernel)
theorem wd_973 : (Jvm.Cond.methodLink "SpooledPostModel" (251 : Nat) ({ cls := "SpooledPostModel", name := "isMulti", desc := "(II)Z" } : Jvm.MethodName)) ∈ WS := WSin (List.mem_of_getElem? (i := 973) (by decide +kernel)) (by decide +kernel)
theorem wd_975 : (Jvm.Cond.instanceMethod ({ cls := "SpooledPostModel", name := "isMulti", desc := "(II)Z" } : Jvm.MethodName)) ∈ WS := WSin (List.mem_of_getElem? (i := 975) (by decide +kernel)) (by decide +kernel)
theorem wd_976 : (Jvm.Cond.code ({ cls := "SpooledPostModel", name := "isMulti", desc := "(II)Z" } : Jvm.MethodName) prog_12_method_44_code (5 : Nat) (Option.some Jvm.ClassFile.FieldType.boolean)) ∈ WS := WSin (List.mem_of_getElem? (i := 976) (by decide +kernel)) (by decide +kernel)
theorem wd_977 : (Jvm.Cond.constantLong "SpooledPostModel" (225 : Nat) (3275364211029340003 : Int64)) ∈ WS := WSin (List.mem_of_getElem? (i := 977) (by decide +kernel)) (by decide +kernel)
theorem wd_978 : (Jvm.Cond.constantLong "SpooledPostModel" (227 : Nat) (1701869940 : Int64)) ∈ WS := WSin (List.mem_of_getElem? (i := 978) (by decide +kernel)) (by decide +kernel)
theorem wd_979 : (Jvm.Cond.methodLink "SpooledPostModel" (211 : Nat) ({ cls := "SpooledPostModel", name := "matches", desc := "(IIJJI)Z" } : Jvm.MethodName)) ∈ WS := WSin (List.mem_of_getElem? (i := 979) (by decide +kernel)) (by decide +kernel)
theorem wd_981 : (Jvm.Cond.instanceMethod ({ cls := "SpooledPostModel", name := "matches", desc := "(IIJJI)Z" } : Jvm.MethodName)) ∈ WS := WSin (List.mem_of_getElem? (i := 981) (by decide +kernel)) (by decide +kernel)
theorem wd_982 : (Jvm.Cond.code ({ cls := "SpooledPostModel", name := "matches", desc := "(IIJJI)Z" } : Jvm.MethodName) prog_12_method_39_code (10 : Nat) (Option.some Jvm.ClassFile.FieldType.boolean)) ∈ WS := WSin (List.mem_of_getElem? (i := 982) (by decide +kernel)) (by decide +kernel)
theorem wd_983 : (Jvm.Cond.methodLink "SpooledPostModel" (229 : Nat) ({ cls := "SpooledPostModel", name := "boundary", desc := "(II)Z" } : Jvm.MethodName)) ∈ WS := WSin (List.mem_of_getElem? (i := 983) (by decide +kernel)) (by decide +kernel)
theorem wd_985 : (Jvm.Cond.instanceMethod ({ cls := "SpooledPostModel", name := "boundary", desc := "(II)Z" } : Jvm.MethodName)) ∈ WS := WSin (List.mem_of_getElem? (i := 985) (by decide +kernel)) (by decide +kernel)
theorem wd_986 : (Jvm.Cond.code ({ cls := "SpooledPostModel", name := "boundary", desc := "(II)Z" } : Jvm.MethodName) prog_12_method_43_code (5 : Nat) (Option.some Jvm.ClassFile.FieldType.boolean)) ∈ WS := WSin (List.mem_of_getElem? (i := 986) (by decide +kernel)) (by decide +kernel)
theorem wd_987 : (Jvm.Cond.constantLong "SpooledPostModel" (207 : Nat) (8241992391291860333 : Int64)) ∈ WS := WSin (List.mem_of_getElem? (i := 987) (by decide +kernel)) (by decide +kernel)
theorem wd_988 : (Jvm.Cond.constantLong "SpooledPostModel" (209 : Nat) (12148 : Int64)) ∈ WS := WSin (List.mem_of_getElem? (i := 988) (by decide +kernel)) (by decide +kernel)
theorem wd_989 : (Jvm.Cond.constantLong "SpooledPostModel" (215 : Nat) (8751164109912108898 : Int64)) ∈ WS := WSin (List.mem_of_getElem? (i := 989) (by decide +kernel)) (by decide +kernel)
theorem wd_990 : (Jvm.Cond.constantLong "SpooledPostModel" (217 : Nat) (61 : Int64)) ∈ WS := WSin (List.mem_of_getElem? (i := 990) (by decide +kernel)) (by decide +kernel)
theorem wd_991 : (Jvm.Cond.methodLink "SpooledPostModel" (254 : Nat) ({ cls := "SpooledPostModel", name := "divide", desc := "(III)Z" } : Jvm.MethodName)) ∈ WS := WSin (List.mem_of_getElem? (i := 991) (by decide +kernel)) (by decide +kernel)
theorem wd_993 : (Jvm.Cond.instanceMethod ({ cls := "SpooledPostModel", name := "divide", desc := "(III)Z" } : Jvm.MethodName)) ∈ WS := WSin (List.mem_of_getElem? (i := 993) (by decide +kernel)) (by decide +kernel)
theorem wd_994 : (Jvm.Cond.code ({ cls := "SpooledPostModel", name := "divide", desc := "(III)Z" } : Jvm.MethodName) prog_12_method_46_code (8 : Nat) (Option.some Jvm.ClassFile.FieldType.boolean)) ∈ WS := WSin (List.mem_of_getElem? (i := 994) (by decide +kernel)) (by decide +kernel)
theorem wd_995 : (Jvm.Cond.methodLink "SpooledPostModel" (232 : Nat) ({ cls := "SpooledPostModel", name := "border", desc := "(I)I" } : Jvm.MethodName)) ∈ WS := WSin (List.mem_of_getElem? (i := 995) (by decide +kernel)) (by decide +kernel)
theorem wd_997 : (Jvm.Cond.instanceMethod ({ cls := "SpooledPostModel", name := "border", desc := "(I)I" } : Jvm.MethodName)) ∈ WS := WSin (List.mem_of_getElem? (i := 997) (by decide +kernel)) (by decide +kernel)
theorem wd_998 : (Jvm.Cond.code ({ cls := "SpooledPostModel", name := "border", desc := "(I)I" } : Jvm.MethodName) prog_12_method_45_code (6 : Nat) (Option.some Jvm.ClassFile.FieldType.int)) ∈ WS := WSin (List.mem_of_getElem? (i := 998) (by decide +kernel)) (by decide +kernel)
theorem wd_1000 : (Jvm.Cond.instanceMethod ({ cls := "SpooledPostModel", name := "part", desc := "(III)I" } : Jvm.MethodName)) ∈ WS := WSin (List.mem_of_getElem? (i := 1000) (by decide +kernel)) (by decide +kernel)
theorem wd_1001 : (Jvm.Cond.selects "SpooledPostModel" ({ cls := "SpooledPostModel", name := "part", desc := "(III)I" } : Jvm.MethodName) ({ cls := "SpooledPostModel", name := "part", desc := "(III)I" } : Jvm.MethodName)) ∈ WS := WSin (List.mem_of_getElem? (i := 1001) (by decide +kernel)) (by decide +kernel)
theorem wd_1002 : (Jvm.Cond.code ({ cls := "SpooledPostModel", name := "part", desc := "(III)I" } : Jvm.MethodName) prog_12_method_49_code (5 : Nat) (Option.some Jvm.ClassFile.FieldType.int)) ∈ WS := WSin (List.mem_of_getElem? (i := 1002) (by decide +kernel)) (by decide +kernel)
theorem wd_1004 : (Jvm.Cond.instanceMethod ({ cls := "SpooledPostModel", name := "state", desc := "()I" } : Jvm.MethodName)) ∈ WS := WSin (List.mem_of_getElem? (i := 1004) (by decide +kernel)) (by decide +kernel)
theorem wd_1005 : (Jvm.Cond.selects "SpooledPostModel" ({ cls := "SpooledPostModel", name := "state", desc := "()I" } : Jvm.MethodName) ({ cls := "SpooledPostModel", name := "state", desc := "()I" } : Jvm.MethodName)) ∈ WS := WSin (List.mem_of_getElem? (i := 1005) (by decide +kernel)) (by decide +kernel)
theorem wd_1006 : (Jvm.Cond.code ({ cls := "SpooledPostModel", name := "state", desc := "()I" } : Jvm.MethodName) prog_12_method_50_code (1 : Nat) (Option.some Jvm.ClassFile.FieldType.int)) ∈ WS := WSin (List.mem_of_getElem? (i := 1006) (by decide +kernel)) (by decide +kernel)
theorem wd_1009 : (Jvm.Cond.instanceMethod ({ cls := "SpooledPostModel", name := "letter", desc := "(I)I" } : Jvm.MethodName)) ∈ WS := WSin (List.mem_of_getElem? (i := 1009) (by decide +kernel)) (by decide +kernel)
theorem wd_1010 : (Jvm.Cond.selects "SpooledPostModel" ({ cls := "SpooledPostModel", name := "letter", desc := "(I)I" } : Jvm.MethodName) ({ cls := "SpooledPostModel", name := "letter", desc := "(I)I" } : Jvm.MethodName)) ∈ WS := WSin (List.mem_of_getElem? (i := 1010) (by decide +kernel)) (by decide +kernel)
theorem wd_1011 : (Jvm.Cond.code ({ cls := "SpooledPostModel", name := "letter", desc := "(I)I" } : Jvm.MethodName) prog_12_method_52_code (7 : Nat) (Option.some Jvm.ClassFile.FieldType.int)) ∈ WS := WSin (List.mem_of_getElem? (i := 1011) (by decide +kernel)) (by decide +kernel)
theorem wd_1013 : (Jvm.Cond.instanceMethod ({ cls := "SpooledPostModel", name := "text", desc := "(II)C" } : Jvm.MethodName)) ∈ WS := WSin (List.mem_of_getElem? (i := 1013) (by decide +kernel)) (by decide +kernel)
theorem wd_1014 : (Jvm.Cond.selects "SpooledPostModel" ({ cls := "SpooledPostModel", name := "text", desc := "(II)C" } : Jvm.MethodName) ({ cls := "SpooledPostModel", name := "text", desc := "(II)C" } : Jvm.MethodName)) ∈ WS := WSin (List.mem_of_getElem? (i := 1014) (by decide +kernel)) (by decide +kernel)
theorem wd_1015 : (Jvm.Cond.code ({ cls := "SpooledPostModel", name := "text", desc := "(II)C" } : Jvm.MethodName) prog_12_method_53_code (4 : Nat) (Option.some Jvm.ClassFile.FieldType.char)) ∈ WS := WSin (List.mem_of_getElem? (i := 1015) (by decide +kernel)) (by decide +kernel)
theorem wd_1017 : (Jvm.Cond.instanceMethod ({ cls := "SpooledPostModel", name := "path", desc := "(III)C" } : Jvm.MethodName)) ∈ WS := WSin (List.mem_of_getElem? (i := 1017) (by decide +kernel)) (by decide +kernel)
theorem wd_1018 : (Jvm.Cond.selects "SpooledPostModel" ({ cls := "SpooledPostModel", name := "path", desc := "(III)C" } : Jvm.MethodName) ({ cls := "SpooledPostModel", name := "path", desc := "(III)C" } : Jvm.MethodName)) ∈ WS := WSin (List.mem_of_getElem? (i := 1018) (by decide +kernel)) (by decide +kernel)
theorem wd_1019 : (Jvm.Cond.code ({ cls := "SpooledPostModel", name := "path", desc := "(III)C" } : Jvm.MethodName) prog_12_method_54_code (6 : Nat) (Option.some Jvm.ClassFile.FieldType.char)) ∈ WS := WSin (List.mem_of_getElem? (i := 1019) (by decide +kernel)) (by decide +kernel)
theorem wd_1021 : (Jvm.Cond.instanceMethod ({ cls := "SpooledPostModel", name := "recipient", desc := "(II)I" } : Jvm.MethodName)) ∈ WS := WSin (List.mem_of_getElem? (i := 1021) (by decide +kernel)) (by decide +kernel)
theorem wd_1022 : (Jvm.Cond.selects "SpooledPostModel" ({ cls := "SpooledPostModel", name := "recipient", desc := "(II)I" } : Jvm.MethodName) ({ cls := "SpooledPostModel", name := "recipient", desc := "(II)I" } : Jvm.MethodName)) ∈ WS := WSin (List.mem_of_getElem? (i := 1022) (by decide +kernel)) (by decide +kernel)
theorem wd_1023 : (Jvm.Cond.code ({ cls := "SpooledPostModel", name := "recipient", desc := "(II)I" } : Jvm.MethodName) prog_12_method_55_code (4 : Nat) (Option.some Jvm.ClassFile.FieldType.int)) ∈ WS := WSin (List.mem_of_getElem? (i := 1023) (by decide +kernel)) (by decide +kernel)
theorem wd_1025 : (Jvm.Cond.instanceMethod ({ cls := "SpooledPostModel", name := "due", desc := "(II)I" } : Jvm.MethodName)) ∈ WS := WSin (List.mem_of_getElem? (i := 1025) (by decide +kernel)) (by decide +kernel)
theorem wd_1026 : (Jvm.Cond.selects "SpooledPostModel" ({ cls := "SpooledPostModel", name := "due", desc := "(II)I" } : Jvm.MethodName) ({ cls := "SpooledPostModel", name := "due", desc := "(II)I" } : Jvm.MethodName)) ∈ WS := WSin (List.mem_of_getElem? (i := 1026) (by decide +kernel)) (by decide +kernel)
theorem wd_1027 : (Jvm.Cond.code ({ cls := "SpooledPostModel", name := "due", desc := "(II)I" } : Jvm.MethodName) prog_12_method_56_code (4 : Nat) (Option.some Jvm.ClassFile.FieldType.int)) ∈ WS := WSin (List.mem_of_getElem? (i := 1027) (by decide +kernel)) (by decide +kernel)
theorem wd_1029 : (Jvm.Cond.fieldLink "SpooledPost" (211 : Nat) "SpooledPost$Command" "word" "Ljava/lang/String;") ∈ WS := WSin (List.mem_of_getElem? (i := 1029) (by decide +kernel)) (by decide +kernel)
theorem wd_1030 : (Jvm.Cond.fieldLink "java/lang/String" (9 : Nat) "java/lang/String" "value" "[B") ∈ WS := WSin (List.mem_of_getElem? (i := 1030) (by decide +kernel)) (by decide +kernel)
theorem wd_1031 : (Jvm.Cond.fieldLink "java/lang/String" (15 : Nat) "java/lang/String" "coder" "B") ∈ WS := WSin (List.mem_of_getElem? (i := 1031) (by decide +kernel)) (by decide +kernel)
end
section
theorem gf_P_line {d : Nat} {M : ZM} {pc idx : Nat} {lv : List (Option ZV)} {st : List ZV} {h : ZH} {Q : Option ZV → ZH → Prop} (hlk : Cond.fieldLink M.1.cls idx "SpooledPost" "line" "LSpooledPost$Row;" ∈ WS) (hd : decode M.2.1 pc = .ok (.getfield idx, 3)) (kk : EvAt d M (pc + 3) lv (vQ (some (1, 0)) :: st) h Q) : EvAt d M pc lv (vQ (some (0, 0)) :: st) h Q := zo_get (C := "SpooledPost") (T := kT_P) (N := 5) (j := 0) (zin (by decide) (by decide)) rfl rfl kI_P (by decide) hlk (v := vQ (some (1, 0))) (fun _ => rfl) hd kk
theorem gf_P_session {d : Nat} {M : ZM} {pc idx : Nat} {lv : List (Option ZV)} {st : List ZV} {h : ZH} {Q : Option ZV → ZH → Prop} (hlk : Cond.fieldLink M.1.cls idx "SpooledPost" "session" "LSpooledPost$Session;" ∈ WS) (hd : decode M.2.1 pc = .ok (.getfield idx, 3)) (kk : EvAt d M (pc + 3) lv (vQ (some (3, 0)) :: st) h Q) : EvAt d M pc lv (vQ (some (0, 0)) :: st) h Q := zo_get (C := "SpooledPost") (T := kT_P) (N := 5) (j := 1) (zin (by decide) (by decide)) rfl rfl kI_P (by decide) hlk (v := vQ (some (3, 0))) (fun _ => rfl) hd kk
theorem gf_P_spool {d : Nat} {M : ZM} {pc idx : Nat} {lv : List (Option ZV)} {st : List ZV} {h : ZH} {Q : Option ZV → ZH → Prop} (hlk : Cond.fieldLink M.1.cls idx "SpooledPost" "spool" "LSpooledPost$Spool;" ∈ WS) (hd : decode M.2.1 pc = .ok (.getfield idx, 3)) (kk : EvAt d M (pc + 3) lv (vQ (some (5, 0)) :: st) h Q) : EvAt d M pc lv (vQ (some (0, 0)) :: st) h Q := zo_get (C := "SpooledPost") (T := kT_P) (N := 5) (j := 2) (zin (by decide) (by decide)) rfl rfl kI_P (by decide) hlk (v := vQ (some (5, 0))) (fun _ => rfl) hd kk
theorem gf_P_reader {d : Nat} {M : ZM} {pc idx : Nat} {lv : List (Option ZV)} {st : List ZV} {h : ZH} {Q : Option ZV → ZH → Prop} (hlk : Cond.fieldLink M.1.cls idx "SpooledPost" "reader" "LSpooledPost$PartReader;" ∈ WS) (hd : decode M.2.1 pc = .ok (.getfield idx, 3)) (kk : EvAt d M (pc + 3) lv (vQ (some (10, 0)) :: st) h Q) : EvAt d M pc lv (vQ (some (0, 0)) :: st) h Q := zo_get (C := "SpooledPost") (T := kT_P) (N := 5) (j := 3) (zin (by decide) (by decide)) rfl rfl kI_P (by decide) hlk (v := vQ (some (10, 0))) (fun _ => rfl) hd kk
theorem gf_P_now {d : Nat} {M : ZM} {pc idx : Nat} {lv : List (Option ZV)} {st : List ZV} {h : ZH} {Q : Option ZV → ZH → Prop} (hlk : Cond.fieldLink M.1.cls idx "SpooledPost" "now" "I" ∈ WS) (hd : decode M.2.1 pc = .ok (.getfield idx, 3)) (kk : EvAt d M (pc + 3) lv (vI (zi h 0 0 4) :: st) h Q) : EvAt d M pc lv (vQ (some (0, 0)) :: st) h Q := zo_get (C := "SpooledPost") (T := kT_P) (N := 5) (j := 4) (zin (by decide) (by decide)) rfl rfl kI_P (by decide) hlk (fun _ => rfl) hd kk
theorem pf_P_now {d : Nat} {M : ZM} {pc idx : Nat} {lv : List (Option ZV)} {st : List ZV} {h : ZH} {Q : Option ZV → ZH → Prop} {x : Int32} (hlk : Cond.fieldLink M.1.cls idx "SpooledPost" "now" "I" ∈ WS) (hd : decode M.2.1 pc = .ok (.putfield idx, 3)) (kk : EvAt d M (pc + 3) lv st (zw h 0 0 4 x) Q) : EvAt d M pc lv (vI x :: vQ (some (0, 0)) :: st) h Q := zo_putI (C := "SpooledPost") (T := kT_P) (N := 5) (j := 4) (ty0 := kY_P) (ty := .int) (zin (by decide) (by decide)) rfl rfl kI_P kO_P kN_P (by decide) hlk rfl rfl rfl rfl rfl hd kk
theorem gf_R_chars {d : Nat} {M : ZM} {pc idx : Nat} {lv : List (Option ZV)} {st : List ZV} {h : ZH} {Q : Option ZV → ZH → Prop} {i : Nat} (hlk : Cond.fieldLink M.1.cls idx "SpooledPost$Row" "chars" "[C" ∈ WS) (hi : i < 43) (hd : decode M.2.1 pc = .ok (.getfield idx, 3)) (kk : EvAt d M (pc + 3) lv (vQ (some (2, i)) :: st) h Q) : EvAt d M pc lv (vQ (some (1, i)) :: st) h Q := zo_get (C := "SpooledPost$Row") (T := kT_R) (N := 2) (j := 0) (zin (by decide) hi) rfl rfl kI_R (by decide) hlk (v := vQ (some (2, i))) (fun _ => rfl) hd kk
theorem gf_R_length {d : Nat} {M : ZM} {pc idx : Nat} {lv : List (Option ZV)} {st : List ZV} {h : ZH} {Q : Option ZV → ZH → Prop} {i : Nat} (hlk : Cond.fieldLink M.1.cls idx "SpooledPost$Row" "length" "I" ∈ WS) (hi : i < 43) (hd : decode M.2.1 pc = .ok (.getfield idx, 3)) (kk : EvAt d M (pc + 3) lv (vI (zi h 1 i 1) :: st) h Q) : EvAt d M pc lv (vQ (some (1, i)) :: st) h Q := zo_get (C := "SpooledPost$Row") (T := kT_R) (N := 2) (j := 1) (zin (by decide) hi) rfl rfl kI_R (by decide) hlk (fun _ => rfl) hd kk
theorem pf_R_length {d : Nat} {M : ZM} {pc idx : Nat} {lv : List (Option ZV)} {st : List ZV} {h : ZH} {Q : Option ZV → ZH → Prop} {i : Nat} {x : Int32} (hlk : Cond.fieldLink M.1.cls idx "SpooledPost$Row" "length" "I" ∈ WS) (hi : i < 43) (hd : decode M.2.1 pc = .ok (.putfield idx, 3)) (kk : EvAt d M (pc + 3) lv st (zw h 1 i 1 x) Q) : EvAt d M pc lv (vI x :: vQ (some (1, i)) :: st) h Q := zo_putI (C := "SpooledPost$Row") (T := kT_R) (N := 2) (j := 1) (ty0 := kY_R) (ty := .int) (zin (by decide) hi) rfl rfl kI_R kO_R kN_R (by decide) hlk rfl rfl rfl rfl rfl hd kk
theorem gf_S_sender {d : Nat} {M : ZM} {pc idx : Nat} {lv : List (Option ZV)} {st : List ZV} {h : ZH} {Q : Option ZV → ZH → Prop} (hlk : Cond.fieldLink M.1.cls idx "SpooledPost$Session" "sender" "LSpooledPost$Row;" ∈ WS) (hd : decode M.2.1 pc = .ok (.getfield idx, 3)) (kk : EvAt d M (pc + 3) lv (vQ (some (1, 1)) :: st) h Q) : EvAt d M pc lv (vQ (some (3, 0)) :: st) h Q := zo_get (C := "SpooledPost$Session") (T := kT_S) (N := 8) (j := 0) (zin (by decide) (by decide)) rfl rfl kI_S (by decide) hlk (v := vQ (some (1, 1))) (fun _ => rfl) hd kk
theorem gf_S_recipients {d : Nat} {M : ZM} {pc idx : Nat} {lv : List (Option ZV)} {st : List ZV} {h : ZH} {Q : Option ZV → ZH → Prop} (hlk : Cond.fieldLink M.1.cls idx "SpooledPost$Session" "recipients" "[LSpooledPost$Row;" ∈ WS) (hd : decode M.2.1 pc = .ok (.getfield idx, 3)) (kk : EvAt d M (pc + 3) lv (vQ (some (4, 0)) :: st) h Q) : EvAt d M pc lv (vQ (some (3, 0)) :: st) h Q := zo_get (C := "SpooledPost$Session") (T := kT_S) (N := 8) (j := 1) (zin (by decide) (by decide)) rfl rfl kI_S (by decide) hlk (v := vQ (some (4, 0))) (fun _ => rfl) hd kk
theorem gf_S_text {d : Nat} {M : ZM} {pc idx : Nat} {lv : List (Option ZV)} {st : List ZV} {h : ZH} {Q : Option ZV → ZH → Prop} (hlk : Cond.fieldLink M.1.cls idx "SpooledPost$Session" "text" "LSpooledPost$Row;" ∈ WS) (hd : decode M.2.1 pc = .ok (.getfield idx, 3)) (kk : EvAt d M (pc + 3) lv (vQ (some (1, 6)) :: st) h Q) : EvAt d M pc lv (vQ (some (3, 0)) :: st) h Q := zo_get (C := "SpooledPost$Session") (T := kT_S) (N := 8) (j := 2) (zin (by decide) (by decide)) rfl rfl kI_S (by decide) hlk (v := vQ (some (1, 6))) (fun _ => rfl) hd kk
theorem gf_S_recipientCount {d : Nat} {M : ZM} {pc idx : Nat} {lv : List (Option ZV)} {st : List ZV} {h : ZH} {Q : Option ZV → ZH → Prop} (hlk : Cond.fieldLink M.1.cls idx "SpooledPost$Session" "recipientCount" "I" ∈ WS) (hd : decode M.2.1 pc = .ok (.getfield idx, 3)) (kk : EvAt d M (pc + 3) lv (vI (zi h 3 0 3) :: st) h Q) : EvAt d M pc lv (vQ (some (3, 0)) :: st) h Q := zo_get (C := "SpooledPost$Session") (T := kT_S) (N := 8) (j := 3) (zin (by decide) (by decide)) rfl rfl kI_S (by decide) hlk (fun _ => rfl) hd kk
theorem pf_S_recipientCount {d : Nat} {M : ZM} {pc idx : Nat} {lv : List (Option ZV)} {st : List ZV} {h : ZH} {Q : Option ZV → ZH → Prop} {x : Int32} (hlk : Cond.fieldLink M.1.cls idx "SpooledPost$Session" "recipientCount" "I" ∈ WS) (hd : decode M.2.1 pc = .ok (.putfield idx, 3)) (kk : EvAt d M (pc + 3) lv st (zw h 3 0 3 x) Q) : EvAt d M pc lv (vI x :: vQ (some (3, 0)) :: st) h Q := zo_putI (C := "SpooledPost$Session") (T := kT_S) (N := 8) (j := 3) (ty0 := kY_S) (ty := .int) (zin (by decide) (by decide)) rfl rfl kI_S kO_S kN_S (by decide) hlk rfl rfl rfl rfl rfl hd kk
theorem gf_S_greeted {d : Nat} {M : ZM} {pc idx : Nat} {lv : List (Option ZV)} {st : List ZV} {h : ZH} {Q : Option ZV → ZH → Prop} (hlk : Cond.fieldLink M.1.cls idx "SpooledPost$Session" "greeted" "Z" ∈ WS) (hd : decode M.2.1 pc = .ok (.getfield idx, 3)) (kk : EvAt d M (pc + 3) lv (vI (zi h 3 0 4) :: st) h Q) : EvAt d M pc lv (vQ (some (3, 0)) :: st) h Q := zo_get (C := "SpooledPost$Session") (T := kT_S) (N := 8) (j := 4) (zin (by decide) (by decide)) rfl rfl kI_S (by decide) hlk (fun _ => rfl) hd kk
theorem pf_S_greeted {d : Nat} {M : ZM} {pc idx : Nat} {lv : List (Option ZV)} {st : List ZV} {h : ZH} {Q : Option ZV → ZH → Prop} {x : Int32} (hlk : Cond.fieldLink M.1.cls idx "SpooledPost$Session" "greeted" "Z" ∈ WS) (hb : x = 0 ∨ x = 1) (hd : decode M.2.1 pc = .ok (.putfield idx, 3)) (kk : EvAt d M (pc + 3) lv st (zw h 3 0 4 x) Q) : EvAt d M pc lv (vI x :: vQ (some (3, 0)) :: st) h Q := zo_putI (C := "SpooledPost$Session") (T := kT_S) (N := 8) (j := 4) (ty0 := kY_S) (ty := .boolean) (zin (by decide) (by decide)) rfl rfl kI_S kO_S kN_S (by decide) hlk rfl rfl rfl (by rcases hb with rfl | rfl <;> rfl) (by rcases hb with rfl | rfl <;> rfl) hd kk
theorem gf_S_inTransaction {d : Nat} {M : ZM} {pc idx : Nat} {lv : List (Option ZV)} {st : List ZV} {h : ZH} {Q : Option ZV → ZH → Prop} (hlk : Cond.fieldLink M.1.cls idx "SpooledPost$Session" "inTransaction" "Z" ∈ WS) (hd : decode M.2.1 pc = .ok (.getfield idx, 3)) (kk : EvAt d M (pc + 3) lv (vI (zi h 3 0 5) :: st) h Q) : EvAt d M pc lv (vQ (some (3, 0)) :: st) h Q := zo_get (C := "SpooledPost$Session") (T := kT_S) (N := 8) (j := 5) (zin (by decide) (by decide)) rfl rfl kI_S (by decide) hlk (fun _ => rfl) hd kk
theorem pf_S_inTransaction {d : Nat} {M : ZM} {pc idx : Nat} {lv : List (Option ZV)} {st : List ZV} {h : ZH} {Q : Option ZV → ZH → Prop} {x : Int32} (hlk : Cond.fieldLink M.1.cls idx "SpooledPost$Session" "inTransaction" "Z" ∈ WS) (hb : x = 0 ∨ x = 1) (hd : decode M.2.1 pc = .ok (.putfield idx, 3)) (kk : EvAt d M (pc + 3) lv st (zw h 3 0 5 x) Q) : EvAt d M pc lv (vI x :: vQ (some (3, 0)) :: st) h Q := zo_putI (C := "SpooledPost$Session") (T := kT_S) (N := 8) (j := 5) (ty0 := kY_S) (ty := .boolean) (zin (by decide) (by decide)) rfl rfl kI_S kO_S kN_S (by decide) hlk rfl rfl rfl (by rcases hb with rfl | rfl <;> rfl) (by rcases hb with rfl | rfl <;> rfl) hd kk
theorem gf_S_taking {d : Nat} {M : ZM} {pc idx : Nat} {lv : List (Option ZV)} {st : List ZV} {h : ZH} {Q : Option ZV → ZH → Prop} (hlk : Cond.fieldLink M.1.cls idx "SpooledPost$Session" "taking" "Z" ∈ WS) (hd : decode M.2.1 pc = .ok (.getfield idx, 3)) (kk : EvAt d M (pc + 3) lv (vI (zi h 3 0 6) :: st) h Q) : EvAt d M pc lv (vQ (some (3, 0)) :: st) h Q := zo_get (C := "SpooledPost$Session") (T := kT_S) (N := 8) (j := 6) (zin (by decide) (by decide)) rfl rfl kI_S (by decide) hlk (fun _ => rfl) hd kk
theorem pf_S_taking {d : Nat} {M : ZM} {pc idx : Nat} {lv : List (Option ZV)} {st : List ZV} {h : ZH} {Q : Option ZV → ZH → Prop} {x : Int32} (hlk : Cond.fieldLink M.1.cls idx "SpooledPost$Session" "taking" "Z" ∈ WS) (hb : x = 0 ∨ x = 1) (hd : decode M.2.1 pc = .ok (.putfield idx, 3)) (kk : EvAt d M (pc + 3) lv st (zw h 3 0 6 x) Q) : EvAt d M pc lv (vI x :: vQ (some (3, 0)) :: st) h Q := zo_putI (C := "SpooledPost$Session") (T := kT_S) (N := 8) (j := 6) (ty0 := kY_S) (ty := .boolean) (zin (by decide) (by decide)) rfl rfl kI_S kO_S kN_S (by decide) hlk rfl rfl rfl (by rcases hb with rfl | rfl <;> rfl) (by rcases hb with rfl | rfl <;> rfl) hd kk
theorem gf_S_tooLong {d : Nat} {M : ZM} {pc idx : Nat} {lv : List (Option ZV)} {st : List ZV} {h : ZH} {Q : Option ZV → ZH → Prop} (hlk : Cond.fieldLink M.1.cls idx "SpooledPost$Session" "tooLong" "Z" ∈ WS) (hd : decode M.2.1 pc = .ok (.getfield idx, 3)) (kk : EvAt d M (pc + 3) lv (vI (zi h 3 0 7) :: st) h Q) : EvAt d M pc lv (vQ (some (3, 0)) :: st) h Q := zo_get (C := "SpooledPost$Session") (T := kT_S) (N := 8) (j := 7) (zin (by decide) (by decide)) rfl rfl kI_S (by decide) hlk (fun _ => rfl) hd kk
theorem pf_S_tooLong {d : Nat} {M : ZM} {pc idx : Nat} {lv : List (Option ZV)} {st : List ZV} {h : ZH} {Q : Option ZV → ZH → Prop} {x : Int32} (hlk : Cond.fieldLink M.1.cls idx "SpooledPost$Session" "tooLong" "Z" ∈ WS) (hb : x = 0 ∨ x = 1) (hd : decode M.2.1 pc = .ok (.putfield idx, 3)) (kk : EvAt d M (pc + 3) lv st (zw h 3 0 7 x) Q) : EvAt d M pc lv (vI x :: vQ (some (3, 0)) :: st) h Q := zo_putI (C := "SpooledPost$Session") (T := kT_S) (N := 8) (j := 7) (ty0 := kY_S) (ty := .boolean) (zin (by decide) (by decide)) rfl rfl kI_S kO_S kN_S (by decide) hlk rfl rfl rfl (by rcases hb with rfl | rfl <;> rfl) (by rcases hb with rfl | rfl <;> rfl) hd kk
theorem gf_O_row {d : Nat} {M : ZM} {pc idx : Nat} {lv : List (Option ZV)} {st : List ZV} {h : ZH} {Q : Option ZV → ZH → Prop} (hlk : Cond.fieldLink M.1.cls idx "SpooledPost$Spool" "row" "[LSpooledPost$Letter;" ∈ WS) (hd : decode M.2.1 pc = .ok (.getfield idx, 3)) (kk : EvAt d M (pc + 3) lv (vQ (some (6, 0)) :: st) h Q) : EvAt d M pc lv (vQ (some (5, 0)) :: st) h Q := zo_get (C := "SpooledPost$Spool") (T := kT_O) (N := 5) (j := 0) (zin (by decide) (by decide)) rfl rfl kI_O (by decide) hlk (v := vQ (some (6, 0))) (fun _ => rfl) hd kk
theorem gf_O_count {d : Nat} {M : ZM} {pc idx : Nat} {lv : List (Option ZV)} {st : List ZV} {h : ZH} {Q : Option ZV → ZH → Prop} (hlk : Cond.fieldLink M.1.cls idx "SpooledPost$Spool" "count" "I" ∈ WS) (hd : decode M.2.1 pc = .ok (.getfield idx, 3)) (kk : EvAt d M (pc + 3) lv (vI (zi h 5 0 1) :: st) h Q) : EvAt d M pc lv (vQ (some (5, 0)) :: st) h Q := zo_get (C := "SpooledPost$Spool") (T := kT_O) (N := 5) (j := 1) (zin (by decide) (by decide)) rfl rfl kI_O (by decide) hlk (fun _ => rfl) hd kk
theorem pf_O_count {d : Nat} {M : ZM} {pc idx : Nat} {lv : List (Option ZV)} {st : List ZV} {h : ZH} {Q : Option ZV → ZH → Prop} {x : Int32} (hlk : Cond.fieldLink M.1.cls idx "SpooledPost$Spool" "count" "I" ∈ WS) (hd : decode M.2.1 pc = .ok (.putfield idx, 3)) (kk : EvAt d M (pc + 3) lv st (zw h 5 0 1 x) Q) : EvAt d M pc lv (vI x :: vQ (some (5, 0)) :: st) h Q := zo_putI (C := "SpooledPost$Spool") (T := kT_O) (N := 5) (j := 1) (ty0 := kY_O) (ty := .int) (zin (by decide) (by decide)) rfl rfl kI_O kO_O kN_O (by decide) hlk rfl rfl rfl rfl rfl hd kk
theorem gf_O_nextNumber {d : Nat} {M : ZM} {pc idx : Nat} {lv : List (Option ZV)} {st : List ZV} {h : ZH} {Q : Option ZV → ZH → Prop} (hlk : Cond.fieldLink M.1.cls idx "SpooledPost$Spool" "nextNumber" "I" ∈ WS) (hd : decode M.2.1 pc = .ok (.getfield idx, 3)) (kk : EvAt d M (pc + 3) lv (vI (zi h 5 0 2) :: st) h Q) : EvAt d M pc lv (vQ (some (5, 0)) :: st) h Q := zo_get (C := "SpooledPost$Spool") (T := kT_O) (N := 5) (j := 2) (zin (by decide) (by decide)) rfl rfl kI_O (by decide) hlk (fun _ => rfl) hd kk
theorem pf_O_nextNumber {d : Nat} {M : ZM} {pc idx : Nat} {lv : List (Option ZV)} {st : List ZV} {h : ZH} {Q : Option ZV → ZH → Prop} {x : Int32} (hlk : Cond.fieldLink M.1.cls idx "SpooledPost$Spool" "nextNumber" "I" ∈ WS) (hd : decode M.2.1 pc = .ok (.putfield idx, 3)) (kk : EvAt d M (pc + 3) lv st (zw h 5 0 2 x) Q) : EvAt d M pc lv (vI x :: vQ (some (5, 0)) :: st) h Q := zo_putI (C := "SpooledPost$Spool") (T := kT_O) (N := 5) (j := 2) (ty0 := kY_O) (ty := .int) (zin (by decide) (by decide)) rfl rfl kI_O kO_O kN_O (by decide) hlk rfl rfl rfl rfl rfl hd kk
theorem gf_O_writesLeft {d : Nat} {M : ZM} {pc idx : Nat} {lv : List (Option ZV)} {st : List ZV} {h : ZH} {Q : Option ZV → ZH → Prop} (hlk : Cond.fieldLink M.1.cls idx "SpooledPost$Spool" "writesLeft" "I" ∈ WS) (hd : decode M.2.1 pc = .ok (.getfield idx, 3)) (kk : EvAt d M (pc + 3) lv (vI (zi h 5 0 3) :: st) h Q) : EvAt d M pc lv (vQ (some (5, 0)) :: st) h Q := zo_get (C := "SpooledPost$Spool") (T := kT_O) (N := 5) (j := 3) (zin (by decide) (by decide)) rfl rfl kI_O (by decide) hlk (fun _ => rfl) hd kk
theorem pf_O_writesLeft {d : Nat} {M : ZM} {pc idx : Nat} {lv : List (Option ZV)} {st : List ZV} {h : ZH} {Q : Option ZV → ZH → Prop} {x : Int32} (hlk : Cond.fieldLink M.1.cls idx "SpooledPost$Spool" "writesLeft" "I" ∈ WS) (hd : decode M.2.1 pc = .ok (.putfield idx, 3)) (kk : EvAt d M (pc + 3) lv st (zw h 5 0 3 x) Q) : EvAt d M pc lv (vI x :: vQ (some (5, 0)) :: st) h Q := zo_putI (C := "SpooledPost$Spool") (T := kT_O) (N := 5) (j := 3) (ty0 := kY_O) (ty := .int) (zin (by decide) (by decide)) rfl rfl kI_O kO_O kN_O (by decide) hlk rfl rfl rfl rfl rfl hd kk
theorem gf_O_down {d : Nat} {M : ZM} {pc idx : Nat} {lv : List (Option ZV)} {st : List ZV} {h : ZH} {Q : Option ZV → ZH → Prop} (hlk : Cond.fieldLink M.1.cls idx "SpooledPost$Spool" "down" "Z" ∈ WS) (hd : decode M.2.1 pc = .ok (.getfield idx, 3)) (kk : EvAt d M (pc + 3) lv (vI (zi h 5 0 4) :: st) h Q) : EvAt d M pc lv (vQ (some (5, 0)) :: st) h Q := zo_get (C := "SpooledPost$Spool") (T := kT_O) (N := 5) (j := 4) (zin (by decide) (by decide)) rfl rfl kI_O (by decide) hlk (fun _ => rfl) hd kk
theorem pf_O_down {d : Nat} {M : ZM} {pc idx : Nat} {lv : List (Option ZV)} {st : List ZV} {h : ZH} {Q : Option ZV → ZH → Prop} {x : Int32} (hlk : Cond.fieldLink M.1.cls idx "SpooledPost$Spool" "down" "Z" ∈ WS) (hb : x = 0 ∨ x = 1) (hd : decode M.2.1 pc = .ok (.putfield idx, 3)) (kk : EvAt d M (pc + 3) lv st (zw h 5 0 4 x) Q) : EvAt d M pc lv (vI x :: vQ (some (5, 0)) :: st) h Q := zo_putI (C := "SpooledPost$Spool") (T := kT_O) (N := 5) (j := 4) (ty0 := kY_O) (ty := .boolean) (zin (by decide) (by decide)) rfl rfl kI_O kO_O kN_O (by decide) hlk rfl rfl rfl (by rcases hb with rfl | rfl <;> rfl) (by rcases hb with rfl | rfl <;> rfl) hd kk
theorem gf_L_sender {d : Nat} {M : ZM} {pc idx : Nat} {lv : List (Option ZV)} {st : List ZV} {h : ZH} {Q : Option ZV → ZH → Prop} {i : Nat} (hlk : Cond.fieldLink M.1.cls idx "SpooledPost$Letter" "sender" "LSpooledPost$Row;" ∈ WS) (hi : i < 6) (hd : decode M.2.1 pc = .ok (.getfield idx, 3)) (kk : EvAt d M (pc + 3) lv (vQ (some (1, 7 + i)) :: st) h Q) : EvAt d M pc lv (vQ (some (7, i)) :: st) h Q := zo_get (C := "SpooledPost$Letter") (T := kT_L) (N := 6) (j := 0) (zin (by decide) hi) rfl rfl kI_L (by decide) hlk (v := vQ (some (1, 7 + i))) (fun _ => rfl) hd kk
theorem gf_L_recipients {d : Nat} {M : ZM} {pc idx : Nat} {lv : List (Option ZV)} {st : List ZV} {h : ZH} {Q : Option ZV → ZH → Prop} {i : Nat} (hlk : Cond.fieldLink M.1.cls idx "SpooledPost$Letter" "recipients" "[LSpooledPost$Recipient;" ∈ WS) (hi : i < 6) (hd : decode M.2.1 pc = .ok (.getfield idx, 3)) (kk : EvAt d M (pc + 3) lv (vQ (some (8, i)) :: st) h Q) : EvAt d M pc lv (vQ (some (7, i)) :: st) h Q := zo_get (C := "SpooledPost$Letter") (T := kT_L) (N := 6) (j := 1) (zin (by decide) hi) rfl rfl kI_L (by decide) hlk (v := vQ (some (8, i))) (fun _ => rfl) hd kk
theorem gf_L_text {d : Nat} {M : ZM} {pc idx : Nat} {lv : List (Option ZV)} {st : List ZV} {h : ZH} {Q : Option ZV → ZH → Prop} {i : Nat} (hlk : Cond.fieldLink M.1.cls idx "SpooledPost$Letter" "text" "LSpooledPost$Row;" ∈ WS) (hi : i < 6) (hd : decode M.2.1 pc = .ok (.getfield idx, 3)) (kk : EvAt d M (pc + 3) lv (vQ (some (1, 13 + i)) :: st) h Q) : EvAt d M pc lv (vQ (some (7, i)) :: st) h Q := zo_get (C := "SpooledPost$Letter") (T := kT_L) (N := 6) (j := 2) (zin (by decide) hi) rfl rfl kI_L (by decide) hlk (v := vQ (some (1, 13 + i))) (fun _ => rfl) hd kk
theorem gf_L_recipientCount {d : Nat} {M : ZM} {pc idx : Nat} {lv : List (Option ZV)} {st : List ZV} {h : ZH} {Q : Option ZV → ZH → Prop} {i : Nat} (hlk : Cond.fieldLink M.1.cls idx "SpooledPost$Letter" "recipientCount" "I" ∈ WS) (hi : i < 6) (hd : decode M.2.1 pc = .ok (.getfield idx, 3)) (kk : EvAt d M (pc + 3) lv (vI (zi h 7 i 3) :: st) h Q) : EvAt d M pc lv (vQ (some (7, i)) :: st) h Q := zo_get (C := "SpooledPost$Letter") (T := kT_L) (N := 6) (j := 3) (zin (by decide) hi) rfl rfl kI_L (by decide) hlk (fun _ => rfl) hd kk
theorem pf_L_recipientCount {d : Nat} {M : ZM} {pc idx : Nat} {lv : List (Option ZV)} {st : List ZV} {h : ZH} {Q : Option ZV → ZH → Prop} {i : Nat} {x : Int32} (hlk : Cond.fieldLink M.1.cls idx "SpooledPost$Letter" "recipientCount" "I" ∈ WS) (hi : i < 6) (hd : decode M.2.1 pc = .ok (.putfield idx, 3)) (kk : EvAt d M (pc + 3) lv st (zw h 7 i 3 x) Q) : EvAt d M pc lv (vI x :: vQ (some (7, i)) :: st) h Q := zo_putI (C := "SpooledPost$Letter") (T := kT_L) (N := 6) (j := 3) (ty0 := kY_L) (ty := .int) (zin (by decide) hi) rfl rfl kI_L kO_L kN_L (by decide) hlk rfl rfl rfl rfl rfl hd kk
theorem gf_L_number {d : Nat} {M : ZM} {pc idx : Nat} {lv : List (Option ZV)} {st : List ZV} {h : ZH} {Q : Option ZV → ZH → Prop} {i : Nat} (hlk : Cond.fieldLink M.1.cls idx "SpooledPost$Letter" "number" "I" ∈ WS) (hi : i < 6) (hd : decode M.2.1 pc = .ok (.getfield idx, 3)) (kk : EvAt d M (pc + 3) lv (vI (zi h 7 i 4) :: st) h Q) : EvAt d M pc lv (vQ (some (7, i)) :: st) h Q := zo_get (C := "SpooledPost$Letter") (T := kT_L) (N := 6) (j := 4) (zin (by decide) hi) rfl rfl kI_L (by decide) hlk (fun _ => rfl) hd kk
theorem pf_L_number {d : Nat} {M : ZM} {pc idx : Nat} {lv : List (Option ZV)} {st : List ZV} {h : ZH} {Q : Option ZV → ZH → Prop} {i : Nat} {x : Int32} (hlk : Cond.fieldLink M.1.cls idx "SpooledPost$Letter" "number" "I" ∈ WS) (hi : i < 6) (hd : decode M.2.1 pc = .ok (.putfield idx, 3)) (kk : EvAt d M (pc + 3) lv st (zw h 7 i 4 x) Q) : EvAt d M pc lv (vI x :: vQ (some (7, i)) :: st) h Q := zo_putI (C := "SpooledPost$Letter") (T := kT_L) (N := 6) (j := 4) (ty0 := kY_L) (ty := .int) (zin (by decide) hi) rfl rfl kI_L kO_L kN_L (by decide) hlk rfl rfl rfl rfl rfl hd kk
theorem gf_L_sealed {d : Nat} {M : ZM} {pc idx : Nat} {lv : List (Option ZV)} {st : List ZV} {h : ZH} {Q : Option ZV → ZH → Prop} {i : Nat} (hlk : Cond.fieldLink M.1.cls idx "SpooledPost$Letter" "sealed" "Z" ∈ WS) (hi : i < 6) (hd : decode M.2.1 pc = .ok (.getfield idx, 3)) (kk : EvAt d M (pc + 3) lv (vI (zi h 7 i 5) :: st) h Q) : EvAt d M pc lv (vQ (some (7, i)) :: st) h Q := zo_get (C := "SpooledPost$Letter") (T := kT_L) (N := 6) (j := 5) (zin (by decide) hi) rfl rfl kI_L (by decide) hlk (fun _ => rfl) hd kk
theorem pf_L_sealed {d : Nat} {M : ZM} {pc idx : Nat} {lv : List (Option ZV)} {st : List ZV} {h : ZH} {Q : Option ZV → ZH → Prop} {i : Nat} {x : Int32} (hlk : Cond.fieldLink M.1.cls idx "SpooledPost$Letter" "sealed" "Z" ∈ WS) (hi : i < 6) (hb : x = 0 ∨ x = 1) (hd : decode M.2.1 pc = .ok (.putfield idx, 3)) (kk : EvAt d M (pc + 3) lv st (zw h 7 i 5 x) Q) : EvAt d M pc lv (vI x :: vQ (some (7, i)) :: st) h Q := zo_putI (C := "SpooledPost$Letter") (T := kT_L) (N := 6) (j := 5) (ty0 := kY_L) (ty := .boolean) (zin (by decide) hi) rfl rfl kI_L kO_L kN_L (by decide) hlk rfl rfl rfl (by rcases hb with rfl | rfl <;> rfl) (by rcases hb with rfl | rfl <;> rfl) hd kk
theorem gf_C_path {d : Nat} {M : ZM} {pc idx : Nat} {lv : List (Option ZV)} {st : List ZV} {h : ZH} {Q : Option ZV → ZH → Prop} {i : Nat} (hlk : Cond.fieldLink M.1.cls idx "SpooledPost$Recipient" "path" "LSpooledPost$Row;" ∈ WS) (hi : i < 24) (hd : decode M.2.1 pc = .ok (.getfield idx, 3)) (kk : EvAt d M (pc + 3) lv (vQ (some (1, 19 + i)) :: st) h Q) : EvAt d M pc lv (vQ (some (9, i)) :: st) h Q := zo_get (C := "SpooledPost$Recipient") (T := kT_C) (N := 4) (j := 0) (zin (by decide) hi) rfl rfl kI_C (by decide) hlk (v := vQ (some (1, 19 + i))) (fun _ => rfl) hd kk
theorem gf_C_fate {d : Nat} {M : ZM} {pc idx : Nat} {lv : List (Option ZV)} {st : List ZV} {h : ZH} {Q : Option ZV → ZH → Prop} {i : Nat} (hlk : Cond.fieldLink M.1.cls idx "SpooledPost$Recipient" "fate" "I" ∈ WS) (hi : i < 24) (hd : decode M.2.1 pc = .ok (.getfield idx, 3)) (kk : EvAt d M (pc + 3) lv (vI (zi h 9 i 1) :: st) h Q) : EvAt d M pc lv (vQ (some (9, i)) :: st) h Q := zo_get (C := "SpooledPost$Recipient") (T := kT_C) (N := 4) (j := 1) (zin (by decide) hi) rfl rfl kI_C (by decide) hlk (fun _ => rfl) hd kk
theorem pf_C_fate {d : Nat} {M : ZM} {pc idx : Nat} {lv : List (Option ZV)} {st : List ZV} {h : ZH} {Q : Option ZV → ZH → Prop} {i : Nat} {x : Int32} (hlk : Cond.fieldLink M.1.cls idx "SpooledPost$Recipient" "fate" "I" ∈ WS) (hi : i < 24) (hd : decode M.2.1 pc = .ok (.putfield idx, 3)) (kk : EvAt d M (pc + 3) lv st (zw h 9 i 1 x) Q) : EvAt d M pc lv (vI x :: vQ (some (9, i)) :: st) h Q := zo_putI (C := "SpooledPost$Recipient") (T := kT_C) (N := 4) (j := 1) (ty0 := kY_C) (ty := .int) (zin (by decide) hi) rfl rfl kI_C kO_C kN_C (by decide) hlk rfl rfl rfl rfl rfl hd kk
theorem gf_C_tries {d : Nat} {M : ZM} {pc idx : Nat} {lv : List (Option ZV)} {st : List ZV} {h : ZH} {Q : Option ZV → ZH → Prop} {i : Nat} (hlk : Cond.fieldLink M.1.cls idx "SpooledPost$Recipient" "tries" "I" ∈ WS) (hi : i < 24) (hd : decode M.2.1 pc = .ok (.getfield idx, 3)) (kk : EvAt d M (pc + 3) lv (vI (zi h 9 i 2) :: st) h Q) : EvAt d M pc lv (vQ (some (9, i)) :: st) h Q := zo_get (C := "SpooledPost$Recipient") (T := kT_C) (N := 4) (j := 2) (zin (by decide) hi) rfl rfl kI_C (by decide) hlk (fun _ => rfl) hd kk
theorem pf_C_tries {d : Nat} {M : ZM} {pc idx : Nat} {lv : List (Option ZV)} {st : List ZV} {h : ZH} {Q : Option ZV → ZH → Prop} {i : Nat} {x : Int32} (hlk : Cond.fieldLink M.1.cls idx "SpooledPost$Recipient" "tries" "I" ∈ WS) (hi : i < 24) (hd : decode M.2.1 pc = .ok (.putfield idx, 3)) (kk : EvAt d M (pc + 3) lv st (zw h 9 i 2 x) Q) : EvAt d M pc lv (vI x :: vQ (some (9, i)) :: st) h Q := zo_putI (C := "SpooledPost$Recipient") (T := kT_C) (N := 4) (j := 2) (ty0 := kY_C) (ty := .int) (zin (by decide) hi) rfl rfl kI_C kO_C kN_C (by decide) hlk rfl rfl rfl rfl rfl hd kk
theorem gf_C_due {d : Nat} {M : ZM} {pc idx : Nat} {lv : List (Option ZV)} {st : List ZV} {h : ZH} {Q : Option ZV → ZH → Prop} {i : Nat} (hlk : Cond.fieldLink M.1.cls idx "SpooledPost$Recipient" "due" "I" ∈ WS) (hi : i < 24) (hd : decode M.2.1 pc = .ok (.getfield idx, 3)) (kk : EvAt d M (pc + 3) lv (vI (zi h 9 i 3) :: st) h Q) : EvAt d M pc lv (vQ (some (9, i)) :: st) h Q := zo_get (C := "SpooledPost$Recipient") (T := kT_C) (N := 4) (j := 3) (zin (by decide) hi) rfl rfl kI_C (by decide) hlk (fun _ => rfl) hd kk
theorem pf_C_due {d : Nat} {M : ZM} {pc idx : Nat} {lv : List (Option ZV)} {st : List ZV} {h : ZH} {Q : Option ZV → ZH → Prop} {i : Nat} {x : Int32} (hlk : Cond.fieldLink M.1.cls idx "SpooledPost$Recipient" "due" "I" ∈ WS) (hi : i < 24) (hd : decode M.2.1 pc = .ok (.putfield idx, 3)) (kk : EvAt d M (pc + 3) lv st (zw h 9 i 3 x) Q) : EvAt d M pc lv (vI x :: vQ (some (9, i)) :: st) h Q := zo_putI (C := "SpooledPost$Recipient") (T := kT_C) (N := 4) (j := 3) (ty0 := kY_C) (ty := .int) (zin (by decide) hi) rfl rfl kI_C kO_C kN_C (by decide) hlk rfl rfl rfl rfl rfl hd kk
theorem gf_D_lineStarts {d : Nat} {M : ZM} {pc idx : Nat} {lv : List (Option ZV)} {st : List ZV} {h : ZH} {Q : Option ZV → ZH → Prop} (hlk : Cond.fieldLink M.1.cls idx "SpooledPost$PartReader" "lineStarts" "[I" ∈ WS) (hd : decode M.2.1 pc = .ok (.getfield idx, 3)) (kk : EvAt d M (pc + 3) lv (vQ (some (11, 0)) :: st) h Q) : EvAt d M pc lv (vQ (some (10, 0)) :: st) h Q := zo_get (C := "SpooledPost$PartReader") (T := kT_D) (N := 6) (j := 0) (zin (by decide) (by decide)) rfl rfl kI_D (by decide) hlk (v := vQ (some (11, 0))) (fun _ => rfl) hd kk
theorem gf_D_facts {d : Nat} {M : ZM} {pc idx : Nat} {lv : List (Option ZV)} {st : List ZV} {h : ZH} {Q : Option ZV → ZH → Prop} (hlk : Cond.fieldLink M.1.cls idx "SpooledPost$PartReader" "facts" "[I" ∈ WS) (hd : decode M.2.1 pc = .ok (.getfield idx, 3)) (kk : EvAt d M (pc + 3) lv (vQ (some (11, 1)) :: st) h Q) : EvAt d M pc lv (vQ (some (10, 0)) :: st) h Q := zo_get (C := "SpooledPost$PartReader") (T := kT_D) (N := 6) (j := 1) (zin (by decide) (by decide)) rfl rfl kI_D (by decide) hlk (v := vQ (some (11, 1))) (fun _ => rfl) hd kk
theorem gf_D_text {d : Nat} {M : ZM} {pc idx : Nat} {lv : List (Option ZV)} {st : List ZV} {h : ZH} {Q : Option ZV → ZH → Prop} {q : Nat} (hlk : Cond.fieldLink M.1.cls idx "SpooledPost$PartReader" "text" "LSpooledPost$Row;" ∈ WS) (hq : zr h 10 0 2 = some q) (hd : decode M.2.1 pc = .ok (.getfield idx, 3)) (kk : EvAt d M (pc + 3) lv (vQ (some (1, q)) :: st) h Q) : EvAt d M pc lv (vQ (some (10, 0)) :: st) h Q := zo_get (C := "SpooledPost$PartReader") (T := kT_D) (N := 6) (j := 2) (zin (by decide) (by decide)) rfl rfl kI_D (by decide) hlk (v := vQ (some (1, q))) (fun G => by show va_rf ((zr h 10 0 2).map (G.1 1)) = _; rw [hq]; rfl) hd kk
theorem pf_D_text {d : Nat} {M : ZM} {pc idx : Nat} {lv : List (Option ZV)} {st : List ZV} {h : ZH} {Q : Option ZV → ZH → Prop} {q : Nat} (hlk : Cond.fieldLink M.1.cls idx "SpooledPost$PartReader" "text" "LSpooledPost$Row;" ∈ WS) (hd : decode M.2.1 pc = .ok (.putfield idx, 3)) (kk : EvAt d M (pc + 3) lv st (zwr h 10 0 2 (some q)) Q) : EvAt d M pc lv (vQ (some (1, q)) :: vQ (some (10, 0)) :: st) h Q := zo_putR (C := "SpooledPost$PartReader") (T := kT_D) (N := 6) (j := 2) (q := q) (ty0 := kY_D) (ty := .object "SpooledPost$Row") (zin (by decide) (by decide)) rfl rfl kI_D kO_D kN_D (by decide) hlk rfl rfl rfl (fun _ => rfl) (fun _ => rfl) hd kk
theorem gf_D_lineCount {d : Nat} {M : ZM} {pc idx : Nat} {lv : List (Option ZV)} {st : List ZV} {h : ZH} {Q : Option ZV → ZH → Prop} (hlk : Cond.fieldLink M.1.cls idx "SpooledPost$PartReader" "lineCount" "I" ∈ WS) (hd : decode M.2.1 pc = .ok (.getfield idx, 3)) (kk : EvAt d M (pc + 3) lv (vI (zi h 10 0 3) :: st) h Q) : EvAt d M pc lv (vQ (some (10, 0)) :: st) h Q := zo_get (C := "SpooledPost$PartReader") (T := kT_D) (N := 6) (j := 3) (zin (by decide) (by decide)) rfl rfl kI_D (by decide) hlk (fun _ => rfl) hd kk
theorem pf_D_lineCount {d : Nat} {M : ZM} {pc idx : Nat} {lv : List (Option ZV)} {st : List ZV} {h : ZH} {Q : Option ZV → ZH → Prop} {x : Int32} (hlk : Cond.fieldLink M.1.cls idx "SpooledPost$PartReader" "lineCount" "I" ∈ WS) (hd : decode M.2.1 pc = .ok (.putfield idx, 3)) (kk : EvAt d M (pc + 3) lv st (zw h 10 0 3 x) Q) : EvAt d M pc lv (vI x :: vQ (some (10, 0)) :: st) h Q := zo_putI (C := "SpooledPost$PartReader") (T := kT_D) (N := 6) (j := 3) (ty0 := kY_D) (ty := .int) (zin (by decide) (by decide)) rfl rfl kI_D kO_D kN_D (by decide) hlk rfl rfl rfl rfl rfl hd kk
theorem gf_D_count {d : Nat} {M : ZM} {pc idx : Nat} {lv : List (Option ZV)} {st : List ZV} {h : ZH} {Q : Option ZV → ZH → Prop} (hlk : Cond.fieldLink M.1.cls idx "SpooledPost$PartReader" "count" "I" ∈ WS) (hd : decode M.2.1 pc = .ok (.getfield idx, 3)) (kk : EvAt d M (pc + 3) lv (vI (zi h 10 0 4) :: st) h Q) : EvAt d M pc lv (vQ (some (10, 0)) :: st) h Q := zo_get (C := "SpooledPost$PartReader") (T := kT_D) (N := 6) (j := 4) (zin (by decide) (by decide)) rfl rfl kI_D (by decide) hlk (fun _ => rfl) hd kk
theorem pf_D_count {d : Nat} {M : ZM} {pc idx : Nat} {lv : List (Option ZV)} {st : List ZV} {h : ZH} {Q : Option ZV → ZH → Prop} {x : Int32} (hlk : Cond.fieldLink M.1.cls idx "SpooledPost$PartReader" "count" "I" ∈ WS) (hd : decode M.2.1 pc = .ok (.putfield idx, 3)) (kk : EvAt d M (pc + 3) lv st (zw h 10 0 4 x) Q) : EvAt d M pc lv (vI x :: vQ (some (10, 0)) :: st) h Q := zo_putI (C := "SpooledPost$PartReader") (T := kT_D) (N := 6) (j := 4) (ty0 := kY_D) (ty := .int) (zin (by decide) (by decide)) rfl rfl kI_D kO_D kN_D (by decide) hlk rfl rfl rfl rfl rfl hd kk
theorem gf_D_readNumber {d : Nat} {M : ZM} {pc idx : Nat} {lv : List (Option ZV)} {st : List ZV} {h : ZH} {Q : Option ZV → ZH → Prop} (hlk : Cond.fieldLink M.1.cls idx "SpooledPost$PartReader" "readNumber" "I" ∈ WS) (hd : decode M.2.1 pc = .ok (.getfield idx, 3)) (kk : EvAt d M (pc + 3) lv (vI (zi h 10 0 5) :: st) h Q) : EvAt d M pc lv (vQ (some (10, 0)) :: st) h Q := zo_get (C := "SpooledPost$PartReader") (T := kT_D) (N := 6) (j := 5) (zin (by decide) (by decide)) rfl rfl kI_D (by decide) hlk (fun _ => rfl) hd kk
theorem pf_D_readNumber {d : Nat} {M : ZM} {pc idx : Nat} {lv : List (Option ZV)} {st : List ZV} {h : ZH} {Q : Option ZV → ZH → Prop} {x : Int32} (hlk : Cond.fieldLink M.1.cls idx "SpooledPost$PartReader" "readNumber" "I" ∈ WS) (hd : decode M.2.1 pc = .ok (.putfield idx, 3)) (kk : EvAt d M (pc + 3) lv st (zw h 10 0 5 x) Q) : EvAt d M pc lv (vI x :: vQ (some (10, 0)) :: st) h Q := zo_putI (C := "SpooledPost$PartReader") (T := kT_D) (N := 6) (j := 5) (ty0 := kY_D) (ty := .int) (zin (by decide) (by decide)) rfl rfl kI_D kO_D kN_D (by decide) hlk rfl rfl rfl rfl rfl hd kk
theorem gf_M_up {d : Nat} {M : ZM} {pc idx : Nat} {lv : List (Option ZV)} {st : List ZV} {h : ZH} {Q : Option ZV → ZH → Prop} (hlk : Cond.fieldLink M.1.cls idx "SpooledPostModel" "up" "Z" ∈ WS) (hd : decode M.2.1 pc = .ok (.getfield idx, 3)) (kk : EvAt d M (pc + 3) lv (vI (zi h 12 0 0) :: st) h Q) : EvAt d M pc lv (vQ (some (12, 0)) :: st) h Q := zo_get (C := "SpooledPostModel") (T := kT_M) (N := 31) (j := 0) (zin (by decide) (by decide)) rfl rfl kI_M (by decide) hlk (fun _ => rfl) hd kk
theorem pf_M_up {d : Nat} {M : ZM} {pc idx : Nat} {lv : List (Option ZV)} {st : List ZV} {h : ZH} {Q : Option ZV → ZH → Prop} {x : Int32} (hlk : Cond.fieldLink M.1.cls idx "SpooledPostModel" "up" "Z" ∈ WS) (hb : x = 0 ∨ x = 1) (hd : decode M.2.1 pc = .ok (.putfield idx, 3)) (kk : EvAt d M (pc + 3) lv st (zw h 12 0 0 x) Q) : EvAt d M pc lv (vI x :: vQ (some (12, 0)) :: st) h Q := zo_putI (C := "SpooledPostModel") (T := kT_M) (N := 31) (j := 0) (ty0 := kY_M) (ty := .boolean) (zin (by decide) (by decide)) rfl rfl kI_M kO_M kN_M (by decide) hlk rfl rfl rfl (by rcases hb with rfl | rfl <;> rfl) (by rcases hb with rfl | rfl <;> rfl) hd kk
theorem gf_M_now {d : Nat} {M : ZM} {pc idx : Nat} {lv : List (Option ZV)} {st : List ZV} {h : ZH} {Q : Option ZV → ZH → Prop} (hlk : Cond.fieldLink M.1.cls idx "SpooledPostModel" "now" "I" ∈ WS) (hd : decode M.2.1 pc = .ok (.getfield idx, 3)) (kk : EvAt d M (pc + 3) lv (vI (zi h 12 0 1) :: st) h Q) : EvAt d M pc lv (vQ (some (12, 0)) :: st) h Q := zo_get (C := "SpooledPostModel") (T := kT_M) (N := 31) (j := 1) (zin (by decide) (by decide)) rfl rfl kI_M (by decide) hlk (fun _ => rfl) hd kk
theorem pf_M_now {d : Nat} {M : ZM} {pc idx : Nat} {lv : List (Option ZV)} {st : List ZV} {h : ZH} {Q : Option ZV → ZH → Prop} {x : Int32} (hlk : Cond.fieldLink M.1.cls idx "SpooledPostModel" "now" "I" ∈ WS) (hd : decode M.2.1 pc = .ok (.putfield idx, 3)) (kk : EvAt d M (pc + 3) lv st (zw h 12 0 1 x) Q) : EvAt d M pc lv (vI x :: vQ (some (12, 0)) :: st) h Q := zo_putI (C := "SpooledPostModel") (T := kT_M) (N := 31) (j := 1) (ty0 := kY_M) (ty := .int) (zin (by decide) (by decide)) rfl rfl kI_M kO_M kN_M (by decide) hlk rfl rfl rfl rfl rfl hd kk
theorem gf_M_given {d : Nat} {M : ZM} {pc idx : Nat} {lv : List (Option ZV)} {st : List ZV} {h : ZH} {Q : Option ZV → ZH → Prop} (hlk : Cond.fieldLink M.1.cls idx "SpooledPostModel" "given" "I" ∈ WS) (hd : decode M.2.1 pc = .ok (.getfield idx, 3)) (kk : EvAt d M (pc + 3) lv (vI (zi h 12 0 2) :: st) h Q) : EvAt d M pc lv (vQ (some (12, 0)) :: st) h Q := zo_get (C := "SpooledPostModel") (T := kT_M) (N := 31) (j := 2) (zin (by decide) (by decide)) rfl rfl kI_M (by decide) hlk (fun _ => rfl) hd kk
theorem pf_M_given {d : Nat} {M : ZM} {pc idx : Nat} {lv : List (Option ZV)} {st : List ZV} {h : ZH} {Q : Option ZV → ZH → Prop} {x : Int32} (hlk : Cond.fieldLink M.1.cls idx "SpooledPostModel" "given" "I" ∈ WS) (hd : decode M.2.1 pc = .ok (.putfield idx, 3)) (kk : EvAt d M (pc + 3) lv st (zw h 12 0 2 x) Q) : EvAt d M pc lv (vI x :: vQ (some (12, 0)) :: st) h Q := zo_putI (C := "SpooledPostModel") (T := kT_M) (N := 31) (j := 2) (ty0 := kY_M) (ty := .int) (zin (by decide) (by decide)) rfl rfl kI_M kO_M kN_M (by decide) hlk rfl rfl rfl rfl rfl hd kk
theorem gf_M_writes {d : Nat} {M : ZM} {pc idx : Nat} {lv : List (Option ZV)} {st : List ZV} {h : ZH} {Q : Option ZV → ZH → Prop} (hlk : Cond.fieldLink M.1.cls idx "SpooledPostModel" "writes" "I" ∈ WS) (hd : decode M.2.1 pc = .ok (.getfield idx, 3)) (kk : EvAt d M (pc + 3) lv (vI (zi h 12 0 3) :: st) h Q) : EvAt d M pc lv (vQ (some (12, 0)) :: st) h Q := zo_get (C := "SpooledPostModel") (T := kT_M) (N := 31) (j := 3) (zin (by decide) (by decide)) rfl rfl kI_M (by decide) hlk (fun _ => rfl) hd kk
theorem pf_M_writes {d : Nat} {M : ZM} {pc idx : Nat} {lv : List (Option ZV)} {st : List ZV} {h : ZH} {Q : Option ZV → ZH → Prop} {x : Int32} (hlk : Cond.fieldLink M.1.cls idx "SpooledPostModel" "writes" "I" ∈ WS) (hd : decode M.2.1 pc = .ok (.putfield idx, 3)) (kk : EvAt d M (pc + 3) lv st (zw h 12 0 3 x) Q) : EvAt d M pc lv (vI x :: vQ (some (12, 0)) :: st) h Q := zo_putI (C := "SpooledPostModel") (T := kT_M) (N := 31) (j := 3) (ty0 := kY_M) (ty := .int) (zin (by decide) (by decide)) rfl rfl kI_M kO_M kN_M (by decide) hlk rfl rfl rfl rfl rfl hd kk
theorem gf_M_line {d : Nat} {M : ZM} {pc idx : Nat} {lv : List (Option ZV)} {st : List ZV} {h : ZH} {Q : Option ZV → ZH → Prop} (hlk : Cond.fieldLink M.1.cls idx "SpooledPostModel" "line" "[I" ∈ WS) (hd : decode M.2.1 pc = .ok (.getfield idx, 3)) (kk : EvAt d M (pc + 3) lv (vQ (some (13, 0)) :: st) h Q) : EvAt d M pc lv (vQ (some (12, 0)) :: st) h Q := zo_get (C := "SpooledPostModel") (T := kT_M) (N := 31) (j := 4) (zin (by decide) (by decide)) rfl rfl kI_M (by decide) hlk (v := vQ (some (13, 0))) (fun _ => rfl) hd kk
theorem gf_M_length {d : Nat} {M : ZM} {pc idx : Nat} {lv : List (Option ZV)} {st : List ZV} {h : ZH} {Q : Option ZV → ZH → Prop} (hlk : Cond.fieldLink M.1.cls idx "SpooledPostModel" "length" "I" ∈ WS) (hd : decode M.2.1 pc = .ok (.getfield idx, 3)) (kk : EvAt d M (pc + 3) lv (vI (zi h 12 0 5) :: st) h Q) : EvAt d M pc lv (vQ (some (12, 0)) :: st) h Q := zo_get (C := "SpooledPostModel") (T := kT_M) (N := 31) (j := 5) (zin (by decide) (by decide)) rfl rfl kI_M (by decide) hlk (fun _ => rfl) hd kk
theorem pf_M_length {d : Nat} {M : ZM} {pc idx : Nat} {lv : List (Option ZV)} {st : List ZV} {h : ZH} {Q : Option ZV → ZH → Prop} {x : Int32} (hlk : Cond.fieldLink M.1.cls idx "SpooledPostModel" "length" "I" ∈ WS) (hd : decode M.2.1 pc = .ok (.putfield idx, 3)) (kk : EvAt d M (pc + 3) lv st (zw h 12 0 5 x) Q) : EvAt d M pc lv (vI x :: vQ (some (12, 0)) :: st) h Q := zo_putI (C := "SpooledPostModel") (T := kT_M) (N := 31) (j := 5) (ty0 := kY_M) (ty := .int) (zin (by decide) (by decide)) rfl rfl kI_M kO_M kN_M (by decide) hlk rfl rfl rfl rfl rfl hd kk
theorem gf_M_greeted {d : Nat} {M : ZM} {pc idx : Nat} {lv : List (Option ZV)} {st : List ZV} {h : ZH} {Q : Option ZV → ZH → Prop} (hlk : Cond.fieldLink M.1.cls idx "SpooledPostModel" "greeted" "Z" ∈ WS) (hd : decode M.2.1 pc = .ok (.getfield idx, 3)) (kk : EvAt d M (pc + 3) lv (vI (zi h 12 0 6) :: st) h Q) : EvAt d M pc lv (vQ (some (12, 0)) :: st) h Q := zo_get (C := "SpooledPostModel") (T := kT_M) (N := 31) (j := 6) (zin (by decide) (by decide)) rfl rfl kI_M (by decide) hlk (fun _ => rfl) hd kk
theorem pf_M_greeted {d : Nat} {M : ZM} {pc idx : Nat} {lv : List (Option ZV)} {st : List ZV} {h : ZH} {Q : Option ZV → ZH → Prop} {x : Int32} (hlk : Cond.fieldLink M.1.cls idx "SpooledPostModel" "greeted" "Z" ∈ WS) (hb : x = 0 ∨ x = 1) (hd : decode M.2.1 pc = .ok (.putfield idx, 3)) (kk : EvAt d M (pc + 3) lv st (zw h 12 0 6 x) Q) : EvAt d M pc lv (vI x :: vQ (some (12, 0)) :: st) h Q := zo_putI (C := "SpooledPostModel") (T := kT_M) (N := 31) (j := 6) (ty0 := kY_M) (ty := .boolean) (zin (by decide) (by decide)) rfl rfl kI_M kO_M kN_M (by decide) hlk rfl rfl rfl (by rcases hb with rfl | rfl <;> rfl) (by rcases hb with rfl | rfl <;> rfl) hd kk
theorem gf_M_begun {d : Nat} {M : ZM} {pc idx : Nat} {lv : List (Option ZV)} {st : List ZV} {h : ZH} {Q : Option ZV → ZH → Prop} (hlk : Cond.fieldLink M.1.cls idx "SpooledPostModel" "begun" "Z" ∈ WS) (hd : decode M.2.1 pc = .ok (.getfield idx, 3)) (kk : EvAt d M (pc + 3) lv (vI (zi h 12 0 7) :: st) h Q) : EvAt d M pc lv (vQ (some (12, 0)) :: st) h Q := zo_get (C := "SpooledPostModel") (T := kT_M) (N := 31) (j := 7) (zin (by decide) (by decide)) rfl rfl kI_M (by decide) hlk (fun _ => rfl) hd kk
theorem pf_M_begun {d : Nat} {M : ZM} {pc idx : Nat} {lv : List (Option ZV)} {st : List ZV} {h : ZH} {Q : Option ZV → ZH → Prop} {x : Int32} (hlk : Cond.fieldLink M.1.cls idx "SpooledPostModel" "begun" "Z" ∈ WS) (hb : x = 0 ∨ x = 1) (hd : decode M.2.1 pc = .ok (.putfield idx, 3)) (kk : EvAt d M (pc + 3) lv st (zw h 12 0 7 x) Q) : EvAt d M pc lv (vI x :: vQ (some (12, 0)) :: st) h Q := zo_putI (C := "SpooledPostModel") (T := kT_M) (N := 31) (j := 7) (ty0 := kY_M) (ty := .boolean) (zin (by decide) (by decide)) rfl rfl kI_M kO_M kN_M (by decide) hlk rfl rfl rfl (by rcases hb with rfl | rfl <;> rfl) (by rcases hb with rfl | rfl <;> rfl) hd kk
theorem gf_M_taking {d : Nat} {M : ZM} {pc idx : Nat} {lv : List (Option ZV)} {st : List ZV} {h : ZH} {Q : Option ZV → ZH → Prop} (hlk : Cond.fieldLink M.1.cls idx "SpooledPostModel" "taking" "Z" ∈ WS) (hd : decode M.2.1 pc = .ok (.getfield idx, 3)) (kk : EvAt d M (pc + 3) lv (vI (zi h 12 0 8) :: st) h Q) : EvAt d M pc lv (vQ (some (12, 0)) :: st) h Q := zo_get (C := "SpooledPostModel") (T := kT_M) (N := 31) (j := 8) (zin (by decide) (by decide)) rfl rfl kI_M (by decide) hlk (fun _ => rfl) hd kk
theorem pf_M_taking {d : Nat} {M : ZM} {pc idx : Nat} {lv : List (Option ZV)} {st : List ZV} {h : ZH} {Q : Option ZV → ZH → Prop} {x : Int32} (hlk : Cond.fieldLink M.1.cls idx "SpooledPostModel" "taking" "Z" ∈ WS) (hb : x = 0 ∨ x = 1) (hd : decode M.2.1 pc = .ok (.putfield idx, 3)) (kk : EvAt d M (pc + 3) lv st (zw h 12 0 8 x) Q) : EvAt d M pc lv (vI x :: vQ (some (12, 0)) :: st) h Q := zo_putI (C := "SpooledPostModel") (T := kT_M) (N := 31) (j := 8) (ty0 := kY_M) (ty := .boolean) (zin (by decide) (by decide)) rfl rfl kI_M kO_M kN_M (by decide) hlk rfl rfl rfl (by rcases hb with rfl | rfl <;> rfl) (by rcases hb with rfl | rfl <;> rfl) hd kk
theorem gf_M_number {d : Nat} {M : ZM} {pc idx : Nat} {lv : List (Option ZV)} {st : List ZV} {h : ZH} {Q : Option ZV → ZH → Prop} (hlk : Cond.fieldLink M.1.cls idx "SpooledPostModel" "number" "[I" ∈ WS) (hd : decode M.2.1 pc = .ok (.getfield idx, 3)) (kk : EvAt d M (pc + 3) lv (vQ (some (13, 1)) :: st) h Q) : EvAt d M pc lv (vQ (some (12, 0)) :: st) h Q := zo_get (C := "SpooledPostModel") (T := kT_M) (N := 31) (j := 9) (zin (by decide) (by decide)) rfl rfl kI_M (by decide) hlk (v := vQ (some (13, 1))) (fun _ => rfl) hd kk
theorem gf_M_sealed {d : Nat} {M : ZM} {pc idx : Nat} {lv : List (Option ZV)} {st : List ZV} {h : ZH} {Q : Option ZV → ZH → Prop} (hlk : Cond.fieldLink M.1.cls idx "SpooledPostModel" "sealed" "[Z" ∈ WS) (hd : decode M.2.1 pc = .ok (.getfield idx, 3)) (kk : EvAt d M (pc + 3) lv (vQ (some (14, 0)) :: st) h Q) : EvAt d M pc lv (vQ (some (12, 0)) :: st) h Q := zo_get (C := "SpooledPostModel") (T := kT_M) (N := 31) (j := 10) (zin (by decide) (by decide)) rfl rfl kI_M (by decide) hlk (v := vQ (some (14, 0))) (fun _ => rfl) hd kk
theorem gf_M_texts {d : Nat} {M : ZM} {pc idx : Nat} {lv : List (Option ZV)} {st : List ZV} {h : ZH} {Q : Option ZV → ZH → Prop} (hlk : Cond.fieldLink M.1.cls idx "SpooledPostModel" "texts" "[I" ∈ WS) (hd : decode M.2.1 pc = .ok (.getfield idx, 3)) (kk : EvAt d M (pc + 3) lv (vQ (some (13, 2)) :: st) h Q) : EvAt d M pc lv (vQ (some (12, 0)) :: st) h Q := zo_get (C := "SpooledPostModel") (T := kT_M) (N := 31) (j := 11) (zin (by decide) (by decide)) rfl rfl kI_M (by decide) hlk (v := vQ (some (13, 2))) (fun _ => rfl) hd kk
theorem gf_M_textSize {d : Nat} {M : ZM} {pc idx : Nat} {lv : List (Option ZV)} {st : List ZV} {h : ZH} {Q : Option ZV → ZH → Prop} (hlk : Cond.fieldLink M.1.cls idx "SpooledPostModel" "textSize" "[I" ∈ WS) (hd : decode M.2.1 pc = .ok (.getfield idx, 3)) (kk : EvAt d M (pc + 3) lv (vQ (some (13, 3)) :: st) h Q) : EvAt d M pc lv (vQ (some (12, 0)) :: st) h Q := zo_get (C := "SpooledPostModel") (T := kT_M) (N := 31) (j := 12) (zin (by decide) (by decide)) rfl rfl kI_M (by decide) hlk (v := vQ (some (13, 3))) (fun _ => rfl) hd kk
theorem gf_M_paths {d : Nat} {M : ZM} {pc idx : Nat} {lv : List (Option ZV)} {st : List ZV} {h : ZH} {Q : Option ZV → ZH → Prop} (hlk : Cond.fieldLink M.1.cls idx "SpooledPostModel" "paths" "[I" ∈ WS) (hd : decode M.2.1 pc = .ok (.getfield idx, 3)) (kk : EvAt d M (pc + 3) lv (vQ (some (13, 4)) :: st) h Q) : EvAt d M pc lv (vQ (some (12, 0)) :: st) h Q := zo_get (C := "SpooledPostModel") (T := kT_M) (N := 31) (j := 13) (zin (by decide) (by decide)) rfl rfl kI_M (by decide) hlk (v := vQ (some (13, 4))) (fun _ => rfl) hd kk
theorem gf_M_pathSize {d : Nat} {M : ZM} {pc idx : Nat} {lv : List (Option ZV)} {st : List ZV} {h : ZH} {Q : Option ZV → ZH → Prop} (hlk : Cond.fieldLink M.1.cls idx "SpooledPostModel" "pathSize" "[I" ∈ WS) (hd : decode M.2.1 pc = .ok (.getfield idx, 3)) (kk : EvAt d M (pc + 3) lv (vQ (some (13, 5)) :: st) h Q) : EvAt d M pc lv (vQ (some (12, 0)) :: st) h Q := zo_get (C := "SpooledPostModel") (T := kT_M) (N := 31) (j := 14) (zin (by decide) (by decide)) rfl rfl kI_M (by decide) hlk (v := vQ (some (13, 5))) (fun _ => rfl) hd kk
theorem gf_M_many {d : Nat} {M : ZM} {pc idx : Nat} {lv : List (Option ZV)} {st : List ZV} {h : ZH} {Q : Option ZV → ZH → Prop} (hlk : Cond.fieldLink M.1.cls idx "SpooledPostModel" "many" "[I" ∈ WS) (hd : decode M.2.1 pc = .ok (.getfield idx, 3)) (kk : EvAt d M (pc + 3) lv (vQ (some (13, 6)) :: st) h Q) : EvAt d M pc lv (vQ (some (12, 0)) :: st) h Q := zo_get (C := "SpooledPostModel") (T := kT_M) (N := 31) (j := 15) (zin (by decide) (by decide)) rfl rfl kI_M (by decide) hlk (v := vQ (some (13, 6))) (fun _ => rfl) hd kk
theorem gf_M_fate {d : Nat} {M : ZM} {pc idx : Nat} {lv : List (Option ZV)} {st : List ZV} {h : ZH} {Q : Option ZV → ZH → Prop} (hlk : Cond.fieldLink M.1.cls idx "SpooledPostModel" "fate" "[I" ∈ WS) (hd : decode M.2.1 pc = .ok (.getfield idx, 3)) (kk : EvAt d M (pc + 3) lv (vQ (some (13, 7)) :: st) h Q) : EvAt d M pc lv (vQ (some (12, 0)) :: st) h Q := zo_get (C := "SpooledPostModel") (T := kT_M) (N := 31) (j := 16) (zin (by decide) (by decide)) rfl rfl kI_M (by decide) hlk (v := vQ (some (13, 7))) (fun _ => rfl) hd kk
theorem gf_M_dueAt {d : Nat} {M : ZM} {pc idx : Nat} {lv : List (Option ZV)} {st : List ZV} {h : ZH} {Q : Option ZV → ZH → Prop} (hlk : Cond.fieldLink M.1.cls idx "SpooledPostModel" "dueAt" "[I" ∈ WS) (hd : decode M.2.1 pc = .ok (.getfield idx, 3)) (kk : EvAt d M (pc + 3) lv (vQ (some (13, 8)) :: st) h Q) : EvAt d M pc lv (vQ (some (12, 0)) :: st) h Q := zo_get (C := "SpooledPostModel") (T := kT_M) (N := 31) (j := 17) (zin (by decide) (by decide)) rfl rfl kI_M (by decide) hlk (v := vQ (some (13, 8))) (fun _ => rfl) hd kk
theorem gf_M_lines {d : Nat} {M : ZM} {pc idx : Nat} {lv : List (Option ZV)} {st : List ZV} {h : ZH} {Q : Option ZV → ZH → Prop} (hlk : Cond.fieldLink M.1.cls idx "SpooledPostModel" "lines" "I" ∈ WS) (hd : decode M.2.1 pc = .ok (.getfield idx, 3)) (kk : EvAt d M (pc + 3) lv (vI (zi h 12 0 18) :: st) h Q) : EvAt d M pc lv (vQ (some (12, 0)) :: st) h Q := zo_get (C := "SpooledPostModel") (T := kT_M) (N := 31) (j := 18) (zin (by decide) (by decide)) rfl rfl kI_M (by decide) hlk (fun _ => rfl) hd kk
theorem pf_M_lines {d : Nat} {M : ZM} {pc idx : Nat} {lv : List (Option ZV)} {st : List ZV} {h : ZH} {Q : Option ZV → ZH → Prop} {x : Int32} (hlk : Cond.fieldLink M.1.cls idx "SpooledPostModel" "lines" "I" ∈ WS) (hd : decode M.2.1 pc = .ok (.putfield idx, 3)) (kk : EvAt d M (pc + 3) lv st (zw h 12 0 18 x) Q) : EvAt d M pc lv (vI x :: vQ (some (12, 0)) :: st) h Q := zo_putI (C := "SpooledPostModel") (T := kT_M) (N := 31) (j := 18) (ty0 := kY_M) (ty := .int) (zin (by decide) (by decide)) rfl rfl kI_M kO_M kN_M (by decide) hlk rfl rfl rfl rfl rfl hd kk
theorem gf_M_lineAt {d : Nat} {M : ZM} {pc idx : Nat} {lv : List (Option ZV)} {st : List ZV} {h : ZH} {Q : Option ZV → ZH → Prop} (hlk : Cond.fieldLink M.1.cls idx "SpooledPostModel" "lineAt" "[I" ∈ WS) (hd : decode M.2.1 pc = .ok (.getfield idx, 3)) (kk : EvAt d M (pc + 3) lv (vQ (some (13, 9)) :: st) h Q) : EvAt d M pc lv (vQ (some (12, 0)) :: st) h Q := zo_get (C := "SpooledPostModel") (T := kT_M) (N := 31) (j := 19) (zin (by decide) (by decide)) rfl rfl kI_M (by decide) hlk (v := vQ (some (13, 9))) (fun _ => rfl) hd kk
theorem gf_M_found {d : Nat} {M : ZM} {pc idx : Nat} {lv : List (Option ZV)} {st : List ZV} {h : ZH} {Q : Option ZV → ZH → Prop} (hlk : Cond.fieldLink M.1.cls idx "SpooledPostModel" "found" "I" ∈ WS) (hd : decode M.2.1 pc = .ok (.getfield idx, 3)) (kk : EvAt d M (pc + 3) lv (vI (zi h 12 0 20) :: st) h Q) : EvAt d M pc lv (vQ (some (12, 0)) :: st) h Q := zo_get (C := "SpooledPostModel") (T := kT_M) (N := 31) (j := 20) (zin (by decide) (by decide)) rfl rfl kI_M (by decide) hlk (fun _ => rfl) hd kk
theorem pf_M_found {d : Nat} {M : ZM} {pc idx : Nat} {lv : List (Option ZV)} {st : List ZV} {h : ZH} {Q : Option ZV → ZH → Prop} {x : Int32} (hlk : Cond.fieldLink M.1.cls idx "SpooledPostModel" "found" "I" ∈ WS) (hd : decode M.2.1 pc = .ok (.putfield idx, 3)) (kk : EvAt d M (pc + 3) lv st (zw h 12 0 20 x) Q) : EvAt d M pc lv (vI x :: vQ (some (12, 0)) :: st) h Q := zo_putI (C := "SpooledPostModel") (T := kT_M) (N := 31) (j := 20) (ty0 := kY_M) (ty := .int) (zin (by decide) (by decide)) rfl rfl kI_M kO_M kN_M (by decide) hlk rfl rfl rfl rfl rfl hd kk
theorem gf_M_partDepth {d : Nat} {M : ZM} {pc idx : Nat} {lv : List (Option ZV)} {st : List ZV} {h : ZH} {Q : Option ZV → ZH → Prop} (hlk : Cond.fieldLink M.1.cls idx "SpooledPostModel" "partDepth" "[I" ∈ WS) (hd : decode M.2.1 pc = .ok (.getfield idx, 3)) (kk : EvAt d M (pc + 3) lv (vQ (some (13, 10)) :: st) h Q) : EvAt d M pc lv (vQ (some (12, 0)) :: st) h Q := zo_get (C := "SpooledPostModel") (T := kT_M) (N := 31) (j := 21) (zin (by decide) (by decide)) rfl rfl kI_M (by decide) hlk (v := vQ (some (13, 10))) (fun _ => rfl) hd kk
theorem gf_M_partFrom {d : Nat} {M : ZM} {pc idx : Nat} {lv : List (Option ZV)} {st : List ZV} {h : ZH} {Q : Option ZV → ZH → Prop} (hlk : Cond.fieldLink M.1.cls idx "SpooledPostModel" "partFrom" "[I" ∈ WS) (hd : decode M.2.1 pc = .ok (.getfield idx, 3)) (kk : EvAt d M (pc + 3) lv (vQ (some (13, 11)) :: st) h Q) : EvAt d M pc lv (vQ (some (12, 0)) :: st) h Q := zo_get (C := "SpooledPostModel") (T := kT_M) (N := 31) (j := 22) (zin (by decide) (by decide)) rfl rfl kI_M (by decide) hlk (v := vQ (some (13, 11))) (fun _ => rfl) hd kk
theorem gf_M_partTo {d : Nat} {M : ZM} {pc idx : Nat} {lv : List (Option ZV)} {st : List ZV} {h : ZH} {Q : Option ZV → ZH → Prop} (hlk : Cond.fieldLink M.1.cls idx "SpooledPostModel" "partTo" "[I" ∈ WS) (hd : decode M.2.1 pc = .ok (.getfield idx, 3)) (kk : EvAt d M (pc + 3) lv (vQ (some (13, 12)) :: st) h Q) : EvAt d M pc lv (vQ (some (12, 0)) :: st) h Q := zo_get (C := "SpooledPostModel") (T := kT_M) (N := 31) (j := 23) (zin (by decide) (by decide)) rfl rfl kI_M (by decide) hlk (v := vQ (some (13, 12))) (fun _ => rfl) hd kk
theorem gf_M_partMulti {d : Nat} {M : ZM} {pc idx : Nat} {lv : List (Option ZV)} {st : List ZV} {h : ZH} {Q : Option ZV → ZH → Prop} (hlk : Cond.fieldLink M.1.cls idx "SpooledPostModel" "partMulti" "[Z" ∈ WS) (hd : decode M.2.1 pc = .ok (.getfield idx, 3)) (kk : EvAt d M (pc + 3) lv (vQ (some (14, 1)) :: st) h Q) : EvAt d M pc lv (vQ (some (12, 0)) :: st) h Q := zo_get (C := "SpooledPostModel") (T := kT_M) (N := 31) (j := 24) (zin (by decide) (by decide)) rfl rfl kI_M (by decide) hlk (v := vQ (some (14, 1))) (fun _ => rfl) hd kk
theorem gf_M_open {d : Nat} {M : ZM} {pc idx : Nat} {lv : List (Option ZV)} {st : List ZV} {h : ZH} {Q : Option ZV → ZH → Prop} (hlk : Cond.fieldLink M.1.cls idx "SpooledPostModel" "open" "I" ∈ WS) (hd : decode M.2.1 pc = .ok (.getfield idx, 3)) (kk : EvAt d M (pc + 3) lv (vI (zi h 12 0 25) :: st) h Q) : EvAt d M pc lv (vQ (some (12, 0)) :: st) h Q := zo_get (C := "SpooledPostModel") (T := kT_M) (N := 31) (j := 25) (zin (by decide) (by decide)) rfl rfl kI_M (by decide) hlk (fun _ => rfl) hd kk
theorem pf_M_open {d : Nat} {M : ZM} {pc idx : Nat} {lv : List (Option ZV)} {st : List ZV} {h : ZH} {Q : Option ZV → ZH → Prop} {x : Int32} (hlk : Cond.fieldLink M.1.cls idx "SpooledPostModel" "open" "I" ∈ WS) (hd : decode M.2.1 pc = .ok (.putfield idx, 3)) (kk : EvAt d M (pc + 3) lv st (zw h 12 0 25 x) Q) : EvAt d M pc lv (vI x :: vQ (some (12, 0)) :: st) h Q := zo_putI (C := "SpooledPostModel") (T := kT_M) (N := 31) (j := 25) (ty0 := kY_M) (ty := .int) (zin (by decide) (by decide)) rfl rfl kI_M kO_M kN_M (by decide) hlk rfl rfl rfl rfl rfl hd kk
theorem gf_M_rowFrom {d : Nat} {M : ZM} {pc idx : Nat} {lv : List (Option ZV)} {st : List ZV} {h : ZH} {Q : Option ZV → ZH → Prop} (hlk : Cond.fieldLink M.1.cls idx "SpooledPostModel" "rowFrom" "[I" ∈ WS) (hd : decode M.2.1 pc = .ok (.getfield idx, 3)) (kk : EvAt d M (pc + 3) lv (vQ (some (13, 13)) :: st) h Q) : EvAt d M pc lv (vQ (some (12, 0)) :: st) h Q := zo_get (C := "SpooledPostModel") (T := kT_M) (N := 31) (j := 26) (zin (by decide) (by decide)) rfl rfl kI_M (by decide) hlk (v := vQ (some (13, 13))) (fun _ => rfl) hd kk
theorem gf_M_rowTo {d : Nat} {M : ZM} {pc idx : Nat} {lv : List (Option ZV)} {st : List ZV} {h : ZH} {Q : Option ZV → ZH → Prop} (hlk : Cond.fieldLink M.1.cls idx "SpooledPostModel" "rowTo" "[I" ∈ WS) (hd : decode M.2.1 pc = .ok (.getfield idx, 3)) (kk : EvAt d M (pc + 3) lv (vQ (some (13, 14)) :: st) h Q) : EvAt d M pc lv (vQ (some (12, 0)) :: st) h Q := zo_get (C := "SpooledPostModel") (T := kT_M) (N := 31) (j := 27) (zin (by decide) (by decide)) rfl rfl kI_M (by decide) hlk (v := vQ (some (13, 14))) (fun _ => rfl) hd kk
theorem gf_M_rowDepth {d : Nat} {M : ZM} {pc idx : Nat} {lv : List (Option ZV)} {st : List ZV} {h : ZH} {Q : Option ZV → ZH → Prop} (hlk : Cond.fieldLink M.1.cls idx "SpooledPostModel" "rowDepth" "[I" ∈ WS) (hd : decode M.2.1 pc = .ok (.getfield idx, 3)) (kk : EvAt d M (pc + 3) lv (vQ (some (13, 15)) :: st) h Q) : EvAt d M pc lv (vQ (some (12, 0)) :: st) h Q := zo_get (C := "SpooledPostModel") (T := kT_M) (N := 31) (j := 28) (zin (by decide) (by decide)) rfl rfl kI_M (by decide) hlk (v := vQ (some (13, 15))) (fun _ => rfl) hd kk
theorem gf_M_mark {d : Nat} {M : ZM} {pc idx : Nat} {lv : List (Option ZV)} {st : List ZV} {h : ZH} {Q : Option ZV → ZH → Prop} (hlk : Cond.fieldLink M.1.cls idx "SpooledPostModel" "mark" "I" ∈ WS) (hd : decode M.2.1 pc = .ok (.getfield idx, 3)) (kk : EvAt d M (pc + 3) lv (vI (zi h 12 0 29) :: st) h Q) : EvAt d M pc lv (vQ (some (12, 0)) :: st) h Q := zo_get (C := "SpooledPostModel") (T := kT_M) (N := 31) (j := 29) (zin (by decide) (by decide)) rfl rfl kI_M (by decide) hlk (fun _ => rfl) hd kk
theorem pf_M_mark {d : Nat} {M : ZM} {pc idx : Nat} {lv : List (Option ZV)} {st : List ZV} {h : ZH} {Q : Option ZV → ZH → Prop} {x : Int32} (hlk : Cond.fieldLink M.1.cls idx "SpooledPostModel" "mark" "I" ∈ WS) (hd : decode M.2.1 pc = .ok (.putfield idx, 3)) (kk : EvAt d M (pc + 3) lv st (zw h 12 0 29 x) Q) : EvAt d M pc lv (vI x :: vQ (some (12, 0)) :: st) h Q := zo_putI (C := "SpooledPostModel") (T := kT_M) (N := 31) (j := 29) (ty0 := kY_M) (ty := .int) (zin (by decide) (by decide)) rfl rfl kI_M kO_M kN_M (by decide) hlk rfl rfl rfl rfl rfl hd kk
theorem gf_M_markSize {d : Nat} {M : ZM} {pc idx : Nat} {lv : List (Option ZV)} {st : List ZV} {h : ZH} {Q : Option ZV → ZH → Prop} (hlk : Cond.fieldLink M.1.cls idx "SpooledPostModel" "markSize" "I" ∈ WS) (hd : decode M.2.1 pc = .ok (.getfield idx, 3)) (kk : EvAt d M (pc + 3) lv (vI (zi h 12 0 30) :: st) h Q) : EvAt d M pc lv (vQ (some (12, 0)) :: st) h Q := zo_get (C := "SpooledPostModel") (T := kT_M) (N := 31) (j := 30) (zin (by decide) (by decide)) rfl rfl kI_M (by decide) hlk (fun _ => rfl) hd kk
theorem pf_M_markSize {d : Nat} {M : ZM} {pc idx : Nat} {lv : List (Option ZV)} {st : List ZV} {h : ZH} {Q : Option ZV → ZH → Prop} {x : Int32} (hlk : Cond.fieldLink M.1.cls idx "SpooledPostModel" "markSize" "I" ∈ WS) (hd : decode M.2.1 pc = .ok (.putfield idx, 3)) (kk : EvAt d M (pc + 3) lv st (zw h 12 0 30 x) Q) : EvAt d M pc lv (vI x :: vQ (some (12, 0)) :: st) h Q := zo_putI (C := "SpooledPostModel") (T := kT_M) (N := 31) (j := 30) (ty0 := kY_M) (ty := .int) (zin (by decide) (by decide)) rfl rfl kI_M kO_M kN_M (by decide) hlk rfl rfl rfl rfl rfl hd kk
theorem zin8 {x : Int32} (h : vp_in x 8) : x.toNatClampNeg < 8 := by obtain ⟨j, hj, rfl⟩ := vp_in_of h (by decide); rw [nI_clamp (by omega)]; exact hj
theorem zin4 {x : Int32} (h : vp_in x 4) : x.toNatClampNeg < 4 := by obtain ⟨j, hj, rfl⟩ := vp_in_of h (by decide); rw [nI_clamp (by omega)]; exact hj
theorem zin4r {x : Int32} (h : vp_in x 4) : 2 + x.toNatClampNeg < 43 := by have := zin4 h; omega
theorem zin4c {x : Int32} {i : Nat} (hi : i < 6) (h : vp_in x 4) : 4 * i + x.toNatClampNeg < 24 := by have := zin4 h; omega
theorem cv_P_addRecipient : zCv m_P_addRecipient "SpooledPost" 0 := ⟨wd_492, wd_491, wd_11, wd_67, by decide +kernel, by decide⟩
theorem cv_P_beginText : zCv m_P_beginText "SpooledPost" 0 := ⟨wd_496, wd_495, wd_12, wd_67, by decide +kernel, by decide⟩
theorem cv_P_beginTransaction : zCv m_P_beginTransaction "SpooledPost" 0 := ⟨wd_486, wd_485, wd_10, wd_67, by decide +kernel, by decide⟩
theorem cs_P_bracketStart : zCs m_P_bracketStart 1 := ⟨wd_465, wd_464, wd_67, by decide +kernel, by decide⟩
theorem cv_P_breakAfter : zCv m_P_breakAfter "SpooledPost" 1 := ⟨wd_506, wd_504, wd_505, wd_67, by decide +kernel, by decide⟩
theorem cv_P_commandOfLine : zCv m_P_commandOfLine "SpooledPost" 0 := ⟨wd_377, wd_376, wd_4, wd_67, by decide +kernel, by decide⟩
theorem cv_P_due : zCv m_P_due "SpooledPost" 2 := ⟨wd_617, wd_615, wd_616, wd_67, by decide +kernel, by decide⟩
theorem cv_P_endText : zCv m_P_endText "SpooledPost" 0 := ⟨wd_310, wd_309, wd_1, wd_67, by decide +kernel, by decide⟩
theorem cv_P_enter : zCv m_P_enter "SpooledPost" 0 := ⟨wd_298, wd_296, wd_297, wd_67, by decide +kernel, by decide⟩
theorem cv_P_findRecipient : zCv m_P_findRecipient "SpooledPost" 2 := ⟨wd_613, wd_612, wd_17, wd_67, by decide +kernel, by decide⟩
theorem cv_P_giveBack : zCv m_P_giveBack "SpooledPost" 2 := ⟨wd_564, wd_563, wd_15, wd_67, by decide +kernel, by decide⟩
theorem cv_P_greet : zCv m_P_greet "SpooledPost" 0 := ⟨wd_482, wd_481, wd_9, wd_67, by decide +kernel, by decide⟩
theorem cv_P_isBracketEmpty : zCv m_P_isBracketEmpty "SpooledPost" 1 := ⟨wd_462, wd_461, wd_7, wd_67, by decide +kernel, by decide⟩
theorem cv_P_isBracketed : zCv m_P_isBracketed "SpooledPost" 1 := ⟨wd_458, wd_457, wd_6, wd_67, by decide +kernel, by decide⟩
theorem cv_P_isPathIn : zCv m_P_isPathIn "SpooledPost" 1 := ⟨wd_470, wd_469, wd_8, wd_67, by decide +kernel, by decide⟩
theorem cs_P_isReplyCode : zCs m_P_isReplyCode 1 := ⟨wd_545, wd_544, wd_67, by decide +kernel, by decide⟩
theorem cv_P_isWrittenRight : zCv m_P_isWrittenRight "SpooledPost" 1 := ⟨wd_438, wd_437, wd_5, wd_67, by decide +kernel, by decide⟩
theorem cv_P_letter : zCv m_P_letter "SpooledPost" 1 := ⟨wd_585, wd_583, wd_584, wd_67, by decide +kernel, by decide⟩
theorem cv_P_letters : zCv m_P_letters "SpooledPost" 0 := ⟨wd_581, wd_579, wd_580, wd_67, by decide +kernel, by decide⟩
theorem cv_P_next : zCv m_P_next "SpooledPost" 0 := ⟨wd_530, wd_528, wd_529, wd_67, by decide +kernel, by decide⟩
theorem cv_P_obey : zCv m_P_obey "SpooledPost" 0 := ⟨wd_373, wd_372, wd_3, wd_67, by decide +kernel, by decide⟩
theorem cv_P_part : zCv m_P_part "SpooledPost" 3 := ⟨wd_688, wd_686, wd_687, wd_67, by decide +kernel, by decide⟩
theorem cv_P_parts : zCv m_P_parts "SpooledPost" 1 := ⟨wd_621, wd_619, wd_620, wd_67, by decide +kernel, by decide⟩
theorem cv_P_pass : zCv m_P_pass "SpooledPost" 1 := ⟨wd_526, wd_524, wd_525, wd_67, by decide +kernel, by decide⟩
theorem cv_P_path : zCv m_P_path "SpooledPost" 3 := ⟨wd_601, wd_599, wd_600, wd_67, by decide +kernel, by decide⟩
theorem cv_P_postpone : zCv m_P_postpone "SpooledPost" 1 := ⟨wd_560, wd_559, wd_14, wd_67, by decide +kernel, by decide⟩
theorem cv_P_recipient : zCv m_P_recipient "SpooledPost" 2 := ⟨wd_609, wd_607, wd_608, wd_67, by decide +kernel, by decide⟩
theorem cv_P_reply : zCv m_P_reply "SpooledPost" 1 := ⟨wd_542, wd_540, wd_541, wd_67, by decide +kernel, by decide⟩
theorem cv_P_restart : zCv m_P_restart "SpooledPost" 0 := ⟨wd_510, wd_508, wd_509, wd_67, by decide +kernel, by decide⟩
theorem cv_P_settle : zCv m_P_settle "SpooledPost" 3 := ⟨wd_550, wd_549, wd_13, wd_67, by decide +kernel, by decide⟩
theorem cv_P_spoolReturn : zCv m_P_spoolReturn "SpooledPost" 2 := ⟨wd_568, wd_567, wd_16, wd_67, by decide +kernel, by decide⟩
theorem cv_P_spoolSession : zCv m_P_spoolSession "SpooledPost" 0 := ⟨wd_318, wd_317, wd_2, wd_67, by decide +kernel, by decide⟩
theorem cv_P_state : zCv m_P_state "SpooledPost" 0 := ⟨wd_577, wd_575, wd_576, wd_67, by decide +kernel, by decide⟩
theorem cv_P_takeTextLine : zCv m_P_takeTextLine "SpooledPost" 0 := ⟨wd_302, wd_301, wd_0, wd_67, by decide +kernel, by decide⟩
theorem cv_P_text : zCv m_P_text "SpooledPost" 2 := ⟨wd_593, wd_591, wd_592, wd_67, by decide +kernel, by decide⟩
theorem cv_P_type : zCv m_P_type "SpooledPost" 1 := ⟨wd_283, wd_281, wd_282, wd_67, by decide +kernel, by decide⟩
theorem cs_P_typedCode : zCs m_P_typedCode 2 := ⟨wd_289, wd_288, wd_67, by decide +kernel, by decide⟩
theorem cs_P_typedLength : zCs m_P_typedLength 1 := ⟨wd_286, wd_285, wd_67, by decide +kernel, by decide⟩
theorem cs_G_isDomain : zCs m_G_isDomain 3 := ⟨wd_449, wd_448, wd_78, by decide +kernel, by decide⟩
theorem cs_G_isLetterOrDigit : zCs m_G_isLetterOrDigit 1 := ⟨wd_453, wd_452, wd_78, by decide +kernel, by decide⟩
theorem cs_G_isLocal : zCs m_G_isLocal 3 := ⟨wd_476, wd_475, wd_78, by decide +kernel, by decide⟩
theorem cs_G_isPath : zCs m_G_isPath 3 := ⟨wd_473, wd_472, wd_78, by decide +kernel, by decide⟩
theorem cs_G_small : zCs m_G_small 1 := ⟨wd_396, wd_395, wd_78, by decide +kernel, by decide⟩
theorem cv_L_address : zCv m_L_address "SpooledPost$Letter" 2 := ⟨wd_349, wd_347, wd_348, wd_71, by decide +kernel, by decide⟩
theorem cv_L_begin : zCv m_L_begin "SpooledPost$Letter" 1 := ⟨wd_331, wd_329, wd_330, wd_71, by decide +kernel, by decide⟩
theorem cv_L_firstDue : zCv m_L_firstDue "SpooledPost$Letter" 1 := ⟨wd_538, wd_536, wd_537, wd_71, by decide +kernel, by decide⟩
theorem cv_L_isAwaited : zCv m_L_isAwaited "SpooledPost$Letter" 0 := ⟨wd_555, wd_553, wd_554, wd_71, by decide +kernel, by decide⟩
theorem cv_L_recipientAt : zCv m_L_recipientAt "SpooledPost$Letter" 1 := ⟨wd_605, wd_603, wd_604, wd_71, by decide +kernel, by decide⟩
theorem cv_D_borderKind : zCv m_D_borderKind "SpooledPost$PartReader" 3 := ⟨wd_676, wd_675, wd_28, wd_73, by decide +kernel, by decide⟩
theorem cv_D_boundaryLength : zCv m_D_boundaryLength "SpooledPost$PartReader" 1 := ⟨wd_668, wd_667, wd_26, wd_73, by decide +kernel, by decide⟩
theorem cv_D_fact : zCv m_D_fact "SpooledPost$PartReader" 2 := ⟨wd_692, wd_690, wd_691, wd_73, by decide +kernel, by decide⟩
theorem cv_D_findBoundary : zCv m_D_findBoundary "SpooledPost$PartReader" 2 := ⟨wd_655, wd_654, wd_24, wd_73, by decide +kernel, by decide⟩
theorem cv_D_findBoundaryBetween : zCv m_D_findBoundaryBetween "SpooledPost$PartReader" 2 := ⟨wd_662, wd_661, wd_25, wd_73, by decide +kernel, by decide⟩
theorem cv_D_findHeadEnd : zCv m_D_findHeadEnd "SpooledPost$PartReader" 2 := ⟨wd_638, wd_637, wd_20, wd_73, by decide +kernel, by decide⟩
theorem cv_D_isDashed : zCv m_D_isDashed "SpooledPost$PartReader" 1 := ⟨wd_680, wd_679, wd_29, wd_73, by decide +kernel, by decide⟩
theorem cv_D_isField : zCv m_D_isField "SpooledPost$PartReader" 1 := ⟨wd_650, wd_649, wd_23, wd_73, by decide +kernel, by decide⟩
theorem cv_D_isHeadRight : zCv m_D_isHeadRight "SpooledPost$PartReader" 2 := ⟨wd_646, wd_645, wd_22, wd_73, by decide +kernel, by decide⟩
theorem cv_D_lineEnd : zCv m_D_lineEnd "SpooledPost$PartReader" 1 := ⟨wd_642, wd_641, wd_21, wd_73, by decide +kernel, by decide⟩
theorem cv_D_read : zCv m_D_read "SpooledPost$PartReader" 1 := ⟨wd_625, wd_623, wd_624, wd_73, by decide +kernel, by decide⟩
theorem cv_D_repeats : zCv m_D_repeats "SpooledPost$PartReader" 3 := ⟨wd_684, wd_683, wd_30, wd_73, by decide +kernel, by decide⟩
theorem cv_D_splitLines : zCv m_D_splitLines "SpooledPost$PartReader" 0 := ⟨wd_629, wd_628, wd_18, wd_73, by decide +kernel, by decide⟩
theorem cv_D_takeBody : zCv m_D_takeBody "SpooledPost$PartReader" 4 := ⟨wd_672, wd_671, wd_27, wd_73, by decide +kernel, by decide⟩
theorem cv_D_takePart : zCv m_D_takePart "SpooledPost$PartReader" 3 := ⟨wd_634, wd_633, wd_19, wd_73, by decide +kernel, by decide⟩
theorem cv_R_add : zCv m_R_add "SpooledPost$Row" 1 := ⟨wd_294, wd_292, wd_293, wd_68, by decide +kernel, by decide⟩
theorem cv_R_addPiece : zCv m_R_addPiece "SpooledPost$Row" 3 := ⟨wd_366, wd_364, wd_365, wd_68, by decide +kernel, by decide⟩
theorem cv_R_addRow : zCv m_R_addRow "SpooledPost$Row" 1 := ⟨wd_339, wd_337, wd_338, wd_68, by decide +kernel, by decide⟩
theorem cv_R_addWords : zCv m_R_addWords "SpooledPost$Row" 1 := ⟨wd_573, wd_571, wd_572, wd_68, by decide +kernel, by decide⟩
theorem cv_R_at : zCv m_R_at "SpooledPost$Row" 1 := ⟨wd_306, wd_304, wd_305, wd_68, by decide +kernel, by decide⟩
theorem cv_R_clear : zCv m_R_clear "SpooledPost$Row" 0 := ⟨wd_335, wd_333, wd_334, wd_68, by decide +kernel, by decide⟩
theorem cv_R_matches : zCv m_R_matches "SpooledPost$Row" 2 := ⟨wd_383, wd_381, wd_382, wd_68, by decide +kernel, by decide⟩
theorem cv_S_addTextLine : zCv m_S_addTextLine "SpooledPost$Session" 2 := ⟨wd_362, wd_360, wd_361, wd_69, by decide +kernel, by decide⟩
theorem cv_S_endTransaction : zCv m_S_endTransaction "SpooledPost$Session" 0 := ⟨wd_358, wd_356, wd_357, wd_69, by decide +kernel, by decide⟩
theorem cv_S_forget : zCv m_S_forget "SpooledPost$Session" 0 := ⟨wd_500, wd_498, wd_499, wd_69, by decide +kernel, by decide⟩
theorem cv_O_begin : zCv m_O_begin "SpooledPost$Spool" 0 := ⟨wd_322, wd_320, wd_321, wd_70, by decide +kernel, by decide⟩
theorem cv_O_drop : zCv m_O_drop "SpooledPost$Spool" 1 := ⟨wd_518, wd_516, wd_517, wd_70, by decide +kernel, by decide⟩
theorem cv_O_find : zCv m_O_find "SpooledPost$Spool" 1 := ⟨wd_597, wd_595, wd_596, wd_70, by decide +kernel, by decide⟩
theorem cv_O_holderOfNext : zCv m_O_holderOfNext "SpooledPost$Spool" 1 := ⟨wd_534, wd_532, wd_533, wd_70, by decide +kernel, by decide⟩
theorem cv_O_isFull : zCv m_O_isFull "SpooledPost$Spool" 0 := ⟨wd_314, wd_312, wd_313, wd_70, by decide +kernel, by decide⟩
theorem cv_O_recover : zCv m_O_recover "SpooledPost$Spool" 0 := ⟨wd_514, wd_512, wd_513, wd_70, by decide +kernel, by decide⟩
theorem cv_O_seal : zCv m_O_seal "SpooledPost$Spool" 1 := ⟨wd_354, wd_352, wd_353, wd_70, by decide +kernel, by decide⟩
theorem cv_O_sealedCount : zCv m_O_sealedCount "SpooledPost$Spool" 0 := ⟨wd_522, wd_520, wd_521, wd_70, by decide +kernel, by decide⟩
theorem cv_O_sealedNumber : zCv m_O_sealedNumber "SpooledPost$Spool" 1 := ⟨wd_589, wd_587, wd_588, wd_70, by decide +kernel, by decide⟩
theorem cv_O_write : zCv m_O_write "SpooledPost$Spool" 0 := ⟨wd_327, wd_325, wd_326, wd_70, by decide +kernel, by decide⟩
theorem cs_M_at : zCs m_M_at 3 := ⟨wd_932, wd_931, wd_74, by decide +kernel, by decide⟩
theorem cv_M_border : zCv m_M_border "SpooledPostModel" 1 := ⟨wd_998, wd_997, wd_65, wd_74, by decide +kernel, by decide⟩
theorem cv_M_boundary : zCv m_M_boundary "SpooledPostModel" 2 := ⟨wd_986, wd_985, wd_63, wd_74, by decide +kernel, by decide⟩
theorem cv_M_bracketed : zCv m_M_bracketed "SpooledPostModel" 1 := ⟨wd_871, wd_870, wd_43, wd_74, by decide +kernel, by decide⟩
theorem cv_M_breakAfter : zCv m_M_breakAfter "SpooledPostModel" 1 := ⟨wd_895, wd_893, wd_894, wd_74, by decide +kernel, by decide⟩
theorem cv_M_breakDown : zCv m_M_breakDown "SpooledPostModel" 0 := ⟨wd_826, wd_825, wd_36, wd_74, by decide +kernel, by decide⟩
theorem cv_M_charAt : zCv m_M_charAt "SpooledPostModel" 1 := ⟨wd_842, wd_841, wd_40, wd_74, by decide +kernel, by decide⟩
theorem cv_M_colon : zCv m_M_colon "SpooledPostModel" 1 := ⟨wd_972, wd_971, wd_60, wd_74, by decide +kernel, by decide⟩
theorem cv_M_command : zCv m_M_command "SpooledPostModel" 0 := ⟨wd_834, wd_833, wd_38, wd_74, by decide +kernel, by decide⟩
theorem cv_M_copyPath : zCv m_M_copyPath "SpooledPostModel" 2 := ⟨wd_830, wd_829, wd_37, wd_74, by decide +kernel, by decide⟩
theorem cv_M_divide : zCv m_M_divide "SpooledPostModel" 3 := ⟨wd_994, wd_993, wd_64, wd_74, by decide +kernel, by decide⟩
theorem cv_M_divided : zCv m_M_divided "SpooledPostModel" 1 := ⟨wd_948, wd_947, wd_54, wd_74, by decide +kernel, by decide⟩
theorem cv_M_due : zCv m_M_due "SpooledPostModel" 2 := ⟨wd_1027, wd_1025, wd_1026, wd_74, by decide +kernel, by decide⟩
theorem cv_M_endOf : zCv m_M_endOf "SpooledPostModel" 1 := ⟨wd_964, wd_963, wd_58, wd_74, by decide +kernel, by decide⟩
theorem cv_M_enter : zCv m_M_enter "SpooledPostModel" 0 := ⟨wd_802, wd_800, wd_801, wd_74, by decide +kernel, by decide⟩
theorem cv_M_findLines : zCv m_M_findLines "SpooledPostModel" 1 := ⟨wd_952, wd_951, wd_55, wd_74, by decide +kernel, by decide⟩
theorem cv_M_fits : zCv m_M_fits "SpooledPostModel" 1 := ⟨wd_857, wd_856, wd_41, wd_74, by decide +kernel, by decide⟩
theorem cv_M_headEnd : zCv m_M_headEnd "SpooledPostModel" 2 := ⟨wd_956, wd_955, wd_56, wd_74, by decide +kernel, by decide⟩
theorem cs_M_isAlnum : zCs m_M_isAlnum 1 := ⟨wd_864, wd_863, wd_74, by decide +kernel, by decide⟩
theorem cv_M_isDomain : zCv m_M_isDomain "SpooledPostModel" 2 := ⟨wd_861, wd_860, wd_42, wd_74, by decide +kernel, by decide⟩
theorem cv_M_isEmpty : zCv m_M_isEmpty "SpooledPostModel" 1 := ⟨wd_960, wd_959, wd_57, wd_74, by decide +kernel, by decide⟩
theorem cs_M_isLetter : zCs m_M_isLetter 1 := ⟨wd_867, wd_866, wd_74, by decide +kernel, by decide⟩
theorem cv_M_isLetterAt : zCv m_M_isLetterAt "SpooledPostModel" 1 := ⟨wd_907, wd_906, wd_49, wd_74, by decide +kernel, by decide⟩
theorem cv_M_isLocal : zCv m_M_isLocal "SpooledPostModel" 2 := ⟨wd_879, wd_878, wd_45, wd_74, by decide +kernel, by decide⟩
theorem cv_M_isMulti : zCv m_M_isMulti "SpooledPostModel" 2 := ⟨wd_976, wd_975, wd_61, wd_74, by decide +kernel, by decide⟩
theorem cv_M_isPath : zCv m_M_isPath "SpooledPostModel" 2 := ⟨wd_875, wd_874, wd_44, wd_74, by decide +kernel, by decide⟩
theorem cv_M_keepPath : zCv m_M_keepPath "SpooledPostModel" 2 := ⟨wd_887, wd_886, wd_47, wd_74, by decide +kernel, by decide⟩
theorem cv_M_letter : zCv m_M_letter "SpooledPostModel" 1 := ⟨wd_1011, wd_1009, wd_1010, wd_74, by decide +kernel, by decide⟩
theorem cv_M_letters : zCv m_M_letters "SpooledPostModel" 0 := ⟨wd_903, wd_901, wd_902, wd_74, by decide +kernel, by decide⟩
theorem cs_M_lower : zCs m_M_lower 1 := ⟨wd_845, wd_844, wd_74, by decide +kernel, by decide⟩
theorem cv_M_mail : zCv m_M_mail "SpooledPostModel" 0 := ⟨wd_883, wd_882, wd_46, wd_74, by decide +kernel, by decide⟩
theorem cv_M_matches : zCv m_M_matches "SpooledPostModel" 5 := ⟨wd_982, wd_981, wd_62, wd_74, by decide +kernel, by decide⟩
theorem cv_M_next : zCv m_M_next "SpooledPostModel" 0 := ⟨wd_915, wd_913, wd_914, wd_74, by decide +kernel, by decide⟩
theorem cv_M_nextOne : zCv m_M_nextOne "SpooledPostModel" 0 := ⟨wd_919, wd_918, wd_50, wd_74, by decide +kernel, by decide⟩
theorem cv_M_part : zCv m_M_part "SpooledPostModel" 3 := ⟨wd_1002, wd_1000, wd_1001, wd_74, by decide +kernel, by decide⟩
theorem cv_M_parts : zCv m_M_parts "SpooledPostModel" 1 := ⟨wd_940, wd_938, wd_939, wd_74, by decide +kernel, by decide⟩
theorem cv_M_pass : zCv m_M_pass "SpooledPostModel" 1 := ⟨wd_911, wd_909, wd_910, wd_74, by decide +kernel, by decide⟩
theorem cv_M_path : zCv m_M_path "SpooledPostModel" 3 := ⟨wd_1019, wd_1017, wd_1018, wd_74, by decide +kernel, by decide⟩
theorem cv_M_placeOf : zCv m_M_placeOf "SpooledPostModel" 1 := ⟨wd_944, wd_943, wd_53, wd_74, by decide +kernel, by decide⟩
theorem cv_M_put : zCv m_M_put "SpooledPostModel" 2 := ⟨wd_810, wd_809, wd_32, wd_74, by decide +kernel, by decide⟩
theorem cv_M_recipient0 : zCv m_M_recipient0 "SpooledPostModel" 0 := ⟨wd_891, wd_890, wd_48, wd_74, by decide +kernel, by decide⟩
theorem cv_M_recipient1 : zCv m_M_recipient1 "SpooledPostModel" 2 := ⟨wd_1023, wd_1021, wd_1022, wd_74, by decide +kernel, by decide⟩
theorem cv_M_reply : zCv m_M_reply "SpooledPostModel" 1 := ⟨wd_923, wd_921, wd_922, wd_74, by decide +kernel, by decide⟩
theorem cv_M_restart : zCv m_M_restart "SpooledPostModel" 0 := ⟨wd_899, wd_897, wd_898, wd_74, by decide +kernel, by decide⟩
theorem cv_M_rightHead : zCv m_M_rightHead "SpooledPostModel" 2 := ⟨wd_968, wd_967, wd_59, wd_74, by decide +kernel, by decide⟩
theorem cv_M_spool : zCv m_M_spool "SpooledPostModel" 1 := ⟨wd_818, wd_817, wd_34, wd_74, by decide +kernel, by decide⟩
theorem cv_M_spooled : zCv m_M_spooled "SpooledPostModel" 0 := ⟨wd_814, wd_813, wd_33, wd_74, by decide +kernel, by decide⟩
theorem cv_M_state : zCv m_M_state "SpooledPostModel" 0 := ⟨wd_1006, wd_1004, wd_1005, wd_74, by decide +kernel, by decide⟩
theorem cv_M_tell : zCv m_M_tell "SpooledPostModel" 2 := ⟨wd_927, wd_926, wd_51, wd_74, by decide +kernel, by decide⟩
theorem cv_M_text : zCv m_M_text "SpooledPostModel" 2 := ⟨wd_1015, wd_1013, wd_1014, wd_74, by decide +kernel, by decide⟩
theorem cv_M_textLine : zCv m_M_textLine "SpooledPostModel" 0 := ⟨wd_806, wd_805, wd_31, wd_74, by decide +kernel, by decide⟩
theorem cv_M_tidy : zCv m_M_tidy "SpooledPostModel" 1 := ⟨wd_936, wd_935, wd_52, wd_74, by decide +kernel, by decide⟩
theorem cv_M_type : zCv m_M_type "SpooledPostModel" 1 := ⟨wd_797, wd_795, wd_796, wd_74, by decide +kernel, by decide⟩
theorem cv_M_wordCode : zCv m_M_wordCode "SpooledPostModel" 0 := ⟨wd_838, wd_837, wd_39, wd_74, by decide +kernel, by decide⟩
theorem cv_M_write : zCv m_M_write "SpooledPostModel" 0 := ⟨wd_822, wd_821, wd_35, wd_74, by decide +kernel, by decide⟩
theorem cs_JM_min : zCs m_JM_min 2 := ⟨wd_342, wd_341, wd_75, by decide +kernel, by decide⟩
theorem cv_JS_charAt : zCv m_JS_charAt "java/lang/String" 1 := ⟨wd_400, wd_398, wd_399, wd_77, by decide +kernel, by decide⟩
theorem cs_JS_checkIndex : zCs m_JS_checkIndex 2 := ⟨wd_410, wd_409, wd_77, by decide +kernel, by decide⟩
theorem cv_JS_coder : zCv m_JS_coder "java/lang/String" 0 := ⟨wd_391, wd_389, wd_390, wd_77, by decide +kernel, by decide⟩
theorem cv_JS_isLatin1 : zCv m_JS_isLatin1 "java/lang/String" 0 := ⟨wd_404, wd_402, wd_403, wd_77, by decide +kernel, by decide⟩
theorem cv_JS_length : zCv m_JS_length "java/lang/String" 0 := ⟨wd_387, wd_385, wd_386, wd_77, by decide +kernel, by decide⟩
theorem cs_JL_charAt : zCs m_JL_charAt 2 := ⟨wd_407, wd_406, wd_79, by decide +kernel, by decide⟩
theorem cs_JP_checkIndex : zCs m_JP_checkIndex 3 := ⟨wd_415, wd_414, wd_80, by decide +kernel, by decide⟩
end
section
theorem zgetD_mem {α : Type} {l : List α} {n : Nat} {a : α} (h : n < l.length) : l.getD n a ∈ l := by
  rw [List.getD_eq_getElem?_getD, List.getElem?_eq_getElem h]
  exact List.getElem_mem h
section ZConsts
variable {d : Nat} {M : ZM} {pc idx : Nat} {lv : List (Option ZV)} {st : List ZV} {h : ZH} {Q : Option ZV → ZH → Prop}
theorem zc_COMMANDS (hlk : Cond.fieldLink M.1.cls idx "SpooledPost" "COMMANDS" "[LSpooledPost$Command;" ∈ WS) (hd : decode M.2.1 pc = .ok (.getstatic idx, 3)) (kk : EvAt d M (pc + 3) lv (vQ (some (21, 0)) :: st) h Q) : EvAt d M pc lv st h Q :=
  fun G p l e s m args below meth c H locs ls B hR hS hl => va_gets B.1 B.2.1 B.2.2.2.2.2.2.2.2.2.1 hS B.2.2.2.2.2.1 (zX_hts B hlk) (fun _ z => z) hd (kk G p l e s m args below meth c H locs ls B hR hS hl)
theorem zc_SW (hlk : Cond.fieldLink M.1.cls idx "SpooledPost$1" "$SwitchMap$SpooledPost$Command" "[I" ∈ WS) (hd : decode M.2.1 pc = .ok (.getstatic idx, 3)) (kk : EvAt d M (pc + 3) lv (vQ (some (23, 0)) :: st) h Q) : EvAt d M pc lv st h Q :=
  fun G p l e s m args below meth c H locs ls B hR hS hl => va_gets B.1 B.2.1 B.2.2.2.2.2.2.2.2.2.2.2.1 hS B.2.2.2.2.2.1 (zX_hts B hlk) (fun _ z => z) hd (kk G p l e s m args below meth c H locs ls B hR hS hl)
theorem zc_compact (hlk : Cond.fieldLink M.1.cls idx "java/lang/String" "COMPACT_STRINGS" "Z" ∈ WS) (hd : decode M.2.1 pc = .ok (.getstatic idx, 3)) (kk : EvAt d M (pc + 3) lv (vI 1 :: st) h Q) : EvAt d M pc lv st h Q :=
  fun G p l e s m args below meth c H locs ls B hR hS hl => va_gets B.1 B.2.1 B.2.2.2.2.2.2.2.2.2.2.2.2.2.1 hS B.2.2.2.2.2.1 (zX_hts B hlk) (fun _ z => z) hd (kk G p l e s m args below meth c H locs ls B hR hS hl)
theorem zc_clen (hd : decode M.2.1 pc = .ok (.arraylength, 1)) (kk : EvAt d M (pc + 1) lv (vI 8 :: st) h Q) : EvAt d M pc lv (vQ (some (21, 0)) :: st) h Q :=
  fun G p l e s m args below meth c H locs ls B hR hS hl => va_tlen B.1 B.2.1 B.2.2.2.2.2.2.2.2.2.2.1 hS rfl hd (kk G p l e s m args below meth c H locs ls B hR hS hl)
theorem zc_cald {x : Int32} (hin : vp_in x 8) (hd : decode M.2.1 pc = .ok (.aaload, 1)) (kk : EvAt d M (pc + 1) lv (vQ (some (20, x.toNatClampNeg)) :: st) h Q) : EvAt d M pc lv (vI x :: vQ (some (21, 0)) :: st) h Q :=
  fun G p l e s m args below meth c H locs ls B hR hS hl => vb_tq B.1 B.2.1 B.2.2.2.2.2.2.2.2.2.2.1 hS hin rfl hd (kk G p l e s m args below meth c H locs ls B hR hS hl)
theorem zc_swald {x : Int32} (hin : vp_in x 8) (hd : decode M.2.1 pc = .ok (.iaload, 1)) (kk : EvAt d M (pc + 1) lv (vI (zSw.getD x.toNatClampNeg 0) :: st) h Q) : EvAt d M pc lv (vI x :: vQ (some (23, 0)) :: st) h Q :=
  fun G p l e s m args below meth c H locs ls B hR hS hl => va_ti B.1 B.2.1 B.2.2.2.2.2.2.2.2.2.2.2.2.1 hS hin rfl hd (kk G p l e s m args below meth c H locs ls B hR hS hl)
theorem zc_word {i : Nat} (hlk : Cond.fieldLink M.1.cls idx "SpooledPost$Command" "word" "Ljava/lang/String;" ∈ WS) (hi : i < 8) (hd : decode M.2.1 pc = .ok (.getfield idx, 3)) (kk : EvAt d M (pc + 3) lv (vQ (some (22, i)) :: st) h Q) : EvAt d M pc lv (vQ (some (20, i)) :: st) h Q :=
  fun G p l e s m args below meth c H locs ls B hR hS hl => vk_getf B.1 B.2.1 (B.2.2.2.2.2.2.2.2.2.2.2.2.2.2.2.1 i hi).2.1 hS B.2.2.2.2.2.1 (zX_hts B hlk) (fun _ z => z) hd (kk G p l e s m args below meth c H locs ls B hR hS hl)
theorem zc_S {G : ZG} {U : State} {H : Heap} (h : zConst G U H) : vk_S 14 zSL zSB (G.1 22) (G.1 24) (zA G) U H := h.2.2.2.2.2.1
theorem zc_value {i : Nat} (hlk : Cond.fieldLink M.1.cls idx "java/lang/String" "value" "[B" ∈ WS) (hi : i < 14) (hd : decode M.2.1 pc = .ok (.getfield idx, 3)) (kk : EvAt d M (pc + 3) lv (vQ (some (24, i)) :: st) h Q) : EvAt d M pc lv (vQ (some (22, i)) :: st) h Q :=
  fun G p l e s m args below meth c H locs ls B hR hS hl => vk_getf B.1 B.2.1 ((zc_S B.2.2.2.2.2.2.2.2.2).1 i hi).2.2.1 hS B.2.2.2.2.2.1 (zX_hts B hlk) (fun _ z => z) hd (kk G p l e s m args below meth c H locs ls B hR hS hl)
theorem zc_coderF {i : Nat} (hlk : Cond.fieldLink M.1.cls idx "java/lang/String" "coder" "B" ∈ WS) (hi : i < 14) (hd : decode M.2.1 pc = .ok (.getfield idx, 3)) (kk : EvAt d M (pc + 3) lv (vI 0 :: st) h Q) : EvAt d M pc lv (vQ (some (22, i)) :: st) h Q :=
  fun G p l e s m args below meth c H locs ls B hR hS hl => vk_getf B.1 B.2.1 ((zc_S B.2.2.2.2.2.2.2.2.2).1 i hi).2.1 hS B.2.2.2.2.2.1 (zX_hts B hlk) (fun _ z => z) hd (kk G p l e s m args below meth c H locs ls B hR hS hl)
theorem zc_vlen {i : Nat} (hi : i < 14) (hd : decode M.2.1 pc = .ok (.arraylength, 1)) (kk : EvAt d M (pc + 1) lv (vI (nI (zSL.getD i 0)) :: st) h Q) : EvAt d M pc lv (vQ (some (24, i)) :: st) h Q :=
  fun G p l e s m args below meth c H locs ls B hR hS hl => va_tlen B.1 B.2.1 ((zc_S B.2.2.2.2.2.2.2.2.2).1 i hi).2.2.2 hS rfl hd (kk G p l e s m args below meth c H locs ls B hR hS hl)
theorem zc_vald {i : Nat} {x : Int32} (hi : i < 14) (hin : vp_in x (zSL.getD i 0)) (hd : decode M.2.1 pc = .ok (.baload, 1)) (kk : EvAt d M (pc + 1) lv (vI ((zSB.getD i []).getD x.toNatClampNeg 0) :: st) h Q) : EvAt d M pc lv (vI x :: vQ (some (24, i)) :: st) h Q :=
  fun G p l e s m args below meth c H locs ls B hR hS hl => va_tb B.1 B.2.1 ((zc_S B.2.2.2.2.2.2.2.2.2).1 i hi).2.2.2 hS hin rfl hd (kk G p l e s m args below meth c H locs ls B hR hS hl)
theorem zc_min (hlk : Cond.methodLink M.1.cls idx Lib.Math.min.name ∈ WS) {x y : Int32} (hcat : (st.map zcat).sum ≤ 8) (hd : decode M.2.1 pc = .ok (.invokestatic idx, 3)) (kk : EvAt (d + 1) M (pc + 3) lv (vI (if y < x then y else x) :: st) h Q) : EvAt (d + 1) M pc lv (vI y :: vI x :: st) h Q := by
  intro G p l e s m args below meth c H locs ls B hR hS hl
  refine va_mmin B.1 B.2.1 (B.2.2.2.1.trans hl.1.symm) B.2.2.2.2.2.1 (zX_hts B hlk) (zX_hts B wd_341) (zX_hts B wd_75) (zX_hts B wd_342) ?_ ?_ (Nat.zero_le _) (Nat.zero_le _) hd (kk G p l e s m args below meth c H locs ls B hR hS hl)
  · show 1 ≤ d + 1
    omega
  · rw [zSum]
    show (st.map zcat).sum + 13 ≤ 60 * (d + 1)
    omega
theorem zc_copy {a b : Nat} {sp dp n : Int32} (hlk : Cond.methodLink M.1.cls idx arraycopyName ∈ WS) (ha : a < 43) (hb : b < 43) (hp : ¬ sp < 0 ∧ ¬ dp < 0 ∧ ¬ n < 0 ∧ sp.toNatClampNeg + n.toNatClampNeg ≤ zLen 2 a ∧ dp.toNatClampNeg + n.toNatClampNeg ≤ zLen 2 b ∧ ∀ i, i < n.toNatClampNeg → fits .char (.int (zi h 2 a (sp.toNatClampNeg + i))) = true) (hcat : (st.map zcat).sum ≤ 8)
    (hd : decode M.2.1 pc = .ok (.invokestatic idx, 3)) (kk : EvAt (d + 1) M (pc + 3) lv st (zcp h 2 a b sp.toNatClampNeg dp.toNatClampNeg n.toNatClampNeg) Q) : EvAt (d + 1) M pc lv (vI n :: vI dp :: vQ (some (2, b)) :: vI sp :: vQ (some (2, a)) :: st) h Q := by
  intro G p l e s m args below meth c H locs ls B hR hS hl
  obtain ⟨h1, h2, h3, h4, h5, h6⟩ := hp
  obtain ⟨q0, e1, -⟩ := zpos B.2.2.2.2.2.2.2.2.1 (zin (k := 2) (by decide) ha)
  obtain ⟨q1, f1, f2⟩ := zpos B.2.2.2.2.2.2.2.2.1 (zin (k := 2) (by decide) hb)
  have he := e1 h
  have hf := f1 h
  have hset := f2 h (zcp h 2 a b sp.toNatClampNeg dp.toNatClampNeg n.toNatClampNeg) (zcp_off h 2 a b _ _ _)
  have hE : zE G (zcp h 2 a b sp.toNatClampNeg dp.toNatClampNeg n.toNatClampNeg) 2 b = .inl (G.2.2.1 (zarr 2), zLen 2 b, .inl (va_cpy (fun j => h.1 2 a j) (fun j => h.1 2 b j) sp.toNatClampNeg dp.toNatClampNeg n.toNatClampNeg)) := by
    rw [zE_arr rfl rfl]
    refine congrArg Sum.inl (congrArg (Prod.mk _) (congrArg (Prod.mk _) (congrArg Sum.inl ?_)))
    funext j
    show (if 2 = 2 ∧ b = b ∧ dp.toNatClampNeg ≤ j ∧ j < dp.toNatClampNeg + n.toNatClampNeg then _ else _) = _
    unfold va_cpy
    by_cases hc : dp.toNatClampNeg ≤ j ∧ j < dp.toNatClampNeg + n.toNatClampNeg
    · rw [if_pos ⟨rfl, rfl, hc⟩, if_pos hc]
    · rw [if_neg (fun z => hc z.2.2), if_neg hc]
  rw [hE] at hset
  rw [zE_arr rfl rfl] at he hf
  refine va_copyi B.1 B.2.1 (B.2.2.2.1.trans hl.1.symm) B.2.2.2.2.2.1 (zX_hts B hlk) (zX_hts B wd_345) (zX_hts B wd_344) (zX_hts B wd_76) B.2.2.2.2.2.2.2.1 hR (zD h B.2.2.2.2.2.2.2.2.1) hS q0 q1 1 1 he hf (ztys_at G (t := 1) (ty := .char) rfl) (ztys_at G (t := 1) (ty := .char) rfl) rfl h1 h2 h3 h4 h5 h6 ?_ ?_ hd (fun H1 locs1 hP1 hD1 hS1 => ?_)
  · show 1 ≤ d + 1
    omega
  · rw [zSum]
    show (st.map zcat).sum + (nativeFrameWords "java/lang/System" "arraycopy" 5 + 11) ≤ 60 * (d + 1)
    have : nativeFrameWords "java/lang/System" "arraycopy" 5 ≤ 41 := by decide +kernel
    omega
  · rw [hset] at hP1
    exact kk G p l e s m args below meth c H1 locs1 ls B hP1 hS1 hl
theorem zc_ldc8 (hM : M.1.cls = "SpooledPost") (hd : decode M.2.1 pc = .ok (.ldc 225, 2)) (kk : EvAt d M (pc + 2) lv (vQ (some (22, 8)) :: st) h Q) : EvAt d M pc lv st h Q :=
  fun G p l e s m args below meth c H locs ls B hR hS hl => va_ldcS B.1 B.2.1 (own := "SpooledPost") (by rw [← hM]; exact B.2.2.2.2.2.1) B.2.2.2.2.2.2.2.2.2.2.2.2.2.2.2.2.2.1 hd (kk G p l e s m args below meth c H locs ls B hR hS hl)
theorem zc_ldc9 (hM : M.1.cls = "SpooledPost") (hd : decode M.2.1 pc = .ok (.ldc 237, 2)) (kk : EvAt d M (pc + 2) lv (vQ (some (22, 9)) :: st) h Q) : EvAt d M pc lv st h Q :=
  fun G p l e s m args below meth c H locs ls B hR hS hl => va_ldcS B.1 B.2.1 (own := "SpooledPost") (by rw [← hM]; exact B.2.2.2.2.2.1) B.2.2.2.2.2.2.2.2.2.2.2.2.2.2.2.2.2.2.1 hd (kk G p l e s m args below meth c H locs ls B hR hS hl)
theorem zc_ldc11 (hM : M.1.cls = "SpooledPost$PartReader") (hd : decode M.2.1 pc = .ok (.ldc 90, 2)) (kk : EvAt d M (pc + 2) lv (vQ (some (22, 11)) :: st) h Q) : EvAt d M pc lv st h Q :=
  fun G p l e s m args below meth c H locs ls B hR hS hl => va_ldcS B.1 B.2.1 (own := "SpooledPost$PartReader") (by rw [← hM]; exact B.2.2.2.2.2.1) B.2.2.2.2.2.2.2.2.2.2.2.2.2.2.2.2.2.2.2.2.1 hd (kk G p l e s m args below meth c H locs ls B hR hS hl)
theorem zc_ldc12 (hM : M.1.cls = "SpooledPost$PartReader") (hd : decode M.2.1 pc = .ok (.ldc 104, 2)) (kk : EvAt d M (pc + 2) lv (vQ (some (22, 12)) :: st) h Q) : EvAt d M pc lv st h Q :=
  fun G p l e s m args below meth c H locs ls B hR hS hl => va_ldcS B.1 B.2.1 (own := "SpooledPost$PartReader") (by rw [← hM]; exact B.2.2.2.2.2.1) B.2.2.2.2.2.2.2.2.2.2.2.2.2.2.2.2.2.2.2.2.2.1 hd (kk G p l e s m args below meth c H locs ls B hR hS hl)
theorem zc_ldc13 (hM : M.1.cls = "SpooledPost$PartReader") (hd : decode M.2.1 pc = .ok (.ldc 106, 2)) (kk : EvAt d M (pc + 2) lv (vQ (some (22, 13)) :: st) h Q) : EvAt d M pc lv st h Q :=
  fun G p l e s m args below meth c H locs ls B hR hS hl => va_ldcS B.1 B.2.1 (own := "SpooledPost$PartReader") (by rw [← hM]; exact B.2.2.2.2.2.1) B.2.2.2.2.2.2.2.2.2.2.2.2.2.2.2.2.2.2.2.2.2.2 hd (kk G p l e s m args below meth c H locs ls B hR hS hl)
theorem zc_fmt (hlk : Cond.fieldLink M.1.cls idx "jdk/internal/util/Preconditions" "SIOOBE_FORMATTER" "Ljava/util/function/BiFunction;" ∈ WS) (hd : decode M.2.1 pc = .ok (.getstatic idx, 3)) (k1 : EvAt d M (pc + 3) lv (vQ none :: st) h Q) (k2 : EvAt d M (pc + 3) lv (vQ (some (25, 0)) :: st) h Q) : EvAt d M pc lv st h Q := by
  intro G p l e s m args below meth c H locs ls B hR hS hl
  rcases B.2.2.2.2.2.2.2.2.2.2.2.2.2.2.2.2.1 with z | z
  · exact va_gets B.1 B.2.1 z hS B.2.2.2.2.2.1 (zX_hts B hlk) (fun _ z => z) hd (k1 G p l e s m args below meth c H locs ls B hR hS hl)
  · exact va_gets B.1 B.2.1 z hS B.2.2.2.2.2.1 (zX_hts B hlk) (fun _ z => z) hd (k2 G p l e s m args below meth c H locs ls B hR hS hl)
theorem zc_recS {i : Nat} (hi : i < 14) : ∀ (G : ZG) (s : State) (H : Heap) (locs : List Loc), zConst G s s.heap → va_S (zA G) s.heap H locs → ∃ cell : Cell, H[G.1 22 i]? = some cell ∧ cell.vm.isStatics = false ∧ s.vm.findClass "java/lang/String" = some cell.cls :=
  fun G s H locs hC hS => vk_recv (zc_S hC) hi hS
theorem e_JS_coder {i : Nat} (hi : i < 14) {h : ZH} {Q : Int32 → ZH → Prop} (hq : Q 0 h) : EvI d m_JS_coder [vQ (some (22, i))] h Q := by
  refine zo_entryF (by decide +kernel) (Nat.le_of_ble_eq_true rfl) ?_
  refine zc_compact wd_392 d_JS_coder_0 ?_
  refine zo_if_eq (tgt := 13) d_JS_coder_3 (by decide) (fun c => absurd c (by decide)) (fun c => ?_)
  refine zo_aload_n d_JS_coder_6 rfl rfl ?_
  refine zc_coderF wd_1031 hi d_JS_coder_7 ?_
  refine zo_goto (tgt := 14) d_JS_coder_10 (by decide) ?_
  exact zo_zretI (ty := .byte) rfl rfl d_JS_coder_14 hq
theorem e_JS_isLatin1 {i : Nat} (hi : i < 14) {h : ZH} {Q : Int32 → ZH → Prop} (hq : Q 1 h) : EvI d m_JS_isLatin1 [vQ (some (22, i))] h Q := by
  refine zo_entryF (by decide +kernel) (Nat.le_of_ble_eq_true rfl) ?_
  refine zc_compact wd_392 d_JS_isLatin1_0 ?_
  refine zo_if_eq (tgt := 17) d_JS_isLatin1_3 (by decide) (fun c => absurd c (by decide)) (fun c => ?_)
  refine zo_aload_n d_JS_isLatin1_6 rfl rfl ?_
  refine zc_coderF wd_1031 hi d_JS_isLatin1_7 ?_
  refine zo_if_ne (tgt := 17) d_JS_isLatin1_10 (by decide) (fun c => absurd rfl c) (fun c => ?_)
  refine zo_iconst (v := 1) d_JS_isLatin1_13 (by decide) ?_
  refine zo_goto (tgt := 18) d_JS_isLatin1_14 (by decide) ?_
  exact zo_zretI (ty := .boolean) rfl rfl d_JS_isLatin1_18 hq
theorem zSL_lt : ∀ i, i < 14 → zSL.getD i 0 < 2 ^ 31 := by decide +kernel
theorem e_JS_length {i : Nat} (hi : i < 14) {h : ZH} {Q : Int32 → ZH → Prop} (hq : Q (nI (zSL.getD i 0)) h) : EvI (d + 1) m_JS_length [vQ (some (22, i))] h Q := by
  refine zo_entryF (by decide +kernel) (Nat.le_of_ble_eq_true rfl) ?_
  refine zo_aload_n d_JS_length_0 rfl rfl ?_
  refine zc_value wd_1030 hi d_JS_length_1 ?_
  refine zc_vlen hi d_JS_length_4 ?_
  refine zo_aload_n d_JS_length_5 rfl rfl ?_
  refine zo_callK (d := d) (N := m_JS_coder) (as := []) (n := 0) (zc_recS hi) cv_JS_coder wd_388 rfl rfl (Nat.le_of_ble_eq_true rfl) d_JS_length_6 (e_JS_coder hi (Q := fun x h' => x = 0 ∧ h' = h) ⟨rfl, rfl⟩) ?_
  rintro r h' ⟨x, rfl, rfl, rfl⟩
  refine zo_ishr d_JS_length_9 ?_
  rw [sc_shr0 (zSL_lt i hi)]
  exact zo_iretI rfl d_JS_length_10 hq
theorem zc_slen {i : Nat} (hlk : Cond.methodLink M.1.cls idx m_JS_length.1 ∈ WS) (hi : i < 14) (hd : decode M.2.1 pc = .ok (.invokevirtual idx, 3)) (hcat : (st.map zcat).sum ≤ 8) (kk : EvAt (d + 2) M (pc + 3) lv (vI (nI (zSL.getD i 0)) :: st) h Q) : EvAt (d + 2) M pc lv (vQ (some (22, i)) :: st) h Q := by
  refine zo_callK (d := d + 1) (N := m_JS_length) (as := []) (n := 0) (zc_recS hi) cv_JS_length hlk rfl rfl hcat hd (e_JS_length hi (Q := fun x h' => x = nI (zSL.getD i 0) ∧ h' = h) ⟨rfl, rfl⟩) ?_
  rintro r h' ⟨x, rfl, rfl, rfl⟩
  exact kk
theorem e_JP_checkIndex {x n : Int32} {o : Option (Nat × Nat)} (h0 : ¬ x < 0) (h1 : x < n) {h : ZH} {Q : Int32 → ZH → Prop} (hq : Q x h) : EvI d m_JP_checkIndex [vI x, vI n, vQ o] h Q := by
  refine zo_entryF (by decide +kernel) (Nat.le_of_ble_eq_true rfl) ?_
  refine zo_iload_n d_JP_checkIndex_0 rfl rfl ?_
  refine zo_if_lt (tgt := 9) d_JP_checkIndex_1 (by decide) (fun c => absurd c h0) (fun c => ?_)
  refine zo_iload_n d_JP_checkIndex_4 rfl rfl ?_
  refine zo_iload_n d_JP_checkIndex_5 rfl rfl ?_
  refine zo_icmp_lt (tgt := 16) d_JP_checkIndex_6 (by decide) (fun c => ?_) (fun c => absurd h1 c)
  refine zo_iload_n d_JP_checkIndex_16 rfl rfl ?_
  exact zo_iretI rfl d_JP_checkIndex_17 hq
theorem e_JS_checkIndex {x n : Int32} (h0 : ¬ x < 0) (h1 : x < n) {h : ZH} {Q : ZH → Prop} (hq : Q h) : EvV (d + 1) m_JS_checkIndex [vI x, vI n] h Q := by
  refine zo_entryF (by decide +kernel) (Nat.le_of_ble_eq_true rfl) ?_
  refine zo_iload_n d_JS_checkIndex_0 rfl rfl ?_
  refine zo_iload_n d_JS_checkIndex_1 rfl rfl ?_
  have key : ∀ o : Option (Nat × Nat), EvAt (d + 1) m_JS_checkIndex 5 [some (vI x), some (vI n)] [vQ o, vI n, vI x] h (zQV Q) := by
    intro o
    refine zo_callSI (d := d) (N := m_JP_checkIndex) (as := [vI x, vI n, vQ o]) (n := 3) cs_JP_checkIndex wd_413 rfl rfl (Nat.le_of_ble_eq_true rfl) d_JS_checkIndex_5 (e_JP_checkIndex h0 h1 (Q := fun y h' => y = x ∧ h' = h) ⟨rfl, rfl⟩) ?_
    rintro y h' ⟨rfl, rfl⟩
    refine zo_pop rfl d_JS_checkIndex_8 ?_
    exact zo_vretV rfl d_JS_checkIndex_9 hq
  exact zc_fmt wd_411 d_JS_checkIndex_2 (key none) (key (some (25, 0)))
theorem zSB_ok : ∀ i, i < 14 → zSL.getD i 0 = (zSB.getD i []).length ∧ ∀ b ∈ zSB.getD i [], ((b &&& 255).toUInt32 % 65536).toInt32 = b ∧ narrow .char (.int b) = .int b := by decide +kernel
theorem zSB_get {i n : Nat} (hi : i < 14) (hn : n < zSL.getD i 0) : (((zSB.getD i []).getD n 0 &&& 255).toUInt32 % 65536).toInt32 = (zSB.getD i []).getD n 0 ∧ narrow .char (.int ((zSB.getD i []).getD n 0)) = .int ((zSB.getD i []).getD n 0) := by
  obtain ⟨h1, h2⟩ := zSB_ok i hi
  refine h2 _ ?_
  exact zgetD_mem (by omega)
theorem e_JL_charAt {i : Nat} {x : Int32} (hi : i < 14) (hx : vp_in x (zSL.getD i 0)) {h : ZH} {Q : Int32 → ZH → Prop} (hq : Q ((zSB.getD i []).getD x.toNatClampNeg 0) h) : EvI (d + 2) m_JL_charAt [vQ (some (24, i)), vI x] h Q := by
  have hL := zSL_lt i hi
  obtain ⟨j, hj, rfl⟩ := vp_in_of hx hL
  refine zo_entryF (by decide +kernel) (Nat.le_of_ble_eq_true rfl) ?_
  refine zo_iload_n d_JL_charAt_0 rfl rfl ?_
  refine zo_aload_n d_JL_charAt_1 rfl rfl ?_
  refine zc_vlen hi d_JL_charAt_2 ?_
  refine zo_callSV (d := d + 1) (N := m_JS_checkIndex) (as := [vI (nI j), vI (nI (zSL.getD i 0))]) (n := 2) cs_JS_checkIndex wd_408 rfl rfl (Nat.le_of_ble_eq_true rfl) d_JL_charAt_3 (e_JS_checkIndex (nI_pos (by omega)) (nI_lt hj hL) (Q := fun h' => h' = h) rfl) ?_
  rintro h' rfl
  refine zo_aload_n d_JL_charAt_6 rfl rfl ?_
  refine zo_iload_n d_JL_charAt_7 rfl rfl ?_
  refine zc_vald hi hx d_JL_charAt_8 ?_
  refine zo_sipush (v := 255) d_JL_charAt_9 (by decide) ?_
  refine zo_iand d_JL_charAt_12 ?_
  refine zo_i2c d_JL_charAt_13 ?_
  have e := zSB_get hi (n := (nI j).toNatClampNeg) (by rw [nI_clamp (by omega)]; exact hj)
  rw [e.1]
  exact zo_zretI (ty := .char) rfl e.2 d_JL_charAt_14 hq
theorem e_JS_charAt {i : Nat} {x : Int32} (hi : i < 14) (hx : vp_in x (zSL.getD i 0)) {h : ZH} {Q : Int32 → ZH → Prop} (hq : Q ((zSB.getD i []).getD x.toNatClampNeg 0) h) : EvI (d + 3) m_JS_charAt [vQ (some (22, i)), vI x] h Q := by
  have hL := zSL_lt i hi
  refine zo_entryF (by decide +kernel) (Nat.le_of_ble_eq_true rfl) ?_
  refine zo_aload_n d_JS_charAt_0 rfl rfl ?_
  refine zo_callK (d := d + 2) (N := m_JS_isLatin1) (as := []) (n := 0) (zc_recS hi) cv_JS_isLatin1 wd_401 rfl rfl (Nat.le_of_ble_eq_true rfl) d_JS_charAt_1 (e_JS_isLatin1 hi (Q := fun y h' => y = 1 ∧ h' = h) ⟨rfl, rfl⟩) ?_
  rintro r h' ⟨y, rfl, rfl, rfl⟩
  refine zo_if_eq (tgt := 16) d_JS_charAt_4 (by decide) (fun c => absurd c (by decide)) (fun c => ?_)
  refine zo_aload_n d_JS_charAt_7 rfl rfl ?_
  refine zc_value wd_1030 hi d_JS_charAt_8 ?_
  refine zo_iload_n d_JS_charAt_11 rfl rfl ?_
  refine zo_callSI (d := d + 2) (N := m_JL_charAt) (as := [vQ (some (24, i)), vI x]) (n := 2) cs_JL_charAt wd_405 rfl rfl (Nat.le_of_ble_eq_true rfl) d_JS_charAt_12 (e_JL_charAt hi hx (Q := fun y h'' => y = (zSB.getD i []).getD x.toNatClampNeg 0 ∧ h'' = h') ⟨rfl, rfl⟩) ?_
  rintro y h'' ⟨rfl, rfl⟩
  obtain ⟨j, hj, e⟩ := vp_in_of hx hL
  exact zo_zretI (ty := .char) rfl (zSB_get hi (by rw [e, nI_clamp (by omega)]; exact hj)).2 d_JS_charAt_15 hq
theorem zc_charAt {i : Nat} {x : Int32} (hlk : Cond.methodLink M.1.cls idx m_JS_charAt.1 ∈ WS) (hi : i < 14) (hx : vp_in x (zSL.getD i 0)) (hcat : (st.map zcat).sum ≤ 8) (hd : decode M.2.1 pc = .ok (.invokevirtual idx, 3)) (kk : EvAt (d + 4) M (pc + 3) lv (vI ((zSB.getD i []).getD x.toNatClampNeg 0) :: st) h Q) : EvAt (d + 4) M pc lv (vI x :: vQ (some (22, i)) :: st) h Q := by
  refine zo_callK (d := d + 3) (N := m_JS_charAt) (as := [vI x]) (n := 1) (zc_recS hi) cv_JS_charAt hlk rfl rfl hcat hd (e_JS_charAt hi hx (Q := fun y h' => y = (zSB.getD i []).getD x.toNatClampNeg 0 ∧ h' = h) ⟨rfl, rfl⟩) ?_
  rintro r h' ⟨y, rfl, rfl, rfl⟩
  exact kk
theorem zc_ord {i : Nat} (hlk : Cond.methodLink M.1.cls idx ⟨"SpooledPost$Command", "ordinal", "()I"⟩ ∈ WS) (hi : i < 8) (hd : decode M.2.1 pc = .ok (.invokevirtual idx, 3)) (kk : EvAt (d + 1) M (pc + 3) lv (vI (nI i) :: st) h Q) : EvAt (d + 1) M pc lv (vQ (some (20, i)) :: st) h Q := sorry
theorem zc_ldc10 (hM : M.1.cls = "SpooledPost") (hd : decode M.2.1 pc = .ok (.ldc_w 308, 3)) (kk : EvAt d M (pc + 3) lv (vQ (some (22, 10)) :: st) h Q) : EvAt d M pc lv st h Q := sorry
end ZConsts
end
section
set_option maxRecDepth 100000 in
set_option maxHeartbeats 4000000 in
theorem w_R_add_0 {d : Nat} (i0 : Nat) (x1 : Int32) (hi0 : i0 < 43) {h : ZH} {Q : ZH → Prop}
    (hf : (((nI (zLen 2 i0)) ≤ (zi h 1 i0 1) → Q h) ∧ (¬ (nI (zLen 2 i0)) ≤ (zi h 1 i0 1) → (vp_in (zi h 1 i0 1) (zLen 2 i0) ∧ Q (zw (zw h 2 i0 (zi h 1 i0 1).toNatClampNeg (vp_nar .char x1)) 1 i0 1 ((zi (zw h 2 i0 (zi h 1 i0 1).toNatClampNeg (vp_nar .char x1)) 1 i0 1) + (1 : Int32))))))) :
    EvAt d m_R_add 0 [some (vQ (some (1, i0))), some (vI x1)] [] h (zQV Q) := by
  refine zo_aload_n d_R_add_0 rfl rfl ?_
  refine gf_R_length wd_98 hi0 d_R_add_1 ?_
  refine zo_aload_n d_R_add_4 rfl rfl ?_
  refine gf_R_chars wd_97 hi0 d_R_add_5 ?_
  refine zo_alen (ty := .char) (zin (by decide) hi0) rfl rfl d_R_add_8 ?_
  refine zo_icmp_ge (tgt := 32) d_R_add_9 (by decide) (fun c1 => ?_) (fun c1 => ?_)
  · replace hf := hf.1 c1
    exact zo_vretV rfl d_R_add_32 hf
  · replace hf := hf.2 c1
    refine zo_aload_n d_R_add_12 rfl rfl ?_
    refine gf_R_chars wd_97 hi0 d_R_add_13 ?_
    refine zo_aload_n d_R_add_16 rfl rfl ?_
    refine gf_R_length wd_98 hi0 d_R_add_17 ?_
    refine zo_iload_n d_R_add_20 rfl rfl ?_
    obtain ⟨hp, hf⟩ := hf
    refine zo_cast (zin (by decide) hi0) rfl rfl rfl hp d_R_add_21 ?_
    refine zo_aload_n d_R_add_22 rfl rfl ?_
    refine zo_dup rfl d_R_add_23 ?_
    refine gf_R_length wd_98 hi0 d_R_add_24 ?_
    refine zo_iconst (v := 1) d_R_add_27 (by decide) ?_
    refine zo_iadd d_R_add_28 ?_
    refine pf_R_length wd_98 hi0 d_R_add_29 ?_
    exact zo_vretV rfl d_R_add_32 hf
theorem e_R_add {d : Nat} (i0 : Nat) (x1 : Int32) (hi0 : i0 < 43) {h : ZH} {Q : ZH → Prop}
    (hf : (((nI (zLen 2 i0)) ≤ (zi h 1 i0 1) → Q h) ∧ (¬ (nI (zLen 2 i0)) ≤ (zi h 1 i0 1) → (vp_in (zi h 1 i0 1) (zLen 2 i0) ∧ Q (zw (zw h 2 i0 (zi h 1 i0 1).toNatClampNeg (vp_nar .char x1)) 1 i0 1 ((zi (zw h 2 i0 (zi h 1 i0 1).toNatClampNeg (vp_nar .char x1)) 1 i0 1) + (1 : Int32))))))) :
    EvV d m_R_add [vQ (some (1, i0)), vI x1] h Q := zo_entry (by decide) (Nat.le_of_ble_eq_true rfl) (w_R_add_0 i0 x1 hi0 hf)
set_option maxRecDepth 100000 in
set_option maxHeartbeats 4000000 in
theorem w_R_at_0 {d : Nat} (i0 : Nat) (x1 : Int32) (hi0 : i0 < 43) {h : ZH} {Q : Int32 → ZH → Prop}
    (hf : ((x1 < 0 → Q (0 : Int32) h) ∧ (¬ x1 < 0 → (((zi h 1 i0 1) ≤ x1 → Q (0 : Int32) h) ∧ (¬ (zi h 1 i0 1) ≤ x1 → (vp_in x1 (zLen 2 i0) ∧ (narrow .char (.int (zi h 2 i0 x1.toNatClampNeg)) = .int (zi h 2 i0 x1.toNatClampNeg) ∧ Q (zi h 2 i0 x1.toNatClampNeg) h))))))) :
    EvAt d m_R_at 0 [some (vQ (some (1, i0))), some (vI x1)] [] h (zQI Q) := by
  refine zo_iload_n d_R_at_0 rfl rfl ?_
  refine zo_if_lt (tgt := 21) d_R_at_1 (by decide) (fun c2 => ?_) (fun c2 => ?_)
  · replace hf := hf.1 c2
    refine zo_iconst (v := 0) d_R_at_21 (by decide) ?_
    exact zo_zretI (ty := .char) rfl rfl d_R_at_22 hf
  · replace hf := hf.2 c2
    refine zo_iload_n d_R_at_4 rfl rfl ?_
    refine zo_aload_n d_R_at_5 rfl rfl ?_
    refine gf_R_length wd_98 hi0 d_R_at_6 ?_
    refine zo_icmp_ge (tgt := 21) d_R_at_9 (by decide) (fun c1 => ?_) (fun c1 => ?_)
    · replace hf := hf.1 c1
      refine zo_iconst (v := 0) d_R_at_21 (by decide) ?_
      exact zo_zretI (ty := .char) rfl rfl d_R_at_22 hf
    · replace hf := hf.2 c1
      refine zo_aload_n d_R_at_12 rfl rfl ?_
      refine gf_R_chars wd_97 hi0 d_R_at_13 ?_
      refine zo_iload_n d_R_at_16 rfl rfl ?_
      obtain ⟨hp, hf⟩ := hf
      refine zo_cald (zin (by decide) hi0) rfl rfl rfl hp d_R_at_17 ?_
      refine zo_goto (tgt := 22) d_R_at_18 (by decide) ?_
      exact zo_zretI (ty := .char) rfl hf.1 d_R_at_22 hf.2
theorem e_R_at {d : Nat} (i0 : Nat) (x1 : Int32) (hi0 : i0 < 43) {h : ZH} {Q : Int32 → ZH → Prop}
    (hf : ((x1 < 0 → Q (0 : Int32) h) ∧ (¬ x1 < 0 → (((zi h 1 i0 1) ≤ x1 → Q (0 : Int32) h) ∧ (¬ (zi h 1 i0 1) ≤ x1 → (vp_in x1 (zLen 2 i0) ∧ (narrow .char (.int (zi h 2 i0 x1.toNatClampNeg)) = .int (zi h 2 i0 x1.toNatClampNeg) ∧ Q (zi h 2 i0 x1.toNatClampNeg) h))))))) :
    EvI d m_R_at [vQ (some (1, i0)), vI x1] h Q := zo_entry (by decide) (Nat.le_of_ble_eq_true rfl) (w_R_at_0 i0 x1 hi0 hf)
set_option maxRecDepth 100000 in
set_option maxHeartbeats 4000000 in
theorem w_R_clear_0 {d : Nat} (i0 : Nat) (hi0 : i0 < 43) {h : ZH} {Q : ZH → Prop}
    (hf : Q (zw h 1 i0 1 (0 : Int32))) :
    EvAt d m_R_clear 0 [some (vQ (some (1, i0)))] [] h (zQV Q) := by
  refine zo_aload_n d_R_clear_0 rfl rfl ?_
  refine zo_iconst (v := 0) d_R_clear_1 (by decide) ?_
  refine pf_R_length wd_98 hi0 d_R_clear_2 ?_
  exact zo_vretV rfl d_R_clear_5 hf
theorem e_R_clear {d : Nat} (i0 : Nat) (hi0 : i0 < 43) {h : ZH} {Q : ZH → Prop}
    (hf : Q (zw h 1 i0 1 (0 : Int32))) :
    EvV d m_R_clear [vQ (some (1, i0))] h Q := zo_entry (by decide) (Nat.le_of_ble_eq_true rfl) (w_R_clear_0 i0 hi0 hf)
set_option maxRecDepth 100000 in
set_option maxHeartbeats 4000000 in
theorem w_R_addRow_0 {d : Nat} (i0 : Nat) (i1 : Nat) (hi0 : i0 < 43) (hi1 : i1 < 43) {h : ZH} {Q : ZH → Prop}
    (hf : ((¬ (0 : Int32) < 0 ∧ ¬ (zi h 1 i0 1) < 0 ∧ ¬ (if ((nI (zLen 2 i0)) - (zi h 1 i0 1)) < (zi h 1 i1 1) then ((nI (zLen 2 i0)) - (zi h 1 i0 1)) else (zi h 1 i1 1)) < 0 ∧ (0 : Int32).toNatClampNeg + (if ((nI (zLen 2 i0)) - (zi h 1 i0 1)) < (zi h 1 i1 1) then ((nI (zLen 2 i0)) - (zi h 1 i0 1)) else (zi h 1 i1 1)).toNatClampNeg ≤ zLen 2 i1 ∧ (zi h 1 i0 1).toNatClampNeg + (if ((nI (zLen 2 i0)) - (zi h 1 i0 1)) < (zi h 1 i1 1) then ((nI (zLen 2 i0)) - (zi h 1 i0 1)) else (zi h 1 i1 1)).toNatClampNeg ≤ zLen 2 i0 ∧ ∀ i, i < (if ((nI (zLen 2 i0)) - (zi h 1 i0 1)) < (zi h 1 i1 1) then ((nI (zLen 2 i0)) - (zi h 1 i0 1)) else (zi h 1 i1 1)).toNatClampNeg → fits .char (.int (zi h 2 i1 ((0 : Int32).toNatClampNeg + i))) = true) ∧ Q (zw (zcp h 2 i1 i0 (0 : Int32).toNatClampNeg (zi h 1 i0 1).toNatClampNeg (if ((nI (zLen 2 i0)) - (zi h 1 i0 1)) < (zi h 1 i1 1) then ((nI (zLen 2 i0)) - (zi h 1 i0 1)) else (zi h 1 i1 1)).toNatClampNeg) 1 i0 1 ((zi (zcp h 2 i1 i0 (0 : Int32).toNatClampNeg (zi h 1 i0 1).toNatClampNeg (if ((nI (zLen 2 i0)) - (zi h 1 i0 1)) < (zi h 1 i1 1) then ((nI (zLen 2 i0)) - (zi h 1 i0 1)) else (zi h 1 i1 1)).toNatClampNeg) 1 i0 1) + (if ((nI (zLen 2 i0)) - (zi h 1 i0 1)) < (zi h 1 i1 1) then ((nI (zLen 2 i0)) - (zi h 1 i0 1)) else (zi h 1 i1 1)))))) :
    EvAt (d + 1) m_R_addRow 0 [some (vQ (some (1, i0))), some (vQ (some (1, i1))), none] [] h (zQV Q) := by
  refine zo_aload_n d_R_addRow_0 rfl rfl ?_
  refine gf_R_length wd_98 hi1 d_R_addRow_1 ?_
  refine zo_aload_n d_R_addRow_4 rfl rfl ?_
  refine gf_R_chars wd_97 hi0 d_R_addRow_5 ?_
  refine zo_alen (ty := .char) (zin (by decide) hi0) rfl rfl d_R_addRow_8 ?_
  refine zo_aload_n d_R_addRow_9 rfl rfl ?_
  refine gf_R_length wd_98 hi0 d_R_addRow_10 ?_
  refine zo_isub d_R_addRow_13 ?_
  refine zc_min wd_340 (Nat.le_of_ble_eq_true rfl) d_R_addRow_14 ?_
  refine zo_istore_n d_R_addRow_17 rfl (Nat.le_of_ble_eq_true rfl) rfl ?_
  refine zo_aload_n d_R_addRow_18 rfl rfl ?_
  refine gf_R_chars wd_97 hi1 d_R_addRow_19 ?_
  refine zo_iconst (v := 0) d_R_addRow_22 (by decide) ?_
  refine zo_aload_n d_R_addRow_23 rfl rfl ?_
  refine gf_R_chars wd_97 hi0 d_R_addRow_24 ?_
  refine zo_aload_n d_R_addRow_27 rfl rfl ?_
  refine gf_R_length wd_98 hi0 d_R_addRow_28 ?_
  refine zo_iload_n d_R_addRow_31 rfl rfl ?_
  obtain ⟨hp, hf⟩ := hf
  refine zc_copy wd_343 hi1 hi0 hp (Nat.le_of_ble_eq_true rfl) d_R_addRow_32 ?_
  refine zo_aload_n d_R_addRow_35 rfl rfl ?_
  refine zo_dup rfl d_R_addRow_36 ?_
  refine gf_R_length wd_98 hi0 d_R_addRow_37 ?_
  refine zo_iload_n d_R_addRow_40 rfl rfl ?_
  refine zo_iadd d_R_addRow_41 ?_
  refine pf_R_length wd_98 hi0 d_R_addRow_42 ?_
  exact zo_vretV rfl d_R_addRow_45 hf
theorem e_R_addRow {d : Nat} (i0 : Nat) (i1 : Nat) (hi0 : i0 < 43) (hi1 : i1 < 43) {h : ZH} {Q : ZH → Prop}
    (hf : ((¬ (0 : Int32) < 0 ∧ ¬ (zi h 1 i0 1) < 0 ∧ ¬ (if ((nI (zLen 2 i0)) - (zi h 1 i0 1)) < (zi h 1 i1 1) then ((nI (zLen 2 i0)) - (zi h 1 i0 1)) else (zi h 1 i1 1)) < 0 ∧ (0 : Int32).toNatClampNeg + (if ((nI (zLen 2 i0)) - (zi h 1 i0 1)) < (zi h 1 i1 1) then ((nI (zLen 2 i0)) - (zi h 1 i0 1)) else (zi h 1 i1 1)).toNatClampNeg ≤ zLen 2 i1 ∧ (zi h 1 i0 1).toNatClampNeg + (if ((nI (zLen 2 i0)) - (zi h 1 i0 1)) < (zi h 1 i1 1) then ((nI (zLen 2 i0)) - (zi h 1 i0 1)) else (zi h 1 i1 1)).toNatClampNeg ≤ zLen 2 i0 ∧ ∀ i, i < (if ((nI (zLen 2 i0)) - (zi h 1 i0 1)) < (zi h 1 i1 1) then ((nI (zLen 2 i0)) - (zi h 1 i0 1)) else (zi h 1 i1 1)).toNatClampNeg → fits .char (.int (zi h 2 i1 ((0 : Int32).toNatClampNeg + i))) = true) ∧ Q (zw (zcp h 2 i1 i0 (0 : Int32).toNatClampNeg (zi h 1 i0 1).toNatClampNeg (if ((nI (zLen 2 i0)) - (zi h 1 i0 1)) < (zi h 1 i1 1) then ((nI (zLen 2 i0)) - (zi h 1 i0 1)) else (zi h 1 i1 1)).toNatClampNeg) 1 i0 1 ((zi (zcp h 2 i1 i0 (0 : Int32).toNatClampNeg (zi h 1 i0 1).toNatClampNeg (if ((nI (zLen 2 i0)) - (zi h 1 i0 1)) < (zi h 1 i1 1) then ((nI (zLen 2 i0)) - (zi h 1 i0 1)) else (zi h 1 i1 1)).toNatClampNeg) 1 i0 1) + (if ((nI (zLen 2 i0)) - (zi h 1 i0 1)) < (zi h 1 i1 1) then ((nI (zLen 2 i0)) - (zi h 1 i0 1)) else (zi h 1 i1 1)))))) :
    EvV (d + 1) m_R_addRow [vQ (some (1, i0)), vQ (some (1, i1))] h Q := zo_entry (by decide) (Nat.le_of_ble_eq_true rfl) (w_R_addRow_0 i0 i1 hi0 hi1 hf)
set_option maxRecDepth 100000 in
set_option maxHeartbeats 4000000 in
theorem w_R_addPiece_0 {d : Nat} (i0 : Nat) (i1 : Nat) (x2 : Int32) (x3 : Int32) (hi0 : i0 < 43) (hi1 : i1 < 43) {h : ZH} {Q : ZH → Prop}
    (hf : EvAt (d + 1) m_R_addPiece 3 [some (vQ (some (1, i0))), some (vQ (some (1, i1))), some (vI x2), some (vI x3), some (vI x2)] [] h (zQV Q)) :
    EvAt (d + 1) m_R_addPiece 0 [some (vQ (some (1, i0))), some (vQ (some (1, i1))), some (vI x2), some (vI x3), none] [] h (zQV Q) := by
  refine zo_iload_n d_R_addPiece_0 rfl rfl ?_
  refine zo_istore d_R_addPiece_1 (Nat.le_of_ble_eq_true rfl) rfl ?_
  exact hf
theorem e_R_addPiece {d : Nat} (i0 : Nat) (i1 : Nat) (x2 : Int32) (x3 : Int32) (hi0 : i0 < 43) (hi1 : i1 < 43) {h : ZH} {Q : ZH → Prop}
    (hf : EvAt (d + 1) m_R_addPiece 3 [some (vQ (some (1, i0))), some (vQ (some (1, i1))), some (vI x2), some (vI x3), some (vI x2)] [] h (zQV Q)) :
    EvV (d + 1) m_R_addPiece [vQ (some (1, i0)), vQ (some (1, i1)), vI x2, vI x3] h Q := zo_entry (by decide) (Nat.le_of_ble_eq_true rfl) (w_R_addPiece_0 i0 i1 x2 x3 hi0 hi1 hf)
set_option maxRecDepth 100000 in
set_option maxHeartbeats 4000000 in
theorem w_R_addPiece_3 {d : Nat} (i0 : Nat) (i1 : Nat) (u2 : Option ZV) (x3 : Int32) (x4 : Int32) (hi0 : i0 < 43) (hi1 : i1 < 43) {h : ZH} {Q : ZH → Prop}
    (hf : ((x3 ≤ x4 → Q h) ∧ (¬ x3 ≤ x4 → EvI d m_R_at [vQ (some (1, i1)), vI x4] h (fun y2 g1 => EvV d m_R_add [vQ (some (1, i0)), vI y2] g1 (fun g3 => EvAt (d + 1) m_R_addPiece 3 [some (vQ (some (1, i0))), some (vQ (some (1, i1))), u2, some (vI x3), some (vI (x4 + 1))] [] g3 (zQV Q)))))) :
    EvAt (d + 1) m_R_addPiece 3 [some (vQ (some (1, i0))), some (vQ (some (1, i1))), u2, some (vI x3), some (vI x4)] [] h (zQV Q) := by
  refine zo_iload d_R_addPiece_3 rfl ?_
  refine zo_iload_n d_R_addPiece_5 rfl rfl ?_
  refine zo_icmp_ge (tgt := 25) d_R_addPiece_6 (by decide) (fun c4 => ?_) (fun c4 => ?_)
  · replace hf := hf.1 c4
    exact zo_vretV rfl d_R_addPiece_25 hf
  · replace hf := hf.2 c4
    refine zo_aload_n d_R_addPiece_9 rfl rfl ?_
    refine zo_aload_n d_R_addPiece_10 rfl rfl ?_
    refine zo_iload d_R_addPiece_11 rfl ?_
    refine zo_callVI (d := d) (N := m_R_at) (as := [vI x4]) (n := 1) (zin (by decide) hi1) rfl rfl cv_R_at wd_367 rfl rfl (Nat.le_of_ble_eq_true rfl) d_R_addPiece_13 hf (fun y2 g1 hf => ?_)
    refine zo_callVV (d := d) (N := m_R_add) (as := [vI y2]) (n := 1) (zin (by decide) hi0) rfl rfl cv_R_add wd_368 rfl rfl (Nat.le_of_ble_eq_true rfl) d_R_addPiece_16 hf (fun g3 hf => ?_)
    refine zo_iinc (v := x4 + 1) d_R_addPiece_19 rfl rfl (Nat.le_of_ble_eq_true rfl) rfl ?_
    refine zo_goto (tgt := 3) d_R_addPiece_22 (by decide) ?_
    exact hf
set_option maxRecDepth 100000 in
set_option maxHeartbeats 4000000 in
theorem w_R_matches_0 {d : Nat} (i0 : Nat) (x1 : Int32) (i2 : Nat) (hi0 : i0 < 43) (hi2 : i2 < 14) {h : ZH} {Q : Int32 → ZH → Prop}
    (hf : ((x1 < 0 → Q (0 : Int32) h) ∧ (¬ x1 < 0 → ((x1 ≤ ((zi h 1 i0 1) - (nI (zSL.getD i2 0))) → EvAt (d + 4) m_R_matches 21 [some (vQ (some (1, i0))), some (vI x1), some (vQ (some (22, i2))), some (vI (0 : Int32))] [] h (zQI Q)) ∧ (¬ x1 ≤ ((zi h 1 i0 1) - (nI (zSL.getD i2 0))) → Q (0 : Int32) h))))) :
    EvAt (d + 4) m_R_matches 0 [some (vQ (some (1, i0))), some (vI x1), some (vQ (some (22, i2))), none] [] h (zQI Q) := by
  refine zo_iload_n d_R_matches_0 rfl rfl ?_
  refine zo_if_lt (tgt := 17) d_R_matches_1 (by decide) (fun c2 => ?_) (fun c2 => ?_)
  · replace hf := hf.1 c2
    refine zo_iconst (v := 0) d_R_matches_17 (by decide) ?_
    exact zo_zretI (ty := .boolean) rfl rfl d_R_matches_18 hf
  · replace hf := hf.2 c2
    refine zo_iload_n d_R_matches_4 rfl rfl ?_
    refine zo_aload_n d_R_matches_5 rfl rfl ?_
    refine gf_R_length wd_98 hi0 d_R_matches_6 ?_
    refine zo_aload_n d_R_matches_9 rfl rfl ?_
    refine zc_slen wd_384 hi2 d_R_matches_10 (Nat.le_of_ble_eq_true rfl) ?_
    refine zo_isub d_R_matches_13 ?_
    refine zo_icmp_le (tgt := 19) d_R_matches_14 (by decide) (fun c1 => ?_) (fun c1 => ?_)
    · replace hf := hf.1 c1
      refine zo_iconst (v := 0) d_R_matches_19 (by decide) ?_
      refine zo_istore_n d_R_matches_20 rfl (Nat.le_of_ble_eq_true rfl) rfl ?_
      exact hf
    · replace hf := hf.2 c1
      refine zo_iconst (v := 0) d_R_matches_17 (by decide) ?_
      exact zo_zretI (ty := .boolean) rfl rfl d_R_matches_18 hf
theorem e_R_matches {d : Nat} (i0 : Nat) (x1 : Int32) (i2 : Nat) (hi0 : i0 < 43) (hi2 : i2 < 14) {h : ZH} {Q : Int32 → ZH → Prop}
    (hf : ((x1 < 0 → Q (0 : Int32) h) ∧ (¬ x1 < 0 → ((x1 ≤ ((zi h 1 i0 1) - (nI (zSL.getD i2 0))) → EvAt (d + 4) m_R_matches 21 [some (vQ (some (1, i0))), some (vI x1), some (vQ (some (22, i2))), some (vI (0 : Int32))] [] h (zQI Q)) ∧ (¬ x1 ≤ ((zi h 1 i0 1) - (nI (zSL.getD i2 0))) → Q (0 : Int32) h))))) :
    EvI (d + 4) m_R_matches [vQ (some (1, i0)), vI x1, vQ (some (22, i2))] h Q := zo_entry (by decide) (Nat.le_of_ble_eq_true rfl) (w_R_matches_0 i0 x1 i2 hi0 hi2 hf)
set_option maxRecDepth 100000 in
set_option maxHeartbeats 4000000 in
theorem w_R_matches_21 {d : Nat} (i0 : Nat) (x1 : Int32) (i2 : Nat) (x3 : Int32) (hi0 : i0 < 43) (hi2 : i2 < 14) {h : ZH} {Q : Int32 → ZH → Prop}
    (hf : (((nI (zSL.getD i2 0)) ≤ x3 → Q (1 : Int32) h) ∧ (¬ (nI (zSL.getD i2 0)) ≤ x3 → (vp_in (x1 + x3) (zLen 2 i0) ∧ EvI (d + 3) m_G_small [vI (zi h 2 i0 (x1 + x3).toNatClampNeg)] h (fun y2 g1 => (vp_in x3 (zSL.getD i2 0) ∧ ((y2 = ((zSB.getD i2 []).getD x3.toNatClampNeg 0) → EvAt (d + 4) m_R_matches 21 [some (vQ (some (1, i0))), some (vI x1), some (vQ (some (22, i2))), some (vI (x3 + 1))] [] g1 (zQI Q)) ∧ (¬ y2 = ((zSB.getD i2 []).getD x3.toNatClampNeg 0) → Q (0 : Int32) g1)))))))) :
    EvAt (d + 4) m_R_matches 21 [some (vQ (some (1, i0))), some (vI x1), some (vQ (some (22, i2))), some (vI x3)] [] h (zQI Q) := by
  refine zo_iload_n d_R_matches_21 rfl rfl ?_
  refine zo_aload_n d_R_matches_22 rfl rfl ?_
  refine zc_slen wd_384 hi2 d_R_matches_23 (Nat.le_of_ble_eq_true rfl) ?_
  refine zo_icmp_ge (tgt := 56) d_R_matches_26 (by decide) (fun c4 => ?_) (fun c4 => ?_)
  · replace hf := hf.1 c4
    refine zo_iconst (v := 1) d_R_matches_56 (by decide) ?_
    exact zo_zretI (ty := .boolean) rfl rfl d_R_matches_57 hf
  · replace hf := hf.2 c4
    refine zo_aload_n d_R_matches_29 rfl rfl ?_
    refine gf_R_chars wd_97 hi0 d_R_matches_30 ?_
    refine zo_iload_n d_R_matches_33 rfl rfl ?_
    refine zo_iload_n d_R_matches_34 rfl rfl ?_
    refine zo_iadd d_R_matches_35 ?_
    obtain ⟨hp, hf⟩ := hf
    refine zo_cald (zin (by decide) hi0) rfl rfl rfl hp d_R_matches_36 ?_
    refine zo_callSI (d := (d + 3)) (N := m_G_small) (as := [vI (zi h 2 i0 (x1 + x3).toNatClampNeg)]) (n := 1) cs_G_small wd_394 rfl rfl (Nat.le_of_ble_eq_true rfl) d_R_matches_37 hf (fun y2 g1 hf => ?_)
    refine zo_aload_n d_R_matches_40 rfl rfl ?_
    refine zo_iload_n d_R_matches_41 rfl rfl ?_
    obtain ⟨hp, hf⟩ := hf
    refine zc_charAt wd_397 hi2 hp (Nat.le_of_ble_eq_true rfl) d_R_matches_42 ?_
    refine zo_icmp_eq (tgt := 50) d_R_matches_45 (by decide) (fun c3 => ?_) (fun c3 => ?_)
    · replace hf := hf.1 c3
      refine zo_iinc (v := x3 + 1) d_R_matches_50 rfl rfl (Nat.le_of_ble_eq_true rfl) rfl ?_
      refine zo_goto (tgt := 21) d_R_matches_53 (by decide) ?_
      exact hf
    · replace hf := hf.2 c3
      refine zo_iconst (v := 0) d_R_matches_48 (by decide) ?_
      exact zo_zretI (ty := .boolean) rfl rfl d_R_matches_49 hf
set_option maxRecDepth 100000 in
set_option maxHeartbeats 4000000 in
theorem w_G_small_0 {d : Nat} (x0 : Int32)  {h : ZH} {Q : Int32 → ZH → Prop}
    (hf : ((x0 < (65 : Int32) → (narrow .char (.int x0) = .int x0 ∧ Q x0 h)) ∧ (¬ x0 < (65 : Int32) → (((90 : Int32) < x0 → (narrow .char (.int x0) = .int x0 ∧ Q x0 h)) ∧ (¬ (90 : Int32) < x0 → (narrow .char (.int (((x0 + (32 : Int32)).toUInt32 % 65536).toInt32)) = .int (((x0 + (32 : Int32)).toUInt32 % 65536).toInt32) ∧ Q (((x0 + (32 : Int32)).toUInt32 % 65536).toInt32) h)))))) :
    EvAt d m_G_small 0 [some (vI x0)] [] h (zQI Q) := by
  refine zo_iload_n d_G_small_0 rfl rfl ?_
  refine zo_bipush (v := 65) d_G_small_1 (by decide) ?_
  refine zo_icmp_lt (tgt := 20) d_G_small_3 (by decide) (fun c2 => ?_) (fun c2 => ?_)
  · replace hf := hf.1 c2
    refine zo_iload_n d_G_small_20 rfl rfl ?_
    exact zo_zretI (ty := .char) rfl hf.1 d_G_small_21 hf.2
  · replace hf := hf.2 c2
    refine zo_iload_n d_G_small_6 rfl rfl ?_
    refine zo_bipush (v := 90) d_G_small_7 (by decide) ?_
    refine zo_icmp_gt (tgt := 20) d_G_small_9 (by decide) (fun c1 => ?_) (fun c1 => ?_)
    · replace hf := hf.1 c1
      refine zo_iload_n d_G_small_20 rfl rfl ?_
      exact zo_zretI (ty := .char) rfl hf.1 d_G_small_21 hf.2
    · replace hf := hf.2 c1
      refine zo_iload_n d_G_small_12 rfl rfl ?_
      refine zo_bipush (v := 32) d_G_small_13 (by decide) ?_
      refine zo_iadd d_G_small_15 ?_
      refine zo_i2c d_G_small_16 ?_
      refine zo_goto (tgt := 21) d_G_small_17 (by decide) ?_
      exact zo_zretI (ty := .char) rfl hf.1 d_G_small_21 hf.2
theorem e_G_small {d : Nat} (x0 : Int32)  {h : ZH} {Q : Int32 → ZH → Prop}
    (hf : ((x0 < (65 : Int32) → (narrow .char (.int x0) = .int x0 ∧ Q x0 h)) ∧ (¬ x0 < (65 : Int32) → (((90 : Int32) < x0 → (narrow .char (.int x0) = .int x0 ∧ Q x0 h)) ∧ (¬ (90 : Int32) < x0 → (narrow .char (.int (((x0 + (32 : Int32)).toUInt32 % 65536).toInt32)) = .int (((x0 + (32 : Int32)).toUInt32 % 65536).toInt32) ∧ Q (((x0 + (32 : Int32)).toUInt32 % 65536).toInt32) h)))))) :
    EvI d m_G_small [vI x0] h Q := zo_entry (by decide) (Nat.le_of_ble_eq_true rfl) (w_G_small_0 x0  hf)
set_option maxRecDepth 100000 in
set_option maxHeartbeats 4000000 in
theorem w_G_isDomain_0 {d : Nat} (i0 : Nat) (x1 : Int32) (x2 : Int32) (hi0 : i0 < 43) {h : ZH} {Q : Int32 → ZH → Prop}
    (hf : (((x2 - x1) ≤ (32 : Int32) → EvAt (d + 1) m_G_isDomain 16 [some (vQ (some (1, i0))), some (vI x1), some (vI x2), some (vI (46 : Int32)), some (vI x1), none, none] [] h (zQI Q)) ∧ (¬ (x2 - x1) ≤ (32 : Int32) → Q (0 : Int32) h))) :
    EvAt (d + 1) m_G_isDomain 0 [some (vQ (some (1, i0))), some (vI x1), some (vI x2), none, none, none, none] [] h (zQI Q) := by
  refine zo_iload_n d_G_isDomain_0 rfl rfl ?_
  refine zo_iload_n d_G_isDomain_1 rfl rfl ?_
  refine zo_isub d_G_isDomain_2 ?_
  refine zo_bipush (v := 32) d_G_isDomain_3 (by decide) ?_
  refine zo_icmp_le (tgt := 10) d_G_isDomain_5 (by decide) (fun c1 => ?_) (fun c1 => ?_)
  · replace hf := hf.1 c1
    refine zo_bipush (v := 46) d_G_isDomain_10 (by decide) ?_
    refine zo_istore_n d_G_isDomain_12 rfl (Nat.le_of_ble_eq_true rfl) rfl ?_
    refine zo_iload_n d_G_isDomain_13 rfl rfl ?_
    refine zo_istore d_G_isDomain_14 (Nat.le_of_ble_eq_true rfl) rfl ?_
    exact hf
  · replace hf := hf.2 c1
    refine zo_iconst (v := 0) d_G_isDomain_8 (by decide) ?_
    exact zo_zretI (ty := .boolean) rfl rfl d_G_isDomain_9 hf
theorem e_G_isDomain {d : Nat} (i0 : Nat) (x1 : Int32) (x2 : Int32) (hi0 : i0 < 43) {h : ZH} {Q : Int32 → ZH → Prop}
    (hf : (((x2 - x1) ≤ (32 : Int32) → EvAt (d + 1) m_G_isDomain 16 [some (vQ (some (1, i0))), some (vI x1), some (vI x2), some (vI (46 : Int32)), some (vI x1), none, none] [] h (zQI Q)) ∧ (¬ (x2 - x1) ≤ (32 : Int32) → Q (0 : Int32) h))) :
    EvI (d + 1) m_G_isDomain [vQ (some (1, i0)), vI x1, vI x2] h Q := zo_entry (by decide) (Nat.le_of_ble_eq_true rfl) (w_G_isDomain_0 i0 x1 x2 hi0 hf)
set_option maxRecDepth 100000 in
set_option maxHeartbeats 4000000 in
theorem w_G_isDomain_16 {d : Nat} (i0 : Nat) (u1 : Option ZV) (x2 : Int32) (x3 : Int32) (x4 : Int32) (u5 : Option ZV) (u6 : Option ZV) (hi0 : i0 < 43) {h : ZH} {Q : Int32 → ZH → Prop}
    (hf : ((x2 ≤ x4 → EvI d m_G_isLetterOrDigit [vI x3] h (fun y2 g1 => (narrow .boolean (.int y2) = .int y2 ∧ Q y2 g1))) ∧ (¬ x2 ≤ x4 → EvI d m_R_at [vQ (some (1, i0)), vI x4] h (fun y4 g3 => ((¬ y4 = (46 : Int32) → ((¬ y4 = (45 : Int32) → EvI d m_G_isLetterOrDigit [vI y4] g3 (fun y6 g5 => EvAt (d + 1) m_G_isDomain 70 [some (vQ (some (1, i0))), u1, some (vI x2), some (vI x3), some (vI x4), some (vI y4), u6] [vI y6] g5 (zQI Q))) ∧ (y4 = (45 : Int32) → ((x3 = (46 : Int32) → EvAt (d + 1) m_G_isDomain 70 [some (vQ (some (1, i0))), u1, some (vI x2), some (vI x3), some (vI x4), some (vI y4), u6] [vI (0 : Int32)] g3 (zQI Q)) ∧ (¬ x3 = (46 : Int32) → EvAt (d + 1) m_G_isDomain 70 [some (vQ (some (1, i0))), u1, some (vI x2), some (vI x3), some (vI x4), some (vI y4), u6] [vI (1 : Int32)] g3 (zQI Q)))))) ∧ (y4 = (46 : Int32) → EvI d m_G_isLetterOrDigit [vI x3] g3 (fun y10 g9 => EvAt (d + 1) m_G_isDomain 70 [some (vQ (some (1, i0))), u1, some (vI x2), some (vI x3), some (vI x4), some (vI y4), u6] [vI y10] g9 (zQI Q)))))))) :
    EvAt (d + 1) m_G_isDomain 16 [some (vQ (some (1, i0))), u1, some (vI x2), some (vI x3), some (vI x4), u5, u6] [] h (zQI Q) := by
  refine zo_iload d_G_isDomain_16 rfl ?_
  refine zo_iload_n d_G_isDomain_18 rfl rfl ?_
  refine zo_icmp_ge (tgt := 88) d_G_isDomain_19 (by decide) (fun c12 => ?_) (fun c12 => ?_)
  · replace hf := hf.1 c12
    refine zo_iload_n d_G_isDomain_88 rfl rfl ?_
    refine zo_callSI (d := d) (N := m_G_isLetterOrDigit) (as := [vI x3]) (n := 1) cs_G_isLetterOrDigit wd_451 rfl rfl (Nat.le_of_ble_eq_true rfl) d_G_isDomain_89 hf (fun y2 g1 hf => ?_)
    exact zo_zretI (ty := .boolean) rfl hf.1 d_G_isDomain_92 hf.2
  · replace hf := hf.2 c12
    refine zo_aload_n d_G_isDomain_22 rfl rfl ?_
    refine zo_iload d_G_isDomain_23 rfl ?_
    refine zo_callVI (d := d) (N := m_R_at) (as := [vI x4]) (n := 1) (zin (by decide) hi0) rfl rfl cv_R_at wd_450 rfl rfl (Nat.le_of_ble_eq_true rfl) d_G_isDomain_25 hf (fun y4 g3 hf => ?_)
    refine zo_istore d_G_isDomain_28 (Nat.le_of_ble_eq_true rfl) rfl ?_
    refine zo_iload d_G_isDomain_30 rfl ?_
    refine zo_bipush (v := 46) d_G_isDomain_32 (by decide) ?_
    refine zo_icmp_ne (tgt := 44) d_G_isDomain_34 (by decide) (fun c11 => ?_) (fun c11 => ?_)
    · replace hf := hf.1 c11
      refine zo_iload d_G_isDomain_44 rfl ?_
      refine zo_bipush (v := 45) d_G_isDomain_46 (by decide) ?_
      refine zo_icmp_ne (tgt := 65) d_G_isDomain_48 (by decide) (fun c8 => ?_) (fun c8 => ?_)
      · replace hf := hf.1 c8
        refine zo_iload d_G_isDomain_65 rfl ?_
        refine zo_callSI (d := d) (N := m_G_isLetterOrDigit) (as := [vI y4]) (n := 1) cs_G_isLetterOrDigit wd_451 rfl rfl (Nat.le_of_ble_eq_true rfl) d_G_isDomain_67 hf (fun y6 g5 hf => ?_)
        exact hf
      · replace hf := hf.2 c8
        refine zo_iload_n d_G_isDomain_51 rfl rfl ?_
        refine zo_bipush (v := 46) d_G_isDomain_52 (by decide) ?_
        refine zo_icmp_eq (tgt := 61) d_G_isDomain_54 (by decide) (fun c7 => ?_) (fun c7 => ?_)
        · replace hf := hf.1 c7
          refine zo_iconst (v := 0) d_G_isDomain_61 (by decide) ?_
          refine zo_goto (tgt := 70) d_G_isDomain_62 (by decide) ?_
          exact hf
        · replace hf := hf.2 c7
          refine zo_iconst (v := 1) d_G_isDomain_57 (by decide) ?_
          refine zo_goto (tgt := 70) d_G_isDomain_58 (by decide) ?_
          exact hf
    · replace hf := hf.2 c11
      refine zo_iload_n d_G_isDomain_37 rfl rfl ?_
      refine zo_callSI (d := d) (N := m_G_isLetterOrDigit) (as := [vI x3]) (n := 1) cs_G_isLetterOrDigit wd_451 rfl rfl (Nat.le_of_ble_eq_true rfl) d_G_isDomain_38 hf (fun y10 g9 hf => ?_)
      refine zo_goto (tgt := 70) d_G_isDomain_41 (by decide) ?_
      exact hf
set_option maxRecDepth 100000 in
set_option maxHeartbeats 4000000 in
theorem w_G_isDomain_70 {d : Nat} (i0 : Nat) (u1 : Option ZV) (x2 : Int32) (u3 : Option ZV) (x4 : Int32) (x5 : Int32) (u6 : Option ZV) (xs0 : Int32) (hi0 : i0 < 43) {h : ZH} {Q : Int32 → ZH → Prop}
    (hf : ((¬ xs0 = 0 → EvAt (d + 1) m_G_isDomain 16 [some (vQ (some (1, i0))), u1, some (vI x2), some (vI x5), some (vI (x4 + 1)), some (vI x5), some (vI xs0)] [] h (zQI Q)) ∧ (xs0 = 0 → Q (0 : Int32) h))) :
    EvAt (d + 1) m_G_isDomain 70 [some (vQ (some (1, i0))), u1, some (vI x2), u3, some (vI x4), some (vI x5), u6] [vI xs0] h (zQI Q) := by
  refine zo_istore d_G_isDomain_70 (Nat.le_of_ble_eq_true rfl) rfl ?_
  refine zo_iload d_G_isDomain_72 rfl ?_
  refine zo_if_ne (tgt := 79) d_G_isDomain_74 (by decide) (fun c1 => ?_) (fun c1 => ?_)
  · replace hf := hf.1 c1
    refine zo_iload d_G_isDomain_79 rfl ?_
    refine zo_istore_n d_G_isDomain_81 rfl (Nat.le_of_ble_eq_true rfl) rfl ?_
    refine zo_iinc (v := x4 + 1) d_G_isDomain_82 rfl rfl (Nat.le_of_ble_eq_true rfl) rfl ?_
    refine zo_goto (tgt := 16) d_G_isDomain_85 (by decide) ?_
    exact hf
  · replace hf := hf.2 c1
    refine zo_iconst (v := 0) d_G_isDomain_77 (by decide) ?_
    exact zo_zretI (ty := .boolean) rfl rfl d_G_isDomain_78 hf
set_option maxRecDepth 100000 in
set_option maxHeartbeats 4000000 in
theorem w_G_isLetterOrDigit_0 {d : Nat} (x0 : Int32)  {h : ZH} {Q : Int32 → ZH → Prop}
    (hf : ((x0 < (97 : Int32) → EvAt d m_G_isLetterOrDigit 12 [some (vI x0)] [] h (zQI Q)) ∧ (¬ x0 < (97 : Int32) → ((x0 ≤ (122 : Int32) → Q (1 : Int32) h) ∧ (¬ x0 ≤ (122 : Int32) → EvAt d m_G_isLetterOrDigit 12 [some (vI x0)] [] h (zQI Q)))))) :
    EvAt d m_G_isLetterOrDigit 0 [some (vI x0)] [] h (zQI Q) := by
  refine zo_iload_n d_G_isLetterOrDigit_0 rfl rfl ?_
  refine zo_bipush (v := 97) d_G_isLetterOrDigit_1 (by decide) ?_
  refine zo_icmp_lt (tgt := 12) d_G_isLetterOrDigit_3 (by decide) (fun c2 => ?_) (fun c2 => ?_)
  · replace hf := hf.1 c2
    exact hf
  · replace hf := hf.2 c2
    refine zo_iload_n d_G_isLetterOrDigit_6 rfl rfl ?_
    refine zo_bipush (v := 122) d_G_isLetterOrDigit_7 (by decide) ?_
    refine zo_icmp_le (tgt := 36) d_G_isLetterOrDigit_9 (by decide) (fun c1 => ?_) (fun c1 => ?_)
    · replace hf := hf.1 c1
      refine zo_iconst (v := 1) d_G_isLetterOrDigit_36 (by decide) ?_
      refine zo_goto (tgt := 41) d_G_isLetterOrDigit_37 (by decide) ?_
      exact zo_zretI (ty := .boolean) rfl rfl d_G_isLetterOrDigit_41 hf
    · replace hf := hf.2 c1
      exact hf
theorem e_G_isLetterOrDigit {d : Nat} (x0 : Int32)  {h : ZH} {Q : Int32 → ZH → Prop}
    (hf : ((x0 < (97 : Int32) → EvAt d m_G_isLetterOrDigit 12 [some (vI x0)] [] h (zQI Q)) ∧ (¬ x0 < (97 : Int32) → ((x0 ≤ (122 : Int32) → Q (1 : Int32) h) ∧ (¬ x0 ≤ (122 : Int32) → EvAt d m_G_isLetterOrDigit 12 [some (vI x0)] [] h (zQI Q)))))) :
    EvI d m_G_isLetterOrDigit [vI x0] h Q := zo_entry (by decide) (Nat.le_of_ble_eq_true rfl) (w_G_isLetterOrDigit_0 x0  hf)
set_option maxRecDepth 100000 in
set_option maxHeartbeats 4000000 in
theorem w_G_isLetterOrDigit_12 {d : Nat} (x0 : Int32)  {h : ZH} {Q : Int32 → ZH → Prop}
    (hf : ((x0 < (65 : Int32) → EvAt d m_G_isLetterOrDigit 24 [some (vI x0)] [] h (zQI Q)) ∧ (¬ x0 < (65 : Int32) → ((x0 ≤ (90 : Int32) → Q (1 : Int32) h) ∧ (¬ x0 ≤ (90 : Int32) → EvAt d m_G_isLetterOrDigit 24 [some (vI x0)] [] h (zQI Q)))))) :
    EvAt d m_G_isLetterOrDigit 12 [some (vI x0)] [] h (zQI Q) := by
  refine zo_iload_n d_G_isLetterOrDigit_12 rfl rfl ?_
  refine zo_bipush (v := 65) d_G_isLetterOrDigit_13 (by decide) ?_
  refine zo_icmp_lt (tgt := 24) d_G_isLetterOrDigit_15 (by decide) (fun c2 => ?_) (fun c2 => ?_)
  · replace hf := hf.1 c2
    exact hf
  · replace hf := hf.2 c2
    refine zo_iload_n d_G_isLetterOrDigit_18 rfl rfl ?_
    refine zo_bipush (v := 90) d_G_isLetterOrDigit_19 (by decide) ?_
    refine zo_icmp_le (tgt := 36) d_G_isLetterOrDigit_21 (by decide) (fun c1 => ?_) (fun c1 => ?_)
    · replace hf := hf.1 c1
      refine zo_iconst (v := 1) d_G_isLetterOrDigit_36 (by decide) ?_
      refine zo_goto (tgt := 41) d_G_isLetterOrDigit_37 (by decide) ?_
      exact zo_zretI (ty := .boolean) rfl rfl d_G_isLetterOrDigit_41 hf
    · replace hf := hf.2 c1
      exact hf
set_option maxRecDepth 100000 in
set_option maxHeartbeats 4000000 in
theorem w_G_isLetterOrDigit_24 {d : Nat} (x0 : Int32)  {h : ZH} {Q : Int32 → ZH → Prop}
    (hf : ((x0 < (48 : Int32) → Q (0 : Int32) h) ∧ (¬ x0 < (48 : Int32) → (((57 : Int32) < x0 → Q (0 : Int32) h) ∧ (¬ (57 : Int32) < x0 → Q (1 : Int32) h))))) :
    EvAt d m_G_isLetterOrDigit 24 [some (vI x0)] [] h (zQI Q) := by
  refine zo_iload_n d_G_isLetterOrDigit_24 rfl rfl ?_
  refine zo_bipush (v := 48) d_G_isLetterOrDigit_25 (by decide) ?_
  refine zo_icmp_lt (tgt := 40) d_G_isLetterOrDigit_27 (by decide) (fun c2 => ?_) (fun c2 => ?_)
  · replace hf := hf.1 c2
    refine zo_iconst (v := 0) d_G_isLetterOrDigit_40 (by decide) ?_
    exact zo_zretI (ty := .boolean) rfl rfl d_G_isLetterOrDigit_41 hf
  · replace hf := hf.2 c2
    refine zo_iload_n d_G_isLetterOrDigit_30 rfl rfl ?_
    refine zo_bipush (v := 57) d_G_isLetterOrDigit_31 (by decide) ?_
    refine zo_icmp_gt (tgt := 40) d_G_isLetterOrDigit_33 (by decide) (fun c1 => ?_) (fun c1 => ?_)
    · replace hf := hf.1 c1
      refine zo_iconst (v := 0) d_G_isLetterOrDigit_40 (by decide) ?_
      exact zo_zretI (ty := .boolean) rfl rfl d_G_isLetterOrDigit_41 hf
    · replace hf := hf.2 c1
      refine zo_iconst (v := 1) d_G_isLetterOrDigit_36 (by decide) ?_
      refine zo_goto (tgt := 41) d_G_isLetterOrDigit_37 (by decide) ?_
      exact zo_zretI (ty := .boolean) rfl rfl d_G_isLetterOrDigit_41 hf
set_option maxRecDepth 100000 in
set_option maxHeartbeats 4000000 in
theorem w_G_isPath_0 {d : Nat} (i0 : Nat) (x1 : Int32) (x2 : Int32) (hi0 : i0 < 43) {h : ZH} {Q : Int32 → ZH → Prop}
    (hf : (((x2 - x1) ≤ (40 : Int32) → EvAt (d + 1) m_G_isPath 12 [some (vQ (some (1, i0))), some (vI x1), some (vI x2), some (vI x1)] [] h (zQI Q)) ∧ (¬ (x2 - x1) ≤ (40 : Int32) → Q (0 : Int32) h))) :
    EvAt (d + 1) m_G_isPath 0 [some (vQ (some (1, i0))), some (vI x1), some (vI x2), none] [] h (zQI Q) := by
  refine zo_iload_n d_G_isPath_0 rfl rfl ?_
  refine zo_iload_n d_G_isPath_1 rfl rfl ?_
  refine zo_isub d_G_isPath_2 ?_
  refine zo_bipush (v := 40) d_G_isPath_3 (by decide) ?_
  refine zo_icmp_le (tgt := 10) d_G_isPath_5 (by decide) (fun c1 => ?_) (fun c1 => ?_)
  · replace hf := hf.1 c1
    refine zo_iload_n d_G_isPath_10 rfl rfl ?_
    refine zo_istore_n d_G_isPath_11 rfl (Nat.le_of_ble_eq_true rfl) rfl ?_
    exact hf
  · replace hf := hf.2 c1
    refine zo_iconst (v := 0) d_G_isPath_8 (by decide) ?_
    exact zo_zretI (ty := .boolean) rfl rfl d_G_isPath_9 hf
theorem e_G_isPath {d : Nat} (i0 : Nat) (x1 : Int32) (x2 : Int32) (hi0 : i0 < 43) {h : ZH} {Q : Int32 → ZH → Prop}
    (hf : (((x2 - x1) ≤ (40 : Int32) → EvAt (d + 1) m_G_isPath 12 [some (vQ (some (1, i0))), some (vI x1), some (vI x2), some (vI x1)] [] h (zQI Q)) ∧ (¬ (x2 - x1) ≤ (40 : Int32) → Q (0 : Int32) h))) :
    EvI (d + 1) m_G_isPath [vQ (some (1, i0)), vI x1, vI x2] h Q := zo_entry (by decide) (Nat.le_of_ble_eq_true rfl) (w_G_isPath_0 i0 x1 x2 hi0 hf)
set_option maxRecDepth 100000 in
set_option maxHeartbeats 4000000 in
theorem w_G_isPath_12 {d : Nat} (i0 : Nat) (x1 : Int32) (x2 : Int32) (x3 : Int32) (hi0 : i0 < 43) {h : ZH} {Q : Int32 → ZH → Prop}
    (hf : ((x2 ≤ x3 → Q (0 : Int32) h) ∧ (¬ x2 ≤ x3 → EvI d m_R_at [vQ (some (1, i0)), vI x3] h (fun y2 g1 => ((¬ y2 = (64 : Int32) → EvAt (d + 1) m_G_isPath 12 [some (vQ (some (1, i0))), some (vI x1), some (vI x2), some (vI (x3 + 1))] [] g1 (zQI Q)) ∧ (y2 = (64 : Int32) → EvI d m_G_isLocal [vQ (some (1, i0)), vI x1, vI x3] g1 (fun y4 g3 => ((y4 = 0 → Q (0 : Int32) g3) ∧ (¬ y4 = 0 → EvI d m_G_isDomain [vQ (some (1, i0)), vI (x3 + (1 : Int32)), vI x2] g3 (fun y6 g5 => ((y6 = 0 → Q (0 : Int32) g5) ∧ (¬ y6 = 0 → Q (1 : Int32) g5)))))))))))) :
    EvAt (d + 1) m_G_isPath 12 [some (vQ (some (1, i0))), some (vI x1), some (vI x2), some (vI x3)] [] h (zQI Q) := by
  refine zo_iload_n d_G_isPath_12 rfl rfl ?_
  refine zo_iload_n d_G_isPath_13 rfl rfl ?_
  refine zo_icmp_ge (tgt := 59) d_G_isPath_14 (by decide) (fun c10 => ?_) (fun c10 => ?_)
  · replace hf := hf.1 c10
    refine zo_iconst (v := 0) d_G_isPath_59 (by decide) ?_
    exact zo_zretI (ty := .boolean) rfl rfl d_G_isPath_60 hf
  · replace hf := hf.2 c10
    refine zo_aload_n d_G_isPath_17 rfl rfl ?_
    refine zo_iload_n d_G_isPath_18 rfl rfl ?_
    refine zo_callVI (d := d) (N := m_R_at) (as := [vI x3]) (n := 1) (zin (by decide) hi0) rfl rfl cv_R_at wd_450 rfl rfl (Nat.le_of_ble_eq_true rfl) d_G_isPath_19 hf (fun y2 g1 hf => ?_)
    refine zo_bipush (v := 64) d_G_isPath_22 (by decide) ?_
    refine zo_icmp_ne (tgt := 53) d_G_isPath_24 (by decide) (fun c9 => ?_) (fun c9 => ?_)
    · replace hf := hf.1 c9
      refine zo_iinc (v := x3 + 1) d_G_isPath_53 rfl rfl (Nat.le_of_ble_eq_true rfl) rfl ?_
      refine zo_goto (tgt := 12) d_G_isPath_56 (by decide) ?_
      exact hf
    · replace hf := hf.2 c9
      refine zo_aload_n d_G_isPath_27 rfl rfl ?_
      refine zo_iload_n d_G_isPath_28 rfl rfl ?_
      refine zo_iload_n d_G_isPath_29 rfl rfl ?_
      refine zo_callSI (d := d) (N := m_G_isLocal) (as := [vQ (some (1, i0)), vI x1, vI x3]) (n := 3) cs_G_isLocal wd_474 rfl rfl (Nat.le_of_ble_eq_true rfl) d_G_isPath_30 hf (fun y4 g3 hf => ?_)
      refine zo_if_eq (tgt := 51) d_G_isPath_33 (by decide) (fun c8 => ?_) (fun c8 => ?_)
      · replace hf := hf.1 c8
        refine zo_iconst (v := 0) d_G_isPath_51 (by decide) ?_
        exact zo_zretI (ty := .boolean) rfl rfl d_G_isPath_52 hf
      · replace hf := hf.2 c8
        refine zo_aload_n d_G_isPath_36 rfl rfl ?_
        refine zo_iload_n d_G_isPath_37 rfl rfl ?_
        refine zo_iconst (v := 1) d_G_isPath_38 (by decide) ?_
        refine zo_iadd d_G_isPath_39 ?_
        refine zo_iload_n d_G_isPath_40 rfl rfl ?_
        refine zo_callSI (d := d) (N := m_G_isDomain) (as := [vQ (some (1, i0)), vI (x3 + (1 : Int32)), vI x2]) (n := 3) cs_G_isDomain wd_477 rfl rfl (Nat.le_of_ble_eq_true rfl) d_G_isPath_41 hf (fun y6 g5 hf => ?_)
        refine zo_if_eq (tgt := 51) d_G_isPath_44 (by decide) (fun c7 => ?_) (fun c7 => ?_)
        · replace hf := hf.1 c7
          refine zo_iconst (v := 0) d_G_isPath_51 (by decide) ?_
          exact zo_zretI (ty := .boolean) rfl rfl d_G_isPath_52 hf
        · replace hf := hf.2 c7
          refine zo_iconst (v := 1) d_G_isPath_47 (by decide) ?_
          refine zo_goto (tgt := 52) d_G_isPath_48 (by decide) ?_
          exact zo_zretI (ty := .boolean) rfl rfl d_G_isPath_52 hf
set_option maxRecDepth 100000 in
set_option maxHeartbeats 4000000 in
theorem w_G_isLocal_0 {d : Nat} (i0 : Nat) (x1 : Int32) (x2 : Int32) (hi0 : i0 < 43) {h : ZH} {Q : Int32 → ZH → Prop}
    (hf : EvAt (d + 1) m_G_isLocal 5 [some (vQ (some (1, i0))), some (vI x1), some (vI x2), some (vI (0 : Int32)), some (vI x1), none, none] [] h (zQI Q)) :
    EvAt (d + 1) m_G_isLocal 0 [some (vQ (some (1, i0))), some (vI x1), some (vI x2), none, none, none, none] [] h (zQI Q) := by
  refine zo_iconst (v := 0) d_G_isLocal_0 (by decide) ?_
  refine zo_istore_n d_G_isLocal_1 rfl (Nat.le_of_ble_eq_true rfl) rfl ?_
  refine zo_iload_n d_G_isLocal_2 rfl rfl ?_
  refine zo_istore d_G_isLocal_3 (Nat.le_of_ble_eq_true rfl) rfl ?_
  exact hf
theorem e_G_isLocal {d : Nat} (i0 : Nat) (x1 : Int32) (x2 : Int32) (hi0 : i0 < 43) {h : ZH} {Q : Int32 → ZH → Prop}
    (hf : EvAt (d + 1) m_G_isLocal 5 [some (vQ (some (1, i0))), some (vI x1), some (vI x2), some (vI (0 : Int32)), some (vI x1), none, none] [] h (zQI Q)) :
    EvI (d + 1) m_G_isLocal [vQ (some (1, i0)), vI x1, vI x2] h Q := zo_entry (by decide) (Nat.le_of_ble_eq_true rfl) (w_G_isLocal_0 i0 x1 x2 hi0 hf)
set_option maxRecDepth 100000 in
set_option maxHeartbeats 4000000 in
theorem w_G_isLocal_5 {d : Nat} (i0 : Nat) (u1 : Option ZV) (x2 : Int32) (x3 : Int32) (x4 : Int32) (u5 : Option ZV) (u6 : Option ZV) (hi0 : i0 < 43) {h : ZH} {Q : Int32 → ZH → Prop}
    (hf : ((x2 ≤ x4 → (narrow .boolean (.int x3) = .int x3 ∧ Q x3 h)) ∧ (¬ x2 ≤ x4 → EvI d m_R_at [vQ (some (1, i0)), vI x4] h (fun y2 g1 => EvI d m_G_isLetterOrDigit [vI y2] g1 (fun y4 g3 => ((¬ y4 = 0 → EvAt (d + 1) m_G_isLocal 48 [some (vQ (some (1, i0))), u1, some (vI x2), some (vI x3), some (vI x4), some (vI y2), u6] [] g3 (zQI Q)) ∧ (y4 = 0 → ((y2 = (45 : Int32) → EvAt (d + 1) m_G_isLocal 48 [some (vQ (some (1, i0))), u1, some (vI x2), some (vI x3), some (vI x4), some (vI y2), u6] [] g3 (zQI Q)) ∧ (¬ y2 = (45 : Int32) → ((y2 = (95 : Int32) → EvAt (d + 1) m_G_isLocal 48 [some (vQ (some (1, i0))), u1, some (vI x2), some (vI x3), some (vI x4), some (vI y2), u6] [] g3 (zQI Q)) ∧ (¬ y2 = (95 : Int32) → ((¬ y2 = (43 : Int32) → EvAt (d + 1) m_G_isLocal 53 [some (vQ (some (1, i0))), u1, some (vI x2), some (vI x3), some (vI x4), some (vI y2), u6] [vI (0 : Int32)] g3 (zQI Q)) ∧ (y2 = (43 : Int32) → EvAt (d + 1) m_G_isLocal 48 [some (vQ (some (1, i0))), u1, some (vI x2), some (vI x3), some (vI x4), some (vI y2), u6] [] g3 (zQI Q)))))))))))))) :
    EvAt (d + 1) m_G_isLocal 5 [some (vQ (some (1, i0))), u1, some (vI x2), some (vI x3), some (vI x4), u5, u6] [] h (zQI Q) := by
  refine zo_iload d_G_isLocal_5 rfl ?_
  refine zo_iload_n d_G_isLocal_7 rfl rfl ?_
  refine zo_icmp_ge (tgt := 82) d_G_isLocal_8 (by decide) (fun c9 => ?_) (fun c9 => ?_)
  · replace hf := hf.1 c9
    refine zo_iload_n d_G_isLocal_82 rfl rfl ?_
    exact zo_zretI (ty := .boolean) rfl hf.1 d_G_isLocal_83 hf.2
  · replace hf := hf.2 c9
    refine zo_aload_n d_G_isLocal_11 rfl rfl ?_
    refine zo_iload d_G_isLocal_12 rfl ?_
    refine zo_callVI (d := d) (N := m_R_at) (as := [vI x4]) (n := 1) (zin (by decide) hi0) rfl rfl cv_R_at wd_450 rfl rfl (Nat.le_of_ble_eq_true rfl) d_G_isLocal_14 hf (fun y2 g1 hf => ?_)
    refine zo_istore d_G_isLocal_17 (Nat.le_of_ble_eq_true rfl) rfl ?_
    refine zo_iload d_G_isLocal_19 rfl ?_
    refine zo_callSI (d := d) (N := m_G_isLetterOrDigit) (as := [vI y2]) (n := 1) cs_G_isLetterOrDigit wd_451 rfl rfl (Nat.le_of_ble_eq_true rfl) d_G_isLocal_21 hf (fun y4 g3 hf => ?_)
    refine zo_if_ne (tgt := 48) d_G_isLocal_24 (by decide) (fun c8 => ?_) (fun c8 => ?_)
    · replace hf := hf.1 c8
      exact hf
    · replace hf := hf.2 c8
      refine zo_iload d_G_isLocal_27 rfl ?_
      refine zo_bipush (v := 45) d_G_isLocal_29 (by decide) ?_
      refine zo_icmp_eq (tgt := 48) d_G_isLocal_31 (by decide) (fun c7 => ?_) (fun c7 => ?_)
      · replace hf := hf.1 c7
        exact hf
      · replace hf := hf.2 c7
        refine zo_iload d_G_isLocal_34 rfl ?_
        refine zo_bipush (v := 95) d_G_isLocal_36 (by decide) ?_
        refine zo_icmp_eq (tgt := 48) d_G_isLocal_38 (by decide) (fun c6 => ?_) (fun c6 => ?_)
        · replace hf := hf.1 c6
          exact hf
        · replace hf := hf.2 c6
          refine zo_iload d_G_isLocal_41 rfl ?_
          refine zo_bipush (v := 43) d_G_isLocal_43 (by decide) ?_
          refine zo_icmp_ne (tgt := 52) d_G_isLocal_45 (by decide) (fun c5 => ?_) (fun c5 => ?_)
          · replace hf := hf.1 c5
            refine zo_iconst (v := 0) d_G_isLocal_52 (by decide) ?_
            exact hf
          · replace hf := hf.2 c5
            exact hf
set_option maxRecDepth 100000 in
set_option maxHeartbeats 4000000 in
theorem w_G_isLocal_48 {d : Nat} (i0 : Nat) (u1 : Option ZV) (x2 : Int32) (x3 : Int32) (x4 : Int32) (x5 : Int32) (u6 : Option ZV) (hi0 : i0 < 43) {h : ZH} {Q : Int32 → ZH → Prop}
    (hf : EvAt (d + 1) m_G_isLocal 53 [some (vQ (some (1, i0))), u1, some (vI x2), some (vI x3), some (vI x4), some (vI x5), u6] [vI (1 : Int32)] h (zQI Q)) :
    EvAt (d + 1) m_G_isLocal 48 [some (vQ (some (1, i0))), u1, some (vI x2), some (vI x3), some (vI x4), some (vI x5), u6] [] h (zQI Q) := by
  refine zo_iconst (v := 1) d_G_isLocal_48 (by decide) ?_
  refine zo_goto (tgt := 53) d_G_isLocal_49 (by decide) ?_
  exact hf
set_option maxRecDepth 100000 in
set_option maxHeartbeats 4000000 in
theorem w_G_isLocal_53 {d : Nat} (i0 : Nat) (u1 : Option ZV) (x2 : Int32) (x3 : Int32) (x4 : Int32) (x5 : Int32) (u6 : Option ZV) (xs0 : Int32) (hi0 : i0 < 43) {h : ZH} {Q : Int32 → ZH → Prop}
    (hf : ((¬ xs0 = 0 → EvAt (d + 1) m_G_isLocal 73 [some (vQ (some (1, i0))), u1, some (vI x2), some (vI x3), some (vI x4), some (vI x5), some (vI xs0)] [] h (zQI Q)) ∧ (xs0 = 0 → ((¬ x5 = (46 : Int32) → Q (0 : Int32) h) ∧ (x5 = (46 : Int32) → ((¬ x3 = 0 → EvAt (d + 1) m_G_isLocal 73 [some (vQ (some (1, i0))), u1, some (vI x2), some (vI x3), some (vI x4), some (vI x5), some (vI xs0)] [] h (zQI Q)) ∧ (x3 = 0 → Q (0 : Int32) h))))))) :
    EvAt (d + 1) m_G_isLocal 53 [some (vQ (some (1, i0))), u1, some (vI x2), some (vI x3), some (vI x4), some (vI x5), u6] [vI xs0] h (zQI Q) := by
  refine zo_istore d_G_isLocal_53 (Nat.le_of_ble_eq_true rfl) rfl ?_
  refine zo_iload d_G_isLocal_55 rfl ?_
  refine zo_if_ne (tgt := 73) d_G_isLocal_57 (by decide) (fun c3 => ?_) (fun c3 => ?_)
  · replace hf := hf.1 c3
    exact hf
  · replace hf := hf.2 c3
    refine zo_iload d_G_isLocal_60 rfl ?_
    refine zo_bipush (v := 46) d_G_isLocal_62 (by decide) ?_
    refine zo_icmp_ne (tgt := 71) d_G_isLocal_64 (by decide) (fun c2 => ?_) (fun c2 => ?_)
    · replace hf := hf.1 c2
      refine zo_iconst (v := 0) d_G_isLocal_71 (by decide) ?_
      exact zo_zretI (ty := .boolean) rfl rfl d_G_isLocal_72 hf
    · replace hf := hf.2 c2
      refine zo_iload_n d_G_isLocal_67 rfl rfl ?_
      refine zo_if_ne (tgt := 73) d_G_isLocal_68 (by decide) (fun c1 => ?_) (fun c1 => ?_)
      · replace hf := hf.1 c1
        exact hf
      · replace hf := hf.2 c1
        refine zo_iconst (v := 0) d_G_isLocal_71 (by decide) ?_
        exact zo_zretI (ty := .boolean) rfl rfl d_G_isLocal_72 hf
set_option maxRecDepth 100000 in
set_option maxHeartbeats 4000000 in
theorem w_G_isLocal_73 {d : Nat} (i0 : Nat) (u1 : Option ZV) (x2 : Int32) (u3 : Option ZV) (x4 : Int32) (u5 : Option ZV) (x6 : Int32) (hi0 : i0 < 43) {h : ZH} {Q : Int32 → ZH → Prop}
    (hf : EvAt (d + 1) m_G_isLocal 5 [some (vQ (some (1, i0))), u1, some (vI x2), some (vI x6), some (vI (x4 + 1)), u5, some (vI x6)] [] h (zQI Q)) :
    EvAt (d + 1) m_G_isLocal 73 [some (vQ (some (1, i0))), u1, some (vI x2), u3, some (vI x4), u5, some (vI x6)] [] h (zQI Q) := by
  refine zo_iload d_G_isLocal_73 rfl ?_
  refine zo_istore_n d_G_isLocal_75 rfl (Nat.le_of_ble_eq_true rfl) rfl ?_
  refine zo_iinc (v := x4 + 1) d_G_isLocal_76 rfl rfl (Nat.le_of_ble_eq_true rfl) rfl ?_
  refine zo_goto (tgt := 5) d_G_isLocal_79 (by decide) ?_
  exact hf
set_option maxRecDepth 100000 in
set_option maxHeartbeats 4000000 in
theorem w_R_addWords_0 {d : Nat} (i0 : Nat) (i1 : Nat) (hi0 : i0 < 43) (hi1 : i1 < 14) {h : ZH} {Q : ZH → Prop}
    (hf : EvAt (d + 4) m_R_addWords 2 [some (vQ (some (1, i0))), some (vQ (some (22, i1))), some (vI (0 : Int32))] [] h (zQV Q)) :
    EvAt (d + 4) m_R_addWords 0 [some (vQ (some (1, i0))), some (vQ (some (22, i1))), none] [] h (zQV Q) := by
  refine zo_iconst (v := 0) d_R_addWords_0 (by decide) ?_
  refine zo_istore_n d_R_addWords_1 rfl (Nat.le_of_ble_eq_true rfl) rfl ?_
  exact hf
theorem e_R_addWords {d : Nat} (i0 : Nat) (i1 : Nat) (hi0 : i0 < 43) (hi1 : i1 < 14) {h : ZH} {Q : ZH → Prop}
    (hf : EvAt (d + 4) m_R_addWords 2 [some (vQ (some (1, i0))), some (vQ (some (22, i1))), some (vI (0 : Int32))] [] h (zQV Q)) :
    EvV (d + 4) m_R_addWords [vQ (some (1, i0)), vQ (some (22, i1))] h Q := zo_entry (by decide) (Nat.le_of_ble_eq_true rfl) (w_R_addWords_0 i0 i1 hi0 hi1 hf)
set_option maxRecDepth 100000 in
set_option maxHeartbeats 4000000 in
theorem w_R_addWords_2 {d : Nat} (i0 : Nat) (i1 : Nat) (x2 : Int32) (hi0 : i0 < 43) (hi1 : i1 < 14) {h : ZH} {Q : ZH → Prop}
    (hf : (((nI (zSL.getD i1 0)) ≤ x2 → Q h) ∧ (¬ (nI (zSL.getD i1 0)) ≤ x2 → (vp_in x2 (zSL.getD i1 0) ∧ EvV (d + 3) m_R_add [vQ (some (1, i0)), vI ((zSB.getD i1 []).getD x2.toNatClampNeg 0)] h (fun g1 => EvAt (d + 4) m_R_addWords 2 [some (vQ (some (1, i0))), some (vQ (some (22, i1))), some (vI (x2 + 1))] [] g1 (zQV Q)))))) :
    EvAt (d + 4) m_R_addWords 2 [some (vQ (some (1, i0))), some (vQ (some (22, i1))), some (vI x2)] [] h (zQV Q) := by
  refine zo_iload_n d_R_addWords_2 rfl rfl ?_
  refine zo_aload_n d_R_addWords_3 rfl rfl ?_
  refine zc_slen wd_384 hi1 d_R_addWords_4 (Nat.le_of_ble_eq_true rfl) ?_
  refine zo_icmp_ge (tgt := 25) d_R_addWords_7 (by decide) (fun c2 => ?_) (fun c2 => ?_)
  · replace hf := hf.1 c2
    exact zo_vretV rfl d_R_addWords_25 hf
  · replace hf := hf.2 c2
    refine zo_aload_n d_R_addWords_10 rfl rfl ?_
    refine zo_aload_n d_R_addWords_11 rfl rfl ?_
    refine zo_iload_n d_R_addWords_12 rfl rfl ?_
    obtain ⟨hp, hf⟩ := hf
    refine zc_charAt wd_397 hi1 hp (Nat.le_of_ble_eq_true rfl) d_R_addWords_13 ?_
    refine zo_callVV (d := (d + 3)) (N := m_R_add) (as := [vI ((zSB.getD i1 []).getD x2.toNatClampNeg 0)]) (n := 1) (zin (by decide) hi0) rfl rfl cv_R_add wd_368 rfl rfl (Nat.le_of_ble_eq_true rfl) d_R_addWords_16 hf (fun g1 hf => ?_)
    refine zo_iinc (v := x2 + 1) d_R_addWords_19 rfl rfl (Nat.le_of_ble_eq_true rfl) rfl ?_
    refine zo_goto (tgt := 2) d_R_addWords_22 (by decide) ?_
    exact hf
end

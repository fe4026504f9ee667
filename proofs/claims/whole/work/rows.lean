section
-- ===== PART A: goes FIRST, ahead of the names: the tables' words, and 'selects' of the private methods out of them =====
/-- a private method of a class that the tables say can be made, by its rows of tables_1 -/
def lw_okq (q : MethodName × Nat) : Prop := (q.1.cls ≠ "java/lang/invoke/MethodHandle" ∧ q.1.cls ≠ "java/lang/invoke/VarHandle") ∧ Cond.instantiable q.1.cls q.2 ∈ tables_1 ∧ Cond.privateMethod q.1 ∈ tables_1 ∧ Cond.instanceMethod q.1 ∈ tables_1
theorem lw_p0 : lw_okq (⟨"SpooledPost", "takeTextLine", "()I"⟩, 5) := ⟨⟨by decide +kernel, by decide +kernel⟩, List.mem_of_getElem? (i := 18) (by decide +kernel), List.mem_of_getElem? (i := 234) (by decide +kernel), List.mem_of_getElem? (i := 235) (by decide +kernel)⟩
theorem lw_p1 : lw_okq (⟨"SpooledPost", "endText", "()I"⟩, 5) := ⟨⟨by decide +kernel, by decide +kernel⟩, List.mem_of_getElem? (i := 18) (by decide +kernel), List.mem_of_getElem? (i := 242) (by decide +kernel), List.mem_of_getElem? (i := 243) (by decide +kernel)⟩
theorem lw_p2 : lw_okq (⟨"SpooledPost", "spoolSession", "()I"⟩, 5) := ⟨⟨by decide +kernel, by decide +kernel⟩, List.mem_of_getElem? (i := 18) (by decide +kernel), List.mem_of_getElem? (i := 250) (by decide +kernel), List.mem_of_getElem? (i := 251) (by decide +kernel)⟩
theorem lw_p3 : lw_okq (⟨"SpooledPost", "obey", "()I"⟩, 5) := ⟨⟨by decide +kernel, by decide +kernel⟩, List.mem_of_getElem? (i := 18) (by decide +kernel), List.mem_of_getElem? (i := 305) (by decide +kernel), List.mem_of_getElem? (i := 306) (by decide +kernel)⟩
theorem lw_p4 : lw_okq (⟨"SpooledPost", "commandOfLine", "()LSpooledPost$Command;"⟩, 5) := ⟨⟨by decide +kernel, by decide +kernel⟩, List.mem_of_getElem? (i := 18) (by decide +kernel), List.mem_of_getElem? (i := 309) (by decide +kernel), List.mem_of_getElem? (i := 310) (by decide +kernel)⟩
theorem lw_p5 : lw_okq (⟨"SpooledPost", "isWrittenRight", "(LSpooledPost$Command;)Z"⟩, 5) := ⟨⟨by decide +kernel, by decide +kernel⟩, List.mem_of_getElem? (i := 18) (by decide +kernel), List.mem_of_getElem? (i := 370) (by decide +kernel), List.mem_of_getElem? (i := 371) (by decide +kernel)⟩
theorem lw_p6 : lw_okq (⟨"SpooledPost", "isBracketed", "(Ljava/lang/String;)Z"⟩, 5) := ⟨⟨by decide +kernel, by decide +kernel⟩, List.mem_of_getElem? (i := 18) (by decide +kernel), List.mem_of_getElem? (i := 390) (by decide +kernel), List.mem_of_getElem? (i := 391) (by decide +kernel)⟩
theorem lw_p7 : lw_okq (⟨"SpooledPost", "isBracketEmpty", "(Ljava/lang/String;)Z"⟩, 5) := ⟨⟨by decide +kernel, by decide +kernel⟩, List.mem_of_getElem? (i := 18) (by decide +kernel), List.mem_of_getElem? (i := 394) (by decide +kernel), List.mem_of_getElem? (i := 395) (by decide +kernel)⟩
theorem lw_p8 : lw_okq (⟨"SpooledPost", "isPathIn", "(Ljava/lang/String;)Z"⟩, 5) := ⟨⟨by decide +kernel, by decide +kernel⟩, List.mem_of_getElem? (i := 18) (by decide +kernel), List.mem_of_getElem? (i := 402) (by decide +kernel), List.mem_of_getElem? (i := 403) (by decide +kernel)⟩
theorem lw_p9 : lw_okq (⟨"SpooledPost", "greet", "()I"⟩, 5) := ⟨⟨by decide +kernel, by decide +kernel⟩, List.mem_of_getElem? (i := 18) (by decide +kernel), List.mem_of_getElem? (i := 414) (by decide +kernel), List.mem_of_getElem? (i := 415) (by decide +kernel)⟩
theorem lw_p10 : lw_okq (⟨"SpooledPost", "beginTransaction", "()I"⟩, 5) := ⟨⟨by decide +kernel, by decide +kernel⟩, List.mem_of_getElem? (i := 18) (by decide +kernel), List.mem_of_getElem? (i := 418) (by decide +kernel), List.mem_of_getElem? (i := 419) (by decide +kernel)⟩
theorem lw_p11 : lw_okq (⟨"SpooledPost", "addRecipient", "()I"⟩, 5) := ⟨⟨by decide +kernel, by decide +kernel⟩, List.mem_of_getElem? (i := 18) (by decide +kernel), List.mem_of_getElem? (i := 424) (by decide +kernel), List.mem_of_getElem? (i := 425) (by decide +kernel)⟩
theorem lw_p12 : lw_okq (⟨"SpooledPost", "beginText", "()I"⟩, 5) := ⟨⟨by decide +kernel, by decide +kernel⟩, List.mem_of_getElem? (i := 18) (by decide +kernel), List.mem_of_getElem? (i := 428) (by decide +kernel), List.mem_of_getElem? (i := 429) (by decide +kernel)⟩
theorem lw_p13 : lw_okq (⟨"SpooledPost", "settle", "(LSpooledPost$Letter;LSpooledPost$Recipient;I)I"⟩, 5) := ⟨⟨by decide +kernel, by decide +kernel⟩, List.mem_of_getElem? (i := 18) (by decide +kernel), List.mem_of_getElem? (i := 482) (by decide +kernel), List.mem_of_getElem? (i := 483) (by decide +kernel)⟩
theorem lw_p14 : lw_okq (⟨"SpooledPost", "postpone", "(LSpooledPost$Recipient;)I"⟩, 5) := ⟨⟨by decide +kernel, by decide +kernel⟩, List.mem_of_getElem? (i := 18) (by decide +kernel), List.mem_of_getElem? (i := 492) (by decide +kernel), List.mem_of_getElem? (i := 493) (by decide +kernel)⟩
theorem lw_p15 : lw_okq (⟨"SpooledPost", "giveBack", "(LSpooledPost$Letter;LSpooledPost$Recipient;)I"⟩, 5) := ⟨⟨by decide +kernel, by decide +kernel⟩, List.mem_of_getElem? (i := 18) (by decide +kernel), List.mem_of_getElem? (i := 496) (by decide +kernel), List.mem_of_getElem? (i := 497) (by decide +kernel)⟩
def lw_privs_1 : List (MethodName × Nat) := [(⟨"SpooledPost", "takeTextLine", "()I"⟩, 5), (⟨"SpooledPost", "endText", "()I"⟩, 5), (⟨"SpooledPost", "spoolSession", "()I"⟩, 5), (⟨"SpooledPost", "obey", "()I"⟩, 5), (⟨"SpooledPost", "commandOfLine", "()LSpooledPost$Command;"⟩, 5), (⟨"SpooledPost", "isWrittenRight", "(LSpooledPost$Command;)Z"⟩, 5), (⟨"SpooledPost", "isBracketed", "(Ljava/lang/String;)Z"⟩, 5), (⟨"SpooledPost", "isBracketEmpty", "(Ljava/lang/String;)Z"⟩, 5), (⟨"SpooledPost", "isPathIn", "(Ljava/lang/String;)Z"⟩, 5), (⟨"SpooledPost", "greet", "()I"⟩, 5), (⟨"SpooledPost", "beginTransaction", "()I"⟩, 5), (⟨"SpooledPost", "addRecipient", "()I"⟩, 5), (⟨"SpooledPost", "beginText", "()I"⟩, 5), (⟨"SpooledPost", "settle", "(LSpooledPost$Letter;LSpooledPost$Recipient;I)I"⟩, 5), (⟨"SpooledPost", "postpone", "(LSpooledPost$Recipient;)I"⟩, 5), (⟨"SpooledPost", "giveBack", "(LSpooledPost$Letter;LSpooledPost$Recipient;)I"⟩, 5)]
theorem lw_r1 : ∀ q ∈ lw_privs_1, lw_okq q := List.forall_mem_cons.mpr ⟨lw_p0, List.forall_mem_cons.mpr ⟨lw_p1, List.forall_mem_cons.mpr ⟨lw_p2, List.forall_mem_cons.mpr ⟨lw_p3, List.forall_mem_cons.mpr ⟨lw_p4, List.forall_mem_cons.mpr ⟨lw_p5, List.forall_mem_cons.mpr ⟨lw_p6, List.forall_mem_cons.mpr ⟨lw_p7, List.forall_mem_cons.mpr ⟨lw_p8, List.forall_mem_cons.mpr ⟨lw_p9, List.forall_mem_cons.mpr ⟨lw_p10, List.forall_mem_cons.mpr ⟨lw_p11, List.forall_mem_cons.mpr ⟨lw_p12, List.forall_mem_cons.mpr ⟨lw_p13, List.forall_mem_cons.mpr ⟨lw_p14, List.forall_mem_cons.mpr ⟨lw_p15, fun _ h => absurd h List.not_mem_nil⟩⟩⟩⟩⟩⟩⟩⟩⟩⟩⟩⟩⟩⟩⟩⟩
theorem lw_p16 : lw_okq (⟨"SpooledPost", "spoolReturn", "(LSpooledPost$Letter;LSpooledPost$Recipient;)Z"⟩, 5) := ⟨⟨by decide +kernel, by decide +kernel⟩, List.mem_of_getElem? (i := 18) (by decide +kernel), List.mem_of_getElem? (i := 500) (by decide +kernel), List.mem_of_getElem? (i := 501) (by decide +kernel)⟩
theorem lw_p17 : lw_okq (⟨"SpooledPost", "findRecipient", "(II)LSpooledPost$Recipient;"⟩, 5) := ⟨⟨by decide +kernel, by decide +kernel⟩, List.mem_of_getElem? (i := 18) (by decide +kernel), List.mem_of_getElem? (i := 545) (by decide +kernel), List.mem_of_getElem? (i := 546) (by decide +kernel)⟩
theorem lw_p18 : lw_okq (⟨"SpooledPost$PartReader", "splitLines", "()V"⟩, 6) := ⟨⟨by decide +kernel, by decide +kernel⟩, List.mem_of_getElem? (i := 172) (by decide +kernel), List.mem_of_getElem? (i := 561) (by decide +kernel), List.mem_of_getElem? (i := 562) (by decide +kernel)⟩
theorem lw_p19 : lw_okq (⟨"SpooledPost$PartReader", "takePart", "(III)Z"⟩, 6) := ⟨⟨by decide +kernel, by decide +kernel⟩, List.mem_of_getElem? (i := 172) (by decide +kernel), List.mem_of_getElem? (i := 566) (by decide +kernel), List.mem_of_getElem? (i := 567) (by decide +kernel)⟩
theorem lw_p20 : lw_okq (⟨"SpooledPost$PartReader", "findHeadEnd", "(II)I"⟩, 6) := ⟨⟨by decide +kernel, by decide +kernel⟩, List.mem_of_getElem? (i := 172) (by decide +kernel), List.mem_of_getElem? (i := 570) (by decide +kernel), List.mem_of_getElem? (i := 571) (by decide +kernel)⟩
theorem lw_p21 : lw_okq (⟨"SpooledPost$PartReader", "lineEnd", "(I)I"⟩, 6) := ⟨⟨by decide +kernel, by decide +kernel⟩, List.mem_of_getElem? (i := 172) (by decide +kernel), List.mem_of_getElem? (i := 574) (by decide +kernel), List.mem_of_getElem? (i := 575) (by decide +kernel)⟩
theorem lw_p22 : lw_okq (⟨"SpooledPost$PartReader", "isHeadRight", "(II)Z"⟩, 6) := ⟨⟨by decide +kernel, by decide +kernel⟩, List.mem_of_getElem? (i := 172) (by decide +kernel), List.mem_of_getElem? (i := 578) (by decide +kernel), List.mem_of_getElem? (i := 579) (by decide +kernel)⟩
theorem lw_p23 : lw_okq (⟨"SpooledPost$PartReader", "isField", "(I)Z"⟩, 6) := ⟨⟨by decide +kernel, by decide +kernel⟩, List.mem_of_getElem? (i := 172) (by decide +kernel), List.mem_of_getElem? (i := 582) (by decide +kernel), List.mem_of_getElem? (i := 583) (by decide +kernel)⟩
theorem lw_p24 : lw_okq (⟨"SpooledPost$PartReader", "findBoundary", "(II)I"⟩, 6) := ⟨⟨by decide +kernel, by decide +kernel⟩, List.mem_of_getElem? (i := 172) (by decide +kernel), List.mem_of_getElem? (i := 587) (by decide +kernel), List.mem_of_getElem? (i := 588) (by decide +kernel)⟩
theorem lw_p25 : lw_okq (⟨"SpooledPost$PartReader", "findBoundaryBetween", "(II)I"⟩, 6) := ⟨⟨by decide +kernel, by decide +kernel⟩, List.mem_of_getElem? (i := 172) (by decide +kernel), List.mem_of_getElem? (i := 594) (by decide +kernel), List.mem_of_getElem? (i := 595) (by decide +kernel)⟩
theorem lw_p26 : lw_okq (⟨"SpooledPost$PartReader", "boundaryLength", "(I)I"⟩, 6) := ⟨⟨by decide +kernel, by decide +kernel⟩, List.mem_of_getElem? (i := 172) (by decide +kernel), List.mem_of_getElem? (i := 600) (by decide +kernel), List.mem_of_getElem? (i := 601) (by decide +kernel)⟩
theorem lw_p27 : lw_okq (⟨"SpooledPost$PartReader", "takeBody", "(IIII)Z"⟩, 6) := ⟨⟨by decide +kernel, by decide +kernel⟩, List.mem_of_getElem? (i := 172) (by decide +kernel), List.mem_of_getElem? (i := 604) (by decide +kernel), List.mem_of_getElem? (i := 605) (by decide +kernel)⟩
theorem lw_p28 : lw_okq (⟨"SpooledPost$PartReader", "borderKind", "(III)I"⟩, 6) := ⟨⟨by decide +kernel, by decide +kernel⟩, List.mem_of_getElem? (i := 172) (by decide +kernel), List.mem_of_getElem? (i := 608) (by decide +kernel), List.mem_of_getElem? (i := 609) (by decide +kernel)⟩
theorem lw_p29 : lw_okq (⟨"SpooledPost$PartReader", "isDashed", "(I)Z"⟩, 6) := ⟨⟨by decide +kernel, by decide +kernel⟩, List.mem_of_getElem? (i := 172) (by decide +kernel), List.mem_of_getElem? (i := 612) (by decide +kernel), List.mem_of_getElem? (i := 613) (by decide +kernel)⟩
theorem lw_p30 : lw_okq (⟨"SpooledPost$PartReader", "repeats", "(III)Z"⟩, 6) := ⟨⟨by decide +kernel, by decide +kernel⟩, List.mem_of_getElem? (i := 172) (by decide +kernel), List.mem_of_getElem? (i := 616) (by decide +kernel), List.mem_of_getElem? (i := 617) (by decide +kernel)⟩
theorem lw_p31 : lw_okq (⟨"SpooledPostModel", "textLine", "()I"⟩, 31) := ⟨⟨by decide +kernel, by decide +kernel⟩, List.mem_of_getElem? (i := 628) (by decide +kernel), List.mem_of_getElem? (i := 738) (by decide +kernel), List.mem_of_getElem? (i := 739) (by decide +kernel)⟩
def lw_privs_2 : List (MethodName × Nat) := [(⟨"SpooledPost", "spoolReturn", "(LSpooledPost$Letter;LSpooledPost$Recipient;)Z"⟩, 5), (⟨"SpooledPost", "findRecipient", "(II)LSpooledPost$Recipient;"⟩, 5), (⟨"SpooledPost$PartReader", "splitLines", "()V"⟩, 6), (⟨"SpooledPost$PartReader", "takePart", "(III)Z"⟩, 6), (⟨"SpooledPost$PartReader", "findHeadEnd", "(II)I"⟩, 6), (⟨"SpooledPost$PartReader", "lineEnd", "(I)I"⟩, 6), (⟨"SpooledPost$PartReader", "isHeadRight", "(II)Z"⟩, 6), (⟨"SpooledPost$PartReader", "isField", "(I)Z"⟩, 6), (⟨"SpooledPost$PartReader", "findBoundary", "(II)I"⟩, 6), (⟨"SpooledPost$PartReader", "findBoundaryBetween", "(II)I"⟩, 6), (⟨"SpooledPost$PartReader", "boundaryLength", "(I)I"⟩, 6), (⟨"SpooledPost$PartReader", "takeBody", "(IIII)Z"⟩, 6), (⟨"SpooledPost$PartReader", "borderKind", "(III)I"⟩, 6), (⟨"SpooledPost$PartReader", "isDashed", "(I)Z"⟩, 6), (⟨"SpooledPost$PartReader", "repeats", "(III)Z"⟩, 6), (⟨"SpooledPostModel", "textLine", "()I"⟩, 31)]
theorem lw_r2 : ∀ q ∈ lw_privs_2, lw_okq q := List.forall_mem_cons.mpr ⟨lw_p16, List.forall_mem_cons.mpr ⟨lw_p17, List.forall_mem_cons.mpr ⟨lw_p18, List.forall_mem_cons.mpr ⟨lw_p19, List.forall_mem_cons.mpr ⟨lw_p20, List.forall_mem_cons.mpr ⟨lw_p21, List.forall_mem_cons.mpr ⟨lw_p22, List.forall_mem_cons.mpr ⟨lw_p23, List.forall_mem_cons.mpr ⟨lw_p24, List.forall_mem_cons.mpr ⟨lw_p25, List.forall_mem_cons.mpr ⟨lw_p26, List.forall_mem_cons.mpr ⟨lw_p27, List.forall_mem_cons.mpr ⟨lw_p28, List.forall_mem_cons.mpr ⟨lw_p29, List.forall_mem_cons.mpr ⟨lw_p30, List.forall_mem_cons.mpr ⟨lw_p31, fun _ h => absurd h List.not_mem_nil⟩⟩⟩⟩⟩⟩⟩⟩⟩⟩⟩⟩⟩⟩⟩⟩
theorem lw_p32 : lw_okq (⟨"SpooledPostModel", "put", "(II)V"⟩, 31) := ⟨⟨by decide +kernel, by decide +kernel⟩, List.mem_of_getElem? (i := 628) (by decide +kernel), List.mem_of_getElem? (i := 742) (by decide +kernel), List.mem_of_getElem? (i := 743) (by decide +kernel)⟩
theorem lw_p33 : lw_okq (⟨"SpooledPostModel", "spooled", "()I"⟩, 31) := ⟨⟨by decide +kernel, by decide +kernel⟩, List.mem_of_getElem? (i := 628) (by decide +kernel), List.mem_of_getElem? (i := 746) (by decide +kernel), List.mem_of_getElem? (i := 747) (by decide +kernel)⟩
theorem lw_p34 : lw_okq (⟨"SpooledPostModel", "spool", "(I)Z"⟩, 31) := ⟨⟨by decide +kernel, by decide +kernel⟩, List.mem_of_getElem? (i := 628) (by decide +kernel), List.mem_of_getElem? (i := 750) (by decide +kernel), List.mem_of_getElem? (i := 751) (by decide +kernel)⟩
theorem lw_p35 : lw_okq (⟨"SpooledPostModel", "write", "()Z"⟩, 31) := ⟨⟨by decide +kernel, by decide +kernel⟩, List.mem_of_getElem? (i := 628) (by decide +kernel), List.mem_of_getElem? (i := 754) (by decide +kernel), List.mem_of_getElem? (i := 755) (by decide +kernel)⟩
theorem lw_p36 : lw_okq (⟨"SpooledPostModel", "breakDown", "()V"⟩, 31) := ⟨⟨by decide +kernel, by decide +kernel⟩, List.mem_of_getElem? (i := 628) (by decide +kernel), List.mem_of_getElem? (i := 758) (by decide +kernel), List.mem_of_getElem? (i := 759) (by decide +kernel)⟩
theorem lw_p37 : lw_okq (⟨"SpooledPostModel", "copyPath", "(II)V"⟩, 31) := ⟨⟨by decide +kernel, by decide +kernel⟩, List.mem_of_getElem? (i := 628) (by decide +kernel), List.mem_of_getElem? (i := 762) (by decide +kernel), List.mem_of_getElem? (i := 763) (by decide +kernel)⟩
theorem lw_p38 : lw_okq (⟨"SpooledPostModel", "command", "()I"⟩, 31) := ⟨⟨by decide +kernel, by decide +kernel⟩, List.mem_of_getElem? (i := 628) (by decide +kernel), List.mem_of_getElem? (i := 766) (by decide +kernel), List.mem_of_getElem? (i := 767) (by decide +kernel)⟩
theorem lw_p39 : lw_okq (⟨"SpooledPostModel", "wordCode", "()I"⟩, 31) := ⟨⟨by decide +kernel, by decide +kernel⟩, List.mem_of_getElem? (i := 628) (by decide +kernel), List.mem_of_getElem? (i := 770) (by decide +kernel), List.mem_of_getElem? (i := 771) (by decide +kernel)⟩
theorem lw_p40 : lw_okq (⟨"SpooledPostModel", "charAt", "(I)I"⟩, 31) := ⟨⟨by decide +kernel, by decide +kernel⟩, List.mem_of_getElem? (i := 628) (by decide +kernel), List.mem_of_getElem? (i := 774) (by decide +kernel), List.mem_of_getElem? (i := 775) (by decide +kernel)⟩
theorem lw_p41 : lw_okq (⟨"SpooledPostModel", "fits", "(I)Z"⟩, 31) := ⟨⟨by decide +kernel, by decide +kernel⟩, List.mem_of_getElem? (i := 628) (by decide +kernel), List.mem_of_getElem? (i := 789) (by decide +kernel), List.mem_of_getElem? (i := 790) (by decide +kernel)⟩
theorem lw_p42 : lw_okq (⟨"SpooledPostModel", "isDomain", "(II)Z"⟩, 31) := ⟨⟨by decide +kernel, by decide +kernel⟩, List.mem_of_getElem? (i := 628) (by decide +kernel), List.mem_of_getElem? (i := 793) (by decide +kernel), List.mem_of_getElem? (i := 794) (by decide +kernel)⟩
theorem lw_p43 : lw_okq (⟨"SpooledPostModel", "bracketed", "(Z)Z"⟩, 31) := ⟨⟨by decide +kernel, by decide +kernel⟩, List.mem_of_getElem? (i := 628) (by decide +kernel), List.mem_of_getElem? (i := 803) (by decide +kernel), List.mem_of_getElem? (i := 804) (by decide +kernel)⟩
theorem lw_p44 : lw_okq (⟨"SpooledPostModel", "isPath", "(II)Z"⟩, 31) := ⟨⟨by decide +kernel, by decide +kernel⟩, List.mem_of_getElem? (i := 628) (by decide +kernel), List.mem_of_getElem? (i := 807) (by decide +kernel), List.mem_of_getElem? (i := 808) (by decide +kernel)⟩
theorem lw_p45 : lw_okq (⟨"SpooledPostModel", "isLocal", "(II)Z"⟩, 31) := ⟨⟨by decide +kernel, by decide +kernel⟩, List.mem_of_getElem? (i := 628) (by decide +kernel), List.mem_of_getElem? (i := 811) (by decide +kernel), List.mem_of_getElem? (i := 812) (by decide +kernel)⟩
theorem lw_p46 : lw_okq (⟨"SpooledPostModel", "mail", "()I"⟩, 31) := ⟨⟨by decide +kernel, by decide +kernel⟩, List.mem_of_getElem? (i := 628) (by decide +kernel), List.mem_of_getElem? (i := 815) (by decide +kernel), List.mem_of_getElem? (i := 816) (by decide +kernel)⟩
theorem lw_p47 : lw_okq (⟨"SpooledPostModel", "keepPath", "(II)V"⟩, 31) := ⟨⟨by decide +kernel, by decide +kernel⟩, List.mem_of_getElem? (i := 628) (by decide +kernel), List.mem_of_getElem? (i := 819) (by decide +kernel), List.mem_of_getElem? (i := 820) (by decide +kernel)⟩
def lw_privs_3 : List (MethodName × Nat) := [(⟨"SpooledPostModel", "put", "(II)V"⟩, 31), (⟨"SpooledPostModel", "spooled", "()I"⟩, 31), (⟨"SpooledPostModel", "spool", "(I)Z"⟩, 31), (⟨"SpooledPostModel", "write", "()Z"⟩, 31), (⟨"SpooledPostModel", "breakDown", "()V"⟩, 31), (⟨"SpooledPostModel", "copyPath", "(II)V"⟩, 31), (⟨"SpooledPostModel", "command", "()I"⟩, 31), (⟨"SpooledPostModel", "wordCode", "()I"⟩, 31), (⟨"SpooledPostModel", "charAt", "(I)I"⟩, 31), (⟨"SpooledPostModel", "fits", "(I)Z"⟩, 31), (⟨"SpooledPostModel", "isDomain", "(II)Z"⟩, 31), (⟨"SpooledPostModel", "bracketed", "(Z)Z"⟩, 31), (⟨"SpooledPostModel", "isPath", "(II)Z"⟩, 31), (⟨"SpooledPostModel", "isLocal", "(II)Z"⟩, 31), (⟨"SpooledPostModel", "mail", "()I"⟩, 31), (⟨"SpooledPostModel", "keepPath", "(II)V"⟩, 31)]
theorem lw_r3 : ∀ q ∈ lw_privs_3, lw_okq q := List.forall_mem_cons.mpr ⟨lw_p32, List.forall_mem_cons.mpr ⟨lw_p33, List.forall_mem_cons.mpr ⟨lw_p34, List.forall_mem_cons.mpr ⟨lw_p35, List.forall_mem_cons.mpr ⟨lw_p36, List.forall_mem_cons.mpr ⟨lw_p37, List.forall_mem_cons.mpr ⟨lw_p38, List.forall_mem_cons.mpr ⟨lw_p39, List.forall_mem_cons.mpr ⟨lw_p40, List.forall_mem_cons.mpr ⟨lw_p41, List.forall_mem_cons.mpr ⟨lw_p42, List.forall_mem_cons.mpr ⟨lw_p43, List.forall_mem_cons.mpr ⟨lw_p44, List.forall_mem_cons.mpr ⟨lw_p45, List.forall_mem_cons.mpr ⟨lw_p46, List.forall_mem_cons.mpr ⟨lw_p47, fun _ h => absurd h List.not_mem_nil⟩⟩⟩⟩⟩⟩⟩⟩⟩⟩⟩⟩⟩⟩⟩⟩
theorem lw_p48 : lw_okq (⟨"SpooledPostModel", "recipient", "()I"⟩, 31) := ⟨⟨by decide +kernel, by decide +kernel⟩, List.mem_of_getElem? (i := 628) (by decide +kernel), List.mem_of_getElem? (i := 823) (by decide +kernel), List.mem_of_getElem? (i := 824) (by decide +kernel)⟩
theorem lw_p49 : lw_okq (⟨"SpooledPostModel", "isLetterAt", "(I)Z"⟩, 31) := ⟨⟨by decide +kernel, by decide +kernel⟩, List.mem_of_getElem? (i := 628) (by decide +kernel), List.mem_of_getElem? (i := 839) (by decide +kernel), List.mem_of_getElem? (i := 840) (by decide +kernel)⟩
theorem lw_p50 : lw_okq (⟨"SpooledPostModel", "nextOne", "()I"⟩, 31) := ⟨⟨by decide +kernel, by decide +kernel⟩, List.mem_of_getElem? (i := 628) (by decide +kernel), List.mem_of_getElem? (i := 851) (by decide +kernel), List.mem_of_getElem? (i := 852) (by decide +kernel)⟩
theorem lw_p51 : lw_okq (⟨"SpooledPostModel", "tell", "(II)Z"⟩, 31) := ⟨⟨by decide +kernel, by decide +kernel⟩, List.mem_of_getElem? (i := 628) (by decide +kernel), List.mem_of_getElem? (i := 859) (by decide +kernel), List.mem_of_getElem? (i := 860) (by decide +kernel)⟩
theorem lw_p52 : lw_okq (⟨"SpooledPostModel", "tidy", "(I)V"⟩, 31) := ⟨⟨by decide +kernel, by decide +kernel⟩, List.mem_of_getElem? (i := 628) (by decide +kernel), List.mem_of_getElem? (i := 868) (by decide +kernel), List.mem_of_getElem? (i := 869) (by decide +kernel)⟩
theorem lw_p53 : lw_okq (⟨"SpooledPostModel", "placeOf", "(I)I"⟩, 31) := ⟨⟨by decide +kernel, by decide +kernel⟩, List.mem_of_getElem? (i := 628) (by decide +kernel), List.mem_of_getElem? (i := 876) (by decide +kernel), List.mem_of_getElem? (i := 877) (by decide +kernel)⟩
theorem lw_p54 : lw_okq (⟨"SpooledPostModel", "divided", "(I)Z"⟩, 31) := ⟨⟨by decide +kernel, by decide +kernel⟩, List.mem_of_getElem? (i := 628) (by decide +kernel), List.mem_of_getElem? (i := 880) (by decide +kernel), List.mem_of_getElem? (i := 881) (by decide +kernel)⟩
theorem lw_p55 : lw_okq (⟨"SpooledPostModel", "findLines", "(I)V"⟩, 31) := ⟨⟨by decide +kernel, by decide +kernel⟩, List.mem_of_getElem? (i := 628) (by decide +kernel), List.mem_of_getElem? (i := 884) (by decide +kernel), List.mem_of_getElem? (i := 885) (by decide +kernel)⟩
theorem lw_p56 : lw_okq (⟨"SpooledPostModel", "headEnd", "(II)I"⟩, 31) := ⟨⟨by decide +kernel, by decide +kernel⟩, List.mem_of_getElem? (i := 628) (by decide +kernel), List.mem_of_getElem? (i := 888) (by decide +kernel), List.mem_of_getElem? (i := 889) (by decide +kernel)⟩
theorem lw_p57 : lw_okq (⟨"SpooledPostModel", "isEmpty", "(I)Z"⟩, 31) := ⟨⟨by decide +kernel, by decide +kernel⟩, List.mem_of_getElem? (i := 628) (by decide +kernel), List.mem_of_getElem? (i := 892) (by decide +kernel), List.mem_of_getElem? (i := 893) (by decide +kernel)⟩
theorem lw_p58 : lw_okq (⟨"SpooledPostModel", "endOf", "(I)I"⟩, 31) := ⟨⟨by decide +kernel, by decide +kernel⟩, List.mem_of_getElem? (i := 628) (by decide +kernel), List.mem_of_getElem? (i := 896) (by decide +kernel), List.mem_of_getElem? (i := 897) (by decide +kernel)⟩
theorem lw_p59 : lw_okq (⟨"SpooledPostModel", "rightHead", "(II)Z"⟩, 31) := ⟨⟨by decide +kernel, by decide +kernel⟩, List.mem_of_getElem? (i := 628) (by decide +kernel), List.mem_of_getElem? (i := 900) (by decide +kernel), List.mem_of_getElem? (i := 901) (by decide +kernel)⟩
theorem lw_p60 : lw_okq (⟨"SpooledPostModel", "colon", "(I)I"⟩, 31) := ⟨⟨by decide +kernel, by decide +kernel⟩, List.mem_of_getElem? (i := 628) (by decide +kernel), List.mem_of_getElem? (i := 904) (by decide +kernel), List.mem_of_getElem? (i := 905) (by decide +kernel)⟩
theorem lw_p61 : lw_okq (⟨"SpooledPostModel", "isMulti", "(II)Z"⟩, 31) := ⟨⟨by decide +kernel, by decide +kernel⟩, List.mem_of_getElem? (i := 628) (by decide +kernel), List.mem_of_getElem? (i := 908) (by decide +kernel), List.mem_of_getElem? (i := 909) (by decide +kernel)⟩
theorem lw_p62 : lw_okq (⟨"SpooledPostModel", "matches", "(IIJJI)Z"⟩, 31) := ⟨⟨by decide +kernel, by decide +kernel⟩, List.mem_of_getElem? (i := 628) (by decide +kernel), List.mem_of_getElem? (i := 914) (by decide +kernel), List.mem_of_getElem? (i := 915) (by decide +kernel)⟩
theorem lw_p63 : lw_okq (⟨"SpooledPostModel", "boundary", "(II)Z"⟩, 31) := ⟨⟨by decide +kernel, by decide +kernel⟩, List.mem_of_getElem? (i := 628) (by decide +kernel), List.mem_of_getElem? (i := 918) (by decide +kernel), List.mem_of_getElem? (i := 919) (by decide +kernel)⟩
def lw_privs_4 : List (MethodName × Nat) := [(⟨"SpooledPostModel", "recipient", "()I"⟩, 31), (⟨"SpooledPostModel", "isLetterAt", "(I)Z"⟩, 31), (⟨"SpooledPostModel", "nextOne", "()I"⟩, 31), (⟨"SpooledPostModel", "tell", "(II)Z"⟩, 31), (⟨"SpooledPostModel", "tidy", "(I)V"⟩, 31), (⟨"SpooledPostModel", "placeOf", "(I)I"⟩, 31), (⟨"SpooledPostModel", "divided", "(I)Z"⟩, 31), (⟨"SpooledPostModel", "findLines", "(I)V"⟩, 31), (⟨"SpooledPostModel", "headEnd", "(II)I"⟩, 31), (⟨"SpooledPostModel", "isEmpty", "(I)Z"⟩, 31), (⟨"SpooledPostModel", "endOf", "(I)I"⟩, 31), (⟨"SpooledPostModel", "rightHead", "(II)Z"⟩, 31), (⟨"SpooledPostModel", "colon", "(I)I"⟩, 31), (⟨"SpooledPostModel", "isMulti", "(II)Z"⟩, 31), (⟨"SpooledPostModel", "matches", "(IIJJI)Z"⟩, 31), (⟨"SpooledPostModel", "boundary", "(II)Z"⟩, 31)]
theorem lw_r4 : ∀ q ∈ lw_privs_4, lw_okq q := List.forall_mem_cons.mpr ⟨lw_p48, List.forall_mem_cons.mpr ⟨lw_p49, List.forall_mem_cons.mpr ⟨lw_p50, List.forall_mem_cons.mpr ⟨lw_p51, List.forall_mem_cons.mpr ⟨lw_p52, List.forall_mem_cons.mpr ⟨lw_p53, List.forall_mem_cons.mpr ⟨lw_p54, List.forall_mem_cons.mpr ⟨lw_p55, List.forall_mem_cons.mpr ⟨lw_p56, List.forall_mem_cons.mpr ⟨lw_p57, List.forall_mem_cons.mpr ⟨lw_p58, List.forall_mem_cons.mpr ⟨lw_p59, List.forall_mem_cons.mpr ⟨lw_p60, List.forall_mem_cons.mpr ⟨lw_p61, List.forall_mem_cons.mpr ⟨lw_p62, List.forall_mem_cons.mpr ⟨lw_p63, fun _ h => absurd h List.not_mem_nil⟩⟩⟩⟩⟩⟩⟩⟩⟩⟩⟩⟩⟩⟩⟩⟩
theorem lw_p64 : lw_okq (⟨"SpooledPostModel", "divide", "(III)Z"⟩, 31) := ⟨⟨by decide +kernel, by decide +kernel⟩, List.mem_of_getElem? (i := 628) (by decide +kernel), List.mem_of_getElem? (i := 926) (by decide +kernel), List.mem_of_getElem? (i := 927) (by decide +kernel)⟩
theorem lw_p65 : lw_okq (⟨"SpooledPostModel", "border", "(I)I"⟩, 31) := ⟨⟨by decide +kernel, by decide +kernel⟩, List.mem_of_getElem? (i := 628) (by decide +kernel), List.mem_of_getElem? (i := 930) (by decide +kernel), List.mem_of_getElem? (i := 931) (by decide +kernel)⟩
def lw_privs_5 : List (MethodName × Nat) := [(⟨"SpooledPostModel", "divide", "(III)Z"⟩, 31), (⟨"SpooledPostModel", "border", "(I)I"⟩, 31)]
theorem lw_r5 : ∀ q ∈ lw_privs_5, lw_okq q := List.forall_mem_cons.mpr ⟨lw_p64, List.forall_mem_cons.mpr ⟨lw_p65, fun _ h => absurd h List.not_mem_nil⟩⟩
def lw_privs : List (MethodName × Nat) := lw_privs_1 ++ (lw_privs_2 ++ (lw_privs_3 ++ (lw_privs_4 ++ (lw_privs_5))))
def lw_tbl : List Cond := k2_sels lw_privs ++ tables_1
theorem lw_privs_ok : ∀ q ∈ lw_privs, lw_okq q := by
  show ∀ q ∈ lw_privs_1 ++ (lw_privs_2 ++ (lw_privs_3 ++ (lw_privs_4 ++ (lw_privs_5)))), lw_okq q
  exact List.forall_mem_append.mpr ⟨lw_r1, List.forall_mem_append.mpr ⟨lw_r2, List.forall_mem_append.mpr ⟨lw_r3, List.forall_mem_append.mpr ⟨lw_r4, lw_r5⟩⟩⟩⟩
end
section
def kT_P : u_T := fun k => match k with
  | 0 => ("SpooledPost", "line", "LSpooledPost$Row;", true)
  | 1 => ("SpooledPost", "session", "LSpooledPost$Session;", true)
  | 2 => ("SpooledPost", "spool", "LSpooledPost$Spool;", true)
  | 3 => ("SpooledPost", "reader", "LSpooledPost$PartReader;", true)
  | _ => ("SpooledPost", "now", "I", false)
def kY_P : Nat → FieldType := fun k => match k with
  | 0 => .object "SpooledPost$Row"
  | 1 => .object "SpooledPost$Session"
  | 2 => .object "SpooledPost$Spool"
  | 3 => .object "SpooledPost$PartReader"
  | _ => .int
theorem kN_P : ∀ a, a < 5 → ∀ b, b < 5 → a ≠ b → (kT_P a).2.1 ≠ (kT_P b).2.1 := by decide +kernel
theorem kO_P : ∀ k, k < 5 → parseFieldDescriptor (kT_P k).2.2.1 = some (kY_P k) := by decide +kernel
def kT_R : u_T := fun k => match k with
  | 0 => ("SpooledPost$Row", "chars", "[C", true)
  | _ => ("SpooledPost$Row", "length", "I", false)
def kY_R : Nat → FieldType := fun k => match k with
  | 0 => .array (.char)
  | _ => .int
theorem kN_R : ∀ a, a < 2 → ∀ b, b < 2 → a ≠ b → (kT_R a).2.1 ≠ (kT_R b).2.1 := by decide +kernel
theorem kO_R : ∀ k, k < 2 → parseFieldDescriptor (kT_R k).2.2.1 = some (kY_R k) := by decide +kernel
def kT_S : u_T := fun k => match k with
  | 0 => ("SpooledPost$Session", "sender", "LSpooledPost$Row;", true)
  | 1 => ("SpooledPost$Session", "recipients", "[LSpooledPost$Row;", true)
  | 2 => ("SpooledPost$Session", "text", "LSpooledPost$Row;", true)
  | 3 => ("SpooledPost$Session", "recipientCount", "I", false)
  | 4 => ("SpooledPost$Session", "greeted", "Z", false)
  | 5 => ("SpooledPost$Session", "inTransaction", "Z", false)
  | 6 => ("SpooledPost$Session", "taking", "Z", false)
  | _ => ("SpooledPost$Session", "tooLong", "Z", false)
def kY_S : Nat → FieldType := fun k => match k with
  | 0 => .object "SpooledPost$Row"
  | 1 => .array (.object "SpooledPost$Row")
  | 2 => .object "SpooledPost$Row"
  | 3 => .int
  | 4 => .boolean
  | 5 => .boolean
  | 6 => .boolean
  | _ => .boolean
theorem kN_S : ∀ a, a < 8 → ∀ b, b < 8 → a ≠ b → (kT_S a).2.1 ≠ (kT_S b).2.1 := by decide +kernel
theorem kO_S : ∀ k, k < 8 → parseFieldDescriptor (kT_S k).2.2.1 = some (kY_S k) := by decide +kernel
def kT_O : u_T := fun k => match k with
  | 0 => ("SpooledPost$Spool", "row", "[LSpooledPost$Letter;", true)
  | 1 => ("SpooledPost$Spool", "count", "I", false)
  | 2 => ("SpooledPost$Spool", "nextNumber", "I", false)
  | 3 => ("SpooledPost$Spool", "writesLeft", "I", false)
  | _ => ("SpooledPost$Spool", "down", "Z", false)
def kY_O : Nat → FieldType := fun k => match k with
  | 0 => .array (.object "SpooledPost$Letter")
  | 1 => .int
  | 2 => .int
  | 3 => .int
  | _ => .boolean
theorem kN_O : ∀ a, a < 5 → ∀ b, b < 5 → a ≠ b → (kT_O a).2.1 ≠ (kT_O b).2.1 := by decide +kernel
theorem kO_O : ∀ k, k < 5 → parseFieldDescriptor (kT_O k).2.2.1 = some (kY_O k) := by decide +kernel
def kT_L : u_T := fun k => match k with
  | 0 => ("SpooledPost$Letter", "sender", "LSpooledPost$Row;", true)
  | 1 => ("SpooledPost$Letter", "recipients", "[LSpooledPost$Recipient;", true)
  | 2 => ("SpooledPost$Letter", "text", "LSpooledPost$Row;", true)
  | 3 => ("SpooledPost$Letter", "recipientCount", "I", false)
  | 4 => ("SpooledPost$Letter", "number", "I", false)
  | _ => ("SpooledPost$Letter", "sealed", "Z", false)
def kY_L : Nat → FieldType := fun k => match k with
  | 0 => .object "SpooledPost$Row"
  | 1 => .array (.object "SpooledPost$Recipient")
  | 2 => .object "SpooledPost$Row"
  | 3 => .int
  | 4 => .int
  | _ => .boolean
theorem kN_L : ∀ a, a < 6 → ∀ b, b < 6 → a ≠ b → (kT_L a).2.1 ≠ (kT_L b).2.1 := by decide +kernel
theorem kO_L : ∀ k, k < 6 → parseFieldDescriptor (kT_L k).2.2.1 = some (kY_L k) := by decide +kernel
def kT_C : u_T := fun k => match k with
  | 0 => ("SpooledPost$Recipient", "path", "LSpooledPost$Row;", true)
  | 1 => ("SpooledPost$Recipient", "fate", "I", false)
  | 2 => ("SpooledPost$Recipient", "tries", "I", false)
  | _ => ("SpooledPost$Recipient", "due", "I", false)
def kY_C : Nat → FieldType := fun k => match k with
  | 0 => .object "SpooledPost$Row"
  | 1 => .int
  | 2 => .int
  | _ => .int
theorem kN_C : ∀ a, a < 4 → ∀ b, b < 4 → a ≠ b → (kT_C a).2.1 ≠ (kT_C b).2.1 := by decide +kernel
theorem kO_C : ∀ k, k < 4 → parseFieldDescriptor (kT_C k).2.2.1 = some (kY_C k) := by decide +kernel
def kT_D : u_T := fun k => match k with
  | 0 => ("SpooledPost$PartReader", "lineStarts", "[I", true)
  | 1 => ("SpooledPost$PartReader", "facts", "[I", true)
  | 2 => ("SpooledPost$PartReader", "text", "LSpooledPost$Row;", false)
  | 3 => ("SpooledPost$PartReader", "lineCount", "I", false)
  | 4 => ("SpooledPost$PartReader", "count", "I", false)
  | _ => ("SpooledPost$PartReader", "readNumber", "I", false)
def kY_D : Nat → FieldType := fun k => match k with
  | 0 => .array (.int)
  | 1 => .array (.int)
  | 2 => .object "SpooledPost$Row"
  | 3 => .int
  | 4 => .int
  | _ => .int
theorem kN_D : ∀ a, a < 6 → ∀ b, b < 6 → a ≠ b → (kT_D a).2.1 ≠ (kT_D b).2.1 := by decide +kernel
theorem kO_D : ∀ k, k < 6 → parseFieldDescriptor (kT_D k).2.2.1 = some (kY_D k) := by decide +kernel
def kT_M : u_T := fun k => match k with
  | 0 => ("SpooledPostModel", "up", "Z", false)
  | 1 => ("SpooledPostModel", "now", "I", false)
  | 2 => ("SpooledPostModel", "given", "I", false)
  | 3 => ("SpooledPostModel", "writes", "I", false)
  | 4 => ("SpooledPostModel", "line", "[I", true)
  | 5 => ("SpooledPostModel", "length", "I", false)
  | 6 => ("SpooledPostModel", "greeted", "Z", false)
  | 7 => ("SpooledPostModel", "begun", "Z", false)
  | 8 => ("SpooledPostModel", "taking", "Z", false)
  | 9 => ("SpooledPostModel", "number", "[I", true)
  | 10 => ("SpooledPostModel", "sealed", "[Z", true)
  | 11 => ("SpooledPostModel", "texts", "[I", true)
  | 12 => ("SpooledPostModel", "textSize", "[I", true)
  | 13 => ("SpooledPostModel", "paths", "[I", true)
  | 14 => ("SpooledPostModel", "pathSize", "[I", true)
  | 15 => ("SpooledPostModel", "many", "[I", true)
  | 16 => ("SpooledPostModel", "fate", "[I", true)
  | 17 => ("SpooledPostModel", "dueAt", "[I", true)
  | 18 => ("SpooledPostModel", "lines", "I", false)
  | 19 => ("SpooledPostModel", "lineAt", "[I", true)
  | 20 => ("SpooledPostModel", "found", "I", false)
  | 21 => ("SpooledPostModel", "partDepth", "[I", true)
  | 22 => ("SpooledPostModel", "partFrom", "[I", true)
  | 23 => ("SpooledPostModel", "partTo", "[I", true)
  | 24 => ("SpooledPostModel", "partMulti", "[Z", true)
  | 25 => ("SpooledPostModel", "open", "I", false)
  | 26 => ("SpooledPostModel", "rowFrom", "[I", true)
  | 27 => ("SpooledPostModel", "rowTo", "[I", true)
  | 28 => ("SpooledPostModel", "rowDepth", "[I", true)
  | 29 => ("SpooledPostModel", "mark", "I", false)
  | _ => ("SpooledPostModel", "markSize", "I", false)
def kY_M : Nat → FieldType := fun k => match k with
  | 0 => .boolean
  | 1 => .int
  | 2 => .int
  | 3 => .int
  | 4 => .array (.int)
  | 5 => .int
  | 6 => .boolean
  | 7 => .boolean
  | 8 => .boolean
  | 9 => .array (.int)
  | 10 => .array (.boolean)
  | 11 => .array (.int)
  | 12 => .array (.int)
  | 13 => .array (.int)
  | 14 => .array (.int)
  | 15 => .array (.int)
  | 16 => .array (.int)
  | 17 => .array (.int)
  | 18 => .int
  | 19 => .array (.int)
  | 20 => .int
  | 21 => .array (.int)
  | 22 => .array (.int)
  | 23 => .array (.int)
  | 24 => .array (.boolean)
  | 25 => .int
  | 26 => .array (.int)
  | 27 => .array (.int)
  | 28 => .array (.int)
  | 29 => .int
  | _ => .int
theorem kN_M : ∀ a, a < 31 → ∀ b, b < 31 → a ≠ b → (kT_M a).2.1 ≠ (kT_M b).2.1 := by decide +kernel
theorem kO_M : ∀ k, k < 31 → parseFieldDescriptor (kT_M k).2.2.1 = some (kY_M k) := by decide +kernel
abbrev vwCl : List vw_C := [("SpooledPost", kT_P, 5), ("SpooledPost$Row", kT_R, 2), ("SpooledPost$Session", kT_S, 8), ("SpooledPost$Spool", kT_O, 5), ("SpooledPost$Letter", kT_L, 6), ("SpooledPost$Recipient", kT_C, 4), ("SpooledPost$PartReader", kT_D, 6), ("SpooledPostModel", kT_M, 31)]
/-- the words that every method is given -/
def WS : List Cond := lw_tbl.filter goodWord
theorem WSin {w : Cond} (h1 : w ∈ lw_tbl) (h2 : goodWord w = true) : w ∈ WS := List.mem_filter.mpr ⟨h1, h2⟩
theorem zgood : ∀ w ∈ WS, ((w.onTables && w.keeps) = true ∨ ∃ ty, w = .arrayClass ty) := fun w h => good_of_word (List.mem_filter.mp h).2
theorem WStbl : ∀ w ∈ WS, w ∈ lw_tbl := fun w h => (List.mem_filter.mp h).1
theorem kI_P : ∀ w ∈ u_ws "SpooledPost" kT_P 5, w ∈ WS := by decide +kernel
theorem kI_R : ∀ w ∈ u_ws "SpooledPost$Row" kT_R 2, w ∈ WS := by decide +kernel
theorem kI_S : ∀ w ∈ u_ws "SpooledPost$Session" kT_S 8, w ∈ WS := by decide +kernel
theorem kI_O : ∀ w ∈ u_ws "SpooledPost$Spool" kT_O 5, w ∈ WS := by decide +kernel
theorem kI_L : ∀ w ∈ u_ws "SpooledPost$Letter" kT_L 6, w ∈ WS := by decide +kernel
theorem kI_C : ∀ w ∈ u_ws "SpooledPost$Recipient" kT_C 4, w ∈ WS := by decide +kernel
theorem kI_D : ∀ w ∈ u_ws "SpooledPost$PartReader" kT_D 6, w ∈ WS := by decide +kernel
theorem kI_M : ∀ w ∈ u_ws "SpooledPostModel" kT_M 31, w ∈ WS := by decide +kernel
end
section
/-! THE SMALL MACHINE: values, heaps, cells by kind; frames of it (EvAt) and calls of it (EvCall), said over the kit's W and Met. -/
abbrev ZV : Type := Int32 ⊕ (Int64 ⊕ Option (Nat × Nat))
abbrev vI (x : Int32) : ZV := .inl x
abbrev vL (x : Int64) : ZV := .inr (.inl x)
abbrev vQ (o : Option (Nat × Nat)) : ZV := .inr (.inr o)
abbrev ZH : Type := (Nat → Nat → Nat → Int32) × (Nat → Nat → Nat → Option Nat)
/-- addresses by kind and place; class numbers and slots; array classes; the first address that is ours -/
abbrev ZG : Type := (Nat → Nat → Nat) × va_G × (Nat → ClassId) × Nat
/-- a method: name, code, locals, what it returns -/
abbrev ZM : Type := MethodName × ByteArray × Nat × Option FieldType
def zv (G : ZG) : ZV → Value
  | .inl x => .int x
  | .inr (.inl x) => .long x
  | .inr (.inr none) => .null
  | .inr (.inr (some q)) => .ref (G.1 q.1 q.2)
def zi (h : ZH) (k i j : Nat) : Int32 := h.1 k i j
def zr (h : ZH) (k i j : Nat) : Option Nat := h.2 k i j
def zw (h : ZH) (k i j : Nat) (x : Int32) : ZH := (fun a b c => if a = k ∧ b = i ∧ c = j then x else h.1 a b c, h.2)
def zwr (h : ZH) (k i j : Nat) (x : Option Nat) : ZH := (h.1, fun a b c => if a = k ∧ b = i ∧ c = j then x else h.2 a b c)
def zcp (h : ZH) (k i i2 sp dp n : Nat) : ZH := (fun a b c => if a = k ∧ b = i2 ∧ dp ≤ c ∧ c < dp + n then h.1 k i (sp + (c - dp)) else h.1 a b c, h.2)
theorem zi_zw (h : ZH) (k i j : Nat) (x : Int32) (a b c : Nat) : zi (zw h k i j x) a b c = if a = k ∧ b = i ∧ c = j then x else zi h a b c := rfl
theorem zr_zw (h : ZH) (k i j : Nat) (x : Int32) (a b c : Nat) : zr (zw h k i j x) a b c = zr h a b c := rfl
theorem zr_zwr (h : ZH) (k i j : Nat) (x : Option Nat) (a b c : Nat) : zr (zwr h k i j x) a b c = if a = k ∧ b = i ∧ c = j then x else zr h a b c := rfl
theorem zi_zwr (h : ZH) (k i j : Nat) (x : Option Nat) (a b c : Nat) : zi (zwr h k i j x) a b c = zi h a b c := rfl
theorem zi_zcp (h : ZH) (k i i2 sp dp n a b c : Nat) : zi (zcp h k i i2 sp dp n) a b c = if a = k ∧ b = i2 ∧ dp ≤ c ∧ c < dp + n then zi h k i (sp + (c - dp)) else zi h a b c := rfl
theorem zr_zcp (h : ZH) (k i i2 sp dp n a b c : Nat) : zr (zcp h k i i2 sp dp n) a b c = zr h a b c := rfl
def zkinds : Nat := 15
def zcnt : Nat → Nat
  | 0 => 1
  | 1 => 43
  | 2 => 43
  | 3 => 1
  | 4 => 1
  | 5 => 1
  | 6 => 1
  | 7 => 6
  | 8 => 6
  | 9 => 24
  | 10 => 1
  | 11 => 2
  | 12 => 1
  | 13 => 16
  | 14 => 2
  | _ => 0
def zobj : Nat → Option (Nat × Nat)
  | 0 => some (0, 5)
  | 1 => some (1, 2)
  | 3 => some (2, 8)
  | 5 => some (3, 5)
  | 7 => some (4, 6)
  | 9 => some (5, 4)
  | 10 => some (6, 6)
  | 12 => some (7, 31)
  | _ => none
def zarr : Nat → Nat
  | 2 => 1
  | 4 => 3
  | 6 => 4
  | 8 => 5
  | 11 => 0
  | 13 => 0
  | 14 => 2
  | _ => 0
def zarrT : List FieldType := [.int, .char, .boolean, .object "SpooledPost$Row", .object "SpooledPost$Letter", .object "SpooledPost$Recipient"]
def zra : Nat → Nat
  | 4 => 1
  | 6 => 2
  | 8 => 1
  | _ => 0
def zcap (r : Nat) : Nat := if r = 0 then 72 else if r = 6 then 600 else if 13 ≤ r ∧ r < 19 then 600 else 40
def zLen : Nat → Nat → Nat
  | 2, r => zcap r
  | 4, _ => 4
  | 6, _ => 6
  | 8, _ => 4
  | 11, 0 => 601
  | 11, _ => 64
  | 13, 0 => 72
  | 13, 1 => 6
  | 13, 2 => 4816
  | 13, 3 => 8
  | 13, 4 => 1600
  | 13, 5 => 40
  | 13, 6 => 8
  | 13, 7 => 24
  | 13, 8 => 24
  | 13, 9 => 604
  | 13, 10 => 17
  | 13, 11 => 17
  | 13, 12 => 17
  | 13, 13 => 700
  | 13, 14 => 700
  | 13, _ => 700
  | 14, 0 => 6
  | 14, _ => 17
  | _, _ => 0
/-- a field: 0 a number, 1 a reference that never changes, 2 one that may -/
def zft : Nat → Nat → Nat
  | 0, 0 => 1
  | 0, 1 => 1
  | 0, 2 => 1
  | 0, 3 => 1
  | 1, 0 => 1
  | 3, 0 => 1
  | 3, 1 => 1
  | 3, 2 => 1
  | 5, 0 => 1
  | 7, 0 => 1
  | 7, 1 => 1
  | 7, 2 => 1
  | 9, 0 => 1
  | 10, 0 => 1
  | 10, 1 => 1
  | 10, 2 => 2
  | 12, 4 => 1
  | 12, 9 => 1
  | 12, 10 => 1
  | 12, 11 => 1
  | 12, 12 => 1
  | 12, 13 => 1
  | 12, 14 => 1
  | 12, 15 => 1
  | 12, 16 => 1
  | 12, 17 => 1
  | 12, 19 => 1
  | 12, 21 => 1
  | 12, 22 => 1
  | 12, 23 => 1
  | 12, 24 => 1
  | 12, 26 => 1
  | 12, 27 => 1
  | 12, 28 => 1
  | _, _ => 0
def zrf : Nat → Nat → Nat → Nat × Nat
  | 0, _, 0 => (1, 0)
  | 0, _, 1 => (3, 0)
  | 0, _, 2 => (5, 0)
  | 0, _, 3 => (10, 0)
  | 1, i, 0 => (2, i)
  | 3, _, 0 => (1, 1)
  | 3, _, 1 => (4, 0)
  | 3, _, 2 => (1, 6)
  | 5, _, 0 => (6, 0)
  | 7, i, 0 => (1, 7 + i)
  | 7, i, 1 => (8, i)
  | 7, i, 2 => (1, 13 + i)
  | 9, i, 0 => (1, 19 + i)
  | 10, _, 0 => (11, 0)
  | 10, _, 1 => (11, 1)
  | 12, _, 4 => (13, 0)
  | 12, _, 9 => (13, 1)
  | 12, _, 10 => (14, 0)
  | 12, _, 11 => (13, 2)
  | 12, _, 12 => (13, 3)
  | 12, _, 13 => (13, 4)
  | 12, _, 14 => (13, 5)
  | 12, _, 15 => (13, 6)
  | 12, _, 16 => (13, 7)
  | 12, _, 17 => (13, 8)
  | 12, _, 19 => (13, 9)
  | 12, _, 21 => (13, 10)
  | 12, _, 22 => (13, 11)
  | 12, _, 23 => (13, 12)
  | 12, _, 24 => (14, 1)
  | 12, _, 26 => (13, 13)
  | 12, _, 27 => (13, 14)
  | 12, _, 28 => (13, 15)
  | 4, _, j => (1, 2 + j)
  | 8, i, j => (9, 4 * i + j)
  | _, _, _ => (0, 0)
def ztk : Nat → Nat → Nat
  | 6, _ => 7
  | 10, _ => 1
  | _, _ => 0
def zfld (G : ZG) (h : ZH) (k i j : Nat) : Value := match zft k j with
  | 0 => .int (h.1 k i j)
  | 1 => .ref (G.1 (zrf k i j).1 (zrf k i j).2)
  | _ => va_rf ((h.2 k i j).map (G.1 (ztk k j)))
def zav (G : ZG) (h : ZH) (k i j : Nat) : Option Nat := match zra k with
  | 1 => some (G.1 (zrf k i j).1 (zrf k i j).2)
  | _ => (h.2 k i j).map (G.1 (ztk k 0))
def zE (G : ZG) (h : ZH) (k i : Nat) : va_E := match zobj k with
  | some (ci, N) => .inr (ci, (List.range N).map (zfld G h k i))
  | none => .inl (G.2.2.1 (zarr k), zLen k i, match zra k with | 0 => .inl (fun j => h.1 k i j) | _ => .inr (.inr (.inr (.inr (zav G h k i)))))
def zall : List (Nat × Nat) := (List.range zkinds).flatMap (fun k => (List.range (zcnt k)).map (fun i => (k, i)))
def zws (G : ZG) (h : ZH) : va_W := zall.map (fun c => (G.1 c.1 c.2, zE G h c.1 c.2))
def zA (G : ZG) : Nat → Prop := fun q => G.2.2.2 ≤ q
def zRep (G : ZG) (h : ZH) (H : Heap) : Prop := va_P G.2.1 vwCl (zws G h) H
def zOK (G : ZG) : Prop := (∀ (a b : Nat) (c c' : Nat × Nat), zall[a]? = some c → zall[b]? = some c' → G.1 c.1 c.2 = G.1 c'.1 c'.2 → a = b) ∧ ∀ c ∈ zall, G.2.2.2 ≤ G.1 c.1 c.2
def ztys (G : ZG) : List (ClassId × FieldType) := zarrT.zipIdx.map (fun q => (G.2.2.1 q.2, q.1))
/-! the constants: the enum, its table, the texts -/
def zSL : List Nat := [4, 4, 4, 4, 4, 4, 4, 4, 7, 5, 10, 13, 10, 9]
def zSB : List (List Int32) := [[104, 101, 108, 111], [101, 104, 108, 111], [109, 97, 105, 108], [114, 99, 112, 116], [100, 97, 116, 97], [114, 115, 101, 116], [110, 111, 111, 112], [113, 117, 105, 116], [32, 102, 114, 111, 109, 58, 60], [32, 116, 111, 58, 60], [82, 101, 116, 117, 114, 110, 101, 100, 58, 32], [99, 111, 110, 116, 101, 110, 116, 45, 116, 121, 112, 101, 58], [109, 117, 108, 116, 105, 112, 97, 114, 116, 47], [98, 111, 117, 110, 100, 97, 114, 121, 61]]
def zSw : List Int32 := [1, 2, 3, 4, 5, 6, 0, 7]
def zConst (G : ZG) (U : State) (H : Heap) : Prop :=
  va_Z "SpooledPost" "COMMANDS" "[LSpooledPost$Command;" (.ref (G.1 21 0)) (zA G) U H ∧
  va_T (.object "SpooledPost$Command") (G.1 21 0) 8 (fun j => .ref (G.1 20 j)) (zA G) U H ∧
  va_Z "SpooledPost$1" "$SwitchMap$SpooledPost$Command" "[I" (.ref (G.1 23 0)) (zA G) U H ∧
  va_T .int (G.1 23 0) 8 (fun j => .int (zSw.getD j 0)) (zA G) U H ∧
  va_Z "java/lang/String" "COMPACT_STRINGS" "Z" (.int 1) (zA G) U H ∧
  vk_S 14 zSL zSB (G.1 22) (G.1 24) (zA G) U H ∧
  (∀ i, i < 8 → va_O "SpooledPost$Command" (G.1 20 i) (zA G) U H ∧ va_OF "SpooledPost$Command" "word" "Ljava/lang/String;" (.ref (G.1 22 i)) (G.1 20 i) (zA G) U H ∧ va_OF "java/lang/Enum" "ordinal" "I" (.int (nI i)) (G.1 20 i) (zA G) U H) ∧
  (vk_R "SpooledPost" 225 " from:<" (G.1 22 8) U ∧ vk_R "SpooledPost" 237 " to:<" (G.1 22 9) U ∧ vk_R "SpooledPost" 308 "Returned: " (G.1 22 10) U ∧ vk_R "SpooledPost$PartReader" 90 "content-type:" (G.1 22 11) U ∧ vk_R "SpooledPost$PartReader" 104 "multipart/" (G.1 22 12) U ∧ vk_R "SpooledPost$PartReader" 106 "boundary=" (G.1 22 13) U)
theorem zConst.kept {G : ZG} {U : State} {H H1 : Heap} (h : zConst G U H) (hq : ∀ a : Nat, a < H.size → ¬ zA G a → H1[a]? = H[a]?) : zConst G U H1 := by
  obtain ⟨a1, a2, a3, a4, a5, a6, a7, a8⟩ := h
  exact ⟨a1.kept hq, a2.kept hq, a3.kept hq, a4.kept hq, a5.kept hq, a6.kept hq, fun i hi => ⟨(a7 i hi).1.kept hq, (a7 i hi).2.1.kept hq, (a7 i hi).2.2.kept hq⟩, a8⟩
theorem zConst.warm {G : ZG} {s U : State} {H : Heap} (hW : s.WarmedH U.vm) (h : zConst G s H) : zConst G U H := by
  obtain ⟨a1, a2, a3, a4, a5, a6, a7, b1, b2, b3, b4, b5, b6⟩ := h
  have hv := hW.alike
  exact ⟨a1.moved hv, a2.moved hv, a3.moved hv, a4.moved hv, a5.moved hv, a6.moved hv, fun i hi => ⟨(a7 i hi).1.moved hv, (a7 i hi).2.1.moved hv, (a7 i hi).2.2.moved hv⟩, b1.warm hW, b2.warm hW, b3.warm hW, b4.warm hW, b5.warm hW, b6.warm hW⟩
theorem zConst.same {G : ZG} {u U : State} (hv : U.vm = u.vm) (hh : U.heap = u.heap) (h : zConst G u u.heap) : zConst G U U.heap := by
  obtain ⟨a1, a2, a3, a4, a5, a6, a7, b1, b2, b3, b4, b5, b6⟩ := h
  have hl : u.vm.Alike U.vm := by rw [hv]; exact Vm.Alike.refl _
  rw [hh]
  exact ⟨a1.moved hl, a2.moved hl, a3.moved hl, a4.moved hl, a5.moved hl, a6.moved hl, fun i hi => ⟨(a7 i hi).1.moved hl, (a7 i hi).2.1.moved hl, (a7 i hi).2.2.moved hl⟩, b1.same hv, b2.same hv, b3.same hv, b4.same hv, b5.same hv, b6.same hv⟩
theorem zin {k i : Nat} (hk : k < zkinds) (hi : i < zcnt k) : (k, i) ∈ zall := by
  unfold zall
  rw [List.mem_flatMap]
  exact ⟨k, List.mem_range.mpr hk, List.mem_map.mpr ⟨i, List.mem_range.mpr hi, rfl⟩⟩
theorem zE_congr {G : ZG} {h h' : ZH} {k i : Nat} (h1 : h'.1 k i = h.1 k i) (h2 : h'.2 k i = h.2 k i) : zE G h' k i = zE G h k i := by
  have e1 : zfld G h' k i = zfld G h k i := by funext j; unfold zfld; rw [h1, h2]
  have e2 : zav G h' k i = zav G h k i := by funext j; unfold zav; rw [h2]
  unfold zE
  rw [e1, e2, h1]
theorem zD {G : ZG} (h : ZH) (hO : zOK G) : va_D (zA G) (zws G h) := by
  refine ⟨fun i j p q hi hj e => ?_, fun k q hq => ?_⟩
  · unfold zws at hi hj
    rw [List.getElem?_map] at hi hj
    cases ha : zall[i]? with
    | none => rw [ha] at hi; cases hi
    | some c =>
      cases hb : zall[j]? with
      | none => rw [hb] at hj; cases hj
      | some c' =>
        rw [ha] at hi; rw [hb] at hj
        cases hi; cases hj
        exact hO.1 i j c c' ha hb e
  · unfold zws at hq
    rw [List.getElem?_map] at hq
    cases ha : zall[k]? with
    | none => rw [ha] at hq; cases hq
    | some c =>
      rw [ha] at hq
      cases hq
      exact hO.2 c (List.mem_of_getElem? ha)
theorem zpos {G : ZG} (hO : zOK G) {k i : Nat} (hk : (k, i) ∈ zall) : ∃ q0 : Nat, (∀ h : ZH, (zws G h)[q0]? = some (G.1 k i, zE G h k i)) ∧ ∀ h h' : ZH, (∀ a b : Nat, (a, b) ≠ (k, i) → h'.1 a b = h.1 a b ∧ h'.2 a b = h.2 a b) → (zws G h).set q0 (G.1 k i, zE G h' k i) = zws G h' := by
  obtain ⟨q0, hq⟩ := List.getElem?_of_mem hk
  refine ⟨q0, fun h => ?_, fun h h' hh => ?_⟩
  · unfold zws
    rw [List.getElem?_map, hq]
    rfl
  · have hl : q0 < (zws G h).length := by
      unfold zws
      rw [List.length_map]
      exact (List.getElem?_eq_some_iff.mp hq).1
    apply List.ext_getElem?
    intro j
    by_cases e : j = q0
    · subst e
      rw [List.getElem?_set_self hl]
      unfold zws
      rw [List.getElem?_map, hq]
      rfl
    · rw [List.getElem?_set_ne (Ne.symm e)]
      unfold zws
      rw [List.getElem?_map, List.getElem?_map]
      cases hc : zall[j]? with
      | none => rfl
      | some c =>
        have hne : (c.1, c.2) ≠ (k, i) := by
          intro z
          exact e (hO.1 j q0 c (k, i) hc hq (by rw [show c = (k, i) from z]))
        obtain ⟨h1, h2⟩ := hh c.1 c.2 hne
        show some (G.1 c.1 c.2, zE G h c.1 c.2) = some (G.1 c.1 c.2, zE G h' c.1 c.2)
        rw [zE_congr h1 h2]
theorem zw_off (h : ZH) (k i j : Nat) (x : Int32) : ∀ a b : Nat, (a, b) ≠ (k, i) → (zw h k i j x).1 a b = h.1 a b ∧ (zw h k i j x).2 a b = h.2 a b := by
  intro a b hab
  refine ⟨?_, rfl⟩
  funext c
  show (if a = k ∧ b = i ∧ c = j then x else h.1 a b c) = h.1 a b c
  rw [if_neg]
  rintro ⟨rfl, rfl, -⟩
  exact hab rfl
theorem zwr_off (h : ZH) (k i j : Nat) (x : Option Nat) : ∀ a b : Nat, (a, b) ≠ (k, i) → (zwr h k i j x).1 a b = h.1 a b ∧ (zwr h k i j x).2 a b = h.2 a b := by
  intro a b hab
  refine ⟨rfl, ?_⟩
  funext c
  show (if a = k ∧ b = i ∧ c = j then x else h.2 a b c) = h.2 a b c
  rw [if_neg]
  rintro ⟨rfl, rfl, -⟩
  exact hab rfl
theorem zcp_off (h : ZH) (k i i2 sp dp n : Nat) : ∀ a b : Nat, (a, b) ≠ (k, i2) → (zcp h k i i2 sp dp n).1 a b = h.1 a b ∧ (zcp h k i i2 sp dp n).2 a b = h.2 a b := by
  intro a b hab
  refine ⟨?_, rfl⟩
  funext c
  show (if a = k ∧ b = i2 ∧ dp ≤ c ∧ c < dp + n then _ else h.1 a b c) = h.1 a b c
  rw [if_neg]
  rintro ⟨rfl, rfl, -⟩
  exact hab rfl
/-! locals -/
def zpairs (G : ZG) : Nat → List (Option ZV) → List (Nat × Value)
  | _, [] => []
  | i, none :: t => zpairs G (i + 1) t
  | i, some v :: t => (i, zv G v) :: zpairs G (i + 1) t
theorem zpairs_mem {G : ZG} {q : Nat × Value} : ∀ (lv : List (Option ZV)) (i : Nat), q ∈ zpairs G i lv ↔ ∃ (j : Nat) (v : ZV), lv[j]? = some (some v) ∧ q = (i + j, zv G v) := by
  intro lv
  induction lv with
  | nil => intro i; simp [zpairs]
  | cons a t ih =>
    intro i
    have key : (∃ (j : Nat) (v : ZV), t[j]? = some (some v) ∧ q = (i + 1 + j, zv G v)) ↔ ∃ (j : Nat) (v : ZV), (a :: t)[j + 1]? = some (some v) ∧ q = (i + (j + 1), zv G v) := by
      constructor
      · rintro ⟨j, v, h1, h2⟩
        exact ⟨j, v, by simpa using h1, by rw [h2, show i + 1 + j = i + (j + 1) by omega]⟩
      · rintro ⟨j, v, h1, h2⟩
        exact ⟨j, v, by simpa using h1, by rw [h2, show i + 1 + j = i + (j + 1) by omega]⟩
    cases a with
    | none =>
      rw [zpairs, ih, key]
      constructor
      · rintro ⟨j, v, h1, h2⟩
        exact ⟨j + 1, v, h1, h2⟩
      · rintro ⟨j, v, h1, h2⟩
        cases j with
        | zero => simp at h1
        | succ j => exact ⟨j, v, h1, h2⟩
    | some w =>
      rw [zpairs, List.mem_cons, ih, key]
      constructor
      · rintro (h | ⟨j, v, h1, h2⟩)
        · exact ⟨0, w, by simp, by rw [h]; rfl⟩
        · exact ⟨j + 1, v, h1, h2⟩
      · rintro ⟨j, v, h1, h2⟩
        cases j with
        | zero =>
          have : w = v := by simpa using h1
          subst this
          exact Or.inl h2
        | succ j => exact Or.inr ⟨j, v, h1, h2⟩
def zLv (G : ZG) (n : Nat) (ls : Array Slot) (lv : List (Option ZV)) : Prop := lv_has ls n (zpairs G 0 lv)
theorem zLv_at {G : ZG} {n : Nat} {ls : Array Slot} {lv : List (Option ZV)} (h : zLv G n ls lv) {i : Nat} {v : ZV} (hi : lv[i]? = some (some v)) : ls[i]? = some (.val (zv G v)) := by
  have := h.2.2 (i, zv G v) ((zpairs_mem lv 0).mpr ⟨i, v, hi, by rw [Nat.zero_add]⟩)
  exact this
def zcat : ZV → Nat
  | .inr (.inl _) => 2
  | _ => 1
theorem zcat_zv (G : ZG) (v : ZV) : (zv G v).category = zcat v := by
  rcases v with x | x | _ | q <;> rfl
/-- no long stands just ahead of local i -/
def zst (lv : List (Option ZV)) (i : Nat) : Bool := match i with
  | 0 => true
  | i + 1 => match lv[i]? with
    | some (some v) => zcat v == 1
    | _ => true
theorem zLv_set {G : ZG} {n : Nat} {ls' : Array Slot} {lv : List (Option ZV)} {i : Nat} {v : ZV} (hz : zst lv i = true)
    (h : lv_has ls' n ((i, zv G v) :: (zpairs G 0 lv).filter (fun q => !(q.1 == i) && !(q.1 + 1 == i && q.2.category == 2)))) : zLv G n ls' (lv.set i (some v)) := by
  refine ⟨h.1, h.2.1, fun q hq => h.2.2 q ?_⟩
  obtain ⟨j, w, h1, h2⟩ := (zpairs_mem _ 0).mp hq
  rw [Nat.zero_add] at h2
  subst h2
  by_cases e : j = i
  · subst e
    have hl : j < lv.length := by
      have := (List.getElem?_eq_some_iff.mp h1).1
      simpa using this
    rw [List.getElem?_set_self hl] at h1
    cases h1
    exact List.mem_cons_self
  · rw [List.getElem?_set_ne (Ne.symm e)] at h1
    refine List.mem_cons_of_mem _ (List.mem_filter.mpr ⟨(zpairs_mem _ 0).mpr ⟨j, w, h1, by rw [Nat.zero_add]⟩, ?_⟩)
    have hne : (j == i) = false := by simpa using e
    show (!(j == i) && !(j + 1 == i && (zv G w).category == 2)) = true
    rw [hne, zcat_zv]
    by_cases e2 : j + 1 = i
    · subst e2
      have : (zcat w == 1) = true := by
        have h3 := hz
        unfold zst at h3
        simp only [h1] at h3
        exact h3
      have h4 : zcat w = 1 := by simpa using this
      rw [h4]
      simp
    · have : (j + 1 == i) = false := by simpa using e2
      rw [this]
      rfl
def zloc : List ZV → List (Option ZV)
  | [] => []
  | v :: t => if zcat v = 2 then some v :: none :: zloc t else some v :: zloc t
theorem zloc_len (G : ZG) : ∀ as : List ZV, (lg_sl (as.map (zv G))).length = (zloc as).length := by
  intro as
  induction as with
  | nil => rfl
  | cons v t ih =>
    unfold lg_sl at ih ⊢
    rw [List.map_cons, List.flatMap_cons, List.length_append, ih, zcat_zv, zloc]
    by_cases e : zcat v = 2
    · rw [if_pos e, if_pos e]
      simp
      omega
    · rw [if_neg e, if_neg e]
      simp
      omega
theorem zloc_args (G : ZG) (k : Nat) : ∀ (as : List ZV) (i : Nat), zpairs G i (zloc as ++ List.replicate k none) = lv_args i (as.map (zv G)) := by
  intro as
  induction as with
  | nil =>
    intro i
    show zpairs G i (List.replicate k none) = []
    induction k generalizing i with
    | zero => rfl
    | succ k ih => rw [List.replicate_succ, zpairs, ih]
  | cons v t ih =>
    intro i
    rw [List.map_cons, lv_args, zcat_zv, zloc]
    by_cases e : zcat v = 2
    · rw [if_pos e, if_pos e]
      show zpairs G i (some v :: none :: (zloc t ++ List.replicate k none)) = _
      rw [zpairs, zpairs, ih]
    · rw [if_neg e, if_neg e]
      show zpairs G i (some v :: (zloc t ++ List.replicate k none)) = _
      rw [zpairs, ih]
/-! frames and calls -/
def rmD (d : Nat) : Room := { frames := d, cells := 0, slots := 0, locals := 60 * d }
def zwsM (M : ZM) : List Cond := Cond.code M.1 M.2.1 M.2.2.1 M.2.2.2 :: WS
def zQc (G : ZG) (Q : Option ZV → ZH → Prop) : Array Value → State → Outcome → State → Prop := fun _ st o t =>
  ∃ (r : Option ZV) (h' : ZH), o = .returned (r.map (zv G)) ∧ Q r h' ∧ zRep G h' t.heap ∧ va_F (zA G) st t
def zCtx (M : ZM) (G : ZG) (p : Program) (s : State) (m : MethodId) (args : Array Value) (meth : Method) (c : Code) : Prop :=
  p.tables.exec = Jvm.exec ∧ c.code = M.2.1 ∧ meth.sig.returnType = M.2.2.2 ∧ c.maxLocals = M.2.2.1 ∧ (∀ w ∈ zwsM M, w.before args s = true) ∧ s.vm.findClass M.1.cls = some m.cls ∧ meth.locks = false ∧ va_K G.2.1 vwCl (ztys G) s ∧ zOK G ∧ zConst G s s.heap
def EvAt (d : Nat) (M : ZM) (pc : Nat) (lv : List (Option ZV)) (st : List ZV) (h : ZH) (Q : Option ZV → ZH → Prop) : Prop :=
  ∀ (G : ZG) (p : Program) (l : Launch) (e : Env) (s : State) (m : MethodId) (args : Array Value) (below : List Frame) (meth : Method) (c : Code) (H : Heap) (locs : List Loc) (ls : Array Slot),
    zCtx M G p s m args meth c → zRep G h H → va_S (zA G) s.heap H locs → zLv G M.2.2.1 ls lv →
    W p l e (rmD d) s m args below meth c H locs 0 0 (MQ below (zQc G Q) args s 0 0 (zA G)) (F0 m pc ls (st.map (zv G)))
def zPc (G : ZG) (as : List ZV) (h : ZH) : Array Value → State → Prop := va_Pc (as.map (zv G)) (fun U => zRep G h U.heap ∧ va_K G.2.1 vwCl (ztys G) U ∧ zConst G U U.heap)
def EvCall (d : Nat) (M : ZM) (as : List ZV) (h : ZH) (Q : Option ZV → ZH → Prop) : Prop :=
  ∀ (l : Launch) (G : ZG), zOK G → Met l M.1 (zwsM M) (rmD d) (zPc G as h) (zQc G Q) 0 0 (zA G)
def zQI (Q : Int32 → ZH → Prop) : Option ZV → ZH → Prop := fun r h' => ∃ x : Int32, r = some (vI x) ∧ Q x h'
def zQV (Q : ZH → Prop) : Option ZV → ZH → Prop := fun r h' => r = none ∧ Q h'
/-- an answer that is null or a cell of kind k -/
def zQR (k : Nat) (Q : Option Nat → ZH → Prop) : Option ZV → ZH → Prop := fun r h' => ∃ o : Option Nat, r = some (vQ (o.map (Prod.mk k))) ∧ (∀ i, o = some i → i < zcnt k) ∧ Q o h'
abbrev EvI (d : Nat) (M : ZM) (as : List ZV) (h : ZH) (Q : Int32 → ZH → Prop) : Prop := EvCall d M as h (zQI Q)
abbrev EvV (d : Nat) (M : ZM) (as : List ZV) (h : ZH) (Q : ZH → Prop) : Prop := EvCall d M as h (zQV Q)
abbrev EvR (k : Nat) (d : Nat) (M : ZM) (as : List ZV) (h : ZH) (Q : Option Nat → ZH → Prop) : Prop := EvCall d M as h (zQR k Q)
theorem zPc_blind (G : ZG) (as : List ZV) (h : ZH) : FrameBlind (zPc G as h) := by
  intro a U g mk q
  obtain ⟨q0, q1, q2, q3⟩ := q
  exact ⟨q0, q1, va_K.moved (u := U) (U := U.calling g mk a) (Vm.Alike.refl U.vm) q2, zConst.same (U := U.calling g mk a) (u := U) rfl rfl q3⟩
theorem zPc_of {G : ZG} {as : List ZV} {h : ZH} {s U : State} {H : Heap} {locs : List Loc} (hU : U.heap = H) (hW : s.WarmedH U.vm) (hR : zRep G h H) (hK : va_K G.2.1 vwCl (ztys G) s) (hC : zConst G s s.heap) (hS : va_S (zA G) s.heap H locs) : zPc G as h (as.map (zv G)).toArray U := by
  refine ⟨rfl, by rw [hU]; exact hR, va_K.moved hW.alike hK, ?_⟩
  rw [hU]
  exact zConst.warm hW (zConst.kept hC hS.2.1)
theorem zo_entry {d : Nat} {M : ZM} {as : List ZV} {h : ZH} {Q : Option ZV → ZH → Prop} (hy : plainName M.1.cls = true) (hlen : (zloc as).length ≤ M.2.2.1)
    (k : EvAt d M 0 (zloc as ++ List.replicate (M.2.2.1 - (zloc as).length) none) [] h Q) : EvCall d M as h Q := by
  intro l G hO
  refine Met.ofW (cc := M.2.1) (maxL := M.2.2.1) (ret := M.2.2.2) hy rfl ?_
  intro p e s m args below meth c s₁ B hml hv
  obtain ⟨rfl, hrep, hK, hC⟩ := hv
  have hts := atoms_spec (ws := zwsM M) B.pre
  have hown : s.vm.findClass M.1.cls = some m.cls := findClass_of_methodNamed B.named
  have hl := lv_entry (as.map (zv G)) (n := M.2.2.1) (by rw [zloc_len]; exact hlen)
  rw [lg_entry_eq]
  refine k G p l e s m _ below meth c s.heap [] _ ⟨B.exec, B.bytes, B.returns, hml, hts, hown, B.notSynchronized, hK, hO, hC⟩ hrep va_S.rf ?_
  unfold zLv
  rw [zloc_args]
  exact hl
theorem zo_mono {d : Nat} {M : ZM} {pc : Nat} {lv : List (Option ZV)} {st : List ZV} {h : ZH} {Q Q' : Option ZV → ZH → Prop} (hQ : ∀ r h', Q r h' → Q' r h') (k : EvAt d M pc lv st h Q) : EvAt d M pc lv st h Q' := by
  intro G p l e s m args below meth c H locs ls B hR hS hl T hT X
  obtain ⟨t, a1, o, b1, b2, ⟨r, h', c1, c2, c3⟩, b4⟩ := k G p l e s m args below meth c H locs ls B hR hS hl T hT X
  exact ⟨t, a1, o, b1, b2, ⟨r, h', c1, hQ r h' c2, c3⟩, b4⟩
end
section
section ZOps
variable {d : Nat} {M : ZM} {pc : Nat} {lv : List (Option ZV)} {st : List ZV} {h : ZH} {Q : Option ZV → ZH → Prop}
theorem zX_hts {M : ZM} {G : ZG} {p : Program} {s : State} {m : MethodId} {args : Array Value} {meth : Method} {c : Code} (B : zCtx M G p s m args meth c) {w : Cond} (hw : w ∈ WS) : w.before args s = true := B.2.2.2.2.1 w (List.mem_cons_of_mem _ hw)
theorem zo_iconst {n : Int} {v : Int32} (hd : decode M.2.1 pc = .ok (.iconst n, 1)) (hv : Int32.ofInt n = v) (k : EvAt d M (pc + 1) lv (vI v :: st) h Q) : EvAt d M pc lv st h Q := fun G p l e s m args below meth c H locs ls B hR hS hl => lv_iconst B.1 B.2.1 hd hv (k G p l e s m args below meth c H locs ls B hR hS hl)
theorem zo_bipush {n : Int} {v : Int32} (hd : decode M.2.1 pc = .ok (.bipush n, 2)) (hv : (Int8.ofInt n).toInt32 = v) (k : EvAt d M (pc + 2) lv (vI v :: st) h Q) : EvAt d M pc lv st h Q := fun G p l e s m args below meth c H locs ls B hR hS hl => lv_bipush B.1 B.2.1 hd hv (k G p l e s m args below meth c H locs ls B hR hS hl)
theorem zo_sipush {n : Int} {v : Int32} (hd : decode M.2.1 pc = .ok (.sipush n, 3)) (hv : (Int16.ofInt n).toInt32 = v) (k : EvAt d M (pc + 3) lv (vI v :: st) h Q) : EvAt d M pc lv st h Q := fun G p l e s m args below meth c H locs ls B hR hS hl => lv_sipush B.1 B.2.1 hd hv (k G p l e s m args below meth c H locs ls B hR hS hl)
theorem zo_lconst {n : Fin 2} {v : Int64} (hd : decode M.2.1 pc = .ok (.lconst n, 1)) (hv : Int64.ofNat n = v) (k : EvAt d M (pc + 1) lv (vL v :: st) h Q) : EvAt d M pc lv st h Q := fun G p l e s m args below meth c H locs ls B hR hS hl => lv_lconst B.1 B.2.1 hd hv (k G p l e s m args below meth c H locs ls B hR hS hl)
theorem zo_ldc {idx : Nat} {v : Int32} (hw : Cond.constant M.1.cls idx v ∈ WS) (hd : decode M.2.1 pc = .ok (.ldc idx, 2)) (k : EvAt d M (pc + 2) lv (vI v :: st) h Q) : EvAt d M pc lv st h Q := fun G p l e s m args below meth c H locs ls B hR hS hl => lv_ldc B.1 B.2.1 B.2.2.2.2.2.1 (zX_hts B hw) hd (k G p l e s m args below meth c H locs ls B hR hS hl)
theorem zo_ldc2 {idx : Nat} {v : Int64} (hw : Cond.constantLong M.1.cls idx v ∈ WS) (hd : decode M.2.1 pc = .ok (.ldc2_w idx, 3)) (k : EvAt d M (pc + 3) lv (vL v :: st) h Q) : EvAt d M pc lv st h Q := fun G p l e s m args below meth c H locs ls B hR hS hl => lv_ldc2 B.1 B.2.1 B.2.2.2.2.2.1 (zX_hts B hw) hd (k G p l e s m args below meth c H locs ls B hR hS hl)
theorem zo_null (hd : decode M.2.1 pc = .ok (.aconst_null, 1)) (k : EvAt d M (pc + 1) lv (vQ none :: st) h Q) : EvAt d M pc lv st h Q := fun G p l e s m args below meth c H locs ls B hR hS hl => lv_null B.1 B.2.1 hd (k G p l e s m args below meth c H locs ls B hR hS hl)
theorem zo_iload_n {k : Fin 4} {i : Nat} {x : Int32} (hd : decode M.2.1 pc = .ok (.iload_n k, 1)) (hi : (k : Nat) = i) (hx : lv[i]? = some (some (vI x))) (k : EvAt d M (pc + 1) lv (vI x :: st) h Q) : EvAt d M pc lv st h Q := fun G p l e s m args below meth c H locs ls B hR hS hl => lv_iload_n B.1 B.2.1 hd hi (zLv_at hl hx) (k G p l e s m args below meth c H locs ls B hR hS hl)
theorem zo_iload {i : Nat} {x : Int32} (hd : decode M.2.1 pc = .ok (.iload i, 2)) (hx : lv[i]? = some (some (vI x))) (k : EvAt d M (pc + 2) lv (vI x :: st) h Q) : EvAt d M pc lv st h Q := fun G p l e s m args below meth c H locs ls B hR hS hl => lv_iload B.1 B.2.1 hd (zLv_at hl hx) (k G p l e s m args below meth c H locs ls B hR hS hl)
theorem zo_lload_n {k : Fin 4} {i : Nat} {x : Int64} (hd : decode M.2.1 pc = .ok (.lload_n k, 1)) (hi : (k : Nat) = i) (hx : lv[i]? = some (some (vL x))) (k : EvAt d M (pc + 1) lv (vL x :: st) h Q) : EvAt d M pc lv st h Q := fun G p l e s m args below meth c H locs ls B hR hS hl => lv_lload_n B.1 B.2.1 hd hi (zLv_at hl hx) (k G p l e s m args below meth c H locs ls B hR hS hl)
theorem zo_lload {i : Nat} {x : Int64} (hd : decode M.2.1 pc = .ok (.lload i, 2)) (hx : lv[i]? = some (some (vL x))) (k : EvAt d M (pc + 2) lv (vL x :: st) h Q) : EvAt d M pc lv st h Q := fun G p l e s m args below meth c H locs ls B hR hS hl => lv_lload B.1 B.2.1 hd (zLv_at hl hx) (k G p l e s m args below meth c H locs ls B hR hS hl)
theorem zo_aload_n {k : Fin 4} {i : Nat} {o : Option (Nat × Nat)} (hd : decode M.2.1 pc = .ok (.aload_n k, 1)) (hi : (k : Nat) = i) (hx : lv[i]? = some (some (vQ o))) (k : EvAt d M (pc + 1) lv (vQ o :: st) h Q) : EvAt d M pc lv st h Q := by
  intro G p l e s m args below meth c H locs ls B hR hS hl
  cases o with
  | none => exact lv_aload_nN B.1 B.2.1 hd hi (zLv_at hl hx) (k G p l e s m args below meth c H locs ls B hR hS hl)
  | some q => exact lv_aload_n B.1 B.2.1 hd hi (zLv_at hl hx) (k G p l e s m args below meth c H locs ls B hR hS hl)
theorem zo_aload {i : Nat} {o : Option (Nat × Nat)} (hd : decode M.2.1 pc = .ok (.aload i, 2)) (hx : lv[i]? = some (some (vQ o))) (k : EvAt d M (pc + 2) lv (vQ o :: st) h Q) : EvAt d M pc lv st h Q := by
  intro G p l e s m args below meth c H locs ls B hR hS hl
  cases o with
  | none => exact lv_aloadN B.1 B.2.1 hd (zLv_at hl hx) (k G p l e s m args below meth c H locs ls B hR hS hl)
  | some q => exact lv_aload B.1 B.2.1 hd (zLv_at hl hx) (k G p l e s m args below meth c H locs ls B hR hS hl)
theorem zo_istore_n {k : Fin 4} {i : Nat} {x : Int32} (hd : decode M.2.1 pc = .ok (.istore_n k, 1)) (hi : (k : Nat) = i) (hn : i < M.2.2.1) (hz : zst lv i = true) (k : EvAt d M (pc + 1) (lv.set i (some (vI x))) st h Q) : EvAt d M pc lv (vI x :: st) h Q := fun G p l e s m args below meth c H locs ls B hR hS hl => lv_istore_n B.1 B.2.1 hd hi hl hn rfl (fun ls' hl' => k G p l e s m args below meth c H locs ls' B hR hS (zLv_set hz hl'))
theorem zo_istore {i : Nat} {x : Int32} (hd : decode M.2.1 pc = .ok (.istore i, 2)) (hn : i < M.2.2.1) (hz : zst lv i = true) (k : EvAt d M (pc + 2) (lv.set i (some (vI x))) st h Q) : EvAt d M pc lv (vI x :: st) h Q := fun G p l e s m args below meth c H locs ls B hR hS hl => lv_istore B.1 B.2.1 hd hl hn rfl (fun ls' hl' => k G p l e s m args below meth c H locs ls' B hR hS (zLv_set hz hl'))
theorem zo_astore_n {k : Fin 4} {i : Nat} {o : Option (Nat × Nat)} (hd : decode M.2.1 pc = .ok (.astore_n k, 1)) (hi : (k : Nat) = i) (hn : i < M.2.2.1) (hz : zst lv i = true) (k : EvAt d M (pc + 1) (lv.set i (some (vQ o))) st h Q) : EvAt d M pc lv (vQ o :: st) h Q := by
  intro G p l e s m args below meth c H locs ls B hR hS hl
  cases o with
  | none => exact lv_astore_nN B.1 B.2.1 hd hi hl hn rfl (fun ls' hl' => k G p l e s m args below meth c H locs ls' B hR hS (zLv_set hz hl'))
  | some q => exact lv_astore_n B.1 B.2.1 hd hi hl hn rfl (fun ls' hl' => k G p l e s m args below meth c H locs ls' B hR hS (zLv_set hz hl'))
theorem zo_astore {i : Nat} {o : Option (Nat × Nat)} (hd : decode M.2.1 pc = .ok (.astore i, 2)) (hn : i < M.2.2.1) (hz : zst lv i = true) (k : EvAt d M (pc + 2) (lv.set i (some (vQ o))) st h Q) : EvAt d M pc lv (vQ o :: st) h Q := by
  intro G p l e s m args below meth c H locs ls B hR hS hl
  cases o with
  | none => exact lv_astoreN B.1 B.2.1 hd hl hn rfl (fun ls' hl' => k G p l e s m args below meth c H locs ls' B hR hS (zLv_set hz hl'))
  | some q => exact lv_astore B.1 B.2.1 hd hl hn rfl (fun ls' hl' => k G p l e s m args below meth c H locs ls' B hR hS (zLv_set hz hl'))
theorem zo_iinc {i : Nat} {n : Int} {x v : Int32} (hd : decode M.2.1 pc = .ok (.iinc i n, 3)) (hx : lv[i]? = some (some (vI x))) (hv : x + Int32.ofInt n = v) (hn : i < M.2.2.1) (hz : zst lv i = true) (k : EvAt d M (pc + 3) (lv.set i (some (vI v))) st h Q) : EvAt d M pc lv st h Q := by
  intro G p l e s m args below meth c H locs ls B hR hS hl
  obtain ⟨kk, hkk⟩ := List.getElem?_of_mem ((zpairs_mem (G := G) lv 0).mpr ⟨i, vI x, hx, rfl⟩)
  rw [Nat.zero_add] at hkk
  exact lv_iinc B.1 B.2.1 hd hl hkk hv hn rfl (fun ls' hl' => k G p l e s m args below meth c H locs ls' B hR hS (zLv_set hz hl'))
theorem zo_iadd {x y : Int32} (hd : decode M.2.1 pc = .ok (.iadd, 1)) (k : EvAt d M (pc + 1) lv (vI (x + y) :: st) h Q) : EvAt d M pc lv (vI y :: vI x :: st) h Q := fun G p l e s m args below meth c H locs ls B hR hS hl => lv_iadd B.1 B.2.1 hd (k G p l e s m args below meth c H locs ls B hR hS hl)
theorem zo_isub {x y : Int32} (hd : decode M.2.1 pc = .ok (.isub, 1)) (k : EvAt d M (pc + 1) lv (vI (x - y) :: st) h Q) : EvAt d M pc lv (vI y :: vI x :: st) h Q := fun G p l e s m args below meth c H locs ls B hR hS hl => lv_isub B.1 B.2.1 hd (k G p l e s m args below meth c H locs ls B hR hS hl)
theorem zo_imul {x y : Int32} (hd : decode M.2.1 pc = .ok (.imul, 1)) (k : EvAt d M (pc + 1) lv (vI (x * y) :: st) h Q) : EvAt d M pc lv (vI y :: vI x :: st) h Q := fun G p l e s m args below meth c H locs ls B hR hS hl => lv_imul B.1 B.2.1 hd (k G p l e s m args below meth c H locs ls B hR hS hl)
theorem zo_iand {x y : Int32} (hd : decode M.2.1 pc = .ok (.iand, 1)) (k : EvAt d M (pc + 1) lv (vI (x &&& y) :: st) h Q) : EvAt d M pc lv (vI y :: vI x :: st) h Q := fun G p l e s m args below meth c H locs ls B hR hS hl => lv_iand B.1 B.2.1 hd (k G p l e s m args below meth c H locs ls B hR hS hl)
theorem zo_ior {x y : Int32} (hd : decode M.2.1 pc = .ok (.ior, 1)) (k : EvAt d M (pc + 1) lv (vI (x ||| y) :: st) h Q) : EvAt d M pc lv (vI y :: vI x :: st) h Q := fun G p l e s m args below meth c H locs ls B hR hS hl => lv_ior B.1 B.2.1 hd (k G p l e s m args below meth c H locs ls B hR hS hl)
theorem zo_ishl {x y : Int32} (hd : decode M.2.1 pc = .ok (.ishl, 1)) (k : EvAt d M (pc + 1) lv (vI (x <<< (y &&& 31)) :: st) h Q) : EvAt d M pc lv (vI y :: vI x :: st) h Q := fun G p l e s m args below meth c H locs ls B hR hS hl => lv_ishl B.1 B.2.1 hd (k G p l e s m args below meth c H locs ls B hR hS hl)
theorem zo_ishr {x y : Int32} (hd : decode M.2.1 pc = .ok (.ishr, 1)) (k : EvAt d M (pc + 1) lv (vI (x >>> (y &&& 31)) :: st) h Q) : EvAt d M pc lv (vI y :: vI x :: st) h Q := fun G p l e s m args below meth c H locs ls B hR hS hl => lv_ishr B.1 B.2.1 hd (k G p l e s m args below meth c H locs ls B hR hS hl)
theorem zo_idiv {x y : Int32} (hd : decode M.2.1 pc = .ok (.idiv, 1)) (hne : ¬ y = 0) (k : EvAt d M (pc + 1) lv (vI (x / y) :: st) h Q) : EvAt d M pc lv (vI y :: vI x :: st) h Q := fun G p l e s m args below meth c H locs ls B hR hS hl => lv_idiv B.1 B.2.1 hd hne (k G p l e s m args below meth c H locs ls B hR hS hl)
theorem zo_irem {x y : Int32} (hd : decode M.2.1 pc = .ok (.irem, 1)) (hne : ¬ y = 0) (k : EvAt d M (pc + 1) lv (vI (x - x / y * y) :: st) h Q) : EvAt d M pc lv (vI y :: vI x :: st) h Q := fun G p l e s m args below meth c H locs ls B hR hS hl => lv_irem B.1 B.2.1 hd hne (k G p l e s m args below meth c H locs ls B hR hS hl)
theorem zo_land {x y : Int64} (hd : decode M.2.1 pc = .ok (.land, 1)) (k : EvAt d M (pc + 1) lv (vL (x &&& y) :: st) h Q) : EvAt d M pc lv (vL y :: vL x :: st) h Q := fun G p l e s m args below meth c H locs ls B hR hS hl => lv_land B.1 B.2.1 hd (k G p l e s m args below meth c H locs ls B hR hS hl)
theorem zo_lor {x y : Int64} (hd : decode M.2.1 pc = .ok (.lor, 1)) (k : EvAt d M (pc + 1) lv (vL (x ||| y) :: st) h Q) : EvAt d M pc lv (vL y :: vL x :: st) h Q := fun G p l e s m args below meth c H locs ls B hR hS hl => lv_lor B.1 B.2.1 hd (k G p l e s m args below meth c H locs ls B hR hS hl)
theorem zo_lshl {x : Int64} {y : Int32} (hd : decode M.2.1 pc = .ok (.lshl, 1)) (k : EvAt d M (pc + 1) lv (vL (x <<< (y.toInt64 &&& 63)) :: st) h Q) : EvAt d M pc lv (vI y :: vL x :: st) h Q := fun G p l e s m args below meth c H locs ls B hR hS hl => lv_lshl B.1 B.2.1 hd rfl (k G p l e s m args below meth c H locs ls B hR hS hl)
theorem zo_lshr {x : Int64} {y : Int32} (hd : decode M.2.1 pc = .ok (.lshr, 1)) (k : EvAt d M (pc + 1) lv (vL (x >>> (y.toInt64 &&& 63)) :: st) h Q) : EvAt d M pc lv (vI y :: vL x :: st) h Q := fun G p l e s m args below meth c H locs ls B hR hS hl => lv_lshr B.1 B.2.1 hd rfl (k G p l e s m args below meth c H locs ls B hR hS hl)
theorem zo_lushr {x : Int64} {y : Int32} (hd : decode M.2.1 pc = .ok (.lushr, 1)) (k : EvAt d M (pc + 1) lv (vL ((x.toUInt64 >>> (y.toInt64.toUInt64 &&& Int64.toUInt64 63)).toInt64) :: st) h Q) : EvAt d M pc lv (vI y :: vL x :: st) h Q := fun G p l e s m args below meth c H locs ls B hR hS hl => lv_lushr B.1 B.2.1 hd rfl (k G p l e s m args below meth c H locs ls B hR hS hl)
theorem zo_i2l {x : Int32} (hd : decode M.2.1 pc = .ok (.i2l, 1)) (k : EvAt d M (pc + 1) lv (vL x.toInt64 :: st) h Q) : EvAt d M pc lv (vI x :: st) h Q := fun G p l e s m args below meth c H locs ls B hR hS hl => lv_i2l B.1 B.2.1 hd rfl (k G p l e s m args below meth c H locs ls B hR hS hl)
theorem zo_l2i {x : Int64} (hd : decode M.2.1 pc = .ok (.l2i, 1)) (k : EvAt d M (pc + 1) lv (vI x.toInt32 :: st) h Q) : EvAt d M pc lv (vL x :: st) h Q := fun G p l e s m args below meth c H locs ls B hR hS hl => lv_l2i B.1 B.2.1 hd rfl (k G p l e s m args below meth c H locs ls B hR hS hl)
theorem zo_i2c {x : Int32} (hd : decode M.2.1 pc = .ok (.i2c, 1)) (k : EvAt d M (pc + 1) lv (vI (x.toUInt32 % 65536).toInt32 :: st) h Q) : EvAt d M pc lv (vI x :: st) h Q := fun G p l e s m args below meth c H locs ls B hR hS hl => lv_i2c B.1 B.2.1 hd rfl (k G p l e s m args below meth c H locs ls B hR hS hl)
theorem zo_lcmp {x y : Int64} (hd : decode M.2.1 pc = .ok (.lcmp, 1)) (k : EvAt d M (pc + 1) lv (vI (lg_cmp x y) :: st) h Q) : EvAt d M pc lv (vL y :: vL x :: st) h Q := fun G p l e s m args below meth c H locs ls B hR hS hl => W.lcmp B.1 B.2.1 hd (k G p l e s m args below meth c H locs ls B hR hS hl)
theorem zo_dup {a : ZV} (ha : zcat a = 1) (hd : decode M.2.1 pc = .ok (.dup, 1)) (k : EvAt d M (pc + 1) lv (a :: a :: st) h Q) : EvAt d M pc lv (a :: st) h Q := fun G p l e s m args below meth c H locs ls B hR hS hl => lv_dup B.1 B.2.1 hd (by rw [zcat_zv]; exact ha) (k G p l e s m args below meth c H locs ls B hR hS hl)
theorem zo_pop {a : ZV} (ha : zcat a = 1) (hd : decode M.2.1 pc = .ok (.pop, 1)) (k : EvAt d M (pc + 1) lv st h Q) : EvAt d M pc lv (a :: st) h Q := fun G p l e s m args below meth c H locs ls B hR hS hl => lv_pop B.1 B.2.1 hd (by rw [zcat_zv]; exact ha) (k G p l e s m args below meth c H locs ls B hR hS hl)
theorem zo_dup_x1 {a b : ZV} (ha : zcat a = 1) (hb : zcat b = 1) (hd : decode M.2.1 pc = .ok (.dup_x1, 1)) (k : EvAt d M (pc + 1) lv (a :: b :: a :: st) h Q) : EvAt d M pc lv (a :: b :: st) h Q := fun G p l e s m args below meth c H locs ls B hR hS hl => lv_dup_x1 B.1 B.2.1 hd (by rw [zcat_zv]; exact ha) (by rw [zcat_zv]; exact hb) (k G p l e s m args below meth c H locs ls B hR hS hl)
theorem zo_dup2 {a b : ZV} (ha : zcat a = 1) (hb : zcat b = 1) (hd : decode M.2.1 pc = .ok (.dup2, 1)) (k : EvAt d M (pc + 1) lv (a :: b :: a :: b :: st) h Q) : EvAt d M pc lv (a :: b :: st) h Q := fun G p l e s m args below meth c H locs ls B hR hS hl => lv_dup2_11 B.1 B.2.1 hd (by rw [zcat_zv]; exact ha) (by rw [zcat_zv]; exact hb) (k G p l e s m args below meth c H locs ls B hR hS hl)
theorem zo_if_eq {x : Int32} {off : Int} {tgt : Nat} (hd : decode M.2.1 pc = .ok (.ifCond .eq off, 3)) (ht : (pc : Int) + off = (tgt : Int)) (kt : x = 0 → EvAt d M tgt lv st h Q) (kf : ¬ x = 0 → EvAt d M (pc + 3) lv st h Q) : EvAt d M pc lv (vI x :: st) h Q := fun G p l e s m args below meth c H locs ls B hR hS hl => lv_if_eq B.1 B.2.1 hd ht (fun z => kt z G p l e s m args below meth c H locs ls B hR hS hl) (fun z => kf z G p l e s m args below meth c H locs ls B hR hS hl)
theorem zo_icmp_eq {x y : Int32} {off : Int} {tgt : Nat} (hd : decode M.2.1 pc = .ok (.if_icmp .eq off, 3)) (ht : (pc : Int) + off = (tgt : Int)) (kt : x = y → EvAt d M tgt lv st h Q) (kf : ¬ x = y → EvAt d M (pc + 3) lv st h Q) : EvAt d M pc lv (vI y :: vI x :: st) h Q := fun G p l e s m args below meth c H locs ls B hR hS hl => lv_icmp_eq B.1 B.2.1 hd ht (fun z => kt z G p l e s m args below meth c H locs ls B hR hS hl) (fun z => kf z G p l e s m args below meth c H locs ls B hR hS hl)
theorem zo_if_ne {x : Int32} {off : Int} {tgt : Nat} (hd : decode M.2.1 pc = .ok (.ifCond .ne off, 3)) (ht : (pc : Int) + off = (tgt : Int)) (kt : ¬ x = 0 → EvAt d M tgt lv st h Q) (kf : x = 0 → EvAt d M (pc + 3) lv st h Q) : EvAt d M pc lv (vI x :: st) h Q := fun G p l e s m args below meth c H locs ls B hR hS hl => lv_if_ne B.1 B.2.1 hd ht (fun z => kt z G p l e s m args below meth c H locs ls B hR hS hl) (fun z => kf z G p l e s m args below meth c H locs ls B hR hS hl)
theorem zo_icmp_ne {x y : Int32} {off : Int} {tgt : Nat} (hd : decode M.2.1 pc = .ok (.if_icmp .ne off, 3)) (ht : (pc : Int) + off = (tgt : Int)) (kt : ¬ x = y → EvAt d M tgt lv st h Q) (kf : x = y → EvAt d M (pc + 3) lv st h Q) : EvAt d M pc lv (vI y :: vI x :: st) h Q := fun G p l e s m args below meth c H locs ls B hR hS hl => lv_icmp_ne B.1 B.2.1 hd ht (fun z => kt z G p l e s m args below meth c H locs ls B hR hS hl) (fun z => kf z G p l e s m args below meth c H locs ls B hR hS hl)
theorem zo_if_lt {x : Int32} {off : Int} {tgt : Nat} (hd : decode M.2.1 pc = .ok (.ifCond .lt off, 3)) (ht : (pc : Int) + off = (tgt : Int)) (kt : x < 0 → EvAt d M tgt lv st h Q) (kf : ¬ x < 0 → EvAt d M (pc + 3) lv st h Q) : EvAt d M pc lv (vI x :: st) h Q := fun G p l e s m args below meth c H locs ls B hR hS hl => lv_if_lt B.1 B.2.1 hd ht (fun z => kt z G p l e s m args below meth c H locs ls B hR hS hl) (fun z => kf z G p l e s m args below meth c H locs ls B hR hS hl)
theorem zo_icmp_lt {x y : Int32} {off : Int} {tgt : Nat} (hd : decode M.2.1 pc = .ok (.if_icmp .lt off, 3)) (ht : (pc : Int) + off = (tgt : Int)) (kt : x < y → EvAt d M tgt lv st h Q) (kf : ¬ x < y → EvAt d M (pc + 3) lv st h Q) : EvAt d M pc lv (vI y :: vI x :: st) h Q := fun G p l e s m args below meth c H locs ls B hR hS hl => lv_icmp_lt B.1 B.2.1 hd ht (fun z => kt z G p l e s m args below meth c H locs ls B hR hS hl) (fun z => kf z G p l e s m args below meth c H locs ls B hR hS hl)
theorem zo_if_ge {x : Int32} {off : Int} {tgt : Nat} (hd : decode M.2.1 pc = .ok (.ifCond .ge off, 3)) (ht : (pc : Int) + off = (tgt : Int)) (kt : 0 ≤ x → EvAt d M tgt lv st h Q) (kf : ¬ 0 ≤ x → EvAt d M (pc + 3) lv st h Q) : EvAt d M pc lv (vI x :: st) h Q := fun G p l e s m args below meth c H locs ls B hR hS hl => lv_if_ge B.1 B.2.1 hd ht (fun z => kt z G p l e s m args below meth c H locs ls B hR hS hl) (fun z => kf z G p l e s m args below meth c H locs ls B hR hS hl)
theorem zo_icmp_ge {x y : Int32} {off : Int} {tgt : Nat} (hd : decode M.2.1 pc = .ok (.if_icmp .ge off, 3)) (ht : (pc : Int) + off = (tgt : Int)) (kt : y ≤ x → EvAt d M tgt lv st h Q) (kf : ¬ y ≤ x → EvAt d M (pc + 3) lv st h Q) : EvAt d M pc lv (vI y :: vI x :: st) h Q := fun G p l e s m args below meth c H locs ls B hR hS hl => lv_icmp_ge B.1 B.2.1 hd ht (fun z => kt z G p l e s m args below meth c H locs ls B hR hS hl) (fun z => kf z G p l e s m args below meth c H locs ls B hR hS hl)
theorem zo_if_gt {x : Int32} {off : Int} {tgt : Nat} (hd : decode M.2.1 pc = .ok (.ifCond .gt off, 3)) (ht : (pc : Int) + off = (tgt : Int)) (kt : 0 < x → EvAt d M tgt lv st h Q) (kf : ¬ 0 < x → EvAt d M (pc + 3) lv st h Q) : EvAt d M pc lv (vI x :: st) h Q := fun G p l e s m args below meth c H locs ls B hR hS hl => lv_if_gt B.1 B.2.1 hd ht (fun z => kt z G p l e s m args below meth c H locs ls B hR hS hl) (fun z => kf z G p l e s m args below meth c H locs ls B hR hS hl)
theorem zo_icmp_gt {x y : Int32} {off : Int} {tgt : Nat} (hd : decode M.2.1 pc = .ok (.if_icmp .gt off, 3)) (ht : (pc : Int) + off = (tgt : Int)) (kt : y < x → EvAt d M tgt lv st h Q) (kf : ¬ y < x → EvAt d M (pc + 3) lv st h Q) : EvAt d M pc lv (vI y :: vI x :: st) h Q := fun G p l e s m args below meth c H locs ls B hR hS hl => lv_icmp_gt B.1 B.2.1 hd ht (fun z => kt z G p l e s m args below meth c H locs ls B hR hS hl) (fun z => kf z G p l e s m args below meth c H locs ls B hR hS hl)
theorem zo_if_le {x : Int32} {off : Int} {tgt : Nat} (hd : decode M.2.1 pc = .ok (.ifCond .le off, 3)) (ht : (pc : Int) + off = (tgt : Int)) (kt : x ≤ 0 → EvAt d M tgt lv st h Q) (kf : ¬ x ≤ 0 → EvAt d M (pc + 3) lv st h Q) : EvAt d M pc lv (vI x :: st) h Q := fun G p l e s m args below meth c H locs ls B hR hS hl => lv_if_le B.1 B.2.1 hd ht (fun z => kt z G p l e s m args below meth c H locs ls B hR hS hl) (fun z => kf z G p l e s m args below meth c H locs ls B hR hS hl)
theorem zo_icmp_le {x y : Int32} {off : Int} {tgt : Nat} (hd : decode M.2.1 pc = .ok (.if_icmp .le off, 3)) (ht : (pc : Int) + off = (tgt : Int)) (kt : x ≤ y → EvAt d M tgt lv st h Q) (kf : ¬ x ≤ y → EvAt d M (pc + 3) lv st h Q) : EvAt d M pc lv (vI y :: vI x :: st) h Q := fun G p l e s m args below meth c H locs ls B hR hS hl => lv_icmp_le B.1 B.2.1 hd ht (fun z => kt z G p l e s m args below meth c H locs ls B hR hS hl) (fun z => kf z G p l e s m args below meth c H locs ls B hR hS hl)
theorem zo_goto {off : Int} {tgt : Nat} (hd : decode M.2.1 pc = .ok (.goto off, 3)) (ht : (pc : Int) + off = (tgt : Int)) (k : EvAt d M tgt lv st h Q) : EvAt d M pc lv st h Q := fun G p l e s m args below meth c H locs ls B hR hS hl => lv_goto B.1 B.2.1 hd ht (k G p l e s m args below meth c H locs ls B hR hS hl)
theorem zo_ifnull {o : Option (Nat × Nat)} {off : Int} {tgt : Nat} (hd : decode M.2.1 pc = .ok (.ifnull off, 3)) (ht : (pc : Int) + off = (tgt : Int)) (kt : o = none → EvAt d M tgt lv st h Q) (kf : ∀ q, o = some q → EvAt d M (pc + 3) lv st h Q) : EvAt d M pc lv (vQ o :: st) h Q := by
  intro G p l e s m args below meth c H locs ls B hR hS hl
  cases o with
  | none => exact lv_ifnullN B.1 B.2.1 hd ht (kt rfl G p l e s m args below meth c H locs ls B hR hS hl)
  | some q => exact lv_ifnull B.1 B.2.1 hd (kf q rfl G p l e s m args below meth c H locs ls B hR hS hl)
theorem zo_ifnonnull {o : Option (Nat × Nat)} {off : Int} {tgt : Nat} (hd : decode M.2.1 pc = .ok (.ifnonnull off, 3)) (ht : (pc : Int) + off = (tgt : Int)) (kt : ∀ q, o = some q → EvAt d M tgt lv st h Q) (kf : o = none → EvAt d M (pc + 3) lv st h Q) : EvAt d M pc lv (vQ o :: st) h Q := by
  intro G p l e s m args below meth c H locs ls B hR hS hl
  cases o with
  | none => exact lv_ifnonnullN B.1 B.2.1 hd (kf rfl G p l e s m args below meth c H locs ls B hR hS hl)
  | some q => exact lv_ifnonnull B.1 B.2.1 hd ht (kt q rfl G p l e s m args below meth c H locs ls B hR hS hl)
theorem zv_rf (G : ZG) (o : Option (Nat × Nat)) : zv G (vQ o) = va_rf (o.map (fun q => G.1 q.1 q.2)) := by
  cases o <;> rfl
theorem zv_inj {G : ZG} (hO : zOK G) {o1 o2 : Option (Nat × Nat)} (h1 : ∀ q, o1 = some q → q ∈ zall) (h2 : ∀ q, o2 = some q → q ∈ zall) : o1.map (fun q => G.1 q.1 q.2) = o2.map (fun q => G.1 q.1 q.2) ↔ o1 = o2 := by
  constructor
  · intro hh
    cases o1 with
    | none => cases o2 with
      | none => rfl
      | some b => cases hh
    | some a => cases o2 with
      | none => cases hh
      | some b =>
        obtain ⟨i, hi⟩ := List.getElem?_of_mem (h1 a rfl)
        obtain ⟨j, hj⟩ := List.getElem?_of_mem (h2 b rfl)
        have e := hO.1 i j a b hi hj (Option.some.inj hh)
        subst e
        rw [hi] at hj
        exact hj
  · intro hh; rw [hh]
theorem zo_acmp_eq {o1 o2 : Option (Nat × Nat)} {off : Int} {tgt : Nat} (h1 : ∀ q, o1 = some q → q ∈ zall) (h2 : ∀ q, o2 = some q → q ∈ zall) (hd : decode M.2.1 pc = .ok (.if_acmp .eq off, 3)) (ht : (pc : Int) + off = (tgt : Int)) (kt : o1 = o2 → EvAt d M tgt lv st h Q) (kf : ¬ o1 = o2 → EvAt d M (pc + 3) lv st h Q) : EvAt d M pc lv (vQ o2 :: vQ o1 :: st) h Q := by
  intro G p l e s m args below meth c H locs ls B hR hS hl
  show W p l e (rmD d) s m args below meth c H locs 0 0 _ (F0 m pc ls (zv G (vQ o2) :: zv G (vQ o1) :: st.map (zv G)))
  rw [zv_rf, zv_rf]
  exact lv_acmp_eq B.1 B.2.1 hd ht (fun z => kt ((zv_inj B.2.2.2.2.2.2.2.2.1 h1 h2).mp z) G p l e s m args below meth c H locs ls B hR hS hl) (fun z => kf (fun y => z ((zv_inj B.2.2.2.2.2.2.2.2.1 h1 h2).mpr y)) G p l e s m args below meth c H locs ls B hR hS hl)
theorem zo_acmp_ne {o1 o2 : Option (Nat × Nat)} {off : Int} {tgt : Nat} (h1 : ∀ q, o1 = some q → q ∈ zall) (h2 : ∀ q, o2 = some q → q ∈ zall) (hd : decode M.2.1 pc = .ok (.if_acmp .ne off, 3)) (ht : (pc : Int) + off = (tgt : Int)) (kt : ¬ o1 = o2 → EvAt d M tgt lv st h Q) (kf : o1 = o2 → EvAt d M (pc + 3) lv st h Q) : EvAt d M pc lv (vQ o2 :: vQ o1 :: st) h Q := by
  intro G p l e s m args below meth c H locs ls B hR hS hl
  show W p l e (rmD d) s m args below meth c H locs 0 0 _ (F0 m pc ls (zv G (vQ o2) :: zv G (vQ o1) :: st.map (zv G)))
  rw [zv_rf, zv_rf]
  exact lv_acmp_ne B.1 B.2.1 hd ht (fun z => kt (fun y => z ((zv_inj B.2.2.2.2.2.2.2.2.1 h1 h2).mpr y)) G p l e s m args below meth c H locs ls B hR hS hl) (fun z => kf ((zv_inj B.2.2.2.2.2.2.2.2.1 h1 h2).mp z) G p l e s m args below meth c H locs ls B hR hS hl)
theorem zo_table {dflt lo hi : Int} {offs : Array Int} {len : Nat} {x : Int32} (hd : decode M.2.1 pc = .ok (.tableswitch dflt lo hi offs, len)) {td : Nat} (hdf : (pc : Int) + dflt = (td : Int)) (f : Nat → Nat) (hf : ∀ i : Nat, i < (hi - lo + 1).toNat → ∃ off, offs[i]? = some off ∧ (pc : Int) + off = (f i : Int))
    (ko : x.toInt < lo ∨ hi < x.toInt → EvAt d M td lv st h Q) (ki : ∀ i : Nat, i < (hi - lo + 1).toNat → x.toInt = lo + i → EvAt d M (f i) lv st h Q) : EvAt d M pc lv (vI x :: st) h Q := by
  intro G p l e s m args below meth c H locs ls B hR hS hl
  by_cases h1 : x.toInt < lo
  · exact lv_tableOut B.1 B.2.1 hd (Or.inl h1) hdf (ko (Or.inl h1) G p l e s m args below meth c H locs ls B hR hS hl)
  · by_cases h2 : hi < x.toInt
    · exact lv_tableOut B.1 B.2.1 hd (Or.inr h2) hdf (ko (Or.inr h2) G p l e s m args below meth c H locs ls B hR hS hl)
    · obtain ⟨off, ho, ht⟩ := hf (x.toInt - lo).toNat (by omega)
      exact lv_tableIn B.1 B.2.1 hd h1 h2 ho ht (ki _ (by omega) (by omega) G p l e s m args below meth c H locs ls B hR hS hl)
theorem zo_lookup {dflt : Int} {ps : Array (Int × Int)} {len : Nat} {x : Int32} {off : Int} {tgt : Nat} (hd : decode M.2.1 pc = .ok (.lookupswitch dflt ps, len)) (hp : (ps.toList.zip (ps.toList.drop 1)).all (fun (a, next) => a.1 < next.1) = true) (ho : Op.lookupswitch.offset ps.toList dflt x.toInt = off) (ht : (pc : Int) + off = (tgt : Int)) (k : EvAt d M tgt lv st h Q) : EvAt d M pc lv (vI x :: st) h Q := fun G p l e s m args below meth c H locs ls B hR hS hl => lv_lookup B.1 B.2.1 hd hp ho ht (k G p l e s m args below meth c H locs ls B hR hS hl)
theorem zo_iret {x : Int32} (hr : M.2.2.2 = some .int) (hd : decode M.2.1 pc = .ok (.ireturn, 1)) (hq : Q (some (vI x)) h) : EvAt d M pc lv (vI x :: []) h Q := fun G p l e s m args below meth c H locs ls B hR hS hl => W.iret B.1 B.2.1 (B.2.2.1.trans hr) (fun t ht hW => ⟨_, h, rfl, hq, by rw [ht]; exact hR, hS.F ht⟩) hS.2.2 hd (hlocks := B.2.2.2.2.2.2.1)
theorem zo_zret {x : Int32} {ty : FieldType} (hr : M.2.2.2 = some ty) (hn : narrow ty (.int x) = .int x) (hd : decode M.2.1 pc = .ok (.ireturn, 1)) (hq : Q (some (vI x)) h) : EvAt d M pc lv (vI x :: []) h Q := fun G p l e s m args below meth c H locs ls B hR hS hl => W.zret B.1 B.2.1 (B.2.2.1.trans hr) hn (fun t ht hW => ⟨_, h, rfl, hq, by rw [ht]; exact hR, hS.F ht⟩) hS.2.2 hd (hlocks := B.2.2.2.2.2.2.1)
theorem zo_vret (hr : M.2.2.2 = none) (hd : decode M.2.1 pc = .ok (.return_, 1)) (hq : Q (none) h) : EvAt d M pc lv [] h Q := fun G p l e s m args below meth c H locs ls B hR hS hl => W.vret B.1 B.2.1 (B.2.2.1.trans hr) (fun t ht hW => ⟨_, h, rfl, hq, by rw [ht]; exact hR, hS.F ht⟩) hS.2.2 hd (hlocks := B.2.2.2.2.2.2.1)
theorem zo_aret {o : Option (Nat × Nat)} {rt : FieldType} (hr : M.2.2.2 = some rt) (hrt : (∃ n, rt = .object n) ∨ ∃ t, rt = .array t) (hd : decode M.2.1 pc = .ok (.areturn, 1)) (hq : Q (some (vQ o)) h) : EvAt d M pc lv (vQ o :: []) h Q := by
  intro G p l e s m args below meth c H locs ls B hR hS hl
  refine W.aret B.1 B.2.1 (B.2.2.1.trans hr) hrt ?_ (fun t ht hW => ⟨_, h, rfl, hq, by rw [ht]; exact hR, hS.F ht⟩) hS.2.2 hd (hlocks := B.2.2.2.2.2.2.1)
  cases o with
  | none => exact Or.inl rfl
  | some q => exact Or.inr ⟨_, rfl⟩
theorem zo_get {k i j idx ci N : Nat} {C : String} {T : u_T} (hk : (k, i) ∈ zall) (ho : zobj k = some (ci, N)) (hc : vwCl[ci]? = some (C, T, N)) (hin : ∀ w ∈ u_ws C T N, w ∈ WS) (hj : j < N) (hlk : Cond.fieldLink M.1.cls idx (T j).1 (T j).2.1 (T j).2.2.1 ∈ WS) {v : ZV} (hv : ∀ G, zfld G h k i j = zv G v) (hd : decode M.2.1 pc = .ok (.getfield idx, 3)) (kk : EvAt d M (pc + 3) lv (v :: st) h Q) : EvAt d M pc lv (vQ (some (k, i)) :: st) h Q := by
  intro G p l e s m args below meth c H locs ls B hR hS hl
  obtain ⟨q0, e1, -⟩ := zpos B.2.2.2.2.2.2.2.2.1 hk
  have he := e1 h
  unfold zE at he
  rw [ho] at he
  exact va_get B.1 B.2.1 (Ts := WS) (fun w hw => zX_hts B hw) hin B.2.2.2.2.2.1 B.2.2.2.2.2.2.2.1 hR q0 he hc j hj (zX_hts B hlk) (fun _ z => z) (v := zv G v) (by rw [List.getElem?_map, List.getElem?_range hj]; exact congrArg some (hv G)) hd (kk G p l e s m args below meth c H locs ls B hR hS hl)
theorem zmap_set {α : Type} (N j : Nat) (f g : Nat → α) (v : α) (h1 : g j = v) (h2 : ∀ a, a ≠ j → g a = f a) : (List.range N).map g = ((List.range N).map f).set j v := by
  apply List.ext_getElem?
  intro a
  rw [List.getElem?_map]
  by_cases hl : a < N
  · rw [List.getElem?_range hl]
    by_cases e : a = j
    · subst e
      rw [List.getElem?_set_self (by simpa using hl)]
      show some (g a) = some v
      rw [h1]
    · rw [List.getElem?_set_ne (Ne.symm e), List.getElem?_map, List.getElem?_range hl]
      show some (g a) = some (f a)
      rw [h2 a e]
  · rw [List.getElem?_eq_none (by simpa using hl), List.getElem?_eq_none (by simpa using hl)]
    rfl
theorem zw_1 (h : ZH) (k i j : Nat) (x : Int32) (a : Nat) : (zw h k i j x).1 k i a = if a = j then x else h.1 k i a := by
  show (if k = k ∧ i = i ∧ a = j then x else _) = _
  simp
theorem zwr_2 (h : ZH) (k i j : Nat) (x : Option Nat) (a : Nat) : (zwr h k i j x).2 k i a = if a = j then x else h.2 k i a := by
  show (if k = k ∧ i = i ∧ a = j then x else _) = _
  simp
theorem zE_put {G : ZG} {h : ZH} {k i j ci N : Nat} {x : Int32} (ho : zobj k = some (ci, N)) (hft : zft k j = 0) : zE G (zw h k i j x) k i = .inr (ci, ((List.range N).map (zfld G h k i)).set j (.int x)) := by
  unfold zE
  rw [ho]
  refine congrArg Sum.inr (congrArg (Prod.mk ci) (zmap_set N j _ _ _ ?_ (fun a e => ?_)))
  · unfold zfld
    rw [hft, zw_1, if_pos rfl]
    rfl
  · unfold zfld
    rw [zw_1, if_neg e]
    rfl
theorem zE_putR {G : ZG} {h : ZH} {k i j ci N : Nat} {q : Nat} (ho : zobj k = some (ci, N)) (hft : zft k j = 2) : zE G (zwr h k i j (some q)) k i = .inr (ci, ((List.range N).map (zfld G h k i)).set j (.ref (G.1 (ztk k j) q))) := by
  unfold zE
  rw [ho]
  refine congrArg Sum.inr (congrArg (Prod.mk ci) (zmap_set N j _ _ _ ?_ (fun a e => ?_)))
  · unfold zfld
    rw [hft, zwr_2, if_pos rfl]
    rfl
  · unfold zfld
    rw [zwr_2, if_neg e]
    rfl
theorem zo_putI {k i j idx ci N : Nat} {C : String} {T : u_T} {ty0 : Nat → FieldType} {ty : FieldType} {x : Int32} (hk : (k, i) ∈ zall) (ho : zobj k = some (ci, N)) (hc : vwCl[ci]? = some (C, T, N)) (hin : ∀ w ∈ u_ws C T N, w ∈ WS) (hty : ∀ k, k < N → parseFieldDescriptor (T k).2.2.1 = some (ty0 k)) (hnm : ∀ a, a < N → ∀ b, b < N → a ≠ b → (T a).2.1 ≠ (T b).2.1) (hj : j < N) (hlk : Cond.fieldLink M.1.cls idx (T j).1 (T j).2.1 (T j).2.2.1 ∈ WS) (hft : zft k j = 0) (hfin : (T j).2.2.2 = false) (htj : ty0 j = ty) (hn : narrow ty (.int x) = .int x) (hfit : fits ty (.int x) = true) (hd : decode M.2.1 pc = .ok (.putfield idx, 3)) (kk : EvAt d M (pc + 3) lv st (zw h k i j x) Q) : EvAt d M pc lv (vI x :: vQ (some (k, i)) :: st) h Q := by
  intro G p l e s m args below meth c H locs ls B hR hS hl
  obtain ⟨q0, e1, e2⟩ := zpos B.2.2.2.2.2.2.2.2.1 hk
  have he := e1 h
  have hset := e2 h (zw h k i j x) (zw_off h k i j x)
  rw [zE_put ho hft] at hset
  unfold zE at he
  rw [ho] at he
  refine va_put B.1 B.2.1 (Ts := WS) (fun w hw => zX_hts B hw) hin ty0 hty hnm B.2.2.2.2.2.1 B.2.2.2.2.2.2.2.1 hR (zD h B.2.2.2.2.2.2.2.2.1) hS q0 he hc j hj (zX_hts B hlk) (fun _ z => z) hfin (ty := ty) (v := .int x) (by rw [← htj]; exact hty j hj) hn hfit (by simpa using hj) hd (fun H1 locs1 hP1 hD1 hS1 => ?_)
  rw [hset] at hP1
  exact kk G p l e s m args below meth c H1 locs1 ls B hP1 hS1 hl
theorem zo_putR {k i j idx ci N q : Nat} {C : String} {T : u_T} {ty0 : Nat → FieldType} {ty : FieldType} (hk : (k, i) ∈ zall) (ho : zobj k = some (ci, N)) (hc : vwCl[ci]? = some (C, T, N)) (hin : ∀ w ∈ u_ws C T N, w ∈ WS) (hty : ∀ k, k < N → parseFieldDescriptor (T k).2.2.1 = some (ty0 k)) (hnm : ∀ a, a < N → ∀ b, b < N → a ≠ b → (T a).2.1 ≠ (T b).2.1) (hj : j < N) (hlk : Cond.fieldLink M.1.cls idx (T j).1 (T j).2.1 (T j).2.2.1 ∈ WS) (hft : zft k j = 2) (hfin : (T j).2.2.2 = false) (htj : ty0 j = ty) (hn : ∀ a, narrow ty (.ref a) = .ref a) (hfit : ∀ a, fits ty (.ref a) = true) (hd : decode M.2.1 pc = .ok (.putfield idx, 3)) (kk : EvAt d M (pc + 3) lv st (zwr h k i j (some q)) Q) : EvAt d M pc lv (vQ (some (ztk k j, q)) :: vQ (some (k, i)) :: st) h Q := by
  intro G p l e s m args below meth c H locs ls B hR hS hl
  obtain ⟨q0, e1, e2⟩ := zpos B.2.2.2.2.2.2.2.2.1 hk
  have he := e1 h
  have hset := e2 h (zwr h k i j (some q)) (zwr_off h k i j (some q))
  rw [zE_putR ho hft] at hset
  unfold zE at he
  rw [ho] at he
  refine va_put B.1 B.2.1 (Ts := WS) (fun w hw => zX_hts B hw) hin ty0 hty hnm B.2.2.2.2.2.1 B.2.2.2.2.2.2.2.1 hR (zD h B.2.2.2.2.2.2.2.2.1) hS q0 he hc j hj (zX_hts B hlk) (fun _ z => z) hfin (ty := ty) (v := .ref (G.1 (ztk k j) q)) (by rw [← htj]; exact hty j hj) (hn _) (hfit _) (by simpa using hj) hd (fun H1 locs1 hP1 hD1 hS1 => ?_)
  rw [hset] at hP1
  exact kk G p l e s m args below meth c H1 locs1 ls B hP1 hS1 hl
theorem ztys_at (G : ZG) {t : Nat} {ty : FieldType} (h : zarrT[t]? = some ty) : (ztys G)[t]? = some (G.2.2.1 t, ty) := by
  unfold ztys
  rw [List.getElem?_map, List.getElem?_zipIdx, h]
  simp
theorem zE_arr {G : ZG} {h : ZH} {k i : Nat} (ho : zobj k = none) (hra : zra k = 0) : zE G h k i = .inl (G.2.2.1 (zarr k), zLen k i, .inl (fun j => h.1 k i j)) := by
  unfold zE
  rw [ho, hra]
  rfl
theorem zE_arrQ {G : ZG} {h : ZH} {k i n : Nat} (ho : zobj k = none) (hra : zra k = n + 1) : zE G h k i = .inl (G.2.2.1 (zarr k), zLen k i, .inr (.inr (.inr (.inr (zav G h k i))))) := by
  unfold zE
  rw [ho, hra]
  rfl
theorem zE_ast {G : ZG} {h : ZH} {k i n : Nat} {x : Int32} (ho : zobj k = none) (hra : zra k = 0) : zE G (zw h k i n x) k i = .inl (G.2.2.1 (zarr k), zLen k i, .inl (upd (fun j => h.1 k i j) n x)) := by
  rw [zE_arr ho hra]
  refine congrArg Sum.inl (congrArg (Prod.mk _) (congrArg (Prod.mk _) (congrArg Sum.inl ?_)))
  funext a
  rw [zw_1]
  rfl
theorem zo_iald {k i : Nat} {x : Int32} (hk : (k, i) ∈ zall) (ho : zobj k = none) (hra : zra k = 0) (hat : zarrT[zarr k]? = some .int) (hin : vp_in x (zLen k i)) (hd : decode M.2.1 pc = .ok (.iaload, 1)) (kk : EvAt d M (pc + 1) lv (vI (zi h k i x.toNatClampNeg) :: st) h Q) : EvAt d M pc lv (vI x :: vQ (some (k, i)) :: st) h Q := by
  intro G p l e s m args below meth c H locs ls B hR hS hl
  obtain ⟨q0, e1, -⟩ := zpos B.2.2.2.2.2.2.2.2.1 hk
  have he := e1 h
  rw [zE_arr ho hra] at he
  exact va_iald B.1 B.2.1 B.2.2.2.2.2.2.2.1 hR q0 _ he (ztys_at G hat) hin hd (kk G p l e s m args below meth c H locs ls B hR hS hl)
theorem zo_cald {k i : Nat} {x : Int32} (hk : (k, i) ∈ zall) (ho : zobj k = none) (hra : zra k = 0) (hat : zarrT[zarr k]? = some .char) (hin : vp_in x (zLen k i)) (hd : decode M.2.1 pc = .ok (.caload, 1)) (kk : EvAt d M (pc + 1) lv (vI (zi h k i x.toNatClampNeg) :: st) h Q) : EvAt d M pc lv (vI x :: vQ (some (k, i)) :: st) h Q := by
  intro G p l e s m args below meth c H locs ls B hR hS hl
  obtain ⟨q0, e1, -⟩ := zpos B.2.2.2.2.2.2.2.2.1 hk
  have he := e1 h
  rw [zE_arr ho hra] at he
  exact va_cald B.1 B.2.1 B.2.2.2.2.2.2.2.1 hR q0 _ he (ztys_at G hat) hin hd (kk G p l e s m args below meth c H locs ls B hR hS hl)
theorem zo_zald {k i : Nat} {x : Int32} (hk : (k, i) ∈ zall) (ho : zobj k = none) (hra : zra k = 0) (hat : zarrT[zarr k]? = some .boolean) (hin : vp_in x (zLen k i)) (hd : decode M.2.1 pc = .ok (.baload, 1)) (kk : EvAt d M (pc + 1) lv (vI (zi h k i x.toNatClampNeg) :: st) h Q) : EvAt d M pc lv (vI x :: vQ (some (k, i)) :: st) h Q := by
  intro G p l e s m args below meth c H locs ls B hR hS hl
  obtain ⟨q0, e1, -⟩ := zpos B.2.2.2.2.2.2.2.2.1 hk
  have he := e1 h
  rw [zE_arr ho hra] at he
  exact va_zald B.1 B.2.1 B.2.2.2.2.2.2.2.1 hR q0 _ he (ztys_at G hat) hin hd (kk G p l e s m args below meth c H locs ls B hR hS hl)
theorem zo_iast {k i : Nat} {y x : Int32} (hk : (k, i) ∈ zall) (ho : zobj k = none) (hra : zra k = 0) (hat : zarrT[zarr k]? = some .int) (hin : vp_in y (zLen k i)) (hd : decode M.2.1 pc = .ok (.iastore, 1)) (kk : EvAt d M (pc + 1) lv st (zw h k i y.toNatClampNeg x) Q) : EvAt d M pc lv (vI x :: vI y :: vQ (some (k, i)) :: st) h Q := by
  intro G p l e s m args below meth c H locs ls B hR hS hl
  obtain ⟨q0, e1, e2⟩ := zpos B.2.2.2.2.2.2.2.2.1 hk
  have he := e1 h
  have hset := e2 h (zw h k i y.toNatClampNeg x) (zw_off h k i y.toNatClampNeg x)
  rw [zE_ast ho hra] at hset
  rw [zE_arr ho hra] at he
  refine va_iast B.1 B.2.1 B.2.2.2.2.2.2.2.1 hR (zD h B.2.2.2.2.2.2.2.2.1) hS q0 _ he (ztys_at G hat) hin hd (fun H1 locs1 hP1 hD1 hS1 => ?_)
  rw [hset] at hP1
  exact kk G p l e s m args below meth c H1 locs1 ls B hP1 hS1 hl
theorem zo_cast {k i : Nat} {y x : Int32} (hk : (k, i) ∈ zall) (ho : zobj k = none) (hra : zra k = 0) (hat : zarrT[zarr k]? = some .char) (hin : vp_in y (zLen k i)) (hd : decode M.2.1 pc = .ok (.castore, 1)) (kk : EvAt d M (pc + 1) lv st (zw h k i y.toNatClampNeg (vp_nar .char x)) Q) : EvAt d M pc lv (vI x :: vI y :: vQ (some (k, i)) :: st) h Q := by
  intro G p l e s m args below meth c H locs ls B hR hS hl
  obtain ⟨q0, e1, e2⟩ := zpos B.2.2.2.2.2.2.2.2.1 hk
  have he := e1 h
  have hset := e2 h (zw h k i y.toNatClampNeg (vp_nar .char x)) (zw_off h k i y.toNatClampNeg (vp_nar .char x))
  rw [zE_ast ho hra] at hset
  rw [zE_arr ho hra] at he
  refine va_cast B.1 B.2.1 B.2.2.2.2.2.2.2.1 hR (zD h B.2.2.2.2.2.2.2.2.1) hS q0 _ he (ztys_at G hat) hin hd (fun H1 locs1 hP1 hD1 hS1 => ?_)
  rw [hset] at hP1
  exact kk G p l e s m args below meth c H1 locs1 ls B hP1 hS1 hl
theorem zo_zast {k i : Nat} {y x : Int32} (hk : (k, i) ∈ zall) (ho : zobj k = none) (hra : zra k = 0) (hat : zarrT[zarr k]? = some .boolean) (hin : vp_in y (zLen k i)) (hd : decode M.2.1 pc = .ok (.bastore, 1)) (kk : EvAt d M (pc + 1) lv st (zw h k i y.toNatClampNeg (vp_nar .boolean x)) Q) : EvAt d M pc lv (vI x :: vI y :: vQ (some (k, i)) :: st) h Q := by
  intro G p l e s m args below meth c H locs ls B hR hS hl
  obtain ⟨q0, e1, e2⟩ := zpos B.2.2.2.2.2.2.2.2.1 hk
  have he := e1 h
  have hset := e2 h (zw h k i y.toNatClampNeg (vp_nar .boolean x)) (zw_off h k i y.toNatClampNeg (vp_nar .boolean x))
  rw [zE_ast ho hra] at hset
  rw [zE_arr ho hra] at he
  refine va_zast B.1 B.2.1 B.2.2.2.2.2.2.2.1 hR (zD h B.2.2.2.2.2.2.2.2.1) hS q0 _ he (ztys_at G hat) hin hd (fun H1 locs1 hP1 hD1 hS1 => ?_)
  rw [hset] at hP1
  exact kk G p l e s m args below meth c H1 locs1 ls B hP1 hS1 hl
theorem zo_alen {k i : Nat} {ty : FieldType} (hk : (k, i) ∈ zall) (ho : zobj k = none) (hat : zarrT[zarr k]? = some ty) (hd : decode M.2.1 pc = .ok (.arraylength, 1)) (kk : EvAt d M (pc + 1) lv (vI (nI (zLen k i)) :: st) h Q) : EvAt d M pc lv (vQ (some (k, i)) :: st) h Q := by
  intro G p l e s m args below meth c H locs ls B hR hS hl
  obtain ⟨q0, e1, -⟩ := zpos B.2.2.2.2.2.2.2.2.1 hk
  have he := e1 h
  unfold zE at he
  rw [ho] at he
  exact va_alen B.1 B.2.1 B.2.2.2.2.2.2.2.1 hR q0 _ he (ztys_at G hat) rfl hd (kk G p l e s m args below meth c H locs ls B hR hS hl)
theorem zo_aald1 {k i : Nat} {C : String} {x : Int32} (hk : (k, i) ∈ zall) (ho : zobj k = none) (hra : zra k = 1) (hat : zarrT[zarr k]? = some (.object C)) (hin : vp_in x (zLen k i)) (hd : decode M.2.1 pc = .ok (.aaload, 1)) (kk : EvAt d M (pc + 1) lv (vQ (some (zrf k i x.toNatClampNeg)) :: st) h Q) : EvAt d M pc lv (vI x :: vQ (some (k, i)) :: st) h Q := by
  intro G p l e s m args below meth c H locs ls B hR hS hl
  obtain ⟨q0, e1, -⟩ := zpos B.2.2.2.2.2.2.2.2.1 hk
  have he := e1 h
  rw [zE_arrQ ho hra] at he
  refine va_aldq B.1 B.2.1 B.2.2.2.2.2.2.2.1 hR q0 _ he (ztys_at G hat) hin hd ?_
  unfold zav
  rw [hra]
  exact kk G p l e s m args below meth c H locs ls B hR hS hl
theorem zo_aald2 {k i q : Nat} {C : String} {x : Int32} (hk : (k, i) ∈ zall) (ho : zobj k = none) (hra : zra k = 2) (hat : zarrT[zarr k]? = some (.object C)) (hin : vp_in x (zLen k i)) (hq : zr h k i x.toNatClampNeg = some q) (hd : decode M.2.1 pc = .ok (.aaload, 1)) (kk : EvAt d M (pc + 1) lv (vQ (some (ztk k 0, q)) :: st) h Q) : EvAt d M pc lv (vI x :: vQ (some (k, i)) :: st) h Q := by
  intro G p l e s m args below meth c H locs ls B hR hS hl
  obtain ⟨q0, e1, -⟩ := zpos B.2.2.2.2.2.2.2.2.1 hk
  have he := e1 h
  rw [zE_arrQ ho hra] at he
  refine va_aldq B.1 B.2.1 B.2.2.2.2.2.2.2.1 hR q0 _ he (ztys_at G hat) hin hd ?_
  unfold zav
  rw [hra]
  unfold zr at hq
  rw [hq]
  exact kk G p l e s m args below meth c H locs ls B hR hS hl
theorem zo_aast {k i q ci N : Nat} {r : vw_C} {y : Int32} (hk : (k, i) ∈ zall) (hkq : (ztk k 0, q) ∈ zall) (ho : zobj k = none) (hra : zra k = 2) (hoq : zobj (ztk k 0) = some (ci, N)) (hc : vwCl[ci]? = some r) (hat : zarrT[zarr k]? = some (.object r.1)) (hin : vp_in y (zLen k i)) (hd : decode M.2.1 pc = .ok (.aastore, 1)) (kk : EvAt d M (pc + 1) lv st (zwr h k i y.toNatClampNeg (some q)) Q) : EvAt d M pc lv (vQ (some (ztk k 0, q)) :: vI y :: vQ (some (k, i)) :: st) h Q := by
  intro G p l e s m args below meth c H locs ls B hR hS hl
  obtain ⟨q0, e1, e2⟩ := zpos B.2.2.2.2.2.2.2.2.1 hk
  obtain ⟨q1, f1, -⟩ := zpos B.2.2.2.2.2.2.2.2.1 hkq
  have he := e1 h
  have hf := f1 h
  have hset := e2 h (zwr h k i y.toNatClampNeg (some q)) (zwr_off h k i y.toNatClampNeg (some q))
  have hE : zE G (zwr h k i y.toNatClampNeg (some q)) k i = .inl (G.2.2.1 (zarr k), zLen k i, .inr (.inr (.inr (.inr (va_up (zav G h k i) y.toNatClampNeg (some (G.1 (ztk k 0) q))))))) := by
    rw [zE_arrQ ho hra]
    refine congrArg Sum.inl (congrArg (Prod.mk _) (congrArg (Prod.mk _) (congrArg (fun z => Sum.inr (Sum.inr (Sum.inr (Sum.inr z)))) ?_)))
    funext a
    unfold zav va_up
    rw [hra, zwr_2]
    by_cases e : a = y.toNatClampNeg
    · rw [if_pos e, if_pos e]; rfl
    · rw [if_neg e, if_neg e]
  rw [hE] at hset
  rw [zE_arrQ ho hra] at he
  unfold zE at hf
  rw [hoq] at hf
  refine va_astq B.1 B.2.1 B.2.2.2.2.2.2.2.1 hR (zD h B.2.2.2.2.2.2.2.2.1) hS q0 _ q1 ci he (ztys_at G hat) hf hc hin hd (fun H1 locs1 hP1 hD1 hS1 => ?_)
  rw [hset] at hP1
  exact kk G p l e s m args below meth c H1 locs1 ls B hP1 hS1 hl
theorem zS_call {G : ZG} {H0 H H1 : Heap} {locs L : List Loc} {st0 t : State} (hS : va_S (zA G) H0 H locs) (h0 : st0.heap = H) (e1 : H1 = t.heap) (hF : va_F (zA G) st0 t) (hL : ∀ q ∈ L, zA G q.base) : va_S (zA G) H0 H1 (locs ++ L) := by
  obtain ⟨f1, f2⟩ := hF
  rw [h0] at f1 f2
  refine ⟨by rw [e1]; exact Nat.le_trans hS.1 f1, fun q h1 h2 => ?_, fun q hq => ?_⟩
  · rw [e1, f2 q (Nat.lt_of_lt_of_le h1 hS.1) h2]
    exact hS.2.1 q h1 h2
  · rcases List.mem_append.mp hq with z | z
    · exact hS.2.2 q z
    · exact hL q z
def zCv (N : ZM) (C : String) (n : Nat) : Prop := Cond.code N.1 N.2.1 N.2.2.1 N.2.2.2 ∈ WS ∧ Cond.instanceMethod N.1 ∈ WS ∧ Cond.selects C N.1 N.1 ∈ WS ∧ Cond.initialized C ∈ WS ∧ (N.1.cls = C ∧ N.1.cls ≠ "java/lang/invoke/MethodHandle" ∧ N.1.cls ≠ "java/lang/invoke/VarHandle" ∧ (parseMethodDescriptor N.1.desc).map (fun d => d.parameters.length) = some n) ∧ N.2.2.1 ≤ 41
def zCs (N : ZM) (n : Nat) : Prop := Cond.code N.1 N.2.1 N.2.2.1 N.2.2.2 ∈ WS ∧ Cond.static N.1 ∈ WS ∧ Cond.initialized N.1.cls ∈ WS ∧ (N.1.cls ≠ "java/lang/invoke/MethodHandle" ∧ N.1.cls ≠ "java/lang/invoke/VarHandle" ∧ (parseMethodDescriptor N.1.desc).map (fun d => d.parameters.length) = some n) ∧ N.2.2.1 ≤ 41
theorem zgoodIn (M N : ZM) (hN : Cond.code N.1 N.2.1 N.2.2.1 N.2.2.2 ∈ WS) : GoodIn (zwsM M) (zwsM N) := by
  intro w hw
  rcases List.mem_cons.mp hw with rfl | hw
  · exact ⟨List.mem_cons_of_mem _ hN, Or.inl rfl⟩
  · exact ⟨List.mem_cons_of_mem _ hw, zgood w hw⟩
theorem zgoodIn2 {M N : ZM} {a : List Cond} (hN : Cond.code N.1 N.2.1 N.2.2.1 N.2.2.2 ∈ WS) (ha : ∀ w ∈ a, w ∈ WS) : GoodIn (zwsM M) (a ++ zwsM N) := by
  intro w hw
  rcases List.mem_append.mp hw with hw | hw
  · exact ⟨List.mem_cons_of_mem _ (ha w hw), zgood w (ha w hw)⟩
  · exact zgoodIn M N hN w hw
theorem zSum (G : ZG) : ∀ st : List ZV, ((st.map (zv G)).map fun v => v.category) = st.map zcat := by
  intro st
  rw [List.map_map]
  exact List.map_congr_left (fun v _ => zcat_zv G v)
theorem zo_callV {N : ZM} {Q0 : Option ZV → ZH → Prop} {as stk : List ZV} {k i idx ci Nf n : Nat} {C : String} {T : u_T} (hk : (k, i) ∈ zall) (ho : zobj k = some (ci, Nf)) (hc : vwCl[ci]? = some (C, T, Nf)) (hv : zCv N C n) (hlk : Cond.methodLink M.1.cls idx N.1 ∈ WS)
    (hn : as.length = n) (hst : stk = as.reverse ++ vQ (some (k, i)) :: st) (hcat : (st.map zcat).sum ≤ 8)
    (hd : decode M.2.1 pc = .ok (.invokevirtual idx, 3)) (kk : EvCall d N (vQ (some (k, i)) :: as) h Q0) (hq0 : ∀ r h', Q0 r h' → EvAt (d + 1) M (pc + 3) lv (r.toList ++ st) h' Q) : EvAt (d + 1) M pc lv stk h Q := by
  intro G p l e s m args below meth c H locs ls B hR hS hl
  obtain ⟨q0, e1, -⟩ := zpos B.2.2.2.2.2.2.2.2.1 hk
  have he := e1 h
  unfold zE at he
  rw [ho] at he
  obtain ⟨hN, hw2, hw3, hw4, hds, hnl⟩ := hv
  have hw : ∀ w ∈ ([.methodLink M.1.cls idx N.1, .instanceMethod N.1, .selects C N.1 N.1, .initialized C] : List Cond), w ∈ WS := by
    intro w hw
    simp only [List.mem_cons, List.not_mem_nil, or_false] at hw
    rcases hw with rfl | rfl | rfl | rfl
    · exact hlk
    · exact hw2
    · exact hw3
    · exact hw4
  have cw : CallW (rmD (d + 1)) s args M.1.cls C idx N.1 N.2.1 N.2.2.1 N.2.2.2 (zwsM N) (rmD d) 0 0 n := cwV n (Ts := zwsM M) B.2.2.2.2.1 (zgoodIn2 hN hw) rfl rfl rfl hds ⟨Nat.le_refl _, by show 8 + (N.2.2.1 + 11) + 60 * d ≤ 60 * (d + 1); omega⟩
  have hrun := va_runV (p := p) (e := e) (below := below) (meth := meth) (locs := locs) (cells := 0) (slots := 0) (b := G.1 k i) (As := as.map (zv G)) (rest := st.map (zv G)) (g := F0 m pc ls (stk.map (zv G))) ⟨B.1, B.2.1, B.2.2.2.1, B.2.2.2.2.2.1, B.2.2.2.2.1⟩ (kk l G B.2.2.2.2.2.2.2.2.1) cw ⟨zPc_blind G _ h, va_recv B.2.2.2.2.2.2.2.1 hR hc he, fun U hU hW => zPc_of (as := vQ (some (k, i)) :: as) hU hW hR B.2.2.2.2.2.2.2.1 B.2.2.2.2.2.2.2.2.2 hS⟩ rfl (by simpa using hn) hl.1 (by rw [hst]; simp; rfl) (lv_room (by rw [zSum]; exact hcat)) hd ⟨Nat.le_refl _, Nat.le_refl _⟩
  intro T hT X
  obtain ⟨v, st₀, t, T', L, h0, X', hL, e1, e2, ⟨r, h', ho, hQ, hrep, hF⟩, stp⟩ := hrun T hT X
  cases ho
  obtain ⟨t2, a1, b1⟩ := hq0 r h' hQ G p l e s m args below meth c T'.heap (locs ++ L) ls B (by rw [e1]; exact hrep) (zS_call hS h0 e1 hF hL) hl T' rfl X'
  refine ⟨t2, stp t2 ?_, b1⟩
  have hfr : (F0 m (pc + 3) ls ((r.toList ++ st).map (zv G))) = { F0 m pc ls (stk.map (zv G)) with pc := (F0 m pc ls (stk.map (zv G))).pc + 3, stack := (r.map (zv G)).toList ++ st.map (zv G) } := by
    cases r <;> simp
  rw [← hfr]
  exact a1
theorem zo_callS {N : ZM} {Q0 : Option ZV → ZH → Prop} {as stk : List ZV} {idx n : Nat} (hv : zCs N n) (hlk : Cond.methodLink M.1.cls idx N.1 ∈ WS)
    (hn : as.length = n) (hst : stk = as.reverse ++ st) (hcat : (st.map zcat).sum ≤ 8)
    (hd : decode M.2.1 pc = .ok (.invokestatic idx, 3)) (kk : EvCall d N as h Q0) (hq0 : ∀ r h', Q0 r h' → EvAt (d + 1) M (pc + 3) lv (r.toList ++ st) h' Q) : EvAt (d + 1) M pc lv stk h Q := by
  intro G p l e s m args below meth c H locs ls B hR hS hl
  obtain ⟨hN, hw2, hw3, hds, hnl⟩ := hv
  have hmem : ∀ w ∈ zwsM N, ∀ (a' : Array Value) (U : State), s.WarmedH U.vm → w.before a' U = true := fun w hw' a' U hW => by
    obtain ⟨g1, g2⟩ := zgoodIn M N hN w hw'
    exact word_at hW g2 (B.2.2.2.2.1 w g1)
  have cw : CallB (rmD (d + 1)) s args M.1.cls idx N.1 N.2.1 N.2.2.1 N.2.2.2 (zwsM N) (rmD d) 0 0 n ∧ (Cond.static N.1).before args s = true := ⟨⟨rfl, rfl, Nat.le_refl _, by show 8 + (N.2.2.1 + 11) + 60 * d ≤ 60 * (d + 1); omega, hmem, List.mem_cons_self, zX_hts B hN, zX_hts B hw3, ⟨hds.1, hds.2.1⟩, fun sig hs => by
      have h3 := hds.2.2
      rw [hs] at h3
      exact (Option.some.inj h3).symm, zX_hts B hlk⟩, zX_hts B hw2⟩
  have hrun := va_runS (p := p) (e := e) (below := below) (meth := meth) (locs := locs) (cells := 0) (slots := 0) (As := as.map (zv G)) (rest := st.map (zv G)) (g := F0 m pc ls (stk.map (zv G))) ⟨B.1, B.2.1, B.2.2.2.1, B.2.2.2.2.2.1, B.2.2.2.2.1⟩ (kk l G B.2.2.2.2.2.2.2.2.1) cw ⟨zPc_blind G _ h, fun U hU hW => zPc_of (as := as) hU hW hR B.2.2.2.2.2.2.2.1 B.2.2.2.2.2.2.2.2.2 hS⟩ rfl (by simpa using hn) hl.1 (by rw [hst]; simp) (lv_room (by rw [zSum]; exact hcat)) hd ⟨Nat.le_refl _, Nat.le_refl _⟩
  intro T hT X
  obtain ⟨v, st₀, t, T', L, h0, X', hL, e1, e2, ⟨r, h', ho, hQ, hrep, hF⟩, stp⟩ := hrun T hT X
  cases ho
  obtain ⟨t2, a1, b1⟩ := hq0 r h' hQ G p l e s m args below meth c T'.heap (locs ++ L) ls B (by rw [e1]; exact hrep) (zS_call hS h0 e1 hF hL) hl T' rfl X'
  refine ⟨t2, stp t2 ?_, b1⟩
  have hfr : (F0 m (pc + 3) ls ((r.toList ++ st).map (zv G))) = { F0 m pc ls (stk.map (zv G)) with pc := (F0 m pc ls (stk.map (zv G))).pc + 3, stack := (r.map (zv G)).toList ++ st.map (zv G) } := by
    cases r <;> simp
  rw [← hfr]
  exact a1
theorem zo_callVI {N : ZM} {Q0 : Int32 → ZH → Prop} {as stk : List ZV} {k i idx ci Nf n : Nat} {C : String} {T : u_T} (hk : (k, i) ∈ zall) (ho : zobj k = some (ci, Nf)) (hc : vwCl[ci]? = some (C, T, Nf)) (hv : zCv N C n) (hlk : Cond.methodLink M.1.cls idx N.1 ∈ WS) (hn : as.length = n) (hst : stk = as.reverse ++ vQ (some (k, i)) :: st) (hcat : (st.map zcat).sum ≤ 8) (hd : decode M.2.1 pc = .ok (.invokevirtual idx, 3)) (kk : EvI d N (vQ (some (k, i)) :: as) h Q0) (hq0 : ∀ x h', Q0 x h' → EvAt (d + 1) M (pc + 3) lv (vI x :: st) h' Q) : EvAt (d + 1) M pc lv stk h Q := zo_callV hk ho hc hv hlk hn hst hcat hd kk (fun r h' ⟨x, e, hq⟩ => by subst e; exact hq0 x h' hq)
theorem zo_callVV {N : ZM} {Q0 : ZH → Prop} {as stk : List ZV} {k i idx ci Nf n : Nat} {C : String} {T : u_T} (hk : (k, i) ∈ zall) (ho : zobj k = some (ci, Nf)) (hc : vwCl[ci]? = some (C, T, Nf)) (hv : zCv N C n) (hlk : Cond.methodLink M.1.cls idx N.1 ∈ WS) (hn : as.length = n) (hst : stk = as.reverse ++ vQ (some (k, i)) :: st) (hcat : (st.map zcat).sum ≤ 8) (hd : decode M.2.1 pc = .ok (.invokevirtual idx, 3)) (kk : EvV d N (vQ (some (k, i)) :: as) h Q0) (hq0 : ∀ h', Q0 h' → EvAt (d + 1) M (pc + 3) lv st h' Q) : EvAt (d + 1) M pc lv stk h Q := zo_callV hk ho hc hv hlk hn hst hcat hd kk (fun r h' ⟨e, hq⟩ => by subst e; exact hq0 h' hq)
theorem zo_callVR {N : ZM} {kq : Nat} {Q0 : Option Nat → ZH → Prop} {as stk : List ZV} {k i idx ci Nf n : Nat} {C : String} {T : u_T} (hk : (k, i) ∈ zall) (ho : zobj k = some (ci, Nf)) (hc : vwCl[ci]? = some (C, T, Nf)) (hv : zCv N C n) (hlk : Cond.methodLink M.1.cls idx N.1 ∈ WS) (hn : as.length = n) (hst : stk = as.reverse ++ vQ (some (k, i)) :: st) (hcat : (st.map zcat).sum ≤ 8) (hd : decode M.2.1 pc = .ok (.invokevirtual idx, 3)) (kk : EvR kq d N (vQ (some (k, i)) :: as) h Q0) (hq0 : ∀ o h', (∀ i, o = some i → i < zcnt kq) → Q0 o h' → EvAt (d + 1) M (pc + 3) lv (vQ (o.map (Prod.mk kq)) :: st) h' Q) : EvAt (d + 1) M pc lv stk h Q := zo_callV hk ho hc hv hlk hn hst hcat hd kk (fun r h' ⟨o, e, hv, hq⟩ => by subst e; exact hq0 o h' hv hq)
theorem zo_callSI {N : ZM} {Q0 : Int32 → ZH → Prop} {as stk : List ZV} {idx n : Nat} (hv : zCs N n) (hlk : Cond.methodLink M.1.cls idx N.1 ∈ WS) (hn : as.length = n) (hst : stk = as.reverse ++ st) (hcat : (st.map zcat).sum ≤ 8) (hd : decode M.2.1 pc = .ok (.invokestatic idx, 3)) (kk : EvI d N as h Q0) (hq0 : ∀ x h', Q0 x h' → EvAt (d + 1) M (pc + 3) lv (vI x :: st) h' Q) : EvAt (d + 1) M pc lv stk h Q := zo_callS hv hlk hn hst hcat hd kk (fun r h' ⟨x, e, hq⟩ => by subst e; exact hq0 x h' hq)
theorem zo_callSV {N : ZM} {Q0 : ZH → Prop} {as stk : List ZV} {idx n : Nat} (hv : zCs N n) (hlk : Cond.methodLink M.1.cls idx N.1 ∈ WS) (hn : as.length = n) (hst : stk = as.reverse ++ st) (hcat : (st.map zcat).sum ≤ 8) (hd : decode M.2.1 pc = .ok (.invokestatic idx, 3)) (kk : EvV d N as h Q0) (hq0 : ∀ h', Q0 h' → EvAt (d + 1) M (pc + 3) lv st h' Q) : EvAt (d + 1) M pc lv stk h Q := zo_callS hv hlk hn hst hcat hd kk (fun r h' ⟨e, hq⟩ => by subst e; exact hq0 h' hq)
theorem zo_callSR {N : ZM} {kq : Nat} {Q0 : Option Nat → ZH → Prop} {as stk : List ZV} {idx n : Nat} (hv : zCs N n) (hlk : Cond.methodLink M.1.cls idx N.1 ∈ WS) (hn : as.length = n) (hst : stk = as.reverse ++ st) (hcat : (st.map zcat).sum ≤ 8) (hd : decode M.2.1 pc = .ok (.invokestatic idx, 3)) (kk : EvR kq d N as h Q0) (hq0 : ∀ o h', (∀ i, o = some i → i < zcnt kq) → Q0 o h' → EvAt (d + 1) M (pc + 3) lv (vQ (o.map (Prod.mk kq)) :: st) h' Q) : EvAt (d + 1) M pc lv stk h Q := zo_callS hv hlk hn hst hcat hd kk (fun r h' ⟨o, e, hv, hq⟩ => by subst e; exact hq0 o h' hv hq)
theorem zo_iretI {x : Int32} {Q : Int32 → ZH → Prop} (hr : M.2.2.2 = some .int) (hd : decode M.2.1 pc = .ok (.ireturn, 1)) (hq : Q x h) : EvAt d M pc lv (vI x :: []) h (zQI Q) := zo_iret hr hd ⟨x, rfl, hq⟩
theorem zo_zretI {x : Int32} {ty : FieldType} {Q : Int32 → ZH → Prop} (hr : M.2.2.2 = some ty) (hn : narrow ty (.int x) = .int x) (hd : decode M.2.1 pc = .ok (.ireturn, 1)) (hq : Q x h) : EvAt d M pc lv (vI x :: []) h (zQI Q) := zo_zret hr hn hd ⟨x, rfl, hq⟩
theorem zo_vretV {Q : ZH → Prop} (hr : M.2.2.2 = none) (hd : decode M.2.1 pc = .ok (.return_, 1)) (hq : Q h) : EvAt d M pc lv [] h (zQV Q) := zo_vret hr hd ⟨rfl, hq⟩
theorem zo_aretO {k : Nat} {o : Option Nat} {Q : Option Nat → ZH → Prop} {C : String} (hr : M.2.2.2 = some (.object C)) (hv : ∀ i, o = some i → i < zcnt k) (hd : decode M.2.1 pc = .ok (.areturn, 1)) (hq : Q o h) : EvAt d M pc lv (vQ (o.map (Prod.mk k)) :: []) h (zQR k Q) := zo_aret hr (Or.inl ⟨_, rfl⟩) hd ⟨o, rfl, hv, hq⟩
theorem zo_ifnullK {k : Nat} {o : Option Nat} {off : Int} {tgt : Nat} (hd : decode M.2.1 pc = .ok (.ifnull off, 3)) (ht : (pc : Int) + off = (tgt : Int)) (kt : o = none → EvAt d M tgt lv st h Q) (kf : ∀ i, o = some i → EvAt d M (pc + 3) lv st h Q) : EvAt d M pc lv (vQ (o.map (Prod.mk k)) :: st) h Q := zo_ifnull hd ht (fun e => kt (by cases o with | none => rfl | some i => cases e)) (fun q e => by cases o with | none => cases e | some i => exact kf i rfl)
theorem zo_ifnonnullK {k : Nat} {o : Option Nat} {off : Int} {tgt : Nat} (hd : decode M.2.1 pc = .ok (.ifnonnull off, 3)) (ht : (pc : Int) + off = (tgt : Int)) (kt : ∀ i, o = some i → EvAt d M tgt lv st h Q) (kf : o = none → EvAt d M (pc + 3) lv st h Q) : EvAt d M pc lv (vQ (o.map (Prod.mk k)) :: st) h Q := zo_ifnonnull hd ht (fun q e => by cases o with | none => cases e | some i => exact kt i rfl) (fun e => kf (by cases o with | none => rfl | some i => cases e))
theorem zo_acmpK_eq {k a b : Nat} {off : Int} {tgt : Nat} (hk : k < zkinds) (ha : a < zcnt k) (hb : b < zcnt k) (hd : decode M.2.1 pc = .ok (.if_acmp .eq off, 3)) (ht : (pc : Int) + off = (tgt : Int)) (kt : a = b → EvAt d M tgt lv st h Q) (kf : ¬ a = b → EvAt d M (pc + 3) lv st h Q) : EvAt d M pc lv (vQ (some (k, b)) :: vQ (some (k, a)) :: st) h Q := zo_acmp_eq (fun q e => by cases e; exact zin hk ha) (fun q e => by cases e; exact zin hk hb) hd ht (fun e => kt (by cases e; rfl)) (fun e => kf (fun z => e (by rw [z])))
theorem zo_acmpK_ne {k a b : Nat} {off : Int} {tgt : Nat} (hk : k < zkinds) (ha : a < zcnt k) (hb : b < zcnt k) (hd : decode M.2.1 pc = .ok (.if_acmp .ne off, 3)) (ht : (pc : Int) + off = (tgt : Int)) (kt : ¬ a = b → EvAt d M tgt lv st h Q) (kf : a = b → EvAt d M (pc + 3) lv st h Q) : EvAt d M pc lv (vQ (some (k, b)) :: vQ (some (k, a)) :: st) h Q := zo_acmp_ne (fun q e => by cases e; exact zin hk ha) (fun q e => by cases e; exact zin hk hb) hd ht (fun e => kt (fun z => e (by rw [z]))) (fun e => kf (by cases e; rfl))
end ZOps
end

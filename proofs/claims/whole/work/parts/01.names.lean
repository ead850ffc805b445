-- ===== PART A: goes FIRST, ahead of the names: the tables' words, and 'selects' of the private methods out of them =====
/-- a private method of a class that the tables say can be made, by its rows of tables_1 -/
def lw_okq (q : MethodName × Nat) : Prop := (q.1.cls ≠ "java/lang/invoke/MethodHandle" ∧ q.1.cls ≠ "java/lang/invoke/VarHandle") ∧ Cond.instantiable q.1.cls q.2 ∈ tables_1 ∧ Cond.privateMethod q.1 ∈ tables_1 ∧ Cond.instanceMethod q.1 ∈ tables_1
theorem lw_p0 : lw_okq (⟨"MeshedPages$Reader", "scan", "()V"⟩, 11) := ⟨⟨by decide +kernel, by decide +kernel⟩, List.mem_of_getElem? (i := 27) (by decide +kernel), List.mem_of_getElem? (i := 327) (by decide +kernel), List.mem_of_getElem? (i := 328) (by decide +kernel)⟩
theorem lw_p1 : lw_okq (⟨"MeshedPages$Reader", "scanToken", "(I)I"⟩, 11) := ⟨⟨by decide +kernel, by decide +kernel⟩, List.mem_of_getElem? (i := 27) (by decide +kernel), List.mem_of_getElem? (i := 331) (by decide +kernel), List.mem_of_getElem? (i := 332) (by decide +kernel)⟩
theorem lw_p2 : lw_okq (⟨"MeshedPages$Reader", "endOfWord", "(I)I"⟩, 11) := ⟨⟨by decide +kernel, by decide +kernel⟩, List.mem_of_getElem? (i := 27) (by decide +kernel), List.mem_of_getElem? (i := 338) (by decide +kernel), List.mem_of_getElem? (i := 339) (by decide +kernel)⟩
theorem lw_p3 : lw_okq (⟨"MeshedPages$Reader", "wordKind", "(II)I"⟩, 11) := ⟨⟨by decide +kernel, by decide +kernel⟩, List.mem_of_getElem? (i := 27) (by decide +kernel), List.mem_of_getElem? (i := 342) (by decide +kernel), List.mem_of_getElem? (i := 343) (by decide +kernel)⟩
theorem lw_p4 : lw_okq (⟨"MeshedPages$Reader", "spells", "(III)Z"⟩, 11) := ⟨⟨by decide +kernel, by decide +kernel⟩, List.mem_of_getElem? (i := 27) (by decide +kernel), List.mem_of_getElem? (i := 395) (by decide +kernel), List.mem_of_getElem? (i := 396) (by decide +kernel)⟩
theorem lw_p5 : lw_okq (⟨"MeshedPages$Reader", "addToken", "(III)V"⟩, 11) := ⟨⟨by decide +kernel, by decide +kernel⟩, List.mem_of_getElem? (i := 27) (by decide +kernel), List.mem_of_getElem? (i := 399) (by decide +kernel), List.mem_of_getElem? (i := 400) (by decide +kernel)⟩
theorem lw_p6 : lw_okq (⟨"MeshedPages$Reader", "scanNumber", "(I)I"⟩, 11) := ⟨⟨by decide +kernel, by decide +kernel⟩, List.mem_of_getElem? (i := 27) (by decide +kernel), List.mem_of_getElem? (i := 406) (by decide +kernel), List.mem_of_getElem? (i := 407) (by decide +kernel)⟩
theorem lw_p7 : lw_okq (⟨"MeshedPages$Reader", "kind", "()I"⟩, 11) := ⟨⟨by decide +kernel, by decide +kernel⟩, List.mem_of_getElem? (i := 27) (by decide +kernel), List.mem_of_getElem? (i := 419) (by decide +kernel), List.mem_of_getElem? (i := 420) (by decide +kernel)⟩
theorem lw_p8 : lw_okq (⟨"MeshedPages$Reader", "readClause", "()V"⟩, 11) := ⟨⟨by decide +kernel, by decide +kernel⟩, List.mem_of_getElem? (i := 27) (by decide +kernel), List.mem_of_getElem? (i := 423) (by decide +kernel), List.mem_of_getElem? (i := 424) (by decide +kernel)⟩
theorem lw_p9 : lw_okq (⟨"MeshedPages$Reader", "fail", "(I)V"⟩, 11) := ⟨⟨by decide +kernel, by decide +kernel⟩, List.mem_of_getElem? (i := 27) (by decide +kernel), List.mem_of_getElem? (i := 427) (by decide +kernel), List.mem_of_getElem? (i := 428) (by decide +kernel)⟩
theorem lw_p10 : lw_okq (⟨"MeshedPages$Reader", "readNumber", "(II)I"⟩, 11) := ⟨⟨by decide +kernel, by decide +kernel⟩, List.mem_of_getElem? (i := 27) (by decide +kernel), List.mem_of_getElem? (i := 438) (by decide +kernel), List.mem_of_getElem? (i := 439) (by decide +kernel)⟩
theorem lw_p11 : lw_okq (⟨"MeshedPages$Reader", "take", "(I)V"⟩, 11) := ⟨⟨by decide +kernel, by decide +kernel⟩, List.mem_of_getElem? (i := 27) (by decide +kernel), List.mem_of_getElem? (i := 442) (by decide +kernel), List.mem_of_getElem? (i := 443) (by decide +kernel)⟩
theorem lw_p12 : lw_okq (⟨"MeshedPages$Reader", "readLaw", "(I)V"⟩, 11) := ⟨⟨by decide +kernel, by decide +kernel⟩, List.mem_of_getElem? (i := 27) (by decide +kernel), List.mem_of_getElem? (i := 446) (by decide +kernel), List.mem_of_getElem? (i := 447) (by decide +kernel)⟩
theorem lw_p13 : lw_okq (⟨"MeshedPages$Reader", "readSum", "(I)V"⟩, 11) := ⟨⟨by decide +kernel, by decide +kernel⟩, List.mem_of_getElem? (i := 27) (by decide +kernel), List.mem_of_getElem? (i := 454) (by decide +kernel), List.mem_of_getElem? (i := 455) (by decide +kernel)⟩
theorem lw_p14 : lw_okq (⟨"MeshedPages$Reader", "readProduct", "(I)V"⟩, 11) := ⟨⟨by decide +kernel, by decide +kernel⟩, List.mem_of_getElem? (i := 27) (by decide +kernel), List.mem_of_getElem? (i := 458) (by decide +kernel), List.mem_of_getElem? (i := 459) (by decide +kernel)⟩
theorem lw_p15 : lw_okq (⟨"MeshedPages$Reader", "readOne", "(I)V"⟩, 11) := ⟨⟨by decide +kernel, by decide +kernel⟩, List.mem_of_getElem? (i := 27) (by decide +kernel), List.mem_of_getElem? (i := 462) (by decide +kernel), List.mem_of_getElem? (i := 463) (by decide +kernel)⟩
def lw_privs_1 : List (MethodName × Nat) := [(⟨"MeshedPages$Reader", "scan", "()V"⟩, 11), (⟨"MeshedPages$Reader", "scanToken", "(I)I"⟩, 11), (⟨"MeshedPages$Reader", "endOfWord", "(I)I"⟩, 11), (⟨"MeshedPages$Reader", "wordKind", "(II)I"⟩, 11), (⟨"MeshedPages$Reader", "spells", "(III)Z"⟩, 11), (⟨"MeshedPages$Reader", "addToken", "(III)V"⟩, 11), (⟨"MeshedPages$Reader", "scanNumber", "(I)I"⟩, 11), (⟨"MeshedPages$Reader", "kind", "()I"⟩, 11), (⟨"MeshedPages$Reader", "readClause", "()V"⟩, 11), (⟨"MeshedPages$Reader", "fail", "(I)V"⟩, 11), (⟨"MeshedPages$Reader", "readNumber", "(II)I"⟩, 11), (⟨"MeshedPages$Reader", "take", "(I)V"⟩, 11), (⟨"MeshedPages$Reader", "readLaw", "(I)V"⟩, 11), (⟨"MeshedPages$Reader", "readSum", "(I)V"⟩, 11), (⟨"MeshedPages$Reader", "readProduct", "(I)V"⟩, 11), (⟨"MeshedPages$Reader", "readOne", "(I)V"⟩, 11)]
theorem lw_r1 : ∀ q ∈ lw_privs_1, lw_okq q := List.forall_mem_cons.mpr ⟨lw_p0, List.forall_mem_cons.mpr ⟨lw_p1, List.forall_mem_cons.mpr ⟨lw_p2, List.forall_mem_cons.mpr ⟨lw_p3, List.forall_mem_cons.mpr ⟨lw_p4, List.forall_mem_cons.mpr ⟨lw_p5, List.forall_mem_cons.mpr ⟨lw_p6, List.forall_mem_cons.mpr ⟨lw_p7, List.forall_mem_cons.mpr ⟨lw_p8, List.forall_mem_cons.mpr ⟨lw_p9, List.forall_mem_cons.mpr ⟨lw_p10, List.forall_mem_cons.mpr ⟨lw_p11, List.forall_mem_cons.mpr ⟨lw_p12, List.forall_mem_cons.mpr ⟨lw_p13, List.forall_mem_cons.mpr ⟨lw_p14, List.forall_mem_cons.mpr ⟨lw_p15, fun _ h => absurd h List.not_mem_nil⟩⟩⟩⟩⟩⟩⟩⟩⟩⟩⟩⟩⟩⟩⟩⟩
theorem lw_p16 : lw_okq (⟨"MeshedPages$Reader", "opens", "(I)Z"⟩, 11) := ⟨⟨by decide +kernel, by decide +kernel⟩, List.mem_of_getElem? (i := 27) (by decide +kernel), List.mem_of_getElem? (i := 470) (by decide +kernel), List.mem_of_getElem? (i := 471) (by decide +kernel)⟩
theorem lw_p17 : lw_okq (⟨"MeshedPages$Reader", "readChoice", "(I)V"⟩, 11) := ⟨⟨by decide +kernel, by decide +kernel⟩, List.mem_of_getElem? (i := 27) (by decide +kernel), List.mem_of_getElem? (i := 474) (by decide +kernel), List.mem_of_getElem? (i := 475) (by decide +kernel)⟩
theorem lw_p18 : lw_okq (⟨"MeshedPages$Reader", "readEither", "(I)V"⟩, 11) := ⟨⟨by decide +kernel, by decide +kernel⟩, List.mem_of_getElem? (i := 27) (by decide +kernel), List.mem_of_getElem? (i := 478) (by decide +kernel), List.mem_of_getElem? (i := 479) (by decide +kernel)⟩
theorem lw_p19 : lw_okq (⟨"MeshedPages$Reader", "readBoth", "(I)V"⟩, 11) := ⟨⟨by decide +kernel, by decide +kernel⟩, List.mem_of_getElem? (i := 27) (by decide +kernel), List.mem_of_getElem? (i := 482) (by decide +kernel), List.mem_of_getElem? (i := 483) (by decide +kernel)⟩
theorem lw_p20 : lw_okq (⟨"MeshedPages$Reader", "readAsk", "(I)V"⟩, 11) := ⟨⟨by decide +kernel, by decide +kernel⟩, List.mem_of_getElem? (i := 27) (by decide +kernel), List.mem_of_getElem? (i := 486) (by decide +kernel), List.mem_of_getElem? (i := 487) (by decide +kernel)⟩
theorem lw_p21 : lw_okq (⟨"MeshedPages$Reader", "readName", "(I)V"⟩, 11) := ⟨⟨by decide +kernel, by decide +kernel⟩, List.mem_of_getElem? (i := 27) (by decide +kernel), List.mem_of_getElem? (i := 494) (by decide +kernel), List.mem_of_getElem? (i := 495) (by decide +kernel)⟩
theorem lw_p22 : lw_okq (⟨"MeshedPages", "isText", "(I)Z"⟩, 8) := ⟨⟨by decide +kernel, by decide +kernel⟩, List.mem_of_getElem? (i := 19) (by decide +kernel), List.mem_of_getElem? (i := 515) (by decide +kernel), List.mem_of_getElem? (i := 516) (by decide +kernel)⟩
theorem lw_p23 : lw_okq (⟨"MeshedPages$Pages", "lowestGivingPage", "()I"⟩, 13) := ⟨⟨by decide +kernel, by decide +kernel⟩, List.mem_of_getElem? (i := 125) (by decide +kernel), List.mem_of_getElem? (i := 530) (by decide +kernel), List.mem_of_getElem? (i := 531) (by decide +kernel)⟩
theorem lw_p24 : lw_okq (⟨"MeshedPages$Pages", "lowestNewPage", "()I"⟩, 13) := ⟨⟨by decide +kernel, by decide +kernel⟩, List.mem_of_getElem? (i := 125) (by decide +kernel), List.mem_of_getElem? (i := 550) (by decide +kernel), List.mem_of_getElem? (i := 551) (by decide +kernel)⟩
theorem lw_p25 : lw_okq (⟨"MeshedPages$Steps", "stepAt", "(I)LMeshedPages$Pages;"⟩, 3) := ⟨⟨by decide +kernel, by decide +kernel⟩, List.mem_of_getElem? (i := 186) (by decide +kernel), List.mem_of_getElem? (i := 558) (by decide +kernel), List.mem_of_getElem? (i := 559) (by decide +kernel)⟩
theorem lw_p26 : lw_okq (⟨"MeshedPages$Pages", "openPage", "()I"⟩, 13) := ⟨⟨by decide +kernel, by decide +kernel⟩, List.mem_of_getElem? (i := 125) (by decide +kernel), List.mem_of_getElem? (i := 573) (by decide +kernel), List.mem_of_getElem? (i := 574) (by decide +kernel)⟩
theorem lw_p27 : lw_okq (⟨"MeshedPages$Pages", "lowestFreeFrame", "()I"⟩, 13) := ⟨⟨by decide +kernel, by decide +kernel⟩, List.mem_of_getElem? (i := 125) (by decide +kernel), List.mem_of_getElem? (i := 577) (by decide +kernel), List.mem_of_getElem? (i := 578) (by decide +kernel)⟩
theorem lw_p28 : lw_okq (⟨"MeshedPages$Pages", "writeDown", "(III)V"⟩, 13) := ⟨⟨by decide +kernel, by decide +kernel⟩, List.mem_of_getElem? (i := 125) (by decide +kernel), List.mem_of_getElem? (i := 589) (by decide +kernel), List.mem_of_getElem? (i := 590) (by decide +kernel)⟩
theorem lw_p29 : lw_okq (⟨"MeshedPages$Pages", "cellOf", "(I)I"⟩, 13) := ⟨⟨by decide +kernel, by decide +kernel⟩, List.mem_of_getElem? (i := 125) (by decide +kernel), List.mem_of_getElem? (i := 597) (by decide +kernel), List.mem_of_getElem? (i := 598) (by decide +kernel)⟩
theorem lw_p30 : lw_okq (⟨"MeshedPages", "ruling", "()LMeshedPages$Text;"⟩, 8) := ⟨⟨by decide +kernel, by decide +kernel⟩, List.mem_of_getElem? (i := 19) (by decide +kernel), List.mem_of_getElem? (i := 631) (by decide +kernel), List.mem_of_getElem? (i := 632) (by decide +kernel)⟩
theorem lw_p31 : lw_okq (⟨"MeshedPages$Pages", "isInFence", "(I)Z"⟩, 13) := ⟨⟨by decide +kernel, by decide +kernel⟩, List.mem_of_getElem? (i := 125) (by decide +kernel), List.mem_of_getElem? (i := 642) (by decide +kernel), List.mem_of_getElem? (i := 643) (by decide +kernel)⟩
def lw_privs_2 : List (MethodName × Nat) := [(⟨"MeshedPages$Reader", "opens", "(I)Z"⟩, 11), (⟨"MeshedPages$Reader", "readChoice", "(I)V"⟩, 11), (⟨"MeshedPages$Reader", "readEither", "(I)V"⟩, 11), (⟨"MeshedPages$Reader", "readBoth", "(I)V"⟩, 11), (⟨"MeshedPages$Reader", "readAsk", "(I)V"⟩, 11), (⟨"MeshedPages$Reader", "readName", "(I)V"⟩, 11), (⟨"MeshedPages", "isText", "(I)Z"⟩, 8), (⟨"MeshedPages$Pages", "lowestGivingPage", "()I"⟩, 13), (⟨"MeshedPages$Pages", "lowestNewPage", "()I"⟩, 13), (⟨"MeshedPages$Steps", "stepAt", "(I)LMeshedPages$Pages;"⟩, 3), (⟨"MeshedPages$Pages", "openPage", "()I"⟩, 13), (⟨"MeshedPages$Pages", "lowestFreeFrame", "()I"⟩, 13), (⟨"MeshedPages$Pages", "writeDown", "(III)V"⟩, 13), (⟨"MeshedPages$Pages", "cellOf", "(I)I"⟩, 13), (⟨"MeshedPages", "ruling", "()LMeshedPages$Text;"⟩, 8), (⟨"MeshedPages$Pages", "isInFence", "(I)Z"⟩, 13)]
theorem lw_r2 : ∀ q ∈ lw_privs_2, lw_okq q := List.forall_mem_cons.mpr ⟨lw_p16, List.forall_mem_cons.mpr ⟨lw_p17, List.forall_mem_cons.mpr ⟨lw_p18, List.forall_mem_cons.mpr ⟨lw_p19, List.forall_mem_cons.mpr ⟨lw_p20, List.forall_mem_cons.mpr ⟨lw_p21, List.forall_mem_cons.mpr ⟨lw_p22, List.forall_mem_cons.mpr ⟨lw_p23, List.forall_mem_cons.mpr ⟨lw_p24, List.forall_mem_cons.mpr ⟨lw_p25, List.forall_mem_cons.mpr ⟨lw_p26, List.forall_mem_cons.mpr ⟨lw_p27, List.forall_mem_cons.mpr ⟨lw_p28, List.forall_mem_cons.mpr ⟨lw_p29, List.forall_mem_cons.mpr ⟨lw_p30, List.forall_mem_cons.mpr ⟨lw_p31, fun _ h => absurd h List.not_mem_nil⟩⟩⟩⟩⟩⟩⟩⟩⟩⟩⟩⟩⟩⟩⟩⟩
theorem lw_p32 : lw_okq (⟨"MeshedPages$Pages", "secondGoes", "(II)Z"⟩, 13) := ⟨⟨by decide +kernel, by decide +kernel⟩, List.mem_of_getElem? (i := 125) (by decide +kernel), List.mem_of_getElem? (i := 692) (by decide +kernel), List.mem_of_getElem? (i := 693) (by decide +kernel)⟩
theorem lw_p33 : lw_okq (⟨"MeshedPages$Pages", "copySlot", "(III)V"⟩, 13) := ⟨⟨by decide +kernel, by decide +kernel⟩, List.mem_of_getElem? (i := 125) (by decide +kernel), List.mem_of_getElem? (i := 696) (by decide +kernel), List.mem_of_getElem? (i := 697) (by decide +kernel)⟩
theorem lw_p34 : lw_okq (⟨"MeshedPages$Pages", "joinFrames", "(II)V"⟩, 13) := ⟨⟨by decide +kernel, by decide +kernel⟩, List.mem_of_getElem? (i := 125) (by decide +kernel), List.mem_of_getElem? (i := 700) (by decide +kernel), List.mem_of_getElem? (i := 701) (by decide +kernel)⟩
theorem lw_p35 : lw_okq (⟨"MeshedPages$Pages", "dropFence", "()V"⟩, 13) := ⟨⟨by decide +kernel, by decide +kernel⟩, List.mem_of_getElem? (i := 125) (by decide +kernel), List.mem_of_getElem? (i := 724) (by decide +kernel), List.mem_of_getElem? (i := 725) (by decide +kernel)⟩
theorem lw_p36 : lw_okq (⟨"MeshedPages$Pages", "drawSparse", "()I"⟩, 13) := ⟨⟨by decide +kernel, by decide +kernel⟩, List.mem_of_getElem? (i := 125) (by decide +kernel), List.mem_of_getElem? (i := 750) (by decide +kernel), List.mem_of_getElem? (i := 751) (by decide +kernel)⟩
theorem lw_p37 : lw_okq (⟨"MeshedPages", "passDays", "(I)I"⟩, 8) := ⟨⟨by decide +kernel, by decide +kernel⟩, List.mem_of_getElem? (i := 19) (by decide +kernel), List.mem_of_getElem? (i := 765) (by decide +kernel), List.mem_of_getElem? (i := 766) (by decide +kernel)⟩
theorem lw_p38 : lw_okq (⟨"MeshedPages$Pages", "freeDrawn", "()Z"⟩, 13) := ⟨⟨by decide +kernel, by decide +kernel⟩, List.mem_of_getElem? (i := 125) (by decide +kernel), List.mem_of_getElem? (i := 774) (by decide +kernel), List.mem_of_getElem? (i := 775) (by decide +kernel)⟩
theorem lw_p39 : lw_okq (⟨"MeshedPages$Pairs", "takeFrames", "(LMeshedPages$Pages;)V"⟩, 4) := ⟨⟨by decide +kernel, by decide +kernel⟩, List.mem_of_getElem? (i := 233) (by decide +kernel), List.mem_of_getElem? (i := 884) (by decide +kernel), List.mem_of_getElem? (i := 885) (by decide +kernel)⟩
theorem lw_p40 : lw_okq (⟨"MeshedPages$Pairs", "mostWithLast", "(II)I"⟩, 4) := ⟨⟨by decide +kernel, by decide +kernel⟩, List.mem_of_getElem? (i := 233) (by decide +kernel), List.mem_of_getElem? (i := 890) (by decide +kernel), List.mem_of_getElem? (i := 891) (by decide +kernel)⟩
theorem lw_p41 : lw_okq (⟨"MeshedPages$Pairs", "lowestMate", "(II)I"⟩, 4) := ⟨⟨by decide +kernel, by decide +kernel⟩, List.mem_of_getElem? (i := 233) (by decide +kernel), List.mem_of_getElem? (i := 907) (by decide +kernel), List.mem_of_getElem? (i := 908) (by decide +kernel)⟩
theorem lw_p42 : lw_okq (⟨"MeshedPages$Cover", "takeWith", "(I)V"⟩, 6) := ⟨⟨by decide +kernel, by decide +kernel⟩, List.mem_of_getElem? (i := 252) (by decide +kernel), List.mem_of_getElem? (i := 920) (by decide +kernel), List.mem_of_getElem? (i := 921) (by decide +kernel)⟩
theorem lw_p43 : lw_okq (⟨"MeshedPages$Cover", "clashesOf", "(I)I"⟩, 6) := ⟨⟨by decide +kernel, by decide +kernel⟩, List.mem_of_getElem? (i := 252) (by decide +kernel), List.mem_of_getElem? (i := 924) (by decide +kernel), List.mem_of_getElem? (i := 925) (by decide +kernel)⟩
theorem lw_p44 : lw_okq (⟨"MeshedPages$Cover", "mostOnOneSlot", "()I"⟩, 6) := ⟨⟨by decide +kernel, by decide +kernel⟩, List.mem_of_getElem? (i := 252) (by decide +kernel), List.mem_of_getElem? (i := 928) (by decide +kernel), List.mem_of_getElem? (i := 929) (by decide +kernel)⟩
theorem lw_p45 : lw_okq (⟨"MeshedPages$Cover", "place", "(II)V"⟩, 6) := ⟨⟨by decide +kernel, by decide +kernel⟩, List.mem_of_getElem? (i := 252) (by decide +kernel), List.mem_of_getElem? (i := 933) (by decide +kernel), List.mem_of_getElem? (i := 934) (by decide +kernel)⟩
theorem lw_p46 : lw_okq (⟨"MeshedPages$Pages", "isVectorWhole", "(I)Z"⟩, 13) := ⟨⟨by decide +kernel, by decide +kernel⟩, List.mem_of_getElem? (i := 125) (by decide +kernel), List.mem_of_getElem? (i := 983) (by decide +kernel), List.mem_of_getElem? (i := 984) (by decide +kernel)⟩
theorem lw_p47 : lw_okq (⟨"MeshedPages", "saysAll", "(LMeshedPages$Text;)Z"⟩, 8) := ⟨⟨by decide +kernel, by decide +kernel⟩, List.mem_of_getElem? (i := 19) (by decide +kernel), List.mem_of_getElem? (i := 1006) (by decide +kernel), List.mem_of_getElem? (i := 1007) (by decide +kernel)⟩
def lw_privs_3 : List (MethodName × Nat) := [(⟨"MeshedPages$Pages", "secondGoes", "(II)Z"⟩, 13), (⟨"MeshedPages$Pages", "copySlot", "(III)V"⟩, 13), (⟨"MeshedPages$Pages", "joinFrames", "(II)V"⟩, 13), (⟨"MeshedPages$Pages", "dropFence", "()V"⟩, 13), (⟨"MeshedPages$Pages", "drawSparse", "()I"⟩, 13), (⟨"MeshedPages", "passDays", "(I)I"⟩, 8), (⟨"MeshedPages$Pages", "freeDrawn", "()Z"⟩, 13), (⟨"MeshedPages$Pairs", "takeFrames", "(LMeshedPages$Pages;)V"⟩, 4), (⟨"MeshedPages$Pairs", "mostWithLast", "(II)I"⟩, 4), (⟨"MeshedPages$Pairs", "lowestMate", "(II)I"⟩, 4), (⟨"MeshedPages$Cover", "takeWith", "(I)V"⟩, 6), (⟨"MeshedPages$Cover", "clashesOf", "(I)I"⟩, 6), (⟨"MeshedPages$Cover", "mostOnOneSlot", "()I"⟩, 6), (⟨"MeshedPages$Cover", "place", "(II)V"⟩, 6), (⟨"MeshedPages$Pages", "isVectorWhole", "(I)Z"⟩, 13), (⟨"MeshedPages", "saysAll", "(LMeshedPages$Text;)Z"⟩, 8)]
theorem lw_r3 : ∀ q ∈ lw_privs_3, lw_okq q := List.forall_mem_cons.mpr ⟨lw_p32, List.forall_mem_cons.mpr ⟨lw_p33, List.forall_mem_cons.mpr ⟨lw_p34, List.forall_mem_cons.mpr ⟨lw_p35, List.forall_mem_cons.mpr ⟨lw_p36, List.forall_mem_cons.mpr ⟨lw_p37, List.forall_mem_cons.mpr ⟨lw_p38, List.forall_mem_cons.mpr ⟨lw_p39, List.forall_mem_cons.mpr ⟨lw_p40, List.forall_mem_cons.mpr ⟨lw_p41, List.forall_mem_cons.mpr ⟨lw_p42, List.forall_mem_cons.mpr ⟨lw_p43, List.forall_mem_cons.mpr ⟨lw_p44, List.forall_mem_cons.mpr ⟨lw_p45, List.forall_mem_cons.mpr ⟨lw_p46, List.forall_mem_cons.mpr ⟨lw_p47, fun _ h => absurd h List.not_mem_nil⟩⟩⟩⟩⟩⟩⟩⟩⟩⟩⟩⟩⟩⟩⟩⟩
theorem lw_p48 : lw_okq (⟨"MeshedPagesModel", "four", "(I)V"⟩, 32) := ⟨⟨by decide +kernel, by decide +kernel⟩, List.mem_of_getElem? (i := 1037) (by decide +kernel), List.mem_of_getElem? (i := 1149) (by decide +kernel), List.mem_of_getElem? (i := 1150) (by decide +kernel)⟩
theorem lw_p49 : lw_okq (⟨"MeshedPagesModel", "readText", "()I"⟩, 32) := ⟨⟨by decide +kernel, by decide +kernel⟩, List.mem_of_getElem? (i := 1037) (by decide +kernel), List.mem_of_getElem? (i := 1164) (by decide +kernel), List.mem_of_getElem? (i := 1165) (by decide +kernel)⟩
theorem lw_p50 : lw_okq (⟨"MeshedPagesModel", "nextToken", "()V"⟩, 32) := ⟨⟨by decide +kernel, by decide +kernel⟩, List.mem_of_getElem? (i := 1037) (by decide +kernel), List.mem_of_getElem? (i := 1168) (by decide +kernel), List.mem_of_getElem? (i := 1169) (by decide +kernel)⟩
theorem lw_p51 : lw_okq (⟨"MeshedPagesModel", "byteAt", "(I)I"⟩, 32) := ⟨⟨by decide +kernel, by decide +kernel⟩, List.mem_of_getElem? (i := 1037) (by decide +kernel), List.mem_of_getElem? (i := 1172) (by decide +kernel), List.mem_of_getElem? (i := 1173) (by decide +kernel)⟩
theorem lw_p52 : lw_okq (⟨"MeshedPagesModel", "clause", "()I"⟩, 32) := ⟨⟨by decide +kernel, by decide +kernel⟩, List.mem_of_getElem? (i := 1037) (by decide +kernel), List.mem_of_getElem? (i := 1187) (by decide +kernel), List.mem_of_getElem? (i := 1188) (by decide +kernel)⟩
theorem lw_p53 : lw_okq (⟨"MeshedPagesModel", "sortOf", "()I"⟩, 32) := ⟨⟨by decide +kernel, by decide +kernel⟩, List.mem_of_getElem? (i := 1037) (by decide +kernel), List.mem_of_getElem? (i := 1191) (by decide +kernel), List.mem_of_getElem? (i := 1192) (by decide +kernel)⟩
theorem lw_p54 : lw_okq (⟨"MeshedPagesModel", "isWord", "(J)Z"⟩, 32) := ⟨⟨by decide +kernel, by decide +kernel⟩, List.mem_of_getElem? (i := 1037) (by decide +kernel), List.mem_of_getElem? (i := 1210) (by decide +kernel), List.mem_of_getElem? (i := 1211) (by decide +kernel)⟩
theorem lw_p55 : lw_okq (⟨"MeshedPagesModel", "isCompactWord", "()Z"⟩, 32) := ⟨⟨by decide +kernel, by decide +kernel⟩, List.mem_of_getElem? (i := 1037) (by decide +kernel), List.mem_of_getElem? (i := 1214) (by decide +kernel), List.mem_of_getElem? (i := 1215) (by decide +kernel)⟩
theorem lw_p56 : lw_okq (⟨"MeshedPagesModel", "body", "(II)I"⟩, 32) := ⟨⟨by decide +kernel, by decide +kernel⟩, List.mem_of_getElem? (i := 1037) (by decide +kernel), List.mem_of_getElem? (i := 1221) (by decide +kernel), List.mem_of_getElem? (i := 1222) (by decide +kernel)⟩
theorem lw_p57 : lw_okq (⟨"MeshedPagesModel", "figure", "(III)I"⟩, 32) := ⟨⟨by decide +kernel, by decide +kernel⟩, List.mem_of_getElem? (i := 1037) (by decide +kernel), List.mem_of_getElem? (i := 1225) (by decide +kernel), List.mem_of_getElem? (i := 1226) (by decide +kernel)⟩
theorem lw_p58 : lw_okq (⟨"MeshedPagesModel", "twoClause", "(IIJI)I"⟩, 32) := ⟨⟨by decide +kernel, by decide +kernel⟩, List.mem_of_getElem? (i := 1037) (by decide +kernel), List.mem_of_getElem? (i := 1229) (by decide +kernel), List.mem_of_getElem? (i := 1230) (by decide +kernel)⟩
theorem lw_p59 : lw_okq (⟨"MeshedPagesModel", "lawClause", "(I)I"⟩, 32) := ⟨⟨by decide +kernel, by decide +kernel⟩, List.mem_of_getElem? (i := 1037) (by decide +kernel), List.mem_of_getElem? (i := 1233) (by decide +kernel), List.mem_of_getElem? (i := 1234) (by decide +kernel)⟩
theorem lw_p60 : lw_okq (⟨"MeshedPagesModel", "summed", "()I"⟩, 32) := ⟨⟨by decide +kernel, by decide +kernel⟩, List.mem_of_getElem? (i := 1037) (by decide +kernel), List.mem_of_getElem? (i := 1237) (by decide +kernel), List.mem_of_getElem? (i := 1238) (by decide +kernel)⟩
theorem lw_p61 : lw_okq (⟨"MeshedPagesModel", "behindOne", "()Z"⟩, 32) := ⟨⟨by decide +kernel, by decide +kernel⟩, List.mem_of_getElem? (i := 1037) (by decide +kernel), List.mem_of_getElem? (i := 1241) (by decide +kernel), List.mem_of_getElem? (i := 1242) (by decide +kernel)⟩
theorem lw_p62 : lw_okq (⟨"MeshedPagesModel", "betweenOf", "()I"⟩, 32) := ⟨⟨by decide +kernel, by decide +kernel⟩, List.mem_of_getElem? (i := 1037) (by decide +kernel), List.mem_of_getElem? (i := 1245) (by decide +kernel), List.mem_of_getElem? (i := 1246) (by decide +kernel)⟩
theorem lw_p63 : lw_okq (⟨"MeshedPagesModel", "openNow", "()I"⟩, 32) := ⟨⟨by decide +kernel, by decide +kernel⟩, List.mem_of_getElem? (i := 1037) (by decide +kernel), List.mem_of_getElem? (i := 1249) (by decide +kernel), List.mem_of_getElem? (i := 1250) (by decide +kernel)⟩
def lw_privs_4 : List (MethodName × Nat) := [(⟨"MeshedPagesModel", "four", "(I)V"⟩, 32), (⟨"MeshedPagesModel", "readText", "()I"⟩, 32), (⟨"MeshedPagesModel", "nextToken", "()V"⟩, 32), (⟨"MeshedPagesModel", "byteAt", "(I)I"⟩, 32), (⟨"MeshedPagesModel", "clause", "()I"⟩, 32), (⟨"MeshedPagesModel", "sortOf", "()I"⟩, 32), (⟨"MeshedPagesModel", "isWord", "(J)Z"⟩, 32), (⟨"MeshedPagesModel", "isCompactWord", "()Z"⟩, 32), (⟨"MeshedPagesModel", "body", "(II)I"⟩, 32), (⟨"MeshedPagesModel", "figure", "(III)I"⟩, 32), (⟨"MeshedPagesModel", "twoClause", "(IIJI)I"⟩, 32), (⟨"MeshedPagesModel", "lawClause", "(I)I"⟩, 32), (⟨"MeshedPagesModel", "summed", "()I"⟩, 32), (⟨"MeshedPagesModel", "behindOne", "()Z"⟩, 32), (⟨"MeshedPagesModel", "betweenOf", "()I"⟩, 32), (⟨"MeshedPagesModel", "openNow", "()I"⟩, 32)]
theorem lw_r4 : ∀ q ∈ lw_privs_4, lw_okq q := List.forall_mem_cons.mpr ⟨lw_p48, List.forall_mem_cons.mpr ⟨lw_p49, List.forall_mem_cons.mpr ⟨lw_p50, List.forall_mem_cons.mpr ⟨lw_p51, List.forall_mem_cons.mpr ⟨lw_p52, List.forall_mem_cons.mpr ⟨lw_p53, List.forall_mem_cons.mpr ⟨lw_p54, List.forall_mem_cons.mpr ⟨lw_p55, List.forall_mem_cons.mpr ⟨lw_p56, List.forall_mem_cons.mpr ⟨lw_p57, List.forall_mem_cons.mpr ⟨lw_p58, List.forall_mem_cons.mpr ⟨lw_p59, List.forall_mem_cons.mpr ⟨lw_p60, List.forall_mem_cons.mpr ⟨lw_p61, List.forall_mem_cons.mpr ⟨lw_p62, List.forall_mem_cons.mpr ⟨lw_p63, fun _ h => absurd h List.not_mem_nil⟩⟩⟩⟩⟩⟩⟩⟩⟩⟩⟩⟩⟩⟩⟩⟩
theorem lw_p64 : lw_okq (⟨"MeshedPagesModel", "openAt", "()I"⟩, 32) := ⟨⟨by decide +kernel, by decide +kernel⟩, List.mem_of_getElem? (i := 1037) (by decide +kernel), List.mem_of_getElem? (i := 1253) (by decide +kernel), List.mem_of_getElem? (i := 1254) (by decide +kernel)⟩
theorem lw_p65 : lw_okq (⟨"MeshedPagesModel", "isCompared", "()Z"⟩, 32) := ⟨⟨by decide +kernel, by decide +kernel⟩, List.mem_of_getElem? (i := 1037) (by decide +kernel), List.mem_of_getElem? (i := 1257) (by decide +kernel), List.mem_of_getElem? (i := 1258) (by decide +kernel)⟩
theorem lw_p66 : lw_okq (⟨"MeshedPagesModel", "compareOf", "()I"⟩, 32) := ⟨⟨by decide +kernel, by decide +kernel⟩, List.mem_of_getElem? (i := 1037) (by decide +kernel), List.mem_of_getElem? (i := 1264) (by decide +kernel), List.mem_of_getElem? (i := 1265) (by decide +kernel)⟩
theorem lw_p67 : lw_okq (⟨"MeshedPagesModel", "settle", "(I)V"⟩, 32) := ⟨⟨by decide +kernel, by decide +kernel⟩, List.mem_of_getElem? (i := 1037) (by decide +kernel), List.mem_of_getElem? (i := 1268) (by decide +kernel), List.mem_of_getElem? (i := 1269) (by decide +kernel)⟩
theorem lw_p68 : lw_okq (⟨"MeshedPagesModel", "emit", "(II)V"⟩, 32) := ⟨⟨by decide +kernel, by decide +kernel⟩, List.mem_of_getElem? (i := 1037) (by decide +kernel), List.mem_of_getElem? (i := 1272) (by decide +kernel), List.mem_of_getElem? (i := 1273) (by decide +kernel)⟩
theorem lw_p69 : lw_okq (⟨"MeshedPagesModel", "partOf", "(I)I"⟩, 32) := ⟨⟨by decide +kernel, by decide +kernel⟩, List.mem_of_getElem? (i := 1037) (by decide +kernel), List.mem_of_getElem? (i := 1276) (by decide +kernel), List.mem_of_getElem? (i := 1277) (by decide +kernel)⟩
theorem lw_p70 : lw_okq (⟨"MeshedPagesModel", "beginOne", "()I"⟩, 32) := ⟨⟨by decide +kernel, by decide +kernel⟩, List.mem_of_getElem? (i := 1037) (by decide +kernel), List.mem_of_getElem? (i := 1280) (by decide +kernel), List.mem_of_getElem? (i := 1281) (by decide +kernel)⟩
theorem lw_p71 : lw_okq (⟨"MeshedPagesModel", "nameOf", "()I"⟩, 32) := ⟨⟨by decide +kernel, by decide +kernel⟩, List.mem_of_getElem? (i := 1037) (by decide +kernel), List.mem_of_getElem? (i := 1284) (by decide +kernel), List.mem_of_getElem? (i := 1285) (by decide +kernel)⟩
theorem lw_p72 : lw_okq (⟨"MeshedPagesModel", "isOf", "(I)Z"⟩, 32) := ⟨⟨by decide +kernel, by decide +kernel⟩, List.mem_of_getElem? (i := 1037) (by decide +kernel), List.mem_of_getElem? (i := 1288) (by decide +kernel), List.mem_of_getElem? (i := 1289) (by decide +kernel)⟩
theorem lw_p73 : lw_okq (⟨"MeshedPagesModel", "opened", "(I)I"⟩, 32) := ⟨⟨by decide +kernel, by decide +kernel⟩, List.mem_of_getElem? (i := 1037) (by decide +kernel), List.mem_of_getElem? (i := 1292) (by decide +kernel), List.mem_of_getElem? (i := 1293) (by decide +kernel)⟩
theorem lw_p74 : lw_okq (⟨"MeshedPagesModel", "isAskAhead", "()Z"⟩, 32) := ⟨⟨by decide +kernel, by decide +kernel⟩, List.mem_of_getElem? (i := 1037) (by decide +kernel), List.mem_of_getElem? (i := 1296) (by decide +kernel), List.mem_of_getElem? (i := 1297) (by decide +kernel)⟩
theorem lw_p75 : lw_okq (⟨"MeshedPagesModel", "canGive", "()Z"⟩, 32) := ⟨⟨by decide +kernel, by decide +kernel⟩, List.mem_of_getElem? (i := 1037) (by decide +kernel), List.mem_of_getElem? (i := 1322) (by decide +kernel), List.mem_of_getElem? (i := 1323) (by decide +kernel)⟩
theorem lw_p76 : lw_okq (⟨"MeshedPagesModel", "giver", "()I"⟩, 32) := ⟨⟨by decide +kernel, by decide +kernel⟩, List.mem_of_getElem? (i := 1037) (by decide +kernel), List.mem_of_getElem? (i := 1326) (by decide +kernel), List.mem_of_getElem? (i := 1327) (by decide +kernel)⟩
theorem lw_p77 : lw_okq (⟨"MeshedPagesModel", "nextSlot", "(I)I"⟩, 32) := ⟨⟨by decide +kernel, by decide +kernel⟩, List.mem_of_getElem? (i := 1037) (by decide +kernel), List.mem_of_getElem? (i := 1330) (by decide +kernel), List.mem_of_getElem? (i := 1331) (by decide +kernel)⟩
theorem lw_p78 : lw_okq (⟨"MeshedPagesModel", "isFenced", "(I)Z"⟩, 32) := ⟨⟨by decide +kernel, by decide +kernel⟩, List.mem_of_getElem? (i := 1037) (by decide +kernel), List.mem_of_getElem? (i := 1334) (by decide +kernel), List.mem_of_getElem? (i := 1335) (by decide +kernel)⟩
theorem lw_p79 : lw_okq (⟨"MeshedPagesModel", "liveIn", "(I)I"⟩, 32) := ⟨⟨by decide +kernel, by decide +kernel⟩, List.mem_of_getElem? (i := 1037) (by decide +kernel), List.mem_of_getElem? (i := 1338) (by decide +kernel), List.mem_of_getElem? (i := 1339) (by decide +kernel)⟩
def lw_privs_5 : List (MethodName × Nat) := [(⟨"MeshedPagesModel", "openAt", "()I"⟩, 32), (⟨"MeshedPagesModel", "isCompared", "()Z"⟩, 32), (⟨"MeshedPagesModel", "compareOf", "()I"⟩, 32), (⟨"MeshedPagesModel", "settle", "(I)V"⟩, 32), (⟨"MeshedPagesModel", "emit", "(II)V"⟩, 32), (⟨"MeshedPagesModel", "partOf", "(I)I"⟩, 32), (⟨"MeshedPagesModel", "beginOne", "()I"⟩, 32), (⟨"MeshedPagesModel", "nameOf", "()I"⟩, 32), (⟨"MeshedPagesModel", "isOf", "(I)Z"⟩, 32), (⟨"MeshedPagesModel", "opened", "(I)I"⟩, 32), (⟨"MeshedPagesModel", "isAskAhead", "()Z"⟩, 32), (⟨"MeshedPagesModel", "canGive", "()Z"⟩, 32), (⟨"MeshedPagesModel", "giver", "()I"⟩, 32), (⟨"MeshedPagesModel", "nextSlot", "(I)I"⟩, 32), (⟨"MeshedPagesModel", "isFenced", "(I)Z"⟩, 32), (⟨"MeshedPagesModel", "liveIn", "(I)I"⟩, 32)]
theorem lw_r5 : ∀ q ∈ lw_privs_5, lw_okq q := List.forall_mem_cons.mpr ⟨lw_p64, List.forall_mem_cons.mpr ⟨lw_p65, List.forall_mem_cons.mpr ⟨lw_p66, List.forall_mem_cons.mpr ⟨lw_p67, List.forall_mem_cons.mpr ⟨lw_p68, List.forall_mem_cons.mpr ⟨lw_p69, List.forall_mem_cons.mpr ⟨lw_p70, List.forall_mem_cons.mpr ⟨lw_p71, List.forall_mem_cons.mpr ⟨lw_p72, List.forall_mem_cons.mpr ⟨lw_p73, List.forall_mem_cons.mpr ⟨lw_p74, List.forall_mem_cons.mpr ⟨lw_p75, List.forall_mem_cons.mpr ⟨lw_p76, List.forall_mem_cons.mpr ⟨lw_p77, List.forall_mem_cons.mpr ⟨lw_p78, List.forall_mem_cons.mpr ⟨lw_p79, fun _ h => absurd h List.not_mem_nil⟩⟩⟩⟩⟩⟩⟩⟩⟩⟩⟩⟩⟩⟩⟩⟩
theorem lw_p80 : lw_okq (⟨"MeshedPagesModel", "lowestNew", "()I"⟩, 32) := ⟨⟨by decide +kernel, by decide +kernel⟩, List.mem_of_getElem? (i := 1037) (by decide +kernel), List.mem_of_getElem? (i := 1342) (by decide +kernel), List.mem_of_getElem? (i := 1343) (by decide +kernel)⟩
theorem lw_p81 : lw_okq (⟨"MeshedPagesModel", "lowestUnused", "()I"⟩, 32) := ⟨⟨by decide +kernel, by decide +kernel⟩, List.mem_of_getElem? (i := 1037) (by decide +kernel), List.mem_of_getElem? (i := 1346) (by decide +kernel), List.mem_of_getElem? (i := 1347) (by decide +kernel)⟩
theorem lw_p82 : lw_okq (⟨"MeshedPagesModel", "isUsed", "(I)Z"⟩, 32) := ⟨⟨by decide +kernel, by decide +kernel⟩, List.mem_of_getElem? (i := 1037) (by decide +kernel), List.mem_of_getElem? (i := 1350) (by decide +kernel), List.mem_of_getElem? (i := 1351) (by decide +kernel)⟩
theorem lw_p83 : lw_okq (⟨"MeshedPagesModel", "pagesIn", "(I)I"⟩, 32) := ⟨⟨by decide +kernel, by decide +kernel⟩, List.mem_of_getElem? (i := 1037) (by decide +kernel), List.mem_of_getElem? (i := 1354) (by decide +kernel), List.mem_of_getElem? (i := 1355) (by decide +kernel)⟩
theorem lw_p84 : lw_okq (⟨"MeshedPagesModel", "keep", "()V"⟩, 32) := ⟨⟨by decide +kernel, by decide +kernel⟩, List.mem_of_getElem? (i := 1037) (by decide +kernel), List.mem_of_getElem? (i := 1358) (by decide +kernel), List.mem_of_getElem? (i := 1359) (by decide +kernel)⟩
theorem lw_p85 : lw_okq (⟨"MeshedPagesModel", "giveNow", "(I)I"⟩, 32) := ⟨⟨by decide +kernel, by decide +kernel⟩, List.mem_of_getElem? (i := 1037) (by decide +kernel), List.mem_of_getElem? (i := 1362) (by decide +kernel), List.mem_of_getElem? (i := 1363) (by decide +kernel)⟩
theorem lw_p86 : lw_okq (⟨"MeshedPagesModel", "openNow", "(II)V"⟩, 32) := ⟨⟨by decide +kernel, by decide +kernel⟩, List.mem_of_getElem? (i := 1037) (by decide +kernel), List.mem_of_getElem? (i := 1366) (by decide +kernel), List.mem_of_getElem? (i := 1367) (by decide +kernel)⟩
theorem lw_p87 : lw_okq (⟨"MeshedPagesModel", "drawnBy", "(I)I"⟩, 32) := ⟨⟨by decide +kernel, by decide +kernel⟩, List.mem_of_getElem? (i := 1037) (by decide +kernel), List.mem_of_getElem? (i := 1370) (by decide +kernel), List.mem_of_getElem? (i := 1371) (by decide +kernel)⟩
theorem lw_p88 : lw_okq (⟨"MeshedPagesModel", "anew", "()V"⟩, 32) := ⟨⟨by decide +kernel, by decide +kernel⟩, List.mem_of_getElem? (i := 1037) (by decide +kernel), List.mem_of_getElem? (i := 1374) (by decide +kernel), List.mem_of_getElem? (i := 1375) (by decide +kernel)⟩
theorem lw_p89 : lw_okq (⟨"MeshedPagesModel", "writeDown", "(III)V"⟩, 32) := ⟨⟨by decide +kernel, by decide +kernel⟩, List.mem_of_getElem? (i := 1037) (by decide +kernel), List.mem_of_getElem? (i := 1381) (by decide +kernel), List.mem_of_getElem? (i := 1382) (by decide +kernel)⟩
theorem lw_p90 : lw_okq (⟨"MeshedPagesModel", "canChange", "(I)Z"⟩, 32) := ⟨⟨by decide +kernel, by decide +kernel⟩, List.mem_of_getElem? (i := 1037) (by decide +kernel), List.mem_of_getElem? (i := 1389) (by decide +kernel), List.mem_of_getElem? (i := 1390) (by decide +kernel)⟩
theorem lw_p91 : lw_okq (⟨"MeshedPagesModel", "isLive", "(I)Z"⟩, 32) := ⟨⟨by decide +kernel, by decide +kernel⟩, List.mem_of_getElem? (i := 1037) (by decide +kernel), List.mem_of_getElem? (i := 1393) (by decide +kernel), List.mem_of_getElem? (i := 1394) (by decide +kernel)⟩
theorem lw_p92 : lw_okq (⟨"MeshedPagesModel", "isOpen", "(I)Z"⟩, 32) := ⟨⟨by decide +kernel, by decide +kernel⟩, List.mem_of_getElem? (i := 1037) (by decide +kernel), List.mem_of_getElem? (i := 1397) (by decide +kernel), List.mem_of_getElem? (i := 1398) (by decide +kernel)⟩
theorem lw_p93 : lw_okq (⟨"MeshedPagesModel", "freeNow", "(I)I"⟩, 32) := ⟨⟨by decide +kernel, by decide +kernel⟩, List.mem_of_getElem? (i := 1037) (by decide +kernel), List.mem_of_getElem? (i := 1404) (by decide +kernel), List.mem_of_getElem? (i := 1405) (by decide +kernel)⟩
theorem lw_p94 : lw_okq (⟨"MeshedPagesModel", "valueAt", "(II)I"⟩, 32) := ⟨⟨by decide +kernel, by decide +kernel⟩, List.mem_of_getElem? (i := 1037) (by decide +kernel), List.mem_of_getElem? (i := 1408) (by decide +kernel), List.mem_of_getElem? (i := 1409) (by decide +kernel)⟩
theorem lw_p95 : lw_okq (⟨"MeshedPagesModel", "canPair", "(II)Z"⟩, 32) := ⟨⟨by decide +kernel, by decide +kernel⟩, List.mem_of_getElem? (i := 1037) (by decide +kernel), List.mem_of_getElem? (i := 1420) (by decide +kernel), List.mem_of_getElem? (i := 1421) (by decide +kernel)⟩
def lw_privs_6 : List (MethodName × Nat) := [(⟨"MeshedPagesModel", "lowestNew", "()I"⟩, 32), (⟨"MeshedPagesModel", "lowestUnused", "()I"⟩, 32), (⟨"MeshedPagesModel", "isUsed", "(I)Z"⟩, 32), (⟨"MeshedPagesModel", "pagesIn", "(I)I"⟩, 32), (⟨"MeshedPagesModel", "keep", "()V"⟩, 32), (⟨"MeshedPagesModel", "giveNow", "(I)I"⟩, 32), (⟨"MeshedPagesModel", "openNow", "(II)V"⟩, 32), (⟨"MeshedPagesModel", "drawnBy", "(I)I"⟩, 32), (⟨"MeshedPagesModel", "anew", "()V"⟩, 32), (⟨"MeshedPagesModel", "writeDown", "(III)V"⟩, 32), (⟨"MeshedPagesModel", "canChange", "(I)Z"⟩, 32), (⟨"MeshedPagesModel", "isLive", "(I)Z"⟩, 32), (⟨"MeshedPagesModel", "isOpen", "(I)Z"⟩, 32), (⟨"MeshedPagesModel", "freeNow", "(I)I"⟩, 32), (⟨"MeshedPagesModel", "valueAt", "(II)I"⟩, 32), (⟨"MeshedPagesModel", "canPair", "(II)Z"⟩, 32)]
theorem lw_r6 : ∀ q ∈ lw_privs_6, lw_okq q := List.forall_mem_cons.mpr ⟨lw_p80, List.forall_mem_cons.mpr ⟨lw_p81, List.forall_mem_cons.mpr ⟨lw_p82, List.forall_mem_cons.mpr ⟨lw_p83, List.forall_mem_cons.mpr ⟨lw_p84, List.forall_mem_cons.mpr ⟨lw_p85, List.forall_mem_cons.mpr ⟨lw_p86, List.forall_mem_cons.mpr ⟨lw_p87, List.forall_mem_cons.mpr ⟨lw_p88, List.forall_mem_cons.mpr ⟨lw_p89, List.forall_mem_cons.mpr ⟨lw_p90, List.forall_mem_cons.mpr ⟨lw_p91, List.forall_mem_cons.mpr ⟨lw_p92, List.forall_mem_cons.mpr ⟨lw_p93, List.forall_mem_cons.mpr ⟨lw_p94, List.forall_mem_cons.mpr ⟨lw_p95, fun _ h => absurd h List.not_mem_nil⟩⟩⟩⟩⟩⟩⟩⟩⟩⟩⟩⟩⟩⟩⟩⟩
theorem lw_p96 : lw_okq (⟨"MeshedPagesModel", "canMesh", "(II)I"⟩, 32) := ⟨⟨by decide +kernel, by decide +kernel⟩, List.mem_of_getElem? (i := 1037) (by decide +kernel), List.mem_of_getElem? (i := 1424) (by decide +kernel), List.mem_of_getElem? (i := 1425) (by decide +kernel)⟩
theorem lw_p97 : lw_okq (⟨"MeshedPagesModel", "areOpen", "(II)Z"⟩, 32) := ⟨⟨by decide +kernel, by decide +kernel⟩, List.mem_of_getElem? (i := 1037) (by decide +kernel), List.mem_of_getElem? (i := 1428) (by decide +kernel), List.mem_of_getElem? (i := 1429) (by decide +kernel)⟩
theorem lw_p98 : lw_okq (⟨"MeshedPagesModel", "isBound", "(I)Z"⟩, 32) := ⟨⟨by decide +kernel, by decide +kernel⟩, List.mem_of_getElem? (i := 1037) (by decide +kernel), List.mem_of_getElem? (i := 1432) (by decide +kernel), List.mem_of_getElem? (i := 1433) (by decide +kernel)⟩
theorem lw_p99 : lw_okq (⟨"MeshedPagesModel", "isLetNow", "(II)Z"⟩, 32) := ⟨⟨by decide +kernel, by decide +kernel⟩, List.mem_of_getElem? (i := 1037) (by decide +kernel), List.mem_of_getElem? (i := 1436) (by decide +kernel), List.mem_of_getElem? (i := 1437) (by decide +kernel)⟩
theorem lw_p100 : lw_okq (⟨"MeshedPagesModel", "isLet", "(III)Z"⟩, 32) := ⟨⟨by decide +kernel, by decide +kernel⟩, List.mem_of_getElem? (i := 1037) (by decide +kernel), List.mem_of_getElem? (i := 1443) (by decide +kernel), List.mem_of_getElem? (i := 1444) (by decide +kernel)⟩
theorem lw_p101 : lw_okq (⟨"MeshedPagesModel", "clauseOf", "(II)I"⟩, 32) := ⟨⟨by decide +kernel, by decide +kernel⟩, List.mem_of_getElem? (i := 1037) (by decide +kernel), List.mem_of_getElem? (i := 1447) (by decide +kernel), List.mem_of_getElem? (i := 1448) (by decide +kernel)⟩
theorem lw_p102 : lw_okq (⟨"MeshedPagesModel", "name", "()V"⟩, 32) := ⟨⟨by decide +kernel, by decide +kernel⟩, List.mem_of_getElem? (i := 1037) (by decide +kernel), List.mem_of_getElem? (i := 1451) (by decide +kernel), List.mem_of_getElem? (i := 1452) (by decide +kernel)⟩
theorem lw_p103 : lw_okq (⟨"MeshedPagesModel", "openPages", "()I"⟩, 32) := ⟨⟨by decide +kernel, by decide +kernel⟩, List.mem_of_getElem? (i := 1037) (by decide +kernel), List.mem_of_getElem? (i := 1455) (by decide +kernel), List.mem_of_getElem? (i := 1456) (by decide +kernel)⟩
theorem lw_p104 : lw_okq (⟨"MeshedPagesModel", "usedFrames", "()I"⟩, 32) := ⟨⟨by decide +kernel, by decide +kernel⟩, List.mem_of_getElem? (i := 1037) (by decide +kernel), List.mem_of_getElem? (i := 1459) (by decide +kernel), List.mem_of_getElem? (i := 1460) (by decide +kernel)⟩
theorem lw_p105 : lw_okq (⟨"MeshedPagesModel", "summedUp", "(II)J"⟩, 32) := ⟨⟨by decide +kernel, by decide +kernel⟩, List.mem_of_getElem? (i := 1037) (by decide +kernel), List.mem_of_getElem? (i := 1463) (by decide +kernel), List.mem_of_getElem? (i := 1464) (by decide +kernel)⟩
theorem lw_p106 : lw_okq (⟨"MeshedPagesModel", "ofOne", "(IJ)J"⟩, 32) := ⟨⟨by decide +kernel, by decide +kernel⟩, List.mem_of_getElem? (i := 1037) (by decide +kernel), List.mem_of_getElem? (i := 1467) (by decide +kernel), List.mem_of_getElem? (i := 1468) (by decide +kernel)⟩
theorem lw_p107 : lw_okq (⟨"MeshedPagesModel", "meshFrames", "(II)I"⟩, 32) := ⟨⟨by decide +kernel, by decide +kernel⟩, List.mem_of_getElem? (i := 1037) (by decide +kernel), List.mem_of_getElem? (i := 1486) (by decide +kernel), List.mem_of_getElem? (i := 1487) (by decide +kernel)⟩
theorem lw_p108 : lw_okq (⟨"MeshedPagesModel", "stayer", "(II)I"⟩, 32) := ⟨⟨by decide +kernel, by decide +kernel⟩, List.mem_of_getElem? (i := 1037) (by decide +kernel), List.mem_of_getElem? (i := 1490) (by decide +kernel), List.mem_of_getElem? (i := 1491) (by decide +kernel)⟩
theorem lw_p109 : lw_okq (⟨"MeshedPagesModel", "copySlots", "(III)V"⟩, 32) := ⟨⟨by decide +kernel, by decide +kernel⟩, List.mem_of_getElem? (i := 1037) (by decide +kernel), List.mem_of_getElem? (i := 1494) (by decide +kernel), List.mem_of_getElem? (i := 1495) (by decide +kernel)⟩
theorem lw_p110 : lw_okq (⟨"MeshedPagesModel", "joinFrames", "(II)V"⟩, 32) := ⟨⟨by decide +kernel, by decide +kernel⟩, List.mem_of_getElem? (i := 1037) (by decide +kernel), List.mem_of_getElem? (i := 1498) (by decide +kernel), List.mem_of_getElem? (i := 1499) (by decide +kernel)⟩
theorem lw_p111 : lw_okq (⟨"MeshedPagesModel", "fenceNow", "(II)I"⟩, 32) := ⟨⟨by decide +kernel, by decide +kernel⟩, List.mem_of_getElem? (i := 1037) (by decide +kernel), List.mem_of_getElem? (i := 1506) (by decide +kernel), List.mem_of_getElem? (i := 1507) (by decide +kernel)⟩
def lw_privs_7 : List (MethodName × Nat) := [(⟨"MeshedPagesModel", "canMesh", "(II)I"⟩, 32), (⟨"MeshedPagesModel", "areOpen", "(II)Z"⟩, 32), (⟨"MeshedPagesModel", "isBound", "(I)Z"⟩, 32), (⟨"MeshedPagesModel", "isLetNow", "(II)Z"⟩, 32), (⟨"MeshedPagesModel", "isLet", "(III)Z"⟩, 32), (⟨"MeshedPagesModel", "clauseOf", "(II)I"⟩, 32), (⟨"MeshedPagesModel", "name", "()V"⟩, 32), (⟨"MeshedPagesModel", "openPages", "()I"⟩, 32), (⟨"MeshedPagesModel", "usedFrames", "()I"⟩, 32), (⟨"MeshedPagesModel", "summedUp", "(II)J"⟩, 32), (⟨"MeshedPagesModel", "ofOne", "(IJ)J"⟩, 32), (⟨"MeshedPagesModel", "meshFrames", "(II)I"⟩, 32), (⟨"MeshedPagesModel", "stayer", "(II)I"⟩, 32), (⟨"MeshedPagesModel", "copySlots", "(III)V"⟩, 32), (⟨"MeshedPagesModel", "joinFrames", "(II)V"⟩, 32), (⟨"MeshedPagesModel", "fenceNow", "(II)I"⟩, 32)]
theorem lw_r7 : ∀ q ∈ lw_privs_7, lw_okq q := List.forall_mem_cons.mpr ⟨lw_p96, List.forall_mem_cons.mpr ⟨lw_p97, List.forall_mem_cons.mpr ⟨lw_p98, List.forall_mem_cons.mpr ⟨lw_p99, List.forall_mem_cons.mpr ⟨lw_p100, List.forall_mem_cons.mpr ⟨lw_p101, List.forall_mem_cons.mpr ⟨lw_p102, List.forall_mem_cons.mpr ⟨lw_p103, List.forall_mem_cons.mpr ⟨lw_p104, List.forall_mem_cons.mpr ⟨lw_p105, List.forall_mem_cons.mpr ⟨lw_p106, List.forall_mem_cons.mpr ⟨lw_p107, List.forall_mem_cons.mpr ⟨lw_p108, List.forall_mem_cons.mpr ⟨lw_p109, List.forall_mem_cons.mpr ⟨lw_p110, List.forall_mem_cons.mpr ⟨lw_p111, fun _ h => absurd h List.not_mem_nil⟩⟩⟩⟩⟩⟩⟩⟩⟩⟩⟩⟩⟩⟩⟩⟩
theorem lw_p112 : lw_okq (⟨"MeshedPagesModel", "moveNow", "()I"⟩, 32) := ⟨⟨by decide +kernel, by decide +kernel⟩, List.mem_of_getElem? (i := 1037) (by decide +kernel), List.mem_of_getElem? (i := 1514) (by decide +kernel), List.mem_of_getElem? (i := 1515) (by decide +kernel)⟩
theorem lw_p113 : lw_okq (⟨"MeshedPagesModel", "leftToCopy", "()I"⟩, 32) := ⟨⟨by decide +kernel, by decide +kernel⟩, List.mem_of_getElem? (i := 1037) (by decide +kernel), List.mem_of_getElem? (i := 1518) (by decide +kernel), List.mem_of_getElem? (i := 1519) (by decide +kernel)⟩
theorem lw_p114 : lw_okq (⟨"MeshedPagesModel", "unbind", "()V"⟩, 32) := ⟨⟨by decide +kernel, by decide +kernel⟩, List.mem_of_getElem? (i := 1037) (by decide +kernel), List.mem_of_getElem? (i := 1522) (by decide +kernel), List.mem_of_getElem? (i := 1523) (by decide +kernel)⟩
theorem lw_p115 : lw_okq (⟨"MeshedPagesModel", "liftNow", "()V"⟩, 32) := ⟨⟨by decide +kernel, by decide +kernel⟩, List.mem_of_getElem? (i := 1037) (by decide +kernel), List.mem_of_getElem? (i := 1530) (by decide +kernel), List.mem_of_getElem? (i := 1531) (by decide +kernel)⟩
theorem lw_p116 : lw_okq (⟨"MeshedPagesModel", "compactNow", "()I"⟩, 32) := ⟨⟨by decide +kernel, by decide +kernel⟩, List.mem_of_getElem? (i := 1037) (by decide +kernel), List.mem_of_getElem? (i := 1538) (by decide +kernel), List.mem_of_getElem? (i := 1539) (by decide +kernel)⟩
theorem lw_p117 : lw_okq (⟨"MeshedPagesModel", "sparseFrames", "()I"⟩, 32) := ⟨⟨by decide +kernel, by decide +kernel⟩, List.mem_of_getElem? (i := 1037) (by decide +kernel), List.mem_of_getElem? (i := 1542) (by decide +kernel), List.mem_of_getElem? (i := 1543) (by decide +kernel)⟩
theorem lw_p118 : lw_okq (⟨"MeshedPagesModel", "probesNow", "()I"⟩, 32) := ⟨⟨by decide +kernel, by decide +kernel⟩, List.mem_of_getElem? (i := 1037) (by decide +kernel), List.mem_of_getElem? (i := 1546) (by decide +kernel), List.mem_of_getElem? (i := 1547) (by decide +kernel)⟩
theorem lw_p119 : lw_okq (⟨"MeshedPagesModel", "isPairMeshed", "(II)Z"⟩, 32) := ⟨⟨by decide +kernel, by decide +kernel⟩, List.mem_of_getElem? (i := 1037) (by decide +kernel), List.mem_of_getElem? (i := 1553) (by decide +kernel), List.mem_of_getElem? (i := 1554) (by decide +kernel)⟩
theorem lw_p120 : lw_okq (⟨"MeshedPagesModel", "arePassed", "(I)Z"⟩, 32) := ⟨⟨by decide +kernel, by decide +kernel⟩, List.mem_of_getElem? (i := 1037) (by decide +kernel), List.mem_of_getElem? (i := 1564) (by decide +kernel), List.mem_of_getElem? (i := 1565) (by decide +kernel)⟩
theorem lw_p121 : lw_okq (⟨"MeshedPagesModel", "pass", "()V"⟩, 32) := ⟨⟨by decide +kernel, by decide +kernel⟩, List.mem_of_getElem? (i := 1037) (by decide +kernel), List.mem_of_getElem? (i := 1568) (by decide +kernel), List.mem_of_getElem? (i := 1569) (by decide +kernel)⟩
theorem lw_p122 : lw_okq (⟨"MeshedPagesModel", "allLive", "()I"⟩, 32) := ⟨⟨by decide +kernel, by decide +kernel⟩, List.mem_of_getElem? (i := 1037) (by decide +kernel), List.mem_of_getElem? (i := 1572) (by decide +kernel), List.mem_of_getElem? (i := 1573) (by decide +kernel)⟩
theorem lw_p123 : lw_okq (⟨"MeshedPagesModel", "liveBy", "(I)I"⟩, 32) := ⟨⟨by decide +kernel, by decide +kernel⟩, List.mem_of_getElem? (i := 1037) (by decide +kernel), List.mem_of_getElem? (i := 1576) (by decide +kernel), List.mem_of_getElem? (i := 1577) (by decide +kernel)⟩
theorem lw_p124 : lw_okq (⟨"MeshedPagesModel", "isPlayed", "(I)Z"⟩, 32) := ⟨⟨by decide +kernel, by decide +kernel⟩, List.mem_of_getElem? (i := 1037) (by decide +kernel), List.mem_of_getElem? (i := 1584) (by decide +kernel), List.mem_of_getElem? (i := 1585) (by decide +kernel)⟩
theorem lw_p125 : lw_okq (⟨"MeshedPagesModel", "lineOf", "(II)I"⟩, 32) := ⟨⟨by decide +kernel, by decide +kernel⟩, List.mem_of_getElem? (i := 1037) (by decide +kernel), List.mem_of_getElem? (i := 1621) (by decide +kernel), List.mem_of_getElem? (i := 1622) (by decide +kernel)⟩
theorem lw_p126 : lw_okq (⟨"MeshedPagesModel", "putAside", "()V"⟩, 32) := ⟨⟨by decide +kernel, by decide +kernel⟩, List.mem_of_getElem? (i := 1037) (by decide +kernel), List.mem_of_getElem? (i := 1633) (by decide +kernel), List.mem_of_getElem? (i := 1634) (by decide +kernel)⟩
theorem lw_p127 : lw_okq (⟨"MeshedPagesModel", "bringBack", "()V"⟩, 32) := ⟨⟨by decide +kernel, by decide +kernel⟩, List.mem_of_getElem? (i := 1037) (by decide +kernel), List.mem_of_getElem? (i := 1637) (by decide +kernel), List.mem_of_getElem? (i := 1638) (by decide +kernel)⟩
def lw_privs_8 : List (MethodName × Nat) := [(⟨"MeshedPagesModel", "moveNow", "()I"⟩, 32), (⟨"MeshedPagesModel", "leftToCopy", "()I"⟩, 32), (⟨"MeshedPagesModel", "unbind", "()V"⟩, 32), (⟨"MeshedPagesModel", "liftNow", "()V"⟩, 32), (⟨"MeshedPagesModel", "compactNow", "()I"⟩, 32), (⟨"MeshedPagesModel", "sparseFrames", "()I"⟩, 32), (⟨"MeshedPagesModel", "probesNow", "()I"⟩, 32), (⟨"MeshedPagesModel", "isPairMeshed", "(II)Z"⟩, 32), (⟨"MeshedPagesModel", "arePassed", "(I)Z"⟩, 32), (⟨"MeshedPagesModel", "pass", "()V"⟩, 32), (⟨"MeshedPagesModel", "allLive", "()I"⟩, 32), (⟨"MeshedPagesModel", "liveBy", "(I)I"⟩, 32), (⟨"MeshedPagesModel", "isPlayed", "(I)Z"⟩, 32), (⟨"MeshedPagesModel", "lineOf", "(II)I"⟩, 32), (⟨"MeshedPagesModel", "putAside", "()V"⟩, 32), (⟨"MeshedPagesModel", "bringBack", "()V"⟩, 32)]
theorem lw_r8 : ∀ q ∈ lw_privs_8, lw_okq q := List.forall_mem_cons.mpr ⟨lw_p112, List.forall_mem_cons.mpr ⟨lw_p113, List.forall_mem_cons.mpr ⟨lw_p114, List.forall_mem_cons.mpr ⟨lw_p115, List.forall_mem_cons.mpr ⟨lw_p116, List.forall_mem_cons.mpr ⟨lw_p117, List.forall_mem_cons.mpr ⟨lw_p118, List.forall_mem_cons.mpr ⟨lw_p119, List.forall_mem_cons.mpr ⟨lw_p120, List.forall_mem_cons.mpr ⟨lw_p121, List.forall_mem_cons.mpr ⟨lw_p122, List.forall_mem_cons.mpr ⟨lw_p123, List.forall_mem_cons.mpr ⟨lw_p124, List.forall_mem_cons.mpr ⟨lw_p125, List.forall_mem_cons.mpr ⟨lw_p126, List.forall_mem_cons.mpr ⟨lw_p127, fun _ h => absurd h List.not_mem_nil⟩⟩⟩⟩⟩⟩⟩⟩⟩⟩⟩⟩⟩⟩⟩⟩
theorem lw_p128 : lw_okq (⟨"MeshedPagesModel", "layPairs", "(I)V"⟩, 32) := ⟨⟨by decide +kernel, by decide +kernel⟩, List.mem_of_getElem? (i := 1037) (by decide +kernel), List.mem_of_getElem? (i := 1676) (by decide +kernel), List.mem_of_getElem? (i := 1677) (by decide +kernel)⟩
theorem lw_p129 : lw_okq (⟨"MeshedPagesModel", "layLives", "()V"⟩, 32) := ⟨⟨by decide +kernel, by decide +kernel⟩, List.mem_of_getElem? (i := 1037) (by decide +kernel), List.mem_of_getElem? (i := 1680) (by decide +kernel), List.mem_of_getElem? (i := 1681) (by decide +kernel)⟩
theorem lw_p130 : lw_okq (⟨"MeshedPagesModel", "isPair", "(II)Z"⟩, 32) := ⟨⟨by decide +kernel, by decide +kernel⟩, List.mem_of_getElem? (i := 1037) (by decide +kernel), List.mem_of_getElem? (i := 1687) (by decide +kernel), List.mem_of_getElem? (i := 1688) (by decide +kernel)⟩
theorem lw_p131 : lw_okq (⟨"MeshedPagesModel", "layMates", "()V"⟩, 32) := ⟨⟨by decide +kernel, by decide +kernel⟩, List.mem_of_getElem? (i := 1037) (by decide +kernel), List.mem_of_getElem? (i := 1695) (by decide +kernel), List.mem_of_getElem? (i := 1696) (by decide +kernel)⟩
theorem lw_p132 : lw_okq (⟨"MeshedPagesModel", "mateIn", "(II)I"⟩, 32) := ⟨⟨by decide +kernel, by decide +kernel⟩, List.mem_of_getElem? (i := 1037) (by decide +kernel), List.mem_of_getElem? (i := 1699) (by decide +kernel), List.mem_of_getElem? (i := 1700) (by decide +kernel)⟩
theorem lw_p133 : lw_okq (⟨"MeshedPagesModel", "layUnited", "(I)V"⟩, 32) := ⟨⟨by decide +kernel, by decide +kernel⟩, List.mem_of_getElem? (i := 1037) (by decide +kernel), List.mem_of_getElem? (i := 1707) (by decide +kernel), List.mem_of_getElem? (i := 1708) (by decide +kernel)⟩
theorem lw_p134 : lw_okq (⟨"MeshedPagesModel", "isPageSound", "(I)Z"⟩, 32) := ⟨⟨by decide +kernel, by decide +kernel⟩, List.mem_of_getElem? (i := 1037) (by decide +kernel), List.mem_of_getElem? (i := 1743) (by decide +kernel), List.mem_of_getElem? (i := 1744) (by decide +kernel)⟩
def lw_privs_9 : List (MethodName × Nat) := [(⟨"MeshedPagesModel", "layPairs", "(I)V"⟩, 32), (⟨"MeshedPagesModel", "layLives", "()V"⟩, 32), (⟨"MeshedPagesModel", "isPair", "(II)Z"⟩, 32), (⟨"MeshedPagesModel", "layMates", "()V"⟩, 32), (⟨"MeshedPagesModel", "mateIn", "(II)I"⟩, 32), (⟨"MeshedPagesModel", "layUnited", "(I)V"⟩, 32), (⟨"MeshedPagesModel", "isPageSound", "(I)Z"⟩, 32)]
theorem lw_r9 : ∀ q ∈ lw_privs_9, lw_okq q := List.forall_mem_cons.mpr ⟨lw_p128, List.forall_mem_cons.mpr ⟨lw_p129, List.forall_mem_cons.mpr ⟨lw_p130, List.forall_mem_cons.mpr ⟨lw_p131, List.forall_mem_cons.mpr ⟨lw_p132, List.forall_mem_cons.mpr ⟨lw_p133, List.forall_mem_cons.mpr ⟨lw_p134, fun _ h => absurd h List.not_mem_nil⟩⟩⟩⟩⟩⟩⟩
def lw_privs : List (MethodName × Nat) := lw_privs_1 ++ (lw_privs_2 ++ (lw_privs_3 ++ (lw_privs_4 ++ (lw_privs_5 ++ (lw_privs_6 ++ (lw_privs_7 ++ (lw_privs_8 ++ (lw_privs_9))))))))
def lw_tbl : List Cond := k2_sels lw_privs ++ tables_1
theorem lw_privs_ok : ∀ q ∈ lw_privs, lw_okq q := by
  show ∀ q ∈ lw_privs_1 ++ (lw_privs_2 ++ (lw_privs_3 ++ (lw_privs_4 ++ (lw_privs_5 ++ (lw_privs_6 ++ (lw_privs_7 ++ (lw_privs_8 ++ (lw_privs_9)))))))), lw_okq q
  exact List.forall_mem_append.mpr ⟨lw_r1, List.forall_mem_append.mpr ⟨lw_r2, List.forall_mem_append.mpr ⟨lw_r3, List.forall_mem_append.mpr ⟨lw_r4, List.forall_mem_append.mpr ⟨lw_r5, List.forall_mem_append.mpr ⟨lw_r6, List.forall_mem_append.mpr ⟨lw_r7, List.forall_mem_append.mpr ⟨lw_r8, lw_r9⟩⟩⟩⟩⟩⟩⟩⟩
def RX0 : String := "MeshedPages$Cover"
def TX0 : u_T := fun k => match k with
  | 0 => ("MeshedPages$Cover", "count", "I", false)
  | 1 => ("MeshedPages$Cover", "fewest", "I", false)
  | 2 => ("MeshedPages$Cover", "least", "I", false)
  | 3 => ("MeshedPages$Cover", "frames", "[I", true)
  | 4 => ("MeshedPages$Cover", "lives", "[I", true)
  | _ => ("MeshedPages$Cover", "groups", "[I", true)
def tyX0 : Nat → FieldType := fun k => match k with
  | 0 => .int
  | 1 => .int
  | 2 => .int
  | 3 => .array .int
  | 4 => .array .int
  | _ => .array .int
abbrev wsX00 : List Cond := u_ws RX0 TX0 6
theorem nmX0 : ∀ a, a < 6 → ∀ b, b < 6 → a ≠ b → (TX0 a).2.1 ≠ (TX0 b).2.1 := by decide +kernel
theorem tyX0_ok : ∀ k, k < 6 → parseFieldDescriptor (TX0 k).2.2.1 = some (tyX0 k) := by decide +kernel
abbrev cX0_init : ByteArray := prog_2_method_1_code
def yX0_init : MethodName := ⟨RX0, "<init>", "()V"⟩
abbrev cX0_fewestFor : ByteArray := prog_2_method_2_code
def yX0_fewestFor : MethodName := ⟨RX0, "fewestFor", "(LMeshedPages$Pages;)I"⟩
abbrev cX0_takeWith : ByteArray := prog_2_method_3_code
def yX0_takeWith : MethodName := ⟨RX0, "takeWith", "(I)V"⟩
abbrev cX0_clashesOf : ByteArray := prog_2_method_4_code
def yX0_clashesOf : MethodName := ⟨RX0, "clashesOf", "(I)I"⟩
abbrev cX0_mostOnOneSlot : ByteArray := prog_2_method_5_code
def yX0_mostOnOneSlot : MethodName := ⟨RX0, "mostOnOneSlot", "()I"⟩
abbrev cX0_place : ByteArray := prog_2_method_6_code
def yX0_place : MethodName := ⟨RX0, "place", "(II)V"⟩
def RX1 : String := "MeshedPages$Pages"
def TX1 : u_T := fun k => match k with
  | 0 => ("MeshedPages$Pages", "day", "I", false)
  | 1 => ("MeshedPages$Pages", "x", "I", false)
  | 2 => ("MeshedPages$Pages", "meshed", "I", false)
  | 3 => ("MeshedPages$Pages", "goes", "I", false)
  | 4 => ("MeshedPages$Pages", "stays", "I", false)
  | 5 => ("MeshedPages$Pages", "moved", "I", false)
  | 6 => ("MeshedPages$Pages", "lines", "I", false)
  | 7 => ("MeshedPages$Pages", "frameOf", "[I", true)
  | 8 => ("MeshedPages$Pages", "live", "[I", true)
  | 9 => ("MeshedPages$Pages", "vectors", "[I", true)
  | 10 => ("MeshedPages$Pages", "values", "[I", true)
  | 11 => ("MeshedPages$Pages", "book", "[I", true)
  | _ => ("MeshedPages$Pages", "row", "[I", true)
def tyX1 : Nat → FieldType := fun k => match k with
  | 0 => .int
  | 1 => .int
  | 2 => .int
  | 3 => .int
  | 4 => .int
  | 5 => .int
  | 6 => .int
  | 7 => .array .int
  | 8 => .array .int
  | 9 => .array .int
  | 10 => .array .int
  | 11 => .array .int
  | _ => .array .int
abbrev wsX10 : List Cond := u_ws RX1 TX1 13
theorem nmX1 : ∀ a, a < 13 → ∀ b, b < 13 → a ≠ b → (TX1 a).2.1 ≠ (TX1 b).2.1 := by decide +kernel
theorem tyX1_ok : ∀ k, k < 13 → parseFieldDescriptor (TX1 k).2.2.1 = some (tyX1 k) := by decide +kernel
abbrev cX1_init : ByteArray := prog_3_method_1_code
def yX1_init : MethodName := ⟨RX1, "<init>", "()V"⟩
abbrev cX1_copyFrom : ByteArray := prog_3_method_2_code
def yX1_copyFrom : MethodName := ⟨RX1, "copyFrom", "(LMeshedPages$Pages;)V"⟩
abbrev cX1_isOpen : ByteArray := prog_3_method_3_code
def yX1_isOpen : MethodName := ⟨RX1, "isOpen", "(I)Z"⟩
abbrev cX1_isFenced : ByteArray := prog_3_method_4_code
def yX1_isFenced : MethodName := ⟨RX1, "isFenced", "(I)Z"⟩
abbrev cX1_isLive : ByteArray := prog_3_method_5_code
def yX1_isLive : MethodName := ⟨RX1, "isLive", "(I)Z"⟩
abbrev cX1_isReachable : ByteArray := prog_3_method_6_code
def yX1_isReachable : MethodName := ⟨RX1, "isReachable", "(I)Z"⟩
abbrev cX1_cellOf : ByteArray := prog_3_method_7_code
def yX1_cellOf : MethodName := ⟨RX1, "cellOf", "(I)I"⟩
abbrev cX1_valueAt : ByteArray := prog_3_method_8_code
def yX1_valueAt : MethodName := ⟨RX1, "valueAt", "(I)I"⟩
abbrev cX1_putAt : ByteArray := prog_3_method_9_code
def yX1_putAt : MethodName := ⟨RX1, "putAt", "(II)V"⟩
abbrev cX1_pagesIn : ByteArray := prog_3_method_10_code
def yX1_pagesIn : MethodName := ⟨RX1, "pagesIn", "(I)I"⟩
abbrev cX1_lowestPageIn : ByteArray := prog_3_method_11_code
def yX1_lowestPageIn : MethodName := ⟨RX1, "lowestPageIn", "(I)I"⟩
abbrev cX1_liveIn : ByteArray := prog_3_method_12_code
def yX1_liveIn : MethodName := ⟨RX1, "liveIn", "(I)I"⟩
abbrev cX1_framesUsed : ByteArray := prog_3_method_13_code
def yX1_framesUsed : MethodName := ⟨RX1, "framesUsed", "()I"⟩
abbrev cX1_openPages : ByteArray := prog_3_method_14_code
def yX1_openPages : MethodName := ⟨RX1, "openPages", "()I"⟩
abbrev cX1_liveTotal : ByteArray := prog_3_method_15_code
def yX1_liveTotal : MethodName := ⟨RX1, "liveTotal", "()I"⟩
abbrev cX1_sparseFrames : ByteArray := prog_3_method_16_code
def yX1_sparseFrames : MethodName := ⟨RX1, "sparseFrames", "()I"⟩
abbrev cX1_drawBelow : ByteArray := prog_3_method_17_code
def yX1_drawBelow : MethodName := ⟨RX1, "drawBelow", "(I)I"⟩
abbrev cX1_writeDown : ByteArray := prog_3_method_18_code
def yX1_writeDown : MethodName := ⟨RX1, "writeDown", "(III)V"⟩
abbrev cX1_slotToGive : ByteArray := prog_3_method_19_code
def yX1_slotToGive : MethodName := ⟨RX1, "slotToGive", "(I)I"⟩
abbrev cX1_lowestGivingPage : ByteArray := prog_3_method_20_code
def yX1_lowestGivingPage : MethodName := ⟨RX1, "lowestGivingPage", "()I"⟩
abbrev cX1_lowestNewPage : ByteArray := prog_3_method_21_code
def yX1_lowestNewPage : MethodName := ⟨RX1, "lowestNewPage", "()I"⟩
abbrev cX1_hasRoom : ByteArray := prog_3_method_22_code
def yX1_hasRoom : MethodName := ⟨RX1, "hasRoom", "()Z"⟩
abbrev cX1_lowestFreeFrame : ByteArray := prog_3_method_23_code
def yX1_lowestFreeFrame : MethodName := ⟨RX1, "lowestFreeFrame", "()I"⟩
abbrev cX1_openPage : ByteArray := prog_3_method_24_code
def yX1_openPage : MethodName := ⟨RX1, "openPage", "()I"⟩
abbrev cX1_giveOut : ByteArray := prog_3_method_25_code
def yX1_giveOut : MethodName := ⟨RX1, "giveOut", "(I)I"⟩
abbrev cX1_freeAt : ByteArray := prog_3_method_26_code
def yX1_freeAt : MethodName := ⟨RX1, "freeAt", "(I)I"⟩
abbrev cX1_isInFence : ByteArray := prog_3_method_27_code
def yX1_isInFence : MethodName := ⟨RX1, "isInFence", "(I)Z"⟩
abbrev cX1_hindrance : ByteArray := prog_3_method_28_code
def yX1_hindrance : MethodName := ⟨RX1, "hindrance", "(IILMeshedPages$Text;)I"⟩
abbrev cX1_secondGoes : ByteArray := prog_3_method_29_code
def yX1_secondGoes : MethodName := ⟨RX1, "secondGoes", "(II)Z"⟩
abbrev cX1_meshPages : ByteArray := prog_3_method_30_code
def yX1_meshPages : MethodName := ⟨RX1, "meshPages", "(II)I"⟩
abbrev cX1_copySlot : ByteArray := prog_3_method_31_code
def yX1_copySlot : MethodName := ⟨RX1, "copySlot", "(III)V"⟩
abbrev cX1_joinFrames : ByteArray := prog_3_method_32_code
def yX1_joinFrames : MethodName := ⟨RX1, "joinFrames", "(II)V"⟩
abbrev cX1_fencePages : ByteArray := prog_3_method_33_code
def yX1_fencePages : MethodName := ⟨RX1, "fencePages", "(II)I"⟩
abbrev cX1_slotsToMove : ByteArray := prog_3_method_34_code
def yX1_slotsToMove : MethodName := ⟨RX1, "slotsToMove", "()I"⟩
abbrev cX1_moveOne : ByteArray := prog_3_method_35_code
def yX1_moveOne : MethodName := ⟨RX1, "moveOne", "()I"⟩
abbrev cX1_liftFence : ByteArray := prog_3_method_36_code
def yX1_liftFence : MethodName := ⟨RX1, "liftFence", "()V"⟩
abbrev cX1_dropFence : ByteArray := prog_3_method_37_code
def yX1_dropFence : MethodName := ⟨RX1, "dropFence", "()V"⟩
abbrev cX1_drawSparse : ByteArray := prog_3_method_38_code
def yX1_drawSparse : MethodName := ⟨RX1, "drawSparse", "()I"⟩
abbrev cX1_compactBy : ByteArray := prog_3_method_39_code
def yX1_compactBy : MethodName := ⟨RX1, "compactBy", "(LMeshedPages$Text;)I"⟩
abbrev cX1_freeDrawn : ByteArray := prog_3_method_40_code
def yX1_freeDrawn : MethodName := ⟨RX1, "freeDrawn", "()Z"⟩
abbrev cX1_passDay : ByteArray := prog_3_method_41_code
def yX1_passDay : MethodName := ⟨RX1, "passDay", "(LMeshedPages$Text;)Z"⟩
abbrev cX1_isVectorWhole : ByteArray := prog_3_method_42_code
def yX1_isVectorWhole : MethodName := ⟨RX1, "isVectorWhole", "(I)Z"⟩
abbrev cX1_isSound : ByteArray := prog_3_method_43_code
def yX1_isSound : MethodName := ⟨RX1, "isSound", "()Z"⟩
def RX2 : String := "MeshedPages$Pairs"
def TX2 : u_T := fun k => match k with
  | 0 => ("MeshedPages$Pairs", "count", "I", false)
  | 1 => ("MeshedPages$Pairs", "frames", "[I", true)
  | 2 => ("MeshedPages$Pairs", "lives", "[I", true)
  | _ => ("MeshedPages$Pairs", "most", "[I", true)
def tyX2 : Nat → FieldType := fun k => match k with
  | 0 => .int
  | 1 => .array .int
  | 2 => .array .int
  | _ => .array .int
abbrev wsX20 : List Cond := u_ws RX2 TX2 4
theorem nmX2 : ∀ a, a < 4 → ∀ b, b < 4 → a ≠ b → (TX2 a).2.1 ≠ (TX2 b).2.1 := by decide +kernel
theorem tyX2_ok : ∀ k, k < 4 → parseFieldDescriptor (TX2 k).2.2.1 = some (tyX2 k) := by decide +kernel
abbrev cX2_init : ByteArray := prog_4_method_1_code
def yX2_init : MethodName := ⟨RX2, "<init>", "()V"⟩
abbrev cX2_countOf : ByteArray := prog_4_method_2_code
def yX2_countOf : MethodName := ⟨RX2, "countOf", "(LMeshedPages$Pages;)V"⟩
abbrev cX2_takeFrames : ByteArray := prog_4_method_3_code
def yX2_takeFrames : MethodName := ⟨RX2, "takeFrames", "(LMeshedPages$Pages;)V"⟩
abbrev cX2_mostWithLast : ByteArray := prog_4_method_4_code
def yX2_mostWithLast : MethodName := ⟨RX2, "mostWithLast", "(II)I"⟩
abbrev cX2_mostPairs : ByteArray := prog_4_method_5_code
def yX2_mostPairs : MethodName := ⟨RX2, "mostPairs", "()I"⟩
abbrev cX2_mateOf : ByteArray := prog_4_method_6_code
def yX2_mateOf : MethodName := ⟨RX2, "mateOf", "(I)I"⟩
abbrev cX2_lowestMate : ByteArray := prog_4_method_7_code
def yX2_lowestMate : MethodName := ⟨RX2, "lowestMate", "(II)I"⟩
def RX3 : String := "MeshedPages$Reader"
def TX3 : u_T := fun k => match k with
  | 0 => ("MeshedPages$Reader", "tape", "[I", true)
  | 1 => ("MeshedPages$Reader", "size", "I", false)
  | 2 => ("MeshedPages$Reader", "fault", "I", false)
  | 3 => ("MeshedPages$Reader", "place", "I", false)
  | 4 => ("MeshedPages$Reader", "kinds", "[I", true)
  | 5 => ("MeshedPages$Reader", "numbers", "[I", true)
  | 6 => ("MeshedPages$Reader", "places", "[I", true)
  | 7 => ("MeshedPages$Reader", "count", "I", false)
  | 8 => ("MeshedPages$Reader", "at", "I", false)
  | 9 => ("MeshedPages$Reader", "law", "I", false)
  | _ => ("MeshedPages$Reader", "text", "LMeshedPages$Text;", false)
def tyX3 : Nat → FieldType := fun k => match k with
  | 0 => .array .int
  | 1 => .int
  | 2 => .int
  | 3 => .int
  | 4 => .array .int
  | 5 => .array .int
  | 6 => .array .int
  | 7 => .int
  | 8 => .int
  | 9 => .int
  | _ => .object "MeshedPages$Text"
abbrev wsX30 : List Cond := u_ws RX3 TX3 11
theorem nmX3 : ∀ a, a < 11 → ∀ b, b < 11 → a ≠ b → (TX3 a).2.1 ≠ (TX3 b).2.1 := by decide +kernel
theorem tyX3_ok : ∀ k, k < 11 → parseFieldDescriptor (TX3 k).2.2.1 = some (tyX3 k) := by decide +kernel
abbrev cX3_init : ByteArray := prog_5_method_1_code
def yX3_init : MethodName := ⟨RX3, "<init>", "()V"⟩
abbrev cX3_takeFour : ByteArray := prog_5_method_2_code
def yX3_takeFour : MethodName := ⟨RX3, "takeFour", "(I)V"⟩
abbrev cX3_readInto : ByteArray := prog_5_method_3_code
def yX3_readInto : MethodName := ⟨RX3, "readInto", "(LMeshedPages$Text;)V"⟩
abbrev cX3_scan : ByteArray := prog_5_method_4_code
def yX3_scan : MethodName := ⟨RX3, "scan", "()V"⟩
abbrev cX3_addToken : ByteArray := prog_5_method_5_code
def yX3_addToken : MethodName := ⟨RX3, "addToken", "(III)V"⟩
abbrev cX3_scanToken : ByteArray := prog_5_method_6_code
def yX3_scanToken : MethodName := ⟨RX3, "scanToken", "(I)I"⟩
abbrev cX3_scanNumber : ByteArray := prog_5_method_7_code
def yX3_scanNumber : MethodName := ⟨RX3, "scanNumber", "(I)I"⟩
abbrev cX3_endOfWord : ByteArray := prog_5_method_8_code
def yX3_endOfWord : MethodName := ⟨RX3, "endOfWord", "(I)I"⟩
abbrev cX3_isLetter : ByteArray := prog_5_method_9_code
def yX3_isLetter : MethodName := ⟨RX3, "isLetter", "(I)Z"⟩
abbrev cX3_isDigit : ByteArray := prog_5_method_10_code
def yX3_isDigit : MethodName := ⟨RX3, "isDigit", "(I)Z"⟩
abbrev cX3_wordKind : ByteArray := prog_5_method_11_code
def yX3_wordKind : MethodName := ⟨RX3, "wordKind", "(II)I"⟩
abbrev cX3_spells : ByteArray := prog_5_method_12_code
def yX3_spells : MethodName := ⟨RX3, "spells", "(III)Z"⟩
abbrev cX3_signKind : ByteArray := prog_5_method_13_code
def yX3_signKind : MethodName := ⟨RX3, "signKind", "(I)I"⟩
abbrev cX3_kind : ByteArray := prog_5_method_14_code
def yX3_kind : MethodName := ⟨RX3, "kind", "()I"⟩
abbrev cX3_fail : ByteArray := prog_5_method_15_code
def yX3_fail : MethodName := ⟨RX3, "fail", "(I)V"⟩
abbrev cX3_take : ByteArray := prog_5_method_16_code
def yX3_take : MethodName := ⟨RX3, "take", "(I)V"⟩
abbrev cX3_readClause : ByteArray := prog_5_method_17_code
def yX3_readClause : MethodName := ⟨RX3, "readClause", "()V"⟩
abbrev cX3_readNumber : ByteArray := prog_5_method_18_code
def yX3_readNumber : MethodName := ⟨RX3, "readNumber", "(II)I"⟩
abbrev cX3_readLaw : ByteArray := prog_5_method_19_code
def yX3_readLaw : MethodName := ⟨RX3, "readLaw", "(I)V"⟩
abbrev cX3_readSum : ByteArray := prog_5_method_20_code
def yX3_readSum : MethodName := ⟨RX3, "readSum", "(I)V"⟩
abbrev cX3_readProduct : ByteArray := prog_5_method_21_code
def yX3_readProduct : MethodName := ⟨RX3, "readProduct", "(I)V"⟩
abbrev cX3_readOne : ByteArray := prog_5_method_22_code
def yX3_readOne : MethodName := ⟨RX3, "readOne", "(I)V"⟩
abbrev cX3_opens : ByteArray := prog_5_method_23_code
def yX3_opens : MethodName := ⟨RX3, "opens", "(I)Z"⟩
abbrev cX3_readName : ByteArray := prog_5_method_24_code
def yX3_readName : MethodName := ⟨RX3, "readName", "(I)V"⟩
abbrev cX3_readChoice : ByteArray := prog_5_method_25_code
def yX3_readChoice : MethodName := ⟨RX3, "readChoice", "(I)V"⟩
abbrev cX3_readEither : ByteArray := prog_5_method_26_code
def yX3_readEither : MethodName := ⟨RX3, "readEither", "(I)V"⟩
abbrev cX3_readBoth : ByteArray := prog_5_method_27_code
def yX3_readBoth : MethodName := ⟨RX3, "readBoth", "(I)V"⟩
abbrev cX3_readAsk : ByteArray := prog_5_method_28_code
def yX3_readAsk : MethodName := ⟨RX3, "readAsk", "(I)V"⟩
def RX4 : String := "MeshedPages$Steps"
def TX4 : u_T := fun k => match k with
  | 0 => ("MeshedPages$Steps", "ahead", "[LMeshedPages$Pages;", true)
  | 1 => ("MeshedPages$Steps", "first", "I", false)
  | _ => ("MeshedPages$Steps", "count", "I", false)
def tyX4 : Nat → FieldType := fun k => match k with
  | 0 => .array (.object "MeshedPages$Pages")
  | 1 => .int
  | _ => .int
abbrev wsX40 : List Cond := u_ws RX4 TX4 3
theorem nmX4 : ∀ a, a < 3 → ∀ b, b < 3 → a ≠ b → (TX4 a).2.1 ≠ (TX4 b).2.1 := by decide +kernel
theorem tyX4_ok : ∀ k, k < 3 → parseFieldDescriptor (TX4 k).2.2.1 = some (tyX4 k) := by decide +kernel
abbrev cX4_init : ByteArray := prog_6_method_1_code
def yX4_init : MethodName := ⟨RX4, "<init>", "()V"⟩
abbrev cX4_stepAt : ByteArray := prog_6_method_2_code
def yX4_stepAt : MethodName := ⟨RX4, "stepAt", "(I)LMeshedPages$Pages;"⟩
abbrev cX4_keep : ByteArray := prog_6_method_3_code
def yX4_keep : MethodName := ⟨RX4, "keep", "(LMeshedPages$Pages;)V"⟩
abbrev cX4_takeBack : ByteArray := prog_6_method_4_code
def yX4_takeBack : MethodName := ⟨RX4, "takeBack", "(LMeshedPages$Pages;)V"⟩
abbrev cX4_copyFrom : ByteArray := prog_6_method_5_code
def yX4_copyFrom : MethodName := ⟨RX4, "copyFrom", "(LMeshedPages$Steps;)V"⟩
def RX5 : String := "MeshedPages$Text"
def TX5 : u_T := fun k => match k with
  | 0 => ("MeshedPages$Text", "clauses", "I", false)
  | 1 => ("MeshedPages$Text", "kinds", "[I", true)
  | 2 => ("MeshedPages$Text", "firsts", "[I", true)
  | 3 => ("MeshedPages$Text", "seconds", "[I", true)
  | 4 => ("MeshedPages$Text", "starts", "[I", true)
  | 5 => ("MeshedPages$Text", "ends", "[I", true)
  | 6 => ("MeshedPages$Text", "length", "I", false)
  | 7 => ("MeshedPages$Text", "codes", "[I", true)
  | 8 => ("MeshedPages$Text", "numbers", "[I", true)
  | 9 => ("MeshedPages$Text", "names", "[I", true)
  | _ => ("MeshedPages$Text", "stack", "[I", true)
def tyX5 : Nat → FieldType := fun k => match k with
  | 0 => .int
  | 1 => .array .int
  | 2 => .array .int
  | 3 => .array .int
  | 4 => .array .int
  | 5 => .array .int
  | 6 => .int
  | 7 => .array .int
  | 8 => .array .int
  | 9 => .array .int
  | _ => .array .int
abbrev wsX50 : List Cond := u_ws RX5 TX5 11
theorem nmX5 : ∀ a, a < 11 → ∀ b, b < 11 → a ≠ b → (TX5 a).2.1 ≠ (TX5 b).2.1 := by decide +kernel
theorem tyX5_ok : ∀ k, k < 11 → parseFieldDescriptor (TX5 k).2.2.1 = some (tyX5 k) := by decide +kernel
abbrev cX5_init : ByteArray := prog_7_method_1_code
def yX5_init : MethodName := ⟨RX5, "<init>", "()V"⟩
abbrev cX5_clear : ByteArray := prog_7_method_2_code
def yX5_clear : MethodName := ⟨RX5, "clear", "()V"⟩
abbrev cX5_hasLaw : ByteArray := prog_7_method_3_code
def yX5_hasLaw : MethodName := ⟨RX5, "hasLaw", "(I)Z"⟩
abbrev cX5_isLaw : ByteArray := prog_7_method_4_code
def yX5_isLaw : MethodName := ⟨RX5, "isLaw", "(I)Z"⟩
abbrev cX5_startLaw : ByteArray := prog_7_method_5_code
def yX5_startLaw : MethodName := ⟨RX5, "startLaw", "(I)V"⟩
abbrev cX5_endLaw : ByteArray := prog_7_method_6_code
def yX5_endLaw : MethodName := ⟨RX5, "endLaw", "(I)V"⟩
abbrev cX5_addClause : ByteArray := prog_7_method_7_code
def yX5_addClause : MethodName := ⟨RX5, "addClause", "(III)V"⟩
abbrev cX5_addCode : ByteArray := prog_7_method_8_code
def yX5_addCode : MethodName := ⟨RX5, "addCode", "(II)I"⟩
abbrev cX5_jumpHereFrom : ByteArray := prog_7_method_9_code
def yX5_jumpHereFrom : MethodName := ⟨RX5, "jumpHereFrom", "(I)V"⟩
abbrev cX5_probesIn : ByteArray := prog_7_method_10_code
def yX5_probesIn : MethodName := ⟨RX5, "probesIn", "(LMeshedPages$Pages;)I"⟩
abbrev cX5_worth : ByteArray := prog_7_method_11_code
def yX5_worth : MethodName := ⟨RX5, "worth", "(ILMeshedPages$Pages;II)I"⟩
abbrev cX5_isPushed : ByteArray := prog_7_method_12_code
def yX5_isPushed : MethodName := ⟨RX5, "isPushed", "(I)Z"⟩
abbrev cX5_turned : ByteArray := prog_7_method_13_code
def yX5_turned : MethodName := ⟨RX5, "turned", "(IILMeshedPages$Pages;)I"⟩
abbrev cX5_joined : ByteArray := prog_7_method_14_code
def yX5_joined : MethodName := ⟨RX5, "joined", "(III)J"⟩
abbrev cX5_limited : ByteArray := prog_7_method_15_code
def yX5_limited : MethodName := ⟨RX5, "limited", "(J)I"⟩
def RX6 : String := "MeshedPages$Whole"
def TX6 : u_T := fun k => match k with
  | 0 => ("MeshedPages$Whole", "pages", "LMeshedPages$Pages;", true)
  | 1 => ("MeshedPages$Whole", "steps", "LMeshedPages$Steps;", true)
  | 2 => ("MeshedPages$Whole", "said", "[I", true)
  | 3 => ("MeshedPages$Whole", "saids", "I", false)
  | 4 => ("MeshedPages$Whole", "texts", "I", false)
  | _ => ("MeshedPages$Whole", "ruling", "I", false)
def tyX6 : Nat → FieldType := fun k => match k with
  | 0 => .object "MeshedPages$Pages"
  | 1 => .object "MeshedPages$Steps"
  | 2 => .array .int
  | 3 => .int
  | 4 => .int
  | _ => .int
abbrev wsX60 : List Cond := u_ws RX6 TX6 6
theorem nmX6 : ∀ a, a < 6 → ∀ b, b < 6 → a ≠ b → (TX6 a).2.1 ≠ (TX6 b).2.1 := by decide +kernel
theorem tyX6_ok : ∀ k, k < 6 → parseFieldDescriptor (TX6 k).2.2.1 = some (tyX6 k) := by decide +kernel
abbrev cX6_init : ByteArray := prog_8_method_1_code
def yX6_init : MethodName := ⟨RX6, "<init>", "()V"⟩
abbrev cX6_copyFrom : ByteArray := prog_8_method_2_code
def yX6_copyFrom : MethodName := ⟨RX6, "copyFrom", "(LMeshedPages$Whole;)V"⟩
def RX7 : String := "MeshedPages"
def TX7 : u_T := fun k => match k with
  | 0 => ("MeshedPages", "reader", "LMeshedPages$Reader;", true)
  | 1 => ("MeshedPages", "texts", "[LMeshedPages$Text;", true)
  | 2 => ("MeshedPages", "lawless", "LMeshedPages$Text;", true)
  | 3 => ("MeshedPages", "now", "LMeshedPages$Whole;", true)
  | 4 => ("MeshedPages", "kept", "LMeshedPages$Whole;", true)
  | 5 => ("MeshedPages", "trial", "LMeshedPages$Pages;", true)
  | 6 => ("MeshedPages", "pairs", "LMeshedPages$Pairs;", true)
  | _ => ("MeshedPages", "cover", "LMeshedPages$Cover;", true)
def tyX7 : Nat → FieldType := fun k => match k with
  | 0 => .object "MeshedPages$Reader"
  | 1 => .array (.object "MeshedPages$Text")
  | 2 => .object "MeshedPages$Text"
  | 3 => .object "MeshedPages$Whole"
  | 4 => .object "MeshedPages$Whole"
  | 5 => .object "MeshedPages$Pages"
  | 6 => .object "MeshedPages$Pairs"
  | _ => .object "MeshedPages$Cover"
abbrev wsX70 : List Cond := u_ws RX7 TX7 8
theorem nmX7 : ∀ a, a < 8 → ∀ b, b < 8 → a ≠ b → (TX7 a).2.1 ≠ (TX7 b).2.1 := by decide +kernel
theorem tyX7_ok : ∀ k, k < 8 → parseFieldDescriptor (TX7 k).2.2.1 = some (tyX7 k) := by decide +kernel
abbrev cX7_init : ByteArray := prog_1_method_1_code
def yX7_init : MethodName := ⟨RX7, "<init>", "()V"⟩
abbrev cX7_feed : ByteArray := prog_1_method_2_code
def yX7_feed : MethodName := ⟨RX7, "feed", "(IIIII)I"⟩
abbrev cX7_end : ByteArray := prog_1_method_3_code
def yX7_end : MethodName := ⟨RX7, "end", "(I)I"⟩
abbrev cX7_text : ByteArray := prog_1_method_4_code
def yX7_text : MethodName := ⟨RX7, "text", "()I"⟩
abbrev cX7_fault : ByteArray := prog_1_method_5_code
def yX7_fault : MethodName := ⟨RX7, "fault", "(I)I"⟩
abbrev cX7_by : ByteArray := prog_1_method_6_code
def yX7_by : MethodName := ⟨RX7, "by", "(I)Z"⟩
abbrev cX7_give : ByteArray := prog_1_method_7_code
def yX7_give : MethodName := ⟨RX7, "give", "(I)I"⟩
abbrev cX7_free : ByteArray := prog_1_method_8_code
def yX7_free : MethodName := ⟨RX7, "free", "(I)I"⟩
abbrev cX7_write : ByteArray := prog_1_method_9_code
def yX7_write : MethodName := ⟨RX7, "write", "(II)Z"⟩
abbrev cX7_mesh : ByteArray := prog_1_method_10_code
def yX7_mesh : MethodName := ⟨RX7, "mesh", "(II)I"⟩
abbrev cX7_fence : ByteArray := prog_1_method_11_code
def yX7_fence : MethodName := ⟨RX7, "fence", "(II)I"⟩
abbrev cX7_move : ByteArray := prog_1_method_12_code
def yX7_move : MethodName := ⟨RX7, "move", "()I"⟩
abbrev cX7_lift : ByteArray := prog_1_method_13_code
def yX7_lift : MethodName := ⟨RX7, "lift", "()Z"⟩
abbrev cX7_compact : ByteArray := prog_1_method_14_code
def yX7_compact : MethodName := ⟨RX7, "compact", "()I"⟩
abbrev cX7_day : ByteArray := prog_1_method_15_code
def yX7_day : MethodName := ⟨RX7, "day", "(I)I"⟩
abbrev cX7_played : ByteArray := prog_1_method_16_code
def yX7_played : MethodName := ⟨RX7, "played", "(I)I"⟩
abbrev cX7_years : ByteArray := prog_1_method_17_code
def yX7_years : MethodName := ⟨RX7, "years", "(II)I"⟩
abbrev cX7_undo : ByteArray := prog_1_method_18_code
def yX7_undo : MethodName := ⟨RX7, "undo", "()I"⟩
abbrev cX7_at : ByteArray := prog_1_method_19_code
def yX7_at : MethodName := ⟨RX7, "at", "(I)I"⟩
abbrev cX7_page : ByteArray := prog_1_method_20_code
def yX7_page : MethodName := ⟨RX7, "page", "(II)I"⟩
abbrev cX7_vector : ByteArray := prog_1_method_21_code
def yX7_vector : MethodName := ⟨RX7, "vector", "(II)I"⟩
abbrev cX7_frame : ByteArray := prog_1_method_22_code
def yX7_frame : MethodName := ⟨RX7, "frame", "(II)I"⟩
abbrev cX7_is : ByteArray := prog_1_method_23_code
def yX7_is : MethodName := ⟨RX7, "is", "(I)I"⟩
abbrev cX7_book : ByteArray := prog_1_method_24_code
def yX7_book : MethodName := ⟨RX7, "book", "(II)I"⟩
abbrev cX7_foretold : ByteArray := prog_1_method_25_code
def yX7_foretold : MethodName := ⟨RX7, "foretold", "(II)I"⟩
abbrev cX7_clash : ByteArray := prog_1_method_26_code
def yX7_clash : MethodName := ⟨RX7, "clash", "(II)I"⟩
abbrev cX7_can : ByteArray := prog_1_method_27_code
def yX7_can : MethodName := ⟨RX7, "can", "(II)I"⟩
abbrev cX7_odds : ByteArray := prog_1_method_28_code
def yX7_odds : MethodName := ⟨RX7, "odds", "(IIZ)J"⟩
abbrev cX7_expected : ByteArray := prog_1_method_29_code
def yX7_expected : MethodName := ⟨RX7, "expected", "(Z)J"⟩
abbrev cX7_most : ByteArray := prog_1_method_30_code
def yX7_most : MethodName := ⟨RX7, "most", "()I"⟩
abbrev cX7_mate : ByteArray := prog_1_method_31_code
def yX7_mate : MethodName := ⟨RX7, "mate", "(I)I"⟩
abbrev cX7_fewest : ByteArray := prog_1_method_32_code
def yX7_fewest : MethodName := ⟨RX7, "fewest", "()I"⟩
abbrev cX7_would : ByteArray := prog_1_method_33_code
def yX7_would : MethodName := ⟨RX7, "would", "()I"⟩
abbrev cX7_sparse : ByteArray := prog_1_method_34_code
def yX7_sparse : MethodName := ⟨RX7, "sparse", "()I"⟩
abbrev cX7_runs : ByteArray := prog_1_method_35_code
def yX7_runs : MethodName := ⟨RX7, "runs", "(I)I"⟩
abbrev cX7_longest : ByteArray := prog_1_method_36_code
def yX7_longest : MethodName := ⟨RX7, "longest", "(I)I"⟩
abbrev cX7_find : ByteArray := prog_1_method_37_code
def yX7_find : MethodName := ⟨RX7, "find", "(III)I"⟩
abbrev cX7_same : ByteArray := prog_1_method_38_code
def yX7_same : MethodName := ⟨RX7, "same", "(II)I"⟩
abbrev cX7_sum : ByteArray := prog_1_method_39_code
def yX7_sum : MethodName := ⟨RX7, "sum", "(I)I"⟩
abbrev cX7_holds : ByteArray := prog_1_method_40_code
def yX7_holds : MethodName := ⟨RX7, "holds", "(I)I"⟩
abbrev cX7_fullest : ByteArray := prog_1_method_41_code
def yX7_fullest : MethodName := ⟨RX7, "fullest", "()I"⟩
abbrev cX7_sound : ByteArray := prog_1_method_42_code
def yX7_sound : MethodName := ⟨RX7, "sound", "()Z"⟩
abbrev cX7_probes : ByteArray := prog_1_method_43_code
def yX7_probes : MethodName := ⟨RX7, "probes", "()I"⟩
abbrev cX7_meshes : ByteArray := prog_1_method_44_code
def yX7_meshes : MethodName := ⟨RX7, "meshes", "(II)Z"⟩
abbrev cX7_said : ByteArray := prog_1_method_45_code
def yX7_said : MethodName := ⟨RX7, "said", "(III)I"⟩
abbrev cX7_whose : ByteArray := prog_1_method_46_code
def yX7_whose : MethodName := ⟨RX7, "whose", "()I"⟩
abbrev cX7_ledger : ByteArray := prog_1_method_47_code
def yX7_ledger : MethodName := ⟨RX7, "ledger", "(I)I"⟩
abbrev cX7_image : ByteArray := prog_1_method_48_code
def yX7_image : MethodName := ⟨RX7, "image", "()I"⟩
abbrev cX7_back : ByteArray := prog_1_method_49_code
def yX7_back : MethodName := ⟨RX7, "back", "()I"⟩
abbrev cX7_about : ByteArray := prog_1_method_50_code
def yX7_about : MethodName := ⟨RX7, "about", "(I)I"⟩
abbrev cX7_isText : ByteArray := prog_1_method_51_code
def yX7_isText : MethodName := ⟨RX7, "isText", "(I)Z"⟩
abbrev cX7_ruling : ByteArray := prog_1_method_52_code
def yX7_ruling : MethodName := ⟨RX7, "ruling", "()LMeshedPages$Text;"⟩
abbrev cX7_passDays : ByteArray := prog_1_method_53_code
def yX7_passDays : MethodName := ⟨RX7, "passDays", "(I)I"⟩
abbrev cX7_saysAll : ByteArray := prog_1_method_54_code
def yX7_saysAll : MethodName := ⟨RX7, "saysAll", "(LMeshedPages$Text;)Z"⟩
abbrev cX7_isPage : ByteArray := prog_1_method_55_code
def yX7_isPage : MethodName := ⟨RX7, "isPage", "(I)Z"⟩
abbrev cX7_isValue : ByteArray := prog_1_method_56_code
def yX7_isValue : MethodName := ⟨RX7, "isValue", "(I)Z"⟩
abbrev cX7_waysToChoose : ByteArray := prog_1_method_57_code
def yX7_waysToChoose : MethodName := ⟨RX7, "waysToChoose", "(II)J"⟩
abbrev cX7_commonWays : ByteArray := prog_1_method_58_code
def yX7_commonWays : MethodName := ⟨RX7, "commonWays", "(II)J"⟩
abbrev cX7_lowestTerm : ByteArray := prog_1_method_59_code
def yX7_lowestTerm : MethodName := ⟨RX7, "lowestTerm", "(JJZ)J"⟩
def RX8 : String := "MeshedPagesModel"
def TX8 : u_T := fun k => match k with
  | 0 => ("MeshedPagesModel", "a", "[I", true)
  | 1 => ("MeshedPagesModel", "image", "[I", true)
  | 2 => ("MeshedPagesModel", "texts", "[I", true)
  | 3 => ("MeshedPagesModel", "tape", "[I", true)
  | 4 => ("MeshedPagesModel", "taped", "I", false)
  | 5 => ("MeshedPagesModel", "fault", "I", false)
  | 6 => ("MeshedPagesModel", "faultPlace", "I", false)
  | 7 => ("MeshedPagesModel", "cursor", "I", false)
  | 8 => ("MeshedPagesModel", "place", "I", false)
  | 9 => ("MeshedPagesModel", "token", "I", false)
  | 10 => ("MeshedPagesModel", "number", "I", false)
  | 11 => ("MeshedPagesModel", "word", "J", false)
  | 12 => ("MeshedPagesModel", "text0", "I", false)
  | 13 => ("MeshedPagesModel", "written", "I", false)
  | 14 => ("MeshedPagesModel", "sort0", "I", false)
  | 15 => ("MeshedPagesModel", "pile", "[I", true)
  | 16 => ("MeshedPagesModel", "piled", "I", false)
  | 17 => ("MeshedPagesModel", "opens", "I", false)
  | 18 => ("MeshedPagesModel", "isWhole", "Z", false)
  | 19 => ("MeshedPagesModel", "once", "I", false)
  | 20 => ("MeshedPagesModel", "named", "[I", true)
  | 21 => ("MeshedPagesModel", "values", "[J", true)
  | 22 => ("MeshedPagesModel", "truth", "[Z", true)
  | 23 => ("MeshedPagesModel", "row", "[I", true)
  | 24 => ("MeshedPagesModel", "isMeshed", "[Z", true)
  | 25 => ("MeshedPagesModel", "things", "I", false)
  | 26 => ("MeshedPagesModel", "aside", "[I", true)
  | 27 => ("MeshedPagesModel", "lives", "[I", true)
  | 28 => ("MeshedPagesModel", "pairs", "[I", true)
  | 29 => ("MeshedPagesModel", "united", "[I", true)
  | 30 => ("MeshedPagesModel", "groups", "[I", true)
  | _ => ("MeshedPagesModel", "mates", "[I", true)
def tyX8 : Nat → FieldType := fun k => match k with
  | 0 => .array .int
  | 1 => .array .int
  | 2 => .array .int
  | 3 => .array .int
  | 4 => .int
  | 5 => .int
  | 6 => .int
  | 7 => .int
  | 8 => .int
  | 9 => .int
  | 10 => .int
  | 11 => .long
  | 12 => .int
  | 13 => .int
  | 14 => .int
  | 15 => .array .int
  | 16 => .int
  | 17 => .int
  | 18 => .boolean
  | 19 => .int
  | 20 => .array .int
  | 21 => .array .long
  | 22 => .array .boolean
  | 23 => .array .int
  | 24 => .array .boolean
  | 25 => .int
  | 26 => .array .int
  | 27 => .array .int
  | 28 => .array .int
  | 29 => .array .int
  | 30 => .array .int
  | _ => .array .int
abbrev wsX80 : List Cond := u_ws RX8 TX8 32
theorem nmX8 : ∀ a, a < 32 → ∀ b, b < 32 → a ≠ b → (TX8 a).2.1 ≠ (TX8 b).2.1 := by decide +kernel
theorem tyX8_ok : ∀ k, k < 32 → parseFieldDescriptor (TX8 k).2.2.1 = some (tyX8 k) := by decide +kernel
abbrev cX8_init : ByteArray := prog_10_method_1_code
def yX8_init : MethodName := ⟨RX8, "<init>", "()V"⟩
abbrev cX8_copy : ByteArray := prog_10_method_2_code
def yX8_copy : MethodName := ⟨RX8, "copy", "([I[I)V"⟩
abbrev cX8_isIn : ByteArray := prog_10_method_3_code
def yX8_isIn : MethodName := ⟨RX8, "isIn", "(III)Z"⟩
abbrev cX8_held : ByteArray := prog_10_method_4_code
def yX8_held : MethodName := ⟨RX8, "held", "(JII)I"⟩
abbrev cX8_has : ByteArray := prog_10_method_5_code
def yX8_has : MethodName := ⟨RX8, "has", "(II)Z"⟩
abbrev cX8_bitsOf : ByteArray := prog_10_method_6_code
def yX8_bitsOf : MethodName := ⟨RX8, "bitsOf", "(I)I"⟩
abbrev cX8_isNumber : ByteArray := prog_10_method_7_code
def yX8_isNumber : MethodName := ⟨RX8, "isNumber", "(I)Z"⟩
abbrev cX8_isOpen : ByteArray := prog_10_method_8_code
def yX8_isOpen : MethodName := ⟨RX8, "isOpen", "(I)Z"⟩
abbrev cX8_areOpen : ByteArray := prog_10_method_9_code
def yX8_areOpen : MethodName := ⟨RX8, "areOpen", "(II)Z"⟩
abbrev cX8_pagesIn : ByteArray := prog_10_method_10_code
def yX8_pagesIn : MethodName := ⟨RX8, "pagesIn", "(I)I"⟩
abbrev cX8_liveIn : ByteArray := prog_10_method_11_code
def yX8_liveIn : MethodName := ⟨RX8, "liveIn", "(I)I"⟩
abbrev cX8_isUsed : ByteArray := prog_10_method_12_code
def yX8_isUsed : MethodName := ⟨RX8, "isUsed", "(I)Z"⟩
abbrev cX8_usedFrames : ByteArray := prog_10_method_13_code
def yX8_usedFrames : MethodName := ⟨RX8, "usedFrames", "()I"⟩
abbrev cX8_openPages : ByteArray := prog_10_method_14_code
def yX8_openPages : MethodName := ⟨RX8, "openPages", "()I"⟩
abbrev cX8_allLive : ByteArray := prog_10_method_15_code
def yX8_allLive : MethodName := ⟨RX8, "allLive", "()I"⟩
abbrev cX8_isFenced : ByteArray := prog_10_method_16_code
def yX8_isFenced : MethodName := ⟨RX8, "isFenced", "(I)Z"⟩
abbrev cX8_isBound : ByteArray := prog_10_method_17_code
def yX8_isBound : MethodName := ⟨RX8, "isBound", "(I)Z"⟩
abbrev cX8_sparseFrames : ByteArray := prog_10_method_18_code
def yX8_sparseFrames : MethodName := ⟨RX8, "sparseFrames", "()I"⟩
abbrev cX8_isLive : ByteArray := prog_10_method_19_code
def yX8_isLive : MethodName := ⟨RX8, "isLive", "(I)Z"⟩
abbrev cX8_valueAt : ByteArray := prog_10_method_20_code
def yX8_valueAt : MethodName := ⟨RX8, "valueAt", "(II)I"⟩
abbrev cX8_four : ByteArray := prog_10_method_21_code
def yX8_four : MethodName := ⟨RX8, "four", "(I)V"⟩
abbrev cX8_feed : ByteArray := prog_10_method_22_code
def yX8_feed : MethodName := ⟨RX8, "feed", "(IIIII)I"⟩
abbrev cX8_end : ByteArray := prog_10_method_23_code
def yX8_end : MethodName := ⟨RX8, "end", "(I)I"⟩
abbrev cX8_byteAt : ByteArray := prog_10_method_24_code
def yX8_byteAt : MethodName := ⟨RX8, "byteAt", "(I)I"⟩
abbrev cX8_isLetterByte : ByteArray := prog_10_method_25_code
def yX8_isLetterByte : MethodName := ⟨RX8, "isLetterByte", "(I)Z"⟩
abbrev cX8_isFigure : ByteArray := prog_10_method_26_code
def yX8_isFigure : MethodName := ⟨RX8, "isFigure", "(I)Z"⟩
abbrev cX8_isSign : ByteArray := prog_10_method_27_code
def yX8_isSign : MethodName := ⟨RX8, "isSign", "(I)Z"⟩
abbrev cX8_nextToken : ByteArray := prog_10_method_28_code
def yX8_nextToken : MethodName := ⟨RX8, "nextToken", "()V"⟩
abbrev cX8_w2 : ByteArray := prog_10_method_29_code
def yX8_w2 : MethodName := ⟨RX8, "w2", "(II)J"⟩
abbrev cX8_w3 : ByteArray := prog_10_method_30_code
def yX8_w3 : MethodName := ⟨RX8, "w3", "(III)J"⟩
abbrev cX8_w4 : ByteArray := prog_10_method_31_code
def yX8_w4 : MethodName := ⟨RX8, "w4", "(IIII)J"⟩
abbrev cX8_w5 : ByteArray := prog_10_method_32_code
def yX8_w5 : MethodName := ⟨RX8, "w5", "(IIIII)J"⟩
abbrev cX8_w6 : ByteArray := prog_10_method_33_code
def yX8_w6 : MethodName := ⟨RX8, "w6", "(IIIIII)J"⟩
abbrev cX8_isWord : ByteArray := prog_10_method_34_code
def yX8_isWord : MethodName := ⟨RX8, "isWord", "(J)Z"⟩
abbrev cX8_emit : ByteArray := prog_10_method_35_code
def yX8_emit : MethodName := ⟨RX8, "emit", "(II)V"⟩
abbrev cX8_isCompactWord : ByteArray := prog_10_method_36_code
def yX8_isCompactWord : MethodName := ⟨RX8, "isCompactWord", "()Z"⟩
abbrev cX8_nameOf : ByteArray := prog_10_method_37_code
def yX8_nameOf : MethodName := ⟨RX8, "nameOf", "()I"⟩
abbrev cX8_isOf : ByteArray := prog_10_method_38_code
def yX8_isOf : MethodName := ⟨RX8, "isOf", "(I)Z"⟩
abbrev cX8_rank : ByteArray := prog_10_method_39_code
def yX8_rank : MethodName := ⟨RX8, "rank", "(I)I"⟩
abbrev cX8_settle : ByteArray := prog_10_method_40_code
def yX8_settle : MethodName := ⟨RX8, "settle", "(I)V"⟩
abbrev cX8_openAt : ByteArray := prog_10_method_41_code
def yX8_openAt : MethodName := ⟨RX8, "openAt", "()I"⟩
abbrev cX8_openNow : ByteArray := prog_10_method_42_code
def yX8_openNow : MethodName := ⟨RX8, "openNow", "()I"⟩
abbrev cX8_isCompared : ByteArray := prog_10_method_43_code
def yX8_isCompared : MethodName := ⟨RX8, "isCompared", "()Z"⟩
abbrev cX8_isAskAhead : ByteArray := prog_10_method_44_code
def yX8_isAskAhead : MethodName := ⟨RX8, "isAskAhead", "()Z"⟩
abbrev cX8_opened : ByteArray := prog_10_method_45_code
def yX8_opened : MethodName := ⟨RX8, "opened", "(I)I"⟩
abbrev cX8_beginOne : ByteArray := prog_10_method_46_code
def yX8_beginOne : MethodName := ⟨RX8, "beginOne", "()I"⟩
abbrev cX8_compareOf : ByteArray := prog_10_method_47_code
def yX8_compareOf : MethodName := ⟨RX8, "compareOf", "()I"⟩
abbrev cX8_betweenOf : ByteArray := prog_10_method_48_code
def yX8_betweenOf : MethodName := ⟨RX8, "betweenOf", "()I"⟩
abbrev cX8_partOf : ByteArray := prog_10_method_49_code
def yX8_partOf : MethodName := ⟨RX8, "partOf", "(I)I"⟩
abbrev cX8_behindOne : ByteArray := prog_10_method_50_code
def yX8_behindOne : MethodName := ⟨RX8, "behindOne", "()Z"⟩
abbrev cX8_summed : ByteArray := prog_10_method_51_code
def yX8_summed : MethodName := ⟨RX8, "summed", "()I"⟩
abbrev cX8_figure : ByteArray := prog_10_method_52_code
def yX8_figure : MethodName := ⟨RX8, "figure", "(III)I"⟩
abbrev cX8_lawClause : ByteArray := prog_10_method_53_code
def yX8_lawClause : MethodName := ⟨RX8, "lawClause", "(I)I"⟩
abbrev cX8_twoClause : ByteArray := prog_10_method_54_code
def yX8_twoClause : MethodName := ⟨RX8, "twoClause", "(IIJI)I"⟩
abbrev cX8_body : ByteArray := prog_10_method_55_code
def yX8_body : MethodName := ⟨RX8, "body", "(II)I"⟩
abbrev cX8_sortOf : ByteArray := prog_10_method_56_code
def yX8_sortOf : MethodName := ⟨RX8, "sortOf", "()I"⟩
abbrev cX8_clause : ByteArray := prog_10_method_57_code
def yX8_clause : MethodName := ⟨RX8, "clause", "()I"⟩
abbrev cX8_readText : ByteArray := prog_10_method_58_code
def yX8_readText : MethodName := ⟨RX8, "readText", "()I"⟩
abbrev cX8_text : ByteArray := prog_10_method_59_code
def yX8_text : MethodName := ⟨RX8, "text", "()I"⟩
abbrev cX8_fault : ByteArray := prog_10_method_60_code
def yX8_fault : MethodName := ⟨RX8, "fault", "(I)I"⟩
abbrev cX8_by : ByteArray := prog_10_method_61_code
def yX8_by : MethodName := ⟨RX8, "by", "(I)Z"⟩
abbrev cX8_clip : ByteArray := prog_10_method_62_code
def yX8_clip : MethodName := ⟨RX8, "clip", "(J)J"⟩
abbrev cX8_two : ByteArray := prog_10_method_63_code
def yX8_two : MethodName := ⟨RX8, "two", "(IJJ)J"⟩
abbrev cX8_isAsked : ByteArray := prog_10_method_64_code
def yX8_isAsked : MethodName := ⟨RX8, "isAsked", "(IJJ)Z"⟩
abbrev cX8_ofOne : ByteArray := prog_10_method_65_code
def yX8_ofOne : MethodName := ⟨RX8, "ofOne", "(IJ)J"⟩
abbrev cX8_joined : ByteArray := prog_10_method_66_code
def yX8_joined : MethodName := ⟨RX8, "joined", "(IZZ)Z"⟩
abbrev cX8_summedUp : ByteArray := prog_10_method_67_code
def yX8_summedUp : MethodName := ⟨RX8, "summedUp", "(II)J"⟩
abbrev cX8_clauseOf : ByteArray := prog_10_method_68_code
def yX8_clauseOf : MethodName := ⟨RX8, "clauseOf", "(II)I"⟩
abbrev cX8_name : ByteArray := prog_10_method_69_code
def yX8_name : MethodName := ⟨RX8, "name", "()V"⟩
abbrev cX8_isLet : ByteArray := prog_10_method_70_code
def yX8_isLet : MethodName := ⟨RX8, "isLet", "(III)Z"⟩
abbrev cX8_isLetNow : ByteArray := prog_10_method_71_code
def yX8_isLetNow : MethodName := ⟨RX8, "isLetNow", "(II)Z"⟩
abbrev cX8_probesNow : ByteArray := prog_10_method_72_code
def yX8_probesNow : MethodName := ⟨RX8, "probesNow", "()I"⟩
abbrev cX8_writeDown : ByteArray := prog_10_method_73_code
def yX8_writeDown : MethodName := ⟨RX8, "writeDown", "(III)V"⟩
abbrev cX8_drawnBy : ByteArray := prog_10_method_74_code
def yX8_drawnBy : MethodName := ⟨RX8, "drawnBy", "(I)I"⟩
abbrev cX8_anew : ByteArray := prog_10_method_75_code
def yX8_anew : MethodName := ⟨RX8, "anew", "()V"⟩
abbrev cX8_nextSlot : ByteArray := prog_10_method_76_code
def yX8_nextSlot : MethodName := ⟨RX8, "nextSlot", "(I)I"⟩
abbrev cX8_lowestNew : ByteArray := prog_10_method_77_code
def yX8_lowestNew : MethodName := ⟨RX8, "lowestNew", "()I"⟩
abbrev cX8_lowestUnused : ByteArray := prog_10_method_78_code
def yX8_lowestUnused : MethodName := ⟨RX8, "lowestUnused", "()I"⟩
abbrev cX8_giver : ByteArray := prog_10_method_79_code
def yX8_giver : MethodName := ⟨RX8, "giver", "()I"⟩
abbrev cX8_canGive : ByteArray := prog_10_method_80_code
def yX8_canGive : MethodName := ⟨RX8, "canGive", "()Z"⟩
abbrev cX8_openNow_ : ByteArray := prog_10_method_81_code
def yX8_openNow_ : MethodName := ⟨RX8, "openNow", "(II)V"⟩
abbrev cX8_giveNow : ByteArray := prog_10_method_82_code
def yX8_giveNow : MethodName := ⟨RX8, "giveNow", "(I)I"⟩
abbrev cX8_canChange : ByteArray := prog_10_method_83_code
def yX8_canChange : MethodName := ⟨RX8, "canChange", "(I)Z"⟩
abbrev cX8_freeNow : ByteArray := prog_10_method_84_code
def yX8_freeNow : MethodName := ⟨RX8, "freeNow", "(I)I"⟩
abbrev cX8_canMesh : ByteArray := prog_10_method_85_code
def yX8_canMesh : MethodName := ⟨RX8, "canMesh", "(II)I"⟩
abbrev cX8_stayer : ByteArray := prog_10_method_86_code
def yX8_stayer : MethodName := ⟨RX8, "stayer", "(II)I"⟩
abbrev cX8_copySlots : ByteArray := prog_10_method_87_code
def yX8_copySlots : MethodName := ⟨RX8, "copySlots", "(III)V"⟩
abbrev cX8_joinFrames : ByteArray := prog_10_method_88_code
def yX8_joinFrames : MethodName := ⟨RX8, "joinFrames", "(II)V"⟩
abbrev cX8_meshFrames : ByteArray := prog_10_method_89_code
def yX8_meshFrames : MethodName := ⟨RX8, "meshFrames", "(II)I"⟩
abbrev cX8_leftToCopy : ByteArray := prog_10_method_90_code
def yX8_leftToCopy : MethodName := ⟨RX8, "leftToCopy", "()I"⟩
abbrev cX8_fenceNow : ByteArray := prog_10_method_91_code
def yX8_fenceNow : MethodName := ⟨RX8, "fenceNow", "(II)I"⟩
abbrev cX8_unbind : ByteArray := prog_10_method_92_code
def yX8_unbind : MethodName := ⟨RX8, "unbind", "()V"⟩
abbrev cX8_moveNow : ByteArray := prog_10_method_93_code
def yX8_moveNow : MethodName := ⟨RX8, "moveNow", "()I"⟩
abbrev cX8_liftNow : ByteArray := prog_10_method_94_code
def yX8_liftNow : MethodName := ⟨RX8, "liftNow", "()V"⟩
abbrev cX8_lowestBit : ByteArray := prog_10_method_95_code
def yX8_lowestBit : MethodName := ⟨RX8, "lowestBit", "(I)I"⟩
abbrev cX8_isPairMeshed : ByteArray := prog_10_method_96_code
def yX8_isPairMeshed : MethodName := ⟨RX8, "isPairMeshed", "(II)Z"⟩
abbrev cX8_compactNow : ByteArray := prog_10_method_97_code
def yX8_compactNow : MethodName := ⟨RX8, "compactNow", "()I"⟩
abbrev cX8_liveBy : ByteArray := prog_10_method_98_code
def yX8_liveBy : MethodName := ⟨RX8, "liveBy", "(I)I"⟩
abbrev cX8_pass : ByteArray := prog_10_method_99_code
def yX8_pass : MethodName := ⟨RX8, "pass", "()V"⟩
abbrev cX8_stepAt : ByteArray := prog_10_method_100_code
def yX8_stepAt : MethodName := ⟨RX8, "stepAt", "(II)I"⟩
abbrev cX8_keep : ByteArray := prog_10_method_101_code
def yX8_keep : MethodName := ⟨RX8, "keep", "()V"⟩
abbrev cX8_undo : ByteArray := prog_10_method_102_code
def yX8_undo : MethodName := ⟨RX8, "undo", "()I"⟩
abbrev cX8_isValue : ByteArray := prog_10_method_103_code
def yX8_isValue : MethodName := ⟨RX8, "isValue", "(I)Z"⟩
abbrev cX8_give : ByteArray := prog_10_method_104_code
def yX8_give : MethodName := ⟨RX8, "give", "(I)I"⟩
abbrev cX8_free : ByteArray := prog_10_method_105_code
def yX8_free : MethodName := ⟨RX8, "free", "(I)I"⟩
abbrev cX8_write : ByteArray := prog_10_method_106_code
def yX8_write : MethodName := ⟨RX8, "write", "(II)Z"⟩
abbrev cX8_canPair : ByteArray := prog_10_method_107_code
def yX8_canPair : MethodName := ⟨RX8, "canPair", "(II)Z"⟩
abbrev cX8_mesh : ByteArray := prog_10_method_108_code
def yX8_mesh : MethodName := ⟨RX8, "mesh", "(II)I"⟩
abbrev cX8_fence : ByteArray := prog_10_method_109_code
def yX8_fence : MethodName := ⟨RX8, "fence", "(II)I"⟩
abbrev cX8_move : ByteArray := prog_10_method_110_code
def yX8_move : MethodName := ⟨RX8, "move", "()I"⟩
abbrev cX8_lift : ByteArray := prog_10_method_111_code
def yX8_lift : MethodName := ⟨RX8, "lift", "()Z"⟩
abbrev cX8_compact : ByteArray := prog_10_method_112_code
def yX8_compact : MethodName := ⟨RX8, "compact", "()I"⟩
abbrev cX8_arePassed : ByteArray := prog_10_method_113_code
def yX8_arePassed : MethodName := ⟨RX8, "arePassed", "(I)Z"⟩
abbrev cX8_day : ByteArray := prog_10_method_114_code
def yX8_day : MethodName := ⟨RX8, "day", "(I)I"⟩
abbrev cX8_isPlayed : ByteArray := prog_10_method_115_code
def yX8_isPlayed : MethodName := ⟨RX8, "isPlayed", "(I)Z"⟩
abbrev cX8_played : ByteArray := prog_10_method_116_code
def yX8_played : MethodName := ⟨RX8, "played", "(I)I"⟩
abbrev cX8_years : ByteArray := prog_10_method_117_code
def yX8_years : MethodName := ⟨RX8, "years", "(II)I"⟩
abbrev cX8_at : ByteArray := prog_10_method_118_code
def yX8_at : MethodName := ⟨RX8, "at", "(I)I"⟩
abbrev cX8_page : ByteArray := prog_10_method_119_code
def yX8_page : MethodName := ⟨RX8, "page", "(II)I"⟩
abbrev cX8_vector : ByteArray := prog_10_method_120_code
def yX8_vector : MethodName := ⟨RX8, "vector", "(II)I"⟩
abbrev cX8_frame : ByteArray := prog_10_method_121_code
def yX8_frame : MethodName := ⟨RX8, "frame", "(II)I"⟩
abbrev cX8_is : ByteArray := prog_10_method_122_code
def yX8_is : MethodName := ⟨RX8, "is", "(I)I"⟩
abbrev cX8_lineOf : ByteArray := prog_10_method_123_code
def yX8_lineOf : MethodName := ⟨RX8, "lineOf", "(II)I"⟩
abbrev cX8_book : ByteArray := prog_10_method_124_code
def yX8_book : MethodName := ⟨RX8, "book", "(II)I"⟩
abbrev cX8_ledger : ByteArray := prog_10_method_125_code
def yX8_ledger : MethodName := ⟨RX8, "ledger", "(I)I"⟩
abbrev cX8_putAside : ByteArray := prog_10_method_126_code
def yX8_putAside : MethodName := ⟨RX8, "putAside", "()V"⟩
abbrev cX8_bringBack : ByteArray := prog_10_method_127_code
def yX8_bringBack : MethodName := ⟨RX8, "bringBack", "()V"⟩
abbrev cX8_foretold : ByteArray := prog_10_method_128_code
def yX8_foretold : MethodName := ⟨RX8, "foretold", "(II)I"⟩
abbrev cX8_would : ByteArray := prog_10_method_129_code
def yX8_would : MethodName := ⟨RX8, "would", "()I"⟩
abbrev cX8_clash : ByteArray := prog_10_method_130_code
def yX8_clash : MethodName := ⟨RX8, "clash", "(II)I"⟩
abbrev cX8_can : ByteArray := prog_10_method_131_code
def yX8_can : MethodName := ⟨RX8, "can", "(II)I"⟩
abbrev cX8_sparse : ByteArray := prog_10_method_132_code
def yX8_sparse : MethodName := ⟨RX8, "sparse", "()I"⟩
abbrev cX8_divisor : ByteArray := prog_10_method_133_code
def yX8_divisor : MethodName := ⟨RX8, "divisor", "(JJ)J"⟩
abbrev cX8_ways : ByteArray := prog_10_method_134_code
def yX8_ways : MethodName := ⟨RX8, "ways", "(II)J"⟩
abbrev cX8_odds : ByteArray := prog_10_method_135_code
def yX8_odds : MethodName := ⟨RX8, "odds", "(IIZ)J"⟩
abbrev cX8_expected : ByteArray := prog_10_method_136_code
def yX8_expected : MethodName := ⟨RX8, "expected", "(Z)J"⟩
abbrev cX8_layLives : ByteArray := prog_10_method_137_code
def yX8_layLives : MethodName := ⟨RX8, "layLives", "()V"⟩
abbrev cX8_isPair : ByteArray := prog_10_method_138_code
def yX8_isPair : MethodName := ⟨RX8, "isPair", "(II)Z"⟩
abbrev cX8_without : ByteArray := prog_10_method_139_code
def yX8_without : MethodName := ⟨RX8, "without", "(II)I"⟩
abbrev cX8_layPairs : ByteArray := prog_10_method_140_code
def yX8_layPairs : MethodName := ⟨RX8, "layPairs", "(I)V"⟩
abbrev cX8_most : ByteArray := prog_10_method_141_code
def yX8_most : MethodName := ⟨RX8, "most", "()I"⟩
abbrev cX8_mateIn : ByteArray := prog_10_method_142_code
def yX8_mateIn : MethodName := ⟨RX8, "mateIn", "(II)I"⟩
abbrev cX8_layMates : ByteArray := prog_10_method_143_code
def yX8_layMates : MethodName := ⟨RX8, "layMates", "()V"⟩
abbrev cX8_mate : ByteArray := prog_10_method_144_code
def yX8_mate : MethodName := ⟨RX8, "mate", "(I)I"⟩
abbrev cX8_layUnited : ByteArray := prog_10_method_145_code
def yX8_layUnited : MethodName := ⟨RX8, "layUnited", "(I)V"⟩
abbrev cX8_fewest : ByteArray := prog_10_method_146_code
def yX8_fewest : MethodName := ⟨RX8, "fewest", "()I"⟩
abbrev cX8_runs : ByteArray := prog_10_method_147_code
def yX8_runs : MethodName := ⟨RX8, "runs", "(I)I"⟩
abbrev cX8_longest : ByteArray := prog_10_method_148_code
def yX8_longest : MethodName := ⟨RX8, "longest", "(I)I"⟩
abbrev cX8_find : ByteArray := prog_10_method_149_code
def yX8_find : MethodName := ⟨RX8, "find", "(III)I"⟩
abbrev cX8_same : ByteArray := prog_10_method_150_code
def yX8_same : MethodName := ⟨RX8, "same", "(II)I"⟩
abbrev cX8_sum : ByteArray := prog_10_method_151_code
def yX8_sum : MethodName := ⟨RX8, "sum", "(I)I"⟩
abbrev cX8_holds : ByteArray := prog_10_method_152_code
def yX8_holds : MethodName := ⟨RX8, "holds", "(I)I"⟩
abbrev cX8_fullest : ByteArray := prog_10_method_153_code
def yX8_fullest : MethodName := ⟨RX8, "fullest", "()I"⟩
abbrev cX8_isPageSound : ByteArray := prog_10_method_154_code
def yX8_isPageSound : MethodName := ⟨RX8, "isPageSound", "(I)Z"⟩
abbrev cX8_sound : ByteArray := prog_10_method_155_code
def yX8_sound : MethodName := ⟨RX8, "sound", "()Z"⟩
abbrev cX8_probes : ByteArray := prog_10_method_156_code
def yX8_probes : MethodName := ⟨RX8, "probes", "()I"⟩
abbrev cX8_meshes : ByteArray := prog_10_method_157_code
def yX8_meshes : MethodName := ⟨RX8, "meshes", "(II)Z"⟩
abbrev cX8_said : ByteArray := prog_10_method_158_code
def yX8_said : MethodName := ⟨RX8, "said", "(III)I"⟩
abbrev cX8_whose : ByteArray := prog_10_method_159_code
def yX8_whose : MethodName := ⟨RX8, "whose", "()I"⟩
abbrev cX8_image : ByteArray := prog_10_method_160_code
def yX8_image : MethodName := ⟨RX8, "image", "()I"⟩
abbrev cX8_back : ByteArray := prog_10_method_161_code
def yX8_back : MethodName := ⟨RX8, "back", "()I"⟩
abbrev cX8_about : ByteArray := prog_10_method_162_code
def yX8_about : MethodName := ⟨RX8, "about", "(I)I"⟩
def RJ6 : String := "java/lang/Integer"
abbrev cJ6_bitCount_0f7a4 : ByteArray := prog_11_method_49_code
def yJ6_bitCount_0f7a4 : MethodName := ⟨RJ6, "bitCount", "(I)I"⟩
def RJ9 : String := "java/lang/Math"
abbrev cJ9_max_7cf53 : ByteArray := prog_12_method_65_code
def yJ9_max_7cf53 : MethodName := ⟨RJ9, "max", "(II)I"⟩
abbrev cJ9_max_f86c9 : ByteArray := prog_12_method_66_code
def yJ9_max_f86c9 : MethodName := ⟨RJ9, "max", "(JJ)J"⟩
abbrev cJ9_min_7cf53 : ByteArray := prog_12_method_69_code
def yJ9_min_7cf53 : MethodName := ⟨RJ9, "min", "(II)I"⟩
abbrev cJ9_min_f86c9 : ByteArray := prog_12_method_70_code
def yJ9_min_f86c9 : MethodName := ⟨RJ9, "min", "(JJ)J"⟩
def RJ0 : String := "java/lang/String"
abbrev cJ0_length_8abf5 : ByteArray := prog_13_method_54_code
def yJ0_length_8abf5 : MethodName := ⟨RJ0, "length", "()I"⟩
abbrev cJ0_charAt_5068e : ByteArray := prog_13_method_56_code
def yJ0_charAt_5068e : MethodName := ⟨RJ0, "charAt", "(I)C"⟩
abbrev cJ0_coder_7d493 : ByteArray := prog_13_method_152_code
def yJ0_coder_7d493 : MethodName := ⟨RJ0, "coder", "()B"⟩
abbrev cJ0_isLatin1_aae02 : ByteArray := prog_13_method_154_code
def yJ0_isLatin1_aae02 : MethodName := ⟨RJ0, "isLatin1", "()Z"⟩
abbrev cJ0_checkIndex_df160 : ByteArray := prog_13_method_155_code
def yJ0_checkIndex_df160 : MethodName := ⟨RJ0, "checkIndex", "(II)V"⟩
def RJ1 : String := "java/lang/StringLatin1"
abbrev cJ1_charAt_3b067 : ByteArray := prog_14_method_2_code
def yJ1_charAt_3b067 : MethodName := ⟨RJ1, "charAt", "([BI)C"⟩
def RJ2 : String := "java/lang/StringUTF16"
abbrev cJ2_getChar_3b067 : ByteArray := prog_15_method_5_code
def yJ2_getChar_3b067 : MethodName := ⟨RJ2, "getChar", "([BI)C"⟩
abbrev cJ2_length_9d52b : ByteArray := prog_15_method_6_code
def yJ2_length_9d52b : MethodName := ⟨RJ2, "length", "([B)I"⟩
abbrev cJ2_charAt_3b067 : ByteArray := prog_15_method_83_code
def yJ2_charAt_3b067 : MethodName := ⟨RJ2, "charAt", "([BI)C"⟩
abbrev cJ2_checkIndex_2214a : ByteArray := prog_15_method_91_code
def yJ2_checkIndex_2214a : MethodName := ⟨RJ2, "checkIndex", "(I[B)V"⟩
def RJ10 : String := "java/lang/System"
def RJ7 : String := "java/util/Arrays"
abbrev cJ7_fill_53178 : ByteArray := prog_17_method_103_code
def yJ7_fill_53178 : MethodName := ⟨RJ7, "fill", "([II)V"⟩
def RJ3 : String := "jdk/internal/util/Preconditions"
abbrev cJ3_checkIndex_8e157 : ByteArray := prog_18_method_11_code
def yJ3_checkIndex_8e157 : MethodName := ⟨RJ3, "checkIndex", "(IILjava/util/function/BiFunction;)I"⟩
def RL : String := "MeshedPagesLaw"
abbrev vwCl : List vw_C := [(RX0, TX0, 6), (RX1, TX1, 13), (RX2, TX2, 4), (RX3, TX3, 11), (RX4, TX4, 3), (RX5, TX5, 11), (RX6, TX6, 6), (RX7, TX7, 8), (RX8, TX8, 32)]

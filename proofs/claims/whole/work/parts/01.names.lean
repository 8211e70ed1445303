-- ===== PART A: goes FIRST, ahead of the names: the tables' words, and 'selects' of the private methods out of them =====
/-- a private method of a class that the tables say can be made, by its rows of tables_1 -/
def lw_okq (q : MethodName × Nat) : Prop := (q.1.cls ≠ "java/lang/invoke/MethodHandle" ∧ q.1.cls ≠ "java/lang/invoke/VarHandle") ∧ Cond.instantiable q.1.cls q.2 ∈ tables_1 ∧ Cond.privateMethod q.1 ∈ tables_1 ∧ Cond.instanceMethod q.1 ∈ tables_1
theorem lw_p0 : lw_okq (⟨"SpreadRows$Text", "cut", "()V"⟩, 10) := ⟨⟨by decide +kernel, by decide +kernel⟩, List.mem_of_getElem? (i := 35) (by decide +kernel), List.mem_of_getElem? (i := 512) (by decide +kernel), List.mem_of_getElem? (i := 513) (by decide +kernel)⟩
theorem lw_p1 : lw_okq (⟨"SpreadRows$Text", "behindBlanks", "(I)I"⟩, 10) := ⟨⟨by decide +kernel, by decide +kernel⟩, List.mem_of_getElem? (i := 35) (by decide +kernel), List.mem_of_getElem? (i := 516) (by decide +kernel), List.mem_of_getElem? (i := 517) (by decide +kernel)⟩
theorem lw_p2 : lw_okq (⟨"SpreadRows$Text", "behindToken", "(I)I"⟩, 10) := ⟨⟨by decide +kernel, by decide +kernel⟩, List.mem_of_getElem? (i := 35) (by decide +kernel), List.mem_of_getElem? (i := 524) (by decide +kernel), List.mem_of_getElem? (i := 525) (by decide +kernel)⟩
theorem lw_p3 : lw_okq (⟨"SpreadRows$Text", "valueOf", "(II)J"⟩, 10) := ⟨⟨by decide +kernel, by decide +kernel⟩, List.mem_of_getElem? (i := 35) (by decide +kernel), List.mem_of_getElem? (i := 534) (by decide +kernel), List.mem_of_getElem? (i := 535) (by decide +kernel)⟩
theorem lw_p4 : lw_okq (⟨"SpreadRows$Text", "kindOf", "(IIJ)I"⟩, 10) := ⟨⟨by decide +kernel, by decide +kernel⟩, List.mem_of_getElem? (i := 35) (by decide +kernel), List.mem_of_getElem? (i := 540) (by decide +kernel), List.mem_of_getElem? (i := 541) (by decide +kernel)⟩
theorem lw_p5 : lw_okq (⟨"SpreadRows$Text", "wordOf", "(J)I"⟩, 10) := ⟨⟨by decide +kernel, by decide +kernel⟩, List.mem_of_getElem? (i := 35) (by decide +kernel), List.mem_of_getElem? (i := 544) (by decide +kernel), List.mem_of_getElem? (i := 545) (by decide +kernel)⟩
theorem lw_p6 : lw_okq (⟨"SpreadRows$Text", "makeRoom", "()V"⟩, 10) := ⟨⟨by decide +kernel, by decide +kernel⟩, List.mem_of_getElem? (i := 35) (by decide +kernel), List.mem_of_getElem? (i := 548) (by decide +kernel), List.mem_of_getElem? (i := 549) (by decide +kernel)⟩
theorem lw_p7 : lw_okq (⟨"SpreadRows$Text", "tell", "()V"⟩, 10) := ⟨⟨by decide +kernel, by decide +kernel⟩, List.mem_of_getElem? (i := 35) (by decide +kernel), List.mem_of_getElem? (i := 555) (by decide +kernel), List.mem_of_getElem? (i := 556) (by decide +kernel)⟩
theorem lw_p8 : lw_okq (⟨"SpreadRows$Text", "takesRoom", "(I)Z"⟩, 10) := ⟨⟨by decide +kernel, by decide +kernel⟩, List.mem_of_getElem? (i := 35) (by decide +kernel), List.mem_of_getElem? (i := 559) (by decide +kernel), List.mem_of_getElem? (i := 560) (by decide +kernel)⟩
theorem lw_p9 : lw_okq (⟨"SpreadRows$Text", "goOn", "()V"⟩, 10) := ⟨⟨by decide +kernel, by decide +kernel⟩, List.mem_of_getElem? (i := 35) (by decide +kernel), List.mem_of_getElem? (i := 580) (by decide +kernel), List.mem_of_getElem? (i := 581) (by decide +kernel)⟩
theorem lw_p10 : lw_okq (⟨"SpreadRows$Text", "part", "(I)V"⟩, 10) := ⟨⟨by decide +kernel, by decide +kernel⟩, List.mem_of_getElem? (i := 35) (by decide +kernel), List.mem_of_getElem? (i := 584) (by decide +kernel), List.mem_of_getElem? (i := 585) (by decide +kernel)⟩
theorem lw_p11 : lw_okq (⟨"SpreadRows$Text", "must", "(I)V"⟩, 10) := ⟨⟨by decide +kernel, by decide +kernel⟩, List.mem_of_getElem? (i := 35) (by decide +kernel), List.mem_of_getElem? (i := 588) (by decide +kernel), List.mem_of_getElem? (i := 589) (by decide +kernel)⟩
theorem lw_p12 : lw_okq (⟨"SpreadRows$Maker", "makeTell", "(LSpreadRows$Told;I)V"⟩, 8) := ⟨⟨by decide +kernel, by decide +kernel⟩, List.mem_of_getElem? (i := 29) (by decide +kernel), List.mem_of_getElem? (i := 594) (by decide +kernel), List.mem_of_getElem? (i := 595) (by decide +kernel)⟩
theorem lw_p13 : lw_okq (⟨"SpreadRows$Maker", "makeRegister", "(LSpreadRows$Told;)V"⟩, 8) := ⟨⟨by decide +kernel, by decide +kernel⟩, List.mem_of_getElem? (i := 29) (by decide +kernel), List.mem_of_getElem? (i := 598) (by decide +kernel), List.mem_of_getElem? (i := 599) (by decide +kernel)⟩
theorem lw_p14 : lw_okq (⟨"SpreadRows$Maker", "newName", "(II)V"⟩, 8) := ⟨⟨by decide +kernel, by decide +kernel⟩, List.mem_of_getElem? (i := 29) (by decide +kernel), List.mem_of_getElem? (i := 602) (by decide +kernel), List.mem_of_getElem? (i := 603) (by decide +kernel)⟩
theorem lw_p15 : lw_okq (⟨"SpreadRows$Maker", "nameIndex", "(J)I"⟩, 8) := ⟨⟨by decide +kernel, by decide +kernel⟩, List.mem_of_getElem? (i := 29) (by decide +kernel), List.mem_of_getElem? (i := 607) (by decide +kernel), List.mem_of_getElem? (i := 608) (by decide +kernel)⟩
def lw_privs_1 : List (MethodName × Nat) := [(⟨"SpreadRows$Text", "cut", "()V"⟩, 10), (⟨"SpreadRows$Text", "behindBlanks", "(I)I"⟩, 10), (⟨"SpreadRows$Text", "behindToken", "(I)I"⟩, 10), (⟨"SpreadRows$Text", "valueOf", "(II)J"⟩, 10), (⟨"SpreadRows$Text", "kindOf", "(IIJ)I"⟩, 10), (⟨"SpreadRows$Text", "wordOf", "(J)I"⟩, 10), (⟨"SpreadRows$Text", "makeRoom", "()V"⟩, 10), (⟨"SpreadRows$Text", "tell", "()V"⟩, 10), (⟨"SpreadRows$Text", "takesRoom", "(I)Z"⟩, 10), (⟨"SpreadRows$Text", "goOn", "()V"⟩, 10), (⟨"SpreadRows$Text", "part", "(I)V"⟩, 10), (⟨"SpreadRows$Text", "must", "(I)V"⟩, 10), (⟨"SpreadRows$Maker", "makeTell", "(LSpreadRows$Told;I)V"⟩, 8), (⟨"SpreadRows$Maker", "makeRegister", "(LSpreadRows$Told;)V"⟩, 8), (⟨"SpreadRows$Maker", "newName", "(II)V"⟩, 8), (⟨"SpreadRows$Maker", "nameIndex", "(J)I"⟩, 8)]
theorem lw_r1 : ∀ q ∈ lw_privs_1, lw_okq q := List.forall_mem_cons.mpr ⟨lw_p0, List.forall_mem_cons.mpr ⟨lw_p1, List.forall_mem_cons.mpr ⟨lw_p2, List.forall_mem_cons.mpr ⟨lw_p3, List.forall_mem_cons.mpr ⟨lw_p4, List.forall_mem_cons.mpr ⟨lw_p5, List.forall_mem_cons.mpr ⟨lw_p6, List.forall_mem_cons.mpr ⟨lw_p7, List.forall_mem_cons.mpr ⟨lw_p8, List.forall_mem_cons.mpr ⟨lw_p9, List.forall_mem_cons.mpr ⟨lw_p10, List.forall_mem_cons.mpr ⟨lw_p11, List.forall_mem_cons.mpr ⟨lw_p12, List.forall_mem_cons.mpr ⟨lw_p13, List.forall_mem_cons.mpr ⟨lw_p14, List.forall_mem_cons.mpr ⟨lw_p15, fun _ h => absurd h List.not_mem_nil⟩⟩⟩⟩⟩⟩⟩⟩⟩⟩⟩⟩⟩⟩⟩⟩
theorem lw_p16 : lw_okq (⟨"SpreadRows$Maker", "refuse", "(II)V"⟩, 8) := ⟨⟨by decide +kernel, by decide +kernel⟩, List.mem_of_getElem? (i := 29) (by decide +kernel), List.mem_of_getElem? (i := 611) (by decide +kernel), List.mem_of_getElem? (i := 612) (by decide +kernel)⟩
theorem lw_p17 : lw_okq (⟨"SpreadRows$Maker", "number", "(II)I"⟩, 8) := ⟨⟨by decide +kernel, by decide +kernel⟩, List.mem_of_getElem? (i := 29) (by decide +kernel), List.mem_of_getElem? (i := 616) (by decide +kernel), List.mem_of_getElem? (i := 617) (by decide +kernel)⟩
theorem lw_p18 : lw_okq (⟨"SpreadRows$Code", "putBit", "(II)V"⟩, 2) := ⟨⟨by decide +kernel, by decide +kernel⟩, List.mem_of_getElem? (i := 292) (by decide +kernel), List.mem_of_getElem? (i := 632) (by decide +kernel), List.mem_of_getElem? (i := 633) (by decide +kernel)⟩
theorem lw_p19 : lw_okq (⟨"SpreadRows$Maker", "makeWalsh", "(LSpreadRows$Told;)V"⟩, 8) := ⟨⟨by decide +kernel, by decide +kernel⟩, List.mem_of_getElem? (i := 29) (by decide +kernel), List.mem_of_getElem? (i := 644) (by decide +kernel), List.mem_of_getElem? (i := 645) (by decide +kernel)⟩
theorem lw_p20 : lw_okq (⟨"SpreadRows$Maker", "makeBits", "(LSpreadRows$Told;)V"⟩, 8) := ⟨⟨by decide +kernel, by decide +kernel⟩, List.mem_of_getElem? (i := 29) (by decide +kernel), List.mem_of_getElem? (i := 652) (by decide +kernel), List.mem_of_getElem? (i := 653) (by decide +kernel)⟩
theorem lw_p21 : lw_okq (⟨"SpreadRows$Maker", "makeBoth", "(LSpreadRows$Told;)V"⟩, 8) := ⟨⟨by decide +kernel, by decide +kernel⟩, List.mem_of_getElem? (i := 29) (by decide +kernel), List.mem_of_getElem? (i := 660) (by decide +kernel), List.mem_of_getElem? (i := 661) (by decide +kernel)⟩
theorem lw_p22 : lw_okq (⟨"SpreadRows$Maker", "codeNamed", "(LSpreadRows$Told;)LSpreadRows$Code;"⟩, 8) := ⟨⟨by decide +kernel, by decide +kernel⟩, List.mem_of_getElem? (i := 29) (by decide +kernel), List.mem_of_getElem? (i := 664) (by decide +kernel), List.mem_of_getElem? (i := 665) (by decide +kernel)⟩
theorem lw_p23 : lw_okq (⟨"SpreadRows$Maker", "numberNamed", "(I)I"⟩, 8) := ⟨⟨by decide +kernel, by decide +kernel⟩, List.mem_of_getElem? (i := 29) (by decide +kernel), List.mem_of_getElem? (i := 668) (by decide +kernel), List.mem_of_getElem? (i := 669) (by decide +kernel)⟩
theorem lw_p24 : lw_okq (⟨"SpreadRows$Maker", "makeHop", "(LSpreadRows$Told;)V"⟩, 8) := ⟨⟨by decide +kernel, by decide +kernel⟩, List.mem_of_getElem? (i := 29) (by decide +kernel), List.mem_of_getElem? (i := 685) (by decide +kernel), List.mem_of_getElem? (i := 686) (by decide +kernel)⟩
theorem lw_p25 : lw_okq (⟨"SpreadRows$Maker", "makeSender", "(LSpreadRows$Told;)V"⟩, 8) := ⟨⟨by decide +kernel, by decide +kernel⟩, List.mem_of_getElem? (i := 29) (by decide +kernel), List.mem_of_getElem? (i := 702) (by decide +kernel), List.mem_of_getElem? (i := 703) (by decide +kernel)⟩
theorem lw_p26 : lw_okq (⟨"SpreadRows$Maker", "makeEcho", "(LSpreadRows$Told;)V"⟩, 8) := ⟨⟨by decide +kernel, by decide +kernel⟩, List.mem_of_getElem? (i := 29) (by decide +kernel), List.mem_of_getElem? (i := 715) (by decide +kernel), List.mem_of_getElem? (i := 716) (by decide +kernel)⟩
theorem lw_p27 : lw_okq (⟨"SpreadRows$Maker", "makeJam", "(LSpreadRows$Told;)V"⟩, 8) := ⟨⟨by decide +kernel, by decide +kernel⟩, List.mem_of_getElem? (i := 29) (by decide +kernel), List.mem_of_getElem? (i := 726) (by decide +kernel), List.mem_of_getElem? (i := 727) (by decide +kernel)⟩
theorem lw_p28 : lw_okq (⟨"SpreadRows$Sender", "length", "()I"⟩, 9) := ⟨⟨by decide +kernel, by decide +kernel⟩, List.mem_of_getElem? (i := 327) (by decide +kernel), List.mem_of_getElem? (i := 756) (by decide +kernel), List.mem_of_getElem? (i := 757) (by decide +kernel)⟩
theorem lw_p29 : lw_okq (⟨"SpreadRows$Signal", "layUnit", "(LSpreadRows$Sender;II)V"⟩, 3) := ⟨⟨by decide +kernel, by decide +kernel⟩, List.mem_of_getElem? (i := 184) (by decide +kernel), List.mem_of_getElem? (i := 778) (by decide +kernel), List.mem_of_getElem? (i := 779) (by decide +kernel)⟩
theorem lw_p30 : lw_okq (⟨"SpreadRows$Signal", "increase", "(III)V"⟩, 3) := ⟨⟨by decide +kernel, by decide +kernel⟩, List.mem_of_getElem? (i := 184) (by decide +kernel), List.mem_of_getElem? (i := 786) (by decide +kernel), List.mem_of_getElem? (i := 787) (by decide +kernel)⟩
theorem lw_p31 : lw_okq (⟨"SpreadRows$Signal", "layJam", "(LSpreadRows$Told;I)V"⟩, 3) := ⟨⟨by decide +kernel, by decide +kernel⟩, List.mem_of_getElem? (i := 184) (by decide +kernel), List.mem_of_getElem? (i := 792) (by decide +kernel), List.mem_of_getElem? (i := 793) (by decide +kernel)⟩
def lw_privs_2 : List (MethodName × Nat) := [(⟨"SpreadRows$Maker", "refuse", "(II)V"⟩, 8), (⟨"SpreadRows$Maker", "number", "(II)I"⟩, 8), (⟨"SpreadRows$Code", "putBit", "(II)V"⟩, 2), (⟨"SpreadRows$Maker", "makeWalsh", "(LSpreadRows$Told;)V"⟩, 8), (⟨"SpreadRows$Maker", "makeBits", "(LSpreadRows$Told;)V"⟩, 8), (⟨"SpreadRows$Maker", "makeBoth", "(LSpreadRows$Told;)V"⟩, 8), (⟨"SpreadRows$Maker", "codeNamed", "(LSpreadRows$Told;)LSpreadRows$Code;"⟩, 8), (⟨"SpreadRows$Maker", "numberNamed", "(I)I"⟩, 8), (⟨"SpreadRows$Maker", "makeHop", "(LSpreadRows$Told;)V"⟩, 8), (⟨"SpreadRows$Maker", "makeSender", "(LSpreadRows$Told;)V"⟩, 8), (⟨"SpreadRows$Maker", "makeEcho", "(LSpreadRows$Told;)V"⟩, 8), (⟨"SpreadRows$Maker", "makeJam", "(LSpreadRows$Told;)V"⟩, 8), (⟨"SpreadRows$Sender", "length", "()I"⟩, 9), (⟨"SpreadRows$Signal", "layUnit", "(LSpreadRows$Sender;II)V"⟩, 3), (⟨"SpreadRows$Signal", "increase", "(III)V"⟩, 3), (⟨"SpreadRows$Signal", "layJam", "(LSpreadRows$Told;I)V"⟩, 3)]
theorem lw_r2 : ∀ q ∈ lw_privs_2, lw_okq q := List.forall_mem_cons.mpr ⟨lw_p16, List.forall_mem_cons.mpr ⟨lw_p17, List.forall_mem_cons.mpr ⟨lw_p18, List.forall_mem_cons.mpr ⟨lw_p19, List.forall_mem_cons.mpr ⟨lw_p20, List.forall_mem_cons.mpr ⟨lw_p21, List.forall_mem_cons.mpr ⟨lw_p22, List.forall_mem_cons.mpr ⟨lw_p23, List.forall_mem_cons.mpr ⟨lw_p24, List.forall_mem_cons.mpr ⟨lw_p25, List.forall_mem_cons.mpr ⟨lw_p26, List.forall_mem_cons.mpr ⟨lw_p27, List.forall_mem_cons.mpr ⟨lw_p28, List.forall_mem_cons.mpr ⟨lw_p29, List.forall_mem_cons.mpr ⟨lw_p30, List.forall_mem_cons.mpr ⟨lw_p31, fun _ h => absurd h List.not_mem_nil⟩⟩⟩⟩⟩⟩⟩⟩⟩⟩⟩⟩⟩⟩⟩⟩
theorem lw_p32 : lw_okq (⟨"SpreadRows$Kinship", "fails", "(LSpreadRows$Code;II)Z"⟩, 4) := ⟨⟨by decide +kernel, by decide +kernel⟩, List.mem_of_getElem? (i := 205) (by decide +kernel), List.mem_of_getElem? (i := 896) (by decide +kernel), List.mem_of_getElem? (i := 897) (by decide +kernel)⟩
theorem lw_p33 : lw_okq (⟨"SpreadRows$Kinship", "mixOlder", "(I)V"⟩, 4) := ⟨⟨by decide +kernel, by decide +kernel⟩, List.mem_of_getElem? (i := 205) (by decide +kernel), List.mem_of_getElem? (i := 902) (by decide +kernel), List.mem_of_getElem? (i := 903) (by decide +kernel)⟩
theorem lw_p34 : lw_okq (⟨"SpreadRows$Kinship", "befriend", "(LSpreadRows$Told;III)V"⟩, 4) := ⟨⟨by decide +kernel, by decide +kernel⟩, List.mem_of_getElem? (i := 205) (by decide +kernel), List.mem_of_getElem? (i := 915) (by decide +kernel), List.mem_of_getElem? (i := 916) (by decide +kernel)⟩
theorem lw_p35 : lw_okq (⟨"SpreadRows$Kinship", "areFriends", "(I)Z"⟩, 4) := ⟨⟨by decide +kernel, by decide +kernel⟩, List.mem_of_getElem? (i := 205) (by decide +kernel), List.mem_of_getElem? (i := 924) (by decide +kernel), List.mem_of_getElem? (i := 925) (by decide +kernel)⟩
theorem lw_p36 : lw_okq (⟨"SpreadRows", "isSample", "(I)Z"⟩, 10) := ⟨⟨by decide +kernel, by decide +kernel⟩, List.mem_of_getElem? (i := 21) (by decide +kernel), List.mem_of_getElem? (i := 933) (by decide +kernel), List.mem_of_getElem? (i := 934) (by decide +kernel)⟩
theorem lw_p37 : lw_okq (⟨"SpreadRows$Search", "turnBack", "(IILSpreadRows$Signal;I)V"⟩, 4) := ⟨⟨by decide +kernel, by decide +kernel⟩, List.mem_of_getElem? (i := 226) (by decide +kernel), List.mem_of_getElem? (i := 993) (by decide +kernel), List.mem_of_getElem? (i := 994) (by decide +kernel)⟩
theorem lw_p38 : lw_okq (⟨"SpreadRows", "searched", "(III)LSpreadRows$Code;"⟩, 10) := ⟨⟨by decide +kernel, by decide +kernel⟩, List.mem_of_getElem? (i := 21) (by decide +kernel), List.mem_of_getElem? (i := 1005) (by decide +kernel), List.mem_of_getElem? (i := 1006) (by decide +kernel)⟩
theorem lw_p39 : lw_okq (⟨"SpreadRows$Search", "squares", "(LSpreadRows$Code;I)J"⟩, 4) := ⟨⟨by decide +kernel, by decide +kernel⟩, List.mem_of_getElem? (i := 226) (by decide +kernel), List.mem_of_getElem? (i := 1017) (by decide +kernel), List.mem_of_getElem? (i := 1018) (by decide +kernel)⟩
theorem lw_p40 : lw_okq (⟨"SpreadRows$Search", "rankOf", "(II)I"⟩, 4) := ⟨⟨by decide +kernel, by decide +kernel⟩, List.mem_of_getElem? (i := 226) (by decide +kernel), List.mem_of_getElem? (i := 1057) (by decide +kernel), List.mem_of_getElem? (i := 1058) (by decide +kernel)⟩
theorem lw_p41 : lw_okq (⟨"SpreadRows$Receiver", "wrongBit", "(LSpreadRows$Sender;I)I"⟩, 6) := ⟨⟨by decide +kernel, by decide +kernel⟩, List.mem_of_getElem? (i := 247) (by decide +kernel), List.mem_of_getElem? (i := 1125) (by decide +kernel), List.mem_of_getElem? (i := 1126) (by decide +kernel)⟩
theorem lw_p42 : lw_okq (⟨"SpreadRows$Receiver", "isFrame", "(III)Z"⟩, 6) := ⟨⟨by decide +kernel, by decide +kernel⟩, List.mem_of_getElem? (i := 247) (by decide +kernel), List.mem_of_getElem? (i := 1151) (by decide +kernel), List.mem_of_getElem? (i := 1152) (by decide +kernel)⟩
theorem lw_p43 : lw_okq (⟨"SpreadRows$Receiver", "wrongMore", "(LSpreadRows$Sender;III)I"⟩, 6) := ⟨⟨by decide +kernel, by decide +kernel⟩, List.mem_of_getElem? (i := 247) (by decide +kernel), List.mem_of_getElem? (i := 1166) (by decide +kernel), List.mem_of_getElem? (i := 1167) (by decide +kernel)⟩
theorem lw_p44 : lw_okq (⟨"SpreadRows$Receiver", "takeAllOut", "(LSpreadRows$Told;)V"⟩, 6) := ⟨⟨by decide +kernel, by decide +kernel⟩, List.mem_of_getElem? (i := 247) (by decide +kernel), List.mem_of_getElem? (i := 1183) (by decide +kernel), List.mem_of_getElem? (i := 1184) (by decide +kernel)⟩
theorem lw_p45 : lw_okq (⟨"SpreadRows$Receiver", "readAll", "(LSpreadRows$Told;Z)I"⟩, 6) := ⟨⟨by decide +kernel, by decide +kernel⟩, List.mem_of_getElem? (i := 247) (by decide +kernel), List.mem_of_getElem? (i := 1190) (by decide +kernel), List.mem_of_getElem? (i := 1191) (by decide +kernel)⟩
theorem lw_p46 : lw_okq (⟨"SpreadRows", "isRest", "(II)Z"⟩, 10) := ⟨⟨by decide +kernel, by decide +kernel⟩, List.mem_of_getElem? (i := 21) (by decide +kernel), List.mem_of_getElem? (i := 1237) (by decide +kernel), List.mem_of_getElem? (i := 1238) (by decide +kernel)⟩
theorem lw_p47 : lw_okq (⟨"SpreadRows", "lengthOf", "(I)I"⟩, 10) := ⟨⟨by decide +kernel, by decide +kernel⟩, List.mem_of_getElem? (i := 21) (by decide +kernel), List.mem_of_getElem? (i := 1241) (by decide +kernel), List.mem_of_getElem? (i := 1242) (by decide +kernel)⟩
def lw_privs_3 : List (MethodName × Nat) := [(⟨"SpreadRows$Kinship", "fails", "(LSpreadRows$Code;II)Z"⟩, 4), (⟨"SpreadRows$Kinship", "mixOlder", "(I)V"⟩, 4), (⟨"SpreadRows$Kinship", "befriend", "(LSpreadRows$Told;III)V"⟩, 4), (⟨"SpreadRows$Kinship", "areFriends", "(I)Z"⟩, 4), (⟨"SpreadRows", "isSample", "(I)Z"⟩, 10), (⟨"SpreadRows$Search", "turnBack", "(IILSpreadRows$Signal;I)V"⟩, 4), (⟨"SpreadRows", "searched", "(III)LSpreadRows$Code;"⟩, 10), (⟨"SpreadRows$Search", "squares", "(LSpreadRows$Code;I)J"⟩, 4), (⟨"SpreadRows$Search", "rankOf", "(II)I"⟩, 4), (⟨"SpreadRows$Receiver", "wrongBit", "(LSpreadRows$Sender;I)I"⟩, 6), (⟨"SpreadRows$Receiver", "isFrame", "(III)Z"⟩, 6), (⟨"SpreadRows$Receiver", "wrongMore", "(LSpreadRows$Sender;III)I"⟩, 6), (⟨"SpreadRows$Receiver", "takeAllOut", "(LSpreadRows$Told;)V"⟩, 6), (⟨"SpreadRows$Receiver", "readAll", "(LSpreadRows$Told;Z)I"⟩, 6), (⟨"SpreadRows", "isRest", "(II)Z"⟩, 10), (⟨"SpreadRows", "lengthOf", "(I)I"⟩, 10)]
theorem lw_r3 : ∀ q ∈ lw_privs_3, lw_okq q := List.forall_mem_cons.mpr ⟨lw_p32, List.forall_mem_cons.mpr ⟨lw_p33, List.forall_mem_cons.mpr ⟨lw_p34, List.forall_mem_cons.mpr ⟨lw_p35, List.forall_mem_cons.mpr ⟨lw_p36, List.forall_mem_cons.mpr ⟨lw_p37, List.forall_mem_cons.mpr ⟨lw_p38, List.forall_mem_cons.mpr ⟨lw_p39, List.forall_mem_cons.mpr ⟨lw_p40, List.forall_mem_cons.mpr ⟨lw_p41, List.forall_mem_cons.mpr ⟨lw_p42, List.forall_mem_cons.mpr ⟨lw_p43, List.forall_mem_cons.mpr ⟨lw_p44, List.forall_mem_cons.mpr ⟨lw_p45, List.forall_mem_cons.mpr ⟨lw_p46, List.forall_mem_cons.mpr ⟨lw_p47, fun _ h => absurd h List.not_mem_nil⟩⟩⟩⟩⟩⟩⟩⟩⟩⟩⟩⟩⟩⟩⟩⟩
theorem lw_p48 : lw_okq (⟨"SpreadRows$Hop", "strongestBeside", "(I)I"⟩, 3) := ⟨⟨by decide +kernel, by decide +kernel⟩, List.mem_of_getElem? (i := 311) (by decide +kernel), List.mem_of_getElem? (i := 1305) (by decide +kernel), List.mem_of_getElem? (i := 1306) (by decide +kernel)⟩
theorem lw_p49 : lw_okq (⟨"SpreadRows", "slotAt", "(I)LSpreadRows$Signal;"⟩, 10) := ⟨⟨by decide +kernel, by decide +kernel⟩, List.mem_of_getElem? (i := 21) (by decide +kernel), List.mem_of_getElem? (i := 1314) (by decide +kernel), List.mem_of_getElem? (i := 1315) (by decide +kernel)⟩
theorem lw_p50 : lw_okq (⟨"SpreadRows", "countOfOne", "(I)I"⟩, 10) := ⟨⟨by decide +kernel, by decide +kernel⟩, List.mem_of_getElem? (i := 21) (by decide +kernel), List.mem_of_getElem? (i := 1327) (by decide +kernel), List.mem_of_getElem? (i := 1328) (by decide +kernel)⟩
theorem lw_p51 : lw_okq (⟨"SpreadRowsModel", "put", "(I)V"⟩, 67) := ⟨⟨by decide +kernel, by decide +kernel⟩, List.mem_of_getElem? (i := 1331) (by decide +kernel), List.mem_of_getElem? (i := 1551) (by decide +kernel), List.mem_of_getElem? (i := 1552) (by decide +kernel)⟩
theorem lw_p52 : lw_okq (⟨"SpreadRowsModel", "cut", "()V"⟩, 67) := ⟨⟨by decide +kernel, by decide +kernel⟩, List.mem_of_getElem? (i := 1331) (by decide +kernel), List.mem_of_getElem? (i := 1563) (by decide +kernel), List.mem_of_getElem? (i := 1564) (by decide +kernel)⟩
theorem lw_p53 : lw_okq (⟨"SpreadRowsModel", "byteAt", "(I)I"⟩, 67) := ⟨⟨by decide +kernel, by decide +kernel⟩, List.mem_of_getElem? (i := 1331) (by decide +kernel), List.mem_of_getElem? (i := 1567) (by decide +kernel), List.mem_of_getElem? (i := 1568) (by decide +kernel)⟩
theorem lw_p54 : lw_okq (⟨"SpreadRowsModel", "token", "(IIIJ)V"⟩, 67) := ⟨⟨by decide +kernel, by decide +kernel⟩, List.mem_of_getElem? (i := 1331) (by decide +kernel), List.mem_of_getElem? (i := 1571) (by decide +kernel), List.mem_of_getElem? (i := 1572) (by decide +kernel)⟩
theorem lw_p55 : lw_okq (⟨"SpreadRowsModel", "sign", "(III)I"⟩, 67) := ⟨⟨by decide +kernel, by decide +kernel⟩, List.mem_of_getElem? (i := 1331) (by decide +kernel), List.mem_of_getElem? (i := 1581) (by decide +kernel), List.mem_of_getElem? (i := 1582) (by decide +kernel)⟩
theorem lw_p56 : lw_okq (⟨"SpreadRowsModel", "is", "(I)Z"⟩, 67) := ⟨⟨by decide +kernel, by decide +kernel⟩, List.mem_of_getElem? (i := 1331) (by decide +kernel), List.mem_of_getElem? (i := 1585) (by decide +kernel), List.mem_of_getElem? (i := 1586) (by decide +kernel)⟩
theorem lw_p57 : lw_okq (⟨"SpreadRowsModel", "tell", "()V"⟩, 67) := ⟨⟨by decide +kernel, by decide +kernel⟩, List.mem_of_getElem? (i := 1331) (by decide +kernel), List.mem_of_getElem? (i := 1589) (by decide +kernel), List.mem_of_getElem? (i := 1590) (by decide +kernel)⟩
theorem lw_p58 : lw_okq (⟨"SpreadRowsModel", "room", "(II)V"⟩, 67) := ⟨⟨by decide +kernel, by decide +kernel⟩, List.mem_of_getElem? (i := 1331) (by decide +kernel), List.mem_of_getElem? (i := 1593) (by decide +kernel), List.mem_of_getElem? (i := 1594) (by decide +kernel)⟩
theorem lw_p59 : lw_okq (⟨"SpreadRowsModel", "fail", "(I)V"⟩, 67) := ⟨⟨by decide +kernel, by decide +kernel⟩, List.mem_of_getElem? (i := 1331) (by decide +kernel), List.mem_of_getElem? (i := 1597) (by decide +kernel), List.mem_of_getElem? (i := 1598) (by decide +kernel)⟩
theorem lw_p60 : lw_okq (⟨"SpreadRowsModel", "goesOn", "()V"⟩, 67) := ⟨⟨by decide +kernel, by decide +kernel⟩, List.mem_of_getElem? (i := 1331) (by decide +kernel), List.mem_of_getElem? (i := 1601) (by decide +kernel), List.mem_of_getElem? (i := 1602) (by decide +kernel)⟩
theorem lw_p61 : lw_okq (⟨"SpreadRowsModel", "tellCode", "(I)V"⟩, 67) := ⟨⟨by decide +kernel, by decide +kernel⟩, List.mem_of_getElem? (i := 1331) (by decide +kernel), List.mem_of_getElem? (i := 1605) (by decide +kernel), List.mem_of_getElem? (i := 1606) (by decide +kernel)⟩
theorem lw_p62 : lw_okq (⟨"SpreadRowsModel", "named", "()I"⟩, 67) := ⟨⟨by decide +kernel, by decide +kernel⟩, List.mem_of_getElem? (i := 1331) (by decide +kernel), List.mem_of_getElem? (i := 1609) (by decide +kernel), List.mem_of_getElem? (i := 1610) (by decide +kernel)⟩
theorem lw_p63 : lw_okq (⟨"SpreadRowsModel", "must", "(I)V"⟩, 67) := ⟨⟨by decide +kernel, by decide +kernel⟩, List.mem_of_getElem? (i := 1331) (by decide +kernel), List.mem_of_getElem? (i := 1613) (by decide +kernel), List.mem_of_getElem? (i := 1614) (by decide +kernel)⟩
def lw_privs_4 : List (MethodName × Nat) := [(⟨"SpreadRows$Hop", "strongestBeside", "(I)I"⟩, 3), (⟨"SpreadRows", "slotAt", "(I)LSpreadRows$Signal;"⟩, 10), (⟨"SpreadRows", "countOfOne", "(I)I"⟩, 10), (⟨"SpreadRowsModel", "put", "(I)V"⟩, 67), (⟨"SpreadRowsModel", "cut", "()V"⟩, 67), (⟨"SpreadRowsModel", "byteAt", "(I)I"⟩, 67), (⟨"SpreadRowsModel", "token", "(IIIJ)V"⟩, 67), (⟨"SpreadRowsModel", "sign", "(III)I"⟩, 67), (⟨"SpreadRowsModel", "is", "(I)Z"⟩, 67), (⟨"SpreadRowsModel", "tell", "()V"⟩, 67), (⟨"SpreadRowsModel", "room", "(II)V"⟩, 67), (⟨"SpreadRowsModel", "fail", "(I)V"⟩, 67), (⟨"SpreadRowsModel", "goesOn", "()V"⟩, 67), (⟨"SpreadRowsModel", "tellCode", "(I)V"⟩, 67), (⟨"SpreadRowsModel", "named", "()I"⟩, 67), (⟨"SpreadRowsModel", "must", "(I)V"⟩, 67)]
theorem lw_r4 : ∀ q ∈ lw_privs_4, lw_okq q := List.forall_mem_cons.mpr ⟨lw_p48, List.forall_mem_cons.mpr ⟨lw_p49, List.forall_mem_cons.mpr ⟨lw_p50, List.forall_mem_cons.mpr ⟨lw_p51, List.forall_mem_cons.mpr ⟨lw_p52, List.forall_mem_cons.mpr ⟨lw_p53, List.forall_mem_cons.mpr ⟨lw_p54, List.forall_mem_cons.mpr ⟨lw_p55, List.forall_mem_cons.mpr ⟨lw_p56, List.forall_mem_cons.mpr ⟨lw_p57, List.forall_mem_cons.mpr ⟨lw_p58, List.forall_mem_cons.mpr ⟨lw_p59, List.forall_mem_cons.mpr ⟨lw_p60, List.forall_mem_cons.mpr ⟨lw_p61, List.forall_mem_cons.mpr ⟨lw_p62, List.forall_mem_cons.mpr ⟨lw_p63, fun _ h => absurd h List.not_mem_nil⟩⟩⟩⟩⟩⟩⟩⟩⟩⟩⟩⟩⟩⟩⟩⟩
theorem lw_p64 : lw_okq (⟨"SpreadRowsModel", "amiss", "(II)V"⟩, 67) := ⟨⟨by decide +kernel, by decide +kernel⟩, List.mem_of_getElem? (i := 1331) (by decide +kernel), List.mem_of_getElem? (i := 1617) (by decide +kernel), List.mem_of_getElem? (i := 1618) (by decide +kernel)⟩
theorem lw_p65 : lw_okq (⟨"SpreadRowsModel", "bounded", "(II)I"⟩, 67) := ⟨⟨by decide +kernel, by decide +kernel⟩, List.mem_of_getElem? (i := 1331) (by decide +kernel), List.mem_of_getElem? (i := 1621) (by decide +kernel), List.mem_of_getElem? (i := 1622) (by decide +kernel)⟩
theorem lw_p66 : lw_okq (⟨"SpreadRowsModel", "hangs", "(ZII)I"⟩, 67) := ⟨⟨by decide +kernel, by decide +kernel⟩, List.mem_of_getElem? (i := 1331) (by decide +kernel), List.mem_of_getElem? (i := 1625) (by decide +kernel), List.mem_of_getElem? (i := 1626) (by decide +kernel)⟩
theorem lw_p67 : lw_okq (⟨"SpreadRowsModel", "makesRegister", "(IIII)V"⟩, 67) := ⟨⟨by decide +kernel, by decide +kernel⟩, List.mem_of_getElem? (i := 1331) (by decide +kernel), List.mem_of_getElem? (i := 1629) (by decide +kernel), List.mem_of_getElem? (i := 1630) (by decide +kernel)⟩
theorem lw_p68 : lw_okq (⟨"SpreadRowsModel", "makesHalves", "(III)V"⟩, 67) := ⟨⟨by decide +kernel, by decide +kernel⟩, List.mem_of_getElem? (i := 1331) (by decide +kernel), List.mem_of_getElem? (i := 1636) (by decide +kernel), List.mem_of_getElem? (i := 1637) (by decide +kernel)⟩
theorem lw_p69 : lw_okq (⟨"SpreadRowsModel", "makesBits", "(III)V"⟩, 67) := ⟨⟨by decide +kernel, by decide +kernel⟩, List.mem_of_getElem? (i := 1331) (by decide +kernel), List.mem_of_getElem? (i := 1640) (by decide +kernel), List.mem_of_getElem? (i := 1641) (by decide +kernel)⟩
theorem lw_p70 : lw_okq (⟨"SpreadRowsModel", "tellBoth", "(I)V"⟩, 67) := ⟨⟨by decide +kernel, by decide +kernel⟩, List.mem_of_getElem? (i := 1331) (by decide +kernel), List.mem_of_getElem? (i := 1644) (by decide +kernel), List.mem_of_getElem? (i := 1645) (by decide +kernel)⟩
theorem lw_p71 : lw_okq (⟨"SpreadRowsModel", "known", "(I)I"⟩, 67) := ⟨⟨by decide +kernel, by decide +kernel⟩, List.mem_of_getElem? (i := 1331) (by decide +kernel), List.mem_of_getElem? (i := 1648) (by decide +kernel), List.mem_of_getElem? (i := 1649) (by decide +kernel)⟩
theorem lw_p72 : lw_okq (⟨"SpreadRowsModel", "notes", "(III)V"⟩, 67) := ⟨⟨by decide +kernel, by decide +kernel⟩, List.mem_of_getElem? (i := 1331) (by decide +kernel), List.mem_of_getElem? (i := 1652) (by decide +kernel), List.mem_of_getElem? (i := 1653) (by decide +kernel)⟩
theorem lw_p73 : lw_okq (⟨"SpreadRowsModel", "tellHop", "()V"⟩, 67) := ⟨⟨by decide +kernel, by decide +kernel⟩, List.mem_of_getElem? (i := 1331) (by decide +kernel), List.mem_of_getElem? (i := 1656) (by decide +kernel), List.mem_of_getElem? (i := 1657) (by decide +kernel)⟩
theorem lw_p74 : lw_okq (⟨"SpreadRowsModel", "tellSend", "()V"⟩, 67) := ⟨⟨by decide +kernel, by decide +kernel⟩, List.mem_of_getElem? (i := 1331) (by decide +kernel), List.mem_of_getElem? (i := 1663) (by decide +kernel), List.mem_of_getElem? (i := 1664) (by decide +kernel)⟩
theorem lw_p75 : lw_okq (⟨"SpreadRowsModel", "tellEcho", "()V"⟩, 67) := ⟨⟨by decide +kernel, by decide +kernel⟩, List.mem_of_getElem? (i := 1331) (by decide +kernel), List.mem_of_getElem? (i := 1667) (by decide +kernel), List.mem_of_getElem? (i := 1668) (by decide +kernel)⟩
theorem lw_p76 : lw_okq (⟨"SpreadRowsModel", "tellJam", "()V"⟩, 67) := ⟨⟨by decide +kernel, by decide +kernel⟩, List.mem_of_getElem? (i := 1331) (by decide +kernel), List.mem_of_getElem? (i := 1671) (by decide +kernel), List.mem_of_getElem? (i := 1672) (by decide +kernel)⟩
theorem lw_p77 : lw_okq (⟨"SpreadRowsModel", "lays", "()V"⟩, 67) := ⟨⟨by decide +kernel, by decide +kernel⟩, List.mem_of_getElem? (i := 1331) (by decide +kernel), List.mem_of_getElem? (i := 1675) (by decide +kernel), List.mem_of_getElem? (i := 1676) (by decide +kernel)⟩
theorem lw_p78 : lw_okq (⟨"SpreadRowsModel", "laysData", "(I)V"⟩, 67) := ⟨⟨by decide +kernel, by decide +kernel⟩, List.mem_of_getElem? (i := 1331) (by decide +kernel), List.mem_of_getElem? (i := 1679) (by decide +kernel), List.mem_of_getElem? (i := 1680) (by decide +kernel)⟩
theorem lw_p79 : lw_okq (⟨"SpreadRowsModel", "dataBit", "(II)I"⟩, 67) := ⟨⟨by decide +kernel, by decide +kernel⟩, List.mem_of_getElem? (i := 1331) (by decide +kernel), List.mem_of_getElem? (i := 1683) (by decide +kernel), List.mem_of_getElem? (i := 1684) (by decide +kernel)⟩
def lw_privs_5 : List (MethodName × Nat) := [(⟨"SpreadRowsModel", "amiss", "(II)V"⟩, 67), (⟨"SpreadRowsModel", "bounded", "(II)I"⟩, 67), (⟨"SpreadRowsModel", "hangs", "(ZII)I"⟩, 67), (⟨"SpreadRowsModel", "makesRegister", "(IIII)V"⟩, 67), (⟨"SpreadRowsModel", "makesHalves", "(III)V"⟩, 67), (⟨"SpreadRowsModel", "makesBits", "(III)V"⟩, 67), (⟨"SpreadRowsModel", "tellBoth", "(I)V"⟩, 67), (⟨"SpreadRowsModel", "known", "(I)I"⟩, 67), (⟨"SpreadRowsModel", "notes", "(III)V"⟩, 67), (⟨"SpreadRowsModel", "tellHop", "()V"⟩, 67), (⟨"SpreadRowsModel", "tellSend", "()V"⟩, 67), (⟨"SpreadRowsModel", "tellEcho", "()V"⟩, 67), (⟨"SpreadRowsModel", "tellJam", "()V"⟩, 67), (⟨"SpreadRowsModel", "lays", "()V"⟩, 67), (⟨"SpreadRowsModel", "laysData", "(I)V"⟩, 67), (⟨"SpreadRowsModel", "dataBit", "(II)I"⟩, 67)]
theorem lw_r5 : ∀ q ∈ lw_privs_5, lw_okq q := List.forall_mem_cons.mpr ⟨lw_p64, List.forall_mem_cons.mpr ⟨lw_p65, List.forall_mem_cons.mpr ⟨lw_p66, List.forall_mem_cons.mpr ⟨lw_p67, List.forall_mem_cons.mpr ⟨lw_p68, List.forall_mem_cons.mpr ⟨lw_p69, List.forall_mem_cons.mpr ⟨lw_p70, List.forall_mem_cons.mpr ⟨lw_p71, List.forall_mem_cons.mpr ⟨lw_p72, List.forall_mem_cons.mpr ⟨lw_p73, List.forall_mem_cons.mpr ⟨lw_p74, List.forall_mem_cons.mpr ⟨lw_p75, List.forall_mem_cons.mpr ⟨lw_p76, List.forall_mem_cons.mpr ⟨lw_p77, List.forall_mem_cons.mpr ⟨lw_p78, List.forall_mem_cons.mpr ⟨lw_p79, fun _ h => absurd h List.not_mem_nil⟩⟩⟩⟩⟩⟩⟩⟩⟩⟩⟩⟩⟩⟩⟩⟩
theorem lw_p80 : lw_okq (⟨"SpreadRowsModel", "addsWave", "([III)V"⟩, 67) := ⟨⟨by decide +kernel, by decide +kernel⟩, List.mem_of_getElem? (i := 1331) (by decide +kernel), List.mem_of_getElem? (i := 1687) (by decide +kernel), List.mem_of_getElem? (i := 1688) (by decide +kernel)⟩
theorem lw_p81 : lw_okq (⟨"SpreadRowsModel", "n", "()I"⟩, 67) := ⟨⟨by decide +kernel, by decide +kernel⟩, List.mem_of_getElem? (i := 1331) (by decide +kernel), List.mem_of_getElem? (i := 1691) (by decide +kernel), List.mem_of_getElem? (i := 1692) (by decide +kernel)⟩
theorem lw_p82 : lw_okq (⟨"SpreadRowsModel", "periodAt", "(II)I"⟩, 67) := ⟨⟨by decide +kernel, by decide +kernel⟩, List.mem_of_getElem? (i := 1331) (by decide +kernel), List.mem_of_getElem? (i := 1695) (by decide +kernel), List.mem_of_getElem? (i := 1696) (by decide +kernel)⟩
theorem lw_p83 : lw_okq (⟨"SpreadRowsModel", "delayAt", "(II)I"⟩, 67) := ⟨⟨by decide +kernel, by decide +kernel⟩, List.mem_of_getElem? (i := 1331) (by decide +kernel), List.mem_of_getElem? (i := 1699) (by decide +kernel), List.mem_of_getElem? (i := 1700) (by decide +kernel)⟩
theorem lw_p84 : lw_okq (⟨"SpreadRowsModel", "codeOf", "(I)I"⟩, 67) := ⟨⟨by decide +kernel, by decide +kernel⟩, List.mem_of_getElem? (i := 1331) (by decide +kernel), List.mem_of_getElem? (i := 1703) (by decide +kernel), List.mem_of_getElem? (i := 1704) (by decide +kernel)⟩
theorem lw_p85 : lw_okq (⟨"SpreadRowsModel", "long0", "(I)I"⟩, 67) := ⟨⟨by decide +kernel, by decide +kernel⟩, List.mem_of_getElem? (i := 1331) (by decide +kernel), List.mem_of_getElem? (i := 1707) (by decide +kernel), List.mem_of_getElem? (i := 1708) (by decide +kernel)⟩
theorem lw_p86 : lw_okq (⟨"SpreadRowsModel", "signAt", "(II)I"⟩, 67) := ⟨⟨by decide +kernel, by decide +kernel⟩, List.mem_of_getElem? (i := 1331) (by decide +kernel), List.mem_of_getElem? (i := 1711) (by decide +kernel), List.mem_of_getElem? (i := 1712) (by decide +kernel)⟩
theorem lw_p87 : lw_okq (⟨"SpreadRowsModel", "chipOf", "(II)I"⟩, 67) := ⟨⟨by decide +kernel, by decide +kernel⟩, List.mem_of_getElem? (i := 1331) (by decide +kernel), List.mem_of_getElem? (i := 1715) (by decide +kernel), List.mem_of_getElem? (i := 1716) (by decide +kernel)⟩
theorem lw_p88 : lw_okq (⟨"SpreadRowsModel", "isIm", "(II)Z"⟩, 67) := ⟨⟨by decide +kernel, by decide +kernel⟩, List.mem_of_getElem? (i := 1331) (by decide +kernel), List.mem_of_getElem? (i := 1722) (by decide +kernel), List.mem_of_getElem? (i := 1723) (by decide +kernel)⟩
theorem lw_p89 : lw_okq (⟨"SpreadRowsModel", "adds", "([IIZI)V"⟩, 67) := ⟨⟨by decide +kernel, by decide +kernel⟩, List.mem_of_getElem? (i := 1331) (by decide +kernel), List.mem_of_getElem? (i := 1726) (by decide +kernel), List.mem_of_getElem? (i := 1727) (by decide +kernel)⟩
theorem lw_p90 : lw_okq (⟨"SpreadRowsModel", "addsNoise", "(II)V"⟩, 67) := ⟨⟨by decide +kernel, by decide +kernel⟩, List.mem_of_getElem? (i := 1331) (by decide +kernel), List.mem_of_getElem? (i := 1730) (by decide +kernel), List.mem_of_getElem? (i := 1731) (by decide +kernel)⟩
theorem lw_p91 : lw_okq (⟨"SpreadRowsModel", "isCode", "(I)Z"⟩, 67) := ⟨⟨by decide +kernel, by decide +kernel⟩, List.mem_of_getElem? (i := 1331) (by decide +kernel), List.mem_of_getElem? (i := 1749) (by decide +kernel), List.mem_of_getElem? (i := 1750) (by decide +kernel)⟩
theorem lw_p92 : lw_okq (⟨"SpreadRowsModel", "roundOf", "(I)I"⟩, 67) := ⟨⟨by decide +kernel, by decide +kernel⟩, List.mem_of_getElem? (i := 1331) (by decide +kernel), List.mem_of_getElem? (i := 1756) (by decide +kernel), List.mem_of_getElem? (i := 1757) (by decide +kernel)⟩
theorem lw_p93 : lw_okq (⟨"SpreadRowsModel", "alikeAt", "(III)I"⟩, 67) := ⟨⟨by decide +kernel, by decide +kernel⟩, List.mem_of_getElem? (i := 1331) (by decide +kernel), List.mem_of_getElem? (i := 1760) (by decide +kernel), List.mem_of_getElem? (i := 1761) (by decide +kernel)⟩
theorem lw_p94 : lw_okq (⟨"SpreadRowsModel", "arePair", "(II)Z"⟩, 67) := ⟨⟨by decide +kernel, by decide +kernel⟩, List.mem_of_getElem? (i := 1331) (by decide +kernel), List.mem_of_getElem? (i := 1772) (by decide +kernel), List.mem_of_getElem? (i := 1773) (by decide +kernel)⟩
theorem lw_p95 : lw_okq (⟨"SpreadRowsModel", "worstOf", "(II)I"⟩, 67) := ⟨⟨by decide +kernel, by decide +kernel⟩, List.mem_of_getElem? (i := 1331) (by decide +kernel), List.mem_of_getElem? (i := 1780) (by decide +kernel), List.mem_of_getElem? (i := 1781) (by decide +kernel)⟩
def lw_privs_6 : List (MethodName × Nat) := [(⟨"SpreadRowsModel", "addsWave", "([III)V"⟩, 67), (⟨"SpreadRowsModel", "n", "()I"⟩, 67), (⟨"SpreadRowsModel", "periodAt", "(II)I"⟩, 67), (⟨"SpreadRowsModel", "delayAt", "(II)I"⟩, 67), (⟨"SpreadRowsModel", "codeOf", "(I)I"⟩, 67), (⟨"SpreadRowsModel", "long0", "(I)I"⟩, 67), (⟨"SpreadRowsModel", "signAt", "(II)I"⟩, 67), (⟨"SpreadRowsModel", "chipOf", "(II)I"⟩, 67), (⟨"SpreadRowsModel", "isIm", "(II)Z"⟩, 67), (⟨"SpreadRowsModel", "adds", "([IIZI)V"⟩, 67), (⟨"SpreadRowsModel", "addsNoise", "(II)V"⟩, 67), (⟨"SpreadRowsModel", "isCode", "(I)Z"⟩, 67), (⟨"SpreadRowsModel", "roundOf", "(I)I"⟩, 67), (⟨"SpreadRowsModel", "alikeAt", "(III)I"⟩, 67), (⟨"SpreadRowsModel", "arePair", "(II)Z"⟩, 67), (⟨"SpreadRowsModel", "worstOf", "(II)I"⟩, 67)]
theorem lw_r6 : ∀ q ∈ lw_privs_6, lw_okq q := List.forall_mem_cons.mpr ⟨lw_p80, List.forall_mem_cons.mpr ⟨lw_p81, List.forall_mem_cons.mpr ⟨lw_p82, List.forall_mem_cons.mpr ⟨lw_p83, List.forall_mem_cons.mpr ⟨lw_p84, List.forall_mem_cons.mpr ⟨lw_p85, List.forall_mem_cons.mpr ⟨lw_p86, List.forall_mem_cons.mpr ⟨lw_p87, List.forall_mem_cons.mpr ⟨lw_p88, List.forall_mem_cons.mpr ⟨lw_p89, List.forall_mem_cons.mpr ⟨lw_p90, List.forall_mem_cons.mpr ⟨lw_p91, List.forall_mem_cons.mpr ⟨lw_p92, List.forall_mem_cons.mpr ⟨lw_p93, List.forall_mem_cons.mpr ⟨lw_p94, List.forall_mem_cons.mpr ⟨lw_p95, fun _ h => absurd h List.not_mem_nil⟩⟩⟩⟩⟩⟩⟩⟩⟩⟩⟩⟩⟩⟩⟩⟩
theorem lw_p96 : lw_okq (⟨"SpreadRowsModel", "isFamily", "(I)Z"⟩, 67) := ⟨⟨by decide +kernel, by decide +kernel⟩, List.mem_of_getElem? (i := 1331) (by decide +kernel), List.mem_of_getElem? (i := 1799) (by decide +kernel), List.mem_of_getElem? (i := 1800) (by decide +kernel)⟩
theorem lw_p97 : lw_okq (⟨"SpreadRowsModel", "isSample", "(I)Z"⟩, 67) := ⟨⟨by decide +kernel, by decide +kernel⟩, List.mem_of_getElem? (i := 1331) (by decide +kernel), List.mem_of_getElem? (i := 1807) (by decide +kernel), List.mem_of_getElem? (i := 1808) (by decide +kernel)⟩
theorem lw_p98 : lw_okq (⟨"SpreadRowsModel", "isSender", "(I)Z"⟩, 67) := ⟨⟨by decide +kernel, by decide +kernel⟩, List.mem_of_getElem? (i := 1331) (by decide +kernel), List.mem_of_getElem? (i := 1827) (by decide +kernel), List.mem_of_getElem? (i := 1828) (by decide +kernel)⟩
theorem lw_p99 : lw_okq (⟨"SpreadRowsModel", "sums", "(IIII)V"⟩, 67) := ⟨⟨by decide +kernel, by decide +kernel⟩, List.mem_of_getElem? (i := 1331) (by decide +kernel), List.mem_of_getElem? (i := 1848) (by decide +kernel), List.mem_of_getElem? (i := 1849) (by decide +kernel)⟩
theorem lw_p100 : lw_okq (⟨"SpreadRowsModel", "canLook", "(III)Z"⟩, 67) := ⟨⟨by decide +kernel, by decide +kernel⟩, List.mem_of_getElem? (i := 1331) (by decide +kernel), List.mem_of_getElem? (i := 1856) (by decide +kernel), List.mem_of_getElem? (i := 1857) (by decide +kernel)⟩
theorem lw_p101 : lw_okq (⟨"SpreadRowsModel", "isCell", "(II)Z"⟩, 67) := ⟨⟨by decide +kernel, by decide +kernel⟩, List.mem_of_getElem? (i := 1331) (by decide +kernel), List.mem_of_getElem? (i := 1860) (by decide +kernel), List.mem_of_getElem? (i := 1861) (by decide +kernel)⟩
theorem lw_p102 : lw_okq (⟨"SpreadRowsModel", "metricOf", "(IIII)J"⟩, 67) := ⟨⟨by decide +kernel, by decide +kernel⟩, List.mem_of_getElem? (i := 1331) (by decide +kernel), List.mem_of_getElem? (i := 1864) (by decide +kernel), List.mem_of_getElem? (i := 1865) (by decide +kernel)⟩
theorem lw_p103 : lw_okq (⟨"SpreadRowsModel", "bestOf", "(III)I"⟩, 67) := ⟨⟨by decide +kernel, by decide +kernel⟩, List.mem_of_getElem? (i := 1331) (by decide +kernel), List.mem_of_getElem? (i := 1872) (by decide +kernel), List.mem_of_getElem? (i := 1873) (by decide +kernel)⟩
theorem lw_p104 : lw_okq (⟨"SpreadRowsModel", "bitBy", "(IIZ)I"⟩, 67) := ⟨⟨by decide +kernel, by decide +kernel⟩, List.mem_of_getElem? (i := 1331) (by decide +kernel), List.mem_of_getElem? (i := 1911) (by decide +kernel), List.mem_of_getElem? (i := 1912) (by decide +kernel)⟩
theorem lw_p105 : lw_okq (⟨"SpreadRowsModel", "sumsUp", "([IIZ)V"⟩, 67) := ⟨⟨by decide +kernel, by decide +kernel⟩, List.mem_of_getElem? (i := 1331) (by decide +kernel), List.mem_of_getElem? (i := 1915) (by decide +kernel), List.mem_of_getElem? (i := 1916) (by decide +kernel)⟩
theorem lw_p106 : lw_okq (⟨"SpreadRowsModel", "bitOf", "(I)I"⟩, 67) := ⟨⟨by decide +kernel, by decide +kernel⟩, List.mem_of_getElem? (i := 1331) (by decide +kernel), List.mem_of_getElem? (i := 1919) (by decide +kernel), List.mem_of_getElem? (i := 1920) (by decide +kernel)⟩
theorem lw_p107 : lw_okq (⟨"SpreadRowsModel", "wrongOf", "([II)I"⟩, 67) := ⟨⟨by decide +kernel, by decide +kernel⟩, List.mem_of_getElem? (i := 1331) (by decide +kernel), List.mem_of_getElem? (i := 1931) (by decide +kernel), List.mem_of_getElem? (i := 1932) (by decide +kernel)⟩
theorem lw_p108 : lw_okq (⟨"SpreadRowsModel", "takesOut", "(I)I"⟩, 67) := ⟨⟨by decide +kernel, by decide +kernel⟩, List.mem_of_getElem? (i := 1331) (by decide +kernel), List.mem_of_getElem? (i := 1947) (by decide +kernel), List.mem_of_getElem? (i := 1948) (by decide +kernel)⟩
theorem lw_p109 : lw_okq (⟨"SpreadRowsModel", "byAmplitude", "(I)I"⟩, 67) := ⟨⟨by decide +kernel, by decide +kernel⟩, List.mem_of_getElem? (i := 1331) (by decide +kernel), List.mem_of_getElem? (i := 1951) (by decide +kernel), List.mem_of_getElem? (i := 1952) (by decide +kernel)⟩
theorem lw_p110 : lw_okq (⟨"SpreadRowsModel", "readsAll", "(I)I"⟩, 67) := ⟨⟨by decide +kernel, by decide +kernel⟩, List.mem_of_getElem? (i := 1331) (by decide +kernel), List.mem_of_getElem? (i := 1963) (by decide +kernel), List.mem_of_getElem? (i := 1964) (by decide +kernel)⟩
theorem lw_p111 : lw_okq (⟨"SpreadRowsModel", "loopOf", "(IIIII)I"⟩, 67) := ⟨⟨by decide +kernel, by decide +kernel⟩, List.mem_of_getElem? (i := 1331) (by decide +kernel), List.mem_of_getElem? (i := 1971) (by decide +kernel), List.mem_of_getElem? (i := 1972) (by decide +kernel)⟩
def lw_privs_7 : List (MethodName × Nat) := [(⟨"SpreadRowsModel", "isFamily", "(I)Z"⟩, 67), (⟨"SpreadRowsModel", "isSample", "(I)Z"⟩, 67), (⟨"SpreadRowsModel", "isSender", "(I)Z"⟩, 67), (⟨"SpreadRowsModel", "sums", "(IIII)V"⟩, 67), (⟨"SpreadRowsModel", "canLook", "(III)Z"⟩, 67), (⟨"SpreadRowsModel", "isCell", "(II)Z"⟩, 67), (⟨"SpreadRowsModel", "metricOf", "(IIII)J"⟩, 67), (⟨"SpreadRowsModel", "bestOf", "(III)I"⟩, 67), (⟨"SpreadRowsModel", "bitBy", "(IIZ)I"⟩, 67), (⟨"SpreadRowsModel", "sumsUp", "([IIZ)V"⟩, 67), (⟨"SpreadRowsModel", "bitOf", "(I)I"⟩, 67), (⟨"SpreadRowsModel", "wrongOf", "([II)I"⟩, 67), (⟨"SpreadRowsModel", "takesOut", "(I)I"⟩, 67), (⟨"SpreadRowsModel", "byAmplitude", "(I)I"⟩, 67), (⟨"SpreadRowsModel", "readsAll", "(I)I"⟩, 67), (⟨"SpreadRowsModel", "loopOf", "(IIIII)I"⟩, 67)]
theorem lw_r7 : ∀ q ∈ lw_privs_7, lw_okq q := List.forall_mem_cons.mpr ⟨lw_p96, List.forall_mem_cons.mpr ⟨lw_p97, List.forall_mem_cons.mpr ⟨lw_p98, List.forall_mem_cons.mpr ⟨lw_p99, List.forall_mem_cons.mpr ⟨lw_p100, List.forall_mem_cons.mpr ⟨lw_p101, List.forall_mem_cons.mpr ⟨lw_p102, List.forall_mem_cons.mpr ⟨lw_p103, List.forall_mem_cons.mpr ⟨lw_p104, List.forall_mem_cons.mpr ⟨lw_p105, List.forall_mem_cons.mpr ⟨lw_p106, List.forall_mem_cons.mpr ⟨lw_p107, List.forall_mem_cons.mpr ⟨lw_p108, List.forall_mem_cons.mpr ⟨lw_p109, List.forall_mem_cons.mpr ⟨lw_p110, List.forall_mem_cons.mpr ⟨lw_p111, fun _ h => absurd h List.not_mem_nil⟩⟩⟩⟩⟩⟩⟩⟩⟩⟩⟩⟩⟩⟩⟩⟩
theorem lw_p112 : lw_okq (⟨"SpreadRowsModel", "isRest", "(II)Z"⟩, 67) := ⟨⟨by decide +kernel, by decide +kernel⟩, List.mem_of_getElem? (i := 1331) (by decide +kernel), List.mem_of_getElem? (i := 1983) (by decide +kernel), List.mem_of_getElem? (i := 1984) (by decide +kernel)⟩
theorem lw_p113 : lw_okq (⟨"SpreadRowsModel", "isHop", "(I)Z"⟩, 67) := ⟨⟨by decide +kernel, by decide +kernel⟩, List.mem_of_getElem? (i := 1331) (by decide +kernel), List.mem_of_getElem? (i := 2000) (by decide +kernel), List.mem_of_getElem? (i := 2001) (by decide +kernel)⟩
theorem lw_p114 : lw_okq (⟨"SpreadRowsModel", "channel", "(II)I"⟩, 67) := ⟨⟨by decide +kernel, by decide +kernel⟩, List.mem_of_getElem? (i := 1331) (by decide +kernel), List.mem_of_getElem? (i := 2004) (by decide +kernel), List.mem_of_getElem? (i := 2005) (by decide +kernel)⟩
theorem lw_p115 : lw_okq (⟨"SpreadRowsModel", "p", "(I)I"⟩, 67) := ⟨⟨by decide +kernel, by decide +kernel⟩, List.mem_of_getElem? (i := 1331) (by decide +kernel), List.mem_of_getElem? (i := 2008) (by decide +kernel), List.mem_of_getElem? (i := 2009) (by decide +kernel)⟩
theorem lw_p116 : lw_okq (⟨"SpreadRowsModel", "areHops", "(II)Z"⟩, 67) := ⟨⟨by decide +kernel, by decide +kernel⟩, List.mem_of_getElem? (i := 1331) (by decide +kernel), List.mem_of_getElem? (i := 2016) (by decide +kernel), List.mem_of_getElem? (i := 2017) (by decide +kernel)⟩
theorem lw_p117 : lw_okq (⟨"SpreadRowsModel", "hitsAt", "(III)I"⟩, 67) := ⟨⟨by decide +kernel, by decide +kernel⟩, List.mem_of_getElem? (i := 1331) (by decide +kernel), List.mem_of_getElem? (i := 2020) (by decide +kernel), List.mem_of_getElem? (i := 2021) (by decide +kernel)⟩
theorem lw_p118 : lw_okq (⟨"SpreadRowsModel", "isCrowded", "(II)Z"⟩, 67) := ⟨⟨by decide +kernel, by decide +kernel⟩, List.mem_of_getElem? (i := 1331) (by decide +kernel), List.mem_of_getElem? (i := 2032) (by decide +kernel), List.mem_of_getElem? (i := 2033) (by decide +kernel)⟩
theorem lw_p119 : lw_okq (⟨"SpreadRowsModel", "slotsOn", "(II)I"⟩, 67) := ⟨⟨by decide +kernel, by decide +kernel⟩, List.mem_of_getElem? (i := 1331) (by decide +kernel), List.mem_of_getElem? (i := 2044) (by decide +kernel), List.mem_of_getElem? (i := 2045) (by decide +kernel)⟩
theorem lw_p120 : lw_okq (⟨"SpreadRowsModel", "periodsOf", "(I)I"⟩, 67) := ⟨⟨by decide +kernel, by decide +kernel⟩, List.mem_of_getElem? (i := 1331) (by decide +kernel), List.mem_of_getElem? (i := 2060) (by decide +kernel), List.mem_of_getElem? (i := 2061) (by decide +kernel)⟩
def lw_privs_8 : List (MethodName × Nat) := [(⟨"SpreadRowsModel", "isRest", "(II)Z"⟩, 67), (⟨"SpreadRowsModel", "isHop", "(I)Z"⟩, 67), (⟨"SpreadRowsModel", "channel", "(II)I"⟩, 67), (⟨"SpreadRowsModel", "p", "(I)I"⟩, 67), (⟨"SpreadRowsModel", "areHops", "(II)Z"⟩, 67), (⟨"SpreadRowsModel", "hitsAt", "(III)I"⟩, 67), (⟨"SpreadRowsModel", "isCrowded", "(II)Z"⟩, 67), (⟨"SpreadRowsModel", "slotsOn", "(II)I"⟩, 67), (⟨"SpreadRowsModel", "periodsOf", "(I)I"⟩, 67)]
theorem lw_r8 : ∀ q ∈ lw_privs_8, lw_okq q := List.forall_mem_cons.mpr ⟨lw_p112, List.forall_mem_cons.mpr ⟨lw_p113, List.forall_mem_cons.mpr ⟨lw_p114, List.forall_mem_cons.mpr ⟨lw_p115, List.forall_mem_cons.mpr ⟨lw_p116, List.forall_mem_cons.mpr ⟨lw_p117, List.forall_mem_cons.mpr ⟨lw_p118, List.forall_mem_cons.mpr ⟨lw_p119, List.forall_mem_cons.mpr ⟨lw_p120, fun _ h => absurd h List.not_mem_nil⟩⟩⟩⟩⟩⟩⟩⟩⟩
def lw_privs : List (MethodName × Nat) := lw_privs_1 ++ (lw_privs_2 ++ (lw_privs_3 ++ (lw_privs_4 ++ (lw_privs_5 ++ (lw_privs_6 ++ (lw_privs_7 ++ (lw_privs_8)))))))
def lw_tbl : List Cond := k2_sels lw_privs ++ tables_1
theorem lw_privs_ok : ∀ q ∈ lw_privs, lw_okq q := by
  show ∀ q ∈ lw_privs_1 ++ (lw_privs_2 ++ (lw_privs_3 ++ (lw_privs_4 ++ (lw_privs_5 ++ (lw_privs_6 ++ (lw_privs_7 ++ (lw_privs_8))))))), lw_okq q
  exact List.forall_mem_append.mpr ⟨lw_r1, List.forall_mem_append.mpr ⟨lw_r2, List.forall_mem_append.mpr ⟨lw_r3, List.forall_mem_append.mpr ⟨lw_r4, List.forall_mem_append.mpr ⟨lw_r5, List.forall_mem_append.mpr ⟨lw_r6, List.forall_mem_append.mpr ⟨lw_r7, lw_r8⟩⟩⟩⟩⟩⟩⟩
-- ===== end of PART A; then your names; then what follows =====
/-! THE CLAIM OUT OF ONE WALK OF THE LAW'S BODY. Your part is whole_start (and what it stands on); all else here is the same for every law, but numbers. -/
def R_law : String := "SpreadRowsLaw"
def lw_P (b : Addr) (xs : List Int32) (args : Array Value) (s : State) : Prop := args = #[.ref b] ∧ s.IntsAt b xs ∧ xs.length ≤ 4096 ∧ (Jvm.Cond.and given_1 narrow_1).before args s = true
def lw_Q (_ : Array Value) (s : State) (o : Outcome) (t : State) : Prop := o = .returned (some (.int 1)) ∧ Framed s o t [] 600000 7302250
def lw_Z (below : List Frame) (a : Array Value) (s : State) : State → Prop := fun t => ∃ o, t.status = .running ∧ Ended t below o ∧ lw_Q a s o t
/-- the law's own end, with 1 on the stack, nothing written that was there before, its room as the claim has it -/
theorem lw_ret {p : Program} {l : Launch} {e : Env} {s : State} {m : MethodId} {below : List Frame} {meth : Method} {c : Code} {b : Nat} (hx : p.tables.exec = Jvm.exec) (hb : c.code = code) (hr : meth.sig.returnType = ret) (hlocks : meth.locks = false) {pc : Nat} {H : Heap} {ls : Array Slot} (hdg : decode code pc = .ok (.ireturn, 1)) : W p l e room_1 s m #[Value.ref b] below meth c H [] 600000 7302250 (lw_Z below #[Value.ref b] s) (F0 m pc ls [.int 1]) := by
  intro T hT X
  obtain ⟨fs, hret, hrun, hended, hW, hframe⟩ := X.leave (v := some (.int 1)) (hlocks := hlocks) (fun h => by rw [hr] at h; cases h)
  have hmeth' : T.vm.method? m = some meth := X.method'
  refine ⟨T.setFrames fs, ?_, .returned (some (.int 1)), hrun, hended, rfl, ⟨_, rfl⟩, hW, hframe⟩
  jvm_step X.here [X.here.top, hx, hb, hdg, hmeth', hr, ret, narrow_b1]
  (try refine ⟨rfl, ?_⟩); (try refine ⟨rfl, ?_⟩)
  first | (intro acts; rw [hret _ acts rfl rfl rfl]) | rw [hret _ _ rfl rfl rfl]
  exact Steps.refl _
/-- what holds at the law's entry: the machine, the code, the tables' words (any of lw_tbl by 'hts w (by decide +kernel)'), the script of L ints xs at the cell b, what the Statement gives of the start (any of its parts by flat_of_before) -/
def lw_At (p : Program) (s : State) (m : MethodId) (meth : Method) (c : Code) (b L : Nat) (xs : Nat → Int32) : Prop :=
  p.tables.exec = Jvm.exec ∧ c.code = code ∧ meth.sig.returnType = ret ∧ c.maxLocals = 4 ∧ s.vm.findClass R_law = some m.cls ∧ (∀ w ∈ lw_tbl, w.before #[Value.ref b] s = true) ∧ va_X b L xs s s.heap ∧ b < s.heap.size ∧ meth.locks = false ∧ (Jvm.Cond.and given_1 narrow_1).before #[Value.ref b] s = true
def RX0 : String := "SpreadRows$Code"
def TX0 : u_T := fun k => match k with
  | 0 => ("SpreadRows$Code", "chips", "LSpreadRows$Row;", true)
  | _ => ("SpreadRows$Code", "length", "I", false)
def tyX0 : Nat → FieldType := fun k => match k with
  | 0 => .object "SpreadRows$Row"
  | _ => .int
abbrev wsX00 : List Cond := u_ws RX0 TX0 2
theorem nmX0 : ∀ a, a < 2 → ∀ b, b < 2 → a ≠ b → (TX0 a).2.1 ≠ (TX0 b).2.1 := by decide +kernel
theorem tyX0_ok : ∀ k, k < 2 → parseFieldDescriptor (TX0 k).2.2.1 = some (tyX0 k) := by decide +kernel
abbrev cX0_init : ByteArray := prog_2_method_1_code
def yX0_init : MethodName := ⟨RX0, "<init>", "()V"⟩
abbrev cX0_chipAt : ByteArray := prog_2_method_2_code
def yX0_chipAt : MethodName := ⟨RX0, "chipAt", "(I)I"⟩
abbrev cX0_chipRoundAt : ByteArray := prog_2_method_3_code
def yX0_chipRoundAt : MethodName := ⟨RX0, "chipRoundAt", "(I)I"⟩
abbrev cX0_cells : ByteArray := prog_2_method_4_code
def yX0_cells : MethodName := ⟨RX0, "cells", "()I"⟩
abbrev cX0_putBit : ByteArray := prog_2_method_5_code
def yX0_putBit : MethodName := ⟨RX0, "putBit", "(II)V"⟩
abbrev cX0_layRegister : ByteArray := prog_2_method_6_code
def yX0_layRegister : MethodName := ⟨RX0, "layRegister", "(III)V"⟩
abbrev cX0_layWalsh : ByteArray := prog_2_method_7_code
def yX0_layWalsh : MethodName := ⟨RX0, "layWalsh", "(II)V"⟩
abbrev cX0_layBits : ByteArray := prog_2_method_8_code
def yX0_layBits : MethodName := ⟨RX0, "layBits", "(II)V"⟩
abbrev cX0_layBoth : ByteArray := prog_2_method_9_code
def yX0_layBoth : MethodName := ⟨RX0, "layBoth", "(LSpreadRows$Code;LSpreadRows$Code;I)V"⟩
abbrev cX0_minuses : ByteArray := prog_2_method_10_code
def yX0_minuses : MethodName := ⟨RX0, "minuses", "()I"⟩
abbrev cX0_ownShift : ByteArray := prog_2_method_11_code
def yX0_ownShift : MethodName := ⟨RX0, "ownShift", "()I"⟩
abbrev cX0_changes : ByteArray := prog_2_method_12_code
def yX0_changes : MethodName := ⟨RX0, "changes", "()I"⟩
abbrev cX0_along : ByteArray := prog_2_method_13_code
def yX0_along : MethodName := ⟨RX0, "along", "(LSpreadRows$Row;I)J"⟩
abbrev cX0_alikeness : ByteArray := prog_2_method_14_code
def yX0_alikeness : MethodName := ⟨RX0, "alikeness", "(LSpreadRows$Code;I)I"⟩
abbrev cX0_worstLikeness : ByteArray := prog_2_method_15_code
def yX0_worstLikeness : MethodName := ⟨RX0, "worstLikeness", "(LSpreadRows$Code;Z)I"⟩
abbrev cX0_shiftsAlikeBy : ByteArray := prog_2_method_16_code
def yX0_shiftsAlikeBy : MethodName := ⟨RX0, "shiftsAlikeBy", "(LSpreadRows$Code;I)I"⟩
def RX1 : String := "SpreadRows$Hop"
def TX1 : u_T := fun k => match k with
  | 0 => ("SpreadRows$Hop", "prime", "I", false)
  | 1 => ("SpreadRows$Hop", "square", "I", false)
  | _ => ("SpreadRows$Hop", "single", "I", false)
def tyX1 : Nat → FieldType := fun k => match k with
  | 0 => .int
  | 1 => .int
  | _ => .int
abbrev wsX10 : List Cond := u_ws RX1 TX1 3
theorem nmX1 : ∀ a, a < 3 → ∀ b, b < 3 → a ≠ b → (TX1 a).2.1 ≠ (TX1 b).2.1 := by decide +kernel
theorem tyX1_ok : ∀ k, k < 3 → parseFieldDescriptor (TX1 k).2.2.1 = some (tyX1 k) := by decide +kernel
abbrev cX1_init : ByteArray := prog_3_method_1_code
def yX1_init : MethodName := ⟨RX1, "<init>", "()V"⟩
abbrev cX1_lay : ByteArray := prog_3_method_2_code
def yX1_lay : MethodName := ⟨RX1, "lay", "(III)V"⟩
abbrev cX1_channelAt : ByteArray := prog_3_method_3_code
def yX1_channelAt : MethodName := ⟨RX1, "channelAt", "(I)I"⟩
abbrev cX1_meets : ByteArray := prog_3_method_4_code
def yX1_meets : MethodName := ⟨RX1, "meets", "(LSpreadRows$Hop;I)I"⟩
abbrev cX1_slotsIn : ByteArray := prog_3_method_5_code
def yX1_slotsIn : MethodName := ⟨RX1, "slotsIn", "(I)I"⟩
abbrev cX1_strongestChannels : ByteArray := prog_3_method_6_code
def yX1_strongestChannels : MethodName := ⟨RX1, "strongestChannels", "(I)I"⟩
abbrev cX1_strongestBeside : ByteArray := prog_3_method_7_code
def yX1_strongestBeside : MethodName := ⟨RX1, "strongestBeside", "(I)I"⟩
def RX2 : String := "SpreadRows$Kinship"
def TX2 : u_T := fun k => match k with
  | 0 => ("SpreadRows$Kinship", "friends", "LSpreadRows$Row;", true)
  | 1 => ("SpreadRows$Kinship", "taps", "LSpreadRows$Row;", true)
  | 2 => ("SpreadRows$Kinship", "older", "LSpreadRows$Row;", true)
  | _ => ("SpreadRows$Kinship", "kept", "LSpreadRows$Row;", true)
def tyX2 : Nat → FieldType := fun k => match k with
  | 0 => .object "SpreadRows$Row"
  | 1 => .object "SpreadRows$Row"
  | 2 => .object "SpreadRows$Row"
  | _ => .object "SpreadRows$Row"
abbrev wsX20 : List Cond := u_ws RX2 TX2 4
theorem nmX2 : ∀ a, a < 4 → ∀ b, b < 4 → a ≠ b → (TX2 a).2.1 ≠ (TX2 b).2.1 := by decide +kernel
theorem tyX2_ok : ∀ k, k < 4 → parseFieldDescriptor (TX2 k).2.2.1 = some (tyX2 k) := by decide +kernel
abbrev cX2_init : ByteArray := prog_4_method_1_code
def yX2_init : MethodName := ⟨RX2, "<init>", "()V"⟩
abbrev cX2_familyOf : ByteArray := prog_4_method_2_code
def yX2_familyOf : MethodName := ⟨RX2, "familyOf", "(LSpreadRows$Told;I)I"⟩
abbrev cX2_befriend : ByteArray := prog_4_method_3_code
def yX2_befriend : MethodName := ⟨RX2, "befriend", "(LSpreadRows$Told;III)V"⟩
abbrev cX2_areFriends : ByteArray := prog_4_method_4_code
def yX2_areFriends : MethodName := ⟨RX2, "areFriends", "(I)Z"⟩
abbrev cX2_depthOf : ByteArray := prog_4_method_5_code
def yX2_depthOf : MethodName := ⟨RX2, "depthOf", "(LSpreadRows$Code;)I"⟩
abbrev cX2_fails : ByteArray := prog_4_method_6_code
def yX2_fails : MethodName := ⟨RX2, "fails", "(LSpreadRows$Code;II)Z"⟩
abbrev cX2_mixOlder : ByteArray := prog_4_method_7_code
def yX2_mixOlder : MethodName := ⟨RX2, "mixOlder", "(I)V"⟩
def RX3 : String := "SpreadRows$Maker"
def TX3 : u_T := fun k => match k with
  | 0 => ("SpreadRows$Maker", "text", "LSpreadRows$Text;", true)
  | 1 => ("SpreadRows$Maker", "names", "LSpreadRows$Row;", true)
  | 2 => ("SpreadRows$Maker", "nameWords", "LSpreadRows$Row;", true)
  | 3 => ("SpreadRows$Maker", "nameNumbers", "LSpreadRows$Row;", true)
  | 4 => ("SpreadRows$Maker", "nameCount", "I", false)
  | 5 => ("SpreadRows$Maker", "at", "I", false)
  | 6 => ("SpreadRows$Maker", "fault", "I", false)
  | _ => ("SpreadRows$Maker", "faultPlace", "I", false)
def tyX3 : Nat → FieldType := fun k => match k with
  | 0 => .object "SpreadRows$Text"
  | 1 => .object "SpreadRows$Row"
  | 2 => .object "SpreadRows$Row"
  | 3 => .object "SpreadRows$Row"
  | 4 => .int
  | 5 => .int
  | 6 => .int
  | _ => .int
abbrev wsX30 : List Cond := u_ws RX3 TX3 8
theorem nmX3 : ∀ a, a < 8 → ∀ b, b < 8 → a ≠ b → (TX3 a).2.1 ≠ (TX3 b).2.1 := by decide +kernel
theorem tyX3_ok : ∀ k, k < 8 → parseFieldDescriptor (TX3 k).2.2.1 = some (tyX3 k) := by decide +kernel
abbrev cX3_init : ByteArray := prog_5_method_1_code
def yX3_init : MethodName := ⟨RX3, "<init>", "()V"⟩
abbrev cX3_make : ByteArray := prog_5_method_2_code
def yX3_make : MethodName := ⟨RX3, "make", "(LSpreadRows$Told;)I"⟩
abbrev cX3_makeTell : ByteArray := prog_5_method_3_code
def yX3_makeTell : MethodName := ⟨RX3, "makeTell", "(LSpreadRows$Told;I)V"⟩
abbrev cX3_refuse : ByteArray := prog_5_method_4_code
def yX3_refuse : MethodName := ⟨RX3, "refuse", "(II)V"⟩
abbrev cX3_number : ByteArray := prog_5_method_5_code
def yX3_number : MethodName := ⟨RX3, "number", "(II)I"⟩
abbrev cX3_nameIndex : ByteArray := prog_5_method_6_code
def yX3_nameIndex : MethodName := ⟨RX3, "nameIndex", "(J)I"⟩
abbrev cX3_newName : ByteArray := prog_5_method_7_code
def yX3_newName : MethodName := ⟨RX3, "newName", "(II)V"⟩
abbrev cX3_numberNamed : ByteArray := prog_5_method_8_code
def yX3_numberNamed : MethodName := ⟨RX3, "numberNamed", "(I)I"⟩
abbrev cX3_codeNamed : ByteArray := prog_5_method_9_code
def yX3_codeNamed : MethodName := ⟨RX3, "codeNamed", "(LSpreadRows$Told;)LSpreadRows$Code;"⟩
abbrev cX3_makeRegister : ByteArray := prog_5_method_10_code
def yX3_makeRegister : MethodName := ⟨RX3, "makeRegister", "(LSpreadRows$Told;)V"⟩
abbrev cX3_makeWalsh : ByteArray := prog_5_method_11_code
def yX3_makeWalsh : MethodName := ⟨RX3, "makeWalsh", "(LSpreadRows$Told;)V"⟩
abbrev cX3_makeBits : ByteArray := prog_5_method_12_code
def yX3_makeBits : MethodName := ⟨RX3, "makeBits", "(LSpreadRows$Told;)V"⟩
abbrev cX3_makeBoth : ByteArray := prog_5_method_13_code
def yX3_makeBoth : MethodName := ⟨RX3, "makeBoth", "(LSpreadRows$Told;)V"⟩
abbrev cX3_makeHop : ByteArray := prog_5_method_14_code
def yX3_makeHop : MethodName := ⟨RX3, "makeHop", "(LSpreadRows$Told;)V"⟩
abbrev cX3_makeSender : ByteArray := prog_5_method_15_code
def yX3_makeSender : MethodName := ⟨RX3, "makeSender", "(LSpreadRows$Told;)V"⟩
abbrev cX3_makeEcho : ByteArray := prog_5_method_16_code
def yX3_makeEcho : MethodName := ⟨RX3, "makeEcho", "(LSpreadRows$Told;)V"⟩
abbrev cX3_makeJam : ByteArray := prog_5_method_17_code
def yX3_makeJam : MethodName := ⟨RX3, "makeJam", "(LSpreadRows$Told;)V"⟩
def RX4 : String := "SpreadRows$Receiver"
def TX4 : u_T := fun k => match k with
  | 0 => ("SpreadRows$Receiver", "sums", "LSpreadRows$Row;", true)
  | 1 => ("SpreadRows$Receiver", "left", "LSpreadRows$Signal;", true)
  | 2 => ("SpreadRows$Receiver", "sumsNow", "[LSpreadRows$Row;", true)
  | 3 => ("SpreadRows$Receiver", "sumsAhead", "[LSpreadRows$Row;", true)
  | 4 => ("SpreadRows$Receiver", "pulseStart", "I", false)
  | _ => ("SpreadRows$Receiver", "pulseWrong", "I", false)
def tyX4 : Nat → FieldType := fun k => match k with
  | 0 => .object "SpreadRows$Row"
  | 1 => .object "SpreadRows$Signal"
  | 2 => .array (.object "SpreadRows$Row")
  | 3 => .array (.object "SpreadRows$Row")
  | 4 => .int
  | _ => .int
abbrev wsX40 : List Cond := u_ws RX4 TX4 6
theorem nmX4 : ∀ a, a < 6 → ∀ b, b < 6 → a ≠ b → (TX4 a).2.1 ≠ (TX4 b).2.1 := by decide +kernel
theorem tyX4_ok : ∀ k, k < 6 → parseFieldDescriptor (TX4 k).2.2.1 = some (tyX4 k) := by decide +kernel
abbrev cX4_init : ByteArray := prog_6_method_1_code
def yX4_init : MethodName := ⟨RX4, "<init>", "()V"⟩
abbrev cX4_gather : ByteArray := prog_6_method_2_code
def yX4_gather : MethodName := ⟨RX4, "gather", "(LSpreadRows$Signal;LSpreadRows$Sender;)V"⟩
abbrev cX4_bitRead : ByteArray := prog_6_method_3_code
def yX4_bitRead : MethodName := ⟨RX4, "bitRead", "(I)I"⟩
abbrev cX4_wrongBit : ByteArray := prog_6_method_4_code
def yX4_wrongBit : MethodName := ⟨RX4, "wrongBit", "(LSpreadRows$Sender;I)I"⟩
abbrev cX4_wrongBits : ByteArray := prog_6_method_5_code
def yX4_wrongBits : MethodName := ⟨RX4, "wrongBits", "(LSpreadRows$Sender;I)I"⟩
abbrev cX4_bitJoined : ByteArray := prog_6_method_6_code
def yX4_bitJoined : MethodName := ⟨RX4, "bitJoined", "(LSpreadRows$Signal;LSpreadRows$Sender;I)I"⟩
abbrev cX4_joinedValue : ByteArray := prog_6_method_7_code
def yX4_joinedValue : MethodName := ⟨RX4, "joinedValue", "(LSpreadRows$Signal;LSpreadRows$Sender;I)J"⟩
abbrev cX4_placeOfBits : ByteArray := prog_6_method_8_code
def yX4_placeOfBits : MethodName := ⟨RX4, "placeOfBits", "(III)I"⟩
abbrev cX4_isFrame : ByteArray := prog_6_method_9_code
def yX4_isFrame : MethodName := ⟨RX4, "isFrame", "(III)Z"⟩
abbrev cX4_findWorstPulse : ByteArray := prog_6_method_10_code
def yX4_findWorstPulse : MethodName := ⟨RX4, "findWorstPulse", "(LSpreadRows$Signal;LSpreadRows$Sender;II)V"⟩
abbrev cX4_wrongMore : ByteArray := prog_6_method_11_code
def yX4_wrongMore : MethodName := ⟨RX4, "wrongMore", "(LSpreadRows$Sender;III)I"⟩
abbrev cX4_strongerFirst : ByteArray := prog_6_method_12_code
def yX4_strongerFirst : MethodName := ⟨RX4, "strongerFirst", "(LSpreadRows$Told;I)I"⟩
abbrev cX4_strongerThan : ByteArray := prog_6_method_13_code
def yX4_strongerThan : MethodName := ⟨RX4, "strongerThan", "(LSpreadRows$Told;I)I"⟩
abbrev cX4_takeOut : ByteArray := prog_6_method_14_code
def yX4_takeOut : MethodName := ⟨RX4, "takeOut", "(LSpreadRows$Told;LSpreadRows$Signal;I)I"⟩
abbrev cX4_squaresLeft : ByteArray := prog_6_method_15_code
def yX4_squaresLeft : MethodName := ⟨RX4, "squaresLeft", "()J"⟩
abbrev cX4_wrongAtOnce : ByteArray := prog_6_method_16_code
def yX4_wrongAtOnce : MethodName := ⟨RX4, "wrongAtOnce", "(LSpreadRows$Told;LSpreadRows$Signal;I)I"⟩
abbrev cX4_takeAllOut : ByteArray := prog_6_method_17_code
def yX4_takeAllOut : MethodName := ⟨RX4, "takeAllOut", "(LSpreadRows$Told;)V"⟩
abbrev cX4_readAll : ByteArray := prog_6_method_18_code
def yX4_readAll : MethodName := ⟨RX4, "readAll", "(LSpreadRows$Told;Z)I"⟩
def RX5 : String := "SpreadRows$Row"
def TX5 : u_T := fun k => match k with
  | _ => ("SpreadRows$Row", "cells", "[J", true)
def tyX5 : Nat → FieldType := fun k => match k with
  | _ => .array .long
abbrev wsX50 : List Cond := u_ws RX5 TX5 1
theorem nmX5 : ∀ a, a < 1 → ∀ b, b < 1 → a ≠ b → (TX5 a).2.1 ≠ (TX5 b).2.1 := by decide +kernel
theorem tyX5_ok : ∀ k, k < 1 → parseFieldDescriptor (TX5 k).2.2.1 = some (tyX5 k) := by decide +kernel
abbrev cX5_init : ByteArray := prog_7_method_1_code
def yX5_init : MethodName := ⟨RX5, "<init>", "(I)V"⟩
abbrev cX5_at : ByteArray := prog_7_method_2_code
def yX5_at : MethodName := ⟨RX5, "at", "(I)J"⟩
abbrev cX5_small : ByteArray := prog_7_method_3_code
def yX5_small : MethodName := ⟨RX5, "small", "(I)I"⟩
abbrev cX5_put : ByteArray := prog_7_method_4_code
def yX5_put : MethodName := ⟨RX5, "put", "(IJ)V"⟩
abbrev cX5_increase : ByteArray := prog_7_method_5_code
def yX5_increase : MethodName := ⟨RX5, "increase", "(IJ)V"⟩
abbrev cX5_clear : ByteArray := prog_7_method_6_code
def yX5_clear : MethodName := ⟨RX5, "clear", "()V"⟩
abbrev cX5_takeOver : ByteArray := prog_7_method_7_code
def yX5_takeOver : MethodName := ⟨RX5, "takeOver", "(LSpreadRows$Row;)V"⟩
abbrev cX5_timesRound : ByteArray := prog_7_method_8_code
def yX5_timesRound : MethodName := ⟨RX5, "timesRound", "(LSpreadRows$Row;II)J"⟩
def RX6 : String := "SpreadRows$Search"
def TX6 : u_T := fun k => match k with
  | 0 => ("SpreadRows$Search", "turnedRe", "LSpreadRows$Row;", true)
  | 1 => ("SpreadRows$Search", "turnedIm", "LSpreadRows$Row;", true)
  | 2 => ("SpreadRows$Search", "metrics", "LSpreadRows$Row;", true)
  | _ => ("SpreadRows$Search", "length", "I", false)
def tyX6 : Nat → FieldType := fun k => match k with
  | 0 => .object "SpreadRows$Row"
  | 1 => .object "SpreadRows$Row"
  | 2 => .object "SpreadRows$Row"
  | _ => .int
abbrev wsX60 : List Cond := u_ws RX6 TX6 4
theorem nmX6 : ∀ a, a < 4 → ∀ b, b < 4 → a ≠ b → (TX6 a).2.1 ≠ (TX6 b).2.1 := by decide +kernel
theorem tyX6_ok : ∀ k, k < 4 → parseFieldDescriptor (TX6 k).2.2.1 = some (tyX6 k) := by decide +kernel
abbrev cX6_init : ByteArray := prog_8_method_1_code
def yX6_init : MethodName := ⟨RX6, "<init>", "()V"⟩
abbrev cX6_sumOf : ByteArray := prog_8_method_2_code
def yX6_sumOf : MethodName := ⟨RX6, "sumOf", "(LSpreadRows$Code;IILSpreadRows$Signal;II)J"⟩
abbrev cX6_metricOf : ByteArray := prog_8_method_3_code
def yX6_metricOf : MethodName := ⟨RX6, "metricOf", "(LSpreadRows$Code;ILSpreadRows$Signal;II)J"⟩
abbrev cX6_survey : ByteArray := prog_8_method_4_code
def yX6_survey : MethodName := ⟨RX6, "survey", "(LSpreadRows$Code;LSpreadRows$Signal;II)V"⟩
abbrev cX6_turnBack : ByteArray := prog_8_method_5_code
def yX6_turnBack : MethodName := ⟨RX6, "turnBack", "(IILSpreadRows$Signal;I)V"⟩
abbrev cX6_squares : ByteArray := prog_8_method_6_code
def yX6_squares : MethodName := ⟨RX6, "squares", "(LSpreadRows$Code;I)J"⟩
abbrev cX6_greatestCell : ByteArray := prog_8_method_7_code
def yX6_greatestCell : MethodName := ⟨RX6, "greatestCell", "()I"⟩
abbrev cX6_cellBeside : ByteArray := prog_8_method_8_code
def yX6_cellBeside : MethodName := ⟨RX6, "cellBeside", "(II)I"⟩
abbrev cX6_delayOfRank : ByteArray := prog_8_method_9_code
def yX6_delayOfRank : MethodName := ⟨RX6, "delayOfRank", "(II)I"⟩
abbrev cX6_rankOf : ByteArray := prog_8_method_10_code
def yX6_rankOf : MethodName := ⟨RX6, "rankOf", "(II)I"⟩
abbrev cX6_cellsFrom : ByteArray := prog_8_method_11_code
def yX6_cellsFrom : MethodName := ⟨RX6, "cellsFrom", "(J)I"⟩
abbrev cX6_looksTill : ByteArray := prog_8_method_12_code
def yX6_looksTill : MethodName := ⟨RX6, "looksTill", "(IIJ)I"⟩
abbrev cX6_loopStep : ByteArray := prog_8_method_13_code
def yX6_loopStep : MethodName := ⟨RX6, "loopStep", "(LSpreadRows$Code;IILSpreadRows$Signal;I)I"⟩
def RX7 : String := "SpreadRows$Sender"
def TX7 : u_T := fun k => match k with
  | 0 => ("SpreadRows$Sender", "later", "LSpreadRows$Row;", true)
  | 1 => ("SpreadRows$Sender", "loud", "LSpreadRows$Row;", true)
  | 2 => ("SpreadRows$Sender", "code", "LSpreadRows$Code;", false)
  | 3 => ("SpreadRows$Sender", "echoes", "I", false)
  | 4 => ("SpreadRows$Sender", "amplitude", "I", false)
  | 5 => ("SpreadRows$Sender", "delay", "I", false)
  | 6 => ("SpreadRows$Sender", "tone", "I", false)
  | 7 => ("SpreadRows$Sender", "data", "I", false)
  | _ => ("SpreadRows$Sender", "drift", "I", false)
def tyX7 : Nat → FieldType := fun k => match k with
  | 0 => .object "SpreadRows$Row"
  | 1 => .object "SpreadRows$Row"
  | 2 => .object "SpreadRows$Code"
  | 3 => .int
  | 4 => .int
  | 5 => .int
  | 6 => .int
  | 7 => .int
  | _ => .int
abbrev wsX70 : List Cond := u_ws RX7 TX7 9
theorem nmX7 : ∀ a, a < 9 → ∀ b, b < 9 → a ≠ b → (TX7 a).2.1 ≠ (TX7 b).2.1 := by decide +kernel
theorem tyX7_ok : ∀ k, k < 9 → parseFieldDescriptor (TX7 k).2.2.1 = some (tyX7 k) := by decide +kernel
abbrev cX7_init : ByteArray := prog_9_method_1_code
def yX7_init : MethodName := ⟨RX7, "<init>", "()V"⟩
abbrev cX7_layEcho : ByteArray := prog_9_method_2_code
def yX7_layEcho : MethodName := ⟨RX7, "layEcho", "(II)V"⟩
abbrev cX7_length : ByteArray := prog_9_method_3_code
def yX7_length : MethodName := ⟨RX7, "length", "()I"⟩
abbrev cX7_delayAt : ByteArray := prog_9_method_4_code
def yX7_delayAt : MethodName := ⟨RX7, "delayAt", "(I)I"⟩
abbrev cX7_periodAt : ByteArray := prog_9_method_5_code
def yX7_periodAt : MethodName := ⟨RX7, "periodAt", "(I)I"⟩
abbrev cX7_periods : ByteArray := prog_9_method_6_code
def yX7_periods : MethodName := ⟨RX7, "periods", "(I)I"⟩
abbrev cX7_axisAt : ByteArray := prog_9_method_7_code
def yX7_axisAt : MethodName := ⟨RX7, "axisAt", "(I)I"⟩
abbrev cX7_signAt : ByteArray := prog_9_method_8_code
def yX7_signAt : MethodName := ⟨RX7, "signAt", "(I)I"⟩
abbrev cX7_bitSent : ByteArray := prog_9_method_9_code
def yX7_bitSent : MethodName := ⟨RX7, "bitSent", "(I)I"⟩
abbrev cX7_unitAt : ByteArray := prog_9_method_10_code
def yX7_unitAt : MethodName := ⟨RX7, "unitAt", "(II)I"⟩
def RX8 : String := "SpreadRows$Signal"
def TX8 : u_T := fun k => match k with
  | 0 => ("SpreadRows$Signal", "re", "LSpreadRows$Row;", true)
  | 1 => ("SpreadRows$Signal", "im", "LSpreadRows$Row;", true)
  | _ => ("SpreadRows$Signal", "samples", "I", false)
def tyX8 : Nat → FieldType := fun k => match k with
  | 0 => .object "SpreadRows$Row"
  | 1 => .object "SpreadRows$Row"
  | _ => .int
abbrev wsX80 : List Cond := u_ws RX8 TX8 3
theorem nmX8 : ∀ a, a < 3 → ∀ b, b < 3 → a ≠ b → (TX8 a).2.1 ≠ (TX8 b).2.1 := by decide +kernel
theorem tyX8_ok : ∀ k, k < 3 → parseFieldDescriptor (TX8 k).2.2.1 = some (tyX8 k) := by decide +kernel
abbrev cX8_init : ByteArray := prog_10_method_1_code
def yX8_init : MethodName := ⟨RX8, "<init>", "()V"⟩
abbrev cX8_value : ByteArray := prog_10_method_2_code
def yX8_value : MethodName := ⟨RX8, "value", "(II)J"⟩
abbrev cX8_increase : ByteArray := prog_10_method_3_code
def yX8_increase : MethodName := ⟨RX8, "increase", "(III)V"⟩
abbrev cX8_takeOver : ByteArray := prog_10_method_4_code
def yX8_takeOver : MethodName := ⟨RX8, "takeOver", "(LSpreadRows$Signal;)V"⟩
abbrev cX8_squares : ByteArray := prog_10_method_5_code
def yX8_squares : MethodName := ⟨RX8, "squares", "(II)J"⟩
abbrev cX8_layAnew : ByteArray := prog_10_method_6_code
def yX8_layAnew : MethodName := ⟨RX8, "layAnew", "(LSpreadRows$Told;)V"⟩
abbrev cX8_layWave : ByteArray := prog_10_method_7_code
def yX8_layWave : MethodName := ⟨RX8, "layWave", "(LSpreadRows$Sender;LSpreadRows$Row;I)V"⟩
abbrev cX8_layUnit : ByteArray := prog_10_method_8_code
def yX8_layUnit : MethodName := ⟨RX8, "layUnit", "(LSpreadRows$Sender;II)V"⟩
abbrev cX8_layJam : ByteArray := prog_10_method_9_code
def yX8_layJam : MethodName := ⟨RX8, "layJam", "(LSpreadRows$Told;I)V"⟩
abbrev cX8_layNoise : ByteArray := prog_10_method_10_code
def yX8_layNoise : MethodName := ⟨RX8, "layNoise", "(II)V"⟩
abbrev cX8_lot : ByteArray := prog_10_method_11_code
def yX8_lot : MethodName := ⟨RX8, "lot", "(III)I"⟩
abbrev cX8_stirred : ByteArray := prog_10_method_12_code
def yX8_stirred : MethodName := ⟨RX8, "stirred", "(II)I"⟩
def RX9 : String := "SpreadRows$Text"
def TX9 : u_T := fun k => match k with
  | 0 => ("SpreadRows$Text", "tape", "LSpreadRows$Row;", true)
  | 1 => ("SpreadRows$Text", "kinds", "LSpreadRows$Row;", true)
  | 2 => ("SpreadRows$Text", "places", "LSpreadRows$Row;", true)
  | 3 => ("SpreadRows$Text", "values", "LSpreadRows$Row;", true)
  | 4 => ("SpreadRows$Text", "wordValues", "LSpreadRows$Row;", true)
  | 5 => ("SpreadRows$Text", "roomLeft", "LSpreadRows$Row;", true)
  | 6 => ("SpreadRows$Text", "length", "I", false)
  | 7 => ("SpreadRows$Text", "at", "I", false)
  | 8 => ("SpreadRows$Text", "fault", "I", false)
  | _ => ("SpreadRows$Text", "faultPlace", "I", false)
def tyX9 : Nat → FieldType := fun k => match k with
  | 0 => .object "SpreadRows$Row"
  | 1 => .object "SpreadRows$Row"
  | 2 => .object "SpreadRows$Row"
  | 3 => .object "SpreadRows$Row"
  | 4 => .object "SpreadRows$Row"
  | 5 => .object "SpreadRows$Row"
  | 6 => .int
  | 7 => .int
  | 8 => .int
  | _ => .int
abbrev wsX90 : List Cond := u_ws RX9 TX9 10
theorem nmX9 : ∀ a, a < 10 → ∀ b, b < 10 → a ≠ b → (TX9 a).2.1 ≠ (TX9 b).2.1 := by decide +kernel
theorem tyX9_ok : ∀ k, k < 10 → parseFieldDescriptor (TX9 k).2.2.1 = some (tyX9 k) := by decide +kernel
abbrev cX9_init : ByteArray := prog_11_method_1_code
def yX9_init : MethodName := ⟨RX9, "<init>", "()V"⟩
abbrev cX9_withLetter : ByteArray := prog_11_method_2_code
def yX9_withLetter : MethodName := ⟨RX9, "withLetter", "(JI)J"⟩
abbrev cX9_append : ByteArray := prog_11_method_3_code
def yX9_append : MethodName := ⟨RX9, "append", "(I)V"⟩
abbrev cX9_take : ByteArray := prog_11_method_4_code
def yX9_take : MethodName := ⟨RX9, "take", "()I"⟩
abbrev cX9_cut : ByteArray := prog_11_method_5_code
def yX9_cut : MethodName := ⟨RX9, "cut", "()V"⟩
abbrev cX9_behindBlanks : ByteArray := prog_11_method_6_code
def yX9_behindBlanks : MethodName := ⟨RX9, "behindBlanks", "(I)I"⟩
abbrev cX9_behindToken : ByteArray := prog_11_method_7_code
def yX9_behindToken : MethodName := ⟨RX9, "behindToken", "(I)I"⟩
abbrev cX9_valueOf : ByteArray := prog_11_method_8_code
def yX9_valueOf : MethodName := ⟨RX9, "valueOf", "(II)J"⟩
abbrev cX9_kindOf : ByteArray := prog_11_method_9_code
def yX9_kindOf : MethodName := ⟨RX9, "kindOf", "(IIJ)I"⟩
abbrev cX9_wordOf : ByteArray := prog_11_method_10_code
def yX9_wordOf : MethodName := ⟨RX9, "wordOf", "(J)I"⟩
abbrev cX9_isLetter : ByteArray := prog_11_method_11_code
def yX9_isLetter : MethodName := ⟨RX9, "isLetter", "(I)Z"⟩
abbrev cX9_isDigit : ByteArray := prog_11_method_12_code
def yX9_isDigit : MethodName := ⟨RX9, "isDigit", "(I)Z"⟩
abbrev cX9_makeRoom : ByteArray := prog_11_method_13_code
def yX9_makeRoom : MethodName := ⟨RX9, "makeRoom", "()V"⟩
abbrev cX9_takesRoom : ByteArray := prog_11_method_14_code
def yX9_takesRoom : MethodName := ⟨RX9, "takesRoom", "(I)Z"⟩
abbrev cX9_shapeOf : ByteArray := prog_11_method_15_code
def yX9_shapeOf : MethodName := ⟨RX9, "shapeOf", "(I)Ljava/lang/String;"⟩
abbrev cX9_tell : ByteArray := prog_11_method_16_code
def yX9_tell : MethodName := ⟨RX9, "tell", "()V"⟩
abbrev cX9_part : ByteArray := prog_11_method_17_code
def yX9_part : MethodName := ⟨RX9, "part", "(I)V"⟩
abbrev cX9_must : ByteArray := prog_11_method_18_code
def yX9_must : MethodName := ⟨RX9, "must", "(I)V"⟩
abbrev cX9_goOn : ByteArray := prog_11_method_19_code
def yX9_goOn : MethodName := ⟨RX9, "goOn", "()V"⟩
def RX10 : String := "SpreadRows$Told"
def TX10 : u_T := fun k => match k with
  | 0 => ("SpreadRows$Told", "codes", "[LSpreadRows$Code;", true)
  | 1 => ("SpreadRows$Told", "hops", "[LSpreadRows$Hop;", true)
  | 2 => ("SpreadRows$Told", "senders", "[LSpreadRows$Sender;", true)
  | 3 => ("SpreadRows$Told", "jamFrom", "LSpreadRows$Row;", true)
  | 4 => ("SpreadRows$Told", "jamTo", "LSpreadRows$Row;", true)
  | 5 => ("SpreadRows$Told", "jamLoud", "LSpreadRows$Row;", true)
  | 6 => ("SpreadRows$Told", "jamEach", "LSpreadRows$Row;", true)
  | 7 => ("SpreadRows$Told", "codeCount", "I", false)
  | 8 => ("SpreadRows$Told", "hopCount", "I", false)
  | 9 => ("SpreadRows$Told", "senderCount", "I", false)
  | 10 => ("SpreadRows$Told", "echoCount", "I", false)
  | 11 => ("SpreadRows$Told", "jamCount", "I", false)
  | 12 => ("SpreadRows$Told", "samples", "I", false)
  | 13 => ("SpreadRows$Told", "noiseMost", "I", false)
  | _ => ("SpreadRows$Told", "noiseSeed", "I", false)
def tyX10 : Nat → FieldType := fun k => match k with
  | 0 => .array (.object "SpreadRows$Code")
  | 1 => .array (.object "SpreadRows$Hop")
  | 2 => .array (.object "SpreadRows$Sender")
  | 3 => .object "SpreadRows$Row"
  | 4 => .object "SpreadRows$Row"
  | 5 => .object "SpreadRows$Row"
  | 6 => .object "SpreadRows$Row"
  | 7 => .int
  | 8 => .int
  | 9 => .int
  | 10 => .int
  | 11 => .int
  | 12 => .int
  | 13 => .int
  | _ => .int
abbrev wsX100 : List Cond := u_ws RX10 TX10 15
theorem nmX10 : ∀ a, a < 15 → ∀ b, b < 15 → a ≠ b → (TX10 a).2.1 ≠ (TX10 b).2.1 := by decide +kernel
theorem tyX10_ok : ∀ k, k < 15 → parseFieldDescriptor (TX10 k).2.2.1 = some (tyX10 k) := by decide +kernel
abbrev cX10_init : ByteArray := prog_12_method_1_code
def yX10_init : MethodName := ⟨RX10, "<init>", "()V"⟩
abbrev cX10_clear : ByteArray := prog_12_method_2_code
def yX10_clear : MethodName := ⟨RX10, "clear", "()V"⟩
abbrev cX10_codeAt : ByteArray := prog_12_method_3_code
def yX10_codeAt : MethodName := ⟨RX10, "codeAt", "(I)LSpreadRows$Code;"⟩
abbrev cX10_hopAt : ByteArray := prog_12_method_4_code
def yX10_hopAt : MethodName := ⟨RX10, "hopAt", "(I)LSpreadRows$Hop;"⟩
abbrev cX10_senderAt : ByteArray := prog_12_method_5_code
def yX10_senderAt : MethodName := ⟨RX10, "senderAt", "(I)LSpreadRows$Sender;"⟩
abbrev cX10_nextCode : ByteArray := prog_12_method_6_code
def yX10_nextCode : MethodName := ⟨RX10, "nextCode", "()LSpreadRows$Code;"⟩
abbrev cX10_nextHop : ByteArray := prog_12_method_7_code
def yX10_nextHop : MethodName := ⟨RX10, "nextHop", "()LSpreadRows$Hop;"⟩
abbrev cX10_nextSender : ByteArray := prog_12_method_8_code
def yX10_nextSender : MethodName := ⟨RX10, "nextSender", "()LSpreadRows$Sender;"⟩
abbrev cX10_layJam : ByteArray := prog_12_method_9_code
def yX10_layJam : MethodName := ⟨RX10, "layJam", "(IIII)V"⟩
abbrev cX10_isCrowded : ByteArray := prog_12_method_10_code
def yX10_isCrowded : MethodName := ⟨RX10, "isCrowded", "(II)Z"⟩
def RX11 : String := "SpreadRows"
def TX11 : u_T := fun k => match k with
  | 0 => ("SpreadRows", "maker", "LSpreadRows$Maker;", true)
  | 1 => ("SpreadRows", "incoming", "LSpreadRows$Signal;", true)
  | 2 => ("SpreadRows", "slots", "[LSpreadRows$Signal;", true)
  | 3 => ("SpreadRows", "kinship", "LSpreadRows$Kinship;", true)
  | 4 => ("SpreadRows", "search", "LSpreadRows$Search;", true)
  | 5 => ("SpreadRows", "receiver", "LSpreadRows$Receiver;", true)
  | 6 => ("SpreadRows", "told", "LSpreadRows$Told;", false)
  | 7 => ("SpreadRows", "spare", "LSpreadRows$Told;", false)
  | 8 => ("SpreadRows", "faultPlace", "I", false)
  | _ => ("SpreadRows", "heldSlots", "I", false)
def tyX11 : Nat → FieldType := fun k => match k with
  | 0 => .object "SpreadRows$Maker"
  | 1 => .object "SpreadRows$Signal"
  | 2 => .array (.object "SpreadRows$Signal")
  | 3 => .object "SpreadRows$Kinship"
  | 4 => .object "SpreadRows$Search"
  | 5 => .object "SpreadRows$Receiver"
  | 6 => .object "SpreadRows$Told"
  | 7 => .object "SpreadRows$Told"
  | 8 => .int
  | _ => .int
abbrev wsX110 : List Cond := u_ws RX11 TX11 10
theorem nmX11 : ∀ a, a < 10 → ∀ b, b < 10 → a ≠ b → (TX11 a).2.1 ≠ (TX11 b).2.1 := by decide +kernel
theorem tyX11_ok : ∀ k, k < 10 → parseFieldDescriptor (TX11 k).2.2.1 = some (tyX11 k) := by decide +kernel
abbrev cX11_init : ByteArray := prog_1_method_1_code
def yX11_init : MethodName := ⟨RX11, "<init>", "()V"⟩
abbrev cX11_feed : ByteArray := prog_1_method_2_code
def yX11_feed : MethodName := ⟨RX11, "feed", "(IIIII)I"⟩
abbrev cX11_back : ByteArray := prog_1_method_3_code
def yX11_back : MethodName := ⟨RX11, "back", "(I)I"⟩
abbrev cX11_read : ByteArray := prog_1_method_4_code
def yX11_read : MethodName := ⟨RX11, "read", "()I"⟩
abbrev cX11_place : ByteArray := prog_1_method_5_code
def yX11_place : MethodName := ⟨RX11, "place", "()I"⟩
abbrev cX11_code : ByteArray := prog_1_method_6_code
def yX11_code : MethodName := ⟨RX11, "code", "(II)I"⟩
abbrev cX11_chip : ByteArray := prog_1_method_7_code
def yX11_chip : MethodName := ⟨RX11, "chip", "(II)I"⟩
abbrev cX11_alike : ByteArray := prog_1_method_8_code
def yX11_alike : MethodName := ⟨RX11, "alike", "(III)I"⟩
abbrev cX11_worst : ByteArray := prog_1_method_9_code
def yX11_worst : MethodName := ⟨RX11, "worst", "(II)I"⟩
abbrev cX11_times : ByteArray := prog_1_method_10_code
def yX11_times : MethodName := ⟨RX11, "times", "(III)I"⟩
abbrev cX11_likeLong : ByteArray := prog_1_method_11_code
def yX11_likeLong : MethodName := ⟨RX11, "likeLong", "(LSpreadRows$Code;LSpreadRows$Code;)Z"⟩
abbrev cX11_depth : ByteArray := prog_1_method_12_code
def yX11_depth : MethodName := ⟨RX11, "depth", "(I)I"⟩
abbrev cX11_family : ByteArray := prog_1_method_13_code
def yX11_family : MethodName := ⟨RX11, "family", "(II)I"⟩
abbrev cX11_sample : ByteArray := prog_1_method_14_code
def yX11_sample : MethodName := ⟨RX11, "sample", "(IZ)I"⟩
abbrev cX11_power : ByteArray := prog_1_method_15_code
def yX11_power : MethodName := ⟨RX11, "power", "(II)J"⟩
abbrev cX11_wave : ByteArray := prog_1_method_16_code
def yX11_wave : MethodName := ⟨RX11, "wave", "(IIZ)I"⟩
abbrev cX11_add : ByteArray := prog_1_method_17_code
def yX11_add : MethodName := ⟨RX11, "add", "(II)Z"⟩
abbrev cX11_noise : ByteArray := prog_1_method_18_code
def yX11_noise : MethodName := ⟨RX11, "noise", "(II)Z"⟩
abbrev cX11_anew : ByteArray := prog_1_method_19_code
def yX11_anew : MethodName := ⟨RX11, "anew", "()Z"⟩
abbrev cX11_isSample : ByteArray := prog_1_method_20_code
def yX11_isSample : MethodName := ⟨RX11, "isSample", "(I)Z"⟩
abbrev cX11_axis : ByteArray := prog_1_method_21_code
def yX11_axis : MethodName := ⟨RX11, "axis", "(Z)I"⟩
abbrev cX11_sum : ByteArray := prog_1_method_22_code
def yX11_sum : MethodName := ⟨RX11, "sum", "(IIIIZ)I"⟩
abbrev cX11_metric : ByteArray := prog_1_method_23_code
def yX11_metric : MethodName := ⟨RX11, "metric", "(IIII)J"⟩
abbrev cX11_best : ByteArray := prog_1_method_24_code
def yX11_best : MethodName := ⟨RX11, "best", "(III)I"⟩
abbrev cX11_second : ByteArray := prog_1_method_25_code
def yX11_second : MethodName := ⟨RX11, "second", "(IIII)I"⟩
abbrev cX11_peak : ByteArray := prog_1_method_26_code
def yX11_peak : MethodName := ⟨RX11, "peak", "(IIIII)I"⟩
abbrev cX11_alarms : ByteArray := prog_1_method_27_code
def yX11_alarms : MethodName := ⟨RX11, "alarms", "(IIIJ)I"⟩
abbrev cX11_plan : ByteArray := prog_1_method_28_code
def yX11_plan : MethodName := ⟨RX11, "plan", "(IIIIIJ)I"⟩
abbrev cX11_searched : ByteArray := prog_1_method_29_code
def yX11_searched : MethodName := ⟨RX11, "searched", "(III)LSpreadRows$Code;"⟩
abbrev cX11_isCell : ByteArray := prog_1_method_30_code
def yX11_isCell : MethodName := ⟨RX11, "isCell", "(LSpreadRows$Code;II)Z"⟩
abbrev cX11_mean : ByteArray := prog_1_method_31_code
def yX11_mean : MethodName := ⟨RX11, "mean", "(IIIIIZ)J"⟩
abbrev cX11_over : ByteArray := prog_1_method_32_code
def yX11_over : MethodName := ⟨RX11, "over", "(IIIII)J"⟩
abbrev cX11_bit : ByteArray := prog_1_method_33_code
def yX11_bit : MethodName := ⟨RX11, "bit", "(II)I"⟩
abbrev cX11_wrong : ByteArray := prog_1_method_34_code
def yX11_wrong : MethodName := ⟨RX11, "wrong", "(I)I"⟩
abbrev cX11_joined : ByteArray := prog_1_method_35_code
def yX11_joined : MethodName := ⟨RX11, "joined", "(II)I"⟩
abbrev cX11_frame : ByteArray := prog_1_method_36_code
def yX11_frame : MethodName := ⟨RX11, "frame", "(III)I"⟩
abbrev cX11_hurt : ByteArray := prog_1_method_37_code
def yX11_hurt : MethodName := ⟨RX11, "hurt", "(IIII)I"⟩
abbrev cX11_atOnce : ByteArray := prog_1_method_38_code
def yX11_atOnce : MethodName := ⟨RX11, "atOnce", "(I)I"⟩
abbrev cX11_taken : ByteArray := prog_1_method_39_code
def yX11_taken : MethodName := ⟨RX11, "taken", "(II)I"⟩
abbrev cX11_rest : ByteArray := prog_1_method_40_code
def yX11_rest : MethodName := ⟨RX11, "rest", "(I)J"⟩
abbrev cX11_loop : ByteArray := prog_1_method_41_code
def yX11_loop : MethodName := ⟨RX11, "loop", "(IIIII)I"⟩
abbrev cX11_follows : ByteArray := prog_1_method_42_code
def yX11_follows : MethodName := ⟨RX11, "follows", "(II)I"⟩
abbrev cX11_range : ByteArray := prog_1_method_43_code
def yX11_range : MethodName := ⟨RX11, "range", "(IIIIII)J"⟩
abbrev cX11_nextWithRest : ByteArray := prog_1_method_44_code
def yX11_nextWithRest : MethodName := ⟨RX11, "nextWithRest", "(JJJI)J"⟩
abbrev cX11_near : ByteArray := prog_1_method_45_code
def yX11_near : MethodName := ⟨RX11, "near", "(IIIII)I"⟩
abbrev cX11_isRest : ByteArray := prog_1_method_46_code
def yX11_isRest : MethodName := ⟨RX11, "isRest", "(II)Z"⟩
abbrev cX11_lengthOf : ByteArray := prog_1_method_47_code
def yX11_lengthOf : MethodName := ⟨RX11, "lengthOf", "(I)I"⟩
abbrev cX11_hop : ByteArray := prog_1_method_48_code
def yX11_hop : MethodName := ⟨RX11, "hop", "(II)I"⟩
abbrev cX11_hits : ByteArray := prog_1_method_49_code
def yX11_hits : MethodName := ⟨RX11, "hits", "(III)I"⟩
abbrev cX11_worstHits : ByteArray := prog_1_method_50_code
def yX11_worstHits : MethodName := ⟨RX11, "worstHits", "(II)I"⟩
abbrev cX11_likePrimed : ByteArray := prog_1_method_51_code
def yX11_likePrimed : MethodName := ⟨RX11, "likePrimed", "(LSpreadRows$Hop;LSpreadRows$Hop;)Z"⟩
abbrev cX11_crowded : ByteArray := prog_1_method_52_code
def yX11_crowded : MethodName := ⟨RX11, "crowded", "(III)I"⟩
abbrev cX11_jammed : ByteArray := prog_1_method_53_code
def yX11_jammed : MethodName := ⟨RX11, "jammed", "(II)I"⟩
abbrev cX11_strongest : ByteArray := prog_1_method_54_code
def yX11_strongest : MethodName := ⟨RX11, "strongest", "(II)I"⟩
abbrev cX11_hold : ByteArray := prog_1_method_55_code
def yX11_hold : MethodName := ⟨RX11, "hold", "(I)Z"⟩
abbrev cX11_restore : ByteArray := prog_1_method_56_code
def yX11_restore : MethodName := ⟨RX11, "restore", "(I)Z"⟩
abbrev cX11_slotAt : ByteArray := prog_1_method_57_code
def yX11_slotAt : MethodName := ⟨RX11, "slotAt", "(I)LSpreadRows$Signal;"⟩
abbrev cX11_count : ByteArray := prog_1_method_58_code
def yX11_count : MethodName := ⟨RX11, "count", "(I)I"⟩
abbrev cX11_countOfOne : ByteArray := prog_1_method_59_code
def yX11_countOfOne : MethodName := ⟨RX11, "countOfOne", "(I)I"⟩
abbrev cX11_quotient : ByteArray := prog_1_method_60_code
def yX11_quotient : MethodName := ⟨RX11, "quotient", "(JJ)J"⟩
abbrev cX11_remainder : ByteArray := prog_1_method_61_code
def yX11_remainder : MethodName := ⟨RX11, "remainder", "(JJ)J"⟩
abbrev cX11_apart : ByteArray := prog_1_method_62_code
def yX11_apart : MethodName := ⟨RX11, "apart", "(III)I"⟩
abbrev cX11_commonDivisor : ByteArray := prog_1_method_63_code
def yX11_commonDivisor : MethodName := ⟨RX11, "commonDivisor", "(JJ)J"⟩
abbrev cX11_toThe : ByteArray := prog_1_method_64_code
def yX11_toThe : MethodName := ⟨RX11, "toThe", "(JI)J"⟩
abbrev cX11_turnAt : ByteArray := prog_1_method_65_code
def yX11_turnAt : MethodName := ⟨RX11, "turnAt", "(II)I"⟩
def RX12 : String := "SpreadRowsModel"
def TX12 : u_T := fun k => match k with
  | 0 => ("SpreadRowsModel", "thrown", "I", false)
  | 1 => ("SpreadRowsModel", "tape", "[B", true)
  | 2 => ("SpreadRowsModel", "taped", "I", false)
  | 3 => ("SpreadRowsModel", "text", "[B", true)
  | 4 => ("SpreadRowsModel", "size", "I", false)
  | 5 => ("SpreadRowsModel", "tKind", "[I", true)
  | 6 => ("SpreadRowsModel", "tPlace", "[I", true)
  | 7 => ("SpreadRowsModel", "tValue", "[I", true)
  | 8 => ("SpreadRowsModel", "tName", "[J", true)
  | 9 => ("SpreadRowsModel", "keys", "[J", true)
  | 10 => ("SpreadRowsModel", "tokens", "I", false)
  | 11 => ("SpreadRowsModel", "t", "I", false)
  | 12 => ("SpreadRowsModel", "open", "I", false)
  | 13 => ("SpreadRowsModel", "fault", "I", false)
  | 14 => ("SpreadRowsModel", "faultPlace", "I", false)
  | 15 => ("SpreadRowsModel", "worst", "I", false)
  | 16 => ("SpreadRowsModel", "worstPlace", "I", false)
  | 17 => ("SpreadRowsModel", "place", "I", false)
  | 18 => ("SpreadRowsModel", "live", "I", false)
  | 19 => ("SpreadRowsModel", "side", "I", false)
  | 20 => ("SpreadRowsModel", "names", "I", false)
  | 21 => ("SpreadRowsModel", "nameOf", "[J", true)
  | 22 => ("SpreadRowsModel", "nameSort", "[I", true)
  | 23 => ("SpreadRowsModel", "nameAt", "[I", true)
  | 24 => ("SpreadRowsModel", "codes", "[I", true)
  | 25 => ("SpreadRowsModel", "length", "[I", true)
  | 26 => ("SpreadRowsModel", "chips", "[I", true)
  | 27 => ("SpreadRowsModel", "hops", "[I", true)
  | 28 => ("SpreadRowsModel", "hopP", "[I", true)
  | 29 => ("SpreadRowsModel", "hopA", "[I", true)
  | 30 => ("SpreadRowsModel", "hopB", "[I", true)
  | 31 => ("SpreadRowsModel", "senders", "[I", true)
  | 32 => ("SpreadRowsModel", "sendCode", "[I", true)
  | 33 => ("SpreadRowsModel", "sendAmplitude", "[I", true)
  | 34 => ("SpreadRowsModel", "sendDelay", "[I", true)
  | 35 => ("SpreadRowsModel", "sendTone", "[I", true)
  | 36 => ("SpreadRowsModel", "sendData", "[I", true)
  | 37 => ("SpreadRowsModel", "sendDrift", "[I", true)
  | 38 => ("SpreadRowsModel", "echoes", "[I", true)
  | 39 => ("SpreadRowsModel", "echoOf", "[I", true)
  | 40 => ("SpreadRowsModel", "echoLater", "[I", true)
  | 41 => ("SpreadRowsModel", "echoAmplitude", "[I", true)
  | 42 => ("SpreadRowsModel", "jams", "[I", true)
  | 43 => ("SpreadRowsModel", "jamFrom", "[I", true)
  | 44 => ("SpreadRowsModel", "jamTo", "[I", true)
  | 45 => ("SpreadRowsModel", "jamAmplitude", "[I", true)
  | 46 => ("SpreadRowsModel", "jamEach", "[I", true)
  | 47 => ("SpreadRowsModel", "noiseMost", "[I", true)
  | 48 => ("SpreadRowsModel", "noiseSeed", "[I", true)
  | 49 => ("SpreadRowsModel", "samples", "[I", true)
  | 50 => ("SpreadRowsModel", "isWell", "Z", false)
  | 51 => ("SpreadRowsModel", "laid", "[B", true)
  | 52 => ("SpreadRowsModel", "readBits", "[B", true)
  | 53 => ("SpreadRowsModel", "now", "[I", true)
  | 54 => ("SpreadRowsModel", "work", "[I", true)
  | 55 => ("SpreadRowsModel", "bitRow", "[I", true)
  | 56 => ("SpreadRowsModel", "madeOf", "[I", true)
  | 57 => ("SpreadRowsModel", "wasMade", "[I", true)
  | 58 => ("SpreadRowsModel", "tried", "[I", true)
  | 59 => ("SpreadRowsModel", "fits", "[Z", true)
  | 60 => ("SpreadRowsModel", "sumRe", "I", false)
  | 61 => ("SpreadRowsModel", "sumIm", "I", false)
  | 62 => ("SpreadRowsModel", "peaks", "[J", true)
  | 63 => ("SpreadRowsModel", "readSum", "[J", true)
  | 64 => ("SpreadRowsModel", "hasSample", "[Z", true)
  | 65 => ("SpreadRowsModel", "isHeld", "[Z", true)
  | _ => ("SpreadRowsModel", "held", "[I", true)
def tyX12 : Nat → FieldType := fun k => match k with
  | 0 => .int
  | 1 => .array .byte
  | 2 => .int
  | 3 => .array .byte
  | 4 => .int
  | 5 => .array .int
  | 6 => .array .int
  | 7 => .array .int
  | 8 => .array .long
  | 9 => .array .long
  | 10 => .int
  | 11 => .int
  | 12 => .int
  | 13 => .int
  | 14 => .int
  | 15 => .int
  | 16 => .int
  | 17 => .int
  | 18 => .int
  | 19 => .int
  | 20 => .int
  | 21 => .array .long
  | 22 => .array .int
  | 23 => .array .int
  | 24 => .array .int
  | 25 => .array .int
  | 26 => .array .int
  | 27 => .array .int
  | 28 => .array .int
  | 29 => .array .int
  | 30 => .array .int
  | 31 => .array .int
  | 32 => .array .int
  | 33 => .array .int
  | 34 => .array .int
  | 35 => .array .int
  | 36 => .array .int
  | 37 => .array .int
  | 38 => .array .int
  | 39 => .array .int
  | 40 => .array .int
  | 41 => .array .int
  | 42 => .array .int
  | 43 => .array .int
  | 44 => .array .int
  | 45 => .array .int
  | 46 => .array .int
  | 47 => .array .int
  | 48 => .array .int
  | 49 => .array .int
  | 50 => .boolean
  | 51 => .array .byte
  | 52 => .array .byte
  | 53 => .array .int
  | 54 => .array .int
  | 55 => .array .int
  | 56 => .array .int
  | 57 => .array .int
  | 58 => .array .int
  | 59 => .array .boolean
  | 60 => .int
  | 61 => .int
  | 62 => .array .long
  | 63 => .array .long
  | 64 => .array .boolean
  | 65 => .array .boolean
  | _ => .array .int
abbrev wsX120 : List Cond := u_ws RX12 TX12 67
theorem nmX12 : ∀ a, a < 67 → ∀ b, b < 67 → a ≠ b → (TX12 a).2.1 ≠ (TX12 b).2.1 := by decide +kernel
theorem tyX12_ok : ∀ k, k < 67 → parseFieldDescriptor (TX12 k).2.2.1 = some (tyX12 k) := by decide +kernel
abbrev cX12_init : ByteArray := prog_14_method_2_code
def yX12_init : MethodName := ⟨RX12, "<init>", "()V"⟩
abbrev cX12_feed : ByteArray := prog_14_method_3_code
def yX12_feed : MethodName := ⟨RX12, "feed", "(IIIII)I"⟩
abbrev cX12_put : ByteArray := prog_14_method_4_code
def yX12_put : MethodName := ⟨RX12, "put", "(I)V"⟩
abbrev cX12_back : ByteArray := prog_14_method_5_code
def yX12_back : MethodName := ⟨RX12, "back", "(I)I"⟩
abbrev cX12_byteAt : ByteArray := prog_14_method_6_code
def yX12_byteAt : MethodName := ⟨RX12, "byteAt", "(I)I"⟩
abbrev cX12_isDigit : ByteArray := prog_14_method_7_code
def yX12_isDigit : MethodName := ⟨RX12, "isDigit", "(I)Z"⟩
abbrev cX12_isLetter : ByteArray := prog_14_method_8_code
def yX12_isLetter : MethodName := ⟨RX12, "isLetter", "(I)Z"⟩
abbrev cX12_appends : ByteArray := prog_14_method_9_code
def yX12_appends : MethodName := ⟨RX12, "appends", "(JI)J"⟩
abbrev cX12_word : ByteArray := prog_14_method_10_code
def yX12_word : MethodName := ⟨RX12, "word", "(IIIIIII)J"⟩
abbrev cX12_token : ByteArray := prog_14_method_11_code
def yX12_token : MethodName := ⟨RX12, "token", "(IIIJ)V"⟩
abbrev cX12_cut : ByteArray := prog_14_method_12_code
def yX12_cut : MethodName := ⟨RX12, "cut", "()V"⟩
abbrev cX12_sign : ByteArray := prog_14_method_13_code
def yX12_sign : MethodName := ⟨RX12, "sign", "(III)I"⟩
abbrev cX12_is : ByteArray := prog_14_method_14_code
def yX12_is : MethodName := ⟨RX12, "is", "(I)Z"⟩
abbrev cX12_fail : ByteArray := prog_14_method_15_code
def yX12_fail : MethodName := ⟨RX12, "fail", "(I)V"⟩
abbrev cX12_amiss : ByteArray := prog_14_method_16_code
def yX12_amiss : MethodName := ⟨RX12, "amiss", "(II)V"⟩
abbrev cX12_goesOn : ByteArray := prog_14_method_17_code
def yX12_goesOn : MethodName := ⟨RX12, "goesOn", "()V"⟩
abbrev cX12_must : ByteArray := prog_14_method_18_code
def yX12_must : MethodName := ⟨RX12, "must", "(I)V"⟩
abbrev cX12_read : ByteArray := prog_14_method_19_code
def yX12_read : MethodName := ⟨RX12, "read", "()I"⟩
abbrev cX12_place : ByteArray := prog_14_method_20_code
def yX12_place : MethodName := ⟨RX12, "place", "()I"⟩
abbrev cX12_room : ByteArray := prog_14_method_21_code
def yX12_room : MethodName := ⟨RX12, "room", "(II)V"⟩
abbrev cX12_tell : ByteArray := prog_14_method_22_code
def yX12_tell : MethodName := ⟨RX12, "tell", "()V"⟩
abbrev cX12_named : ByteArray := prog_14_method_23_code
def yX12_named : MethodName := ⟨RX12, "named", "()I"⟩
abbrev cX12_notes : ByteArray := prog_14_method_24_code
def yX12_notes : MethodName := ⟨RX12, "notes", "(III)V"⟩
abbrev cX12_known : ByteArray := prog_14_method_25_code
def yX12_known : MethodName := ⟨RX12, "known", "(I)I"⟩
abbrev cX12_bounded : ByteArray := prog_14_method_26_code
def yX12_bounded : MethodName := ⟨RX12, "bounded", "(II)I"⟩
abbrev cX12_hangs : ByteArray := prog_14_method_27_code
def yX12_hangs : MethodName := ⟨RX12, "hangs", "(ZII)I"⟩
abbrev cX12_tellCode : ByteArray := prog_14_method_28_code
def yX12_tellCode : MethodName := ⟨RX12, "tellCode", "(I)V"⟩
abbrev cX12_tellBoth : ByteArray := prog_14_method_29_code
def yX12_tellBoth : MethodName := ⟨RX12, "tellBoth", "(I)V"⟩
abbrev cX12_odd : ByteArray := prog_14_method_30_code
def yX12_odd : MethodName := ⟨RX12, "odd", "(I)I"⟩
abbrev cX12_makesRegister : ByteArray := prog_14_method_31_code
def yX12_makesRegister : MethodName := ⟨RX12, "makesRegister", "(IIII)V"⟩
abbrev cX12_makesHalves : ByteArray := prog_14_method_32_code
def yX12_makesHalves : MethodName := ⟨RX12, "makesHalves", "(III)V"⟩
abbrev cX12_makesBits : ByteArray := prog_14_method_33_code
def yX12_makesBits : MethodName := ⟨RX12, "makesBits", "(III)V"⟩
abbrev cX12_isPrime : ByteArray := prog_14_method_34_code
def yX12_isPrime : MethodName := ⟨RX12, "isPrime", "(I)Z"⟩
abbrev cX12_tellHop : ByteArray := prog_14_method_35_code
def yX12_tellHop : MethodName := ⟨RX12, "tellHop", "()V"⟩
abbrev cX12_tellSend : ByteArray := prog_14_method_36_code
def yX12_tellSend : MethodName := ⟨RX12, "tellSend", "()V"⟩
abbrev cX12_tellEcho : ByteArray := prog_14_method_37_code
def yX12_tellEcho : MethodName := ⟨RX12, "tellEcho", "()V"⟩
abbrev cX12_tellJam : ByteArray := prog_14_method_38_code
def yX12_tellJam : MethodName := ⟨RX12, "tellJam", "()V"⟩
abbrev cX12_in : ByteArray := prog_14_method_39_code
def yX12_in : MethodName := ⟨RX12, "in", "(III)Z"⟩
abbrev cX12_n : ByteArray := prog_14_method_40_code
def yX12_n : MethodName := ⟨RX12, "n", "()I"⟩
abbrev cX12_long0 : ByteArray := prog_14_method_41_code
def yX12_long0 : MethodName := ⟨RX12, "long0", "(I)I"⟩
abbrev cX12_chipOf : ByteArray := prog_14_method_42_code
def yX12_chipOf : MethodName := ⟨RX12, "chipOf", "(II)I"⟩
abbrev cX12_codeOf : ByteArray := prog_14_method_43_code
def yX12_codeOf : MethodName := ⟨RX12, "codeOf", "(I)I"⟩
abbrev cX12_delayAt : ByteArray := prog_14_method_44_code
def yX12_delayAt : MethodName := ⟨RX12, "delayAt", "(II)I"⟩
abbrev cX12_turnOf : ByteArray := prog_14_method_45_code
def yX12_turnOf : MethodName := ⟨RX12, "turnOf", "(II)I"⟩
abbrev cX12_periodAt : ByteArray := prog_14_method_46_code
def yX12_periodAt : MethodName := ⟨RX12, "periodAt", "(II)I"⟩
abbrev cX12_signAt : ByteArray := prog_14_method_47_code
def yX12_signAt : MethodName := ⟨RX12, "signAt", "(II)I"⟩
abbrev cX12_isIm : ByteArray := prog_14_method_48_code
def yX12_isIm : MethodName := ⟨RX12, "isIm", "(II)Z"⟩
abbrev cX12_dataBit : ByteArray := prog_14_method_49_code
def yX12_dataBit : MethodName := ⟨RX12, "dataBit", "(II)I"⟩
abbrev cX12_laysData : ByteArray := prog_14_method_50_code
def yX12_laysData : MethodName := ⟨RX12, "laysData", "(I)V"⟩
abbrev cX12_adds : ByteArray := prog_14_method_51_code
def yX12_adds : MethodName := ⟨RX12, "adds", "([IIZI)V"⟩
abbrev cX12_addsWave : ByteArray := prog_14_method_52_code
def yX12_addsWave : MethodName := ⟨RX12, "addsWave", "([III)V"⟩
abbrev cX12_mixed : ByteArray := prog_14_method_53_code
def yX12_mixed : MethodName := ⟨RX12, "mixed", "(II)I"⟩
abbrev cX12_lot : ByteArray := prog_14_method_54_code
def yX12_lot : MethodName := ⟨RX12, "lot", "(III)I"⟩
abbrev cX12_addsNoise : ByteArray := prog_14_method_55_code
def yX12_addsNoise : MethodName := ⟨RX12, "addsNoise", "(II)V"⟩
abbrev cX12_lays : ByteArray := prog_14_method_56_code
def yX12_lays : MethodName := ⟨RX12, "lays", "()V"⟩
abbrev cX12_isCode : ByteArray := prog_14_method_57_code
def yX12_isCode : MethodName := ⟨RX12, "isCode", "(I)Z"⟩
abbrev cX12_arePair : ByteArray := prog_14_method_58_code
def yX12_arePair : MethodName := ⟨RX12, "arePair", "(II)Z"⟩
abbrev cX12_alikeAt : ByteArray := prog_14_method_59_code
def yX12_alikeAt : MethodName := ⟨RX12, "alikeAt", "(III)I"⟩
abbrev cX12_roundOf : ByteArray := prog_14_method_60_code
def yX12_roundOf : MethodName := ⟨RX12, "roundOf", "(I)I"⟩
abbrev cX12_code : ByteArray := prog_14_method_61_code
def yX12_code : MethodName := ⟨RX12, "code", "(II)I"⟩
abbrev cX12_chip : ByteArray := prog_14_method_62_code
def yX12_chip : MethodName := ⟨RX12, "chip", "(II)I"⟩
abbrev cX12_alike : ByteArray := prog_14_method_63_code
def yX12_alike : MethodName := ⟨RX12, "alike", "(III)I"⟩
abbrev cX12_worstOf : ByteArray := prog_14_method_64_code
def yX12_worstOf : MethodName := ⟨RX12, "worstOf", "(II)I"⟩
abbrev cX12_worst : ByteArray := prog_14_method_65_code
def yX12_worst : MethodName := ⟨RX12, "worst", "(II)I"⟩
abbrev cX12_times : ByteArray := prog_14_method_66_code
def yX12_times : MethodName := ⟨RX12, "times", "(III)I"⟩
abbrev cX12_depth : ByteArray := prog_14_method_67_code
def yX12_depth : MethodName := ⟨RX12, "depth", "(I)I"⟩
abbrev cX12_bits : ByteArray := prog_14_method_68_code
def yX12_bits : MethodName := ⟨RX12, "bits", "(I)I"⟩
abbrev cX12_isFamily : ByteArray := prog_14_method_69_code
def yX12_isFamily : MethodName := ⟨RX12, "isFamily", "(I)Z"⟩
abbrev cX12_family : ByteArray := prog_14_method_70_code
def yX12_family : MethodName := ⟨RX12, "family", "(II)I"⟩
abbrev cX12_isSample : ByteArray := prog_14_method_71_code
def yX12_isSample : MethodName := ⟨RX12, "isSample", "(I)Z"⟩
abbrev cX12_isSender : ByteArray := prog_14_method_72_code
def yX12_isSender : MethodName := ⟨RX12, "isSender", "(I)Z"⟩
abbrev cX12_sample : ByteArray := prog_14_method_73_code
def yX12_sample : MethodName := ⟨RX12, "sample", "(IZ)I"⟩
abbrev cX12_square : ByteArray := prog_14_method_74_code
def yX12_square : MethodName := ⟨RX12, "square", "(J)J"⟩
abbrev cX12_powerOf : ByteArray := prog_14_method_75_code
def yX12_powerOf : MethodName := ⟨RX12, "powerOf", "([III)J"⟩
abbrev cX12_power : ByteArray := prog_14_method_76_code
def yX12_power : MethodName := ⟨RX12, "power", "(II)J"⟩
abbrev cX12_wave : ByteArray := prog_14_method_77_code
def yX12_wave : MethodName := ⟨RX12, "wave", "(IIZ)I"⟩
abbrev cX12_add : ByteArray := prog_14_method_78_code
def yX12_add : MethodName := ⟨RX12, "add", "(II)Z"⟩
abbrev cX12_noise : ByteArray := prog_14_method_79_code
def yX12_noise : MethodName := ⟨RX12, "noise", "(II)Z"⟩
abbrev cX12_anew : ByteArray := prog_14_method_80_code
def yX12_anew : MethodName := ⟨RX12, "anew", "()Z"⟩
abbrev cX12_sums : ByteArray := prog_14_method_81_code
def yX12_sums : MethodName := ⟨RX12, "sums", "(IIII)V"⟩
abbrev cX12_sum : ByteArray := prog_14_method_82_code
def yX12_sum : MethodName := ⟨RX12, "sum", "(IIIIZ)I"⟩
abbrev cX12_metricOf : ByteArray := prog_14_method_83_code
def yX12_metricOf : MethodName := ⟨RX12, "metricOf", "(IIII)J"⟩
abbrev cX12_canLook : ByteArray := prog_14_method_84_code
def yX12_canLook : MethodName := ⟨RX12, "canLook", "(III)Z"⟩
abbrev cX12_isCell : ByteArray := prog_14_method_85_code
def yX12_isCell : MethodName := ⟨RX12, "isCell", "(II)Z"⟩
abbrev cX12_metric : ByteArray := prog_14_method_86_code
def yX12_metric : MethodName := ⟨RX12, "metric", "(IIII)J"⟩
abbrev cX12_bestOf : ByteArray := prog_14_method_87_code
def yX12_bestOf : MethodName := ⟨RX12, "bestOf", "(III)I"⟩
abbrev cX12_best : ByteArray := prog_14_method_88_code
def yX12_best : MethodName := ⟨RX12, "best", "(III)I"⟩
abbrev cX12_apart : ByteArray := prog_14_method_89_code
def yX12_apart : MethodName := ⟨RX12, "apart", "(III)I"⟩
abbrev cX12_second : ByteArray := prog_14_method_90_code
def yX12_second : MethodName := ⟨RX12, "second", "(IIII)I"⟩
abbrev cX12_peak : ByteArray := prog_14_method_91_code
def yX12_peak : MethodName := ⟨RX12, "peak", "(IIIII)I"⟩
abbrev cX12_alarms : ByteArray := prog_14_method_92_code
def yX12_alarms : MethodName := ⟨RX12, "alarms", "(IIIJ)I"⟩
abbrev cX12_plan : ByteArray := prog_14_method_93_code
def yX12_plan : MethodName := ⟨RX12, "plan", "(IIIIIJ)I"⟩
abbrev cX12_common : ByteArray := prog_14_method_94_code
def yX12_common : MethodName := ⟨RX12, "common", "(JJ)J"⟩
abbrev cX12_mean : ByteArray := prog_14_method_95_code
def yX12_mean : MethodName := ⟨RX12, "mean", "(IIIIIZ)J"⟩
abbrev cX12_over : ByteArray := prog_14_method_96_code
def yX12_over : MethodName := ⟨RX12, "over", "(IIIII)J"⟩
abbrev cX12_sumsUp : ByteArray := prog_14_method_97_code
def yX12_sumsUp : MethodName := ⟨RX12, "sumsUp", "([IIZ)V"⟩
abbrev cX12_bitOf : ByteArray := prog_14_method_98_code
def yX12_bitOf : MethodName := ⟨RX12, "bitOf", "(I)I"⟩
abbrev cX12_bitBy : ByteArray := prog_14_method_99_code
def yX12_bitBy : MethodName := ⟨RX12, "bitBy", "(IIZ)I"⟩
abbrev cX12_bit : ByteArray := prog_14_method_100_code
def yX12_bit : MethodName := ⟨RX12, "bit", "(II)I"⟩
abbrev cX12_joined : ByteArray := prog_14_method_101_code
def yX12_joined : MethodName := ⟨RX12, "joined", "(II)I"⟩
abbrev cX12_wrongOf : ByteArray := prog_14_method_102_code
def yX12_wrongOf : MethodName := ⟨RX12, "wrongOf", "([II)I"⟩
abbrev cX12_wrong : ByteArray := prog_14_method_103_code
def yX12_wrong : MethodName := ⟨RX12, "wrong", "(I)I"⟩
abbrev cX12_frame : ByteArray := prog_14_method_104_code
def yX12_frame : MethodName := ⟨RX12, "frame", "(III)I"⟩
abbrev cX12_hurt : ByteArray := prog_14_method_105_code
def yX12_hurt : MethodName := ⟨RX12, "hurt", "(IIII)I"⟩
abbrev cX12_byAmplitude : ByteArray := prog_14_method_106_code
def yX12_byAmplitude : MethodName := ⟨RX12, "byAmplitude", "(I)I"⟩
abbrev cX12_takesOut : ByteArray := prog_14_method_107_code
def yX12_takesOut : MethodName := ⟨RX12, "takesOut", "(I)I"⟩
abbrev cX12_taken : ByteArray := prog_14_method_108_code
def yX12_taken : MethodName := ⟨RX12, "taken", "(II)I"⟩
abbrev cX12_rest : ByteArray := prog_14_method_109_code
def yX12_rest : MethodName := ⟨RX12, "rest", "(I)J"⟩
abbrev cX12_readsAll : ByteArray := prog_14_method_110_code
def yX12_readsAll : MethodName := ⟨RX12, "readsAll", "(I)I"⟩
abbrev cX12_atOnce : ByteArray := prog_14_method_111_code
def yX12_atOnce : MethodName := ⟨RX12, "atOnce", "(I)I"⟩
abbrev cX12_loopOf : ByteArray := prog_14_method_112_code
def yX12_loopOf : MethodName := ⟨RX12, "loopOf", "(IIIII)I"⟩
abbrev cX12_loop : ByteArray := prog_14_method_113_code
def yX12_loop : MethodName := ⟨RX12, "loop", "(IIIII)I"⟩
abbrev cX12_follows : ByteArray := prog_14_method_114_code
def yX12_follows : MethodName := ⟨RX12, "follows", "(II)I"⟩
abbrev cX12_isRest : ByteArray := prog_14_method_115_code
def yX12_isRest : MethodName := ⟨RX12, "isRest", "(II)Z"⟩
abbrev cX12_range : ByteArray := prog_14_method_116_code
def yX12_range : MethodName := ⟨RX12, "range", "(IIIIII)J"⟩
abbrev cX12_meets : ByteArray := prog_14_method_117_code
def yX12_meets : MethodName := ⟨RX12, "meets", "(JJII)J"⟩
abbrev cX12_near : ByteArray := prog_14_method_118_code
def yX12_near : MethodName := ⟨RX12, "near", "(IIIII)I"⟩
abbrev cX12_isHop : ByteArray := prog_14_method_119_code
def yX12_isHop : MethodName := ⟨RX12, "isHop", "(I)Z"⟩
abbrev cX12_p : ByteArray := prog_14_method_120_code
def yX12_p : MethodName := ⟨RX12, "p", "(I)I"⟩
abbrev cX12_channel : ByteArray := prog_14_method_121_code
def yX12_channel : MethodName := ⟨RX12, "channel", "(II)I"⟩
abbrev cX12_hop : ByteArray := prog_14_method_122_code
def yX12_hop : MethodName := ⟨RX12, "hop", "(II)I"⟩
abbrev cX12_hitsAt : ByteArray := prog_14_method_123_code
def yX12_hitsAt : MethodName := ⟨RX12, "hitsAt", "(III)I"⟩
abbrev cX12_areHops : ByteArray := prog_14_method_124_code
def yX12_areHops : MethodName := ⟨RX12, "areHops", "(II)Z"⟩
abbrev cX12_hits : ByteArray := prog_14_method_125_code
def yX12_hits : MethodName := ⟨RX12, "hits", "(III)I"⟩
abbrev cX12_worstHits : ByteArray := prog_14_method_126_code
def yX12_worstHits : MethodName := ⟨RX12, "worstHits", "(II)I"⟩
abbrev cX12_isCrowded : ByteArray := prog_14_method_127_code
def yX12_isCrowded : MethodName := ⟨RX12, "isCrowded", "(II)Z"⟩
abbrev cX12_crowded : ByteArray := prog_14_method_128_code
def yX12_crowded : MethodName := ⟨RX12, "crowded", "(III)I"⟩
abbrev cX12_jammed : ByteArray := prog_14_method_129_code
def yX12_jammed : MethodName := ⟨RX12, "jammed", "(II)I"⟩
abbrev cX12_strongest : ByteArray := prog_14_method_130_code
def yX12_strongest : MethodName := ⟨RX12, "strongest", "(II)I"⟩
abbrev cX12_slotsOn : ByteArray := prog_14_method_131_code
def yX12_slotsOn : MethodName := ⟨RX12, "slotsOn", "(II)I"⟩
abbrev cX12_hold : ByteArray := prog_14_method_132_code
def yX12_hold : MethodName := ⟨RX12, "hold", "(I)Z"⟩
abbrev cX12_restore : ByteArray := prog_14_method_133_code
def yX12_restore : MethodName := ⟨RX12, "restore", "(I)Z"⟩
abbrev cX12_periodsOf : ByteArray := prog_14_method_134_code
def yX12_periodsOf : MethodName := ⟨RX12, "periodsOf", "(I)I"⟩
abbrev cX12_count : ByteArray := prog_14_method_135_code
def yX12_count : MethodName := ⟨RX12, "count", "(I)I"⟩
def RJ6 : String := "java/lang/Integer"
abbrev cJ6_bitCount_0f7a4 : ByteArray := prog_15_method_49_code
def yJ6_bitCount_0f7a4 : MethodName := ⟨RJ6, "bitCount", "(I)I"⟩
def RJ9 : String := "java/lang/Math"
abbrev cJ9_abs_0f7a4 : ByteArray := prog_16_method_59_code
def yJ9_abs_0f7a4 : MethodName := ⟨RJ9, "abs", "(I)I"⟩
abbrev cJ9_max_7cf53 : ByteArray := prog_16_method_65_code
def yJ9_max_7cf53 : MethodName := ⟨RJ9, "max", "(II)I"⟩
abbrev cJ9_min_7cf53 : ByteArray := prog_16_method_69_code
def yJ9_min_7cf53 : MethodName := ⟨RJ9, "min", "(II)I"⟩
def RJ0 : String := "java/lang/String"
abbrev cJ0_length_8abf5 : ByteArray := prog_17_method_54_code
def yJ0_length_8abf5 : MethodName := ⟨RJ0, "length", "()I"⟩
abbrev cJ0_charAt_5068e : ByteArray := prog_17_method_56_code
def yJ0_charAt_5068e : MethodName := ⟨RJ0, "charAt", "(I)C"⟩
abbrev cJ0_coder_7d493 : ByteArray := prog_17_method_152_code
def yJ0_coder_7d493 : MethodName := ⟨RJ0, "coder", "()B"⟩
abbrev cJ0_isLatin1_aae02 : ByteArray := prog_17_method_154_code
def yJ0_isLatin1_aae02 : MethodName := ⟨RJ0, "isLatin1", "()Z"⟩
abbrev cJ0_checkIndex_df160 : ByteArray := prog_17_method_155_code
def yJ0_checkIndex_df160 : MethodName := ⟨RJ0, "checkIndex", "(II)V"⟩
def RJ1 : String := "java/lang/StringLatin1"
abbrev cJ1_charAt_3b067 : ByteArray := prog_18_method_2_code
def yJ1_charAt_3b067 : MethodName := ⟨RJ1, "charAt", "([BI)C"⟩
def RJ2 : String := "java/lang/StringUTF16"
abbrev cJ2_getChar_3b067 : ByteArray := prog_19_method_5_code
def yJ2_getChar_3b067 : MethodName := ⟨RJ2, "getChar", "([BI)C"⟩
abbrev cJ2_length_9d52b : ByteArray := prog_19_method_6_code
def yJ2_length_9d52b : MethodName := ⟨RJ2, "length", "([B)I"⟩
abbrev cJ2_charAt_3b067 : ByteArray := prog_19_method_83_code
def yJ2_charAt_3b067 : MethodName := ⟨RJ2, "charAt", "([BI)C"⟩
abbrev cJ2_checkIndex_2214a : ByteArray := prog_19_method_91_code
def yJ2_checkIndex_2214a : MethodName := ⟨RJ2, "checkIndex", "(I[B)V"⟩
def RJ3 : String := "jdk/internal/util/Preconditions"
abbrev cJ3_checkIndex_8e157 : ByteArray := prog_20_method_11_code
def yJ3_checkIndex_8e157 : MethodName := ⟨RJ3, "checkIndex", "(IILjava/util/function/BiFunction;)I"⟩
def RL : String := "SpreadRowsLaw"
abbrev cL_law : ByteArray := code
def yL_law : MethodName := ⟨RL, "law", "([I)Z"⟩
abbrev vwCl : List vw_C := [(RX0, TX0, 2), (RX1, TX1, 3), (RX2, TX2, 4), (RX3, TX3, 8), (RX4, TX4, 6), (RX5, TX5, 1), (RX6, TX6, 4), (RX7, TX7, 9), (RX8, TX8, 3), (RX9, TX9, 10), (RX10, TX10, 15), (RX11, TX11, 10), (RX12, TX12, 67)]

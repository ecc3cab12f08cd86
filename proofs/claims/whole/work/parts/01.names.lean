-- ===== PART A: goes FIRST, ahead of the names: the tables' words, and 'selects' of the private methods out of them =====
/-- a private method of a class that the tables say can be made, by its rows of tables_1 -/
def lw_okq (q : MethodName × Nat) : Prop := (q.1.cls ≠ "java/lang/invoke/MethodHandle" ∧ q.1.cls ≠ "java/lang/invoke/VarHandle") ∧ Cond.instantiable q.1.cls q.2 ∈ tables_1 ∧ Cond.privateMethod q.1 ∈ tables_1 ∧ Cond.instanceMethod q.1 ∈ tables_1
theorem lw_p0 : lw_okq (⟨"FlatBlocks$Packer", "plan", "()V"⟩, 9) := ⟨⟨by decide +kernel, by decide +kernel⟩, List.mem_of_getElem? (i := 58) (by decide +kernel), List.mem_of_getElem? (i := 369) (by decide +kernel), List.mem_of_getElem? (i := 370) (by decide +kernel)⟩
theorem lw_p1 : lw_okq (⟨"FlatBlocks$Matcher", "slot", "(I)I"⟩, 7) := ⟨⟨by decide +kernel, by decide +kernel⟩, List.mem_of_getElem? (i := 168) (by decide +kernel), List.mem_of_getElem? (i := 384) (by decide +kernel), List.mem_of_getElem? (i := 385) (by decide +kernel)⟩
theorem lw_p2 : lw_okq (⟨"FlatBlocks$Matcher", "alike", "(III)I"⟩, 7) := ⟨⟨by decide +kernel, by decide +kernel⟩, List.mem_of_getElem? (i := 168) (by decide +kernel), List.mem_of_getElem? (i := 399) (by decide +kernel), List.mem_of_getElem? (i := 400) (by decide +kernel)⟩
theorem lw_p3 : lw_okq (⟨"FlatBlocks$Tokens", "addMatch", "(II)V"⟩, 8) := ⟨⟨by decide +kernel, by decide +kernel⟩, List.mem_of_getElem? (i := 162) (by decide +kernel), List.mem_of_getElem? (i := 403) (by decide +kernel), List.mem_of_getElem? (i := 404) (by decide +kernel)⟩
theorem lw_p4 : lw_okq (⟨"FlatBlocks$Tokens", "addByte", "(I)V"⟩, 8) := ⟨⟨by decide +kernel, by decide +kernel⟩, List.mem_of_getElem? (i := 162) (by decide +kernel), List.mem_of_getElem? (i := 423) (by decide +kernel), List.mem_of_getElem? (i := 424) (by decide +kernel)⟩
theorem lw_p5 : lw_okq (⟨"FlatBlocks$Depths", "sort", "(I)V"⟩, 6) := ⟨⟨by decide +kernel, by decide +kernel⟩, List.mem_of_getElem? (i := 64) (by decide +kernel), List.mem_of_getElem? (i := 435) (by decide +kernel), List.mem_of_getElem? (i := 436) (by decide +kernel)⟩
theorem lw_p6 : lw_okq (⟨"FlatBlocks$Depths", "insert", "(I)V"⟩, 6) := ⟨⟨by decide +kernel, by decide +kernel⟩, List.mem_of_getElem? (i := 64) (by decide +kernel), List.mem_of_getElem? (i := 439) (by decide +kernel), List.mem_of_getElem? (i := 440) (by decide +kernel)⟩
theorem lw_p7 : lw_okq (⟨"FlatBlocks$Depths", "deepest", "()I"⟩, 6) := ⟨⟨by decide +kernel, by decide +kernel⟩, List.mem_of_getElem? (i := 64) (by decide +kernel), List.mem_of_getElem? (i := 443) (by decide +kernel), List.mem_of_getElem? (i := 444) (by decide +kernel)⟩
theorem lw_p8 : lw_okq (⟨"FlatBlocks$Depths", "join", "()V"⟩, 6) := ⟨⟨by decide +kernel, by decide +kernel⟩, List.mem_of_getElem? (i := 64) (by decide +kernel), List.mem_of_getElem? (i := 447) (by decide +kernel), List.mem_of_getElem? (i := 448) (by decide +kernel)⟩
theorem lw_p9 : lw_okq (⟨"FlatBlocks$Depths", "halve", "(I)V"⟩, 6) := ⟨⟨by decide +kernel, by decide +kernel⟩, List.mem_of_getElem? (i := 64) (by decide +kernel), List.mem_of_getElem? (i := 452) (by decide +kernel), List.mem_of_getElem? (i := 453) (by decide +kernel)⟩
theorem lw_p10 : lw_okq (⟨"FlatBlocks$Codes", "countLengths", "()V"⟩, 8) := ⟨⟨by decide +kernel, by decide +kernel⟩, List.mem_of_getElem? (i := 90) (by decide +kernel), List.mem_of_getElem? (i := 460) (by decide +kernel), List.mem_of_getElem? (i := 461) (by decide +kernel)⟩
theorem lw_p11 : lw_okq (⟨"FlatBlocks$Telling", "gatherCells", "()V"⟩, 9) := ⟨⟨by decide +kernel, by decide +kernel⟩, List.mem_of_getElem? (i := 126) (by decide +kernel), List.mem_of_getElem? (i := 476) (by decide +kernel), List.mem_of_getElem? (i := 477) (by decide +kernel)⟩
theorem lw_p12 : lw_okq (⟨"FlatBlocks$Telling", "runFrom", "(I)I"⟩, 9) := ⟨⟨by decide +kernel, by decide +kernel⟩, List.mem_of_getElem? (i := 126) (by decide +kernel), List.mem_of_getElem? (i := 481) (by decide +kernel), List.mem_of_getElem? (i := 482) (by decide +kernel)⟩
theorem lw_p13 : lw_okq (⟨"FlatBlocks$Telling", "addZeros", "(I)I"⟩, 9) := ⟨⟨by decide +kernel, by decide +kernel⟩, List.mem_of_getElem? (i := 126) (by decide +kernel), List.mem_of_getElem? (i := 485) (by decide +kernel), List.mem_of_getElem? (i := 486) (by decide +kernel)⟩
theorem lw_p14 : lw_okq (⟨"FlatBlocks$Telling", "addCell", "(II)V"⟩, 9) := ⟨⟨by decide +kernel, by decide +kernel⟩, List.mem_of_getElem? (i := 126) (by decide +kernel), List.mem_of_getElem? (i := 490) (by decide +kernel), List.mem_of_getElem? (i := 491) (by decide +kernel)⟩
theorem lw_p15 : lw_okq (⟨"FlatBlocks$Telling", "addLengths", "(II)I"⟩, 9) := ⟨⟨by decide +kernel, by decide +kernel⟩, List.mem_of_getElem? (i := 126) (by decide +kernel), List.mem_of_getElem? (i := 494) (by decide +kernel), List.mem_of_getElem? (i := 495) (by decide +kernel)⟩
def lw_privs_1 : List (MethodName × Nat) := [(⟨"FlatBlocks$Packer", "plan", "()V"⟩, 9), (⟨"FlatBlocks$Matcher", "slot", "(I)I"⟩, 7), (⟨"FlatBlocks$Matcher", "alike", "(III)I"⟩, 7), (⟨"FlatBlocks$Tokens", "addMatch", "(II)V"⟩, 8), (⟨"FlatBlocks$Tokens", "addByte", "(I)V"⟩, 8), (⟨"FlatBlocks$Depths", "sort", "(I)V"⟩, 6), (⟨"FlatBlocks$Depths", "insert", "(I)V"⟩, 6), (⟨"FlatBlocks$Depths", "deepest", "()I"⟩, 6), (⟨"FlatBlocks$Depths", "join", "()V"⟩, 6), (⟨"FlatBlocks$Depths", "halve", "(I)V"⟩, 6), (⟨"FlatBlocks$Codes", "countLengths", "()V"⟩, 8), (⟨"FlatBlocks$Telling", "gatherCells", "()V"⟩, 9), (⟨"FlatBlocks$Telling", "runFrom", "(I)I"⟩, 9), (⟨"FlatBlocks$Telling", "addZeros", "(I)I"⟩, 9), (⟨"FlatBlocks$Telling", "addCell", "(II)V"⟩, 9), (⟨"FlatBlocks$Telling", "addLengths", "(II)I"⟩, 9)]
theorem lw_r1 : ∀ q ∈ lw_privs_1, lw_okq q := List.forall_mem_cons.mpr ⟨lw_p0, List.forall_mem_cons.mpr ⟨lw_p1, List.forall_mem_cons.mpr ⟨lw_p2, List.forall_mem_cons.mpr ⟨lw_p3, List.forall_mem_cons.mpr ⟨lw_p4, List.forall_mem_cons.mpr ⟨lw_p5, List.forall_mem_cons.mpr ⟨lw_p6, List.forall_mem_cons.mpr ⟨lw_p7, List.forall_mem_cons.mpr ⟨lw_p8, List.forall_mem_cons.mpr ⟨lw_p9, List.forall_mem_cons.mpr ⟨lw_p10, List.forall_mem_cons.mpr ⟨lw_p11, List.forall_mem_cons.mpr ⟨lw_p12, List.forall_mem_cons.mpr ⟨lw_p13, List.forall_mem_cons.mpr ⟨lw_p14, List.forall_mem_cons.mpr ⟨lw_p15, fun _ h => absurd h List.not_mem_nil⟩⟩⟩⟩⟩⟩⟩⟩⟩⟩⟩⟩⟩⟩⟩⟩
theorem lw_p16 : lw_okq (⟨"FlatBlocks$Packer", "toldBits", "()I"⟩, 9) := ⟨⟨by decide +kernel, by decide +kernel⟩, List.mem_of_getElem? (i := 58) (by decide +kernel), List.mem_of_getElem? (i := 502) (by decide +kernel), List.mem_of_getElem? (i := 503) (by decide +kernel)⟩
theorem lw_p17 : lw_okq (⟨"FlatBlocks$Packer", "keptBlocks", "()I"⟩, 9) := ⟨⟨by decide +kernel, by decide +kernel⟩, List.mem_of_getElem? (i := 58) (by decide +kernel), List.mem_of_getElem? (i := 518) (by decide +kernel), List.mem_of_getElem? (i := 519) (by decide +kernel)⟩
theorem lw_p18 : lw_okq (⟨"FlatBlocks$Packer", "writeKept", "()V"⟩, 9) := ⟨⟨by decide +kernel, by decide +kernel⟩, List.mem_of_getElem? (i := 58) (by decide +kernel), List.mem_of_getElem? (i := 534) (by decide +kernel), List.mem_of_getElem? (i := 535) (by decide +kernel)⟩
theorem lw_p19 : lw_okq (⟨"FlatBlocks$BitsOut", "put", "(I)V"⟩, 3) := ⟨⟨by decide +kernel, by decide +kernel⟩, List.mem_of_getElem? (i := 233) (by decide +kernel), List.mem_of_getElem? (i := 542) (by decide +kernel), List.mem_of_getElem? (i := 543) (by decide +kernel)⟩
theorem lw_p20 : lw_okq (⟨"FlatBlocks$Packer", "writeTold", "()V"⟩, 9) := ⟨⟨by decide +kernel, by decide +kernel⟩, List.mem_of_getElem? (i := 58) (by decide +kernel), List.mem_of_getElem? (i := 553) (by decide +kernel), List.mem_of_getElem? (i := 554) (by decide +kernel)⟩
theorem lw_p21 : lw_okq (⟨"FlatBlocks$Packer", "writeMatch", "(II)V"⟩, 9) := ⟨⟨by decide +kernel, by decide +kernel⟩, List.mem_of_getElem? (i := 58) (by decide +kernel), List.mem_of_getElem? (i := 576) (by decide +kernel), List.mem_of_getElem? (i := 577) (by decide +kernel)⟩
theorem lw_p22 : lw_okq (⟨"FlatBlocks$Unpacker", "readBlock", "(I)I"⟩, 6) := ⟨⟨by decide +kernel, by decide +kernel⟩, List.mem_of_getElem? (i := 278) (by decide +kernel), List.mem_of_getElem? (i := 632) (by decide +kernel), List.mem_of_getElem? (i := 633) (by decide +kernel)⟩
theorem lw_p23 : lw_okq (⟨"FlatBlocks$Unpacker", "readKept", "()I"⟩, 6) := ⟨⟨by decide +kernel, by decide +kernel⟩, List.mem_of_getElem? (i := 278) (by decide +kernel), List.mem_of_getElem? (i := 636) (by decide +kernel), List.mem_of_getElem? (i := 637) (by decide +kernel)⟩
theorem lw_p24 : lw_okq (⟨"FlatBlocks$Unpacker", "fixCodes", "()V"⟩, 6) := ⟨⟨by decide +kernel, by decide +kernel⟩, List.mem_of_getElem? (i := 278) (by decide +kernel), List.mem_of_getElem? (i := 646) (by decide +kernel), List.mem_of_getElem? (i := 647) (by decide +kernel)⟩
theorem lw_p25 : lw_okq (⟨"FlatBlocks$Unpacker", "readSymbols", "()I"⟩, 6) := ⟨⟨by decide +kernel, by decide +kernel⟩, List.mem_of_getElem? (i := 278) (by decide +kernel), List.mem_of_getElem? (i := 661) (by decide +kernel), List.mem_of_getElem? (i := 662) (by decide +kernel)⟩
theorem lw_p26 : lw_okq (⟨"FlatBlocks$Unpacker", "addByte", "(I)I"⟩, 6) := ⟨⟨by decide +kernel, by decide +kernel⟩, List.mem_of_getElem? (i := 278) (by decide +kernel), List.mem_of_getElem? (i := 670) (by decide +kernel), List.mem_of_getElem? (i := 671) (by decide +kernel)⟩
theorem lw_p27 : lw_okq (⟨"FlatBlocks$Unpacker", "readMatch", "(I)I"⟩, 6) := ⟨⟨by decide +kernel, by decide +kernel⟩, List.mem_of_getElem? (i := 278) (by decide +kernel), List.mem_of_getElem? (i := 674) (by decide +kernel), List.mem_of_getElem? (i := 675) (by decide +kernel)⟩
theorem lw_p28 : lw_okq (⟨"FlatBlocks$Unpacker", "readTold", "()I"⟩, 6) := ⟨⟨by decide +kernel, by decide +kernel⟩, List.mem_of_getElem? (i := 278) (by decide +kernel), List.mem_of_getElem? (i := 683) (by decide +kernel), List.mem_of_getElem? (i := 684) (by decide +kernel)⟩
theorem lw_p29 : lw_okq (⟨"FlatBlocks$Unpacker", "readTelling", "(I)I"⟩, 6) := ⟨⟨by decide +kernel, by decide +kernel⟩, List.mem_of_getElem? (i := 278) (by decide +kernel), List.mem_of_getElem? (i := 687) (by decide +kernel), List.mem_of_getElem? (i := 688) (by decide +kernel)⟩
theorem lw_p30 : lw_okq (⟨"FlatBlocks$Unpacker", "readLengths", "(I)I"⟩, 6) := ⟨⟨by decide +kernel, by decide +kernel⟩, List.mem_of_getElem? (i := 278) (by decide +kernel), List.mem_of_getElem? (i := 696) (by decide +kernel), List.mem_of_getElem? (i := 697) (by decide +kernel)⟩
theorem lw_p31 : lw_okq (⟨"FlatBlocks$Unpacker", "areUsable", "()Z"⟩, 6) := ⟨⟨by decide +kernel, by decide +kernel⟩, List.mem_of_getElem? (i := 278) (by decide +kernel), List.mem_of_getElem? (i := 710) (by decide +kernel), List.mem_of_getElem? (i := 711) (by decide +kernel)⟩
def lw_privs_2 : List (MethodName × Nat) := [(⟨"FlatBlocks$Packer", "toldBits", "()I"⟩, 9), (⟨"FlatBlocks$Packer", "keptBlocks", "()I"⟩, 9), (⟨"FlatBlocks$Packer", "writeKept", "()V"⟩, 9), (⟨"FlatBlocks$BitsOut", "put", "(I)V"⟩, 3), (⟨"FlatBlocks$Packer", "writeTold", "()V"⟩, 9), (⟨"FlatBlocks$Packer", "writeMatch", "(II)V"⟩, 9), (⟨"FlatBlocks$Unpacker", "readBlock", "(I)I"⟩, 6), (⟨"FlatBlocks$Unpacker", "readKept", "()I"⟩, 6), (⟨"FlatBlocks$Unpacker", "fixCodes", "()V"⟩, 6), (⟨"FlatBlocks$Unpacker", "readSymbols", "()I"⟩, 6), (⟨"FlatBlocks$Unpacker", "addByte", "(I)I"⟩, 6), (⟨"FlatBlocks$Unpacker", "readMatch", "(I)I"⟩, 6), (⟨"FlatBlocks$Unpacker", "readTold", "()I"⟩, 6), (⟨"FlatBlocks$Unpacker", "readTelling", "(I)I"⟩, 6), (⟨"FlatBlocks$Unpacker", "readLengths", "(I)I"⟩, 6), (⟨"FlatBlocks$Unpacker", "areUsable", "()Z"⟩, 6)]
theorem lw_r2 : ∀ q ∈ lw_privs_2, lw_okq q := List.forall_mem_cons.mpr ⟨lw_p16, List.forall_mem_cons.mpr ⟨lw_p17, List.forall_mem_cons.mpr ⟨lw_p18, List.forall_mem_cons.mpr ⟨lw_p19, List.forall_mem_cons.mpr ⟨lw_p20, List.forall_mem_cons.mpr ⟨lw_p21, List.forall_mem_cons.mpr ⟨lw_p22, List.forall_mem_cons.mpr ⟨lw_p23, List.forall_mem_cons.mpr ⟨lw_p24, List.forall_mem_cons.mpr ⟨lw_p25, List.forall_mem_cons.mpr ⟨lw_p26, List.forall_mem_cons.mpr ⟨lw_p27, List.forall_mem_cons.mpr ⟨lw_p28, List.forall_mem_cons.mpr ⟨lw_p29, List.forall_mem_cons.mpr ⟨lw_p30, List.forall_mem_cons.mpr ⟨lw_p31, fun _ h => absurd h List.not_mem_nil⟩⟩⟩⟩⟩⟩⟩⟩⟩⟩⟩⟩⟩⟩⟩⟩
theorem lw_p32 : lw_okq (⟨"FlatBlocksModel", "prepare", "()I"⟩, 38) := ⟨⟨by decide +kernel, by decide +kernel⟩, List.mem_of_getElem? (i := 766) (by decide +kernel), List.mem_of_getElem? (i := 937) (by decide +kernel), List.mem_of_getElem? (i := 938) (by decide +kernel)⟩
theorem lw_p33 : lw_okq (⟨"FlatBlocksModel", "findTokens", "()V"⟩, 38) := ⟨⟨by decide +kernel, by decide +kernel⟩, List.mem_of_getElem? (i := 766) (by decide +kernel), List.mem_of_getElem? (i := 941) (by decide +kernel), List.mem_of_getElem? (i := 942) (by decide +kernel)⟩
theorem lw_p34 : lw_okq (⟨"FlatBlocksModel", "longest", "(I)I"⟩, 38) := ⟨⟨by decide +kernel, by decide +kernel⟩, List.mem_of_getElem? (i := 766) (by decide +kernel), List.mem_of_getElem? (i := 945) (by decide +kernel), List.mem_of_getElem? (i := 946) (by decide +kernel)⟩
theorem lw_p35 : lw_okq (⟨"FlatBlocksModel", "mixed", "(I)I"⟩, 38) := ⟨⟨by decide +kernel, by decide +kernel⟩, List.mem_of_getElem? (i := 766) (by decide +kernel), List.mem_of_getElem? (i := 949) (by decide +kernel), List.mem_of_getElem? (i := 950) (by decide +kernel)⟩
theorem lw_p36 : lw_okq (⟨"FlatBlocksModel", "isLike", "(II)Z"⟩, 38) := ⟨⟨by decide +kernel, by decide +kernel⟩, List.mem_of_getElem? (i := 766) (by decide +kernel), List.mem_of_getElem? (i := 954) (by decide +kernel), List.mem_of_getElem? (i := 955) (by decide +kernel)⟩
theorem lw_p37 : lw_okq (⟨"FlatBlocksModel", "matchOf", "(II)I"⟩, 38) := ⟨⟨by decide +kernel, by decide +kernel⟩, List.mem_of_getElem? (i := 766) (by decide +kernel), List.mem_of_getElem? (i := 958) (by decide +kernel), List.mem_of_getElem? (i := 959) (by decide +kernel)⟩
theorem lw_p38 : lw_okq (⟨"FlatBlocksModel", "note", "(I)V"⟩, 38) := ⟨⟨by decide +kernel, by decide +kernel⟩, List.mem_of_getElem? (i := 766) (by decide +kernel), List.mem_of_getElem? (i := 965) (by decide +kernel), List.mem_of_getElem? (i := 966) (by decide +kernel)⟩
theorem lw_p39 : lw_okq (⟨"FlatBlocksModel", "clearOften", "()V"⟩, 38) := ⟨⟨by decide +kernel, by decide +kernel⟩, List.mem_of_getElem? (i := 766) (by decide +kernel), List.mem_of_getElem? (i := 969) (by decide +kernel), List.mem_of_getElem? (i := 970) (by decide +kernel)⟩
theorem lw_p40 : lw_okq (⟨"FlatBlocksModel", "findLengths", "(II[I)V"⟩, 38) := ⟨⟨by decide +kernel, by decide +kernel⟩, List.mem_of_getElem? (i := 766) (by decide +kernel), List.mem_of_getElem? (i := 979) (by decide +kernel), List.mem_of_getElem? (i := 980) (by decide +kernel)⟩
theorem lw_p41 : lw_okq (⟨"FlatBlocksModel", "tree", "(I[I)I"⟩, 38) := ⟨⟨by decide +kernel, by decide +kernel⟩, List.mem_of_getElem? (i := 766) (by decide +kernel), List.mem_of_getElem? (i := 983) (by decide +kernel), List.mem_of_getElem? (i := 984) (by decide +kernel)⟩
theorem lw_p42 : lw_okq (⟨"FlatBlocksModel", "rarest", "(I)I"⟩, 38) := ⟨⟨by decide +kernel, by decide +kernel⟩, List.mem_of_getElem? (i := 766) (by decide +kernel), List.mem_of_getElem? (i := 987) (by decide +kernel), List.mem_of_getElem? (i := 988) (by decide +kernel)⟩
theorem lw_p43 : lw_okq (⟨"FlatBlocksModel", "tellRow", "(I)V"⟩, 38) := ⟨⟨by decide +kernel, by decide +kernel⟩, List.mem_of_getElem? (i := 766) (by decide +kernel), List.mem_of_getElem? (i := 1000) (by decide +kernel), List.mem_of_getElem? (i := 1001) (by decide +kernel)⟩
theorem lw_p44 : lw_okq (⟨"FlatBlocksModel", "tellOne", "(II)V"⟩, 38) := ⟨⟨by decide +kernel, by decide +kernel⟩, List.mem_of_getElem? (i := 766) (by decide +kernel), List.mem_of_getElem? (i := 1004) (by decide +kernel), List.mem_of_getElem? (i := 1005) (by decide +kernel)⟩
theorem lw_p45 : lw_okq (⟨"FlatBlocksModel", "findCodes", "(I[I[I)V"⟩, 38) := ⟨⟨by decide +kernel, by decide +kernel⟩, List.mem_of_getElem? (i := 766) (by decide +kernel), List.mem_of_getElem? (i := 1011) (by decide +kernel), List.mem_of_getElem? (i := 1012) (by decide +kernel)⟩
theorem lw_p46 : lw_okq (⟨"FlatBlocksModel", "bitsOf", "(I)I"⟩, 38) := ⟨⟨by decide +kernel, by decide +kernel⟩, List.mem_of_getElem? (i := 766) (by decide +kernel), List.mem_of_getElem? (i := 1018) (by decide +kernel), List.mem_of_getElem? (i := 1019) (by decide +kernel)⟩
theorem lw_p47 : lw_okq (⟨"FlatBlocksModel", "writeKept", "()V"⟩, 38) := ⟨⟨by decide +kernel, by decide +kernel⟩, List.mem_of_getElem? (i := 766) (by decide +kernel), List.mem_of_getElem? (i := 1029) (by decide +kernel), List.mem_of_getElem? (i := 1030) (by decide +kernel)⟩
def lw_privs_3 : List (MethodName × Nat) := [(⟨"FlatBlocksModel", "prepare", "()I"⟩, 38), (⟨"FlatBlocksModel", "findTokens", "()V"⟩, 38), (⟨"FlatBlocksModel", "longest", "(I)I"⟩, 38), (⟨"FlatBlocksModel", "mixed", "(I)I"⟩, 38), (⟨"FlatBlocksModel", "isLike", "(II)Z"⟩, 38), (⟨"FlatBlocksModel", "matchOf", "(II)I"⟩, 38), (⟨"FlatBlocksModel", "note", "(I)V"⟩, 38), (⟨"FlatBlocksModel", "clearOften", "()V"⟩, 38), (⟨"FlatBlocksModel", "findLengths", "(II[I)V"⟩, 38), (⟨"FlatBlocksModel", "tree", "(I[I)I"⟩, 38), (⟨"FlatBlocksModel", "rarest", "(I)I"⟩, 38), (⟨"FlatBlocksModel", "tellRow", "(I)V"⟩, 38), (⟨"FlatBlocksModel", "tellOne", "(II)V"⟩, 38), (⟨"FlatBlocksModel", "findCodes", "(I[I[I)V"⟩, 38), (⟨"FlatBlocksModel", "bitsOf", "(I)I"⟩, 38), (⟨"FlatBlocksModel", "writeKept", "()V"⟩, 38)]
theorem lw_r3 : ∀ q ∈ lw_privs_3, lw_okq q := List.forall_mem_cons.mpr ⟨lw_p32, List.forall_mem_cons.mpr ⟨lw_p33, List.forall_mem_cons.mpr ⟨lw_p34, List.forall_mem_cons.mpr ⟨lw_p35, List.forall_mem_cons.mpr ⟨lw_p36, List.forall_mem_cons.mpr ⟨lw_p37, List.forall_mem_cons.mpr ⟨lw_p38, List.forall_mem_cons.mpr ⟨lw_p39, List.forall_mem_cons.mpr ⟨lw_p40, List.forall_mem_cons.mpr ⟨lw_p41, List.forall_mem_cons.mpr ⟨lw_p42, List.forall_mem_cons.mpr ⟨lw_p43, List.forall_mem_cons.mpr ⟨lw_p44, List.forall_mem_cons.mpr ⟨lw_p45, List.forall_mem_cons.mpr ⟨lw_p46, List.forall_mem_cons.mpr ⟨lw_p47, fun _ h => absurd h List.not_mem_nil⟩⟩⟩⟩⟩⟩⟩⟩⟩⟩⟩⟩⟩⟩⟩⟩
theorem lw_p48 : lw_okq (⟨"FlatBlocksModel", "put", "(II)V"⟩, 38) := ⟨⟨by decide +kernel, by decide +kernel⟩, List.mem_of_getElem? (i := 766) (by decide +kernel), List.mem_of_getElem? (i := 1033) (by decide +kernel), List.mem_of_getElem? (i := 1034) (by decide +kernel)⟩
theorem lw_p49 : lw_okq (⟨"FlatBlocksModel", "writeCodes", "()V"⟩, 38) := ⟨⟨by decide +kernel, by decide +kernel⟩, List.mem_of_getElem? (i := 766) (by decide +kernel), List.mem_of_getElem? (i := 1037) (by decide +kernel), List.mem_of_getElem? (i := 1038) (by decide +kernel)⟩
theorem lw_p50 : lw_okq (⟨"FlatBlocksModel", "putCode", "(II)V"⟩, 38) := ⟨⟨by decide +kernel, by decide +kernel⟩, List.mem_of_getElem? (i := 766) (by decide +kernel), List.mem_of_getElem? (i := 1041) (by decide +kernel), List.mem_of_getElem? (i := 1042) (by decide +kernel)⟩
theorem lw_p51 : lw_okq (⟨"FlatBlocksModel", "writeToken", "(I)V"⟩, 38) := ⟨⟨by decide +kernel, by decide +kernel⟩, List.mem_of_getElem? (i := 766) (by decide +kernel), List.mem_of_getElem? (i := 1045) (by decide +kernel), List.mem_of_getElem? (i := 1046) (by decide +kernel)⟩
theorem lw_p52 : lw_okq (⟨"FlatBlocksModel", "take", "(I)I"⟩, 38) := ⟨⟨by decide +kernel, by decide +kernel⟩, List.mem_of_getElem? (i := 766) (by decide +kernel), List.mem_of_getElem? (i := 1053) (by decide +kernel), List.mem_of_getElem? (i := 1054) (by decide +kernel)⟩
theorem lw_p53 : lw_okq (⟨"FlatBlocksModel", "cannot", "(ZI)V"⟩, 38) := ⟨⟨by decide +kernel, by decide +kernel⟩, List.mem_of_getElem? (i := 766) (by decide +kernel), List.mem_of_getElem? (i := 1057) (by decide +kernel), List.mem_of_getElem? (i := 1058) (by decide +kernel)⟩
theorem lw_p54 : lw_okq (⟨"FlatBlocksModel", "kept", "()V"⟩, 38) := ⟨⟨by decide +kernel, by decide +kernel⟩, List.mem_of_getElem? (i := 766) (by decide +kernel), List.mem_of_getElem? (i := 1061) (by decide +kernel), List.mem_of_getElem? (i := 1062) (by decide +kernel)⟩
theorem lw_p55 : lw_okq (⟨"FlatBlocksModel", "putOut", "(I)V"⟩, 38) := ⟨⟨by decide +kernel, by decide +kernel⟩, List.mem_of_getElem? (i := 766) (by decide +kernel), List.mem_of_getElem? (i := 1065) (by decide +kernel), List.mem_of_getElem? (i := 1066) (by decide +kernel)⟩
theorem lw_p56 : lw_okq (⟨"FlatBlocksModel", "fixedCodes", "()V"⟩, 38) := ⟨⟨by decide +kernel, by decide +kernel⟩, List.mem_of_getElem? (i := 766) (by decide +kernel), List.mem_of_getElem? (i := 1069) (by decide +kernel), List.mem_of_getElem? (i := 1070) (by decide +kernel)⟩
theorem lw_p57 : lw_okq (⟨"FlatBlocksModel", "toldCodes", "()V"⟩, 38) := ⟨⟨by decide +kernel, by decide +kernel⟩, List.mem_of_getElem? (i := 766) (by decide +kernel), List.mem_of_getElem? (i := 1073) (by decide +kernel), List.mem_of_getElem? (i := 1074) (by decide +kernel)⟩
theorem lw_p58 : lw_okq (⟨"FlatBlocksModel", "symbol", "(I[I[I)I"⟩, 38) := ⟨⟨by decide +kernel, by decide +kernel⟩, List.mem_of_getElem? (i := 766) (by decide +kernel), List.mem_of_getElem? (i := 1080) (by decide +kernel), List.mem_of_getElem? (i := 1081) (by decide +kernel)⟩
theorem lw_p59 : lw_okq (⟨"FlatBlocksModel", "codedBlock", "()V"⟩, 38) := ⟨⟨by decide +kernel, by decide +kernel⟩, List.mem_of_getElem? (i := 766) (by decide +kernel), List.mem_of_getElem? (i := 1090) (by decide +kernel), List.mem_of_getElem? (i := 1091) (by decide +kernel)⟩
theorem lw_p60 : lw_okq (⟨"FlatBlocksModel", "copy", "(I)V"⟩, 38) := ⟨⟨by decide +kernel, by decide +kernel⟩, List.mem_of_getElem? (i := 766) (by decide +kernel), List.mem_of_getElem? (i := 1094) (by decide +kernel), List.mem_of_getElem? (i := 1095) (by decide +kernel)⟩
def lw_privs_4 : List (MethodName × Nat) := [(⟨"FlatBlocksModel", "put", "(II)V"⟩, 38), (⟨"FlatBlocksModel", "writeCodes", "()V"⟩, 38), (⟨"FlatBlocksModel", "putCode", "(II)V"⟩, 38), (⟨"FlatBlocksModel", "writeToken", "(I)V"⟩, 38), (⟨"FlatBlocksModel", "take", "(I)I"⟩, 38), (⟨"FlatBlocksModel", "cannot", "(ZI)V"⟩, 38), (⟨"FlatBlocksModel", "kept", "()V"⟩, 38), (⟨"FlatBlocksModel", "putOut", "(I)V"⟩, 38), (⟨"FlatBlocksModel", "fixedCodes", "()V"⟩, 38), (⟨"FlatBlocksModel", "toldCodes", "()V"⟩, 38), (⟨"FlatBlocksModel", "symbol", "(I[I[I)I"⟩, 38), (⟨"FlatBlocksModel", "codedBlock", "()V"⟩, 38), (⟨"FlatBlocksModel", "copy", "(I)V"⟩, 38)]
theorem lw_r4 : ∀ q ∈ lw_privs_4, lw_okq q := List.forall_mem_cons.mpr ⟨lw_p48, List.forall_mem_cons.mpr ⟨lw_p49, List.forall_mem_cons.mpr ⟨lw_p50, List.forall_mem_cons.mpr ⟨lw_p51, List.forall_mem_cons.mpr ⟨lw_p52, List.forall_mem_cons.mpr ⟨lw_p53, List.forall_mem_cons.mpr ⟨lw_p54, List.forall_mem_cons.mpr ⟨lw_p55, List.forall_mem_cons.mpr ⟨lw_p56, List.forall_mem_cons.mpr ⟨lw_p57, List.forall_mem_cons.mpr ⟨lw_p58, List.forall_mem_cons.mpr ⟨lw_p59, List.forall_mem_cons.mpr ⟨lw_p60, fun _ h => absurd h List.not_mem_nil⟩⟩⟩⟩⟩⟩⟩⟩⟩⟩⟩⟩⟩
def lw_privs : List (MethodName × Nat) := lw_privs_1 ++ (lw_privs_2 ++ (lw_privs_3 ++ (lw_privs_4)))
def lw_tbl : List Cond := k2_sels lw_privs ++ tables_1
theorem lw_privs_ok : ∀ q ∈ lw_privs, lw_okq q := by
  show ∀ q ∈ lw_privs_1 ++ (lw_privs_2 ++ (lw_privs_3 ++ (lw_privs_4))), lw_okq q
  exact List.forall_mem_append.mpr ⟨lw_r1, List.forall_mem_append.mpr ⟨lw_r2, List.forall_mem_append.mpr ⟨lw_r3, lw_r4⟩⟩⟩
def RX0 : String := "FlatBlocks$BitsIn"
def TX0 : u_T := fun k => match k with
  | 0 => ("FlatBlocks$BitsIn", "all", "I", false)
  | 1 => ("FlatBlocks$BitsIn", "taken", "I", false)
  | _ => ("FlatBlocks$BitsIn", "row", "LFlatBlocks$Row;", true)
def tyX0 : Nat → FieldType := fun k => match k with
  | 0 => .int
  | 1 => .int
  | _ => .object "FlatBlocks$Row"
theorem nmX0 : ∀ a, a < 3 → ∀ b, b < 3 → a ≠ b → (TX0 a).2.1 ≠ (TX0 b).2.1 := by decide +kernel
theorem tyX0_ok : ∀ k, k < 3 → parseFieldDescriptor (TX0 k).2.2.1 = some (tyX0 k) := by decide +kernel
abbrev cX0_init : ByteArray := prog_2_method_1_code
def yX0_init : MethodName := ⟨RX0, "<init>", "(LFlatBlocks$Row;)V"⟩
abbrev cX0_start : ByteArray := prog_2_method_2_code
def yX0_start : MethodName := ⟨RX0, "start", "()V"⟩
abbrev cX0_next : ByteArray := prog_2_method_3_code
def yX0_next : MethodName := ⟨RX0, "next", "()I"⟩
abbrev cX0_number : ByteArray := prog_2_method_4_code
def yX0_number : MethodName := ⟨RX0, "number", "(I)I"⟩
abbrev cX0_toWholeByte : ByteArray := prog_2_method_5_code
def yX0_toWholeByte : MethodName := ⟨RX0, "toWholeByte", "()V"⟩
def RX1 : String := "FlatBlocks$BitsOut"
def TX1 : u_T := fun k => match k with
  | 0 => ("FlatBlocks$BitsOut", "row", "LFlatBlocks$Row;", true)
  | 1 => ("FlatBlocks$BitsOut", "held", "I", false)
  | _ => ("FlatBlocks$BitsOut", "filled", "I", false)
def tyX1 : Nat → FieldType := fun k => match k with
  | 0 => .object "FlatBlocks$Row"
  | 1 => .int
  | _ => .int
theorem nmX1 : ∀ a, a < 3 → ∀ b, b < 3 → a ≠ b → (TX1 a).2.1 ≠ (TX1 b).2.1 := by decide +kernel
theorem tyX1_ok : ∀ k, k < 3 → parseFieldDescriptor (TX1 k).2.2.1 = some (tyX1 k) := by decide +kernel
abbrev cX1_init : ByteArray := prog_3_method_1_code
def yX1_init : MethodName := ⟨RX1, "<init>", "(LFlatBlocks$Row;)V"⟩
abbrev cX1_start : ByteArray := prog_3_method_2_code
def yX1_start : MethodName := ⟨RX1, "start", "()V"⟩
abbrev cX1_number : ByteArray := prog_3_method_3_code
def yX1_number : MethodName := ⟨RX1, "number", "(II)V"⟩
abbrev cX1_symbol : ByteArray := prog_3_method_4_code
def yX1_symbol : MethodName := ⟨RX1, "symbol", "(LFlatBlocks$Codes;I)V"⟩
abbrev cX1_toWholeByte : ByteArray := prog_3_method_5_code
def yX1_toWholeByte : MethodName := ⟨RX1, "toWholeByte", "()V"⟩
abbrev cX1_put : ByteArray := prog_3_method_6_code
def yX1_put : MethodName := ⟨RX1, "put", "(I)V"⟩
def RX2 : String := "FlatBlocks$Codes"
def TX2 : u_T := fun k => match k with
  | 0 => ("FlatBlocks$Codes", "lengths", "[I", true)
  | 1 => ("FlatBlocks$Codes", "codes", "[I", true)
  | 2 => ("FlatBlocks$Codes", "byCode", "[I", true)
  | 3 => ("FlatBlocks$Codes", "ofLength", "[I", true)
  | 4 => ("FlatBlocks$Codes", "firstCode", "[I", true)
  | 5 => ("FlatBlocks$Codes", "firstPlace", "[I", true)
  | 6 => ("FlatBlocks$Codes", "given", "[I", true)
  | _ => ("FlatBlocks$Codes", "longest", "I", false)
def tyX2 : Nat → FieldType := fun k => match k with
  | 0 => .array .int
  | 1 => .array .int
  | 2 => .array .int
  | 3 => .array .int
  | 4 => .array .int
  | 5 => .array .int
  | 6 => .array .int
  | _ => .int
theorem nmX2 : ∀ a, a < 8 → ∀ b, b < 8 → a ≠ b → (TX2 a).2.1 ≠ (TX2 b).2.1 := by decide +kernel
theorem tyX2_ok : ∀ k, k < 8 → parseFieldDescriptor (TX2 k).2.2.1 = some (tyX2 k) := by decide +kernel
abbrev cX2_init : ByteArray := prog_4_method_1_code
def yX2_init : MethodName := ⟨RX2, "<init>", "(I)V"⟩
abbrev cX2_tell : ByteArray := prog_4_method_2_code
def yX2_tell : MethodName := ⟨RX2, "tell", "([III)V"⟩
abbrev cX2_fill : ByteArray := prog_4_method_3_code
def yX2_fill : MethodName := ⟨RX2, "fill", "(III)V"⟩
abbrev cX2_assign : ByteArray := prog_4_method_4_code
def yX2_assign : MethodName := ⟨RX2, "assign", "()V"⟩
abbrev cX2_countLengths : ByteArray := prog_4_method_5_code
def yX2_countLengths : MethodName := ⟨RX2, "countLengths", "()V"⟩
abbrev cX2_areComplete : ByteArray := prog_4_method_6_code
def yX2_areComplete : MethodName := ⟨RX2, "areComplete", "()Z"⟩
abbrev cX2_areOneAloneOfOneBit : ByteArray := prog_4_method_7_code
def yX2_areOneAloneOfOneBit : MethodName := ⟨RX2, "areOneAloneOfOneBit", "()Z"⟩
abbrev cX2_areNone : ByteArray := prog_4_method_8_code
def yX2_areNone : MethodName := ⟨RX2, "areNone", "()Z"⟩
abbrev cX2_lastCoded : ByteArray := prog_4_method_9_code
def yX2_lastCoded : MethodName := ⟨RX2, "lastCoded", "()I"⟩
abbrev cX2_read : ByteArray := prog_4_method_10_code
def yX2_read : MethodName := ⟨RX2, "read", "(LFlatBlocks$BitsIn;)I"⟩
abbrev cX2_bitsFor : ByteArray := prog_4_method_11_code
def yX2_bitsFor : MethodName := ⟨RX2, "bitsFor", "([I)I"⟩
def RX3 : String := "FlatBlocks$Depths"
def TX3 : u_T := fun k => match k with
  | 0 => ("FlatBlocks$Depths", "counts", "[I", true)
  | 1 => ("FlatBlocks$Depths", "sorted", "[I", true)
  | 2 => ("FlatBlocks$Depths", "weight", "[I", true)
  | 3 => ("FlatBlocks$Depths", "above", "[I", true)
  | 4 => ("FlatBlocks$Depths", "depth", "[I", true)
  | _ => ("FlatBlocks$Depths", "single", "I", false)
def tyX3 : Nat → FieldType := fun k => match k with
  | 0 => .array .int
  | 1 => .array .int
  | 2 => .array .int
  | 3 => .array .int
  | 4 => .array .int
  | _ => .int
theorem nmX3 : ∀ a, a < 6 → ∀ b, b < 6 → a ≠ b → (TX3 a).2.1 ≠ (TX3 b).2.1 := by decide +kernel
theorem tyX3_ok : ∀ k, k < 6 → parseFieldDescriptor (TX3 k).2.2.1 = some (tyX3 k) := by decide +kernel
abbrev cX3_init : ByteArray := prog_5_method_1_code
def yX3_init : MethodName := ⟨RX3, "<init>", "()V"⟩
abbrev cX3_measure : ByteArray := prog_5_method_2_code
def yX3_measure : MethodName := ⟨RX3, "measure", "([II[I)V"⟩
abbrev cX3_halve : ByteArray := prog_5_method_3_code
def yX3_halve : MethodName := ⟨RX3, "halve", "(I)V"⟩
abbrev cX3_sort : ByteArray := prog_5_method_4_code
def yX3_sort : MethodName := ⟨RX3, "sort", "(I)V"⟩
abbrev cX3_insert : ByteArray := prog_5_method_5_code
def yX3_insert : MethodName := ⟨RX3, "insert", "(I)V"⟩
abbrev cX3_deepest : ByteArray := prog_5_method_6_code
def yX3_deepest : MethodName := ⟨RX3, "deepest", "()I"⟩
abbrev cX3_join : ByteArray := prog_5_method_7_code
def yX3_join : MethodName := ⟨RX3, "join", "()V"⟩
def RX4 : String := "FlatBlocks$Matcher"
def TX4 : u_T := fun k => match k with
  | 0 => ("FlatBlocks$Matcher", "text", "LFlatBlocks$Row;", true)
  | 1 => ("FlatBlocks$Matcher", "chain", "I", true)
  | 2 => ("FlatBlocks$Matcher", "latest", "[I", true)
  | 3 => ("FlatBlocks$Matcher", "earlier", "[I", true)
  | 4 => ("FlatBlocks$Matcher", "linked", "I", false)
  | 5 => ("FlatBlocks$Matcher", "length", "I", false)
  | _ => ("FlatBlocks$Matcher", "distance", "I", false)
def tyX4 : Nat → FieldType := fun k => match k with
  | 0 => .object "FlatBlocks$Row"
  | 1 => .int
  | 2 => .array .int
  | 3 => .array .int
  | 4 => .int
  | 5 => .int
  | _ => .int
theorem nmX4 : ∀ a, a < 7 → ∀ b, b < 7 → a ≠ b → (TX4 a).2.1 ≠ (TX4 b).2.1 := by decide +kernel
theorem tyX4_ok : ∀ k, k < 7 → parseFieldDescriptor (TX4 k).2.2.1 = some (tyX4 k) := by decide +kernel
abbrev cX4_init : ByteArray := prog_6_method_1_code
def yX4_init : MethodName := ⟨RX4, "<init>", "(LFlatBlocks$Row;I)V"⟩
abbrev cX4_forget : ByteArray := prog_6_method_2_code
def yX4_forget : MethodName := ⟨RX4, "forget", "()V"⟩
abbrev cX4_link : ByteArray := prog_6_method_3_code
def yX4_link : MethodName := ⟨RX4, "link", "()V"⟩
abbrev cX4_slot : ByteArray := prog_6_method_4_code
def yX4_slot : MethodName := ⟨RX4, "slot", "(I)I"⟩
abbrev cX4_find : ByteArray := prog_6_method_5_code
def yX4_find : MethodName := ⟨RX4, "find", "(I)V"⟩
abbrev cX4_alike : ByteArray := prog_6_method_6_code
def yX4_alike : MethodName := ⟨RX4, "alike", "(III)I"⟩
def RX5 : String := "FlatBlocks$Packer"
def TX5 : u_T := fun k => match k with
  | 0 => ("FlatBlocks$Packer", "matches", "I", false)
  | 1 => ("FlatBlocks$Packer", "text", "LFlatBlocks$Row;", true)
  | 2 => ("FlatBlocks$Packer", "made", "LFlatBlocks$Row;", true)
  | 3 => ("FlatBlocks$Packer", "tokens", "LFlatBlocks$Tokens;", true)
  | 4 => ("FlatBlocks$Packer", "depths", "LFlatBlocks$Depths;", true)
  | 5 => ("FlatBlocks$Packer", "symbols", "LFlatBlocks$Codes;", true)
  | 6 => ("FlatBlocks$Packer", "distances", "LFlatBlocks$Codes;", true)
  | 7 => ("FlatBlocks$Packer", "telling", "LFlatBlocks$Telling;", true)
  | _ => ("FlatBlocks$Packer", "out", "LFlatBlocks$BitsOut;", true)
def tyX5 : Nat → FieldType := fun k => match k with
  | 0 => .int
  | 1 => .object "FlatBlocks$Row"
  | 2 => .object "FlatBlocks$Row"
  | 3 => .object "FlatBlocks$Tokens"
  | 4 => .object "FlatBlocks$Depths"
  | 5 => .object "FlatBlocks$Codes"
  | 6 => .object "FlatBlocks$Codes"
  | 7 => .object "FlatBlocks$Telling"
  | _ => .object "FlatBlocks$BitsOut"
theorem nmX5 : ∀ a, a < 9 → ∀ b, b < 9 → a ≠ b → (TX5 a).2.1 ≠ (TX5 b).2.1 := by decide +kernel
theorem tyX5_ok : ∀ k, k < 9 → parseFieldDescriptor (TX5 k).2.2.1 = some (tyX5 k) := by decide +kernel
abbrev cX5_init : ByteArray := prog_7_method_1_code
def yX5_init : MethodName := ⟨RX5, "<init>", "(LFlatBlocks$Row;LFlatBlocks$Row;I)V"⟩
abbrev cX5_forget : ByteArray := prog_7_method_2_code
def yX5_forget : MethodName := ⟨RX5, "forget", "()V"⟩
abbrev cX5_packAll : ByteArray := prog_7_method_3_code
def yX5_packAll : MethodName := ⟨RX5, "packAll", "()Z"⟩
abbrev cX5_plan : ByteArray := prog_7_method_4_code
def yX5_plan : MethodName := ⟨RX5, "plan", "()V"⟩
abbrev cX5_toldBits : ByteArray := prog_7_method_5_code
def yX5_toldBits : MethodName := ⟨RX5, "toldBits", "()I"⟩
abbrev cX5_keptBlocks : ByteArray := prog_7_method_6_code
def yX5_keptBlocks : MethodName := ⟨RX5, "keptBlocks", "()I"⟩
abbrev cX5_writeKept : ByteArray := prog_7_method_7_code
def yX5_writeKept : MethodName := ⟨RX5, "writeKept", "()V"⟩
abbrev cX5_writeTold : ByteArray := prog_7_method_8_code
def yX5_writeTold : MethodName := ⟨RX5, "writeTold", "()V"⟩
abbrev cX5_writeMatch : ByteArray := prog_7_method_9_code
def yX5_writeMatch : MethodName := ⟨RX5, "writeMatch", "(II)V"⟩
def RX6 : String := "FlatBlocks$Row"
def TX6 : u_T := fun k => match k with
  | 0 => ("FlatBlocks$Row", "bytes", "[B", true)
  | _ => ("FlatBlocks$Row", "size", "I", false)
def tyX6 : Nat → FieldType := fun k => match k with
  | 0 => .array .byte
  | _ => .int
theorem nmX6 : ∀ a, a < 2 → ∀ b, b < 2 → a ≠ b → (TX6 a).2.1 ≠ (TX6 b).2.1 := by decide +kernel
theorem tyX6_ok : ∀ k, k < 2 → parseFieldDescriptor (TX6 k).2.2.1 = some (tyX6 k) := by decide +kernel
abbrev cX6_init : ByteArray := prog_8_method_1_code
def yX6_init : MethodName := ⟨RX6, "<init>", "(I)V"⟩
abbrev cX6_room : ByteArray := prog_8_method_2_code
def yX6_room : MethodName := ⟨RX6, "room", "()I"⟩
abbrev cX6_add : ByteArray := prog_8_method_3_code
def yX6_add : MethodName := ⟨RX6, "add", "(I)Z"⟩
abbrev cX6_get : ByteArray := prog_8_method_4_code
def yX6_get : MethodName := ⟨RX6, "get", "(I)I"⟩
abbrev cX6_repeat : ByteArray := prog_8_method_5_code
def yX6_repeat : MethodName := ⟨RX6, "repeat", "(II)Z"⟩
abbrev cX6_become : ByteArray := prog_8_method_6_code
def yX6_become : MethodName := ⟨RX6, "become", "(LFlatBlocks$Row;)V"⟩
abbrev cX6_isLike : ByteArray := prog_8_method_7_code
def yX6_isLike : MethodName := ⟨RX6, "isLike", "(LFlatBlocks$Row;)Z"⟩
abbrev cX6_clear : ByteArray := prog_8_method_8_code
def yX6_clear : MethodName := ⟨RX6, "clear", "()V"⟩
def RX7 : String := "FlatBlocks$Telling"
def TX7 : u_T := fun k => match k with
  | 0 => ("FlatBlocks$Telling", "row", "[I", true)
  | 1 => ("FlatBlocks$Telling", "cells", "[I", true)
  | 2 => ("FlatBlocks$Telling", "counts", "[I", true)
  | 3 => ("FlatBlocks$Telling", "codes", "LFlatBlocks$Codes;", true)
  | 4 => ("FlatBlocks$Telling", "symbolsTold", "I", false)
  | 5 => ("FlatBlocks$Telling", "distancesTold", "I", false)
  | 6 => ("FlatBlocks$Telling", "rowSize", "I", false)
  | 7 => ("FlatBlocks$Telling", "size", "I", false)
  | _ => ("FlatBlocks$Telling", "lengthsTold", "I", false)
def tyX7 : Nat → FieldType := fun k => match k with
  | 0 => .array .int
  | 1 => .array .int
  | 2 => .array .int
  | 3 => .object "FlatBlocks$Codes"
  | 4 => .int
  | 5 => .int
  | 6 => .int
  | 7 => .int
  | _ => .int
theorem nmX7 : ∀ a, a < 9 → ∀ b, b < 9 → a ≠ b → (TX7 a).2.1 ≠ (TX7 b).2.1 := by decide +kernel
theorem tyX7_ok : ∀ k, k < 9 → parseFieldDescriptor (TX7 k).2.2.1 = some (tyX7 k) := by decide +kernel
abbrev cX7_init : ByteArray := prog_9_method_1_code
def yX7_init : MethodName := ⟨RX7, "<init>", "()V"⟩
abbrev cX7_plan : ByteArray := prog_9_method_2_code
def yX7_plan : MethodName := ⟨RX7, "plan", "(LFlatBlocks$Codes;LFlatBlocks$Codes;LFlatBlocks$Depths;)V"⟩
abbrev cX7_gatherCells : ByteArray := prog_9_method_3_code
def yX7_gatherCells : MethodName := ⟨RX7, "gatherCells", "()V"⟩
abbrev cX7_runFrom : ByteArray := prog_9_method_4_code
def yX7_runFrom : MethodName := ⟨RX7, "runFrom", "(I)I"⟩
abbrev cX7_addZeros : ByteArray := prog_9_method_5_code
def yX7_addZeros : MethodName := ⟨RX7, "addZeros", "(I)I"⟩
abbrev cX7_addLengths : ByteArray := prog_9_method_6_code
def yX7_addLengths : MethodName := ⟨RX7, "addLengths", "(II)I"⟩
abbrev cX7_addCell : ByteArray := prog_9_method_7_code
def yX7_addCell : MethodName := ⟨RX7, "addCell", "(II)V"⟩
abbrev cX7_bits : ByteArray := prog_9_method_8_code
def yX7_bits : MethodName := ⟨RX7, "bits", "()I"⟩
abbrev cX7_write : ByteArray := prog_9_method_9_code
def yX7_write : MethodName := ⟨RX7, "write", "(LFlatBlocks$BitsOut;)V"⟩
abbrev cX7_numberBitsOf : ByteArray := prog_9_method_10_code
def yX7_numberBitsOf : MethodName := ⟨RX7, "numberBitsOf", "(I)I"⟩
def RX8 : String := "FlatBlocks$Tokens"
def TX8 : u_T := fun k => match k with
  | 0 => ("FlatBlocks$Tokens", "symbolCounts", "[I", true)
  | 1 => ("FlatBlocks$Tokens", "distanceCounts", "[I", true)
  | 2 => ("FlatBlocks$Tokens", "size", "I", false)
  | 3 => ("FlatBlocks$Tokens", "matches", "I", false)
  | 4 => ("FlatBlocks$Tokens", "numberBits", "I", false)
  | 5 => ("FlatBlocks$Tokens", "text", "LFlatBlocks$Row;", true)
  | 6 => ("FlatBlocks$Tokens", "matcher", "LFlatBlocks$Matcher;", true)
  | _ => ("FlatBlocks$Tokens", "tokens", "[I", true)
def tyX8 : Nat → FieldType := fun k => match k with
  | 0 => .array .int
  | 1 => .array .int
  | 2 => .int
  | 3 => .int
  | 4 => .int
  | 5 => .object "FlatBlocks$Row"
  | 6 => .object "FlatBlocks$Matcher"
  | _ => .array .int
theorem nmX8 : ∀ a, a < 8 → ∀ b, b < 8 → a ≠ b → (TX8 a).2.1 ≠ (TX8 b).2.1 := by decide +kernel
theorem tyX8_ok : ∀ k, k < 8 → parseFieldDescriptor (TX8 k).2.2.1 = some (tyX8 k) := by decide +kernel
abbrev cX8_init : ByteArray := prog_10_method_1_code
def yX8_init : MethodName := ⟨RX8, "<init>", "(LFlatBlocks$Row;I)V"⟩
abbrev cX8_forget : ByteArray := prog_10_method_2_code
def yX8_forget : MethodName := ⟨RX8, "forget", "()V"⟩
abbrev cX8_lengthOf : ByteArray := prog_10_method_3_code
def yX8_lengthOf : MethodName := ⟨RX8, "lengthOf", "(I)I"⟩
abbrev cX8_lowPartOf : ByteArray := prog_10_method_4_code
def yX8_lowPartOf : MethodName := ⟨RX8, "lowPartOf", "(I)I"⟩
abbrev cX8_gather : ByteArray := prog_10_method_5_code
def yX8_gather : MethodName := ⟨RX8, "gather", "()V"⟩
abbrev cX8_addByte : ByteArray := prog_10_method_6_code
def yX8_addByte : MethodName := ⟨RX8, "addByte", "(I)V"⟩
abbrev cX8_addMatch : ByteArray := prog_10_method_7_code
def yX8_addMatch : MethodName := ⟨RX8, "addMatch", "(II)V"⟩
def RX9 : String := "FlatBlocks$Unpacker"
def TX9 : u_T := fun k => match k with
  | 0 => ("FlatBlocks$Unpacker", "in", "LFlatBlocks$BitsIn;", true)
  | 1 => ("FlatBlocks$Unpacker", "unpacked", "LFlatBlocks$Row;", true)
  | 2 => ("FlatBlocks$Unpacker", "symbols", "LFlatBlocks$Codes;", true)
  | 3 => ("FlatBlocks$Unpacker", "distances", "LFlatBlocks$Codes;", true)
  | 4 => ("FlatBlocks$Unpacker", "telling", "LFlatBlocks$Codes;", true)
  | _ => ("FlatBlocks$Unpacker", "row", "[I", true)
def tyX9 : Nat → FieldType := fun k => match k with
  | 0 => .object "FlatBlocks$BitsIn"
  | 1 => .object "FlatBlocks$Row"
  | 2 => .object "FlatBlocks$Codes"
  | 3 => .object "FlatBlocks$Codes"
  | 4 => .object "FlatBlocks$Codes"
  | _ => .array .int
theorem nmX9 : ∀ a, a < 6 → ∀ b, b < 6 → a ≠ b → (TX9 a).2.1 ≠ (TX9 b).2.1 := by decide +kernel
theorem tyX9_ok : ∀ k, k < 6 → parseFieldDescriptor (TX9 k).2.2.1 = some (tyX9 k) := by decide +kernel
abbrev cX9_init : ByteArray := prog_11_method_1_code
def yX9_init : MethodName := ⟨RX9, "<init>", "(LFlatBlocks$Row;LFlatBlocks$Row;)V"⟩
abbrev cX9_bitsTaken : ByteArray := prog_11_method_2_code
def yX9_bitsTaken : MethodName := ⟨RX9, "bitsTaken", "()I"⟩
abbrev cX9_readBlocks : ByteArray := prog_11_method_3_code
def yX9_readBlocks : MethodName := ⟨RX9, "readBlocks", "()I"⟩
abbrev cX9_readBlock : ByteArray := prog_11_method_4_code
def yX9_readBlock : MethodName := ⟨RX9, "readBlock", "(I)I"⟩
abbrev cX9_readKept : ByteArray := prog_11_method_5_code
def yX9_readKept : MethodName := ⟨RX9, "readKept", "()I"⟩
abbrev cX9_fixCodes : ByteArray := prog_11_method_6_code
def yX9_fixCodes : MethodName := ⟨RX9, "fixCodes", "()V"⟩
abbrev cX9_readTold : ByteArray := prog_11_method_7_code
def yX9_readTold : MethodName := ⟨RX9, "readTold", "()I"⟩
abbrev cX9_areUsable : ByteArray := prog_11_method_8_code
def yX9_areUsable : MethodName := ⟨RX9, "areUsable", "()Z"⟩
abbrev cX9_readTelling : ByteArray := prog_11_method_9_code
def yX9_readTelling : MethodName := ⟨RX9, "readTelling", "(I)I"⟩
abbrev cX9_readLengths : ByteArray := prog_11_method_10_code
def yX9_readLengths : MethodName := ⟨RX9, "readLengths", "(I)I"⟩
abbrev cX9_timesOf : ByteArray := prog_11_method_11_code
def yX9_timesOf : MethodName := ⟨RX9, "timesOf", "(II)I"⟩
abbrev cX9_readSymbols : ByteArray := prog_11_method_12_code
def yX9_readSymbols : MethodName := ⟨RX9, "readSymbols", "()I"⟩
abbrev cX9_addByte : ByteArray := prog_11_method_13_code
def yX9_addByte : MethodName := ⟨RX9, "addByte", "(I)I"⟩
abbrev cX9_readMatch : ByteArray := prog_11_method_14_code
def yX9_readMatch : MethodName := ⟨RX9, "readMatch", "(I)I"⟩
def RX10 : String := "FlatBlocks"
def TX10 : u_T := fun k => match k with
  | 0 => ("FlatBlocks", "text", "LFlatBlocks$Row;", true)
  | 1 => ("FlatBlocks", "made", "LFlatBlocks$Row;", true)
  | 2 => ("FlatBlocks", "loaded", "LFlatBlocks$Row;", true)
  | 3 => ("FlatBlocks", "unpacked", "LFlatBlocks$Row;", true)
  | 4 => ("FlatBlocks", "packer", "LFlatBlocks$Packer;", true)
  | _ => ("FlatBlocks", "unpacker", "LFlatBlocks$Unpacker;", true)
def tyX10 : Nat → FieldType := fun k => match k with
  | 0 => .object "FlatBlocks$Row"
  | 1 => .object "FlatBlocks$Row"
  | 2 => .object "FlatBlocks$Row"
  | 3 => .object "FlatBlocks$Row"
  | 4 => .object "FlatBlocks$Packer"
  | _ => .object "FlatBlocks$Unpacker"
theorem nmX10 : ∀ a, a < 6 → ∀ b, b < 6 → a ≠ b → (TX10 a).2.1 ≠ (TX10 b).2.1 := by decide +kernel
theorem tyX10_ok : ∀ k, k < 6 → parseFieldDescriptor (TX10 k).2.2.1 = some (tyX10 k) := by decide +kernel
abbrev cX10_init : ByteArray := prog_1_method_1_code
def yX10_init : MethodName := ⟨RX10, "<init>", "(III)V"⟩
abbrev cX10_feed : ByteArray := prog_1_method_2_code
def yX10_feed : MethodName := ⟨RX10, "feed", "(I)Z"⟩
abbrev cX10_again : ByteArray := prog_1_method_3_code
def yX10_again : MethodName := ⟨RX10, "again", "(II)I"⟩
abbrev cX10_pack : ByteArray := prog_1_method_4_code
def yX10_pack : MethodName := ⟨RX10, "pack", "()I"⟩
abbrev cX10_packed : ByteArray := prog_1_method_5_code
def yX10_packed : MethodName := ⟨RX10, "packed", "(I)I"⟩
abbrev cX10_load : ByteArray := prog_1_method_6_code
def yX10_load : MethodName := ⟨RX10, "load", "(I)Z"⟩
abbrev cX10_take : ByteArray := prog_1_method_7_code
def yX10_take : MethodName := ⟨RX10, "take", "()I"⟩
abbrev cX10_unpack : ByteArray := prog_1_method_8_code
def yX10_unpack : MethodName := ⟨RX10, "unpack", "()I"⟩
abbrev cX10_out : ByteArray := prog_1_method_9_code
def yX10_out : MethodName := ⟨RX10, "out", "(I)I"⟩
abbrev cX10_bit : ByteArray := prog_1_method_10_code
def yX10_bit : MethodName := ⟨RX10, "bit", "()I"⟩
abbrev cX10_same : ByteArray := prog_1_method_11_code
def yX10_same : MethodName := ⟨RX10, "same", "()Z"⟩
abbrev cX10_reset : ByteArray := prog_1_method_12_code
def yX10_reset : MethodName := ⟨RX10, "reset", "()V"⟩
abbrev cX10_count : ByteArray := prog_1_method_13_code
def yX10_count : MethodName := ⟨RX10, "count", "(I)I"⟩
abbrev cX10_within : ByteArray := prog_1_method_14_code
def yX10_within : MethodName := ⟨RX10, "within", "(III)I"⟩
abbrev cX10_isByte : ByteArray := prog_1_method_15_code
def yX10_isByte : MethodName := ⟨RX10, "isByte", "(I)Z"⟩
abbrev cX10_lengthBits : ByteArray := prog_1_method_16_code
def yX10_lengthBits : MethodName := ⟨RX10, "lengthBits", "(I)I"⟩
abbrev cX10_leastLength : ByteArray := prog_1_method_17_code
def yX10_leastLength : MethodName := ⟨RX10, "leastLength", "(I)I"⟩
abbrev cX10_lengthSymbol : ByteArray := prog_1_method_18_code
def yX10_lengthSymbol : MethodName := ⟨RX10, "lengthSymbol", "(I)I"⟩
abbrev cX10_distanceBits : ByteArray := prog_1_method_19_code
def yX10_distanceBits : MethodName := ⟨RX10, "distanceBits", "(I)I"⟩
abbrev cX10_leastDistance : ByteArray := prog_1_method_20_code
def yX10_leastDistance : MethodName := ⟨RX10, "leastDistance", "(I)I"⟩
abbrev cX10_distanceSymbol : ByteArray := prog_1_method_21_code
def yX10_distanceSymbol : MethodName := ⟨RX10, "distanceSymbol", "(I)I"⟩
abbrev cX10_bitsToCut : ByteArray := prog_1_method_22_code
def yX10_bitsToCut : MethodName := ⟨RX10, "bitsToCut", "(II)I"⟩
def RX11 : String := "FlatBlocksModel"
def TX11 : u_T := fun k => match k with
  | 0 => ("FlatBlocksModel", "textRoom", "I", true)
  | 1 => ("FlatBlocksModel", "byteRoom", "I", true)
  | 2 => ("FlatBlocksModel", "chain", "I", true)
  | 3 => ("FlatBlocksModel", "text", "[I", true)
  | 4 => ("FlatBlocksModel", "textSize", "I", false)
  | 5 => ("FlatBlocksModel", "packed", "[I", true)
  | 6 => ("FlatBlocksModel", "packedSize", "I", false)
  | 7 => ("FlatBlocksModel", "matches", "I", false)
  | 8 => ("FlatBlocksModel", "loaded", "[I", true)
  | 9 => ("FlatBlocksModel", "loadedSize", "I", false)
  | 10 => ("FlatBlocksModel", "out", "[I", true)
  | 11 => ("FlatBlocksModel", "outSize", "I", false)
  | 12 => ("FlatBlocksModel", "bits", "I", false)
  | 13 => ("FlatBlocksModel", "tokens", "I", false)
  | 14 => ("FlatBlocksModel", "lengths", "[I", true)
  | 15 => ("FlatBlocksModel", "distances", "[I", true)
  | 16 => ("FlatBlocksModel", "heads", "[I", true)
  | 17 => ("FlatBlocksModel", "earlier", "[I", true)
  | 18 => ("FlatBlocksModel", "often", "[I", true)
  | 19 => ("FlatBlocksModel", "symbolLengths", "[I", true)
  | 20 => ("FlatBlocksModel", "distanceLengths", "[I", true)
  | 21 => ("FlatBlocksModel", "lengthLengths", "[I", true)
  | 22 => ("FlatBlocksModel", "symbolCodes", "[I", true)
  | 23 => ("FlatBlocksModel", "distanceCodes", "[I", true)
  | 24 => ("FlatBlocksModel", "lengthCodes", "[I", true)
  | 25 => ("FlatBlocksModel", "counts", "[I", true)
  | 26 => ("FlatBlocksModel", "parents", "[I", true)
  | 27 => ("FlatBlocksModel", "alone", "[Z", true)
  | 28 => ("FlatBlocksModel", "row", "[I", true)
  | 29 => ("FlatBlocksModel", "told", "I", false)
  | 30 => ("FlatBlocksModel", "toldSymbols", "[I", true)
  | 31 => ("FlatBlocksModel", "toldNumbers", "[I", true)
  | 32 => ("FlatBlocksModel", "place", "I", false)
  | 33 => ("FlatBlocksModel", "fail", "I", false)
  | 34 => ("FlatBlocksModel", "found", "I", false)
  | 35 => ("FlatBlocksModel", "symbolCount", "I", false)
  | 36 => ("FlatBlocksModel", "distanceCount", "I", false)
  | _ => ("FlatBlocksModel", "lengthCount", "I", false)
def tyX11 : Nat → FieldType := fun k => match k with
  | 0 => .int
  | 1 => .int
  | 2 => .int
  | 3 => .array .int
  | 4 => .int
  | 5 => .array .int
  | 6 => .int
  | 7 => .int
  | 8 => .array .int
  | 9 => .int
  | 10 => .array .int
  | 11 => .int
  | 12 => .int
  | 13 => .int
  | 14 => .array .int
  | 15 => .array .int
  | 16 => .array .int
  | 17 => .array .int
  | 18 => .array .int
  | 19 => .array .int
  | 20 => .array .int
  | 21 => .array .int
  | 22 => .array .int
  | 23 => .array .int
  | 24 => .array .int
  | 25 => .array .int
  | 26 => .array .int
  | 27 => .array .boolean
  | 28 => .array .int
  | 29 => .int
  | 30 => .array .int
  | 31 => .array .int
  | 32 => .int
  | 33 => .int
  | 34 => .int
  | 35 => .int
  | 36 => .int
  | _ => .int
theorem nmX11 : ∀ a, a < 38 → ∀ b, b < 38 → a ≠ b → (TX11 a).2.1 ≠ (TX11 b).2.1 := by decide +kernel
theorem tyX11_ok : ∀ k, k < 38 → parseFieldDescriptor (TX11 k).2.2.1 = some (tyX11 k) := by decide +kernel
abbrev cX11_init : ByteArray := prog_13_method_1_code
def yX11_init : MethodName := ⟨RX11, "<init>", "(III)V"⟩
abbrev cX11_within : ByteArray := prog_13_method_3_code
def yX11_within : MethodName := ⟨RX11, "within", "(III)I"⟩
abbrev cX11_min : ByteArray := prog_13_method_4_code
def yX11_min : MethodName := ⟨RX11, "min", "(II)I"⟩
abbrev cX11_feed : ByteArray := prog_13_method_5_code
def yX11_feed : MethodName := ⟨RX11, "feed", "(I)Z"⟩
abbrev cX11_again : ByteArray := prog_13_method_6_code
def yX11_again : MethodName := ⟨RX11, "again", "(II)I"⟩
abbrev cX11_packed : ByteArray := prog_13_method_7_code
def yX11_packed : MethodName := ⟨RX11, "packed", "(I)I"⟩
abbrev cX11_load : ByteArray := prog_13_method_8_code
def yX11_load : MethodName := ⟨RX11, "load", "(I)Z"⟩
abbrev cX11_take : ByteArray := prog_13_method_9_code
def yX11_take : MethodName := ⟨RX11, "take", "()I"⟩
abbrev cX11_out : ByteArray := prog_13_method_10_code
def yX11_out : MethodName := ⟨RX11, "out", "(I)I"⟩
abbrev cX11_bit : ByteArray := prog_13_method_11_code
def yX11_bit : MethodName := ⟨RX11, "bit", "()I"⟩
abbrev cX11_same : ByteArray := prog_13_method_12_code
def yX11_same : MethodName := ⟨RX11, "same", "()Z"⟩
abbrev cX11_reset : ByteArray := prog_13_method_13_code
def yX11_reset : MethodName := ⟨RX11, "reset", "()V"⟩
abbrev cX11_count : ByteArray := prog_13_method_14_code
def yX11_count : MethodName := ⟨RX11, "count", "(I)I"⟩
abbrev cX11_mixed : ByteArray := prog_13_method_15_code
def yX11_mixed : MethodName := ⟨RX11, "mixed", "(I)I"⟩
abbrev cX11_isLike : ByteArray := prog_13_method_16_code
def yX11_isLike : MethodName := ⟨RX11, "isLike", "(II)Z"⟩
abbrev cX11_matchOf : ByteArray := prog_13_method_17_code
def yX11_matchOf : MethodName := ⟨RX11, "matchOf", "(II)I"⟩
abbrev cX11_note : ByteArray := prog_13_method_18_code
def yX11_note : MethodName := ⟨RX11, "note", "(I)V"⟩
abbrev cX11_longest : ByteArray := prog_13_method_19_code
def yX11_longest : MethodName := ⟨RX11, "longest", "(I)I"⟩
abbrev cX11_findTokens : ByteArray := prog_13_method_20_code
def yX11_findTokens : MethodName := ⟨RX11, "findTokens", "()V"⟩
abbrev cX11_lengthBits : ByteArray := prog_13_method_21_code
def yX11_lengthBits : MethodName := ⟨RX11, "lengthBits", "(I)I"⟩
abbrev cX11_lengthFrom : ByteArray := prog_13_method_22_code
def yX11_lengthFrom : MethodName := ⟨RX11, "lengthFrom", "(I)I"⟩
abbrev cX11_distanceBits : ByteArray := prog_13_method_23_code
def yX11_distanceBits : MethodName := ⟨RX11, "distanceBits", "(I)I"⟩
abbrev cX11_distanceFrom : ByteArray := prog_13_method_24_code
def yX11_distanceFrom : MethodName := ⟨RX11, "distanceFrom", "(I)I"⟩
abbrev cX11_lengthSymbol : ByteArray := prog_13_method_25_code
def yX11_lengthSymbol : MethodName := ⟨RX11, "lengthSymbol", "(I)I"⟩
abbrev cX11_distanceSymbol : ByteArray := prog_13_method_26_code
def yX11_distanceSymbol : MethodName := ⟨RX11, "distanceSymbol", "(I)I"⟩
abbrev cX11_rarest : ByteArray := prog_13_method_27_code
def yX11_rarest : MethodName := ⟨RX11, "rarest", "(I)I"⟩
abbrev cX11_tree : ByteArray := prog_13_method_28_code
def yX11_tree : MethodName := ⟨RX11, "tree", "(I[I)I"⟩
abbrev cX11_findLengths : ByteArray := prog_13_method_29_code
def yX11_findLengths : MethodName := ⟨RX11, "findLengths", "(II[I)V"⟩
abbrev cX11_findCodes : ByteArray := prog_13_method_30_code
def yX11_findCodes : MethodName := ⟨RX11, "findCodes", "(I[I[I)V"⟩
abbrev cX11_clearOften : ByteArray := prog_13_method_31_code
def yX11_clearOften : MethodName := ⟨RX11, "clearOften", "()V"⟩
abbrev cX11_lastOf : ByteArray := prog_13_method_32_code
def yX11_lastOf : MethodName := ⟨RX11, "lastOf", "([II)I"⟩
abbrev cX11_orderOf : ByteArray := prog_13_method_33_code
def yX11_orderOf : MethodName := ⟨RX11, "orderOf", "(I)I"⟩
abbrev cX11_tellOne : ByteArray := prog_13_method_34_code
def yX11_tellOne : MethodName := ⟨RX11, "tellOne", "(II)V"⟩
abbrev cX11_tellRow : ByteArray := prog_13_method_35_code
def yX11_tellRow : MethodName := ⟨RX11, "tellRow", "(I)V"⟩
abbrev cX11_numberBits : ByteArray := prog_13_method_36_code
def yX11_numberBits : MethodName := ⟨RX11, "numberBits", "(I)I"⟩
abbrev cX11_put : ByteArray := prog_13_method_37_code
def yX11_put : MethodName := ⟨RX11, "put", "(II)V"⟩
abbrev cX11_putCode : ByteArray := prog_13_method_38_code
def yX11_putCode : MethodName := ⟨RX11, "putCode", "(II)V"⟩
abbrev cX11_prepare : ByteArray := prog_13_method_39_code
def yX11_prepare : MethodName := ⟨RX11, "prepare", "()I"⟩
abbrev cX11_bitsOf : ByteArray := prog_13_method_40_code
def yX11_bitsOf : MethodName := ⟨RX11, "bitsOf", "(I)I"⟩
abbrev cX11_writeToken : ByteArray := prog_13_method_41_code
def yX11_writeToken : MethodName := ⟨RX11, "writeToken", "(I)V"⟩
abbrev cX11_writeCodes : ByteArray := prog_13_method_42_code
def yX11_writeCodes : MethodName := ⟨RX11, "writeCodes", "()V"⟩
abbrev cX11_writeKept : ByteArray := prog_13_method_43_code
def yX11_writeKept : MethodName := ⟨RX11, "writeKept", "()V"⟩
abbrev cX11_pack : ByteArray := prog_13_method_44_code
def yX11_pack : MethodName := ⟨RX11, "pack", "()I"⟩
abbrev cX11_take_ : ByteArray := prog_13_method_45_code
def yX11_take_ : MethodName := ⟨RX11, "take", "(I)I"⟩
abbrev cX11_cannot : ByteArray := prog_13_method_46_code
def yX11_cannot : MethodName := ⟨RX11, "cannot", "(ZI)V"⟩
abbrev cX11_howMany : ByteArray := prog_13_method_47_code
def yX11_howMany : MethodName := ⟨RX11, "howMany", "(I[II)I"⟩
abbrev cX11_isComplete : ByteArray := prog_13_method_48_code
def yX11_isComplete : MethodName := ⟨RX11, "isComplete", "(I[I)Z"⟩
abbrev cX11_isOne : ByteArray := prog_13_method_49_code
def yX11_isOne : MethodName := ⟨RX11, "isOne", "(I[I)Z"⟩
abbrev cX11_symbol : ByteArray := prog_13_method_50_code
def yX11_symbol : MethodName := ⟨RX11, "symbol", "(I[I[I)I"⟩
abbrev cX11_putOut : ByteArray := prog_13_method_51_code
def yX11_putOut : MethodName := ⟨RX11, "putOut", "(I)V"⟩
abbrev cX11_kept : ByteArray := prog_13_method_52_code
def yX11_kept : MethodName := ⟨RX11, "kept", "()V"⟩
abbrev cX11_fixedCodes : ByteArray := prog_13_method_53_code
def yX11_fixedCodes : MethodName := ⟨RX11, "fixedCodes", "()V"⟩
abbrev cX11_toldCodes : ByteArray := prog_13_method_54_code
def yX11_toldCodes : MethodName := ⟨RX11, "toldCodes", "()V"⟩
abbrev cX11_copy : ByteArray := prog_13_method_55_code
def yX11_copy : MethodName := ⟨RX11, "copy", "(I)V"⟩
abbrev cX11_codedBlock : ByteArray := prog_13_method_56_code
def yX11_codedBlock : MethodName := ⟨RX11, "codedBlock", "()V"⟩
abbrev cX11_unpack : ByteArray := prog_13_method_57_code
def yX11_unpack : MethodName := ⟨RX11, "unpack", "()I"⟩
def RJ9 : String := "java/lang/Math"
def TJ9 : u_T := fun k => match k with
  | _ => ("", "", "", false)
def tyJ9 : Nat → FieldType := fun k => match k with
  | _ => .int
theorem nmJ9 : ∀ a, a < 0 → ∀ b, b < 0 → a ≠ b → (TJ9 a).2.1 ≠ (TJ9 b).2.1 := by decide +kernel
theorem tyJ9_ok : ∀ k, k < 0 → parseFieldDescriptor (TJ9 k).2.2.1 = some (tyJ9 k) := by decide +kernel
abbrev cJ9_max_7cf53 : ByteArray := prog_14_method_65_code
def yJ9_max_7cf53 : MethodName := ⟨RJ9, "max", "(II)I"⟩
abbrev cJ9_min_7cf53 : ByteArray := prog_14_method_69_code
def yJ9_min_7cf53 : MethodName := ⟨RJ9, "min", "(II)I"⟩
def RJ10 : String := "java/lang/System"
def TJ10 : u_T := fun k => match k with
  | _ => ("", "", "", false)
def tyJ10 : Nat → FieldType := fun k => match k with
  | _ => .int
theorem nmJ10 : ∀ a, a < 0 → ∀ b, b < 0 → a ≠ b → (TJ10 a).2.1 ≠ (TJ10 b).2.1 := by decide +kernel
theorem tyJ10_ok : ∀ k, k < 0 → parseFieldDescriptor (TJ10 k).2.2.1 = some (tyJ10 k) := by decide +kernel
def RJ7 : String := "java/util/Arrays"
def TJ7 : u_T := fun k => match k with
  | _ => ("", "", "", false)
def tyJ7 : Nat → FieldType := fun k => match k with
  | _ => .int
theorem nmJ7 : ∀ a, a < 0 → ∀ b, b < 0 → a ≠ b → (TJ7 a).2.1 ≠ (TJ7 b).2.1 := by decide +kernel
theorem tyJ7_ok : ∀ k, k < 0 → parseFieldDescriptor (TJ7 k).2.2.1 = some (tyJ7 k) := by decide +kernel
abbrev cJ7_rangeCheck_23922 : ByteArray := prog_16_method_30_code
def yJ7_rangeCheck_23922 : MethodName := ⟨RJ7, "rangeCheck", "(III)V"⟩
abbrev cJ7_fill_53178 : ByteArray := prog_16_method_103_code
def yJ7_fill_53178 : MethodName := ⟨RJ7, "fill", "([II)V"⟩
abbrev cJ7_fill_fda19 : ByteArray := prog_16_method_104_code
def yJ7_fill_fda19 : MethodName := ⟨RJ7, "fill", "([IIII)V"⟩
def RL : String := "FlatBlocksLaw"
abbrev cL_cell : ByteArray := method_2_code
def yL_cell : MethodName := ⟨RL, "cell", "([II)I"⟩
abbrev cL_law : ByteArray := code
def yL_law : MethodName := ⟨RL, "law", "([I)Z"⟩

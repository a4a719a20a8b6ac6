section
/-- a private method of a class that the tables say can be made, by its rows of tables_1 -/
def lw_okq (q : MethodName × Nat) : Prop := (q.1.cls ≠ "java/lang/invoke/MethodHandle" ∧ q.1.cls ≠ "java/lang/invoke/VarHandle") ∧ Cond.instantiable q.1.cls q.2 ∈ tables_1 ∧ Cond.privateMethod q.1 ∈ tables_1 ∧ Cond.instanceMethod q.1 ∈ tables_1
theorem lw_p0 : lw_okq (⟨"NineInMind$Reader", "nextToken", "()V"⟩, 10) := ⟨⟨by decide +kernel, by decide +kernel⟩, List.mem_of_getElem? (i := 31) (by decide +kernel), List.mem_of_getElem? (i := 464) (by decide +kernel), List.mem_of_getElem? (i := 465) (by decide +kernel)⟩
theorem lw_p1 : lw_okq (⟨"NineInMind$Reader", "takeDigits", "()V"⟩, 10) := ⟨⟨by decide +kernel, by decide +kernel⟩, List.mem_of_getElem? (i := 31) (by decide +kernel), List.mem_of_getElem? (i := 474) (by decide +kernel), List.mem_of_getElem? (i := 475) (by decide +kernel)⟩
theorem lw_p2 : lw_okq (⟨"NineInMind$Reader", "readLine", "()Z"⟩, 10) := ⟨⟨by decide +kernel, by decide +kernel⟩, List.mem_of_getElem? (i := 31) (by decide +kernel), List.mem_of_getElem? (i := 478) (by decide +kernel), List.mem_of_getElem? (i := 479) (by decide +kernel)⟩
theorem lw_p3 : lw_okq (⟨"NineInMind$Reader", "fail", "(I)Z"⟩, 10) := ⟨⟨by decide +kernel, by decide +kernel⟩, List.mem_of_getElem? (i := 31) (by decide +kernel), List.mem_of_getElem? (i := 482) (by decide +kernel), List.mem_of_getElem? (i := 483) (by decide +kernel)⟩
theorem lw_p4 : lw_okq (⟨"NineInMind$Reader", "lineHere", "()I"⟩, 10) := ⟨⟨by decide +kernel, by decide +kernel⟩, List.mem_of_getElem? (i := 31) (by decide +kernel), List.mem_of_getElem? (i := 486) (by decide +kernel), List.mem_of_getElem? (i := 487) (by decide +kernel)⟩
theorem lw_p5 : lw_okq (⟨"NineInMind$Reader", "isWord", "(Ljava/lang/String;)Z"⟩, 10) := ⟨⟨by decide +kernel, by decide +kernel⟩, List.mem_of_getElem? (i := 31) (by decide +kernel), List.mem_of_getElem? (i := 491) (by decide +kernel), List.mem_of_getElem? (i := 492) (by decide +kernel)⟩
theorem lw_p6 : lw_okq (⟨"NineInMind$Reader", "readThings", "()Z"⟩, 10) := ⟨⟨by decide +kernel, by decide +kernel⟩, List.mem_of_getElem? (i := 31) (by decide +kernel), List.mem_of_getElem? (i := 548) (by decide +kernel), List.mem_of_getElem? (i := 549) (by decide +kernel)⟩
theorem lw_p7 : lw_okq (⟨"NineInMind$Reader", "readNumber", "(III)Z"⟩, 10) := ⟨⟨by decide +kernel, by decide +kernel⟩, List.mem_of_getElem? (i := 31) (by decide +kernel), List.mem_of_getElem? (i := 552) (by decide +kernel), List.mem_of_getElem? (i := 553) (by decide +kernel)⟩
theorem lw_p8 : lw_okq (⟨"NineInMind$Reader", "numberStands", "(III)Z"⟩, 10) := ⟨⟨by decide +kernel, by decide +kernel⟩, List.mem_of_getElem? (i := 31) (by decide +kernel), List.mem_of_getElem? (i := 556) (by decide +kernel), List.mem_of_getElem? (i := 557) (by decide +kernel)⟩
theorem lw_p9 : lw_okq (⟨"NineInMind$Reader", "readSign", "()Z"⟩, 10) := ⟨⟨by decide +kernel, by decide +kernel⟩, List.mem_of_getElem? (i := 31) (by decide +kernel), List.mem_of_getElem? (i := 560) (by decide +kernel), List.mem_of_getElem? (i := 561) (by decide +kernel)⟩
theorem lw_p10 : lw_okq (⟨"NineInMind$Reader", "readMind", "()Z"⟩, 10) := ⟨⟨by decide +kernel, by decide +kernel⟩, List.mem_of_getElem? (i := 31) (by decide +kernel), List.mem_of_getElem? (i := 564) (by decide +kernel), List.mem_of_getElem? (i := 565) (by decide +kernel)⟩
theorem lw_p11 : lw_okq (⟨"NineInMind$Reader", "readPair", "(Z)Z"⟩, 10) := ⟨⟨by decide +kernel, by decide +kernel⟩, List.mem_of_getElem? (i := 31) (by decide +kernel), List.mem_of_getElem? (i := 568) (by decide +kernel), List.mem_of_getElem? (i := 569) (by decide +kernel)⟩
theorem lw_p12 : lw_okq (⟨"NineInMind$Reader", "readWorth", "()Z"⟩, 10) := ⟨⟨by decide +kernel, by decide +kernel⟩, List.mem_of_getElem? (i := 31) (by decide +kernel), List.mem_of_getElem? (i := 572) (by decide +kernel), List.mem_of_getElem? (i := 573) (by decide +kernel)⟩
theorem lw_p13 : lw_okq (⟨"NineInMind$Reader", "readInn", "()Z"⟩, 10) := ⟨⟨by decide +kernel, by decide +kernel⟩, List.mem_of_getElem? (i := 31) (by decide +kernel), List.mem_of_getElem? (i := 576) (by decide +kernel), List.mem_of_getElem? (i := 577) (by decide +kernel)⟩
theorem lw_p14 : lw_okq (⟨"NineInMind$Courier", "bringForward", "(I)V"⟩, 7) := ⟨⟨by decide +kernel, by decide +kernel⟩, List.mem_of_getElem? (i := 147) (by decide +kernel), List.mem_of_getElem? (i := 674) (by decide +kernel), List.mem_of_getElem? (i := 675) (by decide +kernel)⟩
theorem lw_p15 : lw_okq (⟨"NineInMind$Courier", "loseLast", "()I"⟩, 7) := ⟨⟨by decide +kernel, by decide +kernel⟩, List.mem_of_getElem? (i := 147) (by decide +kernel), List.mem_of_getElem? (i := 679) (by decide +kernel), List.mem_of_getElem? (i := 680) (by decide +kernel)⟩
def lw_privs_1 : List (MethodName × Nat) := [(⟨"NineInMind$Reader", "nextToken", "()V"⟩, 10), (⟨"NineInMind$Reader", "takeDigits", "()V"⟩, 10), (⟨"NineInMind$Reader", "readLine", "()Z"⟩, 10), (⟨"NineInMind$Reader", "fail", "(I)Z"⟩, 10), (⟨"NineInMind$Reader", "lineHere", "()I"⟩, 10), (⟨"NineInMind$Reader", "isWord", "(Ljava/lang/String;)Z"⟩, 10), (⟨"NineInMind$Reader", "readThings", "()Z"⟩, 10), (⟨"NineInMind$Reader", "readNumber", "(III)Z"⟩, 10), (⟨"NineInMind$Reader", "numberStands", "(III)Z"⟩, 10), (⟨"NineInMind$Reader", "readSign", "()Z"⟩, 10), (⟨"NineInMind$Reader", "readMind", "()Z"⟩, 10), (⟨"NineInMind$Reader", "readPair", "(Z)Z"⟩, 10), (⟨"NineInMind$Reader", "readWorth", "()Z"⟩, 10), (⟨"NineInMind$Reader", "readInn", "()Z"⟩, 10), (⟨"NineInMind$Courier", "bringForward", "(I)V"⟩, 7), (⟨"NineInMind$Courier", "loseLast", "()I"⟩, 7)]
theorem lw_r1 : ∀ q ∈ lw_privs_1, lw_okq q := List.forall_mem_cons.mpr ⟨lw_p0, List.forall_mem_cons.mpr ⟨lw_p1, List.forall_mem_cons.mpr ⟨lw_p2, List.forall_mem_cons.mpr ⟨lw_p3, List.forall_mem_cons.mpr ⟨lw_p4, List.forall_mem_cons.mpr ⟨lw_p5, List.forall_mem_cons.mpr ⟨lw_p6, List.forall_mem_cons.mpr ⟨lw_p7, List.forall_mem_cons.mpr ⟨lw_p8, List.forall_mem_cons.mpr ⟨lw_p9, List.forall_mem_cons.mpr ⟨lw_p10, List.forall_mem_cons.mpr ⟨lw_p11, List.forall_mem_cons.mpr ⟨lw_p12, List.forall_mem_cons.mpr ⟨lw_p13, List.forall_mem_cons.mpr ⟨lw_p14, List.forall_mem_cons.mpr ⟨lw_p15, fun _ h => absurd h List.not_mem_nil⟩⟩⟩⟩⟩⟩⟩⟩⟩⟩⟩⟩⟩⟩⟩⟩
theorem lw_p16 : lw_okq (⟨"NineInMind", "refusalOfRow", "(I)I"⟩, 12) := ⟨⟨by decide +kernel, by decide +kernel⟩, List.mem_of_getElem? (i := 23) (by decide +kernel), List.mem_of_getElem? (i := 718) (by decide +kernel), List.mem_of_getElem? (i := 719) (by decide +kernel)⟩
theorem lw_p17 : lw_okq (⟨"NineInMind$Company", "actOnce", "(LNineInMind$Lore;IJ)Z"⟩, 4) := ⟨⟨by decide +kernel, by decide +kernel⟩, List.mem_of_getElem? (i := 140) (by decide +kernel), List.mem_of_getElem? (i := 794) (by decide +kernel), List.mem_of_getElem? (i := 795) (by decide +kernel)⟩
theorem lw_p18 : lw_okq (⟨"NineInMind$Company", "lostByAll", "()I"⟩, 4) := ⟨⟨by decide +kernel, by decide +kernel⟩, List.mem_of_getElem? (i := 140) (by decide +kernel), List.mem_of_getElem? (i := 833) (by decide +kernel), List.mem_of_getElem? (i := 834) (by decide +kernel)⟩
theorem lw_p19 : lw_okq (⟨"NineInMind$Company", "spendOnce", "(LNineInMind$Lore;LNineInMind$Courier;)V"⟩, 4) := ⟨⟨by decide +kernel, by decide +kernel⟩, List.mem_of_getElem? (i := 140) (by decide +kernel), List.mem_of_getElem? (i := 837) (by decide +kernel), List.mem_of_getElem? (i := 838) (by decide +kernel)⟩
theorem lw_p20 : lw_okq (⟨"NineInMind$Company", "draw", "()I"⟩, 4) := ⟨⟨by decide +kernel, by decide +kernel⟩, List.mem_of_getElem? (i := 140) (by decide +kernel), List.mem_of_getElem? (i := 841) (by decide +kernel), List.mem_of_getElem? (i := 842) (by decide +kernel)⟩
theorem lw_p21 : lw_okq (⟨"NineInMind", "refusalOfHearings", "(IIII)I"⟩, 12) := ⟨⟨by decide +kernel, by decide +kernel⟩, List.mem_of_getElem? (i := 23) (by decide +kernel), List.mem_of_getElem? (i := 850) (by decide +kernel), List.mem_of_getElem? (i := 851) (by decide +kernel)⟩
theorem lw_p22 : lw_okq (⟨"NineInMind$Hearings", "newByForesight", "(I)I"⟩, 11) := ⟨⟨by decide +kernel, by decide +kernel⟩, List.mem_of_getElem? (i := 262) (by decide +kernel), List.mem_of_getElem? (i := 866) (by decide +kernel), List.mem_of_getElem? (i := 867) (by decide +kernel)⟩
theorem lw_p23 : lw_okq (⟨"NineInMind$Hearings", "neededLast", "(I)I"⟩, 11) := ⟨⟨by decide +kernel, by decide +kernel⟩, List.mem_of_getElem? (i := 262) (by decide +kernel), List.mem_of_getElem? (i := 871) (by decide +kernel), List.mem_of_getElem? (i := 872) (by decide +kernel)⟩
theorem lw_p24 : lw_okq (⟨"NineInMind$Hearings", "newByRule", "(IZ)I"⟩, 11) := ⟨⟨by decide +kernel, by decide +kernel⟩, List.mem_of_getElem? (i := 262) (by decide +kernel), List.mem_of_getElem? (i := 875) (by decide +kernel), List.mem_of_getElem? (i := 876) (by decide +kernel)⟩
theorem lw_p25 : lw_okq (⟨"NineInMind$Hearings", "tellOn", "(LNineInMind$Lore;II)V"⟩, 11) := ⟨⟨by decide +kernel, by decide +kernel⟩, List.mem_of_getElem? (i := 262) (by decide +kernel), List.mem_of_getElem? (i := 935) (by decide +kernel), List.mem_of_getElem? (i := 936) (by decide +kernel)⟩
theorem lw_p26 : lw_okq (⟨"NineInMind$Hearings", "weighOrder", "(LNineInMind$Lore;)V"⟩, 11) := ⟨⟨by decide +kernel, by decide +kernel⟩, List.mem_of_getElem? (i := 262) (by decide +kernel), List.mem_of_getElem? (i := 939) (by decide +kernel), List.mem_of_getElem? (i := 940) (by decide +kernel)⟩
theorem lw_p27 : lw_okq (⟨"NineInMind$Seeds", "prepare", "(LNineInMind$Lore;I)V"⟩, 3) := ⟨⟨by decide +kernel, by decide +kernel⟩, List.mem_of_getElem? (i := 306) (by decide +kernel), List.mem_of_getElem? (i := 971) (by decide +kernel), List.mem_of_getElem? (i := 972) (by decide +kernel)⟩
theorem lw_p28 : lw_okq (⟨"NineInMind$Seeds", "leastSet", "(III)I"⟩, 3) := ⟨⟨by decide +kernel, by decide +kernel⟩, List.mem_of_getElem? (i := 306) (by decide +kernel), List.mem_of_getElem? (i := 980) (by decide +kernel), List.mem_of_getElem? (i := 981) (by decide +kernel)⟩
theorem lw_p29 : lw_okq (⟨"NineInMind", "refusalOfMen", "(IIZ)I"⟩, 12) := ⟨⟨by decide +kernel, by decide +kernel⟩, List.mem_of_getElem? (i := 23) (by decide +kernel), List.mem_of_getElem? (i := 992) (by decide +kernel), List.mem_of_getElem? (i := 993) (by decide +kernel)⟩
theorem lw_p30 : lw_okq (⟨"NineInMind$Carriers", "canCarry", "(III)Z"⟩, 4) := ⟨⟨by decide +kernel, by decide +kernel⟩, List.mem_of_getElem? (i := 322) (by decide +kernel), List.mem_of_getElem? (i := 1001) (by decide +kernel), List.mem_of_getElem? (i := 1002) (by decide +kernel)⟩
theorem lw_p31 : lw_okq (⟨"NineInMind$Carriers", "hardestOf", "(I)I"⟩, 4) := ⟨⟨by decide +kernel, by decide +kernel⟩, List.mem_of_getElem? (i := 322) (by decide +kernel), List.mem_of_getElem? (i := 1006) (by decide +kernel), List.mem_of_getElem? (i := 1007) (by decide +kernel)⟩
def lw_privs_2 : List (MethodName × Nat) := [(⟨"NineInMind", "refusalOfRow", "(I)I"⟩, 12), (⟨"NineInMind$Company", "actOnce", "(LNineInMind$Lore;IJ)Z"⟩, 4), (⟨"NineInMind$Company", "lostByAll", "()I"⟩, 4), (⟨"NineInMind$Company", "spendOnce", "(LNineInMind$Lore;LNineInMind$Courier;)V"⟩, 4), (⟨"NineInMind$Company", "draw", "()I"⟩, 4), (⟨"NineInMind", "refusalOfHearings", "(IIII)I"⟩, 12), (⟨"NineInMind$Hearings", "newByForesight", "(I)I"⟩, 11), (⟨"NineInMind$Hearings", "neededLast", "(I)I"⟩, 11), (⟨"NineInMind$Hearings", "newByRule", "(IZ)I"⟩, 11), (⟨"NineInMind$Hearings", "tellOn", "(LNineInMind$Lore;II)V"⟩, 11), (⟨"NineInMind$Hearings", "weighOrder", "(LNineInMind$Lore;)V"⟩, 11), (⟨"NineInMind$Seeds", "prepare", "(LNineInMind$Lore;I)V"⟩, 3), (⟨"NineInMind$Seeds", "leastSet", "(III)I"⟩, 3), (⟨"NineInMind", "refusalOfMen", "(IIZ)I"⟩, 12), (⟨"NineInMind$Carriers", "canCarry", "(III)Z"⟩, 4), (⟨"NineInMind$Carriers", "hardestOf", "(I)I"⟩, 4)]
theorem lw_r2 : ∀ q ∈ lw_privs_2, lw_okq q := List.forall_mem_cons.mpr ⟨lw_p16, List.forall_mem_cons.mpr ⟨lw_p17, List.forall_mem_cons.mpr ⟨lw_p18, List.forall_mem_cons.mpr ⟨lw_p19, List.forall_mem_cons.mpr ⟨lw_p20, List.forall_mem_cons.mpr ⟨lw_p21, List.forall_mem_cons.mpr ⟨lw_p22, List.forall_mem_cons.mpr ⟨lw_p23, List.forall_mem_cons.mpr ⟨lw_p24, List.forall_mem_cons.mpr ⟨lw_p25, List.forall_mem_cons.mpr ⟨lw_p26, List.forall_mem_cons.mpr ⟨lw_p27, List.forall_mem_cons.mpr ⟨lw_p28, List.forall_mem_cons.mpr ⟨lw_p29, List.forall_mem_cons.mpr ⟨lw_p30, List.forall_mem_cons.mpr ⟨lw_p31, fun _ h => absurd h List.not_mem_nil⟩⟩⟩⟩⟩⟩⟩⟩⟩⟩⟩⟩⟩⟩⟩⟩
theorem lw_p32 : lw_okq (⟨"NineInMind$Carriers", "easyOf", "(II)I"⟩, 4) := ⟨⟨by decide +kernel, by decide +kernel⟩, List.mem_of_getElem? (i := 322) (by decide +kernel), List.mem_of_getElem? (i := 1010) (by decide +kernel), List.mem_of_getElem? (i := 1011) (by decide +kernel)⟩
theorem lw_p33 : lw_okq (⟨"NineInMind$Carriers", "canDivide", "(IIII)Z"⟩, 4) := ⟨⟨by decide +kernel, by decide +kernel⟩, List.mem_of_getElem? (i := 322) (by decide +kernel), List.mem_of_getElem? (i := 1014) (by decide +kernel), List.mem_of_getElem? (i := 1015) (by decide +kernel)⟩
theorem lw_p34 : lw_okq (⟨"NineInMind$Carriers", "tooMuchAt", "(I)I"⟩, 4) := ⟨⟨by decide +kernel, by decide +kernel⟩, List.mem_of_getElem? (i := 322) (by decide +kernel), List.mem_of_getElem? (i := 1018) (by decide +kernel), List.mem_of_getElem? (i := 1019) (by decide +kernel)⟩
theorem lw_p35 : lw_okq (⟨"NineInMind$Carriers", "isFull", "(II)Z"⟩, 4) := ⟨⟨by decide +kernel, by decide +kernel⟩, List.mem_of_getElem? (i := 322) (by decide +kernel), List.mem_of_getElem? (i := 1022) (by decide +kernel), List.mem_of_getElem? (i := 1023) (by decide +kernel)⟩
theorem lw_p36 : lw_okq (⟨"NineInMind$Carriers", "leastLoad", "(III)I"⟩, 4) := ⟨⟨by decide +kernel, by decide +kernel⟩, List.mem_of_getElem? (i := 322) (by decide +kernel), List.mem_of_getElem? (i := 1034) (by decide +kernel), List.mem_of_getElem? (i := 1035) (by decide +kernel)⟩
theorem lw_p37 : lw_okq (⟨"NineInMind$Ahead", "begin", "(LNineInMind$Courier;I)V"⟩, 8) := ⟨⟨by decide +kernel, by decide +kernel⟩, List.mem_of_getElem? (i := 341) (by decide +kernel), List.mem_of_getElem? (i := 1048) (by decide +kernel), List.mem_of_getElem? (i := 1049) (by decide +kernel)⟩
theorem lw_p38 : lw_okq (⟨"NineInMind$Ahead", "sayOn", "(LNineInMind$Lore;II)V"⟩, 8) := ⟨⟨by decide +kernel, by decide +kernel⟩, List.mem_of_getElem? (i := 341) (by decide +kernel), List.mem_of_getElem? (i := 1053) (by decide +kernel), List.mem_of_getElem? (i := 1054) (by decide +kernel)⟩
theorem lw_p39 : lw_okq (⟨"NineInMind$Ahead", "weigh", "(II)V"⟩, 8) := ⟨⟨by decide +kernel, by decide +kernel⟩, List.mem_of_getElem? (i := 341) (by decide +kernel), List.mem_of_getElem? (i := 1059) (by decide +kernel), List.mem_of_getElem? (i := 1060) (by decide +kernel)⟩
theorem lw_p40 : lw_okq (⟨"NineInMind$Ahead", "askOn", "(LNineInMind$Lore;II)V"⟩, 8) := ⟨⟨by decide +kernel, by decide +kernel⟩, List.mem_of_getElem? (i := 341) (by decide +kernel), List.mem_of_getElem? (i := 1078) (by decide +kernel), List.mem_of_getElem? (i := 1079) (by decide +kernel)⟩
theorem lw_p41 : lw_okq (⟨"NineInMind$Company", "heldBy", "(I)I"⟩, 4) := ⟨⟨by decide +kernel, by decide +kernel⟩, List.mem_of_getElem? (i := 140) (by decide +kernel), List.mem_of_getElem? (i := 1091) (by decide +kernel), List.mem_of_getElem? (i := 1092) (by decide +kernel)⟩
theorem lw_p42 : lw_okq (⟨"NineInMind$Pieces", "isWithinAnother", "(I)Z"⟩, 7) := ⟨⟨by decide +kernel, by decide +kernel⟩, List.mem_of_getElem? (i := 209) (by decide +kernel), List.mem_of_getElem? (i := 1121) (by decide +kernel), List.mem_of_getElem? (i := 1122) (by decide +kernel)⟩
theorem lw_p43 : lw_okq (⟨"NineInMind$Pieces", "isSame", "(IIII)Z"⟩, 7) := ⟨⟨by decide +kernel, by decide +kernel⟩, List.mem_of_getElem? (i := 209) (by decide +kernel), List.mem_of_getElem? (i := 1125) (by decide +kernel), List.mem_of_getElem? (i := 1126) (by decide +kernel)⟩
theorem lw_p44 : lw_okq (⟨"NineInMind$Pieces", "thingOf", "(II)I"⟩, 7) := ⟨⟨by decide +kernel, by decide +kernel⟩, List.mem_of_getElem? (i := 209) (by decide +kernel), List.mem_of_getElem? (i := 1129) (by decide +kernel), List.mem_of_getElem? (i := 1130) (by decide +kernel)⟩
theorem lw_p45 : lw_okq (⟨"NineInMind$Pieces", "overlapOf", "(II)I"⟩, 7) := ⟨⟨by decide +kernel, by decide +kernel⟩, List.mem_of_getElem? (i := 209) (by decide +kernel), List.mem_of_getElem? (i := 1133) (by decide +kernel), List.mem_of_getElem? (i := 1134) (by decide +kernel)⟩
theorem lw_p46 : lw_okq (⟨"NineInMind$Pieces", "joinOn", "(IIII)V"⟩, 7) := ⟨⟨by decide +kernel, by decide +kernel⟩, List.mem_of_getElem? (i := 209) (by decide +kernel), List.mem_of_getElem? (i := 1138) (by decide +kernel), List.mem_of_getElem? (i := 1139) (by decide +kernel)⟩
theorem lw_p47 : lw_okq (⟨"NineInMind$Pieces", "isFirstByThings", "(I)Z"⟩, 7) := ⟨⟨by decide +kernel, by decide +kernel⟩, List.mem_of_getElem? (i := 209) (by decide +kernel), List.mem_of_getElem? (i := 1142) (by decide +kernel), List.mem_of_getElem? (i := 1143) (by decide +kernel)⟩
def lw_privs_3 : List (MethodName × Nat) := [(⟨"NineInMind$Carriers", "easyOf", "(II)I"⟩, 4), (⟨"NineInMind$Carriers", "canDivide", "(IIII)Z"⟩, 4), (⟨"NineInMind$Carriers", "tooMuchAt", "(I)I"⟩, 4), (⟨"NineInMind$Carriers", "isFull", "(II)Z"⟩, 4), (⟨"NineInMind$Carriers", "leastLoad", "(III)I"⟩, 4), (⟨"NineInMind$Ahead", "begin", "(LNineInMind$Courier;I)V"⟩, 8), (⟨"NineInMind$Ahead", "sayOn", "(LNineInMind$Lore;II)V"⟩, 8), (⟨"NineInMind$Ahead", "weigh", "(II)V"⟩, 8), (⟨"NineInMind$Ahead", "askOn", "(LNineInMind$Lore;II)V"⟩, 8), (⟨"NineInMind$Company", "heldBy", "(I)I"⟩, 4), (⟨"NineInMind$Pieces", "isWithinAnother", "(I)Z"⟩, 7), (⟨"NineInMind$Pieces", "isSame", "(IIII)Z"⟩, 7), (⟨"NineInMind$Pieces", "thingOf", "(II)I"⟩, 7), (⟨"NineInMind$Pieces", "overlapOf", "(II)I"⟩, 7), (⟨"NineInMind$Pieces", "joinOn", "(IIII)V"⟩, 7), (⟨"NineInMind$Pieces", "isFirstByThings", "(I)Z"⟩, 7)]
theorem lw_r3 : ∀ q ∈ lw_privs_3, lw_okq q := List.forall_mem_cons.mpr ⟨lw_p32, List.forall_mem_cons.mpr ⟨lw_p33, List.forall_mem_cons.mpr ⟨lw_p34, List.forall_mem_cons.mpr ⟨lw_p35, List.forall_mem_cons.mpr ⟨lw_p36, List.forall_mem_cons.mpr ⟨lw_p37, List.forall_mem_cons.mpr ⟨lw_p38, List.forall_mem_cons.mpr ⟨lw_p39, List.forall_mem_cons.mpr ⟨lw_p40, List.forall_mem_cons.mpr ⟨lw_p41, List.forall_mem_cons.mpr ⟨lw_p42, List.forall_mem_cons.mpr ⟨lw_p43, List.forall_mem_cons.mpr ⟨lw_p44, List.forall_mem_cons.mpr ⟨lw_p45, List.forall_mem_cons.mpr ⟨lw_p46, List.forall_mem_cons.mpr ⟨lw_p47, fun _ h => absurd h List.not_mem_nil⟩⟩⟩⟩⟩⟩⟩⟩⟩⟩⟩⟩⟩⟩⟩⟩
theorem lw_p48 : lw_okq (⟨"NineInMind$Pieces", "isTurned", "(IIII)Z"⟩, 7) := ⟨⟨by decide +kernel, by decide +kernel⟩, List.mem_of_getElem? (i := 209) (by decide +kernel), List.mem_of_getElem? (i := 1154) (by decide +kernel), List.mem_of_getElem? (i := 1155) (by decide +kernel)⟩
theorem lw_p49 : lw_okq (⟨"NineInMind$Pieces", "firstPlace", "(II)I"⟩, 7) := ⟨⟨by decide +kernel, by decide +kernel⟩, List.mem_of_getElem? (i := 209) (by decide +kernel), List.mem_of_getElem? (i := 1158) (by decide +kernel), List.mem_of_getElem? (i := 1159) (by decide +kernel)⟩
theorem lw_p50 : lw_okq (⟨"NineInMind$Row", "cut", "(J)J"⟩, 4) := ⟨⟨by decide +kernel, by decide +kernel⟩, List.mem_of_getElem? (i := 373) (by decide +kernel), List.mem_of_getElem? (i := 1191) (by decide +kernel), List.mem_of_getElem? (i := 1192) (by decide +kernel)⟩
theorem lw_p51 : lw_okq (⟨"NineInMindModel", "next", "()V"⟩, 40) := ⟨⟨by decide +kernel, by decide +kernel⟩, List.mem_of_getElem? (i := 1220) (by decide +kernel), List.mem_of_getElem? (i := 1360) (by decide +kernel), List.mem_of_getElem? (i := 1361) (by decide +kernel)⟩
theorem lw_p52 : lw_okq (⟨"NineInMindModel", "see", "(I)I"⟩, 40) := ⟨⟨by decide +kernel, by decide +kernel⟩, List.mem_of_getElem? (i := 1220) (by decide +kernel), List.mem_of_getElem? (i := 1364) (by decide +kernel), List.mem_of_getElem? (i := 1365) (by decide +kernel)⟩
theorem lw_p53 : lw_okq (⟨"NineInMindModel", "keyAt", "()I"⟩, 40) := ⟨⟨by decide +kernel, by decide +kernel⟩, List.mem_of_getElem? (i := 1220) (by decide +kernel), List.mem_of_getElem? (i := 1371) (by decide +kernel), List.mem_of_getElem? (i := 1372) (by decide +kernel)⟩
theorem lw_p54 : lw_okq (⟨"NineInMindModel", "readLine", "()V"⟩, 40) := ⟨⟨by decide +kernel, by decide +kernel⟩, List.mem_of_getElem? (i := 1220) (by decide +kernel), List.mem_of_getElem? (i := 1381) (by decide +kernel), List.mem_of_getElem? (i := 1382) (by decide +kernel)⟩
theorem lw_p55 : lw_okq (⟨"NineInMindModel", "is", "(I)Z"⟩, 40) := ⟨⟨by decide +kernel, by decide +kernel⟩, List.mem_of_getElem? (i := 1220) (by decide +kernel), List.mem_of_getElem? (i := 1385) (by decide +kernel), List.mem_of_getElem? (i := 1386) (by decide +kernel)⟩
theorem lw_p56 : lw_okq (⟨"NineInMindModel", "readThings", "()V"⟩, 40) := ⟨⟨by decide +kernel, by decide +kernel⟩, List.mem_of_getElem? (i := 1220) (by decide +kernel), List.mem_of_getElem? (i := 1389) (by decide +kernel), List.mem_of_getElem? (i := 1390) (by decide +kernel)⟩
theorem lw_p57 : lw_okq (⟨"NineInMindModel", "fails", "(I)V"⟩, 40) := ⟨⟨by decide +kernel, by decide +kernel⟩, List.mem_of_getElem? (i := 1220) (by decide +kernel), List.mem_of_getElem? (i := 1393) (by decide +kernel), List.mem_of_getElem? (i := 1394) (by decide +kernel)⟩
theorem lw_p58 : lw_okq (⟨"NineInMindModel", "takes", "(II)I"⟩, 40) := ⟨⟨by decide +kernel, by decide +kernel⟩, List.mem_of_getElem? (i := 1220) (by decide +kernel), List.mem_of_getElem? (i := 1397) (by decide +kernel), List.mem_of_getElem? (i := 1398) (by decide +kernel)⟩
theorem lw_p59 : lw_okq (⟨"NineInMindModel", "readInn", "()V"⟩, 40) := ⟨⟨by decide +kernel, by decide +kernel⟩, List.mem_of_getElem? (i := 1220) (by decide +kernel), List.mem_of_getElem? (i := 1401) (by decide +kernel), List.mem_of_getElem? (i := 1402) (by decide +kernel)⟩
theorem lw_p60 : lw_okq (⟨"NineInMindModel", "takesThing", "()I"⟩, 40) := ⟨⟨by decide +kernel, by decide +kernel⟩, List.mem_of_getElem? (i := 1220) (by decide +kernel), List.mem_of_getElem? (i := 1405) (by decide +kernel), List.mem_of_getElem? (i := 1406) (by decide +kernel)⟩
theorem lw_p61 : lw_okq (⟨"NineInMindModel", "eats", "(I)Z"⟩, 40) := ⟨⟨by decide +kernel, by decide +kernel⟩, List.mem_of_getElem? (i := 1220) (by decide +kernel), List.mem_of_getElem? (i := 1409) (by decide +kernel), List.mem_of_getElem? (i := 1410) (by decide +kernel)⟩
theorem lw_p62 : lw_okq (⟨"NineInMindModel", "readTwo", "(Z)V"⟩, 40) := ⟨⟨by decide +kernel, by decide +kernel⟩, List.mem_of_getElem? (i := 1220) (by decide +kernel), List.mem_of_getElem? (i := 1413) (by decide +kernel), List.mem_of_getElem? (i := 1414) (by decide +kernel)⟩
theorem lw_p63 : lw_okq (⟨"NineInMindModel", "readWorth", "()V"⟩, 40) := ⟨⟨by decide +kernel, by decide +kernel⟩, List.mem_of_getElem? (i := 1220) (by decide +kernel), List.mem_of_getElem? (i := 1417) (by decide +kernel), List.mem_of_getElem? (i := 1418) (by decide +kernel)⟩
def lw_privs_4 : List (MethodName × Nat) := [(⟨"NineInMind$Pieces", "isTurned", "(IIII)Z"⟩, 7), (⟨"NineInMind$Pieces", "firstPlace", "(II)I"⟩, 7), (⟨"NineInMind$Row", "cut", "(J)J"⟩, 4), (⟨"NineInMindModel", "next", "()V"⟩, 40), (⟨"NineInMindModel", "see", "(I)I"⟩, 40), (⟨"NineInMindModel", "keyAt", "()I"⟩, 40), (⟨"NineInMindModel", "readLine", "()V"⟩, 40), (⟨"NineInMindModel", "is", "(I)Z"⟩, 40), (⟨"NineInMindModel", "readThings", "()V"⟩, 40), (⟨"NineInMindModel", "fails", "(I)V"⟩, 40), (⟨"NineInMindModel", "takes", "(II)I"⟩, 40), (⟨"NineInMindModel", "readInn", "()V"⟩, 40), (⟨"NineInMindModel", "takesThing", "()I"⟩, 40), (⟨"NineInMindModel", "eats", "(I)Z"⟩, 40), (⟨"NineInMindModel", "readTwo", "(Z)V"⟩, 40), (⟨"NineInMindModel", "readWorth", "()V"⟩, 40)]
theorem lw_r4 : ∀ q ∈ lw_privs_4, lw_okq q := List.forall_mem_cons.mpr ⟨lw_p48, List.forall_mem_cons.mpr ⟨lw_p49, List.forall_mem_cons.mpr ⟨lw_p50, List.forall_mem_cons.mpr ⟨lw_p51, List.forall_mem_cons.mpr ⟨lw_p52, List.forall_mem_cons.mpr ⟨lw_p53, List.forall_mem_cons.mpr ⟨lw_p54, List.forall_mem_cons.mpr ⟨lw_p55, List.forall_mem_cons.mpr ⟨lw_p56, List.forall_mem_cons.mpr ⟨lw_p57, List.forall_mem_cons.mpr ⟨lw_p58, List.forall_mem_cons.mpr ⟨lw_p59, List.forall_mem_cons.mpr ⟨lw_p60, List.forall_mem_cons.mpr ⟨lw_p61, List.forall_mem_cons.mpr ⟨lw_p62, List.forall_mem_cons.mpr ⟨lw_p63, fun _ h => absurd h List.not_mem_nil⟩⟩⟩⟩⟩⟩⟩⟩⟩⟩⟩⟩⟩⟩⟩⟩
theorem lw_p64 : lw_okq (⟨"NineInMindModel", "isThing", "(J)Z"⟩, 40) := ⟨⟨by decide +kernel, by decide +kernel⟩, List.mem_of_getElem? (i := 1220) (by decide +kernel), List.mem_of_getElem? (i := 1429) (by decide +kernel), List.mem_of_getElem? (i := 1430) (by decide +kernel)⟩
theorem lw_p65 : lw_okq (⟨"NineInMindModel", "isInn", "(J)Z"⟩, 40) := ⟨⟨by decide +kernel, by decide +kernel⟩, List.mem_of_getElem? (i := 1220) (by decide +kernel), List.mem_of_getElem? (i := 1438) (by decide +kernel), List.mem_of_getElem? (i := 1439) (by decide +kernel)⟩
theorem lw_p66 : lw_okq (⟨"NineInMindModel", "empties", "(II)V"⟩, 40) := ⟨⟨by decide +kernel, by decide +kernel⟩, List.mem_of_getElem? (i := 1220) (by decide +kernel), List.mem_of_getElem? (i := 1446) (by decide +kernel), List.mem_of_getElem? (i := 1447) (by decide +kernel)⟩
theorem lw_p67 : lw_okq (⟨"NineInMindModel", "isMan", "(J)Z"⟩, 40) := ⟨⟨by decide +kernel, by decide +kernel⟩, List.mem_of_getElem? (i := 1220) (by decide +kernel), List.mem_of_getElem? (i := 1457) (by decide +kernel), List.mem_of_getElem? (i := 1458) (by decide +kernel)⟩
theorem lw_p68 : lw_okq (⟨"NineInMindModel", "many", "(I)I"⟩, 40) := ⟨⟨by decide +kernel, by decide +kernel⟩, List.mem_of_getElem? (i := 1220) (by decide +kernel), List.mem_of_getElem? (i := 1463) (by decide +kernel), List.mem_of_getElem? (i := 1464) (by decide +kernel)⟩
theorem lw_p69 : lw_okq (⟨"NineInMindModel", "thingAt", "(II)I"⟩, 40) := ⟨⟨by decide +kernel, by decide +kernel⟩, List.mem_of_getElem? (i := 1220) (by decide +kernel), List.mem_of_getElem? (i := 1467) (by decide +kernel), List.mem_of_getElem? (i := 1468) (by decide +kernel)⟩
theorem lw_p70 : lw_okq (⟨"NineInMindModel", "bitsIn", "(I)I"⟩, 40) := ⟨⟨by decide +kernel, by decide +kernel⟩, List.mem_of_getElem? (i := 1220) (by decide +kernel), List.mem_of_getElem? (i := 1471) (by decide +kernel), List.mem_of_getElem? (i := 1472) (by decide +kernel)⟩
theorem lw_p71 : lw_okq (⟨"NineInMindModel", "worthOf", "(I)I"⟩, 40) := ⟨⟨by decide +kernel, by decide +kernel⟩, List.mem_of_getElem? (i := 1220) (by decide +kernel), List.mem_of_getElem? (i := 1475) (by decide +kernel), List.mem_of_getElem? (i := 1476) (by decide +kernel)⟩
theorem lw_p72 : lw_okq (⟨"NineInMindModel", "hear", "(II)I"⟩, 40) := ⟨⟨by decide +kernel, by decide +kernel⟩, List.mem_of_getElem? (i := 1220) (by decide +kernel), List.mem_of_getElem? (i := 1487) (by decide +kernel), List.mem_of_getElem? (i := 1488) (by decide +kernel)⟩
theorem lw_p73 : lw_okq (⟨"NineInMindModel", "placeOf", "(II)I"⟩, 40) := ⟨⟨by decide +kernel, by decide +kernel⟩, List.mem_of_getElem? (i := 1220) (by decide +kernel), List.mem_of_getElem? (i := 1491) (by decide +kernel), List.mem_of_getElem? (i := 1492) (by decide +kernel)⟩
theorem lw_p74 : lw_okq (⟨"NineInMindModel", "has", "(II)Z"⟩, 40) := ⟨⟨by decide +kernel, by decide +kernel⟩, List.mem_of_getElem? (i := 1220) (by decide +kernel), List.mem_of_getElem? (i := 1499) (by decide +kernel), List.mem_of_getElem? (i := 1500) (by decide +kernel)⟩
theorem lw_p75 : lw_okq (⟨"NineInMindModel", "say", "(II)I"⟩, 40) := ⟨⟨by decide +kernel, by decide +kernel⟩, List.mem_of_getElem? (i := 1220) (by decide +kernel), List.mem_of_getElem? (i := 1503) (by decide +kernel), List.mem_of_getElem? (i := 1504) (by decide +kernel)⟩
theorem lw_p76 : lw_okq (⟨"NineInMindModel", "tell", "(III)I"⟩, 40) := ⟨⟨by decide +kernel, by decide +kernel⟩, List.mem_of_getElem? (i := 1220) (by decide +kernel), List.mem_of_getElem? (i := 1511) (by decide +kernel), List.mem_of_getElem? (i := 1512) (by decide +kernel)⟩
theorem lw_p77 : lw_okq (⟨"NineInMindModel", "walk", "(II)I"⟩, 40) := ⟨⟨by decide +kernel, by decide +kernel⟩, List.mem_of_getElem? (i := 1220) (by decide +kernel), List.mem_of_getElem? (i := 1519) (by decide +kernel), List.mem_of_getElem? (i := 1520) (by decide +kernel)⟩
theorem lw_p78 : lw_okq (⟨"NineInMindModel", "deliver", "(I)I"⟩, 40) := ⟨⟨by decide +kernel, by decide +kernel⟩, List.mem_of_getElem? (i := 1220) (by decide +kernel), List.mem_of_getElem? (i := 1532) (by decide +kernel), List.mem_of_getElem? (i := 1533) (by decide +kernel)⟩
theorem lw_p79 : lw_okq (⟨"NineInMindModel", "triesAs", "(I)V"⟩, 40) := ⟨⟨by decide +kernel, by decide +kernel⟩, List.mem_of_getElem? (i := 1220) (by decide +kernel), List.mem_of_getElem? (i := 1544) (by decide +kernel), List.mem_of_getElem? (i := 1545) (by decide +kernel)⟩
def lw_privs_5 : List (MethodName × Nat) := [(⟨"NineInMindModel", "isThing", "(J)Z"⟩, 40), (⟨"NineInMindModel", "isInn", "(J)Z"⟩, 40), (⟨"NineInMindModel", "empties", "(II)V"⟩, 40), (⟨"NineInMindModel", "isMan", "(J)Z"⟩, 40), (⟨"NineInMindModel", "many", "(I)I"⟩, 40), (⟨"NineInMindModel", "thingAt", "(II)I"⟩, 40), (⟨"NineInMindModel", "bitsIn", "(I)I"⟩, 40), (⟨"NineInMindModel", "worthOf", "(I)I"⟩, 40), (⟨"NineInMindModel", "hear", "(II)I"⟩, 40), (⟨"NineInMindModel", "placeOf", "(II)I"⟩, 40), (⟨"NineInMindModel", "has", "(II)Z"⟩, 40), (⟨"NineInMindModel", "say", "(II)I"⟩, 40), (⟨"NineInMindModel", "tell", "(III)I"⟩, 40), (⟨"NineInMindModel", "walk", "(II)I"⟩, 40), (⟨"NineInMindModel", "deliver", "(I)I"⟩, 40), (⟨"NineInMindModel", "triesAs", "(I)V"⟩, 40)]
theorem lw_r5 : ∀ q ∈ lw_privs_5, lw_okq q := List.forall_mem_cons.mpr ⟨lw_p64, List.forall_mem_cons.mpr ⟨lw_p65, List.forall_mem_cons.mpr ⟨lw_p66, List.forall_mem_cons.mpr ⟨lw_p67, List.forall_mem_cons.mpr ⟨lw_p68, List.forall_mem_cons.mpr ⟨lw_p69, List.forall_mem_cons.mpr ⟨lw_p70, List.forall_mem_cons.mpr ⟨lw_p71, List.forall_mem_cons.mpr ⟨lw_p72, List.forall_mem_cons.mpr ⟨lw_p73, List.forall_mem_cons.mpr ⟨lw_p74, List.forall_mem_cons.mpr ⟨lw_p75, List.forall_mem_cons.mpr ⟨lw_p76, List.forall_mem_cons.mpr ⟨lw_p77, List.forall_mem_cons.mpr ⟨lw_p78, List.forall_mem_cons.mpr ⟨lw_p79, fun _ h => absurd h List.not_mem_nil⟩⟩⟩⟩⟩⟩⟩⟩⟩⟩⟩⟩⟩⟩⟩⟩
theorem lw_p80 : lw_okq (⟨"NineInMindModel", "isBreach", "(I)Z"⟩, 40) := ⟨⟨by decide +kernel, by decide +kernel⟩, List.mem_of_getElem? (i := 1220) (by decide +kernel), List.mem_of_getElem? (i := 1548) (by decide +kernel), List.mem_of_getElem? (i := 1549) (by decide +kernel)⟩
theorem lw_p81 : lw_okq (⟨"NineInMindModel", "actsAll", "(II)I"⟩, 40) := ⟨⟨by decide +kernel, by decide +kernel⟩, List.mem_of_getElem? (i := 1220) (by decide +kernel), List.mem_of_getElem? (i := 1567) (by decide +kernel), List.mem_of_getElem? (i := 1568) (by decide +kernel)⟩
theorem lw_p82 : lw_okq (⟨"NineInMindModel", "acts", "(IJ)Z"⟩, 40) := ⟨⟨by decide +kernel, by decide +kernel⟩, List.mem_of_getElem? (i := 1220) (by decide +kernel), List.mem_of_getElem? (i := 1571) (by decide +kernel), List.mem_of_getElem? (i := 1572) (by decide +kernel)⟩
theorem lw_p83 : lw_okq (⟨"NineInMindModel", "draw", "(I)I"⟩, 40) := ⟨⟨by decide +kernel, by decide +kernel⟩, List.mem_of_getElem? (i := 1220) (by decide +kernel), List.mem_of_getElem? (i := 1589) (by decide +kernel), List.mem_of_getElem? (i := 1590) (by decide +kernel)⟩
theorem lw_p84 : lw_okq (⟨"NineInMindModel", "areThings", "(I)Z"⟩, 40) := ⟨⟨by decide +kernel, by decide +kernel⟩, List.mem_of_getElem? (i := 1220) (by decide +kernel), List.mem_of_getElem? (i := 1598) (by decide +kernel), List.mem_of_getElem? (i := 1599) (by decide +kernel)⟩
theorem lw_p85 : lw_okq (⟨"NineInMindModel", "freshOf", "(III)I"⟩, 40) := ⟨⟨by decide +kernel, by decide +kernel⟩, List.mem_of_getElem? (i := 1220) (by decide +kernel), List.mem_of_getElem? (i := 1602) (by decide +kernel), List.mem_of_getElem? (i := 1603) (by decide +kernel)⟩
theorem lw_p86 : lw_okq (⟨"NineInMindModel", "driven", "(III)I"⟩, 40) := ⟨⟨by decide +kernel, by decide +kernel⟩, List.mem_of_getElem? (i := 1220) (by decide +kernel), List.mem_of_getElem? (i := 1606) (by decide +kernel), List.mem_of_getElem? (i := 1607) (by decide +kernel)⟩
theorem lw_p87 : lw_okq (⟨"NineInMindModel", "nextAt", "(III)I"⟩, 40) := ⟨⟨by decide +kernel, by decide +kernel⟩, List.mem_of_getElem? (i := 1220) (by decide +kernel), List.mem_of_getElem? (i := 1610) (by decide +kernel), List.mem_of_getElem? (i := 1611) (by decide +kernel)⟩
theorem lw_p88 : lw_okq (⟨"NineInMindModel", "tellsRow", "(I)V"⟩, 40) := ⟨⟨by decide +kernel, by decide +kernel⟩, List.mem_of_getElem? (i := 1220) (by decide +kernel), List.mem_of_getElem? (i := 1634) (by decide +kernel), List.mem_of_getElem? (i := 1635) (by decide +kernel)⟩
theorem lw_p89 : lw_okq (⟨"NineInMindModel", "throughOf", "(III)I"⟩, 40) := ⟨⟨by decide +kernel, by decide +kernel⟩, List.mem_of_getElem? (i := 1220) (by decide +kernel), List.mem_of_getElem? (i := 1638) (by decide +kernel), List.mem_of_getElem? (i := 1639) (by decide +kernel)⟩
theorem lw_p90 : lw_okq (⟨"NineInMindModel", "isSet", "(I)Z"⟩, 40) := ⟨⟨by decide +kernel, by decide +kernel⟩, List.mem_of_getElem? (i := 1220) (by decide +kernel), List.mem_of_getElem? (i := 1652) (by decide +kernel), List.mem_of_getElem? (i := 1653) (by decide +kernel)⟩
theorem lw_p91 : lw_okq (⟨"NineInMindModel", "tellsAll", "(IIII)V"⟩, 40) := ⟨⟨by decide +kernel, by decide +kernel⟩, List.mem_of_getElem? (i := 1220) (by decide +kernel), List.mem_of_getElem? (i := 1656) (by decide +kernel), List.mem_of_getElem? (i := 1657) (by decide +kernel)⟩
theorem lw_p92 : lw_okq (⟨"NineInMindModel", "backOf", "(I)I"⟩, 40) := ⟨⟨by decide +kernel, by decide +kernel⟩, List.mem_of_getElem? (i := 1220) (by decide +kernel), List.mem_of_getElem? (i := 1664) (by decide +kernel), List.mem_of_getElem? (i := 1665) (by decide +kernel)⟩
theorem lw_p93 : lw_okq (⟨"NineInMindModel", "refusesMen", "(IIZ)I"⟩, 40) := ⟨⟨by decide +kernel, by decide +kernel⟩, List.mem_of_getElem? (i := 1220) (by decide +kernel), List.mem_of_getElem? (i := 1676) (by decide +kernel), List.mem_of_getElem? (i := 1677) (by decide +kernel)⟩
theorem lw_p94 : lw_okq (⟨"NineInMindModel", "laysMen", "(IIZ)I"⟩, 40) := ⟨⟨by decide +kernel, by decide +kernel⟩, List.mem_of_getElem? (i := 1220) (by decide +kernel), List.mem_of_getElem? (i := 1680) (by decide +kernel), List.mem_of_getElem? (i := 1681) (by decide +kernel)⟩
theorem lw_p95 : lw_okq (⟨"NineInMindModel", "asThings", "(I)I"⟩, 40) := ⟨⟨by decide +kernel, by decide +kernel⟩, List.mem_of_getElem? (i := 1220) (by decide +kernel), List.mem_of_getElem? (i := 1684) (by decide +kernel), List.mem_of_getElem? (i := 1685) (by decide +kernel)⟩
def lw_privs_6 : List (MethodName × Nat) := [(⟨"NineInMindModel", "isBreach", "(I)Z"⟩, 40), (⟨"NineInMindModel", "actsAll", "(II)I"⟩, 40), (⟨"NineInMindModel", "acts", "(IJ)Z"⟩, 40), (⟨"NineInMindModel", "draw", "(I)I"⟩, 40), (⟨"NineInMindModel", "areThings", "(I)Z"⟩, 40), (⟨"NineInMindModel", "freshOf", "(III)I"⟩, 40), (⟨"NineInMindModel", "driven", "(III)I"⟩, 40), (⟨"NineInMindModel", "nextAt", "(III)I"⟩, 40), (⟨"NineInMindModel", "tellsRow", "(I)V"⟩, 40), (⟨"NineInMindModel", "throughOf", "(III)I"⟩, 40), (⟨"NineInMindModel", "isSet", "(I)Z"⟩, 40), (⟨"NineInMindModel", "tellsAll", "(IIII)V"⟩, 40), (⟨"NineInMindModel", "backOf", "(I)I"⟩, 40), (⟨"NineInMindModel", "refusesMen", "(IIZ)I"⟩, 40), (⟨"NineInMindModel", "laysMen", "(IIZ)I"⟩, 40), (⟨"NineInMindModel", "asThings", "(I)I"⟩, 40)]
theorem lw_r6 : ∀ q ∈ lw_privs_6, lw_okq q := List.forall_mem_cons.mpr ⟨lw_p80, List.forall_mem_cons.mpr ⟨lw_p81, List.forall_mem_cons.mpr ⟨lw_p82, List.forall_mem_cons.mpr ⟨lw_p83, List.forall_mem_cons.mpr ⟨lw_p84, List.forall_mem_cons.mpr ⟨lw_p85, List.forall_mem_cons.mpr ⟨lw_p86, List.forall_mem_cons.mpr ⟨lw_p87, List.forall_mem_cons.mpr ⟨lw_p88, List.forall_mem_cons.mpr ⟨lw_p89, List.forall_mem_cons.mpr ⟨lw_p90, List.forall_mem_cons.mpr ⟨lw_p91, List.forall_mem_cons.mpr ⟨lw_p92, List.forall_mem_cons.mpr ⟨lw_p93, List.forall_mem_cons.mpr ⟨lw_p94, List.forall_mem_cons.mpr ⟨lw_p95, fun _ h => absurd h List.not_mem_nil⟩⟩⟩⟩⟩⟩⟩⟩⟩⟩⟩⟩⟩⟩⟩⟩
theorem lw_p96 : lw_okq (⟨"NineInMindModel", "canCarry", "(II)Z"⟩, 40) := ⟨⟨by decide +kernel, by decide +kernel⟩, List.mem_of_getElem? (i := 1220) (by decide +kernel), List.mem_of_getElem? (i := 1688) (by decide +kernel), List.mem_of_getElem? (i := 1689) (by decide +kernel)⟩
theorem lw_p97 : lw_okq (⟨"NineInMindModel", "leftIn", "(IZ)I"⟩, 40) := ⟨⟨by decide +kernel, by decide +kernel⟩, List.mem_of_getElem? (i := 1220) (by decide +kernel), List.mem_of_getElem? (i := 1692) (by decide +kernel), List.mem_of_getElem? (i := 1693) (by decide +kernel)⟩
theorem lw_p98 : lw_okq (⟨"NineInMindModel", "without", "(II)I"⟩, 40) := ⟨⟨by decide +kernel, by decide +kernel⟩, List.mem_of_getElem? (i := 1220) (by decide +kernel), List.mem_of_getElem? (i := 1696) (by decide +kernel), List.mem_of_getElem? (i := 1697) (by decide +kernel)⟩
theorem lw_p99 : lw_okq (⟨"NineInMindModel", "rowsOf", "(IIIII)V"⟩, 40) := ⟨⟨by decide +kernel, by decide +kernel⟩, List.mem_of_getElem? (i := 1220) (by decide +kernel), List.mem_of_getElem? (i := 1712) (by decide +kernel), List.mem_of_getElem? (i := 1713) (by decide +kernel)⟩
theorem lw_p100 : lw_okq (⟨"NineInMindModel", "isBest", "(II)V"⟩, 40) := ⟨⟨by decide +kernel, by decide +kernel⟩, List.mem_of_getElem? (i := 1220) (by decide +kernel), List.mem_of_getElem? (i := 1716) (by decide +kernel), List.mem_of_getElem? (i := 1717) (by decide +kernel)⟩
theorem lw_p101 : lw_okq (⟨"NineInMindModel", "toldBest", "(I)I"⟩, 40) := ⟨⟨by decide +kernel, by decide +kernel⟩, List.mem_of_getElem? (i := 1220) (by decide +kernel), List.mem_of_getElem? (i := 1720) (by decide +kernel), List.mem_of_getElem? (i := 1721) (by decide +kernel)⟩
theorem lw_p102 : lw_okq (⟨"NineInMindModel", "isWithin", "(I)Z"⟩, 40) := ⟨⟨by decide +kernel, by decide +kernel⟩, List.mem_of_getElem? (i := 1220) (by decide +kernel), List.mem_of_getElem? (i := 1745) (by decide +kernel), List.mem_of_getElem? (i := 1746) (by decide +kernel)⟩
theorem lw_p103 : lw_okq (⟨"NineInMindModel", "stands", "(I[III)Z"⟩, 40) := ⟨⟨by decide +kernel, by decide +kernel⟩, List.mem_of_getElem? (i := 1220) (by decide +kernel), List.mem_of_getElem? (i := 1749) (by decide +kernel), List.mem_of_getElem? (i := 1750) (by decide +kernel)⟩
theorem lw_p104 : lw_okq (⟨"NineInMindModel", "joins", "(II)V"⟩, 40) := ⟨⟨by decide +kernel, by decide +kernel⟩, List.mem_of_getElem? (i := 1220) (by decide +kernel), List.mem_of_getElem? (i := 1753) (by decide +kernel), List.mem_of_getElem? (i := 1754) (by decide +kernel)⟩
theorem lw_p105 : lw_okq (⟨"NineInMindModel", "isFirst", "(I)Z"⟩, 40) := ⟨⟨by decide +kernel, by decide +kernel⟩, List.mem_of_getElem? (i := 1220) (by decide +kernel), List.mem_of_getElem? (i := 1757) (by decide +kernel), List.mem_of_getElem? (i := 1758) (by decide +kernel)⟩
theorem lw_p106 : lw_okq (⟨"NineInMindModel", "lays", "(II)I"⟩, 40) := ⟨⟨by decide +kernel, by decide +kernel⟩, List.mem_of_getElem? (i := 1220) (by decide +kernel), List.mem_of_getElem? (i := 1761) (by decide +kernel), List.mem_of_getElem? (i := 1762) (by decide +kernel)⟩
theorem lw_p107 : lw_okq (⟨"NineInMindModel", "areUnfit", "(II)Z"⟩, 40) := ⟨⟨by decide +kernel, by decide +kernel⟩, List.mem_of_getElem? (i := 1220) (by decide +kernel), List.mem_of_getElem? (i := 1769) (by decide +kernel), List.mem_of_getElem? (i := 1770) (by decide +kernel)⟩
theorem lw_p108 : lw_okq (⟨"NineInMindModel", "firstIn", "(II)I"⟩, 40) := ⟨⟨by decide +kernel, by decide +kernel⟩, List.mem_of_getElem? (i := 1220) (by decide +kernel), List.mem_of_getElem? (i := 1773) (by decide +kernel), List.mem_of_getElem? (i := 1774) (by decide +kernel)⟩
def lw_privs_7 : List (MethodName × Nat) := [(⟨"NineInMindModel", "canCarry", "(II)Z"⟩, 40), (⟨"NineInMindModel", "leftIn", "(IZ)I"⟩, 40), (⟨"NineInMindModel", "without", "(II)I"⟩, 40), (⟨"NineInMindModel", "rowsOf", "(IIIII)V"⟩, 40), (⟨"NineInMindModel", "isBest", "(II)V"⟩, 40), (⟨"NineInMindModel", "toldBest", "(I)I"⟩, 40), (⟨"NineInMindModel", "isWithin", "(I)Z"⟩, 40), (⟨"NineInMindModel", "stands", "(I[III)Z"⟩, 40), (⟨"NineInMindModel", "joins", "(II)V"⟩, 40), (⟨"NineInMindModel", "isFirst", "(I)Z"⟩, 40), (⟨"NineInMindModel", "lays", "(II)I"⟩, 40), (⟨"NineInMindModel", "areUnfit", "(II)Z"⟩, 40), (⟨"NineInMindModel", "firstIn", "(II)I"⟩, 40)]
theorem lw_r7 : ∀ q ∈ lw_privs_7, lw_okq q := List.forall_mem_cons.mpr ⟨lw_p96, List.forall_mem_cons.mpr ⟨lw_p97, List.forall_mem_cons.mpr ⟨lw_p98, List.forall_mem_cons.mpr ⟨lw_p99, List.forall_mem_cons.mpr ⟨lw_p100, List.forall_mem_cons.mpr ⟨lw_p101, List.forall_mem_cons.mpr ⟨lw_p102, List.forall_mem_cons.mpr ⟨lw_p103, List.forall_mem_cons.mpr ⟨lw_p104, List.forall_mem_cons.mpr ⟨lw_p105, List.forall_mem_cons.mpr ⟨lw_p106, List.forall_mem_cons.mpr ⟨lw_p107, List.forall_mem_cons.mpr ⟨lw_p108, fun _ h => absurd h List.not_mem_nil⟩⟩⟩⟩⟩⟩⟩⟩⟩⟩⟩⟩⟩
def lw_privs : List (MethodName × Nat) := lw_privs_1 ++ (lw_privs_2 ++ (lw_privs_3 ++ (lw_privs_4 ++ (lw_privs_5 ++ (lw_privs_6 ++ (lw_privs_7))))))
def lw_tbl : List Cond := k2_sels lw_privs ++ tables_1
theorem lw_privs_ok : ∀ q ∈ lw_privs, lw_okq q := by
  show ∀ q ∈ lw_privs_1 ++ (lw_privs_2 ++ (lw_privs_3 ++ (lw_privs_4 ++ (lw_privs_5 ++ (lw_privs_6 ++ (lw_privs_7)))))), lw_okq q
  exact List.forall_mem_append.mpr ⟨lw_r1, List.forall_mem_append.mpr ⟨lw_r2, List.forall_mem_append.mpr ⟨lw_r3, List.forall_mem_append.mpr ⟨lw_r4, List.forall_mem_append.mpr ⟨lw_r5, List.forall_mem_append.mpr ⟨lw_r6, lw_r7⟩⟩⟩⟩⟩⟩

end
section
def RX0 : String := "NineInMind$Ahead"
def TX0 : u_T := fun k => match k with
  | 0 => ("NineInMind$Ahead", "speaker", "LNineInMind$Courier;", true)
  | 1 => ("NineInMind$Ahead", "walker", "LNineInMind$Courier;", true)
  | 2 => ("NineInMind$Ahead", "way", "LNineInMind$Courier;", true)
  | 3 => ("NineInMind$Ahead", "row", "[I", true)
  | 4 => ("NineInMind$Ahead", "best", "[I", true)
  | 5 => ("NineInMind$Ahead", "bestMany", "I", false)
  | 6 => ("NineInMind$Ahead", "bestSum", "I", false)
  | _ => ("NineInMind$Ahead", "most", "I", false)
def tyX0 : Nat → FieldType := fun k => match k with
  | 0 => .object "NineInMind$Courier"
  | 1 => .object "NineInMind$Courier"
  | 2 => .object "NineInMind$Courier"
  | 3 => .array .int
  | 4 => .array .int
  | 5 => .int
  | 6 => .int
  | _ => .int
theorem nmX0 : ∀ a, a < 8 → ∀ b, b < 8 → a ≠ b → (TX0 a).2.1 ≠ (TX0 b).2.1 := by decide +kernel
theorem tyX0_ok : ∀ k, k < 8 → parseFieldDescriptor (TX0 k).2.2.1 = some (tyX0 k) := by decide +kernel
abbrev cX0_init : ByteArray := prog_2_method_1_code
def yX0_init : MethodName := ⟨RX0, "<init>", "()V"⟩
abbrev cX0_chooseSayings : ByteArray := prog_2_method_2_code
def yX0_chooseSayings : MethodName := ⟨RX0, "chooseSayings", "(LNineInMind$Lore;LNineInMind$Courier;I)V"⟩
abbrev cX0_chooseQuestions : ByteArray := prog_2_method_3_code
def yX0_chooseQuestions : MethodName := ⟨RX0, "chooseQuestions", "(LNineInMind$Lore;LNineInMind$Courier;II)V"⟩
abbrev cX0_begin : ByteArray := prog_2_method_4_code
def yX0_begin : MethodName := ⟨RX0, "begin", "(LNineInMind$Courier;I)V"⟩
abbrev cX0_sayOn : ByteArray := prog_2_method_5_code
def yX0_sayOn : MethodName := ⟨RX0, "sayOn", "(LNineInMind$Lore;II)V"⟩
abbrev cX0_askOn : ByteArray := prog_2_method_6_code
def yX0_askOn : MethodName := ⟨RX0, "askOn", "(LNineInMind$Lore;II)V"⟩
abbrev cX0_weigh : ByteArray := prog_2_method_7_code
def yX0_weigh : MethodName := ⟨RX0, "weigh", "(II)V"⟩
abbrev cX0_answer : ByteArray := prog_2_method_8_code
def yX0_answer : MethodName := ⟨RX0, "answer", "(I)I"⟩
def RX1 : String := "NineInMind$Carriers"
def TX1 : u_T := fun k => match k with
  | 0 => ("NineInMind$Carriers", "secrets", "[I", true)
  | 1 => ("NineInMind$Carriers", "each", "I", false)
  | 2 => ("NineInMind$Carriers", "dueOnce", "I", false)
  | _ => ("NineInMind$Carriers", "dueTwice", "I", false)
def tyX1 : Nat → FieldType := fun k => match k with
  | 0 => .array .int
  | 1 => .int
  | 2 => .int
  | _ => .int
theorem nmX1 : ∀ a, a < 4 → ∀ b, b < 4 → a ≠ b → (TX1 a).2.1 ≠ (TX1 b).2.1 := by decide +kernel
theorem tyX1_ok : ∀ k, k < 4 → parseFieldDescriptor (TX1 k).2.2.1 = some (tyX1 k) := by decide +kernel
abbrev cX1_init : ByteArray := prog_3_method_1_code
def yX1_init : MethodName := ⟨RX1, "<init>", "()V"⟩
abbrev cX1_fewest : ByteArray := prog_3_method_2_code
def yX1_fewest : MethodName := ⟨RX1, "fewest", "(LNineInMind$Lore;IIZ)I"⟩
abbrev cX1_loadOf : ByteArray := prog_3_method_3_code
def yX1_loadOf : MethodName := ⟨RX1, "loadOf", "(II)I"⟩
abbrev cX1_leastLoad : ByteArray := prog_3_method_4_code
def yX1_leastLoad : MethodName := ⟨RX1, "leastLoad", "(III)I"⟩
abbrev cX1_canCarry : ByteArray := prog_3_method_5_code
def yX1_canCarry : MethodName := ⟨RX1, "canCarry", "(III)Z"⟩
abbrev cX1_canDivide : ByteArray := prog_3_method_6_code
def yX1_canDivide : MethodName := ⟨RX1, "canDivide", "(IIII)Z"⟩
abbrev cX1_hardestOf : ByteArray := prog_3_method_7_code
def yX1_hardestOf : MethodName := ⟨RX1, "hardestOf", "(I)I"⟩
abbrev cX1_easyOf : ByteArray := prog_3_method_8_code
def yX1_easyOf : MethodName := ⟨RX1, "easyOf", "(II)I"⟩
abbrev cX1_tooMuchAt : ByteArray := prog_3_method_9_code
def yX1_tooMuchAt : MethodName := ⟨RX1, "tooMuchAt", "(I)I"⟩
abbrev cX1_isFull : ByteArray := prog_3_method_10_code
def yX1_isFull : MethodName := ⟨RX1, "isFull", "(II)Z"⟩
def RX2 : String := "NineInMind$Company"
def TX2 : u_T := fun k => match k with
  | 0 => ("NineInMind$Company", "couriers", "[LNineInMind$Courier;", true)
  | 1 => ("NineInMind$Company", "many", "I", false)
  | 2 => ("NineInMind$Company", "breaches", "I", false)
  | _ => ("NineInMind$Company", "drawn", "I", false)
def tyX2 : Nat → FieldType := fun k => match k with
  | 0 => .array (.object "NineInMind$Courier")
  | 1 => .int
  | 2 => .int
  | _ => .int
theorem nmX2 : ∀ a, a < 4 → ∀ b, b < 4 → a ≠ b → (TX2 a).2.1 ≠ (TX2 b).2.1 := by decide +kernel
theorem tyX2_ok : ∀ k, k < 4 → parseFieldDescriptor (TX2 k).2.2.1 = some (tyX2 k) := by decide +kernel
abbrev cX2_init : ByteArray := prog_4_method_1_code
def yX2_init : MethodName := ⟨RX2, "<init>", "()V"⟩
abbrev cX2_likeOf : ByteArray := prog_4_method_2_code
def yX2_likeOf : MethodName := ⟨RX2, "likeOf", "(LNineInMind$Company;)V"⟩
abbrev cX2_isOne : ByteArray := prog_4_method_3_code
def yX2_isOne : MethodName := ⟨RX2, "isOne", "(J)Z"⟩
abbrev cX2_areTwo : ByteArray := prog_4_method_4_code
def yX2_areTwo : MethodName := ⟨RX2, "areTwo", "(JJ)Z"⟩
abbrev cX2_addOne : ByteArray := prog_4_method_5_code
def yX2_addOne : MethodName := ⟨RX2, "addOne", "(I)I"⟩
abbrev cX2_turnedPairs : ByteArray := prog_4_method_6_code
def yX2_turnedPairs : MethodName := ⟨RX2, "turnedPairs", "(LNineInMind$Courier;LNineInMind$Courier;)I"⟩
abbrev cX2_act : ByteArray := prog_4_method_7_code
def yX2_act : MethodName := ⟨RX2, "act", "(LNineInMind$Lore;ILNineInMind$Row;)I"⟩
abbrev cX2_actOnce : ByteArray := prog_4_method_8_code
def yX2_actOnce : MethodName := ⟨RX2, "actOnce", "(LNineInMind$Lore;IJ)Z"⟩
abbrev cX2_hearIfThere : ByteArray := prog_4_method_9_code
def yX2_hearIfThere : MethodName := ⟨RX2, "hearIfThere", "(LNineInMind$Lore;LNineInMind$Courier;J)Z"⟩
abbrev cX2_sayIfHeld : ByteArray := prog_4_method_10_code
def yX2_sayIfHeld : MethodName := ⟨RX2, "sayIfHeld", "(LNineInMind$Lore;LNineInMind$Courier;J)Z"⟩
abbrev cX2_walkIfThere : ByteArray := prog_4_method_11_code
def yX2_walkIfThere : MethodName := ⟨RX2, "walkIfThere", "(LNineInMind$Lore;LNineInMind$Courier;J)Z"⟩
abbrev cX2_listenIfNear : ByteArray := prog_4_method_12_code
def yX2_listenIfNear : MethodName := ⟨RX2, "listenIfNear", "(LNineInMind$Lore;LNineInMind$Courier;LNineInMind$Courier;)Z"⟩
abbrev cX2_spendDay : ByteArray := prog_4_method_13_code
def yX2_spendDay : MethodName := ⟨RX2, "spendDay", "(LNineInMind$Lore;II)I"⟩
abbrev cX2_spendOnce : ByteArray := prog_4_method_14_code
def yX2_spendOnce : MethodName := ⟨RX2, "spendOnce", "(LNineInMind$Lore;LNineInMind$Courier;)V"⟩
abbrev cX2_draw : ByteArray := prog_4_method_15_code
def yX2_draw : MethodName := ⟨RX2, "draw", "()I"⟩
abbrev cX2_lostByAll : ByteArray := prog_4_method_16_code
def yX2_lostByAll : MethodName := ⟨RX2, "lostByAll", "()I"⟩
abbrev cX2_heldByHimAlone : ByteArray := prog_4_method_17_code
def yX2_heldByHimAlone : MethodName := ⟨RX2, "heldByHimAlone", "(I)I"⟩
abbrev cX2_heldBy : ByteArray := prog_4_method_18_code
def yX2_heldBy : MethodName := ⟨RX2, "heldBy", "(I)I"⟩
abbrev cX2_fewestHolding : ByteArray := prog_4_method_19_code
def yX2_fewestHolding : MethodName := ⟨RX2, "fewestHolding", "(I)I"⟩
def RX3 : String := "NineInMind$Courier"
def TX3 : u_T := fun k => match k with
  | 0 => ("NineInMind$Courier", "size", "I", false)
  | 1 => ("NineInMind$Courier", "inn", "I", false)
  | 2 => ("NineInMind$Courier", "many", "I", false)
  | 3 => ("NineInMind$Courier", "held", "I", false)
  | 4 => ("NineInMind$Courier", "mind", "J", false)
  | 5 => ("NineInMind$Courier", "lostMany", "I", false)
  | _ => ("NineInMind$Courier", "lostAt", "[I", true)
def tyX3 : Nat → FieldType := fun k => match k with
  | 0 => .int
  | 1 => .int
  | 2 => .int
  | 3 => .int
  | 4 => .long
  | 5 => .int
  | _ => .array .int
theorem nmX3 : ∀ a, a < 7 → ∀ b, b < 7 → a ≠ b → (TX3 a).2.1 ≠ (TX3 b).2.1 := by decide +kernel
theorem tyX3_ok : ∀ k, k < 7 → parseFieldDescriptor (TX3 k).2.2.1 = some (tyX3 k) := by decide +kernel
abbrev cX3_init : ByteArray := prog_5_method_1_code
def yX3_init : MethodName := ⟨RX3, "<init>", "()V"⟩
abbrev cX3_begin : ByteArray := prog_5_method_2_code
def yX3_begin : MethodName := ⟨RX3, "begin", "(I)V"⟩
abbrev cX3_likeOf : ByteArray := prog_5_method_3_code
def yX3_likeOf : MethodName := ⟨RX3, "likeOf", "(LNineInMind$Courier;)V"⟩
abbrev cX3_likeMindOf : ByteArray := prog_5_method_4_code
def yX3_likeMindOf : MethodName := ⟨RX3, "likeMindOf", "(LNineInMind$Courier;)V"⟩
abbrev cX3_setMind : ByteArray := prog_5_method_5_code
def yX3_setMind : MethodName := ⟨RX3, "setMind", "(JI)V"⟩
abbrev cX3_has : ByteArray := prog_5_method_6_code
def yX3_has : MethodName := ⟨RX3, "has", "(I)Z"⟩
abbrev cX3_thingAt : ByteArray := prog_5_method_7_code
def yX3_thingAt : MethodName := ⟨RX3, "thingAt", "(I)I"⟩
abbrev cX3_placeOf : ByteArray := prog_5_method_8_code
def yX3_placeOf : MethodName := ⟨RX3, "placeOf", "(I)I"⟩
abbrev cX3_hear : ByteArray := prog_5_method_9_code
def yX3_hear : MethodName := ⟨RX3, "hear", "(I)I"⟩
abbrev cX3_bringForward : ByteArray := prog_5_method_10_code
def yX3_bringForward : MethodName := ⟨RX3, "bringForward", "(I)V"⟩
abbrev cX3_loseLast : ByteArray := prog_5_method_11_code
def yX3_loseLast : MethodName := ⟨RX3, "loseLast", "()I"⟩
abbrev cX3_say : ByteArray := prog_5_method_12_code
def yX3_say : MethodName := ⟨RX3, "say", "(LNineInMind$Lore;I)I"⟩
abbrev cX3_walk : ByteArray := prog_5_method_13_code
def yX3_walk : MethodName := ⟨RX3, "walk", "(LNineInMind$Lore;I)I"⟩
abbrev cX3_hearLatestOf : ByteArray := prog_5_method_14_code
def yX3_hearLatestOf : MethodName := ⟨RX3, "hearLatestOf", "(LNineInMind$Courier;)V"⟩
abbrev cX3_recite : ByteArray := prog_5_method_15_code
def yX3_recite : MethodName := ⟨RX3, "recite", "(LNineInMind$Lore;LNineInMind$Row;)I"⟩
abbrev cX3_deliver : ByteArray := prog_5_method_16_code
def yX3_deliver : MethodName := ⟨RX3, "deliver", "(LNineInMind$Lore;)I"⟩
def RX4 : String := "NineInMind$Hearings"
def TX4 : u_T := fun k => match k with
  | 0 => ("NineInMind$Hearings", "row", "[I", true)
  | 1 => ("NineInMind$Hearings", "held", "I", false)
  | 2 => ("NineInMind$Hearings", "many", "I", false)
  | 3 => ("NineInMind$Hearings", "man", "LNineInMind$Courier;", true)
  | 4 => ("NineInMind$Hearings", "listener", "LNineInMind$Courier;", true)
  | 5 => ("NineInMind$Hearings", "way", "LNineInMind$Courier;", true)
  | 6 => ("NineInMind$Hearings", "order", "[I", true)
  | 7 => ("NineInMind$Hearings", "best", "[I", true)
  | 8 => ("NineInMind$Hearings", "bestMany", "I", false)
  | 9 => ("NineInMind$Hearings", "bestSum", "I", false)
  | _ => ("NineInMind$Hearings", "bestCourt", "I", false)
def tyX4 : Nat → FieldType := fun k => match k with
  | 0 => .array .int
  | 1 => .int
  | 2 => .int
  | 3 => .object "NineInMind$Courier"
  | 4 => .object "NineInMind$Courier"
  | 5 => .object "NineInMind$Courier"
  | 6 => .array .int
  | 7 => .array .int
  | 8 => .int
  | 9 => .int
  | _ => .int
theorem nmX4 : ∀ a, a < 11 → ∀ b, b < 11 → a ≠ b → (TX4 a).2.1 ≠ (TX4 b).2.1 := by decide +kernel
theorem tyX4_ok : ∀ k, k < 11 → parseFieldDescriptor (TX4 k).2.2.1 = some (tyX4 k) := by decide +kernel
abbrev cX4_init : ByteArray := prog_6_method_1_code
def yX4_init : MethodName := ⟨RX4, "<init>", "()V"⟩
abbrev cX4_takeRow : ByteArray := prog_6_method_2_code
def yX4_takeRow : MethodName := ⟨RX4, "takeRow", "(LNineInMind$Row;LNineInMind$Lore;)Z"⟩
abbrev cX4_inRow : ByteArray := prog_6_method_3_code
def yX4_inRow : MethodName := ⟨RX4, "inRow", "()I"⟩
abbrev cX4_newOnes : ByteArray := prog_6_method_4_code
def yX4_newOnes : MethodName := ⟨RX4, "newOnes", "(II)I"⟩
abbrev cX4_newByRule : ByteArray := prog_6_method_5_code
def yX4_newByRule : MethodName := ⟨RX4, "newByRule", "(IZ)I"⟩
abbrev cX4_newByForesight : ByteArray := prog_6_method_6_code
def yX4_newByForesight : MethodName := ⟨RX4, "newByForesight", "(I)I"⟩
abbrev cX4_neededLast : ByteArray := prog_6_method_7_code
def yX4_neededLast : MethodName := ⟨RX4, "neededLast", "(I)I"⟩
abbrev cX4_unlikeSinceLast : ByteArray := prog_6_method_8_code
def yX4_unlikeSinceLast : MethodName := ⟨RX4, "unlikeSinceLast", "(I)I"⟩
abbrev cX4_comesThrough : ByteArray := prog_6_method_9_code
def yX4_comesThrough : MethodName := ⟨RX4, "comesThrough", "(LNineInMind$Lore;II)I"⟩
abbrev cX4_tellBest : ByteArray := prog_6_method_10_code
def yX4_tellBest : MethodName := ⟨RX4, "tellBest", "(LNineInMind$Lore;III)V"⟩
abbrev cX4_tellOn : ByteArray := prog_6_method_11_code
def yX4_tellOn : MethodName := ⟨RX4, "tellOn", "(LNineInMind$Lore;II)V"⟩
abbrev cX4_weighOrder : ByteArray := prog_6_method_12_code
def yX4_weighOrder : MethodName := ⟨RX4, "weighOrder", "(LNineInMind$Lore;)V"⟩
abbrev cX4_answerOfTold : ByteArray := prog_6_method_13_code
def yX4_answerOfTold : MethodName := ⟨RX4, "answerOfTold", "(I)I"⟩
def RX5 : String := "NineInMind$Lore"
def TX5 : u_T := fun k => match k with
  | 0 => ("NineInMind$Lore", "things", "I", false)
  | 1 => ("NineInMind$Lore", "mind", "I", false)
  | 2 => ("NineInMind$Lore", "lines", "I", false)
  | 3 => ("NineInMind$Lore", "inns", "I", false)
  | 4 => ("NineInMind$Lore", "rhymes", "[I", true)
  | 5 => ("NineInMind$Lore", "secrets", "[I", true)
  | 6 => ("NineInMind$Lore", "worths", "[I", true)
  | 7 => ("NineInMind$Lore", "newsMany", "[I", true)
  | _ => ("NineInMind$Lore", "newsThings", "[I", true)
def tyX5 : Nat → FieldType := fun k => match k with
  | 0 => .int
  | 1 => .int
  | 2 => .int
  | 3 => .int
  | 4 => .array .int
  | 5 => .array .int
  | 6 => .array .int
  | 7 => .array .int
  | _ => .array .int
theorem nmX5 : ∀ a, a < 9 → ∀ b, b < 9 → a ≠ b → (TX5 a).2.1 ≠ (TX5 b).2.1 := by decide +kernel
theorem tyX5_ok : ∀ k, k < 9 → parseFieldDescriptor (TX5 k).2.2.1 = some (tyX5 k) := by decide +kernel
abbrev cX5_init : ByteArray := prog_7_method_1_code
def yX5_init : MethodName := ⟨RX5, "<init>", "()V"⟩
abbrev cX5_clear : ByteArray := prog_7_method_2_code
def yX5_clear : MethodName := ⟨RX5, "clear", "()V"⟩
abbrev cX5_likeOf : ByteArray := prog_7_method_3_code
def yX5_likeOf : MethodName := ⟨RX5, "likeOf", "(LNineInMind$Lore;)V"⟩
abbrev cX5_isThing : ByteArray := prog_7_method_4_code
def yX5_isThing : MethodName := ⟨RX5, "isThing", "(J)Z"⟩
abbrev cX5_isInn : ByteArray := prog_7_method_5_code
def yX5_isInn : MethodName := ⟨RX5, "isInn", "(J)Z"⟩
abbrev cX5_isSet : ByteArray := prog_7_method_6_code
def yX5_isSet : MethodName := ⟨RX5, "isSet", "(I)Z"⟩
abbrev cX5_allThings : ByteArray := prog_7_method_7_code
def yX5_allThings : MethodName := ⟨RX5, "allThings", "()I"⟩
abbrev cX5_newsAt : ByteArray := prog_7_method_8_code
def yX5_newsAt : MethodName := ⟨RX5, "newsAt", "(II)I"⟩
abbrev cX5_addNews : ByteArray := prog_7_method_9_code
def yX5_addNews : MethodName := ⟨RX5, "addNews", "(II)Z"⟩
abbrev cX5_newsOnWay : ByteArray := prog_7_method_10_code
def yX5_newsOnWay : MethodName := ⟨RX5, "newsOnWay", "(II)I"⟩
abbrev cX5_worthOf : ByteArray := prog_7_method_11_code
def yX5_worthOf : MethodName := ⟨RX5, "worthOf", "(I)I"⟩
abbrev cX5_secretPair : ByteArray := prog_7_method_12_code
def yX5_secretPair : MethodName := ⟨RX5, "secretPair", "(I)I"⟩
abbrev cX5_comeBack : ByteArray := prog_7_method_13_code
def yX5_comeBack : MethodName := ⟨RX5, "comeBack", "(I)I"⟩
def RX6 : String := "NineInMind$Pieces"
def TX6 : u_T := fun k => match k with
  | 0 => ("NineInMind$Pieces", "many", "I", false)
  | 1 => ("NineInMind$Pieces", "lengths", "[I", true)
  | 2 => ("NineInMind$Pieces", "things", "[I", true)
  | 3 => ("NineInMind$Pieces", "overlaps", "[I", true)
  | 4 => ("NineInMind$Pieces", "row", "[I", true)
  | 5 => ("NineInMind$Pieces", "best", "[I", true)
  | _ => ("NineInMind$Pieces", "bestMany", "I", false)
def tyX6 : Nat → FieldType := fun k => match k with
  | 0 => .int
  | 1 => .array .int
  | 2 => .array .int
  | 3 => .array .int
  | 4 => .array .int
  | 5 => .array .int
  | _ => .int
theorem nmX6 : ∀ a, a < 7 → ∀ b, b < 7 → a ≠ b → (TX6 a).2.1 ≠ (TX6 b).2.1 := by decide +kernel
theorem tyX6_ok : ∀ k, k < 7 → parseFieldDescriptor (TX6 k).2.2.1 = some (tyX6 k) := by decide +kernel
abbrev cX6_init : ByteArray := prog_8_method_1_code
def yX6_init : MethodName := ⟨RX6, "<init>", "()V"⟩
abbrev cX6_likeOf : ByteArray := prog_8_method_2_code
def yX6_likeOf : MethodName := ⟨RX6, "likeOf", "(LNineInMind$Pieces;)V"⟩
abbrev cX6_addOne : ByteArray := prog_8_method_3_code
def yX6_addOne : MethodName := ⟨RX6, "addOne", "([II)I"⟩
abbrev cX6_thingOf : ByteArray := prog_8_method_4_code
def yX6_thingOf : MethodName := ⟨RX6, "thingOf", "(II)I"⟩
abbrev cX6_inThem : ByteArray := prog_8_method_5_code
def yX6_inThem : MethodName := ⟨RX6, "inThem", "()I"⟩
abbrev cX6_areUnfit : ByteArray := prog_8_method_6_code
def yX6_areUnfit : MethodName := ⟨RX6, "areUnfit", "(II)Z"⟩
abbrev cX6_isTurned : ByteArray := prog_8_method_7_code
def yX6_isTurned : MethodName := ⟨RX6, "isTurned", "(IIII)Z"⟩
abbrev cX6_firstPlace : ByteArray := prog_8_method_8_code
def yX6_firstPlace : MethodName := ⟨RX6, "firstPlace", "(II)I"⟩
abbrev cX6_join : ByteArray := prog_8_method_9_code
def yX6_join : MethodName := ⟨RX6, "join", "()V"⟩
abbrev cX6_isWithinAnother : ByteArray := prog_8_method_10_code
def yX6_isWithinAnother : MethodName := ⟨RX6, "isWithinAnother", "(I)Z"⟩
abbrev cX6_overlapOf : ByteArray := prog_8_method_11_code
def yX6_overlapOf : MethodName := ⟨RX6, "overlapOf", "(II)I"⟩
abbrev cX6_isSame : ByteArray := prog_8_method_12_code
def yX6_isSame : MethodName := ⟨RX6, "isSame", "(IIII)Z"⟩
abbrev cX6_joinOn : ByteArray := prog_8_method_13_code
def yX6_joinOn : MethodName := ⟨RX6, "joinOn", "(IIII)V"⟩
abbrev cX6_isFirstByThings : ByteArray := prog_8_method_14_code
def yX6_isFirstByThings : MethodName := ⟨RX6, "isFirstByThings", "(I)Z"⟩
def RX7 : String := "NineInMind$Reader"
def TX7 : u_T := fun k => match k with
  | 0 => ("NineInMind$Reader", "lore", "LNineInMind$Lore;", true)
  | 1 => ("NineInMind$Reader", "flaw", "I", false)
  | 2 => ("NineInMind$Reader", "place", "I", false)
  | 3 => ("NineInMind$Reader", "taped", "I", false)
  | 4 => ("NineInMind$Reader", "text", "[B", true)
  | 5 => ("NineInMind$Reader", "length", "I", false)
  | 6 => ("NineInMind$Reader", "at", "I", false)
  | 7 => ("NineInMind$Reader", "start", "I", false)
  | 8 => ("NineInMind$Reader", "kind", "I", false)
  | _ => ("NineInMind$Reader", "number", "I", false)
def tyX7 : Nat → FieldType := fun k => match k with
  | 0 => .object "NineInMind$Lore"
  | 1 => .int
  | 2 => .int
  | 3 => .int
  | 4 => .array .byte
  | 5 => .int
  | 6 => .int
  | 7 => .int
  | 8 => .int
  | _ => .int
theorem nmX7 : ∀ a, a < 10 → ∀ b, b < 10 → a ≠ b → (TX7 a).2.1 ≠ (TX7 b).2.1 := by decide +kernel
theorem tyX7_ok : ∀ k, k < 10 → parseFieldDescriptor (TX7 k).2.2.1 = some (tyX7 k) := by decide +kernel
abbrev cX7_init : ByteArray := prog_9_method_1_code
def yX7_init : MethodName := ⟨RX7, "<init>", "()V"⟩
abbrev cX7_putOnTape : ByteArray := prog_9_method_2_code
def yX7_putOnTape : MethodName := ⟨RX7, "putOnTape", "(I)V"⟩
abbrev cX7_readText : ByteArray := prog_9_method_3_code
def yX7_readText : MethodName := ⟨RX7, "readText", "(I)Z"⟩
abbrev cX7_fail : ByteArray := prog_9_method_4_code
def yX7_fail : MethodName := ⟨RX7, "fail", "(I)Z"⟩
abbrev cX7_readLine : ByteArray := prog_9_method_5_code
def yX7_readLine : MethodName := ⟨RX7, "readLine", "()Z"⟩
abbrev cX7_lineHere : ByteArray := prog_9_method_6_code
def yX7_lineHere : MethodName := ⟨RX7, "lineHere", "()I"⟩
abbrev cX7_readThings : ByteArray := prog_9_method_7_code
def yX7_readThings : MethodName := ⟨RX7, "readThings", "()Z"⟩
abbrev cX7_readMind : ByteArray := prog_9_method_8_code
def yX7_readMind : MethodName := ⟨RX7, "readMind", "()Z"⟩
abbrev cX7_readPair : ByteArray := prog_9_method_9_code
def yX7_readPair : MethodName := ⟨RX7, "readPair", "(Z)Z"⟩
abbrev cX7_readWorth : ByteArray := prog_9_method_10_code
def yX7_readWorth : MethodName := ⟨RX7, "readWorth", "()Z"⟩
abbrev cX7_readInn : ByteArray := prog_9_method_11_code
def yX7_readInn : MethodName := ⟨RX7, "readInn", "()Z"⟩
abbrev cX7_readNumber : ByteArray := prog_9_method_12_code
def yX7_readNumber : MethodName := ⟨RX7, "readNumber", "(III)Z"⟩
abbrev cX7_numberStands : ByteArray := prog_9_method_13_code
def yX7_numberStands : MethodName := ⟨RX7, "numberStands", "(III)Z"⟩
abbrev cX7_readSign : ByteArray := prog_9_method_14_code
def yX7_readSign : MethodName := ⟨RX7, "readSign", "()Z"⟩
abbrev cX7_nextToken : ByteArray := prog_9_method_15_code
def yX7_nextToken : MethodName := ⟨RX7, "nextToken", "()V"⟩
abbrev cX7_takeDigits : ByteArray := prog_9_method_16_code
def yX7_takeDigits : MethodName := ⟨RX7, "takeDigits", "()V"⟩
abbrev cX7_isWord : ByteArray := prog_9_method_17_code
def yX7_isWord : MethodName := ⟨RX7, "isWord", "(Ljava/lang/String;)Z"⟩
abbrev cX7_isLetter : ByteArray := prog_9_method_18_code
def yX7_isLetter : MethodName := ⟨RX7, "isLetter", "(I)Z"⟩
abbrev cX7_isDigit : ByteArray := prog_9_method_19_code
def yX7_isDigit : MethodName := ⟨RX7, "isDigit", "(I)Z"⟩
def RX8 : String := "NineInMind$Row"
def TX8 : u_T := fun k => match k with
  | 0 => ("NineInMind$Row", "values", "[J", true)
  | 1 => ("NineInMind$Row", "many", "I", false)
  | 2 => ("NineInMind$Row", "there", "Z", false)
  | _ => ("NineInMind$Row", "sort", "I", false)
def tyX8 : Nat → FieldType := fun k => match k with
  | 0 => .array .long
  | 1 => .int
  | 2 => .boolean
  | _ => .int
theorem nmX8 : ∀ a, a < 4 → ∀ b, b < 4 → a ≠ b → (TX8 a).2.1 ≠ (TX8 b).2.1 := by decide +kernel
theorem tyX8_ok : ∀ k, k < 4 → parseFieldDescriptor (TX8 k).2.2.1 = some (tyX8 k) := by decide +kernel
abbrev cX8_init : ByteArray := prog_10_method_1_code
def yX8_init : MethodName := ⟨RX8, "<init>", "()V"⟩
abbrev cX8_begin : ByteArray := prog_10_method_2_code
def yX8_begin : MethodName := ⟨RX8, "begin", "(II)V"⟩
abbrev cX8_put : ByteArray := prog_10_method_3_code
def yX8_put : MethodName := ⟨RX8, "put", "(IJ)J"⟩
abbrev cX8_cut : ByteArray := prog_10_method_4_code
def yX8_cut : MethodName := ⟨RX8, "cut", "(J)J"⟩
def RX9 : String := "NineInMind$Seeds"
def TX9 : u_T := fun k => match k with
  | 0 => ("NineInMind$Seeds", "reach", "[I", true)
  | 1 => ("NineInMind$Seeds", "reachUpTo", "[I", true)
  | _ => ("NineInMind$Seeds", "mostUpTo", "[I", true)
def tyX9 : Nat → FieldType := fun k => match k with
  | 0 => .array .int
  | 1 => .array .int
  | _ => .array .int
theorem nmX9 : ∀ a, a < 3 → ∀ b, b < 3 → a ≠ b → (TX9 a).2.1 ≠ (TX9 b).2.1 := by decide +kernel
theorem tyX9_ok : ∀ k, k < 3 → parseFieldDescriptor (TX9 k).2.2.1 = some (tyX9 k) := by decide +kernel
abbrev cX9_init : ByteArray := prog_11_method_1_code
def yX9_init : MethodName := ⟨RX9, "<init>", "()V"⟩
abbrev cX9_fewestFor : ByteArray := prog_11_method_2_code
def yX9_fewestFor : MethodName := ⟨RX9, "fewestFor", "(LNineInMind$Lore;I)I"⟩
abbrev cX9_prepare : ByteArray := prog_11_method_3_code
def yX9_prepare : MethodName := ⟨RX9, "prepare", "(LNineInMind$Lore;I)V"⟩
abbrev cX9_leastSet : ByteArray := prog_11_method_4_code
def yX9_leastSet : MethodName := ⟨RX9, "leastSet", "(III)I"⟩
def RX10 : String := "NineInMind$World"
def TX10 : u_T := fun k => match k with
  | 0 => ("NineInMind$World", "lore", "LNineInMind$Lore;", true)
  | 1 => ("NineInMind$World", "company", "LNineInMind$Company;", true)
  | 2 => ("NineInMind$World", "pieces", "LNineInMind$Pieces;", true)
  | _ => ("NineInMind$World", "made", "Z", false)
def tyX10 : Nat → FieldType := fun k => match k with
  | 0 => .object "NineInMind$Lore"
  | 1 => .object "NineInMind$Company"
  | 2 => .object "NineInMind$Pieces"
  | _ => .boolean
theorem nmX10 : ∀ a, a < 4 → ∀ b, b < 4 → a ≠ b → (TX10 a).2.1 ≠ (TX10 b).2.1 := by decide +kernel
theorem tyX10_ok : ∀ k, k < 4 → parseFieldDescriptor (TX10 k).2.2.1 = some (tyX10 k) := by decide +kernel
abbrev cX10_init : ByteArray := prog_12_method_1_code
def yX10_init : MethodName := ⟨RX10, "<init>", "()V"⟩
abbrev cX10_beginWith : ByteArray := prog_12_method_2_code
def yX10_beginWith : MethodName := ⟨RX10, "beginWith", "(LNineInMind$Lore;)V"⟩
abbrev cX10_likeOf : ByteArray := prog_12_method_3_code
def yX10_likeOf : MethodName := ⟨RX10, "likeOf", "(LNineInMind$World;)V"⟩
def RX11 : String := "NineInMind"
def TX11 : u_T := fun k => match k with
  | 0 => ("NineInMind", "reader", "LNineInMind$Reader;", true)
  | 1 => ("NineInMind", "now", "LNineInMind$World;", true)
  | 2 => ("NineInMind", "known", "LNineInMind$Lore;", true)
  | 3 => ("NineInMind", "company", "LNineInMind$Company;", true)
  | 4 => ("NineInMind", "pieces", "LNineInMind$Pieces;", true)
  | 5 => ("NineInMind", "images", "[LNineInMind$World;", true)
  | 6 => ("NineInMind", "rows", "[LNineInMind$Row;", true)
  | 7 => ("NineInMind", "judged", "LNineInMind$Company;", true)
  | 8 => ("NineInMind", "hearings", "LNineInMind$Hearings;", true)
  | 9 => ("NineInMind", "seeding", "LNineInMind$Seeds;", true)
  | 10 => ("NineInMind", "carriers", "LNineInMind$Carriers;", true)
  | _ => ("NineInMind", "ahead", "LNineInMind$Ahead;", true)
def tyX11 : Nat → FieldType := fun k => match k with
  | 0 => .object "NineInMind$Reader"
  | 1 => .object "NineInMind$World"
  | 2 => .object "NineInMind$Lore"
  | 3 => .object "NineInMind$Company"
  | 4 => .object "NineInMind$Pieces"
  | 5 => .array (.object "NineInMind$World")
  | 6 => .array (.object "NineInMind$Row")
  | 7 => .object "NineInMind$Company"
  | 8 => .object "NineInMind$Hearings"
  | 9 => .object "NineInMind$Seeds"
  | 10 => .object "NineInMind$Carriers"
  | _ => .object "NineInMind$Ahead"
theorem nmX11 : ∀ a, a < 12 → ∀ b, b < 12 → a ≠ b → (TX11 a).2.1 ≠ (TX11 b).2.1 := by decide +kernel
theorem tyX11_ok : ∀ k, k < 12 → parseFieldDescriptor (TX11 k).2.2.1 = some (tyX11 k) := by decide +kernel
abbrev cX11_init : ByteArray := prog_1_method_1_code
def yX11_init : MethodName := ⟨RX11, "<init>", "()V"⟩
abbrev cX11_feed : ByteArray := prog_1_method_2_code
def yX11_feed : MethodName := ⟨RX11, "feed", "(IIIII)I"⟩
abbrev cX11_lore : ByteArray := prog_1_method_3_code
def yX11_lore : MethodName := ⟨RX11, "lore", "(I)I"⟩
abbrev cX11_fault : ByteArray := prog_1_method_4_code
def yX11_fault : MethodName := ⟨RX11, "fault", "(I)I"⟩
abbrev cX11_thing : ByteArray := prog_1_method_5_code
def yX11_thing : MethodName := ⟨RX11, "thing", "(II)I"⟩
abbrev cX11_news : ByteArray := prog_1_method_6_code
def yX11_news : MethodName := ⟨RX11, "news", "(II)I"⟩
abbrev cX11_comes : ByteArray := prog_1_method_7_code
def yX11_comes : MethodName := ⟨RX11, "comes", "(I)I"⟩
abbrev cX11_of : ByteArray := prog_1_method_8_code
def yX11_of : MethodName := ⟨RX11, "of", "(II)I"⟩
abbrev cX11_lost : ByteArray := prog_1_method_9_code
def yX11_lost : MethodName := ⟨RX11, "lost", "(II)I"⟩
abbrev cX11_hears : ByteArray := prog_1_method_10_code
def yX11_hears : MethodName := ⟨RX11, "hears", "(II)I"⟩
abbrev cX11_says : ByteArray := prog_1_method_11_code
def yX11_says : MethodName := ⟨RX11, "says", "(II)I"⟩
abbrev cX11_tells : ByteArray := prog_1_method_12_code
def yX11_tells : MethodName := ⟨RX11, "tells", "(III)I"⟩
abbrev cX11_walks : ByteArray := prog_1_method_13_code
def yX11_walks : MethodName := ⟨RX11, "walks", "(II)I"⟩
abbrev cX11_recites : ByteArray := prog_1_method_14_code
def yX11_recites : MethodName := ⟨RX11, "recites", "(II)I"⟩
abbrev cX11_delivers : ByteArray := prog_1_method_15_code
def yX11_delivers : MethodName := ⟨RX11, "delivers", "(I)I"⟩
abbrev cX11_breach : ByteArray := prog_1_method_16_code
def yX11_breach : MethodName := ⟨RX11, "breach", "()I"⟩
abbrev cX11_risk : ByteArray := prog_1_method_17_code
def yX11_risk : MethodName := ⟨RX11, "risk", "(II)I"⟩
abbrev cX11_loud : ByteArray := prog_1_method_18_code
def yX11_loud : MethodName := ⟨RX11, "loud", "(II)I"⟩
abbrev cX11_turned : ByteArray := prog_1_method_19_code
def yX11_turned : MethodName := ⟨RX11, "turned", "(II)I"⟩
abbrev cX11_judge : ByteArray := prog_1_method_20_code
def yX11_judge : MethodName := ⟨RX11, "judge", "(III)I"⟩
abbrev cX11_perform : ByteArray := prog_1_method_21_code
def yX11_perform : MethodName := ⟨RX11, "perform", "(II)I"⟩
abbrev cX11_day : ByteArray := prog_1_method_22_code
def yX11_day : MethodName := ⟨RX11, "day", "(II)I"⟩
abbrev cX11_fresh : ByteArray := prog_1_method_23_code
def yX11_fresh : MethodName := ⟨RX11, "fresh", "(III)I"⟩
abbrev cX11_kept : ByteArray := prog_1_method_24_code
def yX11_kept : MethodName := ⟨RX11, "kept", "(III)I"⟩
abbrev cX11_less : ByteArray := prog_1_method_25_code
def yX11_less : MethodName := ⟨RX11, "less", "(I)I"⟩
abbrev cX11_enough : ByteArray := prog_1_method_26_code
def yX11_enough : MethodName := ⟨RX11, "enough", "(III)I"⟩
abbrev cX11_farBack : ByteArray := prog_1_method_27_code
def yX11_farBack : MethodName := ⟨RX11, "farBack", "(II)I"⟩
abbrev cX11_through : ByteArray := prog_1_method_28_code
def yX11_through : MethodName := ⟨RX11, "through", "(III)I"⟩
abbrev cX11_sizeFor : ByteArray := prog_1_method_29_code
def yX11_sizeFor : MethodName := ⟨RX11, "sizeFor", "(II)I"⟩
abbrev cX11_told : ByteArray := prog_1_method_30_code
def yX11_told : MethodName := ⟨RX11, "told", "(IIII)I"⟩
abbrev cX11_back : ByteArray := prog_1_method_31_code
def yX11_back : MethodName := ⟨RX11, "back", "(I)I"⟩
abbrev cX11_seeds : ByteArray := prog_1_method_32_code
def yX11_seeds : MethodName := ⟨RX11, "seeds", "(I)I"⟩
abbrev cX11_men : ByteArray := prog_1_method_33_code
def yX11_men : MethodName := ⟨RX11, "men", "(IIZ)I"⟩
abbrev cX11_load : ByteArray := prog_1_method_34_code
def yX11_load : MethodName := ⟨RX11, "load", "(IIZI)I"⟩
abbrev cX11_road : ByteArray := prog_1_method_35_code
def yX11_road : MethodName := ⟨RX11, "road", "(III)I"⟩
abbrev cX11_questions : ByteArray := prog_1_method_36_code
def yX11_questions : MethodName := ⟨RX11, "questions", "(IIII)I"⟩
abbrev cX11_asked : ByteArray := prog_1_method_37_code
def yX11_asked : MethodName := ⟨RX11, "asked", "(I)I"⟩
abbrev cX11_broken : ByteArray := prog_1_method_38_code
def yX11_broken : MethodName := ⟨RX11, "broken", "(II)I"⟩
abbrev cX11_piece : ByteArray := prog_1_method_39_code
def yX11_piece : MethodName := ⟨RX11, "piece", "(I)I"⟩
abbrev cX11_joined : ByteArray := prog_1_method_40_code
def yX11_joined : MethodName := ⟨RX11, "joined", "(I)I"⟩
abbrev cX11_unfit : ByteArray := prog_1_method_41_code
def yX11_unfit : MethodName := ⟨RX11, "unfit", "()I"⟩
abbrev cX11_gaps : ByteArray := prog_1_method_42_code
def yX11_gaps : MethodName := ⟨RX11, "gaps", "()I"⟩
abbrev cX11_numbers : ByteArray := prog_1_method_43_code
def yX11_numbers : MethodName := ⟨RX11, "numbers", "(III)I"⟩
abbrev cX11_write : ByteArray := prog_1_method_44_code
def yX11_write : MethodName := ⟨RX11, "write", "(IIJ)J"⟩
abbrev cX11_copy : ByteArray := prog_1_method_45_code
def yX11_copy : MethodName := ⟨RX11, "copy", "(II)I"⟩
abbrev cX11_image : ByteArray := prog_1_method_46_code
def yX11_image : MethodName := ⟨RX11, "image", "(I)I"⟩
abbrev cX11_restore : ByteArray := prog_1_method_47_code
def yX11_restore : MethodName := ⟨RX11, "restore", "(I)I"⟩
abbrev cX11_count : ByteArray := prog_1_method_48_code
def yX11_count : MethodName := ⟨RX11, "count", "(I)I"⟩
abbrev cX11_refusalOfRow : ByteArray := prog_1_method_49_code
def yX11_refusalOfRow : MethodName := ⟨RX11, "refusalOfRow", "(I)I"⟩
abbrev cX11_refusalOfHearings : ByteArray := prog_1_method_50_code
def yX11_refusalOfHearings : MethodName := ⟨RX11, "refusalOfHearings", "(IIII)I"⟩
abbrev cX11_refusalOfMen : ByteArray := prog_1_method_51_code
def yX11_refusalOfMen : MethodName := ⟨RX11, "refusalOfMen", "(IIZ)I"⟩
abbrev cX11_isSize : ByteArray := prog_1_method_52_code
def yX11_isSize : MethodName := ⟨RX11, "isSize", "(I)Z"⟩
abbrev cX11_isAnswerOrPlace : ByteArray := prog_1_method_53_code
def yX11_isAnswerOrPlace : MethodName := ⟨RX11, "isAnswerOrPlace", "(II)Z"⟩
def RX12 : String := "NineInMindModel"
def TX12 : u_T := fun k => match k with
  | 0 => ("NineInMindModel", "thrown", "I", false)
  | 1 => ("NineInMindModel", "all", "[I", true)
  | 2 => ("NineInMindModel", "hasImage", "[Z", true)
  | 3 => ("NineInMindModel", "tape", "[I", true)
  | 4 => ("NineInMindModel", "fresh", "[I", true)
  | 5 => ("NineInMindModel", "taped", "I", false)
  | 6 => ("NineInMindModel", "at", "I", false)
  | 7 => ("NineInMindModel", "behind", "I", false)
  | 8 => ("NineInMindModel", "size", "I", false)
  | 9 => ("NineInMindModel", "kind", "I", false)
  | 10 => ("NineInMindModel", "number", "I", false)
  | 11 => ("NineInMindModel", "wrong", "I", false)
  | 12 => ("NineInMindModel", "wrongAt", "I", false)
  | 13 => ("NineInMindModel", "faultKind", "I", false)
  | 14 => ("NineInMindModel", "faultPlace", "I", false)
  | 15 => ("NineInMindModel", "stood", "[I", true)
  | 16 => ("NineInMindModel", "keptMen", "[I", true)
  | 17 => ("NineInMindModel", "breaches", "I", false)
  | 18 => ("NineInMindModel", "x", "I", false)
  | 19 => ("NineInMindModel", "heardAt", "[I", true)
  | 20 => ("NineInMindModel", "cameAt", "[I", true)
  | 21 => ("NineInMindModel", "inMind", "I", false)
  | 22 => ("NineInMindModel", "told", "[I", true)
  | 23 => ("NineInMindModel", "bestTold", "[I", true)
  | 24 => ("NineInMindModel", "bestSum", "I", false)
  | 25 => ("NineInMindModel", "bestSet", "I", false)
  | 26 => ("NineInMindModel", "fewest", "[I", true)
  | 27 => ("NineInMindModel", "carried", "I", false)
  | 28 => ("NineInMindModel", "things", "[I", true)
  | 29 => ("NineInMindModel", "weights", "[I", true)
  | 30 => ("NineInMindModel", "canBe", "[Z", true)
  | 31 => ("NineInMindModel", "rowNow", "[I", true)
  | 32 => ("NineInMindModel", "rowBest", "[I", true)
  | 33 => ("NineInMindModel", "bestLong", "I", false)
  | 34 => ("NineInMindModel", "joinedNow", "[I", true)
  | 35 => ("NineInMindModel", "joinedBest", "[I", true)
  | 36 => ("NineInMindModel", "joinedLong", "I", false)
  | 37 => ("NineInMindModel", "rowSort", "[I", true)
  | 38 => ("NineInMindModel", "rowMany", "[I", true)
  | _ => ("NineInMindModel", "numbers", "[J", true)
def tyX12 : Nat → FieldType := fun k => match k with
  | 0 => .int
  | 1 => .array .int
  | 2 => .array .boolean
  | 3 => .array .int
  | 4 => .array .int
  | 5 => .int
  | 6 => .int
  | 7 => .int
  | 8 => .int
  | 9 => .int
  | 10 => .int
  | 11 => .int
  | 12 => .int
  | 13 => .int
  | 14 => .int
  | 15 => .array .int
  | 16 => .array .int
  | 17 => .int
  | 18 => .int
  | 19 => .array .int
  | 20 => .array .int
  | 21 => .int
  | 22 => .array .int
  | 23 => .array .int
  | 24 => .int
  | 25 => .int
  | 26 => .array .int
  | 27 => .int
  | 28 => .array .int
  | 29 => .array .int
  | 30 => .array .boolean
  | 31 => .array .int
  | 32 => .array .int
  | 33 => .int
  | 34 => .array .int
  | 35 => .array .int
  | 36 => .int
  | 37 => .array .int
  | 38 => .array .int
  | _ => .array .long
theorem nmX12 : ∀ a, a < 40 → ∀ b, b < 40 → a ≠ b → (TX12 a).2.1 ≠ (TX12 b).2.1 := by decide +kernel
theorem tyX12_ok : ∀ k, k < 40 → parseFieldDescriptor (TX12 k).2.2.1 = some (tyX12 k) := by decide +kernel
abbrev cX12_within : ByteArray := prog_14_method_2_code
def yX12_within : MethodName := ⟨RX12, "within", "(JJJ)Z"⟩
abbrev cX12_init : ByteArray := prog_14_method_3_code
def yX12_init : MethodName := ⟨RX12, "<init>", "()V"⟩
abbrev cX12_feed : ByteArray := prog_14_method_4_code
def yX12_feed : MethodName := ⟨RX12, "feed", "(IIIII)I"⟩
abbrev cX12_see : ByteArray := prog_14_method_5_code
def yX12_see : MethodName := ⟨RX12, "see", "(I)I"⟩
abbrev cX12_isSmall : ByteArray := prog_14_method_6_code
def yX12_isSmall : MethodName := ⟨RX12, "isSmall", "(I)Z"⟩
abbrev cX12_isDigit : ByteArray := prog_14_method_7_code
def yX12_isDigit : MethodName := ⟨RX12, "isDigit", "(I)Z"⟩
abbrev cX12_keyAt : ByteArray := prog_14_method_8_code
def yX12_keyAt : MethodName := ⟨RX12, "keyAt", "()I"⟩
abbrev cX12_next : ByteArray := prog_14_method_9_code
def yX12_next : MethodName := ⟨RX12, "next", "()V"⟩
abbrev cX12_fails : ByteArray := prog_14_method_10_code
def yX12_fails : MethodName := ⟨RX12, "fails", "(I)V"⟩
abbrev cX12_is : ByteArray := prog_14_method_11_code
def yX12_is : MethodName := ⟨RX12, "is", "(I)Z"⟩
abbrev cX12_eats : ByteArray := prog_14_method_12_code
def yX12_eats : MethodName := ⟨RX12, "eats", "(I)Z"⟩
abbrev cX12_takes : ByteArray := prog_14_method_13_code
def yX12_takes : MethodName := ⟨RX12, "takes", "(II)I"⟩
abbrev cX12_takesThing : ByteArray := prog_14_method_14_code
def yX12_takesThing : MethodName := ⟨RX12, "takesThing", "()I"⟩
abbrev cX12_readThings : ByteArray := prog_14_method_15_code
def yX12_readThings : MethodName := ⟨RX12, "readThings", "()V"⟩
abbrev cX12_readTwo : ByteArray := prog_14_method_16_code
def yX12_readTwo : MethodName := ⟨RX12, "readTwo", "(Z)V"⟩
abbrev cX12_readWorth : ByteArray := prog_14_method_17_code
def yX12_readWorth : MethodName := ⟨RX12, "readWorth", "()V"⟩
abbrev cX12_readInn : ByteArray := prog_14_method_18_code
def yX12_readInn : MethodName := ⟨RX12, "readInn", "()V"⟩
abbrev cX12_readLine : ByteArray := prog_14_method_19_code
def yX12_readLine : MethodName := ⟨RX12, "readLine", "()V"⟩
abbrev cX12_lore : ByteArray := prog_14_method_20_code
def yX12_lore : MethodName := ⟨RX12, "lore", "(I)I"⟩
abbrev cX12_fault : ByteArray := prog_14_method_21_code
def yX12_fault : MethodName := ⟨RX12, "fault", "(I)I"⟩
abbrev cX12_isThing : ByteArray := prog_14_method_22_code
def yX12_isThing : MethodName := ⟨RX12, "isThing", "(J)Z"⟩
abbrev cX12_isInn : ByteArray := prog_14_method_23_code
def yX12_isInn : MethodName := ⟨RX12, "isInn", "(J)Z"⟩
abbrev cX12_isMan : ByteArray := prog_14_method_24_code
def yX12_isMan : MethodName := ⟨RX12, "isMan", "(J)Z"⟩
abbrev cX12_isSet : ByteArray := prog_14_method_25_code
def yX12_isSet : MethodName := ⟨RX12, "isSet", "(I)Z"⟩
abbrev cX12_thing : ByteArray := prog_14_method_26_code
def yX12_thing : MethodName := ⟨RX12, "thing", "(II)I"⟩
abbrev cX12_news : ByteArray := prog_14_method_27_code
def yX12_news : MethodName := ⟨RX12, "news", "(II)I"⟩
abbrev cX12_manAt : ByteArray := prog_14_method_28_code
def yX12_manAt : MethodName := ⟨RX12, "manAt", "(I)I"⟩
abbrev cX12_many : ByteArray := prog_14_method_29_code
def yX12_many : MethodName := ⟨RX12, "many", "(I)I"⟩
abbrev cX12_thingAt : ByteArray := prog_14_method_30_code
def yX12_thingAt : MethodName := ⟨RX12, "thingAt", "(II)I"⟩
abbrev cX12_placeOf : ByteArray := prog_14_method_31_code
def yX12_placeOf : MethodName := ⟨RX12, "placeOf", "(II)I"⟩
abbrev cX12_has : ByteArray := prog_14_method_32_code
def yX12_has : MethodName := ⟨RX12, "has", "(II)Z"⟩
abbrev cX12_bitsIn : ByteArray := prog_14_method_33_code
def yX12_bitsIn : MethodName := ⟨RX12, "bitsIn", "(I)I"⟩
abbrev cX12_worthOf : ByteArray := prog_14_method_34_code
def yX12_worthOf : MethodName := ⟨RX12, "worthOf", "(I)I"⟩
abbrev cX12_empties : ByteArray := prog_14_method_35_code
def yX12_empties : MethodName := ⟨RX12, "empties", "(II)V"⟩
abbrev cX12_hear : ByteArray := prog_14_method_36_code
def yX12_hear : MethodName := ⟨RX12, "hear", "(II)I"⟩
abbrev cX12_say : ByteArray := prog_14_method_37_code
def yX12_say : MethodName := ⟨RX12, "say", "(II)I"⟩
abbrev cX12_walk : ByteArray := prog_14_method_38_code
def yX12_walk : MethodName := ⟨RX12, "walk", "(II)I"⟩
abbrev cX12_deliver : ByteArray := prog_14_method_39_code
def yX12_deliver : MethodName := ⟨RX12, "deliver", "(I)I"⟩
abbrev cX12_comes : ByteArray := prog_14_method_40_code
def yX12_comes : MethodName := ⟨RX12, "comes", "(I)I"⟩
abbrev cX12_of : ByteArray := prog_14_method_41_code
def yX12_of : MethodName := ⟨RX12, "of", "(II)I"⟩
abbrev cX12_lost : ByteArray := prog_14_method_42_code
def yX12_lost : MethodName := ⟨RX12, "lost", "(II)I"⟩
abbrev cX12_hears : ByteArray := prog_14_method_43_code
def yX12_hears : MethodName := ⟨RX12, "hears", "(II)I"⟩
abbrev cX12_says : ByteArray := prog_14_method_44_code
def yX12_says : MethodName := ⟨RX12, "says", "(II)I"⟩
abbrev cX12_tell : ByteArray := prog_14_method_45_code
def yX12_tell : MethodName := ⟨RX12, "tell", "(III)I"⟩
abbrev cX12_tells : ByteArray := prog_14_method_46_code
def yX12_tells : MethodName := ⟨RX12, "tells", "(III)I"⟩
abbrev cX12_walks : ByteArray := prog_14_method_47_code
def yX12_walks : MethodName := ⟨RX12, "walks", "(II)I"⟩
abbrev cX12_recites : ByteArray := prog_14_method_48_code
def yX12_recites : MethodName := ⟨RX12, "recites", "(II)I"⟩
abbrev cX12_delivers : ByteArray := prog_14_method_49_code
def yX12_delivers : MethodName := ⟨RX12, "delivers", "(I)I"⟩
abbrev cX12_isBreach : ByteArray := prog_14_method_50_code
def yX12_isBreach : MethodName := ⟨RX12, "isBreach", "(I)Z"⟩
abbrev cX12_breach : ByteArray := prog_14_method_51_code
def yX12_breach : MethodName := ⟨RX12, "breach", "()I"⟩
abbrev cX12_triesAs : ByteArray := prog_14_method_52_code
def yX12_triesAs : MethodName := ⟨RX12, "triesAs", "(I)V"⟩
abbrev cX12_risk : ByteArray := prog_14_method_53_code
def yX12_risk : MethodName := ⟨RX12, "risk", "(II)I"⟩
abbrev cX12_loud : ByteArray := prog_14_method_54_code
def yX12_loud : MethodName := ⟨RX12, "loud", "(II)I"⟩
abbrev cX12_bitsOf : ByteArray := prog_14_method_55_code
def yX12_bitsOf : MethodName := ⟨RX12, "bitsOf", "(I)I"⟩
abbrev cX12_turned : ByteArray := prog_14_method_56_code
def yX12_turned : MethodName := ⟨RX12, "turned", "(II)I"⟩
abbrev cX12_acts : ByteArray := prog_14_method_57_code
def yX12_acts : MethodName := ⟨RX12, "acts", "(IJ)Z"⟩
abbrev cX12_actsAll : ByteArray := prog_14_method_58_code
def yX12_actsAll : MethodName := ⟨RX12, "actsAll", "(II)I"⟩
abbrev cX12_judge : ByteArray := prog_14_method_59_code
def yX12_judge : MethodName := ⟨RX12, "judge", "(III)I"⟩
abbrev cX12_perform : ByteArray := prog_14_method_60_code
def yX12_perform : MethodName := ⟨RX12, "perform", "(II)I"⟩
abbrev cX12_draw : ByteArray := prog_14_method_61_code
def yX12_draw : MethodName := ⟨RX12, "draw", "(I)I"⟩
abbrev cX12_day : ByteArray := prog_14_method_62_code
def yX12_day : MethodName := ⟨RX12, "day", "(II)I"⟩
abbrev cX12_areThings : ByteArray := prog_14_method_63_code
def yX12_areThings : MethodName := ⟨RX12, "areThings", "(I)Z"⟩
abbrev cX12_nextAt : ByteArray := prog_14_method_64_code
def yX12_nextAt : MethodName := ⟨RX12, "nextAt", "(III)I"⟩
abbrev cX12_driven : ByteArray := prog_14_method_65_code
def yX12_driven : MethodName := ⟨RX12, "driven", "(III)I"⟩
abbrev cX12_freshOf : ByteArray := prog_14_method_66_code
def yX12_freshOf : MethodName := ⟨RX12, "freshOf", "(III)I"⟩
abbrev cX12_fresh : ByteArray := prog_14_method_67_code
def yX12_fresh : MethodName := ⟨RX12, "fresh", "(III)I"⟩
abbrev cX12_kept : ByteArray := prog_14_method_68_code
def yX12_kept : MethodName := ⟨RX12, "kept", "(III)I"⟩
abbrev cX12_less : ByteArray := prog_14_method_69_code
def yX12_less : MethodName := ⟨RX12, "less", "(I)I"⟩
abbrev cX12_enough : ByteArray := prog_14_method_70_code
def yX12_enough : MethodName := ⟨RX12, "enough", "(III)I"⟩
abbrev cX12_farBack : ByteArray := prog_14_method_71_code
def yX12_farBack : MethodName := ⟨RX12, "farBack", "(II)I"⟩
abbrev cX12_throughOf : ByteArray := prog_14_method_72_code
def yX12_throughOf : MethodName := ⟨RX12, "throughOf", "(III)I"⟩
abbrev cX12_tellsRow : ByteArray := prog_14_method_73_code
def yX12_tellsRow : MethodName := ⟨RX12, "tellsRow", "(I)V"⟩
abbrev cX12_through : ByteArray := prog_14_method_74_code
def yX12_through : MethodName := ⟨RX12, "through", "(III)I"⟩
abbrev cX12_sizeFor : ByteArray := prog_14_method_75_code
def yX12_sizeFor : MethodName := ⟨RX12, "sizeFor", "(II)I"⟩
abbrev cX12_tellsAll : ByteArray := prog_14_method_76_code
def yX12_tellsAll : MethodName := ⟨RX12, "tellsAll", "(IIII)V"⟩
abbrev cX12_told : ByteArray := prog_14_method_77_code
def yX12_told : MethodName := ⟨RX12, "told", "(IIII)I"⟩
abbrev cX12_backOf : ByteArray := prog_14_method_78_code
def yX12_backOf : MethodName := ⟨RX12, "backOf", "(I)I"⟩
abbrev cX12_back : ByteArray := prog_14_method_79_code
def yX12_back : MethodName := ⟨RX12, "back", "(I)I"⟩
abbrev cX12_seeds : ByteArray := prog_14_method_80_code
def yX12_seeds : MethodName := ⟨RX12, "seeds", "(I)I"⟩
abbrev cX12_canCarry : ByteArray := prog_14_method_81_code
def yX12_canCarry : MethodName := ⟨RX12, "canCarry", "(II)Z"⟩
abbrev cX12_leftIn : ByteArray := prog_14_method_82_code
def yX12_leftIn : MethodName := ⟨RX12, "leftIn", "(IZ)I"⟩
abbrev cX12_without : ByteArray := prog_14_method_83_code
def yX12_without : MethodName := ⟨RX12, "without", "(II)I"⟩
abbrev cX12_asThings : ByteArray := prog_14_method_84_code
def yX12_asThings : MethodName := ⟨RX12, "asThings", "(I)I"⟩
abbrev cX12_laysMen : ByteArray := prog_14_method_85_code
def yX12_laysMen : MethodName := ⟨RX12, "laysMen", "(IIZ)I"⟩
abbrev cX12_refusesMen : ByteArray := prog_14_method_86_code
def yX12_refusesMen : MethodName := ⟨RX12, "refusesMen", "(IIZ)I"⟩
abbrev cX12_men : ByteArray := prog_14_method_87_code
def yX12_men : MethodName := ⟨RX12, "men", "(IIZ)I"⟩
abbrev cX12_load : ByteArray := prog_14_method_88_code
def yX12_load : MethodName := ⟨RX12, "load", "(IIZI)I"⟩
abbrev cX12_isBest : ByteArray := prog_14_method_89_code
def yX12_isBest : MethodName := ⟨RX12, "isBest", "(II)V"⟩
abbrev cX12_rowsOf : ByteArray := prog_14_method_90_code
def yX12_rowsOf : MethodName := ⟨RX12, "rowsOf", "(IIIII)V"⟩
abbrev cX12_toldBest : ByteArray := prog_14_method_91_code
def yX12_toldBest : MethodName := ⟨RX12, "toldBest", "(I)I"⟩
abbrev cX12_isWhat : ByteArray := prog_14_method_92_code
def yX12_isWhat : MethodName := ⟨RX12, "isWhat", "(I)Z"⟩
abbrev cX12_road : ByteArray := prog_14_method_93_code
def yX12_road : MethodName := ⟨RX12, "road", "(III)I"⟩
abbrev cX12_questions : ByteArray := prog_14_method_94_code
def yX12_questions : MethodName := ⟨RX12, "questions", "(IIII)I"⟩
abbrev cX12_asked : ByteArray := prog_14_method_95_code
def yX12_asked : MethodName := ⟨RX12, "asked", "(I)I"⟩
abbrev cX12_broken : ByteArray := prog_14_method_96_code
def yX12_broken : MethodName := ⟨RX12, "broken", "(II)I"⟩
abbrev cX12_piece : ByteArray := prog_14_method_97_code
def yX12_piece : MethodName := ⟨RX12, "piece", "(I)I"⟩
abbrev cX12_stands : ByteArray := prog_14_method_98_code
def yX12_stands : MethodName := ⟨RX12, "stands", "(I[III)Z"⟩
abbrev cX12_isWithin : ByteArray := prog_14_method_99_code
def yX12_isWithin : MethodName := ⟨RX12, "isWithin", "(I)Z"⟩
abbrev cX12_lays : ByteArray := prog_14_method_100_code
def yX12_lays : MethodName := ⟨RX12, "lays", "(II)I"⟩
abbrev cX12_isFirst : ByteArray := prog_14_method_101_code
def yX12_isFirst : MethodName := ⟨RX12, "isFirst", "(I)Z"⟩
abbrev cX12_joins : ByteArray := prog_14_method_102_code
def yX12_joins : MethodName := ⟨RX12, "joins", "(II)V"⟩
abbrev cX12_joined : ByteArray := prog_14_method_103_code
def yX12_joined : MethodName := ⟨RX12, "joined", "(I)I"⟩
abbrev cX12_firstIn : ByteArray := prog_14_method_104_code
def yX12_firstIn : MethodName := ⟨RX12, "firstIn", "(II)I"⟩
abbrev cX12_areUnfit : ByteArray := prog_14_method_105_code
def yX12_areUnfit : MethodName := ⟨RX12, "areUnfit", "(II)Z"⟩
abbrev cX12_unfit : ByteArray := prog_14_method_106_code
def yX12_unfit : MethodName := ⟨RX12, "unfit", "()I"⟩
abbrev cX12_gaps : ByteArray := prog_14_method_107_code
def yX12_gaps : MethodName := ⟨RX12, "gaps", "()I"⟩
abbrev cX12_cut : ByteArray := prog_14_method_108_code
def yX12_cut : MethodName := ⟨RX12, "cut", "(JI)J"⟩
abbrev cX12_numbers : ByteArray := prog_14_method_109_code
def yX12_numbers : MethodName := ⟨RX12, "numbers", "(III)I"⟩
abbrev cX12_write : ByteArray := prog_14_method_110_code
def yX12_write : MethodName := ⟨RX12, "write", "(IIJ)J"⟩
abbrev cX12_copy : ByteArray := prog_14_method_111_code
def yX12_copy : MethodName := ⟨RX12, "copy", "(II)I"⟩
abbrev cX12_image : ByteArray := prog_14_method_112_code
def yX12_image : MethodName := ⟨RX12, "image", "(I)I"⟩
abbrev cX12_restore : ByteArray := prog_14_method_113_code
def yX12_restore : MethodName := ⟨RX12, "restore", "(I)I"⟩
abbrev cX12_count : ByteArray := prog_14_method_114_code
def yX12_count : MethodName := ⟨RX12, "count", "(I)I"⟩
def RJ6 : String := "java/lang/Integer"
abbrev cJ6_bitCount_0f7a4 : ByteArray := prog_15_method_49_code
def yJ6_bitCount_0f7a4 : MethodName := ⟨RJ6, "bitCount", "(I)I"⟩
def RJ9 : String := "java/lang/Math"
abbrev cJ9_abs_0f7a4 : ByteArray := prog_16_method_59_code
def yJ9_abs_0f7a4 : MethodName := ⟨RJ9, "abs", "(I)I"⟩
abbrev cJ9_max_7cf53 : ByteArray := prog_16_method_65_code
def yJ9_max_7cf53 : MethodName := ⟨RJ9, "max", "(II)I"⟩
abbrev cJ9_min_7cf53 : ByteArray := prog_16_method_69_code
def yJ9_min_7cf53 : MethodName := ⟨RJ9, "min", "(II)I"⟩
def RJ7 : String := "java/util/Arrays"
abbrev cJ7_fill_d0a16 : ByteArray := prog_21_method_101_code
def yJ7_fill_d0a16 : MethodName := ⟨RJ7, "fill", "([JJ)V"⟩
abbrev cJ7_fill_53178 : ByteArray := prog_21_method_103_code
def yJ7_fill_53178 : MethodName := ⟨RJ7, "fill", "([II)V"⟩
end

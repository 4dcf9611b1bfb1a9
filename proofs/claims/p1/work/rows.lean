section
-- ===== PART A: goes FIRST, ahead of the names: the tables' words, and 'selects' of the private methods out of them =====
/-- a private method of a class that the tables say can be made, by its rows of tables_1 -/
def lw_okq (q : MethodName × Nat) : Prop := (q.1.cls ≠ "java/lang/invoke/MethodHandle" ∧ q.1.cls ≠ "java/lang/invoke/VarHandle") ∧ Cond.instantiable q.1.cls q.2 ∈ tables_1 ∧ Cond.privateMethod q.1 ∈ tables_1 ∧ Cond.instanceMethod q.1 ∈ tables_1
theorem lw_p0 : lw_okq (⟨"java/lang/Throwable", "fillInStackTrace", "(I)Ljava/lang/Throwable;"⟩, 6) := ⟨⟨by decide +kernel, by decide +kernel⟩, List.mem_of_getElem? (i := 483) (by decide +kernel), List.mem_of_getElem? (i := 481) (by decide +kernel), List.mem_of_getElem? (i := 482) (by decide +kernel)⟩
theorem lw_p1 : lw_okq (⟨"NotationPress$Items", "isBodySound", "(I)Z"⟩, 5) := ⟨⟨by decide +kernel, by decide +kernel⟩, List.mem_of_getElem? (i := 31) (by decide +kernel), List.mem_of_getElem? (i := 597) (by decide +kernel), List.mem_of_getElem? (i := 598) (by decide +kernel)⟩
theorem lw_p2 : lw_okq (⟨"NotationPress$Items", "isTellerSound", "(I)Z"⟩, 5) := ⟨⟨by decide +kernel, by decide +kernel⟩, List.mem_of_getElem? (i := 31) (by decide +kernel), List.mem_of_getElem? (i := 605) (by decide +kernel), List.mem_of_getElem? (i := 606) (by decide +kernel)⟩
theorem lw_p3 : lw_okq (⟨"NotationPress", "descriptionOf", "(I)LNotationPress$Description;"⟩, 14) := ⟨⟨by decide +kernel, by decide +kernel⟩, List.mem_of_getElem? (i := 23) (by decide +kernel), List.mem_of_getElem? (i := 630) (by decide +kernel), List.mem_of_getElem? (i := 631) (by decide +kernel)⟩
theorem lw_p4 : lw_okq (⟨"NotationPress$Description", "holds", "(I[I)Z"⟩, 7) := ⟨⟨by decide +kernel, by decide +kernel⟩, List.mem_of_getElem? (i := 242) (by decide +kernel), List.mem_of_getElem? (i := 707) (by decide +kernel), List.mem_of_getElem? (i := 708) (by decide +kernel)⟩
theorem lw_p5 : lw_okq (⟨"NotationPress$Sampler", "levelAt", "(I)LNotationPress$Trace;"⟩, 5) := ⟨⟨by decide +kernel, by decide +kernel⟩, List.mem_of_getElem? (i := 195) (by decide +kernel), List.mem_of_getElem? (i := 733) (by decide +kernel), List.mem_of_getElem? (i := 734) (by decide +kernel)⟩
theorem lw_p6 : lw_okq (⟨"NotationPress$Trace", "leaveLoop", "()V"⟩, 9) := ⟨⟨by decide +kernel, by decide +kernel⟩, List.mem_of_getElem? (i := 75) (by decide +kernel), List.mem_of_getElem? (i := 743) (by decide +kernel), List.mem_of_getElem? (i := 744) (by decide +kernel)⟩
theorem lw_p7 : lw_okq (⟨"NotationPress$Sampler", "comeTo", "(LNotationPress$Items;LNotationPress$Trace;)V"⟩, 5) := ⟨⟨by decide +kernel, by decide +kernel⟩, List.mem_of_getElem? (i := 195) (by decide +kernel), List.mem_of_getElem? (i := 747) (by decide +kernel), List.mem_of_getElem? (i := 748) (by decide +kernel)⟩
theorem lw_p8 : lw_okq (⟨"NotationPress$Printer", "printSlot", "(LNotationPress$Items;[I)Z"⟩, 3) := ⟨⟨by decide +kernel, by decide +kernel⟩, List.mem_of_getElem? (i := 69) (by decide +kernel), List.mem_of_getElem? (i := 794) (by decide +kernel), List.mem_of_getElem? (i := 795) (by decide +kernel)⟩
theorem lw_p9 : lw_okq (⟨"NotationPress$Printer", "writeNumber", "(III)Z"⟩, 3) := ⟨⟨by decide +kernel, by decide +kernel⟩, List.mem_of_getElem? (i := 69) (by decide +kernel), List.mem_of_getElem? (i := 819) (by decide +kernel), List.mem_of_getElem? (i := 820) (by decide +kernel)⟩
theorem lw_p10 : lw_okq (⟨"NotationPress$Printer", "write", "(I)Z"⟩, 3) := ⟨⟨by decide +kernel, by decide +kernel⟩, List.mem_of_getElem? (i := 69) (by decide +kernel), List.mem_of_getElem? (i := 829) (by decide +kernel), List.mem_of_getElem? (i := 830) (by decide +kernel)⟩
theorem lw_p11 : lw_okq (⟨"NotationPress$Printer", "writeWord", "(II)Z"⟩, 3) := ⟨⟨by decide +kernel, by decide +kernel⟩, List.mem_of_getElem? (i := 69) (by decide +kernel), List.mem_of_getElem? (i := 840) (by decide +kernel), List.mem_of_getElem? (i := 841) (by decide +kernel)⟩
theorem lw_p12 : lw_okq (⟨"NotationPress$Printer", "writeFills", "(II)Z"⟩, 3) := ⟨⟨by decide +kernel, by decide +kernel⟩, List.mem_of_getElem? (i := 69) (by decide +kernel), List.mem_of_getElem? (i := 855) (by decide +kernel), List.mem_of_getElem? (i := 856) (by decide +kernel)⟩
theorem lw_p13 : lw_okq (⟨"NotationPress$Printer", "writeBits", "(II)Z"⟩, 3) := ⟨⟨by decide +kernel, by decide +kernel⟩, List.mem_of_getElem? (i := 69) (by decide +kernel), List.mem_of_getElem? (i := 859) (by decide +kernel), List.mem_of_getElem? (i := 860) (by decide +kernel)⟩
theorem lw_p14 : lw_okq (⟨"NotationPress$Printer", "printSign", "(LNotationPress$Items;)Z"⟩, 3) := ⟨⟨by decide +kernel, by decide +kernel⟩, List.mem_of_getElem? (i := 69) (by decide +kernel), List.mem_of_getElem? (i := 864) (by decide +kernel), List.mem_of_getElem? (i := 865) (by decide +kernel)⟩
theorem lw_p15 : lw_okq (⟨"NotationPress$Printer", "writePlace", "(I)Z"⟩, 3) := ⟨⟨by decide +kernel, by decide +kernel⟩, List.mem_of_getElem? (i := 69) (by decide +kernel), List.mem_of_getElem? (i := 873) (by decide +kernel), List.mem_of_getElem? (i := 874) (by decide +kernel)⟩
def lw_privs_1 : List (MethodName × Nat) := [(⟨"java/lang/Throwable", "fillInStackTrace", "(I)Ljava/lang/Throwable;"⟩, 6), (⟨"NotationPress$Items", "isBodySound", "(I)Z"⟩, 5), (⟨"NotationPress$Items", "isTellerSound", "(I)Z"⟩, 5), (⟨"NotationPress", "descriptionOf", "(I)LNotationPress$Description;"⟩, 14), (⟨"NotationPress$Description", "holds", "(I[I)Z"⟩, 7), (⟨"NotationPress$Sampler", "levelAt", "(I)LNotationPress$Trace;"⟩, 5), (⟨"NotationPress$Trace", "leaveLoop", "()V"⟩, 9), (⟨"NotationPress$Sampler", "comeTo", "(LNotationPress$Items;LNotationPress$Trace;)V"⟩, 5), (⟨"NotationPress$Printer", "printSlot", "(LNotationPress$Items;[I)Z"⟩, 3), (⟨"NotationPress$Printer", "writeNumber", "(III)Z"⟩, 3), (⟨"NotationPress$Printer", "write", "(I)Z"⟩, 3), (⟨"NotationPress$Printer", "writeWord", "(II)Z"⟩, 3), (⟨"NotationPress$Printer", "writeFills", "(II)Z"⟩, 3), (⟨"NotationPress$Printer", "writeBits", "(II)Z"⟩, 3), (⟨"NotationPress$Printer", "printSign", "(LNotationPress$Items;)Z"⟩, 3), (⟨"NotationPress$Printer", "writePlace", "(I)Z"⟩, 3)]
theorem lw_r1 : ∀ q ∈ lw_privs_1, lw_okq q := List.forall_mem_cons.mpr ⟨lw_p0, List.forall_mem_cons.mpr ⟨lw_p1, List.forall_mem_cons.mpr ⟨lw_p2, List.forall_mem_cons.mpr ⟨lw_p3, List.forall_mem_cons.mpr ⟨lw_p4, List.forall_mem_cons.mpr ⟨lw_p5, List.forall_mem_cons.mpr ⟨lw_p6, List.forall_mem_cons.mpr ⟨lw_p7, List.forall_mem_cons.mpr ⟨lw_p8, List.forall_mem_cons.mpr ⟨lw_p9, List.forall_mem_cons.mpr ⟨lw_p10, List.forall_mem_cons.mpr ⟨lw_p11, List.forall_mem_cons.mpr ⟨lw_p12, List.forall_mem_cons.mpr ⟨lw_p13, List.forall_mem_cons.mpr ⟨lw_p14, List.forall_mem_cons.mpr ⟨lw_p15, fun _ h => absurd h List.not_mem_nil⟩⟩⟩⟩⟩⟩⟩⟩⟩⟩⟩⟩⟩⟩⟩⟩
theorem lw_p16 : lw_okq (⟨"NotationPress$Sampler", "tryNext", "(LNotationPress$Description;LNotationPress$Trace;I)V"⟩, 5) := ⟨⟨by decide +kernel, by decide +kernel⟩, List.mem_of_getElem? (i := 195) (by decide +kernel), List.mem_of_getElem? (i := 879) (by decide +kernel), List.mem_of_getElem? (i := 880) (by decide +kernel)⟩
theorem lw_p17 : lw_okq (⟨"NotationPress", "fileOf", "(I)LNotationPress$Text;"⟩, 14) := ⟨⟨by decide +kernel, by decide +kernel⟩, List.mem_of_getElem? (i := 23) (by decide +kernel), List.mem_of_getElem? (i := 904) (by decide +kernel), List.mem_of_getElem? (i := 905) (by decide +kernel)⟩
theorem lw_p18 : lw_okq (⟨"NotationPress$Reader", "beginningAt", "(I)LNotationPress$Trace;"⟩, 11) := ⟨⟨by decide +kernel, by decide +kernel⟩, List.mem_of_getElem? (i := 129) (by decide +kernel), List.mem_of_getElem? (i := 974) (by decide +kernel), List.mem_of_getElem? (i := 975) (by decide +kernel)⟩
theorem lw_p19 : lw_okq (⟨"NotationPress$Reader", "branch", "()V"⟩, 11) := ⟨⟨by decide +kernel, by decide +kernel⟩, List.mem_of_getElem? (i := 129) (by decide +kernel), List.mem_of_getElem? (i := 985) (by decide +kernel), List.mem_of_getElem? (i := 986) (by decide +kernel)⟩
theorem lw_p20 : lw_okq (⟨"NotationPress$Reader", "readNumber", "()V"⟩, 11) := ⟨⟨by decide +kernel, by decide +kernel⟩, List.mem_of_getElem? (i := 129) (by decide +kernel), List.mem_of_getElem? (i := 990) (by decide +kernel), List.mem_of_getElem? (i := 991) (by decide +kernel)⟩
theorem lw_p21 : lw_okq (⟨"NotationPress$Reader", "ahead", "(I)I"⟩, 11) := ⟨⟨by decide +kernel, by decide +kernel⟩, List.mem_of_getElem? (i := 129) (by decide +kernel), List.mem_of_getElem? (i := 995) (by decide +kernel), List.mem_of_getElem? (i := 996) (by decide +kernel)⟩
theorem lw_p22 : lw_okq (⟨"NotationPress$Reader", "keepWay", "(III)V"⟩, 11) := ⟨⟨by decide +kernel, by decide +kernel⟩, List.mem_of_getElem? (i := 129) (by decide +kernel), List.mem_of_getElem? (i := 1005) (by decide +kernel), List.mem_of_getElem? (i := 1006) (by decide +kernel)⟩
theorem lw_p23 : lw_okq (⟨"NotationPress$Reader", "readWord", "()V"⟩, 11) := ⟨⟨by decide +kernel, by decide +kernel⟩, List.mem_of_getElem? (i := 129) (by decide +kernel), List.mem_of_getElem? (i := 1013) (by decide +kernel), List.mem_of_getElem? (i := 1014) (by decide +kernel)⟩
theorem lw_p24 : lw_okq (⟨"NotationPress$Reader", "gatherWords", "(I)I"⟩, 11) := ⟨⟨by decide +kernel, by decide +kernel⟩, List.mem_of_getElem? (i := 129) (by decide +kernel), List.mem_of_getElem? (i := 1018) (by decide +kernel), List.mem_of_getElem? (i := 1019) (by decide +kernel)⟩
theorem lw_p25 : lw_okq (⟨"NotationPress$Reader", "letterAhead", "(I)I"⟩, 11) := ⟨⟨by decide +kernel, by decide +kernel⟩, List.mem_of_getElem? (i := 129) (by decide +kernel), List.mem_of_getElem? (i := 1023) (by decide +kernel), List.mem_of_getElem? (i := 1024) (by decide +kernel)⟩
theorem lw_p26 : lw_okq (⟨"NotationPress$Reader", "areFills", "(III)Z"⟩, 11) := ⟨⟨by decide +kernel, by decide +kernel⟩, List.mem_of_getElem? (i := 129) (by decide +kernel), List.mem_of_getElem? (i := 1031) (by decide +kernel), List.mem_of_getElem? (i := 1032) (by decide +kernel)⟩
theorem lw_p27 : lw_okq (⟨"NotationPress$Reader", "readOpen", "()V"⟩, 11) := ⟨⟨by decide +kernel, by decide +kernel⟩, List.mem_of_getElem? (i := 129) (by decide +kernel), List.mem_of_getElem? (i := 1035) (by decide +kernel), List.mem_of_getElem? (i := 1036) (by decide +kernel)⟩
theorem lw_p28 : lw_okq (⟨"NotationPress$Reader", "readBits", "()V"⟩, 11) := ⟨⟨by decide +kernel, by decide +kernel⟩, List.mem_of_getElem? (i := 129) (by decide +kernel), List.mem_of_getElem? (i := 1039) (by decide +kernel), List.mem_of_getElem? (i := 1040) (by decide +kernel)⟩
theorem lw_p29 : lw_okq (⟨"NotationPress$Reader", "readCount", "()V"⟩, 11) := ⟨⟨by decide +kernel, by decide +kernel⟩, List.mem_of_getElem? (i := 129) (by decide +kernel), List.mem_of_getElem? (i := 1043) (by decide +kernel), List.mem_of_getElem? (i := 1044) (by decide +kernel)⟩
theorem lw_p30 : lw_okq (⟨"NotationPress$Reader", "readUnit", "(I)V"⟩, 11) := ⟨⟨by decide +kernel, by decide +kernel⟩, List.mem_of_getElem? (i := 129) (by decide +kernel), List.mem_of_getElem? (i := 1047) (by decide +kernel), List.mem_of_getElem? (i := 1048) (by decide +kernel)⟩
theorem lw_p31 : lw_okq (⟨"NotationPress$Reader", "readPlace", "(I)V"⟩, 11) := ⟨⟨by decide +kernel, by decide +kernel⟩, List.mem_of_getElem? (i := 129) (by decide +kernel), List.mem_of_getElem? (i := 1053) (by decide +kernel), List.mem_of_getElem? (i := 1054) (by decide +kernel)⟩
def lw_privs_2 : List (MethodName × Nat) := [(⟨"NotationPress$Sampler", "tryNext", "(LNotationPress$Description;LNotationPress$Trace;I)V"⟩, 5), (⟨"NotationPress", "fileOf", "(I)LNotationPress$Text;"⟩, 14), (⟨"NotationPress$Reader", "beginningAt", "(I)LNotationPress$Trace;"⟩, 11), (⟨"NotationPress$Reader", "branch", "()V"⟩, 11), (⟨"NotationPress$Reader", "readNumber", "()V"⟩, 11), (⟨"NotationPress$Reader", "ahead", "(I)I"⟩, 11), (⟨"NotationPress$Reader", "keepWay", "(III)V"⟩, 11), (⟨"NotationPress$Reader", "readWord", "()V"⟩, 11), (⟨"NotationPress$Reader", "gatherWords", "(I)I"⟩, 11), (⟨"NotationPress$Reader", "letterAhead", "(I)I"⟩, 11), (⟨"NotationPress$Reader", "areFills", "(III)Z"⟩, 11), (⟨"NotationPress$Reader", "readOpen", "()V"⟩, 11), (⟨"NotationPress$Reader", "readBits", "()V"⟩, 11), (⟨"NotationPress$Reader", "readCount", "()V"⟩, 11), (⟨"NotationPress$Reader", "readUnit", "(I)V"⟩, 11), (⟨"NotationPress$Reader", "readPlace", "(I)V"⟩, 11)]
theorem lw_r2 : ∀ q ∈ lw_privs_2, lw_okq q := List.forall_mem_cons.mpr ⟨lw_p16, List.forall_mem_cons.mpr ⟨lw_p17, List.forall_mem_cons.mpr ⟨lw_p18, List.forall_mem_cons.mpr ⟨lw_p19, List.forall_mem_cons.mpr ⟨lw_p20, List.forall_mem_cons.mpr ⟨lw_p21, List.forall_mem_cons.mpr ⟨lw_p22, List.forall_mem_cons.mpr ⟨lw_p23, List.forall_mem_cons.mpr ⟨lw_p24, List.forall_mem_cons.mpr ⟨lw_p25, List.forall_mem_cons.mpr ⟨lw_p26, List.forall_mem_cons.mpr ⟨lw_p27, List.forall_mem_cons.mpr ⟨lw_p28, List.forall_mem_cons.mpr ⟨lw_p29, List.forall_mem_cons.mpr ⟨lw_p30, List.forall_mem_cons.mpr ⟨lw_p31, fun _ h => absurd h List.not_mem_nil⟩⟩⟩⟩⟩⟩⟩⟩⟩⟩⟩⟩⟩⟩⟩⟩
theorem lw_p32 : lw_okq (⟨"NotationPress$Reader", "enter", "()V"⟩, 11) := ⟨⟨by decide +kernel, by decide +kernel⟩, List.mem_of_getElem? (i := 129) (by decide +kernel), List.mem_of_getElem? (i := 1057) (by decide +kernel), List.mem_of_getElem? (i := 1058) (by decide +kernel)⟩
theorem lw_p33 : lw_okq (⟨"NotationPress", "tableOf", "(I)LNotationPress$Table;"⟩, 14) := ⟨⟨by decide +kernel, by decide +kernel⟩, List.mem_of_getElem? (i := 23) (by decide +kernel), List.mem_of_getElem? (i := 1091) (by decide +kernel), List.mem_of_getElem? (i := 1092) (by decide +kernel)⟩
theorem lw_p34 : lw_okq (⟨"NotationPress$Table", "addToIndex", "(II)V"⟩, 12) := ⟨⟨by decide +kernel, by decide +kernel⟩, List.mem_of_getElem? (i := 275) (by decide +kernel), List.mem_of_getElem? (i := 1134) (by decide +kernel), List.mem_of_getElem? (i := 1135) (by decide +kernel)⟩
theorem lw_p35 : lw_okq (⟨"NotationPress", "columnOf", "(I)LNotationPress$Column;"⟩, 14) := ⟨⟨by decide +kernel, by decide +kernel⟩, List.mem_of_getElem? (i := 23) (by decide +kernel), List.mem_of_getElem? (i := 1215) (by decide +kernel), List.mem_of_getElem? (i := 1216) (by decide +kernel)⟩
theorem lw_p36 : lw_okq (⟨"NotationPress$Column", "told", "(I)I"⟩, 6) := ⟨⟨by decide +kernel, by decide +kernel⟩, List.mem_of_getElem? (i := 325) (by decide +kernel), List.mem_of_getElem? (i := 1229) (by decide +kernel), List.mem_of_getElem? (i := 1230) (by decide +kernel)⟩
theorem lw_p37 : lw_okq (⟨"NotationPress$Column", "join", "(II)I"⟩, 6) := ⟨⟨by decide +kernel, by decide +kernel⟩, List.mem_of_getElem? (i := 325) (by decide +kernel), List.mem_of_getElem? (i := 1238) (by decide +kernel), List.mem_of_getElem? (i := 1239) (by decide +kernel)⟩
theorem lw_p38 : lw_okq (⟨"NotationPress$Column", "gatherBase", "()I"⟩, 6) := ⟨⟨by decide +kernel, by decide +kernel⟩, List.mem_of_getElem? (i := 325) (by decide +kernel), List.mem_of_getElem? (i := 1254) (by decide +kernel), List.mem_of_getElem? (i := 1255) (by decide +kernel)⟩
theorem lw_p39 : lw_okq (⟨"NotationPress$Column", "shiftBatch", "(I)I"⟩, 6) := ⟨⟨by decide +kernel, by decide +kernel⟩, List.mem_of_getElem? (i := 325) (by decide +kernel), List.mem_of_getElem? (i := 1258) (by decide +kernel), List.mem_of_getElem? (i := 1259) (by decide +kernel)⟩
theorem lw_p40 : lw_okq (⟨"NotationPress$Column", "differBatch", "(I)I"⟩, 6) := ⟨⟨by decide +kernel, by decide +kernel⟩, List.mem_of_getElem? (i := 325) (by decide +kernel), List.mem_of_getElem? (i := 1266) (by decide +kernel), List.mem_of_getElem? (i := 1267) (by decide +kernel)⟩
theorem lw_p41 : lw_okq (⟨"NotationPress$Column", "totalBatch", "(I)I"⟩, 6) := ⟨⟨by decide +kernel, by decide +kernel⟩, List.mem_of_getElem? (i := 325) (by decide +kernel), List.mem_of_getElem? (i := 1270) (by decide +kernel), List.mem_of_getElem? (i := 1271) (by decide +kernel)⟩
theorem lw_p42 : lw_okq (⟨"NotationPress$Column", "greatestBatch", "(I)I"⟩, 6) := ⟨⟨by decide +kernel, by decide +kernel⟩, List.mem_of_getElem? (i := 325) (by decide +kernel), List.mem_of_getElem? (i := 1275) (by decide +kernel), List.mem_of_getElem? (i := 1276) (by decide +kernel)⟩
theorem lw_p43 : lw_okq (⟨"NotationPress", "nextUpgrade", "()LNotationPress$Upgrade;"⟩, 14) := ⟨⟨by decide +kernel, by decide +kernel⟩, List.mem_of_getElem? (i := 23) (by decide +kernel), List.mem_of_getElem? (i := 1308) (by decide +kernel), List.mem_of_getElem? (i := 1309) (by decide +kernel)⟩
theorem lw_p44 : lw_okq (⟨"NotationPress$Upgrade", "addStep", "(III)V"⟩, 7) := ⟨⟨by decide +kernel, by decide +kernel⟩, List.mem_of_getElem? (i := 349) (by decide +kernel), List.mem_of_getElem? (i := 1318) (by decide +kernel), List.mem_of_getElem? (i := 1319) (by decide +kernel)⟩
theorem lw_p45 : lw_okq (⟨"NotationPress$Upgrade", "add", "(II)V"⟩, 7) := ⟨⟨by decide +kernel, by decide +kernel⟩, List.mem_of_getElem? (i := 349) (by decide +kernel), List.mem_of_getElem? (i := 1322) (by decide +kernel), List.mem_of_getElem? (i := 1323) (by decide +kernel)⟩
theorem lw_p46 : lw_okq (⟨"NotationPress", "upgradeOf", "(I)LNotationPress$Upgrade;"⟩, 14) := ⟨⟨by decide +kernel, by decide +kernel⟩, List.mem_of_getElem? (i := 23) (by decide +kernel), List.mem_of_getElem? (i := 1338) (by decide +kernel), List.mem_of_getElem? (i := 1339) (by decide +kernel)⟩
theorem lw_p47 : lw_okq (⟨"NotationPress$Upgrade", "isMadeOf", "(LNotationPress$Upgrade;I)Z"⟩, 7) := ⟨⟨by decide +kernel, by decide +kernel⟩, List.mem_of_getElem? (i := 349) (by decide +kernel), List.mem_of_getElem? (i := 1347) (by decide +kernel), List.mem_of_getElem? (i := 1348) (by decide +kernel)⟩
def lw_privs_3 : List (MethodName × Nat) := [(⟨"NotationPress$Reader", "enter", "()V"⟩, 11), (⟨"NotationPress", "tableOf", "(I)LNotationPress$Table;"⟩, 14), (⟨"NotationPress$Table", "addToIndex", "(II)V"⟩, 12), (⟨"NotationPress", "columnOf", "(I)LNotationPress$Column;"⟩, 14), (⟨"NotationPress$Column", "told", "(I)I"⟩, 6), (⟨"NotationPress$Column", "join", "(II)I"⟩, 6), (⟨"NotationPress$Column", "gatherBase", "()I"⟩, 6), (⟨"NotationPress$Column", "shiftBatch", "(I)I"⟩, 6), (⟨"NotationPress$Column", "differBatch", "(I)I"⟩, 6), (⟨"NotationPress$Column", "totalBatch", "(I)I"⟩, 6), (⟨"NotationPress$Column", "greatestBatch", "(I)I"⟩, 6), (⟨"NotationPress", "nextUpgrade", "()LNotationPress$Upgrade;"⟩, 14), (⟨"NotationPress$Upgrade", "addStep", "(III)V"⟩, 7), (⟨"NotationPress$Upgrade", "add", "(II)V"⟩, 7), (⟨"NotationPress", "upgradeOf", "(I)LNotationPress$Upgrade;"⟩, 14), (⟨"NotationPress$Upgrade", "isMadeOf", "(LNotationPress$Upgrade;I)Z"⟩, 7)]
theorem lw_r3 : ∀ q ∈ lw_privs_3, lw_okq q := List.forall_mem_cons.mpr ⟨lw_p32, List.forall_mem_cons.mpr ⟨lw_p33, List.forall_mem_cons.mpr ⟨lw_p34, List.forall_mem_cons.mpr ⟨lw_p35, List.forall_mem_cons.mpr ⟨lw_p36, List.forall_mem_cons.mpr ⟨lw_p37, List.forall_mem_cons.mpr ⟨lw_p38, List.forall_mem_cons.mpr ⟨lw_p39, List.forall_mem_cons.mpr ⟨lw_p40, List.forall_mem_cons.mpr ⟨lw_p41, List.forall_mem_cons.mpr ⟨lw_p42, List.forall_mem_cons.mpr ⟨lw_p43, List.forall_mem_cons.mpr ⟨lw_p44, List.forall_mem_cons.mpr ⟨lw_p45, List.forall_mem_cons.mpr ⟨lw_p46, List.forall_mem_cons.mpr ⟨lw_p47, fun _ h => absurd h List.not_mem_nil⟩⟩⟩⟩⟩⟩⟩⟩⟩⟩⟩⟩⟩⟩⟩⟩
theorem lw_p48 : lw_okq (⟨"NotationPress$Upgrade", "start", "(I)I"⟩, 7) := ⟨⟨by decide +kernel, by decide +kernel⟩, List.mem_of_getElem? (i := 349) (by decide +kernel), List.mem_of_getElem? (i := 1351) (by decide +kernel), List.mem_of_getElem? (i := 1352) (by decide +kernel)⟩
theorem lw_p49 : lw_okq (⟨"NotationPress$Upgrade", "end", "(I)I"⟩, 7) := ⟨⟨by decide +kernel, by decide +kernel⟩, List.mem_of_getElem? (i := 349) (by decide +kernel), List.mem_of_getElem? (i := 1355) (by decide +kernel), List.mem_of_getElem? (i := 1356) (by decide +kernel)⟩
theorem lw_p50 : lw_okq (⟨"NotationPress$Upgrade", "kind", "(I)I"⟩, 7) := ⟨⟨by decide +kernel, by decide +kernel⟩, List.mem_of_getElem? (i := 349) (by decide +kernel), List.mem_of_getElem? (i := 1359) (by decide +kernel), List.mem_of_getElem? (i := 1360) (by decide +kernel)⟩
theorem lw_p51 : lw_okq (⟨"NotationPress$Upgrade", "number", "(I)I"⟩, 7) := ⟨⟨by decide +kernel, by decide +kernel⟩, List.mem_of_getElem? (i := 349) (by decide +kernel), List.mem_of_getElem? (i := 1363) (by decide +kernel), List.mem_of_getElem? (i := 1364) (by decide +kernel)⟩
theorem lw_p52 : lw_okq (⟨"NotationPress$Upgrade", "tells", "(I)Z"⟩, 7) := ⟨⟨by decide +kernel, by decide +kernel⟩, List.mem_of_getElem? (i := 349) (by decide +kernel), List.mem_of_getElem? (i := 1367) (by decide +kernel), List.mem_of_getElem? (i := 1368) (by decide +kernel)⟩
theorem lw_p53 : lw_okq (⟨"NotationPress$Upgrade", "addComposed", "(LNotationPress$Upgrade;LNotationPress$Upgrade;I)V"⟩, 7) := ⟨⟨by decide +kernel, by decide +kernel⟩, List.mem_of_getElem? (i := 349) (by decide +kernel), List.mem_of_getElem? (i := 1371) (by decide +kernel), List.mem_of_getElem? (i := 1372) (by decide +kernel)⟩
theorem lw_p54 : lw_okq (⟨"NotationPress$Upgrade", "addTold", "(LNotationPress$Upgrade;I)V"⟩, 7) := ⟨⟨by decide +kernel, by decide +kernel⟩, List.mem_of_getElem? (i := 349) (by decide +kernel), List.mem_of_getElem? (i := 1375) (by decide +kernel), List.mem_of_getElem? (i := 1376) (by decide +kernel)⟩
theorem lw_p55 : lw_okq (⟨"NotationPress$Upgrade", "hasQuotientOrRest", "()Z"⟩, 7) := ⟨⟨by decide +kernel, by decide +kernel⟩, List.mem_of_getElem? (i := 349) (by decide +kernel), List.mem_of_getElem? (i := 1390) (by decide +kernel), List.mem_of_getElem? (i := 1391) (by decide +kernel)⟩
theorem lw_p56 : lw_okq (⟨"NotationPress$Upgrade", "addReversed", "(LNotationPress$Upgrade;I)V"⟩, 7) := ⟨⟨by decide +kernel, by decide +kernel⟩, List.mem_of_getElem? (i := 349) (by decide +kernel), List.mem_of_getElem? (i := 1394) (by decide +kernel), List.mem_of_getElem? (i := 1395) (by decide +kernel)⟩
theorem lw_p57 : lw_okq (⟨"NotationPress$Upgrade", "findPath", "(LNotationPress$Upgrade;II)I"⟩, 7) := ⟨⟨by decide +kernel, by decide +kernel⟩, List.mem_of_getElem? (i := 349) (by decide +kernel), List.mem_of_getElem? (i := 1398) (by decide +kernel), List.mem_of_getElem? (i := 1399) (by decide +kernel)⟩
theorem lw_p58 : lw_okq (⟨"NotationPress$Upgrade", "turnToSecond", "(I)I"⟩, 7) := ⟨⟨by decide +kernel, by decide +kernel⟩, List.mem_of_getElem? (i := 349) (by decide +kernel), List.mem_of_getElem? (i := 1402) (by decide +kernel), List.mem_of_getElem? (i := 1403) (by decide +kernel)⟩
theorem lw_p59 : lw_okq (⟨"NotationPress$Table", "isLastOfKey", "(II)Z"⟩, 12) := ⟨⟨by decide +kernel, by decide +kernel⟩, List.mem_of_getElem? (i := 275) (by decide +kernel), List.mem_of_getElem? (i := 1459) (by decide +kernel), List.mem_of_getElem? (i := 1460) (by decide +kernel)⟩
theorem lw_p60 : lw_okq (⟨"NotationPress$Table", "lastRowOf", "(II)I"⟩, 12) := ⟨⟨by decide +kernel, by decide +kernel⟩, List.mem_of_getElem? (i := 275) (by decide +kernel), List.mem_of_getElem? (i := 1463) (by decide +kernel), List.mem_of_getElem? (i := 1464) (by decide +kernel)⟩
theorem lw_p61 : lw_okq (⟨"NotationPress$Table", "differs", "(ILNotationPress$Table;I)Z"⟩, 12) := ⟨⟨by decide +kernel, by decide +kernel⟩, List.mem_of_getElem? (i := 275) (by decide +kernel), List.mem_of_getElem? (i := 1471) (by decide +kernel), List.mem_of_getElem? (i := 1472) (by decide +kernel)⟩
theorem lw_p62 : lw_okq (⟨"NotationPressModel", "dropsSteps", "()V"⟩, 77) := ⟨⟨by decide +kernel, by decide +kernel⟩, List.mem_of_getElem? (i := 1498) (by decide +kernel), List.mem_of_getElem? (i := 1504) (by decide +kernel), List.mem_of_getElem? (i := 1505) (by decide +kernel)⟩
theorem lw_p63 : lw_okq (⟨"NotationPressModel", "can", "(I)Z"⟩, 77) := ⟨⟨by decide +kernel, by decide +kernel⟩, List.mem_of_getElem? (i := 1498) (by decide +kernel), List.mem_of_getElem? (i := 1759) (by decide +kernel), List.mem_of_getElem? (i := 1760) (by decide +kernel)⟩
def lw_privs_4 : List (MethodName × Nat) := [(⟨"NotationPress$Upgrade", "start", "(I)I"⟩, 7), (⟨"NotationPress$Upgrade", "end", "(I)I"⟩, 7), (⟨"NotationPress$Upgrade", "kind", "(I)I"⟩, 7), (⟨"NotationPress$Upgrade", "number", "(I)I"⟩, 7), (⟨"NotationPress$Upgrade", "tells", "(I)Z"⟩, 7), (⟨"NotationPress$Upgrade", "addComposed", "(LNotationPress$Upgrade;LNotationPress$Upgrade;I)V"⟩, 7), (⟨"NotationPress$Upgrade", "addTold", "(LNotationPress$Upgrade;I)V"⟩, 7), (⟨"NotationPress$Upgrade", "hasQuotientOrRest", "()Z"⟩, 7), (⟨"NotationPress$Upgrade", "addReversed", "(LNotationPress$Upgrade;I)V"⟩, 7), (⟨"NotationPress$Upgrade", "findPath", "(LNotationPress$Upgrade;II)I"⟩, 7), (⟨"NotationPress$Upgrade", "turnToSecond", "(I)I"⟩, 7), (⟨"NotationPress$Table", "isLastOfKey", "(II)Z"⟩, 12), (⟨"NotationPress$Table", "lastRowOf", "(II)I"⟩, 12), (⟨"NotationPress$Table", "differs", "(ILNotationPress$Table;I)Z"⟩, 12), (⟨"NotationPressModel", "dropsSteps", "()V"⟩, 77), (⟨"NotationPressModel", "can", "(I)Z"⟩, 77)]
theorem lw_r4 : ∀ q ∈ lw_privs_4, lw_okq q := List.forall_mem_cons.mpr ⟨lw_p48, List.forall_mem_cons.mpr ⟨lw_p49, List.forall_mem_cons.mpr ⟨lw_p50, List.forall_mem_cons.mpr ⟨lw_p51, List.forall_mem_cons.mpr ⟨lw_p52, List.forall_mem_cons.mpr ⟨lw_p53, List.forall_mem_cons.mpr ⟨lw_p54, List.forall_mem_cons.mpr ⟨lw_p55, List.forall_mem_cons.mpr ⟨lw_p56, List.forall_mem_cons.mpr ⟨lw_p57, List.forall_mem_cons.mpr ⟨lw_p58, List.forall_mem_cons.mpr ⟨lw_p59, List.forall_mem_cons.mpr ⟨lw_p60, List.forall_mem_cons.mpr ⟨lw_p61, List.forall_mem_cons.mpr ⟨lw_p62, List.forall_mem_cons.mpr ⟨lw_p63, fun _ h => absurd h List.not_mem_nil⟩⟩⟩⟩⟩⟩⟩⟩⟩⟩⟩⟩⟩⟩⟩⟩
theorem lw_p64 : lw_okq (⟨"NotationPressModel", "isGoodItem", "(I)Z"⟩, 77) := ⟨⟨by decide +kernel, by decide +kernel⟩, List.mem_of_getElem? (i := 1498) (by decide +kernel), List.mem_of_getElem? (i := 1771) (by decide +kernel), List.mem_of_getElem? (i := 1772) (by decide +kernel)⟩
theorem lw_p65 : lw_okq (⟨"NotationPressModel", "itemOf", "(II)I"⟩, 77) := ⟨⟨by decide +kernel, by decide +kernel⟩, List.mem_of_getElem? (i := 1498) (by decide +kernel), List.mem_of_getElem? (i := 1778) (by decide +kernel), List.mem_of_getElem? (i := 1779) (by decide +kernel)⟩
theorem lw_p66 : lw_okq (⟨"NotationPressModel", "loopInDraft", "(I)I"⟩, 77) := ⟨⟨by decide +kernel, by decide +kernel⟩, List.mem_of_getElem? (i := 1498) (by decide +kernel), List.mem_of_getElem? (i := 1782) (by decide +kernel), List.mem_of_getElem? (i := 1783) (by decide +kernel)⟩
theorem lw_p67 : lw_okq (⟨"NotationPressModel", "isDescription", "(I)Z"⟩, 77) := ⟨⟨by decide +kernel, by decide +kernel⟩, List.mem_of_getElem? (i := 1498) (by decide +kernel), List.mem_of_getElem? (i := 1790) (by decide +kernel), List.mem_of_getElem? (i := 1791) (by decide +kernel)⟩
theorem lw_p68 : lw_okq (⟨"NotationPressModel", "mayTell", "(II)Z"⟩, 77) := ⟨⟨by decide +kernel, by decide +kernel⟩, List.mem_of_getElem? (i := 1498) (by decide +kernel), List.mem_of_getElem? (i := 1798) (by decide +kernel), List.mem_of_getElem? (i := 1799) (by decide +kernel)⟩
theorem lw_p69 : lw_okq (⟨"NotationPressModel", "recorded", "(II)I"⟩, 77) := ⟨⟨by decide +kernel, by decide +kernel⟩, List.mem_of_getElem? (i := 1498) (by decide +kernel), List.mem_of_getElem? (i := 1809) (by decide +kernel), List.mem_of_getElem? (i := 1810) (by decide +kernel)⟩
theorem lw_p70 : lw_okq (⟨"NotationPressModel", "messageOf", "(I)I"⟩, 77) := ⟨⟨by decide +kernel, by decide +kernel⟩, List.mem_of_getElem? (i := 1498) (by decide +kernel), List.mem_of_getElem? (i := 1825) (by decide +kernel), List.mem_of_getElem? (i := 1826) (by decide +kernel)⟩
theorem lw_p71 : lw_okq (⟨"NotationPressModel", "isHeld", "(I)Z"⟩, 77) := ⟨⟨by decide +kernel, by decide +kernel⟩, List.mem_of_getElem? (i := 1498) (by decide +kernel), List.mem_of_getElem? (i := 1829) (by decide +kernel), List.mem_of_getElem? (i := 1830) (by decide +kernel)⟩
theorem lw_p72 : lw_okq (⟨"NotationPressModel", "finds", "(I)Z"⟩, 77) := ⟨⟨by decide +kernel, by decide +kernel⟩, List.mem_of_getElem? (i := 1498) (by decide +kernel), List.mem_of_getElem? (i := 1838) (by decide +kernel), List.mem_of_getElem? (i := 1839) (by decide +kernel)⟩
theorem lw_p73 : lw_okq (⟨"NotationPressModel", "passesBy", "(I)V"⟩, 77) := ⟨⟨by decide +kernel, by decide +kernel⟩, List.mem_of_getElem? (i := 1498) (by decide +kernel), List.mem_of_getElem? (i := 1842) (by decide +kernel), List.mem_of_getElem? (i := 1843) (by decide +kernel)⟩
theorem lw_p74 : lw_okq (⟨"NotationPressModel", "goesOn", "(III)V"⟩, 77) := ⟨⟨by decide +kernel, by decide +kernel⟩, List.mem_of_getElem? (i := 1498) (by decide +kernel), List.mem_of_getElem? (i := 1846) (by decide +kernel), List.mem_of_getElem? (i := 1847) (by decide +kernel)⟩
theorem lw_p75 : lw_okq (⟨"NotationPressModel", "timesOf", "(I)I"⟩, 77) := ⟨⟨by decide +kernel, by decide +kernel⟩, List.mem_of_getElem? (i := 1498) (by decide +kernel), List.mem_of_getElem? (i := 1850) (by decide +kernel), List.mem_of_getElem? (i := 1851) (by decide +kernel)⟩
theorem lw_p76 : lw_okq (⟨"NotationPressModel", "isPrintable", "(I)Z"⟩, 77) := ⟨⟨by decide +kernel, by decide +kernel⟩, List.mem_of_getElem? (i := 1498) (by decide +kernel), List.mem_of_getElem? (i := 1854) (by decide +kernel), List.mem_of_getElem? (i := 1855) (by decide +kernel)⟩
theorem lw_p77 : lw_okq (⟨"NotationPressModel", "prints", "(I)Z"⟩, 77) := ⟨⟨by decide +kernel, by decide +kernel⟩, List.mem_of_getElem? (i := 1498) (by decide +kernel), List.mem_of_getElem? (i := 1858) (by decide +kernel), List.mem_of_getElem? (i := 1859) (by decide +kernel)⟩
theorem lw_p78 : lw_okq (⟨"NotationPressModel", "printsItem", "(II)V"⟩, 77) := ⟨⟨by decide +kernel, by decide +kernel⟩, List.mem_of_getElem? (i := 1498) (by decide +kernel), List.mem_of_getElem? (i := 1862) (by decide +kernel), List.mem_of_getElem? (i := 1863) (by decide +kernel)⟩
theorem lw_p79 : lw_okq (⟨"NotationPressModel", "printsValue", "(II)V"⟩, 77) := ⟨⟨by decide +kernel, by decide +kernel⟩, List.mem_of_getElem? (i := 1498) (by decide +kernel), List.mem_of_getElem? (i := 1866) (by decide +kernel), List.mem_of_getElem? (i := 1867) (by decide +kernel)⟩
def lw_privs_5 : List (MethodName × Nat) := [(⟨"NotationPressModel", "isGoodItem", "(I)Z"⟩, 77), (⟨"NotationPressModel", "itemOf", "(II)I"⟩, 77), (⟨"NotationPressModel", "loopInDraft", "(I)I"⟩, 77), (⟨"NotationPressModel", "isDescription", "(I)Z"⟩, 77), (⟨"NotationPressModel", "mayTell", "(II)Z"⟩, 77), (⟨"NotationPressModel", "recorded", "(II)I"⟩, 77), (⟨"NotationPressModel", "messageOf", "(I)I"⟩, 77), (⟨"NotationPressModel", "isHeld", "(I)Z"⟩, 77), (⟨"NotationPressModel", "finds", "(I)Z"⟩, 77), (⟨"NotationPressModel", "passesBy", "(I)V"⟩, 77), (⟨"NotationPressModel", "goesOn", "(III)V"⟩, 77), (⟨"NotationPressModel", "timesOf", "(I)I"⟩, 77), (⟨"NotationPressModel", "isPrintable", "(I)Z"⟩, 77), (⟨"NotationPressModel", "prints", "(I)Z"⟩, 77), (⟨"NotationPressModel", "printsItem", "(II)V"⟩, 77), (⟨"NotationPressModel", "printsValue", "(II)V"⟩, 77)]
theorem lw_r5 : ∀ q ∈ lw_privs_5, lw_okq q := List.forall_mem_cons.mpr ⟨lw_p64, List.forall_mem_cons.mpr ⟨lw_p65, List.forall_mem_cons.mpr ⟨lw_p66, List.forall_mem_cons.mpr ⟨lw_p67, List.forall_mem_cons.mpr ⟨lw_p68, List.forall_mem_cons.mpr ⟨lw_p69, List.forall_mem_cons.mpr ⟨lw_p70, List.forall_mem_cons.mpr ⟨lw_p71, List.forall_mem_cons.mpr ⟨lw_p72, List.forall_mem_cons.mpr ⟨lw_p73, List.forall_mem_cons.mpr ⟨lw_p74, List.forall_mem_cons.mpr ⟨lw_p75, List.forall_mem_cons.mpr ⟨lw_p76, List.forall_mem_cons.mpr ⟨lw_p77, List.forall_mem_cons.mpr ⟨lw_p78, List.forall_mem_cons.mpr ⟨lw_p79, fun _ h => absurd h List.not_mem_nil⟩⟩⟩⟩⟩⟩⟩⟩⟩⟩⟩⟩⟩⟩⟩⟩
theorem lw_p80 : lw_okq (⟨"NotationPressModel", "fitsNumber", "(III)Z"⟩, 77) := ⟨⟨by decide +kernel, by decide +kernel⟩, List.mem_of_getElem? (i := 1498) (by decide +kernel), List.mem_of_getElem? (i := 1870) (by decide +kernel), List.mem_of_getElem? (i := 1871) (by decide +kernel)⟩
theorem lw_p81 : lw_okq (⟨"NotationPressModel", "puts", "(I)V"⟩, 77) := ⟨⟨by decide +kernel, by decide +kernel⟩, List.mem_of_getElem? (i := 1498) (by decide +kernel), List.mem_of_getElem? (i := 1874) (by decide +kernel), List.mem_of_getElem? (i := 1875) (by decide +kernel)⟩
theorem lw_p82 : lw_okq (⟨"NotationPressModel", "putsWord", "(I)V"⟩, 77) := ⟨⟨by decide +kernel, by decide +kernel⟩, List.mem_of_getElem? (i := 1498) (by decide +kernel), List.mem_of_getElem? (i := 1884) (by decide +kernel), List.mem_of_getElem? (i := 1885) (by decide +kernel)⟩
theorem lw_p83 : lw_okq (⟨"NotationPressModel", "gets", "(III)V"⟩, 77) := ⟨⟨by decide +kernel, by decide +kernel⟩, List.mem_of_getElem? (i := 1498) (by decide +kernel), List.mem_of_getElem? (i := 1890) (by decide +kernel), List.mem_of_getElem? (i := 1891) (by decide +kernel)⟩
theorem lw_p84 : lw_okq (⟨"NotationPressModel", "checkOfOut", "()I"⟩, 77) := ⟨⟨by decide +kernel, by decide +kernel⟩, List.mem_of_getElem? (i := 1498) (by decide +kernel), List.mem_of_getElem? (i := 1894) (by decide +kernel), List.mem_of_getElem? (i := 1895) (by decide +kernel)⟩
theorem lw_p85 : lw_okq (⟨"NotationPressModel", "begins", "(III)V"⟩, 77) := ⟨⟨by decide +kernel, by decide +kernel⟩, List.mem_of_getElem? (i := 1498) (by decide +kernel), List.mem_of_getElem? (i := 1901) (by decide +kernel), List.mem_of_getElem? (i := 1902) (by decide +kernel)⟩
theorem lw_p86 : lw_okq (⟨"NotationPressModel", "choicesOf", "(I)I"⟩, 77) := ⟨⟨by decide +kernel, by decide +kernel⟩, List.mem_of_getElem? (i := 1498) (by decide +kernel), List.mem_of_getElem? (i := 1908) (by decide +kernel), List.mem_of_getElem? (i := 1909) (by decide +kernel)⟩
theorem lw_p87 : lw_okq (⟨"NotationPressModel", "triesNext", "(I)Z"⟩, 77) := ⟨⟨by decide +kernel, by decide +kernel⟩, List.mem_of_getElem? (i := 1498) (by decide +kernel), List.mem_of_getElem? (i := 1913) (by decide +kernel), List.mem_of_getElem? (i := 1914) (by decide +kernel)⟩
theorem lw_p88 : lw_okq (⟨"NotationPressModel", "loses", "(II)V"⟩, 77) := ⟨⟨by decide +kernel, by decide +kernel⟩, List.mem_of_getElem? (i := 1498) (by decide +kernel), List.mem_of_getElem? (i := 1917) (by decide +kernel), List.mem_of_getElem? (i := 1918) (by decide +kernel)⟩
theorem lw_p89 : lw_okq (⟨"NotationPressModel", "records", "()V"⟩, 77) := ⟨⟨by decide +kernel, by decide +kernel⟩, List.mem_of_getElem? (i := 1498) (by decide +kernel), List.mem_of_getElem? (i := 1921) (by decide +kernel), List.mem_of_getElem? (i := 1922) (by decide +kernel)⟩
theorem lw_p90 : lw_okq (⟨"NotationPressModel", "types", "(II)V"⟩, 77) := ⟨⟨by decide +kernel, by decide +kernel⟩, List.mem_of_getElem? (i := 1498) (by decide +kernel), List.mem_of_getElem? (i := 1938) (by decide +kernel), List.mem_of_getElem? (i := 1939) (by decide +kernel)⟩
theorem lw_p91 : lw_okq (⟨"NotationPressModel", "sources", "()V"⟩, 77) := ⟨⟨by decide +kernel, by decide +kernel⟩, List.mem_of_getElem? (i := 1498) (by decide +kernel), List.mem_of_getElem? (i := 1946) (by decide +kernel), List.mem_of_getElem? (i := 1947) (by decide +kernel)⟩
theorem lw_p92 : lw_okq (⟨"NotationPressModel", "isPlace", "(III)Z"⟩, 77) := ⟨⟨by decide +kernel, by decide +kernel⟩, List.mem_of_getElem? (i := 1498) (by decide +kernel), List.mem_of_getElem? (i := 1962) (by decide +kernel), List.mem_of_getElem? (i := 1963) (by decide +kernel)⟩
theorem lw_p93 : lw_okq (⟨"NotationPressModel", "counts", "(III)I"⟩, 77) := ⟨⟨by decide +kernel, by decide +kernel⟩, List.mem_of_getElem? (i := 1498) (by decide +kernel), List.mem_of_getElem? (i := 1966) (by decide +kernel), List.mem_of_getElem? (i := 1967) (by decide +kernel)⟩
theorem lw_p94 : lw_okq (⟨"NotationPressModel", "searches", "(III)V"⟩, 77) := ⟨⟨by decide +kernel, by decide +kernel⟩, List.mem_of_getElem? (i := 1498) (by decide +kernel), List.mem_of_getElem? (i := 1970) (by decide +kernel), List.mem_of_getElem? (i := 1971) (by decide +kernel)⟩
theorem lw_p95 : lw_okq (⟨"NotationPressModel", "comesTo", "(III)V"⟩, 77) := ⟨⟨by decide +kernel, by decide +kernel⟩, List.mem_of_getElem? (i := 1498) (by decide +kernel), List.mem_of_getElem? (i := 1974) (by decide +kernel), List.mem_of_getElem? (i := 1975) (by decide +kernel)⟩
def lw_privs_6 : List (MethodName × Nat) := [(⟨"NotationPressModel", "fitsNumber", "(III)Z"⟩, 77), (⟨"NotationPressModel", "puts", "(I)V"⟩, 77), (⟨"NotationPressModel", "putsWord", "(I)V"⟩, 77), (⟨"NotationPressModel", "gets", "(III)V"⟩, 77), (⟨"NotationPressModel", "checkOfOut", "()I"⟩, 77), (⟨"NotationPressModel", "begins", "(III)V"⟩, 77), (⟨"NotationPressModel", "choicesOf", "(I)I"⟩, 77), (⟨"NotationPressModel", "triesNext", "(I)Z"⟩, 77), (⟨"NotationPressModel", "loses", "(II)V"⟩, 77), (⟨"NotationPressModel", "records", "()V"⟩, 77), (⟨"NotationPressModel", "types", "(II)V"⟩, 77), (⟨"NotationPressModel", "sources", "()V"⟩, 77), (⟨"NotationPressModel", "isPlace", "(III)Z"⟩, 77), (⟨"NotationPressModel", "counts", "(III)I"⟩, 77), (⟨"NotationPressModel", "searches", "(III)V"⟩, 77), (⟨"NotationPressModel", "comesTo", "(III)V"⟩, 77)]
theorem lw_r6 : ∀ q ∈ lw_privs_6, lw_okq q := List.forall_mem_cons.mpr ⟨lw_p80, List.forall_mem_cons.mpr ⟨lw_p81, List.forall_mem_cons.mpr ⟨lw_p82, List.forall_mem_cons.mpr ⟨lw_p83, List.forall_mem_cons.mpr ⟨lw_p84, List.forall_mem_cons.mpr ⟨lw_p85, List.forall_mem_cons.mpr ⟨lw_p86, List.forall_mem_cons.mpr ⟨lw_p87, List.forall_mem_cons.mpr ⟨lw_p88, List.forall_mem_cons.mpr ⟨lw_p89, List.forall_mem_cons.mpr ⟨lw_p90, List.forall_mem_cons.mpr ⟨lw_p91, List.forall_mem_cons.mpr ⟨lw_p92, List.forall_mem_cons.mpr ⟨lw_p93, List.forall_mem_cons.mpr ⟨lw_p94, List.forall_mem_cons.mpr ⟨lw_p95, fun _ h => absurd h List.not_mem_nil⟩⟩⟩⟩⟩⟩⟩⟩⟩⟩⟩⟩⟩⟩⟩⟩
theorem lw_p96 : lw_okq (⟨"NotationPressModel", "nextReading", "()I"⟩, 77) := ⟨⟨by decide +kernel, by decide +kernel⟩, List.mem_of_getElem? (i := 1498) (by decide +kernel), List.mem_of_getElem? (i := 1978) (by decide +kernel), List.mem_of_getElem? (i := 1979) (by decide +kernel)⟩
theorem lw_p97 : lw_okq (⟨"NotationPressModel", "endOf", "(I)I"⟩, 77) := ⟨⟨by decide +kernel, by decide +kernel⟩, List.mem_of_getElem? (i := 1498) (by decide +kernel), List.mem_of_getElem? (i := 1982) (by decide +kernel), List.mem_of_getElem? (i := 1983) (by decide +kernel)⟩
theorem lw_p98 : lw_okq (⟨"NotationPressModel", "endOfWord", "(III)I"⟩, 77) := ⟨⟨by decide +kernel, by decide +kernel⟩, List.mem_of_getElem? (i := 1498) (by decide +kernel), List.mem_of_getElem? (i := 1986) (by decide +kernel), List.mem_of_getElem? (i := 1987) (by decide +kernel)⟩
theorem lw_p99 : lw_okq (⟨"NotationPressModel", "wordAt", "(II)I"⟩, 77) := ⟨⟨by decide +kernel, by decide +kernel⟩, List.mem_of_getElem? (i := 1498) (by decide +kernel), List.mem_of_getElem? (i := 1990) (by decide +kernel), List.mem_of_getElem? (i := 1991) (by decide +kernel)⟩
theorem lw_p100 : lw_okq (⟨"NotationPressModel", "unitAt", "(I)I"⟩, 77) := ⟨⟨by decide +kernel, by decide +kernel⟩, List.mem_of_getElem? (i := 1498) (by decide +kernel), List.mem_of_getElem? (i := 1994) (by decide +kernel), List.mem_of_getElem? (i := 1995) (by decide +kernel)⟩
theorem lw_p101 : lw_okq (⟨"NotationPressModel", "endOfOpen", "(III)I"⟩, 77) := ⟨⟨by decide +kernel, by decide +kernel⟩, List.mem_of_getElem? (i := 1498) (by decide +kernel), List.mem_of_getElem? (i := 1998) (by decide +kernel), List.mem_of_getElem? (i := 1999) (by decide +kernel)⟩
theorem lw_p102 : lw_okq (⟨"NotationPressModel", "endOfNumber", "(II)I"⟩, 77) := ⟨⟨by decide +kernel, by decide +kernel⟩, List.mem_of_getElem? (i := 1498) (by decide +kernel), List.mem_of_getElem? (i := 2002) (by decide +kernel), List.mem_of_getElem? (i := 2003) (by decide +kernel)⟩
theorem lw_p103 : lw_okq (⟨"NotationPressModel", "endOfBits", "(II)I"⟩, 77) := ⟨⟨by decide +kernel, by decide +kernel⟩, List.mem_of_getElem? (i := 1498) (by decide +kernel), List.mem_of_getElem? (i := 2006) (by decide +kernel), List.mem_of_getElem? (i := 2007) (by decide +kernel)⟩
theorem lw_p104 : lw_okq (⟨"NotationPressModel", "checkOfText", "(I)I"⟩, 77) := ⟨⟨by decide +kernel, by decide +kernel⟩, List.mem_of_getElem? (i := 1498) (by decide +kernel), List.mem_of_getElem? (i := 2010) (by decide +kernel), List.mem_of_getElem? (i := 2011) (by decide +kernel)⟩
theorem lw_p105 : lw_okq (⟨"NotationPressModel", "beganAt", "(II)I"⟩, 77) := ⟨⟨by decide +kernel, by decide +kernel⟩, List.mem_of_getElem? (i := 1498) (by decide +kernel), List.mem_of_getElem? (i := 2014) (by decide +kernel), List.mem_of_getElem? (i := 2015) (by decide +kernel)⟩
theorem lw_p106 : lw_okq (⟨"NotationPressModel", "lineEnd", "(I)I"⟩, 77) := ⟨⟨by decide +kernel, by decide +kernel⟩, List.mem_of_getElem? (i := 1498) (by decide +kernel), List.mem_of_getElem? (i := 2034) (by decide +kernel), List.mem_of_getElem? (i := 2035) (by decide +kernel)⟩
theorem lw_p107 : lw_okq (⟨"NotationPressModel", "reads", "(II)I"⟩, 77) := ⟨⟨by decide +kernel, by decide +kernel⟩, List.mem_of_getElem? (i := 1498) (by decide +kernel), List.mem_of_getElem? (i := 2038) (by decide +kernel), List.mem_of_getElem? (i := 2039) (by decide +kernel)⟩
theorem lw_p108 : lw_okq (⟨"NotationPressModel", "isSameAs", "(I)Z"⟩, 77) := ⟨⟨by decide +kernel, by decide +kernel⟩, List.mem_of_getElem? (i := 1498) (by decide +kernel), List.mem_of_getElem? (i := 2042) (by decide +kernel), List.mem_of_getElem? (i := 2043) (by decide +kernel)⟩
theorem lw_p109 : lw_okq (⟨"NotationPressModel", "keepsRow", "(I)V"⟩, 77) := ⟨⟨by decide +kernel, by decide +kernel⟩, List.mem_of_getElem? (i := 1498) (by decide +kernel), List.mem_of_getElem? (i := 2046) (by decide +kernel), List.mem_of_getElem? (i := 2047) (by decide +kernel)⟩
theorem lw_p110 : lw_okq (⟨"NotationPressModel", "isRow", "(II)Z"⟩, 77) := ⟨⟨by decide +kernel, by decide +kernel⟩, List.mem_of_getElem? (i := 1498) (by decide +kernel), List.mem_of_getElem? (i := 2062) (by decide +kernel), List.mem_of_getElem? (i := 2063) (by decide +kernel)⟩
theorem lw_p111 : lw_okq (⟨"NotationPressModel", "cellOf", "(IIII)I"⟩, 77) := ⟨⟨by decide +kernel, by decide +kernel⟩, List.mem_of_getElem? (i := 1498) (by decide +kernel), List.mem_of_getElem? (i := 2066) (by decide +kernel), List.mem_of_getElem? (i := 2067) (by decide +kernel)⟩
def lw_privs_7 : List (MethodName × Nat) := [(⟨"NotationPressModel", "nextReading", "()I"⟩, 77), (⟨"NotationPressModel", "endOf", "(I)I"⟩, 77), (⟨"NotationPressModel", "endOfWord", "(III)I"⟩, 77), (⟨"NotationPressModel", "wordAt", "(II)I"⟩, 77), (⟨"NotationPressModel", "unitAt", "(I)I"⟩, 77), (⟨"NotationPressModel", "endOfOpen", "(III)I"⟩, 77), (⟨"NotationPressModel", "endOfNumber", "(II)I"⟩, 77), (⟨"NotationPressModel", "endOfBits", "(II)I"⟩, 77), (⟨"NotationPressModel", "checkOfText", "(I)I"⟩, 77), (⟨"NotationPressModel", "beganAt", "(II)I"⟩, 77), (⟨"NotationPressModel", "lineEnd", "(I)I"⟩, 77), (⟨"NotationPressModel", "reads", "(II)I"⟩, 77), (⟨"NotationPressModel", "isSameAs", "(I)Z"⟩, 77), (⟨"NotationPressModel", "keepsRow", "(I)V"⟩, 77), (⟨"NotationPressModel", "isRow", "(II)Z"⟩, 77), (⟨"NotationPressModel", "cellOf", "(IIII)I"⟩, 77)]
theorem lw_r7 : ∀ q ∈ lw_privs_7, lw_okq q := List.forall_mem_cons.mpr ⟨lw_p96, List.forall_mem_cons.mpr ⟨lw_p97, List.forall_mem_cons.mpr ⟨lw_p98, List.forall_mem_cons.mpr ⟨lw_p99, List.forall_mem_cons.mpr ⟨lw_p100, List.forall_mem_cons.mpr ⟨lw_p101, List.forall_mem_cons.mpr ⟨lw_p102, List.forall_mem_cons.mpr ⟨lw_p103, List.forall_mem_cons.mpr ⟨lw_p104, List.forall_mem_cons.mpr ⟨lw_p105, List.forall_mem_cons.mpr ⟨lw_p106, List.forall_mem_cons.mpr ⟨lw_p107, List.forall_mem_cons.mpr ⟨lw_p108, List.forall_mem_cons.mpr ⟨lw_p109, List.forall_mem_cons.mpr ⟨lw_p110, List.forall_mem_cons.mpr ⟨lw_p111, fun _ h => absurd h List.not_mem_nil⟩⟩⟩⟩⟩⟩⟩⟩⟩⟩⟩⟩⟩⟩⟩⟩
theorem lw_p112 : lw_okq (⟨"NotationPressModel", "isDerived", "(II)Z"⟩, 77) := ⟨⟨by decide +kernel, by decide +kernel⟩, List.mem_of_getElem? (i := 1498) (by decide +kernel), List.mem_of_getElem? (i := 2082) (by decide +kernel), List.mem_of_getElem? (i := 2083) (by decide +kernel)⟩
theorem lw_p113 : lw_okq (⟨"NotationPressModel", "derives", "(II)I"⟩, 77) := ⟨⟨by decide +kernel, by decide +kernel⟩, List.mem_of_getElem? (i := 1498) (by decide +kernel), List.mem_of_getElem? (i := 2086) (by decide +kernel), List.mem_of_getElem? (i := 2087) (by decide +kernel)⟩
theorem lw_p114 : lw_okq (⟨"NotationPressModel", "inColumn", "(II)I"⟩, 77) := ⟨⟨by decide +kernel, by decide +kernel⟩, List.mem_of_getElem? (i := 1498) (by decide +kernel), List.mem_of_getElem? (i := 2090) (by decide +kernel), List.mem_of_getElem? (i := 2091) (by decide +kernel)⟩
theorem lw_p115 : lw_okq (⟨"NotationPressModel", "clearsCodes", "()V"⟩, 77) := ⟨⟨by decide +kernel, by decide +kernel⟩, List.mem_of_getElem? (i := 1498) (by decide +kernel), List.mem_of_getElem? (i := 2106) (by decide +kernel), List.mem_of_getElem? (i := 2107) (by decide +kernel)⟩
theorem lw_p116 : lw_okq (⟨"NotationPressModel", "adds", "(II)V"⟩, 77) := ⟨⟨by decide +kernel, by decide +kernel⟩, List.mem_of_getElem? (i := 1498) (by decide +kernel), List.mem_of_getElem? (i := 2110) (by decide +kernel), List.mem_of_getElem? (i := 2111) (by decide +kernel)⟩
theorem lw_p117 : lw_okq (⟨"NotationPressModel", "isUpgrade", "(I)Z"⟩, 77) := ⟨⟨by decide +kernel, by decide +kernel⟩, List.mem_of_getElem? (i := 1498) (by decide +kernel), List.mem_of_getElem? (i := 2118) (by decide +kernel), List.mem_of_getElem? (i := 2119) (by decide +kernel)⟩
theorem lw_p118 : lw_okq (⟨"NotationPressModel", "isWhole", "(II)Z"⟩, 77) := ⟨⟨by decide +kernel, by decide +kernel⟩, List.mem_of_getElem? (i := 1498) (by decide +kernel), List.mem_of_getElem? (i := 2122) (by decide +kernel), List.mem_of_getElem? (i := 2123) (by decide +kernel)⟩
theorem lw_p119 : lw_okq (⟨"NotationPressModel", "composes", "(II)V"⟩, 77) := ⟨⟨by decide +kernel, by decide +kernel⟩, List.mem_of_getElem? (i := 1498) (by decide +kernel), List.mem_of_getElem? (i := 2126) (by decide +kernel), List.mem_of_getElem? (i := 2127) (by decide +kernel)⟩
theorem lw_p120 : lw_okq (⟨"NotationPressModel", "keepsUpgrade", "()I"⟩, 77) := ⟨⟨by decide +kernel, by decide +kernel⟩, List.mem_of_getElem? (i := 1498) (by decide +kernel), List.mem_of_getElem? (i := 2130) (by decide +kernel), List.mem_of_getElem? (i := 2131) (by decide +kernel)⟩
theorem lw_p121 : lw_okq (⟨"NotationPressModel", "isReversible", "(I)Z"⟩, 77) := ⟨⟨by decide +kernel, by decide +kernel⟩, List.mem_of_getElem? (i := 1498) (by decide +kernel), List.mem_of_getElem? (i := 2138) (by decide +kernel), List.mem_of_getElem? (i := 2139) (by decide +kernel)⟩
theorem lw_p122 : lw_okq (⟨"NotationPressModel", "partsOf", "(I)I"⟩, 77) := ⟨⟨by decide +kernel, by decide +kernel⟩, List.mem_of_getElem? (i := 1498) (by decide +kernel), List.mem_of_getElem? (i := 2142) (by decide +kernel), List.mem_of_getElem? (i := 2143) (by decide +kernel)⟩
theorem lw_p123 : lw_okq (⟨"NotationPressModel", "joins", "(II)V"⟩, 77) := ⟨⟨by decide +kernel, by decide +kernel⟩, List.mem_of_getElem? (i := 1498) (by decide +kernel), List.mem_of_getElem? (i := 2146) (by decide +kernel), List.mem_of_getElem? (i := 2147) (by decide +kernel)⟩
theorem lw_p124 : lw_okq (⟨"NotationPressModel", "takesBack", "(II)V"⟩, 77) := ⟨⟨by decide +kernel, by decide +kernel⟩, List.mem_of_getElem? (i := 1498) (by decide +kernel), List.mem_of_getElem? (i := 2150) (by decide +kernel), List.mem_of_getElem? (i := 2151) (by decide +kernel)⟩
theorem lw_p125 : lw_okq (⟨"NotationPressModel", "lastOf", "(III)I"⟩, 77) := ⟨⟨by decide +kernel, by decide +kernel⟩, List.mem_of_getElem? (i := 1498) (by decide +kernel), List.mem_of_getElem? (i := 2171) (by decide +kernel), List.mem_of_getElem? (i := 2172) (by decide +kernel)⟩
theorem lw_p126 : lw_okq (⟨"NotationPressModel", "areSame", "(II)Z"⟩, 77) := ⟨⟨by decide +kernel, by decide +kernel⟩, List.mem_of_getElem? (i := 1498) (by decide +kernel), List.mem_of_getElem? (i := 2175) (by decide +kernel), List.mem_of_getElem? (i := 2176) (by decide +kernel)⟩
theorem lw_p127 : lw_okq (⟨"NotationPressModel", "isFound", "(III)Z"⟩, 77) := ⟨⟨by decide +kernel, by decide +kernel⟩, List.mem_of_getElem? (i := 1498) (by decide +kernel), List.mem_of_getElem? (i := 2183) (by decide +kernel), List.mem_of_getElem? (i := 2184) (by decide +kernel)⟩
def lw_privs_8 : List (MethodName × Nat) := [(⟨"NotationPressModel", "isDerived", "(II)Z"⟩, 77), (⟨"NotationPressModel", "derives", "(II)I"⟩, 77), (⟨"NotationPressModel", "inColumn", "(II)I"⟩, 77), (⟨"NotationPressModel", "clearsCodes", "()V"⟩, 77), (⟨"NotationPressModel", "adds", "(II)V"⟩, 77), (⟨"NotationPressModel", "isUpgrade", "(I)Z"⟩, 77), (⟨"NotationPressModel", "isWhole", "(II)Z"⟩, 77), (⟨"NotationPressModel", "composes", "(II)V"⟩, 77), (⟨"NotationPressModel", "keepsUpgrade", "()I"⟩, 77), (⟨"NotationPressModel", "isReversible", "(I)Z"⟩, 77), (⟨"NotationPressModel", "partsOf", "(I)I"⟩, 77), (⟨"NotationPressModel", "joins", "(II)V"⟩, 77), (⟨"NotationPressModel", "takesBack", "(II)V"⟩, 77), (⟨"NotationPressModel", "lastOf", "(III)I"⟩, 77), (⟨"NotationPressModel", "areSame", "(II)Z"⟩, 77), (⟨"NotationPressModel", "isFound", "(III)Z"⟩, 77)]
theorem lw_r8 : ∀ q ∈ lw_privs_8, lw_okq q := List.forall_mem_cons.mpr ⟨lw_p112, List.forall_mem_cons.mpr ⟨lw_p113, List.forall_mem_cons.mpr ⟨lw_p114, List.forall_mem_cons.mpr ⟨lw_p115, List.forall_mem_cons.mpr ⟨lw_p116, List.forall_mem_cons.mpr ⟨lw_p117, List.forall_mem_cons.mpr ⟨lw_p118, List.forall_mem_cons.mpr ⟨lw_p119, List.forall_mem_cons.mpr ⟨lw_p120, List.forall_mem_cons.mpr ⟨lw_p121, List.forall_mem_cons.mpr ⟨lw_p122, List.forall_mem_cons.mpr ⟨lw_p123, List.forall_mem_cons.mpr ⟨lw_p124, List.forall_mem_cons.mpr ⟨lw_p125, List.forall_mem_cons.mpr ⟨lw_p126, List.forall_mem_cons.mpr ⟨lw_p127, fun _ h => absurd h List.not_mem_nil⟩⟩⟩⟩⟩⟩⟩⟩⟩⟩⟩⟩⟩⟩⟩⟩
theorem lw_p128 : lw_okq (⟨"NotationPressModel", "findsRow", "(IIII)I"⟩, 77) := ⟨⟨by decide +kernel, by decide +kernel⟩, List.mem_of_getElem? (i := 1498) (by decide +kernel), List.mem_of_getElem? (i := 2187) (by decide +kernel), List.mem_of_getElem? (i := 2188) (by decide +kernel)⟩
def lw_privs_9 : List (MethodName × Nat) := [(⟨"NotationPressModel", "findsRow", "(IIII)I"⟩, 77)]
theorem lw_r9 : ∀ q ∈ lw_privs_9, lw_okq q := List.forall_mem_cons.mpr ⟨lw_p128, fun _ h => absurd h List.not_mem_nil⟩
def lw_privs : List (MethodName × Nat) := lw_privs_1 ++ (lw_privs_2 ++ (lw_privs_3 ++ (lw_privs_4 ++ (lw_privs_5 ++ (lw_privs_6 ++ (lw_privs_7 ++ (lw_privs_8 ++ (lw_privs_9))))))))
def lw_tbl : List Cond := k2_sels lw_privs ++ tables_1
theorem lw_privs_ok : ∀ q ∈ lw_privs, lw_okq q := by
  show ∀ q ∈ lw_privs_1 ++ (lw_privs_2 ++ (lw_privs_3 ++ (lw_privs_4 ++ (lw_privs_5 ++ (lw_privs_6 ++ (lw_privs_7 ++ (lw_privs_8 ++ (lw_privs_9)))))))), lw_okq q
  exact List.forall_mem_append.mpr ⟨lw_r1, List.forall_mem_append.mpr ⟨lw_r2, List.forall_mem_append.mpr ⟨lw_r3, List.forall_mem_append.mpr ⟨lw_r4, List.forall_mem_append.mpr ⟨lw_r5, List.forall_mem_append.mpr ⟨lw_r6, List.forall_mem_append.mpr ⟨lw_r7, List.forall_mem_append.mpr ⟨lw_r8, lw_r9⟩⟩⟩⟩⟩⟩⟩⟩
-- ===== end of PART A; then your names; then what follows =====
end
section
/-! ===== BEGIN words of one list among another's, by their places ===== -/
theorem goodIn_r {big : List Cond} (ws : List Cond) (ps : List Nat) (hp : ws = ps.filterMap (fun i => big[i]?)) (h : ws.all goodWord = true) : GoodIn big ws := by
  intro w hw
  have h1 := List.all_eq_true.mp h w hw
  rw [hp] at hw
  obtain ⟨i, -, hi⟩ := List.mem_filterMap.mp hw
  have hm : w ∈ big := by first | exact List.mem_of_getElem? hi | exact List.getElem?_mem hi
  exact ⟨hm, good_of_word h1⟩
theorem goodIn_app {big a b : List Cond} (ha : GoodIn big a) (hb : GoodIn big b) : GoodIn big (a ++ b) := fun w h => (List.mem_append.mp h).elim (ha w) (hb w)
theorem goodIn_ca {big a b : List Cond} {c : Cond} (ha : GoodIn big (c :: a)) (hb : GoodIn big b) : GoodIn big (c :: (a ++ b)) := fun w h => (List.mem_cons.mp h).elim (fun e => ha w (List.mem_cons.mpr (Or.inl e))) (fun h => (List.mem_append.mp h).elim (fun h => ha w (List.mem_cons.mpr (Or.inr h))) (hb w))
theorem goodIn_sub {big ws : List Cond} (hm : ∀ w ∈ ws, w ∈ big) (h : ws.all goodWord = true) : GoodIn big ws := fun w hw => ⟨hm w hw, good_of_word (List.all_eq_true.mp h w hw)⟩
/-! ===== END ===== -/

/-! ===== BEGIN exceptions that leave a method, and their catching by the caller (launches without stack traces) ===== -/
section VXA
/-! The laws vx_back, vx_callV, vx_callS, vx_callSW, vx_throw0, vx_throwS follow proofs of the library, with one case more: JvmDerived/Free/Laws.lean (Back.of_free), Shelf42/LK1.lean (callV, callS), Shelf/KitTraced.lean (throwNew0V, throwNewS). -/
/-- where a method has thrown q: the class by its name, the cell, what was written, the world -/
def vx_T (XC : String → State → State → Prop) (st : State) (q : Addr) (t : State) (mc ms : Nat) (free : Addr → Prop) : Prop :=
  ∃ (E : String) (ce : Cell) (L : List Loc), XC E st t ∧ t.heap[q]? = some ce ∧ ce.vm = .none ∧ st.vm.findClass E = some ce.cls ∧ st.WarmedH t.vm ∧ st.sameButNew ({ t with vm := st.vm } : State) L mc ms ∧ ∀ z ∈ L, free z.base
def vx_Q (Qc : Array Value → State → Outcome → State → Prop) (XC : String → State → State → Prop) (mc ms : Nat) (free : Addr → Prop) : Array Value → State → Outcome → State → Prop := fun a st o t =>
  (Qc a st o t ∧ ∃ L, FrameEnd st o t L mc ms ∧ ∀ q ∈ L, free q.base) ∨ ∃ q, o = .threw q ∧ vx_T XC st q t mc ms free
/-- a callee that returns or throws -/
def vx_Met (l : Launch) (y : MethodName) (ws : List Cond) (rm : Room) (Pc : Array Value → State → Prop) (Qc : Array Value → State → Outcome → State → Prop) (XC : String → State → State → Prop) (mc ms : Nat) (free : Addr → Prop) : Prop :=
  MetFree l y (headSpec ws rm) Pc (fun _ _ _ _ _ => True) (vx_Q Qc XC mc ms free)
def vx_Post (XC : String → State → State → Prop) (mc ms : Nat) (free : Addr → Prop) : Pt → Array Value → Addr → Pt → Prop := fun A a q B =>
  ∃ (g : JFrame) (mk : MethodId) (t : State) (L : List Loc) (E : String) (ce : Cell), B.U.heap = t.heap ∧ B.U.vm = t.vm ∧ XC E (A.U.calling g mk a) t ∧ t.heap[q]? = some ce ∧ ce.vm = .none ∧ A.U.vm.findClass E = some ce.cls ∧ B.locs = A.locs ++ L ∧ (∀ z ∈ L, free z.base) ∧ B.cells = A.cells + mc ∧ B.slots = A.slots + ms
def vx_Back (l : Launch) (R : Room) (p : Program) (e : Env) (below : List Frame) (s : State) (sargs : Array Value) (y : MethodName) (len W9 : Nat)
    (Pre : Pt → Array Value → Prop) (Post : Pt → Array Value → Option Value → Pt → Prop) (PostX : Pt → Array Value → Addr → Pt → Prop) : Prop :=
  ∀ (m : MethodId) (meth : Method) (c : Code) (A : Pt) (g : JFrame) (ig : Instr) (mk : MethodId) (a : Array Value),
    Stand p l e R s m sargs below meth c A.U A.locs A.cells A.slots → g.method = m → g.locals.size = c.maxLocals → decode c.code g.pc = .ok (ig, len) →
    2 * g.monitorRoom + (g.stack.map fun v => v.category).sum ≤ W9 → A.U.methodNamed? y = some mk → Pre A a →
    (∃ (v : Option Value) (B : Pt), Stand p l e R s m sargs below meth c B.U B.locs B.cells B.slots ∧ Post A a v B ∧
      Steps p.tables e below (doInvoke e (A.U.setTop g) [] mk a).1 (B.U.setTop { g with pc := g.pc + len, stack := v.toList ++ g.stack })) ∨
    (∃ (q : Addr) (B : Pt), Stand p l e R s m sargs below meth c B.U B.locs B.cells B.slots ∧ PostX A a q B ∧
      Steps p.tables e below (doInvoke e (A.U.setTop g) [] mk a).1 ((B.U.setTop g).pushFrame (.throwing q)))
section Payer
variable {l : Launch} {R : Room} {p : Program} {e : Env} {below : List Frame} {s : State} {sargs : Array Value} {y : MethodName} {len W9 : Nat}
theorem vx_back {ws : List Cond} {rm : Room} {Pc : Array Value → State → Prop} {Qc : Array Value → State → Outcome → State → Prop} {XC : String → State → State → Prop} {mc ms : Nat} {free : Addr → Prop} {bytes : ByteArray} {maxL : Nat} {ret : Option FieldType}
    (hM : vx_Met l y ws rm Pc Qc XC mc ms free) (hblind : FrameBlind Pc) (hrc : rm.cells = mc) (hrs : rm.slots = ms)
    (hframes : rm.frames + 1 ≤ R.frames) (hlocals : W9 + (maxL + 11) + rm.locals ≤ R.locals)
    (hws : ∀ w ∈ ws, ∀ a' U, s.WarmedH U.vm → w.before a' U = true) (hcode : Cond.code y bytes maxL ret ∈ ws) (hinit : ∀ a' U, s.WarmedH U.vm → (Cond.initialized y.cls).before a' U = true) :
    vx_Back l R p e below s sargs y len W9 (PreOf R mc ms Pc) (PostOf Qc mc ms free) (vx_Post XC mc ms free) := by
  intro m meth c A g ig mk a X hg hsize hdg hW hn hp
  have h1 : (headSpec ws rm).pre.before a A.U = true := atoms_intro fun w hw => hws w hw _ _ X.warmed
  have h2 : (Cond.code y bytes maxL ret).before a A.U = true := hws _ hcode _ _ X.warmed
  have h3 : (Cond.initialized y.cls).before a A.U = true := hinit _ _ X.warmed
  have h4 : A.cells + (headSpec ws rm).room.cells ≤ R.cells := by rw [show (headSpec ws rm).room.cells = mc from hrc]; exact hp.1
  have h5 : A.slots + (headSpec ws rm).room.slots ≤ R.slots := by rw [show (headSpec ws rm).room.slots = ms from hrs]; exact hp.2.1
  have hPc : Pc a (A.U.calling g mk a) := hblind _ _ _ _ hp.2.2
  obtain ⟨U, Ls, c0, s0⟩ := A
  dsimp only [Pt.U, Pt.locs, Pt.cells, Pt.slots] at h1 h2 h3 h4 h5 X hn hPc ⊢
  obtain ⟨methY, cY, hmY, hcY, -, hlY, -, -, -, -⟩ := Cond.code_spec hn h2
  obtain ⟨kY, hkY, -⟩ := className_of_methodNamed hn
  have hinitY : kY.init = .initialized := Cond.initialized_spec (findClass_of_methodNamed hn) hkY h3
  have h : At U g.method c below := by rw [hg]; exact X.here
  have hlocals9 : W9 + (maxL + 11) + (headSpec ws rm).room.locals ≤ R.locals := hlocals
  have happ : (headSpec ws rm).appliesLoose y e.platform (U.calling g mk a) = true :=
    Spec.appliesLoose_calling (g := g) h hdg hn hkY hinitY
      (X.room_calling (g := g) (R' := (headSpec ws rm).room) hsize hmY hcY hframes (by rw [hlY]; omega) h4 h5) h1
  obtain ⟨mid, hmid⟩ := h.above
  have hfr : (U.setTop g).frames = (.java g :: mid) ++ below := by rw [State.frames_setTop' g h.top, hmid]; rfl
  obtain ⟨o, s₂, hsteps, -, hend, hq⟩ := Steps.callFree hM p X.admits X.cas X.clock (acts := []) hfr happ hPc trivial
  have hq' : vx_Q Qc XC mc ms free a (U.calling g mk a) o s₂ := hq
  rw [State.frames_setTop' g h.top] at hend
  obtain ⟨g₀, hg0⟩ := Option.isSome_iff_exists.mp h.top
  obtain ⟨r, hr⟩ := State.topJava?_eq_some.mp hg0
  have hr' : (({ U with heap := s₂.heap, slotsUsed := s₂.slotsUsed } : State).setVm s₂.vm).frames = .java g₀ :: r := hr
  rcases hq' with ⟨hqc, L, hfe, hL⟩ | ⟨q, rfl, E, ce, L, hx, hce, hcv, hcl, hW₂, hsm, hL⟩
  · obtain ⟨⟨v, rfl⟩, hW₂, e2, q2, q3, q4, q5, q6⟩ := id hfe
    have e3 : s₂ = ({ (U.calling g mk a).setFrames s₂.frames with heap := s₂.heap, slotsUsed := s₂.slotsUsed } : State).setVm s₂.vm := by
      have : s₂ = ({ s₂ with vm := (U.calling g mk a).vm } : State).setVm s₂.vm := rfl
      rw [e2] at this
      exact this
    obtain ⟨c₂, i₂, len₂, hc₂, hd₂, hf₂⟩ := hend
    have hW' : U.WarmedH s₂.vm := hW₂
    have hcc : c₂ = c := by
      have h1 : s₂.code? g.method = U.code? g.method := by
        rw [State.code?_eq, State.code?_eq, hW'.alike.method?]
      exact Option.some.inj (hc₂.symm.trans (h1.trans h.code))
    subst hcc
    have hlen : len₂ = len := by rw [hdg] at hd₂; cases hd₂; rfl
    subst hlen
    have hs₂ : s₂ = (({ U with heap := s₂.heap, slotsUsed := s₂.slotsUsed } : State).setVm s₂.vm).setTop { g with pc := g.pc + len₂, stack := v.toList ++ g.stack } := by
      refine e3.trans ?_
      rw [hf₂, State.calling_eq h.top, State.setFrames_setFrames, State.setTop_of_frames _ hr', hr]
      rfl
    have hsame : U.sameButNew ({ U with heap := s₂.heap, slotsUsed := s₂.slotsUsed } : State) L mc ms := by
      refine ⟨?_, q2, q3, q4, q5, q6⟩
      obtain ⟨t, ht, -⟩ := State.frames_cons hr
      show ({ U with heap := s₂.heap, slotsUsed := s₂.slotsUsed } : State) = { U.setFrames U.frames with heap := s₂.heap, slotsUsed := s₂.slotsUsed }
      rw [State.setFrames_self ht]
    subst hg
    refine Or.inl ⟨v, ⟨(({ U with heap := s₂.heap, slotsUsed := s₂.slotsUsed } : State).setVm s₂.vm), Ls ++ L, c0 + mc, s0 + ms⟩,
      ⟨X.admits, X.cas, X.clock, X.frames, X.room, X.hears, X.method, X.code, (X.here.setHeapUsed s₂.heap s₂.slotsUsed).setVm hW'.alike, X.tail, State.WarmedH.trans X.warmed hW', X.limits, X.bytes, X.same.trans (hsame.setVm s.vm)⟩,
      ⟨g, mk, s₂, L, rfl, rfl, hqc, rfl, hL, rfl, rfl⟩, ?_⟩
    show Steps p.tables e below _ ((({ U with heap := s₂.heap, slotsUsed := s₂.slotsUsed } : State).setVm s₂.vm).setTop { g with pc := g.pc + len₂, stack := v.toList ++ g.stack })
    rw [← hs₂]
    exact hsteps
  · obtain ⟨e2, q2, q3, q4, q5, q6⟩ := id hsm
    have e3 : s₂ = ({ (U.calling g mk a).setFrames s₂.frames with heap := s₂.heap, slotsUsed := s₂.slotsUsed } : State).setVm s₂.vm := by
      have : s₂ = ({ s₂ with vm := (U.calling g mk a).vm } : State).setVm s₂.vm := rfl
      rw [e2] at this
      exact this
    have hf₂ : s₂.frames = .throwing q :: .java g :: U.frames.tail := hend
    have hW' : U.WarmedH s₂.vm := hW₂
    have hs₂ : s₂ = ((({ U with heap := s₂.heap, slotsUsed := s₂.slotsUsed } : State).setVm s₂.vm).setTop g).pushFrame (.throwing q) := by
      refine e3.trans ?_
      rw [hf₂, State.calling_eq h.top, State.setFrames_setFrames, State.pushFrame, State.frames_setTop _ hr', State.setTop_of_frames _ hr', State.setFrames_setFrames, hr]
      rfl
    have hsame : U.sameButNew ({ U with heap := s₂.heap, slotsUsed := s₂.slotsUsed } : State) L mc ms := by
      refine ⟨?_, q2, q3, q4, q5, q6⟩
      obtain ⟨t, ht, -⟩ := State.frames_cons hr
      show ({ U with heap := s₂.heap, slotsUsed := s₂.slotsUsed } : State) = { U.setFrames U.frames with heap := s₂.heap, slotsUsed := s₂.slotsUsed }
      rw [State.setFrames_self ht]
    subst hg
    refine Or.inr ⟨q, ⟨(({ U with heap := s₂.heap, slotsUsed := s₂.slotsUsed } : State).setVm s₂.vm), Ls ++ L, c0 + mc, s0 + ms⟩,
      ⟨X.admits, X.cas, X.clock, X.frames, X.room, X.hears, X.method, X.code, (X.here.setHeapUsed s₂.heap s₂.slotsUsed).setVm hW'.alike, X.tail, State.WarmedH.trans X.warmed hW', X.limits, X.bytes, X.same.trans (hsame.setVm s.vm)⟩,
      ⟨g, mk, s₂, L, E, ce, rfl, rfl, hx, hce, hcv, hcl, rfl, hL, rfl, rfl⟩, ?_⟩
    show Steps p.tables e below _ (((({ U with heap := s₂.heap, slotsUsed := s₂.slotsUsed } : State).setVm s₂.vm).setTop g).pushFrame (.throwing q))
    rw [← hs₂]
    exact hsteps
end Payer
section Calls
variable {p : Program} {l : Launch} {e : Env} {R : Room} {s : State} {m : MethodId} {args : Array Value} {below : List Frame} {meth : Method} {c : Code} {T : State} {locs : List Loc} {cells slots : Nat}
theorem vx_callV (X : Stand p l e R s m args below meth c T locs cells slots) (hexec : p.tables.exec = Jvm.exec) {own C : String} {index : Nat} {y : MethodName} {bytes : ByteArray} {maxL : Nat} {ret : Option FieldType}
    (hown : s.vm.findClass own = some m.cls) (hlink : (Cond.methodLink own index y).before args s = true) (hinst : (Cond.instanceMethod y).before args s = true) (hsel : (Cond.selects C y y).before args s = true)
    (hcode : (Cond.code y bytes maxL ret).before args s = true) (hy : y.cls ≠ "java/lang/invoke/MethodHandle" ∧ y.cls ≠ "java/lang/invoke/VarHandle")
    {W9 : Nat} {Pre : Pt → Array Value → Prop} {Post : Pt → Array Value → Option Value → Pt → Prop} {PostX : Pt → Array Value → Addr → Pt → Prop} (hK : vx_Back l R p e below s args y 3 W9 Pre Post PostX)
    {b : Addr} {cellB : Cell} (hcell : T.heap[b]? = some cellB) (hobj : cellB.vm.isStatics = false) (hcls : s.vm.findClass C = some cellB.cls)
    {g : JFrame} (hg : g.method = m) (hsize : g.locals.size = c.maxLocals) {argsL rest : List Value} (hlen : ∀ sig, parseMethodDescriptor y.desc = some sig → argsL.length = sig.parameters.length)
    (hstack : g.stack = argsL.reverse ++ .ref b :: rest) (hW : 2 * g.monitorRoom + (rest.map fun v => v.category).sum ≤ W9) (hdg : decode c.code g.pc = .ok (.invokevirtual index, 3))
    (hpre : ∀ vm₁, s.WarmedH vm₁ → Pre ⟨T.setVm vm₁, locs, cells, slots⟩ (Value.ref b :: argsL).toArray) :
    (∃ (v : Option Value) (vm₁ : Vm) (B : Pt), s.WarmedH vm₁ ∧ Stand p l e R s m args below meth c B.U B.locs B.cells B.slots ∧ Post ⟨T.setVm vm₁, locs, cells, slots⟩ (Value.ref b :: argsL).toArray v B ∧
      ∀ target, Steps p.tables e below (B.U.setTop { g with pc := g.pc + 3, stack := v.toList ++ rest }) target → Steps p.tables e below (T.setTop g) target) ∨
    (∃ (q : Addr) (vm₁ : Vm) (B : Pt), s.WarmedH vm₁ ∧ Stand p l e R s m args below meth c B.U B.locs B.cells B.slots ∧ PostX ⟨T.setVm vm₁, locs, cells, slots⟩ (Value.ref b :: argsL).toArray q B ∧
      Steps p.tables e below (T.setTop g) ((B.U.setTop { g with stack := rest }).pushFrame (.throwing q))) := by
  obtain ⟨mk, methM, hnamed, hmethM, hstM, habM⟩ := Cond.instanceMethod_spec hinst
  obtain ⟨methM', cM, hmethM', -, -, -, -, -, -, hsigM⟩ := Cond.code_spec hnamed hcode
  cases hmethM.symm.trans hmethM'
  obtain ⟨c2, r2, m2, q1, q2, q3, q4, kP, hkP, hkPi⟩ := Cond.selects_spec hsel
  cases hcls.symm.trans q1
  cases (State.methodFound?_of_named hnamed hy).symm.trans q2
  cases hnamed.symm.trans q3
  have hselP : selectMethod e.platform s.vm cellB.cls mk = .method mk := by rw [Launch.admits_selectMethod X.admits]; exact q4
  obtain ⟨vm₁, X₁, hstep₁⟩ := X.invokevirtual hexec hown hlink hnamed hmethM hstM hkP hkPi hy (a := b) (cell := cellB) hcell
    (fun z h => by rw [h] at hobj; cases hobj) hselP hmethM habM hkP hkPi (g := g) hg (argsL := argsL) (rest := rest) (hlen _ hsigM) hstack hdg
  rcases hK m meth c ⟨T.setVm vm₁, locs, cells, slots⟩ { g with stack := rest } (.invokevirtual index) mk (Value.ref b :: argsL).toArray X₁ hg hsize hdg hW (X₁.named hnamed) (hpre vm₁ X₁.warmed) with ⟨v, B, X', hpost, hsteps⟩ | ⟨q, B, X', hpost, hsteps⟩
  · exact Or.inl ⟨v, vm₁, B, X₁.warmed, X', hpost, fun target h => hstep₁ _ fun acts => by rw [doInvoke_state]; exact hsteps.trans h⟩
  · exact Or.inr ⟨q, vm₁, B, X₁.warmed, X', hpost, hstep₁ _ fun acts => by rw [doInvoke_state]; exact hsteps⟩
theorem vx_callS (X : Stand p l e R s m args below meth c T locs cells slots) (hexec : p.tables.exec = Jvm.exec) {own : String} {index : Nat} {y : MethodName} {bytes : ByteArray} {maxL : Nat} {ret : Option FieldType}
    (hown : s.vm.findClass own = some m.cls) (hlink : (Cond.methodLink own index y).before args s = true) (hstat : (Cond.static y).before args s = true) (hinit : (Cond.initialized y.cls).before args s = true)
    (hcode : (Cond.code y bytes maxL ret).before args s = true) (hy : y.cls ≠ "java/lang/invoke/MethodHandle" ∧ y.cls ≠ "java/lang/invoke/VarHandle")
    {W9 : Nat} {Pre : Pt → Array Value → Prop} {Post : Pt → Array Value → Option Value → Pt → Prop} {PostX : Pt → Array Value → Addr → Pt → Prop} (hK : vx_Back l R p e below s args y 3 W9 Pre Post PostX)
    {g : JFrame} (hg : g.method = m) (hsize : g.locals.size = c.maxLocals) {argsL rest : List Value} (hlen : ∀ sig, parseMethodDescriptor y.desc = some sig → argsL.length = sig.parameters.length)
    (hstack : g.stack = argsL.reverse ++ rest) (hW : 2 * g.monitorRoom + (rest.map fun v => v.category).sum ≤ W9) (hdg : decode c.code g.pc = .ok (.invokestatic index, 3))
    (hpre : ∀ vm₁, s.WarmedH vm₁ → Pre ⟨T.setVm vm₁, locs, cells, slots⟩ argsL.toArray) :
    (∃ (v : Option Value) (vm₁ : Vm) (B : Pt), s.WarmedH vm₁ ∧ Stand p l e R s m args below meth c B.U B.locs B.cells B.slots ∧ Post ⟨T.setVm vm₁, locs, cells, slots⟩ argsL.toArray v B ∧
      ∀ target, Steps p.tables e below (B.U.setTop { g with pc := g.pc + 3, stack := v.toList ++ rest }) target → Steps p.tables e below (T.setTop g) target) ∨
    (∃ (q : Addr) (vm₁ : Vm) (B : Pt), s.WarmedH vm₁ ∧ Stand p l e R s m args below meth c B.U B.locs B.cells B.slots ∧ PostX ⟨T.setVm vm₁, locs, cells, slots⟩ argsL.toArray q B ∧
      Steps p.tables e below (T.setTop g) ((B.U.setTop { g with stack := rest }).pushFrame (.throwing q))) := by
  obtain ⟨mk, hnamed⟩ := Cond.code_named hcode
  obtain ⟨methM, cM, hmethM, -, -, -, -, -, -, hsigM⟩ := Cond.code_spec hnamed hcode
  have hstatic : methM.isStatic = true := Cond.static_spec hnamed hmethM hstat
  obtain ⟨kP, hkP, -⟩ := className_of_methodNamed hnamed
  have hinitP : kP.init = .initialized := Cond.initialized_spec (findClass_of_methodNamed hnamed) hkP hinit
  obtain ⟨vm₁, X₁, hstep₁⟩ := X.invokestatic hexec hown hlink hnamed hmethM hstatic hkP hinitP hy (g := g) hg (argsL := argsL) (rest := rest) (hlen _ hsigM) hstack hdg
  rcases hK m meth c ⟨T.setVm vm₁, locs, cells, slots⟩ { g with stack := rest } (.invokestatic index) mk argsL.toArray X₁ hg hsize hdg hW (X₁.named hnamed) (hpre vm₁ X₁.warmed) with ⟨v, B, X', hpost, hsteps⟩ | ⟨q, B, X', hpost, hsteps⟩
  · exact Or.inl ⟨v, vm₁, B, X₁.warmed, X', hpost, fun target h => hstep₁ _ fun acts => by rw [doInvoke_state]; exact hsteps.trans h⟩
  · exact Or.inr ⟨q, vm₁, B, X₁.warmed, X', hpost, hstep₁ _ fun acts => by rw [doInvoke_state]; exact hsteps⟩
end Calls
theorem vx_cls {s : State} {T : State} {vm₁ : Vm} {E : String} {k : ClassId} (hW : s.WarmedH vm₁) (h : (T.setVm vm₁).vm.findClass E = some k) : s.vm.findClass E = some k := by
  have h1 : vm₁.findClass E = some k := h
  rw [hW.alike.findClass] at h1
  exact h1
/-- the method's frame g, with q thrown over it -/
def vx_W (p : Program) (l : Launch) (e : Env) (R : Room) (s : State) (m : MethodId) (args : Array Value) (below : List Frame) (meth : Method) (c : Code) (H : Heap) (locs : List Loc) (cells slots : Nat) (Q : State → Prop) (g : JFrame) (q : Addr) : Prop :=
  ∀ T : State, T.heap = H → Stand p l e R s m args below meth c T locs cells slots → ∃ t, Steps p.tables e below ((T.setTop g).pushFrame (.throwing q)) t ∧ Q t
def vx_Run (p : Program) (l : Launch) (e : Env) (R : Room) (s : State) (m : MethodId) (args : Array Value) (below : List Frame) (meth : Method) (c : Code) (H : Heap) (locs : List Loc) (cells slots mc ms : Nat) (g : JFrame) (rest : List Value) (Qa : State → Outcome → State → Prop) (XC : String → State → State → Prop) (free : Addr → Prop) : Prop :=
  ∀ T : State, T.heap = H → Stand p l e R s m args below meth c T locs cells slots →
    (∃ (v : Option Value) (st₀ t T' : State) (L : List Loc), st₀.heap = H ∧ Stand p l e R s m args below meth c T' (locs ++ L) (cells + mc) (slots + ms) ∧ (∀ q ∈ L, free q.base) ∧ T'.heap = t.heap ∧ T'.vm = t.vm ∧ Qa st₀ (.returned v) t ∧
      Goes p e below T g T' { g with pc := g.pc + 3, stack := v.toList ++ rest }) ∨
    (∃ (q : Addr) (st₀ t T' : State) (L : List Loc) (E : String) (ce : Cell), st₀.heap = H ∧ Stand p l e R s m args below meth c T' (locs ++ L) (cells + mc) (slots + ms) ∧ (∀ z ∈ L, free z.base) ∧ T'.heap = t.heap ∧ T'.vm = t.vm ∧ XC E st₀ t ∧ t.heap[q]? = some ce ∧ ce.vm = .none ∧ s.vm.findClass E = some ce.cls ∧
      Steps p.tables e below (T.setTop g) ((T'.setTop { g with stack := rest }).pushFrame (.throwing q)))
def vx_X {S : Type} (px : S → Prop) (B : String → S → State → Prop) (A : Nat → Prop) : String → State → State → Prop := fun E st t => ∃ u : S, px u ∧ B E u t ∧ va_F A st t
section Runs
variable {p : Program} {l : Launch} {e : Env} {R : Room} {s : State} {m : MethodId} {args : Array Value} {below : List Frame} {meth : Method} {c : Code} {H : Heap} {locs : List Loc} {cells slots : Nat}
variable {y : MethodName} {bytes cc : ByteArray} {maxL nL mc ms n index : Nat} {ret : Option FieldType} {ws : List Cond} {rm : Room} {Pc : Array Value → State → Prop} {Qc : Array Value → State → Outcome → State → Prop} {XC : String → State → State → Prop} {free : Addr → Prop} {Ts : List Cond} {own C : String} {b : Addr} {As rest : List Value} {g : JFrame}
theorem vx_callBack (cb : CallB R s args own index y bytes maxL ret ws rm mc ms n) (hM : vx_Met l y ws rm Pc Qc XC mc ms free) (hbl : FrameBlind Pc) : vx_Back l R p e below s args y 3 8 (PreOf R mc ms Pc) (PostOf Qc mc ms free) (vx_Post XC mc ms free) := by
  obtain ⟨hrc, hrs, hfr, hlo, hws, hcw, -, hini, -⟩ := cb
  exact vx_back (bytes := bytes) (maxL := maxL) (ret := ret) hM hbl hrc hrs hfr hlo hws hcw (fun a' U hW => word_at hW (Or.inl (by first | rfl | simp [Cond.onTables, Cond.keeps, Cond.steady])) hini)
theorem vx_runV (S : CallFix p m c cc nL s args Ts own) (hM : vx_Met l y ws rm Pc Qc XC mc ms free) (cw : CallW R s args own C index y bytes maxL ret ws rm mc ms n) (hp : PreV s H C b Pc As)
    (hg : g.method = m) (hn : As.length = n) (hsize : g.locals.size = nL) (hstack : g.stack = As.reverse ++ .ref b :: rest) (hW : 2 * g.monitorRoom + (rest.map fun v => v.category).sum ≤ 8) (hdg : decode cc g.pc = .ok (.invokevirtual index, 3)) (hf : cells + mc ≤ R.cells ∧ slots + ms ≤ R.slots) :
    vx_Run p l e R s m args below meth c H locs cells slots mc ms g rest (Qc (Value.ref b :: As).toArray) XC free := by
  have hK : vx_Back l R p e below s args y 3 8 (PreOf R mc ms Pc) (PostOf Qc mc ms free) (vx_Post XC mc ms free) := vx_callBack cw.1 hM hp.1
  obtain ⟨⟨-, -, -, -, -, -, hcode, -, hy, hlen, hl⟩, hin, hse⟩ := cw
  obtain ⟨hx, hb, hml, ho, -⟩ := S
  obtain ⟨-, ⟨cellB, hcB, hoB, hclB⟩, hPc⟩ := hp
  intro T hT X
  rcases vx_callV X hx (C := C) (bytes := bytes) (maxL := maxL) (ret := ret) ho hl hin hse hcode hy hK (by rw [hT]; exact hcB) hoB hclB hg (hsize.trans hml.symm) (argsL := As) (rest := rest) (fun sig h => hn.trans (hlen sig h)) hstack hW (by rw [hb]; exact hdg)
    (fun vm₁ hW₁ => ⟨hf.1, hf.2, hPc (T.setVm vm₁) hT hW₁⟩) with ⟨v, vm₁, ⟨U', l2, c2, s2⟩, hW₁, X', ⟨g', mk, t, L, e1, e2, hq, h1, hL, h2, h3⟩, st⟩ | ⟨q, vm₁, ⟨U', l2, c2, s2⟩, hW₁, X', ⟨g', mk, t, L, E, ce, e1, e2, hq, hce, hcv, hcl, h1, hL, h2, h3⟩, st⟩
  · dsimp only [Pt.U, Pt.locs, Pt.cells, Pt.slots] at X' e1 e2 h1 h2 h3 st
    subst h1; subst h2; subst h3
    exact Or.inl ⟨v, (T.setVm vm₁).calling g' mk (Value.ref b :: As).toArray, t, U', L, hT, X', hL, e1, e2, hq, st⟩
  · dsimp only [Pt.U, Pt.locs, Pt.cells, Pt.slots] at X' e1 e2 h1 h2 h3 st hcl
    subst h1; subst h2; subst h3
    exact Or.inr ⟨q, (T.setVm vm₁).calling g' mk (Value.ref b :: As).toArray, t, U', L, E, ce, hT, X', hL, e1, e2, hq, hce, hcv, vx_cls hW₁ hcl, st⟩
theorem vx_runS (S : CallFix p m c cc nL s args Ts own) (hM : vx_Met l y ws rm Pc Qc XC mc ms free) (cw : CallB R s args own index y bytes maxL ret ws rm mc ms n ∧ (Cond.static y).before args s = true) (hp : PreS s H Pc As)
    (hg : g.method = m) (hn : As.length = n) (hsize : g.locals.size = nL) (hstack : g.stack = As.reverse ++ rest) (hW : 2 * g.monitorRoom + (rest.map fun v => v.category).sum ≤ 8) (hdg : decode cc g.pc = .ok (.invokestatic index, 3)) (hf : cells + mc ≤ R.cells ∧ slots + ms ≤ R.slots) :
    vx_Run p l e R s m args below meth c H locs cells slots mc ms g rest (Qc As.toArray) XC free := by
  have hK : vx_Back l R p e below s args y 3 8 (PreOf R mc ms Pc) (PostOf Qc mc ms free) (vx_Post XC mc ms free) := vx_callBack cw.1 hM hp.1
  obtain ⟨⟨-, -, -, -, -, -, hcode, hini, hy, hlen, hl⟩, hstt⟩ := cw
  obtain ⟨hx, hb, hml, ho, -⟩ := S
  intro T hT X
  rcases vx_callS X hx (bytes := bytes) (maxL := maxL) (ret := ret) ho hl hstt hini hcode hy hK hg (hsize.trans hml.symm) (argsL := As) (rest := rest) (fun sig h => hn.trans (hlen sig h)) hstack hW (by rw [hb]; exact hdg)
    (fun vm₁ hW₁ => ⟨hf.1, hf.2, hp.2 (T.setVm vm₁) hT hW₁⟩) with ⟨v, vm₁, ⟨U', l2, c2, s2⟩, hW₁, X', ⟨g', mk, t, L, e1, e2, hq, h1, hL, h2, h3⟩, st⟩ | ⟨q, vm₁, ⟨U', l2, c2, s2⟩, hW₁, X', ⟨g', mk, t, L, E, ce, e1, e2, hq, hce, hcv, hcl, h1, hL, h2, h3⟩, st⟩
  · dsimp only [Pt.U, Pt.locs, Pt.cells, Pt.slots] at X' e1 e2 h1 h2 h3 st
    subst h1; subst h2; subst h3
    exact Or.inl ⟨v, (T.setVm vm₁).calling g' mk As.toArray, t, U', L, hT, X', hL, e1, e2, hq, st⟩
  · dsimp only [Pt.U, Pt.locs, Pt.cells, Pt.slots] at X' e1 e2 h1 h2 h3 st hcl
    subst h1; subst h2; subst h3
    exact Or.inr ⟨q, (T.setVm vm₁).calling g' mk As.toArray, t, U', L, E, ce, hT, X', hL, e1, e2, hq, hce, hcv, vx_cls hW₁ hcl, st⟩
end Runs
section Rows
variable {p : Program} {l : Launch} {e : Env} {R : Room} {s : State} {m : MethodId} {args : Array Value} {below : List Frame} {meth : Method} {c : Code} {H : Heap} {locs : List Loc} {cells slots : Nat} {Q : State → Prop}
variable {mc ms : Nat} {free : Addr → Prop} {A0 A1 : Nat → Prop} {H0 : Heap} {a : Array Value} {pc : Nat} {ls : Array Slot} {st0 rest : List Value}
theorem vx_keep {st₀ t T' : State} {L : List Loc} (h0 : st₀.heap = H) (e1 : T'.heap = t.heap) (hS : va_S A0 H0 H locs) (hA : ∀ q, q < H.size → A1 q → A0 q) (hf : ∀ q, free q → A0 q) (hL : ∀ q ∈ L, free q.base) (hF : va_F A1 st₀ t) :
    H.size ≤ T'.heap.size ∧ (∀ q : Nat, q < H.size → ¬ A1 q → T'.heap[q]? = H[q]?) ∧ va_S A0 H0 T'.heap (locs ++ L) := by
  obtain ⟨hz, hk⟩ := hF
  rw [h0] at hz hk
  exact ⟨by rw [e1]; exact hz, fun q h1 h2 => by rw [e1]; exact hk q h1 h2,
    ⟨Nat.le_trans hS.1 (by rw [e1]; exact hz), fun q h1 h2 => by rw [e1, hk q (Nat.lt_of_lt_of_le h1 hS.1) (fun z => h2 (hA q (Nat.lt_of_lt_of_le h1 hS.1) z))]; exact hS.2.1 q h1 h2, fun q hq => by
      rcases List.mem_append.mp hq with h | h
      · exact hS.2.2 q h
      · exact hf _ (hL q h)⟩⟩
theorem vx_calli {S SX : Type} {post : Int32 → S → Prop} {px : SX → Prop} {B : S → State → Prop} {BX : String → SX → State → Prop} {AX : Nat → Prop} (hr : vx_Run p l e R s m args below meth c H locs cells slots mc ms (F0 m pc ls st0) rest (va_Qi post B A1 a) (vx_X px BX AX) free) (hS : va_S A0 H0 H locs) (hA : ∀ q, q < H.size → A1 q → A0 q) (hf : ∀ q, free q → A0 q) (hAX : ∀ q, q < H.size → AX q → A0 q)
    (kx : ∀ (E : String) (ce : Cell) (q9 : Addr) (u : SX) (t : State) (H1 : Heap) (locs1 : List Loc), t.heap = H1 → s.vm.Alike t.vm → px u → BX E u t → H.size ≤ H1.size → (∀ q : Nat, q < H.size → ¬ AX q → H1[q]? = H[q]?) → va_S A0 H0 H1 locs1 → H1[q9]? = some ce → ce.vm = .none → s.vm.findClass E = some ce.cls → vx_W p l e R s m args below meth c H1 locs1 (cells + mc) (slots + ms) Q (F0 m pc ls rest) q9)
    (kk : ∀ (r : Int32) (u : S) (t : State) (H1 : Heap) (locs1 : List Loc), t.heap = H1 → s.vm.Alike t.vm → post r u → B u t → H.size ≤ H1.size → (∀ q : Nat, q < H.size → ¬ A1 q → H1[q]? = H[q]?) → va_S A0 H0 H1 locs1 → W p l e R s m args below meth c H1 locs1 (cells + mc) (slots + ms) Q (F0 m (pc + 3) ls (.int r :: rest))) : W p l e R s m args below meth c H locs cells slots Q (F0 m pc ls st0) := by
  intro T hT X
  rcases hr T hT X with ⟨v, st₀, t, T', L, h0, X', hL, e1, e2, ⟨⟨r, u, hv, hp, hb⟩, hF⟩, st⟩ | ⟨q, st₀, t, T', L, E, ce, h0, X', hL, e1, e2, ⟨u, hp, hb, hF⟩, hce, hcv, hcl, st⟩
  · cases hv
    obtain ⟨k1, k2, k3⟩ := vx_keep h0 e1 hS hA hf hL hF
    obtain ⟨t2, a1, b1⟩ := kk r u t T'.heap (locs ++ L) e1.symm (by rw [← e2]; exact X'.warmed.alike) hp hb k1 k2 k3 T' rfl X'
    exact ⟨t2, st t2 a1, b1⟩
  · obtain ⟨k1, k2, k3⟩ := vx_keep h0 e1 hS hAX hf hL hF
    obtain ⟨t2, a1, b1⟩ := kx E ce q u t T'.heap (locs ++ L) e1.symm (by rw [← e2]; exact X'.warmed.alike) hp hb k1 k2 k3 (by rw [e1]; exact hce) hcv hcl T' rfl X'
    exact ⟨t2, st.trans a1, b1⟩
theorem vx_calll {S SX : Type} {post : Int64 → S → Prop} {px : SX → Prop} {B : S → State → Prop} {BX : String → SX → State → Prop} {AX : Nat → Prop} (hr : vx_Run p l e R s m args below meth c H locs cells slots mc ms (F0 m pc ls st0) rest (va_Ql post B A1 a) (vx_X px BX AX) free) (hS : va_S A0 H0 H locs) (hA : ∀ q, q < H.size → A1 q → A0 q) (hf : ∀ q, free q → A0 q) (hAX : ∀ q, q < H.size → AX q → A0 q)
    (kx : ∀ (E : String) (ce : Cell) (q9 : Addr) (u : SX) (t : State) (H1 : Heap) (locs1 : List Loc), t.heap = H1 → s.vm.Alike t.vm → px u → BX E u t → H.size ≤ H1.size → (∀ q : Nat, q < H.size → ¬ AX q → H1[q]? = H[q]?) → va_S A0 H0 H1 locs1 → H1[q9]? = some ce → ce.vm = .none → s.vm.findClass E = some ce.cls → vx_W p l e R s m args below meth c H1 locs1 (cells + mc) (slots + ms) Q (F0 m pc ls rest) q9)
    (kk : ∀ (r : Int64) (u : S) (t : State) (H1 : Heap) (locs1 : List Loc), t.heap = H1 → s.vm.Alike t.vm → post r u → B u t → H.size ≤ H1.size → (∀ q : Nat, q < H.size → ¬ A1 q → H1[q]? = H[q]?) → va_S A0 H0 H1 locs1 → W p l e R s m args below meth c H1 locs1 (cells + mc) (slots + ms) Q (F0 m (pc + 3) ls (.long r :: rest))) : W p l e R s m args below meth c H locs cells slots Q (F0 m pc ls st0) := by
  intro T hT X
  rcases hr T hT X with ⟨v, st₀, t, T', L, h0, X', hL, e1, e2, ⟨⟨r, u, hv, hp, hb⟩, hF⟩, st⟩ | ⟨q, st₀, t, T', L, E, ce, h0, X', hL, e1, e2, ⟨u, hp, hb, hF⟩, hce, hcv, hcl, st⟩
  · cases hv
    obtain ⟨k1, k2, k3⟩ := vx_keep h0 e1 hS hA hf hL hF
    obtain ⟨t2, a1, b1⟩ := kk r u t T'.heap (locs ++ L) e1.symm (by rw [← e2]; exact X'.warmed.alike) hp hb k1 k2 k3 T' rfl X'
    exact ⟨t2, st t2 a1, b1⟩
  · obtain ⟨k1, k2, k3⟩ := vx_keep h0 e1 hS hAX hf hL hF
    obtain ⟨t2, a1, b1⟩ := kx E ce q u t T'.heap (locs ++ L) e1.symm (by rw [← e2]; exact X'.warmed.alike) hp hb k1 k2 k3 (by rw [e1]; exact hce) hcv hcl T' rfl X'
    exact ⟨t2, st.trans a1, b1⟩
theorem vx_callf {S SX : Type} {post : UInt32 → S → Prop} {px : SX → Prop} {B : S → State → Prop} {BX : String → SX → State → Prop} {AX : Nat → Prop} (hr : vx_Run p l e R s m args below meth c H locs cells slots mc ms (F0 m pc ls st0) rest (va_Qf post B A1 a) (vx_X px BX AX) free) (hS : va_S A0 H0 H locs) (hA : ∀ q, q < H.size → A1 q → A0 q) (hf : ∀ q, free q → A0 q) (hAX : ∀ q, q < H.size → AX q → A0 q)
    (kx : ∀ (E : String) (ce : Cell) (q9 : Addr) (u : SX) (t : State) (H1 : Heap) (locs1 : List Loc), t.heap = H1 → s.vm.Alike t.vm → px u → BX E u t → H.size ≤ H1.size → (∀ q : Nat, q < H.size → ¬ AX q → H1[q]? = H[q]?) → va_S A0 H0 H1 locs1 → H1[q9]? = some ce → ce.vm = .none → s.vm.findClass E = some ce.cls → vx_W p l e R s m args below meth c H1 locs1 (cells + mc) (slots + ms) Q (F0 m pc ls rest) q9)
    (kk : ∀ (r : UInt32) (u : S) (t : State) (H1 : Heap) (locs1 : List Loc), t.heap = H1 → s.vm.Alike t.vm → post r u → B u t → H.size ≤ H1.size → (∀ q : Nat, q < H.size → ¬ A1 q → H1[q]? = H[q]?) → va_S A0 H0 H1 locs1 → W p l e R s m args below meth c H1 locs1 (cells + mc) (slots + ms) Q (F0 m (pc + 3) ls (.float r :: rest))) : W p l e R s m args below meth c H locs cells slots Q (F0 m pc ls st0) := by
  intro T hT X
  rcases hr T hT X with ⟨v, st₀, t, T', L, h0, X', hL, e1, e2, ⟨⟨r, u, hv, hp, hb⟩, hF⟩, st⟩ | ⟨q, st₀, t, T', L, E, ce, h0, X', hL, e1, e2, ⟨u, hp, hb, hF⟩, hce, hcv, hcl, st⟩
  · cases hv
    obtain ⟨k1, k2, k3⟩ := vx_keep h0 e1 hS hA hf hL hF
    obtain ⟨t2, a1, b1⟩ := kk r u t T'.heap (locs ++ L) e1.symm (by rw [← e2]; exact X'.warmed.alike) hp hb k1 k2 k3 T' rfl X'
    exact ⟨t2, st t2 a1, b1⟩
  · obtain ⟨k1, k2, k3⟩ := vx_keep h0 e1 hS hAX hf hL hF
    obtain ⟨t2, a1, b1⟩ := kx E ce q u t T'.heap (locs ++ L) e1.symm (by rw [← e2]; exact X'.warmed.alike) hp hb k1 k2 k3 (by rw [e1]; exact hce) hcv hcl T' rfl X'
    exact ⟨t2, st.trans a1, b1⟩
theorem vx_calld {S SX : Type} {post : UInt64 → S → Prop} {px : SX → Prop} {B : S → State → Prop} {BX : String → SX → State → Prop} {AX : Nat → Prop} (hr : vx_Run p l e R s m args below meth c H locs cells slots mc ms (F0 m pc ls st0) rest (va_Qd post B A1 a) (vx_X px BX AX) free) (hS : va_S A0 H0 H locs) (hA : ∀ q, q < H.size → A1 q → A0 q) (hf : ∀ q, free q → A0 q) (hAX : ∀ q, q < H.size → AX q → A0 q)
    (kx : ∀ (E : String) (ce : Cell) (q9 : Addr) (u : SX) (t : State) (H1 : Heap) (locs1 : List Loc), t.heap = H1 → s.vm.Alike t.vm → px u → BX E u t → H.size ≤ H1.size → (∀ q : Nat, q < H.size → ¬ AX q → H1[q]? = H[q]?) → va_S A0 H0 H1 locs1 → H1[q9]? = some ce → ce.vm = .none → s.vm.findClass E = some ce.cls → vx_W p l e R s m args below meth c H1 locs1 (cells + mc) (slots + ms) Q (F0 m pc ls rest) q9)
    (kk : ∀ (r : UInt64) (u : S) (t : State) (H1 : Heap) (locs1 : List Loc), t.heap = H1 → s.vm.Alike t.vm → post r u → B u t → H.size ≤ H1.size → (∀ q : Nat, q < H.size → ¬ A1 q → H1[q]? = H[q]?) → va_S A0 H0 H1 locs1 → W p l e R s m args below meth c H1 locs1 (cells + mc) (slots + ms) Q (F0 m (pc + 3) ls (.double r :: rest))) : W p l e R s m args below meth c H locs cells slots Q (F0 m pc ls st0) := by
  intro T hT X
  rcases hr T hT X with ⟨v, st₀, t, T', L, h0, X', hL, e1, e2, ⟨⟨r, u, hv, hp, hb⟩, hF⟩, st⟩ | ⟨q, st₀, t, T', L, E, ce, h0, X', hL, e1, e2, ⟨u, hp, hb, hF⟩, hce, hcv, hcl, st⟩
  · cases hv
    obtain ⟨k1, k2, k3⟩ := vx_keep h0 e1 hS hA hf hL hF
    obtain ⟨t2, a1, b1⟩ := kk r u t T'.heap (locs ++ L) e1.symm (by rw [← e2]; exact X'.warmed.alike) hp hb k1 k2 k3 T' rfl X'
    exact ⟨t2, st t2 a1, b1⟩
  · obtain ⟨k1, k2, k3⟩ := vx_keep h0 e1 hS hAX hf hL hF
    obtain ⟨t2, a1, b1⟩ := kx E ce q u t T'.heap (locs ++ L) e1.symm (by rw [← e2]; exact X'.warmed.alike) hp hb k1 k2 k3 (by rw [e1]; exact hce) hcv hcl T' rfl X'
    exact ⟨t2, st.trans a1, b1⟩
theorem vx_callv {S SX : Type} {post : S → Prop} {px : SX → Prop} {B : S → State → Prop} {BX : String → SX → State → Prop} {AX : Nat → Prop} (hr : vx_Run p l e R s m args below meth c H locs cells slots mc ms (F0 m pc ls st0) rest (va_Qv post B A1 a) (vx_X px BX AX) free) (hS : va_S A0 H0 H locs) (hA : ∀ q, q < H.size → A1 q → A0 q) (hf : ∀ q, free q → A0 q) (hAX : ∀ q, q < H.size → AX q → A0 q)
    (kx : ∀ (E : String) (ce : Cell) (q9 : Addr) (u : SX) (t : State) (H1 : Heap) (locs1 : List Loc), t.heap = H1 → s.vm.Alike t.vm → px u → BX E u t → H.size ≤ H1.size → (∀ q : Nat, q < H.size → ¬ AX q → H1[q]? = H[q]?) → va_S A0 H0 H1 locs1 → H1[q9]? = some ce → ce.vm = .none → s.vm.findClass E = some ce.cls → vx_W p l e R s m args below meth c H1 locs1 (cells + mc) (slots + ms) Q (F0 m pc ls rest) q9)
    (kk : ∀ (u : S) (t : State) (H1 : Heap) (locs1 : List Loc), t.heap = H1 → s.vm.Alike t.vm → post u → B u t → H.size ≤ H1.size → (∀ q : Nat, q < H.size → ¬ A1 q → H1[q]? = H[q]?) → va_S A0 H0 H1 locs1 → W p l e R s m args below meth c H1 locs1 (cells + mc) (slots + ms) Q (F0 m (pc + 3) ls (rest))) : W p l e R s m args below meth c H locs cells slots Q (F0 m pc ls st0) := by
  intro T hT X
  rcases hr T hT X with ⟨v, st₀, t, T', L, h0, X', hL, e1, e2, ⟨⟨u, hv, hp, hb⟩, hF⟩, st⟩ | ⟨q, st₀, t, T', L, E, ce, h0, X', hL, e1, e2, ⟨u, hp, hb, hF⟩, hce, hcv, hcl, st⟩
  · cases hv
    obtain ⟨k1, k2, k3⟩ := vx_keep h0 e1 hS hA hf hL hF
    obtain ⟨t2, a1, b1⟩ := kk u t T'.heap (locs ++ L) e1.symm (by rw [← e2]; exact X'.warmed.alike) hp hb k1 k2 k3 T' rfl X'
    exact ⟨t2, st t2 a1, b1⟩
  · obtain ⟨k1, k2, k3⟩ := vx_keep h0 e1 hS hAX hf hL hF
    obtain ⟨t2, a1, b1⟩ := kx E ce q u t T'.heap (locs ++ L) e1.symm (by rw [← e2]; exact X'.warmed.alike) hp hb k1 k2 k3 (by rw [e1]; exact hce) hcv hcl T' rfl X'
    exact ⟨t2, st.trans a1, b1⟩
/-- caught by the row x of this method's table; the rows ahead don't take it -/
theorem vx_catch {own name : String} {E : String} {ce : Cell} {q : Addr} (hown : s.vm.findClass own = some m.cls) (pre : List ExceptionTableEntry) (x : ExceptionTableEntry) (suf : List ExceptionTableEntry) (hsplit : c.exceptionTable.toList = pre ++ x :: suf)
    (hpass : ∀ z ∈ pre, covers z pc = false ∨ (z.catchType ≠ 0 ∧ ∃ nm : String, (Cond.classLink own z.catchType nm).before args s = true ∧ va_Nc E nm s)) (hx : covers x pc = true) (h0 : x.catchType ≠ 0)
    (hlink : (Cond.classLink own x.catchType name).before args s = true) (hcast : (Cond.castable E name).before args s = true) (hcell : H[q]? = some ce) (hv : ce.vm = .none) (hcl : s.vm.findClass E = some ce.cls)
    (kk : W p l e R s m args below meth c H locs cells slots Q (F0 m x.handlerPc ls [.ref q])) : vx_W p l e R s m args below meth c H locs cells slots Q (F0 m pc ls rest) q := by
  intro T hT X
  have hpl : e.platform.magicAccessors = ({} : Platform).magicAccessors := by rw [X.admits.platform]
  obtain ⟨c3, c4, hc3, hc4, hasg⟩ := Cond.castable_spec hcast
  cases Option.some.inj (hc3.symm.trans hcl)
  obtain ⟨c5, hc5, hcl5⟩ := Cond.classLink_spec hown hlink e.platform hpl
  cases Option.some.inj (hc4.symm.trans hc5)
  obtain ⟨vm', X', st⟩ := X.thenCaughtThrough q (g := F0 m pc ls rest) rfl (Steps.refl _) (by rw [hT]; exact hcell) (by rw [hv]; rfl) (by obtain ⟨k9, h9, -⟩ := Vm.findClass_spec hcl; exact ⟨k9, h9⟩) pre x suf hsplit
    (fun z hz => by
      rcases hpass z hz with h | ⟨hz0, nm, hl1, hn1⟩
      · exact Or.inl h
      · obtain ⟨c6, hc6, hcl6⟩ := Cond.classLink_spec hown hl1 e.platform hpl
        obtain ⟨a8, b8, h1, h2, h3⟩ := hn1
        cases Option.some.inj (h1.symm.trans hcl)
        cases Option.some.inj (h2.symm.trans hc6)
        exact Or.inr ⟨hz0, _, hcl6, h3⟩) hx (Or.inr ⟨h0, c4, hcl5, hasg⟩)
  obtain ⟨t, a1, b1⟩ := kk (T.setVm vm') hT X'
  exact ⟨t, st.trans a1, b1⟩
end Rows
section Ends
variable {p : Program} {l : Launch} {e : Env} {R : Room} {s : State} {m : MethodId} {args : Array Value} {below : List Frame} {meth : Method} {c : Code} {H : Heap} {locs : List Loc} {cells slots : Nat} {Q : State → Prop}
variable {mc ms : Nat} {free : Addr → Prop} {A0 A1 : Nat → Prop} {H0 : Heap} {a : Array Value} {ls : Array Slot} {st0 rest : List Value}
variable {Qc : Array Value → State → Outcome → State → Prop} {XC : String → State → State → Prop}
/-- what a body that may throw owes at its end -/
def vx_MQ (below : List Frame) (Qc : Array Value → State → Outcome → State → Prop) (XC : String → State → State → Prop) (a : Array Value) (s : State) (mc ms : Nat) (free : Addr → Prop) : State → Prop := fun t =>
  ∃ o, t.status = .running ∧ Ended t below o ∧ vx_Q Qc XC mc ms free a s o t
theorem vx_ret {g : JFrame} {mc ms : Nat} (k : W p l e R s m args below meth c H locs cells slots (MQ below Qc args s mc ms free) g) : W p l e R s m args below meth c H locs cells slots (vx_MQ below Qc XC args s mc ms free) g := by
  intro T hT X
  obtain ⟨t, a1, o, b1, b2, b3, b4⟩ := k T hT X
  exact ⟨t, a1, o, b1, b2, Or.inl ⟨b3, b4⟩⟩
/-- not caught here: it goes on to the caller -/
theorem vx_widen {g : JFrame} {q : Addr} {k n : Nat} (h1 : cells ≤ k) (h2 : slots ≤ n) (kk : vx_W p l e R s m args below meth c H locs k n Q g q) : vx_W p l e R s m args below meth c H locs cells slots Q g q := fun T hT X => kk T hT (stand_widen X h1 h2)
theorem vx_out {pc : Nat} {E : String} {ce : Cell} {q : Addr} {mc ms : Nat} (hout : ∀ x ∈ c.exceptionTable.toList, covers x pc = false) (hlocks : meth.locks = false) (hcell : H[q]? = some ce) (hv : ce.vm = .none) (hcl : s.vm.findClass E = some ce.cls)
    (hx : ∀ t : State, t.heap = H → s.vm.Alike t.vm → XC E s t) (hf : ∀ z ∈ locs, free z.base) (hc : cells ≤ mc) (hs : slots ≤ ms) :
    vx_W p l e R s m args below meth c H locs cells slots (vx_MQ below Qc XC args s mc ms free) (F0 m pc ls rest) q := by
  intro T hT X
  obtain ⟨st1, hrun, hend, hW, hsm⟩ := X.leaveThrown q (g := F0 m pc ls rest) rfl rfl rfl hout hlocks
  have hcell9 : (T.setFrames (.throwing q :: below)).heap[q]? = some ce := by
    show T.heap[q]? = some ce
    rw [hT]; exact hcell
  exact ⟨_, st1, .threw q, hrun, hend, Or.inr ⟨q, rfl, E, ce, locs, hx _ hT hW.alike, hcell9, hv, hcl, hW, hsm.mono hc hs, hf⟩⟩
theorem vx_frame {U : State} {k n : Nat} (h : s.sameButNew ({ U with vm := s.vm } : State) locs k n) : s.heap.size ≤ U.heap.size ∧ ∀ q : Nat, q < s.heap.size → (∀ z ∈ locs, z.base ≠ q) → U.heap[q]? = s.heap[q]? := by
  obtain ⟨-, h2, -, -, -, h6⟩ := h
  refine ⟨h2, fun q hq hz => ?_⟩
  obtain ⟨c9, e1, e2, e3, e4⟩ := h6 q _ (Array.getElem?_eq_getElem hq)
  have hs : c9.slots = (s.heap[q]).slots := Array.ext_getElem? fun i => e4 i fun hm => hz _ hm rfl
  have h9 : c9 = s.heap[q] := by
    rw [hs] at e2
    exact e2
  have e5 : U.heap[q]? = some c9 := e1
  rw [e5, h9, Array.getElem?_eq_getElem hq]
/-- the words of a throw but the four that speak of the heap -/
def vx_no (w : Cond) : Bool := decide (w ≠ .isRef (.static Bundle.tN "UNASSIGNED_STACK" Bundle.steD)) && decide (w ≠ .isRef (.static Bundle.tN "SUPPRESSED_SENTINEL" Bundle.listD)) && decide (w ≠ .laysStatic Bundle.tN "UNASSIGNED_STACK" Bundle.steD) && decide (w ≠ .laysStatic Bundle.tN "SUPPRESSED_SENTINEL" Bundle.listD)
def vx_at0 (own : String) (ic : Nat) (X : String) (names : List String) : List Cond := (Bundle.ownAtoms0 own ic X names).filter vx_no
def vx_atS (own : String) (ic : Nat) (X : String) (names : List String) : List Cond := (Bundle.ownAtoms own ic X names).filter vx_no
/-- a word that the tables alone decide, or a good one -/
def vx_ot (w : Cond) : Bool := w.onTables || goodWord w
theorem vx_ot_at {args a' : Array Value} {s U : State} {w : Cond} (hW : s.WarmedH U.vm) (hvm : s.vm = U.vm) (hg : vx_ot w = true) (h : w.before args s = true) : w.before a' U = true := by
  simp only [vx_ot, Bool.or_eq_true] at hg
  rcases hg with hg | hg
  · exact va_tabs hg hvm h
  · exact word_at hW (good_of_word hg) h
/-- a list's words: the good ones out of the method's own list, the others by premises of their own -/
theorem vx_hat {args : Array Value} {s : State} {L B : List Cond} (h1 : ∀ w ∈ L.filter goodWord, w.before args s = true) (h2 : ∀ w ∈ L.filter (fun w => !goodWord w), w ∈ B) (h3 : ∀ w ∈ B, w.before args s = true) : ∀ w ∈ L, w.before args s = true := by
  intro w hw
  by_cases g : goodWord w = true
  · exact h1 w (List.mem_filter.mpr ⟨hw, g⟩)
  · refine h3 w (h2 w (List.mem_filter.mpr ⟨hw, ?_⟩))
    show (!goodWord w) = true
    cases hgw : goodWord w
    · rfl
    · exact absurd hgw g
theorem vx_c {args : Array Value} {s : State} {w : Cond} {B : List Cond} (h : w.before args s = true) (t : ∀ w ∈ B, w.before args s = true) : ∀ w' ∈ w :: B, w'.before args s = true := fun w' h' => (List.mem_cons.mp h').elim (fun e => by rw [e]; exact h) (t w')
theorem vx_n {args : Array Value} {s : State} : ∀ w ∈ ([] : List Cond), w.before args s = true := fun _ h => nomatch h
theorem vx_own {args : Array Value} {s : State} {L : List Cond} (h1 : ∀ w ∈ L.filter vx_no, w.before args s = true)
    (hU : (Cond.isRef (.static Bundle.tN "UNASSIGNED_STACK" Bundle.steD)).before args s = true) (hN : (Cond.isRef (.static Bundle.tN "SUPPRESSED_SENTINEL" Bundle.listD)).before args s = true)
    (lU : (Cond.laysStatic Bundle.tN "UNASSIGNED_STACK" Bundle.steD).before args s = true) (lN : (Cond.laysStatic Bundle.tN "SUPPRESSED_SENTINEL" Bundle.listD).before args s = true) : ∀ w ∈ L, w.before args s = true := by
  intro w hw
  by_cases e1 : w = .isRef (.static Bundle.tN "UNASSIGNED_STACK" Bundle.steD)
  · rw [e1]; exact hU
  · by_cases e2 : w = .isRef (.static Bundle.tN "SUPPRESSED_SENTINEL" Bundle.listD)
    · rw [e2]; exact hN
    · by_cases e3 : w = .laysStatic Bundle.tN "UNASSIGNED_STACK" Bundle.steD
      · rw [e3]; exact lU
      · by_cases e4 : w = .laysStatic Bundle.tN "SUPPRESSED_SENTINEL" Bundle.listD
        · rw [e4]; exact lN
        · exact h1 w (List.mem_filter.mpr ⟨hw, by unfold vx_no; rw [decide_eq_true e1, decide_eq_true e2, decide_eq_true e3, decide_eq_true e4]; rfl⟩)
/-- where a static field lies, its class's statics cell in H -/
def vx_L (C n d : String) (A : Nat → Prop) (U : State) (H : Heap) : Prop := ∃ (c : ClassId) (k : Class) (i : Nat) (f : Field) (a : Nat) (cell : Cell), U.vm.findClass C = some c ∧ U.fieldFound? C n d = some (c, k, i, f) ∧ f.isStatic = true ∧ k.statics = some a ∧ H[a]? = some cell ∧ cell.vm.isStatics = true ∧ cell.cls = c ∧ f.slot < cell.slots.size ∧ k.staticTypes[f.slot]? = some f.type ∧ ¬ A a
theorem vx_L.moved {C n d : String} {A : Nat → Prop} {u U : State} {H : Heap} (hvm : u.vm.Alike U.vm) (h : vx_L C n d A u H) : vx_L C n d A U H := by
  obtain ⟨c, k, i, f, a, cell, h1, h2, h3, h4, h5, h6, h7, h8, h9, h10⟩ := h
  obtain ⟨k', hi', he⟩ := State.fieldFound?_setVm hvm h2
  exact ⟨c, k', i, f, a, cell, by rw [hvm.findClass]; exact h1, hi', h3, by rw [he]; exact h4, h5, h6, h7, h8, by rw [he]; exact h9, h10⟩
theorem vx_L.kept {C n d : String} {A : Nat → Prop} {U : State} {H H1 : Heap} (h : vx_L C n d A U H) (hq : ∀ a : Nat, a < H.size → ¬ A a → H1[a]? = H[a]?) : vx_L C n d A U H1 := by
  obtain ⟨c, k, i, f, a, cell, h1, h2, h3, h4, h5, h6, h7, h8, h9, h10⟩ := h
  exact ⟨c, k, i, f, a, cell, h1, h2, h3, h4, by rw [hq a (Array.getElem?_eq_some_iff.mp h5).1 h10]; exact h5, h6, h7, h8, h9, h10⟩
theorem vx_L.narrow {C n d : String} {A B : Nat → Prop} {U : State} {H : Heap} (h : vx_L C n d A U H) (hAB : ∀ q, B q → A q) : vx_L C n d B U H := by
  obtain ⟨c, k, i, f, a, cell, h1, h2, h3, h4, h5, h6, h7, h8, h9, h10⟩ := h
  exact ⟨c, k, i, f, a, cell, h1, h2, h3, h4, h5, h6, h7, h8, h9, fun z => h10 (hAB _ z)⟩
theorem vx_L.word {C n d : String} {A : Nat → Prop} {s : State} {args : Array Value} (h : vx_L C n d A s s.heap) : (Cond.laysStatic C n d).before args s = true := by
  obtain ⟨c, k, i, f, a, cell, h1, h2, h3, h4, h5, h6, h7, h8, h9, -⟩ := h
  show (Cond.laysStatic C n d).holds args s none s [] = true
  exact Cond.laysStatic_of h1 h2 h3 h4 h5 h6 h7 h8 h9
/-- .. and what it holds: null or some reference -/
def vx_Zq (C n d : String) (A : Nat → Prop) (U : State) (H : Heap) : Prop := va_Zq C n d A U H ∧ vx_L C n d A U H
theorem vx_Zq.moved {C n d : String} {A : Nat → Prop} {u U : State} {H : Heap} (hvm : u.vm.Alike U.vm) (h : vx_Zq C n d A u H) : vx_Zq C n d A U H := ⟨va_Zq.moved hvm h.1, vx_L.moved hvm h.2⟩
theorem vx_Zq.kept {C n d : String} {A : Nat → Prop} {U : State} {H H1 : Heap} (h : vx_Zq C n d A U H) (hq : ∀ a : Nat, a < H.size → ¬ A a → H1[a]? = H[a]?) : vx_Zq C n d A U H1 := ⟨va_Zq.kept h.1 hq, vx_L.kept h.2 hq⟩
theorem vx_Zq.narrow {C n d : String} {A B : Nat → Prop} {U : State} {H : Heap} (h : vx_Zq C n d A U H) (hAB : ∀ q, B q → A q) : vx_Zq C n d B U H := ⟨va_Zq.narrow h.1 hAB, vx_L.narrow h.2 hAB⟩
theorem vx_Zqof {args : Array Value} {s : State} {C n d : String} {A : Nat → Prop} (hl : (Cond.laysStatic C n d).before args s = true) (hini : (Cond.initialized C).before args s = true) (h : (Cond.isRef (.static C n d)).before args s = true) (hA : ∀ a : Nat, a < s.heap.size → ¬ A a) : vx_Zq C n d A s s.heap := by
  refine ⟨va_Zqof hl hini h hA, ?_⟩
  obtain ⟨c, k, i, f, a, cell, h1, h2, h3, h4, h5, h6, h7, h8, h9⟩ := Cond.laysStatic_spec hl
  exact ⟨c, k, i, f, a, cell, h1, h2, h3, h4, h5, h6, h7, h8, h9, hA a (Array.getElem?_eq_some_iff.mp h5).1⟩
theorem vx_isRef {C n d : String} {v : Value} {A : Nat → Prop} {s : State} {args : Array Value} (h : va_Z C n d v A s s.heap) (hv : v.isRef = true) : (Cond.isRef (.static C n d)).before args s = true := by
  obtain ⟨cf, kf, fi, f, a, cell, h1, h2, h3, h4, h5, h6, h7, -⟩ := h
  have he : (Term.static C n d).eval args s none [] s = some v := by
    simp [Term.eval, State.fieldNamed?, h1, h2, h4, h5, h6, h7]
  simp only [Cond.before, Cond.holds, Cond.value, he]
  cases v <;> simp_all [Value.isRef]
theorem vx_isRefq {C n d : String} {A : Nat → Prop} {s : State} {args : Array Value} (h : va_Zq C n d A s s.heap) : (Cond.isRef (.static C n d)).before args s = true := by
  rcases h with h | ⟨t, h⟩
  · exact vx_isRef h rfl
  · exact vx_isRef h rfl
/-- the same frame, seen from here: as if the method were called anew in this heap -/
theorem vx_rebase {T : State} (X : Stand p l e R s m args below meth c T locs cells slots) {R' : Room} (hf : R'.frames ≤ R.frames) (hl : R'.locals ≤ R.locals) (hc : cells + R'.cells ≤ R.cells) (hs : slots + R'.slots ≤ R.slots) :
    Stand p l e R' ((T.setVm s.vm).setFrames (.invoking m args :: below)) m args below meth c T [] 0 0 := by
  have htop : (T.setVm s.vm).topJava?.isSome := X.here.top
  have hF : ((T.setVm s.vm).setFrames (.invoking m args :: below)).frames = .invoking m args :: below := State.frames_setFrames _ (State.cur_lt_of_top htop)
  obtain ⟨g₀, hg0⟩ := Option.isSome_iff_exists.mp htop
  obtain ⟨r, hr⟩ := State.topJava?_eq_some.mp hg0
  have hl9 : e.platform.stackLimits (T.setVm s.vm).me = e.platform.stackLimits s.me := X.limits
  have hb9 : (T.setVm s.vm).me.stackBytes = s.me.stackBytes := X.bytes
  refine ⟨X.admits, X.cas, X.clock, hF, ?_, X.hears, X.method, X.code, X.here, X.tail, X.warmed, ?_, ?_, ?_⟩
  · have h := X.room
    have hU : ((T.setVm s.vm).setFrames (.invoking m args :: below)).localsInUse = s.localsInUse := by
      rw [State.localsInUse_invoking hF (meth := meth) (c := c) X.method X.code, State.localsInUse_invoking X.frames X.method X.code]
    simp only [State.hasRoom, Bool.and_eq_true, decide_eq_true_eq] at h ⊢
    obtain ⟨⟨⟨⟨h1, h2, h3, h4, h5, h6⟩, h7⟩, h8⟩, h9⟩ := h
    rw [X.frames, List.length_cons] at h2 h3
    have q1 := X.heapSize
    have q2 := X.used
    simp only [hF, hU, List.length_cons, State.stackLimits_setFrames, State.stackBytes_setFrames, hl9, hb9]
    refine ⟨⟨⟨⟨by omega, by omega, by omega, by omega, by omega, h6⟩, ?_⟩, ?_⟩, X.book⟩
    · show T.heap.size + R'.cells ≤ e.platform.maxCells
      omega
    · show T.slotsUsed + R'.slots ≤ e.platform.maxSlots
      omega
  · rw [State.stackLimits_setFrames]; rfl
  · rw [State.stackBytes_setFrames]; rfl
  · refine ⟨?_, Nat.le_refl _, Nat.le_refl _, ?_, ?_, fun a c9 h9 => ⟨c9, h9, rfl, rfl, fun _ _ => rfl⟩⟩
    · obtain ⟨t, ht, -⟩ := State.frames_cons hr
      show T.setVm s.vm = { ((T.setVm s.vm).setFrames (.invoking m args :: below)).setFrames (T.setVm s.vm).frames with heap := T.heap, slotsUsed := T.slotsUsed }
      rw [State.setFrames_setFrames, State.setFrames_self ht]
      rfl
    · show T.slotsUsed = T.slotsUsed + ((T.heap.toList.drop T.heap.size).map (·.slots.size)).sum
      rw [List.drop_eq_nil_of_le (Nat.le_of_eq Array.length_toList)]
      rfl
    · show ((T.heap.toList.drop T.heap.size).map (·.slots.size)).sum ≤ 0
      rw [List.drop_eq_nil_of_le (Nat.le_of_eq Array.length_toList)]
      exact Nat.le_refl _
/-- 'throw new E()': new; dup; invokespecial; athrow -/
theorem vx_throw0 {cc : ByteArray} {pc : Nat} (hexec : p.tables.exec = Jvm.exec) (hb : c.code = cc) (hl : l.stackTraces = false) {own cls : String} {names : List String} {ik ic mc ms : Nat} {A : Nat → Prop}
    (hown : s.vm.findClass own = some m.cls) (hcls : Bundle.fit cls = true) (hnames : ∀ n ∈ names, Bundle.fit n = true)
    (hk : (Cond.classLink own ik cls).before args s = true) (hini : (Cond.initialized cls).before args s = true) (hat : ∀ w ∈ vx_at0 own ic cls names, w.before args s = true)
    (hgood : ∀ w ∈ Cond.classLink own ik cls :: Cond.initialized cls :: vx_at0 own ic cls names, vx_ot w = true)
    (hU : vx_Zq Bundle.tN "UNASSIGNED_STACK" Bundle.steD A s s.heap) (hN : vx_Zq Bundle.tN "SUPPRESSED_SENTINEL" Bundle.listD A s s.heap) (hS : va_S A s.heap H locs) (hsize : ls.size = c.maxLocals)
    (d0 : decode cc pc = .ok (.new ik, 3)) (d3 : decode cc (pc + 3) = .ok (.dup, 1)) (d4 : decode cc (pc + 4) = .ok (.invokespecial ic, 3)) (d7 : decode cc (pc + 7) = .ok (.athrow, 1))
    (hout : ∀ x ∈ c.exceptionTable.toList, covers x (pc + 7) = false)
    (hRframes : names.length + 3 < R.frames) (hRlocals : (rest.map fun v => v.category).sum + (13 * (names.length + 1) + 42) ≤ R.locals) (hRcells : cells + 1 ≤ R.cells) (hRslots : slots + 6 ≤ R.slots) (hlocks : meth.locks = false)
    (hx : ∀ t : State, s.vm.Alike t.vm → H.size ≤ t.heap.size → (∀ q : Nat, q < H.size → t.heap[q]? = H[q]?) → XC cls s t)
    (hf : ∀ z ∈ locs, free z.base) (hc : cells + 1 ≤ mc) (hs : slots + 6 ≤ ms) :
    W p l e R s m args below meth c H locs cells slots (vx_MQ below Qc XC args s mc ms free) (F0 m pc ls rest) := by
  intro T hT X
  have htr : e.platform.stackTraces = false := (show e.platform.stackTraces = l.stackTraces by rw [X.admits.platform]).trans hl
  have Y := vx_rebase X (R' := { frames := R.frames, locals := R.locals, cells := 1, slots := 6 }) (Nat.le_refl _) (Nat.le_refl _) hRcells hRslots
  obtain ⟨s', hA⟩ : ∃ z, z = (T.setVm s.vm).setFrames (.invoking m args :: below) := ⟨_, rfl⟩
  rw [← hA] at Y
  have hvm : s'.vm = s.vm := by rw [hA]; rfl
  have hhp : s'.heap = H := by rw [hA]; exact hT
  have hW0 : s.WarmedH s'.vm := by rw [hvm]; exact State.WarmedH.refl s
  have hat' : ∀ w ∈ vx_at0 own ic cls names, w.before args s' = true := fun w hw => vx_ot_at hW0 hvm.symm (hgood w (List.mem_cons_of_mem _ (List.mem_cons_of_mem _ hw))) (hat w hw)
  have hk' : (Cond.classLink own ik cls).before args s' = true := vx_ot_at hW0 hvm.symm (hgood _ List.mem_cons_self) hk
  have hini' : (Cond.initialized cls).before args s' = true := vx_ot_at hW0 hvm.symm (hgood _ (List.mem_cons_of_mem _ List.mem_cons_self)) hini
  have hU' : vx_Zq Bundle.tN "UNASSIGNED_STACK" Bundle.steD A s' s'.heap := by rw [hhp]; exact vx_Zq.moved hW0.alike (hU.kept hS.2.1)
  have hN' : vx_Zq Bundle.tN "SUPPRESSED_SENTINEL" Bundle.listD A s' s'.heap := by rw [hhp]; exact vx_Zq.moved hW0.alike (hN.kept hS.2.1)
  have h : ∀ w ∈ Bundle.ownAtoms0 own ic cls names, w.before args s' = true := vx_own hat' (vx_isRefq hU'.1) (vx_isRefq hN'.1) hU'.2.word hN'.2.word
  have hown' : s'.vm.findClass own = some m.cls := by rw [hvm]; exact hown
  have hins : (Cond.instantiable cls 6).before args s' = true := h _ (by simp [Bundle.ownAtoms0])
  obtain ⟨vm₁, cX, kX, hfX, hkX, -, -, X₁, st1⟩ := Y.newCold hexec (own := own) (C := cls) (index := ik) (n := 6) hown' hk' hins hini'
    (g := F0 m pc ls rest) rfl (by rw [hb]; exact d0) (Nat.le_refl _) (Nat.le_refl _)
  generalize hT1 : (T.setVm vm₁).pushCell { cls := cX, slots := kX.instanceTypes.map defaultValue, vm := .none } = T1 at X₁ st1
  have hcat : (Value.ref T.heap.size).category = 1 := rfl
  have hcellA : T1.heap[T.heap.size]? = some (freshCell cX kX) := by rw [← hT1]; exact State.heap_pushCell_size _ _
  have d3' : decode c.code (pc + 3) = .ok (.dup, 1) := by rw [hb]; exact d3
  obtain ⟨U, hsteps, hrun, hend, hW, hsame, ce, hce, hO⟩ := X₁.ctorThrow0 hexec htr (own := own) (cls := cls) (names := names) (ic := ic) hown' hcls hnames h (fun x hx => nomatch hx) hfX hkX hcellA (by rw [hhp, hT]; exact Nat.le_refl _)
    (g := { method := m, pc := pc + 4, locals := ls, stack := .ref T.heap.size :: .ref T.heap.size :: rest, locked := none }) rfl hsize rfl rfl (rest := rest) rfl
    (by rw [hb]; exact d4) (by rw [hb]; exact d7) hout hRframes (by simp only [List.map_cons, List.sum_cons, hcat]; omega) hlocks
  obtain ⟨f1, f2⟩ := vx_frame hsame
  rw [hhp] at f1 f2
  have hWs : s.WarmedH U.vm := State.WarmedH.trans hW0 hW
  have hcl : s.vm.findClass cls = some ce.cls := by
    have h9 := hO.cls
    rw [hvm] at h9
    exact h9
  have hall : s.sameButNew ({ U with vm := s.vm } : State) locs mc ms := by
    subst hA
    obtain ⟨e1, e2⟩ := hsame
    rw [State.setFrames_setFrames] at e1
    have h2 : (T.setVm s.vm).sameButNew ({ U with vm := s.vm } : State) [] (0 + 1) (0 + 6) := ⟨e1, e2⟩
    have h3 := X.same.trans h2
    rw [List.append_nil] at h3
    exact h3.mono hc hs
  refine ⟨U, ?_, .threw T.heap.size, hrun, hend, Or.inr ⟨T.heap.size, rfl, cls, ce, locs, hx U hWs.alike f1 (fun q hq => f2 q hq (fun z hz => nomatch hz)), hce, hO.vm, hcl, hWs, hall, hf⟩⟩
  refine st1 _ ?_
  show Steps p.tables e below (T1.setTop { method := m, pc := pc + 3, locals := ls, stack := .ref T.heap.size :: rest, locked := none }) _
  jvm_step X₁.here [X₁.here.top, hexec, d3', Value.category]
  exact hsteps
/-- 'throw new E("text")': new; dup; ldc; invokespecial; athrow -/
theorem vx_throwS {cc : ByteArray} {pc : Nat} (hexec : p.tables.exec = Jvm.exec) (hb : c.code = cc) (hl : l.stackTraces = false) {own cls text : String} {names : List String} {ik is ic mc ms sa : Nat} {A : Nat → Prop}
    (hown : s.vm.findClass own = some m.cls) (hcls : Bundle.fit cls = true) (hnames : ∀ n ∈ names, Bundle.fit n = true)
    (hk : (Cond.classLink own ik cls).before args s = true) (hini : (Cond.initialized cls).before args s = true) (hstr : vk_R own is text sa s) (hat : ∀ w ∈ vx_atS own ic cls names, w.before args s = true)
    (hgood : ∀ w ∈ Cond.classLink own ik cls :: Cond.initialized cls :: vx_atS own ic cls names, vx_ot w = true)
    (hU : vx_Zq Bundle.tN "UNASSIGNED_STACK" Bundle.steD A s s.heap) (hN : vx_Zq Bundle.tN "SUPPRESSED_SENTINEL" Bundle.listD A s s.heap) (hS : va_S A s.heap H locs) (hsize : ls.size = c.maxLocals)
    (d0 : decode cc pc = .ok (.new ik, 3)) (d3 : decode cc (pc + 3) = .ok (.dup, 1)) (d4 : decode cc (pc + 4) = .ok (.ldc is, 2)) (d6 : decode cc (pc + 6) = .ok (.invokespecial ic, 3)) (d9 : decode cc (pc + 9) = .ok (.athrow, 1))
    (hout : ∀ x ∈ c.exceptionTable.toList, covers x (pc + 9) = false)
    (hRframes : names.length + 3 < R.frames) (hRlocals : (rest.map fun v => v.category).sum + (13 * (names.length + 1) + 43) ≤ R.locals) (hRcells : cells + 1 ≤ R.cells) (hRslots : slots + 6 ≤ R.slots) (hlocks : meth.locks = false)
    (hx : ∀ t : State, s.vm.Alike t.vm → H.size ≤ t.heap.size → (∀ q : Nat, q < H.size → t.heap[q]? = H[q]?) → XC cls s t)
    (hf : ∀ z ∈ locs, free z.base) (hc : cells + 1 ≤ mc) (hs : slots + 6 ≤ ms) :
    W p l e R s m args below meth c H locs cells slots (vx_MQ below Qc XC args s mc ms free) (F0 m pc ls rest) := by
  intro T hT X
  have htr : e.platform.stackTraces = false := (show e.platform.stackTraces = l.stackTraces by rw [X.admits.platform]).trans hl
  have Y := vx_rebase X (R' := { frames := R.frames, locals := R.locals, cells := 1, slots := 6 }) (Nat.le_refl _) (Nat.le_refl _) hRcells hRslots
  obtain ⟨s', hA⟩ : ∃ z, z = (T.setVm s.vm).setFrames (.invoking m args :: below) := ⟨_, rfl⟩
  rw [← hA] at Y
  have hvm : s'.vm = s.vm := by rw [hA]; rfl
  have hhp : s'.heap = H := by rw [hA]; exact hT
  have hW0 : s.WarmedH s'.vm := by rw [hvm]; exact State.WarmedH.refl s
  have hat' : ∀ w ∈ vx_atS own ic cls names, w.before args s' = true := fun w hw => vx_ot_at hW0 hvm.symm (hgood w (List.mem_cons_of_mem _ (List.mem_cons_of_mem _ hw))) (hat w hw)
  have hk' : (Cond.classLink own ik cls).before args s' = true := vx_ot_at hW0 hvm.symm (hgood _ List.mem_cons_self) hk
  have hini' : (Cond.initialized cls).before args s' = true := vx_ot_at hW0 hvm.symm (hgood _ (List.mem_cons_of_mem _ List.mem_cons_self)) hini
  have hU' : vx_Zq Bundle.tN "UNASSIGNED_STACK" Bundle.steD A s' s'.heap := by rw [hhp]; exact vx_Zq.moved hW0.alike (hU.kept hS.2.1)
  have hN' : vx_Zq Bundle.tN "SUPPRESSED_SENTINEL" Bundle.listD A s' s'.heap := by rw [hhp]; exact vx_Zq.moved hW0.alike (hN.kept hS.2.1)
  have h : ∀ w ∈ Bundle.ownAtoms own ic cls names, w.before args s' = true := vx_own hat' (vx_isRefq hU'.1) (vx_isRefq hN'.1) hU'.2.word hN'.2.word
  have hown' : s'.vm.findClass own = some m.cls := by rw [hvm]; exact hown
  have hins : (Cond.instantiable cls 6).before args s' = true := h _ (by simp [Bundle.ownAtoms])
  obtain ⟨vm₁, cX, kX, hfX, hkX, -, -, X₁, st1⟩ := Y.newCold hexec (own := own) (C := cls) (index := ik) (n := 6) hown' hk' hins hini'
    (g := F0 m pc ls rest) rfl (by rw [hb]; exact d0) (Nat.le_refl _) (Nat.le_refl _)
  generalize hT1 : (T.setVm vm₁).pushCell { cls := cX, slots := kX.instanceTypes.map defaultValue, vm := .none } = T1 at X₁ st1
  have hcat : (Value.ref T.heap.size).category = 1 := rfl
  have hcellA : T1.heap[T.heap.size]? = some (freshCell cX kX) := by rw [← hT1]; exact State.heap_pushCell_size _ _
  have d3' : decode c.code (pc + 3) = .ok (.dup, 1) := by rw [hb]; exact d3
  have d4' : decode c.code (pc + 4) = .ok (.ldc is, 2) := by rw [hb]; exact d4
  have hstr' : vk_R own is text sa s' := vk_R.warm hW0 hstr
  obtain ⟨U, hsteps, hrun, hend, hW, hsame, ce, hce, hO⟩ := X₁.ctorThrowS hexec htr (own := own) (cls := cls) (names := names) (ic := ic) hown' hcls hnames h (fun x hx => nomatch hx) hfX hkX hcellA (by rw [hhp, hT]; exact Nat.le_refl _) (msg := .ref sa) rfl
    (g := { method := m, pc := pc + 6, locals := ls, stack := .ref sa :: .ref T.heap.size :: .ref T.heap.size :: rest, locked := none }) rfl hsize rfl rfl (rest := rest) rfl
    (by rw [hb]; exact d6) (by rw [hb]; exact d9) hout hRframes (by simp only [List.map_cons, List.sum_cons, hcat]; omega) hlocks
  obtain ⟨f1, f2⟩ := vx_frame hsame
  rw [hhp] at f1 f2
  have hWs : s.WarmedH U.vm := State.WarmedH.trans hW0 hW
  have hcl : s.vm.findClass cls = some ce.cls := by
    have h9 := hO.cls
    rw [hvm] at h9
    exact h9
  have hall : s.sameButNew ({ U with vm := s.vm } : State) locs mc ms := by
    subst hA
    obtain ⟨e1, e2⟩ := hsame
    rw [State.setFrames_setFrames] at e1
    have h2 : (T.setVm s.vm).sameButNew ({ U with vm := s.vm } : State) [] (0 + 1) (0 + 6) := ⟨e1, e2⟩
    have h3 := X.same.trans h2
    rw [List.append_nil] at h3
    exact h3.mono hc hs
  refine ⟨U, ?_, .threw T.heap.size, hrun, hend, Or.inr ⟨T.heap.size, rfl, cls, ce, locs, hx U hWs.alike f1 (fun q hq => f2 q hq (fun z hz => nomatch hz)), hce, hO.vm, hcl, hWs, hall, hf⟩⟩
  refine st1 _ ?_
  show Steps p.tables e below (T1.setTop { method := m, pc := pc + 3, locals := ls, stack := .ref T.heap.size :: rest, locked := none }) _
  jvm_step X₁.here [X₁.here.top, hexec, d3', Value.category]
  exact X₁.ldcString hexec (own := own) (text := text) (index := is) (a := sa) hown' hstr'.1 hstr'.2
    (g := { method := m, pc := pc + 4, locals := ls, stack := .ref T.heap.size :: .ref T.heap.size :: rest, locked := none }) rfl d4' _ hsteps
/-- 'throw new E("text")', the text by a wide index -/
theorem vx_throwSW {cc : ByteArray} {pc : Nat} (hexec : p.tables.exec = Jvm.exec) (hb : c.code = cc) (hl : l.stackTraces = false) {own cls text : String} {names : List String} {ik is ic mc ms sa : Nat} {A : Nat → Prop}
    (hown : s.vm.findClass own = some m.cls) (hcls : Bundle.fit cls = true) (hnames : ∀ n ∈ names, Bundle.fit n = true)
    (hk : (Cond.classLink own ik cls).before args s = true) (hini : (Cond.initialized cls).before args s = true) (hstr : vk_R own is text sa s) (hat : ∀ w ∈ vx_atS own ic cls names, w.before args s = true)
    (hgood : ∀ w ∈ Cond.classLink own ik cls :: Cond.initialized cls :: vx_atS own ic cls names, vx_ot w = true)
    (hU : vx_Zq Bundle.tN "UNASSIGNED_STACK" Bundle.steD A s s.heap) (hN : vx_Zq Bundle.tN "SUPPRESSED_SENTINEL" Bundle.listD A s s.heap) (hS : va_S A s.heap H locs) (hsize : ls.size = c.maxLocals)
    (d0 : decode cc pc = .ok (.new ik, 3)) (d3 : decode cc (pc + 3) = .ok (.dup, 1)) (d4 : decode cc (pc + 4) = .ok (.ldc_w is, 3)) (d7 : decode cc (pc + 7) = .ok (.invokespecial ic, 3)) (d10 : decode cc (pc + 10) = .ok (.athrow, 1))
    (hout : ∀ x ∈ c.exceptionTable.toList, covers x (pc + 10) = false)
    (hRframes : names.length + 3 < R.frames) (hRlocals : (rest.map fun v => v.category).sum + (13 * (names.length + 1) + 43) ≤ R.locals) (hRcells : cells + 1 ≤ R.cells) (hRslots : slots + 6 ≤ R.slots) (hlocks : meth.locks = false)
    (hx : ∀ t : State, s.vm.Alike t.vm → H.size ≤ t.heap.size → (∀ q : Nat, q < H.size → t.heap[q]? = H[q]?) → XC cls s t)
    (hf : ∀ z ∈ locs, free z.base) (hc : cells + 1 ≤ mc) (hs : slots + 6 ≤ ms) :
    W p l e R s m args below meth c H locs cells slots (vx_MQ below Qc XC args s mc ms free) (F0 m pc ls rest) := by
  intro T hT X
  have htr : e.platform.stackTraces = false := (show e.platform.stackTraces = l.stackTraces by rw [X.admits.platform]).trans hl
  have Y := vx_rebase X (R' := { frames := R.frames, locals := R.locals, cells := 1, slots := 6 }) (Nat.le_refl _) (Nat.le_refl _) hRcells hRslots
  obtain ⟨s', hA⟩ : ∃ z, z = (T.setVm s.vm).setFrames (.invoking m args :: below) := ⟨_, rfl⟩
  rw [← hA] at Y
  have hvm : s'.vm = s.vm := by rw [hA]; rfl
  have hhp : s'.heap = H := by rw [hA]; exact hT
  have hW0 : s.WarmedH s'.vm := by rw [hvm]; exact State.WarmedH.refl s
  have hat' : ∀ w ∈ vx_atS own ic cls names, w.before args s' = true := fun w hw => vx_ot_at hW0 hvm.symm (hgood w (List.mem_cons_of_mem _ (List.mem_cons_of_mem _ hw))) (hat w hw)
  have hk' : (Cond.classLink own ik cls).before args s' = true := vx_ot_at hW0 hvm.symm (hgood _ List.mem_cons_self) hk
  have hini' : (Cond.initialized cls).before args s' = true := vx_ot_at hW0 hvm.symm (hgood _ (List.mem_cons_of_mem _ List.mem_cons_self)) hini
  have hU' : vx_Zq Bundle.tN "UNASSIGNED_STACK" Bundle.steD A s' s'.heap := by rw [hhp]; exact vx_Zq.moved hW0.alike (hU.kept hS.2.1)
  have hN' : vx_Zq Bundle.tN "SUPPRESSED_SENTINEL" Bundle.listD A s' s'.heap := by rw [hhp]; exact vx_Zq.moved hW0.alike (hN.kept hS.2.1)
  have h : ∀ w ∈ Bundle.ownAtoms own ic cls names, w.before args s' = true := vx_own hat' (vx_isRefq hU'.1) (vx_isRefq hN'.1) hU'.2.word hN'.2.word
  have hown' : s'.vm.findClass own = some m.cls := by rw [hvm]; exact hown
  have hins : (Cond.instantiable cls 6).before args s' = true := h _ (by simp [Bundle.ownAtoms])
  obtain ⟨vm₁, cX, kX, hfX, hkX, -, -, X₁, st1⟩ := Y.newCold hexec (own := own) (C := cls) (index := ik) (n := 6) hown' hk' hins hini'
    (g := F0 m pc ls rest) rfl (by rw [hb]; exact d0) (Nat.le_refl _) (Nat.le_refl _)
  generalize hT1 : (T.setVm vm₁).pushCell { cls := cX, slots := kX.instanceTypes.map defaultValue, vm := .none } = T1 at X₁ st1
  have hcat : (Value.ref T.heap.size).category = 1 := rfl
  have hcellA : T1.heap[T.heap.size]? = some (freshCell cX kX) := by rw [← hT1]; exact State.heap_pushCell_size _ _
  have d3' : decode c.code (pc + 3) = .ok (.dup, 1) := by rw [hb]; exact d3
  have d4' : decode c.code (pc + 4) = .ok (.ldc_w is, 3) := by rw [hb]; exact d4
  have hstr' : vk_R own is text sa s' := vk_R.warm hW0 hstr
  obtain ⟨U, hsteps, hrun, hend, hW, hsame, ce, hce, hO⟩ := X₁.ctorThrowS hexec htr (own := own) (cls := cls) (names := names) (ic := ic) hown' hcls hnames h (fun x hx => nomatch hx) hfX hkX hcellA (by rw [hhp, hT]; exact Nat.le_refl _) (msg := .ref sa) rfl
    (g := { method := m, pc := pc + 7, locals := ls, stack := .ref sa :: .ref T.heap.size :: .ref T.heap.size :: rest, locked := none }) rfl hsize rfl rfl (rest := rest) rfl
    (by rw [hb]; exact d7) (by rw [hb]; exact d10) hout hRframes (by simp only [List.map_cons, List.sum_cons, hcat]; omega) hlocks
  obtain ⟨f1, f2⟩ := vx_frame hsame
  rw [hhp] at f1 f2
  have hWs : s.WarmedH U.vm := State.WarmedH.trans hW0 hW
  have hcl : s.vm.findClass cls = some ce.cls := by
    have h9 := hO.cls
    rw [hvm] at h9
    exact h9
  have hall : s.sameButNew ({ U with vm := s.vm } : State) locs mc ms := by
    subst hA
    obtain ⟨e1, e2⟩ := hsame
    rw [State.setFrames_setFrames] at e1
    have h2 : (T.setVm s.vm).sameButNew ({ U with vm := s.vm } : State) [] (0 + 1) (0 + 6) := ⟨e1, e2⟩
    have h3 := X.same.trans h2
    rw [List.append_nil] at h3
    exact h3.mono hc hs
  refine ⟨U, ?_, .threw T.heap.size, hrun, hend, Or.inr ⟨T.heap.size, rfl, cls, ce, locs, hx U hWs.alike f1 (fun q hq => f2 q hq (fun z hz => nomatch hz)), hce, hO.vm, hcl, hWs, hall, hf⟩⟩
  refine st1 _ ?_
  show Steps p.tables e below (T1.setTop { method := m, pc := pc + 3, locals := ls, stack := .ref T.heap.size :: rest, locked := none }) _
  jvm_step X₁.here [X₁.here.top, hexec, d3', Value.category]
  exact X₁.ldcStringW hexec (own := own) (text := text) (index := is) (a := sa) hown' hstr'.1 hstr'.2
    (g := { method := m, pc := pc + 4, locals := ls, stack := .ref T.heap.size :: .ref T.heap.size :: rest, locked := none }) rfl d4' _ hsteps
end Ends
section Bodies
variable {l : Launch}
theorem vx_ofW {y : MethodName} {ws ws' : List Cond} {rm : Room} {Pc : Array Value → State → Prop} {Qc : Array Value → State → Outcome → State → Prop} {XC : String → State → State → Prop} {mc ms : Nat} {free : Addr → Prop} {cc : ByteArray} {maxL : Nat} {ret : Option FieldType}
    (hy : plainName y.cls = true) (hw : ws = Cond.code y cc maxL ret :: ws')
    (body : ∀ p e s m args below meth c s₁, BodyLoose p l y (headSpec ws rm) cc maxL ret e s m args below meth c s₁ → c.maxLocals = maxL → (∀ x ∈ c.exceptionTable.toList, False) → Pc args s →
      W p l e (headSpec ws rm).room s m args below meth c s.heap [] 0 0 (vx_MQ below Qc XC args s mc ms free) (entryFrame m args maxL)) : vx_Met l y ws rm Pc Qc XC mc ms free := by
  refine MetFree.of_bodyS (code := cc) (maxLocals := maxL) (ret := ret) hy ?_ ?_
  · intro args s m h hn
    obtain ⟨meth, c, h1, h2, h3, h4, h5, h6, -, -⟩ := Cond.code_spec hn (atoms_spec (ws := ws) h _ (by rw [hw]; exact List.mem_cons_self))
    exact ⟨meth, c, h1, h2, h3, h4, h5, h6⟩
  · intro p e s m args below meth c s₁ B hml hP _
    have hh0 : s₁.heap = s.heap := by rw [B.state]; rfl
    have ht : ∀ x ∈ c.exceptionTable.toList, False := by
      obtain ⟨meth9, c9, h1, h2, -, -, -, -, h7, -⟩ := Cond.code_spec B.named (atoms_spec (ws := ws) B.pre _ (by rw [hw]; exact List.mem_cons_self))
      cases Option.some.inj (h1.symm.trans B.method)
      cases Option.some.inj (h2.symm.trans (Stand.of_body B).code)
      intro x hx
      rw [Array.isEmpty_iff.mp h7] at hx
      cases hx
    obtain ⟨t, a1, o, b1, b2, b3⟩ := body p e s m args below meth c s₁ B hml ht hP s₁ hh0 (Stand.of_body B)
    exact ⟨t, o, a1, b1, b2, b3⟩
/-- the table of a body with handlers -/
theorem vx_table {p : Program} {x y : MethodName} {S : Spec} {cc bytes : ByteArray} {maxL maxL' : Nat} {ret ret' : Option FieldType} {e : Env} {s s₁ : State} {m : MethodId} {args : Array Value} {below : List Frame} {meth : Method} {c : Code} {hh : List (Nat × Nat × Nat × Nat)}
    (B : BodyLoose p l y S cc maxL ret e s m args below meth c s₁) (h : (Cond.codeWith y bytes maxL' ret' hh).before args s = true) : c.exceptionTable.toList = tableOf hh := by
  obtain ⟨m9, meth9, c9, hn9, h1, h2, -, -, h6, -⟩ := Cond.codeWith_spec h
  cases Option.some.inj (hn9.symm.trans B.named)
  cases Option.some.inj (h1.symm.trans B.method)
  cases Option.some.inj (h2.symm.trans (Stand.of_body B).code)
  rw [← h6, table_eq]
end Bodies
end VXA
/-! ===== END ===== -/
/-! ===== BEGIN a static call of a method with an exception table ===== -/
section VXS
variable {p : Program} {l : Launch} {e : Env} {R : Room} {s : State} {m : MethodId} {args : Array Value} {below : List Frame} {meth : Method} {c : Code} {T : State} {H : Heap} {locs : List Loc} {cells slots : Nat}
abbrev vx_CSW (R : Room) (s : State) (args : Array Value) (own : String) (index : Nat) (y : MethodName) (bytes : ByteArray) (maxL : Nat) (ret : Option FieldType) (hh : List (Nat × Nat × Nat × Nat)) (ws : List Cond) (rm : Room) (mc ms n : Nat) : Prop :=
  (rm.cells = mc ∧ rm.slots = ms ∧ rm.frames + 1 ≤ R.frames ∧ 8 + (maxL + 11) + rm.locals ≤ R.locals ∧ (∀ w ∈ ws, ∀ (a' : Array Value) (U : State), s.WarmedH U.vm → w.before a' U = true) ∧ Cond.codeWith y bytes maxL ret hh ∈ ws) ∧
  (Cond.codeWith y bytes maxL ret hh).before args s = true ∧ (Cond.initialized y.cls).before args s = true ∧ (y.cls ≠ "java/lang/invoke/MethodHandle" ∧ y.cls ≠ "java/lang/invoke/VarHandle") ∧
  (∀ sig, parseMethodDescriptor y.desc = some sig → n = sig.parameters.length) ∧ (Cond.methodLink own index y).before args s = true ∧ (Cond.static y).before args s = true
theorem vx_cwSW {own : String} {index maxL mc ms : Nat} {y : MethodName} {bytes : ByteArray} {ret : Option FieldType} {hh : List (Nat × Nat × Nat × Nat)} {Ts ws ws' : List Cond} {rm : Room} (n : Nat) (ht : ∀ w ∈ Ts, w.before args s = true) (hT : GoodIn Ts (va_wsS own index y ws)) (hw : ws = Cond.codeWith y bytes maxL ret hh :: ws') (hrc : rm.cells = mc) (hrs : rm.slots = ms)
    (hd : y.cls ≠ "java/lang/invoke/MethodHandle" ∧ y.cls ≠ "java/lang/invoke/VarHandle" ∧ (parseMethodDescriptor y.desc).map (fun d => d.parameters.length) = some n) (hR : rm.frames + 1 ≤ R.frames ∧ 8 + (maxL + 11) + rm.locals ≤ R.locals) :
    vx_CSW R s args own index y bytes maxL ret hh ws rm mc ms n := by
  have ok : ∀ w ∈ va_wsS own index y ws, w.before args s = true := fun w h => ht w (hT w h).1
  have hG : GoodIn Ts ws := fun w h => hT w (by unfold va_wsS; exact List.mem_append_right _ h)
  have hc : Cond.codeWith y bytes maxL ret hh ∈ ws := by rw [hw]; exact List.mem_cons_self
  refine ⟨⟨hrc, hrs, hR.1, hR.2, pay_in ht hG, hc⟩, ht _ (hG _ hc).1, ok _ (by simp [va_wsS]), ⟨hd.1, hd.2.1⟩, fun sig h => ?_, ok _ (by simp [va_wsS]), ok _ (by simp [va_wsS])⟩
  have h2 := hd.2.2
  rw [h] at h2
  exact (Option.some.inj h2).symm
theorem vx_callSW (X : Stand p l e R s m args below meth c T locs cells slots) (hexec : p.tables.exec = Jvm.exec) {own : String} {index : Nat} {y : MethodName} {bytes : ByteArray} {maxL : Nat} {ret : Option FieldType} {hh : List (Nat × Nat × Nat × Nat)}
    (hown : s.vm.findClass own = some m.cls) (hlink : (Cond.methodLink own index y).before args s = true) (hstat : (Cond.static y).before args s = true) (hinit : (Cond.initialized y.cls).before args s = true)
    (hcode : (Cond.codeWith y bytes maxL ret hh).before args s = true) (hy : y.cls ≠ "java/lang/invoke/MethodHandle" ∧ y.cls ≠ "java/lang/invoke/VarHandle")
    {W9 : Nat} {Pre : Pt → Array Value → Prop} {Post : Pt → Array Value → Option Value → Pt → Prop} (hK : Back l R p e below s args y 3 W9 Pre Post)
    {g : JFrame} (hg : g.method = m) (hsize : g.locals.size = c.maxLocals) {argsL rest : List Value} (hlen : ∀ sig, parseMethodDescriptor y.desc = some sig → argsL.length = sig.parameters.length)
    (hstack : g.stack = argsL.reverse ++ rest) (hW : 2 * g.monitorRoom + (rest.map fun v => v.category).sum ≤ W9) (hdg : decode c.code g.pc = .ok (.invokestatic index, 3))
    (hpre : ∀ vm₁, s.WarmedH vm₁ → Pre ⟨T.setVm vm₁, locs, cells, slots⟩ argsL.toArray) :
    ∃ (v : Option Value) (vm₁ : Vm) (B : Pt), s.WarmedH vm₁ ∧ Stand p l e R s m args below meth c B.U B.locs B.cells B.slots ∧ Post ⟨T.setVm vm₁, locs, cells, slots⟩ argsL.toArray v B ∧
      ∀ target, Steps p.tables e below (B.U.setTop { g with pc := g.pc + 3, stack := v.toList ++ rest }) target → Steps p.tables e below (T.setTop g) target := by
  obtain ⟨mk, methM, cM, hnamed, hmethM, -, -, -, -, -, -, hsigM⟩ := Cond.codeWith_spec hcode
  have hstatic : methM.isStatic = true := Cond.static_spec hnamed hmethM hstat
  obtain ⟨kP, hkP, -⟩ := className_of_methodNamed hnamed
  have hinitP : kP.init = .initialized := Cond.initialized_spec (findClass_of_methodNamed hnamed) hkP hinit
  obtain ⟨vm₁, X₁, hstep₁⟩ := X.invokestatic hexec hown hlink hnamed hmethM hstatic hkP hinitP hy (g := g) hg (argsL := argsL) (rest := rest) (hlen _ hsigM) hstack hdg
  obtain ⟨v, B, X', hpost, hsteps⟩ := hK m meth c ⟨T.setVm vm₁, locs, cells, slots⟩ { g with stack := rest } (.invokestatic index) mk argsL.toArray X₁ hg hsize hdg hW (X₁.named hnamed) (hpre vm₁ X₁.warmed)
  exact ⟨v, vm₁, B, X₁.warmed, X', hpost, fun target h => hstep₁ _ fun acts => by rw [doInvoke_state]; exact hsteps.trans h⟩
theorem vx_runSW {y : MethodName} {bytes cc : ByteArray} {maxL nL mc ms n index : Nat} {ret : Option FieldType} {hh : List (Nat × Nat × Nat × Nat)} {ws : List Cond} {rm : Room} {Pc : Array Value → State → Prop} {Qc : Array Value → State → Outcome → State → Prop} {free : Addr → Prop} {Ts : List Cond} {own : String} {As rest : List Value} {g : JFrame}
    (S : CallFix p m c cc nL s args Ts own) (hM : Met l y ws rm Pc Qc mc ms free) (cw : vx_CSW R s args own index y bytes maxL ret hh ws rm mc ms n) (hp : PreS s H Pc As)
    (hg : g.method = m) (hn : As.length = n) (hsize : g.locals.size = nL) (hstack : g.stack = As.reverse ++ rest) (hW : 2 * g.monitorRoom + (rest.map fun v => v.category).sum ≤ 8) (hdg : decode cc g.pc = .ok (.invokestatic index, 3)) (hf : cells + mc ≤ R.cells ∧ slots + ms ≤ R.slots) :
    va_Run p l e R s m args below meth c H locs cells slots mc ms g rest (Qc As.toArray) (free) := by
  obtain ⟨⟨hrc, hrs, hfr, hlo, hws, hcw⟩, hcode, hini, hy, hlen, hl, hstt⟩ := cw
  have hK : Back l R p e below s args y 3 8 (PreOf R mc ms Pc) (PostOf Qc mc ms free) := va_backW (hh := hh) (bytes := bytes) (maxL := maxL) (ret := ret) hM hp.1 hrc hrs hfr hlo hws hcw (fun a' U hW => word_at hW (Or.inl (by first | rfl | simp [Cond.onTables, Cond.keeps, Cond.steady])) hini)
  obtain ⟨hx, hb, hml, ho, -⟩ := S
  intro T hT X
  obtain ⟨v, vm₁, ⟨U', l2, c2, s2⟩, hW₁, X', ⟨g', mk, t, L, e1, e2, hq, h1, hL, h2, h3⟩, st⟩ := vx_callSW X hx (hh := hh) (bytes := bytes) (maxL := maxL) (ret := ret) ho hl hstt hini hcode hy hK hg (hsize.trans hml.symm) (argsL := As) (rest := rest) (fun sig h => hn.trans (hlen sig h)) hstack hW (by rw [hb]; exact hdg)
    (fun vm₁ hW₁ => ⟨hf.1, hf.2, hp.2 (T.setVm vm₁) hT hW₁⟩)
  dsimp only [Pt.U, Pt.locs, Pt.cells, Pt.slots] at X' e1 e2 h1 h2 h3 st
  subst h1; subst h2; subst h3
  exact ⟨v, (T.setVm vm₁).calling g' mk As.toArray, t, U', L, hT, X', hL, e1, e2, hq, st⟩
/-- not caught here, past rows that name other classes: it goes on to the caller -/
theorem vx_outP {p : Program} {l : Launch} {e : Env} {R : Room} {s : State} {m : MethodId} {args : Array Value} {below : List Frame} {meth : Method} {c : Code} {H : Heap} {locs : List Loc} {cells slots : Nat} {free : Addr → Prop} {ls : Array Slot} {rest : List Value} {Qc : Array Value → State → Outcome → State → Prop} {XC : String → State → State → Prop}
    {pc : Nat} {own E : String} {ce : Cell} {q : Addr} {mc ms : Nat} (hown : s.vm.findClass own = some m.cls) (hlocks : meth.locks = false)
    (hpass : ∀ z ∈ c.exceptionTable.toList, covers z pc = false ∨ (z.catchType ≠ 0 ∧ ∃ nm : String, (Cond.classLink own z.catchType nm).before args s = true ∧ va_Nc E nm s)) (hcell : H[q]? = some ce) (hv : ce.vm = .none) (hcl : s.vm.findClass E = some ce.cls)
    (hx : ∀ t : State, t.heap = H → s.vm.Alike t.vm → XC E s t) (hf : ∀ z ∈ locs, free z.base) (hc : cells ≤ mc) (hs : slots ≤ ms) :
    vx_W p l e R s m args below meth c H locs cells slots (vx_MQ below Qc XC args s mc ms free) (F0 m pc ls rest) q := by
  intro T hT X
  have hpl : e.platform.magicAccessors = ({} : Platform).magicAccessors := by rw [X.admits.platform]
  obtain ⟨vm', hW', X', st⟩ := X.outThrough hlocks q (g := F0 m pc ls rest) rfl rfl rfl (cell := ce) (by rw [hT]; exact hcell) (by rw [hv]; rfl)
    (by obtain ⟨k9, h9, -⟩ := Vm.findClass_spec hcl; exact ⟨k9, h9⟩) (fun z hz => by
      rcases hpass z hz with h | ⟨hz0, nm, hl1, hn1⟩
      · exact Or.inl h
      · obtain ⟨c6, hc6, hcl6⟩ := Cond.classLink_spec hown hl1 e.platform hpl
        obtain ⟨a8, b8, h1, h2, h3⟩ := hn1
        cases Option.some.inj (h1.symm.trans hcl)
        cases Option.some.inj (h2.symm.trans hc6)
        exact Or.inr ⟨hz0, _, hcl6, h3⟩)
  obtain ⟨g₀, hfr⟩ := X'.frames_eq
  have hcell9 : ((T.setVm vm').setFrames (.throwing q :: below)).heap[q]? = some ce := by
    show T.heap[q]? = some ce
    rw [hT]; exact hcell
  have hend : Ended ((T.setVm vm').setFrames (.throwing q :: below)) below (.threw q) := State.frames_setFrames _ (State.cur_lt_of_frames hfr)
  refine ⟨(T.setVm vm').setFrames (.throwing q :: below), ?_, .threw q, X'.here.running, hend, Or.inr ⟨q, rfl, E, ce, locs, hx _ hT (X'.ends _).1.alike, hcell9, hv, hcl, (X'.ends _).1, (X'.ends _).2.mono hc hs, hf⟩⟩
  rw [X.pushThrowing_eq]
  exact st
/-- a thing of a world lies in the heap -/
theorem vx_lt {D : va_G} {cl : List vw_C} {ws : va_W} {H1 : Heap} (h : va_P D cl ws H1) {k : Nat} {q : Nat × va_E} (hk : ws[k]? = some q) : q.1 < H1.size := (h k q hk).lt
end VXS
/-! ===== END ===== -/
/-! ===== BEGIN methods with a table of their own: called by a name, returning or throwing ===== -/
section VXH
/-! vx_backW, vx_callVX, vx_callSX, vx_callVW, vx_runVW, vx_runVX, vx_runSX, vx_ofWH follow the same proofs as their sisters above (Free/Laws.lean, Shelf42/LK1.lean); vx_outP calls Shelf42/NT130.lean (outThrough). -/
section
variable {l : Launch} {R : Room} {p : Program} {e : Env} {below : List Frame} {s : State} {sargs : Array Value} {y : MethodName} {len W9 : Nat}
theorem vx_backW {ws : List Cond} {rm : Room} {Pc : Array Value → State → Prop} {Qc : Array Value → State → Outcome → State → Prop} {XC : String → State → State → Prop} {mc ms : Nat} {free : Addr → Prop} {bytes : ByteArray} {maxL : Nat} {ret : Option FieldType} {hh : List (Nat × Nat × Nat × Nat)}
    (hM : vx_Met l y ws rm Pc Qc XC mc ms free) (hblind : FrameBlind Pc) (hrc : rm.cells = mc) (hrs : rm.slots = ms)
    (hframes : rm.frames + 1 ≤ R.frames) (hlocals : W9 + (maxL + 11) + rm.locals ≤ R.locals)
    (hws : ∀ w ∈ ws, ∀ a' U, s.WarmedH U.vm → w.before a' U = true) (hcode : Cond.codeWith y bytes maxL ret hh ∈ ws) (hinit : ∀ a' U, s.WarmedH U.vm → (Cond.initialized y.cls).before a' U = true) :
    vx_Back l R p e below s sargs y len W9 (PreOf R mc ms Pc) (PostOf Qc mc ms free) (vx_Post XC mc ms free) := by
  intro m meth c A g ig mk a X hg hsize hdg hW hn hp
  have h1 : (headSpec ws rm).pre.before a A.U = true := atoms_intro fun w hw => hws w hw _ _ X.warmed
  have h2 : (Cond.codeWith y bytes maxL ret hh).before a A.U = true := hws _ hcode _ _ X.warmed
  have h3 : (Cond.initialized y.cls).before a A.U = true := hinit _ _ X.warmed
  have h4 : A.cells + (headSpec ws rm).room.cells ≤ R.cells := by rw [show (headSpec ws rm).room.cells = mc from hrc]; exact hp.1
  have h5 : A.slots + (headSpec ws rm).room.slots ≤ R.slots := by rw [show (headSpec ws rm).room.slots = ms from hrs]; exact hp.2.1
  have hPc : Pc a (A.U.calling g mk a) := hblind _ _ _ _ hp.2.2
  obtain ⟨U, Ls, c0, s0⟩ := A
  dsimp only [Pt.U, Pt.locs, Pt.cells, Pt.slots] at h1 h2 h3 h4 h5 X hn hPc ⊢
  obtain ⟨m9, methY, cY, hn9, hmY, hcY, -, hlY, -⟩ := Cond.codeWith_spec h2
  cases Option.some.inj (hn9.symm.trans hn)
  obtain ⟨kY, hkY, -⟩ := className_of_methodNamed hn
  have hinitY : kY.init = .initialized := Cond.initialized_spec (findClass_of_methodNamed hn) hkY h3
  have h : At U g.method c below := by rw [hg]; exact X.here
  have hlocals9 : W9 + (maxL + 11) + (headSpec ws rm).room.locals ≤ R.locals := hlocals
  have happ : (headSpec ws rm).appliesLoose y e.platform (U.calling g mk a) = true :=
    Spec.appliesLoose_calling (g := g) h hdg hn hkY hinitY
      (X.room_calling (g := g) (R' := (headSpec ws rm).room) hsize hmY hcY hframes (by rw [hlY]; omega) h4 h5) h1
  obtain ⟨mid, hmid⟩ := h.above
  have hfr : (U.setTop g).frames = (.java g :: mid) ++ below := by rw [State.frames_setTop' g h.top, hmid]; rfl
  obtain ⟨o, s₂, hsteps, -, hend, hq⟩ := Steps.callFree hM p X.admits X.cas X.clock (acts := []) hfr happ hPc trivial
  have hq' : vx_Q Qc XC mc ms free a (U.calling g mk a) o s₂ := hq
  rw [State.frames_setTop' g h.top] at hend
  obtain ⟨g₀, hg0⟩ := Option.isSome_iff_exists.mp h.top
  obtain ⟨r, hr⟩ := State.topJava?_eq_some.mp hg0
  have hr' : (({ U with heap := s₂.heap, slotsUsed := s₂.slotsUsed } : State).setVm s₂.vm).frames = .java g₀ :: r := hr
  rcases hq' with ⟨hqc, L, hfe, hL⟩ | ⟨q, rfl, E, ce, L, hx, hce, hcv, hcl, hW₂, hsm, hL⟩
  · obtain ⟨⟨v, rfl⟩, hW₂, e2, q2, q3, q4, q5, q6⟩ := id hfe
    have e3 : s₂ = ({ (U.calling g mk a).setFrames s₂.frames with heap := s₂.heap, slotsUsed := s₂.slotsUsed } : State).setVm s₂.vm := by
      have : s₂ = ({ s₂ with vm := (U.calling g mk a).vm } : State).setVm s₂.vm := rfl
      rw [e2] at this
      exact this
    obtain ⟨c₂, i₂, len₂, hc₂, hd₂, hf₂⟩ := hend
    have hW' : U.WarmedH s₂.vm := hW₂
    have hcc : c₂ = c := by
      have h1 : s₂.code? g.method = U.code? g.method := by
        rw [State.code?_eq, State.code?_eq, hW'.alike.method?]
      exact Option.some.inj (hc₂.symm.trans (h1.trans h.code))
    subst hcc
    have hlen : len₂ = len := by rw [hdg] at hd₂; cases hd₂; rfl
    subst hlen
    have hs₂ : s₂ = (({ U with heap := s₂.heap, slotsUsed := s₂.slotsUsed } : State).setVm s₂.vm).setTop { g with pc := g.pc + len₂, stack := v.toList ++ g.stack } := by
      refine e3.trans ?_
      rw [hf₂, State.calling_eq h.top, State.setFrames_setFrames, State.setTop_of_frames _ hr', hr]
      rfl
    have hsame : U.sameButNew ({ U with heap := s₂.heap, slotsUsed := s₂.slotsUsed } : State) L mc ms := by
      refine ⟨?_, q2, q3, q4, q5, q6⟩
      obtain ⟨t, ht, -⟩ := State.frames_cons hr
      show ({ U with heap := s₂.heap, slotsUsed := s₂.slotsUsed } : State) = { U.setFrames U.frames with heap := s₂.heap, slotsUsed := s₂.slotsUsed }
      rw [State.setFrames_self ht]
    subst hg
    refine Or.inl ⟨v, ⟨(({ U with heap := s₂.heap, slotsUsed := s₂.slotsUsed } : State).setVm s₂.vm), Ls ++ L, c0 + mc, s0 + ms⟩,
      ⟨X.admits, X.cas, X.clock, X.frames, X.room, X.hears, X.method, X.code, (X.here.setHeapUsed s₂.heap s₂.slotsUsed).setVm hW'.alike, X.tail, State.WarmedH.trans X.warmed hW', X.limits, X.bytes, X.same.trans (hsame.setVm s.vm)⟩,
      ⟨g, mk, s₂, L, rfl, rfl, hqc, rfl, hL, rfl, rfl⟩, ?_⟩
    show Steps p.tables e below _ ((({ U with heap := s₂.heap, slotsUsed := s₂.slotsUsed } : State).setVm s₂.vm).setTop { g with pc := g.pc + len₂, stack := v.toList ++ g.stack })
    rw [← hs₂]
    exact hsteps
  · obtain ⟨e2, q2, q3, q4, q5, q6⟩ := id hsm
    have e3 : s₂ = ({ (U.calling g mk a).setFrames s₂.frames with heap := s₂.heap, slotsUsed := s₂.slotsUsed } : State).setVm s₂.vm := by
      have : s₂ = ({ s₂ with vm := (U.calling g mk a).vm } : State).setVm s₂.vm := rfl
      rw [e2] at this
      exact this
    have hf₂ : s₂.frames = .throwing q :: .java g :: U.frames.tail := hend
    have hW' : U.WarmedH s₂.vm := hW₂
    have hs₂ : s₂ = ((({ U with heap := s₂.heap, slotsUsed := s₂.slotsUsed } : State).setVm s₂.vm).setTop g).pushFrame (.throwing q) := by
      refine e3.trans ?_
      rw [hf₂, State.calling_eq h.top, State.setFrames_setFrames, State.pushFrame, State.frames_setTop _ hr', State.setTop_of_frames _ hr', State.setFrames_setFrames, hr]
      rfl
    have hsame : U.sameButNew ({ U with heap := s₂.heap, slotsUsed := s₂.slotsUsed } : State) L mc ms := by
      refine ⟨?_, q2, q3, q4, q5, q6⟩
      obtain ⟨t, ht, -⟩ := State.frames_cons hr
      show ({ U with heap := s₂.heap, slotsUsed := s₂.slotsUsed } : State) = { U.setFrames U.frames with heap := s₂.heap, slotsUsed := s₂.slotsUsed }
      rw [State.setFrames_self ht]
    subst hg
    refine Or.inr ⟨q, ⟨(({ U with heap := s₂.heap, slotsUsed := s₂.slotsUsed } : State).setVm s₂.vm), Ls ++ L, c0 + mc, s0 + ms⟩,
      ⟨X.admits, X.cas, X.clock, X.frames, X.room, X.hears, X.method, X.code, (X.here.setHeapUsed s₂.heap s₂.slotsUsed).setVm hW'.alike, X.tail, State.WarmedH.trans X.warmed hW', X.limits, X.bytes, X.same.trans (hsame.setVm s.vm)⟩,
      ⟨g, mk, s₂, L, E, ce, rfl, rfl, hx, hce, hcv, hcl, rfl, hL, rfl, rfl⟩, ?_⟩
    show Steps p.tables e below _ (((({ U with heap := s₂.heap, slotsUsed := s₂.slotsUsed } : State).setVm s₂.vm).setTop g).pushFrame (.throwing q))
    rw [← hs₂]
    exact hsteps
end
variable {p : Program} {l : Launch} {e : Env} {R : Room} {s : State} {m : MethodId} {args : Array Value} {below : List Frame} {meth : Method} {c : Code} {T : State} {H : Heap} {locs : List Loc} {cells slots : Nat}
theorem vx_callVX (X : Stand p l e R s m args below meth c T locs cells slots) (hexec : p.tables.exec = Jvm.exec) {own C : String} {index : Nat} {y : MethodName} {bytes : ByteArray} {maxL : Nat} {ret : Option FieldType} {hh : List (Nat × Nat × Nat × Nat)}
    (hown : s.vm.findClass own = some m.cls) (hlink : (Cond.methodLink own index y).before args s = true) (hinst : (Cond.instanceMethod y).before args s = true) (hsel : (Cond.selects C y y).before args s = true)
    (hcode : (Cond.codeWith y bytes maxL ret hh).before args s = true) (hy : y.cls ≠ "java/lang/invoke/MethodHandle" ∧ y.cls ≠ "java/lang/invoke/VarHandle")
    {W9 : Nat} {Pre : Pt → Array Value → Prop} {Post : Pt → Array Value → Option Value → Pt → Prop} {PostX : Pt → Array Value → Addr → Pt → Prop} (hK : vx_Back l R p e below s args y 3 W9 Pre Post PostX)
    {b : Addr} {cellB : Cell} (hcell : T.heap[b]? = some cellB) (hobj : cellB.vm.isStatics = false) (hcls : s.vm.findClass C = some cellB.cls)
    {g : JFrame} (hg : g.method = m) (hsize : g.locals.size = c.maxLocals) {argsL rest : List Value} (hlen : ∀ sig, parseMethodDescriptor y.desc = some sig → argsL.length = sig.parameters.length)
    (hstack : g.stack = argsL.reverse ++ .ref b :: rest) (hW : 2 * g.monitorRoom + (rest.map fun v => v.category).sum ≤ W9) (hdg : decode c.code g.pc = .ok (.invokevirtual index, 3))
    (hpre : ∀ vm₁, s.WarmedH vm₁ → Pre ⟨T.setVm vm₁, locs, cells, slots⟩ (Value.ref b :: argsL).toArray) :
    (∃ (v : Option Value) (vm₁ : Vm) (B : Pt), s.WarmedH vm₁ ∧ Stand p l e R s m args below meth c B.U B.locs B.cells B.slots ∧ Post ⟨T.setVm vm₁, locs, cells, slots⟩ (Value.ref b :: argsL).toArray v B ∧
      ∀ target, Steps p.tables e below (B.U.setTop { g with pc := g.pc + 3, stack := v.toList ++ rest }) target → Steps p.tables e below (T.setTop g) target) ∨
    (∃ (q : Addr) (vm₁ : Vm) (B : Pt), s.WarmedH vm₁ ∧ Stand p l e R s m args below meth c B.U B.locs B.cells B.slots ∧ PostX ⟨T.setVm vm₁, locs, cells, slots⟩ (Value.ref b :: argsL).toArray q B ∧
      Steps p.tables e below (T.setTop g) ((B.U.setTop { g with stack := rest }).pushFrame (.throwing q))) := by
  obtain ⟨mk, methM, hnamed, hmethM, hstM, habM⟩ := Cond.instanceMethod_spec hinst
  obtain ⟨m8, methM', cM, hn8, hmethM', -, -, -, -, -, -, hsigM⟩ := Cond.codeWith_spec hcode
  cases Option.some.inj (hn8.symm.trans hnamed)
  cases hmethM.symm.trans hmethM'
  obtain ⟨c2, r2, m2, q1, q2, q3, q4, kP, hkP, hkPi⟩ := Cond.selects_spec hsel
  cases hcls.symm.trans q1
  cases (State.methodFound?_of_named hnamed hy).symm.trans q2
  cases hnamed.symm.trans q3
  have hselP : selectMethod e.platform s.vm cellB.cls mk = .method mk := by rw [Launch.admits_selectMethod X.admits]; exact q4
  obtain ⟨vm₁, X₁, hstep₁⟩ := X.invokevirtual hexec hown hlink hnamed hmethM hstM hkP hkPi hy (a := b) (cell := cellB) hcell
    (fun z h => by rw [h] at hobj; cases hobj) hselP hmethM habM hkP hkPi (g := g) hg (argsL := argsL) (rest := rest) (hlen _ hsigM) hstack hdg
  rcases hK m meth c ⟨T.setVm vm₁, locs, cells, slots⟩ { g with stack := rest } (.invokevirtual index) mk (Value.ref b :: argsL).toArray X₁ hg hsize hdg hW (X₁.named hnamed) (hpre vm₁ X₁.warmed) with ⟨v, B, X', hpost, hsteps⟩ | ⟨q, B, X', hpost, hsteps⟩
  · exact Or.inl ⟨v, vm₁, B, X₁.warmed, X', hpost, fun target h => hstep₁ _ fun acts => by rw [doInvoke_state]; exact hsteps.trans h⟩
  · exact Or.inr ⟨q, vm₁, B, X₁.warmed, X', hpost, hstep₁ _ fun acts => by rw [doInvoke_state]; exact hsteps⟩
theorem vx_callSX (X : Stand p l e R s m args below meth c T locs cells slots) (hexec : p.tables.exec = Jvm.exec) {own : String} {index : Nat} {y : MethodName} {bytes : ByteArray} {maxL : Nat} {ret : Option FieldType} {hh : List (Nat × Nat × Nat × Nat)}
    (hown : s.vm.findClass own = some m.cls) (hlink : (Cond.methodLink own index y).before args s = true) (hstat : (Cond.static y).before args s = true) (hinit : (Cond.initialized y.cls).before args s = true)
    (hcode : (Cond.codeWith y bytes maxL ret hh).before args s = true) (hy : y.cls ≠ "java/lang/invoke/MethodHandle" ∧ y.cls ≠ "java/lang/invoke/VarHandle")
    {W9 : Nat} {Pre : Pt → Array Value → Prop} {Post : Pt → Array Value → Option Value → Pt → Prop} {PostX : Pt → Array Value → Addr → Pt → Prop} (hK : vx_Back l R p e below s args y 3 W9 Pre Post PostX)
    {g : JFrame} (hg : g.method = m) (hsize : g.locals.size = c.maxLocals) {argsL rest : List Value} (hlen : ∀ sig, parseMethodDescriptor y.desc = some sig → argsL.length = sig.parameters.length)
    (hstack : g.stack = argsL.reverse ++ rest) (hW : 2 * g.monitorRoom + (rest.map fun v => v.category).sum ≤ W9) (hdg : decode c.code g.pc = .ok (.invokestatic index, 3))
    (hpre : ∀ vm₁, s.WarmedH vm₁ → Pre ⟨T.setVm vm₁, locs, cells, slots⟩ argsL.toArray) :
    (∃ (v : Option Value) (vm₁ : Vm) (B : Pt), s.WarmedH vm₁ ∧ Stand p l e R s m args below meth c B.U B.locs B.cells B.slots ∧ Post ⟨T.setVm vm₁, locs, cells, slots⟩ argsL.toArray v B ∧
      ∀ target, Steps p.tables e below (B.U.setTop { g with pc := g.pc + 3, stack := v.toList ++ rest }) target → Steps p.tables e below (T.setTop g) target) ∨
    (∃ (q : Addr) (vm₁ : Vm) (B : Pt), s.WarmedH vm₁ ∧ Stand p l e R s m args below meth c B.U B.locs B.cells B.slots ∧ PostX ⟨T.setVm vm₁, locs, cells, slots⟩ argsL.toArray q B ∧
      Steps p.tables e below (T.setTop g) ((B.U.setTop { g with stack := rest }).pushFrame (.throwing q))) := by
  obtain ⟨mk, methM, cM, hnamed, hmethM, -, -, -, -, -, -, hsigM⟩ := Cond.codeWith_spec hcode
  have hstatic : methM.isStatic = true := Cond.static_spec hnamed hmethM hstat
  obtain ⟨kP, hkP, -⟩ := className_of_methodNamed hnamed
  have hinitP : kP.init = .initialized := Cond.initialized_spec (findClass_of_methodNamed hnamed) hkP hinit
  obtain ⟨vm₁, X₁, hstep₁⟩ := X.invokestatic hexec hown hlink hnamed hmethM hstatic hkP hinitP hy (g := g) hg (argsL := argsL) (rest := rest) (hlen _ hsigM) hstack hdg
  rcases hK m meth c ⟨T.setVm vm₁, locs, cells, slots⟩ { g with stack := rest } (.invokestatic index) mk argsL.toArray X₁ hg hsize hdg hW (X₁.named hnamed) (hpre vm₁ X₁.warmed) with ⟨v, B, X', hpost, hsteps⟩ | ⟨q, B, X', hpost, hsteps⟩
  · exact Or.inl ⟨v, vm₁, B, X₁.warmed, X', hpost, fun target h => hstep₁ _ fun acts => by rw [doInvoke_state]; exact hsteps.trans h⟩
  · exact Or.inr ⟨q, vm₁, B, X₁.warmed, X', hpost, hstep₁ _ fun acts => by rw [doInvoke_state]; exact hsteps⟩
theorem vx_callVW (X : Stand p l e R s m args below meth c T locs cells slots) (hexec : p.tables.exec = Jvm.exec) {own C : String} {index : Nat} {y : MethodName} {bytes : ByteArray} {maxL : Nat} {ret : Option FieldType} {hh : List (Nat × Nat × Nat × Nat)}
    (hown : s.vm.findClass own = some m.cls) (hlink : (Cond.methodLink own index y).before args s = true) (hinst : (Cond.instanceMethod y).before args s = true) (hsel : (Cond.selects C y y).before args s = true)
    (hcode : (Cond.codeWith y bytes maxL ret hh).before args s = true) (hy : y.cls ≠ "java/lang/invoke/MethodHandle" ∧ y.cls ≠ "java/lang/invoke/VarHandle")
    {W9 : Nat} {Pre : Pt → Array Value → Prop} {Post : Pt → Array Value → Option Value → Pt → Prop} (hK : Back l R p e below s args y 3 W9 Pre Post)
    {b : Addr} {cellB : Cell} (hcell : T.heap[b]? = some cellB) (hobj : cellB.vm.isStatics = false) (hcls : s.vm.findClass C = some cellB.cls)
    {g : JFrame} (hg : g.method = m) (hsize : g.locals.size = c.maxLocals) {argsL rest : List Value} (hlen : ∀ sig, parseMethodDescriptor y.desc = some sig → argsL.length = sig.parameters.length)
    (hstack : g.stack = argsL.reverse ++ .ref b :: rest) (hW : 2 * g.monitorRoom + (rest.map fun v => v.category).sum ≤ W9) (hdg : decode c.code g.pc = .ok (.invokevirtual index, 3))
    (hpre : ∀ vm₁, s.WarmedH vm₁ → Pre ⟨T.setVm vm₁, locs, cells, slots⟩ (Value.ref b :: argsL).toArray) :
    ∃ (v : Option Value) (vm₁ : Vm) (B : Pt), s.WarmedH vm₁ ∧ Stand p l e R s m args below meth c B.U B.locs B.cells B.slots ∧ Post ⟨T.setVm vm₁, locs, cells, slots⟩ (Value.ref b :: argsL).toArray v B ∧
      ∀ target, Steps p.tables e below (B.U.setTop { g with pc := g.pc + 3, stack := v.toList ++ rest }) target → Steps p.tables e below (T.setTop g) target := by
  obtain ⟨mk, methM, hnamed, hmethM, hstM, habM⟩ := Cond.instanceMethod_spec hinst
  obtain ⟨m8, methM', cM, hn8, hmethM', -, -, -, -, -, -, hsigM⟩ := Cond.codeWith_spec hcode
  cases Option.some.inj (hn8.symm.trans hnamed)
  cases hmethM.symm.trans hmethM'
  obtain ⟨c2, r2, m2, q1, q2, q3, q4, kP, hkP, hkPi⟩ := Cond.selects_spec hsel
  cases hcls.symm.trans q1
  cases (State.methodFound?_of_named hnamed hy).symm.trans q2
  cases hnamed.symm.trans q3
  have hselP : selectMethod e.platform s.vm cellB.cls mk = .method mk := by rw [Launch.admits_selectMethod X.admits]; exact q4
  obtain ⟨vm₁, X₁, hstep₁⟩ := X.invokevirtual hexec hown hlink hnamed hmethM hstM hkP hkPi hy (a := b) (cell := cellB) hcell
    (fun z h => by rw [h] at hobj; cases hobj) hselP hmethM habM hkP hkPi (g := g) hg (argsL := argsL) (rest := rest) (hlen _ hsigM) hstack hdg
  obtain ⟨v, B, X', hpost, hsteps⟩ := hK m meth c ⟨T.setVm vm₁, locs, cells, slots⟩ { g with stack := rest } (.invokevirtual index) mk (Value.ref b :: argsL).toArray X₁ hg hsize hdg hW (X₁.named hnamed) (hpre vm₁ X₁.warmed)
  exact ⟨v, vm₁, B, X₁.warmed, X', hpost, fun target h => hstep₁ _ fun acts => by rw [doInvoke_state]; exact hsteps.trans h⟩
abbrev vx_CVW (R : Room) (s : State) (args : Array Value) (own C : String) (index : Nat) (y : MethodName) (bytes : ByteArray) (maxL : Nat) (ret : Option FieldType) (hh : List (Nat × Nat × Nat × Nat)) (ws : List Cond) (rm : Room) (mc ms n : Nat) : Prop :=
  (rm.cells = mc ∧ rm.slots = ms ∧ rm.frames + 1 ≤ R.frames ∧ 8 + (maxL + 11) + rm.locals ≤ R.locals ∧ (∀ w ∈ ws, ∀ (a' : Array Value) (U : State), s.WarmedH U.vm → w.before a' U = true) ∧ Cond.codeWith y bytes maxL ret hh ∈ ws) ∧
  (Cond.codeWith y bytes maxL ret hh).before args s = true ∧ (Cond.initialized y.cls).before args s = true ∧ (y.cls ≠ "java/lang/invoke/MethodHandle" ∧ y.cls ≠ "java/lang/invoke/VarHandle") ∧
  (∀ sig, parseMethodDescriptor y.desc = some sig → n = sig.parameters.length) ∧ (Cond.methodLink own index y).before args s = true ∧ (Cond.instanceMethod y).before args s = true ∧ (Cond.selects C y y).before args s = true
theorem vx_cwVW {own C : String} {index maxL mc ms : Nat} {y : MethodName} {bytes : ByteArray} {ret : Option FieldType} {hh : List (Nat × Nat × Nat × Nat)} {Ts ws ws' : List Cond} {rm : Room} (n : Nat) (ht : ∀ w ∈ Ts, w.before args s = true) (hT : GoodIn Ts (wsV own index C y ws)) (hw : ws = Cond.codeWith y bytes maxL ret hh :: ws') (hrc : rm.cells = mc) (hrs : rm.slots = ms)
    (hd : y.cls = C ∧ y.cls ≠ "java/lang/invoke/MethodHandle" ∧ y.cls ≠ "java/lang/invoke/VarHandle" ∧ (parseMethodDescriptor y.desc).map (fun d => d.parameters.length) = some n) (hR : rm.frames + 1 ≤ R.frames ∧ 8 + (maxL + 11) + rm.locals ≤ R.locals) :
    vx_CVW R s args own C index y bytes maxL ret hh ws rm mc ms n := by
  obtain ⟨hC, hd⟩ := hd
  subst hC
  have ok : ∀ w ∈ wsV own index y.cls y ws, w.before args s = true := fun w h => ht w (hT w h).1
  have hG : GoodIn Ts ws := fun w h => hT w (by unfold wsV; exact List.mem_append_right _ h)
  have hc : Cond.codeWith y bytes maxL ret hh ∈ ws := by rw [hw]; exact List.mem_cons_self
  refine ⟨⟨hrc, hrs, hR.1, hR.2, pay_in ht hG, hc⟩, ht _ (hG _ hc).1, ok _ (by simp [wsV]), ⟨hd.1, hd.2.1⟩, fun sig h => ?_, ok _ (by simp [wsV]), ok _ (by simp [wsV]), ok _ (by simp [wsV])⟩
  have h2 := hd.2.2
  rw [h] at h2
  exact (Option.some.inj h2).symm
theorem vx_runVW {y : MethodName} {bytes cc : ByteArray} {maxL nL mc ms n index : Nat} {ret : Option FieldType} {hh : List (Nat × Nat × Nat × Nat)} {ws : List Cond} {rm : Room} {Pc : Array Value → State → Prop} {Qc : Array Value → State → Outcome → State → Prop} {free : Addr → Prop} {Ts : List Cond} {own C : String} {b : Addr} {As rest : List Value} {g : JFrame}
    (S : CallFix p m c cc nL s args Ts own) (hM : Met l y ws rm Pc Qc mc ms free) (cw : vx_CVW R s args own C index y bytes maxL ret hh ws rm mc ms n) (hp : PreV s H C b Pc As)
    (hg : g.method = m) (hn : As.length = n) (hsize : g.locals.size = nL) (hstack : g.stack = As.reverse ++ .ref b :: rest) (hW : 2 * g.monitorRoom + (rest.map fun v => v.category).sum ≤ 8) (hdg : decode cc g.pc = .ok (.invokevirtual index, 3)) (hf : cells + mc ≤ R.cells ∧ slots + ms ≤ R.slots) :
    va_Run p l e R s m args below meth c H locs cells slots mc ms g rest (Qc (Value.ref b :: As).toArray) free := by
  obtain ⟨⟨hrc, hrs, hfr, hlo, hws, hcw⟩, hcode, hini, hy, hlen, hl, hin, hse⟩ := cw
  have hK : Back l R p e below s args y 3 8 (PreOf R mc ms Pc) (PostOf Qc mc ms free) := va_backW (hh := hh) (bytes := bytes) (maxL := maxL) (ret := ret) hM hp.1 hrc hrs hfr hlo hws hcw (fun a' U hW => word_at hW (Or.inl (by first | rfl | simp [Cond.onTables, Cond.keeps, Cond.steady])) hini)
  obtain ⟨hx, hb, hml, ho, -⟩ := S
  obtain ⟨-, ⟨cellB, hcB, hoB, hclB⟩, hPc⟩ := hp
  intro T hT X
  obtain ⟨v, vm₁, ⟨U', l2, c2, s2⟩, hW₁, X', ⟨g', mk, t, L, e1, e2, hq, h1, hL, h2, h3⟩, st⟩ := vx_callVW X hx (C := C) (hh := hh) (bytes := bytes) (maxL := maxL) (ret := ret) ho hl hin hse hcode hy hK (by rw [hT]; exact hcB) hoB hclB hg (hsize.trans hml.symm) (argsL := As) (rest := rest) (fun sig h => hn.trans (hlen sig h)) hstack hW (by rw [hb]; exact hdg)
    (fun vm₁ hW₁ => ⟨hf.1, hf.2, hPc (T.setVm vm₁) hT hW₁⟩)
  dsimp only [Pt.U, Pt.locs, Pt.cells, Pt.slots] at X' e1 e2 h1 h2 h3 st
  subst h1; subst h2; subst h3
  exact ⟨v, (T.setVm vm₁).calling g' mk (Value.ref b :: As).toArray, t, U', L, hT, X', hL, e1, e2, hq, st⟩
section
variable {y : MethodName} {bytes cc : ByteArray} {maxL nL mc ms n index : Nat} {ret : Option FieldType} {ws : List Cond} {rm : Room} {Pc : Array Value → State → Prop} {Qc : Array Value → State → Outcome → State → Prop} {XC : String → State → State → Prop} {free : Addr → Prop} {Ts : List Cond} {own C : String} {b : Addr} {As rest : List Value} {g : JFrame}
theorem vx_runVX {hh : List (Nat × Nat × Nat × Nat)} (S : CallFix p m c cc nL s args Ts own) (hM : vx_Met l y ws rm Pc Qc XC mc ms free) (cw : vx_CVW R s args own C index y bytes maxL ret hh ws rm mc ms n) (hp : PreV s H C b Pc As)
    (hg : g.method = m) (hn : As.length = n) (hsize : g.locals.size = nL) (hstack : g.stack = As.reverse ++ .ref b :: rest) (hW : 2 * g.monitorRoom + (rest.map fun v => v.category).sum ≤ 8) (hdg : decode cc g.pc = .ok (.invokevirtual index, 3)) (hf : cells + mc ≤ R.cells ∧ slots + ms ≤ R.slots) :
    vx_Run p l e R s m args below meth c H locs cells slots mc ms g rest (Qc (Value.ref b :: As).toArray) XC free := by
  obtain ⟨⟨hrc, hrs, hfr, hlo, hws, hcw⟩, hcode, hini, hy, hlen, hl, hin, hse⟩ := cw
  have hK : vx_Back l R p e below s args y 3 8 (PreOf R mc ms Pc) (PostOf Qc mc ms free) (vx_Post XC mc ms free) := vx_backW (hh := hh) (bytes := bytes) (maxL := maxL) (ret := ret) hM hp.1 hrc hrs hfr hlo hws hcw (fun a' U hW => word_at hW (Or.inl (by first | rfl | simp [Cond.onTables, Cond.keeps, Cond.steady])) hini)
  obtain ⟨hx, hb, hml, ho, -⟩ := S
  obtain ⟨-, ⟨cellB, hcB, hoB, hclB⟩, hPc⟩ := hp
  intro T hT X
  rcases vx_callVX X hx (C := C) (hh := hh) (bytes := bytes) (maxL := maxL) (ret := ret) ho hl hin hse hcode hy hK (by rw [hT]; exact hcB) hoB hclB hg (hsize.trans hml.symm) (argsL := As) (rest := rest) (fun sig h => hn.trans (hlen sig h)) hstack hW (by rw [hb]; exact hdg)
    (fun vm₁ hW₁ => ⟨hf.1, hf.2, hPc (T.setVm vm₁) hT hW₁⟩) with ⟨v, vm₁, ⟨U', l2, c2, s2⟩, hW₁, X', ⟨g', mk, t, L, e1, e2, hq, h1, hL, h2, h3⟩, st⟩ | ⟨q, vm₁, ⟨U', l2, c2, s2⟩, hW₁, X', ⟨g', mk, t, L, E, ce, e1, e2, hq, hce, hcv, hcl, h1, hL, h2, h3⟩, st⟩
  · dsimp only [Pt.U, Pt.locs, Pt.cells, Pt.slots] at X' e1 e2 h1 h2 h3 st
    subst h1; subst h2; subst h3
    exact Or.inl ⟨v, (T.setVm vm₁).calling g' mk (Value.ref b :: As).toArray, t, U', L, hT, X', hL, e1, e2, hq, st⟩
  · dsimp only [Pt.U, Pt.locs, Pt.cells, Pt.slots] at X' e1 e2 h1 h2 h3 st hcl
    subst h1; subst h2; subst h3
    exact Or.inr ⟨q, (T.setVm vm₁).calling g' mk (Value.ref b :: As).toArray, t, U', L, E, ce, hT, X', hL, e1, e2, hq, hce, hcv, vx_cls hW₁ hcl, st⟩
theorem vx_runSX {hh : List (Nat × Nat × Nat × Nat)} (S : CallFix p m c cc nL s args Ts own) (hM : vx_Met l y ws rm Pc Qc XC mc ms free) (cw : vx_CSW R s args own index y bytes maxL ret hh ws rm mc ms n) (hp : PreS s H Pc As)
    (hg : g.method = m) (hn : As.length = n) (hsize : g.locals.size = nL) (hstack : g.stack = As.reverse ++ rest) (hW : 2 * g.monitorRoom + (rest.map fun v => v.category).sum ≤ 8) (hdg : decode cc g.pc = .ok (.invokestatic index, 3)) (hf : cells + mc ≤ R.cells ∧ slots + ms ≤ R.slots) :
    vx_Run p l e R s m args below meth c H locs cells slots mc ms g rest (Qc As.toArray) XC free := by
  obtain ⟨⟨hrc, hrs, hfr, hlo, hws, hcw⟩, hcode, hini, hy, hlen, hl, hstt⟩ := cw
  have hK : vx_Back l R p e below s args y 3 8 (PreOf R mc ms Pc) (PostOf Qc mc ms free) (vx_Post XC mc ms free) := vx_backW (hh := hh) (bytes := bytes) (maxL := maxL) (ret := ret) hM hp.1 hrc hrs hfr hlo hws hcw (fun a' U hW => word_at hW (Or.inl (by first | rfl | simp [Cond.onTables, Cond.keeps, Cond.steady])) hini)
  obtain ⟨hx, hb, hml, ho, -⟩ := S
  intro T hT X
  rcases vx_callSX X hx (hh := hh) (bytes := bytes) (maxL := maxL) (ret := ret) ho hl hstt hini hcode hy hK hg (hsize.trans hml.symm) (argsL := As) (rest := rest) (fun sig h => hn.trans (hlen sig h)) hstack hW (by rw [hb]; exact hdg)
    (fun vm₁ hW₁ => ⟨hf.1, hf.2, hp.2 (T.setVm vm₁) hT hW₁⟩) with ⟨v, vm₁, ⟨U', l2, c2, s2⟩, hW₁, X', ⟨g', mk, t, L, e1, e2, hq, h1, hL, h2, h3⟩, st⟩ | ⟨q, vm₁, ⟨U', l2, c2, s2⟩, hW₁, X', ⟨g', mk, t, L, E, ce, e1, e2, hq, hce, hcv, hcl, h1, hL, h2, h3⟩, st⟩
  · dsimp only [Pt.U, Pt.locs, Pt.cells, Pt.slots] at X' e1 e2 h1 h2 h3 st
    subst h1; subst h2; subst h3
    exact Or.inl ⟨v, (T.setVm vm₁).calling g' mk As.toArray, t, U', L, hT, X', hL, e1, e2, hq, st⟩
  · dsimp only [Pt.U, Pt.locs, Pt.cells, Pt.slots] at X' e1 e2 h1 h2 h3 st hcl
    subst h1; subst h2; subst h3
    exact Or.inr ⟨q, (T.setVm vm₁).calling g' mk As.toArray, t, U', L, E, ce, hT, X', hL, e1, e2, hq, hce, hcv, vx_cls hW₁ hcl, st⟩
end
end VXH
theorem vx_ofWH {l : Launch} {y : MethodName} {ws ws' : List Cond} {rm : Room} {Pc : Array Value → State → Prop} {Qc : Array Value → State → Outcome → State → Prop} {XC : String → State → State → Prop} {mc ms : Nat} {free : Addr → Prop} {cc : ByteArray} {maxL : Nat} {ret : Option FieldType} {hh : List (Nat × Nat × Nat × Nat)}
    (hy : plainName y.cls = true) (hw : ws = Cond.codeWith y cc maxL ret hh :: ws')
    (body : ∀ p e s m args below meth c s₁, BodyLoose p l y (headSpec ws rm) cc maxL ret e s m args below meth c s₁ → c.maxLocals = maxL → Pc args s →
      W p l e (headSpec ws rm).room s m args below meth c s.heap [] 0 0 (vx_MQ below Qc XC args s mc ms free) (entryFrame m args maxL)) : vx_Met l y ws rm Pc Qc XC mc ms free := by
  refine MetFree.of_bodyS (code := cc) (maxLocals := maxL) (ret := ret) hy ?_ ?_
  · intro args s m h hn
    obtain ⟨m9, meth, c, hn9, h1, h2, h3, h4, -, h5, h6, -⟩ := Cond.codeWith_spec (atoms_spec (ws := ws) h _ (by rw [hw]; exact List.mem_cons_self))
    cases hn.symm.trans hn9
    exact ⟨meth, c, h1, h2, h3, h4, h5, h6⟩
  · intro p e s m args below meth c s₁ B hml hP _
    have hh0 : s₁.heap = s.heap := by rw [B.state]; rfl
    obtain ⟨t, a1, o, b1, b2, b3⟩ := body p e s m args below meth c s₁ B hml hP s₁ hh0 (Stand.of_body B)
    exact ⟨t, o, a1, b1, b2, b3⟩
/-! ===== END ===== -/
end
section
/-! ===== BEGIN printed: names, fields, word lists, decode rows ===== -/
def RX0 : String := "NotationPress$Column"
def TX0 : u_T := fun k => match k with
  | 0 => ("NotationPress$Column", "base", "[I", true)
  | 1 => ("NotationPress$Column", "values", "[I", true)
  | 2 => ("NotationPress$Column", "table", "LNotationPress$Table;", false)
  | 3 => ("NotationPress$Column", "kind", "I", false)
  | 4 => ("NotationPress$Column", "slot", "I", false)
  | _ => ("NotationPress$Column", "window", "I", false)
def tyX0 : Nat → FieldType := fun k => match k with
  | 0 => .array .int
  | 1 => .array .int
  | 2 => .object "NotationPress$Table"
  | 3 => .int
  | 4 => .int
  | _ => .int
abbrev wsX00 : List Cond := u_ws RX0 TX0 6
theorem nmX0 : ∀ a, a < 6 → ∀ b, b < 6 → a ≠ b → (TX0 a).2.1 ≠ (TX0 b).2.1 := by decide +kernel
theorem tyX0_ok : ∀ k, k < 6 → parseFieldDescriptor (TX0 k).2.2.1 = some (tyX0 k) := by decide +kernel
abbrev cX0_init : ByteArray := prog_2_method_1_code
def yX0_init : MethodName := ⟨RX0, "<init>", "()V"⟩
abbrev cX0_become : ByteArray := prog_2_method_2_code
def yX0_become : MethodName := ⟨RX0, "become", "(LNotationPress$Table;III)V"⟩
abbrev cX0_hasRow : ByteArray := prog_2_method_3_code
def yX0_hasRow : MethodName := ⟨RX0, "hasRow", "(I)Z"⟩
abbrev cX0_told : ByteArray := prog_2_method_4_code
def yX0_told : MethodName := ⟨RX0, "told", "(I)I"⟩
abbrev cX0_fromRow : ByteArray := prog_2_method_5_code
def yX0_fromRow : MethodName := ⟨RX0, "fromRow", "(I)I"⟩
abbrev cX0_difference : ByteArray := prog_2_method_6_code
def yX0_difference : MethodName := ⟨RX0, "difference", "(II)I"⟩
abbrev cX0_join : ByteArray := prog_2_method_7_code
def yX0_join : MethodName := ⟨RX0, "join", "(II)I"⟩
abbrev cX0_fromBatch : ByteArray := prog_2_method_8_code
def yX0_fromBatch : MethodName := ⟨RX0, "fromBatch", "(I)I"⟩
abbrev cX0_gatherBase : ByteArray := prog_2_method_9_code
def yX0_gatherBase : MethodName := ⟨RX0, "gatherBase", "()I"⟩
abbrev cX0_shifted : ByteArray := prog_2_method_10_code
def yX0_shifted : MethodName := ⟨RX0, "shifted", "(II)I"⟩
abbrev cX0_shiftBatch : ByteArray := prog_2_method_11_code
def yX0_shiftBatch : MethodName := ⟨RX0, "shiftBatch", "(I)I"⟩
abbrev cX0_differBatch : ByteArray := prog_2_method_12_code
def yX0_differBatch : MethodName := ⟨RX0, "differBatch", "(I)I"⟩
abbrev cX0_totalBatch : ByteArray := prog_2_method_13_code
def yX0_totalBatch : MethodName := ⟨RX0, "totalBatch", "(I)I"⟩
abbrev cX0_greatestBatch : ByteArray := prog_2_method_14_code
def yX0_greatestBatch : MethodName := ⟨RX0, "greatestBatch", "(I)I"⟩
def RX1 : String := "NotationPress$Description"
def TX1 : u_T := fun k => match k with
  | 0 => ("NotationPress$Description", "items", "LNotationPress$Items;", true)
  | 1 => ("NotationPress$Description", "kinds", "[I", true)
  | 2 => ("NotationPress$Description", "firsts", "[I", true)
  | 3 => ("NotationPress$Description", "seconds", "[I", true)
  | 4 => ("NotationPress$Description", "thirds", "[I", true)
  | 5 => ("NotationPress$Description", "messages", "[I", true)
  | _ => ("NotationPress$Description", "count", "I", false)
def tyX1 : Nat → FieldType := fun k => match k with
  | 0 => .object "NotationPress$Items"
  | 1 => .array .int
  | 2 => .array .int
  | 3 => .array .int
  | 4 => .array .int
  | 5 => .array .int
  | _ => .int
abbrev wsX10 : List Cond := u_ws RX1 TX1 7
theorem nmX1 : ∀ a, a < 7 → ∀ b, b < 7 → a ≠ b → (TX1 a).2.1 ≠ (TX1 b).2.1 := by decide +kernel
theorem tyX1_ok : ∀ k, k < 7 → parseFieldDescriptor (TX1 k).2.2.1 = some (tyX1 k) := by decide +kernel
abbrev cX1_init : ByteArray := prog_3_method_1_code
def yX1_init : MethodName := ⟨RX1, "<init>", "()V"⟩
abbrev cX1_tellsSlots : ByteArray := prog_3_method_2_code
def yX1_tellsSlots : MethodName := ⟨RX1, "tellsSlots", "(IIII)Z"⟩
abbrev cX1_allows : ByteArray := prog_3_method_3_code
def yX1_allows : MethodName := ⟨RX1, "allows", "(IIII)Z"⟩
abbrev cX1_isFull : ByteArray := prog_3_method_4_code
def yX1_isFull : MethodName := ⟨RX1, "isFull", "()Z"⟩
abbrev cX1_add : ByteArray := prog_3_method_5_code
def yX1_add : MethodName := ⟨RX1, "add", "(IIIII)V"⟩
abbrev cX1_firstBroken : ByteArray := prog_3_method_6_code
def yX1_firstBroken : MethodName := ⟨RX1, "firstBroken", "([I)I"⟩
abbrev cX1_holds : ByteArray := prog_3_method_7_code
def yX1_holds : MethodName := ⟨RX1, "holds", "(I[I)Z"⟩
abbrev cX1_isSum : ByteArray := prog_3_method_8_code
def yX1_isSum : MethodName := ⟨RX1, "isSum", "(III)Z"⟩
abbrev cX1_valueOf : ByteArray := prog_3_method_9_code
def yX1_valueOf : MethodName := ⟨RX1, "valueOf", "(I[I)I"⟩
def RX2 : String := "NotationPress$Items"
def TX2 : u_T := fun k => match k with
  | 0 => ("NotationPress$Items", "kinds", "[I", true)
  | 1 => ("NotationPress$Items", "firsts", "[I", true)
  | 2 => ("NotationPress$Items", "seconds", "[I", true)
  | 3 => ("NotationPress$Items", "thirds", "[I", true)
  | _ => ("NotationPress$Items", "count", "I", false)
def tyX2 : Nat → FieldType := fun k => match k with
  | 0 => .array .int
  | 1 => .array .int
  | 2 => .array .int
  | 3 => .array .int
  | _ => .int
abbrev wsX20 : List Cond := u_ws RX2 TX2 5
theorem nmX2 : ∀ a, a < 5 → ∀ b, b < 5 → a ≠ b → (TX2 a).2.1 ≠ (TX2 b).2.1 := by decide +kernel
theorem tyX2_ok : ∀ k, k < 5 → parseFieldDescriptor (TX2 k).2.2.1 = some (tyX2 k) := by decide +kernel
abbrev cX2_init : ByteArray := prog_4_method_1_code
def yX2_init : MethodName := ⟨RX2, "<init>", "()V"⟩
abbrev cX2_tellsSlot : ByteArray := prog_4_method_2_code
def yX2_tellsSlot : MethodName := ⟨RX2, "tellsSlot", "(I)Z"⟩
abbrev cX2_inRange : ByteArray := prog_4_method_3_code
def yX2_inRange : MethodName := ⟨RX2, "inRange", "(IIII)Z"⟩
abbrev cX2_isFull : ByteArray := prog_4_method_4_code
def yX2_isFull : MethodName := ⟨RX2, "isFull", "()Z"⟩
abbrev cX2_clear : ByteArray := prog_4_method_5_code
def yX2_clear : MethodName := ⟨RX2, "clear", "()V"⟩
abbrev cX2_add : ByteArray := prog_4_method_6_code
def yX2_add : MethodName := ⟨RX2, "add", "(IIII)V"⟩
abbrev cX2_copyFrom : ByteArray := prog_4_method_7_code
def yX2_copyFrom : MethodName := ⟨RX2, "copyFrom", "(LNotationPress$Items;)V"⟩
abbrev cX2_kind : ByteArray := prog_4_method_8_code
def yX2_kind : MethodName := ⟨RX2, "kind", "(I)I"⟩
abbrev cX2_a : ByteArray := prog_4_method_9_code
def yX2_a : MethodName := ⟨RX2, "a", "(I)I"⟩
abbrev cX2_b : ByteArray := prog_4_method_10_code
def yX2_b : MethodName := ⟨RX2, "b", "(I)I"⟩
abbrev cX2_c : ByteArray := prog_4_method_11_code
def yX2_c : MethodName := ⟨RX2, "c", "(I)I"⟩
abbrev cX2_hasSlot : ByteArray := prog_4_method_12_code
def yX2_hasSlot : MethodName := ⟨RX2, "hasSlot", "(I)Z"⟩
abbrev cX2_embraces : ByteArray := prog_4_method_13_code
def yX2_embraces : MethodName := ⟨RX2, "embraces", "(I)Z"⟩
abbrev cX2_itemOf : ByteArray := prog_4_method_14_code
def yX2_itemOf : MethodName := ⟨RX2, "itemOf", "(I)I"⟩
abbrev cX2_isInLoop : ByteArray := prog_4_method_15_code
def yX2_isInLoop : MethodName := ⟨RX2, "isInLoop", "(I)Z"⟩
abbrev cX2_isDescription : ByteArray := prog_4_method_16_code
def yX2_isDescription : MethodName := ⟨RX2, "isDescription", "()Z"⟩
abbrev cX2_isBodySound : ByteArray := prog_4_method_17_code
def yX2_isBodySound : MethodName := ⟨RX2, "isBodySound", "(I)Z"⟩
abbrev cX2_isTellerSound : ByteArray := prog_4_method_18_code
def yX2_isTellerSound : MethodName := ⟨RX2, "isTellerSound", "(I)Z"⟩
abbrev cX2_firstUnsure : ByteArray := prog_4_method_19_code
def yX2_firstUnsure : MethodName := ⟨RX2, "firstUnsure", "()I"⟩
abbrev cX2_canBeConstrained : ByteArray := prog_4_method_20_code
def yX2_canBeConstrained : MethodName := ⟨RX2, "canBeConstrained", "(I)Z"⟩
def RX3 : String := "NotationPress$Printer"
def TX3 : u_T := fun k => match k with
  | 0 => ("NotationPress$Printer", "units", "[I", true)
  | 1 => ("NotationPress$Printer", "number", "[I", true)
  | _ => ("NotationPress$Printer", "trace", "LNotationPress$Trace;", true)
def tyX3 : Nat → FieldType := fun k => match k with
  | 0 => .array .int
  | 1 => .array .int
  | _ => .object "NotationPress$Trace"
abbrev wsX30 : List Cond := u_ws RX3 TX3 3
theorem nmX3 : ∀ a, a < 3 → ∀ b, b < 3 → a ≠ b → (TX3 a).2.1 ≠ (TX3 b).2.1 := by decide +kernel
theorem tyX3_ok : ∀ k, k < 3 → parseFieldDescriptor (TX3 k).2.2.1 = some (tyX3 k) := by decide +kernel
abbrev cX3_init : ByteArray := prog_5_method_1_code
def yX3_init : MethodName := ⟨RX3, "<init>", "()V"⟩
abbrev cX3_length : ByteArray := prog_5_method_2_code
def yX3_length : MethodName := ⟨RX3, "length", "()I"⟩
abbrev cX3_unitAt : ByteArray := prog_5_method_3_code
def yX3_unitAt : MethodName := ⟨RX3, "unitAt", "(I)I"⟩
abbrev cX3_canPrint : ByteArray := prog_5_method_4_code
def yX3_canPrint : MethodName := ⟨RX3, "canPrint", "(LNotationPress$Items;[I)Z"⟩
abbrev cX3_printSign : ByteArray := prog_5_method_5_code
def yX3_printSign : MethodName := ⟨RX3, "printSign", "(LNotationPress$Items;)Z"⟩
abbrev cX3_printSlot : ByteArray := prog_5_method_6_code
def yX3_printSlot : MethodName := ⟨RX3, "printSlot", "(LNotationPress$Items;[I)Z"⟩
abbrev cX3_write : ByteArray := prog_5_method_7_code
def yX3_write : MethodName := ⟨RX3, "write", "(I)Z"⟩
abbrev cX3_writeNumber : ByteArray := prog_5_method_8_code
def yX3_writeNumber : MethodName := ⟨RX3, "writeNumber", "(III)Z"⟩
abbrev cX3_writeWord : ByteArray := prog_5_method_9_code
def yX3_writeWord : MethodName := ⟨RX3, "writeWord", "(II)Z"⟩
abbrev cX3_writeFills : ByteArray := prog_5_method_10_code
def yX3_writeFills : MethodName := ⟨RX3, "writeFills", "(II)Z"⟩
abbrev cX3_writeBits : ByteArray := prog_5_method_11_code
def yX3_writeBits : MethodName := ⟨RX3, "writeBits", "(II)Z"⟩
abbrev cX3_writePlace : ByteArray := prog_5_method_12_code
def yX3_writePlace : MethodName := ⟨RX3, "writePlace", "(I)Z"⟩
def RX4 : String := "NotationPress$Reader"
def TX4 : u_T := fun k => match k with
  | 0 => ("NotationPress$Reader", "beginnings", "[LNotationPress$Trace;", true)
  | 1 => ("NotationPress$Reader", "current", "LNotationPress$Trace;", true)
  | 2 => ("NotationPress$Reader", "number", "[I", true)
  | 3 => ("NotationPress$Reader", "words", "[I", true)
  | 4 => ("NotationPress$Reader", "wordEnds", "[I", true)
  | 5 => ("NotationPress$Reader", "items", "LNotationPress$Items;", false)
  | 6 => ("NotationPress$Reader", "text", "LNotationPress$Text;", false)
  | 7 => ("NotationPress$Reader", "place", "I", false)
  | 8 => ("NotationPress$Reader", "kept", "I", false)
  | 9 => ("NotationPress$Reader", "begun", "I", false)
  | _ => ("NotationPress$Reader", "tooFar", "Z", false)
def tyX4 : Nat → FieldType := fun k => match k with
  | 0 => .array (.object "NotationPress$Trace")
  | 1 => .object "NotationPress$Trace"
  | 2 => .array .int
  | 3 => .array .int
  | 4 => .array .int
  | 5 => .object "NotationPress$Items"
  | 6 => .object "NotationPress$Text"
  | 7 => .int
  | 8 => .int
  | 9 => .int
  | _ => .boolean
abbrev wsX40 : List Cond := u_ws RX4 TX4 11
theorem nmX4 : ∀ a, a < 11 → ∀ b, b < 11 → a ≠ b → (TX4 a).2.1 ≠ (TX4 b).2.1 := by decide +kernel
theorem tyX4_ok : ∀ k, k < 11 → parseFieldDescriptor (TX4 k).2.2.1 = some (tyX4 k) := by decide +kernel
abbrev cX4_init : ByteArray := prog_6_method_1_code
def yX4_init : MethodName := ⟨RX4, "<init>", "()V"⟩
abbrev cX4_begin : ByteArray := prog_6_method_2_code
def yX4_begin : MethodName := ⟨RX4, "begin", "(LNotationPress$Items;LNotationPress$Text;I)V"⟩
abbrev cX4_goToNext : ByteArray := prog_6_method_3_code
def yX4_goToNext : MethodName := ⟨RX4, "goToNext", "()Z"⟩
abbrev cX4_countItemByItem : ByteArray := prog_6_method_4_code
def yX4_countItemByItem : MethodName := ⟨RX4, "countItemByItem", "()I"⟩
abbrev cX4_beginningAt : ByteArray := prog_6_method_5_code
def yX4_beginningAt : MethodName := ⟨RX4, "beginningAt", "(I)LNotationPress$Trace;"⟩
abbrev cX4_branch : ByteArray := prog_6_method_6_code
def yX4_branch : MethodName := ⟨RX4, "branch", "()V"⟩
abbrev cX4_enter : ByteArray := prog_6_method_7_code
def yX4_enter : MethodName := ⟨RX4, "enter", "()V"⟩
abbrev cX4_ahead : ByteArray := prog_6_method_8_code
def yX4_ahead : MethodName := ⟨RX4, "ahead", "(I)I"⟩
abbrev cX4_keepWay : ByteArray := prog_6_method_9_code
def yX4_keepWay : MethodName := ⟨RX4, "keepWay", "(III)V"⟩
abbrev cX4_readNumber : ByteArray := prog_6_method_10_code
def yX4_readNumber : MethodName := ⟨RX4, "readNumber", "()V"⟩
abbrev cX4_readWord : ByteArray := prog_6_method_11_code
def yX4_readWord : MethodName := ⟨RX4, "readWord", "()V"⟩
abbrev cX4_areFills : ByteArray := prog_6_method_12_code
def yX4_areFills : MethodName := ⟨RX4, "areFills", "(III)Z"⟩
abbrev cX4_readOpen : ByteArray := prog_6_method_13_code
def yX4_readOpen : MethodName := ⟨RX4, "readOpen", "()V"⟩
abbrev cX4_gatherWords : ByteArray := prog_6_method_14_code
def yX4_gatherWords : MethodName := ⟨RX4, "gatherWords", "(I)I"⟩
abbrev cX4_letterAhead : ByteArray := prog_6_method_15_code
def yX4_letterAhead : MethodName := ⟨RX4, "letterAhead", "(I)I"⟩
abbrev cX4_readBits : ByteArray := prog_6_method_16_code
def yX4_readBits : MethodName := ⟨RX4, "readBits", "()V"⟩
abbrev cX4_readCount : ByteArray := prog_6_method_17_code
def yX4_readCount : MethodName := ⟨RX4, "readCount", "()V"⟩
abbrev cX4_readUnit : ByteArray := prog_6_method_18_code
def yX4_readUnit : MethodName := ⟨RX4, "readUnit", "(I)V"⟩
abbrev cX4_readPlace : ByteArray := prog_6_method_19_code
def yX4_readPlace : MethodName := ⟨RX4, "readPlace", "(I)V"⟩
def RX5 : String := "NotationPress$Sampler"
def TX5 : u_T := fun k => match k with
  | 0 => ("NotationPress$Sampler", "levels", "[LNotationPress$Trace;", true)
  | 1 => ("NotationPress$Sampler", "drawn", "[I", true)
  | 2 => ("NotationPress$Sampler", "tried", "[I", true)
  | 3 => ("NotationPress$Sampler", "seed", "I", false)
  | _ => ("NotationPress$Sampler", "depth", "I", false)
def tyX5 : Nat → FieldType := fun k => match k with
  | 0 => .array (.object "NotationPress$Trace")
  | 1 => .array .int
  | 2 => .array .int
  | 3 => .int
  | _ => .int
abbrev wsX50 : List Cond := u_ws RX5 TX5 5
theorem nmX5 : ∀ a, a < 5 → ∀ b, b < 5 → a ≠ b → (TX5 a).2.1 ≠ (TX5 b).2.1 := by decide +kernel
theorem tyX5_ok : ∀ k, k < 5 → parseFieldDescriptor (TX5 k).2.2.1 = some (tyX5 k) := by decide +kernel
abbrev cX5_init : ByteArray := prog_7_method_1_code
def yX5_init : MethodName := ⟨RX5, "<init>", "()V"⟩
abbrev cX5_search : ByteArray := prog_7_method_2_code
def yX5_search : MethodName := ⟨RX5, "search", "(LNotationPress$Description;ILNotationPress$Printer;)LNotationPress$Trace;"⟩
abbrev cX5_levelAt : ByteArray := prog_7_method_3_code
def yX5_levelAt : MethodName := ⟨RX5, "levelAt", "(I)LNotationPress$Trace;"⟩
abbrev cX5_tryNext : ByteArray := prog_7_method_4_code
def yX5_tryNext : MethodName := ⟨RX5, "tryNext", "(LNotationPress$Description;LNotationPress$Trace;I)V"⟩
abbrev cX5_comeTo : ByteArray := prog_7_method_5_code
def yX5_comeTo : MethodName := ⟨RX5, "comeTo", "(LNotationPress$Items;LNotationPress$Trace;)V"⟩
abbrev cX5_choicesOf : ByteArray := prog_7_method_6_code
def yX5_choicesOf : MethodName := ⟨RX5, "choicesOf", "(LNotationPress$Items;I)I"⟩
def RX6 : String := "NotationPress$Table"
def TX6 : u_T := fun k => match k with
  | 0 => ("NotationPress$Table", "rows", "[I", true)
  | 1 => ("NotationPress$Table", "ledger", "[I", true)
  | 2 => ("NotationPress$Table", "bucketFirst", "[I", true)
  | 3 => ("NotationPress$Table", "bucketLast", "[I", true)
  | 4 => ("NotationPress$Table", "nextInBucket", "[I", true)
  | 5 => ("NotationPress$Table", "description", "LNotationPress$Description;", false)
  | 6 => ("NotationPress$Table", "place", "I", false)
  | 7 => ("NotationPress$Table", "rowCount", "I", false)
  | 8 => ("NotationPress$Table", "doubts", "I", false)
  | 9 => ("NotationPress$Table", "skippedCount", "I", false)
  | 10 => ("NotationPress$Table", "right", "I", false)
  | _ => ("NotationPress$Table", "why", "I", false)
def tyX6 : Nat → FieldType := fun k => match k with
  | 0 => .array .int
  | 1 => .array .int
  | 2 => .array .int
  | 3 => .array .int
  | 4 => .array .int
  | 5 => .object "NotationPress$Description"
  | 6 => .int
  | 7 => .int
  | 8 => .int
  | 9 => .int
  | 10 => .int
  | _ => .int
abbrev wsX60 : List Cond := u_ws RX6 TX6 12
theorem nmX6 : ∀ a, a < 12 → ∀ b, b < 12 → a ≠ b → (TX6 a).2.1 ≠ (TX6 b).2.1 := by decide +kernel
theorem tyX6_ok : ∀ k, k < 12 → parseFieldDescriptor (TX6 k).2.2.1 = some (tyX6 k) := by decide +kernel
abbrev cX6_init : ByteArray := prog_8_method_1_code
def yX6_init : MethodName := ⟨RX6, "<init>", "()V"⟩
abbrev cX6_restart : ByteArray := prog_8_method_2_code
def yX6_restart : MethodName := ⟨RX6, "restart", "(LNotationPress$Description;)V"⟩
abbrev cX6_isFull : ByteArray := prog_8_method_3_code
def yX6_isFull : MethodName := ⟨RX6, "isFull", "()Z"⟩
abbrev cX6_hasRow : ByteArray := prog_8_method_4_code
def yX6_hasRow : MethodName := ⟨RX6, "hasRow", "(I)Z"⟩
abbrev cX6_told : ByteArray := prog_8_method_5_code
def yX6_told : MethodName := ⟨RX6, "told", "(II)I"⟩
abbrev cX6_key : ByteArray := prog_8_method_6_code
def yX6_key : MethodName := ⟨RX6, "key", "(II)I"⟩
abbrev cX6_beginLine : ByteArray := prog_8_method_7_code
def yX6_beginLine : MethodName := ⟨RX6, "beginLine", "()V"⟩
abbrev cX6_weigh : ByteArray := prog_8_method_8_code
def yX6_weigh : MethodName := ⟨RX6, "weigh", "([I)V"⟩
abbrev cX6_endLine : ByteArray := prog_8_method_9_code
def yX6_endLine : MethodName := ⟨RX6, "endLine", "(ZI)Z"⟩
abbrev cX6_bucketOf : ByteArray := prog_8_method_10_code
def yX6_bucketOf : MethodName := ⟨RX6, "bucketOf", "(II)I"⟩
abbrev cX6_linkOf : ByteArray := prog_8_method_11_code
def yX6_linkOf : MethodName := ⟨RX6, "linkOf", "(II)I"⟩
abbrev cX6_addToIndex : ByteArray := prog_8_method_12_code
def yX6_addToIndex : MethodName := ⟨RX6, "addToIndex", "(II)V"⟩
abbrev cX6_rowByIndex : ByteArray := prog_8_method_13_code
def yX6_rowByIndex : MethodName := ⟨RX6, "rowByIndex", "(III)I"⟩
abbrev cX6_rowByLooking : ByteArray := prog_8_method_14_code
def yX6_rowByLooking : MethodName := ⟨RX6, "rowByLooking", "(III)I"⟩
abbrev cX6_lastRowOf : ByteArray := prog_8_method_15_code
def yX6_lastRowOf : MethodName := ⟨RX6, "lastRowOf", "(II)I"⟩
abbrev cX6_isLastOfKey : ByteArray := prog_8_method_16_code
def yX6_isLastOfKey : MethodName := ⟨RX6, "isLastOfKey", "(II)Z"⟩
abbrev cX6_keysNotIn : ByteArray := prog_8_method_17_code
def yX6_keysNotIn : MethodName := ⟨RX6, "keysNotIn", "(LNotationPress$Table;I)I"⟩
abbrev cX6_keysThatDiffer : ByteArray := prog_8_method_18_code
def yX6_keysThatDiffer : MethodName := ⟨RX6, "keysThatDiffer", "(LNotationPress$Table;I)I"⟩
abbrev cX6_differs : ByteArray := prog_8_method_19_code
def yX6_differs : MethodName := ⟨RX6, "differs", "(ILNotationPress$Table;I)Z"⟩
def RX7 : String := "NotationPress$Text"
def TX7 : u_T := fun k => match k with
  | 0 => ("NotationPress$Text", "units", "[C", true)
  | 1 => ("NotationPress$Text", "length", "I", false)
  | _ => ("NotationPress$Text", "open", "Z", false)
def tyX7 : Nat → FieldType := fun k => match k with
  | 0 => .array .char
  | 1 => .int
  | _ => .boolean
abbrev wsX70 : List Cond := u_ws RX7 TX7 3
theorem nmX7 : ∀ a, a < 3 → ∀ b, b < 3 → a ≠ b → (TX7 a).2.1 ≠ (TX7 b).2.1 := by decide +kernel
theorem tyX7_ok : ∀ k, k < 3 → parseFieldDescriptor (TX7 k).2.2.1 = some (tyX7 k) := by decide +kernel
abbrev cX7_init : ByteArray := prog_9_method_1_code
def yX7_init : MethodName := ⟨RX7, "<init>", "()V"⟩
abbrev cX7_hasPlace : ByteArray := prog_9_method_2_code
def yX7_hasPlace : MethodName := ⟨RX7, "hasPlace", "(I)Z"⟩
abbrev cX7_unitAt : ByteArray := prog_9_method_3_code
def yX7_unitAt : MethodName := ⟨RX7, "unitAt", "(I)I"⟩
abbrev cX7_takes : ByteArray := prog_9_method_4_code
def yX7_takes : MethodName := ⟨RX7, "takes", "(I)Z"⟩
abbrev cX7_append : ByteArray := prog_9_method_5_code
def yX7_append : MethodName := ⟨RX7, "append", "(I)V"⟩
abbrev cX7_endOfLine : ByteArray := prog_9_method_6_code
def yX7_endOfLine : MethodName := ⟨RX7, "endOfLine", "(I)I"⟩
def RX8 : String := "NotationPress$Trace"
def TX8 : u_T := fun k => match k with
  | 0 => ("NotationPress$Trace", "values", "[I", true)
  | 1 => ("NotationPress$Trace", "starts", "[I", true)
  | 2 => ("NotationPress$Trace", "item", "I", false)
  | 3 => ("NotationPress$Trace", "loop", "I", false)
  | 4 => ("NotationPress$Trace", "times", "I", false)
  | 5 => ("NotationPress$Trace", "round", "I", false)
  | 6 => ("NotationPress$Trace", "length", "I", false)
  | 7 => ("NotationPress$Trace", "digits", "I", false)
  | _ => ("NotationPress$Trace", "digitSum", "I", false)
def tyX8 : Nat → FieldType := fun k => match k with
  | 0 => .array .int
  | 1 => .array .int
  | 2 => .int
  | 3 => .int
  | 4 => .int
  | 5 => .int
  | 6 => .int
  | 7 => .int
  | _ => .int
abbrev wsX80 : List Cond := u_ws RX8 TX8 9
theorem nmX8 : ∀ a, a < 9 → ∀ b, b < 9 → a ≠ b → (TX8 a).2.1 ≠ (TX8 b).2.1 := by decide +kernel
theorem tyX8_ok : ∀ k, k < 9 → parseFieldDescriptor (TX8 k).2.2.1 = some (tyX8 k) := by decide +kernel
abbrev cX8_init : ByteArray := prog_10_method_1_code
def yX8_init : MethodName := ⟨RX8, "<init>", "()V"⟩
abbrev cX8_restart : ByteArray := prog_10_method_2_code
def yX8_restart : MethodName := ⟨RX8, "restart", "()V"⟩
abbrev cX8_copyFrom : ByteArray := prog_10_method_3_code
def yX8_copyFrom : MethodName := ⟨RX8, "copyFrom", "(LNotationPress$Trace;)V"⟩
abbrev cX8_isOver : ByteArray := prog_10_method_4_code
def yX8_isOver : MethodName := ⟨RX8, "isOver", "(LNotationPress$Items;)Z"⟩
abbrev cX8_keep : ByteArray := prog_10_method_5_code
def yX8_keep : MethodName := ⟨RX8, "keep", "(II)V"⟩
abbrev cX8_begin : ByteArray := prog_10_method_6_code
def yX8_begin : MethodName := ⟨RX8, "begin", "(I)V"⟩
abbrev cX8_startOf : ByteArray := prog_10_method_7_code
def yX8_startOf : MethodName := ⟨RX8, "startOf", "(I)I"⟩
abbrev cX8_append : ByteArray := prog_10_method_8_code
def yX8_append : MethodName := ⟨RX8, "append", "(I)V"⟩
abbrev cX8_checkDigit : ByteArray := prog_10_method_9_code
def yX8_checkDigit : MethodName := ⟨RX8, "checkDigit", "()I"⟩
abbrev cX8_finish : ByteArray := prog_10_method_10_code
def yX8_finish : MethodName := ⟨RX8, "finish", "(LNotationPress$Items;)V"⟩
abbrev cX8_enter : ByteArray := prog_10_method_11_code
def yX8_enter : MethodName := ⟨RX8, "enter", "(LNotationPress$Items;)V"⟩
abbrev cX8_leaveLoop : ByteArray := prog_10_method_12_code
def yX8_leaveLoop : MethodName := ⟨RX8, "leaveLoop", "()V"⟩
def RX9 : String := "NotationPress$Upgrade"
def TX9 : u_T := fun k => match k with
  | 0 => ("NotationPress$Upgrade", "kinds", "[I", true)
  | 1 => ("NotationPress$Upgrade", "numbers", "[I", true)
  | 2 => ("NotationPress$Upgrade", "ends", "[I", true)
  | 3 => ("NotationPress$Upgrade", "stack", "[I", true)
  | 4 => ("NotationPress$Upgrade", "pathKinds", "[I", true)
  | 5 => ("NotationPress$Upgrade", "pathNumbers", "[I", true)
  | _ => ("NotationPress$Upgrade", "length", "I", false)
def tyX9 : Nat → FieldType := fun k => match k with
  | 0 => .array .int
  | 1 => .array .int
  | 2 => .array .int
  | 3 => .array .int
  | 4 => .array .int
  | 5 => .array .int
  | _ => .int
abbrev wsX90 : List Cond := u_ws RX9 TX9 7
theorem nmX9 : ∀ a, a < 7 → ∀ b, b < 7 → a ≠ b → (TX9 a).2.1 ≠ (TX9 b).2.1 := by decide +kernel
theorem tyX9_ok : ∀ k, k < 7 → parseFieldDescriptor (TX9 k).2.2.1 = some (tyX9 k) := by decide +kernel
abbrev cX9_init : ByteArray := prog_11_method_1_code
def yX9_init : MethodName := ⟨RX9, "<init>", "()V"⟩
abbrev cX9_start : ByteArray := prog_11_method_2_code
def yX9_start : MethodName := ⟨RX9, "start", "(I)I"⟩
abbrev cX9_end : ByteArray := prog_11_method_3_code
def yX9_end : MethodName := ⟨RX9, "end", "(I)I"⟩
abbrev cX9_tells : ByteArray := prog_11_method_4_code
def yX9_tells : MethodName := ⟨RX9, "tells", "(I)Z"⟩
abbrev cX9_kind : ByteArray := prog_11_method_5_code
def yX9_kind : MethodName := ⟨RX9, "kind", "(I)I"⟩
abbrev cX9_number : ByteArray := prog_11_method_6_code
def yX9_number : MethodName := ⟨RX9, "number", "(I)I"⟩
abbrev cX9_add : ByteArray := prog_11_method_7_code
def yX9_add : MethodName := ⟨RX9, "add", "(II)V"⟩
abbrev cX9_buildFrom : ByteArray := prog_11_method_8_code
def yX9_buildFrom : MethodName := ⟨RX9, "buildFrom", "(LNotationPress$UpgradeDraft;)V"⟩
abbrev cX9_addStep : ByteArray := prog_11_method_9_code
def yX9_addStep : MethodName := ⟨RX9, "addStep", "(III)V"⟩
abbrev cX9_buildComposed : ByteArray := prog_11_method_10_code
def yX9_buildComposed : MethodName := ⟨RX9, "buildComposed", "(LNotationPress$Upgrade;LNotationPress$Upgrade;)Z"⟩
abbrev cX9_isMadeOf : ByteArray := prog_11_method_11_code
def yX9_isMadeOf : MethodName := ⟨RX9, "isMadeOf", "(LNotationPress$Upgrade;I)Z"⟩
abbrev cX9_addComposed : ByteArray := prog_11_method_12_code
def yX9_addComposed : MethodName := ⟨RX9, "addComposed", "(LNotationPress$Upgrade;LNotationPress$Upgrade;I)V"⟩
abbrev cX9_addTold : ByteArray := prog_11_method_13_code
def yX9_addTold : MethodName := ⟨RX9, "addTold", "(LNotationPress$Upgrade;I)V"⟩
abbrev cX9_buildReversed : ByteArray := prog_11_method_14_code
def yX9_buildReversed : MethodName := ⟨RX9, "buildReversed", "(LNotationPress$Upgrade;)Z"⟩
abbrev cX9_hasQuotientOrRest : ByteArray := prog_11_method_15_code
def yX9_hasQuotientOrRest : MethodName := ⟨RX9, "hasQuotientOrRest", "()Z"⟩
abbrev cX9_addReversed : ByteArray := prog_11_method_16_code
def yX9_addReversed : MethodName := ⟨RX9, "addReversed", "(LNotationPress$Upgrade;I)V"⟩
abbrev cX9_findPath : ByteArray := prog_11_method_17_code
def yX9_findPath : MethodName := ⟨RX9, "findPath", "(LNotationPress$Upgrade;II)I"⟩
abbrev cX9_turnToSecond : ByteArray := prog_11_method_18_code
def yX9_turnToSecond : MethodName := ⟨RX9, "turnToSecond", "(I)I"⟩
abbrev cX9_reversedKind : ByteArray := prog_11_method_19_code
def yX9_reversedKind : MethodName := ⟨RX9, "reversedKind", "(I)I"⟩
abbrev cX9_valueFor : ByteArray := prog_11_method_20_code
def yX9_valueFor : MethodName := ⟨RX9, "valueFor", "(I[I)I"⟩
abbrev cX9_joined : ByteArray := prog_11_method_21_code
def yX9_joined : MethodName := ⟨RX9, "joined", "(II)I"⟩
abbrev cX9_worked : ByteArray := prog_11_method_22_code
def yX9_worked : MethodName := ⟨RX9, "worked", "(III)I"⟩
abbrev cX9_fitted : ByteArray := prog_11_method_23_code
def yX9_fitted : MethodName := ⟨RX9, "fitted", "(J)I"⟩
def RX10 : String := "NotationPress$UpgradeDraft"
def TX10 : u_T := fun k => match k with
  | 0 => ("NotationPress$UpgradeDraft", "kinds", "[I", true)
  | 1 => ("NotationPress$UpgradeDraft", "firsts", "[I", true)
  | _ => ("NotationPress$UpgradeDraft", "seconds", "[I", true)
def tyX10 : Nat → FieldType := fun k => match k with
  | 0 => .array .int
  | 1 => .array .int
  | _ => .array .int
abbrev wsX100 : List Cond := u_ws RX10 TX10 3
theorem nmX10 : ∀ a, a < 3 → ∀ b, b < 3 → a ≠ b → (TX10 a).2.1 ≠ (TX10 b).2.1 := by decide +kernel
theorem tyX10_ok : ∀ k, k < 3 → parseFieldDescriptor (TX10 k).2.2.1 = some (tyX10 k) := by decide +kernel
abbrev cX10_init : ByteArray := prog_12_method_1_code
def yX10_init : MethodName := ⟨RX10, "<init>", "()V"⟩
abbrev cX10_inRange : ByteArray := prog_12_method_2_code
def yX10_inRange : MethodName := ⟨RX10, "inRange", "(III)Z"⟩
abbrev cX10_clear : ByteArray := prog_12_method_3_code
def yX10_clear : MethodName := ⟨RX10, "clear", "()V"⟩
abbrev cX10_add : ByteArray := prog_12_method_4_code
def yX10_add : MethodName := ⟨RX10, "add", "(IIII)V"⟩
abbrev cX10_size : ByteArray := prog_12_method_5_code
def yX10_size : MethodName := ⟨RX10, "size", "()I"⟩
def RX11 : String := "NotationPress"
def TX11 : u_T := fun k => match k with
  | 0 => ("NotationPress", "draft", "LNotationPress$Items;", true)
  | 1 => ("NotationPress", "descriptions", "[LNotationPress$Description;", true)
  | 2 => ("NotationPress", "descriptionCount", "I", false)
  | 3 => ("NotationPress", "record", "[I", true)
  | 4 => ("NotationPress", "files", "[LNotationPress$Text;", true)
  | 5 => ("NotationPress", "tables", "[LNotationPress$Table;", true)
  | 6 => ("NotationPress", "printer", "LNotationPress$Printer;", true)
  | 7 => ("NotationPress", "reader", "LNotationPress$Reader;", true)
  | 8 => ("NotationPress", "sampler", "LNotationPress$Sampler;", true)
  | 9 => ("NotationPress", "columns", "[LNotationPress$Column;", true)
  | 10 => ("NotationPress", "columnCount", "I", false)
  | 11 => ("NotationPress", "upgradeDraft", "LNotationPress$UpgradeDraft;", true)
  | 12 => ("NotationPress", "upgrades", "[LNotationPress$Upgrade;", true)
  | _ => ("NotationPress", "upgradeCount", "I", false)
def tyX11 : Nat → FieldType := fun k => match k with
  | 0 => .object "NotationPress$Items"
  | 1 => .array (.object "NotationPress$Description")
  | 2 => .int
  | 3 => .array .int
  | 4 => .array (.object "NotationPress$Text")
  | 5 => .array (.object "NotationPress$Table")
  | 6 => .object "NotationPress$Printer"
  | 7 => .object "NotationPress$Reader"
  | 8 => .object "NotationPress$Sampler"
  | 9 => .array (.object "NotationPress$Column")
  | 10 => .int
  | 11 => .object "NotationPress$UpgradeDraft"
  | 12 => .array (.object "NotationPress$Upgrade")
  | _ => .int
abbrev wsX110 : List Cond := u_ws RX11 TX11 14
theorem nmX11 : ∀ a, a < 14 → ∀ b, b < 14 → a ≠ b → (TX11 a).2.1 ≠ (TX11 b).2.1 := by decide +kernel
theorem tyX11_ok : ∀ k, k < 14 → parseFieldDescriptor (TX11 k).2.2.1 = some (tyX11 k) := by decide +kernel
abbrev cX11_init : ByteArray := prog_1_method_1_code
def yX11_init : MethodName := ⟨RX11, "<init>", "()V"⟩
abbrev cX11_item : ByteArray := prog_1_method_2_code
def yX11_item : MethodName := ⟨RX11, "item", "(IIII)I"⟩
abbrev cX11_dropItems : ByteArray := prog_1_method_3_code
def yX11_dropItems : MethodName := ⟨RX11, "dropItems", "()I"⟩
abbrev cX11_description : ByteArray := prog_1_method_4_code
def yX11_description : MethodName := ⟨RX11, "description", "()I"⟩
abbrev cX11_sure : ByteArray := prog_1_method_5_code
def yX11_sure : MethodName := ⟨RX11, "sure", "(I)I"⟩
abbrev cX11_constrain : ByteArray := prog_1_method_6_code
def yX11_constrain : MethodName := ⟨RX11, "constrain", "(IIIIII)I"⟩
abbrev cX11_set : ByteArray := prog_1_method_7_code
def yX11_set : MethodName := ⟨RX11, "set", "(III)I"⟩
abbrev cX11_get : ByteArray := prog_1_method_8_code
def yX11_get : MethodName := ⟨RX11, "get", "(II)I"⟩
abbrev cX11_message : ByteArray := prog_1_method_9_code
def yX11_message : MethodName := ⟨RX11, "message", "(I)I"⟩
abbrev cX11_sample : ByteArray := prog_1_method_10_code
def yX11_sample : MethodName := ⟨RX11, "sample", "(II)Z"⟩
abbrev cX11_type : ByteArray := prog_1_method_11_code
def yX11_type : MethodName := ⟨RX11, "type", "(II)I"⟩
abbrev cX11_print : ByteArray := prog_1_method_12_code
def yX11_print : MethodName := ⟨RX11, "print", "(II)I"⟩
abbrev cX11_close : ByteArray := prog_1_method_13_code
def yX11_close : MethodName := ⟨RX11, "close", "(I)Z"⟩
abbrev cX11_unit : ByteArray := prog_1_method_14_code
def yX11_unit : MethodName := ⟨RX11, "unit", "(II)C"⟩
abbrev cX11_readings : ByteArray := prog_1_method_15_code
def yX11_readings : MethodName := ⟨RX11, "readings", "(III)I"⟩
abbrev cX11_readingsAnew : ByteArray := prog_1_method_16_code
def yX11_readingsAnew : MethodName := ⟨RX11, "readingsAnew", "(III)I"⟩
abbrev cX11_read : ByteArray := prog_1_method_17_code
def yX11_read : MethodName := ⟨RX11, "read", "(IIII)I"⟩
abbrev cX11_stream : ByteArray := prog_1_method_18_code
def yX11_stream : MethodName := ⟨RX11, "stream", "(II)I"⟩
abbrev cX11_step : ByteArray := prog_1_method_19_code
def yX11_step : MethodName := ⟨RX11, "step", "(I)I"⟩
abbrev cX11_progress : ByteArray := prog_1_method_20_code
def yX11_progress : MethodName := ⟨RX11, "progress", "(I)I"⟩
abbrev cX11_skipped : ByteArray := prog_1_method_21_code
def yX11_skipped : MethodName := ⟨RX11, "skipped", "(II)I"⟩
abbrev cX11_cell : ByteArray := prog_1_method_22_code
def yX11_cell : MethodName := ⟨RX11, "cell", "(IIII)I"⟩
abbrev cX11_take : ByteArray := prog_1_method_23_code
def yX11_take : MethodName := ⟨RX11, "take", "(II)I"⟩
abbrev cX11_column : ByteArray := prog_1_method_24_code
def yX11_column : MethodName := ⟨RX11, "column", "(IIII)I"⟩
abbrev cX11_derived : ByteArray := prog_1_method_25_code
def yX11_derived : MethodName := ⟨RX11, "derived", "(II)I"⟩
abbrev cX11_derivedByBatch : ByteArray := prog_1_method_26_code
def yX11_derivedByBatch : MethodName := ⟨RX11, "derivedByBatch", "(II)I"⟩
abbrev cX11_change : ByteArray := prog_1_method_27_code
def yX11_change : MethodName := ⟨RX11, "change", "(IIII)I"⟩
abbrev cX11_upgrade : ByteArray := prog_1_method_28_code
def yX11_upgrade : MethodName := ⟨RX11, "upgrade", "()I"⟩
abbrev cX11_compose : ByteArray := prog_1_method_29_code
def yX11_compose : MethodName := ⟨RX11, "compose", "(II)I"⟩
abbrev cX11_reverse : ByteArray := prog_1_method_30_code
def yX11_reverse : MethodName := ⟨RX11, "reverse", "(I)I"⟩
abbrev cX11_upgraded : ByteArray := prog_1_method_31_code
def yX11_upgraded : MethodName := ⟨RX11, "upgraded", "(II)I"⟩
abbrev cX11_parts : ByteArray := prog_1_method_32_code
def yX11_parts : MethodName := ⟨RX11, "parts", "(I)I"⟩
abbrev cX11_compare : ByteArray := prog_1_method_33_code
def yX11_compare : MethodName := ⟨RX11, "compare", "(I)I"⟩
abbrev cX11_find : ByteArray := prog_1_method_34_code
def yX11_find : MethodName := ⟨RX11, "find", "(IIII)I"⟩
abbrev cX11_findAnew : ByteArray := prog_1_method_35_code
def yX11_findAnew : MethodName := ⟨RX11, "findAnew", "(IIII)I"⟩
abbrev cX11_descriptionOf : ByteArray := prog_1_method_36_code
def yX11_descriptionOf : MethodName := ⟨RX11, "descriptionOf", "(I)LNotationPress$Description;"⟩
abbrev cX11_fileOf : ByteArray := prog_1_method_37_code
def yX11_fileOf : MethodName := ⟨RX11, "fileOf", "(I)LNotationPress$Text;"⟩
abbrev cX11_tableOf : ByteArray := prog_1_method_38_code
def yX11_tableOf : MethodName := ⟨RX11, "tableOf", "(I)LNotationPress$Table;"⟩
abbrev cX11_columnOf : ByteArray := prog_1_method_39_code
def yX11_columnOf : MethodName := ⟨RX11, "columnOf", "(I)LNotationPress$Column;"⟩
abbrev cX11_upgradeOf : ByteArray := prog_1_method_40_code
def yX11_upgradeOf : MethodName := ⟨RX11, "upgradeOf", "(I)LNotationPress$Upgrade;"⟩
abbrev cX11_nextUpgrade : ByteArray := prog_1_method_41_code
def yX11_nextUpgrade : MethodName := ⟨RX11, "nextUpgrade", "()LNotationPress$Upgrade;"⟩
abbrev cX11_at : ByteArray := prog_1_method_42_code
def yX11_at : MethodName := ⟨RX11, "at", "([III)I"⟩
abbrev cX11_put : ByteArray := prog_1_method_43_code
def yX11_put : MethodName := ⟨RX11, "put", "([III)V"⟩
abbrev cX11_fillAll : ByteArray := prog_1_method_44_code
def yX11_fillAll : MethodName := ⟨RX11, "fillAll", "([II)V"⟩
abbrev cX11_copyCells : ByteArray := prog_1_method_45_code
def yX11_copyCells : MethodName := ⟨RX11, "copyCells", "([II[III)V"⟩
abbrev cX11_emptyCells : ByteArray := prog_1_method_46_code
def yX11_emptyCells : MethodName := ⟨RX11, "emptyCells", "()[I"⟩
abbrev cX11_isSlot : ByteArray := prog_1_method_47_code
def yX11_isSlot : MethodName := ⟨RX11, "isSlot", "(I)Z"⟩
abbrev cX11_isCell : ByteArray := prog_1_method_48_code
def yX11_isCell : MethodName := ⟨RX11, "isCell", "(II)Z"⟩
abbrev cX11_cellPlace : ByteArray := prog_1_method_49_code
def yX11_cellPlace : MethodName := ⟨RX11, "cellPlace", "(II)I"⟩
abbrev cX11_isBetween : ByteArray := prog_1_method_50_code
def yX11_isBetween : MethodName := ⟨RX11, "isBetween", "(III)Z"⟩
abbrev cX11_isDigit : ByteArray := prog_1_method_51_code
def yX11_isDigit : MethodName := ⟨RX11, "isDigit", "(I)Z"⟩
abbrev cX11_charactersIn : ByteArray := prog_1_method_52_code
def yX11_charactersIn : MethodName := ⟨RX11, "charactersIn", "(I)I"⟩
abbrev cX11_isWord : ByteArray := prog_1_method_53_code
def yX11_isWord : MethodName := ⟨RX11, "isWord", "(I)Z"⟩
abbrev cX11_unitsOfLetter : ByteArray := prog_1_method_54_code
def yX11_unitsOfLetter : MethodName := ⟨RX11, "unitsOfLetter", "(I)I"⟩
abbrev cX11_unitsOfWord : ByteArray := prog_1_method_55_code
def yX11_unitsOfWord : MethodName := ⟨RX11, "unitsOfWord", "(I)I"⟩
abbrev cX11_fillOfNumber : ByteArray := prog_1_method_56_code
def yX11_fillOfNumber : MethodName := ⟨RX11, "fillOfNumber", "(I)I"⟩
abbrev cX11_fillOfWord : ByteArray := prog_1_method_57_code
def yX11_fillOfWord : MethodName := ⟨RX11, "fillOfWord", "(I)I"⟩
abbrev cX11_layOutNumber : ByteArray := prog_1_method_58_code
def yX11_layOutNumber : MethodName := ⟨RX11, "layOutNumber", "(III[I)Z"⟩
def RX12 : String := "NotationPressModel"
def TX12 : u_T := fun k => match k with
  | 0 => ("NotationPressModel", "drafted", "I", false)
  | 1 => ("NotationPressModel", "draftKind", "[I", true)
  | 2 => ("NotationPressModel", "draftA", "[I", true)
  | 3 => ("NotationPressModel", "draftB", "[I", true)
  | 4 => ("NotationPressModel", "draftC", "[I", true)
  | 5 => ("NotationPressModel", "descriptions", "I", false)
  | 6 => ("NotationPressModel", "many", "[I", true)
  | 7 => ("NotationPressModel", "kind", "[I", true)
  | 8 => ("NotationPressModel", "a", "[I", true)
  | 9 => ("NotationPressModel", "b", "[I", true)
  | 10 => ("NotationPressModel", "c", "[I", true)
  | 11 => ("NotationPressModel", "loopOf", "[I", true)
  | 12 => ("NotationPressModel", "constraints", "[I", true)
  | 13 => ("NotationPressModel", "ruleKind", "[I", true)
  | 14 => ("NotationPressModel", "ruleA", "[I", true)
  | 15 => ("NotationPressModel", "ruleB", "[I", true)
  | 16 => ("NotationPressModel", "ruleC", "[I", true)
  | 17 => ("NotationPressModel", "ruleMessage", "[I", true)
  | 18 => ("NotationPressModel", "record", "[I", true)
  | 19 => ("NotationPressModel", "recordHas", "I", false)
  | 20 => ("NotationPressModel", "text", "[I", true)
  | 21 => ("NotationPressModel", "units", "[I", true)
  | 22 => ("NotationPressModel", "isClosed", "[Z", true)
  | 23 => ("NotationPressModel", "streamOf", "[I", true)
  | 24 => ("NotationPressModel", "place", "[I", true)
  | 25 => ("NotationPressModel", "rows", "[I", true)
  | 26 => ("NotationPressModel", "doubts", "[I", true)
  | 27 => ("NotationPressModel", "table", "[I", true)
  | 28 => ("NotationPressModel", "rowHas", "[I", true)
  | 29 => ("NotationPressModel", "entries", "[I", true)
  | 30 => ("NotationPressModel", "why", "[I", true)
  | 31 => ("NotationPressModel", "from", "[I", true)
  | 32 => ("NotationPressModel", "behind", "[I", true)
  | 33 => ("NotationPressModel", "columns", "I", false)
  | 34 => ("NotationPressModel", "columnFile", "[I", true)
  | 35 => ("NotationPressModel", "columnKind", "[I", true)
  | 36 => ("NotationPressModel", "columnSlot", "[I", true)
  | 37 => ("NotationPressModel", "columnWindow", "[I", true)
  | 38 => ("NotationPressModel", "stepKind", "[I", true)
  | 39 => ("NotationPressModel", "stepA", "[I", true)
  | 40 => ("NotationPressModel", "stepB", "[I", true)
  | 41 => ("NotationPressModel", "upgrades", "I", false)
  | 42 => ("NotationPressModel", "partKind", "[I", true)
  | 43 => ("NotationPressModel", "partNumber", "[I", true)
  | 44 => ("NotationPressModel", "codeFrom", "[I", true)
  | 45 => ("NotationPressModel", "codeLength", "[I", true)
  | 46 => ("NotationPressModel", "made", "I", false)
  | 47 => ("NotationPressModel", "joinedBy", "[I", true)
  | 48 => ("NotationPressModel", "joinedAs", "[I", true)
  | 49 => ("NotationPressModel", "stack", "[J", true)
  | 50 => ("NotationPressModel", "waiting", "[I", true)
  | 51 => ("NotationPressModel", "value", "[I", true)
  | 52 => ("NotationPressModel", "valueHas", "I", false)
  | 53 => ("NotationPressModel", "nextItem", "I", false)
  | 54 => ("NotationPressModel", "nextRound", "I", false)
  | 55 => ("NotationPressModel", "file", "I", false)
  | 56 => ("NotationPressModel", "description", "I", false)
  | 57 => ("NotationPressModel", "start", "I", false)
  | 58 => ("NotationPressModel", "end", "I", false)
  | 59 => ("NotationPressModel", "begun", "I", false)
  | 60 => ("NotationPressModel", "depth", "I", false)
  | 61 => ("NotationPressModel", "itemAt", "[I", true)
  | 62 => ("NotationPressModel", "roundAt", "[I", true)
  | 63 => ("NotationPressModel", "placeAt", "[I", true)
  | 64 => ("NotationPressModel", "choiceAt", "[I", true)
  | 65 => ("NotationPressModel", "manyAt", "[I", true)
  | 66 => ("NotationPressModel", "taken", "I", false)
  | 67 => ("NotationPressModel", "source", "[I", true)
  | 68 => ("NotationPressModel", "sourceHas", "I", false)
  | 69 => ("NotationPressModel", "out", "[I", true)
  | 70 => ("NotationPressModel", "printed", "I", false)
  | 71 => ("NotationPressModel", "fails", "Z", false)
  | 72 => ("NotationPressModel", "printedAt", "[I", true)
  | 73 => ("NotationPressModel", "digits", "[I", true)
  | 74 => ("NotationPressModel", "seed", "J", false)
  | 75 => ("NotationPressModel", "tries", "I", false)
  | _ => ("NotationPressModel", "thrown", "I", false)
def tyX12 : Nat → FieldType := fun k => match k with
  | 0 => .int
  | 1 => .array .int
  | 2 => .array .int
  | 3 => .array .int
  | 4 => .array .int
  | 5 => .int
  | 6 => .array .int
  | 7 => .array .int
  | 8 => .array .int
  | 9 => .array .int
  | 10 => .array .int
  | 11 => .array .int
  | 12 => .array .int
  | 13 => .array .int
  | 14 => .array .int
  | 15 => .array .int
  | 16 => .array .int
  | 17 => .array .int
  | 18 => .array .int
  | 19 => .int
  | 20 => .array .int
  | 21 => .array .int
  | 22 => .array .boolean
  | 23 => .array .int
  | 24 => .array .int
  | 25 => .array .int
  | 26 => .array .int
  | 27 => .array .int
  | 28 => .array .int
  | 29 => .array .int
  | 30 => .array .int
  | 31 => .array .int
  | 32 => .array .int
  | 33 => .int
  | 34 => .array .int
  | 35 => .array .int
  | 36 => .array .int
  | 37 => .array .int
  | 38 => .array .int
  | 39 => .array .int
  | 40 => .array .int
  | 41 => .int
  | 42 => .array .int
  | 43 => .array .int
  | 44 => .array .int
  | 45 => .array .int
  | 46 => .int
  | 47 => .array .int
  | 48 => .array .int
  | 49 => .array .long
  | 50 => .array .int
  | 51 => .array .int
  | 52 => .int
  | 53 => .int
  | 54 => .int
  | 55 => .int
  | 56 => .int
  | 57 => .int
  | 58 => .int
  | 59 => .int
  | 60 => .int
  | 61 => .array .int
  | 62 => .array .int
  | 63 => .array .int
  | 64 => .array .int
  | 65 => .array .int
  | 66 => .int
  | 67 => .array .int
  | 68 => .int
  | 69 => .array .int
  | 70 => .int
  | 71 => .boolean
  | 72 => .array .int
  | 73 => .array .int
  | 74 => .long
  | 75 => .int
  | _ => .int
abbrev wsX120 : List Cond := u_ws RX12 TX12 77
theorem nmX12 : ∀ a, a < 77 → ∀ b, b < 77 → a ≠ b → (TX12 a).2.1 ≠ (TX12 b).2.1 := by decide +kernel
theorem tyX12_ok : ∀ k, k < 77 → parseFieldDescriptor (TX12 k).2.2.1 = some (tyX12 k) := by decide +kernel
abbrev cX12_init : ByteArray := prog_14_method_1_code
def yX12_init : MethodName := ⟨RX12, "<init>", "()V"⟩
abbrev cX12_thrown : ByteArray := prog_14_method_2_code
def yX12_thrown : MethodName := ⟨RX12, "thrown", "()I"⟩
abbrev cX12_can : ByteArray := prog_14_method_3_code
def yX12_can : MethodName := ⟨RX12, "can", "(I)Z"⟩
abbrev cX12_isIn : ByteArray := prog_14_method_4_code
def yX12_isIn : MethodName := ⟨RX12, "isIn", "(III)Z"⟩
abbrev cX12_isSlot : ByteArray := prog_14_method_5_code
def yX12_isSlot : MethodName := ⟨RX12, "isSlot", "(I)Z"⟩
abbrev cX12_isFile : ByteArray := prog_14_method_6_code
def yX12_isFile : MethodName := ⟨RX12, "isFile", "(I)Z"⟩
abbrev cX12_isDescription : ByteArray := prog_14_method_7_code
def yX12_isDescription : MethodName := ⟨RX12, "isDescription", "(I)Z"⟩
abbrev cX12_has : ByteArray := prog_14_method_8_code
def yX12_has : MethodName := ⟨RX12, "has", "(II)Z"⟩
abbrev cX12_hasValue : ByteArray := prog_14_method_9_code
def yX12_hasValue : MethodName := ⟨RX12, "hasValue", "(I)Z"⟩
abbrev cX12_isRight : ByteArray := prog_14_method_10_code
def yX12_isRight : MethodName := ⟨RX12, "isRight", "(IIII)Z"⟩
abbrev cX12_item : ByteArray := prog_14_method_11_code
def yX12_item : MethodName := ⟨RX12, "item", "(IIII)I"⟩
abbrev cX12_dropItems : ByteArray := prog_14_method_12_code
def yX12_dropItems : MethodName := ⟨RX12, "dropItems", "()I"⟩
abbrev cX12_loopInDraft : ByteArray := prog_14_method_13_code
def yX12_loopInDraft : MethodName := ⟨RX12, "loopInDraft", "(I)I"⟩
abbrev cX12_itemOf : ByteArray := prog_14_method_14_code
def yX12_itemOf : MethodName := ⟨RX12, "itemOf", "(II)I"⟩
abbrev cX12_isGoodItem : ByteArray := prog_14_method_15_code
def yX12_isGoodItem : MethodName := ⟨RX12, "isGoodItem", "(I)Z"⟩
abbrev cX12_description : ByteArray := prog_14_method_16_code
def yX12_description : MethodName := ⟨RX12, "description", "()I"⟩
abbrev cX12_sure : ByteArray := prog_14_method_17_code
def yX12_sure : MethodName := ⟨RX12, "sure", "(I)I"⟩
abbrev cX12_mayTell : ByteArray := prog_14_method_18_code
def yX12_mayTell : MethodName := ⟨RX12, "mayTell", "(II)Z"⟩
abbrev cX12_constrain : ByteArray := prog_14_method_19_code
def yX12_constrain : MethodName := ⟨RX12, "constrain", "(IIIIII)I"⟩
abbrev cX12_isHeld : ByteArray := prog_14_method_20_code
def yX12_isHeld : MethodName := ⟨RX12, "isHeld", "(I)Z"⟩
abbrev cX12_messageOf : ByteArray := prog_14_method_21_code
def yX12_messageOf : MethodName := ⟨RX12, "messageOf", "(I)I"⟩
abbrev cX12_isValue : ByteArray := prog_14_method_22_code
def yX12_isValue : MethodName := ⟨RX12, "isValue", "(II)Z"⟩
abbrev cX12_recorded : ByteArray := prog_14_method_23_code
def yX12_recorded : MethodName := ⟨RX12, "recorded", "(II)I"⟩
abbrev cX12_set : ByteArray := prog_14_method_24_code
def yX12_set : MethodName := ⟨RX12, "set", "(III)I"⟩
abbrev cX12_get : ByteArray := prog_14_method_25_code
def yX12_get : MethodName := ⟨RX12, "get", "(II)I"⟩
abbrev cX12_message : ByteArray := prog_14_method_26_code
def yX12_message : MethodName := ⟨RX12, "message", "(I)I"⟩
abbrev cX12_timesOf : ByteArray := prog_14_method_27_code
def yX12_timesOf : MethodName := ⟨RX12, "timesOf", "(I)I"⟩
abbrev cX12_goesOn : ByteArray := prog_14_method_28_code
def yX12_goesOn : MethodName := ⟨RX12, "goesOn", "(III)V"⟩
abbrev cX12_gets : ByteArray := prog_14_method_29_code
def yX12_gets : MethodName := ⟨RX12, "gets", "(III)V"⟩
abbrev cX12_loses : ByteArray := prog_14_method_30_code
def yX12_loses : MethodName := ⟨RX12, "loses", "(II)V"⟩
abbrev cX12_lettersOf : ByteArray := prog_14_method_31_code
def yX12_lettersOf : MethodName := ⟨RX12, "lettersOf", "(I)I"⟩
abbrev cX12_lengthOf : ByteArray := prog_14_method_32_code
def yX12_lengthOf : MethodName := ⟨RX12, "lengthOf", "(I)I"⟩
abbrev cX12_puts : ByteArray := prog_14_method_33_code
def yX12_puts : MethodName := ⟨RX12, "puts", "(I)V"⟩
abbrev cX12_putsWord : ByteArray := prog_14_method_34_code
def yX12_putsWord : MethodName := ⟨RX12, "putsWord", "(I)V"⟩
abbrev cX12_fitsNumber : ByteArray := prog_14_method_35_code
def yX12_fitsNumber : MethodName := ⟨RX12, "fitsNumber", "(III)Z"⟩
abbrev cX12_weighed : ByteArray := prog_14_method_36_code
def yX12_weighed : MethodName := ⟨RX12, "weighed", "(III)I"⟩
abbrev cX12_checkOfOut : ByteArray := prog_14_method_37_code
def yX12_checkOfOut : MethodName := ⟨RX12, "checkOfOut", "()I"⟩
abbrev cX12_printsValue : ByteArray := prog_14_method_38_code
def yX12_printsValue : MethodName := ⟨RX12, "printsValue", "(II)V"⟩
abbrev cX12_printsItem : ByteArray := prog_14_method_39_code
def yX12_printsItem : MethodName := ⟨RX12, "printsItem", "(II)V"⟩
abbrev cX12_prints : ByteArray := prog_14_method_40_code
def yX12_prints : MethodName := ⟨RX12, "prints", "(I)Z"⟩
abbrev cX12_sources : ByteArray := prog_14_method_41_code
def yX12_sources : MethodName := ⟨RX12, "sources", "()V"⟩
abbrev cX12_choicesOf : ByteArray := prog_14_method_42_code
def yX12_choicesOf : MethodName := ⟨RX12, "choicesOf", "(I)I"⟩
abbrev cX12_begins : ByteArray := prog_14_method_43_code
def yX12_begins : MethodName := ⟨RX12, "begins", "(III)V"⟩
abbrev cX12_passesBy : ByteArray := prog_14_method_44_code
def yX12_passesBy : MethodName := ⟨RX12, "passesBy", "(I)V"⟩
abbrev cX12_triesNext : ByteArray := prog_14_method_45_code
def yX12_triesNext : MethodName := ⟨RX12, "triesNext", "(I)Z"⟩
abbrev cX12_isPrintable : ByteArray := prog_14_method_46_code
def yX12_isPrintable : MethodName := ⟨RX12, "isPrintable", "(I)Z"⟩
abbrev cX12_finds : ByteArray := prog_14_method_47_code
def yX12_finds : MethodName := ⟨RX12, "finds", "(I)Z"⟩
abbrev cX12_records : ByteArray := prog_14_method_48_code
def yX12_records : MethodName := ⟨RX12, "records", "()V"⟩
abbrev cX12_sample : ByteArray := prog_14_method_49_code
def yX12_sample : MethodName := ⟨RX12, "sample", "(II)Z"⟩
abbrev cX12_charOf : ByteArray := prog_14_method_50_code
def yX12_charOf : MethodName := ⟨RX12, "charOf", "(II)I"⟩
abbrev cX12_areChars : ByteArray := prog_14_method_51_code
def yX12_areChars : MethodName := ⟨RX12, "areChars", "(I)Z"⟩
abbrev cX12_types : ByteArray := prog_14_method_52_code
def yX12_types : MethodName := ⟨RX12, "types", "(II)V"⟩
abbrev cX12_type : ByteArray := prog_14_method_53_code
def yX12_type : MethodName := ⟨RX12, "type", "(II)I"⟩
abbrev cX12_print : ByteArray := prog_14_method_54_code
def yX12_print : MethodName := ⟨RX12, "print", "(II)I"⟩
abbrev cX12_close : ByteArray := prog_14_method_55_code
def yX12_close : MethodName := ⟨RX12, "close", "(I)Z"⟩
abbrev cX12_unit : ByteArray := prog_14_method_56_code
def yX12_unit : MethodName := ⟨RX12, "unit", "(II)C"⟩
abbrev cX12_unitAt : ByteArray := prog_14_method_57_code
def yX12_unitAt : MethodName := ⟨RX12, "unitAt", "(I)I"⟩
abbrev cX12_wordAt : ByteArray := prog_14_method_58_code
def yX12_wordAt : MethodName := ⟨RX12, "wordAt", "(II)I"⟩
abbrev cX12_endOfNumber : ByteArray := prog_14_method_59_code
def yX12_endOfNumber : MethodName := ⟨RX12, "endOfNumber", "(II)I"⟩
abbrev cX12_endOfWord : ByteArray := prog_14_method_60_code
def yX12_endOfWord : MethodName := ⟨RX12, "endOfWord", "(III)I"⟩
abbrev cX12_endOfOpen : ByteArray := prog_14_method_61_code
def yX12_endOfOpen : MethodName := ⟨RX12, "endOfOpen", "(III)I"⟩
abbrev cX12_checkOfText : ByteArray := prog_14_method_62_code
def yX12_checkOfText : MethodName := ⟨RX12, "checkOfText", "(I)I"⟩
abbrev cX12_endOfBits : ByteArray := prog_14_method_63_code
def yX12_endOfBits : MethodName := ⟨RX12, "endOfBits", "(II)I"⟩
abbrev cX12_beganAt : ByteArray := prog_14_method_64_code
def yX12_beganAt : MethodName := ⟨RX12, "beganAt", "(II)I"⟩
abbrev cX12_endOf : ByteArray := prog_14_method_65_code
def yX12_endOf : MethodName := ⟨RX12, "endOf", "(I)I"⟩
abbrev cX12_comesTo : ByteArray := prog_14_method_66_code
def yX12_comesTo : MethodName := ⟨RX12, "comesTo", "(III)V"⟩
abbrev cX12_searches : ByteArray := prog_14_method_67_code
def yX12_searches : MethodName := ⟨RX12, "searches", "(III)V"⟩
abbrev cX12_nextReading : ByteArray := prog_14_method_68_code
def yX12_nextReading : MethodName := ⟨RX12, "nextReading", "()I"⟩
abbrev cX12_isPlace : ByteArray := prog_14_method_69_code
def yX12_isPlace : MethodName := ⟨RX12, "isPlace", "(III)Z"⟩
abbrev cX12_counts : ByteArray := prog_14_method_70_code
def yX12_counts : MethodName := ⟨RX12, "counts", "(III)I"⟩
abbrev cX12_readings : ByteArray := prog_14_method_71_code
def yX12_readings : MethodName := ⟨RX12, "readings", "(III)I"⟩
abbrev cX12_readingsAnew : ByteArray := prog_14_method_72_code
def yX12_readingsAnew : MethodName := ⟨RX12, "readingsAnew", "(III)I"⟩
abbrev cX12_read : ByteArray := prog_14_method_73_code
def yX12_read : MethodName := ⟨RX12, "read", "(IIII)I"⟩
abbrev cX12_stream : ByteArray := prog_14_method_74_code
def yX12_stream : MethodName := ⟨RX12, "stream", "(II)I"⟩
abbrev cX12_lineEnd : ByteArray := prog_14_method_75_code
def yX12_lineEnd : MethodName := ⟨RX12, "lineEnd", "(I)I"⟩
abbrev cX12_keepsRow : ByteArray := prog_14_method_76_code
def yX12_keepsRow : MethodName := ⟨RX12, "keepsRow", "(I)V"⟩
abbrev cX12_isSameAs : ByteArray := prog_14_method_77_code
def yX12_isSameAs : MethodName := ⟨RX12, "isSameAs", "(I)Z"⟩
abbrev cX12_reads : ByteArray := prog_14_method_78_code
def yX12_reads : MethodName := ⟨RX12, "reads", "(II)I"⟩
abbrev cX12_step : ByteArray := prog_14_method_79_code
def yX12_step : MethodName := ⟨RX12, "step", "(I)I"⟩
abbrev cX12_progress : ByteArray := prog_14_method_80_code
def yX12_progress : MethodName := ⟨RX12, "progress", "(I)I"⟩
abbrev cX12_skipped : ByteArray := prog_14_method_81_code
def yX12_skipped : MethodName := ⟨RX12, "skipped", "(II)I"⟩
abbrev cX12_isRow : ByteArray := prog_14_method_82_code
def yX12_isRow : MethodName := ⟨RX12, "isRow", "(II)Z"⟩
abbrev cX12_cellOf : ByteArray := prog_14_method_83_code
def yX12_cellOf : MethodName := ⟨RX12, "cellOf", "(IIII)I"⟩
abbrev cX12_cell : ByteArray := prog_14_method_84_code
def yX12_cell : MethodName := ⟨RX12, "cell", "(IIII)I"⟩
abbrev cX12_take : ByteArray := prog_14_method_85_code
def yX12_take : MethodName := ⟨RX12, "take", "(II)I"⟩
abbrev cX12_column : ByteArray := prog_14_method_86_code
def yX12_column : MethodName := ⟨RX12, "column", "(IIII)I"⟩
abbrev cX12_inColumn : ByteArray := prog_14_method_87_code
def yX12_inColumn : MethodName := ⟨RX12, "inColumn", "(II)I"⟩
abbrev cX12_derives : ByteArray := prog_14_method_88_code
def yX12_derives : MethodName := ⟨RX12, "derives", "(II)I"⟩
abbrev cX12_isDerived : ByteArray := prog_14_method_89_code
def yX12_isDerived : MethodName := ⟨RX12, "isDerived", "(II)Z"⟩
abbrev cX12_derived : ByteArray := prog_14_method_90_code
def yX12_derived : MethodName := ⟨RX12, "derived", "(II)I"⟩
abbrev cX12_derivedByBatch : ByteArray := prog_14_method_91_code
def yX12_derivedByBatch : MethodName := ⟨RX12, "derivedByBatch", "(II)I"⟩
abbrev cX12_dropsSteps : ByteArray := prog_14_method_92_code
def yX12_dropsSteps : MethodName := ⟨RX12, "dropsSteps", "()V"⟩
abbrev cX12_change : ByteArray := prog_14_method_93_code
def yX12_change : MethodName := ⟨RX12, "change", "(IIII)I"⟩
abbrev cX12_adds : ByteArray := prog_14_method_94_code
def yX12_adds : MethodName := ⟨RX12, "adds", "(II)V"⟩
abbrev cX12_clearsCodes : ByteArray := prog_14_method_95_code
def yX12_clearsCodes : MethodName := ⟨RX12, "clearsCodes", "()V"⟩
abbrev cX12_upgrade : ByteArray := prog_14_method_96_code
def yX12_upgrade : MethodName := ⟨RX12, "upgrade", "()I"⟩
abbrev cX12_isUpgrade : ByteArray := prog_14_method_97_code
def yX12_isUpgrade : MethodName := ⟨RX12, "isUpgrade", "(I)Z"⟩
abbrev cX12_keepsUpgrade : ByteArray := prog_14_method_98_code
def yX12_keepsUpgrade : MethodName := ⟨RX12, "keepsUpgrade", "()I"⟩
abbrev cX12_isWhole : ByteArray := prog_14_method_99_code
def yX12_isWhole : MethodName := ⟨RX12, "isWhole", "(II)Z"⟩
abbrev cX12_composes : ByteArray := prog_14_method_100_code
def yX12_composes : MethodName := ⟨RX12, "composes", "(II)V"⟩
abbrev cX12_compose : ByteArray := prog_14_method_101_code
def yX12_compose : MethodName := ⟨RX12, "compose", "(II)I"⟩
abbrev cX12_joins : ByteArray := prog_14_method_102_code
def yX12_joins : MethodName := ⟨RX12, "joins", "(II)V"⟩
abbrev cX12_takesBack : ByteArray := prog_14_method_103_code
def yX12_takesBack : MethodName := ⟨RX12, "takesBack", "(II)V"⟩
abbrev cX12_isReversible : ByteArray := prog_14_method_104_code
def yX12_isReversible : MethodName := ⟨RX12, "isReversible", "(I)Z"⟩
abbrev cX12_reverse : ByteArray := prog_14_method_105_code
def yX12_reverse : MethodName := ⟨RX12, "reverse", "(I)I"⟩
abbrev cX12_quotient : ByteArray := prog_14_method_106_code
def yX12_quotient : MethodName := ⟨RX12, "quotient", "(JJ)J"⟩
abbrev cX12_upgraded : ByteArray := prog_14_method_107_code
def yX12_upgraded : MethodName := ⟨RX12, "upgraded", "(II)I"⟩
abbrev cX12_partsOf : ByteArray := prog_14_method_108_code
def yX12_partsOf : MethodName := ⟨RX12, "partsOf", "(I)I"⟩
abbrev cX12_parts : ByteArray := prog_14_method_109_code
def yX12_parts : MethodName := ⟨RX12, "parts", "(I)I"⟩
abbrev cX12_lastOf : ByteArray := prog_14_method_110_code
def yX12_lastOf : MethodName := ⟨RX12, "lastOf", "(III)I"⟩
abbrev cX12_areSame : ByteArray := prog_14_method_111_code
def yX12_areSame : MethodName := ⟨RX12, "areSame", "(II)Z"⟩
abbrev cX12_compare : ByteArray := prog_14_method_112_code
def yX12_compare : MethodName := ⟨RX12, "compare", "(I)I"⟩
abbrev cX12_findsRow : ByteArray := prog_14_method_113_code
def yX12_findsRow : MethodName := ⟨RX12, "findsRow", "(IIII)I"⟩
abbrev cX12_isFound : ByteArray := prog_14_method_114_code
def yX12_isFound : MethodName := ⟨RX12, "isFound", "(III)Z"⟩
abbrev cX12_find : ByteArray := prog_14_method_115_code
def yX12_find : MethodName := ⟨RX12, "find", "(IIII)I"⟩
abbrev cX12_findAnew : ByteArray := prog_14_method_116_code
def yX12_findAnew : MethodName := ⟨RX12, "findAnew", "(IIII)I"⟩
def RJ9 : String := "java/lang/Math"
def TJ9 : u_T := fun k => match k with
  | _ => ("", "", "", false)
def tyJ9 : Nat → FieldType := fun k => match k with
  | _ => .int
abbrev wsJ90 : List Cond := u_ws RJ9 TJ9 0
theorem nmJ9 : ∀ a, a < 0 → ∀ b, b < 0 → a ≠ b → (TJ9 a).2.1 ≠ (TJ9 b).2.1 := by decide +kernel
theorem tyJ9_ok : ∀ k, k < 0 → parseFieldDescriptor (TJ9 k).2.2.1 = some (tyJ9 k) := by decide +kernel
abbrev cJ9_floorDiv_7cf53 : ByteArray := prog_19_method_47_code
def yJ9_floorDiv_7cf53 : MethodName := ⟨RJ9, "floorDiv", "(II)I"⟩
abbrev cJ9_floorMod_7cf53 : ByteArray := prog_19_method_50_code
def yJ9_floorMod_7cf53 : MethodName := ⟨RJ9, "floorMod", "(II)I"⟩
abbrev cJ9_max_7cf53 : ByteArray := prog_19_method_65_code
def yJ9_max_7cf53 : MethodName := ⟨RJ9, "max", "(II)I"⟩
abbrev cJ9_min_7cf53 : ByteArray := prog_19_method_69_code
def yJ9_min_7cf53 : MethodName := ⟨RJ9, "min", "(II)I"⟩
def RJ0 : String := "java/lang/String"
def TJ0 : u_T := fun k => match k with
  | _ => ("", "", "", false)
def tyJ0 : Nat → FieldType := fun k => match k with
  | _ => .int
abbrev wsJ00 : List Cond := u_ws RJ0 TJ0 0
theorem nmJ0 : ∀ a, a < 0 → ∀ b, b < 0 → a ≠ b → (TJ0 a).2.1 ≠ (TJ0 b).2.1 := by decide +kernel
theorem tyJ0_ok : ∀ k, k < 0 → parseFieldDescriptor (TJ0 k).2.2.1 = some (tyJ0 k) := by decide +kernel
def RJ10 : String := "java/lang/System"
def TJ10 : u_T := fun k => match k with
  | _ => ("", "", "", false)
def tyJ10 : Nat → FieldType := fun k => match k with
  | _ => .int
abbrev wsJ100 : List Cond := u_ws RJ10 TJ10 0
theorem nmJ10 : ∀ a, a < 0 → ∀ b, b < 0 → a ≠ b → (TJ10 a).2.1 ≠ (TJ10 b).2.1 := by decide +kernel
theorem tyJ10_ok : ∀ k, k < 0 → parseFieldDescriptor (TJ10 k).2.2.1 = some (tyJ10 k) := by decide +kernel
def RL : String := "NotationPressLaw"
abbrev cL_item : ByteArray := method_3_code
def yL_item : MethodName := ⟨RL, "item", "(LNotationPress;IIII[J)I"⟩
abbrev cL_description : ByteArray := method_4_code
def yL_description : MethodName := ⟨RL, "description", "(LNotationPress;[J)I"⟩
abbrev cL_sure : ByteArray := method_5_code
def yL_sure : MethodName := ⟨RL, "sure", "(LNotationPress;I[J)I"⟩
abbrev cL_constrain : ByteArray := method_6_code
def yL_constrain : MethodName := ⟨RL, "constrain", "(LNotationPress;IIIIII[J)I"⟩
abbrev cL_set : ByteArray := method_7_code
def yL_set : MethodName := ⟨RL, "set", "(LNotationPress;III[J)I"⟩
abbrev cL_get : ByteArray := method_8_code
def yL_get : MethodName := ⟨RL, "get", "(LNotationPress;II[J)I"⟩
abbrev cL_message : ByteArray := method_9_code
def yL_message : MethodName := ⟨RL, "message", "(LNotationPress;I[J)I"⟩
abbrev cL_sample : ByteArray := method_10_code
def yL_sample : MethodName := ⟨RL, "sample", "(LNotationPress;II[J)I"⟩
abbrev cL_type : ByteArray := method_11_code
def yL_type : MethodName := ⟨RL, "type", "(LNotationPress;II[J)I"⟩
abbrev cL_print : ByteArray := method_12_code
def yL_print : MethodName := ⟨RL, "print", "(LNotationPress;II[J)I"⟩
abbrev cL_close : ByteArray := method_13_code
def yL_close : MethodName := ⟨RL, "close", "(LNotationPress;I[J)I"⟩
abbrev cL_unit : ByteArray := method_14_code
def yL_unit : MethodName := ⟨RL, "unit", "(LNotationPress;II[J)I"⟩
abbrev cL_readings : ByteArray := method_15_code
def yL_readings : MethodName := ⟨RL, "readings", "(LNotationPress;III[J)I"⟩
abbrev cL_readingsAnew : ByteArray := method_16_code
def yL_readingsAnew : MethodName := ⟨RL, "readingsAnew", "(LNotationPress;III[J)I"⟩
abbrev cL_read : ByteArray := method_17_code
def yL_read : MethodName := ⟨RL, "read", "(LNotationPress;IIII[J)I"⟩
abbrev cL_stream : ByteArray := method_18_code
def yL_stream : MethodName := ⟨RL, "stream", "(LNotationPress;II[J)I"⟩
abbrev cL_step : ByteArray := method_19_code
def yL_step : MethodName := ⟨RL, "step", "(LNotationPress;I[J)I"⟩
abbrev cL_progress : ByteArray := method_20_code
def yL_progress : MethodName := ⟨RL, "progress", "(LNotationPress;I[J)I"⟩
abbrev cL_skipped : ByteArray := method_21_code
def yL_skipped : MethodName := ⟨RL, "skipped", "(LNotationPress;II[J)I"⟩
abbrev cL_cell : ByteArray := method_22_code
def yL_cell : MethodName := ⟨RL, "cell", "(LNotationPress;IIII[J)I"⟩
abbrev cL_take : ByteArray := method_23_code
def yL_take : MethodName := ⟨RL, "take", "(LNotationPress;II[J)I"⟩
abbrev cL_column : ByteArray := method_24_code
def yL_column : MethodName := ⟨RL, "column", "(LNotationPress;IIII[J)I"⟩
abbrev cL_derived : ByteArray := method_25_code
def yL_derived : MethodName := ⟨RL, "derived", "(LNotationPress;II[J)I"⟩
abbrev cL_derivedByBatch : ByteArray := method_26_code
def yL_derivedByBatch : MethodName := ⟨RL, "derivedByBatch", "(LNotationPress;II[J)I"⟩
abbrev cL_change : ByteArray := method_27_code
def yL_change : MethodName := ⟨RL, "change", "(LNotationPress;IIII[J)I"⟩
abbrev cL_upgrade : ByteArray := method_28_code
def yL_upgrade : MethodName := ⟨RL, "upgrade", "(LNotationPress;[J)I"⟩
abbrev cL_compose : ByteArray := method_29_code
def yL_compose : MethodName := ⟨RL, "compose", "(LNotationPress;II[J)I"⟩
abbrev cL_reverse : ByteArray := method_30_code
def yL_reverse : MethodName := ⟨RL, "reverse", "(LNotationPress;I[J)I"⟩
abbrev cL_upgraded : ByteArray := method_31_code
def yL_upgraded : MethodName := ⟨RL, "upgraded", "(LNotationPress;II[J)I"⟩
abbrev cL_parts : ByteArray := method_32_code
def yL_parts : MethodName := ⟨RL, "parts", "(LNotationPress;I[J)I"⟩
abbrev cL_compare : ByteArray := method_33_code
def yL_compare : MethodName := ⟨RL, "compare", "(LNotationPress;I[J)I"⟩
abbrev cL_find : ByteArray := method_34_code
def yL_find : MethodName := ⟨RL, "find", "(LNotationPress;IIII[J)I"⟩
abbrev cL_findAnew : ByteArray := method_35_code
def yL_findAnew : MethodName := ⟨RL, "findAnew", "(LNotationPress;IIII[J)I"⟩
abbrev cL_law : ByteArray := code
def yL_law : MethodName := ⟨RL, "law", "([I)Z"⟩
abbrev vwCl : List vw_C := [(RX0, TX0, 6), (RX1, TX1, 7), (RX2, TX2, 5), (RX3, TX3, 3), (RX4, TX4, 11), (RX5, TX5, 5), (RX6, TX6, 12), (RX7, TX7, 3), (RX8, TX8, 9), (RX9, TX9, 7), (RX10, TX10, 3), (RX11, TX11, 14), (RX12, TX12, 77)]
end
section
/-! The abstract machine: refs are places; a world maps places to entries; a continuation speaks of a state (pc, locals, stack, world, cells, slots). -/
abbrev np_E : Type := (FieldType × vp_A) ⊕ (Nat × List Value)
abbrev np_W : Type := Nat × (Nat → Option np_E)
abbrev np_L : Type := List (Nat × Value)
abbrev np_K : Type := Nat → np_L → List Value → np_W → Nat → Nat → Prop
abbrev np_Op : Type := np_K → np_K
abbrev np_Rt : Type := List Value → np_W → Nat → Nat → Prop
abbrev np_Th : Type := Nat → np_W → Nat → Nat → Prop
theorem np_beq {a b : Nat} (h : a = b) : Nat.beq a b = true := by rw [h]; exact Nat.beq_refl b
theorem np_bne {a b : Nat} (h : a ≠ b) : Nat.beq a b = false := by
  cases hb : Nat.beq a b with
  | false => rfl
  | true => exact absurd (Nat.eq_of_beq_eq_true hb) h
def np_up {α : Type} (f : Nat → Option α) (k : Nat) (x : α) : Nat → Option α := fun j => match Nat.beq j k with
  | true => some x
  | false => f j
theorem np_up_s {α : Type} (f : Nat → Option α) (k : Nat) (x : α) : np_up f k x k = some x := by unfold np_up; rw [np_beq rfl]
theorem np_up_n {α : Type} (f : Nat → Option α) {k j : Nat} (x : α) (h : j ≠ k) : np_up f k x j = f j := by unfold np_up; rw [np_bne h]
/-- a value, its places read as addresses -/
def np_v (ad : Nat → Nat) : Value → Value
  | .ref k => .ref (ad k)
  | v => v
def np_e (cA : FieldType → ClassId) (ad : Nat → Nat) : np_E → va_E
  | .inl (ty, n, .inl f) => .inl (cA ty, n, .inl f)
  | .inl (ty, n, .inr (.inl f)) => .inl (cA ty, n, .inr (.inl f))
  | .inl (ty, n, .inr (.inr (.inl f))) => .inl (cA ty, n, .inr (.inr (.inl f)))
  | .inl (ty, n, .inr (.inr (.inr (.inl f)))) => .inl (cA ty, n, .inr (.inr (.inr (.inl f))))
  | .inl (ty, n, .inr (.inr (.inr (.inr f)))) => .inl (cA ty, n, .inr (.inr (.inr (.inr (fun i => (f i).map ad)))))
  | .inr (ci, fs) => .inr (ci, fs.map (np_v ad))
def np_cv (n : Nat) : Value → Prop
  | .ref k => k < n
  | _ => True
def np_ce (n : Nat) : np_E → Prop
  | .inl (_, _, .inr (.inr (.inr (.inr f)))) => ∀ i k, f i = some k → k < n
  | .inr (_, fs) => ∀ v ∈ fs, np_cv n v
  | _ => True
def np_tys : List FieldType := [.int, .long, .char, .boolean, .object "NotationPress$Description", .object "NotationPress$Text", .object "NotationPress$Table", .object "NotationPress$Column", .object "NotationPress$Upgrade", .object "NotationPress$Trace"]
def np_te : np_E → Prop
  | .inl (ty, _) => ty ∈ np_tys
  | _ => True
theorem np_v_cat (ad : Nat → Nat) (v : Value) : (np_v ad v).category = v.category := by cases v <;> rfl
theorem np_cv.mono {n n' : Nat} (h : n ≤ n') {v : Value} (hv : np_cv n v) : np_cv n' v := by
  cases v <;> first | trivial | exact Nat.lt_of_lt_of_le hv h
theorem np_ce.mono {n n' : Nat} (h : n ≤ n') {e : np_E} (he : np_ce n e) : np_ce n' e := by
  rcases e with ⟨ty, k, f | f | f | f | f⟩ | ⟨ci, fs⟩
  · trivial
  · trivial
  · trivial
  · trivial
  · exact fun i k hk => Nat.lt_of_lt_of_le (he i k hk) h
  · exact fun v hv => (he v hv).mono h
theorem np_v.cong {n : Nat} {ad ad' : Nat → Nat} (h : ∀ k, k < n → ad' k = ad k) {v : Value} (hv : np_cv n v) : np_v ad' v = np_v ad v := by
  cases v <;> first | rfl | exact congrArg Value.ref (h _ hv)
theorem np_vs.cong {n : Nat} {ad ad' : Nat → Nat} (h : ∀ k, k < n → ad' k = ad k) {vs : List Value} (hv : ∀ v ∈ vs, np_cv n v) : vs.map (np_v ad') = vs.map (np_v ad) := List.map_congr_left fun v q => np_v.cong h (hv v q)
theorem np_e.cong {n : Nat} {cA : FieldType → ClassId} {ad ad' : Nat → Nat} (h : ∀ k, k < n → ad' k = ad k) {e : np_E} (he : np_ce n e) : np_e cA ad' e = np_e cA ad e := by
  rcases e with ⟨ty, k, f | f | f | f | f⟩ | ⟨ci, fs⟩
  · rfl
  · rfl
  · rfl
  · rfl
  · show Sum.inl (cA ty, k, Sum.inr (Sum.inr (Sum.inr (Sum.inr (fun i => (f i).map ad'))))) = Sum.inl (cA ty, k, Sum.inr (Sum.inr (Sum.inr (Sum.inr (fun i => (f i).map ad)))))
    have hf : (fun i => (f i).map ad') = fun i => (f i).map ad := by
      funext i
      cases hi : f i with
      | none => rfl
      | some z => exact congrArg some (h z (he i z hi))
    rw [hf]
  · exact congrArg (fun z => Sum.inr (ci, z)) (np_vs.cong h he)
/-- the world w lies in the heap H, its places at the addresses ad -/
def np_O (D : va_G) (cA : FieldType → ClassId) (A : Nat → Prop) (ad : Nat → Nat) (w : np_W) (H : Heap) : Prop :=
  (∀ (k : Nat) (e : np_E), w.2 k = some e → va_at D vwCl (ad k, np_e cA ad e) H ∧ A (ad k) ∧ np_ce w.1 e ∧ np_te e ∧ k < w.1) ∧
  (∀ (j k : Nat) (e e' : np_E), w.2 j = some e → w.2 k = some e' → ad j = ad k → j = k)
def np_cL (ad : Nat → Nat) (L : np_L) : List (Nat × Value) := L.map (fun q => (q.1, np_v ad q.2))
/-- what holds beside the locals: the world, all places are below the next one, the frame -/
def np_pr (D : va_G) (cA : FieldType → ClassId) (A : Nat → Prop) (s : State) (ad0 : Nat → Nat) (n0 : Nat) (L : np_L) (st : List Value) (w : np_W) (H : Heap) (locs : List Loc) (ad : Nat → Nat) : Prop :=
  np_O D cA A ad w H ∧ (∀ q ∈ L, np_cv w.1 q.2) ∧ (∀ v ∈ st, np_cv w.1 v) ∧ va_S A s.heap H locs ∧ (∀ k, k < n0 → ad k = ad0 k) ∧ n0 ≤ w.1
def np_isCode : Cond → Bool
  | .code .. => true
  | .codeWith .. => true
  | _ => false
def np_gw : List Cond := lw_tbl.filter goodWord
def np_isNest : Cond → Bool
  | .methodLinkNest .. => true
  | .fieldLinkNest .. => true
  | .declares _ => true
  | .castable .. => true
  | _ => false
def np_nw : List Cond := lw_tbl.filter np_isNest
def np_ao : List String := ["NotationPress$Description", "NotationPress$Text", "NotationPress$Table", "NotationPress$Column", "NotationPress$Upgrade", "NotationPress$Trace"]
/-- the exceptions, by number -/
def np_en : Nat → String
  | 0 => "java/lang/IndexOutOfBoundsException"
  | 1 => "java/lang/IllegalArgumentException"
  | _ => "java/lang/IllegalStateException"
def np_ens : List String := ["java/lang/RuntimeException", "java/lang/Exception"]
def np_ncs : List (String × String) := [(np_en 1, np_en 0), (np_en 2, np_en 0), (np_en 2, np_en 1)]
def np_isStr : Cond → Bool
  | .stringRef .. => true
  | _ => false
/-- what the tables say, at any state of the run -/
def np_sd (s : State) : Prop := (∀ w ∈ np_gw, w.before #[] s = true) ∧ (∀ w ∈ np_nw, va_Nw w s) ∧ (∀ C ∈ np_ao, va_AO C s) ∧ (∀ q ∈ np_ncs, va_Nc q.1 q.2 s) ∧ (∀ own k tx, Cond.stringRef own k tx ∈ lw_tbl → ∃ sa, vk_R own k tx sa s)
/-- the statics that a new Throwable reads -/
def np_zq (A : Nat → Prop) (s : State) : Prop := vx_Zq Bundle.tN "UNASSIGNED_STACK" Bundle.steD A s s.heap ∧ vx_Zq Bundle.tN "SUPPRESSED_SENTINEL" Bundle.listD A s s.heap
/-- at pc stands 'throw new E("text")' of the exception i -/
def np_tw (own : String) (cc : ByteArray) (i pc : Nat) : Prop := ∃ (ik is ic : Nat) (text : String), Cond.classLink own ik (np_en i) ∈ np_gw ∧ Cond.initialized (np_en i) ∈ np_gw ∧ Cond.stringRef own is text ∈ lw_tbl ∧ (∀ w ∈ vx_atS own ic (np_en i) np_ens, w ∈ np_gw ∨ w ∈ np_nw) ∧
  (∀ w ∈ Cond.classLink own ik (np_en i) :: Cond.initialized (np_en i) :: vx_atS own ic (np_en i) np_ens, vx_ot w = true) ∧
  ((decode cc pc = .ok (.new ik, 3) ∧ decode cc (pc + 3) = .ok (.dup, 1) ∧ decode cc (pc + 4) = .ok (.ldc is, 2) ∧ decode cc (pc + 6) = .ok (.invokespecial ic, 3) ∧ decode cc (pc + 9) = .ok (.athrow, 1)) ∨
   (decode cc pc = .ok (.new ik, 3) ∧ decode cc (pc + 3) = .ok (.dup, 1) ∧ decode cc (pc + 4) = .ok (.ldc_w is, 3) ∧ decode cc (pc + 7) = .ok (.invokespecial ic, 3) ∧ decode cc (pc + 10) = .ok (.athrow, 1)))
abbrev np_Ctx : Type := (Program × Launch × Env × Room × State × MethodId × Array Value × List Frame × Method × Code) × ((State → Prop) × va_G × (FieldType → ClassId) × (Nat → Prop) × (Nat → Nat) × Nat × Nat) × np_Rt × np_Th
def np_G : np_Ctx → np_K
  | ((p, l, e, R, s, m, args, below, meth, c), (Q, D, cA, A, ad0, n0, nL), _, _) => fun pc L st w ce sl =>
    ∀ (H : Heap) (locs : List Loc) (ad : Nat → Nat) (ls : Array Slot), lv_has ls nL (np_cL ad L) → np_pr D cA A s ad0 n0 L st w H locs ad →
      W p l e R s m args below meth c H locs ce sl Q (F0 m pc ls (st.map (np_v ad)))
def np_ok (own : String) (cc : ByteArray) (nL RF RL RC RS : Nat) (rI : Instr) : np_Ctx → Prop
  | ((p, l, e, R, s, m, args, below, meth, c), (Q, D, cA, A, ad0, n0, nL'), Rt, Th) =>
    p.tables.exec = Jvm.exec ∧ c.code = cc ∧ c.maxLocals = nL ∧ nL' = nL ∧ s.vm.findClass own = some m.cls ∧ np_sd s ∧ va_K D vwCl (np_tys.map fun ty => (cA ty, ty)) s ∧ (∀ q, s.heap.size ≤ q → A q) ∧ RF ≤ R.frames ∧ RL ≤ R.locals ∧ RC ≤ R.cells ∧ RS ≤ R.slots ∧
    (∀ st w ce sl, Rt st w ce sl → ∀ (pc : Nat) (H : Heap) (locs : List Loc) (ad : Nat → Nat) (ls : Array Slot), decode cc pc = .ok (rI, 1) → np_pr D cA A s ad0 n0 [] st w H locs ad → W p l e R s m args below meth c H locs ce sl Q (F0 m pc ls (st.map (np_v ad)))) ∧
    l.stackTraces = false ∧ np_zq A s ∧
    (∀ i w ce sl, Th i w ce sl → ∀ (pc : Nat) (st : List Value) (H : Heap) (locs : List Loc) (ad : Nat → Nat) (ls : Array Slot), np_tw own cc i pc → ls.size = nL → (st.map fun v => v.category).sum ≤ 8 → np_pr D cA A s ad0 n0 [] [] w H locs ad → W p l e R s m args below meth c H locs ce sl Q (F0 m pc ls (st.map (np_v ad))))
def np_mn (X : np_Ctx) : String := X.1.2.2.2.2.2.2.2.2.1.name
def np_S (X : np_Ctx) (pc : Nat) (op : np_Op) : Prop := ∀ k : np_K, (∀ pc L st w ce sl, k pc L st w ce sl → np_G X pc L st w ce sl) → ∀ L st w ce sl, op k pc L st w ce sl → np_G X pc L st w ce sl
/-- the runner: operations by pc, loop heads at which it stops -/
def np_get : List (Nat × np_Op) → Nat → Option (Nat × np_Op)
  | [], _ => none
  | (j, o) :: r, pc => match Nat.beq j pc with
    | true => some (j, o)
    | false => np_get r pc
def np_isin : List Nat → Nat → Bool
  | [], _ => false
  | j :: r, pc => match Nat.beq j pc with
    | true => true
    | false => np_isin r pc
def np_run (is : List (Nat × np_Op)) (heads : List Nat) (Hd : np_K) : Nat → np_K
  | 0 => fun _ _ _ _ _ _ => False
  | n + 1 => fun pc L st w ce sl => match np_get is pc with
    | none => False
    | some (j, op) => op (fun pc L st w ce sl => match np_isin heads pc with
      | true => Hd pc L st w ce sl
      | false => np_run is heads Hd n pc L st w ce sl) j L st w ce sl
theorem np_get_mem {is : List (Nat × np_Op)} {pc : Nat} {q : Nat × np_Op} (h : np_get is pc = some q) : q ∈ is ∧ q.1 = pc := by
  induction is with
  | nil => cases h
  | cons a r ih =>
    obtain ⟨j, o⟩ := a
    unfold np_get at h
    by_cases hj : j = pc
    · rw [np_beq hj] at h
      cases h
      exact ⟨List.mem_cons_self, hj⟩
    · rw [np_bne hj] at h
      exact ⟨List.mem_cons_of_mem _ (ih h).1, (ih h).2⟩
theorem np_sound {X : np_Ctx} {is : List (Nat × np_Op)} (his : ∀ q ∈ is, np_S X q.1 q.2) {heads : List Nat} {Hd : np_K} (hH : ∀ pc L st w ce sl, Hd pc L st w ce sl → np_G X pc L st w ce sl) :
    ∀ (n pc : Nat) (L : np_L) (st : List Value) (w : np_W) (ce sl : Nat), np_run is heads Hd n pc L st w ce sl → np_G X pc L st w ce sl := by
  intro n
  induction n with
  | zero => intro pc L st w ce sl h; exact absurd h id
  | succ n ih =>
    intro pc L st w ce sl h
    unfold np_run at h
    cases hg : np_get is pc with
    | none => rw [hg] at h; exact absurd h id
    | some q =>
      obtain ⟨j, op⟩ := q
      rw [hg] at h
      obtain ⟨hm, rfl⟩ := np_get_mem hg
      refine his _ hm _ (fun pc L st w ce sl hq => ?_) L st w ce sl h
      split at hq
      · exact hH _ _ _ _ _ _ hq
      · exact ih _ _ _ _ _ _ hq
/-! The same with all that is literal worked out at each step. -/
def np_force (n : Nat) (k : Nat → Prop) : Prop := match n with
  | 0 => k 0
  | m + 1 => k (m + 1)
theorem np_force_eq (n : Nat) (k : Nat → Prop) : np_force n k = k n := by cases n <;> rfl
def np_fl {α : Type} : List α → (List α → Prop) → Prop
  | [], k => k []
  | a :: r, k => np_fl r (fun r' => k (a :: r'))
theorem np_fl_eq {α : Type} (l : List α) : ∀ k : List α → Prop, np_fl l k = k l := by
  induction l with
  | nil => intro k; rfl
  | cons a r ih => intro k; exact ih _
def np_fk (k : np_K) : np_K := fun pc L st w ce sl => np_force pc fun pc => np_fl L fun L => np_fl st fun st => match w with
  | (n, f) => np_force n fun n => np_force ce fun ce => np_force sl fun sl => k pc L st (n, f) ce sl
theorem np_fk_eq (k : np_K) (pc : Nat) (L : np_L) (st : List Value) (w : np_W) (ce sl : Nat) : np_fk k pc L st w ce sl = k pc L st w ce sl := by
  obtain ⟨n, f⟩ := w
  unfold np_fk
  rw [np_force_eq, np_fl_eq, np_fl_eq]
  dsimp only
  rw [np_force_eq, np_force_eq, np_force_eq]
def np_runF (is : List (Nat × np_Op)) (heads : List Nat) (Hd : np_K) : Nat → np_K
  | 0 => fun _ _ _ _ _ _ => False
  | n + 1 => fun pc L st w ce sl => match np_get is pc with
    | none => False
    | some (j, op) => op (fun pc L st w ce sl => np_fk (fun pc L st w ce sl => match np_isin heads pc with
      | true => Hd pc L st w ce sl
      | false => np_runF is heads Hd n pc L st w ce sl) pc L st w ce sl) j L st w ce sl
theorem np_soundF {X : np_Ctx} {is : List (Nat × np_Op)} (his : ∀ q ∈ is, np_S X q.1 q.2) {heads : List Nat} {Hd : np_K} (hH : ∀ pc L st w ce sl, Hd pc L st w ce sl → np_G X pc L st w ce sl) :
    ∀ (n pc : Nat) (L : np_L) (st : List Value) (w : np_W) (ce sl : Nat), np_runF is heads Hd n pc L st w ce sl → np_G X pc L st w ce sl := by
  intro n
  induction n with
  | zero => intro pc L st w ce sl h; exact absurd h id
  | succ n ih =>
    intro pc L st w ce sl h
    unfold np_runF at h
    cases hg : np_get is pc with
    | none => rw [hg] at h; exact absurd h id
    | some q =>
      obtain ⟨j, op⟩ := q
      rw [hg] at h
      obtain ⟨hm, rfl⟩ := np_get_mem hg
      refine his _ hm _ (fun pc L st w ce sl hq => ?_) L st w ce sl h
      rw [np_fk_eq] at hq
      split at hq
      · exact hH _ _ _ _ _ _ hq
      · exact ih _ _ _ _ _ _ hq
end
section
theorem np_pr.to {D : va_G} {cA : FieldType → ClassId} {A : Nat → Prop} {s : State} {ad0 : Nat → Nat} {n0 : Nat} {L L' : np_L} {st st' : List Value} {w : np_W} {H : Heap} {locs : List Loc} {ad : Nat → Nat} (h : np_pr D cA A s ad0 n0 L st w H locs ad) (h1 : ∀ q ∈ L', np_cv w.1 q.2) (h2 : ∀ v ∈ st', np_cv w.1 v) : np_pr D cA A s ad0 n0 L' st' w H locs ad := ⟨h.1, h1, h2, h.2.2.2.1, h.2.2.2.2.1, h.2.2.2.2.2⟩
theorem np_c_cons {n : Nat} {v : Value} {r : List Value} (h : np_cv n v) (hr : ∀ v ∈ r, np_cv n v) : ∀ u ∈ v :: r, np_cv n u := fun u hu => by
  rcases List.mem_cons.mp hu with rfl | hu
  · exact h
  · exact hr u hu
theorem np_c_tl {n : Nat} {v : Value} {r : List Value} (h : ∀ u ∈ v :: r, np_cv n u) : ∀ u ∈ r, np_cv n u := fun u hu => h u (List.mem_cons_of_mem _ hu)
theorem np_c_hd {n : Nat} {v : Value} {r : List Value} (h : ∀ u ∈ v :: r, np_cv n u) : np_cv n v := h v List.mem_cons_self
def np_lk : np_L → Nat → Option Value
  | [], _ => none
  | (j, v) :: r, i => match Nat.beq j i with
    | true => some v
    | false => np_lk r i
theorem np_lk_mem {L : np_L} {i : Nat} {v : Value} (h : np_lk L i = some v) : (i, v) ∈ L := by
  induction L with
  | nil => cases h
  | cons q r ih =>
    obtain ⟨j, u⟩ := q
    unfold np_lk at h
    by_cases hj : j = i
    · rw [np_beq hj] at h
      cases h
      subst hj
      exact List.mem_cons_self
    · rw [np_bne hj] at h
      exact List.mem_cons_of_mem _ (ih h)
theorem np_lk_has {L : np_L} {i nL : Nat} {v : Value} {ad : Nat → Nat} {ls : Array Slot} (hl : lv_has ls nL (np_cL ad L)) (h : np_lk L i = some v) : ls[i]? = some (.val (np_v ad v)) :=
  hl.2.2 (i, np_v ad v) (List.mem_map.mpr ⟨(i, v), np_lk_mem h, rfl⟩)
def np_st1 (L : np_L) (i : Nat) (v : Value) : np_L := (i, v) :: L.filter (fun q => !(q.1 == i) && !(q.1 + 1 == i && q.2.category == 2))
def np_st2 (L : np_L) (i : Nat) (v : Value) : np_L := (i, v) :: L.filter (fun q => !(q.1 == i) && (!(q.1 == i + 1) && !(q.1 + 1 == i && q.2.category == 2)))
theorem np_cL_st1 (ad : Nat → Nat) (L : np_L) (i : Nat) (v : Value) : (i, np_v ad v) :: (np_cL ad L).filter (fun q => !(q.1 == i) && !(q.1 + 1 == i && q.2.category == 2)) = np_cL ad (np_st1 L i v) := by
  unfold np_cL np_st1
  rw [List.map_cons, List.filter_map]
  congr 2
  apply List.filter_congr
  intro q _
  simp [np_v_cat]
theorem np_cL_st2 (ad : Nat → Nat) (L : np_L) (i : Nat) (v : Value) : (i, np_v ad v) :: (np_cL ad L).filter (fun q => !(q.1 == i) && (!(q.1 == i + 1) && !(q.1 + 1 == i && q.2.category == 2))) = np_cL ad (np_st2 L i v) := by
  unfold np_cL np_st2
  rw [List.map_cons, List.filter_map]
  congr 2
  apply List.filter_congr
  intro q _
  simp [np_v_cat]
theorem np_st1_c {n : Nat} {L : np_L} {i : Nat} {v : Value} (hL : ∀ q ∈ L, np_cv n q.2) (hv : np_cv n v) : ∀ q ∈ np_st1 L i v, np_cv n q.2 := fun q hq => by
  rcases List.mem_cons.mp hq with rfl | hq
  · exact hv
  · exact hL q (List.mem_filter.mp hq).1
theorem np_st2_c {n : Nat} {L : np_L} {i : Nat} {v : Value} (hL : ∀ q ∈ L, np_cv n q.2) (hv : np_cv n v) : ∀ q ∈ np_st2 L i v, np_cv n q.2 := fun q hq => by
  rcases List.mem_cons.mp hq with rfl | hq
  · exact hv
  · exact hL q (List.mem_filter.mp hq).1
theorem np_good {ws : Cond} {s U : State} (hW : s.WarmedH U.vm) {a a' : Array Value} (hg : goodWord ws = true) (h : ws.before a s = true) : ws.before a' U = true := word_at hW (good_of_word hg) h
theorem np_hts {s : State} (h : np_sd s) (args : Array Value) : ∀ w ∈ np_gw, w.before args s = true := fun w hw => np_good (State.WarmedH.refl s) (List.mem_filter.mp hw).2 (h.1 w hw)
theorem np_gwi {w : Cond} (i : Nat) (h : lw_tbl[i]? = some w) (hg : goodWord w = true) : w ∈ np_gw := List.mem_filter.mpr ⟨List.mem_of_getElem? h, hg⟩
theorem np_nwi {w : Cond} (i : Nat) (h : lw_tbl[i]? = some w) (hg : np_isNest w = true) : w ∈ np_nw := List.mem_filter.mpr ⟨List.mem_of_getElem? h, hg⟩

def np_push (len : Nat) (v : Value) : np_Op := fun k pc L st w ce sl => k (pc + len) L (v :: st) w ce sl
def np_ild (len i : Nat) : np_Op := fun k pc L st w ce sl => match np_lk L i with
  | some (.int x) => k (pc + len) L (.int x :: st) w ce sl
  | _ => False
def np_lld (len i : Nat) : np_Op := fun k pc L st w ce sl => match np_lk L i with
  | some (.long x) => k (pc + len) L (.long x :: st) w ce sl
  | _ => False
def np_ald (len i : Nat) : np_Op := fun k pc L st w ce sl => match np_lk L i with
  | some (.ref x) => k (pc + len) L (.ref x :: st) w ce sl
  | some .null => k (pc + len) L (.null :: st) w ce sl
  | _ => False
def np_ist (len i : Nat) : np_Op := fun k pc L st w ce sl => match st with
  | .int x :: r => k (pc + len) (np_st1 L i (.int x)) r w ce sl
  | _ => False
def np_lst (len i : Nat) : np_Op := fun k pc L st w ce sl => match st with
  | .long x :: r => k (pc + len) (np_st2 L i (.long x)) r w ce sl
  | _ => False
def np_ast (len i : Nat) : np_Op := fun k pc L st w ce sl => match st with
  | .ref x :: r => k (pc + len) (np_st1 L i (.ref x)) r w ce sl
  | .null :: r => k (pc + len) (np_st1 L i .null) r w ce sl
  | _ => False
def np_iinc (i : Nat) (n : Int) : np_Op := fun k pc L st w ce sl => match np_lk L i with
  | some (.int x) => k (pc + 3) (np_st1 L i (.int (x + Int32.ofInt n))) st w ce sl
  | _ => False
def np_ib (f : Int32 → Int32 → Int32) : np_Op := fun k pc L st w ce sl => match st with
  | .int y :: .int x :: r => k (pc + 1) L (.int (f x y) :: r) w ce sl
  | _ => False
def np_ibn (f : Int32 → Int32 → Int32) : np_Op := fun k pc L st w ce sl => match st with
  | .int y :: .int x :: r => ¬ y = 0 ∧ k (pc + 1) L (.int (f x y) :: r) w ce sl
  | _ => False
def np_iu (f : Int32 → Int32) : np_Op := fun k pc L st w ce sl => match st with
  | .int x :: r => k (pc + 1) L (.int (f x) :: r) w ce sl
  | _ => False
def np_lb (f : Int64 → Int64 → Int64) : np_Op := fun k pc L st w ce sl => match st with
  | .long y :: .long x :: r => k (pc + 1) L (.long (f x y) :: r) w ce sl
  | _ => False
def np_lbn (f : Int64 → Int64 → Int64) : np_Op := fun k pc L st w ce sl => match st with
  | .long y :: .long x :: r => ¬ y = 0 ∧ k (pc + 1) L (.long (f x y) :: r) w ce sl
  | _ => False
def np_i2l : np_Op := fun k pc L st w ce sl => match st with
  | .int x :: r => k (pc + 1) L (.long x.toInt64 :: r) w ce sl
  | _ => False
def np_l2i : np_Op := fun k pc L st w ce sl => match st with
  | .long x :: r => k (pc + 1) L (.int x.toInt32 :: r) w ce sl
  | _ => False
def np_lcmp : np_Op := fun k pc L st w ce sl => match st with
  | .long y :: .long x :: r => k (pc + 1) L (.int (lg_cmp x y) :: r) w ce sl
  | _ => False
def np_dup : np_Op := fun k pc L st w ce sl => match st with
  | v :: r => v.category = 1 ∧ k (pc + 1) L (v :: v :: r) w ce sl
  | _ => False
def np_dup2 : np_Op := fun k pc L st w ce sl => match st with
  | v :: u :: r => v.category = 1 ∧ u.category = 1 ∧ k (pc + 1) L (v :: u :: v :: u :: r) w ce sl
  | _ => False
def np_pop : np_Op := fun k pc L st w ce sl => match st with
  | v :: r => v.category = 1 ∧ k (pc + 1) L r w ce sl
  | _ => False
def np_if (f : Int32 → Prop) (tgt : Nat) : np_Op := fun k pc L st w ce sl => match st with
  | .int x :: r => (f x → k tgt L r w ce sl) ∧ (¬ f x → k (pc + 3) L r w ce sl)
  | _ => False
def np_ic (f : Int32 → Int32 → Prop) (tgt : Nat) : np_Op := fun k pc L st w ce sl => match st with
  | .int y :: .int x :: r => (f x y → k tgt L r w ce sl) ∧ (¬ f x y → k (pc + 3) L r w ce sl)
  | _ => False
def np_ifne (tgt : Nat) : np_Op := fun k pc L st w ce sl => match st with
  | .int x :: r => (x = 0 → k (pc + 3) L r w ce sl) ∧ (¬ x = 0 → k tgt L r w ce sl)
  | _ => False
def np_icne (tgt : Nat) : np_Op := fun k pc L st w ce sl => match st with
  | .int y :: .int x :: r => (x = y → k (pc + 3) L r w ce sl) ∧ (¬ x = y → k tgt L r w ce sl)
  | _ => False
def np_goto (tgt : Nat) : np_Op := fun k _ L st w ce sl => k tgt L st w ce sl
def np_ifnull (tgt : Nat) : np_Op := fun k pc L st w ce sl => match st with
  | .ref _ :: r => k (pc + 3) L r w ce sl
  | .null :: r => k tgt L r w ce sl
  | _ => False
def np_ifnonnull (tgt : Nat) : np_Op := fun k pc L st w ce sl => match st with
  | .ref _ :: r => k tgt L r w ce sl
  | .null :: r => k (pc + 3) L r w ce sl
  | _ => False
def np_swg (k : Nat → Prop) : List Nat → Int → Int32 → Prop
  | [], _, _ => True
  | t :: ts, lo, x => (x.toInt = lo → k t) ∧ np_swg k ts (lo + 1) x
def np_tsw (lo hi : Int) (tgts : List Nat) (dflt : Nat) : np_Op := fun k _ L st w ce sl => match st with
  | .int x :: r => ((x.toInt < lo ∨ hi < x.toInt) → k dflt L r w ce sl) ∧ np_swg (fun t => k t L r w ce sl) tgts lo x
  | _ => False
def np_ret (Rt : np_Rt) : np_Op := fun _ _ _ st w ce sl => Rt st w ce sl

theorem np_s_iconst {X : np_Ctx} {pc : Nat} {own : String} {cc : ByteArray} {nL RF RL RC RS : Nat} {rI : Instr} (hX : np_ok own cc nL RF RL RC RS rI X) {n : Int} {v : Int32} (d : decode cc pc = .ok (.iconst n, 1)) (hv : Int32.ofInt n = v) : np_S X pc (np_push 1 (.int v)) := by
  obtain ⟨⟨p, l, e, R, s, m, args, below, meth, c⟩, ⟨Q, D, cA, A, ad0, n0, nL'⟩, Rt, Th⟩ := X
  obtain ⟨hx, hb, hml, rfl, hown, hsd, hK, hA, hRF, hRL, hRC, hRS, hret, hlt, hzq, hth⟩ := hX
  intro k hk L st w ce sl hop H locs ad ls hl hp
  exact lv_iconst hx hb d hv (hk _ _ _ _ _ _ hop H locs ad ls hl (hp.to hp.2.1 (np_c_cons trivial hp.2.2.1)))

theorem np_s_bipush {X : np_Ctx} {pc : Nat} {own : String} {cc : ByteArray} {nL RF RL RC RS : Nat} {rI : Instr} (hX : np_ok own cc nL RF RL RC RS rI X) {n : Int} {v : Int32} (d : decode cc pc = .ok (.bipush n, 2)) (hv : (Int8.ofInt n).toInt32 = v) : np_S X pc (np_push 2 (.int v)) := by
  obtain ⟨⟨p, l, e, R, s, m, args, below, meth, c⟩, ⟨Q, D, cA, A, ad0, n0, nL'⟩, Rt, Th⟩ := X
  obtain ⟨hx, hb, hml, rfl, hown, hsd, hK, hA, hRF, hRL, hRC, hRS, hret, hlt, hzq, hth⟩ := hX
  intro k hk L st w ce sl hop H locs ad ls hl hp
  exact lv_bipush hx hb d hv (hk _ _ _ _ _ _ hop H locs ad ls hl (hp.to hp.2.1 (np_c_cons trivial hp.2.2.1)))

theorem np_s_sipush {X : np_Ctx} {pc : Nat} {own : String} {cc : ByteArray} {nL RF RL RC RS : Nat} {rI : Instr} (hX : np_ok own cc nL RF RL RC RS rI X) {n : Int} {v : Int32} (d : decode cc pc = .ok (.sipush n, 3)) (hv : (Int16.ofInt n).toInt32 = v) : np_S X pc (np_push 3 (.int v)) := by
  obtain ⟨⟨p, l, e, R, s, m, args, below, meth, c⟩, ⟨Q, D, cA, A, ad0, n0, nL'⟩, Rt, Th⟩ := X
  obtain ⟨hx, hb, hml, rfl, hown, hsd, hK, hA, hRF, hRL, hRC, hRS, hret, hlt, hzq, hth⟩ := hX
  intro k hk L st w ce sl hop H locs ad ls hl hp
  exact lv_sipush hx hb d hv (hk _ _ _ _ _ _ hop H locs ad ls hl (hp.to hp.2.1 (np_c_cons trivial hp.2.2.1)))

theorem np_s_lconst {X : np_Ctx} {pc : Nat} {own : String} {cc : ByteArray} {nL RF RL RC RS : Nat} {rI : Instr} (hX : np_ok own cc nL RF RL RC RS rI X) {n : Fin 2} {v : Int64} (d : decode cc pc = .ok (.lconst n, 1)) (hv : Int64.ofNat (n : Nat) = v) : np_S X pc (np_push 1 (.long v)) := by
  obtain ⟨⟨p, l, e, R, s, m, args, below, meth, c⟩, ⟨Q, D, cA, A, ad0, n0, nL'⟩, Rt, Th⟩ := X
  obtain ⟨hx, hb, hml, rfl, hown, hsd, hK, hA, hRF, hRL, hRC, hRS, hret, hlt, hzq, hth⟩ := hX
  intro k hk L st w ce sl hop H locs ad ls hl hp
  exact lv_lconst hx hb d hv (hk _ _ _ _ _ _ hop H locs ad ls hl (hp.to hp.2.1 (np_c_cons trivial hp.2.2.1)))

theorem np_s_null {X : np_Ctx} {pc : Nat} {own : String} {cc : ByteArray} {nL RF RL RC RS : Nat} {rI : Instr} (hX : np_ok own cc nL RF RL RC RS rI X) (d : decode cc pc = .ok (.aconst_null, 1)) : np_S X pc (np_push 1 .null) := by
  obtain ⟨⟨p, l, e, R, s, m, args, below, meth, c⟩, ⟨Q, D, cA, A, ad0, n0, nL'⟩, Rt, Th⟩ := X
  obtain ⟨hx, hb, hml, rfl, hown, hsd, hK, hA, hRF, hRL, hRC, hRS, hret, hlt, hzq, hth⟩ := hX
  intro k hk L st w ce sl hop H locs ad ls hl hp
  exact lv_null hx hb d (hk _ _ _ _ _ _ hop H locs ad ls hl (hp.to hp.2.1 (np_c_cons trivial hp.2.2.1)))

theorem np_s_ldc {X : np_Ctx} {pc : Nat} {own : String} {cc : ByteArray} {nL RF RL RC RS : Nat} {rI : Instr} (hX : np_ok own cc nL RF RL RC RS rI X) {ix : Nat} {v : Int32} (d : decode cc pc = .ok (.ldc ix, 2)) (hw : Cond.constant (own) ix v ∈ np_gw) : np_S X pc (np_push 2 (.int v)) := by
  obtain ⟨⟨p, l, e, R, s, m, args, below, meth, c⟩, ⟨Q, D, cA, A, ad0, n0, nL'⟩, Rt, Th⟩ := X
  obtain ⟨hx, hb, hml, rfl, hown, hsd, hK, hA, hRF, hRL, hRC, hRS, hret, hlt, hzq, hth⟩ := hX
  intro k hk L st w ce sl hop H locs ad ls hl hp
  exact lv_ldc hx hb hown (np_hts hsd args _ hw) d (hk _ _ _ _ _ _ hop H locs ad ls hl (hp.to hp.2.1 (np_c_cons trivial hp.2.2.1)))

theorem np_s_ldcw {X : np_Ctx} {pc : Nat} {own : String} {cc : ByteArray} {nL RF RL RC RS : Nat} {rI : Instr} (hX : np_ok own cc nL RF RL RC RS rI X) {ix : Nat} {v : Int32} (d : decode cc pc = .ok (.ldc_w ix, 3)) (hw : Cond.constant (own) ix v ∈ np_gw) : np_S X pc (np_push 3 (.int v)) := by
  obtain ⟨⟨p, l, e, R, s, m, args, below, meth, c⟩, ⟨Q, D, cA, A, ad0, n0, nL'⟩, Rt, Th⟩ := X
  obtain ⟨hx, hb, hml, rfl, hown, hsd, hK, hA, hRF, hRL, hRC, hRS, hret, hlt, hzq, hth⟩ := hX
  intro k hk L st w ce sl hop H locs ad ls hl hp
  exact lv_ldcw hx hb hown (np_hts hsd args _ hw) d (hk _ _ _ _ _ _ hop H locs ad ls hl (hp.to hp.2.1 (np_c_cons trivial hp.2.2.1)))

theorem np_s_ldc2 {X : np_Ctx} {pc : Nat} {own : String} {cc : ByteArray} {nL RF RL RC RS : Nat} {rI : Instr} (hX : np_ok own cc nL RF RL RC RS rI X) {ix : Nat} {v : Int64} (d : decode cc pc = .ok (.ldc2_w ix, 3)) (hw : Cond.constantLong (own) ix v ∈ np_gw) : np_S X pc (np_push 3 (.long v)) := by
  obtain ⟨⟨p, l, e, R, s, m, args, below, meth, c⟩, ⟨Q, D, cA, A, ad0, n0, nL'⟩, Rt, Th⟩ := X
  obtain ⟨hx, hb, hml, rfl, hown, hsd, hK, hA, hRF, hRL, hRC, hRS, hret, hlt, hzq, hth⟩ := hX
  intro k hk L st w ce sl hop H locs ad ls hl hp
  exact lv_ldc2 hx hb hown (np_hts hsd args _ hw) d (hk _ _ _ _ _ _ hop H locs ad ls hl (hp.to hp.2.1 (np_c_cons trivial hp.2.2.1)))

theorem np_s_iload_n {X : np_Ctx} {pc : Nat} {own : String} {cc : ByteArray} {nL RF RL RC RS : Nat} {rI : Instr} (hX : np_ok own cc nL RF RL RC RS rI X) {i : Nat} {j : Fin 4} (d : decode cc pc = .ok (.iload_n j, 1)) (hi : (j : Nat) = i) : np_S X pc (np_ild 1 i) := by
  obtain ⟨⟨p, l, e, R, s, m, args, below, meth, c⟩, ⟨Q, D, cA, A, ad0, n0, nL'⟩, Rt, Th⟩ := X
  obtain ⟨hx, hb, hml, rfl, hown, hsd, hK, hA, hRF, hRL, hRC, hRS, hret, hlt, hzq, hth⟩ := hX
  intro k hk L st w ce sl hop H locs ad ls hl hp
  unfold np_ild at hop
  split at hop
  · rename_i x hx9
    exact lv_iload_n hx hb d hi (np_lk_has hl hx9) (hk _ _ _ _ _ _ hop H locs ad ls hl (hp.to hp.2.1 (np_c_cons trivial hp.2.2.1)))
  · exact absurd hop id

theorem np_s_iload {X : np_Ctx} {pc : Nat} {own : String} {cc : ByteArray} {nL RF RL RC RS : Nat} {rI : Instr} (hX : np_ok own cc nL RF RL RC RS rI X) {i : Nat} (d : decode cc pc = .ok (.iload i, 2)) : np_S X pc (np_ild 2 i) := by
  obtain ⟨⟨p, l, e, R, s, m, args, below, meth, c⟩, ⟨Q, D, cA, A, ad0, n0, nL'⟩, Rt, Th⟩ := X
  obtain ⟨hx, hb, hml, rfl, hown, hsd, hK, hA, hRF, hRL, hRC, hRS, hret, hlt, hzq, hth⟩ := hX
  intro k hk L st w ce sl hop H locs ad ls hl hp
  unfold np_ild at hop
  split at hop
  · rename_i x hx9
    exact lv_iload hx hb d (np_lk_has hl hx9) (hk _ _ _ _ _ _ hop H locs ad ls hl (hp.to hp.2.1 (np_c_cons trivial hp.2.2.1)))
  · exact absurd hop id

theorem np_s_lload_n {X : np_Ctx} {pc : Nat} {own : String} {cc : ByteArray} {nL RF RL RC RS : Nat} {rI : Instr} (hX : np_ok own cc nL RF RL RC RS rI X) {i : Nat} {j : Fin 4} (d : decode cc pc = .ok (.lload_n j, 1)) (hi : (j : Nat) = i) : np_S X pc (np_lld 1 i) := by
  obtain ⟨⟨p, l, e, R, s, m, args, below, meth, c⟩, ⟨Q, D, cA, A, ad0, n0, nL'⟩, Rt, Th⟩ := X
  obtain ⟨hx, hb, hml, rfl, hown, hsd, hK, hA, hRF, hRL, hRC, hRS, hret, hlt, hzq, hth⟩ := hX
  intro k hk L st w ce sl hop H locs ad ls hl hp
  unfold np_lld at hop
  split at hop
  · rename_i x hx9
    exact lv_lload_n hx hb d hi (np_lk_has hl hx9) (hk _ _ _ _ _ _ hop H locs ad ls hl (hp.to hp.2.1 (np_c_cons trivial hp.2.2.1)))
  · exact absurd hop id

theorem np_s_lload {X : np_Ctx} {pc : Nat} {own : String} {cc : ByteArray} {nL RF RL RC RS : Nat} {rI : Instr} (hX : np_ok own cc nL RF RL RC RS rI X) {i : Nat} (d : decode cc pc = .ok (.lload i, 2)) : np_S X pc (np_lld 2 i) := by
  obtain ⟨⟨p, l, e, R, s, m, args, below, meth, c⟩, ⟨Q, D, cA, A, ad0, n0, nL'⟩, Rt, Th⟩ := X
  obtain ⟨hx, hb, hml, rfl, hown, hsd, hK, hA, hRF, hRL, hRC, hRS, hret, hlt, hzq, hth⟩ := hX
  intro k hk L st w ce sl hop H locs ad ls hl hp
  unfold np_lld at hop
  split at hop
  · rename_i x hx9
    exact lv_lload hx hb d (np_lk_has hl hx9) (hk _ _ _ _ _ _ hop H locs ad ls hl (hp.to hp.2.1 (np_c_cons trivial hp.2.2.1)))
  · exact absurd hop id

theorem np_s_aload_n {X : np_Ctx} {pc : Nat} {own : String} {cc : ByteArray} {nL RF RL RC RS : Nat} {rI : Instr} (hX : np_ok own cc nL RF RL RC RS rI X) {i : Nat} {j : Fin 4} (d : decode cc pc = .ok (.aload_n j, 1)) (hi : (j : Nat) = i) : np_S X pc (np_ald 1 i) := by
  obtain ⟨⟨p, l, e, R, s, m, args, below, meth, c⟩, ⟨Q, D, cA, A, ad0, n0, nL'⟩, Rt, Th⟩ := X
  obtain ⟨hx, hb, hml, rfl, hown, hsd, hK, hA, hRF, hRL, hRC, hRS, hret, hlt, hzq, hth⟩ := hX
  intro k hk L st w ce sl hop H locs ad ls hl hp
  unfold np_ald at hop
  split at hop
  · rename_i x hx9
    exact lv_aload_n hx hb d hi (np_lk_has hl hx9) (hk _ _ _ _ _ _ hop H locs ad ls hl (hp.to hp.2.1 (np_c_cons (hp.2.1 _ (np_lk_mem hx9)) hp.2.2.1)))
  · rename_i hx9
    exact lv_aload_nN hx hb d hi (np_lk_has hl hx9) (hk _ _ _ _ _ _ hop H locs ad ls hl (hp.to hp.2.1 (np_c_cons trivial hp.2.2.1)))
  · exact absurd hop id

theorem np_s_aload {X : np_Ctx} {pc : Nat} {own : String} {cc : ByteArray} {nL RF RL RC RS : Nat} {rI : Instr} (hX : np_ok own cc nL RF RL RC RS rI X) {i : Nat} (d : decode cc pc = .ok (.aload i, 2)) : np_S X pc (np_ald 2 i) := by
  obtain ⟨⟨p, l, e, R, s, m, args, below, meth, c⟩, ⟨Q, D, cA, A, ad0, n0, nL'⟩, Rt, Th⟩ := X
  obtain ⟨hx, hb, hml, rfl, hown, hsd, hK, hA, hRF, hRL, hRC, hRS, hret, hlt, hzq, hth⟩ := hX
  intro k hk L st w ce sl hop H locs ad ls hl hp
  unfold np_ald at hop
  split at hop
  · rename_i x hx9
    exact lv_aload hx hb d (np_lk_has hl hx9) (hk _ _ _ _ _ _ hop H locs ad ls hl (hp.to hp.2.1 (np_c_cons (hp.2.1 _ (np_lk_mem hx9)) hp.2.2.1)))
  · rename_i hx9
    exact lv_aloadN hx hb d (np_lk_has hl hx9) (hk _ _ _ _ _ _ hop H locs ad ls hl (hp.to hp.2.1 (np_c_cons trivial hp.2.2.1)))
  · exact absurd hop id

theorem np_s_istore_n {X : np_Ctx} {pc : Nat} {own : String} {cc : ByteArray} {nL RF RL RC RS : Nat} {rI : Instr} (hX : np_ok own cc nL RF RL RC RS rI X) {i : Nat} {j : Fin 4} (d : decode cc pc = .ok (.istore_n j, 1)) (hi : (j : Nat) = i) (hn : i < nL) : np_S X pc (np_ist 1 i) := by
  obtain ⟨⟨p, l, e, R, s, m, args, below, meth, c⟩, ⟨Q, D, cA, A, ad0, n0, nL'⟩, Rt, Th⟩ := X
  obtain ⟨hx, hb, hml, rfl, hown, hsd, hK, hA, hRF, hRL, hRC, hRS, hret, hlt, hzq, hth⟩ := hX
  intro k hk L st w ce sl hop H locs ad ls hl hp
  unfold np_ist at hop
  split at hop
  · rename_i x r
    exact lv_istore_n hx hb d hi hl hn (np_cL_st1 ad L i (.int x)) (fun ls' hl' => hk _ _ _ _ _ _ hop H locs ad ls' hl' (hp.to (np_st1_c hp.2.1 trivial) (np_c_tl hp.2.2.1)))
  · exact absurd hop id

theorem np_s_istore {X : np_Ctx} {pc : Nat} {own : String} {cc : ByteArray} {nL RF RL RC RS : Nat} {rI : Instr} (hX : np_ok own cc nL RF RL RC RS rI X) {i : Nat} (d : decode cc pc = .ok (.istore i, 2)) (hn : i < nL) : np_S X pc (np_ist 2 i) := by
  obtain ⟨⟨p, l, e, R, s, m, args, below, meth, c⟩, ⟨Q, D, cA, A, ad0, n0, nL'⟩, Rt, Th⟩ := X
  obtain ⟨hx, hb, hml, rfl, hown, hsd, hK, hA, hRF, hRL, hRC, hRS, hret, hlt, hzq, hth⟩ := hX
  intro k hk L st w ce sl hop H locs ad ls hl hp
  unfold np_ist at hop
  split at hop
  · rename_i x r
    exact lv_istore hx hb d hl hn (np_cL_st1 ad L i (.int x)) (fun ls' hl' => hk _ _ _ _ _ _ hop H locs ad ls' hl' (hp.to (np_st1_c hp.2.1 trivial) (np_c_tl hp.2.2.1)))
  · exact absurd hop id

theorem np_s_lstore_n {X : np_Ctx} {pc : Nat} {own : String} {cc : ByteArray} {nL RF RL RC RS : Nat} {rI : Instr} (hX : np_ok own cc nL RF RL RC RS rI X) {i : Nat} {j : Fin 4} (d : decode cc pc = .ok (.lstore_n j, 1)) (hi : (j : Nat) = i) (hn : i + 1 < nL) : np_S X pc (np_lst 1 i) := by
  obtain ⟨⟨p, l, e, R, s, m, args, below, meth, c⟩, ⟨Q, D, cA, A, ad0, n0, nL'⟩, Rt, Th⟩ := X
  obtain ⟨hx, hb, hml, rfl, hown, hsd, hK, hA, hRF, hRL, hRC, hRS, hret, hlt, hzq, hth⟩ := hX
  intro k hk L st w ce sl hop H locs ad ls hl hp
  unfold np_lst at hop
  split at hop
  · rename_i x r
    exact lv_lstore_n hx hb d hi hl hn (np_cL_st2 ad L i (.long x)) (fun ls' hl' => hk _ _ _ _ _ _ hop H locs ad ls' hl' (hp.to (np_st2_c hp.2.1 trivial) (np_c_tl hp.2.2.1)))
  · exact absurd hop id

theorem np_s_lstore {X : np_Ctx} {pc : Nat} {own : String} {cc : ByteArray} {nL RF RL RC RS : Nat} {rI : Instr} (hX : np_ok own cc nL RF RL RC RS rI X) {i : Nat} (d : decode cc pc = .ok (.lstore i, 2)) (hn : i + 1 < nL) : np_S X pc (np_lst 2 i) := by
  obtain ⟨⟨p, l, e, R, s, m, args, below, meth, c⟩, ⟨Q, D, cA, A, ad0, n0, nL'⟩, Rt, Th⟩ := X
  obtain ⟨hx, hb, hml, rfl, hown, hsd, hK, hA, hRF, hRL, hRC, hRS, hret, hlt, hzq, hth⟩ := hX
  intro k hk L st w ce sl hop H locs ad ls hl hp
  unfold np_lst at hop
  split at hop
  · rename_i x r
    exact lv_lstore hx hb d hl hn (np_cL_st2 ad L i (.long x)) (fun ls' hl' => hk _ _ _ _ _ _ hop H locs ad ls' hl' (hp.to (np_st2_c hp.2.1 trivial) (np_c_tl hp.2.2.1)))
  · exact absurd hop id

theorem np_s_astore_n {X : np_Ctx} {pc : Nat} {own : String} {cc : ByteArray} {nL RF RL RC RS : Nat} {rI : Instr} (hX : np_ok own cc nL RF RL RC RS rI X) {i : Nat} {j : Fin 4} (d : decode cc pc = .ok (.astore_n j, 1)) (hi : (j : Nat) = i) (hn : i < nL) : np_S X pc (np_ast 1 i) := by
  obtain ⟨⟨p, l, e, R, s, m, args, below, meth, c⟩, ⟨Q, D, cA, A, ad0, n0, nL'⟩, Rt, Th⟩ := X
  obtain ⟨hx, hb, hml, rfl, hown, hsd, hK, hA, hRF, hRL, hRC, hRS, hret, hlt, hzq, hth⟩ := hX
  intro k hk L st w ce sl hop H locs ad ls hl hp
  unfold np_ast at hop
  split at hop
  · rename_i x r
    exact lv_astore_n hx hb d hi hl hn (np_cL_st1 ad L i (.ref x)) (fun ls' hl' => hk _ _ _ _ _ _ hop H locs ad ls' hl' (hp.to (np_st1_c hp.2.1 (np_c_hd hp.2.2.1)) (np_c_tl hp.2.2.1)))
  · rename_i r
    exact lv_astore_nN hx hb d hi hl hn (np_cL_st1 ad L i .null) (fun ls' hl' => hk _ _ _ _ _ _ hop H locs ad ls' hl' (hp.to (np_st1_c hp.2.1 trivial) (np_c_tl hp.2.2.1)))
  · exact absurd hop id

theorem np_s_astore {X : np_Ctx} {pc : Nat} {own : String} {cc : ByteArray} {nL RF RL RC RS : Nat} {rI : Instr} (hX : np_ok own cc nL RF RL RC RS rI X) {i : Nat} (d : decode cc pc = .ok (.astore i, 2)) (hn : i < nL) : np_S X pc (np_ast 2 i) := by
  obtain ⟨⟨p, l, e, R, s, m, args, below, meth, c⟩, ⟨Q, D, cA, A, ad0, n0, nL'⟩, Rt, Th⟩ := X
  obtain ⟨hx, hb, hml, rfl, hown, hsd, hK, hA, hRF, hRL, hRC, hRS, hret, hlt, hzq, hth⟩ := hX
  intro k hk L st w ce sl hop H locs ad ls hl hp
  unfold np_ast at hop
  split at hop
  · rename_i x r
    exact lv_astore hx hb d hl hn (np_cL_st1 ad L i (.ref x)) (fun ls' hl' => hk _ _ _ _ _ _ hop H locs ad ls' hl' (hp.to (np_st1_c hp.2.1 (np_c_hd hp.2.2.1)) (np_c_tl hp.2.2.1)))
  · rename_i r
    exact lv_astoreN hx hb d hl hn (np_cL_st1 ad L i .null) (fun ls' hl' => hk _ _ _ _ _ _ hop H locs ad ls' hl' (hp.to (np_st1_c hp.2.1 trivial) (np_c_tl hp.2.2.1)))
  · exact absurd hop id

theorem np_s_iinc {X : np_Ctx} {pc : Nat} {own : String} {cc : ByteArray} {nL RF RL RC RS : Nat} {rI : Instr} (hX : np_ok own cc nL RF RL RC RS rI X) {i : Nat} {n : Int} (d : decode cc pc = .ok (.iinc i n, 3)) (hn : i < nL) : np_S X pc (np_iinc i n) := by
  obtain ⟨⟨p, l, e, R, s, m, args, below, meth, c⟩, ⟨Q, D, cA, A, ad0, n0, nL'⟩, Rt, Th⟩ := X
  obtain ⟨hx, hb, hml, rfl, hown, hsd, hK, hA, hRF, hRL, hRC, hRS, hret, hlt, hzq, hth⟩ := hX
  intro k hk L st w ce sl hop H locs ad ls hl hp
  unfold np_iinc at hop
  split at hop
  · rename_i x hx9
    obtain ⟨k9, hk9⟩ := List.getElem?_of_mem (show (i, Value.int x) ∈ np_cL ad L from List.mem_map.mpr ⟨(i, .int x), np_lk_mem hx9, rfl⟩)
    exact lv_iinc hx hb d hl hk9 rfl hn (np_cL_st1 ad L i (.int (x + Int32.ofInt n))) (fun ls' hl' => hk _ _ _ _ _ _ hop H locs ad ls' hl' (hp.to (np_st1_c hp.2.1 trivial) hp.2.2.1))
  · exact absurd hop id

theorem np_s_iadd {X : np_Ctx} {pc : Nat} {own : String} {cc : ByteArray} {nL RF RL RC RS : Nat} {rI : Instr} (hX : np_ok own cc nL RF RL RC RS rI X) (d : decode cc pc = .ok (.iadd, 1)) : np_S X pc (np_ib (fun x y => x + y)) := by
  obtain ⟨⟨p, l, e, R, s, m, args, below, meth, c⟩, ⟨Q, D, cA, A, ad0, n0, nL'⟩, Rt, Th⟩ := X
  obtain ⟨hx, hb, hml, rfl, hown, hsd, hK, hA, hRF, hRL, hRC, hRS, hret, hlt, hzq, hth⟩ := hX
  intro k hk L st w ce sl hop H locs ad ls hl hp
  unfold np_ib at hop
  split at hop
  · rename_i y x r
    exact lv_iadd hx hb d (hk _ _ _ _ _ _ hop H locs ad ls hl (hp.to hp.2.1 (np_c_cons trivial (np_c_tl (np_c_tl hp.2.2.1)))))
  · exact absurd hop id

theorem np_s_isub {X : np_Ctx} {pc : Nat} {own : String} {cc : ByteArray} {nL RF RL RC RS : Nat} {rI : Instr} (hX : np_ok own cc nL RF RL RC RS rI X) (d : decode cc pc = .ok (.isub, 1)) : np_S X pc (np_ib (fun x y => x - y)) := by
  obtain ⟨⟨p, l, e, R, s, m, args, below, meth, c⟩, ⟨Q, D, cA, A, ad0, n0, nL'⟩, Rt, Th⟩ := X
  obtain ⟨hx, hb, hml, rfl, hown, hsd, hK, hA, hRF, hRL, hRC, hRS, hret, hlt, hzq, hth⟩ := hX
  intro k hk L st w ce sl hop H locs ad ls hl hp
  unfold np_ib at hop
  split at hop
  · rename_i y x r
    exact lv_isub hx hb d (hk _ _ _ _ _ _ hop H locs ad ls hl (hp.to hp.2.1 (np_c_cons trivial (np_c_tl (np_c_tl hp.2.2.1)))))
  · exact absurd hop id

theorem np_s_imul {X : np_Ctx} {pc : Nat} {own : String} {cc : ByteArray} {nL RF RL RC RS : Nat} {rI : Instr} (hX : np_ok own cc nL RF RL RC RS rI X) (d : decode cc pc = .ok (.imul, 1)) : np_S X pc (np_ib (fun x y => x * y)) := by
  obtain ⟨⟨p, l, e, R, s, m, args, below, meth, c⟩, ⟨Q, D, cA, A, ad0, n0, nL'⟩, Rt, Th⟩ := X
  obtain ⟨hx, hb, hml, rfl, hown, hsd, hK, hA, hRF, hRL, hRC, hRS, hret, hlt, hzq, hth⟩ := hX
  intro k hk L st w ce sl hop H locs ad ls hl hp
  unfold np_ib at hop
  split at hop
  · rename_i y x r
    exact lv_imul hx hb d (hk _ _ _ _ _ _ hop H locs ad ls hl (hp.to hp.2.1 (np_c_cons trivial (np_c_tl (np_c_tl hp.2.2.1)))))
  · exact absurd hop id

theorem np_s_iand {X : np_Ctx} {pc : Nat} {own : String} {cc : ByteArray} {nL RF RL RC RS : Nat} {rI : Instr} (hX : np_ok own cc nL RF RL RC RS rI X) (d : decode cc pc = .ok (.iand, 1)) : np_S X pc (np_ib (fun x y => x &&& y)) := by
  obtain ⟨⟨p, l, e, R, s, m, args, below, meth, c⟩, ⟨Q, D, cA, A, ad0, n0, nL'⟩, Rt, Th⟩ := X
  obtain ⟨hx, hb, hml, rfl, hown, hsd, hK, hA, hRF, hRL, hRC, hRS, hret, hlt, hzq, hth⟩ := hX
  intro k hk L st w ce sl hop H locs ad ls hl hp
  unfold np_ib at hop
  split at hop
  · rename_i y x r
    exact lv_iand hx hb d (hk _ _ _ _ _ _ hop H locs ad ls hl (hp.to hp.2.1 (np_c_cons trivial (np_c_tl (np_c_tl hp.2.2.1)))))
  · exact absurd hop id

theorem np_s_ior {X : np_Ctx} {pc : Nat} {own : String} {cc : ByteArray} {nL RF RL RC RS : Nat} {rI : Instr} (hX : np_ok own cc nL RF RL RC RS rI X) (d : decode cc pc = .ok (.ior, 1)) : np_S X pc (np_ib (fun x y => x ||| y)) := by
  obtain ⟨⟨p, l, e, R, s, m, args, below, meth, c⟩, ⟨Q, D, cA, A, ad0, n0, nL'⟩, Rt, Th⟩ := X
  obtain ⟨hx, hb, hml, rfl, hown, hsd, hK, hA, hRF, hRL, hRC, hRS, hret, hlt, hzq, hth⟩ := hX
  intro k hk L st w ce sl hop H locs ad ls hl hp
  unfold np_ib at hop
  split at hop
  · rename_i y x r
    exact lv_ior hx hb d (hk _ _ _ _ _ _ hop H locs ad ls hl (hp.to hp.2.1 (np_c_cons trivial (np_c_tl (np_c_tl hp.2.2.1)))))
  · exact absurd hop id

theorem np_s_ixor {X : np_Ctx} {pc : Nat} {own : String} {cc : ByteArray} {nL RF RL RC RS : Nat} {rI : Instr} (hX : np_ok own cc nL RF RL RC RS rI X) (d : decode cc pc = .ok (.ixor, 1)) : np_S X pc (np_ib (fun x y => x ^^^ y)) := by
  obtain ⟨⟨p, l, e, R, s, m, args, below, meth, c⟩, ⟨Q, D, cA, A, ad0, n0, nL'⟩, Rt, Th⟩ := X
  obtain ⟨hx, hb, hml, rfl, hown, hsd, hK, hA, hRF, hRL, hRC, hRS, hret, hlt, hzq, hth⟩ := hX
  intro k hk L st w ce sl hop H locs ad ls hl hp
  unfold np_ib at hop
  split at hop
  · rename_i y x r
    exact lv_ixor hx hb d (hk _ _ _ _ _ _ hop H locs ad ls hl (hp.to hp.2.1 (np_c_cons trivial (np_c_tl (np_c_tl hp.2.2.1)))))
  · exact absurd hop id

theorem np_s_ishl {X : np_Ctx} {pc : Nat} {own : String} {cc : ByteArray} {nL RF RL RC RS : Nat} {rI : Instr} (hX : np_ok own cc nL RF RL RC RS rI X) (d : decode cc pc = .ok (.ishl, 1)) : np_S X pc (np_ib (fun x y => x <<< (y &&& 31))) := by
  obtain ⟨⟨p, l, e, R, s, m, args, below, meth, c⟩, ⟨Q, D, cA, A, ad0, n0, nL'⟩, Rt, Th⟩ := X
  obtain ⟨hx, hb, hml, rfl, hown, hsd, hK, hA, hRF, hRL, hRC, hRS, hret, hlt, hzq, hth⟩ := hX
  intro k hk L st w ce sl hop H locs ad ls hl hp
  unfold np_ib at hop
  split at hop
  · rename_i y x r
    exact lv_ishl hx hb d (hk _ _ _ _ _ _ hop H locs ad ls hl (hp.to hp.2.1 (np_c_cons trivial (np_c_tl (np_c_tl hp.2.2.1)))))
  · exact absurd hop id

theorem np_s_ishr {X : np_Ctx} {pc : Nat} {own : String} {cc : ByteArray} {nL RF RL RC RS : Nat} {rI : Instr} (hX : np_ok own cc nL RF RL RC RS rI X) (d : decode cc pc = .ok (.ishr, 1)) : np_S X pc (np_ib (fun x y => x >>> (y &&& 31))) := by
  obtain ⟨⟨p, l, e, R, s, m, args, below, meth, c⟩, ⟨Q, D, cA, A, ad0, n0, nL'⟩, Rt, Th⟩ := X
  obtain ⟨hx, hb, hml, rfl, hown, hsd, hK, hA, hRF, hRL, hRC, hRS, hret, hlt, hzq, hth⟩ := hX
  intro k hk L st w ce sl hop H locs ad ls hl hp
  unfold np_ib at hop
  split at hop
  · rename_i y x r
    exact lv_ishr hx hb d (hk _ _ _ _ _ _ hop H locs ad ls hl (hp.to hp.2.1 (np_c_cons trivial (np_c_tl (np_c_tl hp.2.2.1)))))
  · exact absurd hop id

theorem np_s_iushr {X : np_Ctx} {pc : Nat} {own : String} {cc : ByteArray} {nL RF RL RC RS : Nat} {rI : Instr} (hX : np_ok own cc nL RF RL RC RS rI X) (d : decode cc pc = .ok (.iushr, 1)) : np_S X pc (np_ib (fun x y => (x.toUInt32 >>> (y.toUInt32 &&& Int32.toUInt32 31)).toInt32)) := by
  obtain ⟨⟨p, l, e, R, s, m, args, below, meth, c⟩, ⟨Q, D, cA, A, ad0, n0, nL'⟩, Rt, Th⟩ := X
  obtain ⟨hx, hb, hml, rfl, hown, hsd, hK, hA, hRF, hRL, hRC, hRS, hret, hlt, hzq, hth⟩ := hX
  intro k hk L st w ce sl hop H locs ad ls hl hp
  unfold np_ib at hop
  split at hop
  · rename_i y x r
    exact lv_iushr hx hb d rfl (hk _ _ _ _ _ _ hop H locs ad ls hl (hp.to hp.2.1 (np_c_cons trivial (np_c_tl (np_c_tl hp.2.2.1)))))
  · exact absurd hop id

theorem np_s_idiv {X : np_Ctx} {pc : Nat} {own : String} {cc : ByteArray} {nL RF RL RC RS : Nat} {rI : Instr} (hX : np_ok own cc nL RF RL RC RS rI X) (d : decode cc pc = .ok (.idiv, 1)) : np_S X pc (np_ibn (fun x y => x / y)) := by
  obtain ⟨⟨p, l, e, R, s, m, args, below, meth, c⟩, ⟨Q, D, cA, A, ad0, n0, nL'⟩, Rt, Th⟩ := X
  obtain ⟨hx, hb, hml, rfl, hown, hsd, hK, hA, hRF, hRL, hRC, hRS, hret, hlt, hzq, hth⟩ := hX
  intro k hk L st w ce sl hop H locs ad ls hl hp
  unfold np_ibn at hop
  split at hop
  · rename_i y x r
    exact lv_idiv hx hb d hop.1 (hk _ _ _ _ _ _ hop.2 H locs ad ls hl (hp.to hp.2.1 (np_c_cons trivial (np_c_tl (np_c_tl hp.2.2.1)))))
  · exact absurd hop id

theorem np_s_irem {X : np_Ctx} {pc : Nat} {own : String} {cc : ByteArray} {nL RF RL RC RS : Nat} {rI : Instr} (hX : np_ok own cc nL RF RL RC RS rI X) (d : decode cc pc = .ok (.irem, 1)) : np_S X pc (np_ibn (fun x y => x - x / y * y)) := by
  obtain ⟨⟨p, l, e, R, s, m, args, below, meth, c⟩, ⟨Q, D, cA, A, ad0, n0, nL'⟩, Rt, Th⟩ := X
  obtain ⟨hx, hb, hml, rfl, hown, hsd, hK, hA, hRF, hRL, hRC, hRS, hret, hlt, hzq, hth⟩ := hX
  intro k hk L st w ce sl hop H locs ad ls hl hp
  unfold np_ibn at hop
  split at hop
  · rename_i y x r
    exact lv_irem hx hb d hop.1 (hk _ _ _ _ _ _ hop.2 H locs ad ls hl (hp.to hp.2.1 (np_c_cons trivial (np_c_tl (np_c_tl hp.2.2.1)))))
  · exact absurd hop id

theorem np_s_ladd {X : np_Ctx} {pc : Nat} {own : String} {cc : ByteArray} {nL RF RL RC RS : Nat} {rI : Instr} (hX : np_ok own cc nL RF RL RC RS rI X) (d : decode cc pc = .ok (.ladd, 1)) : np_S X pc (np_lb (fun x y => x + y)) := by
  obtain ⟨⟨p, l, e, R, s, m, args, below, meth, c⟩, ⟨Q, D, cA, A, ad0, n0, nL'⟩, Rt, Th⟩ := X
  obtain ⟨hx, hb, hml, rfl, hown, hsd, hK, hA, hRF, hRL, hRC, hRS, hret, hlt, hzq, hth⟩ := hX
  intro k hk L st w ce sl hop H locs ad ls hl hp
  unfold np_lb at hop
  split at hop
  · rename_i y x r
    exact lv_ladd hx hb d (hk _ _ _ _ _ _ hop H locs ad ls hl (hp.to hp.2.1 (np_c_cons trivial (np_c_tl (np_c_tl hp.2.2.1)))))
  · exact absurd hop id

theorem np_s_lsub {X : np_Ctx} {pc : Nat} {own : String} {cc : ByteArray} {nL RF RL RC RS : Nat} {rI : Instr} (hX : np_ok own cc nL RF RL RC RS rI X) (d : decode cc pc = .ok (.lsub, 1)) : np_S X pc (np_lb (fun x y => x - y)) := by
  obtain ⟨⟨p, l, e, R, s, m, args, below, meth, c⟩, ⟨Q, D, cA, A, ad0, n0, nL'⟩, Rt, Th⟩ := X
  obtain ⟨hx, hb, hml, rfl, hown, hsd, hK, hA, hRF, hRL, hRC, hRS, hret, hlt, hzq, hth⟩ := hX
  intro k hk L st w ce sl hop H locs ad ls hl hp
  unfold np_lb at hop
  split at hop
  · rename_i y x r
    exact lv_lsub hx hb d (hk _ _ _ _ _ _ hop H locs ad ls hl (hp.to hp.2.1 (np_c_cons trivial (np_c_tl (np_c_tl hp.2.2.1)))))
  · exact absurd hop id

theorem np_s_lmul {X : np_Ctx} {pc : Nat} {own : String} {cc : ByteArray} {nL RF RL RC RS : Nat} {rI : Instr} (hX : np_ok own cc nL RF RL RC RS rI X) (d : decode cc pc = .ok (.lmul, 1)) : np_S X pc (np_lb (fun x y => x * y)) := by
  obtain ⟨⟨p, l, e, R, s, m, args, below, meth, c⟩, ⟨Q, D, cA, A, ad0, n0, nL'⟩, Rt, Th⟩ := X
  obtain ⟨hx, hb, hml, rfl, hown, hsd, hK, hA, hRF, hRL, hRC, hRS, hret, hlt, hzq, hth⟩ := hX
  intro k hk L st w ce sl hop H locs ad ls hl hp
  unfold np_lb at hop
  split at hop
  · rename_i y x r
    exact lv_lmul hx hb d (hk _ _ _ _ _ _ hop H locs ad ls hl (hp.to hp.2.1 (np_c_cons trivial (np_c_tl (np_c_tl hp.2.2.1)))))
  · exact absurd hop id

theorem np_s_land {X : np_Ctx} {pc : Nat} {own : String} {cc : ByteArray} {nL RF RL RC RS : Nat} {rI : Instr} (hX : np_ok own cc nL RF RL RC RS rI X) (d : decode cc pc = .ok (.land, 1)) : np_S X pc (np_lb (fun x y => x &&& y)) := by
  obtain ⟨⟨p, l, e, R, s, m, args, below, meth, c⟩, ⟨Q, D, cA, A, ad0, n0, nL'⟩, Rt, Th⟩ := X
  obtain ⟨hx, hb, hml, rfl, hown, hsd, hK, hA, hRF, hRL, hRC, hRS, hret, hlt, hzq, hth⟩ := hX
  intro k hk L st w ce sl hop H locs ad ls hl hp
  unfold np_lb at hop
  split at hop
  · rename_i y x r
    exact lv_land hx hb d (hk _ _ _ _ _ _ hop H locs ad ls hl (hp.to hp.2.1 (np_c_cons trivial (np_c_tl (np_c_tl hp.2.2.1)))))
  · exact absurd hop id

theorem np_s_ldiv {X : np_Ctx} {pc : Nat} {own : String} {cc : ByteArray} {nL RF RL RC RS : Nat} {rI : Instr} (hX : np_ok own cc nL RF RL RC RS rI X) (d : decode cc pc = .ok (.ldiv, 1)) : np_S X pc (np_lbn (fun x y => x / y)) := by
  obtain ⟨⟨p, l, e, R, s, m, args, below, meth, c⟩, ⟨Q, D, cA, A, ad0, n0, nL'⟩, Rt, Th⟩ := X
  obtain ⟨hx, hb, hml, rfl, hown, hsd, hK, hA, hRF, hRL, hRC, hRS, hret, hlt, hzq, hth⟩ := hX
  intro k hk L st w ce sl hop H locs ad ls hl hp
  unfold np_lbn at hop
  split at hop
  · rename_i y x r
    exact lv_ldiv hx hb d hop.1 (hk _ _ _ _ _ _ hop.2 H locs ad ls hl (hp.to hp.2.1 (np_c_cons trivial (np_c_tl (np_c_tl hp.2.2.1)))))
  · exact absurd hop id

theorem np_s_lrem {X : np_Ctx} {pc : Nat} {own : String} {cc : ByteArray} {nL RF RL RC RS : Nat} {rI : Instr} (hX : np_ok own cc nL RF RL RC RS rI X) (d : decode cc pc = .ok (.lrem, 1)) : np_S X pc (np_lbn (fun x y => x - x / y * y)) := by
  obtain ⟨⟨p, l, e, R, s, m, args, below, meth, c⟩, ⟨Q, D, cA, A, ad0, n0, nL'⟩, Rt, Th⟩ := X
  obtain ⟨hx, hb, hml, rfl, hown, hsd, hK, hA, hRF, hRL, hRC, hRS, hret, hlt, hzq, hth⟩ := hX
  intro k hk L st w ce sl hop H locs ad ls hl hp
  unfold np_lbn at hop
  split at hop
  · rename_i y x r
    exact lv_lrem hx hb d hop.1 (hk _ _ _ _ _ _ hop.2 H locs ad ls hl (hp.to hp.2.1 (np_c_cons trivial (np_c_tl (np_c_tl hp.2.2.1)))))
  · exact absurd hop id

theorem np_s_ineg {X : np_Ctx} {pc : Nat} {own : String} {cc : ByteArray} {nL RF RL RC RS : Nat} {rI : Instr} (hX : np_ok own cc nL RF RL RC RS rI X) (d : decode cc pc = .ok (.ineg, 1)) : np_S X pc (np_iu (fun x => -x)) := by
  obtain ⟨⟨p, l, e, R, s, m, args, below, meth, c⟩, ⟨Q, D, cA, A, ad0, n0, nL'⟩, Rt, Th⟩ := X
  obtain ⟨hx, hb, hml, rfl, hown, hsd, hK, hA, hRF, hRL, hRC, hRS, hret, hlt, hzq, hth⟩ := hX
  intro k hk L st w ce sl hop H locs ad ls hl hp
  unfold np_iu at hop
  split at hop
  · rename_i x r
    exact lv_ineg hx hb d (hk _ _ _ _ _ _ hop H locs ad ls hl (hp.to hp.2.1 (np_c_cons trivial (np_c_tl hp.2.2.1))))
  · exact absurd hop id

theorem np_s_i2c {X : np_Ctx} {pc : Nat} {own : String} {cc : ByteArray} {nL RF RL RC RS : Nat} {rI : Instr} (hX : np_ok own cc nL RF RL RC RS rI X) (d : decode cc pc = .ok (.i2c, 1)) : np_S X pc (np_iu (fun x => (x.toUInt32 % 65536).toInt32)) := by
  obtain ⟨⟨p, l, e, R, s, m, args, below, meth, c⟩, ⟨Q, D, cA, A, ad0, n0, nL'⟩, Rt, Th⟩ := X
  obtain ⟨hx, hb, hml, rfl, hown, hsd, hK, hA, hRF, hRL, hRC, hRS, hret, hlt, hzq, hth⟩ := hX
  intro k hk L st w ce sl hop H locs ad ls hl hp
  unfold np_iu at hop
  split at hop
  · rename_i x r
    exact lv_i2c hx hb d rfl (hk _ _ _ _ _ _ hop H locs ad ls hl (hp.to hp.2.1 (np_c_cons trivial (np_c_tl hp.2.2.1))))
  · exact absurd hop id

theorem np_s_i2l {X : np_Ctx} {pc : Nat} {own : String} {cc : ByteArray} {nL RF RL RC RS : Nat} {rI : Instr} (hX : np_ok own cc nL RF RL RC RS rI X) (d : decode cc pc = .ok (.i2l, 1)) : np_S X pc (np_i2l) := by
  obtain ⟨⟨p, l, e, R, s, m, args, below, meth, c⟩, ⟨Q, D, cA, A, ad0, n0, nL'⟩, Rt, Th⟩ := X
  obtain ⟨hx, hb, hml, rfl, hown, hsd, hK, hA, hRF, hRL, hRC, hRS, hret, hlt, hzq, hth⟩ := hX
  intro k hk L st w ce sl hop H locs ad ls hl hp
  unfold np_i2l at hop
  split at hop
  · rename_i x r
    exact lv_i2l hx hb d rfl (hk _ _ _ _ _ _ hop H locs ad ls hl (hp.to hp.2.1 (np_c_cons trivial (np_c_tl hp.2.2.1))))
  · exact absurd hop id

theorem np_s_l2i {X : np_Ctx} {pc : Nat} {own : String} {cc : ByteArray} {nL RF RL RC RS : Nat} {rI : Instr} (hX : np_ok own cc nL RF RL RC RS rI X) (d : decode cc pc = .ok (.l2i, 1)) : np_S X pc (np_l2i) := by
  obtain ⟨⟨p, l, e, R, s, m, args, below, meth, c⟩, ⟨Q, D, cA, A, ad0, n0, nL'⟩, Rt, Th⟩ := X
  obtain ⟨hx, hb, hml, rfl, hown, hsd, hK, hA, hRF, hRL, hRC, hRS, hret, hlt, hzq, hth⟩ := hX
  intro k hk L st w ce sl hop H locs ad ls hl hp
  unfold np_l2i at hop
  split at hop
  · rename_i x r
    exact lv_l2i hx hb d rfl (hk _ _ _ _ _ _ hop H locs ad ls hl (hp.to hp.2.1 (np_c_cons trivial (np_c_tl hp.2.2.1))))
  · exact absurd hop id

theorem np_s_lcmp {X : np_Ctx} {pc : Nat} {own : String} {cc : ByteArray} {nL RF RL RC RS : Nat} {rI : Instr} (hX : np_ok own cc nL RF RL RC RS rI X) (d : decode cc pc = .ok (.lcmp, 1)) : np_S X pc (np_lcmp) := by
  obtain ⟨⟨p, l, e, R, s, m, args, below, meth, c⟩, ⟨Q, D, cA, A, ad0, n0, nL'⟩, Rt, Th⟩ := X
  obtain ⟨hx, hb, hml, rfl, hown, hsd, hK, hA, hRF, hRL, hRC, hRS, hret, hlt, hzq, hth⟩ := hX
  intro k hk L st w ce sl hop H locs ad ls hl hp
  unfold np_lcmp at hop
  split at hop
  · rename_i y x r
    exact W.lcmp hx hb d (hk _ _ _ _ _ _ hop H locs ad ls hl (hp.to hp.2.1 (np_c_cons trivial (np_c_tl (np_c_tl hp.2.2.1)))))
  · exact absurd hop id

theorem np_s_dup {X : np_Ctx} {pc : Nat} {own : String} {cc : ByteArray} {nL RF RL RC RS : Nat} {rI : Instr} (hX : np_ok own cc nL RF RL RC RS rI X) (d : decode cc pc = .ok (.dup, 1)) : np_S X pc (np_dup) := by
  obtain ⟨⟨p, l, e, R, s, m, args, below, meth, c⟩, ⟨Q, D, cA, A, ad0, n0, nL'⟩, Rt, Th⟩ := X
  obtain ⟨hx, hb, hml, rfl, hown, hsd, hK, hA, hRF, hRL, hRC, hRS, hret, hlt, hzq, hth⟩ := hX
  intro k hk L st w ce sl hop H locs ad ls hl hp
  unfold np_dup at hop
  split at hop
  · rename_i v r
    exact lv_dup hx hb d (by rw [np_v_cat]; exact hop.1) (hk _ _ _ _ _ _ hop.2 H locs ad ls hl (hp.to hp.2.1 (np_c_cons (np_c_hd hp.2.2.1) hp.2.2.1)))
  · exact absurd hop id

theorem np_s_dup2 {X : np_Ctx} {pc : Nat} {own : String} {cc : ByteArray} {nL RF RL RC RS : Nat} {rI : Instr} (hX : np_ok own cc nL RF RL RC RS rI X) (d : decode cc pc = .ok (.dup2, 1)) : np_S X pc (np_dup2) := by
  obtain ⟨⟨p, l, e, R, s, m, args, below, meth, c⟩, ⟨Q, D, cA, A, ad0, n0, nL'⟩, Rt, Th⟩ := X
  obtain ⟨hx, hb, hml, rfl, hown, hsd, hK, hA, hRF, hRL, hRC, hRS, hret, hlt, hzq, hth⟩ := hX
  intro k hk L st w ce sl hop H locs ad ls hl hp
  unfold np_dup2 at hop
  split at hop
  · rename_i v u r
    exact lv_dup2_11 hx hb d (by rw [np_v_cat]; exact hop.1) (by rw [np_v_cat]; exact hop.2.1) (hk _ _ _ _ _ _ hop.2.2 H locs ad ls hl (hp.to hp.2.1 (np_c_cons (np_c_hd hp.2.2.1) (np_c_cons (np_c_hd (np_c_tl hp.2.2.1)) hp.2.2.1))))
  · exact absurd hop id

theorem np_s_pop {X : np_Ctx} {pc : Nat} {own : String} {cc : ByteArray} {nL RF RL RC RS : Nat} {rI : Instr} (hX : np_ok own cc nL RF RL RC RS rI X) (d : decode cc pc = .ok (.pop, 1)) : np_S X pc (np_pop) := by
  obtain ⟨⟨p, l, e, R, s, m, args, below, meth, c⟩, ⟨Q, D, cA, A, ad0, n0, nL'⟩, Rt, Th⟩ := X
  obtain ⟨hx, hb, hml, rfl, hown, hsd, hK, hA, hRF, hRL, hRC, hRS, hret, hlt, hzq, hth⟩ := hX
  intro k hk L st w ce sl hop H locs ad ls hl hp
  unfold np_pop at hop
  split at hop
  · rename_i v r
    exact lv_pop hx hb d (by rw [np_v_cat]; exact hop.1) (hk _ _ _ _ _ _ hop.2 H locs ad ls hl (hp.to hp.2.1 (np_c_tl hp.2.2.1)))
  · exact absurd hop id

theorem np_s_if_eq {X : np_Ctx} {pc : Nat} {own : String} {cc : ByteArray} {nL RF RL RC RS : Nat} {rI : Instr} (hX : np_ok own cc nL RF RL RC RS rI X) {off : Int} {tgt : Nat} (d : decode cc pc = .ok (.ifCond .eq off, 3)) (ht : (pc : Int) + off = (tgt : Int)) : np_S X pc (np_if (fun x => x = 0) tgt) := by
  obtain ⟨⟨p, l, e, R, s, m, args, below, meth, c⟩, ⟨Q, D, cA, A, ad0, n0, nL'⟩, Rt, Th⟩ := X
  obtain ⟨hx, hb, hml, rfl, hown, hsd, hK, hA, hRF, hRL, hRC, hRS, hret, hlt, hzq, hth⟩ := hX
  intro k hk L st w ce sl hop H locs ad ls hl hp
  unfold np_if at hop
  split at hop
  · rename_i x r
    exact lv_if_eq hx hb d ht (fun q => hk _ _ _ _ _ _ (hop.1 q) H locs ad ls hl (hp.to hp.2.1 (np_c_tl hp.2.2.1))) (fun q => hk _ _ _ _ _ _ (hop.2 q) H locs ad ls hl (hp.to hp.2.1 (np_c_tl hp.2.2.1)))
  · exact absurd hop id

theorem np_s_if_lt {X : np_Ctx} {pc : Nat} {own : String} {cc : ByteArray} {nL RF RL RC RS : Nat} {rI : Instr} (hX : np_ok own cc nL RF RL RC RS rI X) {off : Int} {tgt : Nat} (d : decode cc pc = .ok (.ifCond .lt off, 3)) (ht : (pc : Int) + off = (tgt : Int)) : np_S X pc (np_if (fun x => x < 0) tgt) := by
  obtain ⟨⟨p, l, e, R, s, m, args, below, meth, c⟩, ⟨Q, D, cA, A, ad0, n0, nL'⟩, Rt, Th⟩ := X
  obtain ⟨hx, hb, hml, rfl, hown, hsd, hK, hA, hRF, hRL, hRC, hRS, hret, hlt, hzq, hth⟩ := hX
  intro k hk L st w ce sl hop H locs ad ls hl hp
  unfold np_if at hop
  split at hop
  · rename_i x r
    exact lv_if_lt hx hb d ht (fun q => hk _ _ _ _ _ _ (hop.1 q) H locs ad ls hl (hp.to hp.2.1 (np_c_tl hp.2.2.1))) (fun q => hk _ _ _ _ _ _ (hop.2 q) H locs ad ls hl (hp.to hp.2.1 (np_c_tl hp.2.2.1)))
  · exact absurd hop id

theorem np_s_if_ge {X : np_Ctx} {pc : Nat} {own : String} {cc : ByteArray} {nL RF RL RC RS : Nat} {rI : Instr} (hX : np_ok own cc nL RF RL RC RS rI X) {off : Int} {tgt : Nat} (d : decode cc pc = .ok (.ifCond .ge off, 3)) (ht : (pc : Int) + off = (tgt : Int)) : np_S X pc (np_if (fun x => 0 ≤ x) tgt) := by
  obtain ⟨⟨p, l, e, R, s, m, args, below, meth, c⟩, ⟨Q, D, cA, A, ad0, n0, nL'⟩, Rt, Th⟩ := X
  obtain ⟨hx, hb, hml, rfl, hown, hsd, hK, hA, hRF, hRL, hRC, hRS, hret, hlt, hzq, hth⟩ := hX
  intro k hk L st w ce sl hop H locs ad ls hl hp
  unfold np_if at hop
  split at hop
  · rename_i x r
    exact lv_if_ge hx hb d ht (fun q => hk _ _ _ _ _ _ (hop.1 q) H locs ad ls hl (hp.to hp.2.1 (np_c_tl hp.2.2.1))) (fun q => hk _ _ _ _ _ _ (hop.2 q) H locs ad ls hl (hp.to hp.2.1 (np_c_tl hp.2.2.1)))
  · exact absurd hop id

theorem np_s_if_gt {X : np_Ctx} {pc : Nat} {own : String} {cc : ByteArray} {nL RF RL RC RS : Nat} {rI : Instr} (hX : np_ok own cc nL RF RL RC RS rI X) {off : Int} {tgt : Nat} (d : decode cc pc = .ok (.ifCond .gt off, 3)) (ht : (pc : Int) + off = (tgt : Int)) : np_S X pc (np_if (fun x => 0 < x) tgt) := by
  obtain ⟨⟨p, l, e, R, s, m, args, below, meth, c⟩, ⟨Q, D, cA, A, ad0, n0, nL'⟩, Rt, Th⟩ := X
  obtain ⟨hx, hb, hml, rfl, hown, hsd, hK, hA, hRF, hRL, hRC, hRS, hret, hlt, hzq, hth⟩ := hX
  intro k hk L st w ce sl hop H locs ad ls hl hp
  unfold np_if at hop
  split at hop
  · rename_i x r
    exact lv_if_gt hx hb d ht (fun q => hk _ _ _ _ _ _ (hop.1 q) H locs ad ls hl (hp.to hp.2.1 (np_c_tl hp.2.2.1))) (fun q => hk _ _ _ _ _ _ (hop.2 q) H locs ad ls hl (hp.to hp.2.1 (np_c_tl hp.2.2.1)))
  · exact absurd hop id

theorem np_s_if_le {X : np_Ctx} {pc : Nat} {own : String} {cc : ByteArray} {nL RF RL RC RS : Nat} {rI : Instr} (hX : np_ok own cc nL RF RL RC RS rI X) {off : Int} {tgt : Nat} (d : decode cc pc = .ok (.ifCond .le off, 3)) (ht : (pc : Int) + off = (tgt : Int)) : np_S X pc (np_if (fun x => x ≤ 0) tgt) := by
  obtain ⟨⟨p, l, e, R, s, m, args, below, meth, c⟩, ⟨Q, D, cA, A, ad0, n0, nL'⟩, Rt, Th⟩ := X
  obtain ⟨hx, hb, hml, rfl, hown, hsd, hK, hA, hRF, hRL, hRC, hRS, hret, hlt, hzq, hth⟩ := hX
  intro k hk L st w ce sl hop H locs ad ls hl hp
  unfold np_if at hop
  split at hop
  · rename_i x r
    exact lv_if_le hx hb d ht (fun q => hk _ _ _ _ _ _ (hop.1 q) H locs ad ls hl (hp.to hp.2.1 (np_c_tl hp.2.2.1))) (fun q => hk _ _ _ _ _ _ (hop.2 q) H locs ad ls hl (hp.to hp.2.1 (np_c_tl hp.2.2.1)))
  · exact absurd hop id

theorem np_s_if_ne {X : np_Ctx} {pc : Nat} {own : String} {cc : ByteArray} {nL RF RL RC RS : Nat} {rI : Instr} (hX : np_ok own cc nL RF RL RC RS rI X) {off : Int} {tgt : Nat} (d : decode cc pc = .ok (.ifCond .ne off, 3)) (ht : (pc : Int) + off = (tgt : Int)) : np_S X pc (np_ifne tgt) := by
  obtain ⟨⟨p, l, e, R, s, m, args, below, meth, c⟩, ⟨Q, D, cA, A, ad0, n0, nL'⟩, Rt, Th⟩ := X
  obtain ⟨hx, hb, hml, rfl, hown, hsd, hK, hA, hRF, hRL, hRC, hRS, hret, hlt, hzq, hth⟩ := hX
  intro k hk L st w ce sl hop H locs ad ls hl hp
  unfold np_ifne at hop
  split at hop
  · rename_i x r
    exact lv_if_ne hx hb d ht (fun q => hk _ _ _ _ _ _ (hop.2 q) H locs ad ls hl (hp.to hp.2.1 (np_c_tl hp.2.2.1))) (fun q => hk _ _ _ _ _ _ (hop.1 q) H locs ad ls hl (hp.to hp.2.1 (np_c_tl hp.2.2.1)))
  · exact absurd hop id

theorem np_s_icmp_eq {X : np_Ctx} {pc : Nat} {own : String} {cc : ByteArray} {nL RF RL RC RS : Nat} {rI : Instr} (hX : np_ok own cc nL RF RL RC RS rI X) {off : Int} {tgt : Nat} (d : decode cc pc = .ok (.if_icmp .eq off, 3)) (ht : (pc : Int) + off = (tgt : Int)) : np_S X pc (np_ic (fun x y => x = y) tgt) := by
  obtain ⟨⟨p, l, e, R, s, m, args, below, meth, c⟩, ⟨Q, D, cA, A, ad0, n0, nL'⟩, Rt, Th⟩ := X
  obtain ⟨hx, hb, hml, rfl, hown, hsd, hK, hA, hRF, hRL, hRC, hRS, hret, hlt, hzq, hth⟩ := hX
  intro k hk L st w ce sl hop H locs ad ls hl hp
  unfold np_ic at hop
  split at hop
  · rename_i y x r
    exact lv_icmp_eq hx hb d ht (fun q => hk _ _ _ _ _ _ (hop.1 q) H locs ad ls hl (hp.to hp.2.1 (np_c_tl (np_c_tl hp.2.2.1)))) (fun q => hk _ _ _ _ _ _ (hop.2 q) H locs ad ls hl (hp.to hp.2.1 (np_c_tl (np_c_tl hp.2.2.1))))
  · exact absurd hop id

theorem np_s_icmp_lt {X : np_Ctx} {pc : Nat} {own : String} {cc : ByteArray} {nL RF RL RC RS : Nat} {rI : Instr} (hX : np_ok own cc nL RF RL RC RS rI X) {off : Int} {tgt : Nat} (d : decode cc pc = .ok (.if_icmp .lt off, 3)) (ht : (pc : Int) + off = (tgt : Int)) : np_S X pc (np_ic (fun x y => x < y) tgt) := by
  obtain ⟨⟨p, l, e, R, s, m, args, below, meth, c⟩, ⟨Q, D, cA, A, ad0, n0, nL'⟩, Rt, Th⟩ := X
  obtain ⟨hx, hb, hml, rfl, hown, hsd, hK, hA, hRF, hRL, hRC, hRS, hret, hlt, hzq, hth⟩ := hX
  intro k hk L st w ce sl hop H locs ad ls hl hp
  unfold np_ic at hop
  split at hop
  · rename_i y x r
    exact lv_icmp_lt hx hb d ht (fun q => hk _ _ _ _ _ _ (hop.1 q) H locs ad ls hl (hp.to hp.2.1 (np_c_tl (np_c_tl hp.2.2.1)))) (fun q => hk _ _ _ _ _ _ (hop.2 q) H locs ad ls hl (hp.to hp.2.1 (np_c_tl (np_c_tl hp.2.2.1))))
  · exact absurd hop id

theorem np_s_icmp_ge {X : np_Ctx} {pc : Nat} {own : String} {cc : ByteArray} {nL RF RL RC RS : Nat} {rI : Instr} (hX : np_ok own cc nL RF RL RC RS rI X) {off : Int} {tgt : Nat} (d : decode cc pc = .ok (.if_icmp .ge off, 3)) (ht : (pc : Int) + off = (tgt : Int)) : np_S X pc (np_ic (fun x y => y ≤ x) tgt) := by
  obtain ⟨⟨p, l, e, R, s, m, args, below, meth, c⟩, ⟨Q, D, cA, A, ad0, n0, nL'⟩, Rt, Th⟩ := X
  obtain ⟨hx, hb, hml, rfl, hown, hsd, hK, hA, hRF, hRL, hRC, hRS, hret, hlt, hzq, hth⟩ := hX
  intro k hk L st w ce sl hop H locs ad ls hl hp
  unfold np_ic at hop
  split at hop
  · rename_i y x r
    exact lv_icmp_ge hx hb d ht (fun q => hk _ _ _ _ _ _ (hop.1 q) H locs ad ls hl (hp.to hp.2.1 (np_c_tl (np_c_tl hp.2.2.1)))) (fun q => hk _ _ _ _ _ _ (hop.2 q) H locs ad ls hl (hp.to hp.2.1 (np_c_tl (np_c_tl hp.2.2.1))))
  · exact absurd hop id

theorem np_s_icmp_gt {X : np_Ctx} {pc : Nat} {own : String} {cc : ByteArray} {nL RF RL RC RS : Nat} {rI : Instr} (hX : np_ok own cc nL RF RL RC RS rI X) {off : Int} {tgt : Nat} (d : decode cc pc = .ok (.if_icmp .gt off, 3)) (ht : (pc : Int) + off = (tgt : Int)) : np_S X pc (np_ic (fun x y => y < x) tgt) := by
  obtain ⟨⟨p, l, e, R, s, m, args, below, meth, c⟩, ⟨Q, D, cA, A, ad0, n0, nL'⟩, Rt, Th⟩ := X
  obtain ⟨hx, hb, hml, rfl, hown, hsd, hK, hA, hRF, hRL, hRC, hRS, hret, hlt, hzq, hth⟩ := hX
  intro k hk L st w ce sl hop H locs ad ls hl hp
  unfold np_ic at hop
  split at hop
  · rename_i y x r
    exact lv_icmp_gt hx hb d ht (fun q => hk _ _ _ _ _ _ (hop.1 q) H locs ad ls hl (hp.to hp.2.1 (np_c_tl (np_c_tl hp.2.2.1)))) (fun q => hk _ _ _ _ _ _ (hop.2 q) H locs ad ls hl (hp.to hp.2.1 (np_c_tl (np_c_tl hp.2.2.1))))
  · exact absurd hop id

theorem np_s_icmp_le {X : np_Ctx} {pc : Nat} {own : String} {cc : ByteArray} {nL RF RL RC RS : Nat} {rI : Instr} (hX : np_ok own cc nL RF RL RC RS rI X) {off : Int} {tgt : Nat} (d : decode cc pc = .ok (.if_icmp .le off, 3)) (ht : (pc : Int) + off = (tgt : Int)) : np_S X pc (np_ic (fun x y => x ≤ y) tgt) := by
  obtain ⟨⟨p, l, e, R, s, m, args, below, meth, c⟩, ⟨Q, D, cA, A, ad0, n0, nL'⟩, Rt, Th⟩ := X
  obtain ⟨hx, hb, hml, rfl, hown, hsd, hK, hA, hRF, hRL, hRC, hRS, hret, hlt, hzq, hth⟩ := hX
  intro k hk L st w ce sl hop H locs ad ls hl hp
  unfold np_ic at hop
  split at hop
  · rename_i y x r
    exact lv_icmp_le hx hb d ht (fun q => hk _ _ _ _ _ _ (hop.1 q) H locs ad ls hl (hp.to hp.2.1 (np_c_tl (np_c_tl hp.2.2.1)))) (fun q => hk _ _ _ _ _ _ (hop.2 q) H locs ad ls hl (hp.to hp.2.1 (np_c_tl (np_c_tl hp.2.2.1))))
  · exact absurd hop id

theorem np_s_icmp_ne {X : np_Ctx} {pc : Nat} {own : String} {cc : ByteArray} {nL RF RL RC RS : Nat} {rI : Instr} (hX : np_ok own cc nL RF RL RC RS rI X) {off : Int} {tgt : Nat} (d : decode cc pc = .ok (.if_icmp .ne off, 3)) (ht : (pc : Int) + off = (tgt : Int)) : np_S X pc (np_icne tgt) := by
  obtain ⟨⟨p, l, e, R, s, m, args, below, meth, c⟩, ⟨Q, D, cA, A, ad0, n0, nL'⟩, Rt, Th⟩ := X
  obtain ⟨hx, hb, hml, rfl, hown, hsd, hK, hA, hRF, hRL, hRC, hRS, hret, hlt, hzq, hth⟩ := hX
  intro k hk L st w ce sl hop H locs ad ls hl hp
  unfold np_icne at hop
  split at hop
  · rename_i y x r
    exact lv_icmp_ne hx hb d ht (fun q => hk _ _ _ _ _ _ (hop.2 q) H locs ad ls hl (hp.to hp.2.1 (np_c_tl (np_c_tl hp.2.2.1)))) (fun q => hk _ _ _ _ _ _ (hop.1 q) H locs ad ls hl (hp.to hp.2.1 (np_c_tl (np_c_tl hp.2.2.1))))
  · exact absurd hop id

theorem np_s_goto {X : np_Ctx} {pc : Nat} {own : String} {cc : ByteArray} {nL RF RL RC RS : Nat} {rI : Instr} (hX : np_ok own cc nL RF RL RC RS rI X) {off : Int} {tgt : Nat} (d : decode cc pc = .ok (.goto off, 3)) (ht : (pc : Int) + off = (tgt : Int)) : np_S X pc (np_goto tgt) := by
  obtain ⟨⟨p, l, e, R, s, m, args, below, meth, c⟩, ⟨Q, D, cA, A, ad0, n0, nL'⟩, Rt, Th⟩ := X
  obtain ⟨hx, hb, hml, rfl, hown, hsd, hK, hA, hRF, hRL, hRC, hRS, hret, hlt, hzq, hth⟩ := hX
  intro k hk L st w ce sl hop H locs ad ls hl hp
  exact lv_goto hx hb d ht (hk _ _ _ _ _ _ hop H locs ad ls hl hp)

theorem np_s_ifnull {X : np_Ctx} {pc : Nat} {own : String} {cc : ByteArray} {nL RF RL RC RS : Nat} {rI : Instr} (hX : np_ok own cc nL RF RL RC RS rI X) {off : Int} {tgt : Nat} (d : decode cc pc = .ok (.ifnull off, 3)) (ht : (pc : Int) + off = (tgt : Int)) : np_S X pc (np_ifnull tgt) := by
  obtain ⟨⟨p, l, e, R, s, m, args, below, meth, c⟩, ⟨Q, D, cA, A, ad0, n0, nL'⟩, Rt, Th⟩ := X
  obtain ⟨hx, hb, hml, rfl, hown, hsd, hK, hA, hRF, hRL, hRC, hRS, hret, hlt, hzq, hth⟩ := hX
  intro k hk L st w ce sl hop H locs ad ls hl hp
  unfold np_ifnull at hop
  split at hop
  · exact lv_ifnull hx hb d (hk _ _ _ _ _ _ hop H locs ad ls hl (hp.to hp.2.1 (np_c_tl hp.2.2.1)))
  · exact lv_ifnullN hx hb d ht (hk _ _ _ _ _ _ hop H locs ad ls hl (hp.to hp.2.1 (np_c_tl hp.2.2.1)))
  · exact absurd hop id

theorem np_s_ifnonnull {X : np_Ctx} {pc : Nat} {own : String} {cc : ByteArray} {nL RF RL RC RS : Nat} {rI : Instr} (hX : np_ok own cc nL RF RL RC RS rI X) {off : Int} {tgt : Nat} (d : decode cc pc = .ok (.ifnonnull off, 3)) (ht : (pc : Int) + off = (tgt : Int)) : np_S X pc (np_ifnonnull tgt) := by
  obtain ⟨⟨p, l, e, R, s, m, args, below, meth, c⟩, ⟨Q, D, cA, A, ad0, n0, nL'⟩, Rt, Th⟩ := X
  obtain ⟨hx, hb, hml, rfl, hown, hsd, hK, hA, hRF, hRL, hRC, hRS, hret, hlt, hzq, hth⟩ := hX
  intro k hk L st w ce sl hop H locs ad ls hl hp
  unfold np_ifnonnull at hop
  split at hop
  · exact lv_ifnonnull hx hb d ht (hk _ _ _ _ _ _ hop H locs ad ls hl (hp.to hp.2.1 (np_c_tl hp.2.2.1)))
  · exact lv_ifnonnullN hx hb d (hk _ _ _ _ _ _ hop H locs ad ls hl (hp.to hp.2.1 (np_c_tl hp.2.2.1)))
  · exact absurd hop id

theorem np_swg_at {k : Nat → Prop} {x : Int32} : ∀ {tgts : List Nat} {lo : Int} (_ : np_swg k tgts lo x) (j : Nat) (t : Nat), tgts[j]? = some t → x.toInt = lo + j → k t := by
  intro tgts
  induction tgts with
  | nil => intro lo h j t hj; simp at hj
  | cons a r ih =>
    intro lo h j t hj hx
    obtain ⟨h1, h2⟩ := h
    cases j with
    | zero =>
      rw [List.getElem?_cons_zero] at hj
      cases hj
      exact h1 (by simpa using hx)
    | succ j =>
      rw [List.getElem?_cons_succ] at hj
      exact ih h2 j t hj (by rw [hx]; omega)

theorem np_s_tsw {X : np_Ctx} {pc : Nat} {own : String} {cc : ByteArray} {nL RF RL RC RS : Nat} {rI : Instr} (hX : np_ok own cc nL RF RL RC RS rI X) {dflt lo hi : Int} {offs : Array Int} {len : Nat} {tgts : List Nat} {td : Nat} (d : decode cc pc = .ok (.tableswitch dflt lo hi offs, len)) (hd : (pc : Int) + dflt = (td : Int)) (ho : offs.toList.map (fun o => (pc : Int) + o) = tgts.map (fun (t : Nat) => (t : Int))) (hh : hi = lo + ((tgts.length : Nat) : Int) - 1) : np_S X pc (np_tsw lo hi tgts td) := by
  obtain ⟨⟨p, l, e, R, s, m, args, below, meth, c⟩, ⟨Q, D, cA, A, ad0, n0, nL'⟩, Rt, Th⟩ := X
  obtain ⟨hx, hb, hml, rfl, hown, hsd, hK, hA, hRF, hRL, hRC, hRS, hret, hlt, hzq, hth⟩ := hX
  intro k hk L st w ce sl hop H locs ad ls hl hp
  unfold np_tsw at hop
  split at hop
  · rename_i x r
    by_cases hq : x.toInt < lo ∨ hi < x.toInt
    · exact lv_tableOut hx hb d hq hd (hk _ _ _ _ _ _ (hop.1 hq) H locs ad ls hl (hp.to hp.2.1 (np_c_tl hp.2.2.1)))
    · have h1 : ¬ x.toInt < lo := fun z => hq (Or.inl z)
      have h2 : ¬ hi < x.toInt := fun z => hq (Or.inr z)
      have hlen : offs.toList.length = tgts.length := by
        have := congrArg List.length ho
        simpa using this
      have hj : (x.toInt - lo).toNat < tgts.length := by omega
      have ht : tgts[(x.toInt - lo).toNat]? = some tgts[(x.toInt - lo).toNat] := List.getElem?_eq_getElem hj
      have hj2 : (x.toInt - lo).toNat < offs.toList.length := by rw [hlen]; exact hj
      have hof : offs.toList[(x.toInt - lo).toNat]? = some offs.toList[(x.toInt - lo).toNat] := List.getElem?_eq_getElem hj2
      have he : (pc : Int) + offs.toList[(x.toInt - lo).toNat] = ((tgts[(x.toInt - lo).toNat] : Nat) : Int) := by
        have h9 := congrArg (fun z => z[(x.toInt - lo).toNat]?) ho
        simp only [List.getElem?_map, hof, ht, Option.map_some] at h9
        exact Option.some.inj h9
      exact lv_tableIn hx hb d h1 h2 (by rw [← Array.getElem?_toList]; exact hof) he (hk _ _ _ _ _ _ (np_swg_at hop.2 _ _ ht (by omega)) H locs ad ls hl (hp.to hp.2.1 (np_c_tl hp.2.2.1)))
  · exact absurd hop id

theorem np_s_ret {X : np_Ctx} {pc : Nat} {own : String} {cc : ByteArray} {nL RF RL RC RS : Nat} {rI : Instr} (hX : np_ok own cc nL RF RL RC RS rI X) (d : decode cc pc = .ok (rI, 1)) : np_S X pc (np_ret X.2.2.1) := by
  obtain ⟨⟨p, l, e, R, s, m, args, below, meth, c⟩, ⟨Q, D, cA, A, ad0, n0, nL'⟩, Rt, Th⟩ := X
  obtain ⟨hx, hb, hml, rfl, hown, hsd, hK, hA, hRF, hRL, hRC, hRS, hret, hlt, hzq, hth⟩ := hX
  intro k hk L st w ce sl hop H locs ad ls hl hp
  exact hret st w ce sl hop pc H locs ad ls d (hp.to (fun _ h => nomatch h) hp.2.2.1)

def np_throw (Th : np_Th) (i : Nat) : np_Op := fun _ _ _ st w ce sl => (st.map fun v => v.category).sum ≤ 8 ∧ Th i w ce sl
theorem np_s_throw {X : np_Ctx} {pc : Nat} {own : String} {cc : ByteArray} {nL RF RL RC RS : Nat} {rI : Instr} (hX : np_ok own cc nL RF RL RC RS rI X) {i : Nat} (d : np_tw own cc i pc) : np_S X pc (np_throw X.2.2.2 i) := by
  obtain ⟨⟨p, l, e, R, s, m, args, below, meth, c⟩, ⟨Q, D, cA, A, ad0, n0, nL'⟩, Rt, Th⟩ := X
  obtain ⟨hx, hb, hml, rfl, hown, hsd, hK, hA, hRF, hRL, hRC, hRS, hret, hlt, hzq, hth⟩ := hX
  intro k hk L st w ce sl hop H locs ad ls hl hp
  exact hth i w ce sl hop.2 pc st H locs ad ls d hl.1 hop.1 (hp.to (fun _ h => nomatch h) (fun _ h => nomatch h))
end
section
/-! Heap rows: reads, writes, new cells. -/
theorem np_O.weaken {D : va_G} {cA : FieldType → ClassId} {A B : Nat → Prop} {ad : Nat → Nat} {w : np_W} {H : Heap} (h : np_O D cA A ad w H) (hAB : ∀ k e, w.2 k = some e → A (ad k) → B (ad k)) : np_O D cA B ad w H :=
  ⟨fun k e hk => ⟨(h.1 k e hk).1, hAB k e hk (h.1 k e hk).2.1, (h.1 k e hk).2.2⟩, h.2⟩
theorem np_O.one {D : va_G} {cA : FieldType → ClassId} {A : Nat → Prop} {ad : Nat → Nat} {w : np_W} {H : Heap} (h : np_O D cA A ad w H) {k : Nat} {e : np_E} (hk : w.2 k = some e) : va_P D vwCl [(ad k, np_e cA ad e)] H := fun i q hi => by
  have hz : i < 1 := (List.getElem?_eq_some_iff.mp hi).1
  rw [show i = 0 by omega] at hi
  cases hi
  exact (h.1 k e hk).1
theorem np_O.set {D : va_G} {cA : FieldType → ClassId} {A : Nat → Prop} {ad : Nat → Nat} {w : np_W} {H H1 : Heap} (h : np_O D cA A ad w H) {k : Nat} {e e' : np_E} (hk : w.2 k = some e) (he : va_at D vwCl (ad k, np_e cA ad e') H1) (oq : ∀ q : Nat, q ≠ ad k → H1[q]? = H[q]?) (hc : np_ce w.1 e') (ht : np_te e') : np_O D cA A ad (w.1, np_up w.2 k e') H1 := by
  have key : ∀ (j : Nat) (x : np_E), np_up w.2 k e' j = some x → (j = k ∧ x = e') ∨ (j ≠ k ∧ w.2 j = some x) := by
    intro j x hj
    by_cases hjk : j = k
    · subst hjk
      rw [np_up_s] at hj
      cases hj
      exact Or.inl ⟨rfl, rfl⟩
    · rw [np_up_n _ _ hjk] at hj
      exact Or.inr ⟨hjk, hj⟩
  have key2 : ∀ (j : Nat) (x : np_E), np_up w.2 k e' j = some x → ∃ y, w.2 j = some y := by
    intro j x hj
    rcases key j x hj with ⟨rfl, rfl⟩ | ⟨-, h2⟩
    · exact ⟨e, hk⟩
    · exact ⟨x, h2⟩
  refine ⟨fun j x hj => ?_, fun i j x y hi hj hij => ?_⟩
  · rcases key j x hj with ⟨rfl, rfl⟩ | ⟨h1, h2⟩
    · exact ⟨he, (h.1 _ e hk).2.1, hc, ht, (h.1 _ e hk).2.2.2.2⟩
    · exact ⟨(h.1 j x h2).1.kept (oq _ (fun z => h1 (h.2 j k x e h2 hk z))), (h.1 j x h2).2⟩
  · obtain ⟨x', hx'⟩ := key2 i x hi
    obtain ⟨y', hy'⟩ := key2 j y hj
    exact h.2 i j x' y' hx' hy' hij
theorem np_O.push {D : va_G} {cA : FieldType → ClassId} {A : Nat → Prop} {ad : Nat → Nat} {w : np_W} {H H1 : Heap} (h : np_O D cA A ad w H) {e : np_E} (he : va_at D vwCl (H.size, np_e cA ad e) H1) (oq : ∀ q : Nat, q < H.size → H1[q]? = H[q]?) (hA : A H.size) (hc : np_ce w.1 e) (ht : np_te e) : np_O D cA A (va_up ad w.1 H.size) (w.1 + 1, np_up w.2 w.1 e) H1 := by
  have hag : ∀ k, k < w.1 → va_up ad w.1 H.size k = ad k := fun k hk => va_up_ne _ _ (Nat.ne_of_lt hk)
  have key : ∀ (j : Nat) (x : np_E), np_up w.2 w.1 e j = some x → (j = w.1 ∧ x = e) ∨ (j < w.1 ∧ w.2 j = some x) := by
    intro j x hj
    by_cases hjk : j = w.1
    · subst hjk
      rw [np_up_s] at hj
      cases hj
      exact Or.inl ⟨rfl, rfl⟩
    · rw [np_up_n _ _ hjk] at hj
      exact Or.inr ⟨(h.1 j x hj).2.2.2.2, hj⟩
  refine ⟨fun j x hj => ?_, fun i j x y hi hj hij => ?_⟩
  · rcases key j x hj with ⟨rfl, rfl⟩ | ⟨h1, h2⟩
    · refine ⟨?_, ?_, hc.mono (Nat.le_succ _), ht, Nat.lt_succ_self _⟩
      · rw [va_up_self, np_e.cong hag hc]
        exact he
      · rw [va_up_self]
        exact hA
    · obtain ⟨g1, g2, g3, g4, g5⟩ := h.1 j x h2
      refine ⟨?_, ?_, g3.mono (Nat.le_succ _), g4, Nat.lt_succ_of_lt g5⟩
      · rw [hag j h1, np_e.cong hag g3]
        exact g1.kept (oq _ g1.lt)
      · rw [hag j h1]
        exact g2
  · rcases key i x hi with ⟨rfl, rfl⟩ | ⟨h1, h2⟩ <;> rcases key j y hj with ⟨rfl, rfl⟩ | ⟨h3, h4⟩
    · rfl
    · rw [va_up_self, hag j h3] at hij
      have := ((h.1 j y h4).1).lt
      exact absurd hij (Nat.ne_of_gt this)
    · rw [va_up_self, hag i h1] at hij
      have := ((h.1 i x h2).1).lt
      exact absurd hij (Nat.ne_of_lt this)
    · rw [hag i h1, hag j h3] at hij
      exact h.2 i j x y h2 h4 hij
theorem np_Kt {D : va_G} {cA : FieldType → ClassId} {s : State} (hK : va_K D vwCl (np_tys.map fun ty => (cA ty, ty)) s) {ty : FieldType} (h : ty ∈ np_tys) : ArrOfT s (cA ty) ty ∧ va_RA s (cA ty) ty := by
  obtain ⟨i, hi⟩ := List.getElem?_of_mem (List.mem_map.mpr ⟨ty, h, rfl⟩ : (cA ty, ty) ∈ np_tys.map fun ty => (cA ty, ty))
  exact hK.2 i _ hi
theorem np_Ki {D : va_G} {cA : FieldType → ClassId} {s : State} (hK : va_K D vwCl (np_tys.map fun ty => (cA ty, ty)) s) {ty : FieldType} (h : ty ∈ np_tys) : va_K D vwCl [(cA ty, ty)] s := ⟨hK.1, fun k q hk => by
  have hz : k < 1 := (List.getElem?_eq_some_iff.mp hk).1
  rw [show k = 0 by omega] at hk
  cases hk
  exact np_Kt hK h⟩
theorem np_pr.set {D : va_G} {cA : FieldType → ClassId} {A : Nat → Prop} {s : State} {ad0 : Nat → Nat} {n0 : Nat} {L : np_L} {st st' : List Value} {w : np_W} {H H1 : Heap} {locs : List Loc} {ad : Nat → Nat} (h : np_pr D cA A s ad0 n0 L st w H locs ad) {k j : Nat} {e e' : np_E} (hk : w.2 k = some e) (he : va_at D vwCl (ad k, np_e cA ad e') H1) (z : H1.size = H.size) (oq : ∀ q : Nat, q ≠ ad k → H1[q]? = H[q]?) (hc : np_ce w.1 e') (ht : np_te e') (h2 : ∀ v ∈ st', np_cv w.1 v) : np_pr D cA A s ad0 n0 L st' (w.1, np_up w.2 k e') H1 (locs ++ [⟨ad k, j⟩]) ad :=
  ⟨h.1.set hk he oq hc ht, h.2.1, h2, h.2.2.2.1.put z oq (h.1.1 k e hk).2.1, h.2.2.2.2.1, h.2.2.2.2.2⟩
theorem np_pr.push {D : va_G} {cA : FieldType → ClassId} {A : Nat → Prop} {s : State} {ad0 : Nat → Nat} {n0 : Nat} {L : np_L} {st st' : List Value} {w : np_W} {H H1 : Heap} {locs : List Loc} {ad : Nat → Nat} (h : np_pr D cA A s ad0 n0 L st w H locs ad) {e : np_E} (he : va_at D vwCl (H.size, np_e cA ad e) H1) (z : H1.size = H.size + 1) (oq : ∀ q : Nat, q < H.size → H1[q]? = H[q]?) (hA : ∀ q, s.heap.size ≤ q → A q) (hc : np_ce w.1 e) (ht : np_te e) (h2 : ∀ v ∈ st', np_cv w.1 v) : np_pr D cA A s ad0 n0 L (.ref w.1 :: st') (w.1 + 1, np_up w.2 w.1 e) H1 locs (va_up ad w.1 H.size) ∧ np_cL (va_up ad w.1 H.size) L = np_cL ad L ∧ st'.map (np_v (va_up ad w.1 H.size)) = st'.map (np_v ad) := by
  have hag : ∀ k, k < w.1 → va_up ad w.1 H.size k = ad k := fun k hk => va_up_ne _ _ (Nat.ne_of_lt hk)
  refine ⟨⟨h.1.push he oq (hA _ h.2.2.2.1.1) hc ht, fun q hq => (h.2.1 q hq).mono (Nat.le_succ _), np_c_cons (Nat.lt_succ_self _) (fun v hv => (h2 v hv).mono (Nat.le_succ _)), ⟨Nat.le_trans h.2.2.2.1.1 (by omega), fun q g1 g2 => (oq q (Nat.lt_of_lt_of_le g1 h.2.2.2.1.1)).trans (h.2.2.2.1.2.1 q g1 g2), h.2.2.2.1.2.2⟩, fun k hk => ?_, Nat.le_succ_of_le h.2.2.2.2.2⟩, ?_, np_vs.cong hag h2⟩
  · rw [hag k (Nat.lt_of_lt_of_le hk h.2.2.2.2.2)]
    exact h.2.2.2.2.1 k hk
  · unfold np_cL
    exact List.map_congr_left fun q hq => by rw [np_v.cong hag (h.2.1 q hq)]
-- the operations
def np_getf (ci j : Nat) : np_Op := fun k pc L st w ce sl => match st with
  | .ref a :: r => match w.2 a with
    | some (.inr (c, fs)) => c = ci ∧ (match fs[j]? with
      | some v => k (pc + 3) L (v :: r) w ce sl
      | none => False)
    | _ => False
  | _ => False
def np_putf (ci j : Nat) (ty : FieldType) : np_Op := fun k pc L st w ce sl => match st with
  | v :: .ref a :: r => match w.2 a with
    | some (.inr (c, fs)) => c = ci ∧ narrow ty v = v ∧ fits ty v = true ∧ j < fs.length ∧ np_fl (fs.set j v) (fun fs' => k (pc + 3) L r (w.1, np_up w.2 a (.inr (ci, fs'))) ce sl)
    | _ => False
  | _ => False
def np_alen : np_Op := fun k pc L st w ce sl => match st with
  | .ref a :: r => match w.2 a with
    | some (.inl (_, n, _)) => k (pc + 1) L (.int (Int32.ofNat n) :: r) w ce sl
    | _ => False
  | _ => False
def np_ialdT (ty : FieldType) : np_Op := fun k pc L st w ce sl => match st with
  | .int i :: .ref a :: r => match w.2 a with
    | some (.inl (t, n, .inl f)) => t = ty ∧ vp_in i n ∧ k (pc + 1) L (.int (f i.toNatClampNeg) :: r) w ce sl
    | _ => False
  | _ => False
def np_lald : np_Op := fun k pc L st w ce sl => match st with
  | .int i :: .ref a :: r => match w.2 a with
    | some (.inl (t, n, .inr (.inl f))) => t = .long ∧ vp_in i n ∧ k (pc + 1) L (.long (f i.toNatClampNeg) :: r) w ce sl
    | _ => False
  | _ => False
def np_aald (C : String) : np_Op := fun k pc L st w ce sl => match st with
  | .int i :: .ref a :: r => match w.2 a with
    | some (.inl (t, n, .inr (.inr (.inr (.inr f))))) => t = .object C ∧ vp_in i n ∧ (match f i.toNatClampNeg with
      | some b => k (pc + 1) L (.ref b :: r) w ce sl
      | none => k (pc + 1) L (.null :: r) w ce sl)
    | _ => False
  | _ => False
def np_iastT (ty : FieldType) : np_Op := fun k pc L st w ce sl => match st with
  | .int x :: .int i :: .ref a :: r => match w.2 a with
    | some (.inl (t, n, .inl f)) => t = ty ∧ vp_in i n ∧ k (pc + 1) L r (w.1, np_up w.2 a (.inl (ty, n, .inl (upd f i.toNatClampNeg (vp_nar ty x))))) ce sl
    | _ => False
  | _ => False
def np_last : np_Op := fun k pc L st w ce sl => match st with
  | .long x :: .int i :: .ref a :: r => match w.2 a with
    | some (.inl (t, n, .inr (.inl f))) => t = .long ∧ vp_in i n ∧ k (pc + 1) L r (w.1, np_up w.2 a (.inl (.long, n, .inr (.inl (vp_updL f i.toNatClampNeg x))))) ce sl
    | _ => False
  | _ => False
def np_aast (ci : Nat) (C : String) : np_Op := fun k pc L st w ce sl => match st with
  | .ref v :: .int i :: .ref a :: r => match w.2 a, w.2 v with
    | some (.inl (t, n, .inr (.inr (.inr (.inr f))))), some (.inr (c, _)) => t = .object C ∧ c = ci ∧ vp_in i n ∧ k (pc + 1) L r (w.1, np_up w.2 a (.inl (.object C, n, .inr (.inr (.inr (.inr (va_up f i.toNatClampNeg (some v)))))))) ce sl
    | _, _ => False
  | _ => False
def np_new (ci N : Nat) (fs : List Value) (RC RS : Nat) : np_Op := fun k pc L st w ce sl => ce + 1 ≤ RC ∧ sl + N ≤ RS ∧ np_force w.1 (fun n => k (pc + 3) L (.ref n :: st) (n + 1, np_up w.2 n (.inr (ci, fs))) (ce + 1) (sl + N))
def np_newa (ty : FieldType) (N : Nat) (a0 : vp_A) (RC RS : Nat) : np_Op := fun k pc L st w ce sl => match st with
  | .int n :: r => n = Int32.ofNat N ∧ ce + 1 ≤ RC ∧ sl + N ≤ RS ∧ np_force w.1 (fun n => k (pc + 2) L (.ref n :: r) (n + 1, np_up w.2 n (.inl (ty, a0))) (ce + 1) (sl + N))
  | _ => False
def np_anew (C : String) (N : Nat) (RC RS : Nat) : np_Op := fun k pc L st w ce sl => match st with
  | .int n :: r => n = Int32.ofNat N ∧ ce + 1 ≤ RC ∧ sl + N ≤ RS ∧ np_force w.1 (fun n => k (pc + 3) L (.ref n :: r) (n + 1, np_up w.2 n (.inl (.object C, N, .inr (.inr (.inr (.inr (fun _ => none))))))) (ce + 1) (sl + N))
  | _ => False
def np_oinit : np_Op := fun k pc L st w ce sl => match st with
  | .ref _ :: r => (r.map fun v => v.category).sum ≤ 8 ∧ k (pc + 3) L r w ce sl
  | _ => False
theorem np_cat_sum (ad : Nat → Nat) (r : List Value) : ((r.map (np_v ad)).map fun v => v.category).sum = (r.map fun v => v.category).sum := by
  rw [List.map_map]
  congr 1
  exact List.map_congr_left fun v _ => np_v_cat ad v
theorem np_f_at {ad : Nat → Nat} {fs : List Value} {j : Nat} {v : Value} (h : fs[j]? = some v) : (fs.map (np_v ad))[j]? = some (np_v ad v) := by rw [List.getElem?_map, h]; rfl
theorem np_s_getf {X : np_Ctx} {pc : Nat} {own : String} {cc : ByteArray} {nL RF RL RC RS : Nat} {rI : Instr} (hX : np_ok own cc nL RF RL RC RS rI X) {ci j ix N : Nat} {C : String} {T : u_T} (d : decode cc pc = .ok (.getfield ix, 3)) (hc : vwCl[ci]? = some (C, T, N)) (hu : ∀ w ∈ u_ws C T N, w ∈ np_gw) (hj : j < N) (hw : Cond.fieldLink own ix (T j).1 (T j).2.1 (T j).2.2.1 ∈ np_gw) : np_S X pc (np_getf ci j) := by
  obtain ⟨⟨p, l, e, R, s, m, args, below, meth, c⟩, ⟨Q, D, cA, A, ad0, n0, nL'⟩, Rt, Th⟩ := X
  obtain ⟨hx, hb, hml, rfl, hown, hsd, hK, hA, hRF, hRL, hRC, hRS, hret, hlt, hzq, hth⟩ := hX
  intro k hk L st w ce sl hop H locs ad ls hl hp
  unfold np_getf at hop
  split at hop
  · rename_i a r
    split at hop
    · rename_i c9 fs hwa
      obtain ⟨rfl, hop⟩ := hop
      split at hop
      · rename_i v hv
        exact va_get (D := D) (ci := c9) (C := C) (T := T) (N := N) hx hb (np_hts hsd args) hu hown hK (hp.1.one hwa) 0 rfl hc j hj (np_hts hsd args _ hw) (fun _ h9 => h9) (np_f_at hv) d
          (hk _ _ _ _ _ _ hop H locs ad ls hl (hp.to hp.2.1 (np_c_cons ((hp.1.1 a _ hwa).2.2.1 v (List.mem_of_getElem? hv)) (np_c_tl hp.2.2.1))))
      · exact absurd hop id
    · exact absurd hop id
  · exact absurd hop id
theorem np_s_getN {X : np_Ctx} {pc : Nat} {own : String} {cc : ByteArray} {nL RF RL RC RS : Nat} {rI : Instr} (hX : np_ok own cc nL RF RL RC RS rI X) {ci j ix N : Nat} {C host : String} {T : u_T} (d : decode cc pc = .ok (.getfield ix, 3)) (hc : vwCl[ci]? = some (C, T, N)) (hu : ∀ w ∈ u_ws C T N, w ∈ np_gw) (hj : j < N) (hw : Cond.fieldLinkNest own ix (T j).1 (T j).2.1 (T j).2.2.1 host ∈ np_nw) : np_S X pc (np_getf ci j) := by
  obtain ⟨⟨p, l, e, R, s, m, args, below, meth, c⟩, ⟨Q, D, cA, A, ad0, n0, nL'⟩, Rt, Th⟩ := X
  obtain ⟨hx, hb, hml, rfl, hown, hsd, hK, hA, hRF, hRL, hRC, hRS, hret, hlt, hzq, hth⟩ := hX
  intro k hk L st w ce sl hop H locs ad ls hl hp
  unfold np_getf at hop
  split at hop
  · rename_i a r
    split at hop
    · rename_i c9 fs hwa
      obtain ⟨rfl, hop⟩ := hop
      split at hop
      · rename_i v hv
        exact va_getN (D := D) (ci := c9) (C := C) (T := T) (N := N) hx hb (np_hts hsd args) hu hown hK (hp.1.one hwa) 0 rfl hc j hj (va_Nw.use rfl (hsd.2.1 _ hw)) (fun _ h9 => h9) (np_f_at hv) d
          (hk _ _ _ _ _ _ hop H locs ad ls hl (hp.to hp.2.1 (np_c_cons ((hp.1.1 a _ hwa).2.2.1 v (List.mem_of_getElem? hv)) (np_c_tl hp.2.2.1))))
      · exact absurd hop id
    · exact absurd hop id
  · exact absurd hop id
theorem np_narrow {ad : Nat → Nat} {ty : FieldType} {v : Value} (h : narrow ty v = v) : narrow ty (np_v ad v) = np_v ad v := by
  cases v <;> first | exact h | (cases ty <;> rfl)
theorem np_fits {ad : Nat → Nat} {ty : FieldType} {v : Value} (h : fits ty v = true) : fits ty (np_v ad v) = true := by
  cases v <;> first | exact h | (cases ty <;> first | exact h | rfl)
theorem np_set_c {n j : Nat} {fs : List Value} {v : Value} (hf : ∀ u ∈ fs, np_cv n u) (hv : np_cv n v) : ∀ u ∈ fs.set j v, np_cv n u := fun u hu => by
  rcases List.mem_or_eq_of_mem_set hu with h | rfl
  · exact hf u h
  · exact hv
theorem np_put_at {D : va_G} {cA : FieldType → ClassId} {ad : Nat → Nat} {ci j N a : Nat} {C : String} {T : u_T} {fs : List Value} {v : Value} {H1 : Heap} {cell : Cell} (hc : vwCl[ci]? = some (C, T, N)) (e1 : H1[a]? = some (cell.setSlot (D.2 ci j) (np_v ad v))) (q2 : cell.cls = D.1 ci) (q3 : cell.vm = .none)
    (q4 : ∀ k, k < N → cell.slots[D.2 ci k]? = some (vp_V (fs.map (np_v ad)) k)) (hap : ∀ x y, x < N → y < N → x ≠ y → D.2 ci x ≠ D.2 ci y) (hj : j < N) (hl : j < fs.length) : va_at D vwCl (a, np_e cA ad (.inr (ci, fs.set j v))) H1 := by
  show ∃ r : vw_C, vwCl[ci]? = some r ∧ t_OB a (D.1 ci) r.2.2 (D.2 ci) H1 (vp_V ((fs.set j v).map (np_v ad)))
  refine ⟨_, hc, t_OB.to (V := updV (vp_V (fs.map (np_v ad))) j (np_v ad v)) ⟨_, e1, q2, q3, t_set q4 hap hj _⟩ (fun i _ => ?_)⟩
  rw [List.map_set]
  exact vp_updV_set (by rw [List.length_map]; exact hl) _ i
theorem np_s_putf {X : np_Ctx} {pc : Nat} {own : String} {cc : ByteArray} {nL RF RL RC RS : Nat} {rI : Instr} (hX : np_ok own cc nL RF RL RC RS rI X) {ci j ix N : Nat} {C : String} {T : u_T} {ty : FieldType} {ty0 : Nat → FieldType} (d : decode cc pc = .ok (.putfield ix, 3)) (hc : vwCl[ci]? = some (C, T, N)) (hu : ∀ w ∈ u_ws C T N, w ∈ np_gw) (hty : ∀ k, k < N → parseFieldDescriptor (T k).2.2.1 = some (ty0 k)) (hnm : ∀ a, a < N → ∀ b, b < N → a ≠ b → (T a).2.1 ≠ (T b).2.1) (hj : j < N) (hw : Cond.fieldLink own ix (T j).1 (T j).2.1 (T j).2.2.1 ∈ np_gw) (hfin : (T j).2.2.2 = false) (hd : ty0 j = ty) : np_S X pc (np_putf ci j ty) := by
  obtain ⟨⟨p, l, e, R, s, m, args, below, meth, c⟩, ⟨Q, D, cA, A, ad0, n0, nL'⟩, Rt, Th⟩ := X
  obtain ⟨hx, hb, hml, rfl, hown, hsd, hK, hA, hRF, hRL, hRC, hRS, hret, hlt, hzq, hth⟩ := hX
  intro k hk L st w ce sl hop H locs ad ls hl hp
  unfold np_putf at hop
  split at hop
  · rename_i v a r
    split at hop
    · rename_i c9 fs hwa
      obtain ⟨rfl, hn, hf, hlen, hop⟩ := hop
      rw [np_fl_eq] at hop
      have hts := np_hts hsd args
      have hap := va_apart (own := own) hts hu ty0 hty hnm hK hc
      obtain ⟨r9, h1, cell, q1, q2, q3, q4⟩ := (hp.1.1 a _ hwa).1
      have hr : r9 = (C, T, N) := Option.some.inj (h1.symm.trans hc)
      subst hr
      obtain ⟨hS, hfc, kC, hkC, hkind⟩ := hK.1 _ _ hc
      obtain ⟨cf, kf, fi, f, hi, hsl⟩ := hS j hj
      have hlay := hts _ (hu _ (u_in_lay hj))
      unfold u_lay at hlay
      rw [if_neg (by rw [hfin]; decide)] at hlay
      have hst := (u_facts hfc hkC (u_lays hts hu hj) hi).1
      have h6 := u_store hfc hkC hkind hlay hi (by rw [hty j hj, hd]) (np_narrow (ad := ad) hn) (np_fits (ad := ad) hf)
      refine W.putK hx hb (f := f) ⟨hown, hts _ hw, ⟨_, _, _, hi⟩, hst⟩ (by rw [q2]; exact h6) q1 q3 (by rw [hsl]; exact k2_hasslot (q4 j hj)) rfl rfl d fun H' e1 e2 e3 => ?_
      rw [hsl] at e1 ⊢
      exact hk _ _ _ _ _ _ hop H' _ ad ls hl (hp.set hwa (np_put_at hc e1 q2 q3 q4 hap hj hlen) e2 e3 (np_set_c (hp.1.1 a _ hwa).2.2.1 (np_c_hd hp.2.2.1)) trivial (np_c_tl (np_c_tl hp.2.2.1)))
    · exact absurd hop id
  · exact absurd hop id
theorem np_s_putN {X : np_Ctx} {pc : Nat} {own : String} {cc : ByteArray} {nL RF RL RC RS : Nat} {rI : Instr} (hX : np_ok own cc nL RF RL RC RS rI X) {ci j ix N : Nat} {C host : String} {T : u_T} {ty : FieldType} {ty0 : Nat → FieldType} (d : decode cc pc = .ok (.putfield ix, 3)) (hc : vwCl[ci]? = some (C, T, N)) (hu : ∀ w ∈ u_ws C T N, w ∈ np_gw) (hty : ∀ k, k < N → parseFieldDescriptor (T k).2.2.1 = some (ty0 k)) (hnm : ∀ a, a < N → ∀ b, b < N → a ≠ b → (T a).2.1 ≠ (T b).2.1) (hj : j < N) (hw : Cond.fieldLinkNest own ix (T j).1 (T j).2.1 (T j).2.2.1 host ∈ np_nw) (hfin : (T j).2.2.2 = false) (hd : ty0 j = ty) : np_S X pc (np_putf ci j ty) := by
  obtain ⟨⟨p, l, e, R, s, m, args, below, meth, c⟩, ⟨Q, D, cA, A, ad0, n0, nL'⟩, Rt, Th⟩ := X
  obtain ⟨hx, hb, hml, rfl, hown, hsd, hK, hA, hRF, hRL, hRC, hRS, hret, hlt, hzq, hth⟩ := hX
  intro k hk L st w ce sl hop H locs ad ls hl hp
  unfold np_putf at hop
  split at hop
  · rename_i v a r
    split at hop
    · rename_i c9 fs hwa
      obtain ⟨rfl, hn, hf, hlen, hop⟩ := hop
      rw [np_fl_eq] at hop
      have hts := np_hts hsd args
      have hap := va_apart (own := own) hts hu ty0 hty hnm hK hc
      obtain ⟨r9, h1, cell, q1, q2, q3, q4⟩ := (hp.1.1 a _ hwa).1
      have hr : r9 = (C, T, N) := Option.some.inj (h1.symm.trans hc)
      subst hr
      obtain ⟨hS, hfc, kC, hkC, hkind⟩ := hK.1 _ _ hc
      obtain ⟨cf, kf, fi, f, hi, hsl⟩ := hS j hj
      have hlay := hts _ (hu _ (u_in_lay hj))
      unfold u_lay at hlay
      rw [if_neg (by rw [hfin]; decide)] at hlay
      have hst := (u_facts hfc hkC (u_lays hts hu hj) hi).1
      have h6 := u_store hfc hkC hkind hlay hi (by rw [hty j hj, hd]) (np_narrow (ad := ad) hn) (np_fits (ad := ad) hf)
      refine va_WputK hx hb (f := f) hown (va_Nw.use rfl (hsd.2.1 _ hw)) hi hst (by rw [q2]; exact h6) q1 q3 (by rw [hsl]; exact k2_hasslot (q4 j hj)) rfl rfl d fun H' e1 e2 e3 => ?_
      rw [hsl] at e1 ⊢
      exact hk _ _ _ _ _ _ hop H' _ ad ls hl (hp.set hwa (np_put_at hc e1 q2 q3 q4 hap hj hlen) e2 e3 (np_set_c (hp.1.1 a _ hwa).2.2.1 (np_c_hd hp.2.2.1)) trivial (np_c_tl (np_c_tl hp.2.2.1)))
    · exact absurd hop id
  · exact absurd hop id
theorem np_s_putF {X : np_Ctx} {pc : Nat} {own : String} {cc : ByteArray} {nL RF RL RC RS : Nat} {rI : Instr} (hX : np_ok own cc nL RF RL RC RS rI X) {ci j ix N : Nat} {C : String} {T : u_T} {ty : FieldType} {ty0 : Nat → FieldType} (d : decode cc pc = .ok (.putfield ix, 3)) (hmn : np_mn X = "<init>") (hc : vwCl[ci]? = some (C, T, N)) (hu : ∀ w ∈ u_ws C T N, w ∈ np_gw) (hty : ∀ k, k < N → parseFieldDescriptor (T k).2.2.1 = some (ty0 k)) (hnm : ∀ a, a < N → ∀ b, b < N → a ≠ b → (T a).2.1 ≠ (T b).2.1) (hj : j < N) (hw : Cond.fieldLink own ix (T j).1 (T j).2.1 (T j).2.2.1 ∈ np_gw) (hfin : (T j).2.2.2 = true) (hdecl : (T j).1 = own) (hd : ty0 j = ty) : np_S X pc (np_putf ci j ty) := by
  obtain ⟨⟨p, l, e, R, s, m, args, below, meth, c⟩, ⟨Q, D, cA, A, ad0, n0, nL'⟩, Rt, Th⟩ := X
  obtain ⟨hx, hb, hml, rfl, hown, hsd, hK, hA, hRF, hRL, hRC, hRS, hret, hlt, hzq, hth⟩ := hX
  intro k hk L st w ce sl hop H locs ad ls hl hp
  unfold np_putf at hop
  split at hop
  · rename_i v a r
    split at hop
    · rename_i c9 fs hwa
      obtain ⟨rfl, hn, hf, hlen, hop⟩ := hop
      rw [np_fl_eq] at hop
      have hts := np_hts hsd args
      have hap := va_apart (own := own) hts hu ty0 hty hnm hK hc
      obtain ⟨r9, h1, cell, q1, q2, q3, q4⟩ := (hp.1.1 a _ hwa).1
      have hr : r9 = (C, T, N) := Option.some.inj (h1.symm.trans hc)
      subst hr
      obtain ⟨hS, hfc, kC, hkC, hkind⟩ := hK.1 _ _ hc
      obtain ⟨cf, kf, fi, f, hi, hsl⟩ := hS j hj
      have hlay := hts _ (hu _ (u_in_lay hj))
      unfold u_lay at hlay
      rw [if_pos hfin] at hlay
      have hst := (u_facts hfc hkC (u_lays hts hu hj) hi).1
      have hcf : m.cls = cf := by
        obtain ⟨_, _, c', _, _, _, -, -, hf', -, -, -, hown2, -⟩ := Cond.laysFinal_spec hlay
        have e1 : c' = cf := by have := hi.symm.trans hf'; simp at this; exact this.1.symm
        rw [hdecl] at hown2
        rw [← e1]; exact Option.some.inj (hown.symm.trans hown2)
      have h6 := u_fits hfc hkC hkind (Or.inr hlay) hi (by rw [hty j hj, hd]) (np_narrow (ad := ad) hn) (np_fits (ad := ad) hf)
      refine W.putFinK hx hb hown (hts _ hw) hi hst hcf hmn (by rw [q2]; exact h6) q1 q3 (by rw [hsl]; exact k2_hasslot (q4 j hj)) rfl rfl d fun H' e1 e2 e3 => ?_
      rw [hsl] at e1 ⊢
      exact hk _ _ _ _ _ _ hop H' _ ad ls hl (hp.set hwa (np_put_at hc e1 q2 q3 q4 hap hj hlen) e2 e3 (np_set_c (hp.1.1 a _ hwa).2.2.1 (np_c_hd hp.2.2.1)) trivial (np_c_tl (np_c_tl hp.2.2.1)))
    · exact absurd hop id
  · exact absurd hop id
end
section
/-! Arrays, new objects. -/
theorem np_s_alen {X : np_Ctx} {pc : Nat} {own : String} {cc : ByteArray} {nL RF RL RC RS : Nat} {rI : Instr} (hX : np_ok own cc nL RF RL RC RS rI X) (d : decode cc pc = .ok (.arraylength, 1)) : np_S X pc np_alen := by
  obtain ⟨⟨p, l, e, R, s, m, args, below, meth, c⟩, ⟨Q, D, cA, A, ad0, n0, nL'⟩, Rt, Th⟩ := X
  obtain ⟨hx, hb, hml, rfl, hown, hsd, hK, hA, hRF, hRL, hRC, hRS, hret, hlt, hzq, hth⟩ := hX
  intro k hk L st w ce sl hop H locs ad ls hl hp
  unfold np_alen at hop
  split at hop
  · rename_i a r
    split at hop
    · rename_i ty n x hwa
      have hty : ty ∈ np_tys := (hp.1.1 a _ hwa).2.2.2.1
      have hkk := hk _ _ _ _ _ _ hop H locs ad ls hl (hp.to hp.2.1 (np_c_cons trivial (np_c_tl hp.2.2.1)))
      have hone := hp.1.one hwa
      rcases x with f | f | f | f | f
      · exact va_alen hx hb (np_Ki hK hty) hone 0 0 rfl rfl rfl d hkk
      · exact va_alen hx hb (np_Ki hK hty) hone 0 0 rfl rfl rfl d hkk
      · exact va_alen hx hb (np_Ki hK hty) hone 0 0 rfl rfl rfl d hkk
      · exact va_alen hx hb (np_Ki hK hty) hone 0 0 rfl rfl rfl d hkk
      · exact va_alen hx hb (np_Ki hK hty) hone 0 0 rfl rfl rfl d hkk
    · exact absurd hop id
  · exact absurd hop id
theorem np_s_iald {X : np_Ctx} {pc : Nat} {own : String} {cc : ByteArray} {nL RF RL RC RS : Nat} {rI : Instr} (hX : np_ok own cc nL RF RL RC RS rI X) (d : decode cc pc = .ok (.iaload, 1)) : np_S X pc (np_ialdT .int) := by
  obtain ⟨⟨p, l, e, R, s, m, args, below, meth, c⟩, ⟨Q, D, cA, A, ad0, n0, nL'⟩, Rt, Th⟩ := X
  obtain ⟨hx, hb, hml, rfl, hown, hsd, hK, hA, hRF, hRL, hRC, hRS, hret, hlt, hzq, hth⟩ := hX
  intro k hk L st w ce sl hop H locs ad ls hl hp
  unfold np_ialdT at hop
  split at hop
  · rename_i i a r
    split at hop
    · rename_i t n f hwa
      obtain ⟨rfl, hin, hop⟩ := hop
      exact va_iald hx hb (np_Ki hK (hp.1.1 a _ hwa).2.2.2.1) (hp.1.one hwa) 0 0 rfl rfl hin d (hk _ _ _ _ _ _ hop H locs ad ls hl (hp.to hp.2.1 (np_c_cons trivial (np_c_tl (np_c_tl hp.2.2.1)))))
    · exact absurd hop id
  · exact absurd hop id
theorem np_s_cald {X : np_Ctx} {pc : Nat} {own : String} {cc : ByteArray} {nL RF RL RC RS : Nat} {rI : Instr} (hX : np_ok own cc nL RF RL RC RS rI X) (d : decode cc pc = .ok (.caload, 1)) : np_S X pc (np_ialdT .char) := by
  obtain ⟨⟨p, l, e, R, s, m, args, below, meth, c⟩, ⟨Q, D, cA, A, ad0, n0, nL'⟩, Rt, Th⟩ := X
  obtain ⟨hx, hb, hml, rfl, hown, hsd, hK, hA, hRF, hRL, hRC, hRS, hret, hlt, hzq, hth⟩ := hX
  intro k hk L st w ce sl hop H locs ad ls hl hp
  unfold np_ialdT at hop
  split at hop
  · rename_i i a r
    split at hop
    · rename_i t n f hwa
      obtain ⟨rfl, hin, hop⟩ := hop
      exact va_cald hx hb (np_Ki hK (hp.1.1 a _ hwa).2.2.2.1) (hp.1.one hwa) 0 0 rfl rfl hin d (hk _ _ _ _ _ _ hop H locs ad ls hl (hp.to hp.2.1 (np_c_cons trivial (np_c_tl (np_c_tl hp.2.2.1)))))
    · exact absurd hop id
  · exact absurd hop id
theorem np_s_zald {X : np_Ctx} {pc : Nat} {own : String} {cc : ByteArray} {nL RF RL RC RS : Nat} {rI : Instr} (hX : np_ok own cc nL RF RL RC RS rI X) (d : decode cc pc = .ok (.baload, 1)) : np_S X pc (np_ialdT .boolean) := by
  obtain ⟨⟨p, l, e, R, s, m, args, below, meth, c⟩, ⟨Q, D, cA, A, ad0, n0, nL'⟩, Rt, Th⟩ := X
  obtain ⟨hx, hb, hml, rfl, hown, hsd, hK, hA, hRF, hRL, hRC, hRS, hret, hlt, hzq, hth⟩ := hX
  intro k hk L st w ce sl hop H locs ad ls hl hp
  unfold np_ialdT at hop
  split at hop
  · rename_i i a r
    split at hop
    · rename_i t n f hwa
      obtain ⟨rfl, hin, hop⟩ := hop
      exact va_zald hx hb (np_Ki hK (hp.1.1 a _ hwa).2.2.2.1) (hp.1.one hwa) 0 0 rfl rfl hin d (hk _ _ _ _ _ _ hop H locs ad ls hl (hp.to hp.2.1 (np_c_cons trivial (np_c_tl (np_c_tl hp.2.2.1)))))
    · exact absurd hop id
  · exact absurd hop id
theorem np_s_lald {X : np_Ctx} {pc : Nat} {own : String} {cc : ByteArray} {nL RF RL RC RS : Nat} {rI : Instr} (hX : np_ok own cc nL RF RL RC RS rI X) (d : decode cc pc = .ok (.laload, 1)) : np_S X pc np_lald := by
  obtain ⟨⟨p, l, e, R, s, m, args, below, meth, c⟩, ⟨Q, D, cA, A, ad0, n0, nL'⟩, Rt, Th⟩ := X
  obtain ⟨hx, hb, hml, rfl, hown, hsd, hK, hA, hRF, hRL, hRC, hRS, hret, hlt, hzq, hth⟩ := hX
  intro k hk L st w ce sl hop H locs ad ls hl hp
  unfold np_lald at hop
  split at hop
  · rename_i i a r
    split at hop
    · rename_i t n f hwa
      obtain ⟨rfl, hin, hop⟩ := hop
      exact va_lald hx hb (np_Ki hK (hp.1.1 a _ hwa).2.2.2.1) (hp.1.one hwa) 0 0 rfl rfl hin d (hk _ _ _ _ _ _ hop H locs ad ls hl (hp.to hp.2.1 (np_c_cons trivial (np_c_tl (np_c_tl hp.2.2.1)))))
    · exact absurd hop id
  · exact absurd hop id
theorem np_s_aald {X : np_Ctx} {pc : Nat} {own : String} {cc : ByteArray} {nL RF RL RC RS : Nat} {rI : Instr} (hX : np_ok own cc nL RF RL RC RS rI X) {C : String} (d : decode cc pc = .ok (.aaload, 1)) : np_S X pc (np_aald C) := by
  obtain ⟨⟨p, l, e, R, s, m, args, below, meth, c⟩, ⟨Q, D, cA, A, ad0, n0, nL'⟩, Rt, Th⟩ := X
  obtain ⟨hx, hb, hml, rfl, hown, hsd, hK, hA, hRF, hRL, hRC, hRS, hret, hlt, hzq, hth⟩ := hX
  intro k hk L st w ce sl hop H locs ad ls hl hp
  unfold np_aald at hop
  split at hop
  · rename_i i a r
    split at hop
    · rename_i t n f hwa
      obtain ⟨rfl, hin, hop⟩ := hop
      refine va_aldq (C := C) hx hb (np_Ki hK (hp.1.1 a _ hwa).2.2.2.1) (hp.1.one hwa) 0 0 rfl rfl hin d ?_
      split at hop
      · rename_i b hb9
        show W p l e R s m args below meth c H locs ce sl Q (F0 m (pc + 1) ls (va_rf ((f i.toNatClampNeg).map ad) :: r.map (np_v ad)))
        rw [hb9]
        exact hk _ _ _ _ _ _ hop H locs ad ls hl (hp.to hp.2.1 (np_c_cons ((hp.1.1 a _ hwa).2.2.1 _ _ hb9) (np_c_tl (np_c_tl hp.2.2.1))))
      · rename_i hb9
        show W p l e R s m args below meth c H locs ce sl Q (F0 m (pc + 1) ls (va_rf ((f i.toNatClampNeg).map ad) :: r.map (np_v ad)))
        rw [hb9]
        exact hk _ _ _ _ _ _ hop H locs ad ls hl (hp.to hp.2.1 (np_c_cons trivial (np_c_tl (np_c_tl hp.2.2.1))))
    · exact absurd hop id
  · exact absurd hop id
theorem np_s_iast {X : np_Ctx} {pc : Nat} {own : String} {cc : ByteArray} {nL RF RL RC RS : Nat} {rI : Instr} (hX : np_ok own cc nL RF RL RC RS rI X) (d : decode cc pc = .ok (.iastore, 1)) : np_S X pc (np_iastT .int) := by
  obtain ⟨⟨p, l, e, R, s, m, args, below, meth, c⟩, ⟨Q, D, cA, A, ad0, n0, nL'⟩, Rt, Th⟩ := X
  obtain ⟨hx, hb, hml, rfl, hown, hsd, hK, hA, hRF, hRL, hRC, hRS, hret, hlt, hzq, hth⟩ := hX
  intro k hk L st w ce sl hop H locs ad ls hl hp
  unfold np_iastT at hop
  split at hop
  · rename_i x i a r
    split at hop
    · rename_i t n f hwa
      obtain ⟨rfl, hin, hop⟩ := hop
      refine W.iast hx hb (hp.1.1 a _ hwa).1 ((np_Kt hK (hp.1.1 a _ hwa).2.2.2.1).1 n (fun j => .int (f j))) (fun q => by cases q) (by show ¬ (i < 0 ∨ (arrV _ _ _).slots.size ≤ _); rw [arrV_size]; exact hin) rfl rfl d fun H1 e1 z oq => ?_
      refine hk _ _ _ _ _ _ hop H1 _ ad ls hl (hp.set hwa ?_ z oq trivial (hp.1.1 a _ hwa).2.2.2.1 (np_c_tl (np_c_tl (np_c_tl hp.2.2.1))))
      show H1[ad a]? = some (vp_cell _ _)
      rw [e1]
      rw [vp_cell_i, vp_cell_i, arrV_store]
      congr 2
      funext q
      by_cases hq : q = i.toNatClampNeg
      · subst hq
        simp [updV, upd, vp_nar, narrow]
      · simp [updV, upd, hq]
    · exact absurd hop id
  · exact absurd hop id
theorem np_s_cast {X : np_Ctx} {pc : Nat} {own : String} {cc : ByteArray} {nL RF RL RC RS : Nat} {rI : Instr} (hX : np_ok own cc nL RF RL RC RS rI X) (d : decode cc pc = .ok (.castore, 1)) : np_S X pc (np_iastT .char) := by
  obtain ⟨⟨p, l, e, R, s, m, args, below, meth, c⟩, ⟨Q, D, cA, A, ad0, n0, nL'⟩, Rt, Th⟩ := X
  obtain ⟨hx, hb, hml, rfl, hown, hsd, hK, hA, hRF, hRL, hRC, hRS, hret, hlt, hzq, hth⟩ := hX
  intro k hk L st w ce sl hop H locs ad ls hl hp
  unfold np_iastT at hop
  split at hop
  · rename_i x i a r
    split at hop
    · rename_i t n f hwa
      obtain ⟨rfl, hin, hop⟩ := hop
      refine W.cast hx hb (hp.1.1 a _ hwa).1 ((np_Kt hK (hp.1.1 a _ hwa).2.2.2.1).1 n (fun j => .int (f j))) (fun q => by cases q) (by show ¬ (i < 0 ∨ (arrV _ _ _).slots.size ≤ _); rw [arrV_size]; exact hin) rfl rfl d fun H1 e1 z oq => ?_
      refine hk _ _ _ _ _ _ hop H1 _ ad ls hl (hp.set hwa ?_ z oq trivial (hp.1.1 a _ hwa).2.2.2.1 (np_c_tl (np_c_tl (np_c_tl hp.2.2.1))))
      show H1[ad a]? = some (vp_cell _ _)
      rw [e1]
      rw [vp_cell_i, vp_cell_i, arrV_store]
      congr 2
      funext q
      by_cases hq : q = i.toNatClampNeg
      · subst hq
        simp [updV, upd, vp_nar, narrow]
      · simp [updV, upd, hq]
    · exact absurd hop id
  · exact absurd hop id
theorem np_s_zast {X : np_Ctx} {pc : Nat} {own : String} {cc : ByteArray} {nL RF RL RC RS : Nat} {rI : Instr} (hX : np_ok own cc nL RF RL RC RS rI X) (d : decode cc pc = .ok (.bastore, 1)) : np_S X pc (np_iastT .boolean) := by
  obtain ⟨⟨p, l, e, R, s, m, args, below, meth, c⟩, ⟨Q, D, cA, A, ad0, n0, nL'⟩, Rt, Th⟩ := X
  obtain ⟨hx, hb, hml, rfl, hown, hsd, hK, hA, hRF, hRL, hRC, hRS, hret, hlt, hzq, hth⟩ := hX
  intro k hk L st w ce sl hop H locs ad ls hl hp
  unfold np_iastT at hop
  split at hop
  · rename_i x i a r
    split at hop
    · rename_i t n f hwa
      obtain ⟨rfl, hin, hop⟩ := hop
      refine W.zast hx hb (hp.1.1 a _ hwa).1 ((np_Kt hK (hp.1.1 a _ hwa).2.2.2.1).1 n (fun j => .int (f j))) (fun q => by cases q) (by show ¬ (i < 0 ∨ (arrV _ _ _).slots.size ≤ _); rw [arrV_size]; exact hin) rfl rfl d fun H1 e1 z oq => ?_
      refine hk _ _ _ _ _ _ hop H1 _ ad ls hl (hp.set hwa ?_ z oq trivial (hp.1.1 a _ hwa).2.2.2.1 (np_c_tl (np_c_tl (np_c_tl hp.2.2.1))))
      show H1[ad a]? = some (vp_cell _ _)
      rw [e1]
      rw [vp_cell_i, vp_cell_i, arrV_store]
      congr 2
      funext q
      by_cases hq : q = i.toNatClampNeg
      · subst hq
        simp [updV, upd, vp_nar, narrow]
      · simp [updV, upd, hq]
    · exact absurd hop id
  · exact absurd hop id
theorem np_s_last {X : np_Ctx} {pc : Nat} {own : String} {cc : ByteArray} {nL RF RL RC RS : Nat} {rI : Instr} (hX : np_ok own cc nL RF RL RC RS rI X) (d : decode cc pc = .ok (.lastore, 1)) : np_S X pc np_last := by
  obtain ⟨⟨p, l, e, R, s, m, args, below, meth, c⟩, ⟨Q, D, cA, A, ad0, n0, nL'⟩, Rt, Th⟩ := X
  obtain ⟨hx, hb, hml, rfl, hown, hsd, hK, hA, hRF, hRL, hRC, hRS, hret, hlt, hzq, hth⟩ := hX
  intro k hk L st w ce sl hop H locs ad ls hl hp
  unfold np_last at hop
  split at hop
  · rename_i x i a r
    split at hop
    · rename_i t n f hwa
      obtain ⟨rfl, hin, hop⟩ := hop
      refine W.last hx hb (hp.1.1 a _ hwa).1 ((np_Kt hK (hp.1.1 a _ hwa).2.2.2.1).1 n (fun j => .long (f j))) (fun q => by cases q) (by show ¬ (i < 0 ∨ (arrV _ _ _).slots.size ≤ _); rw [arrV_size]; exact hin) rfl rfl d fun H1 e1 z oq => ?_
      refine hk _ _ _ _ _ _ hop H1 _ ad ls hl (hp.set hwa ?_ z oq trivial (hp.1.1 a _ hwa).2.2.2.1 (np_c_tl (np_c_tl (np_c_tl hp.2.2.1))))
      show H1[ad a]? = some (vp_cell _ _)
      rw [e1]
      rw [vp_cell_l, vp_cell_l, arrV_store]
      congr 2
      funext q
      by_cases hq : q = i.toNatClampNeg
      · subst hq
        simp [updV, vp_updL]
      · simp [updV, vp_updL, hq]
    · exact absurd hop id
  · exact absurd hop id
theorem np_s_aast {X : np_Ctx} {pc : Nat} {own : String} {cc : ByteArray} {nL RF RL RC RS : Nat} {rI : Instr} (hX : np_ok own cc nL RF RL RC RS rI X) {ci : Nat} {r0 : vw_C} (hc : vwCl[ci]? = some r0) (d : decode cc pc = .ok (.aastore, 1)) : np_S X pc (np_aast ci r0.1) := by
  obtain ⟨⟨p, l, e, R, s, m, args, below, meth, c⟩, ⟨Q, D, cA, A, ad0, n0, nL'⟩, Rt, Th⟩ := X
  obtain ⟨hx, hb, hml, rfl, hown, hsd, hK, hA, hRF, hRL, hRC, hRS, hret, hlt, hzq, hth⟩ := hX
  intro k hk L st w ce sl hop H locs ad ls hl hp
  unfold np_aast at hop
  split at hop
  · rename_i v i a r
    split at hop
    · rename_i t n f c9 vs hwa hwv
      obtain ⟨rfl, rfl, hin, hop⟩ := hop
      have hlt : i.toNatClampNeg < n := Nat.not_le.mp fun q => hin (Or.inr q)
      have h0 : ¬ i < 0 := fun q => hin (Or.inl q)
      obtain ⟨r', hr', cellV, g1, g2, g3, -⟩ := (hp.1.1 v _ hwv).1
      have hcls := (hK.1 _ r0 hc).2
      have hty := (hp.1.1 a _ hwa).2.2.2.1
      obtain ⟨kA, comp, k1, k2, k3, -⟩ := (np_Kt hK hty).2
      have hcomp : comp = D.1 _ := Option.some.inj (k3.symm.trans hcls.1)
      subst hcomp
      obtain ⟨kC, hkC, -⟩ := hcls.2
      refine W.aast hx hb (hp.1.1 a _ hwa).1 (fun q h => by cases h) (fun h => by cases h) k1 k2 rfl hkC ⟨h0, by show _ < (arrV _ _ _).slots.size; rw [arrV_size]; exact hlt⟩ g1 (fun q h => by rw [g3] at h; cases h) (by rw [g2]; exact hkC) (by rw [g2]; exact va_assign hcls) rfl rfl d fun H1 e1 z oq => ?_
      refine hk _ _ _ _ _ _ hop H1 _ ad ls hl (hp.set hwa ?_ z oq ?_ hty (np_c_tl (np_c_tl (np_c_tl hp.2.2.1))))
      · show H1[ad a]? = some (vp_cell _ _)
        rw [e1]
        rw [vp_cell_q, vp_cell_q, arrV_store]
        congr 2
        funext q
        by_cases hq : q = i.toNatClampNeg
        · subst hq
          simp [updV, va_up, va_rf]
        · simp [updV, va_up, hq]
      · intro j b hj
        by_cases hq : j = i.toNatClampNeg
        · subst hq
          rw [va_up_self] at hj
          cases hj
          exact np_c_hd hp.2.2.1
        · rw [va_up_ne _ _ hq] at hj
          exact (hp.1.1 a _ hwa).2.2.1 j b hj
    · exact absurd hop id
  · exact absurd hop id
theorem np_s_new {X : np_Ctx} {pc : Nat} {own : String} {cc : ByteArray} {nL RF RL RC RS : Nat} {rI : Instr} (hX : np_ok own cc nL RF RL RC RS rI X) {ci ix N : Nat} {C : String} {T : u_T} {ty0 : Nat → FieldType} {fs : List Value} (d : decode cc pc = .ok (.new ix, 3)) (hc : vwCl[ci]? = some (C, T, N)) (hu : ∀ w ∈ u_ws C T N, w ∈ np_gw) (hty : ∀ k, k < N → parseFieldDescriptor (T k).2.2.1 = some (ty0 k)) (hl1 : Cond.classLink own ix C ∈ np_gw) (hl2 : Cond.instantiable C N ∈ np_gw) (hl3 : Cond.initialized C ∈ np_gw) (hfs : ∀ j, j < N → defaultValue (ty0 j) = vp_V fs j) (hfc : ∀ v ∈ fs, ∀ ad : Nat → Nat, np_v ad v = v) : np_S X pc (np_new ci N fs RC RS) := by
  obtain ⟨⟨p, l, e, R, s, m, args, below, meth, c⟩, ⟨Q, D, cA, A, ad0, n0, nL'⟩, Rt, Th⟩ := X
  obtain ⟨hx, hb, hml, rfl, hown, hsd, hK, hA, hRF, hRL, hRC, hRS, hret, hlt, hzq, hth⟩ := hX
  intro k hk L st w ce sl hop H locs ad ls hl hp
  obtain ⟨h1, h2, hop⟩ := hop
  rw [np_force_eq] at hop
  have hKn := hK.1 ci _ hc
  have hts := np_hts hsd args
  refine W.newcK hx hb hown (hts _ hl1) (hts _ hl2) (hts _ hl3) rfl d (Nat.le_trans h1 hRC) (Nat.le_trans h2 hRS) hKn.2.1 rfl fun H1 kC hkC e1 z1 o1 => ?_
  have hmap : fs.map (np_v ad) = fs := by
    conv => rhs; rw [← List.map_id fs]
    exact List.map_congr_left fun v hv => hfc v hv ad
  have hcl : ∀ v ∈ fs, np_cv w.1 v := fun v hv => by
    have h9 := hfc v hv (fun _ => 0)
    have h8 := hfc v hv (fun _ => 1)
    cases v with
    | ref a => exact absurd (show (0 : Nat) = 1 from (Value.ref.inj h9).trans (Value.ref.inj h8).symm) (by decide)
    | _ => trivial
  obtain ⟨g1, g2, g3⟩ := hp.push (e := .inr (ci, fs)) (st' := st) (by
    show ∃ r : vw_C, vwCl[ci]? = some r ∧ t_OB H.size (D.1 ci) r.2.2 (D.2 ci) H1 (vp_V (fs.map (np_v ad)))
    rw [hmap]
    exact ⟨_, hc, (u_born ty0 hts hu hKn hkC e1 hty).to hfs⟩) z1 o1 hA hcl trivial hp.2.2.1
  have hgo := hk _ _ _ _ _ _ hop H1 locs (va_up ad w.1 H.size) ls (by rw [g2]; exact hl) g1
  rw [List.map_cons, g3] at hgo
  have hv9 : np_v (va_up ad w.1 H.size) (.ref w.1) = .ref H.size := congrArg Value.ref (va_up_self _ _ _)
  rw [hv9] at hgo
  exact hgo
theorem np_s_newa {X : np_Ctx} {pc : Nat} {own : String} {cc : ByteArray} {nL RF RL RC RS : Nat} {rI : Instr} (hX : np_ok own cc nL RF RL RC RS rI X) {atype : ArrayType} {ty : FieldType} {N : Nat} {a0 : vp_A} (d : decode cc pc = .ok (.newarray atype, 2)) (hat : newarray.typeOf atype = ty) (hw : Cond.arrayClass ty ∈ np_gw) (hty : ty ∈ np_tys) (hpr : ∀ C, ty ≠ .object C) (hN : N ≤ 60000) (ha : ∀ cX : ClassId, vp_cell cX a0 = arrV cX N (fun _ => defaultValue ty)) (hb8 : componentBytes ty ≤ 8) (ha1 : ∀ (cA : FieldType → ClassId) (ad : Nat → Nat), np_e cA ad (.inl (ty, a0)) = .inl (cA ty, a0)) (ha2 : ∀ n, np_ce n (.inl (ty, a0))) : np_S X pc (np_newa ty N a0 RC RS) := by
  obtain ⟨⟨p, l, e, R, s, m, args, below, meth, c⟩, ⟨Q, D, cA, A, ad0, n0, nL'⟩, Rt, Th⟩ := X
  obtain ⟨hx, hb, hml, rfl, hown, hsd, hK, hA, hRF, hRL, hRC, hRS, hret, hlt, hzq, hth⟩ := hX
  intro k hk L st w ce sl hop H locs ad ls hl hp
  unfold np_newa at hop
  split at hop
  · rename_i n r
    obtain ⟨rfl, h1, h2, hop⟩ := hop
    rw [np_force_eq] at hop
    subst hat
    have hn1 : ¬ (Int32.ofNat N) < 0 := nI_pos (by omega)
    have hn2 : (Int32.ofNat N).toNatClampNeg = N := nI_clamp (by omega)
    refine va_newaK hx hb (np_hts hsd args _ hw) rfl d rfl hn1 hn2 (by have := Nat.mul_le_mul hN hb8; omega) (Nat.le_trans h1 hRC) (Nat.le_trans h2 hRS) rfl fun H1 cX e1 z1 o1 hAr hNm => ?_
    have hcX : cX = cA (newarray.typeOf atype) := by
      have h9 := (np_Kt hK hty).2
      cases atype <;> exact Option.some.inj (hNm.symm.trans h9)
    obtain ⟨g1, g2, g3⟩ := hp.push (e := .inl (newarray.typeOf atype, a0)) (st' := r) (by
      rw [ha1]
      show H1[H.size]? = some (vp_cell _ _)
      rw [ha, ← hcX]
      exact e1) z1 o1 hA (ha2 _) hty (np_c_tl hp.2.2.1)
    have hgo := hk _ _ _ _ _ _ hop H1 locs (va_up ad w.1 H.size) ls (by rw [g2]; exact hl) g1
    rw [List.map_cons, g3] at hgo
    have hv9 : np_v (va_up ad w.1 H.size) (.ref w.1) = .ref H.size := congrArg Value.ref (va_up_self _ _ _)
    rw [hv9] at hgo
    exact hgo
  · exact absurd hop id
theorem np_s_anew {X : np_Ctx} {pc : Nat} {own : String} {cc : ByteArray} {nL RF RL RC RS : Nat} {rI : Instr} (hX : np_ok own cc nL RF RL RC RS rI X) {C : String} {ix N : Nat} (d : decode cc pc = .ok (.anewarray ix, 3)) (hl1 : Cond.classLink own ix C ∈ np_gw) (hao : C ∈ np_ao) (hty : FieldType.object C ∈ np_tys) (hN : N ≤ 60000) : np_S X pc (np_anew C N RC RS) := by
  obtain ⟨⟨p, l, e, R, s, m, args, below, meth, c⟩, ⟨Q, D, cA, A, ad0, n0, nL'⟩, Rt, Th⟩ := X
  obtain ⟨hx, hb, hml, rfl, hown, hsd, hK, hA, hRF, hRL, hRC, hRS, hret, hlt, hzq, hth⟩ := hX
  intro k hk L st w ce sl hop H locs ad ls hl hp
  unfold np_anew at hop
  split at hop
  · rename_i n r
    obtain ⟨rfl, h1, h2, hop⟩ := hop
    rw [np_force_eq] at hop
    have hn1 : ¬ (Int32.ofNat N) < 0 := nI_pos (by omega)
    have hn2 : (Int32.ofNat N).toNatClampNeg = N := nI_clamp (by omega)
    refine W.anew hx hb hown (np_hts hsd args _ hl1) (va_AO.use (hsd.2.2.1 C hao)) rfl d rfl hn1 (by rw [hn2]; omega) (Nat.le_trans h1 hRC) (by rw [hn2]; exact Nat.le_trans h2 hRS) fun cX kA comp f1 f2 f3 f4 => ?_
    rw [hn2]
    generalize hH1 : H.push ({ cls := cX, slots := Array.replicate N .null, vm := .none } : Cell) = H1
    have z1 : H1.size = H.size + 1 := by rw [← hH1, Array.size_push]
    have e1 : H1[H.size]? = some (arrV cX N (fun _ => .null)) := by rw [← hH1, Array.getElem?_push_size, ← arrV_new]
    have o1 : ∀ q : Nat, q < H.size → H1[q]? = H[q]? := fun q hq => by rw [← hH1, Array.getElem?_push, if_neg (Nat.ne_of_lt hq)]
    have hcX : cX = cA (.object C) := by
      obtain ⟨-, -, -, -, -, k4⟩ := (np_Kt hK hty).2
      exact Option.some.inj (f1.symm.trans k4)
    obtain ⟨g1, g2, g3⟩ := hp.push (e := .inl (.object C, N, .inr (.inr (.inr (.inr (fun _ => none)))))) (st' := r) (by
      show H1[H.size]? = some (vp_cell _ _)
      rw [vp_cell_q, ← hcX]
      exact e1) z1 o1 hA (fun i k h => by cases h) hty (np_c_tl hp.2.2.1)
    have hgo := hk _ _ _ _ _ _ hop H1 locs (va_up ad w.1 H.size) ls (by rw [g2]; exact hl) g1
    rw [List.map_cons, g3] at hgo
    have hv9 : np_v (va_up ad w.1 H.size) (.ref w.1) = .ref H.size := congrArg Value.ref (va_up_self _ _ _)
    rw [hv9] at hgo
    exact hgo
  · exact absurd hop id
theorem np_s_oinit {X : np_Ctx} {pc : Nat} {own : String} {cc : ByteArray} {nL RF RL RC RS : Nat} {rI : Instr} (hX : np_ok own cc nL RF RL RC RS rI X) {ix : Nat} (d : decode cc pc = .ok (.invokespecial ix, 3)) (hl1 : Cond.methodLink own ix objectInit ∈ np_gw) (hl2 : Cond.instanceMethod objectInit ∈ np_gw) (hl3 : Cond.code objectInit ⟨#[0xb1]⟩ 1 none ∈ np_gw) (h1 : 1 ≤ RF) (h2 : 20 ≤ RL) : np_S X pc np_oinit := by
  obtain ⟨⟨p, l, e, R, s, m, args, below, meth, c⟩, ⟨Q, D, cA, A, ad0, n0, nL'⟩, Rt, Th⟩ := X
  obtain ⟨hx, hb, hml, rfl, hown, hsd, hK, hA, hRF, hRL, hRC, hRS, hret, hlt, hzq, hth⟩ := hX
  intro k hk L st w ce sl hop H locs ad ls hl hp
  unfold np_oinit at hop
  split at hop
  · rename_i a r
    obtain ⟨hs, hop⟩ := hop
    have hts := np_hts hsd args
    have hr := lv_room (m := m) (pc := pc) (ls := ls) (rest := (Value.ref a :: r).map (np_v ad)) (st := r.map (np_v ad)) (by rw [np_cat_sum]; exact hs)
    refine W.objInit hx hb hown (hts _ hl1) (hts _ hl2) (hts _ hl3) rfl (by rw [hml]; exact hl.1) rfl d (Nat.le_trans h1 hRF) (by omega) ?_
    exact W.eq (g2 := F0 m (pc + 3) ls (r.map (np_v ad))) rfl (hk _ _ _ _ _ _ hop H locs ad ls hl (hp.to hp.2.1 (np_c_tl hp.2.2.1)))
  · exact absurd hop id
end
section
/-! Contracts and calls. -/
abbrev np_Sp : Type := List Value → np_W → (Option Value → np_W → Prop) → Prop
def np_A (ad : Nat → Nat) (w : np_W) (sz : Nat) : Nat → Prop := fun q => (∃ (k : Nat) (e : np_E), w.2 k = some e ∧ ad k = q) ∨ sz ≤ q
def np_P (D : va_G) (cA : FieldType → ClassId) (ad : Nat → Nat) (w : np_W) (vs : List Value) (sz : Nat) : Array Value → State → Prop :=
  va_Pc (vs.map (np_v ad)) (fun U => U.heap.size = sz ∧ np_O D cA (fun _ => True) ad w U.heap ∧ (∀ v ∈ vs, np_cv w.1 v) ∧ va_K D vwCl (np_tys.map fun ty => (cA ty, ty)) U ∧ np_sd U ∧ np_zq (np_A ad w sz) U)
def np_Qc (D : va_G) (cA : FieldType → ClassId) (ad : Nat → Nat) (w : np_W) (sz : Nat) (Q : Option Value → np_W → Prop) : Array Value → State → Outcome → State → Prop := fun _ st oc t =>
  (∃ (r : Option Value) (w' : np_W) (ad' : Nat → Nat), oc = .returned (r.map (np_v ad')) ∧ Q r w' ∧ np_O D cA (np_A ad w sz) ad' w' t.heap ∧ (∀ v ∈ r.toList, np_cv w'.1 v) ∧ w.1 ≤ w'.1 ∧ ∀ k, k < w.1 → ad' k = ad k) ∧ va_F (np_A ad w sz) st t
/-- the contract of a method that always returns: sp says what of the world is wanted, and what comes -/
def np_C (y : MethodName) (cc : ByteArray) (maxL : Nat) (ret : Option FieldType) (fr lo mc ms : Nat) (sp : np_Sp) : Prop :=
  ∀ (l : Launch), l.stackTraces = false → ∀ (D : va_G) (cA : FieldType → ClassId) (ad : Nat → Nat) (w : np_W) (vs : List Value) (sz : Nat) (Q : Option Value → np_W → Prop), (vs.map fun v => v.category).sum ≤ maxL → sp vs w Q →
    Met l y [Cond.code y cc maxL ret] { frames := fr, cells := mc, slots := ms, locals := lo } (np_P D cA ad w vs sz) (np_Qc D cA ad w sz Q) mc ms (np_A ad w sz)
theorem np_sd.warm {s U : State} (hW : s.WarmedH U.vm) (h : np_sd s) : np_sd U := by
  refine ⟨fun w hw => np_good hW (List.mem_filter.mp hw).2 (h.1 w hw), fun w hw => ?_, fun C hC => (h.2.2.1 C hC).moved hW.alike, fun q hq => (h.2.2.2.1 q hq).moved hW.alike, fun own k tx hq => ?_⟩
  · have h1 := h.2.1 w hw
    have h2 := (List.mem_filter.mp hw).2
    cases w <;> first | (simp [np_isNest] at h2; done) | exact va_Nw.warmF hW h1 | exact va_Nw.warmM hW h1 | exact va_Nw.warmD hW h1 | exact va_Nw.warmC hW h1
  · obtain ⟨sa, h1⟩ := h.2.2.2.2 own k tx hq
    exact ⟨sa, vk_R.warm hW h1⟩
theorem np_zq.go {A B : Nat → Prop} {s U : State} {H : Heap} {locs : List Loc} (h : np_zq A s) (hS : va_S A s.heap H locs) (hU : U.heap = H) (hvm : s.vm.Alike U.vm) (hAB : ∀ q, B q → A q) : np_zq B U := by
  refine ⟨?_, ?_⟩
  · rw [hU]
    exact ((vx_Zq.moved hvm (h.1.kept hS.2.1))).narrow hAB
  · rw [hU]
    exact ((vx_Zq.moved hvm (h.2.kept hS.2.1))).narrow hAB
theorem np_P.blind {D : va_G} {cA : FieldType → ClassId} {ad : Nat → Nat} {w : np_W} {vs : List Value} {sz : Nat} : FrameBlind (np_P D cA ad w vs sz) := fun a U g mk q => by
  obtain ⟨q0, q1, q2, q3, q4, q5, q6⟩ := q
  exact ⟨q0, q1, q2, q3, va_K.moved (u := U) (U := U.calling g mk a) (Vm.Alike.refl U.vm) q4, np_sd.warm (s := U) (U := U.calling g mk a) (State.WarmedH.refl U) q5, np_zq.go (s := U) (U := U.calling g mk a) (H := U.heap) (locs := []) q6 va_S.rf rfl (Vm.Alike.refl U.vm) (fun _ h => h)⟩
theorem np_A.sub {D : va_G} {cA : FieldType → ClassId} {A : Nat → Prop} {s : State} {ad0 : Nat → Nat} {n0 : Nat} {L : np_L} {st : List Value} {w : np_W} {H : Heap} {locs : List Loc} {ad : Nat → Nat} (h : np_pr D cA A s ad0 n0 L st w H locs ad) (hA : ∀ q, s.heap.size ≤ q → A q) : ∀ q, np_A ad w H.size q → A q := fun q hq => by
  rcases hq with ⟨k, e, h1, rfl⟩ | h1
  · exact (h.1.1 k e h1).2.1
  · exact hA q (Nat.le_trans h.2.2.2.1.1 h1)
theorem np_pr.P {D : va_G} {cA : FieldType → ClassId} {A : Nat → Prop} {s : State} {ad0 : Nat → Nat} {n0 : Nat} {L : np_L} {st vs : List Value} {w : np_W} {H : Heap} {locs : List Loc} {ad : Nat → Nat} (h : np_pr D cA A s ad0 n0 L st w H locs ad) (hvs : ∀ v ∈ vs, np_cv w.1 v) (hK : va_K D vwCl (np_tys.map fun ty => (cA ty, ty)) s) (hsd : np_sd s) (hzq : np_zq A s) (hA : ∀ q, s.heap.size ≤ q → A q) :
    ∀ U : State, U.heap = H → s.WarmedH U.vm → np_P D cA ad w vs H.size (vs.map (np_v ad)).toArray U := fun U hU hW =>
  ⟨rfl, by rw [hU], by rw [hU]; exact h.1.weaken (fun _ _ _ _ => trivial), hvs, va_K.moved hW.alike hK, hsd.warm hW, hzq.go h.2.2.2.1 hU hW.alike (np_A.sub h hA)⟩
/-- behind a call -/
theorem np_goes1 {p : Program} {l : Launch} {e : Env} {R : Room} {s : State} {m : MethodId} {args : Array Value} {below : List Frame} {meth : Method} {c : Code} {Q : State → Prop} {D : va_G} {cA : FieldType → ClassId} {A : Nat → Prop} {ad0 : Nat → Nat} {n0 nL : Nat} {Rt : np_Rt} {Th : np_Th} {H : Heap} {locs : List Loc} {ce sl mc ms pc : Nat} {ls : Array Slot} {L : np_L} {st rest stC : List Value} {w : np_W} {ad : Nat → Nat} {a : Array Value} {Q' : Option Value → np_W → Prop} {v : Option Value} {T T' st₀ t : State} {Lc : List Loc}
    (h0 : st₀.heap = H) (X' : Stand p l e R s m args below meth c T' (locs ++ Lc) (ce + mc) (sl + ms)) (hLc : ∀ q ∈ Lc, np_A ad w H.size q.base) (e1 : T'.heap = t.heap) (hQ : np_Qc D cA ad w H.size Q' a st₀ (.returned v) t) (stp : Goes p e below T (F0 m pc ls stC) T' { F0 m pc ls stC with pc := pc + 3, stack := v.toList ++ rest.map (np_v ad) })
    (hl : lv_has ls nL (np_cL ad L)) (hp : np_pr D cA A s ad0 n0 L st w H locs ad) (hrest : ∀ v ∈ rest, np_cv w.1 v) (hA : ∀ q, s.heap.size ≤ q → A q)
    (hk : ∀ r w', Q' r w' → np_G ((p, l, e, R, s, m, args, below, meth, c), (Q, D, cA, A, ad0, n0, nL), Rt, Th) (pc + 3) L (r.toList ++ rest) w' (ce + mc) (sl + ms)) :
    ∃ t, Steps p.tables e below (T.setTop (F0 m pc ls stC)) t ∧ Q t := by
  obtain ⟨⟨r, w', ad', hv, hq, hO, hcr, hn, had⟩, hz, hkk⟩ := hQ
  cases hv
  rw [h0] at hz hkk
  have hsub := np_A.sub hp hA
  have hO' : np_O D cA A ad' w' T'.heap := by rw [e1]; exact hO.weaken (fun k e _ h => hsub _ h)
  have hS : va_S A s.heap T'.heap (locs ++ Lc) := by
    have hS0 := hp.2.2.2.1
    refine ⟨Nat.le_trans hS0.1 (by rw [e1]; exact hz), fun q g1 g2 => ?_, fun q hq => ?_⟩
    · rw [e1, hkk q (Nat.lt_of_lt_of_le g1 hS0.1) (fun z => g2 (hsub q z))]
      exact hS0.2.1 q g1 g2
    · rcases List.mem_append.mp hq with h | h
      · exact hS0.2.2 q h
      · exact hsub _ (hLc q h)
  have hcL : np_cL ad' L = np_cL ad L := by
    unfold np_cL
    exact List.map_congr_left fun q hq => by rw [np_v.cong had (hp.2.1 q hq)]
  have hrm : rest.map (np_v ad') = rest.map (np_v ad) := np_vs.cong had hrest
  have hgo := hk r w' hq T'.heap (locs ++ Lc) ad' ls (by rw [hcL]; exact hl) ⟨hO', fun q hq => (hp.2.1 q hq).mono hn, fun v hv => by
    rcases List.mem_append.mp hv with h | h
    · exact hcr v h
    · exact (hrest v h).mono hn, hS, fun k hk => by rw [had k (Nat.lt_of_lt_of_le hk hp.2.2.2.2.2)]; exact hp.2.2.2.2.1 k hk, Nat.le_trans hp.2.2.2.2.2 hn⟩ T' rfl X'
  obtain ⟨t2, a1, b1⟩ := hgo
  refine ⟨t2, stp t2 ?_, b1⟩
  have he : (r.toList ++ rest).map (np_v ad') = (r.map (np_v ad')).toList ++ rest.map (np_v ad) := by
    rw [List.map_append, hrm]
    cases r <;> rfl
  rw [he] at a1
  exact a1
theorem np_goes {p : Program} {l : Launch} {e : Env} {R : Room} {s : State} {m : MethodId} {args : Array Value} {below : List Frame} {meth : Method} {c : Code} {Q : State → Prop} {D : va_G} {cA : FieldType → ClassId} {A : Nat → Prop} {ad0 : Nat → Nat} {n0 nL : Nat} {Rt : np_Rt} {Th : np_Th} {H : Heap} {locs : List Loc} {ce sl mc ms pc : Nat} {ls : Array Slot} {L : np_L} {st rest stC : List Value} {w : np_W} {ad : Nat → Nat} {a : Array Value} {Q' : Option Value → np_W → Prop}
    (hr : va_Run p l e R s m args below meth c H locs ce sl mc ms (F0 m pc ls stC) (rest.map (np_v ad)) (np_Qc D cA ad w H.size Q' a) (np_A ad w H.size)) (hl : lv_has ls nL (np_cL ad L)) (hp : np_pr D cA A s ad0 n0 L st w H locs ad) (hrest : ∀ v ∈ rest, np_cv w.1 v) (hA : ∀ q, s.heap.size ≤ q → A q)
    (hk : ∀ r w', Q' r w' → np_G ((p, l, e, R, s, m, args, below, meth, c), (Q, D, cA, A, ad0, n0, nL), Rt, Th) (pc + 3) L (r.toList ++ rest) w' (ce + mc) (sl + ms)) :
    W p l e R s m args below meth c H locs ce sl Q (F0 m pc ls stC) := by
  intro T hT X
  obtain ⟨v, st₀, t, T', Lc, h0, X', hLc, e1, e2, hQ, stp⟩ := hr T hT X
  exact np_goes1 (Rt := Rt) (Th := Th) h0 X' hLc e1 hQ stp hl hp hrest hA hk
/-- a call: n words of the stack are its arguments (the receiver among them) -/
def np_call (n : Nat) (sp : np_Sp) (maxL mc ms RC RS : Nat) : np_Op := fun k pc L st w ce sl =>
  n ≤ st.length ∧ ((st.drop n).map fun v => v.category).sum ≤ 8 ∧ ((st.take n).reverse.map fun v => v.category).sum ≤ maxL ∧ ce + mc ≤ RC ∧ sl + ms ≤ RS ∧
    sp (st.take n).reverse w (fun r w' => k (pc + 3) L (r.toList ++ st.drop n) w' (ce + mc) (sl + ms))
/-- .. of an object of class ci -/
def np_callV (ci n : Nat) (sp : np_Sp) (maxL mc ms RC RS : Nat) : np_Op := fun k pc L st w ce sl =>
  (match (st.take n).reverse with
    | .ref a :: _ => (match w.2 a with
      | some (.inr (c, _)) => c = ci
      | _ => False)
    | _ => False) ∧ np_call n sp maxL mc ms RC RS k pc L st w ce sl
theorem np_stk (ad : Nat → Nat) (st : List Value) (n : Nat) : st.map (np_v ad) = ((st.take n).reverse.map (np_v ad)).reverse ++ (st.drop n).map (np_v ad) := by
  rw [← List.map_reverse, List.reverse_reverse, ← List.map_append, List.take_append_drop]
theorem np_tk_c {n : Nat} {st : List Value} {k : Nat} (h : ∀ v ∈ st, np_cv n v) : (∀ v ∈ (st.take k).reverse, np_cv n v) ∧ ∀ v ∈ st.drop k, np_cv n v :=
  ⟨fun v hv => h v (List.mem_of_mem_take (List.mem_reverse.mp hv)), fun v hv => h v (List.mem_of_mem_drop hv)⟩
theorem np_tk_len {st : List Value} {k : Nat} (h : k ≤ st.length) : (st.take k).reverse.length = k := by
  rw [List.length_reverse, List.length_take]
  omega
/-- what the words of a call say -/
theorem np_cb {s : State} {args : Array Value} (hsd : np_sd s) {R : Room} {own : String} {ix : Nat} {y : MethodName} {cc' : ByteArray} {maxL : Nat} {ret : Option FieldType} {fr lo mc ms n : Nat} (hcode : Cond.code y cc' maxL ret ∈ np_gw) (hini : Cond.initialized y.cls ∈ np_gw) (hlink : Cond.methodLink own ix y ∈ np_gw) (hd : y.cls ≠ "java/lang/invoke/MethodHandle" ∧ y.cls ≠ "java/lang/invoke/VarHandle" ∧ (parseMethodDescriptor y.desc).map (fun d => d.parameters.length) = some n) (h1 : fr + 1 ≤ R.frames) (h2 : 8 + (maxL + 11) + lo ≤ R.locals) :
    CallB R s args own ix y cc' maxL ret [Cond.code y cc' maxL ret] { frames := fr, cells := mc, slots := ms, locals := lo } mc ms n := by
  have hts := np_hts hsd args
  refine callB_of (Ts := np_gw) (ws' := []) n hts (fun w hw => ?_) rfl rfl rfl (hts _ hini) (hts _ hlink) hd ⟨h1, h2⟩
  rw [List.mem_singleton.mp hw]
  exact ⟨hcode, Or.inl rfl⟩
theorem np_cn {s : State} {args : Array Value} (hsd : np_sd s) {R : Room} {own host : String} {ix : Nat} {y : MethodName} {cc' : ByteArray} {maxL : Nat} {ret : Option FieldType} {fr lo mc ms n : Nat} (hcode : Cond.code y cc' maxL ret ∈ np_gw) (hini : Cond.initialized y.cls ∈ np_gw) (hlink : Cond.methodLinkNest own ix y host ∈ np_nw) (hd : y.cls ≠ "java/lang/invoke/MethodHandle" ∧ y.cls ≠ "java/lang/invoke/VarHandle" ∧ (parseMethodDescriptor y.desc).map (fun d => d.parameters.length) = some n) (h1 : fr + 1 ≤ R.frames) (h2 : 8 + (maxL + 11) + lo ≤ R.locals) :
    va_CN R s args own ix y host cc' maxL ret [Cond.code y cc' maxL ret] { frames := fr, cells := mc, slots := ms, locals := lo } mc ms n := by
  have hts := np_hts hsd args
  refine va_cnB (Ts := np_gw) (ws' := []) n hts (fun w hw => ?_) rfl rfl rfl (hsd.2.1 _ hlink) (hts _ hini) hd ⟨h1, h2⟩
  rw [List.mem_singleton.mp hw]
  exact ⟨hcode, Or.inl rfl⟩
theorem np_s_callS {X : np_Ctx} {pc : Nat} {own : String} {cc : ByteArray} {nL RF RL RC RS : Nat} {rI : Instr} (hX : np_ok own cc nL RF RL RC RS rI X) {y : MethodName} {cc' : ByteArray} {maxL : Nat} {ret : Option FieldType} {fr lo mc ms n ix : Nat} {sp : np_Sp} (hC : np_C y cc' maxL ret fr lo mc ms sp) (d : decode cc pc = .ok (.invokestatic ix, 3)) (hcode : Cond.code y cc' maxL ret ∈ np_gw) (hini : Cond.initialized y.cls ∈ np_gw) (hlink : Cond.methodLink own ix y ∈ np_gw) (hst : Cond.static y ∈ np_gw)
    (hd : y.cls ≠ "java/lang/invoke/MethodHandle" ∧ y.cls ≠ "java/lang/invoke/VarHandle" ∧ (parseMethodDescriptor y.desc).map (fun d => d.parameters.length) = some n) (h1 : fr + 1 ≤ RF) (h2 : 8 + (maxL + 11) + lo ≤ RL) : np_S X pc (np_call n sp maxL mc ms RC RS) := by
  obtain ⟨⟨p, l, e, R, s, m, args, below, meth, c⟩, ⟨Q, D, cA, A, ad0, n0, nL'⟩, Rt, Th⟩ := X
  obtain ⟨hx, hb, hml, rfl, hown, hsd, hK, hA, hRF, hRL, hRC, hRS, hret, hlt, hzq, hth⟩ := hX
  intro k hk L st w ce sl hop H locs ad ls hl hp
  obtain ⟨g1, g2, g3, g4, g5, hop⟩ := hop
  have hM := hC l hlt D cA ad w (st.take n).reverse H.size _ g3 hop
  have htk := np_tk_c (k := n) hp.2.2.1
  have hts := np_hts hsd args
  refine np_goes (Rt := Rt) (Th := Th) (st := st) (va_runS (Ts := np_gw) (own := own) (ret := ret) (n := n) (As := (st.take n).reverse.map (np_v ad)) (rest := (st.drop n).map (np_v ad)) ⟨hx, hb, hml, hown, hts⟩ hM ⟨np_cb hsd hcode hini hlink hd (Nat.le_trans h1 hRF) (Nat.le_trans h2 hRL), hts _ hst⟩ ⟨np_P.blind, hp.P htk.1 hK hsd hzq hA⟩ rfl (by rw [List.length_map]; exact np_tk_len g1) hl.1 (np_stk ad st n) (lv_room (by rw [np_cat_sum]; exact g2)) d ⟨Nat.le_trans g4 hRC, Nat.le_trans g5 hRS⟩) hl hp htk.2 hA (fun r w' hq => hk _ _ _ _ _ _ hq)
theorem np_s_callSN {X : np_Ctx} {pc : Nat} {own : String} {cc : ByteArray} {nL RF RL RC RS : Nat} {rI : Instr} (hX : np_ok own cc nL RF RL RC RS rI X) {y : MethodName} {cc' : ByteArray} {maxL : Nat} {ret : Option FieldType} {fr lo mc ms n ix : Nat} {sp : np_Sp} {host : String} (hC : np_C y cc' maxL ret fr lo mc ms sp) (d : decode cc pc = .ok (.invokestatic ix, 3)) (hcode : Cond.code y cc' maxL ret ∈ np_gw) (hini : Cond.initialized y.cls ∈ np_gw) (hlink : Cond.methodLinkNest own ix y host ∈ np_nw) (hst : Cond.static y ∈ np_gw)
    (hd : y.cls ≠ "java/lang/invoke/MethodHandle" ∧ y.cls ≠ "java/lang/invoke/VarHandle" ∧ (parseMethodDescriptor y.desc).map (fun d => d.parameters.length) = some n) (h1 : fr + 1 ≤ RF) (h2 : 8 + (maxL + 11) + lo ≤ RL) : np_S X pc (np_call n sp maxL mc ms RC RS) := by
  obtain ⟨⟨p, l, e, R, s, m, args, below, meth, c⟩, ⟨Q, D, cA, A, ad0, n0, nL'⟩, Rt, Th⟩ := X
  obtain ⟨hx, hb, hml, rfl, hown, hsd, hK, hA, hRF, hRL, hRC, hRS, hret, hlt, hzq, hth⟩ := hX
  intro k hk L st w ce sl hop H locs ad ls hl hp
  obtain ⟨g1, g2, g3, g4, g5, hop⟩ := hop
  have hM := hC l hlt D cA ad w (st.take n).reverse H.size _ g3 hop
  have htk := np_tk_c (k := n) hp.2.2.1
  have hts := np_hts hsd args
  refine np_goes (Rt := Rt) (Th := Th) (st := st) (va_runSN (Ts := np_gw) (own := own) (host := host) (ret := ret) (n := n) (As := (st.take n).reverse.map (np_v ad)) (rest := (st.drop n).map (np_v ad)) ⟨hx, hb, hml, hown, hts⟩ hM ⟨np_cn hsd hcode hini hlink hd (Nat.le_trans h1 hRF) (Nat.le_trans h2 hRL), hts _ hst, trivial⟩ ⟨np_P.blind, hp.P htk.1 hK hsd hzq hA⟩ rfl (by rw [List.length_map]; exact np_tk_len g1) hl.1 (np_stk ad st n) (lv_room (by rw [np_cat_sum]; exact g2)) d ⟨Nat.le_trans g4 hRC, Nat.le_trans g5 hRS⟩) hl hp htk.2 hA (fun r w' hq => hk _ _ _ _ _ _ hq)
/-- the arguments of a call of an object: the receiver, then the others -/
theorem np_recv {D : va_G} {cA : FieldType → ClassId} {A : Nat → Prop} {s : State} {ad : Nat → Nat} {w : np_W} {H : Heap} {ci : Nat} {q : vw_C} (hK : va_K D vwCl (np_tys.map fun ty => (cA ty, ty)) s) (hO : np_O D cA A ad w H) (hc : vwCl[ci]? = some q) {a : Nat} {fs : List Value} (hwa : w.2 a = some (.inr (ci, fs))) : ∃ cell : Cell, H[ad a]? = some cell ∧ cell.vm.isStatics = false ∧ s.vm.findClass q.1 = some cell.cls :=
  va_recv hK (hO.one hwa) hc (q0 := 0) rfl
theorem np_s_callV {X : np_Ctx} {pc : Nat} {own : String} {cc : ByteArray} {nL RF RL RC RS : Nat} {rI : Instr} (hX : np_ok own cc nL RF RL RC RS rI X) {y : MethodName} {cc' : ByteArray} {maxL : Nat} {ret : Option FieldType} {fr lo mc ms n ix ci : Nat} {q : vw_C} {sp : np_Sp} (hC : np_C y cc' maxL ret fr lo mc ms sp) (d : decode cc pc = .ok (.invokevirtual ix, 3)) (hc : vwCl[ci]? = some q) (hcq : q.1 = y.cls) (hcode : Cond.code y cc' maxL ret ∈ np_gw) (hini : Cond.initialized y.cls ∈ np_gw) (hlink : Cond.methodLink own ix y ∈ np_gw) (hin : Cond.instanceMethod y ∈ np_gw) (hse : Cond.selects y.cls y y ∈ np_gw)
    (hd : y.cls ≠ "java/lang/invoke/MethodHandle" ∧ y.cls ≠ "java/lang/invoke/VarHandle" ∧ (parseMethodDescriptor y.desc).map (fun d => d.parameters.length) = some n) (h1 : fr + 1 ≤ RF) (h2 : 8 + (maxL + 11) + lo ≤ RL) : np_S X pc (np_callV ci (n + 1) sp maxL mc ms RC RS) := by
  obtain ⟨⟨p, l, e, R, s, m, args, below, meth, c⟩, ⟨Q, D, cA, A, ad0, n0, nL'⟩, Rt, Th⟩ := X
  obtain ⟨hx, hb, hml, rfl, hown, hsd, hK, hA, hRF, hRL, hRC, hRS, hret, hlt, hzq, hth⟩ := hX
  intro k hk L st w ce sl hop H locs ad ls hl hp
  obtain ⟨g0, g1, g2, g3, g4, g5, hop⟩ := hop
  have hM := hC l hlt D cA ad w (st.take (n + 1)).reverse H.size _ g3 hop
  have htk := np_tk_c (k := n + 1) hp.2.2.1
  have hts := np_hts hsd args
  have hlen := np_tk_len g1
  have hstk := np_stk ad st (n + 1)
  have hP := hp.P htk.1 hK hsd hzq hA
  split at g0
  · rename_i a As hrv
    rw [hrv] at hlen hstk hP
    split at g0
    · rename_i c9 fs hwa
      subst g0
      refine np_goes (Rt := Rt) (Th := Th) (st := st) (va_runV (Ts := np_gw) (own := own) (C := y.cls) (b := ad a) (ret := ret) (n := n) (As := As.map (np_v ad)) (rest := (st.drop (n + 1)).map (np_v ad)) ⟨hx, hb, hml, hown, hts⟩ hM ⟨np_cb hsd hcode hini hlink hd (Nat.le_trans h1 hRF) (Nat.le_trans h2 hRL), hts _ hin, hts _ hse⟩ ⟨np_P.blind, by rw [← hcq]; exact np_recv hK hp.1 hc hwa, by rw [hrv]; exact hP⟩ rfl (by rw [List.length_map]; simpa using hlen) hl.1 (by rw [hstk]; simp [np_v]) (lv_room (by rw [np_cat_sum]; exact g2)) d ⟨Nat.le_trans g4 hRC, Nat.le_trans g5 hRS⟩) hl hp htk.2 hA (fun r w' hq => hk _ _ _ _ _ _ hq)
    · exact absurd g0 id
  · exact absurd g0 id
theorem np_s_callVN {X : np_Ctx} {pc : Nat} {own : String} {cc : ByteArray} {nL RF RL RC RS : Nat} {rI : Instr} (hX : np_ok own cc nL RF RL RC RS rI X) {y : MethodName} {cc' : ByteArray} {maxL : Nat} {ret : Option FieldType} {fr lo mc ms n ix ci : Nat} {q : vw_C} {sp : np_Sp} {host : String} (hC : np_C y cc' maxL ret fr lo mc ms sp) (d : decode cc pc = .ok (.invokevirtual ix, 3)) (hc : vwCl[ci]? = some q) (hcq : q.1 = y.cls) (hcode : Cond.code y cc' maxL ret ∈ np_gw) (hini : Cond.initialized y.cls ∈ np_gw) (hlink : Cond.methodLinkNest own ix y host ∈ np_nw) (hin : Cond.instanceMethod y ∈ np_gw) (hse : Cond.selects y.cls y y ∈ np_gw)
    (hd : y.cls ≠ "java/lang/invoke/MethodHandle" ∧ y.cls ≠ "java/lang/invoke/VarHandle" ∧ (parseMethodDescriptor y.desc).map (fun d => d.parameters.length) = some n) (h1 : fr + 1 ≤ RF) (h2 : 8 + (maxL + 11) + lo ≤ RL) : np_S X pc (np_callV ci (n + 1) sp maxL mc ms RC RS) := by
  obtain ⟨⟨p, l, e, R, s, m, args, below, meth, c⟩, ⟨Q, D, cA, A, ad0, n0, nL'⟩, Rt, Th⟩ := X
  obtain ⟨hx, hb, hml, rfl, hown, hsd, hK, hA, hRF, hRL, hRC, hRS, hret, hlt, hzq, hth⟩ := hX
  intro k hk L st w ce sl hop H locs ad ls hl hp
  obtain ⟨g0, g1, g2, g3, g4, g5, hop⟩ := hop
  have hM := hC l hlt D cA ad w (st.take (n + 1)).reverse H.size _ g3 hop
  have htk := np_tk_c (k := n + 1) hp.2.2.1
  have hts := np_hts hsd args
  have hlen := np_tk_len g1
  have hstk := np_stk ad st (n + 1)
  have hP := hp.P htk.1 hK hsd hzq hA
  split at g0
  · rename_i a As hrv
    rw [hrv] at hlen hstk hP
    split at g0
    · rename_i c9 fs hwa
      subst g0
      refine np_goes (Rt := Rt) (Th := Th) (st := st) (va_runVN (Ts := np_gw) (own := own) (host := host) (C := y.cls) (b := ad a) (ret := ret) (n := n) (As := As.map (np_v ad)) (rest := (st.drop (n + 1)).map (np_v ad)) ⟨hx, hb, hml, hown, hts⟩ hM ⟨np_cn hsd hcode hini hlink hd (Nat.le_trans h1 hRF) (Nat.le_trans h2 hRL), hts _ hin, hts _ hse⟩ ⟨np_P.blind, by rw [← hcq]; exact np_recv hK hp.1 hc hwa, by rw [hrv]; exact hP⟩ rfl (by rw [List.length_map]; simpa using hlen) hl.1 (by rw [hstk]; simp [np_v]) (lv_room (by rw [np_cat_sum]; exact g2)) d ⟨Nat.le_trans g4 hRC, Nat.le_trans g5 hRS⟩) hl hp htk.2 hA (fun r w' hq => hk _ _ _ _ _ _ hq)
    · exact absurd g0 id
  · exact absurd g0 id
/-- a constructor's call: the receiver is new -/
def np_callI (n : Nat) (sp : np_Sp) (maxL mc ms RC RS : Nat) : np_Op := fun k pc L st w ce sl =>
  (match (st.take n).reverse with
    | .ref _ :: _ => True
    | _ => False) ∧ np_call n sp maxL mc ms RC RS k pc L st w ce sl
theorem np_s_callI {X : np_Ctx} {pc : Nat} {own : String} {cc : ByteArray} {nL RF RL RC RS : Nat} {rI : Instr} (hX : np_ok own cc nL RF RL RC RS rI X) {y : MethodName} {cc' : ByteArray} {maxL : Nat} {fr lo mc ms n ix : Nat} {sp : np_Sp} (hC : np_C y cc' maxL none fr lo mc ms sp) (d : decode cc pc = .ok (.invokespecial ix, 3)) (hyn : y.name = "<init>") (hcode : Cond.code y cc' maxL none ∈ np_gw) (hini : Cond.initialized y.cls ∈ np_gw) (hlink : Cond.methodLink own ix y ∈ np_gw) (hin : Cond.instanceMethod y ∈ np_gw)
    (hd : y.cls ≠ "java/lang/invoke/MethodHandle" ∧ y.cls ≠ "java/lang/invoke/VarHandle" ∧ (parseMethodDescriptor y.desc).map (fun d => d.parameters.length) = some n) (h1 : fr + 1 ≤ RF) (h2 : 8 + (maxL + 11) + lo ≤ RL) : np_S X pc (np_callI (n + 1) sp maxL mc ms RC RS) := by
  obtain ⟨⟨p, l, e, R, s, m, args, below, meth, c⟩, ⟨Q, D, cA, A, ad0, n0, nL'⟩, Rt, Th⟩ := X
  obtain ⟨hx, hb, hml, rfl, hown, hsd, hK, hA, hRF, hRL, hRC, hRS, hret, hlt, hzq, hth⟩ := hX
  intro k hk L st w ce sl hop H locs ad ls hl hp
  obtain ⟨g0, g1, g2, g3, g4, g5, hop⟩ := hop
  have hM := hC l hlt D cA ad w (st.take (n + 1)).reverse H.size _ g3 hop
  have htk := np_tk_c (k := n + 1) hp.2.2.1
  have hts := np_hts hsd args
  have hlen := np_tk_len g1
  have hstk := np_stk ad st (n + 1)
  have hP := hp.P htk.1 hK hsd hzq hA
  split at g0
  · rename_i a As hrv
    rw [hrv] at hlen hstk hP
    refine np_goes (Rt := Rt) (Th := Th) (st := st) (va_runI (Ts := np_gw) (own := own) (b := ad a) (n := n) (As := As.map (np_v ad)) (rest := (st.drop (n + 1)).map (np_v ad)) ⟨hx, hb, hml, hown, hts⟩ hM ⟨np_cb hsd hcode hini hlink hd (Nat.le_trans h1 hRF) (Nat.le_trans h2 hRL), hyn, hts _ hin⟩ ⟨np_P.blind, by rw [hrv]; exact hP⟩ rfl (by rw [List.length_map]; simpa using hlen) hl.1 (by rw [hstk]; simp [np_v]) (lv_room (by rw [np_cat_sum]; exact g2)) d ⟨Nat.le_trans g4 hRC, Nat.le_trans g5 hRS⟩) hl hp htk.2 hA (fun r w' hq => hk _ _ _ _ _ _ hq)
  · exact absurd g0 id
theorem np_s_callIN {X : np_Ctx} {pc : Nat} {own : String} {cc : ByteArray} {nL RF RL RC RS : Nat} {rI : Instr} (hX : np_ok own cc nL RF RL RC RS rI X) {y : MethodName} {cc' : ByteArray} {maxL : Nat} {fr lo mc ms n ix : Nat} {sp : np_Sp} {host : String} (hC : np_C y cc' maxL none fr lo mc ms sp) (d : decode cc pc = .ok (.invokespecial ix, 3)) (hyn : y.name = "<init>") (hcode : Cond.code y cc' maxL none ∈ np_gw) (hini : Cond.initialized y.cls ∈ np_gw) (hlink : Cond.methodLinkNest own ix y host ∈ np_nw) (hin : Cond.instanceMethod y ∈ np_gw)
    (hd : y.cls ≠ "java/lang/invoke/MethodHandle" ∧ y.cls ≠ "java/lang/invoke/VarHandle" ∧ (parseMethodDescriptor y.desc).map (fun d => d.parameters.length) = some n) (h1 : fr + 1 ≤ RF) (h2 : 8 + (maxL + 11) + lo ≤ RL) : np_S X pc (np_callI (n + 1) sp maxL mc ms RC RS) := by
  obtain ⟨⟨p, l, e, R, s, m, args, below, meth, c⟩, ⟨Q, D, cA, A, ad0, n0, nL'⟩, Rt, Th⟩ := X
  obtain ⟨hx, hb, hml, rfl, hown, hsd, hK, hA, hRF, hRL, hRC, hRS, hret, hlt, hzq, hth⟩ := hX
  intro k hk L st w ce sl hop H locs ad ls hl hp
  obtain ⟨g0, g1, g2, g3, g4, g5, hop⟩ := hop
  have hM := hC l hlt D cA ad w (st.take (n + 1)).reverse H.size _ g3 hop
  have htk := np_tk_c (k := n + 1) hp.2.2.1
  have hts := np_hts hsd args
  have hlen := np_tk_len g1
  have hstk := np_stk ad st (n + 1)
  have hP := hp.P htk.1 hK hsd hzq hA
  split at g0
  · rename_i a As hrv
    rw [hrv] at hlen hstk hP
    refine np_goes (Rt := Rt) (Th := Th) (st := st) (va_runIN (Ts := np_gw) (own := own) (host := host) (b := ad a) (n := n) (As := As.map (np_v ad)) (rest := (st.drop (n + 1)).map (np_v ad)) ⟨hx, hb, hml, hown, hts⟩ hM ⟨np_cn hsd hcode hini hlink hd (Nat.le_trans h1 hRF) (Nat.le_trans h2 hRL), hyn, hts _ hin⟩ ⟨np_P.blind, by rw [hrv]; exact hP⟩ rfl (by rw [List.length_map]; simpa using hlen) hl.1 (by rw [hstk]; simp [np_v]) (lv_room (by rw [np_cat_sum]; exact g2)) d ⟨Nat.le_trans g4 hRC, Nat.le_trans g5 hRS⟩) hl hp htk.2 hA (fun r w' hq => hk _ _ _ _ _ _ hq)
  · exact absurd g0 id
/-! A method's contract from its run. -/
def np_shape (ret : Option FieldType) (st : List Value) : Prop := match ret with
  | none => st = []
  | some .int => ∃ x, st = [.int x]
  | some .boolean => ∃ x, st = [.int x] ∧ narrow .boolean (.int x) = .int x
  | some .char => ∃ x, st = [.int x] ∧ narrow .char (.int x) = .int x
  | some .long => ∃ x, st = [.long x]
  | some (.object _) => st = [.null] ∨ ∃ k, st = [.ref k]
  | some (.array _) => st = [.null] ∨ ∃ k, st = [.ref k]
  | _ => False
def np_rt (ret : Option FieldType) (mc ms : Nat) (Q : Option Value → np_W → Prop) : np_Rt := fun st w ce sl => ce ≤ mc ∧ sl ≤ ms ∧ np_shape ret st ∧ ∃ f : Nat → Option np_E, (∀ k e, f k = some e → w.2 k = some e) ∧ Q st.head? (w.1, f)
def np_retI (ret : Option FieldType) : Instr := match ret with
  | none => .return_
  | some .long => .lreturn
  | some (.object _) => .areturn
  | some (.array _) => .areturn
  | _ => .ireturn
theorem np_lgsl_len (vs : List Value) : (lg_sl vs).length = (vs.map fun v => v.category).sum := by
  induction vs with
  | nil => rfl
  | cons v r ih =>
    unfold lg_sl at ih ⊢
    rw [List.flatMap_cons, List.length_append, ih, List.map_cons, List.sum_cons]
    rcases lv_cat v with h | h
    · rw [if_neg (by omega), h]; rfl
    · rw [if_pos h, h]; rfl
theorem np_args_map (ad : Nat → Nat) : ∀ (vs : List Value) (i : Nat), lv_args i (vs.map (np_v ad)) = np_cL ad (lv_args i vs) := by
  intro vs
  induction vs with
  | nil => intro i; rfl
  | cons v r ih =>
    intro i
    show (i, np_v ad v) :: lv_args (if (np_v ad v).category = 2 then i + 2 else i + 1) (r.map (np_v ad)) = (i, np_v ad v) :: np_cL ad (lv_args (if v.category = 2 then i + 2 else i + 1) r)
    rw [ih, np_v_cat]
theorem np_args_c {n : Nat} : ∀ (vs : List Value) (i : Nat), (∀ v ∈ vs, np_cv n v) → ∀ q ∈ lv_args i vs, np_cv n q.2 := by
  intro vs
  induction vs with
  | nil => intro i _ q hq; cases hq
  | cons v r ih =>
    intro i h q hq
    rcases List.mem_cons.mp (show q ∈ (i, v) :: lv_args (if v.category = 2 then i + 2 else i + 1) r from hq) with rfl | hq
    · exact np_c_hd h
    · exact ih _ (np_c_tl h) q hq
theorem np_of {y : MethodName} {cc : ByteArray} {maxL : Nat} {ret : Option FieldType} {fr lo mc ms : Nat} {sp : np_Sp} (hy : plainName y.cls = true)
    (body : ∀ (X : np_Ctx) (vs : List Value) (w : np_W) (Q : Option Value → np_W → Prop), sp vs w Q → np_ok y.cls cc maxL fr lo mc ms (np_retI ret) X → np_mn X = y.name → X.2.2.1 = np_rt ret mc ms Q → (∀ j e, w.2 j = some e → j < w.1) → np_G X 0 (lv_args 0 vs) [] w 0 0) : np_C y cc maxL ret fr lo mc ms sp := by
  intro l hlt D cA ad w vs sz Q hcat hsp
  refine Met.ofW (cc := cc) (maxL := maxL) (ret := ret) hy rfl ?_
  intro p e s m args below meth c s₁ B hml hv
  obtain ⟨rfl, hsz, hO, hcv, hK, hsd, hzq⟩ := hv
  subst hsz
  have hlen : (lg_sl (vs.map (np_v ad))).length ≤ maxL := by rw [np_lgsl_len, np_cat_sum]; exact hcat
  have hl := lv_entry (vs.map (np_v ad)) (n := maxL) hlen
  rw [lg_entry_eq]
  generalize (lg_sl (vs.map (np_v ad)) ++ List.replicate (maxL - (lg_sl (vs.map (np_v ad))).length) Slot.unset).toArray = ls at hl ⊢
  rw [np_args_map] at hl
  have hr := B.returns
  have hA : ∀ q, s.heap.size ≤ q → np_A ad w s.heap.size q := fun q hq => Or.inr hq
  have hG := body ((p, l, e, { frames := fr, cells := mc, slots := ms, locals := lo }, s, m, (vs.map (np_v ad)).toArray, below, meth, c), (MQ below (np_Qc D cA ad w s.heap.size Q) (vs.map (np_v ad)).toArray s mc ms (np_A ad w s.heap.size), D, cA, np_A ad w s.heap.size, ad, w.1, maxL), np_rt ret mc ms Q, fun _ _ _ _ => False) vs w Q hsp
    ⟨B.exec, B.bytes, hml, rfl, findClass_of_methodNamed B.named, hsd, hK, hA, Nat.le_refl _, Nat.le_refl _, Nat.le_refl _, Nat.le_refl _, ?_, hlt, hzq, fun _ _ _ _ h => absurd h id⟩ (name_of_methodNamed B.named B.method).1 rfl (fun j e9 h9 => (hO.1 j e9 h9).2.2.2.2)
  · exact hG s.heap [] ad ls hl ⟨hO.weaken (fun k e hk _ => Or.inl ⟨k, e, hk, rfl⟩), np_args_c vs 0 hcv, (fun _ h => nomatch h), va_S.rf, fun _ _ => rfl, Nat.le_refl _⟩
  · intro st w' ce sl hrt pc H locs ad' ls' hd hp
    obtain ⟨h1, h2, h3, f, hf9, h4⟩ := hrt
    refine W.widen (k := mc) (n := ms) h1 h2 ?_
    have hq : ∀ t : State, t.heap = H → s.WarmedH t.vm → np_Qc D cA ad w s.heap.size Q (vs.map (np_v ad)).toArray s (.returned (st.head?.map (np_v ad'))) t := fun t ht hW =>
      ⟨⟨st.head?, (w'.1, f), ad', rfl, h4, by rw [ht]; exact ⟨fun k e9 hk => hp.1.1 k e9 (hf9 k e9 hk), fun j k e9 e8 hj hk => hp.1.2 j k e9 e8 (hf9 j e9 hj) (hf9 k e8 hk)⟩, fun v hv => hp.2.2.1 v (by
        cases st with
        | nil => cases hv
        | cons a r =>
          have : v = a := by simpa using hv
          rw [this]
          exact List.mem_cons_self), hp.2.2.2.2.2, hp.2.2.2.2.1⟩, hp.2.2.2.1.F ht⟩
    have hf := hp.2.2.2.1.2.2
    have hlocks := B.notSynchronized
    unfold np_shape at h3
    split at h3
    · subst h3
      exact W.vret B.exec B.bytes hr hq hf hd
    · obtain ⟨x, rfl⟩ := h3
      exact W.iret B.exec B.bytes hr hq hf hd
    · obtain ⟨x, rfl, hx9⟩ := h3
      exact W.zret B.exec B.bytes hr hx9 hq hf hd
    · obtain ⟨x, rfl, hx9⟩ := h3
      exact W.zret B.exec B.bytes hr hx9 hq hf hd
    · obtain ⟨x, rfl⟩ := h3
      exact W.lret B.exec B.bytes hr hq hf hd
    · rcases h3 with rfl | ⟨k, rfl⟩
      · exact W.aret B.exec B.bytes hr (Or.inl ⟨_, rfl⟩) (Or.inl rfl) hq hf hd
      · exact W.aret B.exec B.bytes hr (Or.inl ⟨_, rfl⟩) (Or.inr ⟨_, rfl⟩) hq hf hd
    · rcases h3 with rfl | ⟨k, rfl⟩
      · exact W.aret B.exec B.bytes hr (Or.inr ⟨_, rfl⟩) (Or.inl rfl) hq hf hd
      · exact W.aret B.exec B.bytes hr (Or.inr ⟨_, rfl⟩) (Or.inr ⟨_, rfl⟩) hq hf hd
    · exact absurd h3 id
end
section
/-! A method's run as its own contract. -/
def np_shp (ret : Option FieldType) (st : List Value) : Prop := match ret, st with
  | none, [] => True
  | some .int, [.int _] => True
  | some .boolean, [.int x] => narrow .boolean (.int x) = .int x
  | some .char, [.int x] => narrow .char (.int x) = .int x
  | some .long, [.long _] => True
  | some (.object _), [.null] => True
  | some (.object _), [.ref _] => True
  | some (.array _), [.null] => True
  | some (.array _), [.ref _] => True
  | _, _ => False
theorem np_shp_shape {ret : Option FieldType} {st : List Value} (h : np_shp ret st) : np_shape ret st := by
  unfold np_shp at h
  split at h
  · rfl
  · exact ⟨_, rfl⟩
  · exact ⟨_, rfl, h⟩
  · exact ⟨_, rfl, h⟩
  · exact ⟨_, rfl⟩
  · exact Or.inl rfl
  · exact Or.inr ⟨_, rfl⟩
  · exact Or.inl rfl
  · exact Or.inr ⟨_, rfl⟩
  · exact absurd h id
def np_rq (ret : Option FieldType) (mc ms : Nat) (Q : Option Value → np_W → Prop) : np_Rt := fun st w ce sl => ce ≤ mc ∧ sl ≤ ms ∧ np_shp ret st ∧ Q st.head? w
def np_in (is : np_Rt → List (Nat × np_Op)) (ret : Option FieldType) (mc ms fuel : Nat) : np_Sp := fun vs w Q =>
  np_runF (is (np_rq ret mc ms Q)) [] (fun _ _ _ _ _ _ => False) fuel 0 (lv_args 0 vs) [] w 0 0
theorem np_ok.rt {own : String} {cc : ByteArray} {nL RF RL RC RS : Nat} {rI : Instr} {c1 : Program × Launch × Env × Room × State × MethodId × Array Value × List Frame × Method × Code} {c2 : (State → Prop) × va_G × (FieldType → ClassId) × (Nat → Prop) × (Nat → Nat) × Nat × Nat} {Rt Rt' : np_Rt} {Th : np_Th} (h : np_ok own cc nL RF RL RC RS rI (c1, c2, Rt, Th)) (hr : ∀ st w ce sl, Rt' st w ce sl → Rt st w ce sl) : np_ok own cc nL RF RL RC RS rI (c1, c2, Rt', Th) := by
  obtain ⟨p, l, e, R, s, m, args, below, meth, c⟩ := c1
  obtain ⟨Q, D, cA, A, ad0, n0, nL'⟩ := c2
  obtain ⟨h1, h2, h3, h4, h5, h6, h7, h8, h9, h10, h11, h12, hret, h13, h14, hth⟩ := h
  exact ⟨h1, h2, h3, h4, h5, h6, h7, h8, h9, h10, h11, h12, fun st w ce sl q => hret st w ce sl (hr _ _ _ _ q), h13, h14, hth⟩
theorem np_inC {y : MethodName} {cc : ByteArray} {maxL : Nat} {ret : Option FieldType} {fr lo mc ms : Nat} {is : np_Rt → List (Nat × np_Op)} (fuel : Nat) (hy : plainName y.cls = true)
    (so : ∀ X : np_Ctx, np_ok y.cls cc maxL fr lo mc ms (np_retI ret) X → np_mn X = y.name → ∀ q ∈ is X.2.2.1, np_S X q.1 q.2) : np_C y cc maxL ret fr lo mc ms (np_in is ret mc ms fuel) := by
  refine np_of hy ?_
  intro X vs w Q hsp hX hmn hRt _
  obtain ⟨c1, c2, Rt, Th⟩ := X
  have hRt : Rt = np_rt ret mc ms Q := hRt
  subst hRt
  have hX' := hX.rt (Rt' := np_rq ret mc ms Q) (fun st w ce sl h => ⟨h.1, h.2.1, np_shp_shape h.2.2.1, w.2, fun _ _ h9 => h9, h.2.2.2⟩)
  have hg := np_soundF (so _ hX' hmn) (heads := []) (Hd := fun _ _ _ _ _ _ => False) (fun _ _ _ _ _ _ h => h.elim) fuel 0 _ _ _ _ _ hsp
  obtain ⟨p, l, e, R, s, m, args, below, meth, c⟩ := c1
  obtain ⟨Q0, D, cA, A, ad0, n0, nL'⟩ := c2
  exact hg
end
section
/-! Methods that throw, and calls that catch. -/
abbrev np_SpX : Type := List Value → np_W → (Option Value → np_W → Prop) → (Nat → np_W → Prop) → Prop
def np_XC (D : va_G) (cA : FieldType → ClassId) (ad : Nat → Nat) (w : np_W) (sz : Nat) (QX : Nat → np_W → Prop) : String → State → State → Prop := fun E st t =>
  (∃ (i : Nat) (w' : np_W) (ad' : Nat → Nat), E = np_en i ∧ QX i w' ∧ np_O D cA (np_A ad w sz) ad' w' t.heap ∧ w.1 ≤ w'.1 ∧ ∀ k, k < w.1 → ad' k = ad k) ∧ va_F (np_A ad w sz) st t
def np_CX (y : MethodName) (cc : ByteArray) (maxL : Nat) (ret : Option FieldType) (fr lo mc ms : Nat) (sp : np_SpX) : Prop :=
  ∀ (l : Launch), l.stackTraces = false → ∀ (D : va_G) (cA : FieldType → ClassId) (ad : Nat → Nat) (w : np_W) (vs : List Value) (sz : Nat) (Q : Option Value → np_W → Prop) (QX : Nat → np_W → Prop), (vs.map fun v => v.category).sum ≤ maxL → sp vs w Q QX →
    vx_Met l y [Cond.code y cc maxL ret] { frames := fr, cells := mc, slots := ms, locals := lo } (np_P D cA ad w vs sz) (np_Qc D cA ad w sz Q) (np_XC D cA ad w sz QX) mc ms (np_A ad w sz)
def np_thq (mc ms : Nat) (QX : Nat → np_W → Prop) : np_Th := fun i w ce sl => ce + 1 ≤ mc ∧ sl + 6 ≤ ms ∧ QX i w
theorem np_hat {s : State} {args : Array Value} (hsd : np_sd s) {L : List Cond} (h : ∀ w ∈ L, w ∈ np_gw ∨ w ∈ np_nw) : ∀ w ∈ L, w.before args s = true := fun w hw => by
  rcases h w hw with h1 | h1
  · exact np_hts hsd args w h1
  · have h2 := hsd.2.1 w h1
    have h3 := (List.mem_filter.mp h1).2
    cases w <;> first | (simp [np_isNest] at h3; done) | exact va_Nw.use rfl h2
theorem np_ofX {y : MethodName} {cc : ByteArray} {maxL : Nat} {ret : Option FieldType} {fr lo mc ms : Nat} {sp : np_SpX} (hy : plainName y.cls = true) (hfr : 6 ≤ fr) (hlo : 100 ≤ lo)
    (body : ∀ (X : np_Ctx) (vs : List Value) (w : np_W) (Q : Option Value → np_W → Prop) (QX : Nat → np_W → Prop), sp vs w Q QX → np_ok y.cls cc maxL fr lo mc ms (np_retI ret) X → np_mn X = y.name → X.2.2.1 = np_rq ret mc ms Q → X.2.2.2 = np_thq mc ms QX → np_G X 0 (lv_args 0 vs) [] w 0 0) : np_CX y cc maxL ret fr lo mc ms sp := by
  intro l hlt D cA ad w vs sz Q QX hcat hsp
  refine vx_ofW (cc := cc) (maxL := maxL) (ret := ret) hy rfl ?_
  intro p e s m args below meth c s₁ B hml htab hv
  obtain ⟨rfl, hsz, hO, hcv, hK, hsd, hzq⟩ := hv
  subst hsz
  have hlen : (lg_sl (vs.map (np_v ad))).length ≤ maxL := by rw [np_lgsl_len, np_cat_sum]; exact hcat
  have hl := lv_entry (vs.map (np_v ad)) (n := maxL) hlen
  rw [lg_entry_eq]
  generalize (lg_sl (vs.map (np_v ad)) ++ List.replicate (maxL - (lg_sl (vs.map (np_v ad))).length) Slot.unset).toArray = ls at hl ⊢
  rw [np_args_map] at hl
  have hr := B.returns
  have hA : ∀ q, s.heap.size ≤ q → np_A ad w s.heap.size q := fun q hq => Or.inr hq
  have hlocks := B.notSynchronized
  have hown := findClass_of_methodNamed B.named
  have hG := body ((p, l, e, { frames := fr, cells := mc, slots := ms, locals := lo }, s, m, (vs.map (np_v ad)).toArray, below, meth, c), (vx_MQ below (np_Qc D cA ad w s.heap.size Q) (np_XC D cA ad w s.heap.size QX) (vs.map (np_v ad)).toArray s mc ms (np_A ad w s.heap.size), D, cA, np_A ad w s.heap.size, ad, w.1, maxL), np_rq ret mc ms Q, np_thq mc ms QX) vs w Q QX hsp
    ⟨B.exec, B.bytes, hml, rfl, hown, hsd, hK, hA, Nat.le_refl _, Nat.le_refl _, Nat.le_refl _, Nat.le_refl _, ?_, hlt, hzq, ?_⟩ (name_of_methodNamed B.named B.method).1 rfl rfl
  · exact hG s.heap [] ad ls hl ⟨hO.weaken (fun k e hk _ => Or.inl ⟨k, e, hk, rfl⟩), np_args_c vs 0 hcv, (fun _ h => nomatch h), va_S.rf, fun _ _ => rfl, Nat.le_refl _⟩
  · intro st w' ce sl hrt pc H locs ad' ls' hd hp
    obtain ⟨h1, h2, h3, h4⟩ := hrt
    have h3 := np_shp_shape h3
    refine W.widen (k := mc) (n := ms) h1 h2 (vx_ret ?_)
    have hq : ∀ t : State, t.heap = H → s.WarmedH t.vm → np_Qc D cA ad w s.heap.size Q (vs.map (np_v ad)).toArray s (.returned (st.head?.map (np_v ad'))) t := fun t ht hW =>
      ⟨⟨st.head?, w', ad', rfl, h4, by rw [ht]; exact hp.1, fun v hv => hp.2.2.1 v (by
        cases st with
        | nil => cases hv
        | cons a r =>
          have : v = a := by simpa using hv
          rw [this]
          exact List.mem_cons_self), hp.2.2.2.2.2, hp.2.2.2.2.1⟩, hp.2.2.2.1.F ht⟩
    have hf := hp.2.2.2.1.2.2
    unfold np_shape at h3
    split at h3
    · subst h3
      exact W.vret B.exec B.bytes hr hq hf hd
    · obtain ⟨x, rfl⟩ := h3
      exact W.iret B.exec B.bytes hr hq hf hd
    · obtain ⟨x, rfl, hx9⟩ := h3
      exact W.zret B.exec B.bytes hr hx9 hq hf hd
    · obtain ⟨x, rfl, hx9⟩ := h3
      exact W.zret B.exec B.bytes hr hx9 hq hf hd
    · obtain ⟨x, rfl⟩ := h3
      exact W.lret B.exec B.bytes hr hq hf hd
    · rcases h3 with rfl | ⟨k, rfl⟩
      · exact W.aret B.exec B.bytes hr (Or.inl ⟨_, rfl⟩) (Or.inl rfl) hq hf hd
      · exact W.aret B.exec B.bytes hr (Or.inl ⟨_, rfl⟩) (Or.inr ⟨_, rfl⟩) hq hf hd
    · rcases h3 with rfl | ⟨k, rfl⟩
      · exact W.aret B.exec B.bytes hr (Or.inr ⟨_, rfl⟩) (Or.inl rfl) hq hf hd
      · exact W.aret B.exec B.bytes hr (Or.inr ⟨_, rfl⟩) (Or.inr ⟨_, rfl⟩) hq hf hd
    · exact absurd h3 id
  · intro i w' ce sl hth pc st H locs ad' ls' htw hls hcs hp
    obtain ⟨h1, h2, h3⟩ := hth
    obtain ⟨ik, is, ic, text, t1, t2, t3, t4, t5, t6⟩ := htw
    obtain ⟨sa, hstr⟩ := hsd.2.2.2.2 _ _ _ t3
    have hts := np_hts hsd (vs.map (np_v ad)).toArray
    have hout : ∀ (n : Nat), ∀ x ∈ c.exceptionTable.toList, covers x n = false := fun n x hx => absurd (htab x hx) id
    have hnm : ∀ n ∈ np_ens, Bundle.fit n = true := by decide +kernel
    have hcf : Bundle.fit (np_en i) = true := by
      match i with
      | 0 => decide +kernel
      | 1 => decide +kernel
      | i + 2 => exact (by decide +kernel : Bundle.fit "java/lang/IllegalStateException" = true)
    have hsz := hp.2.2.2.1.1
    have hx : ∀ t : State, s.vm.Alike t.vm → H.size ≤ t.heap.size → (∀ q : Nat, q < H.size → t.heap[q]? = H[q]?) → np_XC D cA ad w s.heap.size QX (np_en i) s t := fun t _ g1 g2 =>
      ⟨⟨i, w', ad', rfl, h3, ⟨fun k e9 hk => ⟨(hp.1.1 k e9 hk).1.kept (g2 _ (hp.1.1 k e9 hk).1.lt), (hp.1.1 k e9 hk).2⟩, hp.1.2⟩, hp.2.2.2.2.2, hp.2.2.2.2.1⟩, Nat.le_trans hsz g1, fun q g3 g4 => by rw [g2 q (Nat.lt_of_lt_of_le g3 hsz)]; exact hp.2.2.2.1.2.1 q g3 g4⟩
    rcases t6 with ⟨d0, d3, d4, d6, d9⟩ | ⟨d0, d3, d4, d7, d10⟩
    · exact vx_throwS (names := np_ens) (A := np_A ad w s.heap.size) B.exec B.bytes hlt hown hcf hnm (hts _ t1) (hts _ t2) hstr (np_hat hsd t4) t5 hzq.1 hzq.2 hp.2.2.2.1 (hls.trans hml.symm) d0 d3 d4 d6 d9 (hout _) (by show 2 + 3 < fr; omega) (by rw [np_cat_sum]; show _ + (13 * (2 + 1) + 43) ≤ lo; omega) h1 h2 hlocks hx hp.2.2.2.1.2.2 h1 h2
    · exact vx_throwSW (names := np_ens) (A := np_A ad w s.heap.size) B.exec B.bytes hlt hown hcf hnm (hts _ t1) (hts _ t2) hstr (np_hat hsd t4) t5 hzq.1 hzq.2 hp.2.2.2.1 (hls.trans hml.symm) d0 d3 d4 d7 d10 (hout _) (by show 2 + 3 < fr; omega) (by rw [np_cat_sum]; show _ + (13 * (2 + 1) + 43) ≤ lo; omega) h1 h2 hlocks hx hp.2.2.2.1.2.2 h1 h2
def np_inX (is : np_Rt → np_Th → List (Nat × np_Op)) (ret : Option FieldType) (mc ms fuel : Nat) : np_SpX := fun vs w Q QX =>
  np_runF (is (np_rq ret mc ms Q) (np_thq mc ms QX)) [] (fun _ _ _ _ _ _ => False) fuel 0 (lv_args 0 vs) [] w 0 0
theorem np_inCX {y : MethodName} {cc : ByteArray} {maxL : Nat} {ret : Option FieldType} {fr lo mc ms : Nat} {is : np_Rt → np_Th → List (Nat × np_Op)} (fuel : Nat) (hy : plainName y.cls = true) (hfr : 6 ≤ fr) (hlo : 100 ≤ lo)
    (so : ∀ X : np_Ctx, np_ok y.cls cc maxL fr lo mc ms (np_retI ret) X → np_mn X = y.name → ∀ q ∈ is X.2.2.1 X.2.2.2, np_S X q.1 q.2) : np_CX y cc maxL ret fr lo mc ms (np_inX is ret mc ms fuel) := by
  refine np_ofX hy hfr hlo ?_
  intro X vs w Q QX hsp hX hmn hRt hTh
  have h := so X hX hmn
  rw [hRt, hTh] at h
  exact np_soundF h (heads := []) (Hd := fun _ _ _ _ _ _ => False) (fun _ _ _ _ _ _ h => h.elim) fuel 0 _ _ _ _ _ hsp
-- a method with a table of its own, that always returns
def np_tab (X : np_Ctx) : List ExceptionTableEntry := X.1.2.2.2.2.2.2.2.2.2.exceptionTable.toList
def np_CW (y : MethodName) (cc : ByteArray) (maxL : Nat) (ret : Option FieldType) (hh : List (Nat × Nat × Nat × Nat)) (fr lo mc ms : Nat) (sp : np_Sp) : Prop :=
  ∀ (l : Launch), l.stackTraces = false → ∀ (D : va_G) (cA : FieldType → ClassId) (ad : Nat → Nat) (w : np_W) (vs : List Value) (sz : Nat) (Q : Option Value → np_W → Prop), (vs.map fun v => v.category).sum ≤ maxL → sp vs w Q →
    Met l y [Cond.codeWith y cc maxL ret hh] { frames := fr, cells := mc, slots := ms, locals := lo } (np_P D cA ad w vs sz) (np_Qc D cA ad w sz Q) mc ms (np_A ad w sz)
theorem np_inCW {y : MethodName} {cc : ByteArray} {maxL : Nat} {ret : Option FieldType} {hh : List (Nat × Nat × Nat × Nat)} {fr lo mc ms : Nat} {is : np_Rt → List (Nat × np_Op)} (fuel : Nat) (hy : plainName y.cls = true)
    (so : ∀ X : np_Ctx, np_ok y.cls cc maxL fr lo mc ms (np_retI ret) X → np_tab X = tableOf hh → ∀ q ∈ is X.2.2.1, np_S X q.1 q.2) : np_CW y cc maxL ret hh fr lo mc ms (np_in is ret mc ms fuel) := by
  intro l hlt D cA ad w vs sz Q hcat hsp
  refine va_MetW (cc := cc) (maxL := maxL) (ret := ret) (hh := hh) hy rfl ?_
  intro p e s m args below meth c s₁ B hml hv
  obtain ⟨rfl, hsz, hO, hcv, hK, hsd, hzq⟩ := hv
  subst hsz
  have hlen : (lg_sl (vs.map (np_v ad))).length ≤ maxL := by rw [np_lgsl_len, np_cat_sum]; exact hcat
  have hl := lv_entry (vs.map (np_v ad)) (n := maxL) hlen
  rw [lg_entry_eq]
  generalize (lg_sl (vs.map (np_v ad)) ++ List.replicate (maxL - (lg_sl (vs.map (np_v ad))).length) Slot.unset).toArray = ls at hl ⊢
  rw [np_args_map] at hl
  have hr := B.returns
  have hA : ∀ q, s.heap.size ≤ q → np_A ad w s.heap.size q := fun q hq => Or.inr hq
  have htab : c.exceptionTable.toList = tableOf hh := vx_table (l := l) (x := y) B (atoms_spec (ws := [Cond.codeWith y cc maxL ret hh]) B.pre _ List.mem_cons_self)
  have hX : np_ok y.cls cc maxL fr lo mc ms (np_retI ret) ((p, l, e, { frames := fr, cells := mc, slots := ms, locals := lo }, s, m, (vs.map (np_v ad)).toArray, below, meth, c), (MQ below (np_Qc D cA ad w s.heap.size Q) (vs.map (np_v ad)).toArray s mc ms (np_A ad w s.heap.size), D, cA, np_A ad w s.heap.size, ad, w.1, maxL), np_rq ret mc ms Q, fun _ _ _ _ => False) := by
    refine ⟨B.exec, B.bytes, hml, rfl, findClass_of_methodNamed B.named, hsd, hK, hA, Nat.le_refl _, Nat.le_refl _, Nat.le_refl _, Nat.le_refl _, ?_, hlt, hzq, fun _ _ _ _ h => absurd h id⟩
    intro st w' ce sl hrt pc H locs ad' ls' hd hp
    obtain ⟨h1, h2, h3, h4⟩ := hrt
    have h3 := np_shp_shape h3
    refine W.widen (k := mc) (n := ms) h1 h2 ?_
    have hq : ∀ t : State, t.heap = H → s.WarmedH t.vm → np_Qc D cA ad w s.heap.size Q (vs.map (np_v ad)).toArray s (.returned (st.head?.map (np_v ad'))) t := fun t ht hW =>
      ⟨⟨st.head?, w', ad', rfl, h4, by rw [ht]; exact hp.1, fun v hv => hp.2.2.1 v (by
        cases st with
        | nil => cases hv
        | cons a r =>
          have : v = a := by simpa using hv
          rw [this]
          exact List.mem_cons_self), hp.2.2.2.2.2, hp.2.2.2.2.1⟩, hp.2.2.2.1.F ht⟩
    have hf := hp.2.2.2.1.2.2
    have hlocks := B.notSynchronized
    unfold np_shape at h3
    split at h3
    · subst h3
      exact W.vret B.exec B.bytes hr hq hf hd
    · obtain ⟨x, rfl⟩ := h3
      exact W.iret B.exec B.bytes hr hq hf hd
    · obtain ⟨x, rfl, hx9⟩ := h3
      exact W.zret B.exec B.bytes hr hx9 hq hf hd
    · obtain ⟨x, rfl, hx9⟩ := h3
      exact W.zret B.exec B.bytes hr hx9 hq hf hd
    · obtain ⟨x, rfl⟩ := h3
      exact W.lret B.exec B.bytes hr hq hf hd
    · rcases h3 with rfl | ⟨k, rfl⟩
      · exact W.aret B.exec B.bytes hr (Or.inl ⟨_, rfl⟩) (Or.inl rfl) hq hf hd
      · exact W.aret B.exec B.bytes hr (Or.inl ⟨_, rfl⟩) (Or.inr ⟨_, rfl⟩) hq hf hd
    · rcases h3 with rfl | ⟨k, rfl⟩
      · exact W.aret B.exec B.bytes hr (Or.inr ⟨_, rfl⟩) (Or.inl rfl) hq hf hd
      · exact W.aret B.exec B.bytes hr (Or.inr ⟨_, rfl⟩) (Or.inr ⟨_, rfl⟩) hq hf hd
    · exact absurd h3 id
  have hG := np_soundF (so _ hX htab) (heads := []) (Hd := fun _ _ _ _ _ _ => False) (fun _ _ _ _ _ _ h => h.elim) fuel 0 _ _ _ _ _ hsp
  exact hG s.heap [] ad ls hl ⟨hO.weaken (fun k e hk _ => Or.inl ⟨k, e, hk, rfl⟩), np_args_c vs 0 hcv, (fun _ h => nomatch h), va_S.rf, fun _ _ => rfl, Nat.le_refl _⟩
theorem np_s_callSW {X : np_Ctx} {pc : Nat} {own : String} {cc : ByteArray} {nL RF RL RC RS : Nat} {rI : Instr} (hX : np_ok own cc nL RF RL RC RS rI X) {y : MethodName} {cc' : ByteArray} {maxL : Nat} {ret : Option FieldType} {hh : List (Nat × Nat × Nat × Nat)} {fr lo mc ms n ix : Nat} {sp : np_Sp} (hC : np_CW y cc' maxL ret hh fr lo mc ms sp) (d : decode cc pc = .ok (.invokestatic ix, 3)) (hcode : Cond.codeWith y cc' maxL ret hh ∈ np_gw) (hini : Cond.initialized y.cls ∈ np_gw) (hlink : Cond.methodLink own ix y ∈ np_gw) (hst : Cond.static y ∈ np_gw)
    (hd : y.cls ≠ "java/lang/invoke/MethodHandle" ∧ y.cls ≠ "java/lang/invoke/VarHandle" ∧ (parseMethodDescriptor y.desc).map (fun d => d.parameters.length) = some n) (h1 : fr + 1 ≤ RF) (h2 : 8 + (maxL + 11) + lo ≤ RL) : np_S X pc (np_call n sp maxL mc ms RC RS) := by
  obtain ⟨⟨p, l, e, R, s, m, args, below, meth, c⟩, ⟨Q, D, cA, A, ad0, n0, nL'⟩, Rt, Th⟩ := X
  obtain ⟨hx, hb, hml, rfl, hown, hsd, hK, hA, hRF, hRL, hRC, hRS, hret, hlt, hzq, hth⟩ := hX
  intro k hk L st w ce sl hop H locs ad ls hl hp
  obtain ⟨g1, g2, g3, g4, g5, hop⟩ := hop
  have hM := hC l hlt D cA ad w (st.take n).reverse H.size _ g3 hop
  have htk := np_tk_c (k := n) hp.2.2.1
  have hts := np_hts hsd args
  have hG : GoodIn np_gw [Cond.codeWith y cc' maxL ret hh] := fun w hw => by
    rw [List.mem_singleton.mp hw]
    exact ⟨hcode, Or.inl rfl⟩
  have cw : vx_CSW R s args own ix y cc' maxL ret hh [Cond.codeWith y cc' maxL ret hh] { frames := fr, cells := mc, slots := ms, locals := lo } mc ms n := by
    refine ⟨⟨rfl, rfl, Nat.le_trans h1 hRF, Nat.le_trans h2 hRL, pay_in hts hG, List.mem_cons_self⟩, hts _ hcode, hts _ hini, ⟨hd.1, hd.2.1⟩, fun sig h => ?_, hts _ hlink, hts _ hst⟩
    have h9 := hd.2.2
    rw [h] at h9
    exact (Option.some.inj h9).symm
  refine np_goes (Rt := Rt) (Th := Th) (st := st) (vx_runSW (Ts := np_gw) (own := own) (ret := ret) (hh := hh) (n := n) (As := (st.take n).reverse.map (np_v ad)) (rest := (st.drop n).map (np_v ad)) ⟨hx, hb, hml, hown, hts⟩ hM cw ⟨np_P.blind, hp.P htk.1 hK hsd hzq hA⟩ rfl (by rw [List.length_map]; exact np_tk_len g1) hl.1 (np_stk ad st n) (lv_room (by rw [np_cat_sum]; exact g2)) d ⟨Nat.le_trans g4 hRC, Nat.le_trans g5 hRS⟩) hl hp htk.2 hA (fun r w' hq => hk _ _ _ _ _ _ hq)
/-- the handler of the exception i around pc -/
def np_hd (own : String) (tab : List ExceptionTableEntry) (pc i h : Nat) : Prop := ∃ (pre : List ExceptionTableEntry) (x : ExceptionTableEntry) (suf : List ExceptionTableEntry), tab = pre ++ x :: suf ∧
  (∀ z ∈ pre, covers z pc = false ∨ (z.catchType ≠ 0 ∧ ∃ nm : String, Cond.classLink own z.catchType nm ∈ np_gw ∧ (np_en i, nm) ∈ np_ncs)) ∧ covers x pc = true ∧ x.catchType ≠ 0 ∧ Cond.classLink own x.catchType (np_en i) ∈ np_gw ∧ Cond.castable (np_en i) (np_en i) ∈ np_nw ∧ x.handlerPc = h
def np_fd : List (Nat × Nat) → Nat → Option Nat
  | [], _ => none
  | (j, h) :: r, i => if j = i then some h else np_fd r i
def np_callVX (ci n : Nat) (sp : np_SpX) (maxL mc ms RC RS : Nat) (hs : List (Nat × Nat)) : np_Op := fun k pc L st w ce sl =>
  (match (st.take n).reverse with
    | .ref a :: _ => (match w.2 a with
      | some (.inr (c, _)) => c = ci
      | _ => False)
    | _ => False) ∧ n ≤ st.length ∧ ((st.drop n).map fun v => v.category).sum ≤ 8 ∧ ((st.take n).reverse.map fun v => v.category).sum ≤ maxL ∧ ce + mc ≤ RC ∧ sl + ms ≤ RS ∧
    sp (st.take n).reverse w (fun r w' => k (pc + 3) L (r.toList ++ st.drop n) w' (ce + mc) (sl + ms)) (fun i w' => match np_fd hs i with
      | some h => np_force w'.1 (fun n => k h L [.ref n] (n + 1, w'.2) (ce + mc) (sl + ms))
      | none => False)
theorem np_fd_mem {hs : List (Nat × Nat)} {i h : Nat} (q : np_fd hs i = some h) : (i, h) ∈ hs := by
  induction hs with
  | nil => cases q
  | cons a r ih =>
    obtain ⟨j, b⟩ := a
    unfold np_fd at q
    by_cases hj : j = i
    · rw [if_pos hj] at q
      cases q
      subst hj
      exact List.mem_cons_self
    · rw [if_neg hj] at q
      exact List.mem_cons_of_mem _ (ih q)
theorem np_s_callVX {X : np_Ctx} {pc : Nat} {own : String} {cc : ByteArray} {nL RF RL RC RS : Nat} {rI : Instr} (hX : np_ok own cc nL RF RL RC RS rI X) {y : MethodName} {cc' : ByteArray} {maxL : Nat} {ret : Option FieldType} {fr lo mc ms n ix ci : Nat} {q : vw_C} {sp : np_SpX} {hs : List (Nat × Nat)} (hC : np_CX y cc' maxL ret fr lo mc ms sp) (d : decode cc pc = .ok (.invokevirtual ix, 3)) (hc : vwCl[ci]? = some q) (hcq : q.1 = y.cls) (hcode : Cond.code y cc' maxL ret ∈ np_gw) (hini : Cond.initialized y.cls ∈ np_gw) (hlink : Cond.methodLink own ix y ∈ np_gw) (hin : Cond.instanceMethod y ∈ np_gw) (hse : Cond.selects y.cls y y ∈ np_gw)
    (hd : y.cls ≠ "java/lang/invoke/MethodHandle" ∧ y.cls ≠ "java/lang/invoke/VarHandle" ∧ (parseMethodDescriptor y.desc).map (fun d => d.parameters.length) = some n) (h1 : fr + 1 ≤ RF) (h2 : 8 + (maxL + 11) + lo ≤ RL) (hhs : ∀ z ∈ hs, np_hd own (np_tab X) pc z.1 z.2) : np_S X pc (np_callVX ci (n + 1) sp maxL mc ms RC RS hs) := by
  obtain ⟨⟨p, l, e, R, s, m, args, below, meth, c⟩, ⟨Q, D, cA, A, ad0, n0, nL'⟩, Rt, Th⟩ := X
  obtain ⟨hx, hb, hml, rfl, hown, hsd, hK, hA, hRF, hRL, hRC, hRS, hret, hlt, hzq, hth⟩ := hX
  intro k hk L st w ce sl hop H locs ad ls hl hp
  obtain ⟨g0, g1, g2, g3, g4, g5, hop⟩ := hop
  have hM := hC l hlt D cA ad w (st.take (n + 1)).reverse H.size _ _ g3 hop
  have htk := np_tk_c (k := n + 1) hp.2.2.1
  have hts := np_hts hsd args
  have hlen := np_tk_len g1
  have hstk := np_stk ad st (n + 1)
  have hP := hp.P htk.1 hK hsd hzq hA
  split at g0
  · rename_i a As hrv
    rw [hrv] at hlen hstk hP
    split at g0
    · rename_i c9 fs hwa
      subst g0
      have hrun := vx_runV (p := p) (l := l) (e := e) (below := below) (meth := meth) (locs := locs) (cells := ce) (slots := sl) (g := F0 m pc ls (st.map (np_v ad))) (Ts := np_gw) (own := own) (C := y.cls) (b := ad a) (ret := ret) (n := n) (As := As.map (np_v ad)) (rest := (st.drop (n + 1)).map (np_v ad)) ⟨hx, hb, hml, hown, hts⟩ hM ⟨np_cb hsd hcode hini hlink hd (Nat.le_trans h1 hRF) (Nat.le_trans h2 hRL), hts _ hin, hts _ hse⟩ ⟨np_P.blind, by rw [← hcq]; exact np_recv hK hp.1 hc hwa, by rw [hrv]; exact hP⟩ rfl (by rw [List.length_map]; simpa using hlen) hl.1 (by rw [hstk]; simp [np_v]) (lv_room (by rw [np_cat_sum]; exact g2)) d ⟨Nat.le_trans g4 hRC, Nat.le_trans g5 hRS⟩
      have hsub := np_A.sub hp hA
      intro T hT X
      rcases hrun T hT X with ⟨v, st₀, t, T', Lc, h0, X', hLc, e1, e2, hQ, stp⟩ | ⟨q9, st₀, t, T', Lc, E, ce9, h0, X', hLc, e1, e2, hXC, hce, hcv, hcl, stp⟩
      · exact np_goes1 (Rt := Rt) (Th := Th) h0 X' hLc e1 hQ stp hl hp htk.2 hA (fun r w' hq => hk _ _ _ _ _ _ hq)
      · obtain ⟨⟨i, w', ad', rfl, hq, hO, hn, had⟩, hz, hkk⟩ := hXC
        rw [h0] at hz hkk
        split at hq
        · rename_i h hfd
          rw [np_force_eq] at hq
          obtain ⟨pre, x, suf, t1, t2, t3, t4, t5, t6, rfl⟩ := hhs _ (np_fd_mem hfd)
          have hO' : np_O D cA A (va_up ad' w'.1 q9) (w'.1 + 1, w'.2) T'.heap := by
            rw [e1]
            have hag : ∀ k, k < w'.1 → va_up ad' w'.1 q9 k = ad' k := fun k hk => va_up_ne _ _ (Nat.ne_of_lt hk)
            refine ⟨fun k e9 hk9 => ?_, fun j k e9 e8 hj9 hk9 hjk => ?_⟩
            · obtain ⟨u1, u2, u3, u4, u5⟩ := hO.1 k e9 hk9
              rw [hag k u5, np_e.cong hag u3]
              exact ⟨u1, hsub _ u2, u3.mono (Nat.le_succ _), u4, Nat.lt_succ_of_lt u5⟩
            · rw [hag j (hO.1 j e9 hj9).2.2.2.2, hag k (hO.1 k e8 hk9).2.2.2.2] at hjk
              exact hO.2 j k e9 e8 hj9 hk9 hjk
          have hS : va_S A s.heap T'.heap (locs ++ Lc) := by
            have hS0 := hp.2.2.2.1
            refine ⟨Nat.le_trans hS0.1 (by rw [e1]; exact hz), fun q g1 g2 => ?_, fun q hq => ?_⟩
            · rw [e1, hkk q (Nat.lt_of_lt_of_le g1 hS0.1) (fun z => g2 (hsub q z))]
              exact hS0.2.1 q g1 g2
            · rcases List.mem_append.mp hq with h | h
              · exact hS0.2.2 q h
              · exact hsub _ (hLc q h)
          have had2 : ∀ k, k < w.1 → va_up ad' w'.1 q9 k = ad k := fun k hk => by
            rw [va_up_ne _ _ (Nat.ne_of_lt (Nat.lt_of_lt_of_le hk hn))]
            exact had k hk
          have hcL : np_cL (va_up ad' w'.1 q9) L = np_cL ad L := by
            unfold np_cL
            exact List.map_congr_left fun q hq => by rw [np_v.cong had2 (hp.2.1 q hq)]
          have hgo := hk _ _ _ _ _ _ hq T'.heap (locs ++ Lc) (va_up ad' w'.1 q9) ls (by rw [hcL]; exact hl) ⟨hO', fun q hq => (hp.2.1 q hq).mono (Nat.le_succ_of_le hn), np_c_cons (Nat.lt_succ_self _) (fun _ h => nomatch h), hS, fun k hk => by rw [had2 k (Nat.lt_of_lt_of_le hk hp.2.2.2.2.2)]; exact hp.2.2.2.2.1 k hk, Nat.le_succ_of_le (Nat.le_trans hp.2.2.2.2.2 hn)⟩
          have hv9 : [Value.ref w'.1].map (np_v (va_up ad' w'.1 q9)) = [.ref q9] := congrArg (fun z => [Value.ref z]) (va_up_self _ _ _)
          rw [hv9] at hgo
          have hcat := vx_catch (own := own) (name := np_en i) (E := np_en i) (rest := (st.drop (n + 1)).map (np_v ad)) hown pre x suf t1 (fun z hz => by
            rcases t2 z hz with h | ⟨h7, nm, h8, h9⟩
            · exact Or.inl h
            · exact Or.inr ⟨h7, nm, hts _ h8, hsd.2.2.2.1 _ h9⟩) t3 t4 (hts _ t5) (va_Nw.use rfl (hsd.2.1 _ t6)) (by rw [e1]; exact hce) hcv hcl hgo
          obtain ⟨t9, a1, b1⟩ := hcat T' rfl X'
          exact ⟨t9, stp.trans a1, b1⟩
        · exact absurd hq id
    · exact absurd g0 id
  · exact absurd g0 id
end
section
/-! THE CLAIM OUT OF ONE WALK OF THE LAW'S BODY. Your part is whole_start (and what it stands on); all else here is the same for every law, but numbers. -/
def R_law : String := "NotationPressLaw"
def lw_P (b : Addr) (xs : List Int32) (args : Array Value) (s : State) : Prop := args = #[.ref b] ∧ s.IntsAt b xs ∧ xs.length ≤ 7 ∧ (Jvm.Cond.and given_1 narrow_1).before args s = true
def lw_Q (_ : Array Value) (s : State) (o : Outcome) (t : State) : Prop := o = .returned (some (.int 1)) ∧ Framed s o t [] 600002 7302232
def lw_Z (below : List Frame) (a : Array Value) (s : State) : State → Prop := fun t => ∃ o, t.status = .running ∧ Ended t below o ∧ lw_Q a s o t
/-- the law's own end, with 1 on the stack, nothing written that was there before, its room as the claim has it -/
theorem lw_ret {p : Program} {l : Launch} {e : Env} {s : State} {m : MethodId} {below : List Frame} {meth : Method} {c : Code} {b : Nat} (hx : p.tables.exec = Jvm.exec) (hb : c.code = code) (hr : meth.sig.returnType = ret) (hlocks : meth.locks = false) {pc : Nat} {H : Heap} {ls : Array Slot} (hdg : decode code pc = .ok (.ireturn, 1)) : W p l e room_1 s m #[Value.ref b] below meth c H [] 600002 7302232 (lw_Z below #[Value.ref b] s) (F0 m pc ls [.int 1]) := by
  intro T hT X
  obtain ⟨fs, hret, hrun, hended, hW, hframe⟩ := X.leave (v := some (.int 1)) (hlocks := hlocks) (fun h => by rw [hr] at h; cases h)
  have hmeth' : T.vm.method? m = some meth := X.method'
  refine ⟨T.setFrames fs, ?_, .returned (some (.int 1)), hrun, hended, rfl, ⟨_, rfl⟩, hW, hframe⟩
  jvm_step X.here [X.here.top, hx, hb, hdg, hmeth', hr, ret, narrow_b1]
  (try refine ⟨rfl, ?_⟩); (try refine ⟨rfl, ?_⟩)
  first | (intro acts; rw [hret _ acts rfl rfl rfl]) | rw [hret _ _ rfl rfl rfl]
  exact Steps.refl _
/-- what holds at the law's entry: the machine, the code, the tables' words (any of lw_tbl by 'hts w (by decide +kernel)'), the script of L ints xs at the cell b, what the Statement gives of the start (any of its parts by flat_of_before) -/
def lw_At (p : Program) (s : State) (m : MethodId) (meth : Method) (c : Code) (b L : Nat) (xs : Nat → Int32) : Prop :=
  p.tables.exec = Jvm.exec ∧ c.code = code ∧ meth.sig.returnType = ret ∧ c.maxLocals = 7 ∧ s.vm.findClass R_law = some m.cls ∧ (∀ w ∈ lw_tbl, w.before #[Value.ref b] s = true) ∧ va_X b L xs s s.heap ∧ b < s.heap.size ∧ meth.locks = false ∧ (Jvm.Cond.and given_1 narrow_1).before #[Value.ref b] s = true
end
section
/-! From the law's entry: what stands there in the words of the abstract machine. -/
def np_cA (s : State) : FieldType → ClassId := fun ty => (s.vm.findClass ("[" ++ ty.toString)).getD 0
theorem np_cA_prim {s : State} {args : Array Value} {ty : FieldType} (h : (Cond.arrayClass ty).before args s = true) (hr : ∀ C, ty ≠ .object C) : ArrOfT s (np_cA s ty) ty ∧ va_RA s (np_cA s ty) ty := by
  obtain ⟨c, k, comp, h1, h2, h3⟩ := Cond.arrayClass_spec h
  have hc : np_cA s ty = c := by unfold np_cA; rw [h1]; rfl
  rw [hc]
  refine ⟨fun n z => ⟨(fun k h => by cases h), k, h2, comp, h3⟩, ?_⟩
  cases ty <;> first | exact h1 | exact absurd rfl (hr _)
theorem np_cA_obj {s : State} {args : Array Value} {C : String} (h : (Cond.arrayOver (.object C)).before args s = true) : ArrOfT s (np_cA s (.object C)) (.object C) ∧ va_RA s (np_cA s (.object C)) (.object C) := by
  obtain ⟨comp, c, k, h1, h2, h3, h4, h5⟩ := Cond.arrayOver_spec h
  have hc : np_cA s (.object C) = c := by unfold np_cA; rw [h5]; rfl
  rw [hc]
  exact ⟨fun n z => ⟨(fun k h => by cases h), k, h3, comp, h4⟩, k, comp, h3, h4, h1, h5⟩
/-- the words of the tables at any state: from their truth at the law's start -/
theorem np_sd_of {args : Array Value} {s : State} (hts : ∀ w ∈ lw_tbl, w.before args s = true) (hao : ∀ C ∈ np_ao, Cond.arrayOver (.object C) ∈ lw_tbl) (hnc : ∀ q ∈ np_ncs, (Cond.not (.castable q.1 q.2)).before args s = true) (hst : ∀ own k tx, Cond.stringRef own k tx ∈ lw_tbl → (Cond.exactly (.string own k) "java/lang/String").before args s = true) : np_sd s := by
  refine ⟨fun w hw => np_good (State.WarmedH.refl s) (List.mem_filter.mp hw).2 (hts w (List.mem_filter.mp hw).1), fun w hw => ?_, fun C hC => va_AO.of (hts _ (hao C hC)), fun q hq => va_Nc.of (hnc q hq), fun own k tx hq => ?_⟩
  · have h1 := hts w (List.mem_filter.mp hw).1
    have h2 := (List.mem_filter.mp hw).2
    cases w <;> first | (simp [np_isNest] at h2; done) | exact va_Nw.of rfl h1
  · obtain ⟨a, c, cell, k9, h1, -⟩ := Cond.exactly_spec (hst own k tx hq)
    exact ⟨a, vk_R.of (hts _ hq) (by rw [← h1])⟩
def np_sld (Ls : Nat) (xs : Nat → Int32) : np_Op := fun k pc L st w ce sl => match st with
  | .int i :: .ref a :: r => a = 0 ∧ vp_in i Ls ∧ k (pc + 1) L (.int (xs i.toNatClampNeg) :: r) w ce sl
  | _ => False
def np_slen (Ls : Nat) : np_Op := fun k pc L st w ce sl => match st with
  | .ref a :: r => a = 0 ∧ k (pc + 1) L (.int (Int32.ofNat Ls) :: r) w ce sl
  | _ => False
/-- the script lies at place 0, outside the worlds -/
def np_lf (Ls : Nat) (xs : Nat → Int32) : np_Ctx → Prop
  | ((_, _, _, _, s, _, _, _, _, _), (_, _, _, A, ad0, n0, _), _, _) => va_X (ad0 0) Ls xs s s.heap ∧ ad0 0 < s.heap.size ∧ ¬ A (ad0 0) ∧ 0 < n0
theorem np_s_sld {X : np_Ctx} {pc : Nat} {own : String} {cc : ByteArray} {nL RF RL RC RS : Nat} {rI : Instr} (hX : np_ok own cc nL RF RL RC RS rI X) {Ls : Nat} {xs : Nat → Int32} (hf : np_lf Ls xs X) (d : decode cc pc = .ok (.iaload, 1)) : np_S X pc (np_sld Ls xs) := by
  obtain ⟨⟨p, l, e, R, s, m, args, below, meth, c⟩, ⟨Q, D, cA, A, ad0, n0, nL'⟩, Rt, Th⟩ := X
  obtain ⟨hx, hb, hml, rfl, hown, hsd, hK, hA, hRF, hRL, hRC, hRS, hret, hlt, hzq, hth⟩ := hX
  obtain ⟨f1, f2, f3, f4⟩ := hf
  intro k hk L st w ce sl hop H locs ad ls hl hp
  unfold np_sld at hop
  split at hop
  · rename_i i a r
    obtain ⟨rfl, hin, hop⟩ := hop
    have h0 : ad 0 = ad0 0 := hp.2.2.2.2.1 0 f4
    show W p l e R s m args below meth c H locs ce sl Q (F0 m pc ls (.int i :: .ref (ad 0) :: r.map (np_v ad)))
    rw [h0]
    exact va_sld hx hb f1 f2 f3 hp.2.2.2.1 hin d (hk _ _ _ _ _ _ hop H locs ad ls hl (hp.to hp.2.1 (np_c_cons trivial (np_c_tl (np_c_tl hp.2.2.1)))))
  · exact absurd hop id
theorem np_s_slen {X : np_Ctx} {pc : Nat} {own : String} {cc : ByteArray} {nL RF RL RC RS : Nat} {rI : Instr} (hX : np_ok own cc nL RF RL RC RS rI X) {Ls : Nat} {xs : Nat → Int32} (hf : np_lf Ls xs X) (d : decode cc pc = .ok (.arraylength, 1)) : np_S X pc (np_slen Ls) := by
  obtain ⟨⟨p, l, e, R, s, m, args, below, meth, c⟩, ⟨Q, D, cA, A, ad0, n0, nL'⟩, Rt, Th⟩ := X
  obtain ⟨hx, hb, hml, rfl, hown, hsd, hK, hA, hRF, hRL, hRC, hRS, hret, hlt, hzq, hth⟩ := hX
  obtain ⟨f1, f2, f3, f4⟩ := hf
  intro k hk L st w ce sl hop H locs ad ls hl hp
  unfold np_slen at hop
  split at hop
  · rename_i a r
    obtain ⟨rfl, hop⟩ := hop
    have h0 : ad 0 = ad0 0 := hp.2.2.2.2.1 0 f4
    show W p l e R s m args below meth c H locs ce sl Q (F0 m pc ls (.ref (ad 0) :: r.map (np_v ad)))
    rw [h0]
    exact va_slen hx hb f1 f2 f3 hp.2.2.2.1 d (hk _ _ _ _ _ _ hop H locs ad ls hl (hp.to hp.2.1 (np_c_cons trivial (np_c_tl hp.2.2.1))))
  · exact absurd hop id
/-- fewer things known of the world -/
theorem np_weak {X : np_Ctx} {pc : Nat} {L : np_L} {st : List Value} {w : np_W} {f : Nat → Option np_E} {ce sl : Nat} (hf : ∀ k e, f k = some e → w.2 k = some e) (h : np_G X pc L st (w.1, f) ce sl) : np_G X pc L st w ce sl := by
  obtain ⟨⟨p, l, e, R, s, m, args, below, meth, c⟩, ⟨Q, D, cA, A, ad0, n0, nL'⟩, Rt, Th⟩ := X
  intro H locs ad ls hl hp
  exact h H locs ad ls hl ⟨⟨fun k e hk => hp.1.1 k e (hf k e hk), fun j k e e' hj hk => hp.1.2 j k e e' (hf j e hj) (hf k e' hk)⟩, hp.2⟩
/-- the law's walk, from its entry -/
theorem np_start {p : Program} {e : Env} {s : State} {m : MethodId} {below : List Frame} {meth : Method} {c : Code} {l : Launch} (hlt : l.stackTraces = false) {b L : Nat} {xs : Nat → Int32} (C0 : lw_At p s m meth c b L xs) {D : va_G}
    (hsd : np_sd s) (hK : va_K D vwCl (np_tys.map fun ty => (np_cA s ty, ty)) s) (hzq : np_zq (fun q : Nat => s.heap.size ≤ q) s)
    (body : ∀ X : np_Ctx, np_ok R_law code 7 11 432 600002 7302232 .ireturn X → np_lf L xs X → X.2.2.1 = (fun st _ ce sl => st = [.int 1] ∧ ce ≤ 600002 ∧ sl ≤ 7302232) → np_G X 0 [(0, .ref 0)] [] (1, fun _ => none) 0 0) :
    W p l e room_1 s m #[Value.ref b] below meth c s.heap [] 0 0 (lw_Z below #[Value.ref b] s) (entryFrame m ([Value.ref b] : List Value).toArray 7) := by
  obtain ⟨hx, hb, hr, hml, hown, hts, hX, hbl, hlocks, hgv⟩ := id C0
  have hbA : ¬ (fun q : Nat => s.heap.size ≤ q) b := Nat.not_le.mpr hbl
  have hl := lv_entry ([.ref b]) (n := 7) (Nat.le_of_ble_eq_true rfl)
  rw [lg_entry_eq]
  generalize (lg_sl ([.ref b]) ++ List.replicate (7 - (lg_sl ([.ref b])).length) Slot.unset).toArray = ls at hl ⊢
  have hl : lv_has ls 7 [(0, .ref b)] := hl
  have hG := body ((p, l, e, room_1, s, m, #[Value.ref b], below, meth, c), (lw_Z below #[Value.ref b] s, D, np_cA s, fun q : Nat => s.heap.size ≤ q, fun _ => b, 1, 7), (fun st _ ce sl => st = [.int 1] ∧ ce ≤ 600002 ∧ sl ≤ 7302232), fun _ _ _ _ => False)
    ⟨hx, hb, hml, rfl, hown, hsd, hK, fun _ h => h, Nat.le_refl _, Nat.le_refl _, Nat.le_refl _, Nat.le_refl _, ?_, hlt, hzq, fun _ _ _ _ h => absurd h id⟩ ⟨hX, hbl, hbA, Nat.one_pos⟩ rfl
  · exact hG s.heap [] (fun _ => b) ls hl ⟨⟨(fun k e h => nomatch h), (fun j k e e' h => nomatch h)⟩, (fun q hq => by
      rw [List.mem_singleton.mp hq]
      exact Nat.one_pos), (fun _ h => nomatch h), va_S.rf, fun _ _ => rfl, Nat.le_refl _⟩
  · intro st w ce sl h pc H locs ad ls' hd hp
    obtain ⟨rfl, h2, h3⟩ := h
    refine va_forget (fun q hq => hp.2.2.2.1.2.2 q hq) ?_
    refine W.widen (k := 600002) (n := 7302232) h2 h3 ?_
    exact lw_ret hx hb hr hlocks hd
end
section
/-! Worlds as lists; runs from point to point; forgetting. -/
def np_wl : List (Nat × np_E) → Nat → Option np_E
  | [], _ => none
  | (j, e) :: r, k => match Nat.beq j k with
    | true => some e
    | false => np_wl r k
def np_all (f : Nat → Option np_E) : List (Nat × np_E) → Prop
  | [] => True
  | (k, e) :: r => f k = some e ∧ np_all f r
theorem np_all_sub {f : Nat → Option np_E} {l : List (Nat × np_E)} (h : np_all f l) : ∀ k e, np_wl l k = some e → f k = some e := by
  induction l with
  | nil => intro k e hk; cases hk
  | cons q r ih =>
    obtain ⟨j, x⟩ := q
    intro k e hk
    unfold np_wl at hk
    by_cases hj : j = k
    · rw [np_beq hj] at hk
      cases hk
      subst hj
      exact h.1
    · rw [np_bne hj] at hk
      exact ih h.2 k e hk
/-- the state at a point of a run -/
def np_at (L : np_L) (st : List Value) (n : Nat) (l : List (Nat × np_E)) (ce sl : Nat) : np_K := fun _ L' st' w' ce' sl' => L' = L ∧ st' = st ∧ w'.1 = n ∧ ce' = ce ∧ sl' = sl ∧ np_all w'.2 l
/-- a run from a point to the next one -/
theorem np_seg {X : np_Ctx} {is : List (Nat × np_Op)} (his : ∀ q ∈ is, np_S X q.1 q.2) {h pc fuel : Nat} {L L1 : np_L} {st st1 : List Value} {w : np_W} {n1 : Nat} {l1 : List (Nat × np_E)} {ce sl ce1 sl1 : Nat} (hk : np_G X h L1 st1 (n1, np_wl l1) ce1 sl1)
    (hr : np_runF is [h] (fun pc L st w ce sl => pc = h ∧ np_at L1 st1 n1 l1 ce1 sl1 pc L st w ce sl) fuel pc L st w ce sl) : np_G X pc L st w ce sl :=
  np_soundF his (heads := [h]) (Hd := fun pc L st w ce sl => pc = h ∧ np_at L1 st1 n1 l1 ce1 sl1 pc L st w ce sl) (fun pc L st w ce sl hq => by
    obtain ⟨n, f⟩ := w
    obtain ⟨rfl, rfl, rfl, h3, rfl, rfl, h6⟩ := hq
    have h3 : n = n1 := h3
    subst h3
    exact np_weak (np_all_sub h6) hk) fuel pc L st w ce sl hr
/-- .. to its end -/
theorem np_fin {X : np_Ctx} {is : List (Nat × np_Op)} (his : ∀ q ∈ is, np_S X q.1 q.2) (fuel : Nat) {pc : Nat} {L : np_L} {st : List Value} {w : np_W} {ce sl : Nat} (hr : np_run is [] (fun _ _ _ _ _ _ => False) fuel pc L st w ce sl) : np_G X pc L st w ce sl :=
  np_sound his (heads := []) (Hd := fun _ _ _ _ _ _ => False) (fun _ _ _ _ _ _ h => h.elim) fuel pc L st w ce sl hr
theorem np_O.less {D : va_G} {cA : FieldType → ClassId} {A : Nat → Prop} {ad : Nat → Nat} {w : np_W} {H : Heap} (h : np_O D cA A ad w H) {n : Nat} {f : Nat → Option np_E} (hf : ∀ k e, f k = some e → w.2 k = some e ∧ np_ce n e ∧ k < n) : np_O D cA A ad (n, f) H :=
  ⟨fun k e hk => ⟨(h.1 k e (hf k e hk).1).1, (h.1 k e (hf k e hk).1).2.1, (hf k e hk).2.1, (h.1 k e (hf k e hk).1).2.2.2.1, (hf k e hk).2.2⟩, fun j k e e' hj hk => h.2 j k e e' (hf j e hj).1 (hf k e' hk).1⟩
/-- a constructor whose own cells nobody looks at: the place of its object is forgotten, and all that it made -/
def np_drop (f : Nat → Option np_E) (k : Nat) : Nat → Option np_E := fun j => if j = k then none else f j
def np_spF (e0 : np_E) : np_Sp := fun vs w Q => match vs with
  | [.ref k] => w.2 k = some e0 ∧ Q none (w.1, np_drop w.2 k)
  | _ => False
theorem np_finF {X : np_Ctx} {is : List (Nat × np_Op)} (his : ∀ q ∈ is, np_S X q.1 q.2) (fuel : Nat) {pc : Nat} {L : np_L} {st : List Value} {w : np_W} {ce sl : Nat} (hr : np_runF is [] (fun _ _ _ _ _ _ => False) fuel pc L st w ce sl) : np_G X pc L st w ce sl :=
  np_soundF his (heads := []) (Hd := fun _ _ _ _ _ _ => False) (fun _ _ _ _ _ _ h => h.elim) fuel pc L st w ce sl hr
/-- the contract of such a constructor, from its run: the world at its end still holds the other cells -/
theorem np_ofF {y : MethodName} {cc : ByteArray} {maxL fr lo mc ms : Nat} {e0 : np_E} (hy : plainName y.cls = true)
    (body : ∀ (X : np_Ctx) (k : Nat) (w : np_W), w.2 k = some e0 → k < w.1 → (∀ j e, w.2 j = some e → j < w.1) → np_ok y.cls cc maxL fr lo mc ms .return_ X → np_mn X = y.name → X.2.2.1 = (fun st w' ce sl => ce ≤ mc ∧ sl ≤ ms ∧ st = [] ∧ ∀ j e, j ≠ k → w.2 j = some e → w'.2 j = some e) → np_G X 0 [(0, .ref k)] [] w 0 0) : np_C y cc maxL none fr lo mc ms (np_spF e0) := by
  intro l hlt D cA ad w vs sz Q hcat hsp
  refine Met.ofW (cc := cc) (maxL := maxL) (ret := none) hy rfl ?_
  intro p e s m args below meth c s₁ B hml hv
  obtain ⟨rfl, hsz, hO, hcv, hK, hsd, hzq⟩ := hv
  subst hsz
  unfold np_spF at hsp
  split at hsp
  · rename_i k
    obtain ⟨hk0, hsp⟩ := hsp
    have hlen : (lg_sl (([Value.ref k] : List Value).map (np_v ad))).length ≤ maxL := by rw [np_lgsl_len, np_cat_sum]; exact hcat
    have hl := lv_entry (([Value.ref k] : List Value).map (np_v ad)) (n := maxL) hlen
    rw [lg_entry_eq]
    generalize (lg_sl (([Value.ref k] : List Value).map (np_v ad)) ++ List.replicate (maxL - (lg_sl (([Value.ref k] : List Value).map (np_v ad))).length) Slot.unset).toArray = ls at hl ⊢
    rw [np_args_map] at hl
    have hr := B.returns
    have hA : ∀ q, s.heap.size ≤ q → np_A ad w s.heap.size q := fun q hq => Or.inr hq
    have hG := body ((p, l, e, { frames := fr, cells := mc, slots := ms, locals := lo }, s, m, (([Value.ref k] : List Value).map (np_v ad)).toArray, below, meth, c), (MQ below (np_Qc D cA ad w s.heap.size Q) (([Value.ref k] : List Value).map (np_v ad)).toArray s mc ms (np_A ad w s.heap.size), D, cA, np_A ad w s.heap.size, ad, w.1, maxL), (fun st w' ce sl => ce ≤ mc ∧ sl ≤ ms ∧ st = [] ∧ ∀ j e, j ≠ k → w.2 j = some e → w'.2 j = some e), fun _ _ _ _ => False) k w hk0 (hcv _ List.mem_cons_self) (fun j e h => (hO.1 j e h).2.2.2.2)
      ⟨B.exec, B.bytes, hml, rfl, findClass_of_methodNamed B.named, hsd, hK, hA, Nat.le_refl _, Nat.le_refl _, Nat.le_refl _, Nat.le_refl _, ?_, hlt, hzq, fun _ _ _ _ h => absurd h id⟩ (name_of_methodNamed B.named B.method).1 rfl
    · exact hG s.heap [] ad ls hl ⟨hO.weaken (fun k e hk _ => Or.inl ⟨k, e, hk, rfl⟩), np_args_c [Value.ref k] 0 hcv, (fun _ h => nomatch h), va_S.rf, fun _ _ => rfl, Nat.le_refl _⟩
    · intro st w' ce sl hrt pc H locs ad' ls' hd hp
      obtain ⟨h1, h2, rfl, h4⟩ := hrt
      refine W.widen (k := mc) (n := ms) h1 h2 ?_
      have hlocks := B.notSynchronized
      refine W.vret B.exec B.bytes hr (fun t ht hW => ?_) hp.2.2.2.1.2.2 hd
      refine ⟨⟨none, (w.1, np_drop w.2 k), ad', rfl, hsp, ?_, (fun _ h => nomatch h), Nat.le_refl _, hp.2.2.2.2.1⟩, hp.2.2.2.1.F ht⟩
      rw [ht]
      refine hp.1.less (fun j e9 hj => ?_)
      have hj' : j ≠ k ∧ w.2 j = some e9 := by
        unfold np_drop at hj
        by_cases hjk : j = k
        · rw [if_pos hjk] at hj; cases hj
        · rw [if_neg hjk] at hj; exact ⟨hjk, hj⟩
      exact ⟨h4 j e9 hj'.1 hj'.2, (hO.1 j e9 hj'.2).2.2.1, (hO.1 j e9 hj'.2).2.2.2.2⟩
  · exact absurd hsp id
def np_mm (RC RS : Nat) : np_Op := fun k pc L st w ce sl => match st with
  | .int y :: .int x :: r => (r.map fun v => v.category).sum ≤ 7 ∧ ce ≤ RC ∧ sl ≤ RS ∧ k (pc + 3) L (.int (if y < x then y else x) :: r) w ce sl
  | _ => False
theorem np_s_mmin {X : np_Ctx} {pc : Nat} {own : String} {cc : ByteArray} {nL RF RL RC RS : Nat} {rI : Instr} (hX : np_ok own cc nL RF RL RC RS rI X) {ix : Nat} (d : decode cc pc = .ok (.invokestatic ix, 3)) (w1 : Cond.methodLink own ix Lib.Math.min.name ∈ np_gw) (w2 : Cond.static Lib.Math.min.name ∈ np_gw) (w3 : Cond.initialized "java/lang/Math" ∈ np_gw) (w4 : Cond.code Lib.Math.min.name Lib.Math.min.code 2 (some .int) ∈ np_gw) (h1 : 1 ≤ RF) (h2 : 20 ≤ RL) : np_S X pc (np_mm RC RS) := by
  obtain ⟨⟨p, l, e, R, s, m, args, below, meth, c⟩, ⟨Q, D, cA, A, ad0, n0, nL'⟩, Rt, Th⟩ := X
  obtain ⟨hx, hb, hml, rfl, hown, hsd, hK, hA, hRF, hRL, hRC, hRS, hret, hlt, hzq, hth⟩ := hX
  intro k hk L st w ce sl hop H locs ad ls hl hp
  unfold np_mm at hop
  split at hop
  · rename_i y x r
    obtain ⟨g1, g2, g3, hop⟩ := hop
    have hts := np_hts hsd args
    exact va_mmin hx hb (hml.trans hl.1.symm) hown (hts _ w1) (hts _ w2) (hts _ w3) (hts _ w4) (Nat.le_trans h1 hRF) (by rw [np_cat_sum]; omega) (Nat.le_trans g2 hRC) (Nat.le_trans g3 hRS) d (hk _ _ _ _ _ _ hop H locs ad ls hl (hp.to hp.2.1 (np_c_cons trivial (np_c_tl (np_c_tl hp.2.2.1)))))
  · exact absurd hop id
theorem np_up_up {α : Type} (f : Nat → Option α) (k : Nat) (x y : α) : np_up (np_up f k x) k y = np_up f k y := by
  funext j
  by_cases h : j = k
  · subst h; rw [np_up_s, np_up_s]
  · rw [np_up_n _ _ h, np_up_n _ _ h, np_up_n _ _ h]
theorem np_up_get {α : Type} {f : Nat → Option α} {k : Nat} {x : α} (h : f k = some x) : np_up f k x = f := by
  funext j
  by_cases hj : j = k
  · subst hj; rw [np_up_s, h]
  · rw [np_up_n _ _ hj]
/-! Steps at cells that are known by a hypothesis. -/
section
variable {k : np_K} {pc : Nat} {L : np_L} {r : List Value} {w : np_W} {ce sl a : Nat}
theorem np_alen_i {t : FieldType} {n : Nat} {x} (h : w.2 a = some (.inl (t, n, x))) (kk : k (pc + 1) L (.int (Int32.ofNat n) :: r) w ce sl) : np_alen k pc L (.ref a :: r) w ce sl := by
  unfold np_alen
  dsimp only
  rw [h]
  exact kk
theorem np_ialdT_i {ty : FieldType} {n : Nat} {f : Nat → Int32} {i : Int32} (h : w.2 a = some (.inl (ty, n, .inl f))) (hi : vp_in i n) (kk : k (pc + 1) L (.int (f i.toNatClampNeg) :: r) w ce sl) : np_ialdT ty k pc L (.int i :: .ref a :: r) w ce sl := by
  unfold np_ialdT
  dsimp only
  rw [h]
  exact ⟨rfl, hi, kk⟩
theorem np_iastT_i {ty : FieldType} {n : Nat} {f : Nat → Int32} {i x : Int32} (h : w.2 a = some (.inl (ty, n, .inl f))) (hi : vp_in i n) (kk : k (pc + 1) L r (w.1, np_up w.2 a (.inl (ty, n, .inl (upd f i.toNatClampNeg (vp_nar ty x))))) ce sl) : np_iastT ty k pc L (.int x :: .int i :: .ref a :: r) w ce sl := by
  unfold np_iastT
  dsimp only
  rw [h]
  exact ⟨rfl, hi, kk⟩
theorem np_getf_i {ci j : Nat} {fs : List Value} {v : Value} (h : w.2 a = some (.inr (ci, fs))) (hj : fs[j]? = some v) (kk : k (pc + 3) L (v :: r) w ce sl) : np_getf ci j k pc L (.ref a :: r) w ce sl := by
  unfold np_getf
  dsimp only
  rw [h]
  dsimp only
  rw [hj]
  exact ⟨rfl, kk⟩
theorem np_putf_i {ci j : Nat} {ty : FieldType} {fs : List Value} {v : Value} (h : w.2 a = some (.inr (ci, fs))) (hn : narrow ty v = v) (hf : fits ty v = true) (hj : j < fs.length) (kk : k (pc + 3) L r (w.1, np_up w.2 a (.inr (ci, fs.set j v))) ce sl) : np_putf ci j ty k pc L (v :: .ref a :: r) w ce sl := by
  unfold np_putf
  dsimp only
  rw [h]
  exact ⟨rfl, hn, hf, hj, by rw [np_fl_eq]; exact kk⟩
end
/-- the same from a run over the object alone: all other cells are the frame -/
theorem np_ofFrame {y : MethodName} {cc : ByteArray} {maxL fr lo mc ms : Nat} {e0 : np_E} (hy : plainName y.cls = true) (hc0 : ∀ (ad ad' : Nat → Nat) (cA : FieldType → ClassId), np_e cA ad e0 = np_e cA ad' e0) (hc1 : ∀ n, np_ce n e0) (hmx : 1 ≤ maxL)
    (body : ∀ (X : np_Ctx), np_ok y.cls cc maxL fr lo mc ms .return_ X → np_mn X = y.name → X.2.2.1 = (fun st _ ce sl => ce ≤ mc ∧ sl ≤ ms ∧ st = []) → np_G X 0 [(0, .ref 0)] [] (1, np_wl [(0, e0)]) 0 0) : np_C y cc maxL none fr lo mc ms (np_spF e0) := by
  intro l hlt D cA ad w vs sz Q hcat hsp
  refine Met.ofW (cc := cc) (maxL := maxL) (ret := none) hy rfl ?_
  intro p e s m args below meth c s₁ B hml hv
  obtain ⟨rfl, hsz, hO, hcv, hK, hsd, hzq⟩ := hv
  subst hsz
  unfold np_spF at hsp
  split at hsp
  · rename_i k
    obtain ⟨hk0, hsp⟩ := hsp
    have hl := lv_entry ([.ref (ad k)]) (n := maxL) hmx
    show W p l e _ s m _ below meth c s.heap [] 0 0 _ (entryFrame m ([Value.ref (ad k)] : List Value).toArray maxL)
    rw [lg_entry_eq]
    generalize (lg_sl ([.ref (ad k)]) ++ List.replicate (maxL - (lg_sl ([.ref (ad k)])).length) Slot.unset).toArray = ls at hl ⊢
    have hl : lv_has ls maxL [(0, .ref (ad k))] := hl
    have hr := B.returns
    obtain ⟨hk1, hk2⟩ := hO.1 k e0 hk0
    have hsub : ∀ q, (q = ad k ∨ s.heap.size ≤ q) → np_A ad w s.heap.size q := fun q hq => by
      rcases hq with rfl | hq
      · exact Or.inl ⟨k, e0, hk0, rfl⟩
      · exact Or.inr hq
    have hG := body ((p, l, e, { frames := fr, cells := mc, slots := ms, locals := lo }, s, m, (([Value.ref k] : List Value).map (np_v ad)).toArray, below, meth, c), (MQ below (np_Qc D cA ad w s.heap.size Q) (([Value.ref k] : List Value).map (np_v ad)).toArray s mc ms (np_A ad w s.heap.size), D, cA, fun q => q = ad k ∨ s.heap.size ≤ q, fun _ => ad k, 1, maxL), (fun st _ ce sl => ce ≤ mc ∧ sl ≤ ms ∧ st = []), fun _ _ _ _ => False)
      ⟨B.exec, B.bytes, hml, rfl, findClass_of_methodNamed B.named, hsd, hK, fun q hq => Or.inr hq, Nat.le_refl _, Nat.le_refl _, Nat.le_refl _, Nat.le_refl _, ?_, hlt, ⟨hzq.1.narrow hsub, hzq.2.narrow hsub⟩, fun _ _ _ _ h => absurd h id⟩ (name_of_methodNamed B.named B.method).1 rfl
    · have hw : ∀ j e9, np_wl [(0, e0)] j = some e9 → j = 0 ∧ e9 = e0 := fun j e9 hj => by
        unfold np_wl at hj
        by_cases h0 : 0 = j
        · rw [np_beq h0] at hj; cases hj; exact ⟨h0.symm, rfl⟩
        · rw [np_bne h0] at hj; cases hj
      refine hG s.heap [] (fun _ => ad k) ls hl ⟨⟨fun j e9 hj => ?_, fun i j e9 e8 hi hj _ => ?_⟩, fun q hq => ?_, (fun _ h => nomatch h), va_S.rf, fun _ _ => rfl, Nat.le_refl _⟩
      · obtain ⟨rfl, rfl⟩ := hw j e9 hj
        exact ⟨by rw [hc0 (fun _ => ad k) ad cA]; exact hk1, Or.inl rfl, hc1 _, hk2.2.2.1, Nat.one_pos⟩
      · rw [(hw i e9 hi).1, (hw j e8 hj).1]
      · rw [List.mem_singleton.mp hq]
        exact Nat.one_pos
    · intro st w' ce sl hrt pc H locs ad' ls' hd hp
      obtain ⟨h1, h2, rfl⟩ := hrt
      refine W.widen (k := mc) (n := ms) h1 h2 ?_
      have hlocks := B.notSynchronized
      have hS := hp.2.2.2.1
      refine W.vret B.exec B.bytes hr (fun t ht hW => ?_) (fun q hq => hsub _ (hS.2.2 q hq)) hd
      have hF : ∀ q, q < s.heap.size → q ≠ ad k → H[q]? = s.heap[q]? := fun q g1 g2 => hS.2.1 q g1 (fun h => h.elim g2 (fun z => absurd z (Nat.not_le.mpr g1)))
      refine ⟨⟨none, (w.1, np_drop w.2 k), ad, rfl, hsp, ?_, (fun _ h => nomatch h), Nat.le_refl _, fun _ _ => rfl⟩, ⟨by rw [ht]; exact hS.1, fun q g1 g2 => by rw [ht]; exact hF q g1 (fun z => g2 (hsub q (Or.inl z)))⟩⟩
      rw [ht]
      have hj' : ∀ j e9, np_drop w.2 k j = some e9 → j ≠ k ∧ w.2 j = some e9 := fun j e9 hj => by
        unfold np_drop at hj
        by_cases hjk : j = k
        · rw [if_pos hjk] at hj; cases hj
        · rw [if_neg hjk] at hj; exact ⟨hjk, hj⟩
      refine ⟨fun j e9 hj => ?_, fun i j e9 e8 hi hj => hO.2 i j e9 e8 (hj' i e9 hi).2 (hj' j e8 hj).2⟩
      obtain ⟨g1, g2⟩ := hj' j e9 hj
      obtain ⟨u1, u2, u3, u4, u5⟩ := hO.1 j e9 g2
      exact ⟨u1.kept (hF _ u1.lt (fun z => g1 (hO.2 j k e9 e0 g2 hk0 z))), Or.inl ⟨j, e9, g2, rfl⟩, u3, u4, u5⟩
  · exact absurd hsp id
theorem np_weak2 {X : np_Ctx} {pc : Nat} {L : np_L} {st : List Value} {n : Nat} {u f : Nat → Option np_E} {ce sl : Nat} (hf : ∀ k e, f k = some e → u k = some e) (h : np_G X pc L st (n, f) ce sl) : np_G X pc L st (n, u) ce sl := np_weak (w := (n, u)) hf h
end
section
/-! The same operations with all that is ground worked out on the way. -/
def np_chk (b : Bool) (P : Prop) : Prop := match b with
  | true => P
  | false => False
theorem np_chk_e {b : Bool} {P : Prop} (h : np_chk b P) : b = true ∧ P := by
  cases b
  · exact h.elim
  · exact ⟨rfl, h⟩
theorem np_chk_i {b : Bool} {P : Prop} (h : b = true) (hp : P) : np_chk b P := by
  subst h
  exact hp
def np_br (b : Bool) (A B : Prop) : Prop := match b with
  | true => A
  | false => B
theorem np_br_e {c : Prop} [Decidable c] {A B : Prop} (h : np_br (decide c) A B) : (c → A) ∧ (¬ c → B) := by
  by_cases hc : c
  · rw [decide_eq_true hc] at h
    exact ⟨fun _ => h, fun n => absurd hc n⟩
  · rw [decide_eq_false hc] at h
    exact ⟨fun y => absurd y hc, fun _ => h⟩
theorem np_br_i {c : Prop} [Decidable c] {A B : Prop} (h1 : c → A) (h2 : ¬ c → B) : np_br (decide c) A B := by
  by_cases hc : c
  · rw [decide_eq_true hc]
    exact h1 hc
  · rw [decide_eq_false hc]
    exact h2 hc
theorem np_and {a b : Bool} (h : (a && b) = true) : a = true ∧ b = true := Bool.and_eq_true_iff.mp h
theorem np_ble {a b : Nat} (h : Nat.ble a b = true) : a ≤ b := Nat.le_of_ble_eq_true h
theorem np_beqe {a b : Nat} (h : Nat.beq a b = true) : a = b := Nat.eq_of_beq_eq_true h
theorem np_S.mono {X : np_Ctx} {pc : Nat} {op op' : np_Op} (h : np_S X pc op) (hm : ∀ k pc L st w ce sl, op' k pc L st w ce sl → op k pc L st w ce sl) : np_S X pc op' := fun k hk L st w ce sl hq => h k hk L st w ce sl (hm k pc L st w ce sl hq)
def np_tyb : FieldType → FieldType → Bool
  | .int, .int => true
  | .char, .char => true
  | .boolean, .boolean => true
  | .long, .long => true
  | _, _ => false
theorem np_tyb_e {a b : FieldType} (h : np_tyb a b = true) : a = b := by
  unfold np_tyb at h
  split at h <;> first | rfl | cases h
def np_inb (i : Int32) (n : Nat) : Bool := !decide (i < 0) && Nat.blt i.toNatClampNeg n
theorem np_inb_e {i : Int32} {n : Nat} (h : np_inb i n = true) : vp_in i n := by
  obtain ⟨h1, h2⟩ := np_and h
  intro hh
  rcases hh with hh | hh
  · rw [decide_eq_true hh] at h1
    cases h1
  · exact absurd (np_ble h2) (Nat.not_le.mpr (Nat.lt_succ_of_le hh))
theorem np_inb_i {i : Int32} {n : Nat} (h : vp_in i n) : np_inb i n = true := by
  unfold np_inb
  rw [decide_eq_false (fun z => h (Or.inl z))]
  exact Nat.ble_eq_true_of_le (Nat.lt_of_not_le fun z => h (Or.inr z))
def np_fitb : FieldType → Value → Bool
  | .int, .int _ => true
  | .long, .long _ => true
  | .boolean, .int x => decide (x = 0) || decide (x = 1)
  | .object _, .null => true
  | .object _, .ref _ => true
  | .array _, .null => true
  | .array _, .ref _ => true
  | _, _ => false
theorem np_fitb_e {ty : FieldType} {v : Value} (h : np_fitb ty v = true) : narrow ty v = v ∧ fits ty v = true := by
  unfold np_fitb at h
  split at h
  · exact ⟨rfl, rfl⟩
  · exact ⟨rfl, rfl⟩
  · rename_i x
    rcases Bool.or_eq_true_iff.mp h with h | h
    · have h := of_decide_eq_true h
      subst h
      exact ⟨by decide, by decide⟩
    · have h := of_decide_eq_true h
      subst h
      exact ⟨by decide, by decide⟩
  · exact ⟨rfl, rfl⟩
  · exact ⟨rfl, rfl⟩
  · exact ⟨rfl, rfl⟩
  · exact ⟨rfl, rfl⟩
  · cases h
def nq_ibn (f : Int32 → Int32 → Int32) : np_Op := fun k pc L st w ce sl => match st with
  | .int y :: .int x :: r => np_chk (!decide (y = 0)) (k (pc + 1) L (.int (f x y) :: r) w ce sl)
  | _ => False
theorem nq_ibn_le {f : Int32 → Int32 → Int32} : ∀ k pc L st w ce sl, nq_ibn f k pc L st w ce sl → np_ibn f k pc L st w ce sl := by
  intro k pc L st w ce sl h
  unfold nq_ibn at h
  split at h
  · obtain ⟨h1, h2⟩ := np_chk_e h
    refine ⟨fun hy => ?_, h2⟩
    rw [decide_eq_true hy] at h1
    cases h1
  · exact h.elim
def nq_lbn (f : Int64 → Int64 → Int64) : np_Op := fun k pc L st w ce sl => match st with
  | .long y :: .long x :: r => np_chk (!decide (y = 0)) (k (pc + 1) L (.long (f x y) :: r) w ce sl)
  | _ => False
theorem nq_lbn_le {f : Int64 → Int64 → Int64} : ∀ k pc L st w ce sl, nq_lbn f k pc L st w ce sl → np_lbn f k pc L st w ce sl := by
  intro k pc L st w ce sl h
  unfold nq_lbn at h
  split at h
  · obtain ⟨h1, h2⟩ := np_chk_e h
    refine ⟨fun hy => ?_, h2⟩
    rw [decide_eq_true hy] at h1
    cases h1
  · exact h.elim
def nq_dup : np_Op := fun k pc L st w ce sl => match st with
  | v :: r => np_chk (Nat.beq v.category 1) (k (pc + 1) L (v :: v :: r) w ce sl)
  | _ => False
theorem nq_dup_le : ∀ k pc L st w ce sl, nq_dup k pc L st w ce sl → np_dup k pc L st w ce sl := by
  intro k pc L st w ce sl h
  unfold nq_dup at h
  split at h
  · obtain ⟨h1, h2⟩ := np_chk_e h
    exact ⟨np_beqe h1, h2⟩
  · exact h.elim
def nq_dup2 : np_Op := fun k pc L st w ce sl => match st with
  | v :: u :: r => np_chk (Nat.beq v.category 1 && Nat.beq u.category 1) (k (pc + 1) L (v :: u :: v :: u :: r) w ce sl)
  | _ => False
theorem nq_dup2_le : ∀ k pc L st w ce sl, nq_dup2 k pc L st w ce sl → np_dup2 k pc L st w ce sl := by
  intro k pc L st w ce sl h
  unfold nq_dup2 at h
  split at h
  · obtain ⟨h1, h2⟩ := np_chk_e h
    obtain ⟨h3, h4⟩ := np_and h1
    exact ⟨np_beqe h3, np_beqe h4, h2⟩
  · exact h.elim
def nq_pop : np_Op := fun k pc L st w ce sl => match st with
  | v :: r => np_chk (Nat.beq v.category 1) (k (pc + 1) L r w ce sl)
  | _ => False
theorem nq_pop_le : ∀ k pc L st w ce sl, nq_pop k pc L st w ce sl → np_pop k pc L st w ce sl := by
  intro k pc L st w ce sl h
  unfold nq_pop at h
  split at h
  · obtain ⟨h1, h2⟩ := np_chk_e h
    exact ⟨np_beqe h1, h2⟩
  · exact h.elim
def nq_if (f : Int32 → Prop) [DecidablePred f] (tgt : Nat) : np_Op := fun k pc L st w ce sl => match st with
  | .int x :: r => np_br (decide (f x)) (k tgt L r w ce sl) (k (pc + 3) L r w ce sl)
  | _ => False
theorem nq_if_le {f : Int32 → Prop} [DecidablePred f] {tgt : Nat} : ∀ k pc L st w ce sl, nq_if f tgt k pc L st w ce sl → np_if f tgt k pc L st w ce sl := by
  intro k pc L st w ce sl h
  unfold nq_if at h
  split at h
  · exact np_br_e h
  · exact h.elim
def nq_ic (f : Int32 → Int32 → Prop) [DecidableRel f] (tgt : Nat) : np_Op := fun k pc L st w ce sl => match st with
  | .int y :: .int x :: r => np_br (decide (f x y)) (k tgt L r w ce sl) (k (pc + 3) L r w ce sl)
  | _ => False
theorem nq_ic_le {f : Int32 → Int32 → Prop} [DecidableRel f] {tgt : Nat} : ∀ k pc L st w ce sl, nq_ic f tgt k pc L st w ce sl → np_ic f tgt k pc L st w ce sl := by
  intro k pc L st w ce sl h
  unfold nq_ic at h
  split at h
  · exact np_br_e h
  · exact h.elim
def nq_ifne (tgt : Nat) : np_Op := fun k pc L st w ce sl => match st with
  | .int x :: r => np_br (decide (x = 0)) (k (pc + 3) L r w ce sl) (k tgt L r w ce sl)
  | _ => False
theorem nq_ifne_le {tgt : Nat} : ∀ k pc L st w ce sl, nq_ifne tgt k pc L st w ce sl → np_ifne tgt k pc L st w ce sl := by
  intro k pc L st w ce sl h
  unfold nq_ifne at h
  split at h
  · exact np_br_e h
  · exact h.elim
def nq_icne (tgt : Nat) : np_Op := fun k pc L st w ce sl => match st with
  | .int y :: .int x :: r => np_br (decide (x = y)) (k (pc + 3) L r w ce sl) (k tgt L r w ce sl)
  | _ => False
theorem nq_icne_le {tgt : Nat} : ∀ k pc L st w ce sl, nq_icne tgt k pc L st w ce sl → np_icne tgt k pc L st w ce sl := by
  intro k pc L st w ce sl h
  unfold nq_icne at h
  split at h
  · exact np_br_e h
  · exact h.elim
def nq_swg (k : Nat → Prop) (d : Prop) : List Nat → Int → Int32 → Prop
  | [], _, _ => d
  | t :: ts, lo, x => np_br (decide (x.toInt = lo)) (k t) (nq_swg k d ts (lo + 1) x)
theorem nq_swg_e {k : Nat → Prop} {d : Prop} : ∀ (ts : List Nat) (lo : Int) (x : Int32), nq_swg k d ts lo x → np_swg k ts lo x ∧ ((x.toInt < lo ∨ lo + (ts.length : Nat) - 1 < x.toInt) → d) := by
  intro ts
  induction ts with
  | nil => intro lo x h; exact ⟨trivial, fun _ => h⟩
  | cons t ts ih =>
    intro lo x h
    obtain ⟨h1, h2⟩ := np_br_e h
    by_cases hx : x.toInt = lo
    · refine ⟨⟨h1, ?_⟩, fun hh => ?_⟩
      · clear ih h h1 h2
        have : ∀ (ts : List Nat) (l : Int), lo < l → np_swg k ts l x := by
          intro ts
          induction ts with
          | nil => intro l _; trivial
          | cons t ts ih => intro l hl; exact ⟨fun h => by omega, ih (l + 1) (by omega)⟩
        exact this ts (lo + 1) (by omega)
      · simp only [List.length_cons] at hh
        omega
    · obtain ⟨h3, h4⟩ := ih (lo + 1) x (h2 hx)
      refine ⟨⟨fun h => absurd h hx, h3⟩, fun hh => h4 ?_⟩
      simp only [List.length_cons] at hh
      omega
def nq_tsw (lo : Int) (tgts : List Nat) (dflt : Nat) : np_Op := fun k _ L st w ce sl => match st with
  | .int x :: r => nq_swg (fun t => k t L r w ce sl) (k dflt L r w ce sl) tgts lo x
  | _ => False
theorem nq_tsw_le {lo hi : Int} {tgts : List Nat} {dflt : Nat} (hh : hi = lo + ((tgts.length : Nat) : Int) - 1) : ∀ k pc L st w ce sl, nq_tsw lo tgts dflt k pc L st w ce sl → np_tsw lo hi tgts dflt k pc L st w ce sl := by
  intro k pc L st w ce sl h
  subst hh
  unfold nq_tsw at h
  split at h
  · obtain ⟨h1, h2⟩ := nq_swg_e _ _ _ h
    exact ⟨h2, h1⟩
  · exact h.elim
def nq_getf (ci j : Nat) : np_Op := fun k pc L st w ce sl => match st with
  | .ref a :: r => match w.2 a with
    | some (.inr (c, fs)) => np_chk (Nat.beq c ci) (match fs[j]? with
      | some v => k (pc + 3) L (v :: r) w ce sl
      | none => False)
    | _ => False
  | _ => False
theorem nq_getf_le {ci j : Nat} : ∀ k pc L st w ce sl, nq_getf ci j k pc L st w ce sl → np_getf ci j k pc L st w ce sl := by
  intro k pc L st w ce sl h
  unfold nq_getf at h
  split at h
  · split at h
    · rename_i c fs he
      obtain ⟨h1, h2⟩ := np_chk_e h
      unfold np_getf
      simp only [he]
      exact ⟨np_beqe h1, h2⟩
    · exact h.elim
  · exact h.elim
def nq_putf (ci j : Nat) (ty : FieldType) : np_Op := fun k pc L st w ce sl => match st with
  | v :: .ref a :: r => match w.2 a with
    | some (.inr (c, fs)) => np_chk (Nat.beq c ci && Nat.ble (j + 1) fs.length) (np_chk (np_fitb ty v) (np_fl (fs.set j v) (fun fs' => k (pc + 3) L r (w.1, np_up w.2 a (.inr (ci, fs'))) ce sl)))
    | _ => False
  | _ => False
theorem nq_putf_le {ci j : Nat} {ty : FieldType} : ∀ k pc L st w ce sl, nq_putf ci j ty k pc L st w ce sl → np_putf ci j ty k pc L st w ce sl := by
  intro k pc L st w ce sl h
  unfold nq_putf at h
  split at h
  · split at h
    · rename_i c fs he
      obtain ⟨h1, h2⟩ := np_chk_e h
      obtain ⟨h3, h4⟩ := np_and h1
      obtain ⟨h5, h6⟩ := np_chk_e h2
      unfold np_putf
      simp only [he]
      exact ⟨np_beqe h3, (np_fitb_e h5).1, (np_fitb_e h5).2, np_ble h4, h6⟩
    · exact h.elim
  · exact h.elim
def nq_ialdT (ty : FieldType) : np_Op := fun k pc L st w ce sl => match st with
  | .int i :: .ref a :: r => match w.2 a with
    | some (.inl (t, n, .inl f)) => np_chk (np_tyb t ty) (np_chk (np_inb i n) (k (pc + 1) L (.int (f i.toNatClampNeg) :: r) w ce sl))
    | _ => False
  | _ => False
theorem nq_ialdT_le {ty : FieldType} : ∀ k pc L st w ce sl, nq_ialdT ty k pc L st w ce sl → np_ialdT ty k pc L st w ce sl := by
  intro k pc L st w ce sl h
  unfold nq_ialdT at h
  split at h
  · split at h
    · rename_i he
      obtain ⟨h1, h2⟩ := np_chk_e h
      obtain ⟨h3, h4⟩ := np_chk_e h2
      unfold np_ialdT
      simp only [he]
      exact ⟨np_tyb_e h1, np_inb_e h3, h4⟩
    · exact h.elim
  · exact h.elim
def nq_lald : np_Op := fun k pc L st w ce sl => match st with
  | .int i :: .ref a :: r => match w.2 a with
    | some (.inl (t, n, .inr (.inl f))) => np_chk (np_tyb t .long) (np_chk (np_inb i n) (k (pc + 1) L (.long (f i.toNatClampNeg) :: r) w ce sl))
    | _ => False
  | _ => False
theorem nq_lald_le : ∀ k pc L st w ce sl, nq_lald k pc L st w ce sl → np_lald k pc L st w ce sl := by
  intro k pc L st w ce sl h
  unfold nq_lald at h
  split at h
  · split at h
    · rename_i he
      obtain ⟨h1, h2⟩ := np_chk_e h
      obtain ⟨h3, h4⟩ := np_chk_e h2
      unfold np_lald
      simp only [he]
      exact ⟨np_tyb_e h1, np_inb_e h3, h4⟩
    · exact h.elim
  · exact h.elim
def nq_aald (C : String) : np_Op := fun k pc L st w ce sl => match st with
  | .int i :: .ref a :: r => match w.2 a with
    | some (.inl (t, n, .inr (.inr (.inr (.inr f))))) => t = .object C ∧ np_chk (np_inb i n) (match f i.toNatClampNeg with
      | some b => k (pc + 1) L (.ref b :: r) w ce sl
      | none => k (pc + 1) L (.null :: r) w ce sl)
    | _ => False
  | _ => False
theorem nq_aald_le {C : String} : ∀ k pc L st w ce sl, nq_aald C k pc L st w ce sl → np_aald C k pc L st w ce sl := by
  intro k pc L st w ce sl h
  unfold nq_aald at h
  split at h
  · split at h
    · rename_i he
      obtain ⟨h1, h2⟩ := h
      obtain ⟨h3, h4⟩ := np_chk_e h2
      unfold np_aald
      simp only [he]
      exact ⟨h1, np_inb_e h3, h4⟩
    · exact h.elim
  · exact h.elim
def nq_iastT (ty : FieldType) : np_Op := fun k pc L st w ce sl => match st with
  | .int x :: .int i :: .ref a :: r => match w.2 a with
    | some (.inl (t, n, .inl f)) => np_chk (np_tyb t ty) (np_chk (np_inb i n) (k (pc + 1) L r (w.1, np_up w.2 a (.inl (ty, n, .inl (upd f i.toNatClampNeg (vp_nar ty x))))) ce sl))
    | _ => False
  | _ => False
theorem nq_iastT_le {ty : FieldType} : ∀ k pc L st w ce sl, nq_iastT ty k pc L st w ce sl → np_iastT ty k pc L st w ce sl := by
  intro k pc L st w ce sl h
  unfold nq_iastT at h
  split at h
  · split at h
    · rename_i he
      obtain ⟨h1, h2⟩ := np_chk_e h
      obtain ⟨h3, h4⟩ := np_chk_e h2
      unfold np_iastT
      simp only [he]
      exact ⟨np_tyb_e h1, np_inb_e h3, h4⟩
    · exact h.elim
  · exact h.elim
def nq_last : np_Op := fun k pc L st w ce sl => match st with
  | .long x :: .int i :: .ref a :: r => match w.2 a with
    | some (.inl (t, n, .inr (.inl f))) => np_chk (np_tyb t .long) (np_chk (np_inb i n) (k (pc + 1) L r (w.1, np_up w.2 a (.inl (.long, n, .inr (.inl (vp_updL f i.toNatClampNeg x))))) ce sl))
    | _ => False
  | _ => False
theorem nq_last_le : ∀ k pc L st w ce sl, nq_last k pc L st w ce sl → np_last k pc L st w ce sl := by
  intro k pc L st w ce sl h
  unfold nq_last at h
  split at h
  · split at h
    · rename_i he
      obtain ⟨h1, h2⟩ := np_chk_e h
      obtain ⟨h3, h4⟩ := np_chk_e h2
      unfold np_last
      simp only [he]
      exact ⟨np_tyb_e h1, np_inb_e h3, h4⟩
    · exact h.elim
  · exact h.elim
def nq_new (ci N : Nat) (fs : List Value) (RC RS : Nat) : np_Op := fun k pc L st w ce sl => np_chk (Nat.ble (ce + 1) RC && Nat.ble (sl + N) RS) (np_force w.1 (fun n => k (pc + 3) L (.ref n :: st) (n + 1, np_up w.2 n (.inr (ci, fs))) (ce + 1) (sl + N)))
theorem nq_new_le {ci N : Nat} {fs : List Value} {RC RS : Nat} : ∀ k pc L st w ce sl, nq_new ci N fs RC RS k pc L st w ce sl → np_new ci N fs RC RS k pc L st w ce sl := by
  intro k pc L st w ce sl h
  obtain ⟨h1, h2⟩ := np_chk_e h
  obtain ⟨h3, h4⟩ := np_and h1
  exact ⟨np_ble h3, np_ble h4, h2⟩
def nq_newa (ty : FieldType) (N : Nat) (a0 : vp_A) (RC RS : Nat) : np_Op := fun k pc L st w ce sl => match st with
  | .int n :: r => np_chk (decide (n = Int32.ofNat N) && (Nat.ble (ce + 1) RC && Nat.ble (sl + N) RS)) (np_force w.1 (fun n => k (pc + 2) L (.ref n :: r) (n + 1, np_up w.2 n (.inl (ty, a0))) (ce + 1) (sl + N)))
  | _ => False
theorem nq_newa_le {ty : FieldType} {N : Nat} {a0 : vp_A} {RC RS : Nat} : ∀ k pc L st w ce sl, nq_newa ty N a0 RC RS k pc L st w ce sl → np_newa ty N a0 RC RS k pc L st w ce sl := by
  intro k pc L st w ce sl h
  unfold nq_newa at h
  split at h
  · obtain ⟨h1, h2⟩ := np_chk_e h
    obtain ⟨h3, h4⟩ := np_and h1
    obtain ⟨h5, h6⟩ := np_and h4
    exact ⟨of_decide_eq_true h3, np_ble h5, np_ble h6, h2⟩
  · exact h.elim
def nq_oinit : np_Op := fun k pc L st w ce sl => match st with
  | .ref _ :: r => np_chk (Nat.ble (r.map fun v => v.category).sum 8) (k (pc + 3) L r w ce sl)
  | _ => False
def nq_call (n : Nat) (sp : np_Sp) (maxL mc ms RC RS : Nat) : np_Op := fun k pc L st w ce sl =>
  np_chk (Nat.ble n st.length && (Nat.ble ((st.drop n).map fun v => v.category).sum 8 && (Nat.ble ((st.take n).reverse.map fun v => v.category).sum maxL && (Nat.ble (ce + mc) RC && Nat.ble (sl + ms) RS))))
    (np_fl (st.take n).reverse fun vs => sp vs w (fun r w' => k (pc + 3) L (r.toList ++ st.drop n) w' (ce + mc) (sl + ms)))
theorem nq_call_le {n : Nat} {sp : np_Sp} {maxL mc ms RC RS : Nat} : ∀ k pc L st w ce sl, nq_call n sp maxL mc ms RC RS k pc L st w ce sl → np_call n sp maxL mc ms RC RS k pc L st w ce sl := by
  intro k pc L st w ce sl h
  obtain ⟨h1, h2⟩ := np_chk_e h
  obtain ⟨h3, h4⟩ := np_and h1
  obtain ⟨h5, h6⟩ := np_and h4
  obtain ⟨h7, h8⟩ := np_and h6
  obtain ⟨h9, h10⟩ := np_and h8
  rw [np_fl_eq] at h2
  exact ⟨np_ble h3, np_ble h5, np_ble h7, np_ble h9, np_ble h10, h2⟩
def nq_callV (ci n : Nat) (sp : np_Sp) (maxL mc ms RC RS : Nat) : np_Op := fun k pc L st w ce sl => match (st.take n).reverse with
  | .ref a :: _ => match w.2 a with
    | some (.inr (c, _)) => np_chk (Nat.beq c ci) (nq_call n sp maxL mc ms RC RS k pc L st w ce sl)
    | _ => False
  | _ => False
theorem nq_callV_le {ci n : Nat} {sp : np_Sp} {maxL mc ms RC RS : Nat} : ∀ k pc L st w ce sl, nq_callV ci n sp maxL mc ms RC RS k pc L st w ce sl → np_callV ci n sp maxL mc ms RC RS k pc L st w ce sl := by
  intro k pc L st w ce sl h
  unfold nq_callV at h
  split at h
  · rename_i e1
    split at h
    · rename_i e2
      obtain ⟨h1, h2⟩ := np_chk_e h
      unfold np_callV
      simp only [e1, e2]
      exact ⟨np_beqe h1, nq_call_le _ _ _ _ _ _ _ h2⟩
    · exact h.elim
  · exact h.elim
def nq_callI (n : Nat) (sp : np_Sp) (maxL mc ms RC RS : Nat) : np_Op := fun k pc L st w ce sl => match (st.take n).reverse with
  | .ref _ :: _ => nq_call n sp maxL mc ms RC RS k pc L st w ce sl
  | _ => False
theorem nq_callI_le {n : Nat} {sp : np_Sp} {maxL mc ms RC RS : Nat} : ∀ k pc L st w ce sl, nq_callI n sp maxL mc ms RC RS k pc L st w ce sl → np_callI n sp maxL mc ms RC RS k pc L st w ce sl := by
  intro k pc L st w ce sl h
  unfold nq_callI at h
  split at h
  · rename_i e1
    unfold np_callI
    simp only [e1]
    exact ⟨trivial, nq_call_le _ _ _ _ _ _ _ h⟩
  · exact h.elim
def nq_callVX (ci n : Nat) (sp : np_SpX) (maxL mc ms RC RS : Nat) (hs : List (Nat × Nat)) : np_Op := fun k pc L st w ce sl => match (st.take n).reverse with
  | .ref a :: _ => match w.2 a with
    | some (.inr (c, _)) => np_chk (Nat.beq c ci && (Nat.ble n st.length && (Nat.ble ((st.drop n).map fun v => v.category).sum 8 && (Nat.ble ((st.take n).reverse.map fun v => v.category).sum maxL && (Nat.ble (ce + mc) RC && Nat.ble (sl + ms) RS)))))
        (np_fl (st.take n).reverse fun vs => sp vs w (fun r w' => k (pc + 3) L (r.toList ++ st.drop n) w' (ce + mc) (sl + ms)) (fun i w' => match np_fd hs i with
          | some h => np_force w'.1 (fun n => k h L [.ref n] (n + 1, w'.2) (ce + mc) (sl + ms))
          | none => False))
    | _ => False
  | _ => False
theorem nq_callVX_le {ci n : Nat} {sp : np_SpX} {maxL mc ms RC RS : Nat} {hs : List (Nat × Nat)} : ∀ k pc L st w ce sl, nq_callVX ci n sp maxL mc ms RC RS hs k pc L st w ce sl → np_callVX ci n sp maxL mc ms RC RS hs k pc L st w ce sl := by
  intro k pc L st w ce sl h
  unfold nq_callVX at h
  split at h
  · rename_i e1
    split at h
    · rename_i e2
      obtain ⟨h0, h2⟩ := np_chk_e h
      obtain ⟨h, h1⟩ := np_and h0
      obtain ⟨h3, h4⟩ := np_and h1
      obtain ⟨h5, h6⟩ := np_and h4
      obtain ⟨h7, h8⟩ := np_and h6
      obtain ⟨h9, h10⟩ := np_and h8
      rw [np_fl_eq] at h2
      unfold np_callVX
      refine ⟨?_, np_ble h3, np_ble h5, np_ble h7, np_ble h9, np_ble h10, h2⟩
      simp only [e1, e2]
      exact np_beqe h
    · exact h.elim
  · exact h.elim
def nq_mm (RC RS : Nat) : np_Op := fun k pc L st w ce sl => match st with
  | .int y :: .int x :: r => np_chk (Nat.ble (r.map fun v => v.category).sum 7 && (Nat.ble ce RC && Nat.ble sl RS)) (k (pc + 3) L (.int (if y < x then y else x) :: r) w ce sl)
  | _ => False
theorem nq_mm_le {RC RS : Nat} : ∀ k pc L st w ce sl, nq_mm RC RS k pc L st w ce sl → np_mm RC RS k pc L st w ce sl := by
  intro k pc L st w ce sl h
  unfold nq_mm at h
  split at h
  · obtain ⟨h1, h2⟩ := np_chk_e h
    obtain ⟨h3, h4⟩ := np_and h1
    obtain ⟨h5, h6⟩ := np_and h4
    exact ⟨np_ble h3, np_ble h5, np_ble h6, h2⟩
  · exact h.elim
def nq_throw (Th : np_Th) (i : Nat) : np_Op := fun _ _ _ st w ce sl => np_chk (Nat.ble (st.map fun v => v.category).sum 8) (Th i w ce sl)
theorem nq_throw_le {Th Th' : np_Th} {i : Nat} (hT : ∀ i w ce sl, Th' i w ce sl → Th i w ce sl) : ∀ k pc L st w ce sl, nq_throw Th' i k pc L st w ce sl → np_throw Th i k pc L st w ce sl := by
  intro k pc L st w ce sl h
  obtain ⟨h1, h2⟩ := np_chk_e h
  exact ⟨np_ble h1, hT _ _ _ _ h2⟩
theorem nq_ret_le {Rt Rt' : np_Rt} (hR : ∀ st w ce sl, Rt' st w ce sl → Rt st w ce sl) : ∀ k pc L st w ce sl, np_ret Rt' k pc L st w ce sl → np_ret Rt k pc L st w ce sl := fun _ _ _ _ _ _ _ h => hR _ _ _ _ h
def np_shpb : Option FieldType → List Value → Bool
  | none, [] => true
  | some .int, [.int _] => true
  | some .boolean, [.int x] => decide (x = 0) || decide (x = 1)
  | some .char, [.int x] => decide (x.toUInt32.toUInt16.toUInt32.toInt32 = x)
  | some .long, [.long _] => true
  | some (.object _), [.null] => true
  | some (.object _), [.ref _] => true
  | some (.array _), [.null] => true
  | some (.array _), [.ref _] => true
  | _, _ => false
theorem np_shpb_e {ret : Option FieldType} {st : List Value} (h : np_shpb ret st = true) : np_shp ret st := by
  unfold np_shpb at h
  split at h
  · trivial
  · trivial
  · rcases Bool.or_eq_true_iff.mp h with h | h
    · have h := of_decide_eq_true h
      subst h
      show narrow .boolean (.int 0) = .int 0
      decide
    · have h := of_decide_eq_true h
      subst h
      show narrow .boolean (.int 1) = .int 1
      decide
  · exact congrArg Value.int (of_decide_eq_true h)
  · trivial
  · trivial
  · trivial
  · trivial
  · trivial
  · cases h
def nq_rq (ret : Option FieldType) (mc ms : Nat) (Q : Option Value → np_W → Prop) : np_Rt := fun st w ce sl => np_chk (Nat.ble ce mc && Nat.ble sl ms) (np_chk (np_shpb ret st) (Q st.head? w))
theorem nq_rq_e {ret : Option FieldType} {mc ms : Nat} {Q : Option Value → np_W → Prop} {st : List Value} {w : np_W} {ce sl : Nat} (h : nq_rq ret mc ms Q st w ce sl) : np_rq ret mc ms Q st w ce sl := by
  obtain ⟨h1, h2⟩ := np_chk_e h
  obtain ⟨h3, h4⟩ := np_chk_e h2
  obtain ⟨h5, h6⟩ := np_and h1
  exact ⟨np_ble h5, np_ble h6, np_shpb_e h3, h4⟩
def nq_thq (mc ms : Nat) (QX : Nat → np_W → Prop) : np_Th := fun i w ce sl => np_chk (Nat.ble (ce + 1) mc && Nat.ble (sl + 6) ms) (QX i w)
theorem nq_thq_e {mc ms : Nat} {QX : Nat → np_W → Prop} {i : Nat} {w : np_W} {ce sl : Nat} (h : nq_thq mc ms QX i w ce sl) : np_thq mc ms QX i w ce sl := by
  obtain ⟨h1, h2⟩ := np_chk_e h
  obtain ⟨h5, h6⟩ := np_and h1
  exact ⟨np_ble h5, np_ble h6, h2⟩
def nq_in (is : np_Rt → List (Nat × np_Op)) (ret : Option FieldType) (mc ms fuel : Nat) : np_Sp := fun vs w Q =>
  np_runF (is (nq_rq ret mc ms Q)) [] (fun _ _ _ _ _ _ => False) fuel 0 (lv_args 0 vs) [] w 0 0
theorem nq_inC {y : MethodName} {cc : ByteArray} {maxL : Nat} {ret : Option FieldType} {fr lo mc ms : Nat} {is : np_Rt → List (Nat × np_Op)} (fuel : Nat) (hy : plainName y.cls = true)
    (so : ∀ (X : np_Ctx) (Rt : np_Rt), np_ok y.cls cc maxL fr lo mc ms (np_retI ret) X → np_mn X = y.name → (∀ st w ce sl, Rt st w ce sl → X.2.2.1 st w ce sl) → ∀ q ∈ is Rt, np_S X q.1 q.2) : np_C y cc maxL ret fr lo mc ms (nq_in is ret mc ms fuel) := by
  refine np_of hy ?_
  intro X vs w Q hsp hX hmn hRt _
  refine np_soundF (so X _ hX hmn (fun st w' ce sl h => ?_)) (heads := []) (Hd := fun _ _ _ _ _ _ => False) (fun _ _ _ _ _ _ h => h.elim) fuel 0 _ _ _ _ _ hsp
  rw [hRt]
  have h := nq_rq_e h
  exact ⟨h.1, h.2.1, np_shp_shape h.2.2.1, w'.2, fun _ _ h9 => h9, h.2.2.2⟩
def nq_inX (is : np_Rt → np_Th → List (Nat × np_Op)) (ret : Option FieldType) (mc ms fuel : Nat) : np_SpX := fun vs w Q QX =>
  np_runF (is (nq_rq ret mc ms Q) (nq_thq mc ms QX)) [] (fun _ _ _ _ _ _ => False) fuel 0 (lv_args 0 vs) [] w 0 0
theorem nq_inCX {y : MethodName} {cc : ByteArray} {maxL : Nat} {ret : Option FieldType} {fr lo mc ms : Nat} {is : np_Rt → np_Th → List (Nat × np_Op)} (fuel : Nat) (hy : plainName y.cls = true) (hfr : 6 ≤ fr) (hlo : 100 ≤ lo)
    (so : ∀ (X : np_Ctx) (Rt : np_Rt) (Th : np_Th), np_ok y.cls cc maxL fr lo mc ms (np_retI ret) X → np_mn X = y.name → (∀ st w ce sl, Rt st w ce sl → X.2.2.1 st w ce sl) → (∀ i w ce sl, Th i w ce sl → X.2.2.2 i w ce sl) → ∀ q ∈ is Rt Th, np_S X q.1 q.2) : np_CX y cc maxL ret fr lo mc ms (nq_inX is ret mc ms fuel) := by
  refine np_ofX hy hfr hlo ?_
  intro X vs w Q QX hsp hX hmn hRt hTh
  exact np_soundF (so X _ _ hX hmn (fun st w' ce sl h => by rw [hRt]; exact nq_rq_e h) (fun i w' ce sl h => by rw [hTh]; exact nq_thq_e h)) (heads := []) (Hd := fun _ _ _ _ _ _ => False) (fun _ _ _ _ _ _ h => h.elim) fuel 0 _ _ _ _ _ hsp
theorem nq_inCW {y : MethodName} {cc : ByteArray} {maxL : Nat} {ret : Option FieldType} {hh : List (Nat × Nat × Nat × Nat)} {fr lo mc ms : Nat} {is : np_Rt → List (Nat × np_Op)} (fuel : Nat) (hy : plainName y.cls = true)
    (so : ∀ (X : np_Ctx) (Rt : np_Rt), np_ok y.cls cc maxL fr lo mc ms (np_retI ret) X → np_tab X = tableOf hh → (∀ st w ce sl, Rt st w ce sl → X.2.2.1 st w ce sl) → ∀ q ∈ is Rt, np_S X q.1 q.2) : np_CW y cc maxL ret hh fr lo mc ms (nq_in is ret mc ms fuel) := by
  intro l hlt D cA ad w vs sz Q hcat hsp
  refine va_MetW (cc := cc) (maxL := maxL) (ret := ret) (hh := hh) hy rfl ?_
  intro p e s m args below meth c s₁ B hml hv
  obtain ⟨rfl, hsz, hO, hcv, hK, hsd, hzq⟩ := hv
  subst hsz
  have hlen : (lg_sl (vs.map (np_v ad))).length ≤ maxL := by rw [np_lgsl_len, np_cat_sum]; exact hcat
  have hl := lv_entry (vs.map (np_v ad)) (n := maxL) hlen
  rw [lg_entry_eq]
  generalize (lg_sl (vs.map (np_v ad)) ++ List.replicate (maxL - (lg_sl (vs.map (np_v ad))).length) Slot.unset).toArray = ls at hl ⊢
  rw [np_args_map] at hl
  have hr := B.returns
  have hA : ∀ q, s.heap.size ≤ q → np_A ad w s.heap.size q := fun q hq => Or.inr hq
  have htab : c.exceptionTable.toList = tableOf hh := vx_table (l := l) (x := y) B (atoms_spec (ws := [Cond.codeWith y cc maxL ret hh]) B.pre _ List.mem_cons_self)
  have hX : np_ok y.cls cc maxL fr lo mc ms (np_retI ret) ((p, l, e, { frames := fr, cells := mc, slots := ms, locals := lo }, s, m, (vs.map (np_v ad)).toArray, below, meth, c), (MQ below (np_Qc D cA ad w s.heap.size Q) (vs.map (np_v ad)).toArray s mc ms (np_A ad w s.heap.size), D, cA, np_A ad w s.heap.size, ad, w.1, maxL), np_rq ret mc ms Q, fun _ _ _ _ => False) := by
    refine ⟨B.exec, B.bytes, hml, rfl, findClass_of_methodNamed B.named, hsd, hK, hA, Nat.le_refl _, Nat.le_refl _, Nat.le_refl _, Nat.le_refl _, ?_, hlt, hzq, fun _ _ _ _ h => absurd h id⟩
    intro st w' ce sl hrt pc H locs ad' ls' hd hp
    obtain ⟨h1, h2, h3, h4⟩ := hrt
    have h3 := np_shp_shape h3
    refine W.widen (k := mc) (n := ms) h1 h2 ?_
    have hq : ∀ t : State, t.heap = H → s.WarmedH t.vm → np_Qc D cA ad w s.heap.size Q (vs.map (np_v ad)).toArray s (.returned (st.head?.map (np_v ad'))) t := fun t ht hW =>
      ⟨⟨st.head?, w', ad', rfl, h4, by rw [ht]; exact hp.1, fun v hv => hp.2.2.1 v (by
        cases st with
        | nil => cases hv
        | cons a r =>
          have : v = a := by simpa using hv
          rw [this]
          exact List.mem_cons_self), hp.2.2.2.2.2, hp.2.2.2.2.1⟩, hp.2.2.2.1.F ht⟩
    have hf := hp.2.2.2.1.2.2
    have hlocks := B.notSynchronized
    unfold np_shape at h3
    split at h3
    · subst h3
      exact W.vret B.exec B.bytes hr hq hf hd
    · obtain ⟨x, rfl⟩ := h3
      exact W.iret B.exec B.bytes hr hq hf hd
    · obtain ⟨x, rfl, hx9⟩ := h3
      exact W.zret B.exec B.bytes hr hx9 hq hf hd
    · obtain ⟨x, rfl, hx9⟩ := h3
      exact W.zret B.exec B.bytes hr hx9 hq hf hd
    · obtain ⟨x, rfl⟩ := h3
      exact W.lret B.exec B.bytes hr hq hf hd
    · rcases h3 with rfl | ⟨k, rfl⟩
      · exact W.aret B.exec B.bytes hr (Or.inl ⟨_, rfl⟩) (Or.inl rfl) hq hf hd
      · exact W.aret B.exec B.bytes hr (Or.inl ⟨_, rfl⟩) (Or.inr ⟨_, rfl⟩) hq hf hd
    · rcases h3 with rfl | ⟨k, rfl⟩
      · exact W.aret B.exec B.bytes hr (Or.inr ⟨_, rfl⟩) (Or.inl rfl) hq hf hd
      · exact W.aret B.exec B.bytes hr (Or.inr ⟨_, rfl⟩) (Or.inr ⟨_, rfl⟩) hq hf hd
    · exact absurd h3 id
  have hG := np_soundF (so _ _ hX htab (fun _ _ _ _ h => nq_rq_e h)) (heads := []) (Hd := fun _ _ _ _ _ _ => False) (fun _ _ _ _ _ _ h => h.elim) fuel 0 _ _ _ _ _ hsp
  exact hG s.heap [] ad ls hl ⟨hO.weaken (fun k e hk _ => Or.inl ⟨k, e, hk, rfl⟩), np_args_c vs 0 hcv, (fun _ h => nomatch h), va_S.rf, fun _ _ => rfl, Nat.le_refl _⟩
end
section
theorem gw130 : (Jvm.Cond.initialized "NotationPress") ∈ np_gw := np_gwi 130 (by decide +kernel) rfl
theorem gw157 : (Jvm.Cond.instanceMethod ({ cls := "java/lang/Object", name := "<init>", desc := "()V" } : Jvm.MethodName)) ∈ np_gw := np_gwi 157 (by decide +kernel) rfl
theorem gw158 : (Jvm.Cond.code ({ cls := "java/lang/Object", name := "<init>", desc := "()V" } : Jvm.MethodName) object_method_1_code (1 : Nat) (Option.none : Option Jvm.ClassFile.FieldType)) ∈ np_gw := np_gwi 158 (by decide +kernel) rfl
theorem gw183 : (Jvm.Cond.arrayClass Jvm.ClassFile.FieldType.int) ∈ np_gw := np_gwi 183 (by decide +kernel) rfl
theorem gw187 : (Jvm.Cond.static ({ cls := "NotationPress", name := "emptyCells", desc := "()[I" } : Jvm.MethodName)) ∈ np_gw := np_gwi 187 (by decide +kernel) rfl
theorem gw188 : (Jvm.Cond.code ({ cls := "NotationPress", name := "emptyCells", desc := "()[I" } : Jvm.MethodName) prog_1_method_46_code (1 : Nat) (Option.some (Jvm.ClassFile.FieldType.array Jvm.ClassFile.FieldType.int))) ∈ np_gw := np_gwi 188 (by decide +kernel) rfl
theorem gw189 : (Jvm.Cond.constant "NotationPress" (182 : Nat) (-2147483648 : Int32)) ∈ np_gw := np_gwi 189 (by decide +kernel) rfl
theorem gw190 : (Jvm.Cond.methodLink "NotationPress" (436 : Nat) ({ cls := "NotationPress", name := "fillAll", desc := "([II)V" } : Jvm.MethodName)) ∈ np_gw := np_gwi 190 (by decide +kernel) rfl
theorem gw191 : (Jvm.Cond.static ({ cls := "NotationPress", name := "fillAll", desc := "([II)V" } : Jvm.MethodName)) ∈ np_gw := np_gwi 191 (by decide +kernel) rfl
theorem gw192 : (Jvm.Cond.code ({ cls := "NotationPress", name := "fillAll", desc := "([II)V" } : Jvm.MethodName) prog_1_method_44_code (3 : Nat) (Option.none : Option Jvm.ClassFile.FieldType)) ∈ np_gw := np_gwi 192 (by decide +kernel) rfl
theorem gw208 : (Jvm.Cond.methodLink "NotationPress$Trace" (3 : Nat) ({ cls := "java/lang/Object", name := "<init>", desc := "()V" } : Jvm.MethodName)) ∈ np_gw := np_gwi 208 (by decide +kernel) rfl
theorem gw209 : (Jvm.Cond.methodLinkNest "NotationPress$Trace" (9 : Nat) ({ cls := "NotationPress", name := "emptyCells", desc := "()[I" } : Jvm.MethodName) "NotationPress") ∈ np_nw := np_nwi 209 (by decide +kernel) rfl
theorem gw210 : (Jvm.Cond.fieldLink "NotationPress$Trace" (13 : Nat) "NotationPress$Trace" "values" "[I") ∈ np_gw := np_gwi 210 (by decide +kernel) rfl
theorem gw213 : (Jvm.Cond.fieldLink "NotationPress$Trace" (19 : Nat) "NotationPress$Trace" "starts" "[I") ∈ np_gw := np_gwi 213 (by decide +kernel) rfl
theorem gw228 : (Jvm.Cond.laysFinal "NotationPress$Trace" "NotationPress$Trace" "values" "[I") ∈ np_gw := np_gwi 228 (by decide +kernel) rfl
theorem gw230 : (Jvm.Cond.laysFinal "NotationPress$Trace" "NotationPress$Trace" "starts" "[I") ∈ np_gw := np_gwi 230 (by decide +kernel) rfl
theorem gw232 : (Jvm.Cond.lays "NotationPress$Trace" "NotationPress$Trace" "item" "I") ∈ np_gw := np_gwi 232 (by decide +kernel) rfl
theorem gw234 : (Jvm.Cond.lays "NotationPress$Trace" "NotationPress$Trace" "loop" "I") ∈ np_gw := np_gwi 234 (by decide +kernel) rfl
theorem gw236 : (Jvm.Cond.lays "NotationPress$Trace" "NotationPress$Trace" "times" "I") ∈ np_gw := np_gwi 236 (by decide +kernel) rfl
theorem gw238 : (Jvm.Cond.lays "NotationPress$Trace" "NotationPress$Trace" "round" "I") ∈ np_gw := np_gwi 238 (by decide +kernel) rfl
theorem gw240 : (Jvm.Cond.lays "NotationPress$Trace" "NotationPress$Trace" "length" "I") ∈ np_gw := np_gwi 240 (by decide +kernel) rfl
theorem gw242 : (Jvm.Cond.lays "NotationPress$Trace" "NotationPress$Trace" "digits" "I") ∈ np_gw := np_gwi 242 (by decide +kernel) rfl
theorem gw244 : (Jvm.Cond.lays "NotationPress$Trace" "NotationPress$Trace" "digitSum" "I") ∈ np_gw := np_gwi 244 (by decide +kernel) rfl
set_option maxRecDepth 20000 in
theorem guX8 : ∀ w ∈ u_ws RX8 TX8 9, w ∈ np_gw := by
  show ∀ w ∈ [(Jvm.Cond.laysFinal "NotationPress$Trace" "NotationPress$Trace" "values" "[I"), (Jvm.Cond.laysFinal "NotationPress$Trace" "NotationPress$Trace" "starts" "[I"), (Jvm.Cond.lays "NotationPress$Trace" "NotationPress$Trace" "item" "I"), (Jvm.Cond.lays "NotationPress$Trace" "NotationPress$Trace" "loop" "I"), (Jvm.Cond.lays "NotationPress$Trace" "NotationPress$Trace" "times" "I"), (Jvm.Cond.lays "NotationPress$Trace" "NotationPress$Trace" "round" "I"), (Jvm.Cond.lays "NotationPress$Trace" "NotationPress$Trace" "length" "I"), (Jvm.Cond.lays "NotationPress$Trace" "NotationPress$Trace" "digits" "I"), (Jvm.Cond.lays "NotationPress$Trace" "NotationPress$Trace" "digitSum" "I")], w ∈ np_gw
  exact List.forall_mem_cons.mpr ⟨gw228, List.forall_mem_cons.mpr ⟨gw230, List.forall_mem_cons.mpr ⟨gw232, List.forall_mem_cons.mpr ⟨gw234, List.forall_mem_cons.mpr ⟨gw236, List.forall_mem_cons.mpr ⟨gw238, List.forall_mem_cons.mpr ⟨gw240, List.forall_mem_cons.mpr ⟨gw242, List.forall_mem_cons.mpr ⟨gw244, fun _ h => nomatch h⟩⟩⟩⟩⟩⟩⟩⟩⟩
theorem ndX8 : ∀ j, j < 9 → defaultValue (tyX8 j) = vp_V [.null, .null, .int 0, .int 0, .int 0, .int 0, .int 0, .int 0, .int 0] j := by decide +kernel
theorem nfX8 : ∀ v ∈ ([.null, .null, .int 0, .int 0, .int 0, .int 0, .int 0, .int 0, .int 0] : List Value), ∀ ad : Nat → Nat, np_v ad v = v := by
  intro v hv ad
  simp only [List.mem_cons, List.not_mem_nil, or_false] at hv
  rcases hv with rfl | rfl | rfl | rfl | rfl | rfl | rfl | rfl | rfl <;> rfl
theorem dX11_fillAll_0 : decode cX11_fillAll 0 = .ok (.iconst 0, 1) := by decide +kernel
theorem dX11_fillAll_1 : decode cX11_fillAll 1 = .ok (.istore_n 2, 1) := by decide +kernel
theorem dX11_fillAll_2 : decode cX11_fillAll 2 = .ok (.iload_n 2, 1) := by decide +kernel
theorem dX11_fillAll_3 : decode cX11_fillAll 3 = .ok (.aload_n 0, 1) := by decide +kernel
theorem dX11_fillAll_4 : decode cX11_fillAll 4 = .ok (.arraylength, 1) := by decide +kernel
theorem dX11_fillAll_5 : decode cX11_fillAll 5 = .ok (.if_icmp .ge 13, 3) := by decide +kernel
theorem dX11_fillAll_8 : decode cX11_fillAll 8 = .ok (.aload_n 0, 1) := by decide +kernel
theorem dX11_fillAll_9 : decode cX11_fillAll 9 = .ok (.iload_n 2, 1) := by decide +kernel
theorem dX11_fillAll_10 : decode cX11_fillAll 10 = .ok (.iload_n 1, 1) := by decide +kernel
theorem dX11_fillAll_11 : decode cX11_fillAll 11 = .ok (.iastore, 1) := by decide +kernel
theorem dX11_fillAll_12 : decode cX11_fillAll 12 = .ok (.iinc 2 1, 3) := by decide +kernel
theorem dX11_fillAll_15 : decode cX11_fillAll 15 = .ok (.goto (-13), 3) := by decide +kernel
theorem dX11_fillAll_18 : decode cX11_fillAll 18 = .ok (.return_, 1) := by decide +kernel
def is_X11_fillAll (Rt : np_Rt) : List (Nat × np_Op) := [(0, np_push 1 (.int 0)), (1, np_ist 1 2), (2, np_ild 1 2), (3, np_ald 1 0), (4, np_alen), (5, np_ic (fun x y => y ≤ x) 18), (8, np_ald 1 0), (9, np_ild 1 2), (10, np_ild 1 1), (11, np_iastT .int), (12, np_iinc 2 1), (15, np_goto 2), (18, np_ret Rt)]
set_option maxRecDepth 20000 in
theorem so_X11_fillAll {X : np_Ctx} (hX : np_ok RX11 cX11_fillAll 3 0 0 0 0 .return_ X) : ∀ q ∈ is_X11_fillAll X.2.2.1, np_S X q.1 q.2 :=
  List.forall_mem_cons.mpr ⟨np_s_iconst hX dX11_fillAll_0 (by decide), List.forall_mem_cons.mpr ⟨np_s_istore_n hX dX11_fillAll_1 rfl (by decide), List.forall_mem_cons.mpr ⟨np_s_iload_n hX dX11_fillAll_2 rfl, List.forall_mem_cons.mpr ⟨np_s_aload_n hX dX11_fillAll_3 rfl, List.forall_mem_cons.mpr ⟨np_s_alen hX dX11_fillAll_4, List.forall_mem_cons.mpr ⟨np_s_icmp_ge hX dX11_fillAll_5 (by decide), List.forall_mem_cons.mpr ⟨np_s_aload_n hX dX11_fillAll_8 rfl, List.forall_mem_cons.mpr ⟨np_s_iload_n hX dX11_fillAll_9 rfl, List.forall_mem_cons.mpr ⟨np_s_iload_n hX dX11_fillAll_10 rfl, List.forall_mem_cons.mpr ⟨np_s_iast hX dX11_fillAll_11, List.forall_mem_cons.mpr ⟨np_s_iinc hX dX11_fillAll_12 (by decide), List.forall_mem_cons.mpr ⟨np_s_goto hX dX11_fillAll_15 (by decide), List.forall_mem_cons.mpr ⟨np_s_ret hX dX11_fillAll_18, fun _ h => nomatch h⟩⟩⟩⟩⟩⟩⟩⟩⟩⟩⟩⟩⟩
def np_fa (n : Nat) (v : Int32) (f : Nat → Int32) : Nat → Int32 := fun j => if j < n then v else f j
def sp_X11_fillAll : np_Sp := fun vs w Q => match vs with
  | [.ref k, .int v] => (match w.2 k with
    | some (.inl (t, n, .inl f)) => t = .int ∧ n ≤ 60000 ∧ Q none (w.1, np_up w.2 k (.inl (.int, n, .inl (np_fa n v f))))
    | _ => False)
  | _ => False
set_option maxRecDepth 20000 in
theorem fillAll_loop {X : np_Ctx} (hX : np_ok RX11 cX11_fillAll 3 0 0 0 0 .return_ X) {k n : Nat} {v : Int32} {f : Nat → Int32} {w : np_W} {Q : Option Value → np_W → Prop} (hn : n ≤ 60000) (hRt : X.2.2.1 = np_rt none 0 0 Q) (hQ : Q none (w.1, np_up w.2 k (.inl (.int, n, .inl (np_fa n v f))))) :
    ∀ (d i : Nat) (u : Nat → Option np_E), i + d = n → np_up u k (.inl (.int, n, .inl (np_fa n v f))) = np_up w.2 k (.inl (.int, n, .inl (np_fa n v f))) → u k = some (.inl (.int, n, .inl (np_fa i v f))) → np_G X 2 [(2, .int (nI i)), (0, .ref k), (1, .int v)] [] (w.1, u) 0 0 := by
  intro d
  induction d with
  | zero =>
    intro i u hi hu huk
    have hin : i = n := by omega
    subst hin
    refine np_fin (so_X11_fillAll hX) 12 ?_
    rw [hRt]
    (conv => whnf); simp only [huk]
    refine And.intro (fun cc => ?_) (fun cc => absurd (show Int32.ofNat i ≤ nI i from nI_le (Nat.le_refl i) (by omega)) cc)
    refine ⟨Nat.le_refl 0, Nat.le_refl 0, rfl, u, fun _ _ h9 => h9, ?_⟩
    rw [np_up_get huk] at hu
    show Q none (w.1, u)
    rw [hu]
    exact hQ
  | succ d ih =>
    intro i u hi hu huk
    have hin : vp_in (nI i) n := vp_in_nI (by omega) (by omega)
    refine np_sound (so_X11_fillAll hX) (heads := [2]) (Hd := fun pc L st w' ce sl => pc = 2 ∧ L = [(2, .int (nI i + 1)), (0, .ref k), (1, .int v)] ∧ st = [] ∧ w' = (w.1, np_up u k (.inl (.int, n, .inl (np_fa (i + 1) v f)))) ∧ ce = 0 ∧ sl = 0) (fun pc L st w' ce sl h => ?_) 12 2 _ _ _ _ _ ?_
    · obtain ⟨rfl, rfl, rfl, rfl, rfl, rfl⟩ := h
      rw [nI_1]
      exact ih (i + 1) _ (by omega) (by rw [np_up_up]; exact hu) (np_up_s _ _ _)
    · (conv => whnf); simp only [huk]
      refine And.intro (fun cc => absurd cc (nI_ge (by omega) (by omega))) (fun cc => ?_)
      (conv => whnf); simp only [huk]; refine ⟨trivial, hin, ?_⟩
      refine ⟨by first | rfl | trivial, by first | rfl | trivial, by first | rfl | trivial, ?_, by first | rfl | trivial, by first | rfl | trivial⟩
      have hg : upd (np_fa i v f) (nI i).toNatClampNeg (vp_nar .int v) = np_fa (i + 1) v f := by
        rw [nI_clamp (by omega)]
        funext j
        unfold upd np_fa
        by_cases h1 : j = i
        · rw [if_pos h1, if_pos (by omega)]
          rfl
        · rw [if_neg h1]
          by_cases h2 : j < i
          · rw [if_pos h2, if_pos (by omega)]
          · rw [if_neg h2, if_neg (by omega)]
      rw [hg]
theorem C_X11_fillAll : np_C yX11_fillAll cX11_fillAll 3 none 0 0 0 0 sp_X11_fillAll := by
  refine np_of (by decide) ?_
  intro X vs w Q hsp hX hmn hRt hlt
  unfold sp_X11_fillAll at hsp
  split at hsp
  · rename_i k v
    split at hsp
    · rename_i t n f hk
      obtain ⟨rfl, hn, hQ⟩ := hsp
      refine np_sound (so_X11_fillAll hX) (heads := [2]) (Hd := fun pc L st w' ce sl => pc = 2 ∧ L = [(2, .int 0), (0, .ref k), (1, .int v)] ∧ st = [] ∧ w' = w ∧ ce = 0 ∧ sl = 0) (fun pc L st w' ce sl h => ?_) 12 0 _ _ _ _ _ ?_
      · obtain ⟨rfl, rfl, rfl, rfl, rfl, rfl⟩ := h
        refine fillAll_loop hX hn hRt hQ n 0 _ (by omega) rfl ?_
        rw [hk]
        rfl
      · exact ⟨rfl, rfl, rfl, rfl, rfl, rfl⟩
    · exact hsp.elim
  · exact hsp.elim

theorem dX11_emptyCells_0 : decode cX11_emptyCells 0 = .ok (.bipush 24, 2) := by decide +kernel
theorem dX11_emptyCells_2 : decode cX11_emptyCells 2 = .ok (.newarray .int, 2) := by decide +kernel
theorem dX11_emptyCells_4 : decode cX11_emptyCells 4 = .ok (.astore_n 0, 1) := by decide +kernel
theorem dX11_emptyCells_5 : decode cX11_emptyCells 5 = .ok (.aload_n 0, 1) := by decide +kernel
theorem dX11_emptyCells_6 : decode cX11_emptyCells 6 = .ok (.ldc 182, 2) := by decide +kernel
theorem dX11_emptyCells_8 : decode cX11_emptyCells 8 = .ok (.invokestatic 436, 3) := by decide +kernel
theorem dX11_emptyCells_11 : decode cX11_emptyCells 11 = .ok (.aload_n 0, 1) := by decide +kernel
theorem dX11_emptyCells_12 : decode cX11_emptyCells 12 = .ok (.areturn, 1) := by decide +kernel
def is_X11_emptyCells (Rt : np_Rt) : List (Nat × np_Op) := [(0, np_push 2 (.int 24)), (2, np_newa .int 24 (24, .inl fun _ => 0) 1 24), (4, np_ast 1 0), (5, np_ald 1 0), (6, np_push 2 (.int (-2147483648))), (8, np_call 2 sp_X11_fillAll 3 0 0 1 24), (11, np_ald 1 0), (12, np_ret Rt)]
set_option maxRecDepth 20000 in
theorem so_X11_emptyCells {X : np_Ctx} (hX : np_ok RX11 cX11_emptyCells 1 1 22 1 24 .areturn X) : ∀ q ∈ is_X11_emptyCells X.2.2.1, np_S X q.1 q.2 :=
  List.forall_mem_cons.mpr ⟨np_s_bipush hX dX11_emptyCells_0 (by decide), List.forall_mem_cons.mpr ⟨np_s_newa hX dX11_emptyCells_2 rfl gw183 (by decide) (by intro C h; cases h) (by decide) (fun _ => vp_cell_i _ _ _) (by decide) (fun _ _ => rfl) (fun _ => trivial), List.forall_mem_cons.mpr ⟨np_s_astore_n hX dX11_emptyCells_4 rfl (by decide), List.forall_mem_cons.mpr ⟨np_s_aload_n hX dX11_emptyCells_5 rfl, List.forall_mem_cons.mpr ⟨np_s_ldc hX dX11_emptyCells_6 gw189, List.forall_mem_cons.mpr ⟨np_s_callS hX C_X11_fillAll dX11_emptyCells_8 gw192 gw130 gw190 gw191 ⟨by decide, by decide, by decide⟩ (by decide) (by decide), List.forall_mem_cons.mpr ⟨np_s_aload_n hX dX11_emptyCells_11 rfl, List.forall_mem_cons.mpr ⟨np_s_ret hX dX11_emptyCells_12, fun _ h => nomatch h⟩⟩⟩⟩⟩⟩⟩⟩
def np_e24 : np_E := .inl (.int, 24, .inl (np_fa 24 (-2147483648) (fun _ => 0)))
def sp_X11_emptyCells : np_Sp := fun vs w Q => match vs with
  | [] => np_force w.1 (fun n => Q (some (.ref n)) (n + 1, np_up w.2 n np_e24))
  | _ => False
set_option maxRecDepth 20000 in
theorem C_X11_emptyCells : np_C yX11_emptyCells cX11_emptyCells 1 (some (.array .int)) 1 22 1 24 sp_X11_emptyCells := by
  refine np_of (by decide) ?_
  intro X vs w Q hsp hX hmn hRt hlt
  unfold sp_X11_emptyCells at hsp
  split at hsp
  · rw [np_force_eq] at hsp
    refine np_fin (so_X11_emptyCells hX) 20 ?_
    rw [hRt]
    refine ⟨rfl, Nat.le_refl 1, Nat.le_of_ble_eq_true rfl, ?_⟩
    rw [np_force_eq]
    refine ⟨Nat.le_of_ble_eq_true rfl, Nat.le_of_ble_eq_true rfl, Nat.le_of_ble_eq_true rfl, Nat.le_of_ble_eq_true rfl, Nat.le_of_ble_eq_true rfl, ?_⟩
    conv => whnf
    simp only [np_up_s]
    refine ⟨trivial, Nat.le_of_ble_eq_true rfl, ?_⟩
    refine ⟨Nat.le_of_ble_eq_true rfl, Nat.le_of_ble_eq_true rfl, Or.inr ⟨_, rfl⟩, _, fun _ _ h9 => h9, ?_⟩
    rw [np_up_up]
    exact hsp
  · exact hsp.elim

theorem dX8_init_0 : decode cX8_init 0 = .ok (.aload_n 0, 1) := by decide +kernel
theorem dX8_init_1 : decode cX8_init 1 = .ok (.invokespecial 3, 3) := by decide +kernel
theorem dX8_init_4 : decode cX8_init 4 = .ok (.aload_n 0, 1) := by decide +kernel
theorem dX8_init_5 : decode cX8_init 5 = .ok (.invokestatic 9, 3) := by decide +kernel
theorem dX8_init_8 : decode cX8_init 8 = .ok (.putfield 13, 3) := by decide +kernel
theorem dX8_init_11 : decode cX8_init 11 = .ok (.aload_n 0, 1) := by decide +kernel
theorem dX8_init_12 : decode cX8_init 12 = .ok (.bipush 8, 2) := by decide +kernel
theorem dX8_init_14 : decode cX8_init 14 = .ok (.newarray .int, 2) := by decide +kernel
theorem dX8_init_16 : decode cX8_init 16 = .ok (.putfield 19, 3) := by decide +kernel
theorem dX8_init_19 : decode cX8_init 19 = .ok (.return_, 1) := by decide +kernel
def is_X8_init (Rt : np_Rt) : List (Nat × np_Op) := [(0, np_ald 1 0), (1, np_oinit), (4, np_ald 1 0), (5, np_call 0 sp_X11_emptyCells 1 1 24 2 32), (8, np_putf 8 0 (.array .int)), (11, np_ald 1 0), (12, np_push 2 (.int 8)), (14, np_newa .int 8 (8, .inl fun _ => 0) 2 32), (16, np_putf 8 1 (.array .int)), (19, np_ret Rt)]
set_option maxRecDepth 20000 in
theorem so_X8_init {X : np_Ctx} (hX : np_ok RX8 cX8_init 1 2 42 2 32 .return_ X) (hmn : np_mn X = "<init>") : ∀ q ∈ is_X8_init X.2.2.1, np_S X q.1 q.2 :=
  List.forall_mem_cons.mpr ⟨np_s_aload_n hX dX8_init_0 rfl, List.forall_mem_cons.mpr ⟨np_s_oinit hX dX8_init_1 gw208 gw157 gw158 (by decide) (by decide), List.forall_mem_cons.mpr ⟨np_s_aload_n hX dX8_init_4 rfl, List.forall_mem_cons.mpr ⟨np_s_callSN hX C_X11_emptyCells dX8_init_5 gw188 gw130 gw209 gw187 ⟨by decide, by decide, by decide⟩ (by decide) (by decide), List.forall_mem_cons.mpr ⟨np_s_putF hX dX8_init_8 hmn (C := RX8) (T := TX8) (N := 9) (ty0 := tyX8) rfl guX8 tyX8_ok nmX8 (by decide) gw210 rfl rfl rfl, List.forall_mem_cons.mpr ⟨np_s_aload_n hX dX8_init_11 rfl, List.forall_mem_cons.mpr ⟨np_s_bipush hX dX8_init_12 (by decide), List.forall_mem_cons.mpr ⟨np_s_newa hX dX8_init_14 rfl gw183 (by decide) (by intro C h; cases h) (by decide) (fun _ => vp_cell_i _ _ _) (by decide) (fun _ _ => rfl) (fun _ => trivial), List.forall_mem_cons.mpr ⟨np_s_putF hX dX8_init_16 hmn (C := RX8) (T := TX8) (N := 9) (ty0 := tyX8) rfl guX8 tyX8_ok nmX8 (by decide) gw213 rfl rfl rfl, List.forall_mem_cons.mpr ⟨np_s_ret hX dX8_init_19, fun _ h => nomatch h⟩⟩⟩⟩⟩⟩⟩⟩⟩⟩
def np_tr0 : np_E := .inr (8, [.null, .null, .int 0, .int 0, .int 0, .int 0, .int 0, .int 0, .int 0])
def sp_X8_init : np_Sp := fun vs w Q => match vs with
  | [.ref k] => w.2 k = some np_tr0 ∧ k < w.1 ∧ np_force w.1 (fun n => Q none (n + 2, np_up w.2 k (.inr (8, [.ref n, .ref (n + 1), .int 0, .int 0, .int 0, .int 0, .int 0, .int 0, .int 0]))))
  | _ => False
set_option maxRecDepth 20000 in
theorem C_X8_init : np_C yX8_init cX8_init 1 none 2 42 2 32 sp_X8_init := by
  refine np_of (by decide) ?_
  intro X vs w Q hsp hX hmn hRt hlt
  unfold sp_X8_init at hsp
  split at hsp
  · rename_i k
    obtain ⟨hk, hkn, hsp⟩ := hsp
    rw [np_force_eq] at hsp
    obtain ⟨n, f⟩ := w
    have hk : f k = some np_tr0 := hk
    have hkn : k < n := hkn
    have n1 : k ≠ n := Nat.ne_of_lt hkn
    have n2 : k ≠ n + 1 := Nat.ne_of_lt (Nat.lt_succ_of_lt hkn)
    have n3 : n ≠ k := Ne.symm n1
    refine np_fin (so_X8_init hX hmn) 20 ?_
    rw [hRt]
    refine ⟨Nat.le_of_ble_eq_true rfl, ?_⟩
    refine ⟨Nat.le_of_ble_eq_true rfl, Nat.le_of_ble_eq_true rfl, Nat.le_of_ble_eq_true rfl, Nat.le_of_ble_eq_true rfl, Nat.le_of_ble_eq_true rfl, ?_⟩
    show sp_X11_emptyCells [] (n, f) _
    unfold sp_X11_emptyCells
    dsimp only
    rw [np_force_eq]
    conv => whnf
    simp only [np_up_n _ _ n1, hk, np_tr0]
    refine ⟨trivial, rfl, rfl, Nat.le_of_ble_eq_true rfl, ?_⟩
    refine ⟨rfl, Nat.le_of_ble_eq_true rfl, Nat.le_of_ble_eq_true rfl, ?_⟩
    rw [np_force_eq]
    conv => whnf
    simp only [np_up_n _ _ n2, np_up_s]
    refine ⟨trivial, rfl, rfl, Nat.le_of_ble_eq_true rfl, ?_⟩
    refine ⟨Nat.le_of_ble_eq_true rfl, Nat.le_of_ble_eq_true rfl, rfl, _, fun j e9 hj => ?_, hsp⟩
    dsimp only at hj ⊢
    by_cases hjk : j = k
    · subst hjk
      rw [np_up_s] at hj ⊢
      exact hj
    · rw [np_up_n _ _ hjk] at hj ⊢
      have hjn : j < n := hlt j e9 hj
      rw [np_up_n _ _ (by omega), np_up_n _ _ hjk, np_up_n _ _ (by omega)]
      exact hj
  · exact hsp.elim
end
section
theorem gw131 : (Jvm.Cond.initialized "NotationPress$Items") ∈ np_gw := np_gwi 131 (by decide +kernel) rfl
theorem gw133 : (Jvm.Cond.initialized "NotationPress$Trace") ∈ np_gw := np_gwi 133 (by decide +kernel) rfl
theorem gw135 : (Jvm.Cond.initialized "NotationPress$Text") ∈ np_gw := np_gwi 135 (by decide +kernel) rfl
theorem gw160 : (Jvm.Cond.instantiable "NotationPress$Items" (5 : Nat)) ∈ np_gw := np_gwi 160 (by decide +kernel) rfl
theorem gw162 : (Jvm.Cond.instanceMethod ({ cls := "NotationPress$Items", name := "<init>", desc := "()V" } : Jvm.MethodName)) ∈ np_gw := np_gwi 162 (by decide +kernel) rfl
theorem gw163 : (Jvm.Cond.code ({ cls := "NotationPress$Items", name := "<init>", desc := "()V" } : Jvm.MethodName) prog_4_method_1_code (1 : Nat) (Option.none : Option Jvm.ClassFile.FieldType)) ∈ np_gw := np_gwi 163 (by decide +kernel) rfl
theorem gw164 : (Jvm.Cond.methodLink "NotationPress$Items" (3 : Nat) ({ cls := "java/lang/Object", name := "<init>", desc := "()V" } : Jvm.MethodName)) ∈ np_gw := np_gwi 164 (by decide +kernel) rfl
theorem gw165 : (Jvm.Cond.fieldLink "NotationPress$Items" (9 : Nat) "NotationPress$Items" "kinds" "[I") ∈ np_gw := np_gwi 165 (by decide +kernel) rfl
theorem gw166 : (Jvm.Cond.fieldLink "NotationPress$Items" (15 : Nat) "NotationPress$Items" "firsts" "[I") ∈ np_gw := np_gwi 166 (by decide +kernel) rfl
theorem gw167 : (Jvm.Cond.fieldLink "NotationPress$Items" (18 : Nat) "NotationPress$Items" "seconds" "[I") ∈ np_gw := np_gwi 167 (by decide +kernel) rfl
theorem gw168 : (Jvm.Cond.fieldLink "NotationPress$Items" (21 : Nat) "NotationPress$Items" "thirds" "[I") ∈ np_gw := np_gwi 168 (by decide +kernel) rfl
theorem gw172 : (Jvm.Cond.laysFinal "NotationPress$Items" "NotationPress$Items" "kinds" "[I") ∈ np_gw := np_gwi 172 (by decide +kernel) rfl
theorem gw174 : (Jvm.Cond.laysFinal "NotationPress$Items" "NotationPress$Items" "firsts" "[I") ∈ np_gw := np_gwi 174 (by decide +kernel) rfl
theorem gw176 : (Jvm.Cond.laysFinal "NotationPress$Items" "NotationPress$Items" "seconds" "[I") ∈ np_gw := np_gwi 176 (by decide +kernel) rfl
theorem gw178 : (Jvm.Cond.laysFinal "NotationPress$Items" "NotationPress$Items" "thirds" "[I") ∈ np_gw := np_gwi 178 (by decide +kernel) rfl
theorem gw180 : (Jvm.Cond.lays "NotationPress$Items" "NotationPress$Items" "count" "I") ∈ np_gw := np_gwi 180 (by decide +kernel) rfl
theorem gw202 : (Jvm.Cond.methodLink "NotationPress$Printer" (3 : Nat) ({ cls := "java/lang/Object", name := "<init>", desc := "()V" } : Jvm.MethodName)) ∈ np_gw := np_gwi 202 (by decide +kernel) rfl
theorem gw203 : (Jvm.Cond.classLink "NotationPress$Printer" (18 : Nat) "NotationPress$Trace") ∈ np_gw := np_gwi 203 (by decide +kernel) rfl
theorem gw204 : (Jvm.Cond.instantiable "NotationPress$Trace" (9 : Nat)) ∈ np_gw := np_gwi 204 (by decide +kernel) rfl
theorem gw205 : (Jvm.Cond.methodLinkNest "NotationPress$Printer" (20 : Nat) ({ cls := "NotationPress$Trace", name := "<init>", desc := "()V" } : Jvm.MethodName) "NotationPress") ∈ np_nw := np_nwi 205 (by decide +kernel) rfl
theorem gw206 : (Jvm.Cond.instanceMethod ({ cls := "NotationPress$Trace", name := "<init>", desc := "()V" } : Jvm.MethodName)) ∈ np_gw := np_gwi 206 (by decide +kernel) rfl
theorem gw207 : (Jvm.Cond.code ({ cls := "NotationPress$Trace", name := "<init>", desc := "()V" } : Jvm.MethodName) prog_10_method_1_code (1 : Nat) (Option.none : Option Jvm.ClassFile.FieldType)) ∈ np_gw := np_gwi 207 (by decide +kernel) rfl
theorem gw247 : (Jvm.Cond.fieldLink "NotationPress$Printer" (9 : Nat) "NotationPress$Printer" "units" "[I") ∈ np_gw := np_gwi 247 (by decide +kernel) rfl
theorem gw248 : (Jvm.Cond.fieldLink "NotationPress$Printer" (15 : Nat) "NotationPress$Printer" "number" "[I") ∈ np_gw := np_gwi 248 (by decide +kernel) rfl
theorem gw249 : (Jvm.Cond.fieldLink "NotationPress$Printer" (21 : Nat) "NotationPress$Printer" "trace" "LNotationPress$Trace;") ∈ np_gw := np_gwi 249 (by decide +kernel) rfl
theorem gw250 : (Jvm.Cond.laysFinal "NotationPress$Printer" "NotationPress$Printer" "units" "[I") ∈ np_gw := np_gwi 250 (by decide +kernel) rfl
theorem gw252 : (Jvm.Cond.laysFinal "NotationPress$Printer" "NotationPress$Printer" "number" "[I") ∈ np_gw := np_gwi 252 (by decide +kernel) rfl
theorem gw254 : (Jvm.Cond.laysFinal "NotationPress$Printer" "NotationPress$Printer" "trace" "LNotationPress$Trace;") ∈ np_gw := np_gwi 254 (by decide +kernel) rfl
theorem gw262 : (Jvm.Cond.methodLink "NotationPress$Reader" (3 : Nat) ({ cls := "java/lang/Object", name := "<init>", desc := "()V" } : Jvm.MethodName)) ∈ np_gw := np_gwi 262 (by decide +kernel) rfl
theorem gw263 : (Jvm.Cond.classLink "NotationPress$Reader" (9 : Nat) "NotationPress$Trace") ∈ np_gw := np_gwi 263 (by decide +kernel) rfl
theorem gw265 : (Jvm.Cond.methodLinkNest "NotationPress$Reader" (17 : Nat) ({ cls := "NotationPress$Trace", name := "<init>", desc := "()V" } : Jvm.MethodName) "NotationPress") ∈ np_nw := np_nwi 265 (by decide +kernel) rfl
theorem gw266 : (Jvm.Cond.classLink "NotationPress$Reader" (32 : Nat) "NotationPress$Items") ∈ np_gw := np_gwi 266 (by decide +kernel) rfl
theorem gw267 : (Jvm.Cond.methodLinkNest "NotationPress$Reader" (34 : Nat) ({ cls := "NotationPress$Items", name := "<init>", desc := "()V" } : Jvm.MethodName) "NotationPress") ∈ np_nw := np_nwi 267 (by decide +kernel) rfl
theorem gw268 : (Jvm.Cond.classLink "NotationPress$Reader" (39 : Nat) "NotationPress$Text") ∈ np_gw := np_gwi 268 (by decide +kernel) rfl
theorem gw269 : (Jvm.Cond.instantiable "NotationPress$Text" (3 : Nat)) ∈ np_gw := np_gwi 269 (by decide +kernel) rfl
theorem gw270 : (Jvm.Cond.methodLinkNest "NotationPress$Reader" (41 : Nat) ({ cls := "NotationPress$Text", name := "<init>", desc := "()V" } : Jvm.MethodName) "NotationPress") ∈ np_nw := np_nwi 270 (by decide +kernel) rfl
theorem gw271 : (Jvm.Cond.instanceMethod ({ cls := "NotationPress$Text", name := "<init>", desc := "()V" } : Jvm.MethodName)) ∈ np_gw := np_gwi 271 (by decide +kernel) rfl
theorem gw272 : (Jvm.Cond.code ({ cls := "NotationPress$Text", name := "<init>", desc := "()V" } : Jvm.MethodName) prog_9_method_1_code (1 : Nat) (Option.none : Option Jvm.ClassFile.FieldType)) ∈ np_gw := np_gwi 272 (by decide +kernel) rfl
theorem gw273 : (Jvm.Cond.methodLink "NotationPress$Text" (3 : Nat) ({ cls := "java/lang/Object", name := "<init>", desc := "()V" } : Jvm.MethodName)) ∈ np_gw := np_gwi 273 (by decide +kernel) rfl
theorem gw274 : (Jvm.Cond.fieldLink "NotationPress$Text" (9 : Nat) "NotationPress$Text" "units" "[C") ∈ np_gw := np_gwi 274 (by decide +kernel) rfl
theorem gw277 : (Jvm.Cond.fieldLink "NotationPress$Text" (15 : Nat) "NotationPress$Text" "open" "Z") ∈ np_gw := np_gwi 277 (by decide +kernel) rfl
theorem gw279 : (Jvm.Cond.laysFinal "NotationPress$Text" "NotationPress$Text" "units" "[C") ∈ np_gw := np_gwi 279 (by decide +kernel) rfl
theorem gw281 : (Jvm.Cond.lays "NotationPress$Text" "NotationPress$Text" "length" "I") ∈ np_gw := np_gwi 281 (by decide +kernel) rfl
theorem gw283 : (Jvm.Cond.lays "NotationPress$Text" "NotationPress$Text" "open" "Z") ∈ np_gw := np_gwi 283 (by decide +kernel) rfl
theorem gw286 : (Jvm.Cond.arrayClass Jvm.ClassFile.FieldType.char) ∈ np_gw := np_gwi 286 (by decide +kernel) rfl
theorem gw287 : (Jvm.Cond.fieldLink "NotationPress$Reader" (11 : Nat) "NotationPress$Reader" "beginnings" "[LNotationPress$Trace;") ∈ np_gw := np_gwi 287 (by decide +kernel) rfl
theorem gw288 : (Jvm.Cond.fieldLink "NotationPress$Reader" (18 : Nat) "NotationPress$Reader" "current" "LNotationPress$Trace;") ∈ np_gw := np_gwi 288 (by decide +kernel) rfl
theorem gw290 : (Jvm.Cond.fieldLink "NotationPress$Reader" (22 : Nat) "NotationPress$Reader" "number" "[I") ∈ np_gw := np_gwi 290 (by decide +kernel) rfl
theorem gw291 : (Jvm.Cond.fieldLink "NotationPress$Reader" (26 : Nat) "NotationPress$Reader" "words" "[I") ∈ np_gw := np_gwi 291 (by decide +kernel) rfl
theorem gw292 : (Jvm.Cond.fieldLink "NotationPress$Reader" (29 : Nat) "NotationPress$Reader" "wordEnds" "[I") ∈ np_gw := np_gwi 292 (by decide +kernel) rfl
theorem gw293 : (Jvm.Cond.fieldLink "NotationPress$Reader" (35 : Nat) "NotationPress$Reader" "items" "LNotationPress$Items;") ∈ np_gw := np_gwi 293 (by decide +kernel) rfl
theorem gw294 : (Jvm.Cond.fieldLink "NotationPress$Reader" (42 : Nat) "NotationPress$Reader" "text" "LNotationPress$Text;") ∈ np_gw := np_gwi 294 (by decide +kernel) rfl
theorem gw300 : (Jvm.Cond.laysFinal "NotationPress$Reader" "NotationPress$Reader" "beginnings" "[LNotationPress$Trace;") ∈ np_gw := np_gwi 300 (by decide +kernel) rfl
theorem gw302 : (Jvm.Cond.laysFinal "NotationPress$Reader" "NotationPress$Reader" "current" "LNotationPress$Trace;") ∈ np_gw := np_gwi 302 (by decide +kernel) rfl
theorem gw304 : (Jvm.Cond.laysFinal "NotationPress$Reader" "NotationPress$Reader" "number" "[I") ∈ np_gw := np_gwi 304 (by decide +kernel) rfl
theorem gw306 : (Jvm.Cond.laysFinal "NotationPress$Reader" "NotationPress$Reader" "words" "[I") ∈ np_gw := np_gwi 306 (by decide +kernel) rfl
theorem gw308 : (Jvm.Cond.laysFinal "NotationPress$Reader" "NotationPress$Reader" "wordEnds" "[I") ∈ np_gw := np_gwi 308 (by decide +kernel) rfl
theorem gw310 : (Jvm.Cond.lays "NotationPress$Reader" "NotationPress$Reader" "items" "LNotationPress$Items;") ∈ np_gw := np_gwi 310 (by decide +kernel) rfl
theorem gw312 : (Jvm.Cond.lays "NotationPress$Reader" "NotationPress$Reader" "text" "LNotationPress$Text;") ∈ np_gw := np_gwi 312 (by decide +kernel) rfl
theorem gw314 : (Jvm.Cond.lays "NotationPress$Reader" "NotationPress$Reader" "place" "I") ∈ np_gw := np_gwi 314 (by decide +kernel) rfl
theorem gw316 : (Jvm.Cond.lays "NotationPress$Reader" "NotationPress$Reader" "kept" "I") ∈ np_gw := np_gwi 316 (by decide +kernel) rfl
theorem gw318 : (Jvm.Cond.lays "NotationPress$Reader" "NotationPress$Reader" "begun" "I") ∈ np_gw := np_gwi 318 (by decide +kernel) rfl
theorem gw320 : (Jvm.Cond.lays "NotationPress$Reader" "NotationPress$Reader" "tooFar" "Z") ∈ np_gw := np_gwi 320 (by decide +kernel) rfl
theorem gw328 : (Jvm.Cond.methodLink "NotationPress$Sampler" (3 : Nat) ({ cls := "java/lang/Object", name := "<init>", desc := "()V" } : Jvm.MethodName)) ∈ np_gw := np_gwi 328 (by decide +kernel) rfl
theorem gw329 : (Jvm.Cond.classLink "NotationPress$Sampler" (9 : Nat) "NotationPress$Trace") ∈ np_gw := np_gwi 329 (by decide +kernel) rfl
theorem gw330 : (Jvm.Cond.methodLinkNest "NotationPress$Sampler" (24 : Nat) ({ cls := "NotationPress$Trace", name := "<init>", desc := "()V" } : Jvm.MethodName) "NotationPress") ∈ np_nw := np_nwi 330 (by decide +kernel) rfl
theorem gw331 : (Jvm.Cond.fieldLink "NotationPress$Sampler" (11 : Nat) "NotationPress$Sampler" "levels" "[LNotationPress$Trace;") ∈ np_gw := np_gwi 331 (by decide +kernel) rfl
theorem gw332 : (Jvm.Cond.fieldLink "NotationPress$Sampler" (17 : Nat) "NotationPress$Sampler" "drawn" "[I") ∈ np_gw := np_gwi 332 (by decide +kernel) rfl
theorem gw333 : (Jvm.Cond.fieldLink "NotationPress$Sampler" (21 : Nat) "NotationPress$Sampler" "tried" "[I") ∈ np_gw := np_gwi 333 (by decide +kernel) rfl
theorem gw336 : (Jvm.Cond.laysFinal "NotationPress$Sampler" "NotationPress$Sampler" "levels" "[LNotationPress$Trace;") ∈ np_gw := np_gwi 336 (by decide +kernel) rfl
theorem gw338 : (Jvm.Cond.laysFinal "NotationPress$Sampler" "NotationPress$Sampler" "drawn" "[I") ∈ np_gw := np_gwi 338 (by decide +kernel) rfl
theorem gw340 : (Jvm.Cond.laysFinal "NotationPress$Sampler" "NotationPress$Sampler" "tried" "[I") ∈ np_gw := np_gwi 340 (by decide +kernel) rfl
theorem gw342 : (Jvm.Cond.lays "NotationPress$Sampler" "NotationPress$Sampler" "seed" "I") ∈ np_gw := np_gwi 342 (by decide +kernel) rfl
theorem gw344 : (Jvm.Cond.lays "NotationPress$Sampler" "NotationPress$Sampler" "depth" "I") ∈ np_gw := np_gwi 344 (by decide +kernel) rfl
theorem gw354 : (Jvm.Cond.methodLink "NotationPress$UpgradeDraft" (3 : Nat) ({ cls := "java/lang/Object", name := "<init>", desc := "()V" } : Jvm.MethodName)) ∈ np_gw := np_gwi 354 (by decide +kernel) rfl
theorem gw355 : (Jvm.Cond.methodLinkNest "NotationPress$UpgradeDraft" (21 : Nat) ({ cls := "NotationPress", name := "fillAll", desc := "([II)V" } : Jvm.MethodName) "NotationPress") ∈ np_nw := np_nwi 355 (by decide +kernel) rfl
theorem gw356 : (Jvm.Cond.fieldLink "NotationPress$UpgradeDraft" (9 : Nat) "NotationPress$UpgradeDraft" "kinds" "[I") ∈ np_gw := np_gwi 356 (by decide +kernel) rfl
theorem gw358 : (Jvm.Cond.fieldLink "NotationPress$UpgradeDraft" (15 : Nat) "NotationPress$UpgradeDraft" "firsts" "[I") ∈ np_gw := np_gwi 358 (by decide +kernel) rfl
theorem gw360 : (Jvm.Cond.fieldLink "NotationPress$UpgradeDraft" (18 : Nat) "NotationPress$UpgradeDraft" "seconds" "[I") ∈ np_gw := np_gwi 360 (by decide +kernel) rfl
theorem gw362 : (Jvm.Cond.laysFinal "NotationPress$UpgradeDraft" "NotationPress$UpgradeDraft" "kinds" "[I") ∈ np_gw := np_gwi 362 (by decide +kernel) rfl
theorem gw364 : (Jvm.Cond.laysFinal "NotationPress$UpgradeDraft" "NotationPress$UpgradeDraft" "firsts" "[I") ∈ np_gw := np_gwi 364 (by decide +kernel) rfl
theorem gw366 : (Jvm.Cond.laysFinal "NotationPress$UpgradeDraft" "NotationPress$UpgradeDraft" "seconds" "[I") ∈ np_gw := np_gwi 366 (by decide +kernel) rfl
theorem gw375 : (Jvm.Cond.methodLink "NotationPress$Description" (3 : Nat) ({ cls := "java/lang/Object", name := "<init>", desc := "()V" } : Jvm.MethodName)) ∈ np_gw := np_gwi 375 (by decide +kernel) rfl
theorem gw376 : (Jvm.Cond.classLink "NotationPress$Description" (9 : Nat) "NotationPress$Items") ∈ np_gw := np_gwi 376 (by decide +kernel) rfl
theorem gw377 : (Jvm.Cond.methodLinkNest "NotationPress$Description" (11 : Nat) ({ cls := "NotationPress$Items", name := "<init>", desc := "()V" } : Jvm.MethodName) "NotationPress") ∈ np_nw := np_nwi 377 (by decide +kernel) rfl
theorem gw378 : (Jvm.Cond.fieldLink "NotationPress$Description" (12 : Nat) "NotationPress$Description" "items" "LNotationPress$Items;") ∈ np_gw := np_gwi 378 (by decide +kernel) rfl
theorem gw381 : (Jvm.Cond.fieldLink "NotationPress$Description" (18 : Nat) "NotationPress$Description" "kinds" "[I") ∈ np_gw := np_gwi 381 (by decide +kernel) rfl
theorem gw382 : (Jvm.Cond.fieldLink "NotationPress$Description" (22 : Nat) "NotationPress$Description" "firsts" "[I") ∈ np_gw := np_gwi 382 (by decide +kernel) rfl
theorem gw383 : (Jvm.Cond.fieldLink "NotationPress$Description" (25 : Nat) "NotationPress$Description" "seconds" "[I") ∈ np_gw := np_gwi 383 (by decide +kernel) rfl
theorem gw384 : (Jvm.Cond.fieldLink "NotationPress$Description" (28 : Nat) "NotationPress$Description" "thirds" "[I") ∈ np_gw := np_gwi 384 (by decide +kernel) rfl
theorem gw385 : (Jvm.Cond.fieldLink "NotationPress$Description" (31 : Nat) "NotationPress$Description" "messages" "[I") ∈ np_gw := np_gwi 385 (by decide +kernel) rfl
theorem gw388 : (Jvm.Cond.laysFinal "NotationPress$Description" "NotationPress$Description" "items" "LNotationPress$Items;") ∈ np_gw := np_gwi 388 (by decide +kernel) rfl
theorem gw390 : (Jvm.Cond.laysFinal "NotationPress$Description" "NotationPress$Description" "kinds" "[I") ∈ np_gw := np_gwi 390 (by decide +kernel) rfl
theorem gw392 : (Jvm.Cond.laysFinal "NotationPress$Description" "NotationPress$Description" "firsts" "[I") ∈ np_gw := np_gwi 392 (by decide +kernel) rfl
theorem gw394 : (Jvm.Cond.laysFinal "NotationPress$Description" "NotationPress$Description" "seconds" "[I") ∈ np_gw := np_gwi 394 (by decide +kernel) rfl
theorem gw396 : (Jvm.Cond.laysFinal "NotationPress$Description" "NotationPress$Description" "thirds" "[I") ∈ np_gw := np_gwi 396 (by decide +kernel) rfl
theorem gw398 : (Jvm.Cond.laysFinal "NotationPress$Description" "NotationPress$Description" "messages" "[I") ∈ np_gw := np_gwi 398 (by decide +kernel) rfl
theorem gw400 : (Jvm.Cond.lays "NotationPress$Description" "NotationPress$Description" "count" "I") ∈ np_gw := np_gwi 400 (by decide +kernel) rfl
theorem gw408 : (Jvm.Cond.methodLink "NotationPress$Table" (3 : Nat) ({ cls := "java/lang/Object", name := "<init>", desc := "()V" } : Jvm.MethodName)) ∈ np_gw := np_gwi 408 (by decide +kernel) rfl
theorem gw409 : (Jvm.Cond.methodLinkNest "NotationPress$Table" (27 : Nat) ({ cls := "NotationPress", name := "fillAll", desc := "([II)V" } : Jvm.MethodName) "NotationPress") ∈ np_nw := np_nwi 409 (by decide +kernel) rfl
theorem gw410 : (Jvm.Cond.fieldLink "NotationPress$Table" (9 : Nat) "NotationPress$Table" "rows" "[I") ∈ np_gw := np_gwi 410 (by decide +kernel) rfl
theorem gw412 : (Jvm.Cond.fieldLink "NotationPress$Table" (15 : Nat) "NotationPress$Table" "ledger" "[I") ∈ np_gw := np_gwi 412 (by decide +kernel) rfl
theorem gw414 : (Jvm.Cond.fieldLink "NotationPress$Table" (18 : Nat) "NotationPress$Table" "bucketFirst" "[I") ∈ np_gw := np_gwi 414 (by decide +kernel) rfl
theorem gw415 : (Jvm.Cond.fieldLink "NotationPress$Table" (21 : Nat) "NotationPress$Table" "bucketLast" "[I") ∈ np_gw := np_gwi 415 (by decide +kernel) rfl
theorem gw416 : (Jvm.Cond.fieldLink "NotationPress$Table" (24 : Nat) "NotationPress$Table" "nextInBucket" "[I") ∈ np_gw := np_gwi 416 (by decide +kernel) rfl
theorem gw429 : (Jvm.Cond.laysFinal "NotationPress$Table" "NotationPress$Table" "rows" "[I") ∈ np_gw := np_gwi 429 (by decide +kernel) rfl
theorem gw431 : (Jvm.Cond.laysFinal "NotationPress$Table" "NotationPress$Table" "ledger" "[I") ∈ np_gw := np_gwi 431 (by decide +kernel) rfl
theorem gw433 : (Jvm.Cond.laysFinal "NotationPress$Table" "NotationPress$Table" "bucketFirst" "[I") ∈ np_gw := np_gwi 433 (by decide +kernel) rfl
theorem gw435 : (Jvm.Cond.laysFinal "NotationPress$Table" "NotationPress$Table" "bucketLast" "[I") ∈ np_gw := np_gwi 435 (by decide +kernel) rfl
theorem gw437 : (Jvm.Cond.laysFinal "NotationPress$Table" "NotationPress$Table" "nextInBucket" "[I") ∈ np_gw := np_gwi 437 (by decide +kernel) rfl
theorem gw439 : (Jvm.Cond.lays "NotationPress$Table" "NotationPress$Table" "description" "LNotationPress$Description;") ∈ np_gw := np_gwi 439 (by decide +kernel) rfl
theorem gw441 : (Jvm.Cond.lays "NotationPress$Table" "NotationPress$Table" "place" "I") ∈ np_gw := np_gwi 441 (by decide +kernel) rfl
theorem gw443 : (Jvm.Cond.lays "NotationPress$Table" "NotationPress$Table" "rowCount" "I") ∈ np_gw := np_gwi 443 (by decide +kernel) rfl
theorem gw445 : (Jvm.Cond.lays "NotationPress$Table" "NotationPress$Table" "doubts" "I") ∈ np_gw := np_gwi 445 (by decide +kernel) rfl
theorem gw447 : (Jvm.Cond.lays "NotationPress$Table" "NotationPress$Table" "skippedCount" "I") ∈ np_gw := np_gwi 447 (by decide +kernel) rfl
theorem gw449 : (Jvm.Cond.lays "NotationPress$Table" "NotationPress$Table" "right" "I") ∈ np_gw := np_gwi 449 (by decide +kernel) rfl
theorem gw451 : (Jvm.Cond.lays "NotationPress$Table" "NotationPress$Table" "why" "I") ∈ np_gw := np_gwi 451 (by decide +kernel) rfl
theorem gw458 : (Jvm.Cond.methodLink "NotationPress$Column" (3 : Nat) ({ cls := "java/lang/Object", name := "<init>", desc := "()V" } : Jvm.MethodName)) ∈ np_gw := np_gwi 458 (by decide +kernel) rfl
theorem gw459 : (Jvm.Cond.fieldLink "NotationPress$Column" (9 : Nat) "NotationPress$Column" "base" "[I") ∈ np_gw := np_gwi 459 (by decide +kernel) rfl
theorem gw460 : (Jvm.Cond.fieldLink "NotationPress$Column" (15 : Nat) "NotationPress$Column" "values" "[I") ∈ np_gw := np_gwi 460 (by decide +kernel) rfl
theorem gw461 : (Jvm.Cond.fieldLink "NotationPress$Column" (18 : Nat) "NotationPress$Column" "table" "LNotationPress$Table;") ∈ np_gw := np_gwi 461 (by decide +kernel) rfl
theorem gw465 : (Jvm.Cond.laysFinal "NotationPress$Column" "NotationPress$Column" "base" "[I") ∈ np_gw := np_gwi 465 (by decide +kernel) rfl
theorem gw467 : (Jvm.Cond.laysFinal "NotationPress$Column" "NotationPress$Column" "values" "[I") ∈ np_gw := np_gwi 467 (by decide +kernel) rfl
theorem gw469 : (Jvm.Cond.lays "NotationPress$Column" "NotationPress$Column" "table" "LNotationPress$Table;") ∈ np_gw := np_gwi 469 (by decide +kernel) rfl
theorem gw471 : (Jvm.Cond.lays "NotationPress$Column" "NotationPress$Column" "kind" "I") ∈ np_gw := np_gwi 471 (by decide +kernel) rfl
theorem gw473 : (Jvm.Cond.lays "NotationPress$Column" "NotationPress$Column" "slot" "I") ∈ np_gw := np_gwi 473 (by decide +kernel) rfl
theorem gw475 : (Jvm.Cond.lays "NotationPress$Column" "NotationPress$Column" "window" "I") ∈ np_gw := np_gwi 475 (by decide +kernel) rfl
theorem gw482 : (Jvm.Cond.methodLink "NotationPress$Upgrade" (3 : Nat) ({ cls := "java/lang/Object", name := "<init>", desc := "()V" } : Jvm.MethodName)) ∈ np_gw := np_gwi 482 (by decide +kernel) rfl
theorem gw483 : (Jvm.Cond.fieldLink "NotationPress$Upgrade" (9 : Nat) "NotationPress$Upgrade" "kinds" "[I") ∈ np_gw := np_gwi 483 (by decide +kernel) rfl
theorem gw484 : (Jvm.Cond.fieldLink "NotationPress$Upgrade" (15 : Nat) "NotationPress$Upgrade" "numbers" "[I") ∈ np_gw := np_gwi 484 (by decide +kernel) rfl
theorem gw485 : (Jvm.Cond.fieldLink "NotationPress$Upgrade" (18 : Nat) "NotationPress$Upgrade" "ends" "[I") ∈ np_gw := np_gwi 485 (by decide +kernel) rfl
theorem gw486 : (Jvm.Cond.fieldLink "NotationPress$Upgrade" (21 : Nat) "NotationPress$Upgrade" "stack" "[I") ∈ np_gw := np_gwi 486 (by decide +kernel) rfl
theorem gw487 : (Jvm.Cond.fieldLink "NotationPress$Upgrade" (24 : Nat) "NotationPress$Upgrade" "pathKinds" "[I") ∈ np_gw := np_gwi 487 (by decide +kernel) rfl
theorem gw488 : (Jvm.Cond.fieldLink "NotationPress$Upgrade" (27 : Nat) "NotationPress$Upgrade" "pathNumbers" "[I") ∈ np_gw := np_gwi 488 (by decide +kernel) rfl
theorem gw491 : (Jvm.Cond.laysFinal "NotationPress$Upgrade" "NotationPress$Upgrade" "kinds" "[I") ∈ np_gw := np_gwi 491 (by decide +kernel) rfl
theorem gw493 : (Jvm.Cond.laysFinal "NotationPress$Upgrade" "NotationPress$Upgrade" "numbers" "[I") ∈ np_gw := np_gwi 493 (by decide +kernel) rfl
theorem gw495 : (Jvm.Cond.laysFinal "NotationPress$Upgrade" "NotationPress$Upgrade" "ends" "[I") ∈ np_gw := np_gwi 495 (by decide +kernel) rfl
theorem gw497 : (Jvm.Cond.laysFinal "NotationPress$Upgrade" "NotationPress$Upgrade" "stack" "[I") ∈ np_gw := np_gwi 497 (by decide +kernel) rfl
theorem gw499 : (Jvm.Cond.laysFinal "NotationPress$Upgrade" "NotationPress$Upgrade" "pathKinds" "[I") ∈ np_gw := np_gwi 499 (by decide +kernel) rfl
theorem gw501 : (Jvm.Cond.laysFinal "NotationPress$Upgrade" "NotationPress$Upgrade" "pathNumbers" "[I") ∈ np_gw := np_gwi 501 (by decide +kernel) rfl
theorem gw503 : (Jvm.Cond.lays "NotationPress$Upgrade" "NotationPress$Upgrade" "length" "I") ∈ np_gw := np_gwi 503 (by decide +kernel) rfl
set_option maxRecDepth 20000 in
theorem guX0 : ∀ w ∈ u_ws RX0 TX0 6, w ∈ np_gw := by
  show ∀ w ∈ [(Jvm.Cond.laysFinal "NotationPress$Column" "NotationPress$Column" "base" "[I"), (Jvm.Cond.laysFinal "NotationPress$Column" "NotationPress$Column" "values" "[I"), (Jvm.Cond.lays "NotationPress$Column" "NotationPress$Column" "table" "LNotationPress$Table;"), (Jvm.Cond.lays "NotationPress$Column" "NotationPress$Column" "kind" "I"), (Jvm.Cond.lays "NotationPress$Column" "NotationPress$Column" "slot" "I"), (Jvm.Cond.lays "NotationPress$Column" "NotationPress$Column" "window" "I")], w ∈ np_gw
  exact List.forall_mem_cons.mpr ⟨gw465, List.forall_mem_cons.mpr ⟨gw467, List.forall_mem_cons.mpr ⟨gw469, List.forall_mem_cons.mpr ⟨gw471, List.forall_mem_cons.mpr ⟨gw473, List.forall_mem_cons.mpr ⟨gw475, fun _ h => nomatch h⟩⟩⟩⟩⟩⟩
theorem ndX0 : ∀ j, j < 6 → defaultValue (tyX0 j) = vp_V [.null, .null, .null, .int 0, .int 0, .int 0] j := by decide +kernel
theorem nfX0 : ∀ v ∈ ([.null, .null, .null, .int 0, .int 0, .int 0] : List Value), ∀ ad : Nat → Nat, np_v ad v = v := by
  intro v hv ad
  simp only [List.mem_cons, List.not_mem_nil, or_false] at hv
  rcases hv with rfl | rfl | rfl | rfl | rfl | rfl <;> rfl
set_option maxRecDepth 20000 in
theorem guX1 : ∀ w ∈ u_ws RX1 TX1 7, w ∈ np_gw := by
  show ∀ w ∈ [(Jvm.Cond.laysFinal "NotationPress$Description" "NotationPress$Description" "items" "LNotationPress$Items;"), (Jvm.Cond.laysFinal "NotationPress$Description" "NotationPress$Description" "kinds" "[I"), (Jvm.Cond.laysFinal "NotationPress$Description" "NotationPress$Description" "firsts" "[I"), (Jvm.Cond.laysFinal "NotationPress$Description" "NotationPress$Description" "seconds" "[I"), (Jvm.Cond.laysFinal "NotationPress$Description" "NotationPress$Description" "thirds" "[I"), (Jvm.Cond.laysFinal "NotationPress$Description" "NotationPress$Description" "messages" "[I"), (Jvm.Cond.lays "NotationPress$Description" "NotationPress$Description" "count" "I")], w ∈ np_gw
  exact List.forall_mem_cons.mpr ⟨gw388, List.forall_mem_cons.mpr ⟨gw390, List.forall_mem_cons.mpr ⟨gw392, List.forall_mem_cons.mpr ⟨gw394, List.forall_mem_cons.mpr ⟨gw396, List.forall_mem_cons.mpr ⟨gw398, List.forall_mem_cons.mpr ⟨gw400, fun _ h => nomatch h⟩⟩⟩⟩⟩⟩⟩
theorem ndX1 : ∀ j, j < 7 → defaultValue (tyX1 j) = vp_V [.null, .null, .null, .null, .null, .null, .int 0] j := by decide +kernel
theorem nfX1 : ∀ v ∈ ([.null, .null, .null, .null, .null, .null, .int 0] : List Value), ∀ ad : Nat → Nat, np_v ad v = v := by
  intro v hv ad
  simp only [List.mem_cons, List.not_mem_nil, or_false] at hv
  rcases hv with rfl | rfl | rfl | rfl | rfl | rfl | rfl <;> rfl
set_option maxRecDepth 20000 in
theorem guX2 : ∀ w ∈ u_ws RX2 TX2 5, w ∈ np_gw := by
  show ∀ w ∈ [(Jvm.Cond.laysFinal "NotationPress$Items" "NotationPress$Items" "kinds" "[I"), (Jvm.Cond.laysFinal "NotationPress$Items" "NotationPress$Items" "firsts" "[I"), (Jvm.Cond.laysFinal "NotationPress$Items" "NotationPress$Items" "seconds" "[I"), (Jvm.Cond.laysFinal "NotationPress$Items" "NotationPress$Items" "thirds" "[I"), (Jvm.Cond.lays "NotationPress$Items" "NotationPress$Items" "count" "I")], w ∈ np_gw
  exact List.forall_mem_cons.mpr ⟨gw172, List.forall_mem_cons.mpr ⟨gw174, List.forall_mem_cons.mpr ⟨gw176, List.forall_mem_cons.mpr ⟨gw178, List.forall_mem_cons.mpr ⟨gw180, fun _ h => nomatch h⟩⟩⟩⟩⟩
theorem ndX2 : ∀ j, j < 5 → defaultValue (tyX2 j) = vp_V [.null, .null, .null, .null, .int 0] j := by decide +kernel
theorem nfX2 : ∀ v ∈ ([.null, .null, .null, .null, .int 0] : List Value), ∀ ad : Nat → Nat, np_v ad v = v := by
  intro v hv ad
  simp only [List.mem_cons, List.not_mem_nil, or_false] at hv
  rcases hv with rfl | rfl | rfl | rfl | rfl <;> rfl
set_option maxRecDepth 20000 in
theorem guX3 : ∀ w ∈ u_ws RX3 TX3 3, w ∈ np_gw := by
  show ∀ w ∈ [(Jvm.Cond.laysFinal "NotationPress$Printer" "NotationPress$Printer" "units" "[I"), (Jvm.Cond.laysFinal "NotationPress$Printer" "NotationPress$Printer" "number" "[I"), (Jvm.Cond.laysFinal "NotationPress$Printer" "NotationPress$Printer" "trace" "LNotationPress$Trace;")], w ∈ np_gw
  exact List.forall_mem_cons.mpr ⟨gw250, List.forall_mem_cons.mpr ⟨gw252, List.forall_mem_cons.mpr ⟨gw254, fun _ h => nomatch h⟩⟩⟩
theorem ndX3 : ∀ j, j < 3 → defaultValue (tyX3 j) = vp_V [.null, .null, .null] j := by decide +kernel
theorem nfX3 : ∀ v ∈ ([.null, .null, .null] : List Value), ∀ ad : Nat → Nat, np_v ad v = v := by
  intro v hv ad
  simp only [List.mem_cons, List.not_mem_nil, or_false] at hv
  rcases hv with rfl | rfl | rfl <;> rfl
set_option maxRecDepth 20000 in
theorem guX4 : ∀ w ∈ u_ws RX4 TX4 11, w ∈ np_gw := by
  show ∀ w ∈ [(Jvm.Cond.laysFinal "NotationPress$Reader" "NotationPress$Reader" "beginnings" "[LNotationPress$Trace;"), (Jvm.Cond.laysFinal "NotationPress$Reader" "NotationPress$Reader" "current" "LNotationPress$Trace;"), (Jvm.Cond.laysFinal "NotationPress$Reader" "NotationPress$Reader" "number" "[I"), (Jvm.Cond.laysFinal "NotationPress$Reader" "NotationPress$Reader" "words" "[I"), (Jvm.Cond.laysFinal "NotationPress$Reader" "NotationPress$Reader" "wordEnds" "[I"), (Jvm.Cond.lays "NotationPress$Reader" "NotationPress$Reader" "items" "LNotationPress$Items;"), (Jvm.Cond.lays "NotationPress$Reader" "NotationPress$Reader" "text" "LNotationPress$Text;"), (Jvm.Cond.lays "NotationPress$Reader" "NotationPress$Reader" "place" "I"), (Jvm.Cond.lays "NotationPress$Reader" "NotationPress$Reader" "kept" "I"), (Jvm.Cond.lays "NotationPress$Reader" "NotationPress$Reader" "begun" "I"), (Jvm.Cond.lays "NotationPress$Reader" "NotationPress$Reader" "tooFar" "Z")], w ∈ np_gw
  exact List.forall_mem_cons.mpr ⟨gw300, List.forall_mem_cons.mpr ⟨gw302, List.forall_mem_cons.mpr ⟨gw304, List.forall_mem_cons.mpr ⟨gw306, List.forall_mem_cons.mpr ⟨gw308, List.forall_mem_cons.mpr ⟨gw310, List.forall_mem_cons.mpr ⟨gw312, List.forall_mem_cons.mpr ⟨gw314, List.forall_mem_cons.mpr ⟨gw316, List.forall_mem_cons.mpr ⟨gw318, List.forall_mem_cons.mpr ⟨gw320, fun _ h => nomatch h⟩⟩⟩⟩⟩⟩⟩⟩⟩⟩⟩
theorem ndX4 : ∀ j, j < 11 → defaultValue (tyX4 j) = vp_V [.null, .null, .null, .null, .null, .null, .null, .int 0, .int 0, .int 0, .int 0] j := by decide +kernel
theorem nfX4 : ∀ v ∈ ([.null, .null, .null, .null, .null, .null, .null, .int 0, .int 0, .int 0, .int 0] : List Value), ∀ ad : Nat → Nat, np_v ad v = v := by
  intro v hv ad
  simp only [List.mem_cons, List.not_mem_nil, or_false] at hv
  rcases hv with rfl | rfl | rfl | rfl | rfl | rfl | rfl | rfl | rfl | rfl | rfl <;> rfl
set_option maxRecDepth 20000 in
theorem guX5 : ∀ w ∈ u_ws RX5 TX5 5, w ∈ np_gw := by
  show ∀ w ∈ [(Jvm.Cond.laysFinal "NotationPress$Sampler" "NotationPress$Sampler" "levels" "[LNotationPress$Trace;"), (Jvm.Cond.laysFinal "NotationPress$Sampler" "NotationPress$Sampler" "drawn" "[I"), (Jvm.Cond.laysFinal "NotationPress$Sampler" "NotationPress$Sampler" "tried" "[I"), (Jvm.Cond.lays "NotationPress$Sampler" "NotationPress$Sampler" "seed" "I"), (Jvm.Cond.lays "NotationPress$Sampler" "NotationPress$Sampler" "depth" "I")], w ∈ np_gw
  exact List.forall_mem_cons.mpr ⟨gw336, List.forall_mem_cons.mpr ⟨gw338, List.forall_mem_cons.mpr ⟨gw340, List.forall_mem_cons.mpr ⟨gw342, List.forall_mem_cons.mpr ⟨gw344, fun _ h => nomatch h⟩⟩⟩⟩⟩
theorem ndX5 : ∀ j, j < 5 → defaultValue (tyX5 j) = vp_V [.null, .null, .null, .int 0, .int 0] j := by decide +kernel
theorem nfX5 : ∀ v ∈ ([.null, .null, .null, .int 0, .int 0] : List Value), ∀ ad : Nat → Nat, np_v ad v = v := by
  intro v hv ad
  simp only [List.mem_cons, List.not_mem_nil, or_false] at hv
  rcases hv with rfl | rfl | rfl | rfl | rfl <;> rfl
set_option maxRecDepth 20000 in
theorem guX6 : ∀ w ∈ u_ws RX6 TX6 12, w ∈ np_gw := by
  show ∀ w ∈ [(Jvm.Cond.laysFinal "NotationPress$Table" "NotationPress$Table" "rows" "[I"), (Jvm.Cond.laysFinal "NotationPress$Table" "NotationPress$Table" "ledger" "[I"), (Jvm.Cond.laysFinal "NotationPress$Table" "NotationPress$Table" "bucketFirst" "[I"), (Jvm.Cond.laysFinal "NotationPress$Table" "NotationPress$Table" "bucketLast" "[I"), (Jvm.Cond.laysFinal "NotationPress$Table" "NotationPress$Table" "nextInBucket" "[I"), (Jvm.Cond.lays "NotationPress$Table" "NotationPress$Table" "description" "LNotationPress$Description;"), (Jvm.Cond.lays "NotationPress$Table" "NotationPress$Table" "place" "I"), (Jvm.Cond.lays "NotationPress$Table" "NotationPress$Table" "rowCount" "I"), (Jvm.Cond.lays "NotationPress$Table" "NotationPress$Table" "doubts" "I"), (Jvm.Cond.lays "NotationPress$Table" "NotationPress$Table" "skippedCount" "I"), (Jvm.Cond.lays "NotationPress$Table" "NotationPress$Table" "right" "I"), (Jvm.Cond.lays "NotationPress$Table" "NotationPress$Table" "why" "I")], w ∈ np_gw
  exact List.forall_mem_cons.mpr ⟨gw429, List.forall_mem_cons.mpr ⟨gw431, List.forall_mem_cons.mpr ⟨gw433, List.forall_mem_cons.mpr ⟨gw435, List.forall_mem_cons.mpr ⟨gw437, List.forall_mem_cons.mpr ⟨gw439, List.forall_mem_cons.mpr ⟨gw441, List.forall_mem_cons.mpr ⟨gw443, List.forall_mem_cons.mpr ⟨gw445, List.forall_mem_cons.mpr ⟨gw447, List.forall_mem_cons.mpr ⟨gw449, List.forall_mem_cons.mpr ⟨gw451, fun _ h => nomatch h⟩⟩⟩⟩⟩⟩⟩⟩⟩⟩⟩⟩
theorem ndX6 : ∀ j, j < 12 → defaultValue (tyX6 j) = vp_V [.null, .null, .null, .null, .null, .null, .int 0, .int 0, .int 0, .int 0, .int 0, .int 0] j := by decide +kernel
theorem nfX6 : ∀ v ∈ ([.null, .null, .null, .null, .null, .null, .int 0, .int 0, .int 0, .int 0, .int 0, .int 0] : List Value), ∀ ad : Nat → Nat, np_v ad v = v := by
  intro v hv ad
  simp only [List.mem_cons, List.not_mem_nil, or_false] at hv
  rcases hv with rfl | rfl | rfl | rfl | rfl | rfl | rfl | rfl | rfl | rfl | rfl | rfl <;> rfl
set_option maxRecDepth 20000 in
theorem guX7 : ∀ w ∈ u_ws RX7 TX7 3, w ∈ np_gw := by
  show ∀ w ∈ [(Jvm.Cond.laysFinal "NotationPress$Text" "NotationPress$Text" "units" "[C"), (Jvm.Cond.lays "NotationPress$Text" "NotationPress$Text" "length" "I"), (Jvm.Cond.lays "NotationPress$Text" "NotationPress$Text" "open" "Z")], w ∈ np_gw
  exact List.forall_mem_cons.mpr ⟨gw279, List.forall_mem_cons.mpr ⟨gw281, List.forall_mem_cons.mpr ⟨gw283, fun _ h => nomatch h⟩⟩⟩
theorem ndX7 : ∀ j, j < 3 → defaultValue (tyX7 j) = vp_V [.null, .int 0, .int 0] j := by decide +kernel
theorem nfX7 : ∀ v ∈ ([.null, .int 0, .int 0] : List Value), ∀ ad : Nat → Nat, np_v ad v = v := by
  intro v hv ad
  simp only [List.mem_cons, List.not_mem_nil, or_false] at hv
  rcases hv with rfl | rfl | rfl <;> rfl
set_option maxRecDepth 20000 in
theorem guX9 : ∀ w ∈ u_ws RX9 TX9 7, w ∈ np_gw := by
  show ∀ w ∈ [(Jvm.Cond.laysFinal "NotationPress$Upgrade" "NotationPress$Upgrade" "kinds" "[I"), (Jvm.Cond.laysFinal "NotationPress$Upgrade" "NotationPress$Upgrade" "numbers" "[I"), (Jvm.Cond.laysFinal "NotationPress$Upgrade" "NotationPress$Upgrade" "ends" "[I"), (Jvm.Cond.laysFinal "NotationPress$Upgrade" "NotationPress$Upgrade" "stack" "[I"), (Jvm.Cond.laysFinal "NotationPress$Upgrade" "NotationPress$Upgrade" "pathKinds" "[I"), (Jvm.Cond.laysFinal "NotationPress$Upgrade" "NotationPress$Upgrade" "pathNumbers" "[I"), (Jvm.Cond.lays "NotationPress$Upgrade" "NotationPress$Upgrade" "length" "I")], w ∈ np_gw
  exact List.forall_mem_cons.mpr ⟨gw491, List.forall_mem_cons.mpr ⟨gw493, List.forall_mem_cons.mpr ⟨gw495, List.forall_mem_cons.mpr ⟨gw497, List.forall_mem_cons.mpr ⟨gw499, List.forall_mem_cons.mpr ⟨gw501, List.forall_mem_cons.mpr ⟨gw503, fun _ h => nomatch h⟩⟩⟩⟩⟩⟩⟩
theorem ndX9 : ∀ j, j < 7 → defaultValue (tyX9 j) = vp_V [.null, .null, .null, .null, .null, .null, .int 0] j := by decide +kernel
theorem nfX9 : ∀ v ∈ ([.null, .null, .null, .null, .null, .null, .int 0] : List Value), ∀ ad : Nat → Nat, np_v ad v = v := by
  intro v hv ad
  simp only [List.mem_cons, List.not_mem_nil, or_false] at hv
  rcases hv with rfl | rfl | rfl | rfl | rfl | rfl | rfl <;> rfl
set_option maxRecDepth 20000 in
theorem guX10 : ∀ w ∈ u_ws RX10 TX10 3, w ∈ np_gw := by
  show ∀ w ∈ [(Jvm.Cond.laysFinal "NotationPress$UpgradeDraft" "NotationPress$UpgradeDraft" "kinds" "[I"), (Jvm.Cond.laysFinal "NotationPress$UpgradeDraft" "NotationPress$UpgradeDraft" "firsts" "[I"), (Jvm.Cond.laysFinal "NotationPress$UpgradeDraft" "NotationPress$UpgradeDraft" "seconds" "[I")], w ∈ np_gw
  exact List.forall_mem_cons.mpr ⟨gw362, List.forall_mem_cons.mpr ⟨gw364, List.forall_mem_cons.mpr ⟨gw366, fun _ h => nomatch h⟩⟩⟩
theorem ndX10 : ∀ j, j < 3 → defaultValue (tyX10 j) = vp_V [.null, .null, .null] j := by decide +kernel
theorem nfX10 : ∀ v ∈ ([.null, .null, .null] : List Value), ∀ ad : Nat → Nat, np_v ad v = v := by
  intro v hv ad
  simp only [List.mem_cons, List.not_mem_nil, or_false] at hv
  rcases hv with rfl | rfl | rfl <;> rfl
theorem dX2_init_0 : decode cX2_init 0 = .ok (.aload_n 0, 1) := by decide +kernel
theorem dX2_init_1 : decode cX2_init 1 = .ok (.invokespecial 3, 3) := by decide +kernel
theorem dX2_init_4 : decode cX2_init 4 = .ok (.aload_n 0, 1) := by decide +kernel
theorem dX2_init_5 : decode cX2_init 5 = .ok (.bipush 14, 2) := by decide +kernel
theorem dX2_init_7 : decode cX2_init 7 = .ok (.newarray .int, 2) := by decide +kernel
theorem dX2_init_9 : decode cX2_init 9 = .ok (.putfield 9, 3) := by decide +kernel
theorem dX2_init_12 : decode cX2_init 12 = .ok (.aload_n 0, 1) := by decide +kernel
theorem dX2_init_13 : decode cX2_init 13 = .ok (.bipush 14, 2) := by decide +kernel
theorem dX2_init_15 : decode cX2_init 15 = .ok (.newarray .int, 2) := by decide +kernel
theorem dX2_init_17 : decode cX2_init 17 = .ok (.putfield 15, 3) := by decide +kernel
theorem dX2_init_20 : decode cX2_init 20 = .ok (.aload_n 0, 1) := by decide +kernel
theorem dX2_init_21 : decode cX2_init 21 = .ok (.bipush 14, 2) := by decide +kernel
theorem dX2_init_23 : decode cX2_init 23 = .ok (.newarray .int, 2) := by decide +kernel
theorem dX2_init_25 : decode cX2_init 25 = .ok (.putfield 18, 3) := by decide +kernel
theorem dX2_init_28 : decode cX2_init 28 = .ok (.aload_n 0, 1) := by decide +kernel
theorem dX2_init_29 : decode cX2_init 29 = .ok (.bipush 14, 2) := by decide +kernel
theorem dX2_init_31 : decode cX2_init 31 = .ok (.newarray .int, 2) := by decide +kernel
theorem dX2_init_33 : decode cX2_init 33 = .ok (.putfield 21, 3) := by decide +kernel
theorem dX2_init_36 : decode cX2_init 36 = .ok (.return_, 1) := by decide +kernel
def is_X2_init (Rt : np_Rt) : List (Nat × np_Op) := [(0, np_ald 1 0), (1, np_oinit), (4, np_ald 1 0), (5, np_push 2 (.int 14)), (7, nq_newa .int 14 (14, .inl fun _ => 0) 4 56), (9, nq_putf 2 0 (.array .int)), (12, np_ald 1 0), (13, np_push 2 (.int 14)), (15, nq_newa .int 14 (14, .inl fun _ => 0) 4 56), (17, nq_putf 2 1 (.array .int)), (20, np_ald 1 0), (21, np_push 2 (.int 14)), (23, nq_newa .int 14 (14, .inl fun _ => 0) 4 56), (25, nq_putf 2 2 (.array .int)), (28, np_ald 1 0), (29, np_push 2 (.int 14)), (31, nq_newa .int 14 (14, .inl fun _ => 0) 4 56), (33, nq_putf 2 3 (.array .int)), (36, np_ret Rt)]
set_option maxRecDepth 20000 in
theorem so_X2_init {X : np_Ctx} {Rt : np_Rt} (hX : np_ok RX2 cX2_init 1 1 20 4 56 .return_ X) (hmn : np_mn X = "<init>") (hR : ∀ st w ce sl, Rt st w ce sl → X.2.2.1 st w ce sl) : ∀ q ∈ is_X2_init Rt, np_S X q.1 q.2 :=
  List.forall_mem_cons.mpr ⟨np_s_aload_n hX dX2_init_0 rfl, List.forall_mem_cons.mpr ⟨np_s_oinit hX dX2_init_1 gw164 gw157 gw158 (by decide) (by decide), List.forall_mem_cons.mpr ⟨np_s_aload_n hX dX2_init_4 rfl, List.forall_mem_cons.mpr ⟨np_s_bipush hX dX2_init_5 (by decide), List.forall_mem_cons.mpr ⟨np_S.mono (op := np_newa .int 14 (14, .inl fun _ => 0) 4 56) (np_s_newa hX dX2_init_7 rfl gw183 (by decide) (by intro C h; cases h) (by decide) (fun _ => vp_cell_i _ _ _) (by decide) (fun _ _ => rfl) (fun _ => trivial)) nq_newa_le, List.forall_mem_cons.mpr ⟨np_S.mono (op := np_putf 2 0 (.array .int)) (np_s_putF hX dX2_init_9 hmn (C := RX2) (T := TX2) (N := 5) (ty0 := tyX2) rfl guX2 tyX2_ok nmX2 (by decide) gw165 rfl rfl rfl) nq_putf_le, List.forall_mem_cons.mpr ⟨np_s_aload_n hX dX2_init_12 rfl, List.forall_mem_cons.mpr ⟨np_s_bipush hX dX2_init_13 (by decide), List.forall_mem_cons.mpr ⟨np_S.mono (op := np_newa .int 14 (14, .inl fun _ => 0) 4 56) (np_s_newa hX dX2_init_15 rfl gw183 (by decide) (by intro C h; cases h) (by decide) (fun _ => vp_cell_i _ _ _) (by decide) (fun _ _ => rfl) (fun _ => trivial)) nq_newa_le, List.forall_mem_cons.mpr ⟨np_S.mono (op := np_putf 2 1 (.array .int)) (np_s_putF hX dX2_init_17 hmn (C := RX2) (T := TX2) (N := 5) (ty0 := tyX2) rfl guX2 tyX2_ok nmX2 (by decide) gw166 rfl rfl rfl) nq_putf_le, List.forall_mem_cons.mpr ⟨np_s_aload_n hX dX2_init_20 rfl, List.forall_mem_cons.mpr ⟨np_s_bipush hX dX2_init_21 (by decide), List.forall_mem_cons.mpr ⟨np_S.mono (op := np_newa .int 14 (14, .inl fun _ => 0) 4 56) (np_s_newa hX dX2_init_23 rfl gw183 (by decide) (by intro C h; cases h) (by decide) (fun _ => vp_cell_i _ _ _) (by decide) (fun _ _ => rfl) (fun _ => trivial)) nq_newa_le, List.forall_mem_cons.mpr ⟨np_S.mono (op := np_putf 2 2 (.array .int)) (np_s_putF hX dX2_init_25 hmn (C := RX2) (T := TX2) (N := 5) (ty0 := tyX2) rfl guX2 tyX2_ok nmX2 (by decide) gw167 rfl rfl rfl) nq_putf_le, List.forall_mem_cons.mpr ⟨np_s_aload_n hX dX2_init_28 rfl, List.forall_mem_cons.mpr ⟨np_s_bipush hX dX2_init_29 (by decide), List.forall_mem_cons.mpr ⟨np_S.mono (op := np_newa .int 14 (14, .inl fun _ => 0) 4 56) (np_s_newa hX dX2_init_31 rfl gw183 (by decide) (by intro C h; cases h) (by decide) (fun _ => vp_cell_i _ _ _) (by decide) (fun _ _ => rfl) (fun _ => trivial)) nq_newa_le, List.forall_mem_cons.mpr ⟨np_S.mono (op := np_putf 2 3 (.array .int)) (np_s_putF hX dX2_init_33 hmn (C := RX2) (T := TX2) (N := 5) (ty0 := tyX2) rfl guX2 tyX2_ok nmX2 (by decide) gw168 rfl rfl rfl) nq_putf_le, List.forall_mem_cons.mpr ⟨np_S.mono (op := np_ret X.2.2.1) (np_s_ret hX dX2_init_36) (nq_ret_le hR), fun _ h => nomatch h⟩⟩⟩⟩⟩⟩⟩⟩⟩⟩⟩⟩⟩⟩⟩⟩⟩⟩⟩
abbrev sp_X2_init : np_Sp := nq_in is_X2_init none 4 56 60
theorem C_X2_init : np_C yX2_init cX2_init 1 none 1 20 4 56 sp_X2_init := nq_inC 60 (by decide) (fun X Rt hX hmn hR => so_X2_init hX hmn hR)
theorem dX7_init_0 : decode cX7_init 0 = .ok (.aload_n 0, 1) := by decide +kernel
theorem dX7_init_1 : decode cX7_init 1 = .ok (.invokespecial 3, 3) := by decide +kernel
theorem dX7_init_4 : decode cX7_init 4 = .ok (.aload_n 0, 1) := by decide +kernel
theorem dX7_init_5 : decode cX7_init 5 = .ok (.sipush 300, 3) := by decide +kernel
theorem dX7_init_8 : decode cX7_init 8 = .ok (.newarray .char, 2) := by decide +kernel
theorem dX7_init_10 : decode cX7_init 10 = .ok (.putfield 9, 3) := by decide +kernel
theorem dX7_init_13 : decode cX7_init 13 = .ok (.aload_n 0, 1) := by decide +kernel
theorem dX7_init_14 : decode cX7_init 14 = .ok (.iconst 1, 1) := by decide +kernel
theorem dX7_init_15 : decode cX7_init 15 = .ok (.putfield 15, 3) := by decide +kernel
theorem dX7_init_18 : decode cX7_init 18 = .ok (.return_, 1) := by decide +kernel
def is_X7_init (Rt : np_Rt) : List (Nat × np_Op) := [(0, np_ald 1 0), (1, np_oinit), (4, np_ald 1 0), (5, np_push 3 (.int 300)), (8, nq_newa .char 300 (300, .inl fun _ => 0) 1 300), (10, nq_putf 7 0 (.array .char)), (13, np_ald 1 0), (14, np_push 1 (.int 1)), (15, nq_putf 7 2 (.boolean)), (18, np_ret Rt)]
set_option maxRecDepth 20000 in
theorem so_X7_init {X : np_Ctx} {Rt : np_Rt} (hX : np_ok RX7 cX7_init 1 1 20 1 300 .return_ X) (hmn : np_mn X = "<init>") (hR : ∀ st w ce sl, Rt st w ce sl → X.2.2.1 st w ce sl) : ∀ q ∈ is_X7_init Rt, np_S X q.1 q.2 :=
  List.forall_mem_cons.mpr ⟨np_s_aload_n hX dX7_init_0 rfl, List.forall_mem_cons.mpr ⟨np_s_oinit hX dX7_init_1 gw273 gw157 gw158 (by decide) (by decide), List.forall_mem_cons.mpr ⟨np_s_aload_n hX dX7_init_4 rfl, List.forall_mem_cons.mpr ⟨np_s_sipush hX dX7_init_5 (by decide), List.forall_mem_cons.mpr ⟨np_S.mono (op := np_newa .char 300 (300, .inl fun _ => 0) 1 300) (np_s_newa hX dX7_init_8 rfl gw286 (by decide) (by intro C h; cases h) (by decide) (fun _ => vp_cell_i _ _ _) (by decide) (fun _ _ => rfl) (fun _ => trivial)) nq_newa_le, List.forall_mem_cons.mpr ⟨np_S.mono (op := np_putf 7 0 (.array .char)) (np_s_putF hX dX7_init_10 hmn (C := RX7) (T := TX7) (N := 3) (ty0 := tyX7) rfl guX7 tyX7_ok nmX7 (by decide) gw274 rfl rfl rfl) nq_putf_le, List.forall_mem_cons.mpr ⟨np_s_aload_n hX dX7_init_13 rfl, List.forall_mem_cons.mpr ⟨np_s_iconst hX dX7_init_14 (by decide), List.forall_mem_cons.mpr ⟨np_S.mono (op := np_putf 7 2 (.boolean)) (np_s_putf hX dX7_init_15 (C := RX7) (T := TX7) (N := 3) (ty0 := tyX7) rfl guX7 tyX7_ok nmX7 (by decide) gw277 rfl rfl) nq_putf_le, List.forall_mem_cons.mpr ⟨np_S.mono (op := np_ret X.2.2.1) (np_s_ret hX dX7_init_18) (nq_ret_le hR), fun _ h => nomatch h⟩⟩⟩⟩⟩⟩⟩⟩⟩⟩
abbrev sp_X7_init : np_Sp := nq_in is_X7_init none 1 300 60
theorem C_X7_init : np_C yX7_init cX7_init 1 none 1 20 1 300 sp_X7_init := nq_inC 60 (by decide) (fun X Rt hX hmn hR => so_X7_init hX hmn hR)
theorem dX0_init_0 : decode cX0_init 0 = .ok (.aload_n 0, 1) := by decide +kernel
theorem dX0_init_1 : decode cX0_init 1 = .ok (.invokespecial 3, 3) := by decide +kernel
theorem dX0_init_4 : decode cX0_init 4 = .ok (.aload_n 0, 1) := by decide +kernel
theorem dX0_init_5 : decode cX0_init 5 = .ok (.bipush 24, 2) := by decide +kernel
theorem dX0_init_7 : decode cX0_init 7 = .ok (.newarray .int, 2) := by decide +kernel
theorem dX0_init_9 : decode cX0_init 9 = .ok (.putfield 9, 3) := by decide +kernel
theorem dX0_init_12 : decode cX0_init 12 = .ok (.aload_n 0, 1) := by decide +kernel
theorem dX0_init_13 : decode cX0_init 13 = .ok (.bipush 24, 2) := by decide +kernel
theorem dX0_init_15 : decode cX0_init 15 = .ok (.newarray .int, 2) := by decide +kernel
theorem dX0_init_17 : decode cX0_init 17 = .ok (.putfield 15, 3) := by decide +kernel
theorem dX0_init_20 : decode cX0_init 20 = .ok (.aload_n 0, 1) := by decide +kernel
theorem dX0_init_21 : decode cX0_init 21 = .ok (.aconst_null, 1) := by decide +kernel
theorem dX0_init_22 : decode cX0_init 22 = .ok (.putfield 18, 3) := by decide +kernel
theorem dX0_init_25 : decode cX0_init 25 = .ok (.return_, 1) := by decide +kernel
def is_X0_init (Rt : np_Rt) : List (Nat × np_Op) := [(0, np_ald 1 0), (1, np_oinit), (4, np_ald 1 0), (5, np_push 2 (.int 24)), (7, nq_newa .int 24 (24, .inl fun _ => 0) 2 48), (9, nq_putf 0 0 (.array .int)), (12, np_ald 1 0), (13, np_push 2 (.int 24)), (15, nq_newa .int 24 (24, .inl fun _ => 0) 2 48), (17, nq_putf 0 1 (.array .int)), (20, np_ald 1 0), (21, np_push 1 .null), (22, nq_putf 0 2 (.object "NotationPress$Table")), (25, np_ret Rt)]
set_option maxRecDepth 20000 in
theorem so_X0_init {X : np_Ctx} {Rt : np_Rt} (hX : np_ok RX0 cX0_init 1 1 20 2 48 .return_ X) (hmn : np_mn X = "<init>") (hR : ∀ st w ce sl, Rt st w ce sl → X.2.2.1 st w ce sl) : ∀ q ∈ is_X0_init Rt, np_S X q.1 q.2 :=
  List.forall_mem_cons.mpr ⟨np_s_aload_n hX dX0_init_0 rfl, List.forall_mem_cons.mpr ⟨np_s_oinit hX dX0_init_1 gw458 gw157 gw158 (by decide) (by decide), List.forall_mem_cons.mpr ⟨np_s_aload_n hX dX0_init_4 rfl, List.forall_mem_cons.mpr ⟨np_s_bipush hX dX0_init_5 (by decide), List.forall_mem_cons.mpr ⟨np_S.mono (op := np_newa .int 24 (24, .inl fun _ => 0) 2 48) (np_s_newa hX dX0_init_7 rfl gw183 (by decide) (by intro C h; cases h) (by decide) (fun _ => vp_cell_i _ _ _) (by decide) (fun _ _ => rfl) (fun _ => trivial)) nq_newa_le, List.forall_mem_cons.mpr ⟨np_S.mono (op := np_putf 0 0 (.array .int)) (np_s_putF hX dX0_init_9 hmn (C := RX0) (T := TX0) (N := 6) (ty0 := tyX0) rfl guX0 tyX0_ok nmX0 (by decide) gw459 rfl rfl rfl) nq_putf_le, List.forall_mem_cons.mpr ⟨np_s_aload_n hX dX0_init_12 rfl, List.forall_mem_cons.mpr ⟨np_s_bipush hX dX0_init_13 (by decide), List.forall_mem_cons.mpr ⟨np_S.mono (op := np_newa .int 24 (24, .inl fun _ => 0) 2 48) (np_s_newa hX dX0_init_15 rfl gw183 (by decide) (by intro C h; cases h) (by decide) (fun _ => vp_cell_i _ _ _) (by decide) (fun _ _ => rfl) (fun _ => trivial)) nq_newa_le, List.forall_mem_cons.mpr ⟨np_S.mono (op := np_putf 0 1 (.array .int)) (np_s_putF hX dX0_init_17 hmn (C := RX0) (T := TX0) (N := 6) (ty0 := tyX0) rfl guX0 tyX0_ok nmX0 (by decide) gw460 rfl rfl rfl) nq_putf_le, List.forall_mem_cons.mpr ⟨np_s_aload_n hX dX0_init_20 rfl, List.forall_mem_cons.mpr ⟨np_s_null hX dX0_init_21, List.forall_mem_cons.mpr ⟨np_S.mono (op := np_putf 0 2 (.object "NotationPress$Table")) (np_s_putf hX dX0_init_22 (C := RX0) (T := TX0) (N := 6) (ty0 := tyX0) rfl guX0 tyX0_ok nmX0 (by decide) gw461 rfl rfl) nq_putf_le, List.forall_mem_cons.mpr ⟨np_S.mono (op := np_ret X.2.2.1) (np_s_ret hX dX0_init_25) (nq_ret_le hR), fun _ h => nomatch h⟩⟩⟩⟩⟩⟩⟩⟩⟩⟩⟩⟩⟩⟩
abbrev sp_X0_init : np_Sp := nq_in is_X0_init none 2 48 60
theorem C_X0_init : np_C yX0_init cX0_init 1 none 1 20 2 48 sp_X0_init := nq_inC 60 (by decide) (fun X Rt hX hmn hR => so_X0_init hX hmn hR)
theorem dX9_init_0 : decode cX9_init 0 = .ok (.aload_n 0, 1) := by decide +kernel
theorem dX9_init_1 : decode cX9_init 1 = .ok (.invokespecial 3, 3) := by decide +kernel
theorem dX9_init_4 : decode cX9_init 4 = .ok (.aload_n 0, 1) := by decide +kernel
theorem dX9_init_5 : decode cX9_init 5 = .ok (.bipush 60, 2) := by decide +kernel
theorem dX9_init_7 : decode cX9_init 7 = .ok (.newarray .int, 2) := by decide +kernel
theorem dX9_init_9 : decode cX9_init 9 = .ok (.putfield 9, 3) := by decide +kernel
theorem dX9_init_12 : decode cX9_init 12 = .ok (.aload_n 0, 1) := by decide +kernel
theorem dX9_init_13 : decode cX9_init 13 = .ok (.bipush 60, 2) := by decide +kernel
theorem dX9_init_15 : decode cX9_init 15 = .ok (.newarray .int, 2) := by decide +kernel
theorem dX9_init_17 : decode cX9_init 17 = .ok (.putfield 15, 3) := by decide +kernel
theorem dX9_init_20 : decode cX9_init 20 = .ok (.aload_n 0, 1) := by decide +kernel
theorem dX9_init_21 : decode cX9_init 21 = .ok (.bipush 8, 2) := by decide +kernel
theorem dX9_init_23 : decode cX9_init 23 = .ok (.newarray .int, 2) := by decide +kernel
theorem dX9_init_25 : decode cX9_init 25 = .ok (.putfield 18, 3) := by decide +kernel
theorem dX9_init_28 : decode cX9_init 28 = .ok (.aload_n 0, 1) := by decide +kernel
theorem dX9_init_29 : decode cX9_init 29 = .ok (.bipush 60, 2) := by decide +kernel
theorem dX9_init_31 : decode cX9_init 31 = .ok (.newarray .int, 2) := by decide +kernel
theorem dX9_init_33 : decode cX9_init 33 = .ok (.putfield 21, 3) := by decide +kernel
theorem dX9_init_36 : decode cX9_init 36 = .ok (.aload_n 0, 1) := by decide +kernel
theorem dX9_init_37 : decode cX9_init 37 = .ok (.bipush 60, 2) := by decide +kernel
theorem dX9_init_39 : decode cX9_init 39 = .ok (.newarray .int, 2) := by decide +kernel
theorem dX9_init_41 : decode cX9_init 41 = .ok (.putfield 24, 3) := by decide +kernel
theorem dX9_init_44 : decode cX9_init 44 = .ok (.aload_n 0, 1) := by decide +kernel
theorem dX9_init_45 : decode cX9_init 45 = .ok (.bipush 60, 2) := by decide +kernel
theorem dX9_init_47 : decode cX9_init 47 = .ok (.newarray .int, 2) := by decide +kernel
theorem dX9_init_49 : decode cX9_init 49 = .ok (.putfield 27, 3) := by decide +kernel
theorem dX9_init_52 : decode cX9_init 52 = .ok (.return_, 1) := by decide +kernel
def is_X9_init (Rt : np_Rt) : List (Nat × np_Op) := [(0, np_ald 1 0), (1, np_oinit), (4, np_ald 1 0), (5, np_push 2 (.int 60)), (7, nq_newa .int 60 (60, .inl fun _ => 0) 6 308), (9, nq_putf 9 0 (.array .int)), (12, np_ald 1 0), (13, np_push 2 (.int 60)), (15, nq_newa .int 60 (60, .inl fun _ => 0) 6 308), (17, nq_putf 9 1 (.array .int)), (20, np_ald 1 0), (21, np_push 2 (.int 8)), (23, nq_newa .int 8 (8, .inl fun _ => 0) 6 308), (25, nq_putf 9 2 (.array .int)), (28, np_ald 1 0), (29, np_push 2 (.int 60)), (31, nq_newa .int 60 (60, .inl fun _ => 0) 6 308), (33, nq_putf 9 3 (.array .int)), (36, np_ald 1 0), (37, np_push 2 (.int 60)), (39, nq_newa .int 60 (60, .inl fun _ => 0) 6 308), (41, nq_putf 9 4 (.array .int)), (44, np_ald 1 0), (45, np_push 2 (.int 60)), (47, nq_newa .int 60 (60, .inl fun _ => 0) 6 308), (49, nq_putf 9 5 (.array .int)), (52, np_ret Rt)]
set_option maxRecDepth 20000 in
theorem so_X9_init {X : np_Ctx} {Rt : np_Rt} (hX : np_ok RX9 cX9_init 1 1 20 6 308 .return_ X) (hmn : np_mn X = "<init>") (hR : ∀ st w ce sl, Rt st w ce sl → X.2.2.1 st w ce sl) : ∀ q ∈ is_X9_init Rt, np_S X q.1 q.2 :=
  List.forall_mem_cons.mpr ⟨np_s_aload_n hX dX9_init_0 rfl, List.forall_mem_cons.mpr ⟨np_s_oinit hX dX9_init_1 gw482 gw157 gw158 (by decide) (by decide), List.forall_mem_cons.mpr ⟨np_s_aload_n hX dX9_init_4 rfl, List.forall_mem_cons.mpr ⟨np_s_bipush hX dX9_init_5 (by decide), List.forall_mem_cons.mpr ⟨np_S.mono (op := np_newa .int 60 (60, .inl fun _ => 0) 6 308) (np_s_newa hX dX9_init_7 rfl gw183 (by decide) (by intro C h; cases h) (by decide) (fun _ => vp_cell_i _ _ _) (by decide) (fun _ _ => rfl) (fun _ => trivial)) nq_newa_le, List.forall_mem_cons.mpr ⟨np_S.mono (op := np_putf 9 0 (.array .int)) (np_s_putF hX dX9_init_9 hmn (C := RX9) (T := TX9) (N := 7) (ty0 := tyX9) rfl guX9 tyX9_ok nmX9 (by decide) gw483 rfl rfl rfl) nq_putf_le, List.forall_mem_cons.mpr ⟨np_s_aload_n hX dX9_init_12 rfl, List.forall_mem_cons.mpr ⟨np_s_bipush hX dX9_init_13 (by decide), List.forall_mem_cons.mpr ⟨np_S.mono (op := np_newa .int 60 (60, .inl fun _ => 0) 6 308) (np_s_newa hX dX9_init_15 rfl gw183 (by decide) (by intro C h; cases h) (by decide) (fun _ => vp_cell_i _ _ _) (by decide) (fun _ _ => rfl) (fun _ => trivial)) nq_newa_le, List.forall_mem_cons.mpr ⟨np_S.mono (op := np_putf 9 1 (.array .int)) (np_s_putF hX dX9_init_17 hmn (C := RX9) (T := TX9) (N := 7) (ty0 := tyX9) rfl guX9 tyX9_ok nmX9 (by decide) gw484 rfl rfl rfl) nq_putf_le, List.forall_mem_cons.mpr ⟨np_s_aload_n hX dX9_init_20 rfl, List.forall_mem_cons.mpr ⟨np_s_bipush hX dX9_init_21 (by decide), List.forall_mem_cons.mpr ⟨np_S.mono (op := np_newa .int 8 (8, .inl fun _ => 0) 6 308) (np_s_newa hX dX9_init_23 rfl gw183 (by decide) (by intro C h; cases h) (by decide) (fun _ => vp_cell_i _ _ _) (by decide) (fun _ _ => rfl) (fun _ => trivial)) nq_newa_le, List.forall_mem_cons.mpr ⟨np_S.mono (op := np_putf 9 2 (.array .int)) (np_s_putF hX dX9_init_25 hmn (C := RX9) (T := TX9) (N := 7) (ty0 := tyX9) rfl guX9 tyX9_ok nmX9 (by decide) gw485 rfl rfl rfl) nq_putf_le, List.forall_mem_cons.mpr ⟨np_s_aload_n hX dX9_init_28 rfl, List.forall_mem_cons.mpr ⟨np_s_bipush hX dX9_init_29 (by decide), List.forall_mem_cons.mpr ⟨np_S.mono (op := np_newa .int 60 (60, .inl fun _ => 0) 6 308) (np_s_newa hX dX9_init_31 rfl gw183 (by decide) (by intro C h; cases h) (by decide) (fun _ => vp_cell_i _ _ _) (by decide) (fun _ _ => rfl) (fun _ => trivial)) nq_newa_le, List.forall_mem_cons.mpr ⟨np_S.mono (op := np_putf 9 3 (.array .int)) (np_s_putF hX dX9_init_33 hmn (C := RX9) (T := TX9) (N := 7) (ty0 := tyX9) rfl guX9 tyX9_ok nmX9 (by decide) gw486 rfl rfl rfl) nq_putf_le, List.forall_mem_cons.mpr ⟨np_s_aload_n hX dX9_init_36 rfl, List.forall_mem_cons.mpr ⟨np_s_bipush hX dX9_init_37 (by decide), List.forall_mem_cons.mpr ⟨np_S.mono (op := np_newa .int 60 (60, .inl fun _ => 0) 6 308) (np_s_newa hX dX9_init_39 rfl gw183 (by decide) (by intro C h; cases h) (by decide) (fun _ => vp_cell_i _ _ _) (by decide) (fun _ _ => rfl) (fun _ => trivial)) nq_newa_le, List.forall_mem_cons.mpr ⟨np_S.mono (op := np_putf 9 4 (.array .int)) (np_s_putF hX dX9_init_41 hmn (C := RX9) (T := TX9) (N := 7) (ty0 := tyX9) rfl guX9 tyX9_ok nmX9 (by decide) gw487 rfl rfl rfl) nq_putf_le, List.forall_mem_cons.mpr ⟨np_s_aload_n hX dX9_init_44 rfl, List.forall_mem_cons.mpr ⟨np_s_bipush hX dX9_init_45 (by decide), List.forall_mem_cons.mpr ⟨np_S.mono (op := np_newa .int 60 (60, .inl fun _ => 0) 6 308) (np_s_newa hX dX9_init_47 rfl gw183 (by decide) (by intro C h; cases h) (by decide) (fun _ => vp_cell_i _ _ _) (by decide) (fun _ _ => rfl) (fun _ => trivial)) nq_newa_le, List.forall_mem_cons.mpr ⟨np_S.mono (op := np_putf 9 5 (.array .int)) (np_s_putF hX dX9_init_49 hmn (C := RX9) (T := TX9) (N := 7) (ty0 := tyX9) rfl guX9 tyX9_ok nmX9 (by decide) gw488 rfl rfl rfl) nq_putf_le, List.forall_mem_cons.mpr ⟨np_S.mono (op := np_ret X.2.2.1) (np_s_ret hX dX9_init_52) (nq_ret_le hR), fun _ h => nomatch h⟩⟩⟩⟩⟩⟩⟩⟩⟩⟩⟩⟩⟩⟩⟩⟩⟩⟩⟩⟩⟩⟩⟩⟩⟩⟩⟩
abbrev sp_X9_init : np_Sp := nq_in is_X9_init none 6 308 60
theorem C_X9_init : np_C yX9_init cX9_init 1 none 1 20 6 308 sp_X9_init := nq_inC 60 (by decide) (fun X Rt hX hmn hR => so_X9_init hX hmn hR)
theorem dX10_init_0 : decode cX10_init 0 = .ok (.aload_n 0, 1) := by decide +kernel
theorem dX10_init_1 : decode cX10_init 1 = .ok (.invokespecial 3, 3) := by decide +kernel
theorem dX10_init_4 : decode cX10_init 4 = .ok (.aload_n 0, 1) := by decide +kernel
theorem dX10_init_5 : decode cX10_init 5 = .ok (.bipush 8, 2) := by decide +kernel
theorem dX10_init_7 : decode cX10_init 7 = .ok (.newarray .int, 2) := by decide +kernel
theorem dX10_init_9 : decode cX10_init 9 = .ok (.putfield 9, 3) := by decide +kernel
theorem dX10_init_12 : decode cX10_init 12 = .ok (.aload_n 0, 1) := by decide +kernel
theorem dX10_init_13 : decode cX10_init 13 = .ok (.bipush 8, 2) := by decide +kernel
theorem dX10_init_15 : decode cX10_init 15 = .ok (.newarray .int, 2) := by decide +kernel
theorem dX10_init_17 : decode cX10_init 17 = .ok (.putfield 15, 3) := by decide +kernel
theorem dX10_init_20 : decode cX10_init 20 = .ok (.aload_n 0, 1) := by decide +kernel
theorem dX10_init_21 : decode cX10_init 21 = .ok (.bipush 8, 2) := by decide +kernel
theorem dX10_init_23 : decode cX10_init 23 = .ok (.newarray .int, 2) := by decide +kernel
theorem dX10_init_25 : decode cX10_init 25 = .ok (.putfield 18, 3) := by decide +kernel
theorem dX10_init_28 : decode cX10_init 28 = .ok (.aload_n 0, 1) := by decide +kernel
theorem dX10_init_29 : decode cX10_init 29 = .ok (.getfield 9, 3) := by decide +kernel
theorem dX10_init_32 : decode cX10_init 32 = .ok (.iconst (-1), 1) := by decide +kernel
theorem dX10_init_33 : decode cX10_init 33 = .ok (.invokestatic 21, 3) := by decide +kernel
theorem dX10_init_36 : decode cX10_init 36 = .ok (.return_, 1) := by decide +kernel
def is_X10_init (Rt : np_Rt) : List (Nat × np_Op) := [(0, np_ald 1 0), (1, np_oinit), (4, np_ald 1 0), (5, np_push 2 (.int 8)), (7, nq_newa .int 8 (8, .inl fun _ => 0) 3 24), (9, nq_putf 10 0 (.array .int)), (12, np_ald 1 0), (13, np_push 2 (.int 8)), (15, nq_newa .int 8 (8, .inl fun _ => 0) 3 24), (17, nq_putf 10 1 (.array .int)), (20, np_ald 1 0), (21, np_push 2 (.int 8)), (23, nq_newa .int 8 (8, .inl fun _ => 0) 3 24), (25, nq_putf 10 2 (.array .int)), (28, np_ald 1 0), (29, nq_getf 10 0), (32, np_push 1 (.int (-1))), (33, nq_call 2 sp_X11_fillAll 3 0 0 3 24), (36, np_ret Rt)]
set_option maxRecDepth 20000 in
theorem so_X10_init {X : np_Ctx} {Rt : np_Rt} (hX : np_ok RX10 cX10_init 1 1 22 3 24 .return_ X) (hmn : np_mn X = "<init>") (hR : ∀ st w ce sl, Rt st w ce sl → X.2.2.1 st w ce sl) : ∀ q ∈ is_X10_init Rt, np_S X q.1 q.2 :=
  List.forall_mem_cons.mpr ⟨np_s_aload_n hX dX10_init_0 rfl, List.forall_mem_cons.mpr ⟨np_s_oinit hX dX10_init_1 gw354 gw157 gw158 (by decide) (by decide), List.forall_mem_cons.mpr ⟨np_s_aload_n hX dX10_init_4 rfl, List.forall_mem_cons.mpr ⟨np_s_bipush hX dX10_init_5 (by decide), List.forall_mem_cons.mpr ⟨np_S.mono (op := np_newa .int 8 (8, .inl fun _ => 0) 3 24) (np_s_newa hX dX10_init_7 rfl gw183 (by decide) (by intro C h; cases h) (by decide) (fun _ => vp_cell_i _ _ _) (by decide) (fun _ _ => rfl) (fun _ => trivial)) nq_newa_le, List.forall_mem_cons.mpr ⟨np_S.mono (op := np_putf 10 0 (.array .int)) (np_s_putF hX dX10_init_9 hmn (C := RX10) (T := TX10) (N := 3) (ty0 := tyX10) rfl guX10 tyX10_ok nmX10 (by decide) gw356 rfl rfl rfl) nq_putf_le, List.forall_mem_cons.mpr ⟨np_s_aload_n hX dX10_init_12 rfl, List.forall_mem_cons.mpr ⟨np_s_bipush hX dX10_init_13 (by decide), List.forall_mem_cons.mpr ⟨np_S.mono (op := np_newa .int 8 (8, .inl fun _ => 0) 3 24) (np_s_newa hX dX10_init_15 rfl gw183 (by decide) (by intro C h; cases h) (by decide) (fun _ => vp_cell_i _ _ _) (by decide) (fun _ _ => rfl) (fun _ => trivial)) nq_newa_le, List.forall_mem_cons.mpr ⟨np_S.mono (op := np_putf 10 1 (.array .int)) (np_s_putF hX dX10_init_17 hmn (C := RX10) (T := TX10) (N := 3) (ty0 := tyX10) rfl guX10 tyX10_ok nmX10 (by decide) gw358 rfl rfl rfl) nq_putf_le, List.forall_mem_cons.mpr ⟨np_s_aload_n hX dX10_init_20 rfl, List.forall_mem_cons.mpr ⟨np_s_bipush hX dX10_init_21 (by decide), List.forall_mem_cons.mpr ⟨np_S.mono (op := np_newa .int 8 (8, .inl fun _ => 0) 3 24) (np_s_newa hX dX10_init_23 rfl gw183 (by decide) (by intro C h; cases h) (by decide) (fun _ => vp_cell_i _ _ _) (by decide) (fun _ _ => rfl) (fun _ => trivial)) nq_newa_le, List.forall_mem_cons.mpr ⟨np_S.mono (op := np_putf 10 2 (.array .int)) (np_s_putF hX dX10_init_25 hmn (C := RX10) (T := TX10) (N := 3) (ty0 := tyX10) rfl guX10 tyX10_ok nmX10 (by decide) gw360 rfl rfl rfl) nq_putf_le, List.forall_mem_cons.mpr ⟨np_s_aload_n hX dX10_init_28 rfl, List.forall_mem_cons.mpr ⟨np_S.mono (op := np_getf 10 0) (np_s_getf hX dX10_init_29 (C := RX10) (T := TX10) (N := 3) rfl guX10 (by decide) gw356) nq_getf_le, List.forall_mem_cons.mpr ⟨np_s_iconst hX dX10_init_32 (by decide), List.forall_mem_cons.mpr ⟨np_S.mono (op := np_call 2 sp_X11_fillAll 3 0 0 3 24) (np_s_callSN hX C_X11_fillAll dX10_init_33 gw192 gw130 gw355 gw191 ⟨by decide, by decide, by decide⟩ (by decide) (by decide)) nq_call_le, List.forall_mem_cons.mpr ⟨np_S.mono (op := np_ret X.2.2.1) (np_s_ret hX dX10_init_36) (nq_ret_le hR), fun _ h => nomatch h⟩⟩⟩⟩⟩⟩⟩⟩⟩⟩⟩⟩⟩⟩⟩⟩⟩⟩⟩
abbrev sp_X10_init : np_Sp := nq_in is_X10_init none 3 24 60
theorem C_X10_init : np_C yX10_init cX10_init 1 none 1 22 3 24 sp_X10_init := nq_inC 60 (by decide) (fun X Rt hX hmn hR => so_X10_init hX hmn hR)
theorem dX6_init_0 : decode cX6_init 0 = .ok (.aload_n 0, 1) := by decide +kernel
theorem dX6_init_1 : decode cX6_init 1 = .ok (.invokespecial 3, 3) := by decide +kernel
theorem dX6_init_4 : decode cX6_init 4 = .ok (.aload_n 0, 1) := by decide +kernel
theorem dX6_init_5 : decode cX6_init 5 = .ok (.sipush 576, 3) := by decide +kernel
theorem dX6_init_8 : decode cX6_init 8 = .ok (.newarray .int, 2) := by decide +kernel
theorem dX6_init_10 : decode cX6_init 10 = .ok (.putfield 9, 3) := by decide +kernel
theorem dX6_init_13 : decode cX6_init 13 = .ok (.aload_n 0, 1) := by decide +kernel
theorem dX6_init_14 : decode cX6_init 14 = .ok (.sipush 300, 3) := by decide +kernel
theorem dX6_init_17 : decode cX6_init 17 = .ok (.newarray .int, 2) := by decide +kernel
theorem dX6_init_19 : decode cX6_init 19 = .ok (.putfield 15, 3) := by decide +kernel
theorem dX6_init_22 : decode cX6_init 22 = .ok (.aload_n 0, 1) := by decide +kernel
theorem dX6_init_23 : decode cX6_init 23 = .ok (.sipush 256, 3) := by decide +kernel
theorem dX6_init_26 : decode cX6_init 26 = .ok (.newarray .int, 2) := by decide +kernel
theorem dX6_init_28 : decode cX6_init 28 = .ok (.putfield 18, 3) := by decide +kernel
theorem dX6_init_31 : decode cX6_init 31 = .ok (.aload_n 0, 1) := by decide +kernel
theorem dX6_init_32 : decode cX6_init 32 = .ok (.sipush 256, 3) := by decide +kernel
theorem dX6_init_35 : decode cX6_init 35 = .ok (.newarray .int, 2) := by decide +kernel
theorem dX6_init_37 : decode cX6_init 37 = .ok (.putfield 21, 3) := by decide +kernel
theorem dX6_init_40 : decode cX6_init 40 = .ok (.aload_n 0, 1) := by decide +kernel
theorem dX6_init_41 : decode cX6_init 41 = .ok (.sipush 192, 3) := by decide +kernel
theorem dX6_init_44 : decode cX6_init 44 = .ok (.newarray .int, 2) := by decide +kernel
theorem dX6_init_46 : decode cX6_init 46 = .ok (.putfield 24, 3) := by decide +kernel
theorem dX6_init_49 : decode cX6_init 49 = .ok (.aload_n 0, 1) := by decide +kernel
theorem dX6_init_50 : decode cX6_init 50 = .ok (.getfield 18, 3) := by decide +kernel
theorem dX6_init_53 : decode cX6_init 53 = .ok (.iconst (-1), 1) := by decide +kernel
theorem dX6_init_54 : decode cX6_init 54 = .ok (.invokestatic 27, 3) := by decide +kernel
theorem dX6_init_57 : decode cX6_init 57 = .ok (.aload_n 0, 1) := by decide +kernel
theorem dX6_init_58 : decode cX6_init 58 = .ok (.getfield 21, 3) := by decide +kernel
theorem dX6_init_61 : decode cX6_init 61 = .ok (.iconst (-1), 1) := by decide +kernel
theorem dX6_init_62 : decode cX6_init 62 = .ok (.invokestatic 27, 3) := by decide +kernel
theorem dX6_init_65 : decode cX6_init 65 = .ok (.return_, 1) := by decide +kernel
def is_X6_init (Rt : np_Rt) : List (Nat × np_Op) := [(0, np_ald 1 0), (1, np_oinit), (4, np_ald 1 0), (5, np_push 3 (.int 576)), (8, nq_newa .int 576 (576, .inl fun _ => 0) 5 1580), (10, nq_putf 6 0 (.array .int)), (13, np_ald 1 0), (14, np_push 3 (.int 300)), (17, nq_newa .int 300 (300, .inl fun _ => 0) 5 1580), (19, nq_putf 6 1 (.array .int)), (22, np_ald 1 0), (23, np_push 3 (.int 256)), (26, nq_newa .int 256 (256, .inl fun _ => 0) 5 1580), (28, nq_putf 6 2 (.array .int)), (31, np_ald 1 0), (32, np_push 3 (.int 256)), (35, nq_newa .int 256 (256, .inl fun _ => 0) 5 1580), (37, nq_putf 6 3 (.array .int)), (40, np_ald 1 0), (41, np_push 3 (.int 192)), (44, nq_newa .int 192 (192, .inl fun _ => 0) 5 1580), (46, nq_putf 6 4 (.array .int)), (49, np_ald 1 0), (50, nq_getf 6 2), (53, np_push 1 (.int (-1))), (54, nq_call 2 sp_X11_fillAll 3 0 0 5 1580), (57, np_ald 1 0), (58, nq_getf 6 3), (61, np_push 1 (.int (-1))), (62, nq_call 2 sp_X11_fillAll 3 0 0 5 1580), (65, np_ret Rt)]
set_option maxRecDepth 20000 in
theorem so_X6_init {X : np_Ctx} {Rt : np_Rt} (hX : np_ok RX6 cX6_init 1 1 22 5 1580 .return_ X) (hmn : np_mn X = "<init>") (hR : ∀ st w ce sl, Rt st w ce sl → X.2.2.1 st w ce sl) : ∀ q ∈ is_X6_init Rt, np_S X q.1 q.2 :=
  List.forall_mem_cons.mpr ⟨np_s_aload_n hX dX6_init_0 rfl, List.forall_mem_cons.mpr ⟨np_s_oinit hX dX6_init_1 gw408 gw157 gw158 (by decide) (by decide), List.forall_mem_cons.mpr ⟨np_s_aload_n hX dX6_init_4 rfl, List.forall_mem_cons.mpr ⟨np_s_sipush hX dX6_init_5 (by decide), List.forall_mem_cons.mpr ⟨np_S.mono (op := np_newa .int 576 (576, .inl fun _ => 0) 5 1580) (np_s_newa hX dX6_init_8 rfl gw183 (by decide) (by intro C h; cases h) (by decide) (fun _ => vp_cell_i _ _ _) (by decide) (fun _ _ => rfl) (fun _ => trivial)) nq_newa_le, List.forall_mem_cons.mpr ⟨np_S.mono (op := np_putf 6 0 (.array .int)) (np_s_putF hX dX6_init_10 hmn (C := RX6) (T := TX6) (N := 12) (ty0 := tyX6) rfl guX6 tyX6_ok nmX6 (by decide) gw410 rfl rfl rfl) nq_putf_le, List.forall_mem_cons.mpr ⟨np_s_aload_n hX dX6_init_13 rfl, List.forall_mem_cons.mpr ⟨np_s_sipush hX dX6_init_14 (by decide), List.forall_mem_cons.mpr ⟨np_S.mono (op := np_newa .int 300 (300, .inl fun _ => 0) 5 1580) (np_s_newa hX dX6_init_17 rfl gw183 (by decide) (by intro C h; cases h) (by decide) (fun _ => vp_cell_i _ _ _) (by decide) (fun _ _ => rfl) (fun _ => trivial)) nq_newa_le, List.forall_mem_cons.mpr ⟨np_S.mono (op := np_putf 6 1 (.array .int)) (np_s_putF hX dX6_init_19 hmn (C := RX6) (T := TX6) (N := 12) (ty0 := tyX6) rfl guX6 tyX6_ok nmX6 (by decide) gw412 rfl rfl rfl) nq_putf_le, List.forall_mem_cons.mpr ⟨np_s_aload_n hX dX6_init_22 rfl, List.forall_mem_cons.mpr ⟨np_s_sipush hX dX6_init_23 (by decide), List.forall_mem_cons.mpr ⟨np_S.mono (op := np_newa .int 256 (256, .inl fun _ => 0) 5 1580) (np_s_newa hX dX6_init_26 rfl gw183 (by decide) (by intro C h; cases h) (by decide) (fun _ => vp_cell_i _ _ _) (by decide) (fun _ _ => rfl) (fun _ => trivial)) nq_newa_le, List.forall_mem_cons.mpr ⟨np_S.mono (op := np_putf 6 2 (.array .int)) (np_s_putF hX dX6_init_28 hmn (C := RX6) (T := TX6) (N := 12) (ty0 := tyX6) rfl guX6 tyX6_ok nmX6 (by decide) gw414 rfl rfl rfl) nq_putf_le, List.forall_mem_cons.mpr ⟨np_s_aload_n hX dX6_init_31 rfl, List.forall_mem_cons.mpr ⟨np_s_sipush hX dX6_init_32 (by decide), List.forall_mem_cons.mpr ⟨np_S.mono (op := np_newa .int 256 (256, .inl fun _ => 0) 5 1580) (np_s_newa hX dX6_init_35 rfl gw183 (by decide) (by intro C h; cases h) (by decide) (fun _ => vp_cell_i _ _ _) (by decide) (fun _ _ => rfl) (fun _ => trivial)) nq_newa_le, List.forall_mem_cons.mpr ⟨np_S.mono (op := np_putf 6 3 (.array .int)) (np_s_putF hX dX6_init_37 hmn (C := RX6) (T := TX6) (N := 12) (ty0 := tyX6) rfl guX6 tyX6_ok nmX6 (by decide) gw415 rfl rfl rfl) nq_putf_le, List.forall_mem_cons.mpr ⟨np_s_aload_n hX dX6_init_40 rfl, List.forall_mem_cons.mpr ⟨np_s_sipush hX dX6_init_41 (by decide), List.forall_mem_cons.mpr ⟨np_S.mono (op := np_newa .int 192 (192, .inl fun _ => 0) 5 1580) (np_s_newa hX dX6_init_44 rfl gw183 (by decide) (by intro C h; cases h) (by decide) (fun _ => vp_cell_i _ _ _) (by decide) (fun _ _ => rfl) (fun _ => trivial)) nq_newa_le, List.forall_mem_cons.mpr ⟨np_S.mono (op := np_putf 6 4 (.array .int)) (np_s_putF hX dX6_init_46 hmn (C := RX6) (T := TX6) (N := 12) (ty0 := tyX6) rfl guX6 tyX6_ok nmX6 (by decide) gw416 rfl rfl rfl) nq_putf_le, List.forall_mem_cons.mpr ⟨np_s_aload_n hX dX6_init_49 rfl, List.forall_mem_cons.mpr ⟨np_S.mono (op := np_getf 6 2) (np_s_getf hX dX6_init_50 (C := RX6) (T := TX6) (N := 12) rfl guX6 (by decide) gw414) nq_getf_le, List.forall_mem_cons.mpr ⟨np_s_iconst hX dX6_init_53 (by decide), List.forall_mem_cons.mpr ⟨np_S.mono (op := np_call 2 sp_X11_fillAll 3 0 0 5 1580) (np_s_callSN hX C_X11_fillAll dX6_init_54 gw192 gw130 gw409 gw191 ⟨by decide, by decide, by decide⟩ (by decide) (by decide)) nq_call_le, List.forall_mem_cons.mpr ⟨np_s_aload_n hX dX6_init_57 rfl, List.forall_mem_cons.mpr ⟨np_S.mono (op := np_getf 6 3) (np_s_getf hX dX6_init_58 (C := RX6) (T := TX6) (N := 12) rfl guX6 (by decide) gw415) nq_getf_le, List.forall_mem_cons.mpr ⟨np_s_iconst hX dX6_init_61 (by decide), List.forall_mem_cons.mpr ⟨np_S.mono (op := np_call 2 sp_X11_fillAll 3 0 0 5 1580) (np_s_callSN hX C_X11_fillAll dX6_init_62 gw192 gw130 gw409 gw191 ⟨by decide, by decide, by decide⟩ (by decide) (by decide)) nq_call_le, List.forall_mem_cons.mpr ⟨np_S.mono (op := np_ret X.2.2.1) (np_s_ret hX dX6_init_65) (nq_ret_le hR), fun _ h => nomatch h⟩⟩⟩⟩⟩⟩⟩⟩⟩⟩⟩⟩⟩⟩⟩⟩⟩⟩⟩⟩⟩⟩⟩⟩⟩⟩⟩⟩⟩⟩⟩
abbrev sp_X6_init : np_Sp := nq_in is_X6_init none 5 1580 80
theorem C_X6_init : np_C yX6_init cX6_init 1 none 1 22 5 1580 sp_X6_init := nq_inC 80 (by decide) (fun X Rt hX hmn hR => so_X6_init hX hmn hR)
theorem dX1_init_0 : decode cX1_init 0 = .ok (.aload_n 0, 1) := by decide +kernel
theorem dX1_init_1 : decode cX1_init 1 = .ok (.invokespecial 3, 3) := by decide +kernel
theorem dX1_init_4 : decode cX1_init 4 = .ok (.aload_n 0, 1) := by decide +kernel
theorem dX1_init_5 : decode cX1_init 5 = .ok (.new 9, 3) := by decide +kernel
theorem dX1_init_8 : decode cX1_init 8 = .ok (.dup, 1) := by decide +kernel
theorem dX1_init_9 : decode cX1_init 9 = .ok (.invokespecial 11, 3) := by decide +kernel
theorem dX1_init_12 : decode cX1_init 12 = .ok (.putfield 12, 3) := by decide +kernel
theorem dX1_init_15 : decode cX1_init 15 = .ok (.aload_n 0, 1) := by decide +kernel
theorem dX1_init_16 : decode cX1_init 16 = .ok (.bipush 8, 2) := by decide +kernel
theorem dX1_init_18 : decode cX1_init 18 = .ok (.newarray .int, 2) := by decide +kernel
theorem dX1_init_20 : decode cX1_init 20 = .ok (.putfield 18, 3) := by decide +kernel
theorem dX1_init_23 : decode cX1_init 23 = .ok (.aload_n 0, 1) := by decide +kernel
theorem dX1_init_24 : decode cX1_init 24 = .ok (.bipush 8, 2) := by decide +kernel
theorem dX1_init_26 : decode cX1_init 26 = .ok (.newarray .int, 2) := by decide +kernel
theorem dX1_init_28 : decode cX1_init 28 = .ok (.putfield 22, 3) := by decide +kernel
theorem dX1_init_31 : decode cX1_init 31 = .ok (.aload_n 0, 1) := by decide +kernel
theorem dX1_init_32 : decode cX1_init 32 = .ok (.bipush 8, 2) := by decide +kernel
theorem dX1_init_34 : decode cX1_init 34 = .ok (.newarray .int, 2) := by decide +kernel
theorem dX1_init_36 : decode cX1_init 36 = .ok (.putfield 25, 3) := by decide +kernel
theorem dX1_init_39 : decode cX1_init 39 = .ok (.aload_n 0, 1) := by decide +kernel
theorem dX1_init_40 : decode cX1_init 40 = .ok (.bipush 8, 2) := by decide +kernel
theorem dX1_init_42 : decode cX1_init 42 = .ok (.newarray .int, 2) := by decide +kernel
theorem dX1_init_44 : decode cX1_init 44 = .ok (.putfield 28, 3) := by decide +kernel
theorem dX1_init_47 : decode cX1_init 47 = .ok (.aload_n 0, 1) := by decide +kernel
theorem dX1_init_48 : decode cX1_init 48 = .ok (.bipush 8, 2) := by decide +kernel
theorem dX1_init_50 : decode cX1_init 50 = .ok (.newarray .int, 2) := by decide +kernel
theorem dX1_init_52 : decode cX1_init 52 = .ok (.putfield 31, 3) := by decide +kernel
theorem dX1_init_55 : decode cX1_init 55 = .ok (.return_, 1) := by decide +kernel
def is_X1_init (Rt : np_Rt) : List (Nat × np_Op) := [(0, np_ald 1 0), (1, np_oinit), (4, np_ald 1 0), (5, nq_new 2 5 [.null, .null, .null, .null, .int 0] 10 101), (8, nq_dup), (9, nq_callI 1 sp_X2_init 1 4 56 10 101), (12, nq_putf 1 0 (.object "NotationPress$Items")), (15, np_ald 1 0), (16, np_push 2 (.int 8)), (18, nq_newa .int 8 (8, .inl fun _ => 0) 10 101), (20, nq_putf 1 1 (.array .int)), (23, np_ald 1 0), (24, np_push 2 (.int 8)), (26, nq_newa .int 8 (8, .inl fun _ => 0) 10 101), (28, nq_putf 1 2 (.array .int)), (31, np_ald 1 0), (32, np_push 2 (.int 8)), (34, nq_newa .int 8 (8, .inl fun _ => 0) 10 101), (36, nq_putf 1 3 (.array .int)), (39, np_ald 1 0), (40, np_push 2 (.int 8)), (42, nq_newa .int 8 (8, .inl fun _ => 0) 10 101), (44, nq_putf 1 4 (.array .int)), (47, np_ald 1 0), (48, np_push 2 (.int 8)), (50, nq_newa .int 8 (8, .inl fun _ => 0) 10 101), (52, nq_putf 1 5 (.array .int)), (55, np_ret Rt)]
set_option maxRecDepth 20000 in
theorem so_X1_init {X : np_Ctx} {Rt : np_Rt} (hX : np_ok RX1 cX1_init 1 2 40 10 101 .return_ X) (hmn : np_mn X = "<init>") (hR : ∀ st w ce sl, Rt st w ce sl → X.2.2.1 st w ce sl) : ∀ q ∈ is_X1_init Rt, np_S X q.1 q.2 :=
  List.forall_mem_cons.mpr ⟨np_s_aload_n hX dX1_init_0 rfl, List.forall_mem_cons.mpr ⟨np_s_oinit hX dX1_init_1 gw375 gw157 gw158 (by decide) (by decide), List.forall_mem_cons.mpr ⟨np_s_aload_n hX dX1_init_4 rfl, List.forall_mem_cons.mpr ⟨np_S.mono (op := np_new 2 5 [.null, .null, .null, .null, .int 0] 10 101) (np_s_new hX dX1_init_5 (C := RX2) (T := TX2) (ty0 := tyX2) rfl guX2 tyX2_ok gw376 gw160 gw131 ndX2 nfX2) nq_new_le, List.forall_mem_cons.mpr ⟨np_S.mono (op := np_dup) (np_s_dup hX dX1_init_8) nq_dup_le, List.forall_mem_cons.mpr ⟨np_S.mono (op := np_callI 1 sp_X2_init 1 4 56 10 101) (np_s_callIN hX C_X2_init dX1_init_9 rfl gw163 gw131 gw377 gw162 ⟨by decide, by decide, by decide⟩ (by decide) (by decide)) nq_callI_le, List.forall_mem_cons.mpr ⟨np_S.mono (op := np_putf 1 0 (.object "NotationPress$Items")) (np_s_putF hX dX1_init_12 hmn (C := RX1) (T := TX1) (N := 7) (ty0 := tyX1) rfl guX1 tyX1_ok nmX1 (by decide) gw378 rfl rfl rfl) nq_putf_le, List.forall_mem_cons.mpr ⟨np_s_aload_n hX dX1_init_15 rfl, List.forall_mem_cons.mpr ⟨np_s_bipush hX dX1_init_16 (by decide), List.forall_mem_cons.mpr ⟨np_S.mono (op := np_newa .int 8 (8, .inl fun _ => 0) 10 101) (np_s_newa hX dX1_init_18 rfl gw183 (by decide) (by intro C h; cases h) (by decide) (fun _ => vp_cell_i _ _ _) (by decide) (fun _ _ => rfl) (fun _ => trivial)) nq_newa_le, List.forall_mem_cons.mpr ⟨np_S.mono (op := np_putf 1 1 (.array .int)) (np_s_putF hX dX1_init_20 hmn (C := RX1) (T := TX1) (N := 7) (ty0 := tyX1) rfl guX1 tyX1_ok nmX1 (by decide) gw381 rfl rfl rfl) nq_putf_le, List.forall_mem_cons.mpr ⟨np_s_aload_n hX dX1_init_23 rfl, List.forall_mem_cons.mpr ⟨np_s_bipush hX dX1_init_24 (by decide), List.forall_mem_cons.mpr ⟨np_S.mono (op := np_newa .int 8 (8, .inl fun _ => 0) 10 101) (np_s_newa hX dX1_init_26 rfl gw183 (by decide) (by intro C h; cases h) (by decide) (fun _ => vp_cell_i _ _ _) (by decide) (fun _ _ => rfl) (fun _ => trivial)) nq_newa_le, List.forall_mem_cons.mpr ⟨np_S.mono (op := np_putf 1 2 (.array .int)) (np_s_putF hX dX1_init_28 hmn (C := RX1) (T := TX1) (N := 7) (ty0 := tyX1) rfl guX1 tyX1_ok nmX1 (by decide) gw382 rfl rfl rfl) nq_putf_le, List.forall_mem_cons.mpr ⟨np_s_aload_n hX dX1_init_31 rfl, List.forall_mem_cons.mpr ⟨np_s_bipush hX dX1_init_32 (by decide), List.forall_mem_cons.mpr ⟨np_S.mono (op := np_newa .int 8 (8, .inl fun _ => 0) 10 101) (np_s_newa hX dX1_init_34 rfl gw183 (by decide) (by intro C h; cases h) (by decide) (fun _ => vp_cell_i _ _ _) (by decide) (fun _ _ => rfl) (fun _ => trivial)) nq_newa_le, List.forall_mem_cons.mpr ⟨np_S.mono (op := np_putf 1 3 (.array .int)) (np_s_putF hX dX1_init_36 hmn (C := RX1) (T := TX1) (N := 7) (ty0 := tyX1) rfl guX1 tyX1_ok nmX1 (by decide) gw383 rfl rfl rfl) nq_putf_le, List.forall_mem_cons.mpr ⟨np_s_aload_n hX dX1_init_39 rfl, List.forall_mem_cons.mpr ⟨np_s_bipush hX dX1_init_40 (by decide), List.forall_mem_cons.mpr ⟨np_S.mono (op := np_newa .int 8 (8, .inl fun _ => 0) 10 101) (np_s_newa hX dX1_init_42 rfl gw183 (by decide) (by intro C h; cases h) (by decide) (fun _ => vp_cell_i _ _ _) (by decide) (fun _ _ => rfl) (fun _ => trivial)) nq_newa_le, List.forall_mem_cons.mpr ⟨np_S.mono (op := np_putf 1 4 (.array .int)) (np_s_putF hX dX1_init_44 hmn (C := RX1) (T := TX1) (N := 7) (ty0 := tyX1) rfl guX1 tyX1_ok nmX1 (by decide) gw384 rfl rfl rfl) nq_putf_le, List.forall_mem_cons.mpr ⟨np_s_aload_n hX dX1_init_47 rfl, List.forall_mem_cons.mpr ⟨np_s_bipush hX dX1_init_48 (by decide), List.forall_mem_cons.mpr ⟨np_S.mono (op := np_newa .int 8 (8, .inl fun _ => 0) 10 101) (np_s_newa hX dX1_init_50 rfl gw183 (by decide) (by intro C h; cases h) (by decide) (fun _ => vp_cell_i _ _ _) (by decide) (fun _ _ => rfl) (fun _ => trivial)) nq_newa_le, List.forall_mem_cons.mpr ⟨np_S.mono (op := np_putf 1 5 (.array .int)) (np_s_putF hX dX1_init_52 hmn (C := RX1) (T := TX1) (N := 7) (ty0 := tyX1) rfl guX1 tyX1_ok nmX1 (by decide) gw385 rfl rfl rfl) nq_putf_le, List.forall_mem_cons.mpr ⟨np_S.mono (op := np_ret X.2.2.1) (np_s_ret hX dX1_init_55) (nq_ret_le hR), fun _ h => nomatch h⟩⟩⟩⟩⟩⟩⟩⟩⟩⟩⟩⟩⟩⟩⟩⟩⟩⟩⟩⟩⟩⟩⟩⟩⟩⟩⟩⟩
abbrev sp_X1_init : np_Sp := nq_in is_X1_init none 10 101 80
theorem C_X1_init : np_C yX1_init cX1_init 1 none 2 40 10 101 sp_X1_init := nq_inC 80 (by decide) (fun X Rt hX hmn hR => so_X1_init hX hmn hR)
theorem dX3_init_0 : decode cX3_init 0 = .ok (.aload_n 0, 1) := by decide +kernel
theorem dX3_init_1 : decode cX3_init 1 = .ok (.invokespecial 3, 3) := by decide +kernel
theorem dX3_init_4 : decode cX3_init 4 = .ok (.aload_n 0, 1) := by decide +kernel
theorem dX3_init_5 : decode cX3_init 5 = .ok (.bipush 60, 2) := by decide +kernel
theorem dX3_init_7 : decode cX3_init 7 = .ok (.newarray .int, 2) := by decide +kernel
theorem dX3_init_9 : decode cX3_init 9 = .ok (.putfield 9, 3) := by decide +kernel
theorem dX3_init_12 : decode cX3_init 12 = .ok (.aload_n 0, 1) := by decide +kernel
theorem dX3_init_13 : decode cX3_init 13 = .ok (.bipush 8, 2) := by decide +kernel
theorem dX3_init_15 : decode cX3_init 15 = .ok (.newarray .int, 2) := by decide +kernel
theorem dX3_init_17 : decode cX3_init 17 = .ok (.putfield 15, 3) := by decide +kernel
theorem dX3_init_20 : decode cX3_init 20 = .ok (.aload_n 0, 1) := by decide +kernel
theorem dX3_init_21 : decode cX3_init 21 = .ok (.new 18, 3) := by decide +kernel
theorem dX3_init_24 : decode cX3_init 24 = .ok (.dup, 1) := by decide +kernel
theorem dX3_init_25 : decode cX3_init 25 = .ok (.invokespecial 20, 3) := by decide +kernel
theorem dX3_init_28 : decode cX3_init 28 = .ok (.putfield 21, 3) := by decide +kernel
theorem dX3_init_31 : decode cX3_init 31 = .ok (.return_, 1) := by decide +kernel
def is_X3_init (Rt : np_Rt) : List (Nat × np_Op) := [(0, np_ald 1 0), (1, np_oinit), (4, np_ald 1 0), (5, np_push 2 (.int 60)), (7, np_newa .int 60 (60, .inl fun _ => 0) 5 109), (9, np_putf 3 0 (.array .int)), (12, np_ald 1 0), (13, np_push 2 (.int 8)), (15, np_newa .int 8 (8, .inl fun _ => 0) 5 109), (17, np_putf 3 1 (.array .int)), (20, np_ald 1 0), (21, np_new 8 9 [.null, .null, .int 0, .int 0, .int 0, .int 0, .int 0, .int 0, .int 0] 5 109), (24, np_dup), (25, np_callI 1 sp_X8_init 1 2 32 5 109), (28, np_putf 3 2 (.object "NotationPress$Trace")), (31, np_ret Rt)]
set_option maxRecDepth 20000 in
theorem so_X3_init {X : np_Ctx} (hX : np_ok RX3 cX3_init 1 3 62 5 109 .return_ X) (hmn : np_mn X = "<init>") : ∀ q ∈ is_X3_init X.2.2.1, np_S X q.1 q.2 :=
  List.forall_mem_cons.mpr ⟨np_s_aload_n hX dX3_init_0 rfl, List.forall_mem_cons.mpr ⟨np_s_oinit hX dX3_init_1 gw202 gw157 gw158 (by decide) (by decide), List.forall_mem_cons.mpr ⟨np_s_aload_n hX dX3_init_4 rfl, List.forall_mem_cons.mpr ⟨np_s_bipush hX dX3_init_5 (by decide), List.forall_mem_cons.mpr ⟨np_s_newa hX dX3_init_7 rfl gw183 (by decide) (by intro C h; cases h) (by decide) (fun _ => vp_cell_i _ _ _) (by decide) (fun _ _ => rfl) (fun _ => trivial), List.forall_mem_cons.mpr ⟨np_s_putF hX dX3_init_9 hmn (C := RX3) (T := TX3) (N := 3) (ty0 := tyX3) rfl guX3 tyX3_ok nmX3 (by decide) gw247 rfl rfl rfl, List.forall_mem_cons.mpr ⟨np_s_aload_n hX dX3_init_12 rfl, List.forall_mem_cons.mpr ⟨np_s_bipush hX dX3_init_13 (by decide), List.forall_mem_cons.mpr ⟨np_s_newa hX dX3_init_15 rfl gw183 (by decide) (by intro C h; cases h) (by decide) (fun _ => vp_cell_i _ _ _) (by decide) (fun _ _ => rfl) (fun _ => trivial), List.forall_mem_cons.mpr ⟨np_s_putF hX dX3_init_17 hmn (C := RX3) (T := TX3) (N := 3) (ty0 := tyX3) rfl guX3 tyX3_ok nmX3 (by decide) gw248 rfl rfl rfl, List.forall_mem_cons.mpr ⟨np_s_aload_n hX dX3_init_20 rfl, List.forall_mem_cons.mpr ⟨np_s_new hX dX3_init_21 (C := RX8) (T := TX8) (ty0 := tyX8) rfl guX8 tyX8_ok gw203 gw204 gw133 ndX8 nfX8, List.forall_mem_cons.mpr ⟨np_s_dup hX dX3_init_24, List.forall_mem_cons.mpr ⟨np_s_callIN hX C_X8_init dX3_init_25 rfl gw207 gw133 gw205 gw206 ⟨by decide, by decide, by decide⟩ (by decide) (by decide), List.forall_mem_cons.mpr ⟨np_s_putF hX dX3_init_28 hmn (C := RX3) (T := TX3) (N := 3) (ty0 := tyX3) rfl guX3 tyX3_ok nmX3 (by decide) gw249 rfl rfl rfl, List.forall_mem_cons.mpr ⟨np_s_ret hX dX3_init_31, fun _ h => nomatch h⟩⟩⟩⟩⟩⟩⟩⟩⟩⟩⟩⟩⟩⟩⟩⟩
abbrev np_bX3_init : np_E := .inr (3, [.null, .null, .null])
set_option maxRecDepth 20000 in
theorem run_X3_init {X : np_Ctx} (hX : np_ok RX3 cX3_init 1 3 62 5 109 .return_ X) (hmn : np_mn X = "<init>") (hRt : X.2.2.1 = (fun st _ ce sl => ce ≤ 5 ∧ sl ≤ 109 ∧ st = [])) : np_G X 0 [(0, .ref 0)] [] (1, np_wl [(0, np_bX3_init)]) 0 0 := by
  refine np_finF (so_X3_init hX hmn) 60 ?_
  rw [hRt]
  repeat' ((conv => whnf); first | apply And.intro | (intro cc; first | exact absurd cc (by decide) | skip))
  all_goals (first | exact rfl | exact Nat.le_of_ble_eq_true rfl | exact True.intro)
set_option maxRecDepth 20000 in
theorem C_X3_init : np_C yX3_init cX3_init 1 none 3 62 5 109 (np_spF np_bX3_init) := by
  refine np_ofFrame (by decide) (fun _ _ _ => rfl) (fun n v hv => by
    simp only [List.mem_cons, List.not_mem_nil, or_false] at hv
    rcases hv with rfl | rfl | rfl <;> trivial) (by decide) ?_
  intro X hX hmn hRt
  exact run_X3_init hX hmn hRt
theorem dX4_init_0 : decode cX4_init 0 = .ok (.aload_n 0, 1) := by decide +kernel
theorem dX4_init_1 : decode cX4_init 1 = .ok (.invokespecial 3, 3) := by decide +kernel
theorem dX4_init_4 : decode cX4_init 4 = .ok (.aload_n 0, 1) := by decide +kernel
theorem dX4_init_5 : decode cX4_init 5 = .ok (.sipush 407, 3) := by decide +kernel
theorem dX4_init_8 : decode cX4_init 8 = .ok (.anewarray 9, 3) := by decide +kernel
theorem dX4_init_11 : decode cX4_init 11 = .ok (.putfield 11, 3) := by decide +kernel
theorem dX4_init_14 : decode cX4_init 14 = .ok (.aload_n 0, 1) := by decide +kernel
theorem dX4_init_15 : decode cX4_init 15 = .ok (.new 9, 3) := by decide +kernel
theorem dX4_init_18 : decode cX4_init 18 = .ok (.dup, 1) := by decide +kernel
theorem dX4_init_19 : decode cX4_init 19 = .ok (.invokespecial 17, 3) := by decide +kernel
theorem dX4_init_22 : decode cX4_init 22 = .ok (.putfield 18, 3) := by decide +kernel
theorem dX4_init_25 : decode cX4_init 25 = .ok (.aload_n 0, 1) := by decide +kernel
theorem dX4_init_26 : decode cX4_init 26 = .ok (.bipush 8, 2) := by decide +kernel
theorem dX4_init_28 : decode cX4_init 28 = .ok (.newarray .int, 2) := by decide +kernel
theorem dX4_init_30 : decode cX4_init 30 = .ok (.putfield 22, 3) := by decide +kernel
theorem dX4_init_33 : decode cX4_init 33 = .ok (.aload_n 0, 1) := by decide +kernel
theorem dX4_init_34 : decode cX4_init 34 = .ok (.bipush 6, 2) := by decide +kernel
theorem dX4_init_36 : decode cX4_init 36 = .ok (.newarray .int, 2) := by decide +kernel
theorem dX4_init_38 : decode cX4_init 38 = .ok (.putfield 26, 3) := by decide +kernel
theorem dX4_init_41 : decode cX4_init 41 = .ok (.aload_n 0, 1) := by decide +kernel
theorem dX4_init_42 : decode cX4_init 42 = .ok (.bipush 6, 2) := by decide +kernel
theorem dX4_init_44 : decode cX4_init 44 = .ok (.newarray .int, 2) := by decide +kernel
theorem dX4_init_46 : decode cX4_init 46 = .ok (.putfield 29, 3) := by decide +kernel
theorem dX4_init_49 : decode cX4_init 49 = .ok (.aload_n 0, 1) := by decide +kernel
theorem dX4_init_50 : decode cX4_init 50 = .ok (.new 32, 3) := by decide +kernel
theorem dX4_init_53 : decode cX4_init 53 = .ok (.dup, 1) := by decide +kernel
theorem dX4_init_54 : decode cX4_init 54 = .ok (.invokespecial 34, 3) := by decide +kernel
theorem dX4_init_57 : decode cX4_init 57 = .ok (.putfield 35, 3) := by decide +kernel
theorem dX4_init_60 : decode cX4_init 60 = .ok (.aload_n 0, 1) := by decide +kernel
theorem dX4_init_61 : decode cX4_init 61 = .ok (.new 39, 3) := by decide +kernel
theorem dX4_init_64 : decode cX4_init 64 = .ok (.dup, 1) := by decide +kernel
theorem dX4_init_65 : decode cX4_init 65 = .ok (.invokespecial 41, 3) := by decide +kernel
theorem dX4_init_68 : decode cX4_init 68 = .ok (.putfield 42, 3) := by decide +kernel
theorem dX4_init_71 : decode cX4_init 71 = .ok (.iconst 0, 1) := by decide +kernel
theorem dX4_init_72 : decode cX4_init 72 = .ok (.istore_n 1, 1) := by decide +kernel
theorem dX4_init_73 : decode cX4_init 73 = .ok (.iload_n 1, 1) := by decide +kernel
theorem dX4_init_74 : decode cX4_init 74 = .ok (.aload_n 0, 1) := by decide +kernel
theorem dX4_init_75 : decode cX4_init 75 = .ok (.getfield 11, 3) := by decide +kernel
theorem dX4_init_78 : decode cX4_init 78 = .ok (.arraylength, 1) := by decide +kernel
theorem dX4_init_79 : decode cX4_init 79 = .ok (.if_icmp .ge 22, 3) := by decide +kernel
theorem dX4_init_82 : decode cX4_init 82 = .ok (.aload_n 0, 1) := by decide +kernel
theorem dX4_init_83 : decode cX4_init 83 = .ok (.getfield 11, 3) := by decide +kernel
theorem dX4_init_86 : decode cX4_init 86 = .ok (.iload_n 1, 1) := by decide +kernel
theorem dX4_init_87 : decode cX4_init 87 = .ok (.new 9, 3) := by decide +kernel
theorem dX4_init_90 : decode cX4_init 90 = .ok (.dup, 1) := by decide +kernel
theorem dX4_init_91 : decode cX4_init 91 = .ok (.invokespecial 17, 3) := by decide +kernel
theorem dX4_init_94 : decode cX4_init 94 = .ok (.aastore, 1) := by decide +kernel
theorem dX4_init_95 : decode cX4_init 95 = .ok (.iinc 1 1, 3) := by decide +kernel
theorem dX4_init_98 : decode cX4_init 98 = .ok (.goto (-25), 3) := by decide +kernel
theorem dX4_init_101 : decode cX4_init 101 = .ok (.return_, 1) := by decide +kernel
def is_X4_init (Rt : np_Rt) : List (Nat × np_Op) := [(0, np_ald 1 0), (1, np_oinit), (4, np_ald 1 0), (5, np_push 3 (.int 407)), (8, np_anew "NotationPress$Trace" 407 1235 17519), (11, np_putf 4 0 (.array (.object "NotationPress$Trace"))), (14, np_ald 1 0), (15, np_new 8 9 [.null, .null, .int 0, .int 0, .int 0, .int 0, .int 0, .int 0, .int 0] 1235 17519), (18, np_dup), (19, np_callI 1 sp_X8_init 1 2 32 1235 17519), (22, np_putf 4 1 (.object "NotationPress$Trace")), (25, np_ald 1 0), (26, np_push 2 (.int 8)), (28, np_newa .int 8 (8, .inl fun _ => 0) 1235 17519), (30, np_putf 4 2 (.array .int)), (33, np_ald 1 0), (34, np_push 2 (.int 6)), (36, np_newa .int 6 (6, .inl fun _ => 0) 1235 17519), (38, np_putf 4 3 (.array .int)), (41, np_ald 1 0), (42, np_push 2 (.int 6)), (44, np_newa .int 6 (6, .inl fun _ => 0) 1235 17519), (46, np_putf 4 4 (.array .int)), (49, np_ald 1 0), (50, np_new 2 5 [.null, .null, .null, .null, .int 0] 1235 17519), (53, np_dup), (54, np_callI 1 sp_X2_init 1 4 56 1235 17519), (57, np_putf 4 5 (.object "NotationPress$Items")), (60, np_ald 1 0), (61, np_new 7 3 [.null, .int 0, .int 0] 1235 17519), (64, np_dup), (65, np_callI 1 sp_X7_init 1 1 300 1235 17519), (68, np_putf 4 6 (.object "NotationPress$Text")), (71, np_push 1 (.int 0)), (72, np_ist 1 1), (73, np_ild 1 1), (74, np_ald 1 0), (75, np_getf 4 0), (78, np_alen), (79, np_ic (fun x y => y ≤ x) 101), (82, np_ald 1 0), (83, np_getf 4 0), (86, np_ild 1 1), (87, np_new 8 9 [.null, .null, .int 0, .int 0, .int 0, .int 0, .int 0, .int 0, .int 0] 1235 17519), (90, np_dup), (91, np_callI 1 sp_X8_init 1 2 32 1235 17519), (94, np_aast 8 RX8), (95, np_iinc 1 1), (98, np_goto 73), (101, np_ret Rt)]
set_option maxRecDepth 20000 in
theorem so_X4_init {X : np_Ctx} (hX : np_ok RX4 cX4_init 2 3 62 1235 17519 .return_ X) (hmn : np_mn X = "<init>") : ∀ q ∈ is_X4_init X.2.2.1, np_S X q.1 q.2 :=
  List.forall_mem_cons.mpr ⟨np_s_aload_n hX dX4_init_0 rfl, List.forall_mem_cons.mpr ⟨np_s_oinit hX dX4_init_1 gw262 gw157 gw158 (by decide) (by decide), List.forall_mem_cons.mpr ⟨np_s_aload_n hX dX4_init_4 rfl, List.forall_mem_cons.mpr ⟨np_s_sipush hX dX4_init_5 (by decide), List.forall_mem_cons.mpr ⟨np_s_anew hX dX4_init_8 gw263 (by decide) (by decide) (by decide), List.forall_mem_cons.mpr ⟨np_s_putF hX dX4_init_11 hmn (C := RX4) (T := TX4) (N := 11) (ty0 := tyX4) rfl guX4 tyX4_ok nmX4 (by decide) gw287 rfl rfl rfl, List.forall_mem_cons.mpr ⟨np_s_aload_n hX dX4_init_14 rfl, List.forall_mem_cons.mpr ⟨np_s_new hX dX4_init_15 (C := RX8) (T := TX8) (ty0 := tyX8) rfl guX8 tyX8_ok gw263 gw204 gw133 ndX8 nfX8, List.forall_mem_cons.mpr ⟨np_s_dup hX dX4_init_18, List.forall_mem_cons.mpr ⟨np_s_callIN hX C_X8_init dX4_init_19 rfl gw207 gw133 gw265 gw206 ⟨by decide, by decide, by decide⟩ (by decide) (by decide), List.forall_mem_cons.mpr ⟨np_s_putF hX dX4_init_22 hmn (C := RX4) (T := TX4) (N := 11) (ty0 := tyX4) rfl guX4 tyX4_ok nmX4 (by decide) gw288 rfl rfl rfl, List.forall_mem_cons.mpr ⟨np_s_aload_n hX dX4_init_25 rfl, List.forall_mem_cons.mpr ⟨np_s_bipush hX dX4_init_26 (by decide), List.forall_mem_cons.mpr ⟨np_s_newa hX dX4_init_28 rfl gw183 (by decide) (by intro C h; cases h) (by decide) (fun _ => vp_cell_i _ _ _) (by decide) (fun _ _ => rfl) (fun _ => trivial), List.forall_mem_cons.mpr ⟨np_s_putF hX dX4_init_30 hmn (C := RX4) (T := TX4) (N := 11) (ty0 := tyX4) rfl guX4 tyX4_ok nmX4 (by decide) gw290 rfl rfl rfl, List.forall_mem_cons.mpr ⟨np_s_aload_n hX dX4_init_33 rfl, List.forall_mem_cons.mpr ⟨np_s_bipush hX dX4_init_34 (by decide), List.forall_mem_cons.mpr ⟨np_s_newa hX dX4_init_36 rfl gw183 (by decide) (by intro C h; cases h) (by decide) (fun _ => vp_cell_i _ _ _) (by decide) (fun _ _ => rfl) (fun _ => trivial), List.forall_mem_cons.mpr ⟨np_s_putF hX dX4_init_38 hmn (C := RX4) (T := TX4) (N := 11) (ty0 := tyX4) rfl guX4 tyX4_ok nmX4 (by decide) gw291 rfl rfl rfl, List.forall_mem_cons.mpr ⟨np_s_aload_n hX dX4_init_41 rfl, List.forall_mem_cons.mpr ⟨np_s_bipush hX dX4_init_42 (by decide), List.forall_mem_cons.mpr ⟨np_s_newa hX dX4_init_44 rfl gw183 (by decide) (by intro C h; cases h) (by decide) (fun _ => vp_cell_i _ _ _) (by decide) (fun _ _ => rfl) (fun _ => trivial), List.forall_mem_cons.mpr ⟨np_s_putF hX dX4_init_46 hmn (C := RX4) (T := TX4) (N := 11) (ty0 := tyX4) rfl guX4 tyX4_ok nmX4 (by decide) gw292 rfl rfl rfl, List.forall_mem_cons.mpr ⟨np_s_aload_n hX dX4_init_49 rfl, List.forall_mem_cons.mpr ⟨np_s_new hX dX4_init_50 (C := RX2) (T := TX2) (ty0 := tyX2) rfl guX2 tyX2_ok gw266 gw160 gw131 ndX2 nfX2, List.forall_mem_cons.mpr ⟨np_s_dup hX dX4_init_53, List.forall_mem_cons.mpr ⟨np_s_callIN hX C_X2_init dX4_init_54 rfl gw163 gw131 gw267 gw162 ⟨by decide, by decide, by decide⟩ (by decide) (by decide), List.forall_mem_cons.mpr ⟨np_s_putf hX dX4_init_57 (C := RX4) (T := TX4) (N := 11) (ty0 := tyX4) rfl guX4 tyX4_ok nmX4 (by decide) gw293 rfl rfl, List.forall_mem_cons.mpr ⟨np_s_aload_n hX dX4_init_60 rfl, List.forall_mem_cons.mpr ⟨np_s_new hX dX4_init_61 (C := RX7) (T := TX7) (ty0 := tyX7) rfl guX7 tyX7_ok gw268 gw269 gw135 ndX7 nfX7, List.forall_mem_cons.mpr ⟨np_s_dup hX dX4_init_64, List.forall_mem_cons.mpr ⟨np_s_callIN hX C_X7_init dX4_init_65 rfl gw272 gw135 gw270 gw271 ⟨by decide, by decide, by decide⟩ (by decide) (by decide), List.forall_mem_cons.mpr ⟨np_s_putf hX dX4_init_68 (C := RX4) (T := TX4) (N := 11) (ty0 := tyX4) rfl guX4 tyX4_ok nmX4 (by decide) gw294 rfl rfl, List.forall_mem_cons.mpr ⟨np_s_iconst hX dX4_init_71 (by decide), List.forall_mem_cons.mpr ⟨np_s_istore_n hX dX4_init_72 rfl (by decide), List.forall_mem_cons.mpr ⟨np_s_iload_n hX dX4_init_73 rfl, List.forall_mem_cons.mpr ⟨np_s_aload_n hX dX4_init_74 rfl, List.forall_mem_cons.mpr ⟨np_s_getf hX dX4_init_75 (C := RX4) (T := TX4) (N := 11) rfl guX4 (by decide) gw287, List.forall_mem_cons.mpr ⟨np_s_alen hX dX4_init_78, List.forall_mem_cons.mpr ⟨np_s_icmp_ge hX dX4_init_79 (by decide), List.forall_mem_cons.mpr ⟨np_s_aload_n hX dX4_init_82 rfl, List.forall_mem_cons.mpr ⟨np_s_getf hX dX4_init_83 (C := RX4) (T := TX4) (N := 11) rfl guX4 (by decide) gw287, List.forall_mem_cons.mpr ⟨np_s_iload_n hX dX4_init_86 rfl, List.forall_mem_cons.mpr ⟨np_s_new hX dX4_init_87 (C := RX8) (T := TX8) (ty0 := tyX8) rfl guX8 tyX8_ok gw263 gw204 gw133 ndX8 nfX8, List.forall_mem_cons.mpr ⟨np_s_dup hX dX4_init_90, List.forall_mem_cons.mpr ⟨np_s_callIN hX C_X8_init dX4_init_91 rfl gw207 gw133 gw265 gw206 ⟨by decide, by decide, by decide⟩ (by decide) (by decide), List.forall_mem_cons.mpr ⟨np_s_aast hX (r0 := (RX8, TX8, 9)) rfl dX4_init_94, List.forall_mem_cons.mpr ⟨np_s_iinc hX dX4_init_95 (by decide), List.forall_mem_cons.mpr ⟨np_s_goto hX dX4_init_98 (by decide), List.forall_mem_cons.mpr ⟨np_s_ret hX dX4_init_101, fun _ h => nomatch h⟩⟩⟩⟩⟩⟩⟩⟩⟩⟩⟩⟩⟩⟩⟩⟩⟩⟩⟩⟩⟩⟩⟩⟩⟩⟩⟩⟩⟩⟩⟩⟩⟩⟩⟩⟩⟩⟩⟩⟩⟩⟩⟩⟩⟩⟩⟩⟩⟩⟩
abbrev np_bX4_init : np_E := .inr (4, [.null, .null, .null, .null, .null, .null, .null, .int 0, .int 0, .int 0, .int 0])
set_option maxRecDepth 20000 in

theorem loop_X4_init {X : np_Ctx} (hX : np_ok RX4 cX4_init 2 3 62 1235 17519 .return_ X) (hmn : np_mn X = "<init>") (hRt : X.2.2.1 = (fun st _ ce sl => ce ≤ 1235 ∧ sl ≤ 17519 ∧ st = [])) :
    ∀ (d i N : Nat) (u : Nat → Option np_E) (F : Nat → Option Nat) (fs : List Value), i + d = 407 → 2 ≤ N → u 0 = some (.inr (4, fs)) → fs[0]? = some (.ref 1) → u 1 = some (.inl (.object "NotationPress$Trace", 407, .inr (.inr (.inr (.inr F))))) → np_G X 73 [(1, .int (nI i)), (0, .ref 0)] [] (N, u) (14 + 3 * i) (832 + 41 * i) := by
  intro d
  induction d with
  | zero =>
    intro i N u F fs hi hN h0 hf h1
    refine np_fin (so_X4_init hX hmn) 30 ?_
    rw [hRt]
    conv => whnf
    simp only [h0, hf]
    refine ⟨trivial, ?_⟩
    conv => whnf
    simp only [h1]
    refine And.intro (fun cc => ?_) (fun cc => absurd (show Int32.ofNat 407 ≤ nI i from nI_le (by omega) (by omega)) cc)
    refine ⟨?_, ?_, rfl⟩
    · show 14 + 3 * i ≤ _; omega
    · show 832 + 41 * i ≤ _; omega
  | succ d ih =>
    intro i N u F fs hi hN h0 hf h1
    have hin : vp_in (nI i) 407 := vp_in_nI (by omega) (by omega)
    have n0 : (0 : Nat) ≠ N := by omega
    have n1 : (1 : Nat) ≠ N := by omega
    refine np_sound (so_X4_init hX hmn) (heads := [73]) (Hd := fun pc L st w' ce sl => pc = 73 ∧ L = [(1, .int (nI i + 1)), (0, .ref 0)] ∧ st = [] ∧ ce = 14 + 3 * i + 1 + 2 ∧ sl = 832 + 41 * i + 9 + 32 ∧ w'.1 = N + 1 + 2 ∧ w'.2 0 = some (.inr (4, fs)) ∧ ∃ F', w'.2 1 = some (.inl (.object "NotationPress$Trace", 407, .inr (.inr (.inr (.inr F')))))) (fun pc L st w' ce sl h => ?_) 40 73 _ _ _ _ _ ?_
    · obtain ⟨n, u'⟩ := w'
      obtain ⟨rfl, rfl, rfl, rfl, rfl, g1, g2, F', g3⟩ := h
      have g1 : n = N + 1 + 2 := g1
      subst g1
      rw [nI_1]
      have e1 : 14 + 3 * i + 1 + 2 = 14 + 3 * (i + 1) := by omega
      have e2 : 832 + 41 * i + 9 + 32 = 832 + 41 * (i + 1) := by omega
      rw [e1, e2]
      exact ih (i + 1) _ u' F' fs (by omega) (by omega) g2 hf g3
    · conv => whnf
      simp only [h0, hf]
      refine ⟨trivial, ?_⟩
      conv => whnf
      simp only [h1]
      refine And.intro (fun cc => absurd cc (nI_ge (by omega) (by omega))) (fun cc => ?_)
      conv => whnf
      simp only [h0, hf]
      refine ⟨trivial, ?_⟩
      refine ⟨?_, ?_, ?_⟩
      · show 14 + 3 * i + 1 ≤ _; omega
      · show 832 + 41 * i + 9 ≤ _; omega
      rw [np_force_eq]
      refine ⟨rfl, trivial, Nat.le_of_ble_eq_true rfl, Nat.le_of_ble_eq_true rfl, Nat.le_of_ble_eq_true rfl, ?_, ?_, np_up_s _ _ _, Nat.lt_succ_self _, ?_⟩
      · show 14 + 3 * i + 1 + 2 ≤ _; omega
      · show 832 + 41 * i + 9 + 32 ≤ _; omega
      rw [np_force_eq]
      conv => whnf
      simp only [np_up_n _ _ n1, np_up_s, h1]
      refine ⟨rfl, trivial, hin, ?_⟩
      refine ⟨?_, ?_, ?_, ?_, ?_, ?_, ?_, ?_⟩
      · first | rfl | trivial
      · first | rfl | trivial
      · first | rfl | trivial
      · first | rfl | trivial
      · first | rfl | trivial
      · first | rfl | trivial
      · dsimp only
        rw [np_up_n _ _ (by decide), np_up_n _ _ n0, np_up_n _ _ n0]
        exact h0
      · refine ⟨va_up F (nI i).toNatClampNeg (some N), ?_⟩
        dsimp only
        rw [np_up_s]
        rfl
set_option maxRecDepth 20000 in

set_option maxHeartbeats 8000000 in
theorem run_X4_init {X : np_Ctx} (hX : np_ok RX4 cX4_init 2 3 62 1235 17519 .return_ X) (hmn : np_mn X = "<init>") (hRt : X.2.2.1 = (fun st _ ce sl => ce ≤ 1235 ∧ sl ≤ 17519 ∧ st = [])) : np_G X 0 [(0, .ref 0)] [] (1, np_wl [(0, np_bX4_init)]) 0 0 := by
  refine np_soundF (so_X4_init hX hmn) (heads := [73]) (Hd := fun pc L st w' ce sl => pc = 73 ∧ L = [(1, .int 0), (0, .ref 0)] ∧ st = [] ∧ ce = 14 ∧ sl = 832 ∧ w'.1 = 15 ∧ (∃ fs, w'.2 0 = some (.inr (4, fs)) ∧ fs[0]? = some (.ref 1)) ∧ ∃ F', w'.2 1 = some (.inl (.object "NotationPress$Trace", 407, .inr (.inr (.inr (.inr F')))))) (fun pc L st w' ce sl h => ?_) 80 0 _ _ _ _ _ ?_
  · obtain ⟨n, u'⟩ := w'
    obtain ⟨rfl, rfl, rfl, rfl, rfl, g1, ⟨fs, g2, g4⟩, F', g3⟩ := h
    have g1 : n = 15 := g1
    subst g1
    exact loop_X4_init hX hmn hRt 407 0 _ u' F' fs rfl (by decide) g2 g4 g3
  · repeat' ((conv => whnf); first | apply And.intro | (intro cc; first | exact absurd cc (by decide) | skip))
    all_goals (first | exact rfl | exact Nat.le_of_ble_eq_true rfl | exact True.intro | exact ⟨_, rfl, rfl⟩ | exact ⟨_, rfl⟩)

set_option maxRecDepth 20000 in
theorem C_X4_init : np_C yX4_init cX4_init 2 none 3 62 1235 17519 (np_spF np_bX4_init) := by
  refine np_ofFrame (by decide) (fun _ _ _ => rfl) (fun n v hv => by
    simp only [List.mem_cons, List.not_mem_nil, or_false] at hv
    rcases hv with rfl | rfl | rfl | rfl | rfl | rfl | rfl | rfl | rfl | rfl | rfl <;> trivial) (by decide) ?_
  intro X hX hmn hRt
  exact run_X4_init hX hmn hRt
theorem dX5_init_0 : decode cX5_init 0 = .ok (.aload_n 0, 1) := by decide +kernel
theorem dX5_init_1 : decode cX5_init 1 = .ok (.invokespecial 3, 3) := by decide +kernel
theorem dX5_init_4 : decode cX5_init 4 = .ok (.aload_n 0, 1) := by decide +kernel
theorem dX5_init_5 : decode cX5_init 5 = .ok (.bipush 26, 2) := by decide +kernel
theorem dX5_init_7 : decode cX5_init 7 = .ok (.anewarray 9, 3) := by decide +kernel
theorem dX5_init_10 : decode cX5_init 10 = .ok (.putfield 11, 3) := by decide +kernel
theorem dX5_init_13 : decode cX5_init 13 = .ok (.aload_n 0, 1) := by decide +kernel
theorem dX5_init_14 : decode cX5_init 14 = .ok (.bipush 26, 2) := by decide +kernel
theorem dX5_init_16 : decode cX5_init 16 = .ok (.newarray .int, 2) := by decide +kernel
theorem dX5_init_18 : decode cX5_init 18 = .ok (.putfield 17, 3) := by decide +kernel
theorem dX5_init_21 : decode cX5_init 21 = .ok (.aload_n 0, 1) := by decide +kernel
theorem dX5_init_22 : decode cX5_init 22 = .ok (.bipush 26, 2) := by decide +kernel
theorem dX5_init_24 : decode cX5_init 24 = .ok (.newarray .int, 2) := by decide +kernel
theorem dX5_init_26 : decode cX5_init 26 = .ok (.putfield 21, 3) := by decide +kernel
theorem dX5_init_29 : decode cX5_init 29 = .ok (.iconst 0, 1) := by decide +kernel
theorem dX5_init_30 : decode cX5_init 30 = .ok (.istore_n 1, 1) := by decide +kernel
theorem dX5_init_31 : decode cX5_init 31 = .ok (.iload_n 1, 1) := by decide +kernel
theorem dX5_init_32 : decode cX5_init 32 = .ok (.aload_n 0, 1) := by decide +kernel
theorem dX5_init_33 : decode cX5_init 33 = .ok (.getfield 11, 3) := by decide +kernel
theorem dX5_init_36 : decode cX5_init 36 = .ok (.arraylength, 1) := by decide +kernel
theorem dX5_init_37 : decode cX5_init 37 = .ok (.if_icmp .ge 22, 3) := by decide +kernel
theorem dX5_init_40 : decode cX5_init 40 = .ok (.aload_n 0, 1) := by decide +kernel
theorem dX5_init_41 : decode cX5_init 41 = .ok (.getfield 11, 3) := by decide +kernel
theorem dX5_init_44 : decode cX5_init 44 = .ok (.iload_n 1, 1) := by decide +kernel
theorem dX5_init_45 : decode cX5_init 45 = .ok (.new 9, 3) := by decide +kernel
theorem dX5_init_48 : decode cX5_init 48 = .ok (.dup, 1) := by decide +kernel
theorem dX5_init_49 : decode cX5_init 49 = .ok (.invokespecial 24, 3) := by decide +kernel
theorem dX5_init_52 : decode cX5_init 52 = .ok (.aastore, 1) := by decide +kernel
theorem dX5_init_53 : decode cX5_init 53 = .ok (.iinc 1 1, 3) := by decide +kernel
theorem dX5_init_56 : decode cX5_init 56 = .ok (.goto (-25), 3) := by decide +kernel
theorem dX5_init_59 : decode cX5_init 59 = .ok (.return_, 1) := by decide +kernel
def is_X5_init (Rt : np_Rt) : List (Nat × np_Op) := [(0, np_ald 1 0), (1, np_oinit), (4, np_ald 1 0), (5, np_push 2 (.int 26)), (7, np_anew "NotationPress$Trace" 26 81 1144), (10, np_putf 5 0 (.array (.object "NotationPress$Trace"))), (13, np_ald 1 0), (14, np_push 2 (.int 26)), (16, np_newa .int 26 (26, .inl fun _ => 0) 81 1144), (18, np_putf 5 1 (.array .int)), (21, np_ald 1 0), (22, np_push 2 (.int 26)), (24, np_newa .int 26 (26, .inl fun _ => 0) 81 1144), (26, np_putf 5 2 (.array .int)), (29, np_push 1 (.int 0)), (30, np_ist 1 1), (31, np_ild 1 1), (32, np_ald 1 0), (33, np_getf 5 0), (36, np_alen), (37, np_ic (fun x y => y ≤ x) 59), (40, np_ald 1 0), (41, np_getf 5 0), (44, np_ild 1 1), (45, np_new 8 9 [.null, .null, .int 0, .int 0, .int 0, .int 0, .int 0, .int 0, .int 0] 81 1144), (48, np_dup), (49, np_callI 1 sp_X8_init 1 2 32 81 1144), (52, np_aast 8 RX8), (53, np_iinc 1 1), (56, np_goto 31), (59, np_ret Rt)]
set_option maxRecDepth 20000 in
theorem so_X5_init {X : np_Ctx} (hX : np_ok RX5 cX5_init 2 3 62 81 1144 .return_ X) (hmn : np_mn X = "<init>") : ∀ q ∈ is_X5_init X.2.2.1, np_S X q.1 q.2 :=
  List.forall_mem_cons.mpr ⟨np_s_aload_n hX dX5_init_0 rfl, List.forall_mem_cons.mpr ⟨np_s_oinit hX dX5_init_1 gw328 gw157 gw158 (by decide) (by decide), List.forall_mem_cons.mpr ⟨np_s_aload_n hX dX5_init_4 rfl, List.forall_mem_cons.mpr ⟨np_s_bipush hX dX5_init_5 (by decide), List.forall_mem_cons.mpr ⟨np_s_anew hX dX5_init_7 gw329 (by decide) (by decide) (by decide), List.forall_mem_cons.mpr ⟨np_s_putF hX dX5_init_10 hmn (C := RX5) (T := TX5) (N := 5) (ty0 := tyX5) rfl guX5 tyX5_ok nmX5 (by decide) gw331 rfl rfl rfl, List.forall_mem_cons.mpr ⟨np_s_aload_n hX dX5_init_13 rfl, List.forall_mem_cons.mpr ⟨np_s_bipush hX dX5_init_14 (by decide), List.forall_mem_cons.mpr ⟨np_s_newa hX dX5_init_16 rfl gw183 (by decide) (by intro C h; cases h) (by decide) (fun _ => vp_cell_i _ _ _) (by decide) (fun _ _ => rfl) (fun _ => trivial), List.forall_mem_cons.mpr ⟨np_s_putF hX dX5_init_18 hmn (C := RX5) (T := TX5) (N := 5) (ty0 := tyX5) rfl guX5 tyX5_ok nmX5 (by decide) gw332 rfl rfl rfl, List.forall_mem_cons.mpr ⟨np_s_aload_n hX dX5_init_21 rfl, List.forall_mem_cons.mpr ⟨np_s_bipush hX dX5_init_22 (by decide), List.forall_mem_cons.mpr ⟨np_s_newa hX dX5_init_24 rfl gw183 (by decide) (by intro C h; cases h) (by decide) (fun _ => vp_cell_i _ _ _) (by decide) (fun _ _ => rfl) (fun _ => trivial), List.forall_mem_cons.mpr ⟨np_s_putF hX dX5_init_26 hmn (C := RX5) (T := TX5) (N := 5) (ty0 := tyX5) rfl guX5 tyX5_ok nmX5 (by decide) gw333 rfl rfl rfl, List.forall_mem_cons.mpr ⟨np_s_iconst hX dX5_init_29 (by decide), List.forall_mem_cons.mpr ⟨np_s_istore_n hX dX5_init_30 rfl (by decide), List.forall_mem_cons.mpr ⟨np_s_iload_n hX dX5_init_31 rfl, List.forall_mem_cons.mpr ⟨np_s_aload_n hX dX5_init_32 rfl, List.forall_mem_cons.mpr ⟨np_s_getf hX dX5_init_33 (C := RX5) (T := TX5) (N := 5) rfl guX5 (by decide) gw331, List.forall_mem_cons.mpr ⟨np_s_alen hX dX5_init_36, List.forall_mem_cons.mpr ⟨np_s_icmp_ge hX dX5_init_37 (by decide), List.forall_mem_cons.mpr ⟨np_s_aload_n hX dX5_init_40 rfl, List.forall_mem_cons.mpr ⟨np_s_getf hX dX5_init_41 (C := RX5) (T := TX5) (N := 5) rfl guX5 (by decide) gw331, List.forall_mem_cons.mpr ⟨np_s_iload_n hX dX5_init_44 rfl, List.forall_mem_cons.mpr ⟨np_s_new hX dX5_init_45 (C := RX8) (T := TX8) (ty0 := tyX8) rfl guX8 tyX8_ok gw329 gw204 gw133 ndX8 nfX8, List.forall_mem_cons.mpr ⟨np_s_dup hX dX5_init_48, List.forall_mem_cons.mpr ⟨np_s_callIN hX C_X8_init dX5_init_49 rfl gw207 gw133 gw330 gw206 ⟨by decide, by decide, by decide⟩ (by decide) (by decide), List.forall_mem_cons.mpr ⟨np_s_aast hX (r0 := (RX8, TX8, 9)) rfl dX5_init_52, List.forall_mem_cons.mpr ⟨np_s_iinc hX dX5_init_53 (by decide), List.forall_mem_cons.mpr ⟨np_s_goto hX dX5_init_56 (by decide), List.forall_mem_cons.mpr ⟨np_s_ret hX dX5_init_59, fun _ h => nomatch h⟩⟩⟩⟩⟩⟩⟩⟩⟩⟩⟩⟩⟩⟩⟩⟩⟩⟩⟩⟩⟩⟩⟩⟩⟩⟩⟩⟩⟩⟩⟩
abbrev np_bX5_init : np_E := .inr (5, [.null, .null, .null, .int 0, .int 0])
set_option maxRecDepth 20000 in

theorem loop_X5_init {X : np_Ctx} (hX : np_ok RX5 cX5_init 2 3 62 81 1144 .return_ X) (hmn : np_mn X = "<init>") (hRt : X.2.2.1 = (fun st _ ce sl => ce ≤ 81 ∧ sl ≤ 1144 ∧ st = [])) :
    ∀ (d i N : Nat) (u : Nat → Option np_E) (F : Nat → Option Nat) (fs : List Value), i + d = 26 → 2 ≤ N → u 0 = some (.inr (5, fs)) → fs[0]? = some (.ref 1) → u 1 = some (.inl (.object "NotationPress$Trace", 26, .inr (.inr (.inr (.inr F))))) → np_G X 31 [(1, .int (nI i)), (0, .ref 0)] [] (N, u) (3 + 3 * i) (78 + 41 * i) := by
  intro d
  induction d with
  | zero =>
    intro i N u F fs hi hN h0 hf h1
    refine np_fin (so_X5_init hX hmn) 30 ?_
    rw [hRt]
    conv => whnf
    simp only [h0, hf]
    refine ⟨trivial, ?_⟩
    conv => whnf
    simp only [h1]
    refine And.intro (fun cc => ?_) (fun cc => absurd (show Int32.ofNat 26 ≤ nI i from nI_le (by omega) (by omega)) cc)
    refine ⟨?_, ?_, rfl⟩
    · show 3 + 3 * i ≤ _; omega
    · show 78 + 41 * i ≤ _; omega
  | succ d ih =>
    intro i N u F fs hi hN h0 hf h1
    have hin : vp_in (nI i) 26 := vp_in_nI (by omega) (by omega)
    have n0 : (0 : Nat) ≠ N := by omega
    have n1 : (1 : Nat) ≠ N := by omega
    refine np_sound (so_X5_init hX hmn) (heads := [31]) (Hd := fun pc L st w' ce sl => pc = 31 ∧ L = [(1, .int (nI i + 1)), (0, .ref 0)] ∧ st = [] ∧ ce = 3 + 3 * i + 1 + 2 ∧ sl = 78 + 41 * i + 9 + 32 ∧ w'.1 = N + 1 + 2 ∧ w'.2 0 = some (.inr (5, fs)) ∧ ∃ F', w'.2 1 = some (.inl (.object "NotationPress$Trace", 26, .inr (.inr (.inr (.inr F')))))) (fun pc L st w' ce sl h => ?_) 40 31 _ _ _ _ _ ?_
    · obtain ⟨n, u'⟩ := w'
      obtain ⟨rfl, rfl, rfl, rfl, rfl, g1, g2, F', g3⟩ := h
      have g1 : n = N + 1 + 2 := g1
      subst g1
      rw [nI_1]
      have e1 : 3 + 3 * i + 1 + 2 = 3 + 3 * (i + 1) := by omega
      have e2 : 78 + 41 * i + 9 + 32 = 78 + 41 * (i + 1) := by omega
      rw [e1, e2]
      exact ih (i + 1) _ u' F' fs (by omega) (by omega) g2 hf g3
    · conv => whnf
      simp only [h0, hf]
      refine ⟨trivial, ?_⟩
      conv => whnf
      simp only [h1]
      refine And.intro (fun cc => absurd cc (nI_ge (by omega) (by omega))) (fun cc => ?_)
      conv => whnf
      simp only [h0, hf]
      refine ⟨trivial, ?_⟩
      refine ⟨?_, ?_, ?_⟩
      · show 3 + 3 * i + 1 ≤ _; omega
      · show 78 + 41 * i + 9 ≤ _; omega
      rw [np_force_eq]
      refine ⟨rfl, trivial, Nat.le_of_ble_eq_true rfl, Nat.le_of_ble_eq_true rfl, Nat.le_of_ble_eq_true rfl, ?_, ?_, np_up_s _ _ _, Nat.lt_succ_self _, ?_⟩
      · show 3 + 3 * i + 1 + 2 ≤ _; omega
      · show 78 + 41 * i + 9 + 32 ≤ _; omega
      rw [np_force_eq]
      conv => whnf
      simp only [np_up_n _ _ n1, np_up_s, h1]
      refine ⟨rfl, trivial, hin, ?_⟩
      refine ⟨?_, ?_, ?_, ?_, ?_, ?_, ?_, ?_⟩
      · first | rfl | trivial
      · first | rfl | trivial
      · first | rfl | trivial
      · first | rfl | trivial
      · first | rfl | trivial
      · first | rfl | trivial
      · dsimp only
        rw [np_up_n _ _ (by decide), np_up_n _ _ n0, np_up_n _ _ n0]
        exact h0
      · refine ⟨va_up F (nI i).toNatClampNeg (some N), ?_⟩
        dsimp only
        rw [np_up_s]
        rfl
set_option maxRecDepth 20000 in

set_option maxHeartbeats 8000000 in
theorem run_X5_init {X : np_Ctx} (hX : np_ok RX5 cX5_init 2 3 62 81 1144 .return_ X) (hmn : np_mn X = "<init>") (hRt : X.2.2.1 = (fun st _ ce sl => ce ≤ 81 ∧ sl ≤ 1144 ∧ st = [])) : np_G X 0 [(0, .ref 0)] [] (1, np_wl [(0, np_bX5_init)]) 0 0 := by
  refine np_soundF (so_X5_init hX hmn) (heads := [31]) (Hd := fun pc L st w' ce sl => pc = 31 ∧ L = [(1, .int 0), (0, .ref 0)] ∧ st = [] ∧ ce = 3 ∧ sl = 78 ∧ w'.1 = 4 ∧ (∃ fs, w'.2 0 = some (.inr (5, fs)) ∧ fs[0]? = some (.ref 1)) ∧ ∃ F', w'.2 1 = some (.inl (.object "NotationPress$Trace", 26, .inr (.inr (.inr (.inr F')))))) (fun pc L st w' ce sl h => ?_) 80 0 _ _ _ _ _ ?_
  · obtain ⟨n, u'⟩ := w'
    obtain ⟨rfl, rfl, rfl, rfl, rfl, g1, ⟨fs, g2, g4⟩, F', g3⟩ := h
    have g1 : n = 4 := g1
    subst g1
    exact loop_X5_init hX hmn hRt 26 0 _ u' F' fs rfl (by decide) g2 g4 g3
  · repeat' ((conv => whnf); first | apply And.intro | (intro cc; first | exact absurd cc (by decide) | skip))
    all_goals (first | exact rfl | exact Nat.le_of_ble_eq_true rfl | exact True.intro | exact ⟨_, rfl, rfl⟩ | exact ⟨_, rfl⟩)

set_option maxRecDepth 20000 in
theorem C_X5_init : np_C yX5_init cX5_init 2 none 3 62 81 1144 (np_spF np_bX5_init) := by
  refine np_ofFrame (by decide) (fun _ _ _ => rfl) (fun n v hv => by
    simp only [List.mem_cons, List.not_mem_nil, or_false] at hv
    rcases hv with rfl | rfl | rfl | rfl | rfl <;> trivial) (by decide) ?_
  intro X hX hmn hRt
  exact run_X5_init hX hmn hRt
end
section
theorem gw62 : (Jvm.Cond.selects "NotationPressModel" ({ cls := "NotationPressModel", name := "dropsSteps", desc := "()V" } : Jvm.MethodName) ({ cls := "NotationPressModel", name := "dropsSteps", desc := "()V" } : Jvm.MethodName)) ∈ np_gw := np_gwi 62 (by decide +kernel) rfl
theorem gw132 : (Jvm.Cond.initialized "NotationPress$Printer") ∈ np_gw := np_gwi 132 (by decide +kernel) rfl
theorem gw134 : (Jvm.Cond.initialized "NotationPress$Reader") ∈ np_gw := np_gwi 134 (by decide +kernel) rfl
theorem gw136 : (Jvm.Cond.initialized "NotationPress$Sampler") ∈ np_gw := np_gwi 136 (by decide +kernel) rfl
theorem gw137 : (Jvm.Cond.initialized "NotationPress$UpgradeDraft") ∈ np_gw := np_gwi 137 (by decide +kernel) rfl
theorem gw138 : (Jvm.Cond.initialized "NotationPress$Description") ∈ np_gw := np_gwi 138 (by decide +kernel) rfl
theorem gw139 : (Jvm.Cond.initialized "NotationPress$Table") ∈ np_gw := np_gwi 139 (by decide +kernel) rfl
theorem gw140 : (Jvm.Cond.initialized "NotationPress$Column") ∈ np_gw := np_gwi 140 (by decide +kernel) rfl
theorem gw141 : (Jvm.Cond.initialized "NotationPress$Upgrade") ∈ np_gw := np_gwi 141 (by decide +kernel) rfl
theorem gw142 : (Jvm.Cond.initialized "NotationPressModel") ∈ np_gw := np_gwi 142 (by decide +kernel) rfl
theorem gw151 : (Jvm.Cond.classLink "NotationPressLaw" (8 : Nat) "NotationPress") ∈ np_gw := np_gwi 151 (by decide +kernel) rfl
theorem gw152 : (Jvm.Cond.instantiable "NotationPress" (14 : Nat)) ∈ np_gw := np_gwi 152 (by decide +kernel) rfl
theorem gw153 : (Jvm.Cond.methodLink "NotationPressLaw" (123 : Nat) ({ cls := "NotationPress", name := "<init>", desc := "()V" } : Jvm.MethodName)) ∈ np_gw := np_gwi 153 (by decide +kernel) rfl
theorem gw154 : (Jvm.Cond.instanceMethod ({ cls := "NotationPress", name := "<init>", desc := "()V" } : Jvm.MethodName)) ∈ np_gw := np_gwi 154 (by decide +kernel) rfl
theorem gw155 : (Jvm.Cond.code ({ cls := "NotationPress", name := "<init>", desc := "()V" } : Jvm.MethodName) prog_1_method_1_code (2 : Nat) (Option.none : Option Jvm.ClassFile.FieldType)) ∈ np_gw := np_gwi 155 (by decide +kernel) rfl
theorem gw156 : (Jvm.Cond.methodLink "NotationPress" (5 : Nat) ({ cls := "java/lang/Object", name := "<init>", desc := "()V" } : Jvm.MethodName)) ∈ np_gw := np_gwi 156 (by decide +kernel) rfl
theorem gw159 : (Jvm.Cond.classLink "NotationPress" (11 : Nat) "NotationPress$Items") ∈ np_gw := np_gwi 159 (by decide +kernel) rfl
theorem gw161 : (Jvm.Cond.methodLinkNest "NotationPress" (13 : Nat) ({ cls := "NotationPress$Items", name := "<init>", desc := "()V" } : Jvm.MethodName) "NotationPress") ∈ np_nw := np_nwi 161 (by decide +kernel) rfl
theorem gw184 : (Jvm.Cond.classLink "NotationPress" (18 : Nat) "NotationPress$Description") ∈ np_gw := np_gwi 184 (by decide +kernel) rfl
theorem gw186 : (Jvm.Cond.methodLink "NotationPress" (24 : Nat) ({ cls := "NotationPress", name := "emptyCells", desc := "()[I" } : Jvm.MethodName)) ∈ np_gw := np_gwi 186 (by decide +kernel) rfl
theorem gw193 : (Jvm.Cond.classLink "NotationPress" (32 : Nat) "NotationPress$Text") ∈ np_gw := np_gwi 193 (by decide +kernel) rfl
theorem gw195 : (Jvm.Cond.classLink "NotationPress" (38 : Nat) "NotationPress$Table") ∈ np_gw := np_gwi 195 (by decide +kernel) rfl
theorem gw197 : (Jvm.Cond.classLink "NotationPress" (44 : Nat) "NotationPress$Printer") ∈ np_gw := np_gwi 197 (by decide +kernel) rfl
theorem gw198 : (Jvm.Cond.instantiable "NotationPress$Printer" (3 : Nat)) ∈ np_gw := np_gwi 198 (by decide +kernel) rfl
theorem gw199 : (Jvm.Cond.methodLinkNest "NotationPress" (46 : Nat) ({ cls := "NotationPress$Printer", name := "<init>", desc := "()V" } : Jvm.MethodName) "NotationPress") ∈ np_nw := np_nwi 199 (by decide +kernel) rfl
theorem gw200 : (Jvm.Cond.instanceMethod ({ cls := "NotationPress$Printer", name := "<init>", desc := "()V" } : Jvm.MethodName)) ∈ np_gw := np_gwi 200 (by decide +kernel) rfl
theorem gw201 : (Jvm.Cond.code ({ cls := "NotationPress$Printer", name := "<init>", desc := "()V" } : Jvm.MethodName) prog_5_method_1_code (1 : Nat) (Option.none : Option Jvm.ClassFile.FieldType)) ∈ np_gw := np_gwi 201 (by decide +kernel) rfl
theorem gw257 : (Jvm.Cond.classLink "NotationPress" (51 : Nat) "NotationPress$Reader") ∈ np_gw := np_gwi 257 (by decide +kernel) rfl
theorem gw258 : (Jvm.Cond.instantiable "NotationPress$Reader" (11 : Nat)) ∈ np_gw := np_gwi 258 (by decide +kernel) rfl
theorem gw259 : (Jvm.Cond.methodLink "NotationPress" (53 : Nat) ({ cls := "NotationPress$Reader", name := "<init>", desc := "()V" } : Jvm.MethodName)) ∈ np_gw := np_gwi 259 (by decide +kernel) rfl
theorem gw260 : (Jvm.Cond.instanceMethod ({ cls := "NotationPress$Reader", name := "<init>", desc := "()V" } : Jvm.MethodName)) ∈ np_gw := np_gwi 260 (by decide +kernel) rfl
theorem gw261 : (Jvm.Cond.code ({ cls := "NotationPress$Reader", name := "<init>", desc := "()V" } : Jvm.MethodName) prog_6_method_1_code (2 : Nat) (Option.none : Option Jvm.ClassFile.FieldType)) ∈ np_gw := np_gwi 261 (by decide +kernel) rfl
theorem gw323 : (Jvm.Cond.classLink "NotationPress" (58 : Nat) "NotationPress$Sampler") ∈ np_gw := np_gwi 323 (by decide +kernel) rfl
theorem gw324 : (Jvm.Cond.instantiable "NotationPress$Sampler" (5 : Nat)) ∈ np_gw := np_gwi 324 (by decide +kernel) rfl
theorem gw325 : (Jvm.Cond.methodLink "NotationPress" (60 : Nat) ({ cls := "NotationPress$Sampler", name := "<init>", desc := "()V" } : Jvm.MethodName)) ∈ np_gw := np_gwi 325 (by decide +kernel) rfl
theorem gw326 : (Jvm.Cond.instanceMethod ({ cls := "NotationPress$Sampler", name := "<init>", desc := "()V" } : Jvm.MethodName)) ∈ np_gw := np_gwi 326 (by decide +kernel) rfl
theorem gw327 : (Jvm.Cond.code ({ cls := "NotationPress$Sampler", name := "<init>", desc := "()V" } : Jvm.MethodName) prog_7_method_1_code (2 : Nat) (Option.none : Option Jvm.ClassFile.FieldType)) ∈ np_gw := np_gwi 327 (by decide +kernel) rfl
theorem gw347 : (Jvm.Cond.classLink "NotationPress" (65 : Nat) "NotationPress$Column") ∈ np_gw := np_gwi 347 (by decide +kernel) rfl
theorem gw349 : (Jvm.Cond.classLink "NotationPress" (71 : Nat) "NotationPress$UpgradeDraft") ∈ np_gw := np_gwi 349 (by decide +kernel) rfl
theorem gw350 : (Jvm.Cond.instantiable "NotationPress$UpgradeDraft" (3 : Nat)) ∈ np_gw := np_gwi 350 (by decide +kernel) rfl
theorem gw351 : (Jvm.Cond.methodLink "NotationPress" (73 : Nat) ({ cls := "NotationPress$UpgradeDraft", name := "<init>", desc := "()V" } : Jvm.MethodName)) ∈ np_gw := np_gwi 351 (by decide +kernel) rfl
theorem gw352 : (Jvm.Cond.instanceMethod ({ cls := "NotationPress$UpgradeDraft", name := "<init>", desc := "()V" } : Jvm.MethodName)) ∈ np_gw := np_gwi 352 (by decide +kernel) rfl
theorem gw353 : (Jvm.Cond.code ({ cls := "NotationPress$UpgradeDraft", name := "<init>", desc := "()V" } : Jvm.MethodName) prog_12_method_1_code (1 : Nat) (Option.none : Option Jvm.ClassFile.FieldType)) ∈ np_gw := np_gwi 353 (by decide +kernel) rfl
theorem gw369 : (Jvm.Cond.classLink "NotationPress" (78 : Nat) "NotationPress$Upgrade") ∈ np_gw := np_gwi 369 (by decide +kernel) rfl
theorem gw371 : (Jvm.Cond.instantiable "NotationPress$Description" (7 : Nat)) ∈ np_gw := np_gwi 371 (by decide +kernel) rfl
theorem gw372 : (Jvm.Cond.methodLinkNest "NotationPress" (84 : Nat) ({ cls := "NotationPress$Description", name := "<init>", desc := "()V" } : Jvm.MethodName) "NotationPress") ∈ np_nw := np_nwi 372 (by decide +kernel) rfl
theorem gw373 : (Jvm.Cond.instanceMethod ({ cls := "NotationPress$Description", name := "<init>", desc := "()V" } : Jvm.MethodName)) ∈ np_gw := np_gwi 373 (by decide +kernel) rfl
theorem gw374 : (Jvm.Cond.code ({ cls := "NotationPress$Description", name := "<init>", desc := "()V" } : Jvm.MethodName) prog_3_method_1_code (1 : Nat) (Option.none : Option Jvm.ClassFile.FieldType)) ∈ np_gw := np_gwi 374 (by decide +kernel) rfl
theorem gw403 : (Jvm.Cond.methodLinkNest "NotationPress" (85 : Nat) ({ cls := "NotationPress$Text", name := "<init>", desc := "()V" } : Jvm.MethodName) "NotationPress") ∈ np_nw := np_nwi 403 (by decide +kernel) rfl
theorem gw404 : (Jvm.Cond.instantiable "NotationPress$Table" (12 : Nat)) ∈ np_gw := np_gwi 404 (by decide +kernel) rfl
theorem gw405 : (Jvm.Cond.methodLink "NotationPress" (86 : Nat) ({ cls := "NotationPress$Table", name := "<init>", desc := "()V" } : Jvm.MethodName)) ∈ np_gw := np_gwi 405 (by decide +kernel) rfl
theorem gw406 : (Jvm.Cond.instanceMethod ({ cls := "NotationPress$Table", name := "<init>", desc := "()V" } : Jvm.MethodName)) ∈ np_gw := np_gwi 406 (by decide +kernel) rfl
theorem gw407 : (Jvm.Cond.code ({ cls := "NotationPress$Table", name := "<init>", desc := "()V" } : Jvm.MethodName) prog_8_method_1_code (1 : Nat) (Option.none : Option Jvm.ClassFile.FieldType)) ∈ np_gw := np_gwi 407 (by decide +kernel) rfl
theorem gw454 : (Jvm.Cond.instantiable "NotationPress$Column" (6 : Nat)) ∈ np_gw := np_gwi 454 (by decide +kernel) rfl
theorem gw455 : (Jvm.Cond.methodLinkNest "NotationPress" (87 : Nat) ({ cls := "NotationPress$Column", name := "<init>", desc := "()V" } : Jvm.MethodName) "NotationPress") ∈ np_nw := np_nwi 455 (by decide +kernel) rfl
theorem gw456 : (Jvm.Cond.instanceMethod ({ cls := "NotationPress$Column", name := "<init>", desc := "()V" } : Jvm.MethodName)) ∈ np_gw := np_gwi 456 (by decide +kernel) rfl
theorem gw457 : (Jvm.Cond.code ({ cls := "NotationPress$Column", name := "<init>", desc := "()V" } : Jvm.MethodName) prog_2_method_1_code (1 : Nat) (Option.none : Option Jvm.ClassFile.FieldType)) ∈ np_gw := np_gwi 457 (by decide +kernel) rfl
theorem gw478 : (Jvm.Cond.instantiable "NotationPress$Upgrade" (7 : Nat)) ∈ np_gw := np_gwi 478 (by decide +kernel) rfl
theorem gw479 : (Jvm.Cond.methodLinkNest "NotationPress" (88 : Nat) ({ cls := "NotationPress$Upgrade", name := "<init>", desc := "()V" } : Jvm.MethodName) "NotationPress") ∈ np_nw := np_nwi 479 (by decide +kernel) rfl
theorem gw480 : (Jvm.Cond.instanceMethod ({ cls := "NotationPress$Upgrade", name := "<init>", desc := "()V" } : Jvm.MethodName)) ∈ np_gw := np_gwi 480 (by decide +kernel) rfl
theorem gw481 : (Jvm.Cond.code ({ cls := "NotationPress$Upgrade", name := "<init>", desc := "()V" } : Jvm.MethodName) prog_11_method_1_code (1 : Nat) (Option.none : Option Jvm.ClassFile.FieldType)) ∈ np_gw := np_gwi 481 (by decide +kernel) rfl
theorem gw506 : (Jvm.Cond.fieldLink "NotationPress" (14 : Nat) "NotationPress" "draft" "LNotationPress$Items;") ∈ np_gw := np_gwi 506 (by decide +kernel) rfl
theorem gw507 : (Jvm.Cond.fieldLink "NotationPress" (20 : Nat) "NotationPress" "descriptions" "[LNotationPress$Description;") ∈ np_gw := np_gwi 507 (by decide +kernel) rfl
theorem gw509 : (Jvm.Cond.fieldLink "NotationPress" (28 : Nat) "NotationPress" "record" "[I") ∈ np_gw := np_gwi 509 (by decide +kernel) rfl
theorem gw510 : (Jvm.Cond.fieldLink "NotationPress" (34 : Nat) "NotationPress" "files" "[LNotationPress$Text;") ∈ np_gw := np_gwi 510 (by decide +kernel) rfl
theorem gw511 : (Jvm.Cond.fieldLink "NotationPress" (40 : Nat) "NotationPress" "tables" "[LNotationPress$Table;") ∈ np_gw := np_gwi 511 (by decide +kernel) rfl
theorem gw512 : (Jvm.Cond.fieldLink "NotationPress" (47 : Nat) "NotationPress" "printer" "LNotationPress$Printer;") ∈ np_gw := np_gwi 512 (by decide +kernel) rfl
theorem gw513 : (Jvm.Cond.fieldLink "NotationPress" (54 : Nat) "NotationPress" "reader" "LNotationPress$Reader;") ∈ np_gw := np_gwi 513 (by decide +kernel) rfl
theorem gw514 : (Jvm.Cond.fieldLink "NotationPress" (61 : Nat) "NotationPress" "sampler" "LNotationPress$Sampler;") ∈ np_gw := np_gwi 514 (by decide +kernel) rfl
theorem gw515 : (Jvm.Cond.fieldLink "NotationPress" (67 : Nat) "NotationPress" "columns" "[LNotationPress$Column;") ∈ np_gw := np_gwi 515 (by decide +kernel) rfl
theorem gw517 : (Jvm.Cond.fieldLink "NotationPress" (74 : Nat) "NotationPress" "upgradeDraft" "LNotationPress$UpgradeDraft;") ∈ np_gw := np_gwi 517 (by decide +kernel) rfl
theorem gw518 : (Jvm.Cond.fieldLink "NotationPress" (80 : Nat) "NotationPress" "upgrades" "[LNotationPress$Upgrade;") ∈ np_gw := np_gwi 518 (by decide +kernel) rfl
theorem gw520 : (Jvm.Cond.laysFinal "NotationPress" "NotationPress" "draft" "LNotationPress$Items;") ∈ np_gw := np_gwi 520 (by decide +kernel) rfl
theorem gw522 : (Jvm.Cond.laysFinal "NotationPress" "NotationPress" "descriptions" "[LNotationPress$Description;") ∈ np_gw := np_gwi 522 (by decide +kernel) rfl
theorem gw524 : (Jvm.Cond.lays "NotationPress" "NotationPress" "descriptionCount" "I") ∈ np_gw := np_gwi 524 (by decide +kernel) rfl
theorem gw526 : (Jvm.Cond.laysFinal "NotationPress" "NotationPress" "record" "[I") ∈ np_gw := np_gwi 526 (by decide +kernel) rfl
theorem gw528 : (Jvm.Cond.laysFinal "NotationPress" "NotationPress" "files" "[LNotationPress$Text;") ∈ np_gw := np_gwi 528 (by decide +kernel) rfl
theorem gw530 : (Jvm.Cond.laysFinal "NotationPress" "NotationPress" "tables" "[LNotationPress$Table;") ∈ np_gw := np_gwi 530 (by decide +kernel) rfl
theorem gw532 : (Jvm.Cond.laysFinal "NotationPress" "NotationPress" "printer" "LNotationPress$Printer;") ∈ np_gw := np_gwi 532 (by decide +kernel) rfl
theorem gw534 : (Jvm.Cond.laysFinal "NotationPress" "NotationPress" "reader" "LNotationPress$Reader;") ∈ np_gw := np_gwi 534 (by decide +kernel) rfl
theorem gw536 : (Jvm.Cond.laysFinal "NotationPress" "NotationPress" "sampler" "LNotationPress$Sampler;") ∈ np_gw := np_gwi 536 (by decide +kernel) rfl
theorem gw538 : (Jvm.Cond.laysFinal "NotationPress" "NotationPress" "columns" "[LNotationPress$Column;") ∈ np_gw := np_gwi 538 (by decide +kernel) rfl
theorem gw540 : (Jvm.Cond.lays "NotationPress" "NotationPress" "columnCount" "I") ∈ np_gw := np_gwi 540 (by decide +kernel) rfl
theorem gw542 : (Jvm.Cond.laysFinal "NotationPress" "NotationPress" "upgradeDraft" "LNotationPress$UpgradeDraft;") ∈ np_gw := np_gwi 542 (by decide +kernel) rfl
theorem gw544 : (Jvm.Cond.laysFinal "NotationPress" "NotationPress" "upgrades" "[LNotationPress$Upgrade;") ∈ np_gw := np_gwi 544 (by decide +kernel) rfl
theorem gw546 : (Jvm.Cond.lays "NotationPress" "NotationPress" "upgradeCount" "I") ∈ np_gw := np_gwi 546 (by decide +kernel) rfl
theorem gw1626 : (Jvm.Cond.classLink "NotationPressLaw" (124 : Nat) "NotationPressModel") ∈ np_gw := np_gwi 1626 (by decide +kernel) rfl
theorem gw1627 : (Jvm.Cond.instantiable "NotationPressModel" (77 : Nat)) ∈ np_gw := np_gwi 1627 (by decide +kernel) rfl
theorem gw1628 : (Jvm.Cond.methodLink "NotationPressLaw" (126 : Nat) ({ cls := "NotationPressModel", name := "<init>", desc := "()V" } : Jvm.MethodName)) ∈ np_gw := np_gwi 1628 (by decide +kernel) rfl
theorem gw1629 : (Jvm.Cond.instanceMethod ({ cls := "NotationPressModel", name := "<init>", desc := "()V" } : Jvm.MethodName)) ∈ np_gw := np_gwi 1629 (by decide +kernel) rfl
theorem gw1630 : (Jvm.Cond.code ({ cls := "NotationPressModel", name := "<init>", desc := "()V" } : Jvm.MethodName) prog_14_method_1_code (1 : Nat) (Option.none : Option Jvm.ClassFile.FieldType)) ∈ np_gw := np_gwi 1630 (by decide +kernel) rfl
theorem gw1631 : (Jvm.Cond.methodLink "NotationPressModel" (1 : Nat) ({ cls := "java/lang/Object", name := "<init>", desc := "()V" } : Jvm.MethodName)) ∈ np_gw := np_gwi 1631 (by decide +kernel) rfl
theorem gw1632 : (Jvm.Cond.methodLink "NotationPressModel" (177 : Nat) ({ cls := "NotationPressModel", name := "dropsSteps", desc := "()V" } : Jvm.MethodName)) ∈ np_gw := np_gwi 1632 (by decide +kernel) rfl
theorem gw1634 : (Jvm.Cond.instanceMethod ({ cls := "NotationPressModel", name := "dropsSteps", desc := "()V" } : Jvm.MethodName)) ∈ np_gw := np_gwi 1634 (by decide +kernel) rfl
theorem gw1635 : (Jvm.Cond.code ({ cls := "NotationPressModel", name := "dropsSteps", desc := "()V" } : Jvm.MethodName) prog_14_method_92_code (2 : Nat) (Option.none : Option Jvm.ClassFile.FieldType)) ∈ np_gw := np_gwi 1635 (by decide +kernel) rfl
theorem gw1637 : (Jvm.Cond.fieldLink "NotationPressModel" (7 : Nat) "NotationPressModel" "draftKind" "[I") ∈ np_gw := np_gwi 1637 (by decide +kernel) rfl
theorem gw1638 : (Jvm.Cond.fieldLink "NotationPressModel" (13 : Nat) "NotationPressModel" "draftA" "[I") ∈ np_gw := np_gwi 1638 (by decide +kernel) rfl
theorem gw1639 : (Jvm.Cond.fieldLink "NotationPressModel" (16 : Nat) "NotationPressModel" "draftB" "[I") ∈ np_gw := np_gwi 1639 (by decide +kernel) rfl
theorem gw1640 : (Jvm.Cond.fieldLink "NotationPressModel" (19 : Nat) "NotationPressModel" "draftC" "[I") ∈ np_gw := np_gwi 1640 (by decide +kernel) rfl
theorem gw1642 : (Jvm.Cond.fieldLink "NotationPressModel" (22 : Nat) "NotationPressModel" "many" "[I") ∈ np_gw := np_gwi 1642 (by decide +kernel) rfl
theorem gw1643 : (Jvm.Cond.fieldLink "NotationPressModel" (25 : Nat) "NotationPressModel" "kind" "[I") ∈ np_gw := np_gwi 1643 (by decide +kernel) rfl
theorem gw1644 : (Jvm.Cond.fieldLink "NotationPressModel" (28 : Nat) "NotationPressModel" "a" "[I") ∈ np_gw := np_gwi 1644 (by decide +kernel) rfl
theorem gw1645 : (Jvm.Cond.fieldLink "NotationPressModel" (31 : Nat) "NotationPressModel" "b" "[I") ∈ np_gw := np_gwi 1645 (by decide +kernel) rfl
theorem gw1646 : (Jvm.Cond.fieldLink "NotationPressModel" (34 : Nat) "NotationPressModel" "c" "[I") ∈ np_gw := np_gwi 1646 (by decide +kernel) rfl
theorem gw1647 : (Jvm.Cond.fieldLink "NotationPressModel" (37 : Nat) "NotationPressModel" "loopOf" "[I") ∈ np_gw := np_gwi 1647 (by decide +kernel) rfl
theorem gw1648 : (Jvm.Cond.fieldLink "NotationPressModel" (40 : Nat) "NotationPressModel" "constraints" "[I") ∈ np_gw := np_gwi 1648 (by decide +kernel) rfl
theorem gw1649 : (Jvm.Cond.fieldLink "NotationPressModel" (43 : Nat) "NotationPressModel" "ruleKind" "[I") ∈ np_gw := np_gwi 1649 (by decide +kernel) rfl
theorem gw1650 : (Jvm.Cond.fieldLink "NotationPressModel" (46 : Nat) "NotationPressModel" "ruleA" "[I") ∈ np_gw := np_gwi 1650 (by decide +kernel) rfl
theorem gw1651 : (Jvm.Cond.fieldLink "NotationPressModel" (49 : Nat) "NotationPressModel" "ruleB" "[I") ∈ np_gw := np_gwi 1651 (by decide +kernel) rfl
theorem gw1652 : (Jvm.Cond.fieldLink "NotationPressModel" (52 : Nat) "NotationPressModel" "ruleC" "[I") ∈ np_gw := np_gwi 1652 (by decide +kernel) rfl
theorem gw1653 : (Jvm.Cond.fieldLink "NotationPressModel" (55 : Nat) "NotationPressModel" "ruleMessage" "[I") ∈ np_gw := np_gwi 1653 (by decide +kernel) rfl
theorem gw1654 : (Jvm.Cond.fieldLink "NotationPressModel" (58 : Nat) "NotationPressModel" "record" "[I") ∈ np_gw := np_gwi 1654 (by decide +kernel) rfl
theorem gw1656 : (Jvm.Cond.fieldLink "NotationPressModel" (61 : Nat) "NotationPressModel" "text" "[I") ∈ np_gw := np_gwi 1656 (by decide +kernel) rfl
theorem gw1657 : (Jvm.Cond.fieldLink "NotationPressModel" (64 : Nat) "NotationPressModel" "units" "[I") ∈ np_gw := np_gwi 1657 (by decide +kernel) rfl
theorem gw1658 : (Jvm.Cond.fieldLink "NotationPressModel" (67 : Nat) "NotationPressModel" "isClosed" "[Z") ∈ np_gw := np_gwi 1658 (by decide +kernel) rfl
theorem gw1659 : (Jvm.Cond.fieldLink "NotationPressModel" (71 : Nat) "NotationPressModel" "streamOf" "[I") ∈ np_gw := np_gwi 1659 (by decide +kernel) rfl
theorem gw1660 : (Jvm.Cond.fieldLink "NotationPressModel" (74 : Nat) "NotationPressModel" "place" "[I") ∈ np_gw := np_gwi 1660 (by decide +kernel) rfl
theorem gw1661 : (Jvm.Cond.fieldLink "NotationPressModel" (77 : Nat) "NotationPressModel" "rows" "[I") ∈ np_gw := np_gwi 1661 (by decide +kernel) rfl
theorem gw1662 : (Jvm.Cond.fieldLink "NotationPressModel" (80 : Nat) "NotationPressModel" "doubts" "[I") ∈ np_gw := np_gwi 1662 (by decide +kernel) rfl
theorem gw1663 : (Jvm.Cond.fieldLink "NotationPressModel" (83 : Nat) "NotationPressModel" "table" "[I") ∈ np_gw := np_gwi 1663 (by decide +kernel) rfl
theorem gw1664 : (Jvm.Cond.fieldLink "NotationPressModel" (86 : Nat) "NotationPressModel" "rowHas" "[I") ∈ np_gw := np_gwi 1664 (by decide +kernel) rfl
theorem gw1665 : (Jvm.Cond.fieldLink "NotationPressModel" (89 : Nat) "NotationPressModel" "entries" "[I") ∈ np_gw := np_gwi 1665 (by decide +kernel) rfl
theorem gw1666 : (Jvm.Cond.fieldLink "NotationPressModel" (92 : Nat) "NotationPressModel" "why" "[I") ∈ np_gw := np_gwi 1666 (by decide +kernel) rfl
theorem gw1667 : (Jvm.Cond.fieldLink "NotationPressModel" (95 : Nat) "NotationPressModel" "from" "[I") ∈ np_gw := np_gwi 1667 (by decide +kernel) rfl
theorem gw1668 : (Jvm.Cond.fieldLink "NotationPressModel" (98 : Nat) "NotationPressModel" "behind" "[I") ∈ np_gw := np_gwi 1668 (by decide +kernel) rfl
theorem gw1670 : (Jvm.Cond.fieldLink "NotationPressModel" (101 : Nat) "NotationPressModel" "columnFile" "[I") ∈ np_gw := np_gwi 1670 (by decide +kernel) rfl
theorem gw1671 : (Jvm.Cond.fieldLink "NotationPressModel" (104 : Nat) "NotationPressModel" "columnKind" "[I") ∈ np_gw := np_gwi 1671 (by decide +kernel) rfl
theorem gw1672 : (Jvm.Cond.fieldLink "NotationPressModel" (107 : Nat) "NotationPressModel" "columnSlot" "[I") ∈ np_gw := np_gwi 1672 (by decide +kernel) rfl
theorem gw1673 : (Jvm.Cond.fieldLink "NotationPressModel" (110 : Nat) "NotationPressModel" "columnWindow" "[I") ∈ np_gw := np_gwi 1673 (by decide +kernel) rfl
theorem gw1674 : (Jvm.Cond.fieldLink "NotationPressModel" (113 : Nat) "NotationPressModel" "stepKind" "[I") ∈ np_gw := np_gwi 1674 (by decide +kernel) rfl
theorem gw1675 : (Jvm.Cond.fieldLink "NotationPressModel" (116 : Nat) "NotationPressModel" "stepA" "[I") ∈ np_gw := np_gwi 1675 (by decide +kernel) rfl
theorem gw1676 : (Jvm.Cond.fieldLink "NotationPressModel" (119 : Nat) "NotationPressModel" "stepB" "[I") ∈ np_gw := np_gwi 1676 (by decide +kernel) rfl
theorem gw1678 : (Jvm.Cond.fieldLink "NotationPressModel" (122 : Nat) "NotationPressModel" "partKind" "[I") ∈ np_gw := np_gwi 1678 (by decide +kernel) rfl
theorem gw1679 : (Jvm.Cond.fieldLink "NotationPressModel" (125 : Nat) "NotationPressModel" "partNumber" "[I") ∈ np_gw := np_gwi 1679 (by decide +kernel) rfl
theorem gw1680 : (Jvm.Cond.fieldLink "NotationPressModel" (128 : Nat) "NotationPressModel" "codeFrom" "[I") ∈ np_gw := np_gwi 1680 (by decide +kernel) rfl
theorem gw1681 : (Jvm.Cond.fieldLink "NotationPressModel" (131 : Nat) "NotationPressModel" "codeLength" "[I") ∈ np_gw := np_gwi 1681 (by decide +kernel) rfl
theorem gw1683 : (Jvm.Cond.fieldLink "NotationPressModel" (134 : Nat) "NotationPressModel" "joinedBy" "[I") ∈ np_gw := np_gwi 1683 (by decide +kernel) rfl
theorem gw1684 : (Jvm.Cond.fieldLink "NotationPressModel" (137 : Nat) "NotationPressModel" "joinedAs" "[I") ∈ np_gw := np_gwi 1684 (by decide +kernel) rfl
theorem gw1685 : (Jvm.Cond.fieldLink "NotationPressModel" (140 : Nat) "NotationPressModel" "stack" "[J") ∈ np_gw := np_gwi 1685 (by decide +kernel) rfl
theorem gw1686 : (Jvm.Cond.fieldLink "NotationPressModel" (144 : Nat) "NotationPressModel" "waiting" "[I") ∈ np_gw := np_gwi 1686 (by decide +kernel) rfl
theorem gw1687 : (Jvm.Cond.fieldLink "NotationPressModel" (147 : Nat) "NotationPressModel" "value" "[I") ∈ np_gw := np_gwi 1687 (by decide +kernel) rfl
theorem gw1697 : (Jvm.Cond.fieldLink "NotationPressModel" (150 : Nat) "NotationPressModel" "itemAt" "[I") ∈ np_gw := np_gwi 1697 (by decide +kernel) rfl
theorem gw1698 : (Jvm.Cond.fieldLink "NotationPressModel" (153 : Nat) "NotationPressModel" "roundAt" "[I") ∈ np_gw := np_gwi 1698 (by decide +kernel) rfl
theorem gw1699 : (Jvm.Cond.fieldLink "NotationPressModel" (156 : Nat) "NotationPressModel" "placeAt" "[I") ∈ np_gw := np_gwi 1699 (by decide +kernel) rfl
theorem gw1700 : (Jvm.Cond.fieldLink "NotationPressModel" (159 : Nat) "NotationPressModel" "choiceAt" "[I") ∈ np_gw := np_gwi 1700 (by decide +kernel) rfl
theorem gw1701 : (Jvm.Cond.fieldLink "NotationPressModel" (162 : Nat) "NotationPressModel" "manyAt" "[I") ∈ np_gw := np_gwi 1701 (by decide +kernel) rfl
theorem gw1703 : (Jvm.Cond.fieldLink "NotationPressModel" (165 : Nat) "NotationPressModel" "source" "[I") ∈ np_gw := np_gwi 1703 (by decide +kernel) rfl
theorem gw1705 : (Jvm.Cond.fieldLink "NotationPressModel" (168 : Nat) "NotationPressModel" "out" "[I") ∈ np_gw := np_gwi 1705 (by decide +kernel) rfl
theorem gw1708 : (Jvm.Cond.fieldLink "NotationPressModel" (171 : Nat) "NotationPressModel" "printedAt" "[I") ∈ np_gw := np_gwi 1708 (by decide +kernel) rfl
theorem gw1709 : (Jvm.Cond.fieldLink "NotationPressModel" (174 : Nat) "NotationPressModel" "digits" "[I") ∈ np_gw := np_gwi 1709 (by decide +kernel) rfl
theorem gw1713 : (Jvm.Cond.lays "NotationPressModel" "NotationPressModel" "drafted" "I") ∈ np_gw := np_gwi 1713 (by decide +kernel) rfl
theorem gw1715 : (Jvm.Cond.laysFinal "NotationPressModel" "NotationPressModel" "draftKind" "[I") ∈ np_gw := np_gwi 1715 (by decide +kernel) rfl
theorem gw1717 : (Jvm.Cond.laysFinal "NotationPressModel" "NotationPressModel" "draftA" "[I") ∈ np_gw := np_gwi 1717 (by decide +kernel) rfl
theorem gw1719 : (Jvm.Cond.laysFinal "NotationPressModel" "NotationPressModel" "draftB" "[I") ∈ np_gw := np_gwi 1719 (by decide +kernel) rfl
theorem gw1721 : (Jvm.Cond.laysFinal "NotationPressModel" "NotationPressModel" "draftC" "[I") ∈ np_gw := np_gwi 1721 (by decide +kernel) rfl
theorem gw1723 : (Jvm.Cond.lays "NotationPressModel" "NotationPressModel" "descriptions" "I") ∈ np_gw := np_gwi 1723 (by decide +kernel) rfl
theorem gw1725 : (Jvm.Cond.laysFinal "NotationPressModel" "NotationPressModel" "many" "[I") ∈ np_gw := np_gwi 1725 (by decide +kernel) rfl
theorem gw1727 : (Jvm.Cond.laysFinal "NotationPressModel" "NotationPressModel" "kind" "[I") ∈ np_gw := np_gwi 1727 (by decide +kernel) rfl
theorem gw1729 : (Jvm.Cond.laysFinal "NotationPressModel" "NotationPressModel" "a" "[I") ∈ np_gw := np_gwi 1729 (by decide +kernel) rfl
theorem gw1731 : (Jvm.Cond.laysFinal "NotationPressModel" "NotationPressModel" "b" "[I") ∈ np_gw := np_gwi 1731 (by decide +kernel) rfl
theorem gw1733 : (Jvm.Cond.laysFinal "NotationPressModel" "NotationPressModel" "c" "[I") ∈ np_gw := np_gwi 1733 (by decide +kernel) rfl
theorem gw1735 : (Jvm.Cond.laysFinal "NotationPressModel" "NotationPressModel" "loopOf" "[I") ∈ np_gw := np_gwi 1735 (by decide +kernel) rfl
theorem gw1737 : (Jvm.Cond.laysFinal "NotationPressModel" "NotationPressModel" "constraints" "[I") ∈ np_gw := np_gwi 1737 (by decide +kernel) rfl
theorem gw1739 : (Jvm.Cond.laysFinal "NotationPressModel" "NotationPressModel" "ruleKind" "[I") ∈ np_gw := np_gwi 1739 (by decide +kernel) rfl
theorem gw1741 : (Jvm.Cond.laysFinal "NotationPressModel" "NotationPressModel" "ruleA" "[I") ∈ np_gw := np_gwi 1741 (by decide +kernel) rfl
theorem gw1743 : (Jvm.Cond.laysFinal "NotationPressModel" "NotationPressModel" "ruleB" "[I") ∈ np_gw := np_gwi 1743 (by decide +kernel) rfl
theorem gw1745 : (Jvm.Cond.laysFinal "NotationPressModel" "NotationPressModel" "ruleC" "[I") ∈ np_gw := np_gwi 1745 (by decide +kernel) rfl
theorem gw1747 : (Jvm.Cond.laysFinal "NotationPressModel" "NotationPressModel" "ruleMessage" "[I") ∈ np_gw := np_gwi 1747 (by decide +kernel) rfl
theorem gw1749 : (Jvm.Cond.laysFinal "NotationPressModel" "NotationPressModel" "record" "[I") ∈ np_gw := np_gwi 1749 (by decide +kernel) rfl
theorem gw1751 : (Jvm.Cond.lays "NotationPressModel" "NotationPressModel" "recordHas" "I") ∈ np_gw := np_gwi 1751 (by decide +kernel) rfl
theorem gw1753 : (Jvm.Cond.laysFinal "NotationPressModel" "NotationPressModel" "text" "[I") ∈ np_gw := np_gwi 1753 (by decide +kernel) rfl
theorem gw1755 : (Jvm.Cond.laysFinal "NotationPressModel" "NotationPressModel" "units" "[I") ∈ np_gw := np_gwi 1755 (by decide +kernel) rfl
theorem gw1757 : (Jvm.Cond.laysFinal "NotationPressModel" "NotationPressModel" "isClosed" "[Z") ∈ np_gw := np_gwi 1757 (by decide +kernel) rfl
theorem gw1759 : (Jvm.Cond.laysFinal "NotationPressModel" "NotationPressModel" "streamOf" "[I") ∈ np_gw := np_gwi 1759 (by decide +kernel) rfl
theorem gw1761 : (Jvm.Cond.laysFinal "NotationPressModel" "NotationPressModel" "place" "[I") ∈ np_gw := np_gwi 1761 (by decide +kernel) rfl
theorem gw1763 : (Jvm.Cond.laysFinal "NotationPressModel" "NotationPressModel" "rows" "[I") ∈ np_gw := np_gwi 1763 (by decide +kernel) rfl
theorem gw1765 : (Jvm.Cond.laysFinal "NotationPressModel" "NotationPressModel" "doubts" "[I") ∈ np_gw := np_gwi 1765 (by decide +kernel) rfl
theorem gw1767 : (Jvm.Cond.laysFinal "NotationPressModel" "NotationPressModel" "table" "[I") ∈ np_gw := np_gwi 1767 (by decide +kernel) rfl
theorem gw1769 : (Jvm.Cond.laysFinal "NotationPressModel" "NotationPressModel" "rowHas" "[I") ∈ np_gw := np_gwi 1769 (by decide +kernel) rfl
theorem gw1771 : (Jvm.Cond.laysFinal "NotationPressModel" "NotationPressModel" "entries" "[I") ∈ np_gw := np_gwi 1771 (by decide +kernel) rfl
theorem gw1773 : (Jvm.Cond.laysFinal "NotationPressModel" "NotationPressModel" "why" "[I") ∈ np_gw := np_gwi 1773 (by decide +kernel) rfl
theorem gw1775 : (Jvm.Cond.laysFinal "NotationPressModel" "NotationPressModel" "from" "[I") ∈ np_gw := np_gwi 1775 (by decide +kernel) rfl
theorem gw1777 : (Jvm.Cond.laysFinal "NotationPressModel" "NotationPressModel" "behind" "[I") ∈ np_gw := np_gwi 1777 (by decide +kernel) rfl
theorem gw1779 : (Jvm.Cond.lays "NotationPressModel" "NotationPressModel" "columns" "I") ∈ np_gw := np_gwi 1779 (by decide +kernel) rfl
theorem gw1781 : (Jvm.Cond.laysFinal "NotationPressModel" "NotationPressModel" "columnFile" "[I") ∈ np_gw := np_gwi 1781 (by decide +kernel) rfl
theorem gw1783 : (Jvm.Cond.laysFinal "NotationPressModel" "NotationPressModel" "columnKind" "[I") ∈ np_gw := np_gwi 1783 (by decide +kernel) rfl
theorem gw1785 : (Jvm.Cond.laysFinal "NotationPressModel" "NotationPressModel" "columnSlot" "[I") ∈ np_gw := np_gwi 1785 (by decide +kernel) rfl
theorem gw1787 : (Jvm.Cond.laysFinal "NotationPressModel" "NotationPressModel" "columnWindow" "[I") ∈ np_gw := np_gwi 1787 (by decide +kernel) rfl
theorem gw1789 : (Jvm.Cond.laysFinal "NotationPressModel" "NotationPressModel" "stepKind" "[I") ∈ np_gw := np_gwi 1789 (by decide +kernel) rfl
theorem gw1791 : (Jvm.Cond.laysFinal "NotationPressModel" "NotationPressModel" "stepA" "[I") ∈ np_gw := np_gwi 1791 (by decide +kernel) rfl
theorem gw1793 : (Jvm.Cond.laysFinal "NotationPressModel" "NotationPressModel" "stepB" "[I") ∈ np_gw := np_gwi 1793 (by decide +kernel) rfl
theorem gw1795 : (Jvm.Cond.lays "NotationPressModel" "NotationPressModel" "upgrades" "I") ∈ np_gw := np_gwi 1795 (by decide +kernel) rfl
theorem gw1797 : (Jvm.Cond.laysFinal "NotationPressModel" "NotationPressModel" "partKind" "[I") ∈ np_gw := np_gwi 1797 (by decide +kernel) rfl
theorem gw1799 : (Jvm.Cond.laysFinal "NotationPressModel" "NotationPressModel" "partNumber" "[I") ∈ np_gw := np_gwi 1799 (by decide +kernel) rfl
theorem gw1801 : (Jvm.Cond.laysFinal "NotationPressModel" "NotationPressModel" "codeFrom" "[I") ∈ np_gw := np_gwi 1801 (by decide +kernel) rfl
theorem gw1803 : (Jvm.Cond.laysFinal "NotationPressModel" "NotationPressModel" "codeLength" "[I") ∈ np_gw := np_gwi 1803 (by decide +kernel) rfl
theorem gw1805 : (Jvm.Cond.lays "NotationPressModel" "NotationPressModel" "made" "I") ∈ np_gw := np_gwi 1805 (by decide +kernel) rfl
theorem gw1807 : (Jvm.Cond.laysFinal "NotationPressModel" "NotationPressModel" "joinedBy" "[I") ∈ np_gw := np_gwi 1807 (by decide +kernel) rfl
theorem gw1809 : (Jvm.Cond.laysFinal "NotationPressModel" "NotationPressModel" "joinedAs" "[I") ∈ np_gw := np_gwi 1809 (by decide +kernel) rfl
theorem gw1811 : (Jvm.Cond.laysFinal "NotationPressModel" "NotationPressModel" "stack" "[J") ∈ np_gw := np_gwi 1811 (by decide +kernel) rfl
theorem gw1813 : (Jvm.Cond.laysFinal "NotationPressModel" "NotationPressModel" "waiting" "[I") ∈ np_gw := np_gwi 1813 (by decide +kernel) rfl
theorem gw1815 : (Jvm.Cond.laysFinal "NotationPressModel" "NotationPressModel" "value" "[I") ∈ np_gw := np_gwi 1815 (by decide +kernel) rfl
theorem gw1817 : (Jvm.Cond.lays "NotationPressModel" "NotationPressModel" "valueHas" "I") ∈ np_gw := np_gwi 1817 (by decide +kernel) rfl
theorem gw1819 : (Jvm.Cond.lays "NotationPressModel" "NotationPressModel" "nextItem" "I") ∈ np_gw := np_gwi 1819 (by decide +kernel) rfl
theorem gw1821 : (Jvm.Cond.lays "NotationPressModel" "NotationPressModel" "nextRound" "I") ∈ np_gw := np_gwi 1821 (by decide +kernel) rfl
theorem gw1823 : (Jvm.Cond.lays "NotationPressModel" "NotationPressModel" "file" "I") ∈ np_gw := np_gwi 1823 (by decide +kernel) rfl
theorem gw1825 : (Jvm.Cond.lays "NotationPressModel" "NotationPressModel" "description" "I") ∈ np_gw := np_gwi 1825 (by decide +kernel) rfl
theorem gw1827 : (Jvm.Cond.lays "NotationPressModel" "NotationPressModel" "start" "I") ∈ np_gw := np_gwi 1827 (by decide +kernel) rfl
theorem gw1829 : (Jvm.Cond.lays "NotationPressModel" "NotationPressModel" "end" "I") ∈ np_gw := np_gwi 1829 (by decide +kernel) rfl
theorem gw1831 : (Jvm.Cond.lays "NotationPressModel" "NotationPressModel" "begun" "I") ∈ np_gw := np_gwi 1831 (by decide +kernel) rfl
theorem gw1833 : (Jvm.Cond.lays "NotationPressModel" "NotationPressModel" "depth" "I") ∈ np_gw := np_gwi 1833 (by decide +kernel) rfl
theorem gw1835 : (Jvm.Cond.laysFinal "NotationPressModel" "NotationPressModel" "itemAt" "[I") ∈ np_gw := np_gwi 1835 (by decide +kernel) rfl
theorem gw1837 : (Jvm.Cond.laysFinal "NotationPressModel" "NotationPressModel" "roundAt" "[I") ∈ np_gw := np_gwi 1837 (by decide +kernel) rfl
theorem gw1839 : (Jvm.Cond.laysFinal "NotationPressModel" "NotationPressModel" "placeAt" "[I") ∈ np_gw := np_gwi 1839 (by decide +kernel) rfl
theorem gw1841 : (Jvm.Cond.laysFinal "NotationPressModel" "NotationPressModel" "choiceAt" "[I") ∈ np_gw := np_gwi 1841 (by decide +kernel) rfl
theorem gw1843 : (Jvm.Cond.laysFinal "NotationPressModel" "NotationPressModel" "manyAt" "[I") ∈ np_gw := np_gwi 1843 (by decide +kernel) rfl
theorem gw1845 : (Jvm.Cond.lays "NotationPressModel" "NotationPressModel" "taken" "I") ∈ np_gw := np_gwi 1845 (by decide +kernel) rfl
theorem gw1847 : (Jvm.Cond.laysFinal "NotationPressModel" "NotationPressModel" "source" "[I") ∈ np_gw := np_gwi 1847 (by decide +kernel) rfl
theorem gw1849 : (Jvm.Cond.lays "NotationPressModel" "NotationPressModel" "sourceHas" "I") ∈ np_gw := np_gwi 1849 (by decide +kernel) rfl
theorem gw1851 : (Jvm.Cond.laysFinal "NotationPressModel" "NotationPressModel" "out" "[I") ∈ np_gw := np_gwi 1851 (by decide +kernel) rfl
theorem gw1853 : (Jvm.Cond.lays "NotationPressModel" "NotationPressModel" "printed" "I") ∈ np_gw := np_gwi 1853 (by decide +kernel) rfl
theorem gw1855 : (Jvm.Cond.lays "NotationPressModel" "NotationPressModel" "fails" "Z") ∈ np_gw := np_gwi 1855 (by decide +kernel) rfl
theorem gw1857 : (Jvm.Cond.laysFinal "NotationPressModel" "NotationPressModel" "printedAt" "[I") ∈ np_gw := np_gwi 1857 (by decide +kernel) rfl
theorem gw1859 : (Jvm.Cond.laysFinal "NotationPressModel" "NotationPressModel" "digits" "[I") ∈ np_gw := np_gwi 1859 (by decide +kernel) rfl
theorem gw1861 : (Jvm.Cond.lays "NotationPressModel" "NotationPressModel" "seed" "J") ∈ np_gw := np_gwi 1861 (by decide +kernel) rfl
theorem gw1863 : (Jvm.Cond.lays "NotationPressModel" "NotationPressModel" "tries" "I") ∈ np_gw := np_gwi 1863 (by decide +kernel) rfl
theorem gw1865 : (Jvm.Cond.lays "NotationPressModel" "NotationPressModel" "thrown" "I") ∈ np_gw := np_gwi 1865 (by decide +kernel) rfl
theorem gw1868 : (Jvm.Cond.arrayClass Jvm.ClassFile.FieldType.boolean) ∈ np_gw := np_gwi 1868 (by decide +kernel) rfl
theorem gw1869 : (Jvm.Cond.arrayClass Jvm.ClassFile.FieldType.long) ∈ np_gw := np_gwi 1869 (by decide +kernel) rfl
set_option maxRecDepth 20000 in
theorem guX11 : ∀ w ∈ u_ws RX11 TX11 14, w ∈ np_gw := by
  show ∀ w ∈ [(Jvm.Cond.laysFinal "NotationPress" "NotationPress" "draft" "LNotationPress$Items;"), (Jvm.Cond.laysFinal "NotationPress" "NotationPress" "descriptions" "[LNotationPress$Description;"), (Jvm.Cond.lays "NotationPress" "NotationPress" "descriptionCount" "I"), (Jvm.Cond.laysFinal "NotationPress" "NotationPress" "record" "[I"), (Jvm.Cond.laysFinal "NotationPress" "NotationPress" "files" "[LNotationPress$Text;"), (Jvm.Cond.laysFinal "NotationPress" "NotationPress" "tables" "[LNotationPress$Table;"), (Jvm.Cond.laysFinal "NotationPress" "NotationPress" "printer" "LNotationPress$Printer;"), (Jvm.Cond.laysFinal "NotationPress" "NotationPress" "reader" "LNotationPress$Reader;"), (Jvm.Cond.laysFinal "NotationPress" "NotationPress" "sampler" "LNotationPress$Sampler;"), (Jvm.Cond.laysFinal "NotationPress" "NotationPress" "columns" "[LNotationPress$Column;"), (Jvm.Cond.lays "NotationPress" "NotationPress" "columnCount" "I"), (Jvm.Cond.laysFinal "NotationPress" "NotationPress" "upgradeDraft" "LNotationPress$UpgradeDraft;"), (Jvm.Cond.laysFinal "NotationPress" "NotationPress" "upgrades" "[LNotationPress$Upgrade;"), (Jvm.Cond.lays "NotationPress" "NotationPress" "upgradeCount" "I")], w ∈ np_gw
  exact List.forall_mem_cons.mpr ⟨gw520, List.forall_mem_cons.mpr ⟨gw522, List.forall_mem_cons.mpr ⟨gw524, List.forall_mem_cons.mpr ⟨gw526, List.forall_mem_cons.mpr ⟨gw528, List.forall_mem_cons.mpr ⟨gw530, List.forall_mem_cons.mpr ⟨gw532, List.forall_mem_cons.mpr ⟨gw534, List.forall_mem_cons.mpr ⟨gw536, List.forall_mem_cons.mpr ⟨gw538, List.forall_mem_cons.mpr ⟨gw540, List.forall_mem_cons.mpr ⟨gw542, List.forall_mem_cons.mpr ⟨gw544, List.forall_mem_cons.mpr ⟨gw546, fun _ h => nomatch h⟩⟩⟩⟩⟩⟩⟩⟩⟩⟩⟩⟩⟩⟩
theorem ndX11 : ∀ j, j < 14 → defaultValue (tyX11 j) = vp_V [.null, .null, .int 0, .null, .null, .null, .null, .null, .null, .null, .int 0, .null, .null, .int 0] j := by decide +kernel
theorem nfX11 : ∀ v ∈ ([.null, .null, .int 0, .null, .null, .null, .null, .null, .null, .null, .int 0, .null, .null, .int 0] : List Value), ∀ ad : Nat → Nat, np_v ad v = v := by
  intro v hv ad
  simp only [List.mem_cons, List.not_mem_nil, or_false] at hv
  rcases hv with rfl | rfl | rfl | rfl | rfl | rfl | rfl | rfl | rfl | rfl | rfl | rfl | rfl | rfl <;> rfl
set_option maxRecDepth 20000 in
theorem guX12 : ∀ w ∈ u_ws RX12 TX12 77, w ∈ np_gw := by
  show ∀ w ∈ [(Jvm.Cond.lays "NotationPressModel" "NotationPressModel" "drafted" "I"), (Jvm.Cond.laysFinal "NotationPressModel" "NotationPressModel" "draftKind" "[I"), (Jvm.Cond.laysFinal "NotationPressModel" "NotationPressModel" "draftA" "[I"), (Jvm.Cond.laysFinal "NotationPressModel" "NotationPressModel" "draftB" "[I"), (Jvm.Cond.laysFinal "NotationPressModel" "NotationPressModel" "draftC" "[I"), (Jvm.Cond.lays "NotationPressModel" "NotationPressModel" "descriptions" "I"), (Jvm.Cond.laysFinal "NotationPressModel" "NotationPressModel" "many" "[I"), (Jvm.Cond.laysFinal "NotationPressModel" "NotationPressModel" "kind" "[I"), (Jvm.Cond.laysFinal "NotationPressModel" "NotationPressModel" "a" "[I"), (Jvm.Cond.laysFinal "NotationPressModel" "NotationPressModel" "b" "[I"), (Jvm.Cond.laysFinal "NotationPressModel" "NotationPressModel" "c" "[I"), (Jvm.Cond.laysFinal "NotationPressModel" "NotationPressModel" "loopOf" "[I"), (Jvm.Cond.laysFinal "NotationPressModel" "NotationPressModel" "constraints" "[I"), (Jvm.Cond.laysFinal "NotationPressModel" "NotationPressModel" "ruleKind" "[I"), (Jvm.Cond.laysFinal "NotationPressModel" "NotationPressModel" "ruleA" "[I"), (Jvm.Cond.laysFinal "NotationPressModel" "NotationPressModel" "ruleB" "[I"), (Jvm.Cond.laysFinal "NotationPressModel" "NotationPressModel" "ruleC" "[I"), (Jvm.Cond.laysFinal "NotationPressModel" "NotationPressModel" "ruleMessage" "[I"), (Jvm.Cond.laysFinal "NotationPressModel" "NotationPressModel" "record" "[I"), (Jvm.Cond.lays "NotationPressModel" "NotationPressModel" "recordHas" "I"), (Jvm.Cond.laysFinal "NotationPressModel" "NotationPressModel" "text" "[I"), (Jvm.Cond.laysFinal "NotationPressModel" "NotationPressModel" "units" "[I"), (Jvm.Cond.laysFinal "NotationPressModel" "NotationPressModel" "isClosed" "[Z"), (Jvm.Cond.laysFinal "NotationPressModel" "NotationPressModel" "streamOf" "[I"), (Jvm.Cond.laysFinal "NotationPressModel" "NotationPressModel" "place" "[I"), (Jvm.Cond.laysFinal "NotationPressModel" "NotationPressModel" "rows" "[I"), (Jvm.Cond.laysFinal "NotationPressModel" "NotationPressModel" "doubts" "[I"), (Jvm.Cond.laysFinal "NotationPressModel" "NotationPressModel" "table" "[I"), (Jvm.Cond.laysFinal "NotationPressModel" "NotationPressModel" "rowHas" "[I"), (Jvm.Cond.laysFinal "NotationPressModel" "NotationPressModel" "entries" "[I"), (Jvm.Cond.laysFinal "NotationPressModel" "NotationPressModel" "why" "[I"), (Jvm.Cond.laysFinal "NotationPressModel" "NotationPressModel" "from" "[I"), (Jvm.Cond.laysFinal "NotationPressModel" "NotationPressModel" "behind" "[I"), (Jvm.Cond.lays "NotationPressModel" "NotationPressModel" "columns" "I"), (Jvm.Cond.laysFinal "NotationPressModel" "NotationPressModel" "columnFile" "[I"), (Jvm.Cond.laysFinal "NotationPressModel" "NotationPressModel" "columnKind" "[I"), (Jvm.Cond.laysFinal "NotationPressModel" "NotationPressModel" "columnSlot" "[I"), (Jvm.Cond.laysFinal "NotationPressModel" "NotationPressModel" "columnWindow" "[I"), (Jvm.Cond.laysFinal "NotationPressModel" "NotationPressModel" "stepKind" "[I"), (Jvm.Cond.laysFinal "NotationPressModel" "NotationPressModel" "stepA" "[I"), (Jvm.Cond.laysFinal "NotationPressModel" "NotationPressModel" "stepB" "[I"), (Jvm.Cond.lays "NotationPressModel" "NotationPressModel" "upgrades" "I"), (Jvm.Cond.laysFinal "NotationPressModel" "NotationPressModel" "partKind" "[I"), (Jvm.Cond.laysFinal "NotationPressModel" "NotationPressModel" "partNumber" "[I"), (Jvm.Cond.laysFinal "NotationPressModel" "NotationPressModel" "codeFrom" "[I"), (Jvm.Cond.laysFinal "NotationPressModel" "NotationPressModel" "codeLength" "[I"), (Jvm.Cond.lays "NotationPressModel" "NotationPressModel" "made" "I"), (Jvm.Cond.laysFinal "NotationPressModel" "NotationPressModel" "joinedBy" "[I"), (Jvm.Cond.laysFinal "NotationPressModel" "NotationPressModel" "joinedAs" "[I"), (Jvm.Cond.laysFinal "NotationPressModel" "NotationPressModel" "stack" "[J"), (Jvm.Cond.laysFinal "NotationPressModel" "NotationPressModel" "waiting" "[I"), (Jvm.Cond.laysFinal "NotationPressModel" "NotationPressModel" "value" "[I"), (Jvm.Cond.lays "NotationPressModel" "NotationPressModel" "valueHas" "I"), (Jvm.Cond.lays "NotationPressModel" "NotationPressModel" "nextItem" "I"), (Jvm.Cond.lays "NotationPressModel" "NotationPressModel" "nextRound" "I"), (Jvm.Cond.lays "NotationPressModel" "NotationPressModel" "file" "I"), (Jvm.Cond.lays "NotationPressModel" "NotationPressModel" "description" "I"), (Jvm.Cond.lays "NotationPressModel" "NotationPressModel" "start" "I"), (Jvm.Cond.lays "NotationPressModel" "NotationPressModel" "end" "I"), (Jvm.Cond.lays "NotationPressModel" "NotationPressModel" "begun" "I"), (Jvm.Cond.lays "NotationPressModel" "NotationPressModel" "depth" "I"), (Jvm.Cond.laysFinal "NotationPressModel" "NotationPressModel" "itemAt" "[I"), (Jvm.Cond.laysFinal "NotationPressModel" "NotationPressModel" "roundAt" "[I"), (Jvm.Cond.laysFinal "NotationPressModel" "NotationPressModel" "placeAt" "[I"), (Jvm.Cond.laysFinal "NotationPressModel" "NotationPressModel" "choiceAt" "[I"), (Jvm.Cond.laysFinal "NotationPressModel" "NotationPressModel" "manyAt" "[I"), (Jvm.Cond.lays "NotationPressModel" "NotationPressModel" "taken" "I"), (Jvm.Cond.laysFinal "NotationPressModel" "NotationPressModel" "source" "[I"), (Jvm.Cond.lays "NotationPressModel" "NotationPressModel" "sourceHas" "I"), (Jvm.Cond.laysFinal "NotationPressModel" "NotationPressModel" "out" "[I"), (Jvm.Cond.lays "NotationPressModel" "NotationPressModel" "printed" "I"), (Jvm.Cond.lays "NotationPressModel" "NotationPressModel" "fails" "Z"), (Jvm.Cond.laysFinal "NotationPressModel" "NotationPressModel" "printedAt" "[I"), (Jvm.Cond.laysFinal "NotationPressModel" "NotationPressModel" "digits" "[I"), (Jvm.Cond.lays "NotationPressModel" "NotationPressModel" "seed" "J"), (Jvm.Cond.lays "NotationPressModel" "NotationPressModel" "tries" "I"), (Jvm.Cond.lays "NotationPressModel" "NotationPressModel" "thrown" "I")], w ∈ np_gw
  exact List.forall_mem_cons.mpr ⟨gw1713, List.forall_mem_cons.mpr ⟨gw1715, List.forall_mem_cons.mpr ⟨gw1717, List.forall_mem_cons.mpr ⟨gw1719, List.forall_mem_cons.mpr ⟨gw1721, List.forall_mem_cons.mpr ⟨gw1723, List.forall_mem_cons.mpr ⟨gw1725, List.forall_mem_cons.mpr ⟨gw1727, List.forall_mem_cons.mpr ⟨gw1729, List.forall_mem_cons.mpr ⟨gw1731, List.forall_mem_cons.mpr ⟨gw1733, List.forall_mem_cons.mpr ⟨gw1735, List.forall_mem_cons.mpr ⟨gw1737, List.forall_mem_cons.mpr ⟨gw1739, List.forall_mem_cons.mpr ⟨gw1741, List.forall_mem_cons.mpr ⟨gw1743, List.forall_mem_cons.mpr ⟨gw1745, List.forall_mem_cons.mpr ⟨gw1747, List.forall_mem_cons.mpr ⟨gw1749, List.forall_mem_cons.mpr ⟨gw1751, List.forall_mem_cons.mpr ⟨gw1753, List.forall_mem_cons.mpr ⟨gw1755, List.forall_mem_cons.mpr ⟨gw1757, List.forall_mem_cons.mpr ⟨gw1759, List.forall_mem_cons.mpr ⟨gw1761, List.forall_mem_cons.mpr ⟨gw1763, List.forall_mem_cons.mpr ⟨gw1765, List.forall_mem_cons.mpr ⟨gw1767, List.forall_mem_cons.mpr ⟨gw1769, List.forall_mem_cons.mpr ⟨gw1771, List.forall_mem_cons.mpr ⟨gw1773, List.forall_mem_cons.mpr ⟨gw1775, List.forall_mem_cons.mpr ⟨gw1777, List.forall_mem_cons.mpr ⟨gw1779, List.forall_mem_cons.mpr ⟨gw1781, List.forall_mem_cons.mpr ⟨gw1783, List.forall_mem_cons.mpr ⟨gw1785, List.forall_mem_cons.mpr ⟨gw1787, List.forall_mem_cons.mpr ⟨gw1789, List.forall_mem_cons.mpr ⟨gw1791, List.forall_mem_cons.mpr ⟨gw1793, List.forall_mem_cons.mpr ⟨gw1795, List.forall_mem_cons.mpr ⟨gw1797, List.forall_mem_cons.mpr ⟨gw1799, List.forall_mem_cons.mpr ⟨gw1801, List.forall_mem_cons.mpr ⟨gw1803, List.forall_mem_cons.mpr ⟨gw1805, List.forall_mem_cons.mpr ⟨gw1807, List.forall_mem_cons.mpr ⟨gw1809, List.forall_mem_cons.mpr ⟨gw1811, List.forall_mem_cons.mpr ⟨gw1813, List.forall_mem_cons.mpr ⟨gw1815, List.forall_mem_cons.mpr ⟨gw1817, List.forall_mem_cons.mpr ⟨gw1819, List.forall_mem_cons.mpr ⟨gw1821, List.forall_mem_cons.mpr ⟨gw1823, List.forall_mem_cons.mpr ⟨gw1825, List.forall_mem_cons.mpr ⟨gw1827, List.forall_mem_cons.mpr ⟨gw1829, List.forall_mem_cons.mpr ⟨gw1831, List.forall_mem_cons.mpr ⟨gw1833, List.forall_mem_cons.mpr ⟨gw1835, List.forall_mem_cons.mpr ⟨gw1837, List.forall_mem_cons.mpr ⟨gw1839, List.forall_mem_cons.mpr ⟨gw1841, List.forall_mem_cons.mpr ⟨gw1843, List.forall_mem_cons.mpr ⟨gw1845, List.forall_mem_cons.mpr ⟨gw1847, List.forall_mem_cons.mpr ⟨gw1849, List.forall_mem_cons.mpr ⟨gw1851, List.forall_mem_cons.mpr ⟨gw1853, List.forall_mem_cons.mpr ⟨gw1855, List.forall_mem_cons.mpr ⟨gw1857, List.forall_mem_cons.mpr ⟨gw1859, List.forall_mem_cons.mpr ⟨gw1861, List.forall_mem_cons.mpr ⟨gw1863, List.forall_mem_cons.mpr ⟨gw1865, fun _ h => nomatch h⟩⟩⟩⟩⟩⟩⟩⟩⟩⟩⟩⟩⟩⟩⟩⟩⟩⟩⟩⟩⟩⟩⟩⟩⟩⟩⟩⟩⟩⟩⟩⟩⟩⟩⟩⟩⟩⟩⟩⟩⟩⟩⟩⟩⟩⟩⟩⟩⟩⟩⟩⟩⟩⟩⟩⟩⟩⟩⟩⟩⟩⟩⟩⟩⟩⟩⟩⟩⟩⟩⟩⟩⟩⟩⟩⟩⟩
theorem ndX12 : ∀ j, j < 77 → defaultValue (tyX12 j) = vp_V [.int 0, .null, .null, .null, .null, .int 0, .null, .null, .null, .null, .null, .null, .null, .null, .null, .null, .null, .null, .null, .int 0, .null, .null, .null, .null, .null, .null, .null, .null, .null, .null, .null, .null, .null, .int 0, .null, .null, .null, .null, .null, .null, .null, .int 0, .null, .null, .null, .null, .int 0, .null, .null, .null, .null, .null, .int 0, .int 0, .int 0, .int 0, .int 0, .int 0, .int 0, .int 0, .int 0, .null, .null, .null, .null, .null, .int 0, .null, .int 0, .null, .int 0, .int 0, .null, .null, .long 0, .int 0, .int 0] j := by decide +kernel
theorem nfX12 : ∀ v ∈ ([.int 0, .null, .null, .null, .null, .int 0, .null, .null, .null, .null, .null, .null, .null, .null, .null, .null, .null, .null, .null, .int 0, .null, .null, .null, .null, .null, .null, .null, .null, .null, .null, .null, .null, .null, .int 0, .null, .null, .null, .null, .null, .null, .null, .int 0, .null, .null, .null, .null, .int 0, .null, .null, .null, .null, .null, .int 0, .int 0, .int 0, .int 0, .int 0, .int 0, .int 0, .int 0, .int 0, .null, .null, .null, .null, .null, .int 0, .null, .int 0, .null, .int 0, .int 0, .null, .null, .long 0, .int 0, .int 0] : List Value), ∀ ad : Nat → Nat, np_v ad v = v := by
  intro v hv ad
  simp only [List.mem_cons, List.not_mem_nil, or_false] at hv
  rcases hv with rfl | rfl | rfl | rfl | rfl | rfl | rfl | rfl | rfl | rfl | rfl | rfl | rfl | rfl | rfl | rfl | rfl | rfl | rfl | rfl | rfl | rfl | rfl | rfl | rfl | rfl | rfl | rfl | rfl | rfl | rfl | rfl | rfl | rfl | rfl | rfl | rfl | rfl | rfl | rfl | rfl | rfl | rfl | rfl | rfl | rfl | rfl | rfl | rfl | rfl | rfl | rfl | rfl | rfl | rfl | rfl | rfl | rfl | rfl | rfl | rfl | rfl | rfl | rfl | rfl | rfl | rfl | rfl | rfl | rfl | rfl | rfl | rfl | rfl | rfl | rfl | rfl <;> rfl
theorem dX12_dropsSteps_0 : decode cX12_dropsSteps 0 = .ok (.iconst 0, 1) := by decide +kernel
theorem dX12_dropsSteps_1 : decode cX12_dropsSteps 1 = .ok (.istore_n 1, 1) := by decide +kernel
theorem dX12_dropsSteps_2 : decode cX12_dropsSteps 2 = .ok (.iload_n 1, 1) := by decide +kernel
theorem dX12_dropsSteps_3 : decode cX12_dropsSteps 3 = .ok (.bipush 8, 2) := by decide +kernel
theorem dX12_dropsSteps_5 : decode cX12_dropsSteps 5 = .ok (.if_icmp .ge 16, 3) := by decide +kernel
theorem dX12_dropsSteps_8 : decode cX12_dropsSteps 8 = .ok (.aload_n 0, 1) := by decide +kernel
theorem dX12_dropsSteps_9 : decode cX12_dropsSteps 9 = .ok (.getfield 113, 3) := by decide +kernel
theorem dX12_dropsSteps_12 : decode cX12_dropsSteps 12 = .ok (.iload_n 1, 1) := by decide +kernel
theorem dX12_dropsSteps_13 : decode cX12_dropsSteps 13 = .ok (.iconst (-1), 1) := by decide +kernel
theorem dX12_dropsSteps_14 : decode cX12_dropsSteps 14 = .ok (.iastore, 1) := by decide +kernel
theorem dX12_dropsSteps_15 : decode cX12_dropsSteps 15 = .ok (.iinc 1 1, 3) := by decide +kernel
theorem dX12_dropsSteps_18 : decode cX12_dropsSteps 18 = .ok (.goto (-16), 3) := by decide +kernel
theorem dX12_dropsSteps_21 : decode cX12_dropsSteps 21 = .ok (.return_, 1) := by decide +kernel
def is_X12_dropsSteps (Rt : np_Rt) : List (Nat × np_Op) := [(0, np_push 1 (.int 0)), (1, np_ist 1 1), (2, np_ild 1 1), (3, np_push 2 (.int 8)), (5, nq_ic (fun x y => y ≤ x) 21), (8, np_ald 1 0), (9, nq_getf 12 38), (12, np_ild 1 1), (13, np_push 1 (.int (-1))), (14, nq_iastT .int), (15, np_iinc 1 1), (18, np_goto 2), (21, np_ret Rt)]
set_option maxRecDepth 20000 in
theorem so_X12_dropsSteps {X : np_Ctx} {Rt : np_Rt} (hX : np_ok RX12 cX12_dropsSteps 2 0 0 0 0 .return_ X) (hR : ∀ st w ce sl, Rt st w ce sl → X.2.2.1 st w ce sl) : ∀ q ∈ is_X12_dropsSteps Rt, np_S X q.1 q.2 :=
  List.forall_mem_cons.mpr ⟨np_s_iconst hX dX12_dropsSteps_0 (by decide), List.forall_mem_cons.mpr ⟨np_s_istore_n hX dX12_dropsSteps_1 rfl (by decide), List.forall_mem_cons.mpr ⟨np_s_iload_n hX dX12_dropsSteps_2 rfl, List.forall_mem_cons.mpr ⟨np_s_bipush hX dX12_dropsSteps_3 (by decide), List.forall_mem_cons.mpr ⟨np_S.mono (op := np_ic (fun x y => y ≤ x) 21) (np_s_icmp_ge hX dX12_dropsSteps_5 (by decide)) nq_ic_le, List.forall_mem_cons.mpr ⟨np_s_aload_n hX dX12_dropsSteps_8 rfl, List.forall_mem_cons.mpr ⟨np_S.mono (op := np_getf 12 38) (np_s_getf hX dX12_dropsSteps_9 (C := RX12) (T := TX12) (N := 77) rfl guX12 (by decide) gw1674) nq_getf_le, List.forall_mem_cons.mpr ⟨np_s_iload_n hX dX12_dropsSteps_12 rfl, List.forall_mem_cons.mpr ⟨np_s_iconst hX dX12_dropsSteps_13 (by decide), List.forall_mem_cons.mpr ⟨np_S.mono (op := np_iastT .int) (np_s_iast hX dX12_dropsSteps_14) nq_iastT_le, List.forall_mem_cons.mpr ⟨np_s_iinc hX dX12_dropsSteps_15 (by decide), List.forall_mem_cons.mpr ⟨np_s_goto hX dX12_dropsSteps_18 (by decide), List.forall_mem_cons.mpr ⟨np_S.mono (op := np_ret X.2.2.1) (np_s_ret hX dX12_dropsSteps_21) (nq_ret_le hR), fun _ h => nomatch h⟩⟩⟩⟩⟩⟩⟩⟩⟩⟩⟩⟩⟩
abbrev sp_X12_dropsSteps : np_Sp := nq_in is_X12_dropsSteps none 0 0 100
theorem C_X12_dropsSteps : np_C yX12_dropsSteps cX12_dropsSteps 2 none 0 0 0 0 sp_X12_dropsSteps := nq_inC 100 (by decide) (fun X Rt hX hmn hR => so_X12_dropsSteps hX hR)
theorem dX11_init_0 : decode cX11_init 0 = .ok (.aload_n 0, 1) := by decide +kernel
theorem dX11_init_1 : decode cX11_init 1 = .ok (.invokespecial 5, 3) := by decide +kernel
theorem dX11_init_4 : decode cX11_init 4 = .ok (.aload_n 0, 1) := by decide +kernel
theorem dX11_init_5 : decode cX11_init 5 = .ok (.new 11, 3) := by decide +kernel
theorem dX11_init_8 : decode cX11_init 8 = .ok (.dup, 1) := by decide +kernel
theorem dX11_init_9 : decode cX11_init 9 = .ok (.invokespecial 13, 3) := by decide +kernel
theorem dX11_init_12 : decode cX11_init 12 = .ok (.putfield 14, 3) := by decide +kernel
theorem dX11_init_15 : decode cX11_init 15 = .ok (.aload_n 0, 1) := by decide +kernel
theorem dX11_init_16 : decode cX11_init 16 = .ok (.bipush 6, 2) := by decide +kernel
theorem dX11_init_18 : decode cX11_init 18 = .ok (.anewarray 18, 3) := by decide +kernel
theorem dX11_init_21 : decode cX11_init 21 = .ok (.putfield 20, 3) := by decide +kernel
theorem dX11_init_24 : decode cX11_init 24 = .ok (.aload_n 0, 1) := by decide +kernel
theorem dX11_init_25 : decode cX11_init 25 = .ok (.invokestatic 24, 3) := by decide +kernel
theorem dX11_init_28 : decode cX11_init 28 = .ok (.putfield 28, 3) := by decide +kernel
theorem dX11_init_31 : decode cX11_init 31 = .ok (.aload_n 0, 1) := by decide +kernel
theorem dX11_init_32 : decode cX11_init 32 = .ok (.iconst 2, 1) := by decide +kernel
theorem dX11_init_33 : decode cX11_init 33 = .ok (.anewarray 32, 3) := by decide +kernel
theorem dX11_init_36 : decode cX11_init 36 = .ok (.putfield 34, 3) := by decide +kernel
theorem dX11_init_39 : decode cX11_init 39 = .ok (.aload_n 0, 1) := by decide +kernel
theorem dX11_init_40 : decode cX11_init 40 = .ok (.iconst 2, 1) := by decide +kernel
theorem dX11_init_41 : decode cX11_init 41 = .ok (.anewarray 38, 3) := by decide +kernel
theorem dX11_init_44 : decode cX11_init 44 = .ok (.putfield 40, 3) := by decide +kernel
theorem dX11_init_47 : decode cX11_init 47 = .ok (.aload_n 0, 1) := by decide +kernel
theorem dX11_init_48 : decode cX11_init 48 = .ok (.new 44, 3) := by decide +kernel
theorem dX11_init_51 : decode cX11_init 51 = .ok (.dup, 1) := by decide +kernel
theorem dX11_init_52 : decode cX11_init 52 = .ok (.invokespecial 46, 3) := by decide +kernel
theorem dX11_init_55 : decode cX11_init 55 = .ok (.putfield 47, 3) := by decide +kernel
theorem dX11_init_58 : decode cX11_init 58 = .ok (.aload_n 0, 1) := by decide +kernel
theorem dX11_init_59 : decode cX11_init 59 = .ok (.new 51, 3) := by decide +kernel
theorem dX11_init_62 : decode cX11_init 62 = .ok (.dup, 1) := by decide +kernel
theorem dX11_init_63 : decode cX11_init 63 = .ok (.invokespecial 53, 3) := by decide +kernel
theorem dX11_init_66 : decode cX11_init 66 = .ok (.putfield 54, 3) := by decide +kernel
theorem dX11_init_69 : decode cX11_init 69 = .ok (.aload_n 0, 1) := by decide +kernel
theorem dX11_init_70 : decode cX11_init 70 = .ok (.new 58, 3) := by decide +kernel
theorem dX11_init_73 : decode cX11_init 73 = .ok (.dup, 1) := by decide +kernel
theorem dX11_init_74 : decode cX11_init 74 = .ok (.invokespecial 60, 3) := by decide +kernel
theorem dX11_init_77 : decode cX11_init 77 = .ok (.putfield 61, 3) := by decide +kernel
theorem dX11_init_80 : decode cX11_init 80 = .ok (.aload_n 0, 1) := by decide +kernel
theorem dX11_init_81 : decode cX11_init 81 = .ok (.bipush 6, 2) := by decide +kernel
theorem dX11_init_83 : decode cX11_init 83 = .ok (.anewarray 65, 3) := by decide +kernel
theorem dX11_init_86 : decode cX11_init 86 = .ok (.putfield 67, 3) := by decide +kernel
theorem dX11_init_89 : decode cX11_init 89 = .ok (.aload_n 0, 1) := by decide +kernel
theorem dX11_init_90 : decode cX11_init 90 = .ok (.new 71, 3) := by decide +kernel
theorem dX11_init_93 : decode cX11_init 93 = .ok (.dup, 1) := by decide +kernel
theorem dX11_init_94 : decode cX11_init 94 = .ok (.invokespecial 73, 3) := by decide +kernel
theorem dX11_init_97 : decode cX11_init 97 = .ok (.putfield 74, 3) := by decide +kernel
theorem dX11_init_100 : decode cX11_init 100 = .ok (.aload_n 0, 1) := by decide +kernel
theorem dX11_init_101 : decode cX11_init 101 = .ok (.bipush 8, 2) := by decide +kernel
theorem dX11_init_103 : decode cX11_init 103 = .ok (.anewarray 78, 3) := by decide +kernel
theorem dX11_init_106 : decode cX11_init 106 = .ok (.putfield 80, 3) := by decide +kernel
theorem dX11_init_109 : decode cX11_init 109 = .ok (.iconst 0, 1) := by decide +kernel
theorem dX11_init_110 : decode cX11_init 110 = .ok (.istore_n 1, 1) := by decide +kernel
theorem dX11_init_111 : decode cX11_init 111 = .ok (.iload_n 1, 1) := by decide +kernel
theorem dX11_init_112 : decode cX11_init 112 = .ok (.aload_n 0, 1) := by decide +kernel
theorem dX11_init_113 : decode cX11_init 113 = .ok (.getfield 20, 3) := by decide +kernel
theorem dX11_init_116 : decode cX11_init 116 = .ok (.arraylength, 1) := by decide +kernel
theorem dX11_init_117 : decode cX11_init 117 = .ok (.if_icmp .ge 22, 3) := by decide +kernel
theorem dX11_init_120 : decode cX11_init 120 = .ok (.aload_n 0, 1) := by decide +kernel
theorem dX11_init_121 : decode cX11_init 121 = .ok (.getfield 20, 3) := by decide +kernel
theorem dX11_init_124 : decode cX11_init 124 = .ok (.iload_n 1, 1) := by decide +kernel
theorem dX11_init_125 : decode cX11_init 125 = .ok (.new 18, 3) := by decide +kernel
theorem dX11_init_128 : decode cX11_init 128 = .ok (.dup, 1) := by decide +kernel
theorem dX11_init_129 : decode cX11_init 129 = .ok (.invokespecial 84, 3) := by decide +kernel
theorem dX11_init_132 : decode cX11_init 132 = .ok (.aastore, 1) := by decide +kernel
theorem dX11_init_133 : decode cX11_init 133 = .ok (.iinc 1 1, 3) := by decide +kernel
theorem dX11_init_136 : decode cX11_init 136 = .ok (.goto (-25), 3) := by decide +kernel
theorem dX11_init_139 : decode cX11_init 139 = .ok (.iconst 0, 1) := by decide +kernel
theorem dX11_init_140 : decode cX11_init 140 = .ok (.istore_n 1, 1) := by decide +kernel
theorem dX11_init_141 : decode cX11_init 141 = .ok (.iload_n 1, 1) := by decide +kernel
theorem dX11_init_142 : decode cX11_init 142 = .ok (.aload_n 0, 1) := by decide +kernel
theorem dX11_init_143 : decode cX11_init 143 = .ok (.getfield 34, 3) := by decide +kernel
theorem dX11_init_146 : decode cX11_init 146 = .ok (.arraylength, 1) := by decide +kernel
theorem dX11_init_147 : decode cX11_init 147 = .ok (.if_icmp .ge 22, 3) := by decide +kernel
theorem dX11_init_150 : decode cX11_init 150 = .ok (.aload_n 0, 1) := by decide +kernel
theorem dX11_init_151 : decode cX11_init 151 = .ok (.getfield 34, 3) := by decide +kernel
theorem dX11_init_154 : decode cX11_init 154 = .ok (.iload_n 1, 1) := by decide +kernel
theorem dX11_init_155 : decode cX11_init 155 = .ok (.new 32, 3) := by decide +kernel
theorem dX11_init_158 : decode cX11_init 158 = .ok (.dup, 1) := by decide +kernel
theorem dX11_init_159 : decode cX11_init 159 = .ok (.invokespecial 85, 3) := by decide +kernel
theorem dX11_init_162 : decode cX11_init 162 = .ok (.aastore, 1) := by decide +kernel
theorem dX11_init_163 : decode cX11_init 163 = .ok (.iinc 1 1, 3) := by decide +kernel
theorem dX11_init_166 : decode cX11_init 166 = .ok (.goto (-25), 3) := by decide +kernel
theorem dX11_init_169 : decode cX11_init 169 = .ok (.iconst 0, 1) := by decide +kernel
theorem dX11_init_170 : decode cX11_init 170 = .ok (.istore_n 1, 1) := by decide +kernel
theorem dX11_init_171 : decode cX11_init 171 = .ok (.iload_n 1, 1) := by decide +kernel
theorem dX11_init_172 : decode cX11_init 172 = .ok (.aload_n 0, 1) := by decide +kernel
theorem dX11_init_173 : decode cX11_init 173 = .ok (.getfield 40, 3) := by decide +kernel
theorem dX11_init_176 : decode cX11_init 176 = .ok (.arraylength, 1) := by decide +kernel
theorem dX11_init_177 : decode cX11_init 177 = .ok (.if_icmp .ge 22, 3) := by decide +kernel
theorem dX11_init_180 : decode cX11_init 180 = .ok (.aload_n 0, 1) := by decide +kernel
theorem dX11_init_181 : decode cX11_init 181 = .ok (.getfield 40, 3) := by decide +kernel
theorem dX11_init_184 : decode cX11_init 184 = .ok (.iload_n 1, 1) := by decide +kernel
theorem dX11_init_185 : decode cX11_init 185 = .ok (.new 38, 3) := by decide +kernel
theorem dX11_init_188 : decode cX11_init 188 = .ok (.dup, 1) := by decide +kernel
theorem dX11_init_189 : decode cX11_init 189 = .ok (.invokespecial 86, 3) := by decide +kernel
theorem dX11_init_192 : decode cX11_init 192 = .ok (.aastore, 1) := by decide +kernel
theorem dX11_init_193 : decode cX11_init 193 = .ok (.iinc 1 1, 3) := by decide +kernel
theorem dX11_init_196 : decode cX11_init 196 = .ok (.goto (-25), 3) := by decide +kernel
theorem dX11_init_199 : decode cX11_init 199 = .ok (.iconst 0, 1) := by decide +kernel
theorem dX11_init_200 : decode cX11_init 200 = .ok (.istore_n 1, 1) := by decide +kernel
theorem dX11_init_201 : decode cX11_init 201 = .ok (.iload_n 1, 1) := by decide +kernel
theorem dX11_init_202 : decode cX11_init 202 = .ok (.aload_n 0, 1) := by decide +kernel
theorem dX11_init_203 : decode cX11_init 203 = .ok (.getfield 67, 3) := by decide +kernel
theorem dX11_init_206 : decode cX11_init 206 = .ok (.arraylength, 1) := by decide +kernel
theorem dX11_init_207 : decode cX11_init 207 = .ok (.if_icmp .ge 22, 3) := by decide +kernel
theorem dX11_init_210 : decode cX11_init 210 = .ok (.aload_n 0, 1) := by decide +kernel
theorem dX11_init_211 : decode cX11_init 211 = .ok (.getfield 67, 3) := by decide +kernel
theorem dX11_init_214 : decode cX11_init 214 = .ok (.iload_n 1, 1) := by decide +kernel
theorem dX11_init_215 : decode cX11_init 215 = .ok (.new 65, 3) := by decide +kernel
theorem dX11_init_218 : decode cX11_init 218 = .ok (.dup, 1) := by decide +kernel
theorem dX11_init_219 : decode cX11_init 219 = .ok (.invokespecial 87, 3) := by decide +kernel
theorem dX11_init_222 : decode cX11_init 222 = .ok (.aastore, 1) := by decide +kernel
theorem dX11_init_223 : decode cX11_init 223 = .ok (.iinc 1 1, 3) := by decide +kernel
theorem dX11_init_226 : decode cX11_init 226 = .ok (.goto (-25), 3) := by decide +kernel
theorem dX11_init_229 : decode cX11_init 229 = .ok (.iconst 0, 1) := by decide +kernel
theorem dX11_init_230 : decode cX11_init 230 = .ok (.istore_n 1, 1) := by decide +kernel
theorem dX11_init_231 : decode cX11_init 231 = .ok (.iload_n 1, 1) := by decide +kernel
theorem dX11_init_232 : decode cX11_init 232 = .ok (.aload_n 0, 1) := by decide +kernel
theorem dX11_init_233 : decode cX11_init 233 = .ok (.getfield 80, 3) := by decide +kernel
theorem dX11_init_236 : decode cX11_init 236 = .ok (.arraylength, 1) := by decide +kernel
theorem dX11_init_237 : decode cX11_init 237 = .ok (.if_icmp .ge 22, 3) := by decide +kernel
theorem dX11_init_240 : decode cX11_init 240 = .ok (.aload_n 0, 1) := by decide +kernel
theorem dX11_init_241 : decode cX11_init 241 = .ok (.getfield 80, 3) := by decide +kernel
theorem dX11_init_244 : decode cX11_init 244 = .ok (.iload_n 1, 1) := by decide +kernel
theorem dX11_init_245 : decode cX11_init 245 = .ok (.new 78, 3) := by decide +kernel
theorem dX11_init_248 : decode cX11_init 248 = .ok (.dup, 1) := by decide +kernel
theorem dX11_init_249 : decode cX11_init 249 = .ok (.invokespecial 88, 3) := by decide +kernel
theorem dX11_init_252 : decode cX11_init 252 = .ok (.aastore, 1) := by decide +kernel
theorem dX11_init_253 : decode cX11_init 253 = .ok (.iinc 1 1, 3) := by decide +kernel
theorem dX11_init_256 : decode cX11_init 256 = .ok (.goto (-25), 3) := by decide +kernel
theorem dX11_init_259 : decode cX11_init 259 = .ok (.return_, 1) := by decide +kernel
def is_X11_init (Rt : np_Rt) : List (Nat × np_Op) := [(0, np_ald 1 0), (1, np_oinit), (4, np_ald 1 0), (5, nq_new 2 5 [.null, .null, .null, .null, .int 0] 1495 26209), (8, nq_dup), (9, nq_callI 1 sp_X2_init 1 4 56 1495 26209), (12, nq_putf 11 0 (.object "NotationPress$Items")), (15, np_ald 1 0), (16, np_push 2 (.int 6)), (18, np_anew "NotationPress$Description" 6 1495 26209), (21, nq_putf 11 1 (.array (.object "NotationPress$Description"))), (24, np_ald 1 0), (25, nq_call 0 sp_X11_emptyCells 1 1 24 1495 26209), (28, nq_putf 11 3 (.array .int)), (31, np_ald 1 0), (32, np_push 1 (.int 2)), (33, np_anew "NotationPress$Text" 2 1495 26209), (36, nq_putf 11 4 (.array (.object "NotationPress$Text"))), (39, np_ald 1 0), (40, np_push 1 (.int 2)), (41, np_anew "NotationPress$Table" 2 1495 26209), (44, nq_putf 11 5 (.array (.object "NotationPress$Table"))), (47, np_ald 1 0), (48, nq_new 3 3 [.null, .null, .null] 1495 26209), (51, nq_dup), (52, nq_callI 1 (np_spF np_bX3_init) 1 5 109 1495 26209), (55, nq_putf 11 6 (.object "NotationPress$Printer")), (58, np_ald 1 0), (59, nq_new 4 11 [.null, .null, .null, .null, .null, .null, .null, .int 0, .int 0, .int 0, .int 0] 1495 26209), (62, nq_dup), (63, nq_callI 1 (np_spF np_bX4_init) 2 1235 17519 1495 26209), (66, nq_putf 11 7 (.object "NotationPress$Reader")), (69, np_ald 1 0), (70, nq_new 5 5 [.null, .null, .null, .int 0, .int 0] 1495 26209), (73, nq_dup), (74, nq_callI 1 (np_spF np_bX5_init) 2 81 1144 1495 26209), (77, nq_putf 11 8 (.object "NotationPress$Sampler")), (80, np_ald 1 0), (81, np_push 2 (.int 6)), (83, np_anew "NotationPress$Column" 6 1495 26209), (86, nq_putf 11 9 (.array (.object "NotationPress$Column"))), (89, np_ald 1 0), (90, nq_new 10 3 [.null, .null, .null] 1495 26209), (93, nq_dup), (94, nq_callI 1 sp_X10_init 1 3 24 1495 26209), (97, nq_putf 11 11 (.object "NotationPress$UpgradeDraft")), (100, np_ald 1 0), (101, np_push 2 (.int 8)), (103, np_anew "NotationPress$Upgrade" 8 1495 26209), (106, nq_putf 11 12 (.array (.object "NotationPress$Upgrade"))), (109, np_push 1 (.int 0)), (110, np_ist 1 1), (111, np_ild 1 1), (112, np_ald 1 0), (113, nq_getf 11 1), (116, np_alen), (117, nq_ic (fun x y => y ≤ x) 139), (120, np_ald 1 0), (121, nq_getf 11 1), (124, np_ild 1 1), (125, nq_new 1 7 [.null, .null, .null, .null, .null, .null, .int 0] 1495 26209), (128, nq_dup), (129, nq_callI 1 sp_X1_init 1 10 101 1495 26209), (132, np_aast 1 RX1), (133, np_iinc 1 1), (136, np_goto 111), (139, np_push 1 (.int 0)), (140, np_ist 1 1), (141, np_ild 1 1), (142, np_ald 1 0), (143, nq_getf 11 4), (146, np_alen), (147, nq_ic (fun x y => y ≤ x) 169), (150, np_ald 1 0), (151, nq_getf 11 4), (154, np_ild 1 1), (155, nq_new 7 3 [.null, .int 0, .int 0] 1495 26209), (158, nq_dup), (159, nq_callI 1 sp_X7_init 1 1 300 1495 26209), (162, np_aast 7 RX7), (163, np_iinc 1 1), (166, np_goto 141), (169, np_push 1 (.int 0)), (170, np_ist 1 1), (171, np_ild 1 1), (172, np_ald 1 0), (173, nq_getf 11 5), (176, np_alen), (177, nq_ic (fun x y => y ≤ x) 199), (180, np_ald 1 0), (181, nq_getf 11 5), (184, np_ild 1 1), (185, nq_new 6 12 [.null, .null, .null, .null, .null, .null, .int 0, .int 0, .int 0, .int 0, .int 0, .int 0] 1495 26209), (188, nq_dup), (189, nq_callI 1 sp_X6_init 1 5 1580 1495 26209), (192, np_aast 6 RX6), (193, np_iinc 1 1), (196, np_goto 171), (199, np_push 1 (.int 0)), (200, np_ist 1 1), (201, np_ild 1 1), (202, np_ald 1 0), (203, nq_getf 11 9), (206, np_alen), (207, nq_ic (fun x y => y ≤ x) 229), (210, np_ald 1 0), (211, nq_getf 11 9), (214, np_ild 1 1), (215, nq_new 0 6 [.null, .null, .null, .int 0, .int 0, .int 0] 1495 26209), (218, nq_dup), (219, nq_callI 1 sp_X0_init 1 2 48 1495 26209), (222, np_aast 0 RX0), (223, np_iinc 1 1), (226, np_goto 201), (229, np_push 1 (.int 0)), (230, np_ist 1 1), (231, np_ild 1 1), (232, np_ald 1 0), (233, nq_getf 11 12), (236, np_alen), (237, nq_ic (fun x y => y ≤ x) 259), (240, np_ald 1 0), (241, nq_getf 11 12), (244, np_ild 1 1), (245, nq_new 9 7 [.null, .null, .null, .null, .null, .null, .int 0] 1495 26209), (248, nq_dup), (249, nq_callI 1 sp_X9_init 1 6 308 1495 26209), (252, np_aast 9 RX9), (253, np_iinc 1 1), (256, np_goto 231), (259, np_ret Rt)]
set_option maxRecDepth 20000 in
theorem so_X11_init {X : np_Ctx} {Rt : np_Rt} (hX : np_ok RX11 cX11_init 2 4 83 1495 26209 .return_ X) (hmn : np_mn X = "<init>") (hR : ∀ st w ce sl, Rt st w ce sl → X.2.2.1 st w ce sl) : ∀ q ∈ is_X11_init Rt, np_S X q.1 q.2 :=
  List.forall_mem_cons.mpr ⟨np_s_aload_n hX dX11_init_0 rfl, List.forall_mem_cons.mpr ⟨np_s_oinit hX dX11_init_1 gw156 gw157 gw158 (by decide) (by decide), List.forall_mem_cons.mpr ⟨np_s_aload_n hX dX11_init_4 rfl, List.forall_mem_cons.mpr ⟨np_S.mono (op := np_new 2 5 [.null, .null, .null, .null, .int 0] 1495 26209) (np_s_new hX dX11_init_5 (C := RX2) (T := TX2) (ty0 := tyX2) rfl guX2 tyX2_ok gw159 gw160 gw131 ndX2 nfX2) nq_new_le, List.forall_mem_cons.mpr ⟨np_S.mono (op := np_dup) (np_s_dup hX dX11_init_8) nq_dup_le, List.forall_mem_cons.mpr ⟨np_S.mono (op := np_callI 1 sp_X2_init 1 4 56 1495 26209) (np_s_callIN hX C_X2_init dX11_init_9 rfl gw163 gw131 gw161 gw162 ⟨by decide, by decide, by decide⟩ (by decide) (by decide)) nq_callI_le, List.forall_mem_cons.mpr ⟨np_S.mono (op := np_putf 11 0 (.object "NotationPress$Items")) (np_s_putF hX dX11_init_12 hmn (C := RX11) (T := TX11) (N := 14) (ty0 := tyX11) rfl guX11 tyX11_ok nmX11 (by decide) gw506 rfl rfl rfl) nq_putf_le, List.forall_mem_cons.mpr ⟨np_s_aload_n hX dX11_init_15 rfl, List.forall_mem_cons.mpr ⟨np_s_bipush hX dX11_init_16 (by decide), List.forall_mem_cons.mpr ⟨np_s_anew hX dX11_init_18 gw184 (by decide) (by decide) (by decide), List.forall_mem_cons.mpr ⟨np_S.mono (op := np_putf 11 1 (.array (.object "NotationPress$Description"))) (np_s_putF hX dX11_init_21 hmn (C := RX11) (T := TX11) (N := 14) (ty0 := tyX11) rfl guX11 tyX11_ok nmX11 (by decide) gw507 rfl rfl rfl) nq_putf_le, List.forall_mem_cons.mpr ⟨np_s_aload_n hX dX11_init_24 rfl, List.forall_mem_cons.mpr ⟨np_S.mono (op := np_call 0 sp_X11_emptyCells 1 1 24 1495 26209) (np_s_callS hX C_X11_emptyCells dX11_init_25 gw188 gw130 gw186 gw187 ⟨by decide, by decide, by decide⟩ (by decide) (by decide)) nq_call_le, List.forall_mem_cons.mpr ⟨np_S.mono (op := np_putf 11 3 (.array .int)) (np_s_putF hX dX11_init_28 hmn (C := RX11) (T := TX11) (N := 14) (ty0 := tyX11) rfl guX11 tyX11_ok nmX11 (by decide) gw509 rfl rfl rfl) nq_putf_le, List.forall_mem_cons.mpr ⟨np_s_aload_n hX dX11_init_31 rfl, List.forall_mem_cons.mpr ⟨np_s_iconst hX dX11_init_32 (by decide), List.forall_mem_cons.mpr ⟨np_s_anew hX dX11_init_33 gw193 (by decide) (by decide) (by decide), List.forall_mem_cons.mpr ⟨np_S.mono (op := np_putf 11 4 (.array (.object "NotationPress$Text"))) (np_s_putF hX dX11_init_36 hmn (C := RX11) (T := TX11) (N := 14) (ty0 := tyX11) rfl guX11 tyX11_ok nmX11 (by decide) gw510 rfl rfl rfl) nq_putf_le, List.forall_mem_cons.mpr ⟨np_s_aload_n hX dX11_init_39 rfl, List.forall_mem_cons.mpr ⟨np_s_iconst hX dX11_init_40 (by decide), List.forall_mem_cons.mpr ⟨np_s_anew hX dX11_init_41 gw195 (by decide) (by decide) (by decide), List.forall_mem_cons.mpr ⟨np_S.mono (op := np_putf 11 5 (.array (.object "NotationPress$Table"))) (np_s_putF hX dX11_init_44 hmn (C := RX11) (T := TX11) (N := 14) (ty0 := tyX11) rfl guX11 tyX11_ok nmX11 (by decide) gw511 rfl rfl rfl) nq_putf_le, List.forall_mem_cons.mpr ⟨np_s_aload_n hX dX11_init_47 rfl, List.forall_mem_cons.mpr ⟨np_S.mono (op := np_new 3 3 [.null, .null, .null] 1495 26209) (np_s_new hX dX11_init_48 (C := RX3) (T := TX3) (ty0 := tyX3) rfl guX3 tyX3_ok gw197 gw198 gw132 ndX3 nfX3) nq_new_le, List.forall_mem_cons.mpr ⟨np_S.mono (op := np_dup) (np_s_dup hX dX11_init_51) nq_dup_le, List.forall_mem_cons.mpr ⟨np_S.mono (op := np_callI 1 (np_spF np_bX3_init) 1 5 109 1495 26209) (np_s_callIN hX C_X3_init dX11_init_52 rfl gw201 gw132 gw199 gw200 ⟨by decide, by decide, by decide⟩ (by decide) (by decide)) nq_callI_le, List.forall_mem_cons.mpr ⟨np_S.mono (op := np_putf 11 6 (.object "NotationPress$Printer")) (np_s_putF hX dX11_init_55 hmn (C := RX11) (T := TX11) (N := 14) (ty0 := tyX11) rfl guX11 tyX11_ok nmX11 (by decide) gw512 rfl rfl rfl) nq_putf_le, List.forall_mem_cons.mpr ⟨np_s_aload_n hX dX11_init_58 rfl, List.forall_mem_cons.mpr ⟨np_S.mono (op := np_new 4 11 [.null, .null, .null, .null, .null, .null, .null, .int 0, .int 0, .int 0, .int 0] 1495 26209) (np_s_new hX dX11_init_59 (C := RX4) (T := TX4) (ty0 := tyX4) rfl guX4 tyX4_ok gw257 gw258 gw134 ndX4 nfX4) nq_new_le, List.forall_mem_cons.mpr ⟨np_S.mono (op := np_dup) (np_s_dup hX dX11_init_62) nq_dup_le, List.forall_mem_cons.mpr ⟨np_S.mono (op := np_callI 1 (np_spF np_bX4_init) 2 1235 17519 1495 26209) (np_s_callI hX C_X4_init dX11_init_63 rfl gw261 gw134 gw259 gw260 ⟨by decide, by decide, by decide⟩ (by decide) (by decide)) nq_callI_le, List.forall_mem_cons.mpr ⟨np_S.mono (op := np_putf 11 7 (.object "NotationPress$Reader")) (np_s_putF hX dX11_init_66 hmn (C := RX11) (T := TX11) (N := 14) (ty0 := tyX11) rfl guX11 tyX11_ok nmX11 (by decide) gw513 rfl rfl rfl) nq_putf_le, List.forall_mem_cons.mpr ⟨np_s_aload_n hX dX11_init_69 rfl, List.forall_mem_cons.mpr ⟨np_S.mono (op := np_new 5 5 [.null, .null, .null, .int 0, .int 0] 1495 26209) (np_s_new hX dX11_init_70 (C := RX5) (T := TX5) (ty0 := tyX5) rfl guX5 tyX5_ok gw323 gw324 gw136 ndX5 nfX5) nq_new_le, List.forall_mem_cons.mpr ⟨np_S.mono (op := np_dup) (np_s_dup hX dX11_init_73) nq_dup_le, List.forall_mem_cons.mpr ⟨np_S.mono (op := np_callI 1 (np_spF np_bX5_init) 2 81 1144 1495 26209) (np_s_callI hX C_X5_init dX11_init_74 rfl gw327 gw136 gw325 gw326 ⟨by decide, by decide, by decide⟩ (by decide) (by decide)) nq_callI_le, List.forall_mem_cons.mpr ⟨np_S.mono (op := np_putf 11 8 (.object "NotationPress$Sampler")) (np_s_putF hX dX11_init_77 hmn (C := RX11) (T := TX11) (N := 14) (ty0 := tyX11) rfl guX11 tyX11_ok nmX11 (by decide) gw514 rfl rfl rfl) nq_putf_le, List.forall_mem_cons.mpr ⟨np_s_aload_n hX dX11_init_80 rfl, List.forall_mem_cons.mpr ⟨np_s_bipush hX dX11_init_81 (by decide), List.forall_mem_cons.mpr ⟨np_s_anew hX dX11_init_83 gw347 (by decide) (by decide) (by decide), List.forall_mem_cons.mpr ⟨np_S.mono (op := np_putf 11 9 (.array (.object "NotationPress$Column"))) (np_s_putF hX dX11_init_86 hmn (C := RX11) (T := TX11) (N := 14) (ty0 := tyX11) rfl guX11 tyX11_ok nmX11 (by decide) gw515 rfl rfl rfl) nq_putf_le, List.forall_mem_cons.mpr ⟨np_s_aload_n hX dX11_init_89 rfl, List.forall_mem_cons.mpr ⟨np_S.mono (op := np_new 10 3 [.null, .null, .null] 1495 26209) (np_s_new hX dX11_init_90 (C := RX10) (T := TX10) (ty0 := tyX10) rfl guX10 tyX10_ok gw349 gw350 gw137 ndX10 nfX10) nq_new_le, List.forall_mem_cons.mpr ⟨np_S.mono (op := np_dup) (np_s_dup hX dX11_init_93) nq_dup_le, List.forall_mem_cons.mpr ⟨np_S.mono (op := np_callI 1 sp_X10_init 1 3 24 1495 26209) (np_s_callI hX C_X10_init dX11_init_94 rfl gw353 gw137 gw351 gw352 ⟨by decide, by decide, by decide⟩ (by decide) (by decide)) nq_callI_le, List.forall_mem_cons.mpr ⟨np_S.mono (op := np_putf 11 11 (.object "NotationPress$UpgradeDraft")) (np_s_putF hX dX11_init_97 hmn (C := RX11) (T := TX11) (N := 14) (ty0 := tyX11) rfl guX11 tyX11_ok nmX11 (by decide) gw517 rfl rfl rfl) nq_putf_le, List.forall_mem_cons.mpr ⟨np_s_aload_n hX dX11_init_100 rfl, List.forall_mem_cons.mpr ⟨np_s_bipush hX dX11_init_101 (by decide), List.forall_mem_cons.mpr ⟨np_s_anew hX dX11_init_103 gw369 (by decide) (by decide) (by decide), List.forall_mem_cons.mpr ⟨np_S.mono (op := np_putf 11 12 (.array (.object "NotationPress$Upgrade"))) (np_s_putF hX dX11_init_106 hmn (C := RX11) (T := TX11) (N := 14) (ty0 := tyX11) rfl guX11 tyX11_ok nmX11 (by decide) gw518 rfl rfl rfl) nq_putf_le, List.forall_mem_cons.mpr ⟨np_s_iconst hX dX11_init_109 (by decide), List.forall_mem_cons.mpr ⟨np_s_istore_n hX dX11_init_110 rfl (by decide), List.forall_mem_cons.mpr ⟨np_s_iload_n hX dX11_init_111 rfl, List.forall_mem_cons.mpr ⟨np_s_aload_n hX dX11_init_112 rfl, List.forall_mem_cons.mpr ⟨np_S.mono (op := np_getf 11 1) (np_s_getf hX dX11_init_113 (C := RX11) (T := TX11) (N := 14) rfl guX11 (by decide) gw507) nq_getf_le, List.forall_mem_cons.mpr ⟨np_s_alen hX dX11_init_116, List.forall_mem_cons.mpr ⟨np_S.mono (op := np_ic (fun x y => y ≤ x) 139) (np_s_icmp_ge hX dX11_init_117 (by decide)) nq_ic_le, List.forall_mem_cons.mpr ⟨np_s_aload_n hX dX11_init_120 rfl, List.forall_mem_cons.mpr ⟨np_S.mono (op := np_getf 11 1) (np_s_getf hX dX11_init_121 (C := RX11) (T := TX11) (N := 14) rfl guX11 (by decide) gw507) nq_getf_le, List.forall_mem_cons.mpr ⟨np_s_iload_n hX dX11_init_124 rfl, List.forall_mem_cons.mpr ⟨np_S.mono (op := np_new 1 7 [.null, .null, .null, .null, .null, .null, .int 0] 1495 26209) (np_s_new hX dX11_init_125 (C := RX1) (T := TX1) (ty0 := tyX1) rfl guX1 tyX1_ok gw184 gw371 gw138 ndX1 nfX1) nq_new_le, List.forall_mem_cons.mpr ⟨np_S.mono (op := np_dup) (np_s_dup hX dX11_init_128) nq_dup_le, List.forall_mem_cons.mpr ⟨np_S.mono (op := np_callI 1 sp_X1_init 1 10 101 1495 26209) (np_s_callIN hX C_X1_init dX11_init_129 rfl gw374 gw138 gw372 gw373 ⟨by decide, by decide, by decide⟩ (by decide) (by decide)) nq_callI_le, List.forall_mem_cons.mpr ⟨np_s_aast hX (r0 := (RX1, TX1, 7)) rfl dX11_init_132, List.forall_mem_cons.mpr ⟨np_s_iinc hX dX11_init_133 (by decide), List.forall_mem_cons.mpr ⟨np_s_goto hX dX11_init_136 (by decide), List.forall_mem_cons.mpr ⟨np_s_iconst hX dX11_init_139 (by decide), List.forall_mem_cons.mpr ⟨np_s_istore_n hX dX11_init_140 rfl (by decide), List.forall_mem_cons.mpr ⟨np_s_iload_n hX dX11_init_141 rfl, List.forall_mem_cons.mpr ⟨np_s_aload_n hX dX11_init_142 rfl, List.forall_mem_cons.mpr ⟨np_S.mono (op := np_getf 11 4) (np_s_getf hX dX11_init_143 (C := RX11) (T := TX11) (N := 14) rfl guX11 (by decide) gw510) nq_getf_le, List.forall_mem_cons.mpr ⟨np_s_alen hX dX11_init_146, List.forall_mem_cons.mpr ⟨np_S.mono (op := np_ic (fun x y => y ≤ x) 169) (np_s_icmp_ge hX dX11_init_147 (by decide)) nq_ic_le, List.forall_mem_cons.mpr ⟨np_s_aload_n hX dX11_init_150 rfl, List.forall_mem_cons.mpr ⟨np_S.mono (op := np_getf 11 4) (np_s_getf hX dX11_init_151 (C := RX11) (T := TX11) (N := 14) rfl guX11 (by decide) gw510) nq_getf_le, List.forall_mem_cons.mpr ⟨np_s_iload_n hX dX11_init_154 rfl, List.forall_mem_cons.mpr ⟨np_S.mono (op := np_new 7 3 [.null, .int 0, .int 0] 1495 26209) (np_s_new hX dX11_init_155 (C := RX7) (T := TX7) (ty0 := tyX7) rfl guX7 tyX7_ok gw193 gw269 gw135 ndX7 nfX7) nq_new_le, List.forall_mem_cons.mpr ⟨np_S.mono (op := np_dup) (np_s_dup hX dX11_init_158) nq_dup_le, List.forall_mem_cons.mpr ⟨np_S.mono (op := np_callI 1 sp_X7_init 1 1 300 1495 26209) (np_s_callIN hX C_X7_init dX11_init_159 rfl gw272 gw135 gw403 gw271 ⟨by decide, by decide, by decide⟩ (by decide) (by decide)) nq_callI_le, List.forall_mem_cons.mpr ⟨np_s_aast hX (r0 := (RX7, TX7, 3)) rfl dX11_init_162, List.forall_mem_cons.mpr ⟨np_s_iinc hX dX11_init_163 (by decide), List.forall_mem_cons.mpr ⟨np_s_goto hX dX11_init_166 (by decide), List.forall_mem_cons.mpr ⟨np_s_iconst hX dX11_init_169 (by decide), List.forall_mem_cons.mpr ⟨np_s_istore_n hX dX11_init_170 rfl (by decide), List.forall_mem_cons.mpr ⟨np_s_iload_n hX dX11_init_171 rfl, List.forall_mem_cons.mpr ⟨np_s_aload_n hX dX11_init_172 rfl, List.forall_mem_cons.mpr ⟨np_S.mono (op := np_getf 11 5) (np_s_getf hX dX11_init_173 (C := RX11) (T := TX11) (N := 14) rfl guX11 (by decide) gw511) nq_getf_le, List.forall_mem_cons.mpr ⟨np_s_alen hX dX11_init_176, List.forall_mem_cons.mpr ⟨np_S.mono (op := np_ic (fun x y => y ≤ x) 199) (np_s_icmp_ge hX dX11_init_177 (by decide)) nq_ic_le, List.forall_mem_cons.mpr ⟨np_s_aload_n hX dX11_init_180 rfl, List.forall_mem_cons.mpr ⟨np_S.mono (op := np_getf 11 5) (np_s_getf hX dX11_init_181 (C := RX11) (T := TX11) (N := 14) rfl guX11 (by decide) gw511) nq_getf_le, List.forall_mem_cons.mpr ⟨np_s_iload_n hX dX11_init_184 rfl, List.forall_mem_cons.mpr ⟨np_S.mono (op := np_new 6 12 [.null, .null, .null, .null, .null, .null, .int 0, .int 0, .int 0, .int 0, .int 0, .int 0] 1495 26209) (np_s_new hX dX11_init_185 (C := RX6) (T := TX6) (ty0 := tyX6) rfl guX6 tyX6_ok gw195 gw404 gw139 ndX6 nfX6) nq_new_le, List.forall_mem_cons.mpr ⟨np_S.mono (op := np_dup) (np_s_dup hX dX11_init_188) nq_dup_le, List.forall_mem_cons.mpr ⟨np_S.mono (op := np_callI 1 sp_X6_init 1 5 1580 1495 26209) (np_s_callI hX C_X6_init dX11_init_189 rfl gw407 gw139 gw405 gw406 ⟨by decide, by decide, by decide⟩ (by decide) (by decide)) nq_callI_le, List.forall_mem_cons.mpr ⟨np_s_aast hX (r0 := (RX6, TX6, 12)) rfl dX11_init_192, List.forall_mem_cons.mpr ⟨np_s_iinc hX dX11_init_193 (by decide), List.forall_mem_cons.mpr ⟨np_s_goto hX dX11_init_196 (by decide), List.forall_mem_cons.mpr ⟨np_s_iconst hX dX11_init_199 (by decide), List.forall_mem_cons.mpr ⟨np_s_istore_n hX dX11_init_200 rfl (by decide), List.forall_mem_cons.mpr ⟨np_s_iload_n hX dX11_init_201 rfl, List.forall_mem_cons.mpr ⟨np_s_aload_n hX dX11_init_202 rfl, List.forall_mem_cons.mpr ⟨np_S.mono (op := np_getf 11 9) (np_s_getf hX dX11_init_203 (C := RX11) (T := TX11) (N := 14) rfl guX11 (by decide) gw515) nq_getf_le, List.forall_mem_cons.mpr ⟨np_s_alen hX dX11_init_206, List.forall_mem_cons.mpr ⟨np_S.mono (op := np_ic (fun x y => y ≤ x) 229) (np_s_icmp_ge hX dX11_init_207 (by decide)) nq_ic_le, List.forall_mem_cons.mpr ⟨np_s_aload_n hX dX11_init_210 rfl, List.forall_mem_cons.mpr ⟨np_S.mono (op := np_getf 11 9) (np_s_getf hX dX11_init_211 (C := RX11) (T := TX11) (N := 14) rfl guX11 (by decide) gw515) nq_getf_le, List.forall_mem_cons.mpr ⟨np_s_iload_n hX dX11_init_214 rfl, List.forall_mem_cons.mpr ⟨np_S.mono (op := np_new 0 6 [.null, .null, .null, .int 0, .int 0, .int 0] 1495 26209) (np_s_new hX dX11_init_215 (C := RX0) (T := TX0) (ty0 := tyX0) rfl guX0 tyX0_ok gw347 gw454 gw140 ndX0 nfX0) nq_new_le, List.forall_mem_cons.mpr ⟨np_S.mono (op := np_dup) (np_s_dup hX dX11_init_218) nq_dup_le, List.forall_mem_cons.mpr ⟨np_S.mono (op := np_callI 1 sp_X0_init 1 2 48 1495 26209) (np_s_callIN hX C_X0_init dX11_init_219 rfl gw457 gw140 gw455 gw456 ⟨by decide, by decide, by decide⟩ (by decide) (by decide)) nq_callI_le, List.forall_mem_cons.mpr ⟨np_s_aast hX (r0 := (RX0, TX0, 6)) rfl dX11_init_222, List.forall_mem_cons.mpr ⟨np_s_iinc hX dX11_init_223 (by decide), List.forall_mem_cons.mpr ⟨np_s_goto hX dX11_init_226 (by decide), List.forall_mem_cons.mpr ⟨np_s_iconst hX dX11_init_229 (by decide), List.forall_mem_cons.mpr ⟨np_s_istore_n hX dX11_init_230 rfl (by decide), List.forall_mem_cons.mpr ⟨np_s_iload_n hX dX11_init_231 rfl, List.forall_mem_cons.mpr ⟨np_s_aload_n hX dX11_init_232 rfl, List.forall_mem_cons.mpr ⟨np_S.mono (op := np_getf 11 12) (np_s_getf hX dX11_init_233 (C := RX11) (T := TX11) (N := 14) rfl guX11 (by decide) gw518) nq_getf_le, List.forall_mem_cons.mpr ⟨np_s_alen hX dX11_init_236, List.forall_mem_cons.mpr ⟨np_S.mono (op := np_ic (fun x y => y ≤ x) 259) (np_s_icmp_ge hX dX11_init_237 (by decide)) nq_ic_le, List.forall_mem_cons.mpr ⟨np_s_aload_n hX dX11_init_240 rfl, List.forall_mem_cons.mpr ⟨np_S.mono (op := np_getf 11 12) (np_s_getf hX dX11_init_241 (C := RX11) (T := TX11) (N := 14) rfl guX11 (by decide) gw518) nq_getf_le, List.forall_mem_cons.mpr ⟨np_s_iload_n hX dX11_init_244 rfl, List.forall_mem_cons.mpr ⟨np_S.mono (op := np_new 9 7 [.null, .null, .null, .null, .null, .null, .int 0] 1495 26209) (np_s_new hX dX11_init_245 (C := RX9) (T := TX9) (ty0 := tyX9) rfl guX9 tyX9_ok gw369 gw478 gw141 ndX9 nfX9) nq_new_le, List.forall_mem_cons.mpr ⟨np_S.mono (op := np_dup) (np_s_dup hX dX11_init_248) nq_dup_le, List.forall_mem_cons.mpr ⟨np_S.mono (op := np_callI 1 sp_X9_init 1 6 308 1495 26209) (np_s_callIN hX C_X9_init dX11_init_249 rfl gw481 gw141 gw479 gw480 ⟨by decide, by decide, by decide⟩ (by decide) (by decide)) nq_callI_le, List.forall_mem_cons.mpr ⟨np_s_aast hX (r0 := (RX9, TX9, 7)) rfl dX11_init_252, List.forall_mem_cons.mpr ⟨np_s_iinc hX dX11_init_253 (by decide), List.forall_mem_cons.mpr ⟨np_s_goto hX dX11_init_256 (by decide), List.forall_mem_cons.mpr ⟨np_S.mono (op := np_ret X.2.2.1) (np_s_ret hX dX11_init_259) (nq_ret_le hR), fun _ h => nomatch h⟩⟩⟩⟩⟩⟩⟩⟩⟩⟩⟩⟩⟩⟩⟩⟩⟩⟩⟩⟩⟩⟩⟩⟩⟩⟩⟩⟩⟩⟩⟩⟩⟩⟩⟩⟩⟩⟩⟩⟩⟩⟩⟩⟩⟩⟩⟩⟩⟩⟩⟩⟩⟩⟩⟩⟩⟩⟩⟩⟩⟩⟩⟩⟩⟩⟩⟩⟩⟩⟩⟩⟩⟩⟩⟩⟩⟩⟩⟩⟩⟩⟩⟩⟩⟩⟩⟩⟩⟩⟩⟩⟩⟩⟩⟩⟩⟩⟩⟩⟩⟩⟩⟩⟩⟩⟩⟩⟩⟩⟩⟩⟩⟩⟩⟩⟩⟩⟩⟩⟩⟩⟩⟩⟩⟩⟩⟩⟩⟩⟩⟩
abbrev sp_X11_init : np_Sp := nq_in is_X11_init none 1495 26209 700
theorem C_X11_init : np_C yX11_init cX11_init 2 none 4 83 1495 26209 sp_X11_init := nq_inC 700 (by decide) (fun X Rt hX hmn hR => so_X11_init hX hmn hR)
theorem dX12_init_0 : decode cX12_init 0 = .ok (.aload_n 0, 1) := by decide +kernel
theorem dX12_init_1 : decode cX12_init 1 = .ok (.invokespecial 1, 3) := by decide +kernel
theorem dX12_init_4 : decode cX12_init 4 = .ok (.aload_n 0, 1) := by decide +kernel
theorem dX12_init_5 : decode cX12_init 5 = .ok (.bipush 14, 2) := by decide +kernel
theorem dX12_init_7 : decode cX12_init 7 = .ok (.newarray .int, 2) := by decide +kernel
theorem dX12_init_9 : decode cX12_init 9 = .ok (.putfield 7, 3) := by decide +kernel
theorem dX12_init_12 : decode cX12_init 12 = .ok (.aload_n 0, 1) := by decide +kernel
theorem dX12_init_13 : decode cX12_init 13 = .ok (.bipush 14, 2) := by decide +kernel
theorem dX12_init_15 : decode cX12_init 15 = .ok (.newarray .int, 2) := by decide +kernel
theorem dX12_init_17 : decode cX12_init 17 = .ok (.putfield 13, 3) := by decide +kernel
theorem dX12_init_20 : decode cX12_init 20 = .ok (.aload_n 0, 1) := by decide +kernel
theorem dX12_init_21 : decode cX12_init 21 = .ok (.bipush 14, 2) := by decide +kernel
theorem dX12_init_23 : decode cX12_init 23 = .ok (.newarray .int, 2) := by decide +kernel
theorem dX12_init_25 : decode cX12_init 25 = .ok (.putfield 16, 3) := by decide +kernel
theorem dX12_init_28 : decode cX12_init 28 = .ok (.aload_n 0, 1) := by decide +kernel
theorem dX12_init_29 : decode cX12_init 29 = .ok (.bipush 14, 2) := by decide +kernel
theorem dX12_init_31 : decode cX12_init 31 = .ok (.newarray .int, 2) := by decide +kernel
theorem dX12_init_33 : decode cX12_init 33 = .ok (.putfield 19, 3) := by decide +kernel
theorem dX12_init_36 : decode cX12_init 36 = .ok (.aload_n 0, 1) := by decide +kernel
theorem dX12_init_37 : decode cX12_init 37 = .ok (.bipush 6, 2) := by decide +kernel
theorem dX12_init_39 : decode cX12_init 39 = .ok (.newarray .int, 2) := by decide +kernel
theorem dX12_init_41 : decode cX12_init 41 = .ok (.putfield 22, 3) := by decide +kernel
theorem dX12_init_44 : decode cX12_init 44 = .ok (.aload_n 0, 1) := by decide +kernel
theorem dX12_init_45 : decode cX12_init 45 = .ok (.bipush 84, 2) := by decide +kernel
theorem dX12_init_47 : decode cX12_init 47 = .ok (.newarray .int, 2) := by decide +kernel
theorem dX12_init_49 : decode cX12_init 49 = .ok (.putfield 25, 3) := by decide +kernel
theorem dX12_init_52 : decode cX12_init 52 = .ok (.aload_n 0, 1) := by decide +kernel
theorem dX12_init_53 : decode cX12_init 53 = .ok (.bipush 84, 2) := by decide +kernel
theorem dX12_init_55 : decode cX12_init 55 = .ok (.newarray .int, 2) := by decide +kernel
theorem dX12_init_57 : decode cX12_init 57 = .ok (.putfield 28, 3) := by decide +kernel
theorem dX12_init_60 : decode cX12_init 60 = .ok (.aload_n 0, 1) := by decide +kernel
theorem dX12_init_61 : decode cX12_init 61 = .ok (.bipush 84, 2) := by decide +kernel
theorem dX12_init_63 : decode cX12_init 63 = .ok (.newarray .int, 2) := by decide +kernel
theorem dX12_init_65 : decode cX12_init 65 = .ok (.putfield 31, 3) := by decide +kernel
theorem dX12_init_68 : decode cX12_init 68 = .ok (.aload_n 0, 1) := by decide +kernel
theorem dX12_init_69 : decode cX12_init 69 = .ok (.bipush 84, 2) := by decide +kernel
theorem dX12_init_71 : decode cX12_init 71 = .ok (.newarray .int, 2) := by decide +kernel
theorem dX12_init_73 : decode cX12_init 73 = .ok (.putfield 34, 3) := by decide +kernel
theorem dX12_init_76 : decode cX12_init 76 = .ok (.aload_n 0, 1) := by decide +kernel
theorem dX12_init_77 : decode cX12_init 77 = .ok (.bipush 84, 2) := by decide +kernel
theorem dX12_init_79 : decode cX12_init 79 = .ok (.newarray .int, 2) := by decide +kernel
theorem dX12_init_81 : decode cX12_init 81 = .ok (.putfield 37, 3) := by decide +kernel
theorem dX12_init_84 : decode cX12_init 84 = .ok (.aload_n 0, 1) := by decide +kernel
theorem dX12_init_85 : decode cX12_init 85 = .ok (.bipush 6, 2) := by decide +kernel
theorem dX12_init_87 : decode cX12_init 87 = .ok (.newarray .int, 2) := by decide +kernel
theorem dX12_init_89 : decode cX12_init 89 = .ok (.putfield 40, 3) := by decide +kernel
theorem dX12_init_92 : decode cX12_init 92 = .ok (.aload_n 0, 1) := by decide +kernel
theorem dX12_init_93 : decode cX12_init 93 = .ok (.bipush 48, 2) := by decide +kernel
theorem dX12_init_95 : decode cX12_init 95 = .ok (.newarray .int, 2) := by decide +kernel
theorem dX12_init_97 : decode cX12_init 97 = .ok (.putfield 43, 3) := by decide +kernel
theorem dX12_init_100 : decode cX12_init 100 = .ok (.aload_n 0, 1) := by decide +kernel
theorem dX12_init_101 : decode cX12_init 101 = .ok (.bipush 48, 2) := by decide +kernel
theorem dX12_init_103 : decode cX12_init 103 = .ok (.newarray .int, 2) := by decide +kernel
theorem dX12_init_105 : decode cX12_init 105 = .ok (.putfield 46, 3) := by decide +kernel
theorem dX12_init_108 : decode cX12_init 108 = .ok (.aload_n 0, 1) := by decide +kernel
theorem dX12_init_109 : decode cX12_init 109 = .ok (.bipush 48, 2) := by decide +kernel
theorem dX12_init_111 : decode cX12_init 111 = .ok (.newarray .int, 2) := by decide +kernel
theorem dX12_init_113 : decode cX12_init 113 = .ok (.putfield 49, 3) := by decide +kernel
theorem dX12_init_116 : decode cX12_init 116 = .ok (.aload_n 0, 1) := by decide +kernel
theorem dX12_init_117 : decode cX12_init 117 = .ok (.bipush 48, 2) := by decide +kernel
theorem dX12_init_119 : decode cX12_init 119 = .ok (.newarray .int, 2) := by decide +kernel
theorem dX12_init_121 : decode cX12_init 121 = .ok (.putfield 52, 3) := by decide +kernel
theorem dX12_init_124 : decode cX12_init 124 = .ok (.aload_n 0, 1) := by decide +kernel
theorem dX12_init_125 : decode cX12_init 125 = .ok (.bipush 48, 2) := by decide +kernel
theorem dX12_init_127 : decode cX12_init 127 = .ok (.newarray .int, 2) := by decide +kernel
theorem dX12_init_129 : decode cX12_init 129 = .ok (.putfield 55, 3) := by decide +kernel
theorem dX12_init_132 : decode cX12_init 132 = .ok (.aload_n 0, 1) := by decide +kernel
theorem dX12_init_133 : decode cX12_init 133 = .ok (.bipush 24, 2) := by decide +kernel
theorem dX12_init_135 : decode cX12_init 135 = .ok (.newarray .int, 2) := by decide +kernel
theorem dX12_init_137 : decode cX12_init 137 = .ok (.putfield 58, 3) := by decide +kernel
theorem dX12_init_140 : decode cX12_init 140 = .ok (.aload_n 0, 1) := by decide +kernel
theorem dX12_init_141 : decode cX12_init 141 = .ok (.sipush 600, 3) := by decide +kernel
theorem dX12_init_144 : decode cX12_init 144 = .ok (.newarray .int, 2) := by decide +kernel
theorem dX12_init_146 : decode cX12_init 146 = .ok (.putfield 61, 3) := by decide +kernel
theorem dX12_init_149 : decode cX12_init 149 = .ok (.aload_n 0, 1) := by decide +kernel
theorem dX12_init_150 : decode cX12_init 150 = .ok (.iconst 2, 1) := by decide +kernel
theorem dX12_init_151 : decode cX12_init 151 = .ok (.newarray .int, 2) := by decide +kernel
theorem dX12_init_153 : decode cX12_init 153 = .ok (.putfield 64, 3) := by decide +kernel
theorem dX12_init_156 : decode cX12_init 156 = .ok (.aload_n 0, 1) := by decide +kernel
theorem dX12_init_157 : decode cX12_init 157 = .ok (.iconst 2, 1) := by decide +kernel
theorem dX12_init_158 : decode cX12_init 158 = .ok (.newarray .boolean, 2) := by decide +kernel
theorem dX12_init_160 : decode cX12_init 160 = .ok (.putfield 67, 3) := by decide +kernel
theorem dX12_init_163 : decode cX12_init 163 = .ok (.aload_n 0, 1) := by decide +kernel
theorem dX12_init_164 : decode cX12_init 164 = .ok (.iconst 2, 1) := by decide +kernel
theorem dX12_init_165 : decode cX12_init 165 = .ok (.newarray .int, 2) := by decide +kernel
theorem dX12_init_167 : decode cX12_init 167 = .ok (.putfield 71, 3) := by decide +kernel
theorem dX12_init_170 : decode cX12_init 170 = .ok (.aload_n 0, 1) := by decide +kernel
theorem dX12_init_171 : decode cX12_init 171 = .ok (.iconst 2, 1) := by decide +kernel
theorem dX12_init_172 : decode cX12_init 172 = .ok (.newarray .int, 2) := by decide +kernel
theorem dX12_init_174 : decode cX12_init 174 = .ok (.putfield 74, 3) := by decide +kernel
theorem dX12_init_177 : decode cX12_init 177 = .ok (.aload_n 0, 1) := by decide +kernel
theorem dX12_init_178 : decode cX12_init 178 = .ok (.iconst 2, 1) := by decide +kernel
theorem dX12_init_179 : decode cX12_init 179 = .ok (.newarray .int, 2) := by decide +kernel
theorem dX12_init_181 : decode cX12_init 181 = .ok (.putfield 77, 3) := by decide +kernel
theorem dX12_init_184 : decode cX12_init 184 = .ok (.aload_n 0, 1) := by decide +kernel
theorem dX12_init_185 : decode cX12_init 185 = .ok (.iconst 2, 1) := by decide +kernel
theorem dX12_init_186 : decode cX12_init 186 = .ok (.newarray .int, 2) := by decide +kernel
theorem dX12_init_188 : decode cX12_init 188 = .ok (.putfield 80, 3) := by decide +kernel
theorem dX12_init_191 : decode cX12_init 191 = .ok (.aload_n 0, 1) := by decide +kernel
theorem dX12_init_192 : decode cX12_init 192 = .ok (.sipush 1152, 3) := by decide +kernel
theorem dX12_init_195 : decode cX12_init 195 = .ok (.newarray .int, 2) := by decide +kernel
theorem dX12_init_197 : decode cX12_init 197 = .ok (.putfield 83, 3) := by decide +kernel
theorem dX12_init_200 : decode cX12_init 200 = .ok (.aload_n 0, 1) := by decide +kernel
theorem dX12_init_201 : decode cX12_init 201 = .ok (.bipush 48, 2) := by decide +kernel
theorem dX12_init_203 : decode cX12_init 203 = .ok (.newarray .int, 2) := by decide +kernel
theorem dX12_init_205 : decode cX12_init 205 = .ok (.putfield 86, 3) := by decide +kernel
theorem dX12_init_208 : decode cX12_init 208 = .ok (.aload_n 0, 1) := by decide +kernel
theorem dX12_init_209 : decode cX12_init 209 = .ok (.iconst 2, 1) := by decide +kernel
theorem dX12_init_210 : decode cX12_init 210 = .ok (.newarray .int, 2) := by decide +kernel
theorem dX12_init_212 : decode cX12_init 212 = .ok (.putfield 89, 3) := by decide +kernel
theorem dX12_init_215 : decode cX12_init 215 = .ok (.aload_n 0, 1) := by decide +kernel
theorem dX12_init_216 : decode cX12_init 216 = .ok (.sipush 602, 3) := by decide +kernel
theorem dX12_init_219 : decode cX12_init 219 = .ok (.newarray .int, 2) := by decide +kernel
theorem dX12_init_221 : decode cX12_init 221 = .ok (.putfield 92, 3) := by decide +kernel
theorem dX12_init_224 : decode cX12_init 224 = .ok (.aload_n 0, 1) := by decide +kernel
theorem dX12_init_225 : decode cX12_init 225 = .ok (.sipush 602, 3) := by decide +kernel
theorem dX12_init_228 : decode cX12_init 228 = .ok (.newarray .int, 2) := by decide +kernel
theorem dX12_init_230 : decode cX12_init 230 = .ok (.putfield 95, 3) := by decide +kernel
theorem dX12_init_233 : decode cX12_init 233 = .ok (.aload_n 0, 1) := by decide +kernel
theorem dX12_init_234 : decode cX12_init 234 = .ok (.sipush 602, 3) := by decide +kernel
theorem dX12_init_237 : decode cX12_init 237 = .ok (.newarray .int, 2) := by decide +kernel
theorem dX12_init_239 : decode cX12_init 239 = .ok (.putfield 98, 3) := by decide +kernel
theorem dX12_init_242 : decode cX12_init 242 = .ok (.aload_n 0, 1) := by decide +kernel
theorem dX12_init_243 : decode cX12_init 243 = .ok (.bipush 6, 2) := by decide +kernel
theorem dX12_init_245 : decode cX12_init 245 = .ok (.newarray .int, 2) := by decide +kernel
theorem dX12_init_247 : decode cX12_init 247 = .ok (.putfield 101, 3) := by decide +kernel
theorem dX12_init_250 : decode cX12_init 250 = .ok (.aload_n 0, 1) := by decide +kernel
theorem dX12_init_251 : decode cX12_init 251 = .ok (.bipush 6, 2) := by decide +kernel
theorem dX12_init_253 : decode cX12_init 253 = .ok (.newarray .int, 2) := by decide +kernel
theorem dX12_init_255 : decode cX12_init 255 = .ok (.putfield 104, 3) := by decide +kernel
theorem dX12_init_258 : decode cX12_init 258 = .ok (.aload_n 0, 1) := by decide +kernel
theorem dX12_init_259 : decode cX12_init 259 = .ok (.bipush 6, 2) := by decide +kernel
theorem dX12_init_261 : decode cX12_init 261 = .ok (.newarray .int, 2) := by decide +kernel
theorem dX12_init_263 : decode cX12_init 263 = .ok (.putfield 107, 3) := by decide +kernel
theorem dX12_init_266 : decode cX12_init 266 = .ok (.aload_n 0, 1) := by decide +kernel
theorem dX12_init_267 : decode cX12_init 267 = .ok (.bipush 6, 2) := by decide +kernel
theorem dX12_init_269 : decode cX12_init 269 = .ok (.newarray .int, 2) := by decide +kernel
theorem dX12_init_271 : decode cX12_init 271 = .ok (.putfield 110, 3) := by decide +kernel
theorem dX12_init_274 : decode cX12_init 274 = .ok (.aload_n 0, 1) := by decide +kernel
theorem dX12_init_275 : decode cX12_init 275 = .ok (.bipush 8, 2) := by decide +kernel
theorem dX12_init_277 : decode cX12_init 277 = .ok (.newarray .int, 2) := by decide +kernel
theorem dX12_init_279 : decode cX12_init 279 = .ok (.putfield 113, 3) := by decide +kernel
theorem dX12_init_282 : decode cX12_init 282 = .ok (.aload_n 0, 1) := by decide +kernel
theorem dX12_init_283 : decode cX12_init 283 = .ok (.bipush 8, 2) := by decide +kernel
theorem dX12_init_285 : decode cX12_init 285 = .ok (.newarray .int, 2) := by decide +kernel
theorem dX12_init_287 : decode cX12_init 287 = .ok (.putfield 116, 3) := by decide +kernel
theorem dX12_init_290 : decode cX12_init 290 = .ok (.aload_n 0, 1) := by decide +kernel
theorem dX12_init_291 : decode cX12_init 291 = .ok (.bipush 8, 2) := by decide +kernel
theorem dX12_init_293 : decode cX12_init 293 = .ok (.newarray .int, 2) := by decide +kernel
theorem dX12_init_295 : decode cX12_init 295 = .ok (.putfield 119, 3) := by decide +kernel
theorem dX12_init_298 : decode cX12_init 298 = .ok (.aload_n 0, 1) := by decide +kernel
theorem dX12_init_299 : decode cX12_init 299 = .ok (.sipush 480, 3) := by decide +kernel
theorem dX12_init_302 : decode cX12_init 302 = .ok (.newarray .int, 2) := by decide +kernel
theorem dX12_init_304 : decode cX12_init 304 = .ok (.putfield 122, 3) := by decide +kernel
theorem dX12_init_307 : decode cX12_init 307 = .ok (.aload_n 0, 1) := by decide +kernel
theorem dX12_init_308 : decode cX12_init 308 = .ok (.sipush 480, 3) := by decide +kernel
theorem dX12_init_311 : decode cX12_init 311 = .ok (.newarray .int, 2) := by decide +kernel
theorem dX12_init_313 : decode cX12_init 313 = .ok (.putfield 125, 3) := by decide +kernel
theorem dX12_init_316 : decode cX12_init 316 = .ok (.aload_n 0, 1) := by decide +kernel
theorem dX12_init_317 : decode cX12_init 317 = .ok (.bipush 64, 2) := by decide +kernel
theorem dX12_init_319 : decode cX12_init 319 = .ok (.newarray .int, 2) := by decide +kernel
theorem dX12_init_321 : decode cX12_init 321 = .ok (.putfield 128, 3) := by decide +kernel
theorem dX12_init_324 : decode cX12_init 324 = .ok (.aload_n 0, 1) := by decide +kernel
theorem dX12_init_325 : decode cX12_init 325 = .ok (.bipush 64, 2) := by decide +kernel
theorem dX12_init_327 : decode cX12_init 327 = .ok (.newarray .int, 2) := by decide +kernel
theorem dX12_init_329 : decode cX12_init 329 = .ok (.putfield 131, 3) := by decide +kernel
theorem dX12_init_332 : decode cX12_init 332 = .ok (.aload_n 0, 1) := by decide +kernel
theorem dX12_init_333 : decode cX12_init 333 = .ok (.bipush 60, 2) := by decide +kernel
theorem dX12_init_335 : decode cX12_init 335 = .ok (.newarray .int, 2) := by decide +kernel
theorem dX12_init_337 : decode cX12_init 337 = .ok (.putfield 134, 3) := by decide +kernel
theorem dX12_init_340 : decode cX12_init 340 = .ok (.aload_n 0, 1) := by decide +kernel
theorem dX12_init_341 : decode cX12_init 341 = .ok (.bipush 60, 2) := by decide +kernel
theorem dX12_init_343 : decode cX12_init 343 = .ok (.newarray .int, 2) := by decide +kernel
theorem dX12_init_345 : decode cX12_init 345 = .ok (.putfield 137, 3) := by decide +kernel
theorem dX12_init_348 : decode cX12_init 348 = .ok (.aload_n 0, 1) := by decide +kernel
theorem dX12_init_349 : decode cX12_init 349 = .ok (.bipush 60, 2) := by decide +kernel
theorem dX12_init_351 : decode cX12_init 351 = .ok (.newarray .long, 2) := by decide +kernel
theorem dX12_init_353 : decode cX12_init 353 = .ok (.putfield 140, 3) := by decide +kernel
theorem dX12_init_356 : decode cX12_init 356 = .ok (.aload_n 0, 1) := by decide +kernel
theorem dX12_init_357 : decode cX12_init 357 = .ok (.bipush 60, 2) := by decide +kernel
theorem dX12_init_359 : decode cX12_init 359 = .ok (.newarray .int, 2) := by decide +kernel
theorem dX12_init_361 : decode cX12_init 361 = .ok (.putfield 144, 3) := by decide +kernel
theorem dX12_init_364 : decode cX12_init 364 = .ok (.aload_n 0, 1) := by decide +kernel
theorem dX12_init_365 : decode cX12_init 365 = .ok (.bipush 24, 2) := by decide +kernel
theorem dX12_init_367 : decode cX12_init 367 = .ok (.newarray .int, 2) := by decide +kernel
theorem dX12_init_369 : decode cX12_init 369 = .ok (.putfield 147, 3) := by decide +kernel
theorem dX12_init_372 : decode cX12_init 372 = .ok (.aload_n 0, 1) := by decide +kernel
theorem dX12_init_373 : decode cX12_init 373 = .ok (.bipush 64, 2) := by decide +kernel
theorem dX12_init_375 : decode cX12_init 375 = .ok (.newarray .int, 2) := by decide +kernel
theorem dX12_init_377 : decode cX12_init 377 = .ok (.putfield 150, 3) := by decide +kernel
theorem dX12_init_380 : decode cX12_init 380 = .ok (.aload_n 0, 1) := by decide +kernel
theorem dX12_init_381 : decode cX12_init 381 = .ok (.bipush 64, 2) := by decide +kernel
theorem dX12_init_383 : decode cX12_init 383 = .ok (.newarray .int, 2) := by decide +kernel
theorem dX12_init_385 : decode cX12_init 385 = .ok (.putfield 153, 3) := by decide +kernel
theorem dX12_init_388 : decode cX12_init 388 = .ok (.aload_n 0, 1) := by decide +kernel
theorem dX12_init_389 : decode cX12_init 389 = .ok (.bipush 64, 2) := by decide +kernel
theorem dX12_init_391 : decode cX12_init 391 = .ok (.newarray .int, 2) := by decide +kernel
theorem dX12_init_393 : decode cX12_init 393 = .ok (.putfield 156, 3) := by decide +kernel
theorem dX12_init_396 : decode cX12_init 396 = .ok (.aload_n 0, 1) := by decide +kernel
theorem dX12_init_397 : decode cX12_init 397 = .ok (.bipush 64, 2) := by decide +kernel
theorem dX12_init_399 : decode cX12_init 399 = .ok (.newarray .int, 2) := by decide +kernel
theorem dX12_init_401 : decode cX12_init 401 = .ok (.putfield 159, 3) := by decide +kernel
theorem dX12_init_404 : decode cX12_init 404 = .ok (.aload_n 0, 1) := by decide +kernel
theorem dX12_init_405 : decode cX12_init 405 = .ok (.bipush 64, 2) := by decide +kernel
theorem dX12_init_407 : decode cX12_init 407 = .ok (.newarray .int, 2) := by decide +kernel
theorem dX12_init_409 : decode cX12_init 409 = .ok (.putfield 162, 3) := by decide +kernel
theorem dX12_init_412 : decode cX12_init 412 = .ok (.aload_n 0, 1) := by decide +kernel
theorem dX12_init_413 : decode cX12_init 413 = .ok (.bipush 24, 2) := by decide +kernel
theorem dX12_init_415 : decode cX12_init 415 = .ok (.newarray .int, 2) := by decide +kernel
theorem dX12_init_417 : decode cX12_init 417 = .ok (.putfield 165, 3) := by decide +kernel
theorem dX12_init_420 : decode cX12_init 420 = .ok (.aload_n 0, 1) := by decide +kernel
theorem dX12_init_421 : decode cX12_init 421 = .ok (.bipush 80, 2) := by decide +kernel
theorem dX12_init_423 : decode cX12_init 423 = .ok (.newarray .int, 2) := by decide +kernel
theorem dX12_init_425 : decode cX12_init 425 = .ok (.putfield 168, 3) := by decide +kernel
theorem dX12_init_428 : decode cX12_init 428 = .ok (.aload_n 0, 1) := by decide +kernel
theorem dX12_init_429 : decode cX12_init 429 = .ok (.bipush 8, 2) := by decide +kernel
theorem dX12_init_431 : decode cX12_init 431 = .ok (.newarray .int, 2) := by decide +kernel
theorem dX12_init_433 : decode cX12_init 433 = .ok (.putfield 171, 3) := by decide +kernel
theorem dX12_init_436 : decode cX12_init 436 = .ok (.aload_n 0, 1) := by decide +kernel
theorem dX12_init_437 : decode cX12_init 437 = .ok (.bipush 8, 2) := by decide +kernel
theorem dX12_init_439 : decode cX12_init 439 = .ok (.newarray .int, 2) := by decide +kernel
theorem dX12_init_441 : decode cX12_init 441 = .ok (.putfield 174, 3) := by decide +kernel
theorem dX12_init_444 : decode cX12_init 444 = .ok (.aload_n 0, 1) := by decide +kernel
theorem dX12_init_445 : decode cX12_init 445 = .ok (.getfield 71, 3) := by decide +kernel
theorem dX12_init_448 : decode cX12_init 448 = .ok (.iconst 0, 1) := by decide +kernel
theorem dX12_init_449 : decode cX12_init 449 = .ok (.iconst (-1), 1) := by decide +kernel
theorem dX12_init_450 : decode cX12_init 450 = .ok (.iastore, 1) := by decide +kernel
theorem dX12_init_451 : decode cX12_init 451 = .ok (.aload_n 0, 1) := by decide +kernel
theorem dX12_init_452 : decode cX12_init 452 = .ok (.getfield 71, 3) := by decide +kernel
theorem dX12_init_455 : decode cX12_init 455 = .ok (.iconst 1, 1) := by decide +kernel
theorem dX12_init_456 : decode cX12_init 456 = .ok (.iconst (-1), 1) := by decide +kernel
theorem dX12_init_457 : decode cX12_init 457 = .ok (.iastore, 1) := by decide +kernel
theorem dX12_init_458 : decode cX12_init 458 = .ok (.aload_n 0, 1) := by decide +kernel
theorem dX12_init_459 : decode cX12_init 459 = .ok (.invokevirtual 177, 3) := by decide +kernel
theorem dX12_init_462 : decode cX12_init 462 = .ok (.return_, 1) := by decide +kernel
def is_X12_init (Rt : np_Rt) : List (Nat × np_Op) := [(0, np_ald 1 0), (1, np_oinit), (4, np_ald 1 0), (5, np_push 2 (.int 14)), (7, nq_newa .int 14 (14, .inl fun _ => 0) 55 6212), (9, nq_putf 12 1 (.array .int)), (12, np_ald 1 0), (13, np_push 2 (.int 14)), (15, nq_newa .int 14 (14, .inl fun _ => 0) 55 6212), (17, nq_putf 12 2 (.array .int)), (20, np_ald 1 0), (21, np_push 2 (.int 14)), (23, nq_newa .int 14 (14, .inl fun _ => 0) 55 6212), (25, nq_putf 12 3 (.array .int)), (28, np_ald 1 0), (29, np_push 2 (.int 14)), (31, nq_newa .int 14 (14, .inl fun _ => 0) 55 6212), (33, nq_putf 12 4 (.array .int)), (36, np_ald 1 0), (37, np_push 2 (.int 6)), (39, nq_newa .int 6 (6, .inl fun _ => 0) 55 6212), (41, nq_putf 12 6 (.array .int)), (44, np_ald 1 0), (45, np_push 2 (.int 84)), (47, nq_newa .int 84 (84, .inl fun _ => 0) 55 6212), (49, nq_putf 12 7 (.array .int)), (52, np_ald 1 0), (53, np_push 2 (.int 84)), (55, nq_newa .int 84 (84, .inl fun _ => 0) 55 6212), (57, nq_putf 12 8 (.array .int)), (60, np_ald 1 0), (61, np_push 2 (.int 84)), (63, nq_newa .int 84 (84, .inl fun _ => 0) 55 6212), (65, nq_putf 12 9 (.array .int)), (68, np_ald 1 0), (69, np_push 2 (.int 84)), (71, nq_newa .int 84 (84, .inl fun _ => 0) 55 6212), (73, nq_putf 12 10 (.array .int)), (76, np_ald 1 0), (77, np_push 2 (.int 84)), (79, nq_newa .int 84 (84, .inl fun _ => 0) 55 6212), (81, nq_putf 12 11 (.array .int)), (84, np_ald 1 0), (85, np_push 2 (.int 6)), (87, nq_newa .int 6 (6, .inl fun _ => 0) 55 6212), (89, nq_putf 12 12 (.array .int)), (92, np_ald 1 0), (93, np_push 2 (.int 48)), (95, nq_newa .int 48 (48, .inl fun _ => 0) 55 6212), (97, nq_putf 12 13 (.array .int)), (100, np_ald 1 0), (101, np_push 2 (.int 48)), (103, nq_newa .int 48 (48, .inl fun _ => 0) 55 6212), (105, nq_putf 12 14 (.array .int)), (108, np_ald 1 0), (109, np_push 2 (.int 48)), (111, nq_newa .int 48 (48, .inl fun _ => 0) 55 6212), (113, nq_putf 12 15 (.array .int)), (116, np_ald 1 0), (117, np_push 2 (.int 48)), (119, nq_newa .int 48 (48, .inl fun _ => 0) 55 6212), (121, nq_putf 12 16 (.array .int)), (124, np_ald 1 0), (125, np_push 2 (.int 48)), (127, nq_newa .int 48 (48, .inl fun _ => 0) 55 6212), (129, nq_putf 12 17 (.array .int)), (132, np_ald 1 0), (133, np_push 2 (.int 24)), (135, nq_newa .int 24 (24, .inl fun _ => 0) 55 6212), (137, nq_putf 12 18 (.array .int)), (140, np_ald 1 0), (141, np_push 3 (.int 600)), (144, nq_newa .int 600 (600, .inl fun _ => 0) 55 6212), (146, nq_putf 12 20 (.array .int)), (149, np_ald 1 0), (150, np_push 1 (.int 2)), (151, nq_newa .int 2 (2, .inl fun _ => 0) 55 6212), (153, nq_putf 12 21 (.array .int)), (156, np_ald 1 0), (157, np_push 1 (.int 2)), (158, nq_newa .boolean 2 (2, .inl fun _ => 0) 55 6212), (160, nq_putf 12 22 (.array .boolean)), (163, np_ald 1 0), (164, np_push 1 (.int 2)), (165, nq_newa .int 2 (2, .inl fun _ => 0) 55 6212), (167, nq_putf 12 23 (.array .int)), (170, np_ald 1 0), (171, np_push 1 (.int 2)), (172, nq_newa .int 2 (2, .inl fun _ => 0) 55 6212), (174, nq_putf 12 24 (.array .int)), (177, np_ald 1 0), (178, np_push 1 (.int 2)), (179, nq_newa .int 2 (2, .inl fun _ => 0) 55 6212), (181, nq_putf 12 25 (.array .int)), (184, np_ald 1 0), (185, np_push 1 (.int 2)), (186, nq_newa .int 2 (2, .inl fun _ => 0) 55 6212), (188, nq_putf 12 26 (.array .int)), (191, np_ald 1 0), (192, np_push 3 (.int 1152)), (195, nq_newa .int 1152 (1152, .inl fun _ => 0) 55 6212), (197, nq_putf 12 27 (.array .int)), (200, np_ald 1 0), (201, np_push 2 (.int 48)), (203, nq_newa .int 48 (48, .inl fun _ => 0) 55 6212), (205, nq_putf 12 28 (.array .int)), (208, np_ald 1 0), (209, np_push 1 (.int 2)), (210, nq_newa .int 2 (2, .inl fun _ => 0) 55 6212), (212, nq_putf 12 29 (.array .int)), (215, np_ald 1 0), (216, np_push 3 (.int 602)), (219, nq_newa .int 602 (602, .inl fun _ => 0) 55 6212), (221, nq_putf 12 30 (.array .int)), (224, np_ald 1 0), (225, np_push 3 (.int 602)), (228, nq_newa .int 602 (602, .inl fun _ => 0) 55 6212), (230, nq_putf 12 31 (.array .int)), (233, np_ald 1 0), (234, np_push 3 (.int 602)), (237, nq_newa .int 602 (602, .inl fun _ => 0) 55 6212), (239, nq_putf 12 32 (.array .int)), (242, np_ald 1 0), (243, np_push 2 (.int 6)), (245, nq_newa .int 6 (6, .inl fun _ => 0) 55 6212), (247, nq_putf 12 34 (.array .int)), (250, np_ald 1 0), (251, np_push 2 (.int 6)), (253, nq_newa .int 6 (6, .inl fun _ => 0) 55 6212), (255, nq_putf 12 35 (.array .int)), (258, np_ald 1 0), (259, np_push 2 (.int 6)), (261, nq_newa .int 6 (6, .inl fun _ => 0) 55 6212), (263, nq_putf 12 36 (.array .int)), (266, np_ald 1 0), (267, np_push 2 (.int 6)), (269, nq_newa .int 6 (6, .inl fun _ => 0) 55 6212), (271, nq_putf 12 37 (.array .int)), (274, np_ald 1 0), (275, np_push 2 (.int 8)), (277, nq_newa .int 8 (8, .inl fun _ => 0) 55 6212), (279, nq_putf 12 38 (.array .int)), (282, np_ald 1 0), (283, np_push 2 (.int 8)), (285, nq_newa .int 8 (8, .inl fun _ => 0) 55 6212), (287, nq_putf 12 39 (.array .int)), (290, np_ald 1 0), (291, np_push 2 (.int 8)), (293, nq_newa .int 8 (8, .inl fun _ => 0) 55 6212), (295, nq_putf 12 40 (.array .int)), (298, np_ald 1 0), (299, np_push 3 (.int 480)), (302, nq_newa .int 480 (480, .inl fun _ => 0) 55 6212), (304, nq_putf 12 42 (.array .int)), (307, np_ald 1 0), (308, np_push 3 (.int 480)), (311, nq_newa .int 480 (480, .inl fun _ => 0) 55 6212), (313, nq_putf 12 43 (.array .int)), (316, np_ald 1 0), (317, np_push 2 (.int 64)), (319, nq_newa .int 64 (64, .inl fun _ => 0) 55 6212), (321, nq_putf 12 44 (.array .int)), (324, np_ald 1 0), (325, np_push 2 (.int 64)), (327, nq_newa .int 64 (64, .inl fun _ => 0) 55 6212), (329, nq_putf 12 45 (.array .int)), (332, np_ald 1 0), (333, np_push 2 (.int 60)), (335, nq_newa .int 60 (60, .inl fun _ => 0) 55 6212), (337, nq_putf 12 47 (.array .int)), (340, np_ald 1 0), (341, np_push 2 (.int 60)), (343, nq_newa .int 60 (60, .inl fun _ => 0) 55 6212), (345, nq_putf 12 48 (.array .int)), (348, np_ald 1 0), (349, np_push 2 (.int 60)), (351, nq_newa .long 60 (60, .inr (.inl fun _ => 0)) 55 6212), (353, nq_putf 12 49 (.array .long)), (356, np_ald 1 0), (357, np_push 2 (.int 60)), (359, nq_newa .int 60 (60, .inl fun _ => 0) 55 6212), (361, nq_putf 12 50 (.array .int)), (364, np_ald 1 0), (365, np_push 2 (.int 24)), (367, nq_newa .int 24 (24, .inl fun _ => 0) 55 6212), (369, nq_putf 12 51 (.array .int)), (372, np_ald 1 0), (373, np_push 2 (.int 64)), (375, nq_newa .int 64 (64, .inl fun _ => 0) 55 6212), (377, nq_putf 12 61 (.array .int)), (380, np_ald 1 0), (381, np_push 2 (.int 64)), (383, nq_newa .int 64 (64, .inl fun _ => 0) 55 6212), (385, nq_putf 12 62 (.array .int)), (388, np_ald 1 0), (389, np_push 2 (.int 64)), (391, nq_newa .int 64 (64, .inl fun _ => 0) 55 6212), (393, nq_putf 12 63 (.array .int)), (396, np_ald 1 0), (397, np_push 2 (.int 64)), (399, nq_newa .int 64 (64, .inl fun _ => 0) 55 6212), (401, nq_putf 12 64 (.array .int)), (404, np_ald 1 0), (405, np_push 2 (.int 64)), (407, nq_newa .int 64 (64, .inl fun _ => 0) 55 6212), (409, nq_putf 12 65 (.array .int)), (412, np_ald 1 0), (413, np_push 2 (.int 24)), (415, nq_newa .int 24 (24, .inl fun _ => 0) 55 6212), (417, nq_putf 12 67 (.array .int)), (420, np_ald 1 0), (421, np_push 2 (.int 80)), (423, nq_newa .int 80 (80, .inl fun _ => 0) 55 6212), (425, nq_putf 12 69 (.array .int)), (428, np_ald 1 0), (429, np_push 2 (.int 8)), (431, nq_newa .int 8 (8, .inl fun _ => 0) 55 6212), (433, nq_putf 12 72 (.array .int)), (436, np_ald 1 0), (437, np_push 2 (.int 8)), (439, nq_newa .int 8 (8, .inl fun _ => 0) 55 6212), (441, nq_putf 12 73 (.array .int)), (444, np_ald 1 0), (445, nq_getf 12 23), (448, np_push 1 (.int 0)), (449, np_push 1 (.int (-1))), (450, nq_iastT .int), (451, np_ald 1 0), (452, nq_getf 12 23), (455, np_push 1 (.int 1)), (456, np_push 1 (.int (-1))), (457, nq_iastT .int), (458, np_ald 1 0), (459, nq_callV 12 1 sp_X12_dropsSteps 2 0 0 55 6212), (462, np_ret Rt)]
set_option maxRecDepth 20000 in
theorem so_X12_init {X : np_Ctx} {Rt : np_Rt} (hX : np_ok RX12 cX12_init 1 1 21 55 6212 .return_ X) (hmn : np_mn X = "<init>") (hR : ∀ st w ce sl, Rt st w ce sl → X.2.2.1 st w ce sl) : ∀ q ∈ is_X12_init Rt, np_S X q.1 q.2 :=
  List.forall_mem_cons.mpr ⟨np_s_aload_n hX dX12_init_0 rfl, List.forall_mem_cons.mpr ⟨np_s_oinit hX dX12_init_1 gw1631 gw157 gw158 (by decide) (by decide), List.forall_mem_cons.mpr ⟨np_s_aload_n hX dX12_init_4 rfl, List.forall_mem_cons.mpr ⟨np_s_bipush hX dX12_init_5 (by decide), List.forall_mem_cons.mpr ⟨np_S.mono (op := np_newa .int 14 (14, .inl fun _ => 0) 55 6212) (np_s_newa hX dX12_init_7 rfl gw183 (by decide) (by intro C h; cases h) (by decide) (fun _ => vp_cell_i _ _ _) (by decide) (fun _ _ => rfl) (fun _ => trivial)) nq_newa_le, List.forall_mem_cons.mpr ⟨np_S.mono (op := np_putf 12 1 (.array .int)) (np_s_putF hX dX12_init_9 hmn (C := RX12) (T := TX12) (N := 77) (ty0 := tyX12) rfl guX12 tyX12_ok nmX12 (by decide) gw1637 rfl rfl rfl) nq_putf_le, List.forall_mem_cons.mpr ⟨np_s_aload_n hX dX12_init_12 rfl, List.forall_mem_cons.mpr ⟨np_s_bipush hX dX12_init_13 (by decide), List.forall_mem_cons.mpr ⟨np_S.mono (op := np_newa .int 14 (14, .inl fun _ => 0) 55 6212) (np_s_newa hX dX12_init_15 rfl gw183 (by decide) (by intro C h; cases h) (by decide) (fun _ => vp_cell_i _ _ _) (by decide) (fun _ _ => rfl) (fun _ => trivial)) nq_newa_le, List.forall_mem_cons.mpr ⟨np_S.mono (op := np_putf 12 2 (.array .int)) (np_s_putF hX dX12_init_17 hmn (C := RX12) (T := TX12) (N := 77) (ty0 := tyX12) rfl guX12 tyX12_ok nmX12 (by decide) gw1638 rfl rfl rfl) nq_putf_le, List.forall_mem_cons.mpr ⟨np_s_aload_n hX dX12_init_20 rfl, List.forall_mem_cons.mpr ⟨np_s_bipush hX dX12_init_21 (by decide), List.forall_mem_cons.mpr ⟨np_S.mono (op := np_newa .int 14 (14, .inl fun _ => 0) 55 6212) (np_s_newa hX dX12_init_23 rfl gw183 (by decide) (by intro C h; cases h) (by decide) (fun _ => vp_cell_i _ _ _) (by decide) (fun _ _ => rfl) (fun _ => trivial)) nq_newa_le, List.forall_mem_cons.mpr ⟨np_S.mono (op := np_putf 12 3 (.array .int)) (np_s_putF hX dX12_init_25 hmn (C := RX12) (T := TX12) (N := 77) (ty0 := tyX12) rfl guX12 tyX12_ok nmX12 (by decide) gw1639 rfl rfl rfl) nq_putf_le, List.forall_mem_cons.mpr ⟨np_s_aload_n hX dX12_init_28 rfl, List.forall_mem_cons.mpr ⟨np_s_bipush hX dX12_init_29 (by decide), List.forall_mem_cons.mpr ⟨np_S.mono (op := np_newa .int 14 (14, .inl fun _ => 0) 55 6212) (np_s_newa hX dX12_init_31 rfl gw183 (by decide) (by intro C h; cases h) (by decide) (fun _ => vp_cell_i _ _ _) (by decide) (fun _ _ => rfl) (fun _ => trivial)) nq_newa_le, List.forall_mem_cons.mpr ⟨np_S.mono (op := np_putf 12 4 (.array .int)) (np_s_putF hX dX12_init_33 hmn (C := RX12) (T := TX12) (N := 77) (ty0 := tyX12) rfl guX12 tyX12_ok nmX12 (by decide) gw1640 rfl rfl rfl) nq_putf_le, List.forall_mem_cons.mpr ⟨np_s_aload_n hX dX12_init_36 rfl, List.forall_mem_cons.mpr ⟨np_s_bipush hX dX12_init_37 (by decide), List.forall_mem_cons.mpr ⟨np_S.mono (op := np_newa .int 6 (6, .inl fun _ => 0) 55 6212) (np_s_newa hX dX12_init_39 rfl gw183 (by decide) (by intro C h; cases h) (by decide) (fun _ => vp_cell_i _ _ _) (by decide) (fun _ _ => rfl) (fun _ => trivial)) nq_newa_le, List.forall_mem_cons.mpr ⟨np_S.mono (op := np_putf 12 6 (.array .int)) (np_s_putF hX dX12_init_41 hmn (C := RX12) (T := TX12) (N := 77) (ty0 := tyX12) rfl guX12 tyX12_ok nmX12 (by decide) gw1642 rfl rfl rfl) nq_putf_le, List.forall_mem_cons.mpr ⟨np_s_aload_n hX dX12_init_44 rfl, List.forall_mem_cons.mpr ⟨np_s_bipush hX dX12_init_45 (by decide), List.forall_mem_cons.mpr ⟨np_S.mono (op := np_newa .int 84 (84, .inl fun _ => 0) 55 6212) (np_s_newa hX dX12_init_47 rfl gw183 (by decide) (by intro C h; cases h) (by decide) (fun _ => vp_cell_i _ _ _) (by decide) (fun _ _ => rfl) (fun _ => trivial)) nq_newa_le, List.forall_mem_cons.mpr ⟨np_S.mono (op := np_putf 12 7 (.array .int)) (np_s_putF hX dX12_init_49 hmn (C := RX12) (T := TX12) (N := 77) (ty0 := tyX12) rfl guX12 tyX12_ok nmX12 (by decide) gw1643 rfl rfl rfl) nq_putf_le, List.forall_mem_cons.mpr ⟨np_s_aload_n hX dX12_init_52 rfl, List.forall_mem_cons.mpr ⟨np_s_bipush hX dX12_init_53 (by decide), List.forall_mem_cons.mpr ⟨np_S.mono (op := np_newa .int 84 (84, .inl fun _ => 0) 55 6212) (np_s_newa hX dX12_init_55 rfl gw183 (by decide) (by intro C h; cases h) (by decide) (fun _ => vp_cell_i _ _ _) (by decide) (fun _ _ => rfl) (fun _ => trivial)) nq_newa_le, List.forall_mem_cons.mpr ⟨np_S.mono (op := np_putf 12 8 (.array .int)) (np_s_putF hX dX12_init_57 hmn (C := RX12) (T := TX12) (N := 77) (ty0 := tyX12) rfl guX12 tyX12_ok nmX12 (by decide) gw1644 rfl rfl rfl) nq_putf_le, List.forall_mem_cons.mpr ⟨np_s_aload_n hX dX12_init_60 rfl, List.forall_mem_cons.mpr ⟨np_s_bipush hX dX12_init_61 (by decide), List.forall_mem_cons.mpr ⟨np_S.mono (op := np_newa .int 84 (84, .inl fun _ => 0) 55 6212) (np_s_newa hX dX12_init_63 rfl gw183 (by decide) (by intro C h; cases h) (by decide) (fun _ => vp_cell_i _ _ _) (by decide) (fun _ _ => rfl) (fun _ => trivial)) nq_newa_le, List.forall_mem_cons.mpr ⟨np_S.mono (op := np_putf 12 9 (.array .int)) (np_s_putF hX dX12_init_65 hmn (C := RX12) (T := TX12) (N := 77) (ty0 := tyX12) rfl guX12 tyX12_ok nmX12 (by decide) gw1645 rfl rfl rfl) nq_putf_le, List.forall_mem_cons.mpr ⟨np_s_aload_n hX dX12_init_68 rfl, List.forall_mem_cons.mpr ⟨np_s_bipush hX dX12_init_69 (by decide), List.forall_mem_cons.mpr ⟨np_S.mono (op := np_newa .int 84 (84, .inl fun _ => 0) 55 6212) (np_s_newa hX dX12_init_71 rfl gw183 (by decide) (by intro C h; cases h) (by decide) (fun _ => vp_cell_i _ _ _) (by decide) (fun _ _ => rfl) (fun _ => trivial)) nq_newa_le, List.forall_mem_cons.mpr ⟨np_S.mono (op := np_putf 12 10 (.array .int)) (np_s_putF hX dX12_init_73 hmn (C := RX12) (T := TX12) (N := 77) (ty0 := tyX12) rfl guX12 tyX12_ok nmX12 (by decide) gw1646 rfl rfl rfl) nq_putf_le, List.forall_mem_cons.mpr ⟨np_s_aload_n hX dX12_init_76 rfl, List.forall_mem_cons.mpr ⟨np_s_bipush hX dX12_init_77 (by decide), List.forall_mem_cons.mpr ⟨np_S.mono (op := np_newa .int 84 (84, .inl fun _ => 0) 55 6212) (np_s_newa hX dX12_init_79 rfl gw183 (by decide) (by intro C h; cases h) (by decide) (fun _ => vp_cell_i _ _ _) (by decide) (fun _ _ => rfl) (fun _ => trivial)) nq_newa_le, List.forall_mem_cons.mpr ⟨np_S.mono (op := np_putf 12 11 (.array .int)) (np_s_putF hX dX12_init_81 hmn (C := RX12) (T := TX12) (N := 77) (ty0 := tyX12) rfl guX12 tyX12_ok nmX12 (by decide) gw1647 rfl rfl rfl) nq_putf_le, List.forall_mem_cons.mpr ⟨np_s_aload_n hX dX12_init_84 rfl, List.forall_mem_cons.mpr ⟨np_s_bipush hX dX12_init_85 (by decide), List.forall_mem_cons.mpr ⟨np_S.mono (op := np_newa .int 6 (6, .inl fun _ => 0) 55 6212) (np_s_newa hX dX12_init_87 rfl gw183 (by decide) (by intro C h; cases h) (by decide) (fun _ => vp_cell_i _ _ _) (by decide) (fun _ _ => rfl) (fun _ => trivial)) nq_newa_le, List.forall_mem_cons.mpr ⟨np_S.mono (op := np_putf 12 12 (.array .int)) (np_s_putF hX dX12_init_89 hmn (C := RX12) (T := TX12) (N := 77) (ty0 := tyX12) rfl guX12 tyX12_ok nmX12 (by decide) gw1648 rfl rfl rfl) nq_putf_le, List.forall_mem_cons.mpr ⟨np_s_aload_n hX dX12_init_92 rfl, List.forall_mem_cons.mpr ⟨np_s_bipush hX dX12_init_93 (by decide), List.forall_mem_cons.mpr ⟨np_S.mono (op := np_newa .int 48 (48, .inl fun _ => 0) 55 6212) (np_s_newa hX dX12_init_95 rfl gw183 (by decide) (by intro C h; cases h) (by decide) (fun _ => vp_cell_i _ _ _) (by decide) (fun _ _ => rfl) (fun _ => trivial)) nq_newa_le, List.forall_mem_cons.mpr ⟨np_S.mono (op := np_putf 12 13 (.array .int)) (np_s_putF hX dX12_init_97 hmn (C := RX12) (T := TX12) (N := 77) (ty0 := tyX12) rfl guX12 tyX12_ok nmX12 (by decide) gw1649 rfl rfl rfl) nq_putf_le, List.forall_mem_cons.mpr ⟨np_s_aload_n hX dX12_init_100 rfl, List.forall_mem_cons.mpr ⟨np_s_bipush hX dX12_init_101 (by decide), List.forall_mem_cons.mpr ⟨np_S.mono (op := np_newa .int 48 (48, .inl fun _ => 0) 55 6212) (np_s_newa hX dX12_init_103 rfl gw183 (by decide) (by intro C h; cases h) (by decide) (fun _ => vp_cell_i _ _ _) (by decide) (fun _ _ => rfl) (fun _ => trivial)) nq_newa_le, List.forall_mem_cons.mpr ⟨np_S.mono (op := np_putf 12 14 (.array .int)) (np_s_putF hX dX12_init_105 hmn (C := RX12) (T := TX12) (N := 77) (ty0 := tyX12) rfl guX12 tyX12_ok nmX12 (by decide) gw1650 rfl rfl rfl) nq_putf_le, List.forall_mem_cons.mpr ⟨np_s_aload_n hX dX12_init_108 rfl, List.forall_mem_cons.mpr ⟨np_s_bipush hX dX12_init_109 (by decide), List.forall_mem_cons.mpr ⟨np_S.mono (op := np_newa .int 48 (48, .inl fun _ => 0) 55 6212) (np_s_newa hX dX12_init_111 rfl gw183 (by decide) (by intro C h; cases h) (by decide) (fun _ => vp_cell_i _ _ _) (by decide) (fun _ _ => rfl) (fun _ => trivial)) nq_newa_le, List.forall_mem_cons.mpr ⟨np_S.mono (op := np_putf 12 15 (.array .int)) (np_s_putF hX dX12_init_113 hmn (C := RX12) (T := TX12) (N := 77) (ty0 := tyX12) rfl guX12 tyX12_ok nmX12 (by decide) gw1651 rfl rfl rfl) nq_putf_le, List.forall_mem_cons.mpr ⟨np_s_aload_n hX dX12_init_116 rfl, List.forall_mem_cons.mpr ⟨np_s_bipush hX dX12_init_117 (by decide), List.forall_mem_cons.mpr ⟨np_S.mono (op := np_newa .int 48 (48, .inl fun _ => 0) 55 6212) (np_s_newa hX dX12_init_119 rfl gw183 (by decide) (by intro C h; cases h) (by decide) (fun _ => vp_cell_i _ _ _) (by decide) (fun _ _ => rfl) (fun _ => trivial)) nq_newa_le, List.forall_mem_cons.mpr ⟨np_S.mono (op := np_putf 12 16 (.array .int)) (np_s_putF hX dX12_init_121 hmn (C := RX12) (T := TX12) (N := 77) (ty0 := tyX12) rfl guX12 tyX12_ok nmX12 (by decide) gw1652 rfl rfl rfl) nq_putf_le, List.forall_mem_cons.mpr ⟨np_s_aload_n hX dX12_init_124 rfl, List.forall_mem_cons.mpr ⟨np_s_bipush hX dX12_init_125 (by decide), List.forall_mem_cons.mpr ⟨np_S.mono (op := np_newa .int 48 (48, .inl fun _ => 0) 55 6212) (np_s_newa hX dX12_init_127 rfl gw183 (by decide) (by intro C h; cases h) (by decide) (fun _ => vp_cell_i _ _ _) (by decide) (fun _ _ => rfl) (fun _ => trivial)) nq_newa_le, List.forall_mem_cons.mpr ⟨np_S.mono (op := np_putf 12 17 (.array .int)) (np_s_putF hX dX12_init_129 hmn (C := RX12) (T := TX12) (N := 77) (ty0 := tyX12) rfl guX12 tyX12_ok nmX12 (by decide) gw1653 rfl rfl rfl) nq_putf_le, List.forall_mem_cons.mpr ⟨np_s_aload_n hX dX12_init_132 rfl, List.forall_mem_cons.mpr ⟨np_s_bipush hX dX12_init_133 (by decide), List.forall_mem_cons.mpr ⟨np_S.mono (op := np_newa .int 24 (24, .inl fun _ => 0) 55 6212) (np_s_newa hX dX12_init_135 rfl gw183 (by decide) (by intro C h; cases h) (by decide) (fun _ => vp_cell_i _ _ _) (by decide) (fun _ _ => rfl) (fun _ => trivial)) nq_newa_le, List.forall_mem_cons.mpr ⟨np_S.mono (op := np_putf 12 18 (.array .int)) (np_s_putF hX dX12_init_137 hmn (C := RX12) (T := TX12) (N := 77) (ty0 := tyX12) rfl guX12 tyX12_ok nmX12 (by decide) gw1654 rfl rfl rfl) nq_putf_le, List.forall_mem_cons.mpr ⟨np_s_aload_n hX dX12_init_140 rfl, List.forall_mem_cons.mpr ⟨np_s_sipush hX dX12_init_141 (by decide), List.forall_mem_cons.mpr ⟨np_S.mono (op := np_newa .int 600 (600, .inl fun _ => 0) 55 6212) (np_s_newa hX dX12_init_144 rfl gw183 (by decide) (by intro C h; cases h) (by decide) (fun _ => vp_cell_i _ _ _) (by decide) (fun _ _ => rfl) (fun _ => trivial)) nq_newa_le, List.forall_mem_cons.mpr ⟨np_S.mono (op := np_putf 12 20 (.array .int)) (np_s_putF hX dX12_init_146 hmn (C := RX12) (T := TX12) (N := 77) (ty0 := tyX12) rfl guX12 tyX12_ok nmX12 (by decide) gw1656 rfl rfl rfl) nq_putf_le, List.forall_mem_cons.mpr ⟨np_s_aload_n hX dX12_init_149 rfl, List.forall_mem_cons.mpr ⟨np_s_iconst hX dX12_init_150 (by decide), List.forall_mem_cons.mpr ⟨np_S.mono (op := np_newa .int 2 (2, .inl fun _ => 0) 55 6212) (np_s_newa hX dX12_init_151 rfl gw183 (by decide) (by intro C h; cases h) (by decide) (fun _ => vp_cell_i _ _ _) (by decide) (fun _ _ => rfl) (fun _ => trivial)) nq_newa_le, List.forall_mem_cons.mpr ⟨np_S.mono (op := np_putf 12 21 (.array .int)) (np_s_putF hX dX12_init_153 hmn (C := RX12) (T := TX12) (N := 77) (ty0 := tyX12) rfl guX12 tyX12_ok nmX12 (by decide) gw1657 rfl rfl rfl) nq_putf_le, List.forall_mem_cons.mpr ⟨np_s_aload_n hX dX12_init_156 rfl, List.forall_mem_cons.mpr ⟨np_s_iconst hX dX12_init_157 (by decide), List.forall_mem_cons.mpr ⟨np_S.mono (op := np_newa .boolean 2 (2, .inl fun _ => 0) 55 6212) (np_s_newa hX dX12_init_158 rfl gw1868 (by decide) (by intro C h; cases h) (by decide) (fun _ => vp_cell_i _ _ _) (by decide) (fun _ _ => rfl) (fun _ => trivial)) nq_newa_le, List.forall_mem_cons.mpr ⟨np_S.mono (op := np_putf 12 22 (.array .boolean)) (np_s_putF hX dX12_init_160 hmn (C := RX12) (T := TX12) (N := 77) (ty0 := tyX12) rfl guX12 tyX12_ok nmX12 (by decide) gw1658 rfl rfl rfl) nq_putf_le, List.forall_mem_cons.mpr ⟨np_s_aload_n hX dX12_init_163 rfl, List.forall_mem_cons.mpr ⟨np_s_iconst hX dX12_init_164 (by decide), List.forall_mem_cons.mpr ⟨np_S.mono (op := np_newa .int 2 (2, .inl fun _ => 0) 55 6212) (np_s_newa hX dX12_init_165 rfl gw183 (by decide) (by intro C h; cases h) (by decide) (fun _ => vp_cell_i _ _ _) (by decide) (fun _ _ => rfl) (fun _ => trivial)) nq_newa_le, List.forall_mem_cons.mpr ⟨np_S.mono (op := np_putf 12 23 (.array .int)) (np_s_putF hX dX12_init_167 hmn (C := RX12) (T := TX12) (N := 77) (ty0 := tyX12) rfl guX12 tyX12_ok nmX12 (by decide) gw1659 rfl rfl rfl) nq_putf_le, List.forall_mem_cons.mpr ⟨np_s_aload_n hX dX12_init_170 rfl, List.forall_mem_cons.mpr ⟨np_s_iconst hX dX12_init_171 (by decide), List.forall_mem_cons.mpr ⟨np_S.mono (op := np_newa .int 2 (2, .inl fun _ => 0) 55 6212) (np_s_newa hX dX12_init_172 rfl gw183 (by decide) (by intro C h; cases h) (by decide) (fun _ => vp_cell_i _ _ _) (by decide) (fun _ _ => rfl) (fun _ => trivial)) nq_newa_le, List.forall_mem_cons.mpr ⟨np_S.mono (op := np_putf 12 24 (.array .int)) (np_s_putF hX dX12_init_174 hmn (C := RX12) (T := TX12) (N := 77) (ty0 := tyX12) rfl guX12 tyX12_ok nmX12 (by decide) gw1660 rfl rfl rfl) nq_putf_le, List.forall_mem_cons.mpr ⟨np_s_aload_n hX dX12_init_177 rfl, List.forall_mem_cons.mpr ⟨np_s_iconst hX dX12_init_178 (by decide), List.forall_mem_cons.mpr ⟨np_S.mono (op := np_newa .int 2 (2, .inl fun _ => 0) 55 6212) (np_s_newa hX dX12_init_179 rfl gw183 (by decide) (by intro C h; cases h) (by decide) (fun _ => vp_cell_i _ _ _) (by decide) (fun _ _ => rfl) (fun _ => trivial)) nq_newa_le, List.forall_mem_cons.mpr ⟨np_S.mono (op := np_putf 12 25 (.array .int)) (np_s_putF hX dX12_init_181 hmn (C := RX12) (T := TX12) (N := 77) (ty0 := tyX12) rfl guX12 tyX12_ok nmX12 (by decide) gw1661 rfl rfl rfl) nq_putf_le, List.forall_mem_cons.mpr ⟨np_s_aload_n hX dX12_init_184 rfl, List.forall_mem_cons.mpr ⟨np_s_iconst hX dX12_init_185 (by decide), List.forall_mem_cons.mpr ⟨np_S.mono (op := np_newa .int 2 (2, .inl fun _ => 0) 55 6212) (np_s_newa hX dX12_init_186 rfl gw183 (by decide) (by intro C h; cases h) (by decide) (fun _ => vp_cell_i _ _ _) (by decide) (fun _ _ => rfl) (fun _ => trivial)) nq_newa_le, List.forall_mem_cons.mpr ⟨np_S.mono (op := np_putf 12 26 (.array .int)) (np_s_putF hX dX12_init_188 hmn (C := RX12) (T := TX12) (N := 77) (ty0 := tyX12) rfl guX12 tyX12_ok nmX12 (by decide) gw1662 rfl rfl rfl) nq_putf_le, List.forall_mem_cons.mpr ⟨np_s_aload_n hX dX12_init_191 rfl, List.forall_mem_cons.mpr ⟨np_s_sipush hX dX12_init_192 (by decide), List.forall_mem_cons.mpr ⟨np_S.mono (op := np_newa .int 1152 (1152, .inl fun _ => 0) 55 6212) (np_s_newa hX dX12_init_195 rfl gw183 (by decide) (by intro C h; cases h) (by decide) (fun _ => vp_cell_i _ _ _) (by decide) (fun _ _ => rfl) (fun _ => trivial)) nq_newa_le, List.forall_mem_cons.mpr ⟨np_S.mono (op := np_putf 12 27 (.array .int)) (np_s_putF hX dX12_init_197 hmn (C := RX12) (T := TX12) (N := 77) (ty0 := tyX12) rfl guX12 tyX12_ok nmX12 (by decide) gw1663 rfl rfl rfl) nq_putf_le, List.forall_mem_cons.mpr ⟨np_s_aload_n hX dX12_init_200 rfl, List.forall_mem_cons.mpr ⟨np_s_bipush hX dX12_init_201 (by decide), List.forall_mem_cons.mpr ⟨np_S.mono (op := np_newa .int 48 (48, .inl fun _ => 0) 55 6212) (np_s_newa hX dX12_init_203 rfl gw183 (by decide) (by intro C h; cases h) (by decide) (fun _ => vp_cell_i _ _ _) (by decide) (fun _ _ => rfl) (fun _ => trivial)) nq_newa_le, List.forall_mem_cons.mpr ⟨np_S.mono (op := np_putf 12 28 (.array .int)) (np_s_putF hX dX12_init_205 hmn (C := RX12) (T := TX12) (N := 77) (ty0 := tyX12) rfl guX12 tyX12_ok nmX12 (by decide) gw1664 rfl rfl rfl) nq_putf_le, List.forall_mem_cons.mpr ⟨np_s_aload_n hX dX12_init_208 rfl, List.forall_mem_cons.mpr ⟨np_s_iconst hX dX12_init_209 (by decide), List.forall_mem_cons.mpr ⟨np_S.mono (op := np_newa .int 2 (2, .inl fun _ => 0) 55 6212) (np_s_newa hX dX12_init_210 rfl gw183 (by decide) (by intro C h; cases h) (by decide) (fun _ => vp_cell_i _ _ _) (by decide) (fun _ _ => rfl) (fun _ => trivial)) nq_newa_le, List.forall_mem_cons.mpr ⟨np_S.mono (op := np_putf 12 29 (.array .int)) (np_s_putF hX dX12_init_212 hmn (C := RX12) (T := TX12) (N := 77) (ty0 := tyX12) rfl guX12 tyX12_ok nmX12 (by decide) gw1665 rfl rfl rfl) nq_putf_le, List.forall_mem_cons.mpr ⟨np_s_aload_n hX dX12_init_215 rfl, List.forall_mem_cons.mpr ⟨np_s_sipush hX dX12_init_216 (by decide), List.forall_mem_cons.mpr ⟨np_S.mono (op := np_newa .int 602 (602, .inl fun _ => 0) 55 6212) (np_s_newa hX dX12_init_219 rfl gw183 (by decide) (by intro C h; cases h) (by decide) (fun _ => vp_cell_i _ _ _) (by decide) (fun _ _ => rfl) (fun _ => trivial)) nq_newa_le, List.forall_mem_cons.mpr ⟨np_S.mono (op := np_putf 12 30 (.array .int)) (np_s_putF hX dX12_init_221 hmn (C := RX12) (T := TX12) (N := 77) (ty0 := tyX12) rfl guX12 tyX12_ok nmX12 (by decide) gw1666 rfl rfl rfl) nq_putf_le, List.forall_mem_cons.mpr ⟨np_s_aload_n hX dX12_init_224 rfl, List.forall_mem_cons.mpr ⟨np_s_sipush hX dX12_init_225 (by decide), List.forall_mem_cons.mpr ⟨np_S.mono (op := np_newa .int 602 (602, .inl fun _ => 0) 55 6212) (np_s_newa hX dX12_init_228 rfl gw183 (by decide) (by intro C h; cases h) (by decide) (fun _ => vp_cell_i _ _ _) (by decide) (fun _ _ => rfl) (fun _ => trivial)) nq_newa_le, List.forall_mem_cons.mpr ⟨np_S.mono (op := np_putf 12 31 (.array .int)) (np_s_putF hX dX12_init_230 hmn (C := RX12) (T := TX12) (N := 77) (ty0 := tyX12) rfl guX12 tyX12_ok nmX12 (by decide) gw1667 rfl rfl rfl) nq_putf_le, List.forall_mem_cons.mpr ⟨np_s_aload_n hX dX12_init_233 rfl, List.forall_mem_cons.mpr ⟨np_s_sipush hX dX12_init_234 (by decide), List.forall_mem_cons.mpr ⟨np_S.mono (op := np_newa .int 602 (602, .inl fun _ => 0) 55 6212) (np_s_newa hX dX12_init_237 rfl gw183 (by decide) (by intro C h; cases h) (by decide) (fun _ => vp_cell_i _ _ _) (by decide) (fun _ _ => rfl) (fun _ => trivial)) nq_newa_le, List.forall_mem_cons.mpr ⟨np_S.mono (op := np_putf 12 32 (.array .int)) (np_s_putF hX dX12_init_239 hmn (C := RX12) (T := TX12) (N := 77) (ty0 := tyX12) rfl guX12 tyX12_ok nmX12 (by decide) gw1668 rfl rfl rfl) nq_putf_le, List.forall_mem_cons.mpr ⟨np_s_aload_n hX dX12_init_242 rfl, List.forall_mem_cons.mpr ⟨np_s_bipush hX dX12_init_243 (by decide), List.forall_mem_cons.mpr ⟨np_S.mono (op := np_newa .int 6 (6, .inl fun _ => 0) 55 6212) (np_s_newa hX dX12_init_245 rfl gw183 (by decide) (by intro C h; cases h) (by decide) (fun _ => vp_cell_i _ _ _) (by decide) (fun _ _ => rfl) (fun _ => trivial)) nq_newa_le, List.forall_mem_cons.mpr ⟨np_S.mono (op := np_putf 12 34 (.array .int)) (np_s_putF hX dX12_init_247 hmn (C := RX12) (T := TX12) (N := 77) (ty0 := tyX12) rfl guX12 tyX12_ok nmX12 (by decide) gw1670 rfl rfl rfl) nq_putf_le, List.forall_mem_cons.mpr ⟨np_s_aload_n hX dX12_init_250 rfl, List.forall_mem_cons.mpr ⟨np_s_bipush hX dX12_init_251 (by decide), List.forall_mem_cons.mpr ⟨np_S.mono (op := np_newa .int 6 (6, .inl fun _ => 0) 55 6212) (np_s_newa hX dX12_init_253 rfl gw183 (by decide) (by intro C h; cases h) (by decide) (fun _ => vp_cell_i _ _ _) (by decide) (fun _ _ => rfl) (fun _ => trivial)) nq_newa_le, List.forall_mem_cons.mpr ⟨np_S.mono (op := np_putf 12 35 (.array .int)) (np_s_putF hX dX12_init_255 hmn (C := RX12) (T := TX12) (N := 77) (ty0 := tyX12) rfl guX12 tyX12_ok nmX12 (by decide) gw1671 rfl rfl rfl) nq_putf_le, List.forall_mem_cons.mpr ⟨np_s_aload_n hX dX12_init_258 rfl, List.forall_mem_cons.mpr ⟨np_s_bipush hX dX12_init_259 (by decide), List.forall_mem_cons.mpr ⟨np_S.mono (op := np_newa .int 6 (6, .inl fun _ => 0) 55 6212) (np_s_newa hX dX12_init_261 rfl gw183 (by decide) (by intro C h; cases h) (by decide) (fun _ => vp_cell_i _ _ _) (by decide) (fun _ _ => rfl) (fun _ => trivial)) nq_newa_le, List.forall_mem_cons.mpr ⟨np_S.mono (op := np_putf 12 36 (.array .int)) (np_s_putF hX dX12_init_263 hmn (C := RX12) (T := TX12) (N := 77) (ty0 := tyX12) rfl guX12 tyX12_ok nmX12 (by decide) gw1672 rfl rfl rfl) nq_putf_le, List.forall_mem_cons.mpr ⟨np_s_aload_n hX dX12_init_266 rfl, List.forall_mem_cons.mpr ⟨np_s_bipush hX dX12_init_267 (by decide), List.forall_mem_cons.mpr ⟨np_S.mono (op := np_newa .int 6 (6, .inl fun _ => 0) 55 6212) (np_s_newa hX dX12_init_269 rfl gw183 (by decide) (by intro C h; cases h) (by decide) (fun _ => vp_cell_i _ _ _) (by decide) (fun _ _ => rfl) (fun _ => trivial)) nq_newa_le, List.forall_mem_cons.mpr ⟨np_S.mono (op := np_putf 12 37 (.array .int)) (np_s_putF hX dX12_init_271 hmn (C := RX12) (T := TX12) (N := 77) (ty0 := tyX12) rfl guX12 tyX12_ok nmX12 (by decide) gw1673 rfl rfl rfl) nq_putf_le, List.forall_mem_cons.mpr ⟨np_s_aload_n hX dX12_init_274 rfl, List.forall_mem_cons.mpr ⟨np_s_bipush hX dX12_init_275 (by decide), List.forall_mem_cons.mpr ⟨np_S.mono (op := np_newa .int 8 (8, .inl fun _ => 0) 55 6212) (np_s_newa hX dX12_init_277 rfl gw183 (by decide) (by intro C h; cases h) (by decide) (fun _ => vp_cell_i _ _ _) (by decide) (fun _ _ => rfl) (fun _ => trivial)) nq_newa_le, List.forall_mem_cons.mpr ⟨np_S.mono (op := np_putf 12 38 (.array .int)) (np_s_putF hX dX12_init_279 hmn (C := RX12) (T := TX12) (N := 77) (ty0 := tyX12) rfl guX12 tyX12_ok nmX12 (by decide) gw1674 rfl rfl rfl) nq_putf_le, List.forall_mem_cons.mpr ⟨np_s_aload_n hX dX12_init_282 rfl, List.forall_mem_cons.mpr ⟨np_s_bipush hX dX12_init_283 (by decide), List.forall_mem_cons.mpr ⟨np_S.mono (op := np_newa .int 8 (8, .inl fun _ => 0) 55 6212) (np_s_newa hX dX12_init_285 rfl gw183 (by decide) (by intro C h; cases h) (by decide) (fun _ => vp_cell_i _ _ _) (by decide) (fun _ _ => rfl) (fun _ => trivial)) nq_newa_le, List.forall_mem_cons.mpr ⟨np_S.mono (op := np_putf 12 39 (.array .int)) (np_s_putF hX dX12_init_287 hmn (C := RX12) (T := TX12) (N := 77) (ty0 := tyX12) rfl guX12 tyX12_ok nmX12 (by decide) gw1675 rfl rfl rfl) nq_putf_le, List.forall_mem_cons.mpr ⟨np_s_aload_n hX dX12_init_290 rfl, List.forall_mem_cons.mpr ⟨np_s_bipush hX dX12_init_291 (by decide), List.forall_mem_cons.mpr ⟨np_S.mono (op := np_newa .int 8 (8, .inl fun _ => 0) 55 6212) (np_s_newa hX dX12_init_293 rfl gw183 (by decide) (by intro C h; cases h) (by decide) (fun _ => vp_cell_i _ _ _) (by decide) (fun _ _ => rfl) (fun _ => trivial)) nq_newa_le, List.forall_mem_cons.mpr ⟨np_S.mono (op := np_putf 12 40 (.array .int)) (np_s_putF hX dX12_init_295 hmn (C := RX12) (T := TX12) (N := 77) (ty0 := tyX12) rfl guX12 tyX12_ok nmX12 (by decide) gw1676 rfl rfl rfl) nq_putf_le, List.forall_mem_cons.mpr ⟨np_s_aload_n hX dX12_init_298 rfl, List.forall_mem_cons.mpr ⟨np_s_sipush hX dX12_init_299 (by decide), List.forall_mem_cons.mpr ⟨np_S.mono (op := np_newa .int 480 (480, .inl fun _ => 0) 55 6212) (np_s_newa hX dX12_init_302 rfl gw183 (by decide) (by intro C h; cases h) (by decide) (fun _ => vp_cell_i _ _ _) (by decide) (fun _ _ => rfl) (fun _ => trivial)) nq_newa_le, List.forall_mem_cons.mpr ⟨np_S.mono (op := np_putf 12 42 (.array .int)) (np_s_putF hX dX12_init_304 hmn (C := RX12) (T := TX12) (N := 77) (ty0 := tyX12) rfl guX12 tyX12_ok nmX12 (by decide) gw1678 rfl rfl rfl) nq_putf_le, List.forall_mem_cons.mpr ⟨np_s_aload_n hX dX12_init_307 rfl, List.forall_mem_cons.mpr ⟨np_s_sipush hX dX12_init_308 (by decide), List.forall_mem_cons.mpr ⟨np_S.mono (op := np_newa .int 480 (480, .inl fun _ => 0) 55 6212) (np_s_newa hX dX12_init_311 rfl gw183 (by decide) (by intro C h; cases h) (by decide) (fun _ => vp_cell_i _ _ _) (by decide) (fun _ _ => rfl) (fun _ => trivial)) nq_newa_le, List.forall_mem_cons.mpr ⟨np_S.mono (op := np_putf 12 43 (.array .int)) (np_s_putF hX dX12_init_313 hmn (C := RX12) (T := TX12) (N := 77) (ty0 := tyX12) rfl guX12 tyX12_ok nmX12 (by decide) gw1679 rfl rfl rfl) nq_putf_le, List.forall_mem_cons.mpr ⟨np_s_aload_n hX dX12_init_316 rfl, List.forall_mem_cons.mpr ⟨np_s_bipush hX dX12_init_317 (by decide), List.forall_mem_cons.mpr ⟨np_S.mono (op := np_newa .int 64 (64, .inl fun _ => 0) 55 6212) (np_s_newa hX dX12_init_319 rfl gw183 (by decide) (by intro C h; cases h) (by decide) (fun _ => vp_cell_i _ _ _) (by decide) (fun _ _ => rfl) (fun _ => trivial)) nq_newa_le, List.forall_mem_cons.mpr ⟨np_S.mono (op := np_putf 12 44 (.array .int)) (np_s_putF hX dX12_init_321 hmn (C := RX12) (T := TX12) (N := 77) (ty0 := tyX12) rfl guX12 tyX12_ok nmX12 (by decide) gw1680 rfl rfl rfl) nq_putf_le, List.forall_mem_cons.mpr ⟨np_s_aload_n hX dX12_init_324 rfl, List.forall_mem_cons.mpr ⟨np_s_bipush hX dX12_init_325 (by decide), List.forall_mem_cons.mpr ⟨np_S.mono (op := np_newa .int 64 (64, .inl fun _ => 0) 55 6212) (np_s_newa hX dX12_init_327 rfl gw183 (by decide) (by intro C h; cases h) (by decide) (fun _ => vp_cell_i _ _ _) (by decide) (fun _ _ => rfl) (fun _ => trivial)) nq_newa_le, List.forall_mem_cons.mpr ⟨np_S.mono (op := np_putf 12 45 (.array .int)) (np_s_putF hX dX12_init_329 hmn (C := RX12) (T := TX12) (N := 77) (ty0 := tyX12) rfl guX12 tyX12_ok nmX12 (by decide) gw1681 rfl rfl rfl) nq_putf_le, List.forall_mem_cons.mpr ⟨np_s_aload_n hX dX12_init_332 rfl, List.forall_mem_cons.mpr ⟨np_s_bipush hX dX12_init_333 (by decide), List.forall_mem_cons.mpr ⟨np_S.mono (op := np_newa .int 60 (60, .inl fun _ => 0) 55 6212) (np_s_newa hX dX12_init_335 rfl gw183 (by decide) (by intro C h; cases h) (by decide) (fun _ => vp_cell_i _ _ _) (by decide) (fun _ _ => rfl) (fun _ => trivial)) nq_newa_le, List.forall_mem_cons.mpr ⟨np_S.mono (op := np_putf 12 47 (.array .int)) (np_s_putF hX dX12_init_337 hmn (C := RX12) (T := TX12) (N := 77) (ty0 := tyX12) rfl guX12 tyX12_ok nmX12 (by decide) gw1683 rfl rfl rfl) nq_putf_le, List.forall_mem_cons.mpr ⟨np_s_aload_n hX dX12_init_340 rfl, List.forall_mem_cons.mpr ⟨np_s_bipush hX dX12_init_341 (by decide), List.forall_mem_cons.mpr ⟨np_S.mono (op := np_newa .int 60 (60, .inl fun _ => 0) 55 6212) (np_s_newa hX dX12_init_343 rfl gw183 (by decide) (by intro C h; cases h) (by decide) (fun _ => vp_cell_i _ _ _) (by decide) (fun _ _ => rfl) (fun _ => trivial)) nq_newa_le, List.forall_mem_cons.mpr ⟨np_S.mono (op := np_putf 12 48 (.array .int)) (np_s_putF hX dX12_init_345 hmn (C := RX12) (T := TX12) (N := 77) (ty0 := tyX12) rfl guX12 tyX12_ok nmX12 (by decide) gw1684 rfl rfl rfl) nq_putf_le, List.forall_mem_cons.mpr ⟨np_s_aload_n hX dX12_init_348 rfl, List.forall_mem_cons.mpr ⟨np_s_bipush hX dX12_init_349 (by decide), List.forall_mem_cons.mpr ⟨np_S.mono (op := np_newa .long 60 (60, .inr (.inl fun _ => 0)) 55 6212) (np_s_newa hX dX12_init_351 rfl gw1869 (by decide) (by intro C h; cases h) (by decide) (fun _ => vp_cell_l _ _ _) (by decide) (fun _ _ => rfl) (fun _ => trivial)) nq_newa_le, List.forall_mem_cons.mpr ⟨np_S.mono (op := np_putf 12 49 (.array .long)) (np_s_putF hX dX12_init_353 hmn (C := RX12) (T := TX12) (N := 77) (ty0 := tyX12) rfl guX12 tyX12_ok nmX12 (by decide) gw1685 rfl rfl rfl) nq_putf_le, List.forall_mem_cons.mpr ⟨np_s_aload_n hX dX12_init_356 rfl, List.forall_mem_cons.mpr ⟨np_s_bipush hX dX12_init_357 (by decide), List.forall_mem_cons.mpr ⟨np_S.mono (op := np_newa .int 60 (60, .inl fun _ => 0) 55 6212) (np_s_newa hX dX12_init_359 rfl gw183 (by decide) (by intro C h; cases h) (by decide) (fun _ => vp_cell_i _ _ _) (by decide) (fun _ _ => rfl) (fun _ => trivial)) nq_newa_le, List.forall_mem_cons.mpr ⟨np_S.mono (op := np_putf 12 50 (.array .int)) (np_s_putF hX dX12_init_361 hmn (C := RX12) (T := TX12) (N := 77) (ty0 := tyX12) rfl guX12 tyX12_ok nmX12 (by decide) gw1686 rfl rfl rfl) nq_putf_le, List.forall_mem_cons.mpr ⟨np_s_aload_n hX dX12_init_364 rfl, List.forall_mem_cons.mpr ⟨np_s_bipush hX dX12_init_365 (by decide), List.forall_mem_cons.mpr ⟨np_S.mono (op := np_newa .int 24 (24, .inl fun _ => 0) 55 6212) (np_s_newa hX dX12_init_367 rfl gw183 (by decide) (by intro C h; cases h) (by decide) (fun _ => vp_cell_i _ _ _) (by decide) (fun _ _ => rfl) (fun _ => trivial)) nq_newa_le, List.forall_mem_cons.mpr ⟨np_S.mono (op := np_putf 12 51 (.array .int)) (np_s_putF hX dX12_init_369 hmn (C := RX12) (T := TX12) (N := 77) (ty0 := tyX12) rfl guX12 tyX12_ok nmX12 (by decide) gw1687 rfl rfl rfl) nq_putf_le, List.forall_mem_cons.mpr ⟨np_s_aload_n hX dX12_init_372 rfl, List.forall_mem_cons.mpr ⟨np_s_bipush hX dX12_init_373 (by decide), List.forall_mem_cons.mpr ⟨np_S.mono (op := np_newa .int 64 (64, .inl fun _ => 0) 55 6212) (np_s_newa hX dX12_init_375 rfl gw183 (by decide) (by intro C h; cases h) (by decide) (fun _ => vp_cell_i _ _ _) (by decide) (fun _ _ => rfl) (fun _ => trivial)) nq_newa_le, List.forall_mem_cons.mpr ⟨np_S.mono (op := np_putf 12 61 (.array .int)) (np_s_putF hX dX12_init_377 hmn (C := RX12) (T := TX12) (N := 77) (ty0 := tyX12) rfl guX12 tyX12_ok nmX12 (by decide) gw1697 rfl rfl rfl) nq_putf_le, List.forall_mem_cons.mpr ⟨np_s_aload_n hX dX12_init_380 rfl, List.forall_mem_cons.mpr ⟨np_s_bipush hX dX12_init_381 (by decide), List.forall_mem_cons.mpr ⟨np_S.mono (op := np_newa .int 64 (64, .inl fun _ => 0) 55 6212) (np_s_newa hX dX12_init_383 rfl gw183 (by decide) (by intro C h; cases h) (by decide) (fun _ => vp_cell_i _ _ _) (by decide) (fun _ _ => rfl) (fun _ => trivial)) nq_newa_le, List.forall_mem_cons.mpr ⟨np_S.mono (op := np_putf 12 62 (.array .int)) (np_s_putF hX dX12_init_385 hmn (C := RX12) (T := TX12) (N := 77) (ty0 := tyX12) rfl guX12 tyX12_ok nmX12 (by decide) gw1698 rfl rfl rfl) nq_putf_le, List.forall_mem_cons.mpr ⟨np_s_aload_n hX dX12_init_388 rfl, List.forall_mem_cons.mpr ⟨np_s_bipush hX dX12_init_389 (by decide), List.forall_mem_cons.mpr ⟨np_S.mono (op := np_newa .int 64 (64, .inl fun _ => 0) 55 6212) (np_s_newa hX dX12_init_391 rfl gw183 (by decide) (by intro C h; cases h) (by decide) (fun _ => vp_cell_i _ _ _) (by decide) (fun _ _ => rfl) (fun _ => trivial)) nq_newa_le, List.forall_mem_cons.mpr ⟨np_S.mono (op := np_putf 12 63 (.array .int)) (np_s_putF hX dX12_init_393 hmn (C := RX12) (T := TX12) (N := 77) (ty0 := tyX12) rfl guX12 tyX12_ok nmX12 (by decide) gw1699 rfl rfl rfl) nq_putf_le, List.forall_mem_cons.mpr ⟨np_s_aload_n hX dX12_init_396 rfl, List.forall_mem_cons.mpr ⟨np_s_bipush hX dX12_init_397 (by decide), List.forall_mem_cons.mpr ⟨np_S.mono (op := np_newa .int 64 (64, .inl fun _ => 0) 55 6212) (np_s_newa hX dX12_init_399 rfl gw183 (by decide) (by intro C h; cases h) (by decide) (fun _ => vp_cell_i _ _ _) (by decide) (fun _ _ => rfl) (fun _ => trivial)) nq_newa_le, List.forall_mem_cons.mpr ⟨np_S.mono (op := np_putf 12 64 (.array .int)) (np_s_putF hX dX12_init_401 hmn (C := RX12) (T := TX12) (N := 77) (ty0 := tyX12) rfl guX12 tyX12_ok nmX12 (by decide) gw1700 rfl rfl rfl) nq_putf_le, List.forall_mem_cons.mpr ⟨np_s_aload_n hX dX12_init_404 rfl, List.forall_mem_cons.mpr ⟨np_s_bipush hX dX12_init_405 (by decide), List.forall_mem_cons.mpr ⟨np_S.mono (op := np_newa .int 64 (64, .inl fun _ => 0) 55 6212) (np_s_newa hX dX12_init_407 rfl gw183 (by decide) (by intro C h; cases h) (by decide) (fun _ => vp_cell_i _ _ _) (by decide) (fun _ _ => rfl) (fun _ => trivial)) nq_newa_le, List.forall_mem_cons.mpr ⟨np_S.mono (op := np_putf 12 65 (.array .int)) (np_s_putF hX dX12_init_409 hmn (C := RX12) (T := TX12) (N := 77) (ty0 := tyX12) rfl guX12 tyX12_ok nmX12 (by decide) gw1701 rfl rfl rfl) nq_putf_le, List.forall_mem_cons.mpr ⟨np_s_aload_n hX dX12_init_412 rfl, List.forall_mem_cons.mpr ⟨np_s_bipush hX dX12_init_413 (by decide), List.forall_mem_cons.mpr ⟨np_S.mono (op := np_newa .int 24 (24, .inl fun _ => 0) 55 6212) (np_s_newa hX dX12_init_415 rfl gw183 (by decide) (by intro C h; cases h) (by decide) (fun _ => vp_cell_i _ _ _) (by decide) (fun _ _ => rfl) (fun _ => trivial)) nq_newa_le, List.forall_mem_cons.mpr ⟨np_S.mono (op := np_putf 12 67 (.array .int)) (np_s_putF hX dX12_init_417 hmn (C := RX12) (T := TX12) (N := 77) (ty0 := tyX12) rfl guX12 tyX12_ok nmX12 (by decide) gw1703 rfl rfl rfl) nq_putf_le, List.forall_mem_cons.mpr ⟨np_s_aload_n hX dX12_init_420 rfl, List.forall_mem_cons.mpr ⟨np_s_bipush hX dX12_init_421 (by decide), List.forall_mem_cons.mpr ⟨np_S.mono (op := np_newa .int 80 (80, .inl fun _ => 0) 55 6212) (np_s_newa hX dX12_init_423 rfl gw183 (by decide) (by intro C h; cases h) (by decide) (fun _ => vp_cell_i _ _ _) (by decide) (fun _ _ => rfl) (fun _ => trivial)) nq_newa_le, List.forall_mem_cons.mpr ⟨np_S.mono (op := np_putf 12 69 (.array .int)) (np_s_putF hX dX12_init_425 hmn (C := RX12) (T := TX12) (N := 77) (ty0 := tyX12) rfl guX12 tyX12_ok nmX12 (by decide) gw1705 rfl rfl rfl) nq_putf_le, List.forall_mem_cons.mpr ⟨np_s_aload_n hX dX12_init_428 rfl, List.forall_mem_cons.mpr ⟨np_s_bipush hX dX12_init_429 (by decide), List.forall_mem_cons.mpr ⟨np_S.mono (op := np_newa .int 8 (8, .inl fun _ => 0) 55 6212) (np_s_newa hX dX12_init_431 rfl gw183 (by decide) (by intro C h; cases h) (by decide) (fun _ => vp_cell_i _ _ _) (by decide) (fun _ _ => rfl) (fun _ => trivial)) nq_newa_le, List.forall_mem_cons.mpr ⟨np_S.mono (op := np_putf 12 72 (.array .int)) (np_s_putF hX dX12_init_433 hmn (C := RX12) (T := TX12) (N := 77) (ty0 := tyX12) rfl guX12 tyX12_ok nmX12 (by decide) gw1708 rfl rfl rfl) nq_putf_le, List.forall_mem_cons.mpr ⟨np_s_aload_n hX dX12_init_436 rfl, List.forall_mem_cons.mpr ⟨np_s_bipush hX dX12_init_437 (by decide), List.forall_mem_cons.mpr ⟨np_S.mono (op := np_newa .int 8 (8, .inl fun _ => 0) 55 6212) (np_s_newa hX dX12_init_439 rfl gw183 (by decide) (by intro C h; cases h) (by decide) (fun _ => vp_cell_i _ _ _) (by decide) (fun _ _ => rfl) (fun _ => trivial)) nq_newa_le, List.forall_mem_cons.mpr ⟨np_S.mono (op := np_putf 12 73 (.array .int)) (np_s_putF hX dX12_init_441 hmn (C := RX12) (T := TX12) (N := 77) (ty0 := tyX12) rfl guX12 tyX12_ok nmX12 (by decide) gw1709 rfl rfl rfl) nq_putf_le, List.forall_mem_cons.mpr ⟨np_s_aload_n hX dX12_init_444 rfl, List.forall_mem_cons.mpr ⟨np_S.mono (op := np_getf 12 23) (np_s_getf hX dX12_init_445 (C := RX12) (T := TX12) (N := 77) rfl guX12 (by decide) gw1659) nq_getf_le, List.forall_mem_cons.mpr ⟨np_s_iconst hX dX12_init_448 (by decide), List.forall_mem_cons.mpr ⟨np_s_iconst hX dX12_init_449 (by decide), List.forall_mem_cons.mpr ⟨np_S.mono (op := np_iastT .int) (np_s_iast hX dX12_init_450) nq_iastT_le, List.forall_mem_cons.mpr ⟨np_s_aload_n hX dX12_init_451 rfl, List.forall_mem_cons.mpr ⟨np_S.mono (op := np_getf 12 23) (np_s_getf hX dX12_init_452 (C := RX12) (T := TX12) (N := 77) rfl guX12 (by decide) gw1659) nq_getf_le, List.forall_mem_cons.mpr ⟨np_s_iconst hX dX12_init_455 (by decide), List.forall_mem_cons.mpr ⟨np_s_iconst hX dX12_init_456 (by decide), List.forall_mem_cons.mpr ⟨np_S.mono (op := np_iastT .int) (np_s_iast hX dX12_init_457) nq_iastT_le, List.forall_mem_cons.mpr ⟨np_s_aload_n hX dX12_init_458 rfl, List.forall_mem_cons.mpr ⟨np_S.mono (op := np_callV 12 1 sp_X12_dropsSteps 2 0 0 55 6212) (np_s_callV hX C_X12_dropsSteps dX12_init_459 (q := (RX12, TX12, 77)) rfl rfl gw1635 gw142 gw1632 gw1634 gw62 ⟨by decide, by decide, by decide⟩ (by decide) (by decide)) nq_callV_le, List.forall_mem_cons.mpr ⟨np_S.mono (op := np_ret X.2.2.1) (np_s_ret hX dX12_init_462) (nq_ret_le hR), fun _ h => nomatch h⟩⟩⟩⟩⟩⟩⟩⟩⟩⟩⟩⟩⟩⟩⟩⟩⟩⟩⟩⟩⟩⟩⟩⟩⟩⟩⟩⟩⟩⟩⟩⟩⟩⟩⟩⟩⟩⟩⟩⟩⟩⟩⟩⟩⟩⟩⟩⟩⟩⟩⟩⟩⟩⟩⟩⟩⟩⟩⟩⟩⟩⟩⟩⟩⟩⟩⟩⟩⟩⟩⟩⟩⟩⟩⟩⟩⟩⟩⟩⟩⟩⟩⟩⟩⟩⟩⟩⟩⟩⟩⟩⟩⟩⟩⟩⟩⟩⟩⟩⟩⟩⟩⟩⟩⟩⟩⟩⟩⟩⟩⟩⟩⟩⟩⟩⟩⟩⟩⟩⟩⟩⟩⟩⟩⟩⟩⟩⟩⟩⟩⟩⟩⟩⟩⟩⟩⟩⟩⟩⟩⟩⟩⟩⟩⟩⟩⟩⟩⟩⟩⟩⟩⟩⟩⟩⟩⟩⟩⟩⟩⟩⟩⟩⟩⟩⟩⟩⟩⟩⟩⟩⟩⟩⟩⟩⟩⟩⟩⟩⟩⟩⟩⟩⟩⟩⟩⟩⟩⟩⟩⟩⟩⟩⟩⟩⟩⟩⟩⟩⟩⟩⟩⟩⟩⟩⟩⟩⟩⟩⟩⟩⟩⟩⟩⟩⟩⟩⟩⟩⟩⟩⟩⟩⟩⟩⟩⟩⟩⟩⟩⟩⟩⟩⟩⟩
abbrev sp_X12_init : np_Sp := nq_in is_X12_init none 55 6212 400
theorem C_X12_init : np_C yX12_init cX12_init 1 none 1 21 55 6212 sp_X12_init := nq_inC 400 (by decide) (fun X Rt hX hmn hR => so_X12_init hX hmn hR)
def np_lv (vs : List Int32) (xs : Nat → Int32) : Prop := ∀ j v, vs[j]? = some v → xs j = v
def np_sldv (Ls : Nat) (vs : List Int32) : np_Op := fun k pc L st w ce sl => match st with
  | .int i :: .ref a :: r => a = 0 ∧ vp_in i Ls ∧ (match vs[i.toNatClampNeg]? with
    | some v => k (pc + 1) L (.int v :: r) w ce sl
    | none => False)
  | _ => False
theorem np_s_sldv {X : np_Ctx} {pc : Nat} {own : String} {cc : ByteArray} {nL RF RL RC RS : Nat} {rI : Instr} (hX : np_ok own cc nL RF RL RC RS rI X) {Ls : Nat} {vs : List Int32} {xs : Nat → Int32} (hf : np_lf Ls xs X) (hv : np_lv vs xs) (d : decode cc pc = .ok (.iaload, 1)) : np_S X pc (np_sldv Ls vs) := by
  intro k hk L st w ce sl hop
  refine np_s_sld hX hf d k hk L st w ce sl ?_
  unfold np_sldv at hop
  split at hop
  · obtain ⟨h1, h2, h3⟩ := hop
    split at h3
    · rename_i v hv9
      refine ⟨h1, h2, ?_⟩
      rw [hv _ _ hv9]
      exact h3
    · exact h3.elim
  · exact hop.elim
theorem dL_law_0 : decode cL_law 0 = .ok (.new 8, 3) := by decide +kernel
theorem dL_law_3 : decode cL_law 3 = .ok (.dup, 1) := by decide +kernel
theorem dL_law_4 : decode cL_law 4 = .ok (.invokespecial 123, 3) := by decide +kernel
theorem dL_law_7 : decode cL_law 7 = .ok (.astore_n 1, 1) := by decide +kernel
theorem dL_law_8 : decode cL_law 8 = .ok (.new 124, 3) := by decide +kernel
theorem dL_law_11 : decode cL_law 11 = .ok (.dup, 1) := by decide +kernel
theorem dL_law_12 : decode cL_law 12 = .ok (.invokespecial 126, 3) := by decide +kernel
theorem dL_law_15 : decode cL_law 15 = .ok (.astore_n 2, 1) := by decide +kernel
theorem dL_law_16 : decode cL_law 16 = .ok (.iconst 1, 1) := by decide +kernel
theorem dL_law_17 : decode cL_law 17 = .ok (.newarray .long, 2) := by decide +kernel
theorem dL_law_19 : decode cL_law 19 = .ok (.astore_n 3, 1) := by decide +kernel
theorem dL_law_20 : decode cL_law 20 = .ok (.iconst 0, 1) := by decide +kernel
theorem dL_law_21 : decode cL_law 21 = .ok (.istore 4, 2) := by decide +kernel
def isP_L_law (Ls : Nat) (vs : List Int32) (Rt : np_Rt) : List (Nat × np_Op) := [(0, nq_new 11 14 [.null, .null, .int 0, .null, .null, .null, .null, .null, .null, .null, .int 0, .null, .null, .int 0] 600002 7302232), (3, nq_dup), (4, nq_callI 1 sp_X11_init 2 1495 26209 600002 7302232), (7, np_ast 1 1), (8, nq_new 12 77 [.int 0, .null, .null, .null, .null, .int 0, .null, .null, .null, .null, .null, .null, .null, .null, .null, .null, .null, .null, .null, .int 0, .null, .null, .null, .null, .null, .null, .null, .null, .null, .null, .null, .null, .null, .int 0, .null, .null, .null, .null, .null, .null, .null, .int 0, .null, .null, .null, .null, .int 0, .null, .null, .null, .null, .null, .int 0, .int 0, .int 0, .int 0, .int 0, .int 0, .int 0, .int 0, .int 0, .null, .null, .null, .null, .null, .int 0, .null, .int 0, .null, .int 0, .int 0, .null, .null, .long 0, .int 0, .int 0] 600002 7302232), (11, nq_dup), (12, nq_callI 1 sp_X12_init 1 55 6212 600002 7302232), (15, np_ast 1 2), (16, np_push 1 (.int 1)), (17, nq_newa .long 1 (1, .inr (.inl fun _ => 0)) 600002 7302232), (19, np_ast 1 3), (20, np_push 1 (.int 0)), (21, np_ist 2 4)]
set_option maxRecDepth 20000 in
theorem soP_L_law {X : np_Ctx} {Rt : np_Rt} (hX : np_ok RL cL_law 7 11 432 600002 7302232 .ireturn X) {Ls : Nat} {vs : List Int32} {xs : Nat → Int32} (hf : np_lf Ls xs X) (hv : np_lv vs xs) (hR : ∀ st w ce sl, Rt st w ce sl → X.2.2.1 st w ce sl) : ∀ q ∈ isP_L_law Ls vs Rt, np_S X q.1 q.2 :=
  List.forall_mem_cons.mpr ⟨np_S.mono (op := np_new 11 14 [.null, .null, .int 0, .null, .null, .null, .null, .null, .null, .null, .int 0, .null, .null, .int 0] 600002 7302232) (np_s_new hX dL_law_0 (C := RX11) (T := TX11) (ty0 := tyX11) rfl guX11 tyX11_ok gw151 gw152 gw130 ndX11 nfX11) nq_new_le, List.forall_mem_cons.mpr ⟨np_S.mono (op := np_dup) (np_s_dup hX dL_law_3) nq_dup_le, List.forall_mem_cons.mpr ⟨np_S.mono (op := np_callI 1 sp_X11_init 2 1495 26209 600002 7302232) (np_s_callI hX C_X11_init dL_law_4 rfl gw155 gw130 gw153 gw154 ⟨by decide, by decide, by decide⟩ (by decide) (by decide)) nq_callI_le, List.forall_mem_cons.mpr ⟨np_s_astore_n hX dL_law_7 rfl (by decide), List.forall_mem_cons.mpr ⟨np_S.mono (op := np_new 12 77 [.int 0, .null, .null, .null, .null, .int 0, .null, .null, .null, .null, .null, .null, .null, .null, .null, .null, .null, .null, .null, .int 0, .null, .null, .null, .null, .null, .null, .null, .null, .null, .null, .null, .null, .null, .int 0, .null, .null, .null, .null, .null, .null, .null, .int 0, .null, .null, .null, .null, .int 0, .null, .null, .null, .null, .null, .int 0, .int 0, .int 0, .int 0, .int 0, .int 0, .int 0, .int 0, .int 0, .null, .null, .null, .null, .null, .int 0, .null, .int 0, .null, .int 0, .int 0, .null, .null, .long 0, .int 0, .int 0] 600002 7302232) (np_s_new hX dL_law_8 (C := RX12) (T := TX12) (ty0 := tyX12) rfl guX12 tyX12_ok gw1626 gw1627 gw142 ndX12 nfX12) nq_new_le, List.forall_mem_cons.mpr ⟨np_S.mono (op := np_dup) (np_s_dup hX dL_law_11) nq_dup_le, List.forall_mem_cons.mpr ⟨np_S.mono (op := np_callI 1 sp_X12_init 1 55 6212 600002 7302232) (np_s_callI hX C_X12_init dL_law_12 rfl gw1630 gw142 gw1628 gw1629 ⟨by decide, by decide, by decide⟩ (by decide) (by decide)) nq_callI_le, List.forall_mem_cons.mpr ⟨np_s_astore_n hX dL_law_15 rfl (by decide), List.forall_mem_cons.mpr ⟨np_s_iconst hX dL_law_16 (by decide), List.forall_mem_cons.mpr ⟨np_S.mono (op := np_newa .long 1 (1, .inr (.inl fun _ => 0)) 600002 7302232) (np_s_newa hX dL_law_17 rfl gw1869 (by decide) (by intro C h; cases h) (by decide) (fun _ => vp_cell_l _ _ _) (by decide) (fun _ _ => rfl) (fun _ => trivial)) nq_newa_le, List.forall_mem_cons.mpr ⟨np_s_astore_n hX dL_law_19 rfl (by decide), List.forall_mem_cons.mpr ⟨np_s_iconst hX dL_law_20 (by decide), List.forall_mem_cons.mpr ⟨np_s_istore hX dL_law_21 (by decide), fun _ h => nomatch h⟩⟩⟩⟩⟩⟩⟩⟩⟩⟩⟩⟩⟩
abbrev en_1 : np_E := .inr (11, [.ref 2, .ref 7, .int 0, .ref 8, .ref 9, .ref 10, .ref 11, .ref 12, .ref 13, .ref 14, .int 0, .ref 15, .ref 19, .int 0])
abbrev en_2 : np_E := .inr (2, [.ref 3, .ref 4, .ref 5, .ref 6, .int 0])
abbrev en_3 : np_E := .inl (.int, 14, .inl (fun _ => 0))
abbrev en_4 : np_E := .inl (.int, 14, .inl (fun _ => 0))
abbrev en_5 : np_E := .inl (.int, 14, .inl (fun _ => 0))
abbrev en_6 : np_E := .inl (.int, 14, .inl (fun _ => 0))
abbrev en_7 : np_E := .inl ((.object "NotationPress$Description"), 6, .inr (.inr (.inr (.inr (va_up (va_up (va_up (va_up (va_up (va_up (fun _ => none) 0 (some 20)) 1 (some 31)) 2 (some 42)) 3 (some 53)) 4 (some 64)) 5 (some 75))))))
abbrev en_8 : np_E := .inl (.int, 24, .inl (np_fa 24 (-2147483648) (fun _ => 0)))
abbrev en_9 : np_E := .inl ((.object "NotationPress$Text"), 2, .inr (.inr (.inr (.inr (va_up (va_up (fun _ => none) 0 (some 86)) 1 (some 88))))))
abbrev en_10 : np_E := .inl ((.object "NotationPress$Table"), 2, .inr (.inr (.inr (.inr (va_up (va_up (fun _ => none) 0 (some 90)) 1 (some 96))))))
abbrev en_14 : np_E := .inl ((.object "NotationPress$Column"), 6, .inr (.inr (.inr (.inr (va_up (va_up (va_up (va_up (va_up (va_up (fun _ => none) 0 (some 102)) 1 (some 105)) 2 (some 108)) 3 (some 111)) 4 (some 114)) 5 (some 117))))))
abbrev en_15 : np_E := .inr (10, [.ref 16, .ref 17, .ref 18])
abbrev en_16 : np_E := .inl (.int, 8, .inl (np_fa 8 (-1) (fun _ => 0)))
abbrev en_17 : np_E := .inl (.int, 8, .inl (fun _ => 0))
abbrev en_18 : np_E := .inl (.int, 8, .inl (fun _ => 0))
abbrev en_19 : np_E := .inl ((.object "NotationPress$Upgrade"), 8, .inr (.inr (.inr (.inr (va_up (va_up (va_up (va_up (va_up (va_up (va_up (va_up (fun _ => none) 0 (some 120)) 1 (some 127)) 2 (some 134)) 3 (some 141)) 4 (some 148)) 5 (some 155)) 6 (some 162)) 7 (some 169))))))
abbrev en_20 : np_E := .inr (1, [.ref 21, .ref 26, .ref 27, .ref 28, .ref 29, .ref 30, .int 0])
abbrev en_21 : np_E := .inr (2, [.ref 22, .ref 23, .ref 24, .ref 25, .int 0])
abbrev en_22 : np_E := .inl (.int, 14, .inl (fun _ => 0))
abbrev en_23 : np_E := .inl (.int, 14, .inl (fun _ => 0))
abbrev en_24 : np_E := .inl (.int, 14, .inl (fun _ => 0))
abbrev en_25 : np_E := .inl (.int, 14, .inl (fun _ => 0))
abbrev en_26 : np_E := .inl (.int, 8, .inl (fun _ => 0))
abbrev en_27 : np_E := .inl (.int, 8, .inl (fun _ => 0))
abbrev en_28 : np_E := .inl (.int, 8, .inl (fun _ => 0))
abbrev en_29 : np_E := .inl (.int, 8, .inl (fun _ => 0))
abbrev en_30 : np_E := .inl (.int, 8, .inl (fun _ => 0))
abbrev en_31 : np_E := .inr (1, [.ref 32, .ref 37, .ref 38, .ref 39, .ref 40, .ref 41, .int 0])
abbrev en_32 : np_E := .inr (2, [.ref 33, .ref 34, .ref 35, .ref 36, .int 0])
abbrev en_33 : np_E := .inl (.int, 14, .inl (fun _ => 0))
abbrev en_34 : np_E := .inl (.int, 14, .inl (fun _ => 0))
abbrev en_35 : np_E := .inl (.int, 14, .inl (fun _ => 0))
abbrev en_36 : np_E := .inl (.int, 14, .inl (fun _ => 0))
abbrev en_37 : np_E := .inl (.int, 8, .inl (fun _ => 0))
abbrev en_38 : np_E := .inl (.int, 8, .inl (fun _ => 0))
abbrev en_39 : np_E := .inl (.int, 8, .inl (fun _ => 0))
abbrev en_40 : np_E := .inl (.int, 8, .inl (fun _ => 0))
abbrev en_41 : np_E := .inl (.int, 8, .inl (fun _ => 0))
abbrev en_42 : np_E := .inr (1, [.ref 43, .ref 48, .ref 49, .ref 50, .ref 51, .ref 52, .int 0])
abbrev en_43 : np_E := .inr (2, [.ref 44, .ref 45, .ref 46, .ref 47, .int 0])
abbrev en_44 : np_E := .inl (.int, 14, .inl (fun _ => 0))
abbrev en_45 : np_E := .inl (.int, 14, .inl (fun _ => 0))
abbrev en_46 : np_E := .inl (.int, 14, .inl (fun _ => 0))
abbrev en_47 : np_E := .inl (.int, 14, .inl (fun _ => 0))
abbrev en_48 : np_E := .inl (.int, 8, .inl (fun _ => 0))
abbrev en_49 : np_E := .inl (.int, 8, .inl (fun _ => 0))
abbrev en_50 : np_E := .inl (.int, 8, .inl (fun _ => 0))
abbrev en_51 : np_E := .inl (.int, 8, .inl (fun _ => 0))
abbrev en_52 : np_E := .inl (.int, 8, .inl (fun _ => 0))
abbrev en_53 : np_E := .inr (1, [.ref 54, .ref 59, .ref 60, .ref 61, .ref 62, .ref 63, .int 0])
abbrev en_54 : np_E := .inr (2, [.ref 55, .ref 56, .ref 57, .ref 58, .int 0])
abbrev en_55 : np_E := .inl (.int, 14, .inl (fun _ => 0))
abbrev en_56 : np_E := .inl (.int, 14, .inl (fun _ => 0))
abbrev en_57 : np_E := .inl (.int, 14, .inl (fun _ => 0))
abbrev en_58 : np_E := .inl (.int, 14, .inl (fun _ => 0))
abbrev en_59 : np_E := .inl (.int, 8, .inl (fun _ => 0))
abbrev en_60 : np_E := .inl (.int, 8, .inl (fun _ => 0))
abbrev en_61 : np_E := .inl (.int, 8, .inl (fun _ => 0))
abbrev en_62 : np_E := .inl (.int, 8, .inl (fun _ => 0))
abbrev en_63 : np_E := .inl (.int, 8, .inl (fun _ => 0))
abbrev en_64 : np_E := .inr (1, [.ref 65, .ref 70, .ref 71, .ref 72, .ref 73, .ref 74, .int 0])
abbrev en_65 : np_E := .inr (2, [.ref 66, .ref 67, .ref 68, .ref 69, .int 0])
abbrev en_66 : np_E := .inl (.int, 14, .inl (fun _ => 0))
abbrev en_67 : np_E := .inl (.int, 14, .inl (fun _ => 0))
abbrev en_68 : np_E := .inl (.int, 14, .inl (fun _ => 0))
abbrev en_69 : np_E := .inl (.int, 14, .inl (fun _ => 0))
abbrev en_70 : np_E := .inl (.int, 8, .inl (fun _ => 0))
abbrev en_71 : np_E := .inl (.int, 8, .inl (fun _ => 0))
abbrev en_72 : np_E := .inl (.int, 8, .inl (fun _ => 0))
abbrev en_73 : np_E := .inl (.int, 8, .inl (fun _ => 0))
abbrev en_74 : np_E := .inl (.int, 8, .inl (fun _ => 0))
abbrev en_75 : np_E := .inr (1, [.ref 76, .ref 81, .ref 82, .ref 83, .ref 84, .ref 85, .int 0])
abbrev en_76 : np_E := .inr (2, [.ref 77, .ref 78, .ref 79, .ref 80, .int 0])
abbrev en_77 : np_E := .inl (.int, 14, .inl (fun _ => 0))
abbrev en_78 : np_E := .inl (.int, 14, .inl (fun _ => 0))
abbrev en_79 : np_E := .inl (.int, 14, .inl (fun _ => 0))
abbrev en_80 : np_E := .inl (.int, 14, .inl (fun _ => 0))
abbrev en_81 : np_E := .inl (.int, 8, .inl (fun _ => 0))
abbrev en_82 : np_E := .inl (.int, 8, .inl (fun _ => 0))
abbrev en_83 : np_E := .inl (.int, 8, .inl (fun _ => 0))
abbrev en_84 : np_E := .inl (.int, 8, .inl (fun _ => 0))
abbrev en_85 : np_E := .inl (.int, 8, .inl (fun _ => 0))
abbrev en_86 : np_E := .inr (7, [.ref 87, .int 0, .int 1])
abbrev en_87 : np_E := .inl (.char, 300, .inl (fun _ => 0))
abbrev en_88 : np_E := .inr (7, [.ref 89, .int 0, .int 1])
abbrev en_89 : np_E := .inl (.char, 300, .inl (fun _ => 0))
abbrev en_90 : np_E := .inr (6, [.ref 91, .ref 92, .ref 93, .ref 94, .ref 95, .null, .int 0, .int 0, .int 0, .int 0, .int 0, .int 0])
abbrev en_91 : np_E := .inl (.int, 576, .inl (fun _ => 0))
abbrev en_92 : np_E := .inl (.int, 300, .inl (fun _ => 0))
abbrev en_93 : np_E := .inl (.int, 256, .inl (np_fa 256 (-1) (fun _ => 0)))
abbrev en_94 : np_E := .inl (.int, 256, .inl (np_fa 256 (-1) (fun _ => 0)))
abbrev en_95 : np_E := .inl (.int, 192, .inl (fun _ => 0))
abbrev en_96 : np_E := .inr (6, [.ref 97, .ref 98, .ref 99, .ref 100, .ref 101, .null, .int 0, .int 0, .int 0, .int 0, .int 0, .int 0])
abbrev en_97 : np_E := .inl (.int, 576, .inl (fun _ => 0))
abbrev en_98 : np_E := .inl (.int, 300, .inl (fun _ => 0))
abbrev en_99 : np_E := .inl (.int, 256, .inl (np_fa 256 (-1) (fun _ => 0)))
abbrev en_100 : np_E := .inl (.int, 256, .inl (np_fa 256 (-1) (fun _ => 0)))
abbrev en_101 : np_E := .inl (.int, 192, .inl (fun _ => 0))
abbrev en_102 : np_E := .inr (0, [.ref 103, .ref 104, .null, .int 0, .int 0, .int 0])
abbrev en_103 : np_E := .inl (.int, 24, .inl (fun _ => 0))
abbrev en_104 : np_E := .inl (.int, 24, .inl (fun _ => 0))
abbrev en_105 : np_E := .inr (0, [.ref 106, .ref 107, .null, .int 0, .int 0, .int 0])
abbrev en_106 : np_E := .inl (.int, 24, .inl (fun _ => 0))
abbrev en_107 : np_E := .inl (.int, 24, .inl (fun _ => 0))
abbrev en_108 : np_E := .inr (0, [.ref 109, .ref 110, .null, .int 0, .int 0, .int 0])
abbrev en_109 : np_E := .inl (.int, 24, .inl (fun _ => 0))
abbrev en_110 : np_E := .inl (.int, 24, .inl (fun _ => 0))
abbrev en_111 : np_E := .inr (0, [.ref 112, .ref 113, .null, .int 0, .int 0, .int 0])
abbrev en_112 : np_E := .inl (.int, 24, .inl (fun _ => 0))
abbrev en_113 : np_E := .inl (.int, 24, .inl (fun _ => 0))
abbrev en_114 : np_E := .inr (0, [.ref 115, .ref 116, .null, .int 0, .int 0, .int 0])
abbrev en_115 : np_E := .inl (.int, 24, .inl (fun _ => 0))
abbrev en_116 : np_E := .inl (.int, 24, .inl (fun _ => 0))
abbrev en_117 : np_E := .inr (0, [.ref 118, .ref 119, .null, .int 0, .int 0, .int 0])
abbrev en_118 : np_E := .inl (.int, 24, .inl (fun _ => 0))
abbrev en_119 : np_E := .inl (.int, 24, .inl (fun _ => 0))
abbrev en_120 : np_E := .inr (9, [.ref 121, .ref 122, .ref 123, .ref 124, .ref 125, .ref 126, .int 0])
abbrev en_121 : np_E := .inl (.int, 60, .inl (fun _ => 0))
abbrev en_122 : np_E := .inl (.int, 60, .inl (fun _ => 0))
abbrev en_123 : np_E := .inl (.int, 8, .inl (fun _ => 0))
abbrev en_124 : np_E := .inl (.int, 60, .inl (fun _ => 0))
abbrev en_125 : np_E := .inl (.int, 60, .inl (fun _ => 0))
abbrev en_126 : np_E := .inl (.int, 60, .inl (fun _ => 0))
abbrev en_127 : np_E := .inr (9, [.ref 128, .ref 129, .ref 130, .ref 131, .ref 132, .ref 133, .int 0])
abbrev en_128 : np_E := .inl (.int, 60, .inl (fun _ => 0))
abbrev en_129 : np_E := .inl (.int, 60, .inl (fun _ => 0))
abbrev en_130 : np_E := .inl (.int, 8, .inl (fun _ => 0))
abbrev en_131 : np_E := .inl (.int, 60, .inl (fun _ => 0))
abbrev en_132 : np_E := .inl (.int, 60, .inl (fun _ => 0))
abbrev en_133 : np_E := .inl (.int, 60, .inl (fun _ => 0))
abbrev en_134 : np_E := .inr (9, [.ref 135, .ref 136, .ref 137, .ref 138, .ref 139, .ref 140, .int 0])
abbrev en_135 : np_E := .inl (.int, 60, .inl (fun _ => 0))
abbrev en_136 : np_E := .inl (.int, 60, .inl (fun _ => 0))
abbrev en_137 : np_E := .inl (.int, 8, .inl (fun _ => 0))
abbrev en_138 : np_E := .inl (.int, 60, .inl (fun _ => 0))
abbrev en_139 : np_E := .inl (.int, 60, .inl (fun _ => 0))
abbrev en_140 : np_E := .inl (.int, 60, .inl (fun _ => 0))
abbrev en_141 : np_E := .inr (9, [.ref 142, .ref 143, .ref 144, .ref 145, .ref 146, .ref 147, .int 0])
abbrev en_142 : np_E := .inl (.int, 60, .inl (fun _ => 0))
abbrev en_143 : np_E := .inl (.int, 60, .inl (fun _ => 0))
abbrev en_144 : np_E := .inl (.int, 8, .inl (fun _ => 0))
abbrev en_145 : np_E := .inl (.int, 60, .inl (fun _ => 0))
abbrev en_146 : np_E := .inl (.int, 60, .inl (fun _ => 0))
abbrev en_147 : np_E := .inl (.int, 60, .inl (fun _ => 0))
abbrev en_148 : np_E := .inr (9, [.ref 149, .ref 150, .ref 151, .ref 152, .ref 153, .ref 154, .int 0])
abbrev en_149 : np_E := .inl (.int, 60, .inl (fun _ => 0))
abbrev en_150 : np_E := .inl (.int, 60, .inl (fun _ => 0))
abbrev en_151 : np_E := .inl (.int, 8, .inl (fun _ => 0))
abbrev en_152 : np_E := .inl (.int, 60, .inl (fun _ => 0))
abbrev en_153 : np_E := .inl (.int, 60, .inl (fun _ => 0))
abbrev en_154 : np_E := .inl (.int, 60, .inl (fun _ => 0))
abbrev en_155 : np_E := .inr (9, [.ref 156, .ref 157, .ref 158, .ref 159, .ref 160, .ref 161, .int 0])
abbrev en_156 : np_E := .inl (.int, 60, .inl (fun _ => 0))
abbrev en_157 : np_E := .inl (.int, 60, .inl (fun _ => 0))
abbrev en_158 : np_E := .inl (.int, 8, .inl (fun _ => 0))
abbrev en_159 : np_E := .inl (.int, 60, .inl (fun _ => 0))
abbrev en_160 : np_E := .inl (.int, 60, .inl (fun _ => 0))
abbrev en_161 : np_E := .inl (.int, 60, .inl (fun _ => 0))
abbrev en_162 : np_E := .inr (9, [.ref 163, .ref 164, .ref 165, .ref 166, .ref 167, .ref 168, .int 0])
abbrev en_163 : np_E := .inl (.int, 60, .inl (fun _ => 0))
abbrev en_164 : np_E := .inl (.int, 60, .inl (fun _ => 0))
abbrev en_165 : np_E := .inl (.int, 8, .inl (fun _ => 0))
abbrev en_166 : np_E := .inl (.int, 60, .inl (fun _ => 0))
abbrev en_167 : np_E := .inl (.int, 60, .inl (fun _ => 0))
abbrev en_168 : np_E := .inl (.int, 60, .inl (fun _ => 0))
abbrev en_169 : np_E := .inr (9, [.ref 170, .ref 171, .ref 172, .ref 173, .ref 174, .ref 175, .int 0])
abbrev en_170 : np_E := .inl (.int, 60, .inl (fun _ => 0))
abbrev en_171 : np_E := .inl (.int, 60, .inl (fun _ => 0))
abbrev en_172 : np_E := .inl (.int, 8, .inl (fun _ => 0))
abbrev en_173 : np_E := .inl (.int, 60, .inl (fun _ => 0))
abbrev en_174 : np_E := .inl (.int, 60, .inl (fun _ => 0))
abbrev en_175 : np_E := .inl (.int, 60, .inl (fun _ => 0))
abbrev en_176 : np_E := .inr (12, [.int 0, .ref 177, .ref 178, .ref 179, .ref 180, .int 0, .ref 181, .ref 182, .ref 183, .ref 184, .ref 185, .ref 186, .ref 187, .ref 188, .ref 189, .ref 190, .ref 191, .ref 192, .ref 193, .int 0, .ref 194, .ref 195, .ref 196, .ref 197, .ref 198, .ref 199, .ref 200, .ref 201, .ref 202, .ref 203, .ref 204, .ref 205, .ref 206, .int 0, .ref 207, .ref 208, .ref 209, .ref 210, .ref 211, .ref 212, .ref 213, .int 0, .ref 214, .ref 215, .ref 216, .ref 217, .int 0, .ref 218, .ref 219, .ref 220, .ref 221, .ref 222, .int 0, .int 0, .int 0, .int 0, .int 0, .int 0, .int 0, .int 0, .int 0, .ref 223, .ref 224, .ref 225, .ref 226, .ref 227, .int 0, .ref 228, .int 0, .ref 229, .int 0, .int 0, .ref 230, .ref 231, .long 0, .int 0, .int 0])
abbrev en_177 : np_E := .inl (.int, 14, .inl (fun _ => 0))
abbrev en_178 : np_E := .inl (.int, 14, .inl (fun _ => 0))
abbrev en_179 : np_E := .inl (.int, 14, .inl (fun _ => 0))
abbrev en_180 : np_E := .inl (.int, 14, .inl (fun _ => 0))
abbrev en_181 : np_E := .inl (.int, 6, .inl (fun _ => 0))
abbrev en_182 : np_E := .inl (.int, 84, .inl (fun _ => 0))
abbrev en_183 : np_E := .inl (.int, 84, .inl (fun _ => 0))
abbrev en_184 : np_E := .inl (.int, 84, .inl (fun _ => 0))
abbrev en_185 : np_E := .inl (.int, 84, .inl (fun _ => 0))
abbrev en_186 : np_E := .inl (.int, 84, .inl (fun _ => 0))
abbrev en_187 : np_E := .inl (.int, 6, .inl (fun _ => 0))
abbrev en_188 : np_E := .inl (.int, 48, .inl (fun _ => 0))
abbrev en_189 : np_E := .inl (.int, 48, .inl (fun _ => 0))
abbrev en_190 : np_E := .inl (.int, 48, .inl (fun _ => 0))
abbrev en_191 : np_E := .inl (.int, 48, .inl (fun _ => 0))
abbrev en_192 : np_E := .inl (.int, 48, .inl (fun _ => 0))
abbrev en_193 : np_E := .inl (.int, 24, .inl (fun _ => 0))
abbrev en_194 : np_E := .inl (.int, 600, .inl (fun _ => 0))
abbrev en_195 : np_E := .inl (.int, 2, .inl (fun _ => 0))
abbrev en_196 : np_E := .inl (.boolean, 2, .inl (fun _ => 0))
abbrev en_197 : np_E := .inl (.int, 2, .inl (upd (upd (fun _ => 0) 0 (-1)) 1 (-1)))
abbrev en_198 : np_E := .inl (.int, 2, .inl (fun _ => 0))
abbrev en_199 : np_E := .inl (.int, 2, .inl (fun _ => 0))
abbrev en_200 : np_E := .inl (.int, 2, .inl (fun _ => 0))
abbrev en_201 : np_E := .inl (.int, 1152, .inl (fun _ => 0))
abbrev en_202 : np_E := .inl (.int, 48, .inl (fun _ => 0))
abbrev en_203 : np_E := .inl (.int, 2, .inl (fun _ => 0))
abbrev en_204 : np_E := .inl (.int, 602, .inl (fun _ => 0))
abbrev en_205 : np_E := .inl (.int, 602, .inl (fun _ => 0))
abbrev en_206 : np_E := .inl (.int, 602, .inl (fun _ => 0))
abbrev en_207 : np_E := .inl (.int, 6, .inl (fun _ => 0))
abbrev en_208 : np_E := .inl (.int, 6, .inl (fun _ => 0))
abbrev en_209 : np_E := .inl (.int, 6, .inl (fun _ => 0))
abbrev en_210 : np_E := .inl (.int, 6, .inl (fun _ => 0))
abbrev en_211 : np_E := .inl (.int, 8, .inl (upd (upd (upd (upd (upd (upd (upd (upd (fun _ => 0) 0 (-1)) 1 (-1)) 2 (-1)) 3 (-1)) 4 (-1)) 5 (-1)) 6 (-1)) 7 (-1)))
abbrev en_212 : np_E := .inl (.int, 8, .inl (fun _ => 0))
abbrev en_213 : np_E := .inl (.int, 8, .inl (fun _ => 0))
abbrev en_214 : np_E := .inl (.int, 480, .inl (fun _ => 0))
abbrev en_215 : np_E := .inl (.int, 480, .inl (fun _ => 0))
abbrev en_216 : np_E := .inl (.int, 64, .inl (fun _ => 0))
abbrev en_217 : np_E := .inl (.int, 64, .inl (fun _ => 0))
abbrev en_218 : np_E := .inl (.int, 60, .inl (fun _ => 0))
abbrev en_219 : np_E := .inl (.int, 60, .inl (fun _ => 0))
abbrev en_220 : np_E := .inl (.long, 60, .inr (.inl (fun _ => 0)))
abbrev en_221 : np_E := .inl (.int, 60, .inl (fun _ => 0))
abbrev en_222 : np_E := .inl (.int, 24, .inl (fun _ => 0))
abbrev en_223 : np_E := .inl (.int, 64, .inl (fun _ => 0))
abbrev en_224 : np_E := .inl (.int, 64, .inl (fun _ => 0))
abbrev en_225 : np_E := .inl (.int, 64, .inl (fun _ => 0))
abbrev en_226 : np_E := .inl (.int, 64, .inl (fun _ => 0))
abbrev en_227 : np_E := .inl (.int, 64, .inl (fun _ => 0))
abbrev en_228 : np_E := .inl (.int, 24, .inl (fun _ => 0))
abbrev en_229 : np_E := .inl (.int, 80, .inl (fun _ => 0))
abbrev en_230 : np_E := .inl (.int, 8, .inl (fun _ => 0))
abbrev en_231 : np_E := .inl (.int, 8, .inl (fun _ => 0))
abbrev en_232 : np_E := .inl (.long, 1, .inr (.inl (fun _ => 0)))
def np_W0 : List (Nat × np_E) := [(176, en_176), (1, en_1), (2, en_2), (3, en_3), (4, en_4), (5, en_5), (6, en_6), (7, en_7), (8, en_8), (9, en_9), (10, en_10), (14, en_14), (15, en_15), (16, en_16), (17, en_17), (18, en_18), (19, en_19), (20, en_20), (21, en_21), (22, en_22), (23, en_23), (24, en_24), (25, en_25), (26, en_26), (27, en_27), (28, en_28), (29, en_29), (30, en_30), (31, en_31), (32, en_32), (33, en_33), (34, en_34), (35, en_35), (36, en_36), (37, en_37), (38, en_38), (39, en_39), (40, en_40), (41, en_41), (42, en_42), (43, en_43), (44, en_44), (45, en_45), (46, en_46), (47, en_47), (48, en_48), (49, en_49), (50, en_50), (51, en_51), (52, en_52), (53, en_53), (54, en_54), (55, en_55), (56, en_56), (57, en_57), (58, en_58), (59, en_59), (60, en_60), (61, en_61), (62, en_62), (63, en_63), (64, en_64), (65, en_65), (66, en_66), (67, en_67), (68, en_68), (69, en_69), (70, en_70), (71, en_71), (72, en_72), (73, en_73), (74, en_74), (75, en_75), (76, en_76), (77, en_77), (78, en_78), (79, en_79), (80, en_80), (81, en_81), (82, en_82), (83, en_83), (84, en_84), (85, en_85), (86, en_86), (87, en_87), (88, en_88), (89, en_89), (90, en_90), (91, en_91), (92, en_92), (93, en_93), (94, en_94), (95, en_95), (96, en_96), (97, en_97), (98, en_98), (99, en_99), (100, en_100), (101, en_101), (102, en_102), (103, en_103), (104, en_104), (105, en_105), (106, en_106), (107, en_107), (108, en_108), (109, en_109), (110, en_110), (111, en_111), (112, en_112), (113, en_113), (114, en_114), (115, en_115), (116, en_116), (117, en_117), (118, en_118), (119, en_119), (120, en_120), (121, en_121), (122, en_122), (123, en_123), (124, en_124), (125, en_125), (126, en_126), (127, en_127), (128, en_128), (129, en_129), (130, en_130), (131, en_131), (132, en_132), (133, en_133), (134, en_134), (135, en_135), (136, en_136), (137, en_137), (138, en_138), (139, en_139), (140, en_140), (141, en_141), (142, en_142), (143, en_143), (144, en_144), (145, en_145), (146, en_146), (147, en_147), (148, en_148), (149, en_149), (150, en_150), (151, en_151), (152, en_152), (153, en_153), (154, en_154), (155, en_155), (156, en_156), (157, en_157), (158, en_158), (159, en_159), (160, en_160), (161, en_161), (162, en_162), (163, en_163), (164, en_164), (165, en_165), (166, en_166), (167, en_167), (168, en_168), (169, en_169), (170, en_170), (171, en_171), (172, en_172), (173, en_173), (174, en_174), (175, en_175), (177, en_177), (178, en_178), (179, en_179), (180, en_180), (181, en_181), (182, en_182), (183, en_183), (184, en_184), (185, en_185), (186, en_186), (187, en_187), (188, en_188), (189, en_189), (190, en_190), (191, en_191), (192, en_192), (193, en_193), (194, en_194), (195, en_195), (196, en_196), (197, en_197), (198, en_198), (199, en_199), (200, en_200), (201, en_201), (202, en_202), (203, en_203), (204, en_204), (205, en_205), (206, en_206), (207, en_207), (208, en_208), (209, en_209), (210, en_210), (211, en_211), (212, en_212), (213, en_213), (214, en_214), (215, en_215), (216, en_216), (217, en_217), (218, en_218), (219, en_219), (220, en_220), (221, en_221), (222, en_222), (223, en_223), (224, en_224), (225, en_225), (226, en_226), (227, en_227), (228, en_228), (229, en_229), (230, en_230), (231, en_231), (232, en_232)]
abbrev np_L0 : np_L := [(4, .int 0), (3, .ref 232), (2, .ref 176), (1, .ref 1), (0, .ref 0)]
set_option maxRecDepth 20000 in
set_option maxHeartbeats 8000000 in
theorem run_law0 {Rt : np_Rt} {Ls : Nat} {vs : List Int32} : np_runF (isP_L_law Ls vs Rt) [23] (fun pc L st w ce sl => pc = 23 ∧ np_at np_L0 [] 233 np_W0 1553 32513 pc L st w ce sl) 40 0 [(0, .ref 0)] [] (1, fun _ => none) 0 0 := by
  sorry
end

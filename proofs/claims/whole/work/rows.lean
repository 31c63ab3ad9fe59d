section
-- ===== PART A: goes FIRST, ahead of the names: the tables' words, and 'selects' of the private methods out of them =====
/-- a private method of a class that the tables say can be made, by its rows of tables_1 -/
def lw_okq (q : MethodName × Nat) : Prop := (q.1.cls ≠ "java/lang/invoke/MethodHandle" ∧ q.1.cls ≠ "java/lang/invoke/VarHandle") ∧ Cond.instantiable q.1.cls q.2 ∈ tables_1 ∧ Cond.privateMethod q.1 ∈ tables_1 ∧ Cond.instanceMethod q.1 ∈ tables_1
theorem lw_p0 : lw_okq (⟨"DiodeLink$Journal", "firstKept", "()I"⟩, 6) := ⟨⟨by decide +kernel, by decide +kernel⟩, List.mem_of_getElem? (i := 128) (by decide +kernel), List.mem_of_getElem? (i := 291) (by decide +kernel), List.mem_of_getElem? (i := 292) (by decide +kernel)⟩
theorem lw_p1 : lw_okq (⟨"DiodeLink$Journal", "dueLink", "(JI)J"⟩, 6) := ⟨⟨by decide +kernel, by decide +kernel⟩, List.mem_of_getElem? (i := 128) (by decide +kernel), List.mem_of_getElem? (i := 302) (by decide +kernel), List.mem_of_getElem? (i := 303) (by decide +kernel)⟩
theorem lw_p2 : lw_okq (⟨"java/lang/Throwable", "fillInStackTrace", "(I)Ljava/lang/Throwable;"⟩, 6) := ⟨⟨by decide +kernel, by decide +kernel⟩, List.mem_of_getElem? (i := 378) (by decide +kernel), List.mem_of_getElem? (i := 376) (by decide +kernel), List.mem_of_getElem? (i := 377) (by decide +kernel)⟩
theorem lw_p3 : lw_okq (⟨"DiodeLink$Folder", "placeOf", "(LDiodeLink$Bytes;)I"⟩, 5) := ⟨⟨by decide +kernel, by decide +kernel⟩, List.mem_of_getElem? (i := 51) (by decide +kernel), List.mem_of_getElem? (i := 455) (by decide +kernel), List.mem_of_getElem? (i := 456) (by decide +kernel)⟩
theorem lw_p4 : lw_okq (⟨"DiodeLink$Folder", "isAt", "(ILDiodeLink$Bytes;)Z"⟩, 5) := ⟨⟨by decide +kernel, by decide +kernel⟩, List.mem_of_getElem? (i := 51) (by decide +kernel), List.mem_of_getElem? (i := 470) (by decide +kernel), List.mem_of_getElem? (i := 471) (by decide +kernel)⟩
theorem lw_p5 : lw_okq (⟨"DiodeLink$Folder", "moveFile", "(II)V"⟩, 5) := ⟨⟨by decide +kernel, by decide +kernel⟩, List.mem_of_getElem? (i := 51) (by decide +kernel), List.mem_of_getElem? (i := 474) (by decide +kernel), List.mem_of_getElem? (i := 475) (by decide +kernel)⟩
theorem lw_p6 : lw_okq (⟨"DiodeLink$Sender", "beginRounds", "()V"⟩, 4) := ⟨⟨by decide +kernel, by decide +kernel⟩, List.mem_of_getElem? (i := 44) (by decide +kernel), List.mem_of_getElem? (i := 549) (by decide +kernel), List.mem_of_getElem? (i := 550) (by decide +kernel)⟩
theorem lw_p7 : lw_okq (⟨"DiodeLink$Sender", "packetsOf", "(I)I"⟩, 4) := ⟨⟨by decide +kernel, by decide +kernel⟩, List.mem_of_getElem? (i := 44) (by decide +kernel), List.mem_of_getElem? (i := 565) (by decide +kernel), List.mem_of_getElem? (i := 566) (by decide +kernel)⟩
theorem lw_p8 : lw_okq (⟨"DiodeLink$Sender", "fillFrom", "(LDiodeLink$Bytes;II)V"⟩, 4) := ⟨⟨by decide +kernel, by decide +kernel⟩, List.mem_of_getElem? (i := 44) (by decide +kernel), List.mem_of_getElem? (i := 594) (by decide +kernel), List.mem_of_getElem? (i := 595) (by decide +kernel)⟩
theorem lw_p9 : lw_okq (⟨"DiodeLink$Edition", "appendPlace", "(LDiodeLink$Bytes;III)V"⟩, 3) := ⟨⟨by decide +kernel, by decide +kernel⟩, List.mem_of_getElem? (i := 61) (by decide +kernel), List.mem_of_getElem? (i := 602) (by decide +kernel), List.mem_of_getElem? (i := 603) (by decide +kernel)⟩
theorem lw_p10 : lw_okq (⟨"DiodeLink$Edition", "sum", "(III)J"⟩, 3) := ⟨⟨by decide +kernel, by decide +kernel⟩, List.mem_of_getElem? (i := 61) (by decide +kernel), List.mem_of_getElem? (i := 606) (by decide +kernel), List.mem_of_getElem? (i := 607) (by decide +kernel)⟩
theorem lw_p11 : lw_okq (⟨"DiodeLink", "checkSlot", "(I)V"⟩, 8) := ⟨⟨by decide +kernel, by decide +kernel⟩, List.mem_of_getElem? (i := 22) (by decide +kernel), List.mem_of_getElem? (i := 627) (by decide +kernel), List.mem_of_getElem? (i := 628) (by decide +kernel)⟩
theorem lw_p12 : lw_okq (⟨"DiodeLink$Receiver", "whyDropped", "(LDiodeLink$Bytes;)I"⟩, 7) := ⟨⟨by decide +kernel, by decide +kernel⟩, List.mem_of_getElem? (i := 156) (by decide +kernel), List.mem_of_getElem? (i := 661) (by decide +kernel), List.mem_of_getElem? (i := 662) (by decide +kernel)⟩
theorem lw_p13 : lw_okq (⟨"DiodeLink$Receiver", "noteLife", "(I)V"⟩, 7) := ⟨⟨by decide +kernel, by decide +kernel⟩, List.mem_of_getElem? (i := 156) (by decide +kernel), List.mem_of_getElem? (i := 668) (by decide +kernel), List.mem_of_getElem? (i := 669) (by decide +kernel)⟩
theorem lw_p14 : lw_okq (⟨"DiodeLink$Receiver", "canBe", "(LDiodeLink$Bytes;)Z"⟩, 7) := ⟨⟨by decide +kernel, by decide +kernel⟩, List.mem_of_getElem? (i := 156) (by decide +kernel), List.mem_of_getElem? (i := 672) (by decide +kernel), List.mem_of_getElem? (i := 673) (by decide +kernel)⟩
theorem lw_p15 : lw_okq (⟨"DiodeLink$Receiver", "leastOf", "(I)LDiodeLink$Version;"⟩, 7) := ⟨⟨by decide +kernel, by decide +kernel⟩, List.mem_of_getElem? (i := 156) (by decide +kernel), List.mem_of_getElem? (i := 678) (by decide +kernel), List.mem_of_getElem? (i := 679) (by decide +kernel)⟩
def lw_privs_1 : List (MethodName × Nat) := [(⟨"DiodeLink$Journal", "firstKept", "()I"⟩, 6), (⟨"DiodeLink$Journal", "dueLink", "(JI)J"⟩, 6), (⟨"java/lang/Throwable", "fillInStackTrace", "(I)Ljava/lang/Throwable;"⟩, 6), (⟨"DiodeLink$Folder", "placeOf", "(LDiodeLink$Bytes;)I"⟩, 5), (⟨"DiodeLink$Folder", "isAt", "(ILDiodeLink$Bytes;)Z"⟩, 5), (⟨"DiodeLink$Folder", "moveFile", "(II)V"⟩, 5), (⟨"DiodeLink$Sender", "beginRounds", "()V"⟩, 4), (⟨"DiodeLink$Sender", "packetsOf", "(I)I"⟩, 4), (⟨"DiodeLink$Sender", "fillFrom", "(LDiodeLink$Bytes;II)V"⟩, 4), (⟨"DiodeLink$Edition", "appendPlace", "(LDiodeLink$Bytes;III)V"⟩, 3), (⟨"DiodeLink$Edition", "sum", "(III)J"⟩, 3), (⟨"DiodeLink", "checkSlot", "(I)V"⟩, 8), (⟨"DiodeLink$Receiver", "whyDropped", "(LDiodeLink$Bytes;)I"⟩, 7), (⟨"DiodeLink$Receiver", "noteLife", "(I)V"⟩, 7), (⟨"DiodeLink$Receiver", "canBe", "(LDiodeLink$Bytes;)Z"⟩, 7), (⟨"DiodeLink$Receiver", "leastOf", "(I)LDiodeLink$Version;"⟩, 7)]
theorem lw_r1 : ∀ q ∈ lw_privs_1, lw_okq q := List.forall_mem_cons.mpr ⟨lw_p0, List.forall_mem_cons.mpr ⟨lw_p1, List.forall_mem_cons.mpr ⟨lw_p2, List.forall_mem_cons.mpr ⟨lw_p3, List.forall_mem_cons.mpr ⟨lw_p4, List.forall_mem_cons.mpr ⟨lw_p5, List.forall_mem_cons.mpr ⟨lw_p6, List.forall_mem_cons.mpr ⟨lw_p7, List.forall_mem_cons.mpr ⟨lw_p8, List.forall_mem_cons.mpr ⟨lw_p9, List.forall_mem_cons.mpr ⟨lw_p10, List.forall_mem_cons.mpr ⟨lw_p11, List.forall_mem_cons.mpr ⟨lw_p12, List.forall_mem_cons.mpr ⟨lw_p13, List.forall_mem_cons.mpr ⟨lw_p14, List.forall_mem_cons.mpr ⟨lw_p15, fun _ h => absurd h List.not_mem_nil⟩⟩⟩⟩⟩⟩⟩⟩⟩⟩⟩⟩⟩⟩⟩⟩
theorem lw_p16 : lw_okq (⟨"DiodeLink$Receiver", "knownAt", "(II)LDiodeLink$Version;"⟩, 7) := ⟨⟨by decide +kernel, by decide +kernel⟩, List.mem_of_getElem? (i := 156) (by decide +kernel), List.mem_of_getElem? (i := 682) (by decide +kernel), List.mem_of_getElem? (i := 683) (by decide +kernel)⟩
theorem lw_p17 : lw_okq (⟨"DiodeLink$Receiver", "learn", "(II)LDiodeLink$Version;"⟩, 7) := ⟨⟨by decide +kernel, by decide +kernel⟩, List.mem_of_getElem? (i := 156) (by decide +kernel), List.mem_of_getElem? (i := 690) (by decide +kernel), List.mem_of_getElem? (i := 691) (by decide +kernel)⟩
theorem lw_p18 : lw_okq (⟨"DiodeLink$Receiver", "find", "(II)LDiodeLink$Version;"⟩, 7) := ⟨⟨by decide +kernel, by decide +kernel⟩, List.mem_of_getElem? (i := 156) (by decide +kernel), List.mem_of_getElem? (i := 694) (by decide +kernel), List.mem_of_getElem? (i := 695) (by decide +kernel)⟩
theorem lw_p19 : lw_okq (⟨"DiodeLink$Receiver", "hasOtherSize", "(LDiodeLink$Version;ILDiodeLink$Bytes;)Z"⟩, 7) := ⟨⟨by decide +kernel, by decide +kernel⟩, List.mem_of_getElem? (i := 156) (by decide +kernel), List.mem_of_getElem? (i := 720) (by decide +kernel), List.mem_of_getElem? (i := 721) (by decide +kernel)⟩
theorem lw_p20 : lw_okq (⟨"DiodeLink$Rows", "hasPivotIn", "(III)Z"⟩, 4) := ⟨⟨by decide +kernel, by decide +kernel⟩, List.mem_of_getElem? (i := 164) (by decide +kernel), List.mem_of_getElem? (i := 757) (by decide +kernel), List.mem_of_getElem? (i := 758) (by decide +kernel)⟩
theorem lw_p21 : lw_okq (⟨"DiodeLink$Receiver", "makeRoom", "()Z"⟩, 7) := ⟨⟨by decide +kernel, by decide +kernel⟩, List.mem_of_getElem? (i := 156) (by decide +kernel), List.mem_of_getElem? (i := 765) (by decide +kernel), List.mem_of_getElem? (i := 766) (by decide +kernel)⟩
theorem lw_p22 : lw_okq (⟨"DiodeLink$Receiver", "greatestOf", "(I)I"⟩, 7) := ⟨⟨by decide +kernel, by decide +kernel⟩, List.mem_of_getElem? (i := 156) (by decide +kernel), List.mem_of_getElem? (i := 777) (by decide +kernel), List.mem_of_getElem? (i := 778) (by decide +kernel)⟩
theorem lw_p23 : lw_okq (⟨"DiodeLink$Receiver", "keepRow", "(LDiodeLink$Version;ILDiodeLink$Bytes;)Z"⟩, 7) := ⟨⟨by decide +kernel, by decide +kernel⟩, List.mem_of_getElem? (i := 156) (by decide +kernel), List.mem_of_getElem? (i := 782) (by decide +kernel), List.mem_of_getElem? (i := 783) (by decide +kernel)⟩
theorem lw_p24 : lw_okq (⟨"DiodeLink$Receiver", "lookAt", "(LDiodeLink$Version;II)V"⟩, 7) := ⟨⟨by decide +kernel, by decide +kernel⟩, List.mem_of_getElem? (i := 156) (by decide +kernel), List.mem_of_getElem? (i := 810) (by decide +kernel), List.mem_of_getElem? (i := 811) (by decide +kernel)⟩
theorem lw_p25 : lw_okq (⟨"DiodeLink$Receiver", "lookAtFile", "(LDiodeLink$Version;II)V"⟩, 7) := ⟨⟨by decide +kernel, by decide +kernel⟩, List.mem_of_getElem? (i := 156) (by decide +kernel), List.mem_of_getElem? (i := 818) (by decide +kernel), List.mem_of_getElem? (i := 819) (by decide +kernel)⟩
theorem lw_p26 : lw_okq (⟨"DiodeLink$Receiver", "forgetItem", "(LDiodeLink$Version;II)V"⟩, 7) := ⟨⟨by decide +kernel, by decide +kernel⟩, List.mem_of_getElem? (i := 156) (by decide +kernel), List.mem_of_getElem? (i := 827) (by decide +kernel), List.mem_of_getElem? (i := 828) (by decide +kernel)⟩
theorem lw_p27 : lw_okq (⟨"DiodeLink$Receiver", "dropItemRows", "(LDiodeLink$Version;II)V"⟩, 7) := ⟨⟨by decide +kernel, by decide +kernel⟩, List.mem_of_getElem? (i := 156) (by decide +kernel), List.mem_of_getElem? (i := 832) (by decide +kernel), List.mem_of_getElem? (i := 833) (by decide +kernel)⟩
theorem lw_p28 : lw_okq (⟨"DiodeLink$Version", "isBehindLast", "(I)Z"⟩, 11) := ⟨⟨by decide +kernel, by decide +kernel⟩, List.mem_of_getElem? (i := 182) (by decide +kernel), List.mem_of_getElem? (i := 843) (by decide +kernel), List.mem_of_getElem? (i := 844) (by decide +kernel)⟩
theorem lw_p29 : lw_okq (⟨"DiodeLink$Receiver", "holdAlike", "(I)V"⟩, 7) := ⟨⟨by decide +kernel, by decide +kernel⟩, List.mem_of_getElem? (i := 156) (by decide +kernel), List.mem_of_getElem? (i := 852) (by decide +kernel), List.mem_of_getElem? (i := 853) (by decide +kernel)⟩
theorem lw_p30 : lw_okq (⟨"DiodeLink$Receiver", "holdByOther", "(III)Z"⟩, 7) := ⟨⟨by decide +kernel, by decide +kernel⟩, List.mem_of_getElem? (i := 156) (by decide +kernel), List.mem_of_getElem? (i := 856) (by decide +kernel), List.mem_of_getElem? (i := 857) (by decide +kernel)⟩
theorem lw_p31 : lw_okq (⟨"DiodeLink$Receiver", "leastToJudge", "(I)LDiodeLink$Version;"⟩, 7) := ⟨⟨by decide +kernel, by decide +kernel⟩, List.mem_of_getElem? (i := 156) (by decide +kernel), List.mem_of_getElem? (i := 873) (by decide +kernel), List.mem_of_getElem? (i := 874) (by decide +kernel)⟩
def lw_privs_2 : List (MethodName × Nat) := [(⟨"DiodeLink$Receiver", "knownAt", "(II)LDiodeLink$Version;"⟩, 7), (⟨"DiodeLink$Receiver", "learn", "(II)LDiodeLink$Version;"⟩, 7), (⟨"DiodeLink$Receiver", "find", "(II)LDiodeLink$Version;"⟩, 7), (⟨"DiodeLink$Receiver", "hasOtherSize", "(LDiodeLink$Version;ILDiodeLink$Bytes;)Z"⟩, 7), (⟨"DiodeLink$Rows", "hasPivotIn", "(III)Z"⟩, 4), (⟨"DiodeLink$Receiver", "makeRoom", "()Z"⟩, 7), (⟨"DiodeLink$Receiver", "greatestOf", "(I)I"⟩, 7), (⟨"DiodeLink$Receiver", "keepRow", "(LDiodeLink$Version;ILDiodeLink$Bytes;)Z"⟩, 7), (⟨"DiodeLink$Receiver", "lookAt", "(LDiodeLink$Version;II)V"⟩, 7), (⟨"DiodeLink$Receiver", "lookAtFile", "(LDiodeLink$Version;II)V"⟩, 7), (⟨"DiodeLink$Receiver", "forgetItem", "(LDiodeLink$Version;II)V"⟩, 7), (⟨"DiodeLink$Receiver", "dropItemRows", "(LDiodeLink$Version;II)V"⟩, 7), (⟨"DiodeLink$Version", "isBehindLast", "(I)Z"⟩, 11), (⟨"DiodeLink$Receiver", "holdAlike", "(I)V"⟩, 7), (⟨"DiodeLink$Receiver", "holdByOther", "(III)Z"⟩, 7), (⟨"DiodeLink$Receiver", "leastToJudge", "(I)LDiodeLink$Version;"⟩, 7)]
theorem lw_r2 : ∀ q ∈ lw_privs_2, lw_okq q := List.forall_mem_cons.mpr ⟨lw_p16, List.forall_mem_cons.mpr ⟨lw_p17, List.forall_mem_cons.mpr ⟨lw_p18, List.forall_mem_cons.mpr ⟨lw_p19, List.forall_mem_cons.mpr ⟨lw_p20, List.forall_mem_cons.mpr ⟨lw_p21, List.forall_mem_cons.mpr ⟨lw_p22, List.forall_mem_cons.mpr ⟨lw_p23, List.forall_mem_cons.mpr ⟨lw_p24, List.forall_mem_cons.mpr ⟨lw_p25, List.forall_mem_cons.mpr ⟨lw_p26, List.forall_mem_cons.mpr ⟨lw_p27, List.forall_mem_cons.mpr ⟨lw_p28, List.forall_mem_cons.mpr ⟨lw_p29, List.forall_mem_cons.mpr ⟨lw_p30, List.forall_mem_cons.mpr ⟨lw_p31, fun _ h => absurd h List.not_mem_nil⟩⟩⟩⟩⟩⟩⟩⟩⟩⟩⟩⟩⟩⟩⟩⟩
theorem lw_p32 : lw_okq (⟨"DiodeLink$Receiver", "judge", "(LDiodeLink$Version;I)V"⟩, 7) := ⟨⟨by decide +kernel, by decide +kernel⟩, List.mem_of_getElem? (i := 156) (by decide +kernel), List.mem_of_getElem? (i := 885) (by decide +kernel), List.mem_of_getElem? (i := 886) (by decide +kernel)⟩
theorem lw_p33 : lw_okq (⟨"DiodeLink$Rules", "isBrokenByFile", "(ILDiodeLink$Version;I)Z"⟩, 4) := ⟨⟨by decide +kernel, by decide +kernel⟩, List.mem_of_getElem? (i := 108) (by decide +kernel), List.mem_of_getElem? (i := 894) (by decide +kernel), List.mem_of_getElem? (i := 895) (by decide +kernel)⟩
theorem lw_p34 : lw_okq (⟨"DiodeLink$Rules", "hasBadSign", "(LDiodeLink$Version;I)Z"⟩, 4) := ⟨⟨by decide +kernel, by decide +kernel⟩, List.mem_of_getElem? (i := 108) (by decide +kernel), List.mem_of_getElem? (i := 902) (by decide +kernel), List.mem_of_getElem? (i := 903) (by decide +kernel)⟩
theorem lw_p35 : lw_okq (⟨"DiodeLinkModel", "fails", "(ZI)Z"⟩, 51) := ⟨⟨by decide +kernel, by decide +kernel⟩, List.mem_of_getElem? (i := 1087) (by decide +kernel), List.mem_of_getElem? (i := 1258) (by decide +kernel), List.mem_of_getElem? (i := 1259) (by decide +kernel)⟩
theorem lw_p36 : lw_okq (⟨"DiodeLinkModel", "isName", "()Z"⟩, 51) := ⟨⟨by decide +kernel, by decide +kernel⟩, List.mem_of_getElem? (i := 1087) (by decide +kernel), List.mem_of_getElem? (i := 1267) (by decide +kernel), List.mem_of_getElem? (i := 1268) (by decide +kernel)⟩
theorem lw_p37 : lw_okq (⟨"DiodeLinkModel", "place", "(I)I"⟩, 51) := ⟨⟨by decide +kernel, by decide +kernel⟩, List.mem_of_getElem? (i := 1087) (by decide +kernel), List.mem_of_getElem? (i := 1271) (by decide +kernel), List.mem_of_getElem? (i := 1272) (by decide +kernel)⟩
theorem lw_p38 : lw_okq (⟨"DiodeLinkModel", "order", "(I)I"⟩, 51) := ⟨⟨by decide +kernel, by decide +kernel⟩, List.mem_of_getElem? (i := 1087) (by decide +kernel), List.mem_of_getElem? (i := 1275) (by decide +kernel), List.mem_of_getElem? (i := 1276) (by decide +kernel)⟩
theorem lw_p39 : lw_okq (⟨"DiodeLinkModel", "isThere", "(II)Z"⟩, 51) := ⟨⟨by decide +kernel, by decide +kernel⟩, List.mem_of_getElem? (i := 1087) (by decide +kernel), List.mem_of_getElem? (i := 1279) (by decide +kernel), List.mem_of_getElem? (i := 1280) (by decide +kernel)⟩
theorem lw_p40 : lw_okq (⟨"DiodeLinkModel", "move", "(II)V"⟩, 51) := ⟨⟨by decide +kernel, by decide +kernel⟩, List.mem_of_getElem? (i := 1087) (by decide +kernel), List.mem_of_getElem? (i := 1283) (by decide +kernel), List.mem_of_getElem? (i := 1284) (by decide +kernel)⟩
theorem lw_p41 : lw_okq (⟨"DiodeLinkModel", "manifest", "(III)V"⟩, 51) := ⟨⟨by decide +kernel, by decide +kernel⟩, List.mem_of_getElem? (i := 1087) (by decide +kernel), List.mem_of_getElem? (i := 1295) (by decide +kernel), List.mem_of_getElem? (i := 1296) (by decide +kernel)⟩
theorem lw_p42 : lw_okq (⟨"DiodeLinkModel", "told", "(III)I"⟩, 51) := ⟨⟨by decide +kernel, by decide +kernel⟩, List.mem_of_getElem? (i := 1087) (by decide +kernel), List.mem_of_getElem? (i := 1299) (by decide +kernel), List.mem_of_getElem? (i := 1300) (by decide +kernel)⟩
theorem lw_p43 : lw_okq (⟨"DiodeLinkModel", "anew", "()V"⟩, 51) := ⟨⟨by decide +kernel, by decide +kernel⟩, List.mem_of_getElem? (i := 1087) (by decide +kernel), List.mem_of_getElem? (i := 1311) (by decide +kernel), List.mem_of_getElem? (i := 1312) (by decide +kernel)⟩
theorem lw_p44 : lw_okq (⟨"DiodeLinkModel", "look", "(II)I"⟩, 51) := ⟨⟨by decide +kernel, by decide +kernel⟩, List.mem_of_getElem? (i := 1087) (by decide +kernel), List.mem_of_getElem? (i := 1319) (by decide +kernel), List.mem_of_getElem? (i := 1320) (by decide +kernel)⟩
theorem lw_p45 : lw_okq (⟨"DiodeLinkModel", "within", "(III)I"⟩, 51) := ⟨⟨by decide +kernel, by decide +kernel⟩, List.mem_of_getElem? (i := 1087) (by decide +kernel), List.mem_of_getElem? (i := 1323) (by decide +kernel), List.mem_of_getElem? (i := 1324) (by decide +kernel)⟩
theorem lw_p46 : lw_okq (⟨"DiodeLinkModel", "piece", "(III)J"⟩, 51) := ⟨⟨by decide +kernel, by decide +kernel⟩, List.mem_of_getElem? (i := 1087) (by decide +kernel), List.mem_of_getElem? (i := 1337) (by decide +kernel), List.mem_of_getElem? (i := 1338) (by decide +kernel)⟩
theorem lw_p47 : lw_okq (⟨"DiodeLinkModel", "lay", "(IIJI)V"⟩, 51) := ⟨⟨by decide +kernel, by decide +kernel⟩, List.mem_of_getElem? (i := 1087) (by decide +kernel), List.mem_of_getElem? (i := 1341) (by decide +kernel), List.mem_of_getElem? (i := 1342) (by decide +kernel)⟩
def lw_privs_3 : List (MethodName × Nat) := [(⟨"DiodeLink$Receiver", "judge", "(LDiodeLink$Version;I)V"⟩, 7), (⟨"DiodeLink$Rules", "isBrokenByFile", "(ILDiodeLink$Version;I)Z"⟩, 4), (⟨"DiodeLink$Rules", "hasBadSign", "(LDiodeLink$Version;I)Z"⟩, 4), (⟨"DiodeLinkModel", "fails", "(ZI)Z"⟩, 51), (⟨"DiodeLinkModel", "isName", "()Z"⟩, 51), (⟨"DiodeLinkModel", "place", "(I)I"⟩, 51), (⟨"DiodeLinkModel", "order", "(I)I"⟩, 51), (⟨"DiodeLinkModel", "isThere", "(II)Z"⟩, 51), (⟨"DiodeLinkModel", "move", "(II)V"⟩, 51), (⟨"DiodeLinkModel", "manifest", "(III)V"⟩, 51), (⟨"DiodeLinkModel", "told", "(III)I"⟩, 51), (⟨"DiodeLinkModel", "anew", "()V"⟩, 51), (⟨"DiodeLinkModel", "look", "(II)I"⟩, 51), (⟨"DiodeLinkModel", "within", "(III)I"⟩, 51), (⟨"DiodeLinkModel", "piece", "(III)J"⟩, 51), (⟨"DiodeLinkModel", "lay", "(IIJI)V"⟩, 51)]
theorem lw_r3 : ∀ q ∈ lw_privs_3, lw_okq q := List.forall_mem_cons.mpr ⟨lw_p32, List.forall_mem_cons.mpr ⟨lw_p33, List.forall_mem_cons.mpr ⟨lw_p34, List.forall_mem_cons.mpr ⟨lw_p35, List.forall_mem_cons.mpr ⟨lw_p36, List.forall_mem_cons.mpr ⟨lw_p37, List.forall_mem_cons.mpr ⟨lw_p38, List.forall_mem_cons.mpr ⟨lw_p39, List.forall_mem_cons.mpr ⟨lw_p40, List.forall_mem_cons.mpr ⟨lw_p41, List.forall_mem_cons.mpr ⟨lw_p42, List.forall_mem_cons.mpr ⟨lw_p43, List.forall_mem_cons.mpr ⟨lw_p44, List.forall_mem_cons.mpr ⟨lw_p45, List.forall_mem_cons.mpr ⟨lw_p46, List.forall_mem_cons.mpr ⟨lw_p47, fun _ h => absurd h List.not_mem_nil⟩⟩⟩⟩⟩⟩⟩⟩⟩⟩⟩⟩⟩⟩⟩⟩
theorem lw_p48 : lw_okq (⟨"DiodeLinkModel", "hashOf", "(I)J"⟩, 51) := ⟨⟨by decide +kernel, by decide +kernel⟩, List.mem_of_getElem? (i := 1087) (by decide +kernel), List.mem_of_getElem? (i := 1345) (by decide +kernel), List.mem_of_getElem? (i := 1346) (by decide +kernel)⟩
theorem lw_p49 : lw_okq (⟨"DiodeLinkModel", "has", "(I)Z"⟩, 51) := ⟨⟨by decide +kernel, by decide +kernel⟩, List.mem_of_getElem? (i := 1087) (by decide +kernel), List.mem_of_getElem? (i := 1353) (by decide +kernel), List.mem_of_getElem? (i := 1354) (by decide +kernel)⟩
theorem lw_p50 : lw_okq (⟨"DiodeLinkModel", "eight", "(II)J"⟩, 51) := ⟨⟨by decide +kernel, by decide +kernel⟩, List.mem_of_getElem? (i := 1087) (by decide +kernel), List.mem_of_getElem? (i := 1357) (by decide +kernel), List.mem_of_getElem? (i := 1358) (by decide +kernel)⟩
theorem lw_p51 : lw_okq (⟨"DiodeLinkModel", "unsize", "()V"⟩, 51) := ⟨⟨by decide +kernel, by decide +kernel⟩, List.mem_of_getElem? (i := 1087) (by decide +kernel), List.mem_of_getElem? (i := 1373) (by decide +kernel), List.mem_of_getElem? (i := 1374) (by decide +kernel)⟩
theorem lw_p52 : lw_okq (⟨"DiodeLinkModel", "drops", "(I)I"⟩, 51) := ⟨⟨by decide +kernel, by decide +kernel⟩, List.mem_of_getElem? (i := 1087) (by decide +kernel), List.mem_of_getElem? (i := 1381) (by decide +kernel), List.mem_of_getElem? (i := 1382) (by decide +kernel)⟩
theorem lw_p53 : lw_okq (⟨"DiodeLinkModel", "canBe", "(I)Z"⟩, 51) := ⟨⟨by decide +kernel, by decide +kernel⟩, List.mem_of_getElem? (i := 1087) (by decide +kernel), List.mem_of_getElem? (i := 1385) (by decide +kernel), List.mem_of_getElem? (i := 1386) (by decide +kernel)⟩
theorem lw_p54 : lw_okq (⟨"DiodeLinkModel", "hears", "(II)I"⟩, 51) := ⟨⟨by decide +kernel, by decide +kernel⟩, List.mem_of_getElem? (i := 1087) (by decide +kernel), List.mem_of_getElem? (i := 1389) (by decide +kernel), List.mem_of_getElem? (i := 1390) (by decide +kernel)⟩
theorem lw_p55 : lw_okq (⟨"DiodeLinkModel", "placeOf", "(II)I"⟩, 51) := ⟨⟨by decide +kernel, by decide +kernel⟩, List.mem_of_getElem? (i := 1087) (by decide +kernel), List.mem_of_getElem? (i := 1393) (by decide +kernel), List.mem_of_getElem? (i := 1394) (by decide +kernel)⟩
theorem lw_p56 : lw_okq (⟨"DiodeLinkModel", "empty", "(I)V"⟩, 51) := ⟨⟨by decide +kernel, by decide +kernel⟩, List.mem_of_getElem? (i := 1087) (by decide +kernel), List.mem_of_getElem? (i := 1397) (by decide +kernel), List.mem_of_getElem? (i := 1398) (by decide +kernel)⟩
theorem lw_p57 : lw_okq (⟨"DiodeLinkModel", "forget", "(I)V"⟩, 51) := ⟨⟨by decide +kernel, by decide +kernel⟩, List.mem_of_getElem? (i := 1087) (by decide +kernel), List.mem_of_getElem? (i := 1401) (by decide +kernel), List.mem_of_getElem? (i := 1402) (by decide +kernel)⟩
theorem lw_p58 : lw_okq (⟨"DiodeLinkModel", "drop", "(III)V"⟩, 51) := ⟨⟨by decide +kernel, by decide +kernel⟩, List.mem_of_getElem? (i := 1087) (by decide +kernel), List.mem_of_getElem? (i := 1405) (by decide +kernel), List.mem_of_getElem? (i := 1406) (by decide +kernel)⟩
theorem lw_p59 : lw_okq (⟨"DiodeLinkModel", "shift", "(I)V"⟩, 51) := ⟨⟨by decide +kernel, by decide +kernel⟩, List.mem_of_getElem? (i := 1087) (by decide +kernel), List.mem_of_getElem? (i := 1409) (by decide +kernel), List.mem_of_getElem? (i := 1410) (by decide +kernel)⟩
theorem lw_p60 : lw_okq (⟨"DiodeLinkModel", "clear", "(I)V"⟩, 51) := ⟨⟨by decide +kernel, by decide +kernel⟩, List.mem_of_getElem? (i := 1087) (by decide +kernel), List.mem_of_getElem? (i := 1413) (by decide +kernel), List.mem_of_getElem? (i := 1414) (by decide +kernel)⟩
theorem lw_p61 : lw_okq (⟨"DiodeLinkModel", "takes", "(IIII)I"⟩, 51) := ⟨⟨by decide +kernel, by decide +kernel⟩, List.mem_of_getElem? (i := 1087) (by decide +kernel), List.mem_of_getElem? (i := 1417) (by decide +kernel), List.mem_of_getElem? (i := 1418) (by decide +kernel)⟩
theorem lw_p62 : lw_okq (⟨"DiodeLinkModel", "sum", "(III)I"⟩, 51) := ⟨⟨by decide +kernel, by decide +kernel⟩, List.mem_of_getElem? (i := 1087) (by decide +kernel), List.mem_of_getElem? (i := 1421) (by decide +kernel), List.mem_of_getElem? (i := 1422) (by decide +kernel)⟩
theorem lw_p63 : lw_okq (⟨"DiodeLinkModel", "room", "()Z"⟩, 51) := ⟨⟨by decide +kernel, by decide +kernel⟩, List.mem_of_getElem? (i := 1087) (by decide +kernel), List.mem_of_getElem? (i := 1425) (by decide +kernel), List.mem_of_getElem? (i := 1426) (by decide +kernel)⟩
def lw_privs_4 : List (MethodName × Nat) := [(⟨"DiodeLinkModel", "hashOf", "(I)J"⟩, 51), (⟨"DiodeLinkModel", "has", "(I)Z"⟩, 51), (⟨"DiodeLinkModel", "eight", "(II)J"⟩, 51), (⟨"DiodeLinkModel", "unsize", "()V"⟩, 51), (⟨"DiodeLinkModel", "drops", "(I)I"⟩, 51), (⟨"DiodeLinkModel", "canBe", "(I)Z"⟩, 51), (⟨"DiodeLinkModel", "hears", "(II)I"⟩, 51), (⟨"DiodeLinkModel", "placeOf", "(II)I"⟩, 51), (⟨"DiodeLinkModel", "empty", "(I)V"⟩, 51), (⟨"DiodeLinkModel", "forget", "(I)V"⟩, 51), (⟨"DiodeLinkModel", "drop", "(III)V"⟩, 51), (⟨"DiodeLinkModel", "shift", "(I)V"⟩, 51), (⟨"DiodeLinkModel", "clear", "(I)V"⟩, 51), (⟨"DiodeLinkModel", "takes", "(IIII)I"⟩, 51), (⟨"DiodeLinkModel", "sum", "(III)I"⟩, 51), (⟨"DiodeLinkModel", "room", "()Z"⟩, 51)]
theorem lw_r4 : ∀ q ∈ lw_privs_4, lw_okq q := List.forall_mem_cons.mpr ⟨lw_p48, List.forall_mem_cons.mpr ⟨lw_p49, List.forall_mem_cons.mpr ⟨lw_p50, List.forall_mem_cons.mpr ⟨lw_p51, List.forall_mem_cons.mpr ⟨lw_p52, List.forall_mem_cons.mpr ⟨lw_p53, List.forall_mem_cons.mpr ⟨lw_p54, List.forall_mem_cons.mpr ⟨lw_p55, List.forall_mem_cons.mpr ⟨lw_p56, List.forall_mem_cons.mpr ⟨lw_p57, List.forall_mem_cons.mpr ⟨lw_p58, List.forall_mem_cons.mpr ⟨lw_p59, List.forall_mem_cons.mpr ⟨lw_p60, List.forall_mem_cons.mpr ⟨lw_p61, List.forall_mem_cons.mpr ⟨lw_p62, List.forall_mem_cons.mpr ⟨lw_p63, fun _ h => absurd h List.not_mem_nil⟩⟩⟩⟩⟩⟩⟩⟩⟩⟩⟩⟩⟩⟩⟩⟩
theorem lw_p64 : lw_okq (⟨"DiodeLinkModel", "hasRows", "(I)Z"⟩, 51) := ⟨⟨by decide +kernel, by decide +kernel⟩, List.mem_of_getElem? (i := 1087) (by decide +kernel), List.mem_of_getElem? (i := 1429) (by decide +kernel), List.mem_of_getElem? (i := 1430) (by decide +kernel)⟩
theorem lw_p65 : lw_okq (⟨"DiodeLinkModel", "rowsOf", "(II)I"⟩, 51) := ⟨⟨by decide +kernel, by decide +kernel⟩, List.mem_of_getElem? (i := 1087) (by decide +kernel), List.mem_of_getElem? (i := 1433) (by decide +kernel), List.mem_of_getElem? (i := 1434) (by decide +kernel)⟩
theorem lw_p66 : lw_okq (⟨"DiodeLinkModel", "solve", "(III)V"⟩, 51) := ⟨⟨by decide +kernel, by decide +kernel⟩, List.mem_of_getElem? (i := 1087) (by decide +kernel), List.mem_of_getElem? (i := 1437) (by decide +kernel), List.mem_of_getElem? (i := 1438) (by decide +kernel)⟩
theorem lw_p67 : lw_okq (⟨"DiodeLinkModel", "together", "(III)J"⟩, 51) := ⟨⟨by decide +kernel, by decide +kernel⟩, List.mem_of_getElem? (i := 1087) (by decide +kernel), List.mem_of_getElem? (i := 1441) (by decide +kernel), List.mem_of_getElem? (i := 1442) (by decide +kernel)⟩
theorem lw_p68 : lw_okq (⟨"DiodeLinkModel", "isComplete", "(I)Z"⟩, 51) := ⟨⟨by decide +kernel, by decide +kernel⟩, List.mem_of_getElem? (i := 1087) (by decide +kernel), List.mem_of_getElem? (i := 1445) (by decide +kernel), List.mem_of_getElem? (i := 1446) (by decide +kernel)⟩
theorem lw_p69 : lw_okq (⟨"DiodeLinkModel", "completes", "(II)V"⟩, 51) := ⟨⟨by decide +kernel, by decide +kernel⟩, List.mem_of_getElem? (i := 1087) (by decide +kernel), List.mem_of_getElem? (i := 1449) (by decide +kernel), List.mem_of_getElem? (i := 1450) (by decide +kernel)⟩
theorem lw_p70 : lw_okq (⟨"DiodeLinkModel", "compare", "(II)V"⟩, 51) := ⟨⟨by decide +kernel, by decide +kernel⟩, List.mem_of_getElem? (i := 1087) (by decide +kernel), List.mem_of_getElem? (i := 1453) (by decide +kernel), List.mem_of_getElem? (i := 1454) (by decide +kernel)⟩
theorem lw_p71 : lw_okq (⟨"DiodeLinkModel", "byteOf", "(II)I"⟩, 51) := ⟨⟨by decide +kernel, by decide +kernel⟩, List.mem_of_getElem? (i := 1087) (by decide +kernel), List.mem_of_getElem? (i := 1457) (by decide +kernel), List.mem_of_getElem? (i := 1458) (by decide +kernel)⟩
theorem lw_p72 : lw_okq (⟨"DiodeLinkModel", "sizeTold", "(II)I"⟩, 51) := ⟨⟨by decide +kernel, by decide +kernel⟩, List.mem_of_getElem? (i := 1087) (by decide +kernel), List.mem_of_getElem? (i := 1461) (by decide +kernel), List.mem_of_getElem? (i := 1462) (by decide +kernel)⟩
theorem lw_p73 : lw_okq (⟨"DiodeLinkModel", "tells", "(II)I"⟩, 51) := ⟨⟨by decide +kernel, by decide +kernel⟩, List.mem_of_getElem? (i := 1087) (by decide +kernel), List.mem_of_getElem? (i := 1465) (by decide +kernel), List.mem_of_getElem? (i := 1466) (by decide +kernel)⟩
theorem lw_p74 : lw_okq (⟨"DiodeLinkModel", "hashTold", "(II)J"⟩, 51) := ⟨⟨by decide +kernel, by decide +kernel⟩, List.mem_of_getElem? (i := 1087) (by decide +kernel), List.mem_of_getElem? (i := 1469) (by decide +kernel), List.mem_of_getElem? (i := 1470) (by decide +kernel)⟩
theorem lw_p75 : lw_okq (⟨"DiodeLinkModel", "isManifest", "(I)Z"⟩, 51) := ⟨⟨by decide +kernel, by decide +kernel⟩, List.mem_of_getElem? (i := 1087) (by decide +kernel), List.mem_of_getElem? (i := 1473) (by decide +kernel), List.mem_of_getElem? (i := 1474) (by decide +kernel)⟩
theorem lw_p76 : lw_okq (⟨"DiodeLinkModel", "isBelow", "(III)Z"⟩, 51) := ⟨⟨by decide +kernel, by decide +kernel⟩, List.mem_of_getElem? (i := 1087) (by decide +kernel), List.mem_of_getElem? (i := 1477) (by decide +kernel), List.mem_of_getElem? (i := 1478) (by decide +kernel)⟩
theorem lw_p77 : lw_okq (⟨"DiodeLinkModel", "share", "(I)V"⟩, 51) := ⟨⟨by decide +kernel, by decide +kernel⟩, List.mem_of_getElem? (i := 1087) (by decide +kernel), List.mem_of_getElem? (i := 1481) (by decide +kernel), List.mem_of_getElem? (i := 1482) (by decide +kernel)⟩
theorem lw_p78 : lw_okq (⟨"DiodeLinkModel", "borrows", "(II)Z"⟩, 51) := ⟨⟨by decide +kernel, by decide +kernel⟩, List.mem_of_getElem? (i := 1087) (by decide +kernel), List.mem_of_getElem? (i := 1485) (by decide +kernel), List.mem_of_getElem? (i := 1486) (by decide +kernel)⟩
theorem lw_p79 : lw_okq (⟨"DiodeLinkModel", "judge", "(I)V"⟩, 51) := ⟨⟨by decide +kernel, by decide +kernel⟩, List.mem_of_getElem? (i := 1087) (by decide +kernel), List.mem_of_getElem? (i := 1489) (by decide +kernel), List.mem_of_getElem? (i := 1490) (by decide +kernel)⟩
def lw_privs_5 : List (MethodName × Nat) := [(⟨"DiodeLinkModel", "hasRows", "(I)Z"⟩, 51), (⟨"DiodeLinkModel", "rowsOf", "(II)I"⟩, 51), (⟨"DiodeLinkModel", "solve", "(III)V"⟩, 51), (⟨"DiodeLinkModel", "together", "(III)J"⟩, 51), (⟨"DiodeLinkModel", "isComplete", "(I)Z"⟩, 51), (⟨"DiodeLinkModel", "completes", "(II)V"⟩, 51), (⟨"DiodeLinkModel", "compare", "(II)V"⟩, 51), (⟨"DiodeLinkModel", "byteOf", "(II)I"⟩, 51), (⟨"DiodeLinkModel", "sizeTold", "(II)I"⟩, 51), (⟨"DiodeLinkModel", "tells", "(II)I"⟩, 51), (⟨"DiodeLinkModel", "hashTold", "(II)J"⟩, 51), (⟨"DiodeLinkModel", "isManifest", "(I)Z"⟩, 51), (⟨"DiodeLinkModel", "isBelow", "(III)Z"⟩, 51), (⟨"DiodeLinkModel", "share", "(I)V"⟩, 51), (⟨"DiodeLinkModel", "borrows", "(II)Z"⟩, 51), (⟨"DiodeLinkModel", "judge", "(I)V"⟩, 51)]
theorem lw_r5 : ∀ q ∈ lw_privs_5, lw_okq q := List.forall_mem_cons.mpr ⟨lw_p64, List.forall_mem_cons.mpr ⟨lw_p65, List.forall_mem_cons.mpr ⟨lw_p66, List.forall_mem_cons.mpr ⟨lw_p67, List.forall_mem_cons.mpr ⟨lw_p68, List.forall_mem_cons.mpr ⟨lw_p69, List.forall_mem_cons.mpr ⟨lw_p70, List.forall_mem_cons.mpr ⟨lw_p71, List.forall_mem_cons.mpr ⟨lw_p72, List.forall_mem_cons.mpr ⟨lw_p73, List.forall_mem_cons.mpr ⟨lw_p74, List.forall_mem_cons.mpr ⟨lw_p75, List.forall_mem_cons.mpr ⟨lw_p76, List.forall_mem_cons.mpr ⟨lw_p77, List.forall_mem_cons.mpr ⟨lw_p78, List.forall_mem_cons.mpr ⟨lw_p79, fun _ h => absurd h List.not_mem_nil⟩⟩⟩⟩⟩⟩⟩⟩⟩⟩⟩⟩⟩⟩⟩⟩
theorem lw_p80 : lw_okq (⟨"DiodeLinkModel", "reject", "(III)V"⟩, 51) := ⟨⟨by decide +kernel, by decide +kernel⟩, List.mem_of_getElem? (i := 1087) (by decide +kernel), List.mem_of_getElem? (i := 1493) (by decide +kernel), List.mem_of_getElem? (i := 1494) (by decide +kernel)⟩
theorem lw_p81 : lw_okq (⟨"DiodeLinkModel", "note", "(IIII)V"⟩, 51) := ⟨⟨by decide +kernel, by decide +kernel⟩, List.mem_of_getElem? (i := 1087) (by decide +kernel), List.mem_of_getElem? (i := 1497) (by decide +kernel), List.mem_of_getElem? (i := 1498) (by decide +kernel)⟩
theorem lw_p82 : lw_okq (⟨"DiodeLinkModel", "linked", "(JI)J"⟩, 51) := ⟨⟨by decide +kernel, by decide +kernel⟩, List.mem_of_getElem? (i := 1087) (by decide +kernel), List.mem_of_getElem? (i := 1501) (by decide +kernel), List.mem_of_getElem? (i := 1502) (by decide +kernel)⟩
theorem lw_p83 : lw_okq (⟨"DiodeLinkModel", "breaks", "(III)Z"⟩, 51) := ⟨⟨by decide +kernel, by decide +kernel⟩, List.mem_of_getElem? (i := 1087) (by decide +kernel), List.mem_of_getElem? (i := 1505) (by decide +kernel), List.mem_of_getElem? (i := 1506) (by decide +kernel)⟩
theorem lw_p84 : lw_okq (⟨"DiodeLinkModel", "wasReleased", "(II)Z"⟩, 51) := ⟨⟨by decide +kernel, by decide +kernel⟩, List.mem_of_getElem? (i := 1087) (by decide +kernel), List.mem_of_getElem? (i := 1518) (by decide +kernel), List.mem_of_getElem? (i := 1519) (by decide +kernel)⟩
theorem lw_p85 : lw_okq (⟨"DiodeLinkModel", "keep", "(II)V"⟩, 51) := ⟨⟨by decide +kernel, by decide +kernel⟩, List.mem_of_getElem? (i := 1087) (by decide +kernel), List.mem_of_getElem? (i := 1530) (by decide +kernel), List.mem_of_getElem? (i := 1531) (by decide +kernel)⟩
theorem lw_p86 : lw_okq (⟨"DiodeLinkModel", "isKept", "(I)Z"⟩, 51) := ⟨⟨by decide +kernel, by decide +kernel⟩, List.mem_of_getElem? (i := 1087) (by decide +kernel), List.mem_of_getElem? (i := 1546) (by decide +kernel), List.mem_of_getElem? (i := 1547) (by decide +kernel)⟩
def lw_privs_6 : List (MethodName × Nat) := [(⟨"DiodeLinkModel", "reject", "(III)V"⟩, 51), (⟨"DiodeLinkModel", "note", "(IIII)V"⟩, 51), (⟨"DiodeLinkModel", "linked", "(JI)J"⟩, 51), (⟨"DiodeLinkModel", "breaks", "(III)Z"⟩, 51), (⟨"DiodeLinkModel", "wasReleased", "(II)Z"⟩, 51), (⟨"DiodeLinkModel", "keep", "(II)V"⟩, 51), (⟨"DiodeLinkModel", "isKept", "(I)Z"⟩, 51)]
theorem lw_r6 : ∀ q ∈ lw_privs_6, lw_okq q := List.forall_mem_cons.mpr ⟨lw_p80, List.forall_mem_cons.mpr ⟨lw_p81, List.forall_mem_cons.mpr ⟨lw_p82, List.forall_mem_cons.mpr ⟨lw_p83, List.forall_mem_cons.mpr ⟨lw_p84, List.forall_mem_cons.mpr ⟨lw_p85, List.forall_mem_cons.mpr ⟨lw_p86, fun _ h => absurd h List.not_mem_nil⟩⟩⟩⟩⟩⟩⟩
def lw_privs : List (MethodName × Nat) := lw_privs_1 ++ (lw_privs_2 ++ (lw_privs_3 ++ (lw_privs_4 ++ (lw_privs_5 ++ (lw_privs_6)))))
def lw_tbl : List Cond := k2_sels lw_privs ++ tables_1
theorem lw_privs_ok : ∀ q ∈ lw_privs, lw_okq q := by
  show ∀ q ∈ lw_privs_1 ++ (lw_privs_2 ++ (lw_privs_3 ++ (lw_privs_4 ++ (lw_privs_5 ++ (lw_privs_6))))), lw_okq q
  exact List.forall_mem_append.mpr ⟨lw_r1, List.forall_mem_append.mpr ⟨lw_r2, List.forall_mem_append.mpr ⟨lw_r3, List.forall_mem_append.mpr ⟨lw_r4, List.forall_mem_append.mpr ⟨lw_r5, lw_r6⟩⟩⟩⟩⟩
-- ===== end of PART A; then your names; then what follows =====
end
section
/-! ===== BEGIN words of one list among another's, by their places ===== -/
theorem goodIn_r {big : List Cond} (ws : List Cond) (ps : List Nat) (hp : ws = ps.filterMap (fun i => big[i]?)) (h : ws.all goodWord = true) : GoodIn big ws := by
  intro w hw
  have h1 := List.all_eq_true.mp h w hw
  rw [hp] at hw
  obtain ⟨i, -, hi⟩ := List.mem_filterMap.mp hw
  have hm : w ∈ big := by first | exact List.mem_of_getElem? hi | exact List.getElem?_mem hi
  exact ⟨hm, good_of_word h1⟩
theorem goodIn_app {big a b : List Cond} (ha : GoodIn big a) (hb : GoodIn big b) : GoodIn big (a ++ b) := fun w h => (List.mem_append.mp h).elim (ha w) (hb w)
theorem goodIn_ca {big a b : List Cond} {c : Cond} (ha : GoodIn big (c :: a)) (hb : GoodIn big b) : GoodIn big (c :: (a ++ b)) := fun w h => (List.mem_cons.mp h).elim (fun e => ha w (List.mem_cons.mpr (Or.inl e))) (fun h => (List.mem_append.mp h).elim (fun h => ha w (List.mem_cons.mpr (Or.inr h))) (hb w))
theorem goodIn_sub {big ws : List Cond} (hm : ∀ w ∈ ws, w ∈ big) (h : ws.all goodWord = true) : GoodIn big ws := fun w hw => ⟨hm w hw, good_of_word (List.all_eq_true.mp h w hw)⟩
/-! ===== END ===== -/

/-! ===== BEGIN exceptions that leave a method, and their catching by the caller (launches without stack traces) ===== -/
section VXA
/-! The laws vx_back, vx_callV, vx_callS, vx_callSW, vx_throw0, vx_throwS follow proofs of the library, with one case more: JvmDerived/Free/Laws.lean (Back.of_free), Shelf42/LK1.lean (callV, callS), Shelf/KitTraced.lean (throwNew0V, throwNewS). -/
/-- where a method has thrown q: the class by its name, the cell, what was written, the world -/
def vx_T (XC : String → State → State → Prop) (st : State) (q : Addr) (t : State) (mc ms : Nat) (free : Addr → Prop) : Prop :=
  ∃ (E : String) (ce : Cell) (L : List Loc), XC E st t ∧ t.heap[q]? = some ce ∧ ce.vm = .none ∧ st.vm.findClass E = some ce.cls ∧ st.WarmedH t.vm ∧ st.sameButNew ({ t with vm := st.vm } : State) L mc ms ∧ ∀ z ∈ L, free z.base
def vx_Q (Qc : Array Value → State → Outcome → State → Prop) (XC : String → State → State → Prop) (mc ms : Nat) (free : Addr → Prop) : Array Value → State → Outcome → State → Prop := fun a st o t =>
  (Qc a st o t ∧ ∃ L, FrameEnd st o t L mc ms ∧ ∀ q ∈ L, free q.base) ∨ ∃ q, o = .threw q ∧ vx_T XC st q t mc ms free
/-- a callee that returns or throws -/
def vx_Met (l : Launch) (y : MethodName) (ws : List Cond) (rm : Room) (Pc : Array Value → State → Prop) (Qc : Array Value → State → Outcome → State → Prop) (XC : String → State → State → Prop) (mc ms : Nat) (free : Addr → Prop) : Prop :=
  MetFree l y (headSpec ws rm) Pc (fun _ _ _ _ _ => True) (vx_Q Qc XC mc ms free)
def vx_Post (XC : String → State → State → Prop) (mc ms : Nat) (free : Addr → Prop) : Pt → Array Value → Addr → Pt → Prop := fun A a q B =>
  ∃ (g : JFrame) (mk : MethodId) (t : State) (L : List Loc) (E : String) (ce : Cell), B.U.heap = t.heap ∧ B.U.vm = t.vm ∧ XC E (A.U.calling g mk a) t ∧ t.heap[q]? = some ce ∧ ce.vm = .none ∧ A.U.vm.findClass E = some ce.cls ∧ B.locs = A.locs ++ L ∧ (∀ z ∈ L, free z.base) ∧ B.cells = A.cells + mc ∧ B.slots = A.slots + ms
def vx_Back (l : Launch) (R : Room) (p : Program) (e : Env) (below : List Frame) (s : State) (sargs : Array Value) (y : MethodName) (len W9 : Nat)
    (Pre : Pt → Array Value → Prop) (Post : Pt → Array Value → Option Value → Pt → Prop) (PostX : Pt → Array Value → Addr → Pt → Prop) : Prop :=
  ∀ (m : MethodId) (meth : Method) (c : Code) (A : Pt) (g : JFrame) (ig : Instr) (mk : MethodId) (a : Array Value),
    Stand p l e R s m sargs below meth c A.U A.locs A.cells A.slots → g.method = m → g.locals.size = c.maxLocals → decode c.code g.pc = .ok (ig, len) →
    2 * g.monitorRoom + (g.stack.map fun v => v.category).sum ≤ W9 → A.U.methodNamed? y = some mk → Pre A a →
    (∃ (v : Option Value) (B : Pt), Stand p l e R s m sargs below meth c B.U B.locs B.cells B.slots ∧ Post A a v B ∧
      Steps p.tables e below (doInvoke e (A.U.setTop g) [] mk a).1 (B.U.setTop { g with pc := g.pc + len, stack := v.toList ++ g.stack })) ∨
    (∃ (q : Addr) (B : Pt), Stand p l e R s m sargs below meth c B.U B.locs B.cells B.slots ∧ PostX A a q B ∧
      Steps p.tables e below (doInvoke e (A.U.setTop g) [] mk a).1 ((B.U.setTop g).pushFrame (.throwing q)))
section Payer
variable {l : Launch} {R : Room} {p : Program} {e : Env} {below : List Frame} {s : State} {sargs : Array Value} {y : MethodName} {len W9 : Nat}
theorem vx_back {ws : List Cond} {rm : Room} {Pc : Array Value → State → Prop} {Qc : Array Value → State → Outcome → State → Prop} {XC : String → State → State → Prop} {mc ms : Nat} {free : Addr → Prop} {bytes : ByteArray} {maxL : Nat} {ret : Option FieldType}
    (hM : vx_Met l y ws rm Pc Qc XC mc ms free) (hblind : FrameBlind Pc) (hrc : rm.cells = mc) (hrs : rm.slots = ms)
    (hframes : rm.frames + 1 ≤ R.frames) (hlocals : W9 + (maxL + 11) + rm.locals ≤ R.locals)
    (hws : ∀ w ∈ ws, ∀ a' U, s.WarmedH U.vm → w.before a' U = true) (hcode : Cond.code y bytes maxL ret ∈ ws) (hinit : ∀ a' U, s.WarmedH U.vm → (Cond.initialized y.cls).before a' U = true) :
    vx_Back l R p e below s sargs y len W9 (PreOf R mc ms Pc) (PostOf Qc mc ms free) (vx_Post XC mc ms free) := by
  intro m meth c A g ig mk a X hg hsize hdg hW hn hp
  have h1 : (headSpec ws rm).pre.before a A.U = true := atoms_intro fun w hw => hws w hw _ _ X.warmed
  have h2 : (Cond.code y bytes maxL ret).before a A.U = true := hws _ hcode _ _ X.warmed
  have h3 : (Cond.initialized y.cls).before a A.U = true := hinit _ _ X.warmed
  have h4 : A.cells + (headSpec ws rm).room.cells ≤ R.cells := by rw [show (headSpec ws rm).room.cells = mc from hrc]; exact hp.1
  have h5 : A.slots + (headSpec ws rm).room.slots ≤ R.slots := by rw [show (headSpec ws rm).room.slots = ms from hrs]; exact hp.2.1
  have hPc : Pc a (A.U.calling g mk a) := hblind _ _ _ _ hp.2.2
  obtain ⟨U, Ls, c0, s0⟩ := A
  dsimp only [Pt.U, Pt.locs, Pt.cells, Pt.slots] at h1 h2 h3 h4 h5 X hn hPc ⊢
  obtain ⟨methY, cY, hmY, hcY, -, hlY, -, -, -, -⟩ := Cond.code_spec hn h2
  obtain ⟨kY, hkY, -⟩ := className_of_methodNamed hn
  have hinitY : kY.init = .initialized := Cond.initialized_spec (findClass_of_methodNamed hn) hkY h3
  have h : At U g.method c below := by rw [hg]; exact X.here
  have hlocals9 : W9 + (maxL + 11) + (headSpec ws rm).room.locals ≤ R.locals := hlocals
  have happ : (headSpec ws rm).appliesLoose y e.platform (U.calling g mk a) = true :=
    Spec.appliesLoose_calling (g := g) h hdg hn hkY hinitY
      (X.room_calling (g := g) (R' := (headSpec ws rm).room) hsize hmY hcY hframes (by rw [hlY]; omega) h4 h5) h1
  obtain ⟨mid, hmid⟩ := h.above
  have hfr : (U.setTop g).frames = (.java g :: mid) ++ below := by rw [State.frames_setTop' g h.top, hmid]; rfl
  obtain ⟨o, s₂, hsteps, -, hend, hq⟩ := Steps.callFree hM p X.admits X.cas X.clock (acts := []) hfr happ hPc trivial
  have hq' : vx_Q Qc XC mc ms free a (U.calling g mk a) o s₂ := hq
  rw [State.frames_setTop' g h.top] at hend
  obtain ⟨g₀, hg0⟩ := Option.isSome_iff_exists.mp h.top
  obtain ⟨r, hr⟩ := State.topJava?_eq_some.mp hg0
  have hr' : (({ U with heap := s₂.heap, slotsUsed := s₂.slotsUsed } : State).setVm s₂.vm).frames = .java g₀ :: r := hr
  rcases hq' with ⟨hqc, L, hfe, hL⟩ | ⟨q, rfl, E, ce, L, hx, hce, hcv, hcl, hW₂, hsm, hL⟩
  · obtain ⟨⟨v, rfl⟩, hW₂, e2, q2, q3, q4, q5, q6⟩ := id hfe
    have e3 : s₂ = ({ (U.calling g mk a).setFrames s₂.frames with heap := s₂.heap, slotsUsed := s₂.slotsUsed } : State).setVm s₂.vm := by
      have : s₂ = ({ s₂ with vm := (U.calling g mk a).vm } : State).setVm s₂.vm := rfl
      rw [e2] at this
      exact this
    obtain ⟨c₂, i₂, len₂, hc₂, hd₂, hf₂⟩ := hend
    have hW' : U.WarmedH s₂.vm := hW₂
    have hcc : c₂ = c := by
      have h1 : s₂.code? g.method = U.code? g.method := by
        rw [State.code?_eq, State.code?_eq, hW'.alike.method?]
      exact Option.some.inj (hc₂.symm.trans (h1.trans h.code))
    subst hcc
    have hlen : len₂ = len := by rw [hdg] at hd₂; cases hd₂; rfl
    subst hlen
    have hs₂ : s₂ = (({ U with heap := s₂.heap, slotsUsed := s₂.slotsUsed } : State).setVm s₂.vm).setTop { g with pc := g.pc + len₂, stack := v.toList ++ g.stack } := by
      refine e3.trans ?_
      rw [hf₂, State.calling_eq h.top, State.setFrames_setFrames, State.setTop_of_frames _ hr', hr]
      rfl
    have hsame : U.sameButNew ({ U with heap := s₂.heap, slotsUsed := s₂.slotsUsed } : State) L mc ms := by
      refine ⟨?_, q2, q3, q4, q5, q6⟩
      obtain ⟨t, ht, -⟩ := State.frames_cons hr
      show ({ U with heap := s₂.heap, slotsUsed := s₂.slotsUsed } : State) = { U.setFrames U.frames with heap := s₂.heap, slotsUsed := s₂.slotsUsed }
      rw [State.setFrames_self ht]
    subst hg
    refine Or.inl ⟨v, ⟨(({ U with heap := s₂.heap, slotsUsed := s₂.slotsUsed } : State).setVm s₂.vm), Ls ++ L, c0 + mc, s0 + ms⟩,
      ⟨X.admits, X.cas, X.clock, X.frames, X.room, X.hears, X.method, X.code, (X.here.setHeapUsed s₂.heap s₂.slotsUsed).setVm hW'.alike, X.tail, State.WarmedH.trans X.warmed hW', X.limits, X.bytes, X.same.trans (hsame.setVm s.vm)⟩,
      ⟨g, mk, s₂, L, rfl, rfl, hqc, rfl, hL, rfl, rfl⟩, ?_⟩
    show Steps p.tables e below _ ((({ U with heap := s₂.heap, slotsUsed := s₂.slotsUsed } : State).setVm s₂.vm).setTop { g with pc := g.pc + len₂, stack := v.toList ++ g.stack })
    rw [← hs₂]
    exact hsteps
  · obtain ⟨e2, q2, q3, q4, q5, q6⟩ := id hsm
    have e3 : s₂ = ({ (U.calling g mk a).setFrames s₂.frames with heap := s₂.heap, slotsUsed := s₂.slotsUsed } : State).setVm s₂.vm := by
      have : s₂ = ({ s₂ with vm := (U.calling g mk a).vm } : State).setVm s₂.vm := rfl
      rw [e2] at this
      exact this
    have hf₂ : s₂.frames = .throwing q :: .java g :: U.frames.tail := hend
    have hW' : U.WarmedH s₂.vm := hW₂
    have hs₂ : s₂ = ((({ U with heap := s₂.heap, slotsUsed := s₂.slotsUsed } : State).setVm s₂.vm).setTop g).pushFrame (.throwing q) := by
      refine e3.trans ?_
      rw [hf₂, State.calling_eq h.top, State.setFrames_setFrames, State.pushFrame, State.frames_setTop _ hr', State.setTop_of_frames _ hr', State.setFrames_setFrames, hr]
      rfl
    have hsame : U.sameButNew ({ U with heap := s₂.heap, slotsUsed := s₂.slotsUsed } : State) L mc ms := by
      refine ⟨?_, q2, q3, q4, q5, q6⟩
      obtain ⟨t, ht, -⟩ := State.frames_cons hr
      show ({ U with heap := s₂.heap, slotsUsed := s₂.slotsUsed } : State) = { U.setFrames U.frames with heap := s₂.heap, slotsUsed := s₂.slotsUsed }
      rw [State.setFrames_self ht]
    subst hg
    refine Or.inr ⟨q, ⟨(({ U with heap := s₂.heap, slotsUsed := s₂.slotsUsed } : State).setVm s₂.vm), Ls ++ L, c0 + mc, s0 + ms⟩,
      ⟨X.admits, X.cas, X.clock, X.frames, X.room, X.hears, X.method, X.code, (X.here.setHeapUsed s₂.heap s₂.slotsUsed).setVm hW'.alike, X.tail, State.WarmedH.trans X.warmed hW', X.limits, X.bytes, X.same.trans (hsame.setVm s.vm)⟩,
      ⟨g, mk, s₂, L, E, ce, rfl, rfl, hx, hce, hcv, hcl, rfl, hL, rfl, rfl⟩, ?_⟩
    show Steps p.tables e below _ (((({ U with heap := s₂.heap, slotsUsed := s₂.slotsUsed } : State).setVm s₂.vm).setTop g).pushFrame (.throwing q))
    rw [← hs₂]
    exact hsteps
end Payer
section Calls
variable {p : Program} {l : Launch} {e : Env} {R : Room} {s : State} {m : MethodId} {args : Array Value} {below : List Frame} {meth : Method} {c : Code} {T : State} {locs : List Loc} {cells slots : Nat}
theorem vx_callV (X : Stand p l e R s m args below meth c T locs cells slots) (hexec : p.tables.exec = Jvm.exec) {own C : String} {index : Nat} {y : MethodName} {bytes : ByteArray} {maxL : Nat} {ret : Option FieldType}
    (hown : s.vm.findClass own = some m.cls) (hlink : (Cond.methodLink own index y).before args s = true) (hinst : (Cond.instanceMethod y).before args s = true) (hsel : (Cond.selects C y y).before args s = true)
    (hcode : (Cond.code y bytes maxL ret).before args s = true) (hy : y.cls ≠ "java/lang/invoke/MethodHandle" ∧ y.cls ≠ "java/lang/invoke/VarHandle")
    {W9 : Nat} {Pre : Pt → Array Value → Prop} {Post : Pt → Array Value → Option Value → Pt → Prop} {PostX : Pt → Array Value → Addr → Pt → Prop} (hK : vx_Back l R p e below s args y 3 W9 Pre Post PostX)
    {b : Addr} {cellB : Cell} (hcell : T.heap[b]? = some cellB) (hobj : cellB.vm.isStatics = false) (hcls : s.vm.findClass C = some cellB.cls)
    {g : JFrame} (hg : g.method = m) (hsize : g.locals.size = c.maxLocals) {argsL rest : List Value} (hlen : ∀ sig, parseMethodDescriptor y.desc = some sig → argsL.length = sig.parameters.length)
    (hstack : g.stack = argsL.reverse ++ .ref b :: rest) (hW : 2 * g.monitorRoom + (rest.map fun v => v.category).sum ≤ W9) (hdg : decode c.code g.pc = .ok (.invokevirtual index, 3))
    (hpre : ∀ vm₁, s.WarmedH vm₁ → Pre ⟨T.setVm vm₁, locs, cells, slots⟩ (Value.ref b :: argsL).toArray) :
    (∃ (v : Option Value) (vm₁ : Vm) (B : Pt), s.WarmedH vm₁ ∧ Stand p l e R s m args below meth c B.U B.locs B.cells B.slots ∧ Post ⟨T.setVm vm₁, locs, cells, slots⟩ (Value.ref b :: argsL).toArray v B ∧
      ∀ target, Steps p.tables e below (B.U.setTop { g with pc := g.pc + 3, stack := v.toList ++ rest }) target → Steps p.tables e below (T.setTop g) target) ∨
    (∃ (q : Addr) (vm₁ : Vm) (B : Pt), s.WarmedH vm₁ ∧ Stand p l e R s m args below meth c B.U B.locs B.cells B.slots ∧ PostX ⟨T.setVm vm₁, locs, cells, slots⟩ (Value.ref b :: argsL).toArray q B ∧
      Steps p.tables e below (T.setTop g) ((B.U.setTop { g with stack := rest }).pushFrame (.throwing q))) := by
  obtain ⟨mk, methM, hnamed, hmethM, hstM, habM⟩ := Cond.instanceMethod_spec hinst
  obtain ⟨methM', cM, hmethM', -, -, -, -, -, -, hsigM⟩ := Cond.code_spec hnamed hcode
  cases hmethM.symm.trans hmethM'
  obtain ⟨c2, r2, m2, q1, q2, q3, q4, kP, hkP, hkPi⟩ := Cond.selects_spec hsel
  cases hcls.symm.trans q1
  cases (State.methodFound?_of_named hnamed hy).symm.trans q2
  cases hnamed.symm.trans q3
  have hselP : selectMethod e.platform s.vm cellB.cls mk = .method mk := by rw [Launch.admits_selectMethod X.admits]; exact q4
  obtain ⟨vm₁, X₁, hstep₁⟩ := X.invokevirtual hexec hown hlink hnamed hmethM hstM hkP hkPi hy (a := b) (cell := cellB) hcell
    (fun z h => by rw [h] at hobj; cases hobj) hselP hmethM habM hkP hkPi (g := g) hg (argsL := argsL) (rest := rest) (hlen _ hsigM) hstack hdg
  rcases hK m meth c ⟨T.setVm vm₁, locs, cells, slots⟩ { g with stack := rest } (.invokevirtual index) mk (Value.ref b :: argsL).toArray X₁ hg hsize hdg hW (X₁.named hnamed) (hpre vm₁ X₁.warmed) with ⟨v, B, X', hpost, hsteps⟩ | ⟨q, B, X', hpost, hsteps⟩
  · exact Or.inl ⟨v, vm₁, B, X₁.warmed, X', hpost, fun target h => hstep₁ _ fun acts => by rw [doInvoke_state]; exact hsteps.trans h⟩
  · exact Or.inr ⟨q, vm₁, B, X₁.warmed, X', hpost, hstep₁ _ fun acts => by rw [doInvoke_state]; exact hsteps⟩
theorem vx_callS (X : Stand p l e R s m args below meth c T locs cells slots) (hexec : p.tables.exec = Jvm.exec) {own : String} {index : Nat} {y : MethodName} {bytes : ByteArray} {maxL : Nat} {ret : Option FieldType}
    (hown : s.vm.findClass own = some m.cls) (hlink : (Cond.methodLink own index y).before args s = true) (hstat : (Cond.static y).before args s = true) (hinit : (Cond.initialized y.cls).before args s = true)
    (hcode : (Cond.code y bytes maxL ret).before args s = true) (hy : y.cls ≠ "java/lang/invoke/MethodHandle" ∧ y.cls ≠ "java/lang/invoke/VarHandle")
    {W9 : Nat} {Pre : Pt → Array Value → Prop} {Post : Pt → Array Value → Option Value → Pt → Prop} {PostX : Pt → Array Value → Addr → Pt → Prop} (hK : vx_Back l R p e below s args y 3 W9 Pre Post PostX)
    {g : JFrame} (hg : g.method = m) (hsize : g.locals.size = c.maxLocals) {argsL rest : List Value} (hlen : ∀ sig, parseMethodDescriptor y.desc = some sig → argsL.length = sig.parameters.length)
    (hstack : g.stack = argsL.reverse ++ rest) (hW : 2 * g.monitorRoom + (rest.map fun v => v.category).sum ≤ W9) (hdg : decode c.code g.pc = .ok (.invokestatic index, 3))
    (hpre : ∀ vm₁, s.WarmedH vm₁ → Pre ⟨T.setVm vm₁, locs, cells, slots⟩ argsL.toArray) :
    (∃ (v : Option Value) (vm₁ : Vm) (B : Pt), s.WarmedH vm₁ ∧ Stand p l e R s m args below meth c B.U B.locs B.cells B.slots ∧ Post ⟨T.setVm vm₁, locs, cells, slots⟩ argsL.toArray v B ∧
      ∀ target, Steps p.tables e below (B.U.setTop { g with pc := g.pc + 3, stack := v.toList ++ rest }) target → Steps p.tables e below (T.setTop g) target) ∨
    (∃ (q : Addr) (vm₁ : Vm) (B : Pt), s.WarmedH vm₁ ∧ Stand p l e R s m args below meth c B.U B.locs B.cells B.slots ∧ PostX ⟨T.setVm vm₁, locs, cells, slots⟩ argsL.toArray q B ∧
      Steps p.tables e below (T.setTop g) ((B.U.setTop { g with stack := rest }).pushFrame (.throwing q))) := by
  obtain ⟨mk, hnamed⟩ := Cond.code_named hcode
  obtain ⟨methM, cM, hmethM, -, -, -, -, -, -, hsigM⟩ := Cond.code_spec hnamed hcode
  have hstatic : methM.isStatic = true := Cond.static_spec hnamed hmethM hstat
  obtain ⟨kP, hkP, -⟩ := className_of_methodNamed hnamed
  have hinitP : kP.init = .initialized := Cond.initialized_spec (findClass_of_methodNamed hnamed) hkP hinit
  obtain ⟨vm₁, X₁, hstep₁⟩ := X.invokestatic hexec hown hlink hnamed hmethM hstatic hkP hinitP hy (g := g) hg (argsL := argsL) (rest := rest) (hlen _ hsigM) hstack hdg
  rcases hK m meth c ⟨T.setVm vm₁, locs, cells, slots⟩ { g with stack := rest } (.invokestatic index) mk argsL.toArray X₁ hg hsize hdg hW (X₁.named hnamed) (hpre vm₁ X₁.warmed) with ⟨v, B, X', hpost, hsteps⟩ | ⟨q, B, X', hpost, hsteps⟩
  · exact Or.inl ⟨v, vm₁, B, X₁.warmed, X', hpost, fun target h => hstep₁ _ fun acts => by rw [doInvoke_state]; exact hsteps.trans h⟩
  · exact Or.inr ⟨q, vm₁, B, X₁.warmed, X', hpost, hstep₁ _ fun acts => by rw [doInvoke_state]; exact hsteps⟩
end Calls
theorem vx_cls {s : State} {T : State} {vm₁ : Vm} {E : String} {k : ClassId} (hW : s.WarmedH vm₁) (h : (T.setVm vm₁).vm.findClass E = some k) : s.vm.findClass E = some k := by
  have h1 : vm₁.findClass E = some k := h
  rw [hW.alike.findClass] at h1
  exact h1
/-- the method's frame g, with q thrown over it -/
def vx_W (p : Program) (l : Launch) (e : Env) (R : Room) (s : State) (m : MethodId) (args : Array Value) (below : List Frame) (meth : Method) (c : Code) (H : Heap) (locs : List Loc) (cells slots : Nat) (Q : State → Prop) (g : JFrame) (q : Addr) : Prop :=
  ∀ T : State, T.heap = H → Stand p l e R s m args below meth c T locs cells slots → ∃ t, Steps p.tables e below ((T.setTop g).pushFrame (.throwing q)) t ∧ Q t
def vx_Run (p : Program) (l : Launch) (e : Env) (R : Room) (s : State) (m : MethodId) (args : Array Value) (below : List Frame) (meth : Method) (c : Code) (H : Heap) (locs : List Loc) (cells slots mc ms : Nat) (g : JFrame) (rest : List Value) (Qa : State → Outcome → State → Prop) (XC : String → State → State → Prop) (free : Addr → Prop) : Prop :=
  ∀ T : State, T.heap = H → Stand p l e R s m args below meth c T locs cells slots →
    (∃ (v : Option Value) (st₀ t T' : State) (L : List Loc), st₀.heap = H ∧ Stand p l e R s m args below meth c T' (locs ++ L) (cells + mc) (slots + ms) ∧ (∀ q ∈ L, free q.base) ∧ T'.heap = t.heap ∧ T'.vm = t.vm ∧ Qa st₀ (.returned v) t ∧
      Goes p e below T g T' { g with pc := g.pc + 3, stack := v.toList ++ rest }) ∨
    (∃ (q : Addr) (st₀ t T' : State) (L : List Loc) (E : String) (ce : Cell), st₀.heap = H ∧ Stand p l e R s m args below meth c T' (locs ++ L) (cells + mc) (slots + ms) ∧ (∀ z ∈ L, free z.base) ∧ T'.heap = t.heap ∧ T'.vm = t.vm ∧ XC E st₀ t ∧ t.heap[q]? = some ce ∧ ce.vm = .none ∧ s.vm.findClass E = some ce.cls ∧
      Steps p.tables e below (T.setTop g) ((T'.setTop { g with stack := rest }).pushFrame (.throwing q)))
def vx_X {S : Type} (px : S → Prop) (B : String → S → State → Prop) (A : Nat → Prop) : String → State → State → Prop := fun E st t => ∃ u : S, px u ∧ B E u t ∧ va_F A st t
section Runs
variable {p : Program} {l : Launch} {e : Env} {R : Room} {s : State} {m : MethodId} {args : Array Value} {below : List Frame} {meth : Method} {c : Code} {H : Heap} {locs : List Loc} {cells slots : Nat}
variable {y : MethodName} {bytes cc : ByteArray} {maxL nL mc ms n index : Nat} {ret : Option FieldType} {ws : List Cond} {rm : Room} {Pc : Array Value → State → Prop} {Qc : Array Value → State → Outcome → State → Prop} {XC : String → State → State → Prop} {free : Addr → Prop} {Ts : List Cond} {own C : String} {b : Addr} {As rest : List Value} {g : JFrame}
theorem vx_callBack (cb : CallB R s args own index y bytes maxL ret ws rm mc ms n) (hM : vx_Met l y ws rm Pc Qc XC mc ms free) (hbl : FrameBlind Pc) : vx_Back l R p e below s args y 3 8 (PreOf R mc ms Pc) (PostOf Qc mc ms free) (vx_Post XC mc ms free) := by
  obtain ⟨hrc, hrs, hfr, hlo, hws, hcw, -, hini, -⟩ := cb
  exact vx_back (bytes := bytes) (maxL := maxL) (ret := ret) hM hbl hrc hrs hfr hlo hws hcw (fun a' U hW => word_at hW (Or.inl (by first | rfl | simp [Cond.onTables, Cond.keeps, Cond.steady])) hini)
theorem vx_runV (S : CallFix p m c cc nL s args Ts own) (hM : vx_Met l y ws rm Pc Qc XC mc ms free) (cw : CallW R s args own C index y bytes maxL ret ws rm mc ms n) (hp : PreV s H C b Pc As)
    (hg : g.method = m) (hn : As.length = n) (hsize : g.locals.size = nL) (hstack : g.stack = As.reverse ++ .ref b :: rest) (hW : 2 * g.monitorRoom + (rest.map fun v => v.category).sum ≤ 8) (hdg : decode cc g.pc = .ok (.invokevirtual index, 3)) (hf : cells + mc ≤ R.cells ∧ slots + ms ≤ R.slots) :
    vx_Run p l e R s m args below meth c H locs cells slots mc ms g rest (Qc (Value.ref b :: As).toArray) XC free := by
  have hK : vx_Back l R p e below s args y 3 8 (PreOf R mc ms Pc) (PostOf Qc mc ms free) (vx_Post XC mc ms free) := vx_callBack cw.1 hM hp.1
  obtain ⟨⟨-, -, -, -, -, -, hcode, -, hy, hlen, hl⟩, hin, hse⟩ := cw
  obtain ⟨hx, hb, hml, ho, -⟩ := S
  obtain ⟨-, ⟨cellB, hcB, hoB, hclB⟩, hPc⟩ := hp
  intro T hT X
  rcases vx_callV X hx (C := C) (bytes := bytes) (maxL := maxL) (ret := ret) ho hl hin hse hcode hy hK (by rw [hT]; exact hcB) hoB hclB hg (hsize.trans hml.symm) (argsL := As) (rest := rest) (fun sig h => hn.trans (hlen sig h)) hstack hW (by rw [hb]; exact hdg)
    (fun vm₁ hW₁ => ⟨hf.1, hf.2, hPc (T.setVm vm₁) hT hW₁⟩) with ⟨v, vm₁, ⟨U', l2, c2, s2⟩, hW₁, X', ⟨g', mk, t, L, e1, e2, hq, h1, hL, h2, h3⟩, st⟩ | ⟨q, vm₁, ⟨U', l2, c2, s2⟩, hW₁, X', ⟨g', mk, t, L, E, ce, e1, e2, hq, hce, hcv, hcl, h1, hL, h2, h3⟩, st⟩
  · dsimp only [Pt.U, Pt.locs, Pt.cells, Pt.slots] at X' e1 e2 h1 h2 h3 st
    subst h1; subst h2; subst h3
    exact Or.inl ⟨v, (T.setVm vm₁).calling g' mk (Value.ref b :: As).toArray, t, U', L, hT, X', hL, e1, e2, hq, st⟩
  · dsimp only [Pt.U, Pt.locs, Pt.cells, Pt.slots] at X' e1 e2 h1 h2 h3 st hcl
    subst h1; subst h2; subst h3
    exact Or.inr ⟨q, (T.setVm vm₁).calling g' mk (Value.ref b :: As).toArray, t, U', L, E, ce, hT, X', hL, e1, e2, hq, hce, hcv, vx_cls hW₁ hcl, st⟩
theorem vx_runS (S : CallFix p m c cc nL s args Ts own) (hM : vx_Met l y ws rm Pc Qc XC mc ms free) (cw : CallB R s args own index y bytes maxL ret ws rm mc ms n ∧ (Cond.static y).before args s = true) (hp : PreS s H Pc As)
    (hg : g.method = m) (hn : As.length = n) (hsize : g.locals.size = nL) (hstack : g.stack = As.reverse ++ rest) (hW : 2 * g.monitorRoom + (rest.map fun v => v.category).sum ≤ 8) (hdg : decode cc g.pc = .ok (.invokestatic index, 3)) (hf : cells + mc ≤ R.cells ∧ slots + ms ≤ R.slots) :
    vx_Run p l e R s m args below meth c H locs cells slots mc ms g rest (Qc As.toArray) XC free := by
  have hK : vx_Back l R p e below s args y 3 8 (PreOf R mc ms Pc) (PostOf Qc mc ms free) (vx_Post XC mc ms free) := vx_callBack cw.1 hM hp.1
  obtain ⟨⟨-, -, -, -, -, -, hcode, hini, hy, hlen, hl⟩, hstt⟩ := cw
  obtain ⟨hx, hb, hml, ho, -⟩ := S
  intro T hT X
  rcases vx_callS X hx (bytes := bytes) (maxL := maxL) (ret := ret) ho hl hstt hini hcode hy hK hg (hsize.trans hml.symm) (argsL := As) (rest := rest) (fun sig h => hn.trans (hlen sig h)) hstack hW (by rw [hb]; exact hdg)
    (fun vm₁ hW₁ => ⟨hf.1, hf.2, hp.2 (T.setVm vm₁) hT hW₁⟩) with ⟨v, vm₁, ⟨U', l2, c2, s2⟩, hW₁, X', ⟨g', mk, t, L, e1, e2, hq, h1, hL, h2, h3⟩, st⟩ | ⟨q, vm₁, ⟨U', l2, c2, s2⟩, hW₁, X', ⟨g', mk, t, L, E, ce, e1, e2, hq, hce, hcv, hcl, h1, hL, h2, h3⟩, st⟩
  · dsimp only [Pt.U, Pt.locs, Pt.cells, Pt.slots] at X' e1 e2 h1 h2 h3 st
    subst h1; subst h2; subst h3
    exact Or.inl ⟨v, (T.setVm vm₁).calling g' mk As.toArray, t, U', L, hT, X', hL, e1, e2, hq, st⟩
  · dsimp only [Pt.U, Pt.locs, Pt.cells, Pt.slots] at X' e1 e2 h1 h2 h3 st hcl
    subst h1; subst h2; subst h3
    exact Or.inr ⟨q, (T.setVm vm₁).calling g' mk As.toArray, t, U', L, E, ce, hT, X', hL, e1, e2, hq, hce, hcv, vx_cls hW₁ hcl, st⟩
end Runs
section Rows
variable {p : Program} {l : Launch} {e : Env} {R : Room} {s : State} {m : MethodId} {args : Array Value} {below : List Frame} {meth : Method} {c : Code} {H : Heap} {locs : List Loc} {cells slots : Nat} {Q : State → Prop}
variable {mc ms : Nat} {free : Addr → Prop} {A0 A1 : Nat → Prop} {H0 : Heap} {a : Array Value} {pc : Nat} {ls : Array Slot} {st0 rest : List Value}
theorem vx_keep {st₀ t T' : State} {L : List Loc} (h0 : st₀.heap = H) (e1 : T'.heap = t.heap) (hS : va_S A0 H0 H locs) (hA : ∀ q, q < H.size → A1 q → A0 q) (hf : ∀ q, free q → A0 q) (hL : ∀ q ∈ L, free q.base) (hF : va_F A1 st₀ t) :
    H.size ≤ T'.heap.size ∧ (∀ q : Nat, q < H.size → ¬ A1 q → T'.heap[q]? = H[q]?) ∧ va_S A0 H0 T'.heap (locs ++ L) := by
  obtain ⟨hz, hk⟩ := hF
  rw [h0] at hz hk
  exact ⟨by rw [e1]; exact hz, fun q h1 h2 => by rw [e1]; exact hk q h1 h2,
    ⟨Nat.le_trans hS.1 (by rw [e1]; exact hz), fun q h1 h2 => by rw [e1, hk q (Nat.lt_of_lt_of_le h1 hS.1) (fun z => h2 (hA q (Nat.lt_of_lt_of_le h1 hS.1) z))]; exact hS.2.1 q h1 h2, fun q hq => by
      rcases List.mem_append.mp hq with h | h
      · exact hS.2.2 q h
      · exact hf _ (hL q h)⟩⟩
end Rows
section Ends
variable {p : Program} {l : Launch} {e : Env} {R : Room} {s : State} {m : MethodId} {args : Array Value} {below : List Frame} {meth : Method} {c : Code} {H : Heap} {locs : List Loc} {cells slots : Nat} {Q : State → Prop}
variable {mc ms : Nat} {free : Addr → Prop} {A0 A1 : Nat → Prop} {H0 : Heap} {a : Array Value} {ls : Array Slot} {st0 rest : List Value}
variable {Qc : Array Value → State → Outcome → State → Prop} {XC : String → State → State → Prop}
/-- what a body that may throw owes at its end -/
def vx_MQ (below : List Frame) (Qc : Array Value → State → Outcome → State → Prop) (XC : String → State → State → Prop) (a : Array Value) (s : State) (mc ms : Nat) (free : Addr → Prop) : State → Prop := fun t =>
  ∃ o, t.status = .running ∧ Ended t below o ∧ vx_Q Qc XC mc ms free a s o t
theorem vx_ret {g : JFrame} {mc ms : Nat} (k : W p l e R s m args below meth c H locs cells slots (MQ below Qc args s mc ms free) g) : W p l e R s m args below meth c H locs cells slots (vx_MQ below Qc XC args s mc ms free) g := by
  intro T hT X
  obtain ⟨t, a1, o, b1, b2, b3, b4⟩ := k T hT X
  exact ⟨t, a1, o, b1, b2, Or.inl ⟨b3, b4⟩⟩
/-- not caught here: it goes on to the caller -/
theorem vx_widen {g : JFrame} {q : Addr} {k n : Nat} (h1 : cells ≤ k) (h2 : slots ≤ n) (kk : vx_W p l e R s m args below meth c H locs k n Q g q) : vx_W p l e R s m args below meth c H locs cells slots Q g q := fun T hT X => kk T hT (stand_widen X h1 h2)
theorem vx_out {pc : Nat} {E : String} {ce : Cell} {q : Addr} {mc ms : Nat} (hout : ∀ x ∈ c.exceptionTable.toList, covers x pc = false) (hlocks : meth.locks = false) (hcell : H[q]? = some ce) (hv : ce.vm = .none) (hcl : s.vm.findClass E = some ce.cls)
    (hx : ∀ t : State, t.heap = H → s.vm.Alike t.vm → XC E s t) (hf : ∀ z ∈ locs, free z.base) (hc : cells ≤ mc) (hs : slots ≤ ms) :
    vx_W p l e R s m args below meth c H locs cells slots (vx_MQ below Qc XC args s mc ms free) (F0 m pc ls rest) q := by
  intro T hT X
  obtain ⟨st1, hrun, hend, hW, hsm⟩ := X.leaveThrown q (g := F0 m pc ls rest) rfl rfl rfl hout hlocks
  have hcell9 : (T.setFrames (.throwing q :: below)).heap[q]? = some ce := by
    show T.heap[q]? = some ce
    rw [hT]; exact hcell
  exact ⟨_, st1, .threw q, hrun, hend, Or.inr ⟨q, rfl, E, ce, locs, hx _ hT hW.alike, hcell9, hv, hcl, hW, hsm.mono hc hs, hf⟩⟩
theorem vx_frame {U : State} {k n : Nat} (h : s.sameButNew ({ U with vm := s.vm } : State) locs k n) : s.heap.size ≤ U.heap.size ∧ ∀ q : Nat, q < s.heap.size → (∀ z ∈ locs, z.base ≠ q) → U.heap[q]? = s.heap[q]? := by
  obtain ⟨-, h2, -, -, -, h6⟩ := h
  refine ⟨h2, fun q hq hz => ?_⟩
  obtain ⟨c9, e1, e2, e3, e4⟩ := h6 q _ (Array.getElem?_eq_getElem hq)
  have hs : c9.slots = (s.heap[q]).slots := Array.ext_getElem? fun i => e4 i fun hm => hz _ hm rfl
  have h9 : c9 = s.heap[q] := by
    rw [hs] at e2
    exact e2
  have e5 : U.heap[q]? = some c9 := e1
  rw [e5, h9, Array.getElem?_eq_getElem hq]
/-- the words of a throw but the four that speak of the heap -/
def vx_no (w : Cond) : Bool := decide (w ≠ .isRef (.static Bundle.tN "UNASSIGNED_STACK" Bundle.steD)) && decide (w ≠ .isRef (.static Bundle.tN "SUPPRESSED_SENTINEL" Bundle.listD)) && decide (w ≠ .laysStatic Bundle.tN "UNASSIGNED_STACK" Bundle.steD) && decide (w ≠ .laysStatic Bundle.tN "SUPPRESSED_SENTINEL" Bundle.listD)
def vx_atS (own : String) (ic : Nat) (X : String) (names : List String) : List Cond := (Bundle.ownAtoms own ic X names).filter vx_no
/-- a word that the tables alone decide, or a good one -/
def vx_ot (w : Cond) : Bool := w.onTables || goodWord w
theorem vx_ot_at {args a' : Array Value} {s U : State} {w : Cond} (hW : s.WarmedH U.vm) (hvm : s.vm = U.vm) (hg : vx_ot w = true) (h : w.before args s = true) : w.before a' U = true := by
  simp only [vx_ot, Bool.or_eq_true] at hg
  rcases hg with hg | hg
  · exact va_tabs hg hvm h
  · exact word_at hW (good_of_word hg) h
/-- a list's words: the good ones out of the method's own list, the others by premises of their own -/
theorem vx_hat {args : Array Value} {s : State} {L B : List Cond} (h1 : ∀ w ∈ L.filter goodWord, w.before args s = true) (h2 : ∀ w ∈ L.filter (fun w => !goodWord w), w ∈ B) (h3 : ∀ w ∈ B, w.before args s = true) : ∀ w ∈ L, w.before args s = true := by
  intro w hw
  by_cases g : goodWord w = true
  · exact h1 w (List.mem_filter.mpr ⟨hw, g⟩)
  · refine h3 w (h2 w (List.mem_filter.mpr ⟨hw, ?_⟩))
    show (!goodWord w) = true
    cases hgw : goodWord w
    · rfl
    · exact absurd hgw g
theorem vx_c {args : Array Value} {s : State} {w : Cond} {B : List Cond} (h : w.before args s = true) (t : ∀ w ∈ B, w.before args s = true) : ∀ w' ∈ w :: B, w'.before args s = true := fun w' h' => (List.mem_cons.mp h').elim (fun e => by rw [e]; exact h) (t w')
theorem vx_n {args : Array Value} {s : State} : ∀ w ∈ ([] : List Cond), w.before args s = true := fun _ h => nomatch h
theorem vx_own {args : Array Value} {s : State} {L : List Cond} (h1 : ∀ w ∈ L.filter vx_no, w.before args s = true)
    (hU : (Cond.isRef (.static Bundle.tN "UNASSIGNED_STACK" Bundle.steD)).before args s = true) (hN : (Cond.isRef (.static Bundle.tN "SUPPRESSED_SENTINEL" Bundle.listD)).before args s = true)
    (lU : (Cond.laysStatic Bundle.tN "UNASSIGNED_STACK" Bundle.steD).before args s = true) (lN : (Cond.laysStatic Bundle.tN "SUPPRESSED_SENTINEL" Bundle.listD).before args s = true) : ∀ w ∈ L, w.before args s = true := by
  intro w hw
  by_cases e1 : w = .isRef (.static Bundle.tN "UNASSIGNED_STACK" Bundle.steD)
  · rw [e1]; exact hU
  · by_cases e2 : w = .isRef (.static Bundle.tN "SUPPRESSED_SENTINEL" Bundle.listD)
    · rw [e2]; exact hN
    · by_cases e3 : w = .laysStatic Bundle.tN "UNASSIGNED_STACK" Bundle.steD
      · rw [e3]; exact lU
      · by_cases e4 : w = .laysStatic Bundle.tN "SUPPRESSED_SENTINEL" Bundle.listD
        · rw [e4]; exact lN
        · exact h1 w (List.mem_filter.mpr ⟨hw, by unfold vx_no; rw [decide_eq_true e1, decide_eq_true e2, decide_eq_true e3, decide_eq_true e4]; rfl⟩)
/-- where a static field lies, its class's statics cell in H -/
def vx_L (C n d : String) (A : Nat → Prop) (U : State) (H : Heap) : Prop := ∃ (c : ClassId) (k : Class) (i : Nat) (f : Field) (a : Nat) (cell : Cell), U.vm.findClass C = some c ∧ U.fieldFound? C n d = some (c, k, i, f) ∧ f.isStatic = true ∧ k.statics = some a ∧ H[a]? = some cell ∧ cell.vm.isStatics = true ∧ cell.cls = c ∧ f.slot < cell.slots.size ∧ k.staticTypes[f.slot]? = some f.type ∧ ¬ A a
theorem vx_L.moved {C n d : String} {A : Nat → Prop} {u U : State} {H : Heap} (hvm : u.vm.Alike U.vm) (h : vx_L C n d A u H) : vx_L C n d A U H := by
  obtain ⟨c, k, i, f, a, cell, h1, h2, h3, h4, h5, h6, h7, h8, h9, h10⟩ := h
  obtain ⟨k', hi', he⟩ := State.fieldFound?_setVm hvm h2
  exact ⟨c, k', i, f, a, cell, by rw [hvm.findClass]; exact h1, hi', h3, by rw [he]; exact h4, h5, h6, h7, h8, by rw [he]; exact h9, h10⟩
theorem vx_L.kept {C n d : String} {A : Nat → Prop} {U : State} {H H1 : Heap} (h : vx_L C n d A U H) (hq : ∀ a : Nat, a < H.size → ¬ A a → H1[a]? = H[a]?) : vx_L C n d A U H1 := by
  obtain ⟨c, k, i, f, a, cell, h1, h2, h3, h4, h5, h6, h7, h8, h9, h10⟩ := h
  exact ⟨c, k, i, f, a, cell, h1, h2, h3, h4, by rw [hq a (Array.getElem?_eq_some_iff.mp h5).1 h10]; exact h5, h6, h7, h8, h9, h10⟩
theorem vx_L.narrow {C n d : String} {A B : Nat → Prop} {U : State} {H : Heap} (h : vx_L C n d A U H) (hAB : ∀ q, B q → A q) : vx_L C n d B U H := by
  obtain ⟨c, k, i, f, a, cell, h1, h2, h3, h4, h5, h6, h7, h8, h9, h10⟩ := h
  exact ⟨c, k, i, f, a, cell, h1, h2, h3, h4, h5, h6, h7, h8, h9, fun z => h10 (hAB _ z)⟩
theorem vx_L.word {C n d : String} {A : Nat → Prop} {s : State} {args : Array Value} (h : vx_L C n d A s s.heap) : (Cond.laysStatic C n d).before args s = true := by
  obtain ⟨c, k, i, f, a, cell, h1, h2, h3, h4, h5, h6, h7, h8, h9, -⟩ := h
  show (Cond.laysStatic C n d).holds args s none s [] = true
  exact Cond.laysStatic_of h1 h2 h3 h4 h5 h6 h7 h8 h9
/-- .. and what it holds: null or some reference -/
def vx_Zq (C n d : String) (A : Nat → Prop) (U : State) (H : Heap) : Prop := va_Zq C n d A U H ∧ vx_L C n d A U H
theorem vx_Zq.moved {C n d : String} {A : Nat → Prop} {u U : State} {H : Heap} (hvm : u.vm.Alike U.vm) (h : vx_Zq C n d A u H) : vx_Zq C n d A U H := ⟨va_Zq.moved hvm h.1, vx_L.moved hvm h.2⟩
theorem vx_Zq.kept {C n d : String} {A : Nat → Prop} {U : State} {H H1 : Heap} (h : vx_Zq C n d A U H) (hq : ∀ a : Nat, a < H.size → ¬ A a → H1[a]? = H[a]?) : vx_Zq C n d A U H1 := ⟨va_Zq.kept h.1 hq, vx_L.kept h.2 hq⟩
theorem vx_Zq.narrow {C n d : String} {A B : Nat → Prop} {U : State} {H : Heap} (h : vx_Zq C n d A U H) (hAB : ∀ q, B q → A q) : vx_Zq C n d B U H := ⟨va_Zq.narrow h.1 hAB, vx_L.narrow h.2 hAB⟩
theorem vx_Zqof {args : Array Value} {s : State} {C n d : String} {A : Nat → Prop} (hl : (Cond.laysStatic C n d).before args s = true) (hini : (Cond.initialized C).before args s = true) (h : (Cond.isRef (.static C n d)).before args s = true) (hA : ∀ a : Nat, a < s.heap.size → ¬ A a) : vx_Zq C n d A s s.heap := by
  refine ⟨va_Zqof hl hini h hA, ?_⟩
  obtain ⟨c, k, i, f, a, cell, h1, h2, h3, h4, h5, h6, h7, h8, h9⟩ := Cond.laysStatic_spec hl
  exact ⟨c, k, i, f, a, cell, h1, h2, h3, h4, h5, h6, h7, h8, h9, hA a (Array.getElem?_eq_some_iff.mp h5).1⟩
theorem vx_isRef {C n d : String} {v : Value} {A : Nat → Prop} {s : State} {args : Array Value} (h : va_Z C n d v A s s.heap) (hv : v.isRef = true) : (Cond.isRef (.static C n d)).before args s = true := by
  obtain ⟨cf, kf, fi, f, a, cell, h1, h2, h3, h4, h5, h6, h7, -⟩ := h
  have he : (Term.static C n d).eval args s none [] s = some v := by
    simp [Term.eval, State.fieldNamed?, h1, h2, h4, h5, h6, h7]
  simp only [Cond.before, Cond.holds, Cond.value, he]
  cases v <;> simp_all [Value.isRef]
theorem vx_isRefq {C n d : String} {A : Nat → Prop} {s : State} {args : Array Value} (h : va_Zq C n d A s s.heap) : (Cond.isRef (.static C n d)).before args s = true := by
  rcases h with h | ⟨t, h⟩
  · exact vx_isRef h rfl
  · exact vx_isRef h rfl
/-- the same frame, seen from here: as if the method were called anew in this heap -/
theorem vx_rebase {T : State} (X : Stand p l e R s m args below meth c T locs cells slots) {R' : Room} (hf : R'.frames ≤ R.frames) (hl : R'.locals ≤ R.locals) (hc : cells + R'.cells ≤ R.cells) (hs : slots + R'.slots ≤ R.slots) :
    Stand p l e R' ((T.setVm s.vm).setFrames (.invoking m args :: below)) m args below meth c T [] 0 0 := by
  have htop : (T.setVm s.vm).topJava?.isSome := X.here.top
  have hF : ((T.setVm s.vm).setFrames (.invoking m args :: below)).frames = .invoking m args :: below := State.frames_setFrames _ (State.cur_lt_of_top htop)
  obtain ⟨g₀, hg0⟩ := Option.isSome_iff_exists.mp htop
  obtain ⟨r, hr⟩ := State.topJava?_eq_some.mp hg0
  have hl9 : e.platform.stackLimits (T.setVm s.vm).me = e.platform.stackLimits s.me := X.limits
  have hb9 : (T.setVm s.vm).me.stackBytes = s.me.stackBytes := X.bytes
  refine ⟨X.admits, X.cas, X.clock, hF, ?_, X.hears, X.method, X.code, X.here, X.tail, X.warmed, ?_, ?_, ?_⟩
  · have h := X.room
    have hU : ((T.setVm s.vm).setFrames (.invoking m args :: below)).localsInUse = s.localsInUse := by
      rw [State.localsInUse_invoking hF (meth := meth) (c := c) X.method X.code, State.localsInUse_invoking X.frames X.method X.code]
    simp only [State.hasRoom, Bool.and_eq_true, decide_eq_true_eq] at h ⊢
    obtain ⟨⟨⟨⟨h1, h2, h3, h4, h5, h6⟩, h7⟩, h8⟩, h9⟩ := h
    rw [X.frames, List.length_cons] at h2 h3
    have q1 := X.heapSize
    have q2 := X.used
    simp only [hF, hU, List.length_cons, State.stackLimits_setFrames, State.stackBytes_setFrames, hl9, hb9]
    refine ⟨⟨⟨⟨by omega, by omega, by omega, by omega, by omega, h6⟩, ?_⟩, ?_⟩, X.book⟩
    · show T.heap.size + R'.cells ≤ e.platform.maxCells
      omega
    · show T.slotsUsed + R'.slots ≤ e.platform.maxSlots
      omega
  · rw [State.stackLimits_setFrames]; rfl
  · rw [State.stackBytes_setFrames]; rfl
  · refine ⟨?_, Nat.le_refl _, Nat.le_refl _, ?_, ?_, fun a c9 h9 => ⟨c9, h9, rfl, rfl, fun _ _ => rfl⟩⟩
    · obtain ⟨t, ht, -⟩ := State.frames_cons hr
      show T.setVm s.vm = { ((T.setVm s.vm).setFrames (.invoking m args :: below)).setFrames (T.setVm s.vm).frames with heap := T.heap, slotsUsed := T.slotsUsed }
      rw [State.setFrames_setFrames, State.setFrames_self ht]
      rfl
    · show T.slotsUsed = T.slotsUsed + ((T.heap.toList.drop T.heap.size).map (·.slots.size)).sum
      rw [List.drop_eq_nil_of_le (Nat.le_of_eq Array.length_toList)]
      rfl
    · show ((T.heap.toList.drop T.heap.size).map (·.slots.size)).sum ≤ 0
      rw [List.drop_eq_nil_of_le (Nat.le_of_eq Array.length_toList)]
      exact Nat.le_refl _
/-- 'throw new E("text")': new; dup; ldc; invokespecial; athrow -/
theorem vx_throwS {cc : ByteArray} {pc : Nat} (hexec : p.tables.exec = Jvm.exec) (hb : c.code = cc) (hl : l.stackTraces = false) {own cls text : String} {names : List String} {ik is ic mc ms sa : Nat} {A : Nat → Prop}
    (hown : s.vm.findClass own = some m.cls) (hcls : Bundle.fit cls = true) (hnames : ∀ n ∈ names, Bundle.fit n = true)
    (hk : (Cond.classLink own ik cls).before args s = true) (hini : (Cond.initialized cls).before args s = true) (hstr : vk_R own is text sa s) (hat : ∀ w ∈ vx_atS own ic cls names, w.before args s = true)
    (hgood : ∀ w ∈ Cond.classLink own ik cls :: Cond.initialized cls :: vx_atS own ic cls names, vx_ot w = true)
    (hU : vx_Zq Bundle.tN "UNASSIGNED_STACK" Bundle.steD A s s.heap) (hN : vx_Zq Bundle.tN "SUPPRESSED_SENTINEL" Bundle.listD A s s.heap) (hS : va_S A s.heap H locs) (hsize : ls.size = c.maxLocals)
    (d0 : decode cc pc = .ok (.new ik, 3)) (d3 : decode cc (pc + 3) = .ok (.dup, 1)) (d4 : decode cc (pc + 4) = .ok (.ldc is, 2)) (d6 : decode cc (pc + 6) = .ok (.invokespecial ic, 3)) (d9 : decode cc (pc + 9) = .ok (.athrow, 1))
    (hout : ∀ x ∈ c.exceptionTable.toList, covers x (pc + 9) = false)
    (hRframes : names.length + 3 < R.frames) (hRlocals : (rest.map fun v => v.category).sum + (13 * (names.length + 1) + 43) ≤ R.locals) (hRcells : cells + 1 ≤ R.cells) (hRslots : slots + 6 ≤ R.slots) (hlocks : meth.locks = false)
    (hx : ∀ t : State, s.vm.Alike t.vm → t.heap.size = H.size + 1 → (∀ q : Nat, q < H.size → t.heap[q]? = H[q]?) → XC cls s t)
    (hf : ∀ z ∈ locs, free z.base) (hc : cells + 1 ≤ mc) (hs : slots + 6 ≤ ms) :
    W p l e R s m args below meth c H locs cells slots (vx_MQ below Qc XC args s mc ms free) (F0 m pc ls rest) := by
  intro T hT X
  have htr : e.platform.stackTraces = false := (show e.platform.stackTraces = l.stackTraces by rw [X.admits.platform]).trans hl
  have Y := vx_rebase X (R' := { frames := R.frames, locals := R.locals, cells := 1, slots := 6 }) (Nat.le_refl _) (Nat.le_refl _) hRcells hRslots
  obtain ⟨s', hA⟩ : ∃ z, z = (T.setVm s.vm).setFrames (.invoking m args :: below) := ⟨_, rfl⟩
  rw [← hA] at Y
  have hvm : s'.vm = s.vm := by rw [hA]; rfl
  have hhp : s'.heap = H := by rw [hA]; exact hT
  have hW0 : s.WarmedH s'.vm := by rw [hvm]; exact State.WarmedH.refl s
  have hat' : ∀ w ∈ vx_atS own ic cls names, w.before args s' = true := fun w hw => vx_ot_at hW0 hvm.symm (hgood w (List.mem_cons_of_mem _ (List.mem_cons_of_mem _ hw))) (hat w hw)
  have hk' : (Cond.classLink own ik cls).before args s' = true := vx_ot_at hW0 hvm.symm (hgood _ List.mem_cons_self) hk
  have hini' : (Cond.initialized cls).before args s' = true := vx_ot_at hW0 hvm.symm (hgood _ (List.mem_cons_of_mem _ List.mem_cons_self)) hini
  have hU' : vx_Zq Bundle.tN "UNASSIGNED_STACK" Bundle.steD A s' s'.heap := by rw [hhp]; exact vx_Zq.moved hW0.alike (hU.kept hS.2.1)
  have hN' : vx_Zq Bundle.tN "SUPPRESSED_SENTINEL" Bundle.listD A s' s'.heap := by rw [hhp]; exact vx_Zq.moved hW0.alike (hN.kept hS.2.1)
  have h : ∀ w ∈ Bundle.ownAtoms own ic cls names, w.before args s' = true := vx_own hat' (vx_isRefq hU'.1) (vx_isRefq hN'.1) hU'.2.word hN'.2.word
  have hown' : s'.vm.findClass own = some m.cls := by rw [hvm]; exact hown
  have hins : (Cond.instantiable cls 6).before args s' = true := h _ (by simp [Bundle.ownAtoms])
  obtain ⟨vm₁, cX, kX, hfX, hkX, -, -, X₁, st1⟩ := Y.newCold hexec (own := own) (C := cls) (index := ik) (n := 6) hown' hk' hins hini'
    (g := F0 m pc ls rest) rfl (by rw [hb]; exact d0) (Nat.le_refl _) (Nat.le_refl _)
  generalize hT1 : (T.setVm vm₁).pushCell { cls := cX, slots := kX.instanceTypes.map defaultValue, vm := .none } = T1 at X₁ st1
  have hcat : (Value.ref T.heap.size).category = 1 := rfl
  have hcellA : T1.heap[T.heap.size]? = some (freshCell cX kX) := by rw [← hT1]; exact State.heap_pushCell_size _ _
  have d3' : decode c.code (pc + 3) = .ok (.dup, 1) := by rw [hb]; exact d3
  have d4' : decode c.code (pc + 4) = .ok (.ldc is, 2) := by rw [hb]; exact d4
  have hstr' : vk_R own is text sa s' := vk_R.warm hW0 hstr
  obtain ⟨U, hsteps, hrun, hend, hW, hsame, ce, hce, hO⟩ := X₁.ctorThrowS hexec htr (own := own) (cls := cls) (names := names) (ic := ic) hown' hcls hnames h (fun x hx => nomatch hx) hfX hkX hcellA (by rw [hhp, hT]; exact Nat.le_refl _) (msg := .ref sa) rfl
    (g := { method := m, pc := pc + 6, locals := ls, stack := .ref sa :: .ref T.heap.size :: .ref T.heap.size :: rest, locked := none }) rfl hsize rfl rfl (rest := rest) rfl
    (by rw [hb]; exact d6) (by rw [hb]; exact d9) hout hRframes (by simp only [List.map_cons, List.sum_cons, hcat]; omega) hlocks
  obtain ⟨f1, f2⟩ := vx_frame hsame
  rw [hhp] at f1 f2
  have fz : U.heap.size = H.size + 1 := by
    have z1 : T.heap.size < U.heap.size := (Array.getElem?_eq_some_iff.mp hce).1
    have z2 : U.heap.size ≤ s'.heap.size + (0 + 1) := hsame.2.2.1
    rw [hhp] at z2
    rw [hT] at z1
    omega
  have hWs : s.WarmedH U.vm := State.WarmedH.trans hW0 hW
  have hcl : s.vm.findClass cls = some ce.cls := by
    have h9 := hO.cls
    rw [hvm] at h9
    exact h9
  have hall : s.sameButNew ({ U with vm := s.vm } : State) locs mc ms := by
    subst hA
    obtain ⟨e1, e2⟩ := hsame
    rw [State.setFrames_setFrames] at e1
    have h2 : (T.setVm s.vm).sameButNew ({ U with vm := s.vm } : State) [] (0 + 1) (0 + 6) := ⟨e1, e2⟩
    have h3 := X.same.trans h2
    rw [List.append_nil] at h3
    exact h3.mono hc hs
  refine ⟨U, ?_, .threw T.heap.size, hrun, hend, Or.inr ⟨T.heap.size, rfl, cls, ce, locs, hx U hWs.alike fz (fun q hq => f2 q hq (fun z hz => nomatch hz)), hce, hO.vm, hcl, hWs, hall, hf⟩⟩
  refine st1 _ ?_
  show Steps p.tables e below (T1.setTop { method := m, pc := pc + 3, locals := ls, stack := .ref T.heap.size :: rest, locked := none }) _
  jvm_step X₁.here [X₁.here.top, hexec, d3', Value.category]
  exact X₁.ldcString hexec (own := own) (text := text) (index := is) (a := sa) hown' hstr'.1 hstr'.2
    (g := { method := m, pc := pc + 4, locals := ls, stack := .ref T.heap.size :: .ref T.heap.size :: rest, locked := none }) rfl d4' _ hsteps
/-- 'throw new E("text")', the text by a wide index -/
theorem vx_throwSW {cc : ByteArray} {pc : Nat} (hexec : p.tables.exec = Jvm.exec) (hb : c.code = cc) (hl : l.stackTraces = false) {own cls text : String} {names : List String} {ik is ic mc ms sa : Nat} {A : Nat → Prop}
    (hown : s.vm.findClass own = some m.cls) (hcls : Bundle.fit cls = true) (hnames : ∀ n ∈ names, Bundle.fit n = true)
    (hk : (Cond.classLink own ik cls).before args s = true) (hini : (Cond.initialized cls).before args s = true) (hstr : vk_R own is text sa s) (hat : ∀ w ∈ vx_atS own ic cls names, w.before args s = true)
    (hgood : ∀ w ∈ Cond.classLink own ik cls :: Cond.initialized cls :: vx_atS own ic cls names, vx_ot w = true)
    (hU : vx_Zq Bundle.tN "UNASSIGNED_STACK" Bundle.steD A s s.heap) (hN : vx_Zq Bundle.tN "SUPPRESSED_SENTINEL" Bundle.listD A s s.heap) (hS : va_S A s.heap H locs) (hsize : ls.size = c.maxLocals)
    (d0 : decode cc pc = .ok (.new ik, 3)) (d3 : decode cc (pc + 3) = .ok (.dup, 1)) (d4 : decode cc (pc + 4) = .ok (.ldc_w is, 3)) (d7 : decode cc (pc + 7) = .ok (.invokespecial ic, 3)) (d10 : decode cc (pc + 10) = .ok (.athrow, 1))
    (hout : ∀ x ∈ c.exceptionTable.toList, covers x (pc + 10) = false)
    (hRframes : names.length + 3 < R.frames) (hRlocals : (rest.map fun v => v.category).sum + (13 * (names.length + 1) + 43) ≤ R.locals) (hRcells : cells + 1 ≤ R.cells) (hRslots : slots + 6 ≤ R.slots) (hlocks : meth.locks = false)
    (hx : ∀ t : State, s.vm.Alike t.vm → t.heap.size = H.size + 1 → (∀ q : Nat, q < H.size → t.heap[q]? = H[q]?) → XC cls s t)
    (hf : ∀ z ∈ locs, free z.base) (hc : cells + 1 ≤ mc) (hs : slots + 6 ≤ ms) :
    W p l e R s m args below meth c H locs cells slots (vx_MQ below Qc XC args s mc ms free) (F0 m pc ls rest) := by
  intro T hT X
  have htr : e.platform.stackTraces = false := (show e.platform.stackTraces = l.stackTraces by rw [X.admits.platform]).trans hl
  have Y := vx_rebase X (R' := { frames := R.frames, locals := R.locals, cells := 1, slots := 6 }) (Nat.le_refl _) (Nat.le_refl _) hRcells hRslots
  obtain ⟨s', hA⟩ : ∃ z, z = (T.setVm s.vm).setFrames (.invoking m args :: below) := ⟨_, rfl⟩
  rw [← hA] at Y
  have hvm : s'.vm = s.vm := by rw [hA]; rfl
  have hhp : s'.heap = H := by rw [hA]; exact hT
  have hW0 : s.WarmedH s'.vm := by rw [hvm]; exact State.WarmedH.refl s
  have hat' : ∀ w ∈ vx_atS own ic cls names, w.before args s' = true := fun w hw => vx_ot_at hW0 hvm.symm (hgood w (List.mem_cons_of_mem _ (List.mem_cons_of_mem _ hw))) (hat w hw)
  have hk' : (Cond.classLink own ik cls).before args s' = true := vx_ot_at hW0 hvm.symm (hgood _ List.mem_cons_self) hk
  have hini' : (Cond.initialized cls).before args s' = true := vx_ot_at hW0 hvm.symm (hgood _ (List.mem_cons_of_mem _ List.mem_cons_self)) hini
  have hU' : vx_Zq Bundle.tN "UNASSIGNED_STACK" Bundle.steD A s' s'.heap := by rw [hhp]; exact vx_Zq.moved hW0.alike (hU.kept hS.2.1)
  have hN' : vx_Zq Bundle.tN "SUPPRESSED_SENTINEL" Bundle.listD A s' s'.heap := by rw [hhp]; exact vx_Zq.moved hW0.alike (hN.kept hS.2.1)
  have h : ∀ w ∈ Bundle.ownAtoms own ic cls names, w.before args s' = true := vx_own hat' (vx_isRefq hU'.1) (vx_isRefq hN'.1) hU'.2.word hN'.2.word
  have hown' : s'.vm.findClass own = some m.cls := by rw [hvm]; exact hown
  have hins : (Cond.instantiable cls 6).before args s' = true := h _ (by simp [Bundle.ownAtoms])
  obtain ⟨vm₁, cX, kX, hfX, hkX, -, -, X₁, st1⟩ := Y.newCold hexec (own := own) (C := cls) (index := ik) (n := 6) hown' hk' hins hini'
    (g := F0 m pc ls rest) rfl (by rw [hb]; exact d0) (Nat.le_refl _) (Nat.le_refl _)
  generalize hT1 : (T.setVm vm₁).pushCell { cls := cX, slots := kX.instanceTypes.map defaultValue, vm := .none } = T1 at X₁ st1
  have hcat : (Value.ref T.heap.size).category = 1 := rfl
  have hcellA : T1.heap[T.heap.size]? = some (freshCell cX kX) := by rw [← hT1]; exact State.heap_pushCell_size _ _
  have d3' : decode c.code (pc + 3) = .ok (.dup, 1) := by rw [hb]; exact d3
  have d4' : decode c.code (pc + 4) = .ok (.ldc_w is, 3) := by rw [hb]; exact d4
  have hstr' : vk_R own is text sa s' := vk_R.warm hW0 hstr
  obtain ⟨U, hsteps, hrun, hend, hW, hsame, ce, hce, hO⟩ := X₁.ctorThrowS hexec htr (own := own) (cls := cls) (names := names) (ic := ic) hown' hcls hnames h (fun x hx => nomatch hx) hfX hkX hcellA (by rw [hhp, hT]; exact Nat.le_refl _) (msg := .ref sa) rfl
    (g := { method := m, pc := pc + 7, locals := ls, stack := .ref sa :: .ref T.heap.size :: .ref T.heap.size :: rest, locked := none }) rfl hsize rfl rfl (rest := rest) rfl
    (by rw [hb]; exact d7) (by rw [hb]; exact d10) hout hRframes (by simp only [List.map_cons, List.sum_cons, hcat]; omega) hlocks
  obtain ⟨f1, f2⟩ := vx_frame hsame
  rw [hhp] at f1 f2
  have fz : U.heap.size = H.size + 1 := by
    have z1 : T.heap.size < U.heap.size := (Array.getElem?_eq_some_iff.mp hce).1
    have z2 : U.heap.size ≤ s'.heap.size + (0 + 1) := hsame.2.2.1
    rw [hhp] at z2
    rw [hT] at z1
    omega
  have hWs : s.WarmedH U.vm := State.WarmedH.trans hW0 hW
  have hcl : s.vm.findClass cls = some ce.cls := by
    have h9 := hO.cls
    rw [hvm] at h9
    exact h9
  have hall : s.sameButNew ({ U with vm := s.vm } : State) locs mc ms := by
    subst hA
    obtain ⟨e1, e2⟩ := hsame
    rw [State.setFrames_setFrames] at e1
    have h2 : (T.setVm s.vm).sameButNew ({ U with vm := s.vm } : State) [] (0 + 1) (0 + 6) := ⟨e1, e2⟩
    have h3 := X.same.trans h2
    rw [List.append_nil] at h3
    exact h3.mono hc hs
  refine ⟨U, ?_, .threw T.heap.size, hrun, hend, Or.inr ⟨T.heap.size, rfl, cls, ce, locs, hx U hWs.alike fz (fun q hq => f2 q hq (fun z hz => nomatch hz)), hce, hO.vm, hcl, hWs, hall, hf⟩⟩
  refine st1 _ ?_
  show Steps p.tables e below (T1.setTop { method := m, pc := pc + 3, locals := ls, stack := .ref T.heap.size :: rest, locked := none }) _
  jvm_step X₁.here [X₁.here.top, hexec, d3', Value.category]
  exact X₁.ldcStringW hexec (own := own) (text := text) (index := is) (a := sa) hown' hstr'.1 hstr'.2
    (g := { method := m, pc := pc + 4, locals := ls, stack := .ref T.heap.size :: .ref T.heap.size :: rest, locked := none }) rfl d4' _ hsteps
end Ends
section Bodies
variable {l : Launch}
theorem vx_ofW {y : MethodName} {ws ws' : List Cond} {rm : Room} {Pc : Array Value → State → Prop} {Qc : Array Value → State → Outcome → State → Prop} {XC : String → State → State → Prop} {mc ms : Nat} {free : Addr → Prop} {cc : ByteArray} {maxL : Nat} {ret : Option FieldType}
    (hy : plainName y.cls = true) (hw : ws = Cond.code y cc maxL ret :: ws')
    (body : ∀ p e s m args below meth c s₁, BodyLoose p l y (headSpec ws rm) cc maxL ret e s m args below meth c s₁ → c.maxLocals = maxL → (∀ x ∈ c.exceptionTable.toList, False) → Pc args s →
      W p l e (headSpec ws rm).room s m args below meth c s.heap [] 0 0 (vx_MQ below Qc XC args s mc ms free) (entryFrame m args maxL)) : vx_Met l y ws rm Pc Qc XC mc ms free := by
  refine MetFree.of_bodyS (code := cc) (maxLocals := maxL) (ret := ret) hy ?_ ?_
  · intro args s m h hn
    obtain ⟨meth, c, h1, h2, h3, h4, h5, h6, -, -⟩ := Cond.code_spec hn (atoms_spec (ws := ws) h _ (by rw [hw]; exact List.mem_cons_self))
    exact ⟨meth, c, h1, h2, h3, h4, h5, h6⟩
  · intro p e s m args below meth c s₁ B hml hP _
    have hh0 : s₁.heap = s.heap := by rw [B.state]; rfl
    have ht : ∀ x ∈ c.exceptionTable.toList, False := by
      obtain ⟨meth9, c9, h1, h2, -, -, -, -, h7, -⟩ := Cond.code_spec B.named (atoms_spec (ws := ws) B.pre _ (by rw [hw]; exact List.mem_cons_self))
      cases Option.some.inj (h1.symm.trans B.method)
      cases Option.some.inj (h2.symm.trans (Stand.of_body B).code)
      intro x hx
      rw [Array.isEmpty_iff.mp h7] at hx
      cases hx
    obtain ⟨t, a1, o, b1, b2, b3⟩ := body p e s m args below meth c s₁ B hml ht hP s₁ hh0 (Stand.of_body B)
    exact ⟨t, o, a1, b1, b2, b3⟩
/-- the table of a body with handlers -/
theorem vx_table {p : Program} {x y : MethodName} {S : Spec} {cc bytes : ByteArray} {maxL maxL' : Nat} {ret ret' : Option FieldType} {e : Env} {s s₁ : State} {m : MethodId} {args : Array Value} {below : List Frame} {meth : Method} {c : Code} {hh : List (Nat × Nat × Nat × Nat)}
    (B : BodyLoose p l y S cc maxL ret e s m args below meth c s₁) (h : (Cond.codeWith y bytes maxL' ret' hh).before args s = true) : c.exceptionTable.toList = tableOf hh := by
  obtain ⟨m9, meth9, c9, hn9, h1, h2, -, -, h6, -⟩ := Cond.codeWith_spec h
  cases Option.some.inj (hn9.symm.trans B.named)
  cases Option.some.inj (h1.symm.trans B.method)
  cases Option.some.inj (h2.symm.trans (Stand.of_body B).code)
  rw [← h6, table_eq]
end Bodies
end VXA
/-! ===== END ===== -/
/-! ===== BEGIN a static call of a method with an exception table ===== -/
section VXS
variable {p : Program} {l : Launch} {e : Env} {R : Room} {s : State} {m : MethodId} {args : Array Value} {below : List Frame} {meth : Method} {c : Code} {T : State} {H : Heap} {locs : List Loc} {cells slots : Nat}
abbrev vx_CSW (R : Room) (s : State) (args : Array Value) (own : String) (index : Nat) (y : MethodName) (bytes : ByteArray) (maxL : Nat) (ret : Option FieldType) (hh : List (Nat × Nat × Nat × Nat)) (ws : List Cond) (rm : Room) (mc ms n : Nat) : Prop :=
  (rm.cells = mc ∧ rm.slots = ms ∧ rm.frames + 1 ≤ R.frames ∧ 8 + (maxL + 11) + rm.locals ≤ R.locals ∧ (∀ w ∈ ws, ∀ (a' : Array Value) (U : State), s.WarmedH U.vm → w.before a' U = true) ∧ Cond.codeWith y bytes maxL ret hh ∈ ws) ∧
  (Cond.codeWith y bytes maxL ret hh).before args s = true ∧ (Cond.initialized y.cls).before args s = true ∧ (y.cls ≠ "java/lang/invoke/MethodHandle" ∧ y.cls ≠ "java/lang/invoke/VarHandle") ∧
  (∀ sig, parseMethodDescriptor y.desc = some sig → n = sig.parameters.length) ∧ (Cond.methodLink own index y).before args s = true ∧ (Cond.static y).before args s = true
theorem vx_cwSW {own : String} {index maxL mc ms : Nat} {y : MethodName} {bytes : ByteArray} {ret : Option FieldType} {hh : List (Nat × Nat × Nat × Nat)} {Ts ws ws' : List Cond} {rm : Room} (n : Nat) (ht : ∀ w ∈ Ts, w.before args s = true) (hT : GoodIn Ts (va_wsS own index y ws)) (hw : ws = Cond.codeWith y bytes maxL ret hh :: ws') (hrc : rm.cells = mc) (hrs : rm.slots = ms)
    (hd : y.cls ≠ "java/lang/invoke/MethodHandle" ∧ y.cls ≠ "java/lang/invoke/VarHandle" ∧ (parseMethodDescriptor y.desc).map (fun d => d.parameters.length) = some n) (hR : rm.frames + 1 ≤ R.frames ∧ 8 + (maxL + 11) + rm.locals ≤ R.locals) :
    vx_CSW R s args own index y bytes maxL ret hh ws rm mc ms n := by
  have ok : ∀ w ∈ va_wsS own index y ws, w.before args s = true := fun w h => ht w (hT w h).1
  have hG : GoodIn Ts ws := fun w h => hT w (by unfold va_wsS; exact List.mem_append_right _ h)
  have hc : Cond.codeWith y bytes maxL ret hh ∈ ws := by rw [hw]; exact List.mem_cons_self
  refine ⟨⟨hrc, hrs, hR.1, hR.2, pay_in ht hG, hc⟩, ht _ (hG _ hc).1, ok _ (by simp [va_wsS]), ⟨hd.1, hd.2.1⟩, fun sig h => ?_, ok _ (by simp [va_wsS]), ok _ (by simp [va_wsS])⟩
  have h2 := hd.2.2
  rw [h] at h2
  exact (Option.some.inj h2).symm
theorem vx_callSW (X : Stand p l e R s m args below meth c T locs cells slots) (hexec : p.tables.exec = Jvm.exec) {own : String} {index : Nat} {y : MethodName} {bytes : ByteArray} {maxL : Nat} {ret : Option FieldType} {hh : List (Nat × Nat × Nat × Nat)}
    (hown : s.vm.findClass own = some m.cls) (hlink : (Cond.methodLink own index y).before args s = true) (hstat : (Cond.static y).before args s = true) (hinit : (Cond.initialized y.cls).before args s = true)
    (hcode : (Cond.codeWith y bytes maxL ret hh).before args s = true) (hy : y.cls ≠ "java/lang/invoke/MethodHandle" ∧ y.cls ≠ "java/lang/invoke/VarHandle")
    {W9 : Nat} {Pre : Pt → Array Value → Prop} {Post : Pt → Array Value → Option Value → Pt → Prop} (hK : Back l R p e below s args y 3 W9 Pre Post)
    {g : JFrame} (hg : g.method = m) (hsize : g.locals.size = c.maxLocals) {argsL rest : List Value} (hlen : ∀ sig, parseMethodDescriptor y.desc = some sig → argsL.length = sig.parameters.length)
    (hstack : g.stack = argsL.reverse ++ rest) (hW : 2 * g.monitorRoom + (rest.map fun v => v.category).sum ≤ W9) (hdg : decode c.code g.pc = .ok (.invokestatic index, 3))
    (hpre : ∀ vm₁, s.WarmedH vm₁ → Pre ⟨T.setVm vm₁, locs, cells, slots⟩ argsL.toArray) :
    ∃ (v : Option Value) (vm₁ : Vm) (B : Pt), s.WarmedH vm₁ ∧ Stand p l e R s m args below meth c B.U B.locs B.cells B.slots ∧ Post ⟨T.setVm vm₁, locs, cells, slots⟩ argsL.toArray v B ∧
      ∀ target, Steps p.tables e below (B.U.setTop { g with pc := g.pc + 3, stack := v.toList ++ rest }) target → Steps p.tables e below (T.setTop g) target := by
  obtain ⟨mk, methM, cM, hnamed, hmethM, -, -, -, -, -, -, hsigM⟩ := Cond.codeWith_spec hcode
  have hstatic : methM.isStatic = true := Cond.static_spec hnamed hmethM hstat
  obtain ⟨kP, hkP, -⟩ := className_of_methodNamed hnamed
  have hinitP : kP.init = .initialized := Cond.initialized_spec (findClass_of_methodNamed hnamed) hkP hinit
  obtain ⟨vm₁, X₁, hstep₁⟩ := X.invokestatic hexec hown hlink hnamed hmethM hstatic hkP hinitP hy (g := g) hg (argsL := argsL) (rest := rest) (hlen _ hsigM) hstack hdg
  obtain ⟨v, B, X', hpost, hsteps⟩ := hK m meth c ⟨T.setVm vm₁, locs, cells, slots⟩ { g with stack := rest } (.invokestatic index) mk argsL.toArray X₁ hg hsize hdg hW (X₁.named hnamed) (hpre vm₁ X₁.warmed)
  exact ⟨v, vm₁, B, X₁.warmed, X', hpost, fun target h => hstep₁ _ fun acts => by rw [doInvoke_state]; exact hsteps.trans h⟩
theorem vx_runSW {y : MethodName} {bytes cc : ByteArray} {maxL nL mc ms n index : Nat} {ret : Option FieldType} {hh : List (Nat × Nat × Nat × Nat)} {ws : List Cond} {rm : Room} {Pc : Array Value → State → Prop} {Qc : Array Value → State → Outcome → State → Prop} {free : Addr → Prop} {Ts : List Cond} {own : String} {As rest : List Value} {g : JFrame}
    (S : CallFix p m c cc nL s args Ts own) (hM : Met l y ws rm Pc Qc mc ms free) (cw : vx_CSW R s args own index y bytes maxL ret hh ws rm mc ms n) (hp : PreS s H Pc As)
    (hg : g.method = m) (hn : As.length = n) (hsize : g.locals.size = nL) (hstack : g.stack = As.reverse ++ rest) (hW : 2 * g.monitorRoom + (rest.map fun v => v.category).sum ≤ 8) (hdg : decode cc g.pc = .ok (.invokestatic index, 3)) (hf : cells + mc ≤ R.cells ∧ slots + ms ≤ R.slots) :
    va_Run p l e R s m args below meth c H locs cells slots mc ms g rest (Qc As.toArray) (free) := by
  obtain ⟨⟨hrc, hrs, hfr, hlo, hws, hcw⟩, hcode, hini, hy, hlen, hl, hstt⟩ := cw
  have hK : Back l R p e below s args y 3 8 (PreOf R mc ms Pc) (PostOf Qc mc ms free) := va_backW (hh := hh) (bytes := bytes) (maxL := maxL) (ret := ret) hM hp.1 hrc hrs hfr hlo hws hcw (fun a' U hW => word_at hW (Or.inl (by first | rfl | simp [Cond.onTables, Cond.keeps, Cond.steady])) hini)
  obtain ⟨hx, hb, hml, ho, -⟩ := S
  intro T hT X
  obtain ⟨v, vm₁, ⟨U', l2, c2, s2⟩, hW₁, X', ⟨g', mk, t, L, e1, e2, hq, h1, hL, h2, h3⟩, st⟩ := vx_callSW X hx (hh := hh) (bytes := bytes) (maxL := maxL) (ret := ret) ho hl hstt hini hcode hy hK hg (hsize.trans hml.symm) (argsL := As) (rest := rest) (fun sig h => hn.trans (hlen sig h)) hstack hW (by rw [hb]; exact hdg)
    (fun vm₁ hW₁ => ⟨hf.1, hf.2, hp.2 (T.setVm vm₁) hT hW₁⟩)
  dsimp only [Pt.U, Pt.locs, Pt.cells, Pt.slots] at X' e1 e2 h1 h2 h3 st
  subst h1; subst h2; subst h3
  exact ⟨v, (T.setVm vm₁).calling g' mk As.toArray, t, U', L, hT, X', hL, e1, e2, hq, st⟩
end VXS
/-! ===== END ===== -/
/-! ===== BEGIN methods with a table of their own: called by a name, returning or throwing ===== -/
section VXH
/-! vx_backW, vx_callVX, vx_callSX, vx_callVW, vx_runVW, vx_runVX, vx_runSX, vx_ofWH follow the same proofs as their sisters above (Free/Laws.lean, Shelf42/LK1.lean); vx_outP calls Shelf42/NT130.lean (outThrough). -/
variable {p : Program} {l : Launch} {e : Env} {R : Room} {s : State} {m : MethodId} {args : Array Value} {below : List Frame} {meth : Method} {c : Code} {T : State} {H : Heap} {locs : List Loc} {cells slots : Nat}
end VXH
/-! ===== END ===== -/
end
section
/-! A handler whose catch type may not be resolved yet: the search resolves it on its way. -/
section XCA
/-- a handler row that covers the pc and names a class: the tables note the class; then it takes the object, or the search goes on -/
theorem xg_row {Q : Handler → Pre} {E : CtlPost} {e : Env} {d : Bool} {acts : List Action} {s : State} {f : JFrame} {a : Addr} {x : ExceptionTableEntry} {t : List ExceptionTableEntry} {c : ClassId} {cell : Cell} (hx : covers x f.pc = true) (h0 : x.catchType ≠ 0)
    (hl : s.vm.ClassLinks e.platform f.method.cls x.catchType c) (hcell : s.heap[a]? = some cell) (hobj : ∀ k, cell.vm ≠ .statics k) (hk : ∃ k, s.vm.classes[cell.cls]? = some k) (hc : ∃ k, s.vm.classes[c]? = some k) :
    wp (findHandler.go f a (x :: t)) Q E e d acts s ↔ (if s.vm.assignable cell.cls c = true then Q (.found x.handlerPc) d acts (s.setVm (s.vm.noted f.method.cls x.catchType (.cls c))) else wp (findHandler.go f a t) Q E e d acts (s.setVm (s.vm.noted f.method.cls x.catchType (.cls c)))) := by
  simp only [covers] at hx
  obtain ⟨r1, r2⟩ := (resolveClass_links e.toSetting hl).op (op := VmOp.resolveClass f.method.cls x.catchType) rfl
  have al : s.vm.Alike (s.vm.noted f.method.cls x.catchType (.cls c)) := (Vm.Alike.refl s.vm).noted _ _ _
  obtain ⟨k1, hk1⟩ := hk
  obtain ⟨k2, hk2⟩ := hc
  obtain ⟨j1, hj1, -⟩ := al.2.2 _ _ hk1
  obtain ⟨j2, hj2, -⟩ := al.2.2 _ _ hk2
  cases hf : s.vm.assignable cell.cls c with
  | true =>
    have hf2 : (s.vm.noted f.method.cls x.catchType (.cls c)).assignable cell.cls c = true := by rw [al.assignable]; exact hf
    simp [findHandler.go, hx, h0, r1, r2, hcell, hobj, hj1, hj2, hf2, VmOp.dirties, VmOp.acts]
  | false =>
    have hf2 : (s.vm.noted f.method.cls x.catchType (.cls c)).assignable cell.cls c = false := by rw [al.assignable]; exact hf
    simp [findHandler.go, hx, h0, r1, r2, hcell, hobj, hj1, hj2, hf2, VmOp.dirties, VmOp.acts]
/-- the search down a table, as far as the row x that takes the object -/
theorem xg_find {e : Env} {s0 : State} {f : JFrame} {a : Addr} {cell : Cell} (hobj : ∀ k, cell.vm ≠ .statics k) (hk0 : ∃ k, s0.vm.classes[cell.cls]? = some k) (x : ExceptionTableEntry) (suf : List ExceptionTableEntry) (hx : covers x f.pc = true) (h0 : x.catchType ≠ 0)
    {c : ClassId} (hl : s0.vm.ClassLinks e.platform f.method.cls x.catchType c) (hfit : s0.vm.assignable cell.cls c = true) :
    ∀ (pre : List ExceptionTableEntry) (S : State), s0.WarmedH S.vm → S.heap[a]? = some cell → (∀ z ∈ pre, covers z f.pc = false ∨ (z.catchType ≠ 0 ∧ ∃ b, s0.vm.ClassLinks e.platform f.method.cls z.catchType b ∧ s0.vm.assignable cell.cls b = false)) →
      ∃ vm', s0.WarmedH vm' ∧ ∀ (Q : Handler → Pre) (E : CtlPost) (d : Bool) (acts : List Action), wp (findHandler.go f a (pre ++ x :: suf)) Q E e d acts S ↔ Q (.found x.handlerPc) d acts (S.setVm vm') := by
  obtain ⟨k0, hk0⟩ := hk0
  have note : ∀ {S : State} {z : ExceptionTableEntry} {b : ClassId}, s0.WarmedH S.vm → s0.vm.ClassLinks e.platform f.method.cls z.catchType b → s0.WarmedH (S.vm.noted f.method.cls z.catchType (.cls b)) ∧ ∃ k, S.vm.classes[b]? = some k := by
    intro S z b hW hz
    obtain ⟨dk, _, _, kt, hd, _, _, _, _, hkt, _, hopen⟩ := hz.here
    obtain ⟨kt', hkt', -⟩ := hW.alike.2.2 _ _ hkt
    exact ⟨hW.noted hd hopen (State.rightAt_cls hz), kt', hkt'⟩
  intro pre
  induction pre with
  | nil =>
    intro S hW hcell _
    obtain ⟨k1, hk1, -⟩ := hW.alike.2.2 _ _ hk0
    obtain ⟨n1, n2⟩ := note hW hl
    refine ⟨_, n1, fun Q E d acts => ?_⟩
    rw [List.nil_append, xg_row hx h0 (hW.classLinks hl) hcell hobj ⟨k1, hk1⟩ n2, if_pos (by rw [hW.alike.assignable]; exact hfit)]
  | cons z zs ih =>
    intro S hW hcell hpre
    obtain ⟨k1, hk1, -⟩ := hW.alike.2.2 _ _ hk0
    have hzs := fun y hy => hpre y (List.mem_cons_of_mem _ hy)
    cases hz : covers z f.pc with
    | false =>
      obtain ⟨vm', w1, w2⟩ := ih S hW hcell hzs
      exact ⟨vm', w1, fun Q E d acts => by rw [List.cons_append, W.findHandler_go_skip hz]; exact w2 Q E d acts⟩
    | true =>
      rcases hpre z List.mem_cons_self with h | ⟨z0, b, hb, hno⟩
      · rw [hz] at h; cases h
      · obtain ⟨n1, n2⟩ := note hW hb
        obtain ⟨vm', w1, w2⟩ := ih (S.setVm (S.vm.noted f.method.cls z.catchType (.cls b))) n1 hcell hzs
        refine ⟨vm', w1, fun Q E d acts => ?_⟩
        rw [List.cons_append, xg_row hz z0 (hW.classLinks hb) hcell hobj ⟨k1, hk1⟩ n2, if_neg (by rw [hW.alike.assignable, hno]; decide)]
        exact w2 Q E d acts
variable {p : Program} {l : Launch} {e : Env} {R : Room} {s : State} {m : MethodId} {args : Array Value} {below : List Frame} {meth : Method} {c : Code} {H : Heap} {locs : List Loc} {cells slots : Nat} {Q : State → Prop} {pc : Nat} {ls : Array Slot} {rest : List Value}
/-- caught by the row x of the method's own table -/
theorem xg_catch {own name : String} {E : String} {ce : Cell} {q : Addr} (hown : s.vm.findClass own = some m.cls) (pre : List ExceptionTableEntry) (x : ExceptionTableEntry) (suf : List ExceptionTableEntry) (hsplit : c.exceptionTable.toList = pre ++ x :: suf)
    (hpass : ∀ z ∈ pre, covers z pc = false ∨ (z.catchType ≠ 0 ∧ ∃ nm : String, (Cond.classLink own z.catchType nm).before args s = true ∧ va_Nc E nm s)) (hx : covers x pc = true) (h0 : x.catchType ≠ 0)
    (hlink : (Cond.classLink own x.catchType name).before args s = true) (hcast : (Cond.castable E name).before args s = true) (hcell : H[q]? = some ce) (hv : ce.vm = .none) (hcl : s.vm.findClass E = some ce.cls)
    (kk : W p l e R s m args below meth c H locs cells slots Q (F0 m x.handlerPc ls [.ref q])) : vx_W p l e R s m args below meth c H locs cells slots Q (F0 m pc ls rest) q := by
  intro T hT X
  have hpl : e.platform.magicAccessors = ({} : Platform).magicAccessors := by rw [X.admits.platform]
  obtain ⟨c3, c4, hc3, hc4, hasg⟩ := Cond.castable_spec hcast
  cases Option.some.inj (hc3.symm.trans hcl)
  obtain ⟨c5, hc5, hcl5⟩ := Cond.classLink_spec hown hlink e.platform hpl
  cases Option.some.inj (hc4.symm.trans hc5)
  obtain ⟨k9, h9, -⟩ := Vm.findClass_spec hcl
  have hobj : ∀ k, ce.vm ≠ .statics k := fun k h => by rw [hv] at h; cases h
  obtain ⟨vm', w1, w2⟩ := xg_find (e := e) (f := F0 m pc ls rest) (a := q) hobj ⟨k9, h9⟩ x suf hx h0 hcl5 hasg pre ((T.setTop (F0 m pc ls rest)).pushFrame (.throwing q)) X.warmed (by rw [throwing_heap, hT]; exact hcell) (fun z hz => by
    rcases hpass z hz with h | ⟨hz0, nm, hl1, hn1⟩
    · exact Or.inl h
    · obtain ⟨c6, hc6, hcl6⟩ := Cond.classLink_spec hown hl1 e.platform hpl
      obtain ⟨a8, b8, h1, h2, h3⟩ := hn1
      cases Option.some.inj (h1.symm.trans hcl)
      cases Option.some.inj (h2.symm.trans hc6)
      exact Or.inr ⟨hz0, _, hcl6, h3⟩)
  have X' := X.noted w1
  obtain ⟨t, a1, b1⟩ := kk (T.setVm vm') hT X'
  refine ⟨t, ?_, b1⟩
  have h : At T (F0 m pc ls rest).method c below := X.here
  obtain ⟨hgo, hw⟩ := h.throwing q
  refine Steps.head hgo hw ?_
  have st : (stepThrowing e ((T.setTop (F0 m pc ls rest)).pushFrame (.throwing q)) q (.java (F0 m pc ls rest) :: (T.frames.tail))).Is ((((T.setTop (F0 m pc ls rest)).pushFrame (.throwing q)).setVm vm').setFrames (.java { (F0 m pc ls rest) with pc := x.handlerPc, stack := [.ref q] } :: T.frames.tail)) [] := by
    simp only [stepThrowing, searchFrame, vmDo]
    generalize hr : Sem.go _ e false [] ((T.setTop (F0 m pc ls rest)).pushFrame (.throwing q)) = res
    obtain ⟨as, rfl, ha⟩ := Sem.eq_ok_of hr (a := Handler.found x.handlerPc) (s' := ((T.setTop (F0 m pc ls rest)).pushFrame (.throwing q)).setVm vm') (acts' := []) (by
      have key : wp (findHandler (F0 m pc ls rest) q) (fun a' _ acts'' s'' => a' = Handler.found x.handlerPc ∧ s'' = ((T.setTop (F0 m pc ls rest)).pushFrame (.throwing q)).setVm vm') (fun _ _ _ => False) e false [] ((T.setTop (F0 m pc ls rest)).pushFrame (.throwing q)) := by
        rw [W.findHandler_eq (meth := meth) (code := c) X.method' X.code, hsplit, w2]
        exact ⟨rfl, rfl⟩
      simp [W.findHandler_eq (meth := meth) (code := c) (f := F0 m pc ls rest) (s := (T.setTop (F0 m pc ls rest)).pushFrame (.throwing q)) X.method' X.code, hsplit, w2])
    exact ⟨rfl, ha⟩
  rw [stepThread_throwing (frames_entered h.top _)]
  obtain ⟨g₀, hg⟩ := Option.isSome_iff_exists.mp h.top
  obtain ⟨r, hr⟩ := State.topJava?_eq_some.mp hg
  have hr' : (T.setVm vm').frames = .java g₀ :: r := hr
  rw [State.setTop_of_frames _ hr'] at a1
  rw [st.1]
  have e9 : ∀ (u : State) (F G : List Frame), ((u.setFrames F).setVm vm').setFrames G = (u.setVm vm').setFrames G := fun u F G => by
    rw [show (u.setFrames F).setVm vm' = (u.setVm vm').setFrames F from rfl, State.setFrames_setFrames]
  rw [hr, List.tail_cons, State.pushFrame, State.setTop_of_frames _ hr, State.setFrames_setFrames, e9]
  exact a1
end XCA
end
section
/-! A small machine of its own: one heap of numbered cells, frames as lists; no tables, no states. A run of it is a function that can be computed. -/
abbrev xL : Type := List (Nat × Value)
/-- a cell: an array (element type, length and contents), an object (class number, fields), or something of which nothing is said -/
abbrev xC : Type := (FieldType × vp_A) ⊕ Option (Nat × List Value)
/-- cells made, slots made, the cells -/
abbrev xS : Type := Nat × Nat × List (List xC)
/-- an outcome: an answer, or the kind of what was thrown -/
abbrev xO : Type := Option Value ⊕ Nat
/-- two numbers, a constant, the place of its first word -/
abbrev xP : Type := Nat × Nat × Int × Nat
/-- an instruction, its length, what its pool entry is -/
abbrev xI : Type := Instr × Nat × xP
/-- pc, locals, stack, heap -/
abbrev xF : Type := Nat × xL × List Value × xS
/-- a script: one more than its length (0: there is none), its ints; its reference is told as .retAddr 0 -/
abbrev xSc : Type := Nat × (Nat → Int32)
def xget (h : List (List xC)) (k : Nat) : Option xC := (h.getD (k / 48) [])[k % 48]?
def xset (h : List (List xC)) (k : Nat) (c : xC) : List (List xC) := h.set (k / 48) ((h.getD (k / 48) []).set (k % 48) c)
theorem xget_set_self {h : List (List xC)} {k : Nat} {c0 c : xC} (hk : xget h k = some c0) : xget (xset h k c) k = some c := by
  unfold xget at hk
  unfold xget xset
  have hl : k / 48 < h.length := by
    rcases Nat.lt_or_ge (k / 48) h.length with q | q
    · exact q
    · rw [List.getD_eq_getElem?_getD, List.getElem?_eq_none q] at hk
      simp at hk
  rw [List.getD_eq_getElem?_getD (l := h.set _ _), List.getElem?_set_self hl, Option.getD_some]
  exact List.getElem?_set_self (List.getElem?_eq_some_iff.mp hk).1
theorem xget_set_ne {h : List (List xC)} {k j : Nat} {c : xC} (hj : j ≠ k) : xget (xset h k c) j = xget h j := by
  unfold xget xset
  by_cases hq : j / 48 = k / 48
  · have hr : k % 48 ≠ j % 48 := by omega
    rw [hq]
    rcases Nat.lt_or_ge (k / 48) h.length with q | q
    · rw [List.getD_eq_getElem?_getD (l := h.set _ _), List.getElem?_set_self q, Option.getD_some, List.getElem?_set_ne hr]
    · rw [List.set_eq_of_length_le q]
  · simp only [List.getD_eq_getElem?_getD]
    rw [List.getElem?_set_ne (fun q => hq q.symm)]
/-- one more cell of w slots -/
def xnew (S : xS) (c : xC) (w : Nat) : Option xS := match xget S.2.2 S.1 with
  | some _ => some (S.1 + 1, S.2.1 + w, xset S.2.2 S.1 c)
  | none => none
def xput (S : xS) (k : Nat) (c : xC) : xS := (S.1, S.2.1, xset S.2.2 k c)
def xat (S : xS) (k : Nat) : Option xC := if k < S.1 then xget S.2.2 k else none
def xfind : xL → Nat → Option Value
  | [], _ => none
  | (j, v) :: l, i => if j = i then some v else xfind l i
def xsto1 (l : xL) (i : Nat) (v : Value) : xL := (i, v) :: l.filter (fun q => !(q.1 == i) && !(q.1 + 1 == i && q.2.category == 2))
def xsto2 (l : xL) (i : Nat) (v : Value) : xL := (i, v) :: l.filter (fun q => !(q.1 == i) && (!(q.1 == i + 1) && !(q.1 + 1 == i && q.2.category == 2)))
def xtg (pc : Nat) (off : Int) : Option Nat := if 0 ≤ (pc : Int) + off then some ((pc : Int) + off).toNat else none
def xin (i : Int32) (n : Nat) : Bool := !(decide (i < 0)) && decide (i.toNatClampNeg < n)
def xcmp : ClassFile.Cond → Int32 → Int32 → Bool
  | .eq, x, y => decide (x = y)
  | .ne, x, y => !decide (x = y)
  | .lt, x, y => decide (x < y)
  | .ge, x, y => decide (y ≤ x)
  | .gt, x, y => decide (y < x)
  | .le, x, y => decide (x ≤ y)
def xii (st : List Value) (f : Int32 → Int32 → Option Int32) : Option (List Value) := match st with
  | .int y :: .int x :: r => (f x y).map fun z => .int z :: r
  | _ => none
def xll (st : List Value) (f : Int64 → Int64 → Value) : Option (List Value) := match st with
  | .long y :: .long x :: r => some (f x y :: r)
  | _ => none
def xli (st : List Value) (f : Int64 → Int32 → Value) : Option (List Value) := match st with
  | .int y :: .long x :: r => some (f x y :: r)
  | _ => none
def xi1 (st : List Value) (f : Int32 → Value) : Option (List Value) := match st with
  | .int x :: r => some (f x :: r)
  | _ => none
def xl1 (st : List Value) (f : Int64 → Value) : Option (List Value) := match st with
  | .long x :: r => some (f x :: r)
  | _ => none
def xldI (l : xL) (i : Nat) : Option Value := match xfind l i with
  | some (.int x) => some (.int x)
  | _ => none
def xldL (l : xL) (i : Nat) : Option Value := match xfind l i with
  | some (.long x) => some (.long x)
  | _ => none
def xldA (l : xL) (i : Nat) : Option Value := match xfind l i with
  | some (.ref x) => some (.ref x)
  | some .null => some .null
  | some (.retAddr x) => some (.retAddr x)
  | _ => none
def xstI (l : xL) (nL i : Nat) (st : List Value) : Option (xL × List Value) := match st with
  | .int x :: r => if i < nL then some (xsto1 l i (.int x), r) else none
  | _ => none
def xstL (l : xL) (nL i : Nat) (st : List Value) : Option (xL × List Value) := match st with
  | .long x :: r => if i + 1 < nL then some (xsto2 l i (.long x), r) else none
  | _ => none
def xstA (l : xL) (nL i : Nat) (st : List Value) : Option (xL × List Value) := match st with
  | .ref x :: r => if i < nL then some (xsto1 l i (.ref x), r) else none
  | .null :: r => if i < nL then some (xsto1 l i .null, r) else none
  | _ => none
def xif (c : ClassFile.Cond) (pc : Nat) (off : Int) (st : List Value) : Option (Nat × List Value) := match st with
  | .int x :: r => (xtg pc off).map fun t => (bif xcmp c x 0 then t else pc + 3, r)
  | _ => none
def xicmp (c : ClassFile.Cond) (pc : Nat) (off : Int) (st : List Value) : Option (Nat × List Value) := match st with
  | .int y :: .int x :: r => (xtg pc off).map fun t => (bif xcmp c x y then t else pc + 3, r)
  | _ => none
def xnul (onNull : Bool) (pc : Nat) (off : Int) (st : List Value) : Option (Nat × List Value) := match st with
  | .null :: r => (xtg pc off).map fun t => (bif onNull then t else pc + 3, r)
  | .ref _ :: r => (xtg pc off).map fun t => (bif onNull then pc + 3 else t, r)
  | _ => none
def xtab (d lo hi : Int) (offs : Array Int) (pc : Nat) (st : List Value) : Option (Nat × List Value) := match st with
  | .int x :: r => if x.toInt < lo ∨ hi < x.toInt then (xtg pc d).map fun t => (t, r) else
    match offs[(x.toInt - lo).toNat]? with
    | some off => (xtg pc off).map fun t => (t, r)
    | none => none
  | _ => none
def xlook (d : Int) (ps : Array (Int × Int)) (pc : Nat) (st : List Value) : Option (Nat × List Value) := match st with
  | .int x :: r => if (ps.toList.zip (ps.toList.drop 1)).all (fun (a, next) => a.1 < next.1) = true then (xtg pc (Op.lookupswitch.offset ps.toList d x.toInt)).map fun t => (t, r) else none
  | _ => none
/-- reads of arrays -/
def xiald (sc : xSc) (S : xS) (st : List Value) : Option (List Value) := match st with
  | .int i :: .retAddr _ :: r => if xin i (sc.1 - 1) then some (.int (sc.2 i.toNatClampNeg) :: r) else none
  | .int i :: .ref a :: r => match xat S a with
    | some (.inl (.int, n, .inl f)) => if xin i n then some (.int (f i.toNatClampNeg) :: r) else none
    | _ => none
  | _ => none
def xzald (S : xS) (st : List Value) : Option (List Value) := match st with
  | .int i :: .ref a :: r => match xat S a with
    | some (.inl (.boolean, n, .inl f)) => if xin i n then some (.int (f i.toNatClampNeg) :: r) else none
    | _ => none
  | _ => none
def xlald (S : xS) (st : List Value) : Option (List Value) := match st with
  | .int i :: .ref a :: r => match xat S a with
    | some (.inl (.long, n, .inr (.inl f))) => if xin i n then some (.long (f i.toNatClampNeg) :: r) else none
    | _ => none
  | _ => none
def xaald (S : xS) (st : List Value) : Option (List Value) := match st with
  | .int i :: .ref a :: r => match xat S a with
    | some (.inl (.object _, n, .inr (.inr (.inr (.inr f))))) => if xin i n then some (va_rf (f i.toNatClampNeg) :: r) else none
    | _ => none
  | _ => none
def xlen (sc : xSc) (S : xS) (st : List Value) : Option (List Value) := match st with
  | .retAddr _ :: r => if sc.1 = 0 then none else some (.int (Int32.ofNat (sc.1 - 1)) :: r)
  | .ref a :: r => match xat S a with
    | some (.inl (_, x)) => some (.int (Int32.ofNat x.1) :: r)
    | _ => none
  | _ => none
/-- writes of arrays -/
def xiast (S : xS) (st : List Value) : Option (List Value × xS) := match st with
  | .int x :: .int i :: .ref a :: r => match xat S a with
    | some (.inl (.int, n, .inl f)) => if xin i n then some (r, xput S a (.inl (.int, n, .inl (upd f i.toNatClampNeg x)))) else none
    | _ => none
  | _ => none
def xzast (S : xS) (st : List Value) : Option (List Value × xS) := match st with
  | .int x :: .int i :: .ref a :: r => match xat S a with
    | some (.inl (.boolean, n, .inl f)) => if xin i n then some (r, xput S a (.inl (.boolean, n, .inl (upd f i.toNatClampNeg (vp_nar .boolean x))))) else none
    | _ => none
  | _ => none
def xlast (S : xS) (st : List Value) : Option (List Value × xS) := match st with
  | .long x :: .int i :: .ref a :: r => match xat S a with
    | some (.inl (.long, n, .inr (.inl f))) => if xin i n then some (r, xput S a (.inl (.long, n, .inr (.inl (vp_updL f i.toNatClampNeg x))))) else none
    | _ => none
  | _ => none
def xaast (cl : List vw_C) (S : xS) (st : List Value) : Option (List Value × xS) := match st with
  | .ref v :: .int i :: .ref a :: r => match xat S a, xat S v with
    | some (.inl (.object C, n, .inr (.inr (.inr (.inr f))))), some (.inr (some (ci, _))) =>
      if xin i n && decide ((cl[ci]?).map (fun q => q.1) = some C) then some (r, xput S a (.inl (.object C, n, .inr (.inr (.inr (.inr (va_up f i.toNatClampNeg (some v)))))))) else none
    | _, _ => none
  | _ => none
/-- a value may lie in a field of a type, and be an answer of it -/
def xfit (ty : FieldType) (v : Value) : Bool := match ty with
  | .int => (match v with
    | .int _ => true
    | _ => false)
  | .long => (match v with
    | .long _ => true
    | _ => false)
  | .boolean => (match v with
    | .int x => decide (x = 0) || decide (x = 1)
    | _ => false)
  | .object _ => (match v with
    | .ref _ => true
    | .null => true
    | _ => false)
  | .array _ => (match v with
    | .ref _ => true
    | .null => true
    | _ => false)
  | _ => false
theorem xfit_ok {ty : FieldType} {v : Value} (h : xfit ty v = true) : narrow ty v = v ∧ fits ty v = true := by
  unfold xfit at h
  split at h
  · split at h
    · exact ⟨rfl, rfl⟩
    · cases h
  · split at h
    · exact ⟨rfl, rfl⟩
    · cases h
  · split at h
    · rename_i x
      simp only [Bool.or_eq_true, decide_eq_true_eq] at h
      rcases h with rfl | rfl
      · exact ⟨by decide +kernel, by decide +kernel⟩
      · exact ⟨by decide +kernel, by decide +kernel⟩
    · cases h
  · split at h
    · exact ⟨rfl, rfl⟩
    · exact ⟨rfl, rfl⟩
    · cases h
  · split at h
    · exact ⟨rfl, rfl⟩
    · exact ⟨rfl, rfl⟩
    · cases h
  · cases h
/-- fields -/
def xgetf (S : xS) (ci k : Nat) (st : List Value) : Option (List Value) := match st with
  | .ref a :: r => match xat S a with
    | some (.inr (some (cj, fs))) => if cj = ci then (fs[k]?).map fun v => v :: r else none
    | _ => none
  | _ => none
def xputf (S : xS) (ci k : Nat) (ty : FieldType) (st : List Value) : Option (List Value × xS) := match st with
  | v :: .ref a :: r => match xat S a with
    | some (.inr (some (cj, fs))) => if cj = ci ∧ k < fs.length ∧ xfit ty v = true then some (r, xput S a (.inr (some (ci, fs.set k v)))) else none
    | _ => none
  | _ => none
/-- makings -/
def xnewa (S : xS) (at0 : ArrayType) (st : List Value) : Option (List Value × xS) := match st with
  | .int n :: r => if n < 0 ∨ 65536 < n.toNatClampNeg then none else
    match at0 with
    | .int => (xnew S (.inl (.int, n.toNatClampNeg, .inl fun _ => 0)) n.toNatClampNeg).map fun S' => (.ref S.1 :: r, S')
    | .boolean => (xnew S (.inl (.boolean, n.toNatClampNeg, .inl fun _ => 0)) n.toNatClampNeg).map fun S' => (.ref S.1 :: r, S')
    | .long => (xnew S (.inl (.long, n.toNatClampNeg, .inr (.inl fun _ => 0))) n.toNatClampNeg).map fun S' => (.ref S.1 :: r, S')
    | _ => none
  | _ => none
def xnewq (S : xS) (C : String) (st : List Value) : Option (List Value × xS) := match st with
  | .int n :: r => if n < 0 ∨ 65536 < n.toNatClampNeg then none else (xnew S (.inl (.object C, n.toNatClampNeg, .inr (.inr (.inr (.inr fun _ => none))))) n.toNatClampNeg).map fun S' => (.ref S.1 :: r, S')
  | _ => none
def xcpy (S : xS) (st : List Value) : Option (List Value × xS) := match st with
  | .int n :: .int dp :: .ref a :: .int sp :: .ref a0 :: r => match xat S a0, xat S a with
    | some (.inl (.int, n0, .inl f)), some (.inl (.int, n1, .inl g)) =>
      if sp < 0 ∨ dp < 0 ∨ n < 0 then none else
      if sp.toNatClampNeg + n.toNatClampNeg ≤ n0 ∧ dp.toNatClampNeg + n.toNatClampNeg ≤ n1 then some (r, xput S a (.inl (.int, n1, .inl (va_cpy f g sp.toNatClampNeg dp.toNatClampNeg n.toNatClampNeg)))) else none
    | _, _ => none
  | _ => none
def xlenOf (i : Instr) (len : Nat) : Nat := match i with
  | .tableswitch _ _ _ _ => len
  | .lookupswitch _ _ => len
  | .aload _ => 2
  | .iload _ => 2
  | .lload _ => 2
  | .astore _ => 2
  | .istore _ => 2
  | .lstore _ => 2
  | .bipush _ => 2
  | .ldc _ => 2
  | .newarray _ => 2
  | .iinc _ _ => 3
  | .sipush _ => 3
  | .ldc_w _ => 3
  | .ldc2_w _ => 3
  | .goto _ => 3
  | .if_icmp _ _ => 3
  | .ifCond _ _ => 3
  | .ifnull _ => 3
  | .ifnonnull _ => 3
  | .getfield _ => 3
  | .putfield _ => 3
  | .new _ => 3
  | .anewarray _ => 3
  | .invokestatic _ => 3
  | .invokevirtual _ => 3
  | .invokespecial _ => 3
  | _ => 1
/-- the numbers of the methods that are no code of ours -/
abbrev xObj : Nat := 1000
abbrev xMax : Nat := 1001
abbrev xMin : Nat := 1002
abbrev xCopy : Nat := 1003
def xw (st : List Value) : Nat := (st.map fun v => v.category).sum
def xsp (k : Nat) (st : List Value) (S : xS) : Option (List Value × xS) :=
  if 16 < xw st then none
  else if k = xObj then (match st with
    | .ref _ :: r => some (r, S)
    | _ => none)
  else if k = xMax then (xii st fun x y => some (if x < y then y else x)).map fun t => (t, S)
  else if k = xMin then (xii st fun x y => some (if y < x then y else x)).map fun t => (t, S)
  else if k = xCopy then xcpy S st
  else none
/-- one step of an instruction that calls no method of ours and doesn't end -/
def xst (sc : xSc) (cl : List vw_C) (fty : Nat → Nat → FieldType) (fdef : Nat → List Value) (nL : Nat) (xi : xI) (pc : Nat) (ls : xL) (st : List Value) (S : xS) : Option xF := match xi.1 with
  | .aconst_null => some (pc + 1, ls, .null :: st, S)
  | .aload i => (xldA ls i).map fun v => (pc + 2, ls, v :: st, S)
  | .aload_n i => (xldA ls i.val).map fun v => (pc + 1, ls, v :: st, S)
  | .iload i => (xldI ls i).map fun v => (pc + 2, ls, v :: st, S)
  | .iload_n i => (xldI ls i.val).map fun v => (pc + 1, ls, v :: st, S)
  | .lload i => (xldL ls i).map fun v => (pc + 2, ls, v :: st, S)
  | .lload_n i => (xldL ls i.val).map fun v => (pc + 1, ls, v :: st, S)
  | .astore i => (xstA ls nL i st).map fun q => (pc + 2, q.1, q.2, S)
  | .astore_n i => (xstA ls nL i.val st).map fun q => (pc + 1, q.1, q.2, S)
  | .istore i => (xstI ls nL i st).map fun q => (pc + 2, q.1, q.2, S)
  | .istore_n i => (xstI ls nL i.val st).map fun q => (pc + 1, q.1, q.2, S)
  | .lstore i => (xstL ls nL i st).map fun q => (pc + 2, q.1, q.2, S)
  | .lstore_n i => (xstL ls nL i.val st).map fun q => (pc + 1, q.1, q.2, S)
  | .iinc i n => (match xfind ls i with
    | some (.int x) => if i < nL then some (pc + 3, xsto1 ls i (.int (x + Int32.ofInt n)), st, S) else none
    | _ => none)
  | .iconst n => some (pc + 1, ls, .int (Int32.ofInt n) :: st, S)
  | .bipush n => some (pc + 2, ls, .int (Int8.ofInt n).toInt32 :: st, S)
  | .sipush n => some (pc + 3, ls, .int (Int16.ofInt n).toInt32 :: st, S)
  | .lconst n => some (pc + 1, ls, .long (Int64.ofNat n.val) :: st, S)
  | .ldc _ => some (pc + 2, ls, .int (Int32.ofInt xi.2.2.2.2.1) :: st, S)
  | .ldc_w _ => some (pc + 3, ls, .int (Int32.ofInt xi.2.2.2.2.1) :: st, S)
  | .ldc2_w _ => some (pc + 3, ls, .long (Int64.ofInt xi.2.2.2.2.1) :: st, S)
  | .iadd => (xii st fun x y => some (x + y)).map fun t => (pc + 1, ls, t, S)
  | .isub => (xii st fun x y => some (x - y)).map fun t => (pc + 1, ls, t, S)
  | .imul => (xii st fun x y => some (x * y)).map fun t => (pc + 1, ls, t, S)
  | .iand => (xii st fun x y => some (x &&& y)).map fun t => (pc + 1, ls, t, S)
  | .ior => (xii st fun x y => some (x ||| y)).map fun t => (pc + 1, ls, t, S)
  | .ixor => (xii st fun x y => some (x ^^^ y)).map fun t => (pc + 1, ls, t, S)
  | .ishl => (xii st fun x y => some (x <<< (y &&& 31))).map fun t => (pc + 1, ls, t, S)
  | .ishr => (xii st fun x y => some (x >>> (y &&& 31))).map fun t => (pc + 1, ls, t, S)
  | .iushr => (xii st fun x y => some (x.toUInt32 >>> (y.toUInt32 &&& Int32.toUInt32 31)).toInt32).map fun t => (pc + 1, ls, t, S)
  | .idiv => (xii st fun x y => if y = 0 then none else some (x / y)).map fun t => (pc + 1, ls, t, S)
  | .irem => (xii st fun x y => if y = 0 then none else some (x - x / y * y)).map fun t => (pc + 1, ls, t, S)
  | .ineg => (xi1 st fun x => .int (-x)).map fun t => (pc + 1, ls, t, S)
  | .i2l => (xi1 st fun x => .long x.toInt64).map fun t => (pc + 1, ls, t, S)
  | .l2i => (xl1 st fun x => .int x.toInt32).map fun t => (pc + 1, ls, t, S)
  | .land => (xll st fun x y => .long (x &&& y)).map fun t => (pc + 1, ls, t, S)
  | .lor => (xll st fun x y => .long (x ||| y)).map fun t => (pc + 1, ls, t, S)
  | .lxor => (xll st fun x y => .long (x ^^^ y)).map fun t => (pc + 1, ls, t, S)
  | .lmul => (xll st fun x y => .long (x * y)).map fun t => (pc + 1, ls, t, S)
  | .lcmp => (xll st fun x y => .int (lg_cmp x y)).map fun t => (pc + 1, ls, t, S)
  | .lshl => (xli st fun x y => .long (x <<< (y.toInt64 &&& 63))).map fun t => (pc + 1, ls, t, S)
  | .lshr => (xli st fun x y => .long (x >>> (y.toInt64 &&& 63))).map fun t => (pc + 1, ls, t, S)
  | .lushr => (xli st fun x y => .long (x.toUInt64 >>> (y.toInt64.toUInt64 &&& Int64.toUInt64 63)).toInt64).map fun t => (pc + 1, ls, t, S)
  | .dup => (match st with
    | v :: r => if v.category = 1 then some (pc + 1, ls, v :: v :: r, S) else none
    | _ => none)
  | .dup2 => (match st with
    | v :: w :: r => if v.category = 1 ∧ w.category = 1 then some (pc + 1, ls, v :: w :: v :: w :: r, S) else none
    | _ => none)
  | .goto off => (xtg pc off).map fun t => (t, ls, st, S)
  | .ifCond c off => (xif c pc off st).map fun q => (q.1, ls, q.2, S)
  | .if_icmp c off => (xicmp c pc off st).map fun q => (q.1, ls, q.2, S)
  | .ifnull off => (xnul true pc off st).map fun q => (q.1, ls, q.2, S)
  | .ifnonnull off => (xnul false pc off st).map fun q => (q.1, ls, q.2, S)
  | .tableswitch d lo hi offs => (xtab d lo hi offs pc st).map fun q => (q.1, ls, q.2, S)
  | .lookupswitch d ps => (xlook d ps pc st).map fun q => (q.1, ls, q.2, S)
  | .iaload => (xiald sc S st).map fun t => (pc + 1, ls, t, S)
  | .baload => (xzald S st).map fun t => (pc + 1, ls, t, S)
  | .laload => (xlald S st).map fun t => (pc + 1, ls, t, S)
  | .aaload => (xaald S st).map fun t => (pc + 1, ls, t, S)
  | .arraylength => (xlen sc S st).map fun t => (pc + 1, ls, t, S)
  | .iastore => (xiast S st).map fun q => (pc + 1, ls, q.1, q.2)
  | .bastore => (xzast S st).map fun q => (pc + 1, ls, q.1, q.2)
  | .lastore => (xlast S st).map fun q => (pc + 1, ls, q.1, q.2)
  | .aastore => (xaast cl S st).map fun q => (pc + 1, ls, q.1, q.2)
  | .getfield _ => (xgetf S xi.2.2.1 xi.2.2.2.1 st).map fun t => (pc + 3, ls, t, S)
  | .putfield _ => (xputf S xi.2.2.1 xi.2.2.2.1 (fty xi.2.2.1 xi.2.2.2.1) st).map fun q => (pc + 3, ls, q.1, q.2)
  | .newarray a => (xnewa S a st).map fun q => (pc + 2, ls, q.1, q.2)
  | .anewarray _ => (match cl[xi.2.2.1]? with
    | some q => (xnewq S q.1 st).map fun q => (pc + 3, ls, q.1, q.2)
    | none => none)
  | .new _ => (match cl[xi.2.2.1]? with
    | some q => (xnew S (.inr (some (xi.2.2.1, fdef xi.2.2.1))) q.2.2).map fun S' => (pc + 3, ls, .ref S.1 :: st, S')
    | none => none)
  | .invokestatic _ => if xi.2.2.1 = xObj then none else (xsp xi.2.2.1 st S).map fun q => (pc + 3, ls, q.1, q.2)
  | .invokespecial _ => if xi.2.2.1 = xObj then (xsp xObj st S).map fun q => (pc + 3, ls, q.1, q.2) else none
  | _ => none
end
section
/-! The small machine's heap as the real one's: cell k lies at bs.1 + k. -/
/-- where the cells begin; where the script lies -/
abbrev xB : Type := Nat × Nat
def cv (bs : xB) : Value → Value
  | .ref k => .ref (bs.1 + k)
  | .retAddr _ => .ref bs.2
  | v => v
theorem cv_cat (bs : xB) (v : Value) : (cv bs v).category = v.category := by cases v <;> rfl
def ca (bs : xB) (a : vp_A) : vp_A := (a.1, match a.2 with
  | .inr (.inr (.inr (.inr f))) => .inr (.inr (.inr (.inr fun i => (f i).map fun k => bs.1 + k)))
  | g => g)
theorem cv_rf (bs : xB) (r : Option Nat) : cv bs (va_rf r) = va_rf (r.map fun k => bs.1 + k) := by cases r <;> rfl
theorem cv_narrow {bs : xB} {ty : FieldType} {v : Value} (h : narrow ty v = v) : narrow ty (cv bs v) = cv bs v := by
  cases v <;> cases ty <;> first | rfl | exact h
theorem cv_fits {bs : xB} {ty : FieldType} {v : Value} (h : fits ty v = true) : fits ty (cv bs v) = true := by
  cases v <;> cases ty <;> first | rfl | exact h | cases h
def xcat (D : va_G) (cl : List vw_C) (cT : FieldType → ClassId) (s : State) (bs : xB) (a : Nat) (c : xC) (H : Heap) : Prop := match c with
  | .inl q => H[a]? = some (vp_cell (cT q.1) (ca bs q.2)) ∧ ArrOfT s (cT q.1) q.1 ∧ va_RA s (cT q.1) q.1
  | .inr (some o) => va_at D cl (a, .inr (o.1, o.2.map (cv bs))) H
  | .inr none => True
theorem xcat.kept {D : va_G} {cl : List vw_C} {cT : FieldType → ClassId} {s : State} {bs : xB} {a : Nat} {c : xC} {H H1 : Heap} (h : xcat D cl cT s bs a c H) (hq : H1[a]? = H[a]?) : xcat D cl cT s bs a c H1 := by
  rcases c with q | (_ | o)
  · exact ⟨hq.trans h.1, h.2⟩
  · trivial
  · exact va_at.kept (q := (a, .inr (o.1, o.2.map (cv bs)))) h hq
theorem xcat.moved {D : va_G} {cl : List vw_C} {cT : FieldType → ClassId} {s U : State} (hvm : s.vm.Alike U.vm) {bs : xB} {a : Nat} {c : xC} {H : Heap} (h : xcat D cl cT s bs a c H) : xcat D cl cT U bs a c H := by
  rcases c with q | (_ | o)
  · exact ⟨h.1, arrOfT_moved hvm h.2.1, h.2.2.moved hvm⟩
  · trivial
  · exact h
/-- the heap H holds the small machine's heap S -/
def xR (D : va_G) (cl : List vw_C) (cT : FieldType → ClassId) (s : State) (bs : xB) (S : xS) (H : Heap) : Prop :=
  H.size = bs.1 + S.1 ∧ va_K D cl [] s ∧ (∀ (ty : FieldType) (cA : ClassId), s.vm.findClass ("[" ++ ty.toString) = some cA → cA = cT ty) ∧ ∀ (k : Nat) (c : xC), xat S k = some c → xcat D cl cT s bs (bs.1 + k) c H
theorem xR.moved {D : va_G} {cl : List vw_C} {cT : FieldType → ClassId} {s U : State} (hvm : s.vm.Alike U.vm) {bs : xB} {S : xS} {H : Heap} (h : xR D cl cT s bs S H) : xR D cl cT U bs S H :=
  ⟨h.1, va_K.moved hvm h.2.1, fun ty cA q => h.2.2.1 ty cA (by rw [hvm.findClass] at q; exact q), fun k c hk => (h.2.2.2 k c hk).moved hvm⟩
theorem xat_lt {S : xS} {k : Nat} {c : xC} (h : xat S k = some c) : k < S.1 ∧ xget S.2.2 k = some c := by
  unfold xat at h
  split at h
  · exact ⟨by assumption, h⟩
  · cases h
theorem xat_put_self {S : xS} {k : Nat} {c0 c : xC} (h : xat S k = some c0) : xat (xput S k c) k = some c := by
  obtain ⟨h1, h2⟩ := xat_lt h
  unfold xat xput
  rw [if_pos h1]
  exact xget_set_self h2
theorem xat_put_ne {S : xS} {k j : Nat} {c : xC} (h : j ≠ k) : xat (xput S k c) j = xat S j := by
  unfold xat xput
  dsimp only
  rw [xget_set_ne h]
theorem xR.set {D : va_G} {cl : List vw_C} {cT : FieldType → ClassId} {s : State} {bs : xB} {k : Nat} {S : xS} {H H1 : Heap} {c0 c : xC} (h : xR D cl cT s bs S H) (hk : xat S k = some c0) (z : H1.size = H.size) (oq : ∀ q : Nat, q ≠ bs.1 + k → H1[q]? = H[q]?) (hc : xcat D cl cT s bs (bs.1 + k) c H1) : xR D cl cT s bs (xput S k c) H1 := by
  refine ⟨z.trans h.1, h.2.1, h.2.2.1, fun j cj hj => ?_⟩
  by_cases e : j = k
  · subst e
    rw [xat_put_self hk] at hj
    cases hj
    exact hc
  · rw [xat_put_ne e] at hj
    exact (h.2.2.2 j cj hj).kept (oq _ (by omega))
theorem xnew_spec {S S' : xS} {c : xC} {w : Nat} (h : xnew S c w = some S') : S' = (S.1 + 1, S.2.1 + w, xset S.2.2 S.1 c) ∧ ∃ c0, xget S.2.2 S.1 = some c0 := by
  unfold xnew at h
  split at h
  · rename_i c0 hc0
    cases h
    exact ⟨rfl, c0, hc0⟩
  · cases h
theorem xR.new {D : va_G} {cl : List vw_C} {cT : FieldType → ClassId} {s : State} {bs : xB} {w : Nat} {S S' : xS} {H H1 : Heap} {c : xC} (h : xR D cl cT s bs S H) (hn : xnew S c w = some S') (z : H1.size = H.size + 1) (oq : ∀ q : Nat, q < H.size → H1[q]? = H[q]?) (hc : xcat D cl cT s bs (bs.1 + S.1) c H1) : xR D cl cT s bs S' H1 := by
  obtain ⟨rfl, c0, hc0⟩ := xnew_spec hn
  refine ⟨by rw [z, h.1]; rfl, h.2.1, h.2.2.1, fun j cj hj => ?_⟩
  obtain ⟨h1, h2⟩ := xat_lt hj
  dsimp only at h1 h2
  by_cases e : j = S.1
  · subst e
    rw [xget_set_self hc0] at h2
    cases h2
    exact hc
  · rw [xget_set_ne e] at h2
    have hlt : j < S.1 := by omega
    exact (h.2.2.2 j cj (by unfold xat; rw [if_pos hlt]; exact h2)).kept (oq _ (by rw [h.1]; omega))
theorem xin_in {i : Int32} {n : Nat} (h : xin i n = true) : vp_in i n := by
  unfold xin at h
  simp only [Bool.and_eq_true, Bool.not_eq_true', decide_eq_false_iff_not, decide_eq_true_eq] at h
  rintro (q | q)
  · exact h.1 q
  · omega
theorem xP1 {D : va_G} {cl : List vw_C} {q : Nat × va_E} {H : Heap} (h : va_at D cl q H) : va_P D cl [q] H := by
  intro k x hx
  have hz : k < 1 := (List.getElem?_eq_some_iff.mp hx).1
  rw [show k = 0 by omega] at hx
  cases hx
  exact h
theorem xK1 {D : va_G} {cl : List vw_C} {s : State} {cA : ClassId} {ty : FieldType} (h : va_K D cl [] s) (h1 : ArrOfT s cA ty) (h2 : va_RA s cA ty) : va_K D cl [(cA, ty)] s := by
  refine ⟨h.1, fun k x hx => ?_⟩
  have hz : k < 1 := (List.getElem?_eq_some_iff.mp hx).1
  rw [show k = 0 by omega] at hx
  cases hx
  exact ⟨h1, h2⟩
theorem xarr_get {α : Type} {cA : ClassId} {n k : Nat} {mk : α → Value} {f : Nat → α} {g : Nat → α} {x : α} (hg : ∀ j, g j = if j = k then x else f j) : (fun j => mk (g j)) = updV (fun j => mk (f j)) k (mk x) := by
  funext j
  by_cases hj : j = k
  · subst hj
    simp [updV, hg]
  · simp [updV, hg, hj]
section XW
variable {p : Program} {l : Launch} {e : Env} {R : Room} {s : State} {m : MethodId} {args : Array Value} {below : List Frame} {meth : Method} {c : Code} {H : Heap} {locs : List Loc} {cells slots : Nat} {Q : State → Prop}
variable {cc : ByteArray} {pc : Nat} {ls : Array Slot} {rest : List Value} {D : va_G} {cl : List vw_C} {cT : FieldType → ClassId} {bs : xB} {S : xS} {H0 : Heap}
theorem xw_iald (hexec : p.tables.exec = Jvm.exec) (hb : c.code = cc) (hR : xR D cl cT s bs S H) {k n : Nat} {f : Nat → Int32} (hk : xat S k = some (.inl (.int, n, .inl f))) {i : Int32} (hin : xin i n = true) (hdg : decode cc pc = .ok (.iaload, 1))
    (kk : W p l e R s m args below meth c H locs cells slots Q (F0 m (pc + 1) ls (.int (f i.toNatClampNeg) :: rest))) : W p l e R s m args below meth c H locs cells slots Q (F0 m pc ls (.int i :: .ref (bs.1 + k) :: rest)) := by
  obtain ⟨h1, h2, h3⟩ := hR.2.2.2 k _ hk
  exact va_iald (cA := cT .int) (n := n) (f := f) hexec hb (xK1 hR.2.1 h2 h3) (xP1 (q := (bs.1 + k, .inl (cT .int, n, .inl f))) h1) 0 0 rfl rfl (xin_in hin) hdg kk
theorem xw_zald (hexec : p.tables.exec = Jvm.exec) (hb : c.code = cc) (hR : xR D cl cT s bs S H) {k n : Nat} {f : Nat → Int32} (hk : xat S k = some (.inl (.boolean, n, .inl f))) {i : Int32} (hin : xin i n = true) (hdg : decode cc pc = .ok (.baload, 1))
    (kk : W p l e R s m args below meth c H locs cells slots Q (F0 m (pc + 1) ls (.int (f i.toNatClampNeg) :: rest))) : W p l e R s m args below meth c H locs cells slots Q (F0 m pc ls (.int i :: .ref (bs.1 + k) :: rest)) := by
  obtain ⟨h1, h2, h3⟩ := hR.2.2.2 k _ hk
  exact va_zald (cA := cT .boolean) (n := n) (f := f) hexec hb (xK1 hR.2.1 h2 h3) (xP1 (q := (bs.1 + k, .inl (cT .boolean, n, .inl f))) h1) 0 0 rfl rfl (xin_in hin) hdg kk
theorem xw_lald (hexec : p.tables.exec = Jvm.exec) (hb : c.code = cc) (hR : xR D cl cT s bs S H) {k n : Nat} {f : Nat → Int64} (hk : xat S k = some (.inl (.long, n, .inr (.inl f)))) {i : Int32} (hin : xin i n = true) (hdg : decode cc pc = .ok (.laload, 1))
    (kk : W p l e R s m args below meth c H locs cells slots Q (F0 m (pc + 1) ls (.long (f i.toNatClampNeg) :: rest))) : W p l e R s m args below meth c H locs cells slots Q (F0 m pc ls (.int i :: .ref (bs.1 + k) :: rest)) := by
  obtain ⟨h1, h2, h3⟩ := hR.2.2.2 k _ hk
  exact va_lald (cA := cT .long) (n := n) (f := f) hexec hb (xK1 hR.2.1 h2 h3) (xP1 (q := (bs.1 + k, .inl (cT .long, n, .inr (.inl f)))) h1) 0 0 rfl rfl (xin_in hin) hdg kk
theorem xw_aald (hexec : p.tables.exec = Jvm.exec) (hb : c.code = cc) (hR : xR D cl cT s bs S H) {k n : Nat} {C : String} {f : Nat → Option Nat} (hk : xat S k = some (.inl (.object C, n, .inr (.inr (.inr (.inr f)))))) {i : Int32} (hin : xin i n = true) (hdg : decode cc pc = .ok (.aaload, 1))
    (kk : W p l e R s m args below meth c H locs cells slots Q (F0 m (pc + 1) ls (cv bs (va_rf (f i.toNatClampNeg)) :: rest))) : W p l e R s m args below meth c H locs cells slots Q (F0 m pc ls (.int i :: .ref (bs.1 + k) :: rest)) := by
  obtain ⟨h1, h2, h3⟩ := hR.2.2.2 k _ hk
  refine va_aldq (cA := cT (.object C)) (C := C) (n := n) (f := fun i => (f i).map fun k => bs.1 + k) hexec hb (xK1 hR.2.1 h2 h3) (xP1 (q := (bs.1 + k, .inl (cT (.object C), n, .inr (.inr (.inr (.inr fun i => (f i).map fun k => bs.1 + k)))))) h1) 0 0 rfl rfl (xin_in hin) hdg ?_
  rw [cv_rf] at kk
  exact kk
theorem xw_alen (hexec : p.tables.exec = Jvm.exec) (hb : c.code = cc) (hR : xR D cl cT s bs S H) {k : Nat} {ty : FieldType} {x : vp_A} (hk : xat S k = some (.inl (ty, x))) (hdg : decode cc pc = .ok (.arraylength, 1))
    (kk : W p l e R s m args below meth c H locs cells slots Q (F0 m (pc + 1) ls (.int (Int32.ofNat x.1) :: rest))) : W p l e R s m args below meth c H locs cells slots Q (F0 m pc ls (.ref (bs.1 + k) :: rest)) := by
  obtain ⟨h1, h2, h3⟩ := hR.2.2.2 k _ hk
  exact va_alen (cA := cT ty) (x := ca bs x) (ty := ty) hexec hb (xK1 hR.2.1 h2 h3) (xP1 (q := (bs.1 + k, .inl (cT ty, ca bs x))) h1) 0 0 rfl rfl rfl hdg kk
theorem xw_iast (hexec : p.tables.exec = Jvm.exec) (hb : c.code = cc) (hR : xR D cl cT s bs S H) (hS : va_S (fun q => bs.1 ≤ q) H0 H locs) {k n : Nat} {f : Nat → Int32} (hk : xat S k = some (.inl (.int, n, .inl f))) {i x : Int32} (hin : xin i n = true) (hdg : decode cc pc = .ok (.iastore, 1))
    (kk : ∀ (H1 : Heap) (locs1 : List Loc), xR D cl cT s bs (xput S k (.inl (.int, n, .inl (upd f i.toNatClampNeg x)))) H1 → va_S (fun q => bs.1 ≤ q) H0 H1 locs1 → W p l e R s m args below meth c H1 locs1 cells slots Q (F0 m (pc + 1) ls rest)) : W p l e R s m args below meth c H locs cells slots Q (F0 m pc ls (.int x :: .int i :: .ref (bs.1 + k) :: rest)) := by
  obtain ⟨h1, h2, h3⟩ := hR.2.2.2 k _ hk
  refine W.iast hexec hb h1 (h2 n (fun j => .int (f j))) (fun q => by cases q) (by show ¬ (i < 0 ∨ (arrV _ _ _).slots.size ≤ _); rw [arrV_size]; exact xin_in hin) rfl rfl hdg fun H1 e z oq => ?_
  refine kk H1 _ (hR.set hk z oq ⟨?_, h2, h3⟩) (hS.put z oq (Nat.le_add_right _ _))
  rw [e]
  show some ((arrV _ n fun j => .int (f j)).setSlot _ _) = some (arrV _ n fun j => .int (upd f i.toNatClampNeg x j))
  rw [arrV_store]
  congr 2
  funext q
  by_cases hq : q = i.toNatClampNeg <;> simp [updV, upd, hq]
theorem xw_zast (hexec : p.tables.exec = Jvm.exec) (hb : c.code = cc) (hR : xR D cl cT s bs S H) (hS : va_S (fun q => bs.1 ≤ q) H0 H locs) {k n : Nat} {f : Nat → Int32} (hk : xat S k = some (.inl (.boolean, n, .inl f))) {i x : Int32} (hin : xin i n = true) (hdg : decode cc pc = .ok (.bastore, 1))
    (kk : ∀ (H1 : Heap) (locs1 : List Loc), xR D cl cT s bs (xput S k (.inl (.boolean, n, .inl (upd f i.toNatClampNeg (vp_nar .boolean x))))) H1 → va_S (fun q => bs.1 ≤ q) H0 H1 locs1 → W p l e R s m args below meth c H1 locs1 cells slots Q (F0 m (pc + 1) ls rest)) : W p l e R s m args below meth c H locs cells slots Q (F0 m pc ls (.int x :: .int i :: .ref (bs.1 + k) :: rest)) := by
  obtain ⟨h1, h2, h3⟩ := hR.2.2.2 k _ hk
  refine W.zast hexec hb h1 (h2 n (fun j => .int (f j))) (fun q => by cases q) (by show ¬ (i < 0 ∨ (arrV _ _ _).slots.size ≤ _); rw [arrV_size]; exact xin_in hin) rfl rfl hdg fun H1 e z oq => ?_
  refine kk H1 _ (hR.set hk z oq ⟨?_, h2, h3⟩) (hS.put z oq (Nat.le_add_right _ _))
  rw [e]
  show some ((arrV _ n fun j => .int (f j)).setSlot _ _) = some (arrV _ n fun j => .int (upd f i.toNatClampNeg _ j))
  rw [arrV_store]
  congr 2
  funext q
  by_cases hq : q = i.toNatClampNeg <;> simp [updV, upd, hq, vp_nar, narrow]
theorem xw_last (hexec : p.tables.exec = Jvm.exec) (hb : c.code = cc) (hR : xR D cl cT s bs S H) (hS : va_S (fun q => bs.1 ≤ q) H0 H locs) {k n : Nat} {f : Nat → Int64} (hk : xat S k = some (.inl (.long, n, .inr (.inl f)))) {i : Int32} {x : Int64} (hin : xin i n = true) (hdg : decode cc pc = .ok (.lastore, 1))
    (kk : ∀ (H1 : Heap) (locs1 : List Loc), xR D cl cT s bs (xput S k (.inl (.long, n, .inr (.inl (vp_updL f i.toNatClampNeg x))))) H1 → va_S (fun q => bs.1 ≤ q) H0 H1 locs1 → W p l e R s m args below meth c H1 locs1 cells slots Q (F0 m (pc + 1) ls rest)) : W p l e R s m args below meth c H locs cells slots Q (F0 m pc ls (.long x :: .int i :: .ref (bs.1 + k) :: rest)) := by
  obtain ⟨h1, h2, h3⟩ := hR.2.2.2 k _ hk
  refine W.last hexec hb h1 (h2 n (fun j => .long (f j))) (fun q => by cases q) (by show ¬ (i < 0 ∨ (arrV _ _ _).slots.size ≤ _); rw [arrV_size]; exact xin_in hin) rfl rfl hdg fun H1 e z oq => ?_
  refine kk H1 _ (hR.set hk z oq ⟨?_, h2, h3⟩) (hS.put z oq (Nat.le_add_right _ _))
  rw [e]
  show some ((arrV _ n fun j => .long (f j)).setSlot _ _) = some (arrV _ n fun j => .long (vp_updL f i.toNatClampNeg x j))
  rw [arrV_store]
  congr 2
  funext q
  by_cases hq : q = i.toNatClampNeg <;> simp [updV, vp_updL, hq]
theorem xw_aast (hexec : p.tables.exec = Jvm.exec) (hb : c.code = cc) (hR : xR D cl cT s bs S H) (hS : va_S (fun q => bs.1 ≤ q) H0 H locs) {k n v ci : Nat} {r : vw_C} {vs : List Value} {f : Nat → Option Nat} (hk : xat S k = some (.inl (.object r.1, n, .inr (.inr (.inr (.inr f)))))) (hv : xat S v = some (.inr (some (ci, vs)))) (hc : cl[ci]? = some r) {i : Int32} (hin : xin i n = true) (hdg : decode cc pc = .ok (.aastore, 1))
    (kk : ∀ (H1 : Heap) (locs1 : List Loc), xR D cl cT s bs (xput S k (.inl (.object r.1, n, .inr (.inr (.inr (.inr (va_up f i.toNatClampNeg (some v)))))))) H1 → va_S (fun q => bs.1 ≤ q) H0 H1 locs1 → W p l e R s m args below meth c H1 locs1 cells slots Q (F0 m (pc + 1) ls rest)) : W p l e R s m args below meth c H locs cells slots Q (F0 m pc ls (.ref (bs.1 + v) :: .int i :: .ref (bs.1 + k) :: rest)) := by
  have hi := xin_in hin
  have hlt : i.toNatClampNeg < n := Nat.not_le.mp fun q => hi (Or.inr q)
  have h0 : ¬ i < 0 := fun q => hi (Or.inl q)
  obtain ⟨h1, h2, h3⟩ := hR.2.2.2 k _ hk
  obtain ⟨r', hr', cellV, g1, g2, g3, -⟩ := hR.2.2.2 v _ hv
  have hcls := (hR.2.1.1 ci r hc).2
  obtain ⟨kA, comp, k1, k2, k3, -⟩ := id h3
  have hcomp : comp = D.1 ci := Option.some.inj (k3.symm.trans hcls.1)
  subst hcomp
  obtain ⟨kC, hkC, -⟩ := hcls.2
  refine W.aast hexec hb h1 (fun q h => by cases h) (fun h => by cases h) k1 k2 rfl hkC ⟨h0, by show _ < (arrV _ _ _).slots.size; rw [arrV_size]; exact hlt⟩ g1 (fun q h => by rw [g3] at h; cases h) (by rw [g2]; exact hkC) (by rw [g2]; exact va_assign hcls) rfl rfl hdg fun H1 e z oq => ?_
  refine kk H1 _ (hR.set hk z oq ⟨?_, h2, h3⟩) (hS.put z oq (Nat.le_add_right _ _))
  rw [e]
  show some ((arrV _ n fun j => va_rf ((f j).map fun k => bs.1 + k)).setSlot _ _) = some (arrV _ n fun j => va_rf ((va_up f i.toNatClampNeg (some v) j).map fun k => bs.1 + k))
  rw [arrV_store]
  congr 2
  funext q
  by_cases hq : q = i.toNatClampNeg <;> simp [updV, va_up, hq, va_rf]
end XW
end
section
/-- what is asked of the classes: their words, their fields' types and names, their fields' first values -/
def xCls (cl : List vw_C) (fty : Nat → Nat → FieldType) (fdef : Nat → List Value) (Ts : List Cond) : Prop := ∀ (ci : Nat) (q : vw_C), cl[ci]? = some q →
  (∀ w ∈ u_ws q.1 q.2.1 q.2.2, w ∈ Ts) ∧ (∀ k, k < q.2.2 → parseFieldDescriptor (q.2.1 k).2.2.1 = some (fty ci k)) ∧ (∀ a, a < q.2.2 → ∀ b, b < q.2.2 → a ≠ b → (q.2.1 a).2.1 ≠ (q.2.1 b).2.1) ∧
  (∀ j, j < q.2.2 → defaultValue (fty ci j) = vp_V (fdef ci) j) ∧ (∀ bs : xB, (fdef ci).map (cv bs) = fdef ci)
section XH
variable {p : Program} {l : Launch} {e : Env} {R : Room} {s : State} {m : MethodId} {args : Array Value} {below : List Frame} {meth : Method} {c : Code} {H : Heap} {locs : List Loc} {cells slots : Nat} {Q : State → Prop}
variable {cc : ByteArray} {pc : Nat} {ls : Array Slot} {rest : List Value} {D : va_G} {cl : List vw_C} {cT : FieldType → ClassId} {bs : xB} {S : xS} {H0 : Heap} {fty : Nat → Nat → FieldType} {fdef : Nat → List Value} {Ts : List Cond}
theorem xw_get (hexec : p.tables.exec = Jvm.exec) (hb : c.code = cc) (hts : ∀ w ∈ Ts, w.before args s = true) (hC : xCls cl fty fdef Ts) {own : String} (hown : s.vm.findClass own = some m.cls) (hR : xR D cl cT s bs S H) {k ci j index : Nat} {q : vw_C} {fs : List Value} {v : Value} (hk : xat S k = some (.inr (some (ci, fs)))) (hc : cl[ci]? = some q) (hj : j < q.2.2) (hv : fs[j]? = some v) (hlink : (Cond.fieldLink own index (q.2.1 j).1 (q.2.1 j).2.1 (q.2.1 j).2.2.1) ∈ Ts) (hdg : decode cc pc = .ok (.getfield index, 3))
    (kk : W p l e R s m args below meth c H locs cells slots Q (F0 m (pc + 3) ls (cv bs v :: rest))) : W p l e R s m args below meth c H locs cells slots Q (F0 m pc ls (.ref (bs.1 + k) :: rest)) := by
  have h1 := hR.2.2.2 k _ hk
  exact va_get (D := D) (ci := ci) (v := cv bs v) (C := q.1) (T := q.2.1) (N := q.2.2) hexec hb hts (hC ci q hc).1 hown hR.2.1 (xP1 (q := (bs.1 + k, .inr (ci, fs.map (cv bs)))) h1) 0 rfl hc j hj (hts _ hlink) (fun _ h9 => h9) (by rw [List.getElem?_map, hv]; rfl) hdg kk
theorem xw_put (hexec : p.tables.exec = Jvm.exec) (hb : c.code = cc) (hts : ∀ w ∈ Ts, w.before args s = true) (hC : xCls cl fty fdef Ts) {own : String} (hown : s.vm.findClass own = some m.cls) (hR : xR D cl cT s bs S H) (hS : va_S (fun q => bs.1 ≤ q) H0 H locs) {k ci j index : Nat} {q : vw_C} {fs : List Value} {v : Value} (hk : xat S k = some (.inr (some (ci, fs)))) (hc : cl[ci]? = some q) (hj : j < q.2.2) (hl : j < fs.length) (hn : narrow (fty ci j) v = v) (hfit : fits (fty ci j) v = true) (hfin : (q.2.1 j).2.2.2 = false ∨ ((q.2.1 j).2.2.2 = true ∧ meth.name = "<init>" ∧ (q.2.1 j).1 = own)) (hlink : (Cond.fieldLink own index (q.2.1 j).1 (q.2.1 j).2.1 (q.2.1 j).2.2.1) ∈ Ts) (hdg : decode cc pc = .ok (.putfield index, 3))
    (kk : ∀ (H1 : Heap) (locs1 : List Loc), xR D cl cT s bs (xput S k (.inr (some (ci, fs.set j v)))) H1 → va_S (fun q => bs.1 ≤ q) H0 H1 locs1 → W p l e R s m args below meth c H1 locs1 cells slots Q (F0 m (pc + 3) ls rest)) : W p l e R s m args below meth c H locs cells slots Q (F0 m pc ls (cv bs v :: .ref (bs.1 + k) :: rest)) := by
  obtain ⟨hin, hty, hnm, -, -⟩ := hC ci q hc
  have hap := va_apart (own := own) hts hin (fty ci) hty hnm hR.2.1 hc
  obtain ⟨r, h1, cell, q1, q2, q3, q4⟩ := hR.2.2.2 k _ hk
  have hr : r = q := Option.some.inj (h1.symm.trans hc)
  subst hr
  obtain ⟨hSl, hfc, kC, hkC, hkind⟩ := hR.2.1.1 ci _ hc
  obtain ⟨cf, kf, fi, f, hi, hsl⟩ := hSl j hj
  have hst := (u_facts hfc hkC (u_lays hts hin hj) hi).1
  have hd := hty j hj
  have hlm : j < (fs.map (cv bs)).length := by rw [List.length_map]; exact hl
  have fin : ∀ H' : Heap, H'[bs.1 + k]? = some (cell.setSlot f.slot (cv bs v)) → H'.size = H.size → (∀ q, q ≠ bs.1 + k → H'[q]? = H[q]?) → W p l e R s m args below meth c H' (locs ++ [⟨bs.1 + k, f.slot⟩]) cells slots Q (F0 m (pc + 3) ls rest) := by
    intro H' e1 e2 e3
    rw [hsl] at e1 ⊢
    refine kk H' _ (hR.set hk e2 e3 ⟨_, hc, ?_⟩) (hS.put e2 e3 (Nat.le_add_right _ _))
    show t_OB _ _ _ _ _ (vp_V ((fs.set j v).map (cv bs)))
    rw [List.map_set]
    exact t_OB.to (V := updV (vp_V (fs.map (cv bs))) j (cv bs v)) ⟨_, e1, q2, q3, t_set q4 hap hj (cv bs v)⟩ (fun i _ => vp_updV_set hlm (cv bs v) i)
  have hlay := hts _ (hin _ (u_in_lay hj))
  unfold u_lay at hlay
  rcases hfin with hfin | ⟨hfin, hin2, hdecl⟩
  · rw [if_neg (by rw [hfin]; decide)] at hlay
    have h6 := u_store hfc hkC hkind hlay hi hd (cv_narrow (bs := bs) hn) (cv_fits (bs := bs) hfit)
    exact W.putK hexec hb (f := f) ⟨hown, hts _ hlink, ⟨_, _, _, hi⟩, hst⟩ (by rw [q2]; exact h6) q1 q3 (by rw [hsl]; exact k2_hasslot (q4 j hj)) rfl rfl hdg fin
  · rw [if_pos hfin] at hlay
    have hcf : m.cls = cf := by
      obtain ⟨_, _, c', _, _, _, -, -, hf', -, -, -, hown2, -⟩ := Cond.laysFinal_spec hlay
      have e1 : c' = cf := by have := hi.symm.trans hf'; simp at this; exact this.1.symm
      rw [hdecl] at hown2
      rw [← e1]; exact Option.some.inj (hown.symm.trans hown2)
    have h6 := u_fits hfc hkC hkind (Or.inr hlay) hi hd (cv_narrow (bs := bs) hn) (cv_fits (bs := bs) hfit)
    exact W.putFinK hexec hb hown (hts _ hlink) hi hst hcf hin2 (by rw [q2]; exact h6) q1 q3 (by rw [hsl]; exact k2_hasslot (q4 j hj)) rfl rfl hdg fin
theorem xw_new (hexec : p.tables.exec = Jvm.exec) (hb : c.code = cc) (hts : ∀ w ∈ Ts, w.before args s = true) (hC : xCls cl fty fdef Ts) {own : String} (hown : s.vm.findClass own = some m.cls) (hR : xR D cl cT s bs S H) (hS : va_S (fun q => bs.1 ≤ q) H0 H locs) {ci index : Nat} {q : vw_C} (hc : cl[ci]? = some q) {S' : xS} (hn : xnew S (.inr (some (ci, fdef ci))) q.2.2 = some S') (hcl : Cond.classLink own index q.1 ∈ Ts) (hinst : Cond.instantiable q.1 q.2.2 ∈ Ts) (hini : Cond.initialized q.1 ∈ Ts) (hcells : cells + 1 ≤ R.cells) (hslots : slots + q.2.2 ≤ R.slots) (hdg : decode cc pc = .ok (.new index, 3))
    (kk : ∀ (H1 : Heap), xR D cl cT s bs S' H1 → va_S (fun q => bs.1 ≤ q) H0 H1 locs → W p l e R s m args below meth c H1 locs (cells + 1) (slots + q.2.2) Q (F0 m (pc + 3) ls (.ref (bs.1 + S.1) :: rest))) : W p l e R s m args below meth c H locs cells slots Q (F0 m pc ls rest) := by
  obtain ⟨hin, hty, -, hdf, hdm⟩ := hC ci q hc
  have hKn := hR.2.1.1 ci _ hc
  refine W.newcK (h := bs.1 + S.1) hexec hb hown (hts _ hcl) (hts _ hinst) (hts _ hini) rfl hdg hcells hslots hKn.2.1 hR.1 fun H1 kC hkC e1 z1 o1 => ?_
  refine kk H1 (hR.new hn (by rw [z1, hR.1]) (fun x hx => o1 x (by rw [← hR.1]; exact hx)) ⟨_, hc, ?_⟩) ⟨Nat.le_trans hS.1 (by rw [z1, hR.1]; omega), fun x h1 h2 => (o1 x (by rw [← hR.1]; exact Nat.lt_of_lt_of_le h1 hS.1)).trans (hS.2.1 x h1 h2), hS.2.2⟩
  show t_OB _ _ _ _ _ (vp_V ((fdef ci).map (cv bs)))
  rw [hdm bs]
  exact (u_born (fty ci) hts hin hKn hkC e1 hty).to hdf
theorem xw_newa (hexec : p.tables.exec = Jvm.exec) (hb : c.code = cc) {atype : ArrayType} (harr : (Cond.arrayClass (newarray.typeOf atype)).before args s = true) {ty : FieldType} (hty : newarray.typeOf atype = ty) (hR : xR D cl cT s bs S H) (hS : va_S (fun q => bs.1 ≤ q) H0 H locs)
    {n : Int32} {a0 : vp_A} (ha : ∀ cA : ClassId, vp_cell cA (ca bs a0) = arrV cA n.toNatClampNeg (fun _ => defaultValue ty)) (hn : ¬ n < 0) (hbytes : n.toNatClampNeg * componentBytes ty ≤ 536870912) (hcells : cells + 1 ≤ R.cells) (hslots : slots + n.toNatClampNeg ≤ R.slots) {S' : xS} (hw : xnew S (.inl (ty, a0)) n.toNatClampNeg = some S') (hdg : decode cc pc = .ok (.newarray atype, 2))
    (kk : ∀ (H1 : Heap), xR D cl cT s bs S' H1 → va_S (fun q => bs.1 ≤ q) H0 H1 locs → W p l e R s m args below meth c H1 locs (cells + 1) (slots + n.toNatClampNeg) Q (F0 m (pc + 2) ls (.ref (bs.1 + S.1) :: rest))) : W p l e R s m args below meth c H locs cells slots Q (F0 m pc ls (.int n :: rest)) := by
  subst hty
  refine va_newaK (h := bs.1 + S.1) hexec hb harr rfl hdg rfl hn rfl hbytes hcells hslots hR.1 fun H1 cA e1 z1 o1 hAr hNm => ?_
  have hcA := hR.2.2.1 _ _ hNm
  subst hcA
  refine kk H1 (hR.new hw (by rw [z1, hR.1]) (fun x hx => o1 x (by rw [← hR.1]; exact hx)) ⟨?_, hAr, ?_⟩) ⟨Nat.le_trans hS.1 (by rw [z1, hR.1]; omega), fun x h1 h2 => (o1 x (by rw [← hR.1]; exact Nat.lt_of_lt_of_le h1 hS.1)).trans (hS.2.1 x h1 h2), hS.2.2⟩
  · rw [ha]
    exact e1
  · cases atype <;> exact hNm
theorem xw_newq (hexec : p.tables.exec = Jvm.exec) (hb : c.code = cc) {own C : String} {index : Nat} (hown : s.vm.findClass own = some m.cls) (hclink : (Cond.classLink own index C).before args s = true) (hover : (Cond.arrayOver (.object C)).before args s = true) (hR : xR D cl cT s bs S H) (hS : va_S (fun q => bs.1 ≤ q) H0 H locs)
    {n : Int32} (hn : ¬ n < 0) (hbytes : n.toNatClampNeg * 4 ≤ 536870912) (hcells : cells + 1 ≤ R.cells) (hslots : slots + n.toNatClampNeg ≤ R.slots) {S' : xS} (hw : xnew S (.inl (.object C, n.toNatClampNeg, .inr (.inr (.inr (.inr fun _ => none))))) n.toNatClampNeg = some S') (hdg : decode cc pc = .ok (.anewarray index, 3))
    (kk : ∀ (H1 : Heap), xR D cl cT s bs S' H1 → va_S (fun q => bs.1 ≤ q) H0 H1 locs → W p l e R s m args below meth c H1 locs (cells + 1) (slots + n.toNatClampNeg) Q (F0 m (pc + 3) ls (.ref (bs.1 + S.1) :: rest))) : W p l e R s m args below meth c H locs cells slots Q (F0 m pc ls (.int n :: rest)) := by
  refine W.anew hexec hb hown hclink hover rfl hdg rfl hn hbytes hcells hslots fun cA kA comp f1 f2 f3 f4 => ?_
  have hcA := hR.2.2.1 _ _ f1
  subst hcA
  rw [hR.1]
  generalize hH1 : H.push ({ cls := cT (.object C), slots := Array.replicate n.toNatClampNeg .null, vm := .none } : Cell) = H1
  have z1 : H1.size = H.size + 1 := by rw [← hH1, Array.size_push]
  have e1 : H1[bs.1 + S.1]? = some (arrV (cT (.object C)) n.toNatClampNeg (fun _ => .null)) := by rw [← hR.1, ← hH1, Array.getElem?_push_size, ← arrV_new]
  have o1 : ∀ q : Nat, q < H.size → H1[q]? = H[q]? := fun q hq => by rw [← hH1, Array.getElem?_push, if_neg (Nat.ne_of_lt hq)]
  have hAr : ArrOfT s (cT (.object C)) (.object C) := fun N z => ⟨(fun k h => by cases h), kA, f2, comp, f3⟩
  exact kk H1 (hR.new hw z1 o1 ⟨e1, hAr, kA, comp, f2, f3, f4, f1⟩) ⟨Nat.le_trans hS.1 (by rw [z1]; omega), fun x h1 h2 => (o1 x (Nat.lt_of_lt_of_le h1 hS.1)).trans (hS.2.1 x h1 h2), hS.2.2⟩
theorem xw_copy (hexec : p.tables.exec = Jvm.exec) (hb : c.code = cc) (hml : c.maxLocals = ls.size) {own : String} {index : Nat} (hown : s.vm.findClass own = some m.cls) (hlink : (Cond.methodLink own index arraycopyName).before args s = true) (hnat : (Cond.native arraycopyName).before args s = true) (hstat : (Cond.static arraycopyName).before args s = true) (hini : (Cond.initialized "java/lang/System").before args s = true)
    (hR : xR D cl cT s bs S H) (hS : va_S (fun q => bs.1 ≤ q) H0 H locs) {k0 k : Nat} {n0 n1 : Nat} {f g : Nat → Int32} (ha0 : xat S k0 = some (.inl (.int, n0, .inl f))) (ha1 : xat S k = some (.inl (.int, n1, .inl g)))
    {sp dp n : Int32} (h1 : ¬ sp < 0) (h2 : ¬ dp < 0) (h3 : ¬ n < 0) (h4 : sp.toNatClampNeg + n.toNatClampNeg ≤ n0) (h5 : dp.toNatClampNeg + n.toNatClampNeg ≤ n1)
    (hframes : 1 ≤ R.frames) (hlocals : (rest.map fun v => v.category).sum + (nativeFrameWords "java/lang/System" "arraycopy" 5 + 11) ≤ R.locals) (hdg : decode cc pc = .ok (.invokestatic index, 3))
    (kk : ∀ (H1 : Heap) (locs1 : List Loc), xR D cl cT s bs (xput S k (.inl (.int, n1, .inl (va_cpy f g sp.toNatClampNeg dp.toNatClampNeg n.toNatClampNeg)))) H1 → va_S (fun q => bs.1 ≤ q) H0 H1 locs1 → W p l e R s m args below meth c H1 locs1 cells slots Q (F0 m (pc + 3) ls rest)) : W p l e R s m args below meth c H locs cells slots Q (F0 m pc ls (.int n :: .int dp :: .ref (bs.1 + k) :: .int sp :: .ref (bs.1 + k0) :: rest)) := by
  have nn : ∀ z : Int32, ¬ z < 0 → z.toInt = (z.toNatClampNeg : Int) := by
    intro z hz
    have hz0 : (0 : Int) ≤ z.toInt := by
      have := Int32.not_lt.mp hz
      simpa using Int32.le_iff_toInt_le.mp this
    show z.toInt = ((z.toInt.toNat : Nat) : Int)
    omega
  intro T hT X
  obtain ⟨hc0, t0, -⟩ := hR.2.2.2 k0 _ ha0
  obtain ⟨hc1, t1, t2⟩ := hR.2.2.2 k _ ha1
  have hc0 : H[bs.1 + k0]? = some (vp_cell (cT .int) (n0, .inl f)) := hc0
  have hc1 : H[bs.1 + k]? = some (vp_cell (cT .int) (n1, .inl g)) := hc1
  obtain ⟨-, q0, hk0, cm0, hkk0⟩ := t0 n0 (fun j => .int (f j))
  obtain ⟨-, q1, hk1, cm1, hkk1⟩ := t1 n1 (fun j => .int (g j))
  obtain ⟨vm', X', step⟩ := X.arraycopy hexec hown hlink hnat hstat hini (src := bs.1 + k0) (dst := bs.1 + k) (cs := vp_cell (cT .int) (n0, .inl f)) (cd := vp_cell (cT .int) (n1, .inl g)) (srcPos := sp) (destPos := dp) (n := n) (by rw [hT]; exact hc0) (by rw [hT]; exact hc1)
    (fun _ h => by cases h) (fun _ h => by cases h) (fun h => by cases h) (fun h => by cases h) hk0 hk1 hkk0 hkk1 (by simp [refKind]) h1 h2 h3
    (by rw [nn sp h1, nn n h3]; show ¬ _ > ((arrV _ n0 (fun j => .int (f j))).slots.size : Int); rw [arrV_size]; omega)
    (by rw [nn dp h2, nn n h3]; show ¬ _ > ((arrV _ n1 (fun j => .int (g j))).slots.size : Int); rw [arrV_size]; omega)
    (fun vm₁ _ i hi => by
      have e : (vp_cell (cT .int) (n0, .inl f)).slots.getD (sp.toNatClampNeg + i) .null = .int (f (sp.toNatClampNeg + i)) := by
        show (arrV _ n0 (fun j => .int (f j))).slots.getD _ _ = _
        rw [Array.getD_eq_getD_getElem?, arrV_read _ _ (by omega)]
        rfl
      refine ⟨?_, ?_⟩
      · rw [e]
        rfl
      · rw [e]
        exact trivial)
    (g := F0 m pc ls (.int n :: .int dp :: .ref (bs.1 + k) :: .int sp :: .ref (bs.1 + k0) :: rest)) rfl (by rw [hml]) (rest := rest) rfl (by rw [hb]; exact hdg) hframes (by show 2 * 0 + _ + _ ≤ _; omega)
  have e1 : copied (vp_cell (cT .int) (n0, .inl f)) (vp_cell (cT .int) (n1, .inl g)) sp dp n = vp_cell (cT .int) (n1, .inl (va_cpy f g sp.toNatClampNeg dp.toNatClampNeg n.toNatClampNeg)) := va_copied (fun z => .int z) _ _ f g h4
  rw [e1] at X' step
  have hl : bs.1 + k < H.size := (Array.getElem?_eq_some_iff.mp hc1).1
  have hheap : ((T.setVm vm').setCell (bs.1 + k) (vp_cell (cT .int) (n1, .inl (va_cpy f g sp.toNatClampNeg dp.toNatClampNeg n.toNatClampNeg)))).heap = H.setIfInBounds (bs.1 + k) (vp_cell (cT .int) (n1, .inl (va_cpy f g sp.toNatClampNeg dp.toNatClampNeg n.toNatClampNeg))) := by rw [← hT]; rfl
  have oq : ∀ q : Nat, q ≠ bs.1 + k → (H.setIfInBounds (bs.1 + k) (vp_cell (cT .int) (n1, .inl (va_cpy f g sp.toNatClampNeg dp.toNatClampNeg n.toNatClampNeg))))[q]? = H[q]? := fun q hq => by simp [Array.getElem?_setIfInBounds, Ne.symm hq]
  obtain ⟨t, a1, b1⟩ := kk _ _ (hR.set ha1 (by simp) oq ⟨show (H.setIfInBounds (bs.1 + k) _)[bs.1 + k]? = some _ by simp [Array.getElem?_setIfInBounds, hl, ca], t1, t2⟩) ⟨by simp; exact hS.1, fun q g1 g2 => by
      rw [oq q (fun e => g2 (by rw [e]; exact Nat.le_add_right _ _))]
      exact hS.2.1 q g1 g2, fun q hq => by
      rcases List.mem_append.mp hq with h | h
      · exact hS.2.2 q h
      · obtain ⟨z, -, hz⟩ := List.mem_map.mp h
        rw [← hz]
        exact Nat.le_add_right _ _⟩ _ hheap X'
  exact ⟨t, step t a1, b1⟩
end XH
end
section
def cL (bs : xB) (L : xL) : xL := L.map fun q => (q.1, cv bs q.2)
theorem xfind_mem {L : xL} {i : Nat} {v : Value} (h : xfind L i = some v) : (i, v) ∈ L := by
  induction L with
  | nil => cases h
  | cons q L ih =>
    obtain ⟨j, w⟩ := q
    unfold xfind at h
    split at h
    · rename_i hj
      cases h
      subst hj
      exact List.mem_cons_self
    · exact List.mem_cons_of_mem _ (ih h)
theorem xl_at {ls : Array Slot} {nL : Nat} {bs : xB} {L : xL} {i : Nat} {v : Value} (hl : lv_has ls nL (cL bs L)) (h : xfind L i = some v) : ls[i]? = some (.val (cv bs v)) :=
  hl.2.2 (i, cv bs v) (List.mem_map.mpr ⟨(i, v), xfind_mem h, rfl⟩)
theorem cL_sto1 (bs : xB) (L : xL) (i : Nat) (v : Value) : (i, cv bs v) :: (cL bs L).filter (fun q => !(q.1 == i) && !(q.1 + 1 == i && q.2.category == 2)) = cL bs (xsto1 L i v) := by
  unfold xsto1 cL
  rw [List.map_cons, List.filter_map]
  congr 2
  apply List.filter_congr
  intro q _
  simp [cv_cat]
theorem cL_sto2 (bs : xB) (L : xL) (i : Nat) (v : Value) : (i, cv bs v) :: (cL bs L).filter (fun q => !(q.1 == i) && (!(q.1 == i + 1) && !(q.1 + 1 == i && q.2.category == 2))) = cL bs (xsto2 L i v) := by
  unfold xsto2 cL
  rw [List.map_cons, List.filter_map]
  congr 2
  apply List.filter_congr
  intro q _
  simp [cv_cat]
theorem cv_sum (bs : xB) (st : List Value) : ((st.map (cv bs)).map fun v => v.category).sum = xw st := by
  unfold xw
  rw [List.map_map]
  congr 1
  apply List.map_congr_left
  intro v _
  exact cv_cat bs v
theorem xtg_spec {pc t : Nat} {off : Int} (h : xtg pc off = some t) : (pc : Int) + off = (t : Int) := by
  unfold xtg at h
  split at h
  · rename_i h0
    cases h
    omega
  · cases h
theorem xii_inv {st t : List Value} {f : Int32 → Int32 → Option Int32} (h : xii st f = some t) : ∃ x y z r, st = .int y :: .int x :: r ∧ f x y = some z ∧ t = .int z :: r := by
  unfold xii at h
  split at h
  · rename_i y x r
    cases hz : f x y with
    | none => rw [hz] at h; cases h
    | some z => rw [hz] at h; cases h; exact ⟨x, y, z, r, rfl, hz, rfl⟩
  · cases h
theorem xll_inv {st t : List Value} {f : Int64 → Int64 → Value} (h : xll st f = some t) : ∃ x y r, st = .long y :: .long x :: r ∧ t = f x y :: r := by
  unfold xll at h
  split at h
  · rename_i y x r
    cases h
    exact ⟨x, y, r, rfl, rfl⟩
  · cases h
theorem xli_inv {st t : List Value} {f : Int64 → Int32 → Value} (h : xli st f = some t) : ∃ x y r, st = .int y :: .long x :: r ∧ t = f x y :: r := by
  unfold xli at h
  split at h
  · rename_i y x r
    cases h
    exact ⟨x, y, r, rfl, rfl⟩
  · cases h
theorem xi1_inv {st t : List Value} {f : Int32 → Value} (h : xi1 st f = some t) : ∃ x r, st = .int x :: r ∧ t = f x :: r := by
  unfold xi1 at h
  split at h
  · rename_i x r
    cases h
    exact ⟨x, r, rfl, rfl⟩
  · cases h
theorem xl1_inv {st t : List Value} {f : Int64 → Value} (h : xl1 st f = some t) : ∃ x r, st = .long x :: r ∧ t = f x :: r := by
  unfold xl1 at h
  split at h
  · rename_i x r
    cases h
    exact ⟨x, r, rfl, rfl⟩
  · cases h
theorem xldI_inv {L : xL} {i : Nat} {v : Value} (h : xldI L i = some v) : ∃ x, v = .int x ∧ xfind L i = some (.int x) := by
  unfold xldI at h
  split at h
  · rename_i x hx
    cases h
    exact ⟨x, rfl, hx⟩
  · cases h
theorem xldL_inv {L : xL} {i : Nat} {v : Value} (h : xldL L i = some v) : ∃ x, v = .long x ∧ xfind L i = some (.long x) := by
  unfold xldL at h
  split at h
  · rename_i x hx
    cases h
    exact ⟨x, rfl, hx⟩
  · cases h
theorem xldA_inv {L : xL} {i : Nat} {v : Value} (h : xldA L i = some v) : (∃ x, v = .ref x ∧ xfind L i = some (.ref x)) ∨ (v = .null ∧ xfind L i = some .null) ∨ (∃ x, v = .retAddr x ∧ xfind L i = some (.retAddr x)) := by
  unfold xldA at h
  split at h
  · rename_i x hx
    cases h
    exact Or.inl ⟨x, rfl, hx⟩
  · rename_i hx
    cases h
    exact Or.inr (Or.inl ⟨rfl, hx⟩)
  · rename_i x hx
    cases h
    exact Or.inr (Or.inr ⟨x, rfl, hx⟩)
  · cases h
theorem xstI_inv {L : xL} {nL i : Nat} {st : List Value} {q : xL × List Value} (h : xstI L nL i st = some q) : ∃ x, st = .int x :: q.2 ∧ i < nL ∧ q.1 = xsto1 L i (.int x) := by
  unfold xstI at h
  split at h
  · rename_i x r
    split at h
    · rename_i hi
      cases h
      exact ⟨x, rfl, hi, rfl⟩
    · cases h
  · cases h
theorem xstL_inv {L : xL} {nL i : Nat} {st : List Value} {q : xL × List Value} (h : xstL L nL i st = some q) : ∃ x, st = .long x :: q.2 ∧ i + 1 < nL ∧ q.1 = xsto2 L i (.long x) := by
  unfold xstL at h
  split at h
  · rename_i x r
    split at h
    · rename_i hi
      cases h
      exact ⟨x, rfl, hi, rfl⟩
    · cases h
  · cases h
theorem xstA_inv {L : xL} {nL i : Nat} {st : List Value} {q : xL × List Value} (h : xstA L nL i st = some q) : (∃ x, st = .ref x :: q.2 ∧ i < nL ∧ q.1 = xsto1 L i (.ref x)) ∨ (st = .null :: q.2 ∧ i < nL ∧ q.1 = xsto1 L i .null) := by
  unfold xstA at h
  split at h
  · rename_i x r
    split at h
    · rename_i hi
      cases h
      exact Or.inl ⟨x, rfl, hi, rfl⟩
    · cases h
  · rename_i r
    split at h
    · rename_i hi
      cases h
      exact Or.inr ⟨rfl, hi, rfl⟩
    · cases h
  · cases h
theorem xif_inv {c : ClassFile.Cond} {pc : Nat} {off : Int} {st : List Value} {q : Nat × List Value} (h : xif c pc off st = some q) : ∃ (x : Int32) (t : Nat), st = .int x :: q.2 ∧ (pc : Int) + off = (t : Int) ∧ q.1 = bif xcmp c x 0 then t else pc + 3 := by
  unfold xif at h
  split at h
  · rename_i x r
    cases ht : xtg pc off with
    | none => rw [ht] at h; cases h
    | some t => rw [ht] at h; cases h; exact ⟨x, t, rfl, xtg_spec ht, rfl⟩
  · cases h
theorem xicmp_inv {c : ClassFile.Cond} {pc : Nat} {off : Int} {st : List Value} {q : Nat × List Value} (h : xicmp c pc off st = some q) : ∃ (x y : Int32) (t : Nat), st = .int y :: .int x :: q.2 ∧ (pc : Int) + off = (t : Int) ∧ q.1 = bif xcmp c x y then t else pc + 3 := by
  unfold xicmp at h
  split at h
  · rename_i y x r
    cases ht : xtg pc off with
    | none => rw [ht] at h; cases h
    | some t => rw [ht] at h; cases h; exact ⟨x, y, t, rfl, xtg_spec ht, rfl⟩
  · cases h
theorem xnul_inv {b : Bool} {pc : Nat} {off : Int} {st : List Value} {q : Nat × List Value} (h : xnul b pc off st = some q) : ∃ t : Nat, (pc : Int) + off = (t : Int) ∧ ((st = .null :: q.2 ∧ q.1 = bif b then t else pc + 3) ∨ (∃ x, st = .ref x :: q.2 ∧ q.1 = bif b then pc + 3 else t)) := by
  unfold xnul at h
  split at h
  · rename_i r
    cases ht : xtg pc off with
    | none => rw [ht] at h; cases h
    | some t => rw [ht] at h; cases h; exact ⟨t, xtg_spec ht, Or.inl ⟨rfl, rfl⟩⟩
  · rename_i x r
    cases ht : xtg pc off with
    | none => rw [ht] at h; cases h
    | some t => rw [ht] at h; cases h; exact ⟨t, xtg_spec ht, Or.inr ⟨x, rfl, rfl⟩⟩
  · cases h
theorem xtab_inv {d lo hi : Int} {offs : Array Int} {pc : Nat} {st : List Value} {q : Nat × List Value} (h : xtab d lo hi offs pc st = some q) : ∃ x, st = .int x :: q.2 ∧ (((x.toInt < lo ∨ hi < x.toInt) ∧ (pc : Int) + d = (q.1 : Int)) ∨ (¬ x.toInt < lo ∧ ¬ hi < x.toInt ∧ ∃ off, offs[(x.toInt - lo).toNat]? = some off ∧ (pc : Int) + off = (q.1 : Int))) := by
  unfold xtab at h
  split at h
  · rename_i x r
    split at h
    · rename_i hx
      cases ht : xtg pc d with
      | none => rw [ht] at h; cases h
      | some t => rw [ht] at h; cases h; exact ⟨x, rfl, Or.inl ⟨hx, xtg_spec ht⟩⟩
    · rename_i hx
      split at h
      · rename_i off ho
        cases ht : xtg pc off with
        | none => rw [ht] at h; cases h
        | some t => rw [ht] at h; cases h; exact ⟨x, rfl, Or.inr ⟨fun z => hx (Or.inl z), fun z => hx (Or.inr z), off, ho, xtg_spec ht⟩⟩
      · cases h
  · cases h
theorem xlook_inv {d : Int} {ps : Array (Int × Int)} {pc : Nat} {st : List Value} {q : Nat × List Value} (h : xlook d ps pc st = some q) : ∃ x, st = .int x :: q.2 ∧ (ps.toList.zip (ps.toList.drop 1)).all (fun (a, next) => a.1 < next.1) = true ∧ (pc : Int) + Op.lookupswitch.offset ps.toList d x.toInt = (q.1 : Int) := by
  unfold xlook at h
  split at h
  · rename_i x r
    split at h
    · rename_i hx
      cases ht : xtg pc (Op.lookupswitch.offset ps.toList d x.toInt) with
      | none => rw [ht] at h; cases h
      | some t => rw [ht] at h; cases h; exact ⟨x, rfl, hx, xtg_spec ht⟩
    · cases h
  · cases h
theorem xzald_inv {S : xS} {st t : List Value} (h : xzald S st = some t) : ∃ i a r n f, st = .int i :: .ref a :: r ∧ xat S a = some (.inl (.boolean, n, .inl f)) ∧ xin i n = true ∧ t = .int (f i.toNatClampNeg) :: r := by
  unfold xzald at h
  split at h
  · rename_i i a r
    split at h
    · rename_i n f hx
      split at h
      · rename_i hi
        cases h
        exact ⟨i, a, r, n, f, rfl, hx, hi, rfl⟩
      · cases h
    · cases h
  · cases h
theorem xlald_inv {S : xS} {st t : List Value} (h : xlald S st = some t) : ∃ i a r n f, st = .int i :: .ref a :: r ∧ xat S a = some (.inl (.long, n, .inr (.inl f))) ∧ xin i n = true ∧ t = .long (f i.toNatClampNeg) :: r := by
  unfold xlald at h
  split at h
  · rename_i i a r
    split at h
    · rename_i n f hx
      split at h
      · rename_i hi
        cases h
        exact ⟨i, a, r, n, f, rfl, hx, hi, rfl⟩
      · cases h
    · cases h
  · cases h
theorem xiald_inv {sc : xSc} {S : xS} {st t : List Value} (h : xiald sc S st = some t) : (∃ i a r n f, st = .int i :: .ref a :: r ∧ xat S a = some (.inl (.int, n, .inl f)) ∧ xin i n = true ∧ t = .int (f i.toNatClampNeg) :: r) ∨ (∃ i a r, st = .int i :: .retAddr a :: r ∧ xin i (sc.1 - 1) = true ∧ t = .int (sc.2 i.toNatClampNeg) :: r) := by
  unfold xiald at h
  split at h
  · rename_i i a r
    split at h
    · rename_i hi
      cases h
      exact Or.inr ⟨i, a, r, rfl, hi, rfl⟩
    · cases h
  · rename_i i a r
    split at h
    · rename_i n f hx
      split at h
      · rename_i hi
        cases h
        exact Or.inl ⟨i, a, r, n, f, rfl, hx, hi, rfl⟩
      · cases h
    · cases h
  · cases h
theorem xaald_inv {S : xS} {st t : List Value} (h : xaald S st = some t) : ∃ i a r C n f, st = .int i :: .ref a :: r ∧ xat S a = some (.inl (.object C, n, .inr (.inr (.inr (.inr f))))) ∧ xin i n = true ∧ t = va_rf (f i.toNatClampNeg) :: r := by
  unfold xaald at h
  split at h
  · rename_i i a r
    split at h
    · rename_i C n f hx
      split at h
      · rename_i hi
        cases h
        exact ⟨i, a, r, C, n, f, rfl, hx, hi, rfl⟩
      · cases h
    · cases h
  · cases h
theorem xlen_inv {sc : xSc} {S : xS} {st t : List Value} (h : xlen sc S st = some t) : (∃ a r ty x, st = .ref a :: r ∧ xat S a = some (.inl (ty, x)) ∧ t = .int (Int32.ofNat x.1) :: r) ∨ (∃ a r, st = .retAddr a :: r ∧ sc.1 ≠ 0 ∧ t = .int (Int32.ofNat (sc.1 - 1)) :: r) := by
  unfold xlen at h
  split at h
  · rename_i a r
    split at h
    · cases h
    · rename_i h0
      cases h
      exact Or.inr ⟨a, r, rfl, h0, rfl⟩
  · rename_i a r
    split at h
    · rename_i ty x hx
      cases h
      exact Or.inl ⟨a, r, ty, x, rfl, hx, rfl⟩
    · cases h
  · cases h
theorem xiast_inv {S : xS} {st : List Value} {q : List Value × xS} (h : xiast S st = some q) : ∃ x i a n f, st = .int x :: .int i :: .ref a :: q.1 ∧ xat S a = some (.inl (.int, n, .inl f)) ∧ xin i n = true ∧ q.2 = xput S a (.inl (.int, n, .inl (upd f i.toNatClampNeg x))) := by
  unfold xiast at h
  split at h
  · rename_i x i a r
    split at h
    · rename_i n f hx
      split at h
      · rename_i hi
        cases h
        exact ⟨x, i, a, n, f, rfl, hx, hi, rfl⟩
      · cases h
    · cases h
  · cases h
theorem xzast_inv {S : xS} {st : List Value} {q : List Value × xS} (h : xzast S st = some q) : ∃ x i a n f, st = .int x :: .int i :: .ref a :: q.1 ∧ xat S a = some (.inl (.boolean, n, .inl f)) ∧ xin i n = true ∧ q.2 = xput S a (.inl (.boolean, n, .inl (upd f i.toNatClampNeg (vp_nar .boolean x)))) := by
  unfold xzast at h
  split at h
  · rename_i x i a r
    split at h
    · rename_i n f hx
      split at h
      · rename_i hi
        cases h
        exact ⟨x, i, a, n, f, rfl, hx, hi, rfl⟩
      · cases h
    · cases h
  · cases h
theorem xlast_inv {S : xS} {st : List Value} {q : List Value × xS} (h : xlast S st = some q) : ∃ x i a n f, st = .long x :: .int i :: .ref a :: q.1 ∧ xat S a = some (.inl (.long, n, .inr (.inl f))) ∧ xin i n = true ∧ q.2 = xput S a (.inl (.long, n, .inr (.inl (vp_updL f i.toNatClampNeg x)))) := by
  unfold xlast at h
  split at h
  · rename_i x i a r
    split at h
    · rename_i n f hx
      split at h
      · rename_i hi
        cases h
        exact ⟨x, i, a, n, f, rfl, hx, hi, rfl⟩
      · cases h
    · cases h
  · cases h
theorem xaast_inv {cl : List vw_C} {S : xS} {st : List Value} {q : List Value × xS} (h : xaast cl S st = some q) : ∃ v i a r n f ci vs, st = .ref v :: .int i :: .ref a :: q.1 ∧ xat S a = some (.inl (.object r.1, n, .inr (.inr (.inr (.inr f))))) ∧ xat S v = some (.inr (some (ci, vs))) ∧ cl[ci]? = some r ∧ xin i n = true ∧ q.2 = xput S a (.inl (.object r.1, n, .inr (.inr (.inr (.inr (va_up f i.toNatClampNeg (some v))))))) := by
  unfold xaast at h
  split at h
  · rename_i v i a r
    split at h
    · rename_i C n f ci vs hx hv
      split at h
      · rename_i hi
        rw [Bool.and_eq_true, decide_eq_true_eq] at hi
        cases hc : cl[ci]? with
        | none => rw [hc] at hi; exact absurd hi.2 (by simp)
        | some rr =>
          rw [hc] at hi
          have hC : rr.1 = C := by simpa using hi.2
          subst hC
          cases h
          exact ⟨v, i, a, rr, n, f, ci, vs, rfl, hx, hv, hc, hi.1, rfl⟩
      · cases h
    · cases h
  · cases h
theorem xgetf_inv {S : xS} {ci k : Nat} {st t : List Value} (h : xgetf S ci k st = some t) : ∃ a r fs v, st = .ref a :: r ∧ xat S a = some (.inr (some (ci, fs))) ∧ fs[k]? = some v ∧ t = v :: r := by
  unfold xgetf at h
  split at h
  · rename_i a r
    split at h
    · rename_i cj fs hx
      split at h
      · rename_i he
        subst he
        cases hv : fs[k]? with
        | none => rw [hv] at h; cases h
        | some v => rw [hv] at h; cases h; exact ⟨a, r, fs, v, rfl, hx, hv, rfl⟩
      · cases h
    · cases h
  · cases h
theorem xputf_inv {S : xS} {ci k : Nat} {ty : FieldType} {st : List Value} {q : List Value × xS} (h : xputf S ci k ty st = some q) : ∃ v a fs, st = v :: .ref a :: q.1 ∧ xat S a = some (.inr (some (ci, fs))) ∧ k < fs.length ∧ narrow ty v = v ∧ fits ty v = true ∧ q.2 = xput S a (.inr (some (ci, fs.set k v))) := by
  unfold xputf at h
  split at h
  · rename_i v a r
    split at h
    · rename_i cj fs hx
      split at h
      · rename_i he
        obtain ⟨e1, e2, e3⟩ := he
        subst e1
        cases h
        exact ⟨v, a, fs, rfl, hx, e2, (xfit_ok e3).1, (xfit_ok e3).2, rfl⟩
      · cases h
    · cases h
  · cases h
theorem xcpy_inv {S : xS} {st : List Value} {q : List Value × xS} (h : xcpy S st = some q) : ∃ n dp a sp a0 n0 n1 f g, st = .int n :: .int dp :: .ref a :: .int sp :: .ref a0 :: q.1 ∧ xat S a0 = some (.inl (.int, n0, .inl f)) ∧ xat S a = some (.inl (.int, n1, .inl g)) ∧ ¬ sp < 0 ∧ ¬ dp < 0 ∧ ¬ n < 0 ∧ sp.toNatClampNeg + n.toNatClampNeg ≤ n0 ∧ dp.toNatClampNeg + n.toNatClampNeg ≤ n1 ∧ q.2 = xput S a (.inl (.int, n1, .inl (va_cpy f g sp.toNatClampNeg dp.toNatClampNeg n.toNatClampNeg))) := by
  unfold xcpy at h
  split at h
  · rename_i n dp a sp a0 r
    split at h
    · rename_i n0 f n1 g hx hy
      split at h
      · cases h
      · rename_i hs
        split at h
        · rename_i hz
          cases h
          exact ⟨n, dp, a, sp, a0, n0, n1, f, g, rfl, hx, hy, fun z => hs (Or.inl z), fun z => hs (Or.inr (Or.inl z)), fun z => hs (Or.inr (Or.inr z)), hz.1, hz.2, rfl⟩
        · cases h
    · cases h
  · cases h
end
section
/-- a word by its place, in two steps -/
def xq (TT : List (List Cond)) (j : Nat) : Option Cond := (TT.getD (j / 40) [])[j % 40]?
theorem xq_mem {TT : List (List Cond)} {j : Nat} {w : Cond} (h : xq TT j = some w) : w ∈ TT.flatten := by
  unfold xq at h
  have h1 := List.mem_of_getElem? h
  rcases Nat.lt_or_ge (j / 40) TT.length with q | q
  · rw [List.getD_eq_getElem?_getD, List.getElem?_eq_getElem q, Option.getD_some] at h1
    exact List.mem_flatten.mpr ⟨_, List.getElem_mem q, h1⟩
  · rw [List.getD_eq_getElem?_getD, List.getElem?_eq_none q, Option.getD_none] at h1
    cases h1
/-- what is asked of an instruction: its words, by their places -/
def xok (cl : List vw_C) (TT : List (List Cond)) (Bs : List Cond) (own : String) (ini : Bool) (xi : xI) : Bool := match xi.1 with
  | .getfield idx => (match cl[xi.2.2.1]? with
    | some q => decide (xi.2.2.2.1 < q.2.2) && decide (xq TT (xi.2.2.2.2.2) = some (Cond.fieldLink own idx (q.2.1 xi.2.2.2.1).1 (q.2.1 xi.2.2.2.1).2.1 (q.2.1 xi.2.2.2.1).2.2.1))
    | none => false)
  | .putfield idx => (match cl[xi.2.2.1]? with
    | some q => decide (xi.2.2.2.1 < q.2.2) && decide (xq TT (xi.2.2.2.2.2) = some (Cond.fieldLink own idx (q.2.1 xi.2.2.2.1).1 (q.2.1 xi.2.2.2.1).2.1 (q.2.1 xi.2.2.2.1).2.2.1)) && (!(q.2.1 xi.2.2.2.1).2.2.2 || (ini && decide ((q.2.1 xi.2.2.2.1).1 = own)))
    | none => false)
  | .new idx => (match cl[xi.2.2.1]? with
    | some q => decide (xq TT (xi.2.2.2.2.2) = some (Cond.classLink own idx q.1)) && decide (xq TT (xi.2.2.2.2.2 + 1) = some (Cond.instantiable q.1 q.2.2)) && decide (xq TT (xi.2.2.2.2.2 + 2) = some (Cond.initialized q.1))
    | none => true)
  | .newarray a => decide (xq TT (xi.2.2.2.2.2) = some (Cond.arrayClass (newarray.typeOf a)))
  | .anewarray idx => (match cl[xi.2.2.1]? with
    | some q => decide (xq TT (xi.2.2.2.2.2) = some (Cond.classLink own idx q.1)) && decide (Bs[xi.2.2.2.1]? = some (Cond.arrayOver (.object q.1)))
    | none => false)
  | .ldc idx => decide (xq TT (xi.2.2.2.2.2) = some (Cond.constant own idx (Int32.ofInt xi.2.2.2.2.1)))
  | .ldc_w idx => decide (xq TT (xi.2.2.2.2.2) = some (Cond.constant own idx (Int32.ofInt xi.2.2.2.2.1)))
  | .ldc2_w idx => decide (xq TT (xi.2.2.2.2.2) = some (Cond.constantLong own idx (Int64.ofInt xi.2.2.2.2.1)))
  | .invokespecial idx => if xi.2.2.1 = xObj then decide (xq TT (xi.2.2.2.2.2) = some (Cond.methodLink own idx objectInit)) && decide (xq TT (xi.2.2.2.2.2 + 1) = some (Cond.instanceMethod objectInit)) && decide (xq TT (xi.2.2.2.2.2 + 2) = some (Cond.code objectInit ⟨#[0xb1]⟩ 1 none)) else true
  | .invokestatic idx =>
    if xi.2.2.1 = xMax then decide (xq TT (xi.2.2.2.2.2) = some (Cond.methodLink own idx Lib.Math.max.name)) && decide (xq TT (xi.2.2.2.2.2 + 1) = some (Cond.static Lib.Math.max.name)) && decide (xq TT (xi.2.2.2.2.2 + 2) = some (Cond.initialized "java/lang/Math")) && decide (xq TT (xi.2.2.2.2.2 + 3) = some (Cond.code Lib.Math.max.name Lib.Math.max.code 2 (some .int)))
    else if xi.2.2.1 = xMin then decide (xq TT (xi.2.2.2.2.2) = some (Cond.methodLink own idx Lib.Math.min.name)) && decide (xq TT (xi.2.2.2.2.2 + 1) = some (Cond.static Lib.Math.min.name)) && decide (xq TT (xi.2.2.2.2.2 + 2) = some (Cond.initialized "java/lang/Math")) && decide (xq TT (xi.2.2.2.2.2 + 3) = some (Cond.code Lib.Math.min.name Lib.Math.min.code 2 (some .int)))
    else if xi.2.2.1 = xCopy then decide (xq TT (xi.2.2.2.2.2) = some (Cond.methodLink own idx arraycopyName)) && decide (xq TT (xi.2.2.2.2.2 + 1) = some (Cond.native arraycopyName)) && decide (xq TT (xi.2.2.2.2.2 + 2) = some (Cond.static arraycopyName)) && decide (xq TT (xi.2.2.2.2.2 + 3) = some (Cond.initialized "java/lang/System"))
    else true
  | _ => true
/-- the setting of a method's body -/
def xCx (cl : List vw_C) (fty : Nat → Nat → FieldType) (fdef : Nat → List Value) (TT : List (List Cond)) (Ts Bs : List Cond) (own : String) (ini : Bool) (cc : ByteArray) (nL : Nat) (p : Program) (R : Room) (s : State) (m : MethodId) (args : Array Value) (meth : Method) (c : Code) : Prop :=
  p.tables.exec = Jvm.exec ∧ c.code = cc ∧ c.maxLocals = nL ∧ s.vm.findClass own = some m.cls ∧ (∀ w ∈ Ts, w.before args s = true) ∧ (∀ w ∈ Bs, w.before args s = true) ∧ xCls cl fty fdef Ts ∧ (ini = true → meth.name = "<init>") ∧ 1 ≤ R.frames ∧ 16 + 12 + (nativeFrameWords "java/lang/System" "arraycopy" 5 + 11) ≤ R.locals ∧ (∀ (j : Nat) (w : Cond), xq TT j = some w → w ∈ Ts)
theorem xTq {TT : List (List Cond)} {Ts : List Cond} {args : Array Value} {s : State} (hTT : ∀ (j : Nat) (w : Cond), xq TT j = some w → w ∈ Ts) (hts : ∀ w ∈ Ts, w.before args s = true) {j : Nat} {w : Cond} (h : decide (xq TT j = some w) = true) : w.before args s = true := hts w (hTT j w (of_decide_eq_true h))
theorem xTs {Ts : List Cond} {args : Array Value} {s : State} (hts : ∀ w ∈ Ts, w.before args s = true) {j : Nat} {w : Cond} (h : decide (Ts[j]? = some w) = true) : w.before args s = true :=
  hts w (List.mem_of_getElem? (of_decide_eq_true h))
section XST
variable {p : Program} {l : Launch} {e : Env} {R : Room} {s : State} {m : MethodId} {args : Array Value} {below : List Frame} {meth : Method} {c : Code} {H : Heap} {locs : List Loc} {cells slots : Nat} {Q : State → Prop}
variable {sc : xSc} {cc : ByteArray} {pc nL : Nat} {ls : Array Slot} {D : va_G} {cl : List vw_C} {cT : FieldType → ClassId} {bs : xB} {H0 : Heap} {fty : Nat → Nat → FieldType} {fdef : Nat → List Value} {TT : List (List Cond)} {Ts Bs : List Cond} {own : String} {ini : Bool}
/-- the machine goes on from a frame of the small one, so many cells and slots further -/
def xK (p : Program) (l : Launch) (e : Env) (R : Room) (s : State) (m : MethodId) (args : Array Value) (below : List Frame) (meth : Method) (c : Code) (Q : State → Prop) (D : va_G) (cl : List vw_C) (cT : FieldType → ClassId) (bs : xB) (nL : Nat) (H0 : Heap) (cells slots : Nat) (S0 : xS) (fr : xF) : Prop :=
  ∀ (H1 : Heap) (locs1 : List Loc) (ls1 : Array Slot) (c1 s1 : Nat), c1 = cells + (fr.2.2.2.1 - S0.1) → s1 = slots + (fr.2.2.2.2.1 - S0.2.1) → xR D cl cT s bs fr.2.2.2 H1 → va_S (fun q => bs.1 ≤ q) H0 H1 locs1 → lv_has ls1 nL (cL bs fr.2.1) → W p l e R s m args below meth c H1 locs1 c1 s1 Q (F0 m fr.1 ls1 (fr.2.2.1.map (cv bs)))
set_option maxHeartbeats 4000000 in
set_option maxRecDepth 100000 in
theorem xst_sound (C : xCx cl fty fdef TT Ts Bs own ini cc nL p R s m args meth c) {xi : xI} {L : xL} {st : List Value} {S : xS} {fr : xF} (hok : xok cl TT Bs own ini xi = true) (hdg : decode cc pc = .ok (xi.1, xi.2.1)) (hlen : xi.2.1 = xlenOf xi.1 xi.2.1)
    (h : xst sc cl fty fdef nL xi pc L st S = some fr) (hX : va_X bs.2 (sc.1 - 1) sc.2 s H0) (hbl : bs.2 < H0.size) (hbA : ¬ bs.1 ≤ bs.2) (hR : xR D cl cT s bs S H) (hS : va_S (fun q => bs.1 ≤ q) H0 H locs) (hl : lv_has ls nL (cL bs L)) (hc : cells + (fr.2.2.2.1 - S.1) ≤ R.cells) (hs : slots + (fr.2.2.2.2.1 - S.2.1) ≤ R.slots)
    (kk : xK p l e R s m args below meth c Q D cl cT bs nL H0 cells slots S fr) : W p l e R s m args below meth c H locs cells slots Q (F0 m pc ls (st.map (cv bs))) := by
  obtain ⟨hx, hb, hml, hown, hts, hbs, hC, hini, hfr, hlo, hTT⟩ := C
  obtain ⟨ins, len, qa, qb, qz, qj⟩ := xi
  dsimp only at hok hdg hlen h
  cases ins with
  | aconst_null =>
    rw [hlen] at hdg
    cases h
    exact lv_null hx hb hdg (kk H locs ls _ _ (by simp) (by simp) hR hS hl)
  | aload i =>
    rw [hlen] at hdg
    obtain ⟨v, hv, rfl⟩ := Option.map_eq_some_iff.mp h
    rcases xldA_inv hv with ⟨x, rfl, hf⟩ | ⟨rfl, hf⟩ | ⟨x, rfl, hf⟩
    · exact lv_aload hx hb hdg (xl_at hl hf) (kk H locs ls _ _ (by simp) (by simp) hR hS hl)
    · exact lv_aloadN hx hb hdg (xl_at hl hf) (kk H locs ls _ _ (by simp) (by simp) hR hS hl)
    · exact lv_aload hx hb hdg (xl_at hl hf) (kk H locs ls _ _ (by simp) (by simp) hR hS hl)
  | aload_n i =>
    rw [hlen] at hdg
    obtain ⟨v, hv, rfl⟩ := Option.map_eq_some_iff.mp h
    rcases xldA_inv hv with ⟨x, rfl, hf⟩ | ⟨rfl, hf⟩ | ⟨x, rfl, hf⟩
    · exact lv_aload_n hx hb hdg rfl (xl_at hl hf) (kk H locs ls _ _ (by simp) (by simp) hR hS hl)
    · exact lv_aload_nN hx hb hdg rfl (xl_at hl hf) (kk H locs ls _ _ (by simp) (by simp) hR hS hl)
    · exact lv_aload_n hx hb hdg rfl (xl_at hl hf) (kk H locs ls _ _ (by simp) (by simp) hR hS hl)
  | iload i =>
    rw [hlen] at hdg
    obtain ⟨v, hv, rfl⟩ := Option.map_eq_some_iff.mp h
    obtain ⟨x, rfl, hf⟩ := xldI_inv hv
    exact lv_iload hx hb hdg (xl_at hl hf) (kk H locs ls _ _ (by simp) (by simp) hR hS hl)
  | iload_n i =>
    rw [hlen] at hdg
    obtain ⟨v, hv, rfl⟩ := Option.map_eq_some_iff.mp h
    obtain ⟨x, rfl, hf⟩ := xldI_inv hv
    exact lv_iload_n hx hb hdg rfl (xl_at hl hf) (kk H locs ls _ _ (by simp) (by simp) hR hS hl)
  | lload i =>
    rw [hlen] at hdg
    obtain ⟨v, hv, rfl⟩ := Option.map_eq_some_iff.mp h
    obtain ⟨x, rfl, hf⟩ := xldL_inv hv
    exact lv_lload hx hb hdg (xl_at hl hf) (kk H locs ls _ _ (by simp) (by simp) hR hS hl)
  | lload_n i =>
    rw [hlen] at hdg
    obtain ⟨v, hv, rfl⟩ := Option.map_eq_some_iff.mp h
    obtain ⟨x, rfl, hf⟩ := xldL_inv hv
    exact lv_lload_n hx hb hdg rfl (xl_at hl hf) (kk H locs ls _ _ (by simp) (by simp) hR hS hl)
  | astore i =>
    rw [hlen] at hdg
    obtain ⟨v, hv, rfl⟩ := Option.map_eq_some_iff.mp h
    obtain ⟨L1, r⟩ := v
    rcases xstA_inv hv with ⟨x, rfl, hi, e1⟩ | ⟨rfl, hi, e1⟩
    · dsimp only at e1; subst e1
      exact lv_astore hx hb hdg hl hi (cL_sto1 bs L _ (.ref x)) (fun ls1 hl1 => kk H locs ls1 _ _ (by simp) (by simp) hR hS hl1)
    · dsimp only at e1; subst e1
      exact lv_astoreN hx hb hdg hl hi (cL_sto1 bs L _ .null) (fun ls1 hl1 => kk H locs ls1 _ _ (by simp) (by simp) hR hS hl1)
  | istore i =>
    rw [hlen] at hdg
    obtain ⟨v, hv, rfl⟩ := Option.map_eq_some_iff.mp h
    obtain ⟨L1, r⟩ := v
    obtain ⟨x, rfl, hi, e1⟩ := xstI_inv hv
    dsimp only at e1; subst e1
    exact lv_istore hx hb hdg hl hi (cL_sto1 bs L _ (.int x)) (fun ls1 hl1 => kk H locs ls1 _ _ (by simp) (by simp) hR hS hl1)
  | lstore i =>
    rw [hlen] at hdg
    obtain ⟨v, hv, rfl⟩ := Option.map_eq_some_iff.mp h
    obtain ⟨L1, r⟩ := v
    obtain ⟨x, rfl, hi, e1⟩ := xstL_inv hv
    dsimp only at e1; subst e1
    exact lv_lstore hx hb hdg hl hi (cL_sto2 bs L _ (.long x)) (fun ls1 hl1 => kk H locs ls1 _ _ (by simp) (by simp) hR hS hl1)
  | astore_n i =>
    rw [hlen] at hdg
    obtain ⟨v, hv, rfl⟩ := Option.map_eq_some_iff.mp h
    obtain ⟨L1, r⟩ := v
    rcases xstA_inv hv with ⟨x, rfl, hi, e1⟩ | ⟨rfl, hi, e1⟩
    · dsimp only at e1; subst e1
      exact lv_astore_n hx hb hdg rfl hl hi (cL_sto1 bs L _ (.ref x)) (fun ls1 hl1 => kk H locs ls1 _ _ (by simp) (by simp) hR hS hl1)
    · dsimp only at e1; subst e1
      exact lv_astore_nN hx hb hdg rfl hl hi (cL_sto1 bs L _ .null) (fun ls1 hl1 => kk H locs ls1 _ _ (by simp) (by simp) hR hS hl1)
  | istore_n i =>
    rw [hlen] at hdg
    obtain ⟨v, hv, rfl⟩ := Option.map_eq_some_iff.mp h
    obtain ⟨L1, r⟩ := v
    obtain ⟨x, rfl, hi, e1⟩ := xstI_inv hv
    dsimp only at e1; subst e1
    exact lv_istore_n hx hb hdg rfl hl hi (cL_sto1 bs L _ (.int x)) (fun ls1 hl1 => kk H locs ls1 _ _ (by simp) (by simp) hR hS hl1)
  | lstore_n i =>
    rw [hlen] at hdg
    obtain ⟨v, hv, rfl⟩ := Option.map_eq_some_iff.mp h
    obtain ⟨L1, r⟩ := v
    obtain ⟨x, rfl, hi, e1⟩ := xstL_inv hv
    dsimp only at e1; subst e1
    exact lv_lstore_n hx hb hdg rfl hl hi (cL_sto2 bs L _ (.long x)) (fun ls1 hl1 => kk H locs ls1 _ _ (by simp) (by simp) hR hS hl1)
  | iinc i n =>
    rw [hlen] at hdg
    unfold xst at h
    dsimp only at h
    split at h
    · rename_i x hf
      split at h
      · rename_i hi
        cases h
        obtain ⟨k, hk⟩ := List.getElem?_of_mem (List.mem_map.mpr ⟨(i, .int x), xfind_mem hf, rfl⟩ : (i, cv bs (.int x)) ∈ cL bs L)
        exact lv_iinc (x := x) hx hb hdg hl hk rfl hi (cL_sto1 bs L i (.int (x + Int32.ofInt n))) (fun ls1 hl1 => kk H locs ls1 _ _ (by simp) (by simp) hR hS hl1)
      · cases h
    · cases h
  | iconst n =>
    rw [hlen] at hdg
    cases h
    exact lv_iconst hx hb hdg rfl (kk H locs ls _ _ (by simp) (by simp) hR hS hl)
  | bipush n =>
    rw [hlen] at hdg
    cases h
    exact lv_bipush hx hb hdg rfl (kk H locs ls _ _ (by simp) (by simp) hR hS hl)
  | sipush n =>
    rw [hlen] at hdg
    cases h
    exact lv_sipush hx hb hdg rfl (kk H locs ls _ _ (by simp) (by simp) hR hS hl)
  | lconst n =>
    rw [hlen] at hdg
    cases h
    exact lv_lconst hx hb hdg rfl (kk H locs ls _ _ (by simp) (by simp) hR hS hl)
  | ldc idx =>
    rw [hlen] at hdg
    cases h
    exact lv_ldc hx hb hown (xTq hTT hts hok) hdg (kk H locs ls _ _ (by simp) (by simp) hR hS hl)
  | ldc_w idx =>
    rw [hlen] at hdg
    cases h
    exact lv_ldcw hx hb hown (xTq hTT hts hok) hdg (kk H locs ls _ _ (by simp) (by simp) hR hS hl)
  | ldc2_w idx =>
    rw [hlen] at hdg
    cases h
    exact lv_ldc2 hx hb hown (xTq hTT hts hok) hdg (kk H locs ls _ _ (by simp) (by simp) hR hS hl)
  | iadd =>
    rw [hlen] at hdg
    obtain ⟨t, ht, rfl⟩ := Option.map_eq_some_iff.mp h
    obtain ⟨x, y, z, r, rfl, hz, rfl⟩ := xii_inv ht
    cases hz
    exact lv_iadd hx hb hdg (kk H locs ls _ _ (by simp) (by simp) hR hS hl)
  | isub =>
    rw [hlen] at hdg
    obtain ⟨t, ht, rfl⟩ := Option.map_eq_some_iff.mp h
    obtain ⟨x, y, z, r, rfl, hz, rfl⟩ := xii_inv ht
    cases hz
    exact lv_isub hx hb hdg (kk H locs ls _ _ (by simp) (by simp) hR hS hl)
  | imul =>
    rw [hlen] at hdg
    obtain ⟨t, ht, rfl⟩ := Option.map_eq_some_iff.mp h
    obtain ⟨x, y, z, r, rfl, hz, rfl⟩ := xii_inv ht
    cases hz
    exact lv_imul hx hb hdg (kk H locs ls _ _ (by simp) (by simp) hR hS hl)
  | iand =>
    rw [hlen] at hdg
    obtain ⟨t, ht, rfl⟩ := Option.map_eq_some_iff.mp h
    obtain ⟨x, y, z, r, rfl, hz, rfl⟩ := xii_inv ht
    cases hz
    exact lv_iand hx hb hdg (kk H locs ls _ _ (by simp) (by simp) hR hS hl)
  | ior =>
    rw [hlen] at hdg
    obtain ⟨t, ht, rfl⟩ := Option.map_eq_some_iff.mp h
    obtain ⟨x, y, z, r, rfl, hz, rfl⟩ := xii_inv ht
    cases hz
    exact lv_ior hx hb hdg (kk H locs ls _ _ (by simp) (by simp) hR hS hl)
  | ixor =>
    rw [hlen] at hdg
    obtain ⟨t, ht, rfl⟩ := Option.map_eq_some_iff.mp h
    obtain ⟨x, y, z, r, rfl, hz, rfl⟩ := xii_inv ht
    cases hz
    exact lv_ixor hx hb hdg (kk H locs ls _ _ (by simp) (by simp) hR hS hl)
  | ishl =>
    rw [hlen] at hdg
    obtain ⟨t, ht, rfl⟩ := Option.map_eq_some_iff.mp h
    obtain ⟨x, y, z, r, rfl, hz, rfl⟩ := xii_inv ht
    cases hz
    exact lv_ishl hx hb hdg (kk H locs ls _ _ (by simp) (by simp) hR hS hl)
  | ishr =>
    rw [hlen] at hdg
    obtain ⟨t, ht, rfl⟩ := Option.map_eq_some_iff.mp h
    obtain ⟨x, y, z, r, rfl, hz, rfl⟩ := xii_inv ht
    cases hz
    exact lv_ishr hx hb hdg (kk H locs ls _ _ (by simp) (by simp) hR hS hl)
  | iushr =>
    rw [hlen] at hdg
    obtain ⟨t, ht, rfl⟩ := Option.map_eq_some_iff.mp h
    obtain ⟨x, y, z, r, rfl, hz, rfl⟩ := xii_inv ht
    cases hz
    exact lv_iushr hx hb hdg rfl (kk H locs ls _ _ (by simp) (by simp) hR hS hl)
  | idiv =>
    rw [hlen] at hdg
    obtain ⟨t, ht, rfl⟩ := Option.map_eq_some_iff.mp h
    obtain ⟨x, y, z, r, rfl, hz, rfl⟩ := xii_inv ht
    split at hz
    · cases hz
    · rename_i hy
      cases hz
      exact lv_idiv hx hb hdg hy (kk H locs ls _ _ (by simp) (by simp) hR hS hl)
  | irem =>
    rw [hlen] at hdg
    obtain ⟨t, ht, rfl⟩ := Option.map_eq_some_iff.mp h
    obtain ⟨x, y, z, r, rfl, hz, rfl⟩ := xii_inv ht
    split at hz
    · cases hz
    · rename_i hy
      cases hz
      exact lv_irem hx hb hdg hy (kk H locs ls _ _ (by simp) (by simp) hR hS hl)
  | ineg =>
    rw [hlen] at hdg
    obtain ⟨t, ht, rfl⟩ := Option.map_eq_some_iff.mp h
    obtain ⟨x, r, rfl, rfl⟩ := xi1_inv ht
    exact lv_ineg hx hb hdg (kk H locs ls _ _ (by simp) (by simp) hR hS hl)
  | i2l =>
    rw [hlen] at hdg
    obtain ⟨t, ht, rfl⟩ := Option.map_eq_some_iff.mp h
    obtain ⟨x, r, rfl, rfl⟩ := xi1_inv ht
    exact lv_i2l hx hb hdg rfl (kk H locs ls _ _ (by simp) (by simp) hR hS hl)
  | l2i =>
    rw [hlen] at hdg
    obtain ⟨t, ht, rfl⟩ := Option.map_eq_some_iff.mp h
    obtain ⟨x, r, rfl, rfl⟩ := xl1_inv ht
    exact lv_l2i hx hb hdg rfl (kk H locs ls _ _ (by simp) (by simp) hR hS hl)
  | land =>
    rw [hlen] at hdg
    obtain ⟨t, ht, rfl⟩ := Option.map_eq_some_iff.mp h
    obtain ⟨x, y, r, rfl, rfl⟩ := xll_inv ht
    exact lv_land hx hb hdg (kk H locs ls _ _ (by simp) (by simp) hR hS hl)
  | lor =>
    rw [hlen] at hdg
    obtain ⟨t, ht, rfl⟩ := Option.map_eq_some_iff.mp h
    obtain ⟨x, y, r, rfl, rfl⟩ := xll_inv ht
    exact lv_lor hx hb hdg (kk H locs ls _ _ (by simp) (by simp) hR hS hl)
  | lxor =>
    rw [hlen] at hdg
    obtain ⟨t, ht, rfl⟩ := Option.map_eq_some_iff.mp h
    obtain ⟨x, y, r, rfl, rfl⟩ := xll_inv ht
    exact lv_lxor hx hb hdg (kk H locs ls _ _ (by simp) (by simp) hR hS hl)
  | lmul =>
    rw [hlen] at hdg
    obtain ⟨t, ht, rfl⟩ := Option.map_eq_some_iff.mp h
    obtain ⟨x, y, r, rfl, rfl⟩ := xll_inv ht
    exact lv_lmul hx hb hdg (kk H locs ls _ _ (by simp) (by simp) hR hS hl)
  | lcmp =>
    rw [hlen] at hdg
    obtain ⟨t, ht, rfl⟩ := Option.map_eq_some_iff.mp h
    obtain ⟨x, y, r, rfl, rfl⟩ := xll_inv ht
    exact W.lcmp hx hb hdg (kk H locs ls _ _ (by simp) (by simp) hR hS hl)
  | lshl =>
    rw [hlen] at hdg
    obtain ⟨t, ht, rfl⟩ := Option.map_eq_some_iff.mp h
    obtain ⟨x, y, r, rfl, rfl⟩ := xli_inv ht
    exact lv_lshl hx hb hdg rfl (kk H locs ls _ _ (by simp) (by simp) hR hS hl)
  | lshr =>
    rw [hlen] at hdg
    obtain ⟨t, ht, rfl⟩ := Option.map_eq_some_iff.mp h
    obtain ⟨x, y, r, rfl, rfl⟩ := xli_inv ht
    exact lv_lshr hx hb hdg rfl (kk H locs ls _ _ (by simp) (by simp) hR hS hl)
  | lushr =>
    rw [hlen] at hdg
    obtain ⟨t, ht, rfl⟩ := Option.map_eq_some_iff.mp h
    obtain ⟨x, y, r, rfl, rfl⟩ := xli_inv ht
    exact lv_lushr hx hb hdg rfl (kk H locs ls _ _ (by simp) (by simp) hR hS hl)
  | dup =>
    rw [hlen] at hdg
    unfold xst at h
    dsimp only at h
    split at h
    · rename_i v r
      split at h
      · rename_i hv
        cases h
        exact lv_dup hx hb hdg (by rw [cv_cat]; exact hv) (kk H locs ls _ _ (by simp) (by simp) hR hS hl)
      · cases h
    · cases h
  | dup2 =>
    rw [hlen] at hdg
    unfold xst at h
    dsimp only at h
    split at h
    · rename_i v w r
      split at h
      · rename_i hv
        cases h
        exact lv_dup2_11 hx hb hdg (by rw [cv_cat]; exact hv.1) (by rw [cv_cat]; exact hv.2) (kk H locs ls _ _ (by simp) (by simp) hR hS hl)
      · cases h
    · cases h
  | goto off =>
    rw [hlen] at hdg
    obtain ⟨t, ht, rfl⟩ := Option.map_eq_some_iff.mp h
    exact lv_goto hx hb hdg (xtg_spec ht) (kk H locs ls _ _ (by simp) (by simp) hR hS hl)
  | ifCond cnd off =>
    rw [hlen] at hdg
    obtain ⟨v, hv, rfl⟩ := Option.map_eq_some_iff.mp h
    obtain ⟨pc1, r⟩ := v
    obtain ⟨x, t, rfl, hoff, e1⟩ := xif_inv hv
    dsimp only at e1 kk; subst e1
    cases cnd with
    | eq =>
      refine lv_if_eq hx hb hdg hoff (fun hc9 => ?_) (fun hc9 => ?_)
      · have k9 := kk H locs ls cells slots (by simp) (by simp) hR hS hl
        rw [show xcmp .eq x 0 = true from by simp [xcmp, hc9]] at k9
        exact k9
      · have k9 := kk H locs ls cells slots (by simp) (by simp) hR hS hl
        rw [show xcmp .eq x 0 = false from by simp [xcmp, hc9]] at k9
        exact k9
    | ne =>
      refine lv_if_ne hx hb hdg hoff (fun hc9 => ?_) (fun hc9 => ?_)
      · have k9 := kk H locs ls cells slots (by simp) (by simp) hR hS hl
        rw [show xcmp .ne x 0 = true from by simp [xcmp, hc9]] at k9
        exact k9
      · have k9 := kk H locs ls cells slots (by simp) (by simp) hR hS hl
        rw [show xcmp .ne x 0 = false from by simp [xcmp, hc9]] at k9
        exact k9
    | lt =>
      refine lv_if_lt hx hb hdg hoff (fun hc9 => ?_) (fun hc9 => ?_)
      · have k9 := kk H locs ls cells slots (by simp) (by simp) hR hS hl
        rw [show xcmp .lt x 0 = true from by simp [xcmp, hc9]] at k9
        exact k9
      · have k9 := kk H locs ls cells slots (by simp) (by simp) hR hS hl
        rw [show xcmp .lt x 0 = false from by simp [xcmp, hc9]] at k9
        exact k9
    | ge =>
      refine lv_if_ge hx hb hdg hoff (fun hc9 => ?_) (fun hc9 => ?_)
      · have k9 := kk H locs ls cells slots (by simp) (by simp) hR hS hl
        rw [show xcmp .ge x 0 = true from by simp [xcmp, hc9]] at k9
        exact k9
      · have k9 := kk H locs ls cells slots (by simp) (by simp) hR hS hl
        rw [show xcmp .ge x 0 = false from by simp [xcmp, hc9]] at k9
        exact k9
    | gt =>
      refine lv_if_gt hx hb hdg hoff (fun hc9 => ?_) (fun hc9 => ?_)
      · have k9 := kk H locs ls cells slots (by simp) (by simp) hR hS hl
        rw [show xcmp .gt x 0 = true from by simp [xcmp, hc9]] at k9
        exact k9
      · have k9 := kk H locs ls cells slots (by simp) (by simp) hR hS hl
        rw [show xcmp .gt x 0 = false from by simp [xcmp, hc9]] at k9
        exact k9
    | le =>
      refine lv_if_le hx hb hdg hoff (fun hc9 => ?_) (fun hc9 => ?_)
      · have k9 := kk H locs ls cells slots (by simp) (by simp) hR hS hl
        rw [show xcmp .le x 0 = true from by simp [xcmp, hc9]] at k9
        exact k9
      · have k9 := kk H locs ls cells slots (by simp) (by simp) hR hS hl
        rw [show xcmp .le x 0 = false from by simp [xcmp, hc9]] at k9
        exact k9
  | if_icmp cnd off =>
    rw [hlen] at hdg
    obtain ⟨v, hv, rfl⟩ := Option.map_eq_some_iff.mp h
    obtain ⟨pc1, r⟩ := v
    obtain ⟨x, y, t, rfl, hoff, e1⟩ := xicmp_inv hv
    dsimp only at e1 kk; subst e1
    cases cnd with
    | eq =>
      refine lv_icmp_eq hx hb hdg hoff (fun hc9 => ?_) (fun hc9 => ?_)
      · have k9 := kk H locs ls cells slots (by simp) (by simp) hR hS hl
        rw [show xcmp .eq x y = true from by simp [xcmp, hc9]] at k9
        exact k9
      · have k9 := kk H locs ls cells slots (by simp) (by simp) hR hS hl
        rw [show xcmp .eq x y = false from by simp [xcmp, hc9]] at k9
        exact k9
    | ne =>
      refine lv_icmp_ne hx hb hdg hoff (fun hc9 => ?_) (fun hc9 => ?_)
      · have k9 := kk H locs ls cells slots (by simp) (by simp) hR hS hl
        rw [show xcmp .ne x y = true from by simp [xcmp, hc9]] at k9
        exact k9
      · have k9 := kk H locs ls cells slots (by simp) (by simp) hR hS hl
        rw [show xcmp .ne x y = false from by simp [xcmp, hc9]] at k9
        exact k9
    | lt =>
      refine lv_icmp_lt hx hb hdg hoff (fun hc9 => ?_) (fun hc9 => ?_)
      · have k9 := kk H locs ls cells slots (by simp) (by simp) hR hS hl
        rw [show xcmp .lt x y = true from by simp [xcmp, hc9]] at k9
        exact k9
      · have k9 := kk H locs ls cells slots (by simp) (by simp) hR hS hl
        rw [show xcmp .lt x y = false from by simp [xcmp, hc9]] at k9
        exact k9
    | ge =>
      refine lv_icmp_ge hx hb hdg hoff (fun hc9 => ?_) (fun hc9 => ?_)
      · have k9 := kk H locs ls cells slots (by simp) (by simp) hR hS hl
        rw [show xcmp .ge x y = true from by simp [xcmp, hc9]] at k9
        exact k9
      · have k9 := kk H locs ls cells slots (by simp) (by simp) hR hS hl
        rw [show xcmp .ge x y = false from by simp [xcmp, hc9]] at k9
        exact k9
    | gt =>
      refine lv_icmp_gt hx hb hdg hoff (fun hc9 => ?_) (fun hc9 => ?_)
      · have k9 := kk H locs ls cells slots (by simp) (by simp) hR hS hl
        rw [show xcmp .gt x y = true from by simp [xcmp, hc9]] at k9
        exact k9
      · have k9 := kk H locs ls cells slots (by simp) (by simp) hR hS hl
        rw [show xcmp .gt x y = false from by simp [xcmp, hc9]] at k9
        exact k9
    | le =>
      refine lv_icmp_le hx hb hdg hoff (fun hc9 => ?_) (fun hc9 => ?_)
      · have k9 := kk H locs ls cells slots (by simp) (by simp) hR hS hl
        rw [show xcmp .le x y = true from by simp [xcmp, hc9]] at k9
        exact k9
      · have k9 := kk H locs ls cells slots (by simp) (by simp) hR hS hl
        rw [show xcmp .le x y = false from by simp [xcmp, hc9]] at k9
        exact k9
  | ifnull off =>
    rw [hlen] at hdg
    obtain ⟨v, hv, rfl⟩ := Option.map_eq_some_iff.mp h
    obtain ⟨pc1, r⟩ := v
    obtain ⟨t, hoff, hcase⟩ := xnul_inv hv
    rcases hcase with ⟨rfl, e1⟩ | ⟨x, rfl, e1⟩
    · dsimp only at e1; subst e1
      exact lv_ifnullN hx hb hdg hoff (kk H locs ls _ _ (by simp) (by simp) hR hS hl)
    · dsimp only at e1; subst e1
      exact lv_ifnull hx hb hdg (kk H locs ls _ _ (by simp) (by simp) hR hS hl)
  | ifnonnull off =>
    rw [hlen] at hdg
    obtain ⟨v, hv, rfl⟩ := Option.map_eq_some_iff.mp h
    obtain ⟨pc1, r⟩ := v
    obtain ⟨t, hoff, hcase⟩ := xnul_inv hv
    rcases hcase with ⟨rfl, e1⟩ | ⟨x, rfl, e1⟩
    · dsimp only at e1; subst e1
      exact lv_ifnonnullN hx hb hdg (kk H locs ls _ _ (by simp) (by simp) hR hS hl)
    · dsimp only at e1; subst e1
      exact lv_ifnonnull hx hb hdg hoff (kk H locs ls _ _ (by simp) (by simp) hR hS hl)
  | tableswitch d lo hi offs =>
    obtain ⟨v, hv, rfl⟩ := Option.map_eq_some_iff.mp h
    obtain ⟨pc1, r⟩ := v
    obtain ⟨x, rfl, hcase⟩ := xtab_inv hv
    rcases hcase with ⟨hx1, ht⟩ | ⟨hx1, hx2, off, ho, ht⟩
    · exact lv_tableOut hx hb hdg hx1 ht (kk H locs ls _ _ (by simp) (by simp) hR hS hl)
    · exact lv_tableIn hx hb hdg hx1 hx2 ho ht (kk H locs ls _ _ (by simp) (by simp) hR hS hl)
  | lookupswitch d ps =>
    obtain ⟨v, hv, rfl⟩ := Option.map_eq_some_iff.mp h
    obtain ⟨pc1, r⟩ := v
    obtain ⟨x, rfl, hp, ht⟩ := xlook_inv hv
    exact lv_lookup hx hb hdg hp rfl ht (kk H locs ls _ _ (by simp) (by simp) hR hS hl)
  | baload =>
    rw [hlen] at hdg
    obtain ⟨t, ht, rfl⟩ := Option.map_eq_some_iff.mp h
    obtain ⟨i, a, r, n, f, rfl, ha, hi, rfl⟩ := xzald_inv ht
    exact xw_zald hx hb hR ha hi hdg (kk H locs ls _ _ (by simp) (by simp) hR hS hl)
  | laload =>
    rw [hlen] at hdg
    obtain ⟨t, ht, rfl⟩ := Option.map_eq_some_iff.mp h
    obtain ⟨i, a, r, n, f, rfl, ha, hi, rfl⟩ := xlald_inv ht
    exact xw_lald hx hb hR ha hi hdg (kk H locs ls _ _ (by simp) (by simp) hR hS hl)
  | iaload =>
    rw [hlen] at hdg
    obtain ⟨t, ht, rfl⟩ := Option.map_eq_some_iff.mp h
    rcases xiald_inv ht with ⟨i, a, r, n, f, rfl, ha, hi, rfl⟩ | ⟨i, a, r, rfl, hi, rfl⟩
    · exact xw_iald hx hb hR ha hi hdg (kk H locs ls _ _ (by simp) (by simp) hR hS hl)
    · exact va_sld hx hb hX hbl hbA hS (xin_in hi) hdg (kk H locs ls _ _ (by simp) (by simp) hR hS hl)
  | aaload =>
    rw [hlen] at hdg
    obtain ⟨t, ht, rfl⟩ := Option.map_eq_some_iff.mp h
    obtain ⟨i, a, r, C, n, f, rfl, ha, hi, rfl⟩ := xaald_inv ht
    exact xw_aald hx hb hR ha hi hdg (kk H locs ls _ _ (by simp) (by simp) hR hS hl)
  | arraylength =>
    rw [hlen] at hdg
    obtain ⟨t, ht, rfl⟩ := Option.map_eq_some_iff.mp h
    rcases xlen_inv ht with ⟨a, r, ty, x, rfl, ha, rfl⟩ | ⟨a, r, rfl, -, rfl⟩
    · exact xw_alen hx hb hR ha hdg (kk H locs ls _ _ (by simp) (by simp) hR hS hl)
    · exact va_slen hx hb hX hbl hbA hS hdg (kk H locs ls _ _ (by simp) (by simp) hR hS hl)
  | iastore =>
    rw [hlen] at hdg
    obtain ⟨v, hv, rfl⟩ := Option.map_eq_some_iff.mp h
    obtain ⟨r, S1⟩ := v
    obtain ⟨x, i, a, n, f, rfl, ha, hi, e1⟩ := xiast_inv hv
    dsimp only at e1; subst e1
    exact xw_iast hx hb hR hS ha hi hdg (fun H1 locs1 hR1 hS1 => kk H1 locs1 ls _ _ (by simp [xput]) (by simp [xput]) hR1 hS1 hl)
  | bastore =>
    rw [hlen] at hdg
    obtain ⟨v, hv, rfl⟩ := Option.map_eq_some_iff.mp h
    obtain ⟨r, S1⟩ := v
    obtain ⟨x, i, a, n, f, rfl, ha, hi, e1⟩ := xzast_inv hv
    dsimp only at e1; subst e1
    exact xw_zast hx hb hR hS ha hi hdg (fun H1 locs1 hR1 hS1 => kk H1 locs1 ls _ _ (by simp [xput]) (by simp [xput]) hR1 hS1 hl)
  | lastore =>
    rw [hlen] at hdg
    obtain ⟨v, hv, rfl⟩ := Option.map_eq_some_iff.mp h
    obtain ⟨r, S1⟩ := v
    obtain ⟨x, i, a, n, f, rfl, ha, hi, e1⟩ := xlast_inv hv
    dsimp only at e1; subst e1
    exact xw_last hx hb hR hS ha hi hdg (fun H1 locs1 hR1 hS1 => kk H1 locs1 ls _ _ (by simp [xput]) (by simp [xput]) hR1 hS1 hl)
  | aastore =>
    rw [hlen] at hdg
    obtain ⟨v, hv, rfl⟩ := Option.map_eq_some_iff.mp h
    obtain ⟨r, S1⟩ := v
    obtain ⟨v, i, a, rr, n, f, ci, vs, rfl, ha, hv2, hcl, hi, e1⟩ := xaast_inv hv
    dsimp only at e1; subst e1
    exact xw_aast hx hb hR hS ha hv2 hcl hi hdg (fun H1 locs1 hR1 hS1 => kk H1 locs1 ls _ _ (by simp [xput]) (by simp [xput]) hR1 hS1 hl)
  | getfield idx =>
    rw [hlen] at hdg
    obtain ⟨t, ht, rfl⟩ := Option.map_eq_some_iff.mp h
    obtain ⟨a, r, fs, v, rfl, ha, hv, rfl⟩ := xgetf_inv ht
    unfold xok at hok
    dsimp only at hok ha hv
    split at hok
    · rename_i q hq
      simp only [Bool.and_eq_true, decide_eq_true_eq] at hok
      exact xw_get hx hb hts hC hown hR ha hq hok.1 hv (hTT _ _ hok.2) hdg (kk H locs ls _ _ (by simp) (by simp) hR hS hl)
    · cases hok
  | putfield idx =>
    rw [hlen] at hdg
    obtain ⟨v, hv, rfl⟩ := Option.map_eq_some_iff.mp h
    obtain ⟨r, S1⟩ := v
    obtain ⟨v, a, fs, rfl, ha, hk, hn, hf, e1⟩ := xputf_inv hv
    dsimp only at e1 ha hk hn hf; subst e1
    unfold xok at hok
    dsimp only at hok
    split at hok
    · rename_i q hq
      simp only [Bool.and_eq_true, decide_eq_true_eq, Bool.or_eq_true, Bool.not_eq_true'] at hok
      refine xw_put hx hb hts hC hown hR hS ha hq hok.1.1 hk hn hf ?_ (hTT _ _ hok.1.2) hdg (fun H1 locs1 hR1 hS1 => kk H1 locs1 ls _ _ (by simp [xput]) (by simp [xput]) hR1 hS1 hl)
      rcases hok.2 with h9 | h9
      · exact Or.inl h9
      · cases hz : (q.2.1 qb).2.2.2
        · exact Or.inl rfl
        · exact Or.inr ⟨rfl, hini h9.1, h9.2⟩
    · cases hok
  | newarray a =>
    rw [hlen] at hdg
    obtain ⟨v, hv, rfl⟩ := Option.map_eq_some_iff.mp h
    unfold xnewa at hv
    split at hv
    · rename_i n r
      split at hv
      · cases hv
      · rename_i hn
        unfold xok at hok
        dsimp only at hok
        cases a with
        | int =>
          obtain ⟨S1, hw, hq⟩ := Option.map_eq_some_iff.mp hv
          cases hq
          have e0 := (xnew_spec hw).1
          have d1 : S1.1 = S.1 + 1 := by rw [e0]
          have d2 : S1.2.1 = S.2.1 + n.toNatClampNeg := by rw [e0]
          dsimp only at hc hs
          have hcb : componentBytes .int ≤ 8 := by decide +kernel
          have hmul := Nat.mul_le_mul_left n.toNatClampNeg hcb
          have hn2 : ¬ 65536 < n.toNatClampNeg := fun z => hn (Or.inr z)
          exact xw_newa (ty := .int) hx hb (xTq hTT hts hok) rfl hR hS (fun cA => rfl) (fun z => hn (Or.inl z)) (by omega) (by rw [d1] at hc; omega) (by rw [d2] at hs; omega) hw hdg (fun H1 hR1 hS1 => kk H1 locs ls _ _ (by dsimp only; rw [d1]; omega) (by dsimp only; rw [d2]; omega) hR1 hS1 hl)
        | boolean =>
          obtain ⟨S1, hw, hq⟩ := Option.map_eq_some_iff.mp hv
          cases hq
          have e0 := (xnew_spec hw).1
          have d1 : S1.1 = S.1 + 1 := by rw [e0]
          have d2 : S1.2.1 = S.2.1 + n.toNatClampNeg := by rw [e0]
          dsimp only at hc hs
          have hcb : componentBytes .boolean ≤ 8 := by decide +kernel
          have hmul := Nat.mul_le_mul_left n.toNatClampNeg hcb
          have hn2 : ¬ 65536 < n.toNatClampNeg := fun z => hn (Or.inr z)
          exact xw_newa (ty := .boolean) hx hb (xTq hTT hts hok) rfl hR hS (fun cA => rfl) (fun z => hn (Or.inl z)) (by omega) (by rw [d1] at hc; omega) (by rw [d2] at hs; omega) hw hdg (fun H1 hR1 hS1 => kk H1 locs ls _ _ (by dsimp only; rw [d1]; omega) (by dsimp only; rw [d2]; omega) hR1 hS1 hl)
        | long =>
          obtain ⟨S1, hw, hq⟩ := Option.map_eq_some_iff.mp hv
          cases hq
          have e0 := (xnew_spec hw).1
          have d1 : S1.1 = S.1 + 1 := by rw [e0]
          have d2 : S1.2.1 = S.2.1 + n.toNatClampNeg := by rw [e0]
          dsimp only at hc hs
          have hcb : componentBytes .long ≤ 8 := by decide +kernel
          have hmul := Nat.mul_le_mul_left n.toNatClampNeg hcb
          have hn2 : ¬ 65536 < n.toNatClampNeg := fun z => hn (Or.inr z)
          exact xw_newa (ty := .long) hx hb (xTq hTT hts hok) rfl hR hS (fun cA => rfl) (fun z => hn (Or.inl z)) (by omega) (by rw [d1] at hc; omega) (by rw [d2] at hs; omega) hw hdg (fun H1 hR1 hS1 => kk H1 locs ls _ _ (by dsimp only; rw [d1]; omega) (by dsimp only; rw [d2]; omega) hR1 hS1 hl)
        | _ => cases hv
    · cases hv
  | anewarray idx =>
    rw [hlen] at hdg
    unfold xst at h
    dsimp only at h
    split at h
    · rename_i q hq
      obtain ⟨v, hv, rfl⟩ := Option.map_eq_some_iff.mp h
      unfold xok at hok
      dsimp only at hok
      rw [hq] at hok
      simp only [Bool.and_eq_true] at hok
      unfold xnewq at hv
      split at hv
      · rename_i n r
        split at hv
        · cases hv
        · rename_i hn
          obtain ⟨S1, hw, hq2⟩ := Option.map_eq_some_iff.mp hv
          cases hq2
          have e0 := (xnew_spec hw).1
          have d1 : S1.1 = S.1 + 1 := by rw [e0]
          have d2 : S1.2.1 = S.2.1 + n.toNatClampNeg := by rw [e0]
          dsimp only at hc hs
          have hn2 : ¬ 65536 < n.toNatClampNeg := fun z => hn (Or.inr z)
          exact xw_newq hx hb hown (xTq hTT hts hok.1) (xTs hbs hok.2) hR hS (fun z => hn (Or.inl z)) (by omega) (by rw [d1] at hc; omega) (by rw [d2] at hs; omega) hw hdg (fun H1 hR1 hS1 => kk H1 locs ls _ _ (by dsimp only; rw [d1]; omega) (by dsimp only; rw [d2]; omega) hR1 hS1 hl)
      · cases hv
    · cases h
  | new idx =>
    rw [hlen] at hdg
    unfold xst at h
    dsimp only at h
    split at h
    · rename_i q hq
      obtain ⟨S1, hw, rfl⟩ := Option.map_eq_some_iff.mp h
      unfold xok at hok
      dsimp only at hok
      rw [hq] at hok
      simp only [Bool.and_eq_true, decide_eq_true_eq] at hok
      have e0 := (xnew_spec hw).1
      have d1 : S1.1 = S.1 + 1 := by rw [e0]
      have d2 : S1.2.1 = S.2.1 + q.2.2 := by rw [e0]
      dsimp only at hc hs
      exact xw_new hx hb hts hC hown hR hS hq hw (hTT _ _ hok.1.1) (hTT _ _ hok.1.2) (hTT _ _ hok.2) (by rw [d1] at hc; omega) (by rw [d2] at hs; omega) hdg (fun H1 hR1 hS1 => kk H1 locs ls _ _ (by dsimp only; rw [d1]; omega) (by dsimp only; rw [d2]; omega) hR1 hS1 hl)
    · cases h
  | invokespecial idx =>
    rw [hlen] at hdg
    unfold xst at h
    dsimp only at h
    unfold xok at hok
    dsimp only at hok
    split at h
    · rename_i hqa
      rw [if_pos hqa] at hok
      simp only [Bool.and_eq_true] at hok
      obtain ⟨v, hv, rfl⟩ := Option.map_eq_some_iff.mp h
      unfold xsp at hv
      split at hv
      · cases hv
      · rename_i hw
        rw [if_pos rfl] at hv
        split at hv
        · rename_i a r
          cases hv
          have hws : xw r ≤ 16 := by unfold xw at hw ⊢; simp [Value.category] at hw ⊢; omega
          exact W.objInit hx hb hown (xTq hTT hts hok.1.1) (xTq hTT hts hok.1.2) (xTq hTT hts hok.2) rfl (by rw [hml]; exact hl.1) rfl hdg hfr (by rw [cv_sum]; show 2 * 0 + _ + _ ≤ _; omega) (kk H locs ls _ _ (by simp) (by simp) hR hS hl)
        · cases hv
    · cases h
  | invokestatic idx =>
    rw [hlen] at hdg
    unfold xst at h
    dsimp only at h
    unfold xok at hok
    dsimp only at hok
    split at h
    · cases h
    · rename_i hqo
      obtain ⟨v, hv, rfl⟩ := Option.map_eq_some_iff.mp h
      unfold xsp at hv
      split at hv
      · cases hv
      · rename_i hw
        split at hv
        · rename_i h1
          rw [if_pos h1] at hok
          simp only [Bool.and_eq_true] at hok
          obtain ⟨t, ht, e9⟩ := Option.map_eq_some_iff.mp hv
          cases e9
          obtain ⟨x, y, z, r, rfl, hz, rfl⟩ := xii_inv ht
          cases hz
          have hws : xw r ≤ 16 := by unfold xw at hw ⊢; simp [Value.category] at hw ⊢; omega
          exact va_mmax hx hb (by rw [hml]; exact hl.1.symm) hown (xTq hTT hts hok.1.1.1) (xTq hTT hts hok.1.1.2) (xTq hTT hts hok.1.2) (xTq hTT hts hok.2) hfr (by rw [cv_sum]; omega) (by simp at hc; omega) (by simp at hs; omega) hdg (kk H locs ls _ _ (by simp) (by simp) hR hS hl)
        · rename_i h1
          rw [if_neg h1] at hok
          split at hv
          · rename_i h2
            rw [if_pos h2] at hok
            simp only [Bool.and_eq_true] at hok
            obtain ⟨t, ht, e9⟩ := Option.map_eq_some_iff.mp hv
            cases e9
            obtain ⟨x, y, z, r, rfl, hz, rfl⟩ := xii_inv ht
            cases hz
            have hws : xw r ≤ 16 := by unfold xw at hw ⊢; simp [Value.category] at hw ⊢; omega
            exact va_mmin hx hb (by rw [hml]; exact hl.1.symm) hown (xTq hTT hts hok.1.1.1) (xTq hTT hts hok.1.1.2) (xTq hTT hts hok.1.2) (xTq hTT hts hok.2) hfr (by rw [cv_sum]; omega) (by simp at hc; omega) (by simp at hs; omega) hdg (kk H locs ls _ _ (by simp) (by simp) hR hS hl)
          · rename_i h2
            rw [if_neg h2] at hok
            split at hv
            · rename_i h3
              rw [if_pos h3] at hok
              simp only [Bool.and_eq_true] at hok
              obtain ⟨r, S1⟩ := v
              obtain ⟨n, dp, a, sp, a0, n0, n1, f, g, rfl, hq0, hq1, i1, i2, i3, i4, i5, e1⟩ := xcpy_inv hv
              dsimp only at e1; subst e1
              have hws : xw r ≤ 16 := by unfold xw at hw ⊢; simp [Value.category] at hw ⊢; omega
              have h7 : xw r + (nativeFrameWords "java/lang/System" "arraycopy" 5 + 11) ≤ R.locals := by omega
              exact xw_copy hx hb (by rw [hml]; exact hl.1.symm) hown (xTq hTT hts hok.1.1.1) (xTq hTT hts hok.1.1.2) (xTq hTT hts hok.1.2) (xTq hTT hts hok.2) hR hS hq0 hq1 i1 i2 i3 i4 i5 hfr (by rw [cv_sum]; exact h7) hdg (fun H1 locs1 hR1 hS1 => kk H1 locs1 ls _ _ (by simp [xput]) (by simp [xput]) hR1 hS1 hl)
            · cases hv
  | _ => cases h
end XST
end
section
/-! Whole methods of the small machine: a run of a body over what its callees answer; then the callees by depth. -/
/-- a method: (name, bytes, locals, answer), (how many arguments, the receiver counts; 0 static 1 virtual 2 constructor 3 a nest mate's constructor; its class's number; its words' place), (frames, words of locals), its instructions by pc, its handlers -/
abbrev xM : Type := (MethodName × ByteArray × Nat × Option FieldType) × (Nat × Nat × Nat × Nat) × (Nat × Nat) × List (Option xI) × List (Nat × Nat × Nat × Nat)
abbrev xnm (M : xM) : MethodName := M.1.1
abbrev xbc (M : xM) : ByteArray := M.1.2.1
abbrev xmx (M : xM) : Nat := M.1.2.2.1
abbrev xrt (M : xM) : Option FieldType := M.1.2.2.2
abbrev xna (M : xM) : Nat := M.2.1.1
abbrev xkd (M : xM) : Nat := M.2.1.2.1
abbrev xcn (M : xM) : Nat := M.2.1.2.2.1
abbrev xwp (M : xM) : Nat := M.2.1.2.2.2
abbrev xfr (M : xM) : Nat := M.2.2.1.1
abbrev xlo (M : xM) : Nat := M.2.2.1.2
abbrev xcd (M : xM) : List (Option xI) := M.2.2.2.1
abbrev xhs (M : xM) : List (Nat × Nat × Nat × Nat) := M.2.2.2.2
def xcw (M : xM) : Cond := match xhs M with
  | [] => .code (xnm M) (xbc M) (xmx M) (xrt M)
  | _ => .codeWith (xnm M) (xbc M) (xmx M) (xrt M) (xhs M)
/-- an answer -/
def xend (M : xM) (i : Instr) (st : List Value) : Option (Option Value) := match i with
  | .ireturn => (match st, xrt M with
    | [.int v], some ty => if xfit ty (.int v) = true then some (some (.int v)) else none
    | _, _ => none)
  | .lreturn => (match st, xrt M with
    | [.long v], some .long => some (some (.long v))
    | _, _ => none)
  | .areturn => (match st, xrt M with
    | [.ref a], some (.object _) => some (some (.ref a))
    | [.null], some (.object _) => some (some .null)
    | _, _ => none)
  | .return_ => (match st, xrt M with
    | [], none => some none
    | _, _ => none)
  | _ => none
/-- the receiver, of the class that the method is of -/
def xrcv (S : xS) (ci : Nat) (vs : List Value) : Bool := match vs with
  | .ref b :: _ => (match xat S b with
    | some (.inr (some (cj, _))) => decide (cj = ci)
    | _ => false)
  | _ => false
def xrf1 (vs : List Value) : Bool := match vs with
  | .ref _ :: _ => true
  | _ => false
/-- the arguments of a call, and what lies below them -/
def xargs (N : xM) (i : Instr) (st : List Value) (S : xS) : Option (List Value × List Value) :=
  if xna N ≤ st.length ∧ xw (st.drop (xna N)) ≤ 8 ∧ xkd N ≤ 3 then
    (match i with
    | .invokestatic _ => if xkd N = 0 then some ((st.take (xna N)).reverse, st.drop (xna N)) else none
    | .invokevirtual _ => if xkd N = 1 ∧ xrcv S (xcn N) (st.take (xna N)).reverse = true then some ((st.take (xna N)).reverse, st.drop (xna N)) else none
    | .invokespecial _ => if (xkd N = 2 ∨ xkd N = 3) ∧ xrf1 (st.take (xna N)).reverse = true then some ((st.take (xna N)).reverse, st.drop (xna N)) else none
    | _ => none)
  else none
def xcal (prog : List xM) (xi : xI) (st : List Value) (S : xS) : Option (List Value × List Value) := match prog[xi.2.2.1]? with
  | some N => xargs N xi.1 st S
  | none => none
/-- 'throw new' of a kind of exception -/
def xthr (M : xM) (xi : xI) (st : List Value) (S : xS) : Option (Nat × xS) := match xi.1 with
  | .new _ => if 1000 ≤ xi.2.2.1 ∧ xw st ≤ 8 ∧ xhs M = [] then (xnew S (.inr none) 6).map fun S' => (xi.2.2.1 - 1000, S') else none
  | _ => none
/-- the handler that takes a kind of exception -/
def xhand (ck : Nat → Option Nat) : List (Nat × Nat × Nat × Nat) → Nat → Nat → Option Nat
  | [], _, _ => none
  | (a, b, h, t) :: r, pc, k => if a ≤ pc ∧ pc < b ∧ ck t = some k ∧ k < 3 then some h else xhand ck r pc k
def xfil (L : xL) (i : Nat) : xL := L.filter (fun q => !(q.1 == i) && !(q.1 + 1 == i && q.2.category == 2))
/-- the handler's first instruction lays the exception into a local: behind it nothing is known of that local -/
def xhp (M : xM) (hp : Nat) (L : xL) : Option (Nat × xL) := match (xcd M)[hp]? with
  | some (some xi) => if xi.2.1 = xlenOf xi.1 xi.2.1 then (match xi.1 with
    | .astore i => if i < xmx M then some (hp + 2, xfil L i) else none
    | .astore_n i => if i.val < xmx M then some (hp + 1, xfil L i.val) else none
    | _ => none) else none
  | _ => none
/-- the callee has no handlers of its own -/
def xcH (prog : List xM) (xi : xI) : Bool := match prog[xi.2.2.1]? with
  | some N => decide (xhs N = [])
  | none => false
def xisp : Instr → Bool
  | .invokespecial _ => true
  | _ => false
def xrun (sc : xSc) (cl : List vw_C) (fty : Nat → Nat → FieldType) (fdef : Nat → List Value) (ck : Nat → Option Nat) (prog : List xM) (M : xM) (ex : Nat → List Value → xS → Option (xO × xS)) : Nat → Nat → xL → List Value → xS → Option (xO × xS)
  | 0, _, _, _, _ => none
  | f + 1, pc, L, st, S => match (xcd M)[pc]? with
    | some (some xi) =>
      if xi.2.1 = xlenOf xi.1 xi.2.1 then
        match xend M xi.1 st with
        | some v => some (.inl v, S)
        | none => match xcal prog xi st S with
          | some (vs, r) => (match ex xi.2.2.1 vs S with
            | some (.inl v, S1) => xrun sc cl fty fdef ck prog M ex f (pc + 3) L (v.toList ++ r) S1
            | some (.inr k, S1) => if xisp xi.1 = true ∨ xcH prog xi = false then none else (match xhs M with
              | [] => some (.inr k, S1)
              | _ => (match xhand ck (xhs M) pc k with
                | some hp => (match xhp M hp L with
                  | some (pc', L') => xrun sc cl fty fdef ck prog M ex f pc' L' [] S1
                  | none => none)
                | none => none))
            | none => none)
          | none => (match xthr M xi st S with
            | some (k, S1) => some (.inr k, S1)
            | none => (match xst sc cl fty fdef (xmx M) xi pc L st S with
              | some (pc', L', st', S') => xrun sc cl fty fdef ck prog M ex f pc' L' st' S'
              | none => none))
      else none
    | _ => none
def xsl (vs : List Value) : Nat := xw vs
/-- a method, its callees by depth -/
def xex (sc : xSc) (cl : List vw_C) (fty : Nat → Nat → FieldType) (fdef : Nat → List Value) (ck : Nat → Option Nat) (prog : List xM) : Nat → Nat → Nat → List Value → xS → Option (xO × xS)
  | 0, _, _, _, _ => none
  | d + 1, F, a, vs, S => match prog[a]? with
    | some M => if xw vs ≤ xmx M then xrun sc cl fty fdef ck prog M (xex sc cl fty fdef ck prog d F) F 0 (lv_args 0 vs) [] S else none
    | none => none
/-! What a method's run says of the machine -/
/-- words that go along with the tables as they warm, though not every list may hold them -/
def xBw : Cond → Bool
  | .arrayOver (.object _) => true
  | .declares _ => true
  | .castable _ _ => true
  | .methodLinkNest _ _ _ _ => true
  | _ => false
theorem xBw_use {w : Cond} (hw : xBw w = true) {A : Array Value} {U : State} (h : va_Nw w U) : w.before A U = true := by
  unfold xBw at hw
  split at hw
  · exact va_AO.use h
  · exact va_Nw.use rfl h
  · exact va_Nw.use rfl h
  · exact va_Nw.use rfl h
  · cases hw
theorem xBw_warm {w : Cond} (hw : xBw w = true) {s U : State} (hW : s.WarmedH U.vm) (h : va_Nw w s) : va_Nw w U := by
  unfold xBw at hw
  split at hw
  · exact va_AO.moved hW.alike h
  · exact va_Nw.warmD hW h
  · exact va_Nw.warmC hW h
  · exact va_Nw.warmM hW h
  · cases hw
/-- what must be there for a throw, a catch and other links, besides the words -/
abbrev xE : Type := List (String × Nat × String) × List Cond × List (String × String)
def xTh (sc : xSc) (E : xE) (bs : xB) (U : State) (H : Heap) : Prop := (va_X bs.2 (sc.1 - 1) sc.2 U H ∧ bs.2 < bs.1) ∧ vx_Zq Bundle.tN "UNASSIGNED_STACK" Bundle.steD (fun q => bs.1 ≤ q) U H ∧ vx_Zq Bundle.tN "SUPPRESSED_SENTINEL" Bundle.listD (fun q => bs.1 ≤ q) U H ∧ (∀ q ∈ E.1, ∃ sa : Nat, vk_R q.1 q.2.1 q.2.2 sa U) ∧ (∀ w ∈ E.2.1, va_Nw w U) ∧ ∀ q ∈ E.2.2, va_Nc q.1 q.2 U
theorem xTh.moved {sc : xSc} {E : xE} (hE : ∀ w ∈ E.2.1, xBw w = true) {bs : xB} {s U : State} {H : Heap} (hW : s.WarmedH U.vm) (h : xTh sc E bs s H) : xTh sc E bs U H :=
  ⟨⟨h.1.1.moved hW.alike, h.1.2⟩, vx_Zq.moved hW.alike h.2.1, vx_Zq.moved hW.alike h.2.2.1, fun q hq => by obtain ⟨sa, z⟩ := h.2.2.2.1 q hq; exact ⟨sa, vk_R.warm hW z⟩, fun w hw => xBw_warm (hE w hw) hW (h.2.2.2.2.1 w hw), fun q hq => (h.2.2.2.2.2 q hq).moved hW.alike⟩
theorem xTh.kept {sc : xSc} {E : xE} {bs : xB} {s : State} {H H1 : Heap} (h : xTh sc E bs s H) (hq : ∀ a : Nat, a < H.size → ¬ bs.1 ≤ a → H1[a]? = H[a]?) : xTh sc E bs s H1 := by
  refine ⟨⟨?_, h.1.2⟩, h.2.1.kept hq, h.2.2.1.kept hq, h.2.2.2⟩
  obtain ⟨scr, h1, h2⟩ := id h.1.1
  exact h.1.1.kept (hq _ (Array.getElem?_eq_some_iff.mp h1).1 (Nat.not_le.mpr h.1.2))
def xPc (sc : xSc) (E : xE) (D : va_G) (cl : List vw_C) (cT : FieldType → ClassId) (bs : xB) (vs : List Value) (S : xS) : Array Value → State → Prop := va_Pc (vs.map (cv bs)) (fun U => xR D cl cT U bs S U.heap ∧ xTh sc E bs U U.heap)
def xQr (D : va_G) (cl : List vw_C) (cT : FieldType → ClassId) (bs : xB) (v : Option Value) (S : xS) : Array Value → State → Outcome → State → Prop := fun _ st oc t => oc = .returned (v.map (cv bs)) ∧ xR D cl cT t bs S t.heap ∧ va_F (fun q => bs.1 ≤ q) st t
def xQx (exN : Nat → String) (D : va_G) (cl : List vw_C) (cT : FieldType → ClassId) (bs : xB) (k : Nat) (S : xS) : String → State → State → Prop := fun E st t => E = exN k ∧ xR D cl cT t bs S t.heap ∧ va_F (fun q => bs.1 ≤ q) st t
def xNo : Array Value → State → Outcome → State → Prop := fun _ _ _ _ => False
def xrm (M : xM) (S S' : xS) : Room := { frames := xfr M, cells := S'.1 - S.1, slots := S'.2.1 - S.2.1, locals := xlo M }
/-- the contract of one run -/
def xMt (sc : xSc) (E : xE) (exN : Nat → String) (Ts : List Cond) (l : Launch) (D : va_G) (cl : List vw_C) (cT : FieldType → ClassId) (bs : xB) (M : xM) (vs : List Value) (S : xS) (o : xO) (S' : xS) : Prop := match o with
  | .inl v => Met l (xnm M) (xcw M :: Ts) (xrm M S S') (xPc sc E D cl cT bs vs S) (xQr D cl cT bs v S') (S'.1 - S.1) (S'.2.1 - S.2.1) (fun q => bs.1 ≤ q)
  | .inr k => vx_Met l (xnm M) (xcw M :: Ts) (xrm M S S') (xPc sc E D cl cT bs vs S) xNo (xQx exN D cl cT bs k S') (S'.1 - S.1) (S'.2.1 - S.2.1) (fun q => bs.1 ≤ q)
theorem xPc_blind {sc : xSc} {E : xE} (hE : ∀ w ∈ E.2.1, xBw w = true) {D : va_G} {cl : List vw_C} {cT : FieldType → ClassId} {bs : xB} {vs : List Value} {S : xS} : FrameBlind (xPc sc E D cl cT bs vs S) := by
  intro a U g mk q
  obtain ⟨q0, q1, q2⟩ := q
  exact ⟨q0, xR.moved (s := U) (U := U.calling g mk a) (Vm.Alike.refl U.vm) q1, xTh.moved (U := U.calling g mk a) hE (State.WarmedH.refl U) q2⟩
section XCL
variable {p : Program} {l : Launch} {e : Env} {R : Room} {s : State} {m : MethodId} {args : Array Value} {below : List Frame} {meth : Method} {c : Code} {H : Heap} {locs : List Loc} {cells slots mc ms : Nat} {Q : State → Prop}
variable {cc : ByteArray} {pc : Nat} {ls : Array Slot} {st0 rest : List Value} {D : va_G} {cl : List vw_C} {cT : FieldType → ClassId} {bs : xB} {S : xS} {H0 : Heap} {a : Array Value}
theorem xw_ret {v : Option Value} (hr : va_Run p l e R s m args below meth c H locs cells slots mc ms (F0 m pc ls st0) rest (xQr D cl cT bs v S a) (fun q => bs.1 ≤ q)) (hS : va_S (fun q => bs.1 ≤ q) H0 H locs)
    (kk : ∀ (H1 : Heap) (locs1 : List Loc), xR D cl cT s bs S H1 → va_S (fun q => bs.1 ≤ q) H0 H1 locs1 → W p l e R s m args below meth c H1 locs1 (cells + mc) (slots + ms) Q (F0 m (pc + 3) ls ((v.map (cv bs)).toList ++ rest))) : W p l e R s m args below meth c H locs cells slots Q (F0 m pc ls st0) := by
  intro T hT X
  obtain ⟨v', st₀, t, T', L, h0, X', hL, e1, e2, ⟨hv, hR', hF⟩, st⟩ := hr T hT X
  cases hv
  obtain ⟨k1, k2, k3⟩ := vx_keep h0 e1 hS (fun q _ h => h) (fun q h => h) hL hF
  have hal : s.vm.Alike t.vm := by rw [← e2]; exact X'.warmed.alike
  obtain ⟨t2, a1, b1⟩ := kk T'.heap (locs ++ L) (by rw [e1]; exact hR'.moved hal.symm) k3 T' rfl X'
  exact ⟨t2, st t2 a1, b1⟩
theorem xw_thr {exN : Nat → String} {k : Nat} (hr : vx_Run p l e R s m args below meth c H locs cells slots mc ms (F0 m pc ls st0) rest (xNo a) (xQx exN D cl cT bs k S) (fun q => bs.1 ≤ q)) (hS : va_S (fun q => bs.1 ≤ q) H0 H locs)
    (kx : ∀ (H1 : Heap) (locs1 : List Loc) (q : Addr) (ce : Cell), xR D cl cT s bs S H1 → va_S (fun q => bs.1 ≤ q) H0 H1 locs1 → H1[q]? = some ce → ce.vm = .none → s.vm.findClass (exN k) = some ce.cls → vx_W p l e R s m args below meth c H1 locs1 (cells + mc) (slots + ms) Q (F0 m pc ls rest) q) : W p l e R s m args below meth c H locs cells slots Q (F0 m pc ls st0) := by
  intro T hT X
  rcases hr T hT X with ⟨v, st₀, t, T', L, h0, X', hL, e1, e2, hno, st⟩ | ⟨q, st₀, t, T', L, E, ce, h0, X', hL, e1, e2, ⟨hE, hR', hF⟩, hce, hcv, hcl, st⟩
  · exact hno.elim
  · subst hE
    obtain ⟨k1, k2, k3⟩ := vx_keep h0 e1 hS (fun q _ h => h) (fun q h => h) hL hF
    have hal : s.vm.Alike t.vm := by rw [← e2]; exact X'.warmed.alike
    obtain ⟨t2, a1, b1⟩ := kx T'.heap (locs ++ L) q ce (by rw [e1]; exact hR'.moved hal.symm) k3 (by rw [e1]; exact hce) hcv hcl T' rfl X'
    exact ⟨t2, st.trans a1, b1⟩
end XCL
end
section
/-! The small machine's runs are the machine's. -/
/-- a call's words and room -/
def xcok (TT : List (List Cond)) (Bs : List Cond) (own host : String) (M N : xM) (idx : Nat) (xi : xI) : Bool :=
  (if xkd N = 3 then decide (Bs[xi.2.2.2.2.2]? = some (Cond.methodLinkNest own idx (xnm N) host)) else decide (xq TT (xi.2.2.2.2.2) = some (Cond.methodLink own idx (xnm N)))) &&
  decide (xfr N + 1 ≤ xfr M) && decide (8 + (xmx N + 11) + xlo N ≤ xlo M) && (decide (xhs N = []) || decide (xkd N = 0))
/-- what a run needs of the program beside the tables: the classes of the exceptions, the classes above them, the handlers' types, the throws' words -/
abbrev xG : Type := (Nat → String) × List String × (Nat → Option Nat) × List (String × Nat × Nat) × String
abbrev xexN (G : xG) : Nat → String := G.1
abbrev xnms (G : xG) : List String := G.2.1
abbrev xck (G : xG) : Nat → Option Nat := G.2.2.1
abbrev xths (G : xG) : List (String × Nat × Nat) := G.2.2.2.1
abbrev xhost (G : xG) : String := G.2.2.2.2
/-- a throw's words, room and instructions -/
def xtok (G : xG) (E : xE) (TT : List (List Cond)) (M : xM) (pc idx : Nat) (xi : xI) : Bool :=
  decide (xq TT (xi.2.2.2.2.2) = some (Cond.classLink (xnm M).cls idx (xexN G (xi.2.2.1 - 1000)))) && decide (xq TT (xi.2.2.2.2.2 + 1) = some (Cond.initialized (xexN G (xi.2.2.1 - 1000)))) &&
  decide (((xnm M).cls, xi.2.2.2.2.1.toNat, xi.2.2.1 - 1000) ∈ xths G) && E.1.any (fun q => decide (q.1 = (xnm M).cls) && decide (q.2.1 = xi.2.2.2.1)) &&
  decide ((xnms G).length + 3 < xfr M) && decide (8 + (13 * ((xnms G).length + 1) + 43) ≤ xlo M) &&
  decide (decode (xbc M) (pc + 3) = .ok (.dup, 1)) &&
  ((decide (decode (xbc M) (pc + 4) = .ok (.ldc xi.2.2.2.1, 2)) && decide (decode (xbc M) (pc + 6) = .ok (.invokespecial xi.2.2.2.2.1.toNat, 3)) && decide (decode (xbc M) (pc + 9) = .ok (.athrow, 1))) ||
   (decide (decode (xbc M) (pc + 4) = .ok (.ldc_w xi.2.2.2.1, 3)) && decide (decode (xbc M) (pc + 7) = .ok (.invokespecial xi.2.2.2.2.1.toNat, 3)) && decide (decode (xbc M) (pc + 10) = .ok (.athrow, 1))))
def xokc (G : xG) (E : xE) (TT : List (List Cond)) (prog : List xM) (M : xM) (pc : Nat) (xi : xI) : Bool := match xi.1 with
  | .invokestatic idx => (match prog[xi.2.2.1]? with
    | some N => xcok TT E.2.1 (xnm M).cls (xhost G) M N idx xi
    | none => true)
  | .invokevirtual idx => (match prog[xi.2.2.1]? with
    | some N => xcok TT E.2.1 (xnm M).cls (xhost G) M N idx xi
    | none => true)
  | .invokespecial idx => (match prog[xi.2.2.1]? with
    | some N => xcok TT E.2.1 (xnm M).cls (xhost G) M N idx xi
    | none => true)
  | .new idx => if 1000 ≤ xi.2.2.1 then xtok G E TT M pc idx xi else true
  | _ => true
/-- a method's own words and numbers -/
def xmok (cl : List vw_C) (TT : List (List Cond)) (N : xM) : Bool :=
  plainName (xnm N).cls && decide ((xnm N).cls ≠ "java/lang/invoke/MethodHandle") && decide ((xnm N).cls ≠ "java/lang/invoke/VarHandle") &&
  (decide (xkd N = 9) || decide (xq TT (xwp N) = some (if xkd N = 0 then Cond.static (xnm N) else Cond.instanceMethod (xnm N)))) && (decide (xkd N = 9) || decide (xq TT (xwp N + 1) = some (Cond.initialized (xnm N).cls))) &&
  (if xkd N = 9 then true else if xkd N = 0 then decide ((parseMethodDescriptor (xnm N).desc).map (fun d => d.parameters.length) = some (xna N)) else decide (1 ≤ xna N) && decide ((parseMethodDescriptor (xnm N).desc).map (fun d => d.parameters.length) = some (xna N - 1))) &&
  (if xkd N = 1 then decide (xq TT (xwp N + 2) = some (Cond.selects (xnm N).cls (xnm N) (xnm N))) && decide ((cl[xcn N]?).map (fun q => q.1) = some (xnm N).cls) else true) &&
  (if xkd N = 2 ∨ xkd N = 3 then decide ((xnm N).name = "<init>") && decide (xrt N = none) else true) && decide (1 ≤ xfr N) && decide (16 + 12 + (nativeFrameWords "java/lang/System" "arraycopy" 5 + 11) ≤ xlo N)
/-- the program is as the small machine takes it -/
def xPg (cl : List vw_C) (fty : Nat → Nat → FieldType) (fdef : Nat → List Value) (G : xG) (E : xE) (TT : List (List Cond)) (Ts : List Cond) (prog : List xM) : Prop :=
  xCls cl fty fdef Ts ∧ Ts.all goodWord = true ∧ (∀ w ∈ E.2.1, xBw w = true) ∧ (∀ M ∈ prog, xmok cl TT M = true) ∧
  (∀ M ∈ prog, ∀ (pc : Nat) (xi : xI), (xcd M)[pc]? = some (some xi) → decode (xbc M) pc = .ok (xi.1, xi.2.1) ∧ xok cl TT E.2.1 (xnm M).cls (decide (xkd M = 2 ∨ xkd M = 3)) xi = true ∧ xokc G E TT prog M pc xi = true) ∧
  (∀ q ∈ xths G, Bundle.fit (xexN G q.2.2) = true ∧ (∀ n ∈ xnms G, Bundle.fit n = true) ∧ (∀ w ∈ vx_atS q.1 q.2.1 (xexN G q.2.2) (xnms G), (w ∈ Ts ∨ w ∈ E.2.1) ∧ vx_ot w = true)) ∧
  (∀ M ∈ prog, ∀ h ∈ xhs M, h.2.2.2 ≠ 0 ∧ ∃ (k : Nat) (nm : String), xck G h.2.2.2 = some k ∧ Cond.classLink (xnm M).cls h.2.2.2 nm ∈ Ts ∧ Cond.castable (xexN G k) nm ∈ E.2.1 ∧ ∀ k2 : Nat, k2 < 3 → k2 ≠ k → (xexN G k2, nm) ∈ E.2.2) ∧
  (∀ M ∈ prog, xkd M ≠ 9 → xcw M ∈ Ts) ∧ (∀ (j : Nat) (w : Cond), xq TT j = some w → w ∈ Ts)
section XSD
variable {p : Program} {l : Launch} {e : Env} {R : Room} {s : State} {m : MethodId} {args : Array Value} {below : List Frame} {meth : Method} {c : Code} {H : Heap} {locs : List Loc} {cells slots : Nat} {Q : State → Prop}
variable {sc : xSc} {pc : Nat} {ls : Array Slot} {D : va_G} {cl : List vw_C} {cT : FieldType → ClassId} {bs : xB} {H0 : Heap} {fty : Nat → Nat → FieldType} {fdef : Nat → List Value} {TT : List (List Cond)} {Ts : List Cond} {G : xG} {E : xE} {prog : List xM} {M N : xM}
/-- the end of a body -/
def xEnd (G : xG) (D : va_G) (cl : List vw_C) (cT : FieldType → ClassId) (bs : xB) (below : List Frame) (args : Array Value) (s : State) (o : xO) (S' : xS) (mc ms : Nat) : State → Prop := match o with
  | .inl v => MQ below (xQr D cl cT bs v S') args s mc ms (fun q => bs.1 ≤ q)
  | .inr k => vx_MQ below xNo (xQx (xexN G) D cl cT bs k S') args s mc ms (fun q => bs.1 ≤ q)
theorem xgood (hG : Ts.all goodWord = true) (hc : xcw N ∈ Ts) : GoodIn Ts (xcw N :: Ts) := by
  refine goodIn_sub (fun w hw => ?_) ?_
  · rcases List.mem_cons.mp hw with rfl | h
    · exact hc
    · exact h
  · rw [List.all_cons, hG, Bool.and_true]
    exact List.all_eq_true.mp hG _ hc
theorem xrev {st : List Value} {n : Nat} {bs : xB} (h : n ≤ st.length) : (st.map (cv bs)) = ((st.take n).reverse.map (cv bs)).reverse ++ (st.drop n).map (cv bs) := by
  rw [List.map_reverse, List.reverse_reverse, ← List.map_append, List.take_append_drop]
/-- a call, whatever comes of it -/
theorem xw_call (hP : xPg cl fty fdef G E TT Ts prog) (hM : M ∈ prog) (C : xCx cl fty fdef TT Ts E.2.1 (xnm M).cls (decide (xkd M = 2 ∨ xkd M = 3)) (xbc M) (xmx M) p R s m args meth c) (hRf : xfr M ≤ R.frames) (hRl : xlo M ≤ R.locals)
    {xi : xI} (hat : (xcd M)[pc]? = some (some xi)) (hlen : xi.2.1 = xlenOf xi.1 xi.2.1) {st vs r : List Value} {S S1 : xS} (hcal : xcal prog xi st S = some (vs, r)) {o : xO} (hno : xisp xi.1 = true ∨ xcH prog xi = false → ∀ k, o ≠ .inr k)
    (hX : ∀ N : xM, prog[xi.2.2.1]? = some N → xMt sc E (xexN G) Ts l D cl cT bs N vs S o S1) (hR : xR D cl cT s bs S H) (hT : xTh sc E bs s s.heap) (hS : va_S (fun q => bs.1 ≤ q) s.heap H locs) (hl : ls.size = xmx M) (hc : cells + (S1.1 - S.1) ≤ R.cells) (hs : slots + (S1.2.1 - S.2.1) ≤ R.slots)
    (kr : ∀ (v : Option Value) (H1 : Heap) (locs1 : List Loc), o = .inl v → xR D cl cT s bs S1 H1 → va_S (fun q => bs.1 ≤ q) s.heap H1 locs1 → W p l e R s m args below meth c H1 locs1 (cells + (S1.1 - S.1)) (slots + (S1.2.1 - S.2.1)) Q (F0 m (pc + 3) ls ((v.toList ++ r).map (cv bs))))
    (kx : ∀ (k : Nat) (H1 : Heap) (locs1 : List Loc) (q : Addr) (ce : Cell), o = .inr k → xR D cl cT s bs S1 H1 → va_S (fun q => bs.1 ≤ q) s.heap H1 locs1 → H1[q]? = some ce → ce.vm = .none → s.vm.findClass (xexN G k) = some ce.cls → vx_W p l e R s m args below meth c H1 locs1 (cells + (S1.1 - S.1)) (slots + (S1.2.1 - S.2.1)) Q (F0 m pc ls (r.map (cv bs))) q) :
    W p l e R s m args below meth c H locs cells slots Q (F0 m pc ls (st.map (cv bs))) := by
  obtain ⟨hx, hb, hml, hown, hts, hbs, hC, hini, -, -⟩ := C
  obtain ⟨-, hgw, hbw, hmok, hins, -, -, hcws, hTT⟩ := hP
  obtain ⟨hdg, -, hokc⟩ := hins M hM pc xi hat
  unfold xcal at hcal
  split at hcal
  · rename_i N hN
    have hMt := hX N hN
    have hNok := hmok N (List.mem_of_getElem? hN)
    unfold xmok at hNok
    simp only [Bool.and_eq_true, decide_eq_true_eq] at hNok
    obtain ⟨⟨⟨⟨⟨⟨⟨⟨⟨n1, n2⟩, n3⟩, n4⟩, n5⟩, n7⟩, n8⟩, n9⟩, -⟩, -⟩ := hNok
    unfold xargs at hcal
    split at hcal
    · rename_i hna
      have k9 : ¬ xkd N = 9 := by omega
      simp only [Bool.or_eq_true, decide_eq_true_eq, k9, false_or, if_false] at n4 n5 n7
      have hcw : xcw N ∈ Ts := hcws N (List.mem_of_getElem? hN) k9
      have hini' : (Cond.initialized (xnm N).cls).before args s = true := hts _ (hTT _ _ n5)
      have hkd := hts _ (hTT _ _ n4)
      have hgi : GoodIn Ts (xcw N :: Ts) := xgood hgw hcw
      have hst := xrev (bs := bs) hna.1
      have hblind := xPc_blind (sc := sc) (E := E) hbw (D := D) (cl := cl) (cT := cT) (bs := bs) (vs := vs) (S := S)
      have hpre : ∀ U : State, U.heap = H → s.WarmedH U.vm → xPc sc E D cl cT bs vs S (vs.map (cv bs)).toArray U := fun U hU hW =>
        ⟨rfl, by rw [hU]; exact hR.moved hW.alike, by rw [hU]; exact (hT.kept hS.2.1).moved hbw hW⟩
      have hrw : (((r.map (cv bs)).map fun v => v.category).sum) = xw r := cv_sum bs r
      split at hcal
      · -- static
        rename_i idx hi
        split at hcal
        · rename_i hk
          cases hcal
          have hcx : xcok TT E.2.1 (xnm M).cls (xhost G) M N idx xi = true := by
            unfold xokc at hokc
            rw [hi] at hokc
            dsimp only at hokc
            rw [hN] at hokc
            exact hokc
          unfold xcok at hcx
          simp only [Bool.and_eq_true, decide_eq_true_eq] at hcx
          obtain ⟨⟨⟨x1, x2⟩, x3⟩, x4⟩ := hcx
          have hroom : (xrm N S S1).frames + 1 ≤ R.frames ∧ 8 + (xmx N + 11) + (xrm N S S1).locals ≤ R.locals := ⟨Nat.le_trans x2 hRf, Nat.le_trans x3 hRl⟩
          rw [hi] at hlen hdg
          rw [if_neg (by rw [hk]; decide)] at x1
          rw [if_pos hk] at n7 hkd
          have n7 := of_decide_eq_true n7
          rw [show xi.2.1 = 3 from hlen] at hdg
          have hlnk := hts _ (hTT _ _ (of_decide_eq_true x1))
          have hlenA : ((st.take (xna N)).reverse.map (cv bs)).length = xna N := by rw [List.length_map, List.length_reverse, List.length_take]; omega
          by_cases hh : xhs N = []
          · have hcode : xcw N = Cond.code (xnm N) (xbc N) (xmx N) (xrt N) := by unfold xcw; rw [hh]
            have hCB : CallB R s args (xnm M).cls idx (xnm N) (xbc N) (xmx N) (xrt N) (xcw N :: Ts) (xrm N S S1) (S1.1 - S.1) (S1.2.1 - S.2.1) (xna N) :=
              callB_of (xna N) hts hgi (by rw [hcode]) rfl rfl hini' hlnk ⟨n2, n3, n7⟩ hroom
            cases o with
            | inl v =>
              refine xw_ret (va_runS (As := (st.take (xna N)).reverse.map (cv bs)) (rest := (st.drop (xna N)).map (cv bs)) ⟨hx, hb, hml, hown, hts⟩ hMt ⟨hCB, hkd⟩ ⟨hblind, hpre⟩ rfl hlenA hl hst (lv_room (by rw [hrw]; exact hna.2.1)) hdg ⟨hc, hs⟩) hS (fun H1 locs1 hR1 hS1 => ?_)
              have := kr v H1 locs1 rfl hR1 hS1
              rw [List.map_append] at this
              cases v <;> exact this
            | inr k =>
              exact xw_thr (vx_runS (As := (st.take (xna N)).reverse.map (cv bs)) (rest := (st.drop (xna N)).map (cv bs)) ⟨hx, hb, hml, hown, hts⟩ hMt ⟨hCB, hkd⟩ ⟨hblind, hpre⟩ rfl hlenA hl hst (lv_room (by rw [hrw]; exact hna.2.1)) hdg ⟨hc, hs⟩) hS (fun H1 locs1 q ce hR1 hS1 h1 h2 h3 => kx k H1 locs1 q ce rfl hR1 hS1 h1 h2 h3)
          · have hcode : xcw N = Cond.codeWith (xnm N) (xbc N) (xmx N) (xrt N) (xhs N) := by
              unfold xcw
              split
              · rename_i h9; exact absurd h9 hh
              · rfl
            cases o with
            | inl v =>
              have hCW : vx_CSW R s args (xnm M).cls idx (xnm N) (xbc N) (xmx N) (xrt N) (xhs N) (xcw N :: Ts) (xrm N S S1) (S1.1 - S.1) (S1.2.1 - S.2.1) (xna N) :=
                ⟨⟨rfl, rfl, hroom.1, hroom.2, pay_in hts hgi, by rw [← hcode]; exact List.mem_cons_self⟩, by rw [← hcode]; exact hts _ hcw, hini', ⟨n2, n3⟩, fun sig h9 => by rw [h9] at n7; exact (Option.some.inj n7).symm, hlnk, hkd⟩
              refine xw_ret (vx_runSW (hh := xhs N) (As := (st.take (xna N)).reverse.map (cv bs)) (rest := (st.drop (xna N)).map (cv bs)) ⟨hx, hb, hml, hown, hts⟩ hMt hCW ⟨hblind, hpre⟩ rfl hlenA hl hst (lv_room (by rw [hrw]; exact hna.2.1)) hdg ⟨hc, hs⟩) hS (fun H1 locs1 hR1 hS1 => ?_)
              have := kr v H1 locs1 rfl hR1 hS1
              rw [List.map_append] at this
              cases v <;> exact this
            | inr k => exact absurd rfl (hno (Or.inr (by unfold xcH; rw [hN]; exact decide_eq_false hh)) k)
        · cases hcal
      · -- virtual
        rename_i idx hi
        split at hcal
        · rename_i hk
          cases hcal
          have hcx : xcok TT E.2.1 (xnm M).cls (xhost G) M N idx xi = true := by
            unfold xokc at hokc
            rw [hi] at hokc
            dsimp only at hokc
            rw [hN] at hokc
            exact hokc
          unfold xcok at hcx
          simp only [Bool.and_eq_true, decide_eq_true_eq] at hcx
          obtain ⟨⟨⟨x1, x2⟩, x3⟩, x4⟩ := hcx
          have hroom : (xrm N S S1).frames + 1 ≤ R.frames ∧ 8 + (xmx N + 11) + (xrm N S S1).locals ≤ R.locals := ⟨Nat.le_trans x2 hRf, Nat.le_trans x3 hRl⟩
          have x4 : xhs N = [] := by
            simp only [Bool.or_eq_true, decide_eq_true_eq] at x4
            rcases x4 with h | h
            · exact h
            · exact absurd h (by rw [hk.1]; decide)
          have hcode : xcw N = Cond.code (xnm N) (xbc N) (xmx N) (xrt N) := by unfold xcw; rw [x4]
          rw [hi] at hlen hdg
          rw [if_neg (by rw [hk.1]; decide)] at x1
          rw [if_neg (by rw [hk.1]; decide)] at n7 hkd
          rw [if_pos hk.1] at n8
          simp only [Bool.and_eq_true, decide_eq_true_eq] at n7 n8
          rw [show xi.2.1 = 3 from hlen] at hdg
          have hCB : CallB R s args (xnm M).cls idx (xnm N) (xbc N) (xmx N) (xrt N) (xcw N :: Ts) (xrm N S S1) (S1.1 - S.1) (S1.2.1 - S.2.1) (xna N - 1) :=
            callB_of (xna N - 1) hts hgi (by rw [hcode]) rfl rfl hini' (hts _ (hTT _ _ (of_decide_eq_true x1))) ⟨n2, n3, n7.2⟩ hroom
          have hsel := hts _ (hTT _ _ n8.1)
          have hrv := hk.2
          have hlt : ((st.take (xna N)).reverse).length = xna N := by rw [List.length_reverse, List.length_take]; omega
          generalize hvs : (st.take (xna N)).reverse = vs at hst hblind hpre hMt hrv hlt ⊢
          unfold xrcv at hrv
          split at hrv
          · rename_i b As
            split at hrv
            · rename_i cj fs hxb
              have hcj := of_decide_eq_true hrv
              subst hcj
              obtain ⟨r9, hr9, cell, g1, g2, g3, -⟩ := hR.2.2.2 b _ hxb
              have hq9 : r9.1 = (xnm N).cls := by
                have := n8.2
                rw [hr9] at this
                simpa using this
              have hcls : s.vm.findClass (xnm N).cls = some cell.cls := by rw [← hq9, g2]; exact (hR.2.1.1 _ r9 hr9).2.1
              have hst2 : st.map (cv bs) = (As.map (cv bs)).reverse ++ .ref (bs.1 + b) :: (st.drop (xna N)).map (cv bs) := by
                rw [hst, List.map_cons, List.reverse_cons, List.append_assoc]
                rfl
              have hla : (As.map (cv bs)).length = xna N - 1 := by
                rw [List.length_cons] at hlt
                rw [List.length_map]
                omega
              have hpv : PreV s H (xnm N).cls (bs.1 + b) (xPc sc E D cl cT bs (.ref b :: As) S) (As.map (cv bs)) := ⟨hblind, ⟨cell, g1, by rw [g3]; rfl, hcls⟩, hpre⟩
              cases o with
              | inl v =>
                refine xw_ret (va_runV (C := (xnm N).cls) (b := bs.1 + b) (As := As.map (cv bs)) (rest := (st.drop (xna N)).map (cv bs)) ⟨hx, hb, hml, hown, hts⟩ hMt ⟨hCB, hkd, hsel⟩ hpv rfl hla hl hst2 (lv_room (by rw [hrw]; exact hna.2.1)) hdg ⟨hc, hs⟩) hS (fun H1 locs1 hR1 hS1 => ?_)
                have := kr v H1 locs1 rfl hR1 hS1
                rw [List.map_append] at this
                cases v <;> exact this
              | inr k =>
                exact xw_thr (vx_runV (C := (xnm N).cls) (b := bs.1 + b) (As := As.map (cv bs)) (rest := (st.drop (xna N)).map (cv bs)) ⟨hx, hb, hml, hown, hts⟩ hMt ⟨hCB, hkd, hsel⟩ hpv rfl hla hl hst2 (lv_room (by rw [hrw]; exact hna.2.1)) hdg ⟨hc, hs⟩) hS (fun H1 locs1 q ce hR1 hS1 h1 h2 h3 => kx k H1 locs1 q ce rfl hR1 hS1 h1 h2 h3)
            · cases hrv
          · cases hrv
        · cases hcal
      · -- a constructor
        rename_i idx hi
        split at hcal
        · rename_i hk
          cases hcal
          have hcx : xcok TT E.2.1 (xnm M).cls (xhost G) M N idx xi = true := by
            unfold xokc at hokc
            rw [hi] at hokc
            dsimp only at hokc
            rw [hN] at hokc
            exact hokc
          unfold xcok at hcx
          simp only [Bool.and_eq_true, decide_eq_true_eq] at hcx
          obtain ⟨⟨⟨x1, x2⟩, x3⟩, x4⟩ := hcx
          have hroom : (xrm N S S1).frames + 1 ≤ R.frames ∧ 8 + (xmx N + 11) + (xrm N S S1).locals ≤ R.locals := ⟨Nat.le_trans x2 hRf, Nat.le_trans x3 hRl⟩
          have x4 : xhs N = [] := by
            simp only [Bool.or_eq_true, decide_eq_true_eq] at x4
            rcases x4 with h | h
            · exact h
            · rcases hk.1 with h9 | h9 <;> exact absurd h (by rw [h9]; decide)
          have hcode : xcw N = Cond.code (xnm N) (xbc N) (xmx N) (xrt N) := by unfold xcw; rw [x4]
          rw [hi] at hlen hdg
          have hk0 : ¬ xkd N = 0 := by rcases hk.1 with h | h <;> rw [h] <;> decide
          have hk2 : 2 ≤ xkd N := by rcases hk.1 with h | h <;> rw [h] <;> decide
          rw [if_neg hk0] at n7 hkd
          rw [if_pos hk.1] at n9
          simp only [Bool.and_eq_true, decide_eq_true_eq] at n7 n9
          rw [show xi.2.1 = 3 from hlen] at hdg
          have hrv := hk.2
          have hlt : ((st.take (xna N)).reverse).length = xna N := by rw [List.length_reverse, List.length_take]; omega
          generalize hvs : (st.take (xna N)).reverse = vs at hst hblind hpre hMt hrv hlt ⊢
          unfold xrf1 at hrv
          split at hrv
          · rename_i b As
            have hst2 : st.map (cv bs) = (As.map (cv bs)).reverse ++ .ref (bs.1 + b) :: (st.drop (xna N)).map (cv bs) := by
              rw [hst, List.map_cons, List.reverse_cons, List.append_assoc]
              rfl
            have hla : (As.map (cv bs)).length = xna N - 1 := by
              rw [List.length_cons] at hlt
              rw [List.length_map]
              omega
            have hcode0 : xcw N = Cond.code (xnm N) (xbc N) (xmx N) none := by rw [hcode, n9.2]
            have hps : PreS s H (xPc sc E D cl cT bs (.ref b :: As) S) (.ref (bs.1 + b) :: As.map (cv bs)) := ⟨hblind, hpre⟩
            cases o with
            | inl v =>
              have run : va_Run p l e R s m args below meth c H locs cells slots (S1.1 - S.1) (S1.2.1 - S.2.1) (F0 m pc ls (st.map (cv bs))) ((st.drop (xna N)).map (cv bs)) (xQr D cl cT bs v S1 (Value.ref (bs.1 + b) :: As.map (cv bs)).toArray) (fun q => bs.1 ≤ q) := by
                by_cases h3 : xkd N = 3
                · rw [if_pos h3] at x1
                  have hnest := hbs _ (List.mem_of_getElem? (of_decide_eq_true x1))
                  exact va_runIN (b := bs.1 + b) (As := As.map (cv bs)) ⟨hx, hb, hml, hown, hts⟩ hMt ⟨va_cnB (xna N - 1) hts hgi (by rw [hcode0]) rfl rfl (va_Nw.of rfl hnest) hini' ⟨n2, n3, n7.2⟩ hroom, n9.1, hkd⟩ hps rfl hla hl hst2 (lv_room (by rw [hrw]; exact hna.2.1)) hdg ⟨hc, hs⟩
                · rw [if_neg h3] at x1
                  exact va_runI (b := bs.1 + b) (As := As.map (cv bs)) ⟨hx, hb, hml, hown, hts⟩ hMt ⟨callB_of (xna N - 1) hts hgi (by rw [hcode0]) rfl rfl hini' (hts _ (hTT _ _ (of_decide_eq_true x1))) ⟨n2, n3, n7.2⟩ hroom, n9.1, hkd⟩ hps rfl hla hl hst2 (lv_room (by rw [hrw]; exact hna.2.1)) hdg ⟨hc, hs⟩
              refine xw_ret run hS (fun H1 locs1 hR1 hS1 => ?_)
              have := kr v H1 locs1 rfl hR1 hS1
              rw [List.map_append] at this
              cases v <;> exact this
            | inr k => exact absurd rfl (hno (Or.inl (by rw [hi]; rfl)) k)
          · cases hrv
        · cases hcal
      · cases hcal
    · cases hcal
  · cases hcal
end XSD
end
section
/-! How the counts go: a step, a run, a method never take cells away. -/
set_option maxHeartbeats 4000000 in
set_option maxRecDepth 100000 in
theorem xst_mono {sc : xSc} {cl : List vw_C} {fty : Nat → Nat → FieldType} {fdef : Nat → List Value} {nL : Nat} {xi : xI} {pc : Nat} {L : xL} {st : List Value} {S : xS} {fr : xF} (h : xst sc cl fty fdef nL xi pc L st S = some fr) : S.1 ≤ fr.2.2.2.1 ∧ S.2.1 ≤ fr.2.2.2.2.1 := by
  obtain ⟨ins, len, qa, qb, qz, qj⟩ := xi
  cases ins with
  | aconst_null =>
    cases h
    exact ⟨Nat.le_refl _, Nat.le_refl _⟩
  | iconst n =>
    cases h
    exact ⟨Nat.le_refl _, Nat.le_refl _⟩
  | bipush n =>
    cases h
    exact ⟨Nat.le_refl _, Nat.le_refl _⟩
  | sipush n =>
    cases h
    exact ⟨Nat.le_refl _, Nat.le_refl _⟩
  | lconst n =>
    cases h
    exact ⟨Nat.le_refl _, Nat.le_refl _⟩
  | ldc n =>
    cases h
    exact ⟨Nat.le_refl _, Nat.le_refl _⟩
  | ldc_w n =>
    cases h
    exact ⟨Nat.le_refl _, Nat.le_refl _⟩
  | ldc2_w n =>
    cases h
    exact ⟨Nat.le_refl _, Nat.le_refl _⟩
  | aload i =>
    obtain ⟨_, _, rfl⟩ := Option.map_eq_some_iff.mp h
    exact ⟨Nat.le_refl _, Nat.le_refl _⟩
  | aload_n i =>
    obtain ⟨_, _, rfl⟩ := Option.map_eq_some_iff.mp h
    exact ⟨Nat.le_refl _, Nat.le_refl _⟩
  | iload i =>
    obtain ⟨_, _, rfl⟩ := Option.map_eq_some_iff.mp h
    exact ⟨Nat.le_refl _, Nat.le_refl _⟩
  | iload_n i =>
    obtain ⟨_, _, rfl⟩ := Option.map_eq_some_iff.mp h
    exact ⟨Nat.le_refl _, Nat.le_refl _⟩
  | lload i =>
    obtain ⟨_, _, rfl⟩ := Option.map_eq_some_iff.mp h
    exact ⟨Nat.le_refl _, Nat.le_refl _⟩
  | lload_n i =>
    obtain ⟨_, _, rfl⟩ := Option.map_eq_some_iff.mp h
    exact ⟨Nat.le_refl _, Nat.le_refl _⟩
  | astore i =>
    obtain ⟨_, _, rfl⟩ := Option.map_eq_some_iff.mp h
    exact ⟨Nat.le_refl _, Nat.le_refl _⟩
  | astore_n i =>
    obtain ⟨_, _, rfl⟩ := Option.map_eq_some_iff.mp h
    exact ⟨Nat.le_refl _, Nat.le_refl _⟩
  | istore i =>
    obtain ⟨_, _, rfl⟩ := Option.map_eq_some_iff.mp h
    exact ⟨Nat.le_refl _, Nat.le_refl _⟩
  | istore_n i =>
    obtain ⟨_, _, rfl⟩ := Option.map_eq_some_iff.mp h
    exact ⟨Nat.le_refl _, Nat.le_refl _⟩
  | lstore i =>
    obtain ⟨_, _, rfl⟩ := Option.map_eq_some_iff.mp h
    exact ⟨Nat.le_refl _, Nat.le_refl _⟩
  | lstore_n i =>
    obtain ⟨_, _, rfl⟩ := Option.map_eq_some_iff.mp h
    exact ⟨Nat.le_refl _, Nat.le_refl _⟩
  | iadd =>
    obtain ⟨_, _, rfl⟩ := Option.map_eq_some_iff.mp h
    exact ⟨Nat.le_refl _, Nat.le_refl _⟩
  | isub =>
    obtain ⟨_, _, rfl⟩ := Option.map_eq_some_iff.mp h
    exact ⟨Nat.le_refl _, Nat.le_refl _⟩
  | imul =>
    obtain ⟨_, _, rfl⟩ := Option.map_eq_some_iff.mp h
    exact ⟨Nat.le_refl _, Nat.le_refl _⟩
  | iand =>
    obtain ⟨_, _, rfl⟩ := Option.map_eq_some_iff.mp h
    exact ⟨Nat.le_refl _, Nat.le_refl _⟩
  | ior =>
    obtain ⟨_, _, rfl⟩ := Option.map_eq_some_iff.mp h
    exact ⟨Nat.le_refl _, Nat.le_refl _⟩
  | ixor =>
    obtain ⟨_, _, rfl⟩ := Option.map_eq_some_iff.mp h
    exact ⟨Nat.le_refl _, Nat.le_refl _⟩
  | ishl =>
    obtain ⟨_, _, rfl⟩ := Option.map_eq_some_iff.mp h
    exact ⟨Nat.le_refl _, Nat.le_refl _⟩
  | ishr =>
    obtain ⟨_, _, rfl⟩ := Option.map_eq_some_iff.mp h
    exact ⟨Nat.le_refl _, Nat.le_refl _⟩
  | iushr =>
    obtain ⟨_, _, rfl⟩ := Option.map_eq_some_iff.mp h
    exact ⟨Nat.le_refl _, Nat.le_refl _⟩
  | idiv =>
    obtain ⟨_, _, rfl⟩ := Option.map_eq_some_iff.mp h
    exact ⟨Nat.le_refl _, Nat.le_refl _⟩
  | irem =>
    obtain ⟨_, _, rfl⟩ := Option.map_eq_some_iff.mp h
    exact ⟨Nat.le_refl _, Nat.le_refl _⟩
  | ineg =>
    obtain ⟨_, _, rfl⟩ := Option.map_eq_some_iff.mp h
    exact ⟨Nat.le_refl _, Nat.le_refl _⟩
  | i2l =>
    obtain ⟨_, _, rfl⟩ := Option.map_eq_some_iff.mp h
    exact ⟨Nat.le_refl _, Nat.le_refl _⟩
  | l2i =>
    obtain ⟨_, _, rfl⟩ := Option.map_eq_some_iff.mp h
    exact ⟨Nat.le_refl _, Nat.le_refl _⟩
  | land =>
    obtain ⟨_, _, rfl⟩ := Option.map_eq_some_iff.mp h
    exact ⟨Nat.le_refl _, Nat.le_refl _⟩
  | lor =>
    obtain ⟨_, _, rfl⟩ := Option.map_eq_some_iff.mp h
    exact ⟨Nat.le_refl _, Nat.le_refl _⟩
  | lxor =>
    obtain ⟨_, _, rfl⟩ := Option.map_eq_some_iff.mp h
    exact ⟨Nat.le_refl _, Nat.le_refl _⟩
  | lmul =>
    obtain ⟨_, _, rfl⟩ := Option.map_eq_some_iff.mp h
    exact ⟨Nat.le_refl _, Nat.le_refl _⟩
  | lcmp =>
    obtain ⟨_, _, rfl⟩ := Option.map_eq_some_iff.mp h
    exact ⟨Nat.le_refl _, Nat.le_refl _⟩
  | lshl =>
    obtain ⟨_, _, rfl⟩ := Option.map_eq_some_iff.mp h
    exact ⟨Nat.le_refl _, Nat.le_refl _⟩
  | lshr =>
    obtain ⟨_, _, rfl⟩ := Option.map_eq_some_iff.mp h
    exact ⟨Nat.le_refl _, Nat.le_refl _⟩
  | lushr =>
    obtain ⟨_, _, rfl⟩ := Option.map_eq_some_iff.mp h
    exact ⟨Nat.le_refl _, Nat.le_refl _⟩
  | goto off =>
    obtain ⟨_, _, rfl⟩ := Option.map_eq_some_iff.mp h
    exact ⟨Nat.le_refl _, Nat.le_refl _⟩
  | ifCond c off =>
    obtain ⟨_, _, rfl⟩ := Option.map_eq_some_iff.mp h
    exact ⟨Nat.le_refl _, Nat.le_refl _⟩
  | if_icmp c off =>
    obtain ⟨_, _, rfl⟩ := Option.map_eq_some_iff.mp h
    exact ⟨Nat.le_refl _, Nat.le_refl _⟩
  | ifnull off =>
    obtain ⟨_, _, rfl⟩ := Option.map_eq_some_iff.mp h
    exact ⟨Nat.le_refl _, Nat.le_refl _⟩
  | ifnonnull off =>
    obtain ⟨_, _, rfl⟩ := Option.map_eq_some_iff.mp h
    exact ⟨Nat.le_refl _, Nat.le_refl _⟩
  | tableswitch a b c d =>
    obtain ⟨_, _, rfl⟩ := Option.map_eq_some_iff.mp h
    exact ⟨Nat.le_refl _, Nat.le_refl _⟩
  | lookupswitch a b =>
    obtain ⟨_, _, rfl⟩ := Option.map_eq_some_iff.mp h
    exact ⟨Nat.le_refl _, Nat.le_refl _⟩
  | iaload =>
    obtain ⟨_, _, rfl⟩ := Option.map_eq_some_iff.mp h
    exact ⟨Nat.le_refl _, Nat.le_refl _⟩
  | baload =>
    obtain ⟨_, _, rfl⟩ := Option.map_eq_some_iff.mp h
    exact ⟨Nat.le_refl _, Nat.le_refl _⟩
  | laload =>
    obtain ⟨_, _, rfl⟩ := Option.map_eq_some_iff.mp h
    exact ⟨Nat.le_refl _, Nat.le_refl _⟩
  | aaload =>
    obtain ⟨_, _, rfl⟩ := Option.map_eq_some_iff.mp h
    exact ⟨Nat.le_refl _, Nat.le_refl _⟩
  | arraylength =>
    obtain ⟨_, _, rfl⟩ := Option.map_eq_some_iff.mp h
    exact ⟨Nat.le_refl _, Nat.le_refl _⟩
  | getfield i =>
    obtain ⟨_, _, rfl⟩ := Option.map_eq_some_iff.mp h
    exact ⟨Nat.le_refl _, Nat.le_refl _⟩
  | iinc i n =>
    unfold xst at h
    dsimp only at h
    split at h
    · split at h
      · cases h; exact ⟨Nat.le_refl _, Nat.le_refl _⟩
      · cases h
    · cases h
  | dup =>
    unfold xst at h
    dsimp only at h
    split at h
    · split at h
      · cases h; exact ⟨Nat.le_refl _, Nat.le_refl _⟩
      · cases h
    · cases h
  | dup2 =>
    unfold xst at h
    dsimp only at h
    split at h
    · split at h
      · cases h; exact ⟨Nat.le_refl _, Nat.le_refl _⟩
      · cases h
    · cases h
  | iastore =>
    obtain ⟨v, hv, rfl⟩ := Option.map_eq_some_iff.mp h
    obtain ⟨x, i, a, n, f, -, -, -, e1⟩ := xiast_inv hv
    dsimp only
    rw [e1]
    exact ⟨Nat.le_refl _, Nat.le_refl _⟩
  | bastore =>
    obtain ⟨v, hv, rfl⟩ := Option.map_eq_some_iff.mp h
    obtain ⟨x, i, a, n, f, -, -, -, e1⟩ := xzast_inv hv
    dsimp only
    rw [e1]
    exact ⟨Nat.le_refl _, Nat.le_refl _⟩
  | lastore =>
    obtain ⟨v, hv, rfl⟩ := Option.map_eq_some_iff.mp h
    obtain ⟨x, i, a, n, f, -, -, -, e1⟩ := xlast_inv hv
    dsimp only
    rw [e1]
    exact ⟨Nat.le_refl _, Nat.le_refl _⟩
  | aastore =>
    obtain ⟨v, hv, rfl⟩ := Option.map_eq_some_iff.mp h
    obtain ⟨v, i, a, rr, n, f, ci, vs, -, -, -, -, -, e1⟩ := xaast_inv hv
    dsimp only
    rw [e1]
    exact ⟨Nat.le_refl _, Nat.le_refl _⟩
  | putfield i =>
    obtain ⟨v, hv, rfl⟩ := Option.map_eq_some_iff.mp h
    obtain ⟨v, a, fs, -, -, -, -, -, e1⟩ := xputf_inv hv
    dsimp only
    rw [e1]
    exact ⟨Nat.le_refl _, Nat.le_refl _⟩
  | newarray a =>
    obtain ⟨v, hv, rfl⟩ := Option.map_eq_some_iff.mp h
    unfold xnewa at hv
    split at hv
    · split at hv
      · cases hv
      · cases a with
        | int =>
          obtain ⟨S1, hw, hq⟩ := Option.map_eq_some_iff.mp hv
          cases hq
          obtain ⟨rfl, -⟩ := xnew_spec hw
          exact ⟨Nat.le_succ _, Nat.le_add_right _ _⟩
        | boolean =>
          obtain ⟨S1, hw, hq⟩ := Option.map_eq_some_iff.mp hv
          cases hq
          obtain ⟨rfl, -⟩ := xnew_spec hw
          exact ⟨Nat.le_succ _, Nat.le_add_right _ _⟩
        | long =>
          obtain ⟨S1, hw, hq⟩ := Option.map_eq_some_iff.mp hv
          cases hq
          obtain ⟨rfl, -⟩ := xnew_spec hw
          exact ⟨Nat.le_succ _, Nat.le_add_right _ _⟩
        | _ => cases hv
    · cases hv
  | anewarray i =>
    unfold xst at h
    dsimp only at h
    split at h
    · obtain ⟨v, hv, rfl⟩ := Option.map_eq_some_iff.mp h
      unfold xnewq at hv
      split at hv
      · split at hv
        · cases hv
        · obtain ⟨S1, hw, hq⟩ := Option.map_eq_some_iff.mp hv
          cases hq
          obtain ⟨rfl, -⟩ := xnew_spec hw
          exact ⟨Nat.le_succ _, Nat.le_add_right _ _⟩
      · cases hv
    · cases h
  | new i =>
    unfold xst at h
    dsimp only at h
    split at h
    · obtain ⟨S1, hw, rfl⟩ := Option.map_eq_some_iff.mp h
      obtain ⟨rfl, -⟩ := xnew_spec hw
      exact ⟨Nat.le_succ _, Nat.le_add_right _ _⟩
    · cases h
  | invokespecial i =>
    unfold xst at h
    dsimp only at h
    split at h
    · obtain ⟨v, hv, rfl⟩ := Option.map_eq_some_iff.mp h
      unfold xsp at hv
      split at hv
      · cases hv
      · rw [if_pos rfl] at hv
        split at hv
        · cases hv; exact ⟨Nat.le_refl _, Nat.le_refl _⟩
        · cases hv
    · cases h
  | invokestatic i =>
    unfold xst at h
    dsimp only at h
    split at h
    · cases h
    · obtain ⟨v, hv, rfl⟩ := Option.map_eq_some_iff.mp h
      unfold xsp at hv
      split at hv
      · cases hv
      · split at hv
        · obtain ⟨t, ht, e9⟩ := Option.map_eq_some_iff.mp hv
          cases e9; exact ⟨Nat.le_refl _, Nat.le_refl _⟩
        · split at hv
          · obtain ⟨t, ht, e9⟩ := Option.map_eq_some_iff.mp hv
            cases e9; exact ⟨Nat.le_refl _, Nat.le_refl _⟩
          · split at hv
            · obtain ⟨n, dp, a, sp, a0, n0, n1, f, g, -, -, -, -, -, -, -, -, e1⟩ := xcpy_inv hv
              dsimp only
              rw [e1]
              exact ⟨Nat.le_refl _, Nat.le_refl _⟩
            · cases hv
  | _ => cases h
theorem xthr_spec {M : xM} {xi : xI} {st : List Value} {S S1 : xS} {k : Nat} (h : xthr M xi st S = some (k, S1)) : (∃ i, xi.1 = .new i) ∧ 1000 ≤ xi.2.2.1 ∧ k = xi.2.2.1 - 1000 ∧ xw st ≤ 8 ∧ xhs M = [] ∧ xnew S (.inr none) 6 = some S1 := by
  unfold xthr at h
  split at h
  · rename_i i hi
    split at h
    · rename_i hc
      obtain ⟨S2, hw, e1⟩ := Option.map_eq_some_iff.mp h
      have e2 := (Prod.mk.inj e1).1
      have e3 := (Prod.mk.inj e1).2
      subst e3
      exact ⟨⟨i, hi⟩, hc.1, e2.symm, hc.2.1, hc.2.2, hw⟩
    · cases h
  · cases h
theorem xrun_mono {sc : xSc} {cl : List vw_C} {fty : Nat → Nat → FieldType} {fdef : Nat → List Value} {ck : Nat → Option Nat} {prog : List xM} {M : xM} {ex : Nat → List Value → xS → Option (xO × xS)} (hex : ∀ a vs S o S1, ex a vs S = some (o, S1) → S.1 ≤ S1.1 ∧ S.2.1 ≤ S1.2.1) :
    ∀ (f pc : Nat) (L : xL) (st : List Value) (S : xS) (o : xO) (S' : xS), xrun sc cl fty fdef ck prog M ex f pc L st S = some (o, S') → S.1 ≤ S'.1 ∧ S.2.1 ≤ S'.2.1 := by
  intro f
  induction f with
  | zero => intro pc L st S o S' h; cases h
  | succ f ih =>
    intro pc L st S o S' h
    unfold xrun at h
    split at h
    · split at h
      · split at h
        · cases h; exact ⟨Nat.le_refl _, Nat.le_refl _⟩
        · split at h
          · split at h
            · rename_i hx
              have h1 := hex _ _ _ _ _ hx
              have h2 := ih _ _ _ _ _ _ h
              exact ⟨Nat.le_trans h1.1 h2.1, Nat.le_trans h1.2 h2.2⟩
            · rename_i hx
              have h1 := hex _ _ _ _ _ hx
              split at h
              · cases h
              · split at h
                · cases h; exact h1
                · split at h
                  · split at h
                    · have h2 := ih _ _ _ _ _ _ h
                      exact ⟨Nat.le_trans h1.1 h2.1, Nat.le_trans h1.2 h2.2⟩
                    · cases h
                  · cases h
            · cases h
          · split at h
            · rename_i ht
              cases h
              obtain ⟨-, -, -, -, -, hw⟩ := xthr_spec ht
              obtain ⟨rfl, -⟩ := xnew_spec hw
              exact ⟨Nat.le_succ _, Nat.le_add_right _ _⟩
            · split at h
              · rename_i hs
                have h1 := xst_mono hs
                have h2 := ih _ _ _ _ _ _ h
                exact ⟨Nat.le_trans h1.1 h2.1, Nat.le_trans h1.2 h2.2⟩
              · cases h
      · cases h
    · cases h
theorem xex_mono {sc : xSc} {cl : List vw_C} {fty : Nat → Nat → FieldType} {fdef : Nat → List Value} {ck : Nat → Option Nat} {prog : List xM} {F : Nat} : ∀ (d a : Nat) (vs : List Value) (S : xS) (o : xO) (S' : xS), xex sc cl fty fdef ck prog d F a vs S = some (o, S') → S.1 ≤ S'.1 ∧ S.2.1 ≤ S'.2.1 := by
  intro d
  induction d with
  | zero => intro a vs S o S' h; cases h
  | succ d ih =>
    intro a vs S o S' h
    unfold xex at h
    split at h
    · split at h
      · exact xrun_mono ih F 0 _ [] S o S' h
      · cases h
    · cases h
end
section
/-! A body's run, then a method's. -/
section XAL
variable {p : Program} {l : Launch} {e : Env} {R : Room} {s : State} {m : MethodId} {args : Array Value} {below : List Frame} {meth : Method} {c : Code} {H : Heap} {locs : List Loc} {cells slots : Nat} {Q : State → Prop}
variable {sc : xSc} {pc : Nat} {ls : Array Slot} {D : va_G} {cl : List vw_C} {cT : FieldType → ClassId} {bs : xB} {fty : Nat → Nat → FieldType} {fdef : Nat → List Value} {TT : List (List Cond)} {Ts : List Cond} {G : xG} {E : xE} {prog : List xM} {M : xM}
theorem xhand_spec {ck : Nat → Option Nat} {pc k hp : Nat} : ∀ {hs : List (Nat × Nat × Nat × Nat)}, xhand ck hs pc k = some hp → ∃ pre x suf, hs = pre ++ x :: suf ∧ x.2.2.1 = hp ∧ x.1 ≤ pc ∧ pc < x.2.1 ∧ ck x.2.2.2 = some k ∧ k < 3 ∧ ∀ z ∈ pre, ¬ (z.1 ≤ pc ∧ pc < z.2.1) ∨ ck z.2.2.2 ≠ some k := by
  intro hs
  induction hs with
  | nil => intro h; cases h
  | cons q r ih =>
    obtain ⟨a, b, h0, t⟩ := q
    intro h
    unfold xhand at h
    split at h
    · rename_i hc
      cases h
      exact ⟨[], (a, b, hp, t), r, rfl, rfl, hc.1, hc.2.1, hc.2.2.1, hc.2.2.2, fun z hz => by cases hz⟩
    · rename_i hc
      obtain ⟨pre, x, suf, e1, e2, e3, e4, e5, e6, e7⟩ := ih h
      refine ⟨(a, b, h0, t) :: pre, x, suf, by rw [e1]; rfl, e2, e3, e4, e5, e6, fun z hz => ?_⟩
      rcases List.mem_cons.mp hz with rfl | hz
      · by_cases h9 : a ≤ pc ∧ pc < b
        · exact Or.inr (fun h8 => hc ⟨h9.1, h9.2, h8, e6⟩)
        · exact Or.inl h9
      · exact e7 z hz
theorem cL_fil (bs : xB) (L : xL) (i : Nat) : (cL bs L).filter (fun q => !(q.1 == i) && !(q.1 + 1 == i && q.2.category == 2)) = cL bs (xfil L i) := by
  unfold xfil cL
  rw [List.filter_map]
  congr 1
  apply List.filter_congr
  intro q _
  simp [cv_cat]
set_option maxHeartbeats 1000000 in
/-- from a handler's pc, the exception on the stack -/
theorem xw_hp (hP : xPg cl fty fdef G E TT Ts prog) (hM : M ∈ prog) (C : xCx cl fty fdef TT Ts E.2.1 (xnm M).cls (decide (xkd M = 2 ∨ xkd M = 3)) (xbc M) (xmx M) p R s m args meth c) {hp pc' : Nat} {L L' : xL} (h : xhp M hp L = some (pc', L')) {q : Addr} (hl : lv_has ls (xmx M) (cL bs L))
    (kk : ∀ ls1 : Array Slot, lv_has ls1 (xmx M) (cL bs L') → W p l e R s m args below meth c H locs cells slots Q (F0 m pc' ls1 [])) : W p l e R s m args below meth c H locs cells slots Q (F0 m hp ls [.ref q]) := by
  obtain ⟨hx, hb, -⟩ := C
  obtain ⟨-, -, -, -, hins, -⟩ := hP
  unfold xhp at h
  split at h
  · rename_i xi hat
    obtain ⟨hdg, -, -⟩ := hins M hM hp xi hat
    split at h
    · rename_i hlen
      rw [hlen] at hdg
      split at h
      · rename_i i hi
        rw [hi] at hdg
        split at h
        · rename_i hlt
          cases h
          exact lv_astore hx hb hdg hl hlt rfl (fun ls1 hl1 => kk ls1 ⟨hl1.1, hl1.2.1, fun z hz => hl1.2.2 z (List.mem_cons_of_mem _ (by rw [cL_fil]; exact hz))⟩)
        · cases h
      · rename_i i hi
        rw [hi] at hdg
        split at h
        · rename_i hlt
          cases h
          exact lv_astore_n hx hb hdg rfl hl hlt rfl (fun ls1 hl1 => kk ls1 ⟨hl1.1, hl1.2.1, fun z hz => hl1.2.2 z (List.mem_cons_of_mem _ (by rw [cL_fil]; exact hz))⟩)
        · cases h
      · cases h
    · cases h
  · cases h
set_option maxHeartbeats 4000000 in
theorem xrun_sound (hP : xPg cl fty fdef G E TT Ts prog) (hM : M ∈ prog) (C : xCx cl fty fdef TT Ts E.2.1 (xnm M).cls (decide (xkd M = 2 ∨ xkd M = 3)) (xbc M) (xmx M) p R s m args meth c) (hRf : xfr M ≤ R.frames) (hRl : xlo M ≤ R.locals)
    (hr : meth.sig.returnType = xrt M) (hlocks : meth.locks = false) (htab : c.exceptionTable.toList = tableOf (xhs M)) (hnt : l.stackTraces = false) (hT : xTh sc E bs s s.heap) (hbz : bs.2 < s.heap.size) {ex : Nat → List Value → xS → Option (xO × xS)}
    (hexm : ∀ a vs S o S1, ex a vs S = some (o, S1) → S.1 ≤ S1.1 ∧ S.2.1 ≤ S1.2.1) (hex : ∀ (a : Nat) (N : xM) (vs : List Value) (S : xS) (o : xO) (S1 : xS), prog[a]? = some N → ex a vs S = some (o, S1) → xMt sc E (xexN G) Ts l D cl cT bs N vs S o S1) :
    ∀ (f pc : Nat) (L : xL) (st : List Value) (S : xS) (o : xO) (S' : xS), xrun sc cl fty fdef (xck G) prog M ex f pc L st S = some (o, S') → ∀ (H : Heap) (locs : List Loc) (ls : Array Slot) (cells slots : Nat), xR D cl cT s bs S H → va_S (fun q => bs.1 ≤ q) s.heap H locs → lv_has ls (xmx M) (cL bs L) →
      cells + (S'.1 - S.1) ≤ R.cells → slots + (S'.2.1 - S.2.1) ≤ R.slots → W p l e R s m args below meth c H locs cells slots (xEnd G D cl cT bs below args s o S' (cells + (S'.1 - S.1)) (slots + (S'.2.1 - S.2.1))) (F0 m pc ls (st.map (cv bs))) := by
  have hx := C.1
  have hb := C.2.1
  have hown := C.2.2.2.1
  have hts := C.2.2.2.2.1
  have hbs := C.2.2.2.2.2.1
  intro f
  induction f with
  | zero => intro pc L st S o S' h; cases h
  | succ f ih =>
    intro pc L st S o S' h H locs ls cells slots hR hS hl hc hs
    unfold xrun at h
    split at h
    · rename_i xi hat
      obtain ⟨hdg, hok, hokc⟩ := hP.2.2.2.2.1 M hM pc xi hat
      split at h
      · rename_i hlen
        split at h
        · -- an answer
          rename_i v hv
          cases h
          rw [Nat.sub_self, Nat.sub_self, Nat.add_zero, Nat.add_zero]
          rw [hlen] at hdg
          have hq : ∀ t : State, t.heap = H → s.WarmedH t.vm → xQr D cl cT bs v S args s (.returned (v.map (cv bs))) t := fun t ht hW => ⟨rfl, by rw [ht]; exact hR.moved hW.alike, hS.F ht⟩
          unfold xend at hv
          split at hv
          · rename_i hi
            rw [hi] at hdg
            split at hv
            · rename_i z ty hty
              split at hv
              · rename_i hfit
                cases hv
                exact W.zret hx hb (hr.trans hty) (xfit_ok hfit).1 hq hS.2.2 hdg hlocks
              · cases hv
            · cases hv
          · rename_i hi
            rw [hi] at hdg
            split at hv
            · rename_i z hty
              cases hv
              exact W.lret hx hb (hr.trans hty) hq hS.2.2 hdg hlocks
            · cases hv
          · rename_i hi
            rw [hi] at hdg
            split at hv
            · rename_i a C hty
              cases hv
              exact W.aret hx hb (hr.trans hty) (Or.inl ⟨_, rfl⟩) (Or.inr ⟨_, rfl⟩) hq hS.2.2 hdg hlocks
            · rename_i C hty
              cases hv
              exact W.aret hx hb (hr.trans hty) (Or.inl ⟨_, rfl⟩) (Or.inl rfl) hq hS.2.2 hdg hlocks
            · cases hv
          · rename_i hi
            rw [hi] at hdg
            split at hv
            · rename_i hty
              cases hv
              exact W.vret hx hb (hr.trans hty) hq hS.2.2 hdg hlocks
            · cases hv
          · cases hv
        · split at h
          · -- a call
            rename_i vs r hcal
            split at h
            · rename_i v S1 he
              have m1 := hexm _ _ _ _ _ he
              have m2 := xrun_mono hexm f _ _ _ _ _ _ h
              refine xw_call hP hM C hRf hRl hat hlen hcal (o := .inl v) (fun _ k z => by cases z) (fun N hN => hex _ N _ _ _ _ hN he) hR hT hS hl.1 (by omega) (by omega) (fun v' H1 locs1 hv' hR1 hS1 => ?_) (fun k _ _ _ _ hk => by cases hk)
              cases hv'
              have := ih _ _ _ _ _ _ h H1 locs1 ls (cells + (S1.1 - S.1)) (slots + (S1.2.1 - S.2.1)) hR1 hS1 hl (by omega) (by omega)
              rw [show cells + (S1.1 - S.1) + (S'.1 - S1.1) = cells + (S'.1 - S.1) by omega, show slots + (S1.2.1 - S.2.1) + (S'.2.1 - S1.2.1) = slots + (S'.2.1 - S.2.1) by omega] at this
              exact this
            · rename_i k S1 he
              have m1 := hexm _ _ _ _ _ he
              split at h
              · cases h
              · rename_i hsp
                split at h
                · -- it goes on to the caller
                  rename_i hhs
                  cases h
                  refine xw_call hP hM C hRf hRl hat hlen hcal (o := .inr k) (fun z => absurd z hsp) (fun N hN => hex _ N _ _ _ _ hN he) hR hT hS hl.1 hc hs (fun v' _ _ hv' => by cases hv') (fun k' H1 locs1 q ce hk hR1 hS1 h1 h2 h3 => ?_)
                  cases hk
                  refine vx_out (E := xexN G k) (fun z hz => ?_) hlocks h1 h2 h3 (fun t ht hA => ⟨rfl, by rw [ht]; exact hR1.moved hA, hS1.F ht⟩) hS1.2.2 (Nat.le_refl _) (Nat.le_refl _)
                  rw [htab, hhs] at hz
                  cases hz
                · split at h
                  · rename_i hp hh
                    split at h
                    · rename_i pc' L' hhp
                      have m2 := xrun_mono hexm f _ _ _ _ _ _ h
                      refine xw_call hP hM C hRf hRl hat hlen hcal (o := .inr k) (fun z => absurd z hsp) (fun N hN => hex _ N _ _ _ _ hN he) hR hT hS hl.1 (by omega) (by omega) (fun v' _ _ hv' => by cases hv') (fun k' H1 locs1 q ce hk hR1 hS1 h1 h2 h3 => ?_)
                      cases hk
                      obtain ⟨pre, x, suf, e1, e2, e3, e4, e5, e6, e7⟩ := xhand_spec hh
                      have hH := hP.2.2.2.2.2.2.1 M hM
                      obtain ⟨c0, k1, nm, g1, g2, g3, -⟩ := hH x (by rw [e1]; exact List.mem_append_right _ List.mem_cons_self)
                      cases Option.some.inj (g1.symm.trans e5)
                      refine xg_catch (own := (xnm M).cls) (name := nm) (E := xexN G k) hown (tableOf pre) ⟨x.1, x.2.1, x.2.2.1, x.2.2.2⟩ (tableOf suf) (by rw [htab, e1]; simp [tableOf]) (fun z hz => ?_) (by simp [covers, e3, e4]) c0 (hts _ g2) (hbs _ g3) h1 h2 h3 ?_
                      · obtain ⟨y, hy, rfl⟩ := List.mem_map.mp hz
                        obtain ⟨d0, k2, nm2, f1, f2, -, f4⟩ := hH y (by rw [e1]; exact List.mem_append_left _ hy)
                        rcases e7 y hy with h9 | h9
                        · left
                          simp only [covers, Bool.and_eq_false_iff, decide_eq_false_iff_not]
                          by_cases h8 : y.1 ≤ pc
                          · exact Or.inr (fun h7 => h9 ⟨h8, h7⟩)
                          · exact Or.inl h8
                        · right
                          refine ⟨d0, nm2, hts _ f2, hT.2.2.2.2.2 _ (f4 k e6 (fun hkk => h9 (by rw [f1, hkk])))⟩
                      · show W p l e R s m args below meth c H1 locs1 _ _ _ (F0 m x.2.2.1 ls [.ref q])
                        rw [e2]
                        refine xw_hp hP hM C hhp hl (fun ls1 hl1 => ?_)
                        have := ih _ _ _ _ _ _ h H1 locs1 ls1 (cells + (S1.1 - S.1)) (slots + (S1.2.1 - S.2.1)) hR1 hS1 hl1 (by omega) (by omega)
                        rw [show cells + (S1.1 - S.1) + (S'.1 - S1.1) = cells + (S'.1 - S.1) by omega, show slots + (S1.2.1 - S.2.1) + (S'.2.1 - S1.2.1) = slots + (S'.2.1 - S.2.1) by omega] at this
                        exact this
                    · cases h
                  · cases h
            · cases h
          · split at h
            · -- a throw
              rename_i k S1 ht
              cases h
              obtain ⟨⟨idx, hi⟩, t1, t2, t3, t4, hw⟩ := xthr_spec ht
              have e0 := (xnew_spec hw).1
              have d1 : S'.1 = S.1 + 1 := by rw [e0]
              have d2 : S'.2.1 = S.2.1 + 6 := by rw [e0]
              rw [hlen] at hdg
              unfold xokc at hokc
              rw [hi] at hdg hokc
              dsimp only at hokc
              rw [if_pos t1] at hokc
              unfold xtok at hokc
              simp only [Bool.and_eq_true, decide_eq_true_eq, Bool.or_eq_true, List.any_eq_true] at hokc
              obtain ⟨⟨⟨⟨⟨⟨⟨u1, u2⟩, u3⟩, ⟨q, hq, hq1, hq2⟩⟩, u5⟩, u6⟩, u7⟩, u8⟩ := hokc
              rw [← t2] at u1 u2 u3
              obtain ⟨w1, w2, w3⟩ := hP.2.2.2.2.2.1 _ u3
              dsimp only at w1 w3
              obtain ⟨sa, hsa⟩ := hT.2.2.2.1 q hq
              rw [hq1, hq2] at hsa
              have hk9 := hts _ (hP.2.2.2.2.2.2.2.2 _ _ u1)
              have hi9 := hts _ (hP.2.2.2.2.2.2.2.2 _ _ u2)
              have hat9 : ∀ w ∈ vx_atS (xnm M).cls xi.2.2.2.2.1.toNat (xexN G k) (xnms G), w.before args s = true := fun w hw9 => by
                rcases (w3 w hw9).1 with z | z
                · exact hts w z
                · exact hbs w z
              have hgd : ∀ w ∈ Cond.classLink (xnm M).cls idx (xexN G k) :: Cond.initialized (xexN G k) :: vx_atS (xnm M).cls xi.2.2.2.2.1.toNat (xexN G k) (xnms G), vx_ot w = true := fun w hw9 => by
                rcases List.mem_cons.mp hw9 with rfl | hw9
                · rfl
                · rcases List.mem_cons.mp hw9 with rfl | hw9
                  · rfl
                  · exact (w3 w hw9).2
              have hxx : ∀ t : State, s.vm.Alike t.vm → t.heap.size = H.size + 1 → (∀ q : Nat, q < H.size → t.heap[q]? = H[q]?) → xQx (xexN G) D cl cT bs k S' (xexN G k) s t := fun t hA hz ho =>
                ⟨rfl, (hR.new hw hz ho trivial).moved hA, by rw [hz]; exact Nat.le_succ_of_le hS.1, fun q h1 h2 => by rw [ho q (Nat.lt_of_lt_of_le h1 hS.1)]; exact hS.2.1 q h1 h2⟩
              have hsum : ((st.map (cv bs)).map fun v => v.category).sum ≤ 8 := by rw [cv_sum]; exact t3
              have hno : ∀ z ∈ c.exceptionTable.toList, False := fun z hz => by rw [htab, t4] at hz; cases hz
              rcases u8 with ⟨⟨v4, v6⟩, v9⟩ | ⟨⟨v4, v6⟩, v9⟩
              · exact vx_throwS hx hb hnt hown w1 w2 hk9 hi9 hsa hat9 hgd hT.2.1 hT.2.2.1 hS (by rw [hl.1]; exact C.2.2.1.symm) hdg u7 v4 v6 v9 (fun z hz => (hno z hz).elim) (Nat.lt_of_lt_of_le u5 hRf) (by omega) (by omega) (by omega) hlocks hxx hS.2.2 (by omega) (by omega)
              · exact vx_throwSW hx hb hnt hown w1 w2 hk9 hi9 hsa hat9 hgd hT.2.1 hT.2.2.1 hS (by rw [hl.1]; exact C.2.2.1.symm) hdg u7 v4 v6 v9 (fun z hz => (hno z hz).elim) (Nat.lt_of_lt_of_le u5 hRf) (by omega) (by omega) (by omega) hlocks hxx hS.2.2 (by omega) (by omega)
            · split at h
              · -- a step
                rename_i pc' L' st' S1 hst
                have m1 := xst_mono hst
                have m2 := xrun_mono hexm f _ _ _ _ _ _ h
                dsimp only at m1
                refine xst_sound C hok hdg hlen hst hT.1.1 hbz (Nat.not_le.mpr hT.1.2) hR hS hl (by dsimp only; omega) (by dsimp only; omega) (fun H1 locs1 ls1 c1 s1 hc1 hs1 hR1 hS1 hl1 => ?_)
                dsimp only at hc1 hs1 hR1 hl1
                subst hc1; subst hs1
                have := ih _ _ _ _ _ _ h H1 locs1 ls1 _ _ hR1 hS1 hl1 (show (cells + (S1.1 - S.1)) + _ ≤ _ by omega) (show (slots + (S1.2.1 - S.2.1)) + _ ≤ _ by omega)
                rw [show cells + (S1.1 - S.1) + (S'.1 - S1.1) = cells + (S'.1 - S.1) by omega, show slots + (S1.2.1 - S.2.1) + (S'.2.1 - S1.2.1) = slots + (S'.2.1 - S.2.1) by omega] at this
                exact this
              · cases h
      · cases h
    · cases h
end XAL
end
section
/-! The methods by depth. -/
theorem lv_args_cv (bs : xB) (vs : List Value) : ∀ i : Nat, lv_args i (vs.map (cv bs)) = cL bs (lv_args i vs) := by
  induction vs with
  | nil => intro i; rfl
  | cons v vs ih =>
    intro i
    simp only [List.map_cons, lv_args, cv_cat, cL]
    rw [ih]
    rfl
theorem xsl_len (bs : xB) (vs : List Value) : (lg_sl (vs.map (cv bs))).length = xw vs := by
  induction vs with
  | nil => rfl
  | cons v vs ih =>
    unfold lg_sl at ih ⊢
    unfold xw at ih ⊢
    rw [List.map_cons, List.flatMap_cons, List.length_append, ih, List.map_cons, List.sum_cons, cv_cat]
    rcases lv_cat v with h | h <;> simp [h]
theorem xrun_inr {sc : xSc} {cl : List vw_C} {fty : Nat → Nat → FieldType} {fdef : Nat → List Value} {ck : Nat → Option Nat} {prog : List xM} {M : xM} {ex : Nat → List Value → xS → Option (xO × xS)} {k : Nat} {S' : xS} :
    ∀ (f pc : Nat) (L : xL) (st : List Value) (S : xS), xrun sc cl fty fdef ck prog M ex f pc L st S = some (.inr k, S') → xhs M = [] := by
  intro f
  induction f with
  | zero => intro pc L st S h; cases h
  | succ f ih =>
    intro pc L st S h
    unfold xrun at h
    split at h
    · split at h
      · split at h
        · cases h
        · split at h
          · split at h
            · exact ih _ _ _ _ h
            · split at h
              · cases h
              · split at h
                · assumption
                · split at h
                  · split at h
                    · exact ih _ _ _ _ h
                    · cases h
                  · cases h
            · cases h
          · split at h
            · rename_i ht
              exact (xthr_spec ht).2.2.2.2.1
            · split at h
              · exact ih _ _ _ _ h
              · cases h
      · cases h
    · cases h
section XME
variable {sc : xSc} {l : Launch} {D : va_G} {cl : List vw_C} {cT : FieldType → ClassId} {bs : xB} {fty : Nat → Nat → FieldType} {fdef : Nat → List Value} {TT : List (List Cond)} {Ts : List Cond} {G : xG} {E : xE} {prog : List xM}
set_option maxHeartbeats 1000000 in
theorem xex_sound (hP : xPg cl fty fdef G E TT Ts prog) (hnt : l.stackTraces = false) (F : Nat) :
    ∀ (d a : Nat) (M : xM) (vs : List Value) (S : xS) (o : xO) (S' : xS), prog[a]? = some M → xex sc cl fty fdef (xck G) prog d F a vs S = some (o, S') → xMt sc E (xexN G) Ts l D cl cT bs M vs S o S' := by
  intro d
  induction d with
  | zero => intro a M vs S o S' _ h; cases h
  | succ d ih =>
    intro a M vs S o S' hN h
    have hM : M ∈ prog := List.mem_of_getElem? hN
    have hmok := hP.2.2.2.1 M hM
    unfold xmok at hmok
    simp only [Bool.and_eq_true, decide_eq_true_eq] at hmok
    obtain ⟨⟨⟨⟨⟨⟨⟨⟨⟨n1, n2⟩, n3⟩, n4⟩, n5⟩, n7⟩, n8⟩, n9⟩, n10⟩, n11⟩ := hmok
    unfold xex at h
    rw [hN] at h
    dsimp only at h
    split at h
    · rename_i hsl
      have body : ∀ (p : Program) (e : Env) (s : State) (m : MethodId) (args : Array Value) (below : List Frame) (meth : Method) (c : Code) (s₁ : State), BodyLoose p l (xnm M) (headSpec (xcw M :: Ts) (xrm M S S')) (xbc M) (xmx M) (xrt M) e s m args below meth c s₁ → c.maxLocals = xmx M → c.exceptionTable.toList = tableOf (xhs M) → xPc sc E D cl cT bs vs S args s →
          W p l e (headSpec (xcw M :: Ts) (xrm M S S')).room s m args below meth c s.heap [] 0 0 (xEnd G D cl cT bs below args s o S' (S'.1 - S.1) (S'.2.1 - S.2.1)) (entryFrame m args (xmx M)) := by
        intro p e s m args below meth c s₁ B hml htab hv
        obtain ⟨rfl, hR, hT⟩ := hv
        have hts : ∀ w ∈ Ts, w.before (vs.map (cv bs)).toArray s = true := fun w hw => atoms_spec (ws := xcw M :: Ts) B.pre w (List.mem_cons_of_mem _ hw)
        have hbs : ∀ w ∈ E.2.1, w.before (vs.map (cv bs)).toArray s = true := fun w hw => xBw_use (hP.2.2.1 w hw) (hT.2.2.2.2.1 w hw)
        have hC : xCx cl fty fdef TT Ts E.2.1 (xnm M).cls (decide (xkd M = 2 ∨ xkd M = 3)) (xbc M) (xmx M) p (headSpec (xcw M :: Ts) (xrm M S S')).room s m (vs.map (cv bs)).toArray meth c :=
          ⟨B.exec, B.bytes, hml, findClass_of_methodNamed B.named, hts, hbs, hP.1, fun hd => by
            have h2 := of_decide_eq_true hd
            rw [if_pos h2] at n9
            simp only [Bool.and_eq_true, decide_eq_true_eq] at n9
            exact (name_of_methodNamed B.named B.method).1.trans n9.1, n10, n11, hP.2.2.2.2.2.2.2.2⟩
        have hl := lv_entry (vs.map (cv bs)) (n := xmx M) (by rw [xsl_len]; exact hsl)
        rw [lg_entry_eq]
        generalize (lg_sl (vs.map (cv bs)) ++ List.replicate (xmx M - (lg_sl (vs.map (cv bs))).length) Slot.unset).toArray = ls at hl ⊢
        rw [lv_args_cv] at hl
        have := xrun_sound (e := e) (below := below) (R := (headSpec (xcw M :: Ts) (xrm M S S')).room) hP hM hC (Nat.le_refl _) (Nat.le_refl _) B.returns B.notSynchronized htab hnt hT (Nat.lt_of_lt_of_le hT.1.2 (by rw [hR.1]; exact Nat.le_add_right _ _)) (xex_mono (F := F) d) (fun a N vs S o S1 hN he => ih a N vs S o S1 hN he) F 0 _ [] S o S' h s.heap [] ls 0 0 hR va_S.rf hl (by rw [Nat.zero_add]; exact Nat.le_refl _) (by rw [Nat.zero_add]; exact Nat.le_refl _)
        rw [Nat.zero_add, Nat.zero_add] at this
        exact this
      have tab0 : ∀ {p : Program} {e : Env} {s : State} {m : MethodId} {args : Array Value} {below : List Frame} {meth : Method} {c : Code} {s₁ : State}, xhs M = [] → BodyLoose p l (xnm M) (headSpec (xcw M :: Ts) (xrm M S S')) (xbc M) (xmx M) (xrt M) e s m args below meth c s₁ → c.exceptionTable.toList = tableOf (xhs M) := by
        intro p e s m args below meth c s₁ hh B
        have hw : (Cond.code (xnm M) (xbc M) (xmx M) (xrt M)).before args s = true := by
          have := atoms_spec (ws := xcw M :: Ts) B.pre _ List.mem_cons_self
          unfold xcw at this
          rw [hh] at this
          exact this
        have h9 := B.noHandlers hw
        rw [hh, Array.isEmpty_iff.mp h9]
        rfl
      cases o with
      | inl v =>
        by_cases hh : xhs M = []
        · exact Met.ofW (cc := xbc M) (maxL := xmx M) (ret := xrt M) n1 (by unfold xcw; rw [hh]) (fun p e s m args below meth c s₁ B hml hv => body p e s m args below meth c s₁ B hml (tab0 hh B) hv)
        · have hcw : xcw M = Cond.codeWith (xnm M) (xbc M) (xmx M) (xrt M) (xhs M) := by
            unfold xcw
            split
            · rename_i h9; exact absurd h9 hh
            · rfl
          exact va_MetW (cc := xbc M) (maxL := xmx M) (ret := xrt M) (hh := xhs M) n1 (by rw [hcw]) (fun p e s m args below meth c s₁ B hml hv => body p e s m args below meth c s₁ B hml (vx_table (x := xnm M) B (by rw [← hcw]; exact atoms_spec (ws := xcw M :: Ts) B.pre _ List.mem_cons_self)) hv)
      | inr k =>
        have hh := xrun_inr _ _ _ _ _ h
        exact vx_ofW (cc := xbc M) (maxL := xmx M) (ret := xrt M) n1 (by unfold xcw; rw [hh]) (fun p e s m args below meth c s₁ B hml _ hv => body p e s m args below meth c s₁ B hml (tab0 hh B) hv)
    · cases h
end XME
end
section
/-! Runs of the small machine, without counting: the rows by which they are put together. -/
abbrev xPk : Type := List vw_C × (Nat → Nat → FieldType) × (Nat → List Value) × (Nat → Option Nat) × List xM
def xrn (P : xPk) (sc : xSc) (M : xM) (ex : Nat → List Value → xS → Option (xO × xS)) (f pc : Nat) (L : xL) (st : List Value) (S : xS) : Option (xO × xS) := xrun sc P.1 P.2.1 P.2.2.1 P.2.2.2.1 P.2.2.2.2 M ex f pc L st S
def xen (P : xPk) (sc : xSc) (d F a : Nat) (vs : List Value) (S : xS) : Option (xO × xS) := xex sc P.1 P.2.1 P.2.2.1 P.2.2.2.1 P.2.2.2.2 d F a vs S
/-- from here the body comes to o -/
def xN (P : xPk) (sc : xSc) (M : xM) (pc : Nat) (L : xL) (st : List Value) (S : xS) (o : xO) (S' : xS) : Prop := ∃ d F f, xrn P sc M (xen P sc d F) f pc L st S = some (o, S')
/-- the method number a, called with vs, comes to o -/
def xX (P : xPk) (sc : xSc) (a : Nat) (vs : List Value) (S : xS) (o : xO) (S' : xS) : Prop := ∃ d F, xen P sc d F a vs S = some (o, S')
theorem xrun_le {sc : xSc} {cl : List vw_C} {fty : Nat → Nat → FieldType} {fdef : Nat → List Value} {ck : Nat → Option Nat} {prog : List xM} {M : xM} {ex ex' : Nat → List Value → xS → Option (xO × xS)} (he : ∀ a vs S r, ex a vs S = some r → ex' a vs S = some r) :
    ∀ (f pc : Nat) (L : xL) (st : List Value) (S : xS) (r : xO × xS), xrun sc cl fty fdef ck prog M ex f pc L st S = some r → ∀ f' : Nat, f ≤ f' → xrun sc cl fty fdef ck prog M ex' f' pc L st S = some r := by
  intro f
  induction f with
  | zero => intro pc L st S r h; cases h
  | succ f ih =>
    intro pc L st S r h f' hf
    obtain ⟨g, rfl⟩ : ∃ g, f' = g + 1 := ⟨f' - 1, by omega⟩
    have hg : f ≤ g := by omega
    unfold xrun at h ⊢
    split at h
    · rename_i xi hat
      try rw [hat]
      try dsimp only
      split at h
      · rename_i hlen
        try rw [if_pos hlen]
        split at h
        · rename_i v hv
          try rw [hv]
          exact h
        · rename_i hv
          try rw [hv]
          try dsimp only
          split at h
          · rename_i vs r9 hcal
            try rw [hcal]
            try dsimp only
            split at h
            · rename_i v S1 hx
              try rw [he _ _ _ _ hx]
              try dsimp only
              exact ih _ _ _ _ _ h _ hg
            · rename_i k S1 hx
              try rw [he _ _ _ _ hx]
              try dsimp only
              split at h
              · cases h
              · rename_i hsp
                try rw [if_neg hsp]
                split at h
                · rename_i hhs
                  try rw [hhs]
                  exact h
                · rename_i hhs
                  split at h
                  · rename_i hp hh
                    split at h
                    · rename_i pc' L' hhp
                      cases hq : xhs M with
                      | nil => exact absurd hq hhs
                      | cons q1 q2 =>
                        rw [hq] at hh
                        try dsimp only
                        try rw [hh]
                        try dsimp only
                        try rw [hhp]
                        try dsimp only
                        exact ih _ _ _ _ _ h _ hg
                    · cases h
                  · cases h
            · cases h
          · rename_i hcal
            try rw [hcal]
            try dsimp only
            split at h
            · rename_i k S1 ht
              try rw [ht]
              exact h
            · rename_i ht
              try rw [ht]
              try dsimp only
              split at h
              · rename_i pc' L' st' S1 hst
                try rw [hst]
                try dsimp only
                exact ih _ _ _ _ _ h _ hg
              · cases h
      · cases h
    · cases h
theorem xen_le {P : xPk} {sc : xSc} : ∀ (d F a : Nat) (vs : List Value) (S : xS) (r : xO × xS), xen P sc d F a vs S = some r → ∀ d' F' : Nat, d ≤ d' → F ≤ F' → xen P sc d' F' a vs S = some r := by
  intro d
  induction d with
  | zero => intro F a vs S r h; cases h
  | succ d ih =>
    intro F a vs S r h d' F' hd hF
    obtain ⟨g, rfl⟩ : ∃ g, d' = g + 1 := ⟨d' - 1, by omega⟩
    unfold xen xex at h ⊢
    split at h
    · rename_i M hM
      try rw [hM]
      try dsimp only
      split at h
      · rename_i hsl
        try rw [if_pos hsl]
        exact xrun_le (fun a vs S r h9 => ih F a vs S r h9 g F' (by omega) hF) _ _ _ _ _ _ h _ hF
      · cases h
    · cases h
theorem xrn_le {P : xPk} {sc : xSc} {M : xM} {d F f pc : Nat} {L : xL} {st : List Value} {S : xS} {r : xO × xS} (h : xrn P sc M (xen P sc d F) f pc L st S = some r) {d' F' f' : Nat} (hd : d ≤ d') (hF : F ≤ F') (hf : f ≤ f') : xrn P sc M (xen P sc d' F') f' pc L st S = some r :=
  xrun_le (fun a vs S r h9 => xen_le d F a vs S r h9 d' F' hd hF) f pc L st S r h f' hf
def xinv : Instr → Bool
  | .invokestatic _ => true
  | .invokevirtual _ => true
  | .invokespecial _ => true
  | _ => false
theorem xcal_ni {prog : List xM} {xi : xI} {st : List Value} {S : xS} (h : xinv xi.1 = false) : xcal prog xi st S = none := by
  unfold xcal
  split
  · unfold xargs
    split
    · split
      · rename_i hi; rw [hi] at h; cases h
      · rename_i hi; rw [hi] at h; cases h
      · rename_i hi; rw [hi] at h; cases h
      · rfl
    · rfl
  · rfl
/-- an instruction that is no call of ours -/
theorem xn_step {P : xPk} {sc : xSc} {M : xM} {pc pc' : Nat} {L L' : xL} {st st' : List Value} {S S1 S' : xS} {o : xO} {xi : xI} (hat : (xcd M)[pc]? = some (some xi)) (hlen : xi.2.1 = xlenOf xi.1 xi.2.1) (hne : xend M xi.1 st = none) (hcal : xcal P.2.2.2.2 xi st S = none) (hthr : xthr M xi st S = none)
    (hst : xst sc P.1 P.2.1 P.2.2.1 (xmx M) xi pc L st S = some (pc', L', st', S1)) (h : xN P sc M pc' L' st' S1 o S') : xN P sc M pc L st S o S' := by
  obtain ⟨d, F, f, h⟩ := h
  refine ⟨d, F, f + 1, ?_⟩
  unfold xrn xrun
  rw [hat]
  dsimp only
  rw [if_pos hlen, hne]
  dsimp only
  rw [hcal]
  dsimp only
  rw [hthr]
  dsimp only
  rw [hst]
  exact h
/-- an answer -/
theorem xn_ret {P : xPk} {sc : xSc} {M : xM} {pc : Nat} {L : xL} {st : List Value} {S : xS} {xi : xI} {v : Option Value} (hat : (xcd M)[pc]? = some (some xi)) (hlen : xi.2.1 = xlenOf xi.1 xi.2.1) (hne : xend M xi.1 st = some v) : xN P sc M pc L st S (.inl v) S := by
  refine ⟨0, 0, 1, ?_⟩
  unfold xrn xrun
  rw [hat]
  dsimp only
  rw [if_pos hlen, hne]
/-- a call that answers -/
theorem xn_call {P : xPk} {sc : xSc} {M : xM} {pc : Nat} {L : xL} {st vs r : List Value} {S S1 S' : xS} {o : xO} {xi : xI} {v : Option Value} (hat : (xcd M)[pc]? = some (some xi)) (hlen : xi.2.1 = xlenOf xi.1 xi.2.1) (hne : xend M xi.1 st = none) (hcal : xcal P.2.2.2.2 xi st S = some (vs, r))
    (hx : xX P sc xi.2.2.1 vs S (.inl v) S1) (h : xN P sc M (pc + 3) L (v.toList ++ r) S1 o S') : xN P sc M pc L st S o S' := by
  obtain ⟨d1, F1, hx⟩ := hx
  obtain ⟨d, F, f, h⟩ := h
  refine ⟨max d1 d, max F1 F, f + 1, ?_⟩
  have hx := xen_le _ _ _ _ _ _ hx (max d1 d) (max F1 F) (Nat.le_max_left _ _) (Nat.le_max_left _ _)
  have h := xrn_le h (Nat.le_max_right d1 d) (Nat.le_max_right F1 F) (Nat.le_refl f)
  unfold xrn xrun
  rw [hat]
  dsimp only
  rw [if_pos hlen, hne]
  dsimp only
  rw [hcal]
  dsimp only
  rw [hx]
  exact h
/-- a call that throws, and this body has no handlers -/
theorem xn_thru {P : xPk} {sc : xSc} {M : xM} {pc : Nat} {L : xL} {st vs r : List Value} {S S1 : xS} {k : Nat} {xi : xI} (hat : (xcd M)[pc]? = some (some xi)) (hlen : xi.2.1 = xlenOf xi.1 xi.2.1) (hne : xend M xi.1 st = none) (hcal : xcal P.2.2.2.2 xi st S = some (vs, r))
    (hsp : ¬ (xisp xi.1 = true ∨ xcH P.2.2.2.2 xi = false)) (hhs : xhs M = []) (hx : xX P sc xi.2.2.1 vs S (.inr k) S1) : xN P sc M pc L st S (.inr k) S1 := by
  obtain ⟨d1, F1, hx⟩ := hx
  refine ⟨d1, F1, 1, ?_⟩
  unfold xrn xrun
  rw [hat]
  dsimp only
  rw [if_pos hlen, hne]
  dsimp only
  rw [hcal]
  dsimp only
  rw [hx]
  dsimp only
  rw [if_neg hsp, hhs]
/-- a call that throws, caught by a handler of this body -/
theorem xn_catch {P : xPk} {sc : xSc} {M : xM} {pc hp pc' : Nat} {L L' : xL} {st vs r : List Value} {S S1 S' : xS} {o : xO} {k : Nat} {xi : xI} {q1 : Nat × Nat × Nat × Nat} {q2 : List (Nat × Nat × Nat × Nat)} (hat : (xcd M)[pc]? = some (some xi)) (hlen : xi.2.1 = xlenOf xi.1 xi.2.1) (hne : xend M xi.1 st = none) (hcal : xcal P.2.2.2.2 xi st S = some (vs, r))
    (hsp : ¬ (xisp xi.1 = true ∨ xcH P.2.2.2.2 xi = false)) (hhs : xhs M = q1 :: q2) (hh : xhand P.2.2.2.1 (xhs M) pc k = some hp) (hhp : xhp M hp L = some (pc', L')) (hx : xX P sc xi.2.2.1 vs S (.inr k) S1) (h : xN P sc M pc' L' [] S1 o S') : xN P sc M pc L st S o S' := by
  obtain ⟨d1, F1, hx⟩ := hx
  obtain ⟨d, F, f, h⟩ := h
  refine ⟨max d1 d, max F1 F, f + 1, ?_⟩
  have hx := xen_le _ _ _ _ _ _ hx (max d1 d) (max F1 F) (Nat.le_max_left _ _) (Nat.le_max_left _ _)
  have h := xrn_le h (Nat.le_max_right d1 d) (Nat.le_max_right F1 F) (Nat.le_refl f)
  unfold xrn xrun
  rw [hat]
  dsimp only
  rw [if_pos hlen, hne]
  dsimp only
  rw [hcal]
  dsimp only
  rw [hx]
  dsimp only
  rw [if_neg hsp]
  rw [hhs] at hh ⊢
  dsimp only
  rw [hh]
  dsimp only
  rw [hhp]
  exact h
/-- 'throw new' -/
theorem xn_throw {P : xPk} {sc : xSc} {M : xM} {pc : Nat} {L : xL} {st : List Value} {S S1 : xS} {k : Nat} {xi : xI} (hat : (xcd M)[pc]? = some (some xi)) (hlen : xi.2.1 = xlenOf xi.1 xi.2.1) (hne : xend M xi.1 st = none) (hcal : xcal P.2.2.2.2 xi st S = none) (hthr : xthr M xi st S = some (k, S1)) : xN P sc M pc L st S (.inr k) S1 := by
  refine ⟨0, 0, 1, ?_⟩
  unfold xrn xrun
  rw [hat]
  dsimp only
  rw [if_pos hlen, hne]
  dsimp only
  rw [hcal]
  dsimp only
  rw [hthr]
theorem xX_of {P : xPk} {sc : xSc} {a : Nat} {M : xM} {vs : List Value} {S S' : xS} {o : xO} (hM : P.2.2.2.2[a]? = some M) (hw : xw vs ≤ xmx M) (h : xN P sc M 0 (lv_args 0 vs) [] S o S') : xX P sc a vs S o S' := by
  obtain ⟨d, F, f, h⟩ := h
  refine ⟨d + 1, max F f, ?_⟩
  have h := xrn_le h (Nat.le_refl d) (Nat.le_max_left F f) (Nat.le_max_right F f)
  unfold xen xex
  rw [hM]
  dsimp only
  rw [if_pos hw]
  exact h
/-! A run that needs no script is a run with any. -/
def xnosc : xSc := (0, fun _ => 0)
set_option maxHeartbeats 4000000 in
theorem xst_sc {sc : xSc} {cl : List vw_C} {fty : Nat → Nat → FieldType} {fdef : Nat → List Value} {nL : Nat} {xi : xI} {pc : Nat} {L : xL} {st : List Value} {S : xS} {fr : xF} (h : xst xnosc cl fty fdef nL xi pc L st S = some fr) : xst sc cl fty fdef nL xi pc L st S = some fr := by
  obtain ⟨ins, len, qa, qb, qz, qj⟩ := xi
  cases ins with
  | iaload =>
    obtain ⟨t, ht, e⟩ := Option.map_eq_some_iff.mp h
    refine Option.map_eq_some_iff.mpr ⟨t, ?_, e⟩
    rcases xiald_inv ht with ⟨i, a, r, n, f, rfl, ha, hi, rfl⟩ | ⟨i, a, r, -, hi, -⟩
    · unfold xiald
      dsimp only
      rw [ha]
      dsimp only
      rw [if_pos hi]
    · unfold xin xnosc at hi
      simp at hi
  | arraylength =>
    obtain ⟨t, ht, e⟩ := Option.map_eq_some_iff.mp h
    refine Option.map_eq_some_iff.mpr ⟨t, ?_, e⟩
    rcases xlen_inv ht with ⟨a, r, ty, x, rfl, ha, rfl⟩ | ⟨a, r, -, h0, -⟩
    · unfold xlen
      dsimp only
      rw [ha]
    · exact absurd rfl h0
  | _ => exact h
theorem xrun_sc {sc : xSc} {cl : List vw_C} {fty : Nat → Nat → FieldType} {fdef : Nat → List Value} {ck : Nat → Option Nat} {prog : List xM} {M : xM} {ex ex' : Nat → List Value → xS → Option (xO × xS)} (he : ∀ a vs S r, ex a vs S = some r → ex' a vs S = some r) :
    ∀ (f pc : Nat) (L : xL) (st : List Value) (S : xS) (r : xO × xS), xrun xnosc cl fty fdef ck prog M ex f pc L st S = some r → xrun sc cl fty fdef ck prog M ex' f pc L st S = some r := by
  intro f
  induction f with
  | zero => intro pc L st S r h; cases h
  | succ f ih =>
    intro pc L st S r h
    unfold xrun at h ⊢
    split at h
    · rename_i xi hat
      try rw [hat]
      try dsimp only
      split at h
      · rename_i hlen
        try rw [if_pos hlen]
        split at h
        · rename_i v hv
          try rw [hv]
          exact h
        · rename_i hv
          try rw [hv]
          try dsimp only
          split at h
          · rename_i vs r9 hcal
            try rw [hcal]
            try dsimp only
            split at h
            · rename_i v S1 hx
              try rw [he _ _ _ _ hx]
              try dsimp only
              exact ih _ _ _ _ _ h
            · rename_i k S1 hx
              try rw [he _ _ _ _ hx]
              try dsimp only
              split at h
              · cases h
              · rename_i hsp
                try rw [if_neg hsp]
                split at h
                · rename_i hhs
                  try rw [hhs]
                  exact h
                · rename_i hhs
                  split at h
                  · rename_i hp hh
                    split at h
                    · rename_i pc' L' hhp
                      cases hq : xhs M with
                      | nil => exact absurd hq hhs
                      | cons q1 q2 =>
                        rw [hq] at hh
                        try dsimp only
                        try rw [hh]
                        try dsimp only
                        try rw [hhp]
                        try dsimp only
                        exact ih _ _ _ _ _ h
                    · cases h
                  · cases h
            · cases h
          · rename_i hcal
            try rw [hcal]
            try dsimp only
            split at h
            · rename_i k S1 ht
              try rw [ht]
              exact h
            · rename_i ht
              try rw [ht]
              try dsimp only
              split at h
              · rename_i pc' L' st' S1 hst
                try rw [xst_sc hst]
                try dsimp only
                exact ih _ _ _ _ _ h
              · cases h
      · cases h
    · cases h
theorem xen_sc {P : xPk} {sc : xSc} {F : Nat} : ∀ (d a : Nat) (vs : List Value) (S : xS) (r : xO × xS), xen P xnosc d F a vs S = some r → xen P sc d F a vs S = some r := by
  intro d
  induction d with
  | zero => intro a vs S r h; cases h
  | succ d ih =>
    intro a vs S r h
    unfold xen xex at h ⊢
    split at h
    · rename_i M hM
      try rw [hM]
      try dsimp only
      split at h
      · rename_i hsl
        try rw [if_pos hsl]
        exact xrun_sc (fun a vs S r h9 => ih a vs S r h9) _ _ _ _ _ _ h
      · cases h
    · cases h
end

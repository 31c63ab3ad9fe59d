section
-- ===== PART A: goes FIRST, ahead of the names: the tables' words, and 'selects' of the private methods out of them =====
/-- a private method of a class that the tables say can be made, by its rows of tables_1 -/
def lw_okq (q : MethodName × Nat) : Prop := (q.1.cls ≠ "java/lang/invoke/MethodHandle" ∧ q.1.cls ≠ "java/lang/invoke/VarHandle") ∧ Cond.instantiable q.1.cls q.2 ∈ tables_1 ∧ Cond.privateMethod q.1 ∈ tables_1 ∧ Cond.instanceMethod q.1 ∈ tables_1
theorem lw_p0 : lw_okq (⟨"DiodeLink$Journal", "firstKept", "()I"⟩, 6) := ⟨⟨by decide +kernel, by decide +kernel⟩, List.mem_of_getElem? (i := 128) (by decide +kernel), List.mem_of_getElem? (i := 291) (by decide +kernel), List.mem_of_getElem? (i := 292) (by decide +kernel)⟩
theorem lw_p1 : lw_okq (⟨"DiodeLink$Journal", "dueLink", "(JI)J"⟩, 6) := ⟨⟨by decide +kernel, by decide +kernel⟩, List.mem_of_getElem? (i := 128) (by decide +kernel), List.mem_of_getElem? (i := 302) (by decide +kernel), List.mem_of_getElem? (i := 303) (by decide +kernel)⟩
theorem lw_p2 : lw_okq (⟨"java/lang/Throwable", "fillInStackTrace", "(I)Ljava/lang/Throwable;"⟩, 6) := ⟨⟨by decide +kernel, by decide +kernel⟩, List.mem_of_getElem? (i := 378) (by decide +kernel), List.mem_of_getElem? (i := 376) (by decide +kernel), List.mem_of_getElem? (i := 377) (by decide +kernel)⟩
theorem lw_p3 : lw_okq (⟨"DiodeLink$Folder", "placeOf", "(LDiodeLink$Bytes;)I"⟩, 5) := ⟨⟨by decide +kernel, by decide +kernel⟩, List.mem_of_getElem? (i := 51) (by decide +kernel), List.mem_of_getElem? (i := 455) (by decide +kernel), List.mem_of_getElem? (i := 456) (by decide +kernel)⟩
theorem lw_p4 : lw_okq (⟨"DiodeLink$Folder", "isAt", "(ILDiodeLink$Bytes;)Z"⟩, 5) := ⟨⟨by decide +kernel, by decide +kernel⟩, List.mem_of_getElem? (i := 51) (by decide +kernel), List.mem_of_getElem? (i := 470) (by decide +kernel), List.mem_of_getElem? (i := 471) (by decide +kernel)⟩
theorem lw_p5 : lw_okq (⟨"DiodeLink$Folder", "moveFile", "(II)V"⟩, 5) := ⟨⟨by decide +kernel, by decide +kernel⟩, List.mem_of_getElem? (i := 51) (by decide +kernel), List.mem_of_getElem? (i := 474) (by decide +kernel), List.mem_of_getElem? (i := 475) (by decide +kernel)⟩
theorem lw_p6 : lw_okq (⟨"DiodeLink$Sender", "beginRounds", "()V"⟩, 4) := ⟨⟨by decide +kernel, by decide +kernel⟩, List.mem_of_getElem? (i := 44) (by decide +kernel), List.mem_of_getElem? (i := 549) (by decide +kernel), List.mem_of_getElem? (i := 550) (by decide +kernel)⟩
theorem lw_p7 : lw_okq (⟨"DiodeLink$Sender", "packetsOf", "(I)I"⟩, 4) := ⟨⟨by decide +kernel, by decide +kernel⟩, List.mem_of_getElem? (i := 44) (by decide +kernel), List.mem_of_getElem? (i := 565) (by decide +kernel), List.mem_of_getElem? (i := 566) (by decide +kernel)⟩
theorem lw_p8 : lw_okq (⟨"DiodeLink$Sender", "fillFrom", "(LDiodeLink$Bytes;II)V"⟩, 4) := ⟨⟨by decide +kernel, by decide +kernel⟩, List.mem_of_getElem? (i := 44) (by decide +kernel), List.mem_of_getElem? (i := 594) (by decide +kernel), List.mem_of_getElem? (i := 595) (by decide +kernel)⟩
theorem lw_p9 : lw_okq (⟨"DiodeLink$Edition", "appendPlace", "(LDiodeLink$Bytes;III)V"⟩, 3) := ⟨⟨by decide +kernel, by decide +kernel⟩, List.mem_of_getElem? (i := 61) (by decide +kernel), List.mem_of_getElem? (i := 602) (by decide +kernel), List.mem_of_getElem? (i := 603) (by decide +kernel)⟩
theorem lw_p10 : lw_okq (⟨"DiodeLink$Edition", "sum", "(III)J"⟩, 3) := ⟨⟨by decide +kernel, by decide +kernel⟩, List.mem_of_getElem? (i := 61) (by decide +kernel), List.mem_of_getElem? (i := 606) (by decide +kernel), List.mem_of_getElem? (i := 607) (by decide +kernel)⟩
theorem lw_p11 : lw_okq (⟨"DiodeLink", "checkSlot", "(I)V"⟩, 8) := ⟨⟨by decide +kernel, by decide +kernel⟩, List.mem_of_getElem? (i := 22) (by decide +kernel), List.mem_of_getElem? (i := 627) (by decide +kernel), List.mem_of_getElem? (i := 628) (by decide +kernel)⟩
theorem lw_p12 : lw_okq (⟨"DiodeLink$Receiver", "whyDropped", "(LDiodeLink$Bytes;)I"⟩, 7) := ⟨⟨by decide +kernel, by decide +kernel⟩, List.mem_of_getElem? (i := 156) (by decide +kernel), List.mem_of_getElem? (i := 661) (by decide +kernel), List.mem_of_getElem? (i := 662) (by decide +kernel)⟩
theorem lw_p13 : lw_okq (⟨"DiodeLink$Receiver", "noteLife", "(I)V"⟩, 7) := ⟨⟨by decide +kernel, by decide +kernel⟩, List.mem_of_getElem? (i := 156) (by decide +kernel), List.mem_of_getElem? (i := 668) (by decide +kernel), List.mem_of_getElem? (i := 669) (by decide +kernel)⟩
theorem lw_p14 : lw_okq (⟨"DiodeLink$Receiver", "canBe", "(LDiodeLink$Bytes;)Z"⟩, 7) := ⟨⟨by decide +kernel, by decide +kernel⟩, List.mem_of_getElem? (i := 156) (by decide +kernel), List.mem_of_getElem? (i := 672) (by decide +kernel), List.mem_of_getElem? (i := 673) (by decide +kernel)⟩
theorem lw_p15 : lw_okq (⟨"DiodeLink$Receiver", "leastOf", "(I)LDiodeLink$Version;"⟩, 7) := ⟨⟨by decide +kernel, by decide +kernel⟩, List.mem_of_getElem? (i := 156) (by decide +kernel), List.mem_of_getElem? (i := 678) (by decide +kernel), List.mem_of_getElem? (i := 679) (by decide +kernel)⟩
def lw_privs_1 : List (MethodName × Nat) := [(⟨"DiodeLink$Journal", "firstKept", "()I"⟩, 6), (⟨"DiodeLink$Journal", "dueLink", "(JI)J"⟩, 6), (⟨"java/lang/Throwable", "fillInStackTrace", "(I)Ljava/lang/Throwable;"⟩, 6), (⟨"DiodeLink$Folder", "placeOf", "(LDiodeLink$Bytes;)I"⟩, 5), (⟨"DiodeLink$Folder", "isAt", "(ILDiodeLink$Bytes;)Z"⟩, 5), (⟨"DiodeLink$Folder", "moveFile", "(II)V"⟩, 5), (⟨"DiodeLink$Sender", "beginRounds", "()V"⟩, 4), (⟨"DiodeLink$Sender", "packetsOf", "(I)I"⟩, 4), (⟨"DiodeLink$Sender", "fillFrom", "(LDiodeLink$Bytes;II)V"⟩, 4), (⟨"DiodeLink$Edition", "appendPlace", "(LDiodeLink$Bytes;III)V"⟩, 3), (⟨"DiodeLink$Edition", "sum", "(III)J"⟩, 3), (⟨"DiodeLink", "checkSlot", "(I)V"⟩, 8), (⟨"DiodeLink$Receiver", "whyDropped", "(LDiodeLink$Bytes;)I"⟩, 7), (⟨"DiodeLink$Receiver", "noteLife", "(I)V"⟩, 7), (⟨"DiodeLink$Receiver", "canBe", "(LDiodeLink$Bytes;)Z"⟩, 7), (⟨"DiodeLink$Receiver", "leastOf", "(I)LDiodeLink$Version;"⟩, 7)]
theorem lw_r1 : ∀ q ∈ lw_privs_1, lw_okq q := List.forall_mem_cons.mpr ⟨lw_p0, List.forall_mem_cons.mpr ⟨lw_p1, List.forall_mem_cons.mpr ⟨lw_p2, List.forall_mem_cons.mpr ⟨lw_p3, List.forall_mem_cons.mpr ⟨lw_p4, List.forall_mem_cons.mpr ⟨lw_p5, List.forall_mem_cons.mpr ⟨lw_p6, List.forall_mem_cons.mpr ⟨lw_p7, List.forall_mem_cons.mpr ⟨lw_p8, List.forall_mem_cons.mpr ⟨lw_p9, List.forall_mem_cons.mpr ⟨lw_p10, List.forall_mem_cons.mpr ⟨lw_p11, List.forall_mem_cons.mpr ⟨lw_p12, List.forall_mem_cons.mpr ⟨lw_p13, List.forall_mem_cons.mpr ⟨lw_p14, List.forall_mem_cons.mpr ⟨lw_p15, fun _ h => absurd h List.not_mem_nil⟩⟩⟩⟩⟩⟩⟩⟩⟩⟩⟩⟩⟩⟩⟩⟩
theorem lw_p16 : lw_okq (⟨"DiodeLink$Receiver", "knownAt", "(II)LDiodeLink$Version;"⟩, 7) := ⟨⟨by decide +kernel, by decide +kernel⟩, List.mem_of_getElem? (i := 156) (by decide +kernel), List.mem_of_getElem? (i := 682) (by decide +kernel), List.mem_of_getElem? (i := 683) (by decide +kernel)⟩
theorem lw_p17 : lw_okq (⟨"DiodeLink$Receiver", "learn", "(II)LDiodeLink$Version;"⟩, 7) := ⟨⟨by decide +kernel, by decide +kernel⟩, List.mem_of_getElem? (i := 156) (by decide +kernel), List.mem_of_getElem? (i := 690) (by decide +kernel), List.mem_of_getElem? (i := 691) (by decide +kernel)⟩
theorem lw_p18 : lw_okq (⟨"DiodeLink$Receiver", "find", "(II)LDiodeLink$Version;"⟩, 7) := ⟨⟨by decide +kernel, by decide +kernel⟩, List.mem_of_getElem? (i := 156) (by decide +kernel), List.mem_of_getElem? (i := 694) (by decide +kernel), List.mem_of_getElem? (i := 695) (by decide +kernel)⟩
theorem lw_p19 : lw_okq (⟨"DiodeLink$Receiver", "hasOtherSize", "(LDiodeLink$Version;ILDiodeLink$Bytes;)Z"⟩, 7) := ⟨⟨by decide +kernel, by decide +kernel⟩, List.mem_of_getElem? (i := 156) (by decide +kernel), List.mem_of_getElem? (i := 720) (by decide +kernel), List.mem_of_getElem? (i := 721) (by decide +kernel)⟩
theorem lw_p20 : lw_okq (⟨"DiodeLink$Rows", "hasPivotIn", "(III)Z"⟩, 4) := ⟨⟨by decide +kernel, by decide +kernel⟩, List.mem_of_getElem? (i := 164) (by decide +kernel), List.mem_of_getElem? (i := 757) (by decide +kernel), List.mem_of_getElem? (i := 758) (by decide +kernel)⟩
theorem lw_p21 : lw_okq (⟨"DiodeLink$Receiver", "makeRoom", "()Z"⟩, 7) := ⟨⟨by decide +kernel, by decide +kernel⟩, List.mem_of_getElem? (i := 156) (by decide +kernel), List.mem_of_getElem? (i := 765) (by decide +kernel), List.mem_of_getElem? (i := 766) (by decide +kernel)⟩
theorem lw_p22 : lw_okq (⟨"DiodeLink$Receiver", "greatestOf", "(I)I"⟩, 7) := ⟨⟨by decide +kernel, by decide +kernel⟩, List.mem_of_getElem? (i := 156) (by decide +kernel), List.mem_of_getElem? (i := 777) (by decide +kernel), List.mem_of_getElem? (i := 778) (by decide +kernel)⟩
theorem lw_p23 : lw_okq (⟨"DiodeLink$Receiver", "keepRow", "(LDiodeLink$Version;ILDiodeLink$Bytes;)Z"⟩, 7) := ⟨⟨by decide +kernel, by decide +kernel⟩, List.mem_of_getElem? (i := 156) (by decide +kernel), List.mem_of_getElem? (i := 782) (by decide +kernel), List.mem_of_getElem? (i := 783) (by decide +kernel)⟩
theorem lw_p24 : lw_okq (⟨"DiodeLink$Receiver", "lookAt", "(LDiodeLink$Version;II)V"⟩, 7) := ⟨⟨by decide +kernel, by decide +kernel⟩, List.mem_of_getElem? (i := 156) (by decide +kernel), List.mem_of_getElem? (i := 810) (by decide +kernel), List.mem_of_getElem? (i := 811) (by decide +kernel)⟩
theorem lw_p25 : lw_okq (⟨"DiodeLink$Receiver", "lookAtFile", "(LDiodeLink$Version;II)V"⟩, 7) := ⟨⟨by decide +kernel, by decide +kernel⟩, List.mem_of_getElem? (i := 156) (by decide +kernel), List.mem_of_getElem? (i := 818) (by decide +kernel), List.mem_of_getElem? (i := 819) (by decide +kernel)⟩
theorem lw_p26 : lw_okq (⟨"DiodeLink$Receiver", "forgetItem", "(LDiodeLink$Version;II)V"⟩, 7) := ⟨⟨by decide +kernel, by decide +kernel⟩, List.mem_of_getElem? (i := 156) (by decide +kernel), List.mem_of_getElem? (i := 827) (by decide +kernel), List.mem_of_getElem? (i := 828) (by decide +kernel)⟩
theorem lw_p27 : lw_okq (⟨"DiodeLink$Receiver", "dropItemRows", "(LDiodeLink$Version;II)V"⟩, 7) := ⟨⟨by decide +kernel, by decide +kernel⟩, List.mem_of_getElem? (i := 156) (by decide +kernel), List.mem_of_getElem? (i := 832) (by decide +kernel), List.mem_of_getElem? (i := 833) (by decide +kernel)⟩
theorem lw_p28 : lw_okq (⟨"DiodeLink$Version", "isBehindLast", "(I)Z"⟩, 11) := ⟨⟨by decide +kernel, by decide +kernel⟩, List.mem_of_getElem? (i := 182) (by decide +kernel), List.mem_of_getElem? (i := 843) (by decide +kernel), List.mem_of_getElem? (i := 844) (by decide +kernel)⟩
theorem lw_p29 : lw_okq (⟨"DiodeLink$Receiver", "holdAlike", "(I)V"⟩, 7) := ⟨⟨by decide +kernel, by decide +kernel⟩, List.mem_of_getElem? (i := 156) (by decide +kernel), List.mem_of_getElem? (i := 852) (by decide +kernel), List.mem_of_getElem? (i := 853) (by decide +kernel)⟩
theorem lw_p30 : lw_okq (⟨"DiodeLink$Receiver", "holdByOther", "(III)Z"⟩, 7) := ⟨⟨by decide +kernel, by decide +kernel⟩, List.mem_of_getElem? (i := 156) (by decide +kernel), List.mem_of_getElem? (i := 856) (by decide +kernel), List.mem_of_getElem? (i := 857) (by decide +kernel)⟩
theorem lw_p31 : lw_okq (⟨"DiodeLink$Receiver", "leastToJudge", "(I)LDiodeLink$Version;"⟩, 7) := ⟨⟨by decide +kernel, by decide +kernel⟩, List.mem_of_getElem? (i := 156) (by decide +kernel), List.mem_of_getElem? (i := 873) (by decide +kernel), List.mem_of_getElem? (i := 874) (by decide +kernel)⟩
def lw_privs_2 : List (MethodName × Nat) := [(⟨"DiodeLink$Receiver", "knownAt", "(II)LDiodeLink$Version;"⟩, 7), (⟨"DiodeLink$Receiver", "learn", "(II)LDiodeLink$Version;"⟩, 7), (⟨"DiodeLink$Receiver", "find", "(II)LDiodeLink$Version;"⟩, 7), (⟨"DiodeLink$Receiver", "hasOtherSize", "(LDiodeLink$Version;ILDiodeLink$Bytes;)Z"⟩, 7), (⟨"DiodeLink$Rows", "hasPivotIn", "(III)Z"⟩, 4), (⟨"DiodeLink$Receiver", "makeRoom", "()Z"⟩, 7), (⟨"DiodeLink$Receiver", "greatestOf", "(I)I"⟩, 7), (⟨"DiodeLink$Receiver", "keepRow", "(LDiodeLink$Version;ILDiodeLink$Bytes;)Z"⟩, 7), (⟨"DiodeLink$Receiver", "lookAt", "(LDiodeLink$Version;II)V"⟩, 7), (⟨"DiodeLink$Receiver", "lookAtFile", "(LDiodeLink$Version;II)V"⟩, 7), (⟨"DiodeLink$Receiver", "forgetItem", "(LDiodeLink$Version;II)V"⟩, 7), (⟨"DiodeLink$Receiver", "dropItemRows", "(LDiodeLink$Version;II)V"⟩, 7), (⟨"DiodeLink$Version", "isBehindLast", "(I)Z"⟩, 11), (⟨"DiodeLink$Receiver", "holdAlike", "(I)V"⟩, 7), (⟨"DiodeLink$Receiver", "holdByOther", "(III)Z"⟩, 7), (⟨"DiodeLink$Receiver", "leastToJudge", "(I)LDiodeLink$Version;"⟩, 7)]
theorem lw_r2 : ∀ q ∈ lw_privs_2, lw_okq q := List.forall_mem_cons.mpr ⟨lw_p16, List.forall_mem_cons.mpr ⟨lw_p17, List.forall_mem_cons.mpr ⟨lw_p18, List.forall_mem_cons.mpr ⟨lw_p19, List.forall_mem_cons.mpr ⟨lw_p20, List.forall_mem_cons.mpr ⟨lw_p21, List.forall_mem_cons.mpr ⟨lw_p22, List.forall_mem_cons.mpr ⟨lw_p23, List.forall_mem_cons.mpr ⟨lw_p24, List.forall_mem_cons.mpr ⟨lw_p25, List.forall_mem_cons.mpr ⟨lw_p26, List.forall_mem_cons.mpr ⟨lw_p27, List.forall_mem_cons.mpr ⟨lw_p28, List.forall_mem_cons.mpr ⟨lw_p29, List.forall_mem_cons.mpr ⟨lw_p30, List.forall_mem_cons.mpr ⟨lw_p31, fun _ h => absurd h List.not_mem_nil⟩⟩⟩⟩⟩⟩⟩⟩⟩⟩⟩⟩⟩⟩⟩⟩
theorem lw_p32 : lw_okq (⟨"DiodeLink$Receiver", "judge", "(LDiodeLink$Version;I)V"⟩, 7) := ⟨⟨by decide +kernel, by decide +kernel⟩, List.mem_of_getElem? (i := 156) (by decide +kernel), List.mem_of_getElem? (i := 885) (by decide +kernel), List.mem_of_getElem? (i := 886) (by decide +kernel)⟩
theorem lw_p33 : lw_okq (⟨"DiodeLink$Rules", "isBrokenByFile", "(ILDiodeLink$Version;I)Z"⟩, 4) := ⟨⟨by decide +kernel, by decide +kernel⟩, List.mem_of_getElem? (i := 108) (by decide +kernel), List.mem_of_getElem? (i := 894) (by decide +kernel), List.mem_of_getElem? (i := 895) (by decide +kernel)⟩
theorem lw_p34 : lw_okq (⟨"DiodeLink$Rules", "hasBadSign", "(LDiodeLink$Version;I)Z"⟩, 4) := ⟨⟨by decide +kernel, by decide +kernel⟩, List.mem_of_getElem? (i := 108) (by decide +kernel), List.mem_of_getElem? (i := 902) (by decide +kernel), List.mem_of_getElem? (i := 903) (by decide +kernel)⟩
theorem lw_p35 : lw_okq (⟨"DiodeLinkModel", "fails", "(ZI)Z"⟩, 51) := ⟨⟨by decide +kernel, by decide +kernel⟩, List.mem_of_getElem? (i := 1087) (by decide +kernel), List.mem_of_getElem? (i := 1258) (by decide +kernel), List.mem_of_getElem? (i := 1259) (by decide +kernel)⟩
theorem lw_p36 : lw_okq (⟨"DiodeLinkModel", "isName", "()Z"⟩, 51) := ⟨⟨by decide +kernel, by decide +kernel⟩, List.mem_of_getElem? (i := 1087) (by decide +kernel), List.mem_of_getElem? (i := 1267) (by decide +kernel), List.mem_of_getElem? (i := 1268) (by decide +kernel)⟩
theorem lw_p37 : lw_okq (⟨"DiodeLinkModel", "place", "(I)I"⟩, 51) := ⟨⟨by decide +kernel, by decide +kernel⟩, List.mem_of_getElem? (i := 1087) (by decide +kernel), List.mem_of_getElem? (i := 1271) (by decide +kernel), List.mem_of_getElem? (i := 1272) (by decide +kernel)⟩
theorem lw_p38 : lw_okq (⟨"DiodeLinkModel", "order", "(I)I"⟩, 51) := ⟨⟨by decide +kernel, by decide +kernel⟩, List.mem_of_getElem? (i := 1087) (by decide +kernel), List.mem_of_getElem? (i := 1275) (by decide +kernel), List.mem_of_getElem? (i := 1276) (by decide +kernel)⟩
theorem lw_p39 : lw_okq (⟨"DiodeLinkModel", "isThere", "(II)Z"⟩, 51) := ⟨⟨by decide +kernel, by decide +kernel⟩, List.mem_of_getElem? (i := 1087) (by decide +kernel), List.mem_of_getElem? (i := 1279) (by decide +kernel), List.mem_of_getElem? (i := 1280) (by decide +kernel)⟩
theorem lw_p40 : lw_okq (⟨"DiodeLinkModel", "move", "(II)V"⟩, 51) := ⟨⟨by decide +kernel, by decide +kernel⟩, List.mem_of_getElem? (i := 1087) (by decide +kernel), List.mem_of_getElem? (i := 1283) (by decide +kernel), List.mem_of_getElem? (i := 1284) (by decide +kernel)⟩
theorem lw_p41 : lw_okq (⟨"DiodeLinkModel", "manifest", "(III)V"⟩, 51) := ⟨⟨by decide +kernel, by decide +kernel⟩, List.mem_of_getElem? (i := 1087) (by decide +kernel), List.mem_of_getElem? (i := 1295) (by decide +kernel), List.mem_of_getElem? (i := 1296) (by decide +kernel)⟩
theorem lw_p42 : lw_okq (⟨"DiodeLinkModel", "told", "(III)I"⟩, 51) := ⟨⟨by decide +kernel, by decide +kernel⟩, List.mem_of_getElem? (i := 1087) (by decide +kernel), List.mem_of_getElem? (i := 1299) (by decide +kernel), List.mem_of_getElem? (i := 1300) (by decide +kernel)⟩
theorem lw_p43 : lw_okq (⟨"DiodeLinkModel", "anew", "()V"⟩, 51) := ⟨⟨by decide +kernel, by decide +kernel⟩, List.mem_of_getElem? (i := 1087) (by decide +kernel), List.mem_of_getElem? (i := 1311) (by decide +kernel), List.mem_of_getElem? (i := 1312) (by decide +kernel)⟩
theorem lw_p44 : lw_okq (⟨"DiodeLinkModel", "look", "(II)I"⟩, 51) := ⟨⟨by decide +kernel, by decide +kernel⟩, List.mem_of_getElem? (i := 1087) (by decide +kernel), List.mem_of_getElem? (i := 1319) (by decide +kernel), List.mem_of_getElem? (i := 1320) (by decide +kernel)⟩
theorem lw_p45 : lw_okq (⟨"DiodeLinkModel", "within", "(III)I"⟩, 51) := ⟨⟨by decide +kernel, by decide +kernel⟩, List.mem_of_getElem? (i := 1087) (by decide +kernel), List.mem_of_getElem? (i := 1323) (by decide +kernel), List.mem_of_getElem? (i := 1324) (by decide +kernel)⟩
theorem lw_p46 : lw_okq (⟨"DiodeLinkModel", "piece", "(III)J"⟩, 51) := ⟨⟨by decide +kernel, by decide +kernel⟩, List.mem_of_getElem? (i := 1087) (by decide +kernel), List.mem_of_getElem? (i := 1337) (by decide +kernel), List.mem_of_getElem? (i := 1338) (by decide +kernel)⟩
theorem lw_p47 : lw_okq (⟨"DiodeLinkModel", "lay", "(IIJI)V"⟩, 51) := ⟨⟨by decide +kernel, by decide +kernel⟩, List.mem_of_getElem? (i := 1087) (by decide +kernel), List.mem_of_getElem? (i := 1341) (by decide +kernel), List.mem_of_getElem? (i := 1342) (by decide +kernel)⟩
def lw_privs_3 : List (MethodName × Nat) := [(⟨"DiodeLink$Receiver", "judge", "(LDiodeLink$Version;I)V"⟩, 7), (⟨"DiodeLink$Rules", "isBrokenByFile", "(ILDiodeLink$Version;I)Z"⟩, 4), (⟨"DiodeLink$Rules", "hasBadSign", "(LDiodeLink$Version;I)Z"⟩, 4), (⟨"DiodeLinkModel", "fails", "(ZI)Z"⟩, 51), (⟨"DiodeLinkModel", "isName", "()Z"⟩, 51), (⟨"DiodeLinkModel", "place", "(I)I"⟩, 51), (⟨"DiodeLinkModel", "order", "(I)I"⟩, 51), (⟨"DiodeLinkModel", "isThere", "(II)Z"⟩, 51), (⟨"DiodeLinkModel", "move", "(II)V"⟩, 51), (⟨"DiodeLinkModel", "manifest", "(III)V"⟩, 51), (⟨"DiodeLinkModel", "told", "(III)I"⟩, 51), (⟨"DiodeLinkModel", "anew", "()V"⟩, 51), (⟨"DiodeLinkModel", "look", "(II)I"⟩, 51), (⟨"DiodeLinkModel", "within", "(III)I"⟩, 51), (⟨"DiodeLinkModel", "piece", "(III)J"⟩, 51), (⟨"DiodeLinkModel", "lay", "(IIJI)V"⟩, 51)]
theorem lw_r3 : ∀ q ∈ lw_privs_3, lw_okq q := List.forall_mem_cons.mpr ⟨lw_p32, List.forall_mem_cons.mpr ⟨lw_p33, List.forall_mem_cons.mpr ⟨lw_p34, List.forall_mem_cons.mpr ⟨lw_p35, List.forall_mem_cons.mpr ⟨lw_p36, List.forall_mem_cons.mpr ⟨lw_p37, List.forall_mem_cons.mpr ⟨lw_p38, List.forall_mem_cons.mpr ⟨lw_p39, List.forall_mem_cons.mpr ⟨lw_p40, List.forall_mem_cons.mpr ⟨lw_p41, List.forall_mem_cons.mpr ⟨lw_p42, List.forall_mem_cons.mpr ⟨lw_p43, List.forall_mem_cons.mpr ⟨lw_p44, List.forall_mem_cons.mpr ⟨lw_p45, List.forall_mem_cons.mpr ⟨lw_p46, List.forall_mem_cons.mpr ⟨lw_p47, fun _ h => absurd h List.not_mem_nil⟩⟩⟩⟩⟩⟩⟩⟩⟩⟩⟩⟩⟩⟩⟩⟩
theorem lw_p48 : lw_okq (⟨"DiodeLinkModel", "hashOf", "(I)J"⟩, 51) := ⟨⟨by decide +kernel, by decide +kernel⟩, List.mem_of_getElem? (i := 1087) (by decide +kernel), List.mem_of_getElem? (i := 1345) (by decide +kernel), List.mem_of_getElem? (i := 1346) (by decide +kernel)⟩
theorem lw_p49 : lw_okq (⟨"DiodeLinkModel", "has", "(I)Z"⟩, 51) := ⟨⟨by decide +kernel, by decide +kernel⟩, List.mem_of_getElem? (i := 1087) (by decide +kernel), List.mem_of_getElem? (i := 1353) (by decide +kernel), List.mem_of_getElem? (i := 1354) (by decide +kernel)⟩
theorem lw_p50 : lw_okq (⟨"DiodeLinkModel", "eight", "(II)J"⟩, 51) := ⟨⟨by decide +kernel, by decide +kernel⟩, List.mem_of_getElem? (i := 1087) (by decide +kernel), List.mem_of_getElem? (i := 1357) (by decide +kernel), List.mem_of_getElem? (i := 1358) (by decide +kernel)⟩
theorem lw_p51 : lw_okq (⟨"DiodeLinkModel", "unsize", "()V"⟩, 51) := ⟨⟨by decide +kernel, by decide +kernel⟩, List.mem_of_getElem? (i := 1087) (by decide +kernel), List.mem_of_getElem? (i := 1373) (by decide +kernel), List.mem_of_getElem? (i := 1374) (by decide +kernel)⟩
theorem lw_p52 : lw_okq (⟨"DiodeLinkModel", "drops", "(I)I"⟩, 51) := ⟨⟨by decide +kernel, by decide +kernel⟩, List.mem_of_getElem? (i := 1087) (by decide +kernel), List.mem_of_getElem? (i := 1381) (by decide +kernel), List.mem_of_getElem? (i := 1382) (by decide +kernel)⟩
theorem lw_p53 : lw_okq (⟨"DiodeLinkModel", "canBe", "(I)Z"⟩, 51) := ⟨⟨by decide +kernel, by decide +kernel⟩, List.mem_of_getElem? (i := 1087) (by decide +kernel), List.mem_of_getElem? (i := 1385) (by decide +kernel), List.mem_of_getElem? (i := 1386) (by decide +kernel)⟩
theorem lw_p54 : lw_okq (⟨"DiodeLinkModel", "hears", "(II)I"⟩, 51) := ⟨⟨by decide +kernel, by decide +kernel⟩, List.mem_of_getElem? (i := 1087) (by decide +kernel), List.mem_of_getElem? (i := 1389) (by decide +kernel), List.mem_of_getElem? (i := 1390) (by decide +kernel)⟩
theorem lw_p55 : lw_okq (⟨"DiodeLinkModel", "placeOf", "(II)I"⟩, 51) := ⟨⟨by decide +kernel, by decide +kernel⟩, List.mem_of_getElem? (i := 1087) (by decide +kernel), List.mem_of_getElem? (i := 1393) (by decide +kernel), List.mem_of_getElem? (i := 1394) (by decide +kernel)⟩
theorem lw_p56 : lw_okq (⟨"DiodeLinkModel", "empty", "(I)V"⟩, 51) := ⟨⟨by decide +kernel, by decide +kernel⟩, List.mem_of_getElem? (i := 1087) (by decide +kernel), List.mem_of_getElem? (i := 1397) (by decide +kernel), List.mem_of_getElem? (i := 1398) (by decide +kernel)⟩
theorem lw_p57 : lw_okq (⟨"DiodeLinkModel", "forget", "(I)V"⟩, 51) := ⟨⟨by decide +kernel, by decide +kernel⟩, List.mem_of_getElem? (i := 1087) (by decide +kernel), List.mem_of_getElem? (i := 1401) (by decide +kernel), List.mem_of_getElem? (i := 1402) (by decide +kernel)⟩
theorem lw_p58 : lw_okq (⟨"DiodeLinkModel", "drop", "(III)V"⟩, 51) := ⟨⟨by decide +kernel, by decide +kernel⟩, List.mem_of_getElem? (i := 1087) (by decide +kernel), List.mem_of_getElem? (i := 1405) (by decide +kernel), List.mem_of_getElem? (i := 1406) (by decide +kernel)⟩
theorem lw_p59 : lw_okq (⟨"DiodeLinkModel", "shift", "(I)V"⟩, 51) := ⟨⟨by decide +kernel, by decide +kernel⟩, List.mem_of_getElem? (i := 1087) (by decide +kernel), List.mem_of_getElem? (i := 1409) (by decide +kernel), List.mem_of_getElem? (i := 1410) (by decide +kernel)⟩
theorem lw_p60 : lw_okq (⟨"DiodeLinkModel", "clear", "(I)V"⟩, 51) := ⟨⟨by decide +kernel, by decide +kernel⟩, List.mem_of_getElem? (i := 1087) (by decide +kernel), List.mem_of_getElem? (i := 1413) (by decide +kernel), List.mem_of_getElem? (i := 1414) (by decide +kernel)⟩
theorem lw_p61 : lw_okq (⟨"DiodeLinkModel", "takes", "(IIII)I"⟩, 51) := ⟨⟨by decide +kernel, by decide +kernel⟩, List.mem_of_getElem? (i := 1087) (by decide +kernel), List.mem_of_getElem? (i := 1417) (by decide +kernel), List.mem_of_getElem? (i := 1418) (by decide +kernel)⟩
theorem lw_p62 : lw_okq (⟨"DiodeLinkModel", "sum", "(III)I"⟩, 51) := ⟨⟨by decide +kernel, by decide +kernel⟩, List.mem_of_getElem? (i := 1087) (by decide +kernel), List.mem_of_getElem? (i := 1421) (by decide +kernel), List.mem_of_getElem? (i := 1422) (by decide +kernel)⟩
theorem lw_p63 : lw_okq (⟨"DiodeLinkModel", "room", "()Z"⟩, 51) := ⟨⟨by decide +kernel, by decide +kernel⟩, List.mem_of_getElem? (i := 1087) (by decide +kernel), List.mem_of_getElem? (i := 1425) (by decide +kernel), List.mem_of_getElem? (i := 1426) (by decide +kernel)⟩
def lw_privs_4 : List (MethodName × Nat) := [(⟨"DiodeLinkModel", "hashOf", "(I)J"⟩, 51), (⟨"DiodeLinkModel", "has", "(I)Z"⟩, 51), (⟨"DiodeLinkModel", "eight", "(II)J"⟩, 51), (⟨"DiodeLinkModel", "unsize", "()V"⟩, 51), (⟨"DiodeLinkModel", "drops", "(I)I"⟩, 51), (⟨"DiodeLinkModel", "canBe", "(I)Z"⟩, 51), (⟨"DiodeLinkModel", "hears", "(II)I"⟩, 51), (⟨"DiodeLinkModel", "placeOf", "(II)I"⟩, 51), (⟨"DiodeLinkModel", "empty", "(I)V"⟩, 51), (⟨"DiodeLinkModel", "forget", "(I)V"⟩, 51), (⟨"DiodeLinkModel", "drop", "(III)V"⟩, 51), (⟨"DiodeLinkModel", "shift", "(I)V"⟩, 51), (⟨"DiodeLinkModel", "clear", "(I)V"⟩, 51), (⟨"DiodeLinkModel", "takes", "(IIII)I"⟩, 51), (⟨"DiodeLinkModel", "sum", "(III)I"⟩, 51), (⟨"DiodeLinkModel", "room", "()Z"⟩, 51)]
theorem lw_r4 : ∀ q ∈ lw_privs_4, lw_okq q := List.forall_mem_cons.mpr ⟨lw_p48, List.forall_mem_cons.mpr ⟨lw_p49, List.forall_mem_cons.mpr ⟨lw_p50, List.forall_mem_cons.mpr ⟨lw_p51, List.forall_mem_cons.mpr ⟨lw_p52, List.forall_mem_cons.mpr ⟨lw_p53, List.forall_mem_cons.mpr ⟨lw_p54, List.forall_mem_cons.mpr ⟨lw_p55, List.forall_mem_cons.mpr ⟨lw_p56, List.forall_mem_cons.mpr ⟨lw_p57, List.forall_mem_cons.mpr ⟨lw_p58, List.forall_mem_cons.mpr ⟨lw_p59, List.forall_mem_cons.mpr ⟨lw_p60, List.forall_mem_cons.mpr ⟨lw_p61, List.forall_mem_cons.mpr ⟨lw_p62, List.forall_mem_cons.mpr ⟨lw_p63, fun _ h => absurd h List.not_mem_nil⟩⟩⟩⟩⟩⟩⟩⟩⟩⟩⟩⟩⟩⟩⟩⟩
theorem lw_p64 : lw_okq (⟨"DiodeLinkModel", "hasRows", "(I)Z"⟩, 51) := ⟨⟨by decide +kernel, by decide +kernel⟩, List.mem_of_getElem? (i := 1087) (by decide +kernel), List.mem_of_getElem? (i := 1429) (by decide +kernel), List.mem_of_getElem? (i := 1430) (by decide +kernel)⟩
theorem lw_p65 : lw_okq (⟨"DiodeLinkModel", "rowsOf", "(II)I"⟩, 51) := ⟨⟨by decide +kernel, by decide +kernel⟩, List.mem_of_getElem? (i := 1087) (by decide +kernel), List.mem_of_getElem? (i := 1433) (by decide +kernel), List.mem_of_getElem? (i := 1434) (by decide +kernel)⟩
theorem lw_p66 : lw_okq (⟨"DiodeLinkModel", "solve", "(III)V"⟩, 51) := ⟨⟨by decide +kernel, by decide +kernel⟩, List.mem_of_getElem? (i := 1087) (by decide +kernel), List.mem_of_getElem? (i := 1437) (by decide +kernel), List.mem_of_getElem? (i := 1438) (by decide +kernel)⟩
theorem lw_p67 : lw_okq (⟨"DiodeLinkModel", "together", "(III)J"⟩, 51) := ⟨⟨by decide +kernel, by decide +kernel⟩, List.mem_of_getElem? (i := 1087) (by decide +kernel), List.mem_of_getElem? (i := 1441) (by decide +kernel), List.mem_of_getElem? (i := 1442) (by decide +kernel)⟩
theorem lw_p68 : lw_okq (⟨"DiodeLinkModel", "isComplete", "(I)Z"⟩, 51) := ⟨⟨by decide +kernel, by decide +kernel⟩, List.mem_of_getElem? (i := 1087) (by decide +kernel), List.mem_of_getElem? (i := 1445) (by decide +kernel), List.mem_of_getElem? (i := 1446) (by decide +kernel)⟩
theorem lw_p69 : lw_okq (⟨"DiodeLinkModel", "completes", "(II)V"⟩, 51) := ⟨⟨by decide +kernel, by decide +kernel⟩, List.mem_of_getElem? (i := 1087) (by decide +kernel), List.mem_of_getElem? (i := 1449) (by decide +kernel), List.mem_of_getElem? (i := 1450) (by decide +kernel)⟩
theorem lw_p70 : lw_okq (⟨"DiodeLinkModel", "compare", "(II)V"⟩, 51) := ⟨⟨by decide +kernel, by decide +kernel⟩, List.mem_of_getElem? (i := 1087) (by decide +kernel), List.mem_of_getElem? (i := 1453) (by decide +kernel), List.mem_of_getElem? (i := 1454) (by decide +kernel)⟩
theorem lw_p71 : lw_okq (⟨"DiodeLinkModel", "byteOf", "(II)I"⟩, 51) := ⟨⟨by decide +kernel, by decide +kernel⟩, List.mem_of_getElem? (i := 1087) (by decide +kernel), List.mem_of_getElem? (i := 1457) (by decide +kernel), List.mem_of_getElem? (i := 1458) (by decide +kernel)⟩
theorem lw_p72 : lw_okq (⟨"DiodeLinkModel", "sizeTold", "(II)I"⟩, 51) := ⟨⟨by decide +kernel, by decide +kernel⟩, List.mem_of_getElem? (i := 1087) (by decide +kernel), List.mem_of_getElem? (i := 1461) (by decide +kernel), List.mem_of_getElem? (i := 1462) (by decide +kernel)⟩
theorem lw_p73 : lw_okq (⟨"DiodeLinkModel", "tells", "(II)I"⟩, 51) := ⟨⟨by decide +kernel, by decide +kernel⟩, List.mem_of_getElem? (i := 1087) (by decide +kernel), List.mem_of_getElem? (i := 1465) (by decide +kernel), List.mem_of_getElem? (i := 1466) (by decide +kernel)⟩
theorem lw_p74 : lw_okq (⟨"DiodeLinkModel", "hashTold", "(II)J"⟩, 51) := ⟨⟨by decide +kernel, by decide +kernel⟩, List.mem_of_getElem? (i := 1087) (by decide +kernel), List.mem_of_getElem? (i := 1469) (by decide +kernel), List.mem_of_getElem? (i := 1470) (by decide +kernel)⟩
theorem lw_p75 : lw_okq (⟨"DiodeLinkModel", "isManifest", "(I)Z"⟩, 51) := ⟨⟨by decide +kernel, by decide +kernel⟩, List.mem_of_getElem? (i := 1087) (by decide +kernel), List.mem_of_getElem? (i := 1473) (by decide +kernel), List.mem_of_getElem? (i := 1474) (by decide +kernel)⟩
theorem lw_p76 : lw_okq (⟨"DiodeLinkModel", "isBelow", "(III)Z"⟩, 51) := ⟨⟨by decide +kernel, by decide +kernel⟩, List.mem_of_getElem? (i := 1087) (by decide +kernel), List.mem_of_getElem? (i := 1477) (by decide +kernel), List.mem_of_getElem? (i := 1478) (by decide +kernel)⟩
theorem lw_p77 : lw_okq (⟨"DiodeLinkModel", "share", "(I)V"⟩, 51) := ⟨⟨by decide +kernel, by decide +kernel⟩, List.mem_of_getElem? (i := 1087) (by decide +kernel), List.mem_of_getElem? (i := 1481) (by decide +kernel), List.mem_of_getElem? (i := 1482) (by decide +kernel)⟩
theorem lw_p78 : lw_okq (⟨"DiodeLinkModel", "borrows", "(II)Z"⟩, 51) := ⟨⟨by decide +kernel, by decide +kernel⟩, List.mem_of_getElem? (i := 1087) (by decide +kernel), List.mem_of_getElem? (i := 1485) (by decide +kernel), List.mem_of_getElem? (i := 1486) (by decide +kernel)⟩
theorem lw_p79 : lw_okq (⟨"DiodeLinkModel", "judge", "(I)V"⟩, 51) := ⟨⟨by decide +kernel, by decide +kernel⟩, List.mem_of_getElem? (i := 1087) (by decide +kernel), List.mem_of_getElem? (i := 1489) (by decide +kernel), List.mem_of_getElem? (i := 1490) (by decide +kernel)⟩
def lw_privs_5 : List (MethodName × Nat) := [(⟨"DiodeLinkModel", "hasRows", "(I)Z"⟩, 51), (⟨"DiodeLinkModel", "rowsOf", "(II)I"⟩, 51), (⟨"DiodeLinkModel", "solve", "(III)V"⟩, 51), (⟨"DiodeLinkModel", "together", "(III)J"⟩, 51), (⟨"DiodeLinkModel", "isComplete", "(I)Z"⟩, 51), (⟨"DiodeLinkModel", "completes", "(II)V"⟩, 51), (⟨"DiodeLinkModel", "compare", "(II)V"⟩, 51), (⟨"DiodeLinkModel", "byteOf", "(II)I"⟩, 51), (⟨"DiodeLinkModel", "sizeTold", "(II)I"⟩, 51), (⟨"DiodeLinkModel", "tells", "(II)I"⟩, 51), (⟨"DiodeLinkModel", "hashTold", "(II)J"⟩, 51), (⟨"DiodeLinkModel", "isManifest", "(I)Z"⟩, 51), (⟨"DiodeLinkModel", "isBelow", "(III)Z"⟩, 51), (⟨"DiodeLinkModel", "share", "(I)V"⟩, 51), (⟨"DiodeLinkModel", "borrows", "(II)Z"⟩, 51), (⟨"DiodeLinkModel", "judge", "(I)V"⟩, 51)]
theorem lw_r5 : ∀ q ∈ lw_privs_5, lw_okq q := List.forall_mem_cons.mpr ⟨lw_p64, List.forall_mem_cons.mpr ⟨lw_p65, List.forall_mem_cons.mpr ⟨lw_p66, List.forall_mem_cons.mpr ⟨lw_p67, List.forall_mem_cons.mpr ⟨lw_p68, List.forall_mem_cons.mpr ⟨lw_p69, List.forall_mem_cons.mpr ⟨lw_p70, List.forall_mem_cons.mpr ⟨lw_p71, List.forall_mem_cons.mpr ⟨lw_p72, List.forall_mem_cons.mpr ⟨lw_p73, List.forall_mem_cons.mpr ⟨lw_p74, List.forall_mem_cons.mpr ⟨lw_p75, List.forall_mem_cons.mpr ⟨lw_p76, List.forall_mem_cons.mpr ⟨lw_p77, List.forall_mem_cons.mpr ⟨lw_p78, List.forall_mem_cons.mpr ⟨lw_p79, fun _ h => absurd h List.not_mem_nil⟩⟩⟩⟩⟩⟩⟩⟩⟩⟩⟩⟩⟩⟩⟩⟩
theorem lw_p80 : lw_okq (⟨"DiodeLinkModel", "reject", "(III)V"⟩, 51) := ⟨⟨by decide +kernel, by decide +kernel⟩, List.mem_of_getElem? (i := 1087) (by decide +kernel), List.mem_of_getElem? (i := 1493) (by decide +kernel), List.mem_of_getElem? (i := 1494) (by decide +kernel)⟩
theorem lw_p81 : lw_okq (⟨"DiodeLinkModel", "note", "(IIII)V"⟩, 51) := ⟨⟨by decide +kernel, by decide +kernel⟩, List.mem_of_getElem? (i := 1087) (by decide +kernel), List.mem_of_getElem? (i := 1497) (by decide +kernel), List.mem_of_getElem? (i := 1498) (by decide +kernel)⟩
theorem lw_p82 : lw_okq (⟨"DiodeLinkModel", "linked", "(JI)J"⟩, 51) := ⟨⟨by decide +kernel, by decide +kernel⟩, List.mem_of_getElem? (i := 1087) (by decide +kernel), List.mem_of_getElem? (i := 1501) (by decide +kernel), List.mem_of_getElem? (i := 1502) (by decide +kernel)⟩
theorem lw_p83 : lw_okq (⟨"DiodeLinkModel", "breaks", "(III)Z"⟩, 51) := ⟨⟨by decide +kernel, by decide +kernel⟩, List.mem_of_getElem? (i := 1087) (by decide +kernel), List.mem_of_getElem? (i := 1505) (by decide +kernel), List.mem_of_getElem? (i := 1506) (by decide +kernel)⟩
theorem lw_p84 : lw_okq (⟨"DiodeLinkModel", "wasReleased", "(II)Z"⟩, 51) := ⟨⟨by decide +kernel, by decide +kernel⟩, List.mem_of_getElem? (i := 1087) (by decide +kernel), List.mem_of_getElem? (i := 1518) (by decide +kernel), List.mem_of_getElem? (i := 1519) (by decide +kernel)⟩
theorem lw_p85 : lw_okq (⟨"DiodeLinkModel", "keep", "(II)V"⟩, 51) := ⟨⟨by decide +kernel, by decide +kernel⟩, List.mem_of_getElem? (i := 1087) (by decide +kernel), List.mem_of_getElem? (i := 1530) (by decide +kernel), List.mem_of_getElem? (i := 1531) (by decide +kernel)⟩
theorem lw_p86 : lw_okq (⟨"DiodeLinkModel", "isKept", "(I)Z"⟩, 51) := ⟨⟨by decide +kernel, by decide +kernel⟩, List.mem_of_getElem? (i := 1087) (by decide +kernel), List.mem_of_getElem? (i := 1546) (by decide +kernel), List.mem_of_getElem? (i := 1547) (by decide +kernel)⟩
def lw_privs_6 : List (MethodName × Nat) := [(⟨"DiodeLinkModel", "reject", "(III)V"⟩, 51), (⟨"DiodeLinkModel", "note", "(IIII)V"⟩, 51), (⟨"DiodeLinkModel", "linked", "(JI)J"⟩, 51), (⟨"DiodeLinkModel", "breaks", "(III)Z"⟩, 51), (⟨"DiodeLinkModel", "wasReleased", "(II)Z"⟩, 51), (⟨"DiodeLinkModel", "keep", "(II)V"⟩, 51), (⟨"DiodeLinkModel", "isKept", "(I)Z"⟩, 51)]
theorem lw_r6 : ∀ q ∈ lw_privs_6, lw_okq q := List.forall_mem_cons.mpr ⟨lw_p80, List.forall_mem_cons.mpr ⟨lw_p81, List.forall_mem_cons.mpr ⟨lw_p82, List.forall_mem_cons.mpr ⟨lw_p83, List.forall_mem_cons.mpr ⟨lw_p84, List.forall_mem_cons.mpr ⟨lw_p85, List.forall_mem_cons.mpr ⟨lw_p86, fun _ h => absurd h List.not_mem_nil⟩⟩⟩⟩⟩⟩⟩
def lw_privs : List (MethodName × Nat) := lw_privs_1 ++ (lw_privs_2 ++ (lw_privs_3 ++ (lw_privs_4 ++ (lw_privs_5 ++ (lw_privs_6)))))
def lw_tbl : List Cond := k2_sels lw_privs ++ tables_1
theorem lw_privs_ok : ∀ q ∈ lw_privs, lw_okq q := by
  show ∀ q ∈ lw_privs_1 ++ (lw_privs_2 ++ (lw_privs_3 ++ (lw_privs_4 ++ (lw_privs_5 ++ (lw_privs_6))))), lw_okq q
  exact List.forall_mem_append.mpr ⟨lw_r1, List.forall_mem_append.mpr ⟨lw_r2, List.forall_mem_append.mpr ⟨lw_r3, List.forall_mem_append.mpr ⟨lw_r4, List.forall_mem_append.mpr ⟨lw_r5, lw_r6⟩⟩⟩⟩⟩
-- ===== end of PART A; then your names; then what follows =====
end
section
/-! ===== BEGIN words of one list among another's, by their places ===== -/
theorem goodIn_r {big : List Cond} (ws : List Cond) (ps : List Nat) (hp : ws = ps.filterMap (fun i => big[i]?)) (h : ws.all goodWord = true) : GoodIn big ws := by
  intro w hw
  have h1 := List.all_eq_true.mp h w hw
  rw [hp] at hw
  obtain ⟨i, -, hi⟩ := List.mem_filterMap.mp hw
  have hm : w ∈ big := by first | exact List.mem_of_getElem? hi | exact List.getElem?_mem hi
  exact ⟨hm, good_of_word h1⟩
theorem goodIn_app {big a b : List Cond} (ha : GoodIn big a) (hb : GoodIn big b) : GoodIn big (a ++ b) := fun w h => (List.mem_append.mp h).elim (ha w) (hb w)
theorem goodIn_ca {big a b : List Cond} {c : Cond} (ha : GoodIn big (c :: a)) (hb : GoodIn big b) : GoodIn big (c :: (a ++ b)) := fun w h => (List.mem_cons.mp h).elim (fun e => ha w (List.mem_cons.mpr (Or.inl e))) (fun h => (List.mem_append.mp h).elim (fun h => ha w (List.mem_cons.mpr (Or.inr h))) (hb w))
theorem goodIn_sub {big ws : List Cond} (hm : ∀ w ∈ ws, w ∈ big) (h : ws.all goodWord = true) : GoodIn big ws := fun w hw => ⟨hm w hw, good_of_word (List.all_eq_true.mp h w hw)⟩
/-! ===== END ===== -/

/-! ===== BEGIN exceptions that leave a method, and their catching by the caller (launches without stack traces) ===== -/
section VXA
/-! The laws vx_back, vx_callV, vx_callS, vx_callSW, vx_throw0, vx_throwS follow proofs of the library, with one case more: JvmDerived/Free/Laws.lean (Back.of_free), Shelf42/LK1.lean (callV, callS), Shelf/KitTraced.lean (throwNew0V, throwNewS). -/
/-- where a method has thrown q: the class by its name, the cell, what was written, the world -/
def vx_T (XC : String → State → State → Prop) (st : State) (q : Addr) (t : State) (mc ms : Nat) (free : Addr → Prop) : Prop :=
  ∃ (E : String) (ce : Cell) (L : List Loc), XC E st t ∧ t.heap[q]? = some ce ∧ ce.vm = .none ∧ st.vm.findClass E = some ce.cls ∧ st.WarmedH t.vm ∧ st.sameButNew ({ t with vm := st.vm } : State) L mc ms ∧ ∀ z ∈ L, free z.base
def vx_Q (Qc : Array Value → State → Outcome → State → Prop) (XC : String → State → State → Prop) (mc ms : Nat) (free : Addr → Prop) : Array Value → State → Outcome → State → Prop := fun a st o t =>
  (Qc a st o t ∧ ∃ L, FrameEnd st o t L mc ms ∧ ∀ q ∈ L, free q.base) ∨ ∃ q, o = .threw q ∧ vx_T XC st q t mc ms free
/-- a callee that returns or throws -/
def vx_Met (l : Launch) (y : MethodName) (ws : List Cond) (rm : Room) (Pc : Array Value → State → Prop) (Qc : Array Value → State → Outcome → State → Prop) (XC : String → State → State → Prop) (mc ms : Nat) (free : Addr → Prop) : Prop :=
  MetFree l y (headSpec ws rm) Pc (fun _ _ _ _ _ => True) (vx_Q Qc XC mc ms free)
def vx_Post (XC : String → State → State → Prop) (mc ms : Nat) (free : Addr → Prop) : Pt → Array Value → Addr → Pt → Prop := fun A a q B =>
  ∃ (g : JFrame) (mk : MethodId) (t : State) (L : List Loc) (E : String) (ce : Cell), B.U.heap = t.heap ∧ B.U.vm = t.vm ∧ XC E (A.U.calling g mk a) t ∧ t.heap[q]? = some ce ∧ ce.vm = .none ∧ A.U.vm.findClass E = some ce.cls ∧ B.locs = A.locs ++ L ∧ (∀ z ∈ L, free z.base) ∧ B.cells = A.cells + mc ∧ B.slots = A.slots + ms
def vx_Back (l : Launch) (R : Room) (p : Program) (e : Env) (below : List Frame) (s : State) (sargs : Array Value) (y : MethodName) (len W9 : Nat)
    (Pre : Pt → Array Value → Prop) (Post : Pt → Array Value → Option Value → Pt → Prop) (PostX : Pt → Array Value → Addr → Pt → Prop) : Prop :=
  ∀ (m : MethodId) (meth : Method) (c : Code) (A : Pt) (g : JFrame) (ig : Instr) (mk : MethodId) (a : Array Value),
    Stand p l e R s m sargs below meth c A.U A.locs A.cells A.slots → g.method = m → g.locals.size = c.maxLocals → decode c.code g.pc = .ok (ig, len) →
    2 * g.monitorRoom + (g.stack.map fun v => v.category).sum ≤ W9 → A.U.methodNamed? y = some mk → Pre A a →
    (∃ (v : Option Value) (B : Pt), Stand p l e R s m sargs below meth c B.U B.locs B.cells B.slots ∧ Post A a v B ∧
      Steps p.tables e below (doInvoke e (A.U.setTop g) [] mk a).1 (B.U.setTop { g with pc := g.pc + len, stack := v.toList ++ g.stack })) ∨
    (∃ (q : Addr) (B : Pt), Stand p l e R s m sargs below meth c B.U B.locs B.cells B.slots ∧ PostX A a q B ∧
      Steps p.tables e below (doInvoke e (A.U.setTop g) [] mk a).1 ((B.U.setTop g).pushFrame (.throwing q)))
section Payer
variable {l : Launch} {R : Room} {p : Program} {e : Env} {below : List Frame} {s : State} {sargs : Array Value} {y : MethodName} {len W9 : Nat}
theorem vx_back {ws : List Cond} {rm : Room} {Pc : Array Value → State → Prop} {Qc : Array Value → State → Outcome → State → Prop} {XC : String → State → State → Prop} {mc ms : Nat} {free : Addr → Prop} {bytes : ByteArray} {maxL : Nat} {ret : Option FieldType}
    (hM : vx_Met l y ws rm Pc Qc XC mc ms free) (hblind : FrameBlind Pc) (hrc : rm.cells = mc) (hrs : rm.slots = ms)
    (hframes : rm.frames + 1 ≤ R.frames) (hlocals : W9 + (maxL + 11) + rm.locals ≤ R.locals)
    (hws : ∀ w ∈ ws, ∀ a' U, s.WarmedH U.vm → w.before a' U = true) (hcode : Cond.code y bytes maxL ret ∈ ws) (hinit : ∀ a' U, s.WarmedH U.vm → (Cond.initialized y.cls).before a' U = true) :
    vx_Back l R p e below s sargs y len W9 (PreOf R mc ms Pc) (PostOf Qc mc ms free) (vx_Post XC mc ms free) := by
  intro m meth c A g ig mk a X hg hsize hdg hW hn hp
  have h1 : (headSpec ws rm).pre.before a A.U = true := atoms_intro fun w hw => hws w hw _ _ X.warmed
  have h2 : (Cond.code y bytes maxL ret).before a A.U = true := hws _ hcode _ _ X.warmed
  have h3 : (Cond.initialized y.cls).before a A.U = true := hinit _ _ X.warmed
  have h4 : A.cells + (headSpec ws rm).room.cells ≤ R.cells := by rw [show (headSpec ws rm).room.cells = mc from hrc]; exact hp.1
  have h5 : A.slots + (headSpec ws rm).room.slots ≤ R.slots := by rw [show (headSpec ws rm).room.slots = ms from hrs]; exact hp.2.1
  have hPc : Pc a (A.U.calling g mk a) := hblind _ _ _ _ hp.2.2
  obtain ⟨U, Ls, c0, s0⟩ := A
  dsimp only [Pt.U, Pt.locs, Pt.cells, Pt.slots] at h1 h2 h3 h4 h5 X hn hPc ⊢
  obtain ⟨methY, cY, hmY, hcY, -, hlY, -, -, -, -⟩ := Cond.code_spec hn h2
  obtain ⟨kY, hkY, -⟩ := className_of_methodNamed hn
  have hinitY : kY.init = .initialized := Cond.initialized_spec (findClass_of_methodNamed hn) hkY h3
  have h : At U g.method c below := by rw [hg]; exact X.here
  have hlocals9 : W9 + (maxL + 11) + (headSpec ws rm).room.locals ≤ R.locals := hlocals
  have happ : (headSpec ws rm).appliesLoose y e.platform (U.calling g mk a) = true :=
    Spec.appliesLoose_calling (g := g) h hdg hn hkY hinitY
      (X.room_calling (g := g) (R' := (headSpec ws rm).room) hsize hmY hcY hframes (by rw [hlY]; omega) h4 h5) h1
  obtain ⟨mid, hmid⟩ := h.above
  have hfr : (U.setTop g).frames = (.java g :: mid) ++ below := by rw [State.frames_setTop' g h.top, hmid]; rfl
  obtain ⟨o, s₂, hsteps, -, hend, hq⟩ := Steps.callFree hM p X.admits X.cas X.clock (acts := []) hfr happ hPc trivial
  have hq' : vx_Q Qc XC mc ms free a (U.calling g mk a) o s₂ := hq
  rw [State.frames_setTop' g h.top] at hend
  obtain ⟨g₀, hg0⟩ := Option.isSome_iff_exists.mp h.top
  obtain ⟨r, hr⟩ := State.topJava?_eq_some.mp hg0
  have hr' : (({ U with heap := s₂.heap, slotsUsed := s₂.slotsUsed } : State).setVm s₂.vm).frames = .java g₀ :: r := hr
  rcases hq' with ⟨hqc, L, hfe, hL⟩ | ⟨q, rfl, E, ce, L, hx, hce, hcv, hcl, hW₂, hsm, hL⟩
  · obtain ⟨⟨v, rfl⟩, hW₂, e2, q2, q3, q4, q5, q6⟩ := id hfe
    have e3 : s₂ = ({ (U.calling g mk a).setFrames s₂.frames with heap := s₂.heap, slotsUsed := s₂.slotsUsed } : State).setVm s₂.vm := by
      have : s₂ = ({ s₂ with vm := (U.calling g mk a).vm } : State).setVm s₂.vm := rfl
      rw [e2] at this
      exact this
    obtain ⟨c₂, i₂, len₂, hc₂, hd₂, hf₂⟩ := hend
    have hW' : U.WarmedH s₂.vm := hW₂
    have hcc : c₂ = c := by
      have h1 : s₂.code? g.method = U.code? g.method := by
        rw [State.code?_eq, State.code?_eq, hW'.alike.method?]
      exact Option.some.inj (hc₂.symm.trans (h1.trans h.code))
    subst hcc
    have hlen : len₂ = len := by rw [hdg] at hd₂; cases hd₂; rfl
    subst hlen
    have hs₂ : s₂ = (({ U with heap := s₂.heap, slotsUsed := s₂.slotsUsed } : State).setVm s₂.vm).setTop { g with pc := g.pc + len₂, stack := v.toList ++ g.stack } := by
      refine e3.trans ?_
      rw [hf₂, State.calling_eq h.top, State.setFrames_setFrames, State.setTop_of_frames _ hr', hr]
      rfl
    have hsame : U.sameButNew ({ U with heap := s₂.heap, slotsUsed := s₂.slotsUsed } : State) L mc ms := by
      refine ⟨?_, q2, q3, q4, q5, q6⟩
      obtain ⟨t, ht, -⟩ := State.frames_cons hr
      show ({ U with heap := s₂.heap, slotsUsed := s₂.slotsUsed } : State) = { U.setFrames U.frames with heap := s₂.heap, slotsUsed := s₂.slotsUsed }
      rw [State.setFrames_self ht]
    subst hg
    refine Or.inl ⟨v, ⟨(({ U with heap := s₂.heap, slotsUsed := s₂.slotsUsed } : State).setVm s₂.vm), Ls ++ L, c0 + mc, s0 + ms⟩,
      ⟨X.admits, X.cas, X.clock, X.frames, X.room, X.hears, X.method, X.code, (X.here.setHeapUsed s₂.heap s₂.slotsUsed).setVm hW'.alike, X.tail, State.WarmedH.trans X.warmed hW', X.limits, X.bytes, X.same.trans (hsame.setVm s.vm)⟩,
      ⟨g, mk, s₂, L, rfl, rfl, hqc, rfl, hL, rfl, rfl⟩, ?_⟩
    show Steps p.tables e below _ ((({ U with heap := s₂.heap, slotsUsed := s₂.slotsUsed } : State).setVm s₂.vm).setTop { g with pc := g.pc + len₂, stack := v.toList ++ g.stack })
    rw [← hs₂]
    exact hsteps
  · obtain ⟨e2, q2, q3, q4, q5, q6⟩ := id hsm
    have e3 : s₂ = ({ (U.calling g mk a).setFrames s₂.frames with heap := s₂.heap, slotsUsed := s₂.slotsUsed } : State).setVm s₂.vm := by
      have : s₂ = ({ s₂ with vm := (U.calling g mk a).vm } : State).setVm s₂.vm := rfl
      rw [e2] at this
      exact this
    have hf₂ : s₂.frames = .throwing q :: .java g :: U.frames.tail := hend
    have hW' : U.WarmedH s₂.vm := hW₂
    have hs₂ : s₂ = ((({ U with heap := s₂.heap, slotsUsed := s₂.slotsUsed } : State).setVm s₂.vm).setTop g).pushFrame (.throwing q) := by
      refine e3.trans ?_
      rw [hf₂, State.calling_eq h.top, State.setFrames_setFrames, State.pushFrame, State.frames_setTop _ hr', State.setTop_of_frames _ hr', State.setFrames_setFrames, hr]
      rfl
    have hsame : U.sameButNew ({ U with heap := s₂.heap, slotsUsed := s₂.slotsUsed } : State) L mc ms := by
      refine ⟨?_, q2, q3, q4, q5, q6⟩
      obtain ⟨t, ht, -⟩ := State.frames_cons hr
      show ({ U with heap := s₂.heap, slotsUsed := s₂.slotsUsed } : State) = { U.setFrames U.frames with heap := s₂.heap, slotsUsed := s₂.slotsUsed }
      rw [State.setFrames_self ht]
    subst hg
    refine Or.inr ⟨q, ⟨(({ U with heap := s₂.heap, slotsUsed := s₂.slotsUsed } : State).setVm s₂.vm), Ls ++ L, c0 + mc, s0 + ms⟩,
      ⟨X.admits, X.cas, X.clock, X.frames, X.room, X.hears, X.method, X.code, (X.here.setHeapUsed s₂.heap s₂.slotsUsed).setVm hW'.alike, X.tail, State.WarmedH.trans X.warmed hW', X.limits, X.bytes, X.same.trans (hsame.setVm s.vm)⟩,
      ⟨g, mk, s₂, L, E, ce, rfl, rfl, hx, hce, hcv, hcl, rfl, hL, rfl, rfl⟩, ?_⟩
    show Steps p.tables e below _ (((({ U with heap := s₂.heap, slotsUsed := s₂.slotsUsed } : State).setVm s₂.vm).setTop g).pushFrame (.throwing q))
    rw [← hs₂]
    exact hsteps
end Payer
section Calls
variable {p : Program} {l : Launch} {e : Env} {R : Room} {s : State} {m : MethodId} {args : Array Value} {below : List Frame} {meth : Method} {c : Code} {T : State} {locs : List Loc} {cells slots : Nat}
theorem vx_callV (X : Stand p l e R s m args below meth c T locs cells slots) (hexec : p.tables.exec = Jvm.exec) {own C : String} {index : Nat} {y : MethodName} {bytes : ByteArray} {maxL : Nat} {ret : Option FieldType}
    (hown : s.vm.findClass own = some m.cls) (hlink : (Cond.methodLink own index y).before args s = true) (hinst : (Cond.instanceMethod y).before args s = true) (hsel : (Cond.selects C y y).before args s = true)
    (hcode : (Cond.code y bytes maxL ret).before args s = true) (hy : y.cls ≠ "java/lang/invoke/MethodHandle" ∧ y.cls ≠ "java/lang/invoke/VarHandle")
    {W9 : Nat} {Pre : Pt → Array Value → Prop} {Post : Pt → Array Value → Option Value → Pt → Prop} {PostX : Pt → Array Value → Addr → Pt → Prop} (hK : vx_Back l R p e below s args y 3 W9 Pre Post PostX)
    {b : Addr} {cellB : Cell} (hcell : T.heap[b]? = some cellB) (hobj : cellB.vm.isStatics = false) (hcls : s.vm.findClass C = some cellB.cls)
    {g : JFrame} (hg : g.method = m) (hsize : g.locals.size = c.maxLocals) {argsL rest : List Value} (hlen : ∀ sig, parseMethodDescriptor y.desc = some sig → argsL.length = sig.parameters.length)
    (hstack : g.stack = argsL.reverse ++ .ref b :: rest) (hW : 2 * g.monitorRoom + (rest.map fun v => v.category).sum ≤ W9) (hdg : decode c.code g.pc = .ok (.invokevirtual index, 3))
    (hpre : ∀ vm₁, s.WarmedH vm₁ → Pre ⟨T.setVm vm₁, locs, cells, slots⟩ (Value.ref b :: argsL).toArray) :
    (∃ (v : Option Value) (vm₁ : Vm) (B : Pt), s.WarmedH vm₁ ∧ Stand p l e R s m args below meth c B.U B.locs B.cells B.slots ∧ Post ⟨T.setVm vm₁, locs, cells, slots⟩ (Value.ref b :: argsL).toArray v B ∧
      ∀ target, Steps p.tables e below (B.U.setTop { g with pc := g.pc + 3, stack := v.toList ++ rest }) target → Steps p.tables e below (T.setTop g) target) ∨
    (∃ (q : Addr) (vm₁ : Vm) (B : Pt), s.WarmedH vm₁ ∧ Stand p l e R s m args below meth c B.U B.locs B.cells B.slots ∧ PostX ⟨T.setVm vm₁, locs, cells, slots⟩ (Value.ref b :: argsL).toArray q B ∧
      Steps p.tables e below (T.setTop g) ((B.U.setTop { g with stack := rest }).pushFrame (.throwing q))) := by
  obtain ⟨mk, methM, hnamed, hmethM, hstM, habM⟩ := Cond.instanceMethod_spec hinst
  obtain ⟨methM', cM, hmethM', -, -, -, -, -, -, hsigM⟩ := Cond.code_spec hnamed hcode
  cases hmethM.symm.trans hmethM'
  obtain ⟨c2, r2, m2, q1, q2, q3, q4, kP, hkP, hkPi⟩ := Cond.selects_spec hsel
  cases hcls.symm.trans q1
  cases (State.methodFound?_of_named hnamed hy).symm.trans q2
  cases hnamed.symm.trans q3
  have hselP : selectMethod e.platform s.vm cellB.cls mk = .method mk := by rw [Launch.admits_selectMethod X.admits]; exact q4
  obtain ⟨vm₁, X₁, hstep₁⟩ := X.invokevirtual hexec hown hlink hnamed hmethM hstM hkP hkPi hy (a := b) (cell := cellB) hcell
    (fun z h => by rw [h] at hobj; cases hobj) hselP hmethM habM hkP hkPi (g := g) hg (argsL := argsL) (rest := rest) (hlen _ hsigM) hstack hdg
  rcases hK m meth c ⟨T.setVm vm₁, locs, cells, slots⟩ { g with stack := rest } (.invokevirtual index) mk (Value.ref b :: argsL).toArray X₁ hg hsize hdg hW (X₁.named hnamed) (hpre vm₁ X₁.warmed) with ⟨v, B, X', hpost, hsteps⟩ | ⟨q, B, X', hpost, hsteps⟩
  · exact Or.inl ⟨v, vm₁, B, X₁.warmed, X', hpost, fun target h => hstep₁ _ fun acts => by rw [doInvoke_state]; exact hsteps.trans h⟩
  · exact Or.inr ⟨q, vm₁, B, X₁.warmed, X', hpost, hstep₁ _ fun acts => by rw [doInvoke_state]; exact hsteps⟩
theorem vx_callS (X : Stand p l e R s m args below meth c T locs cells slots) (hexec : p.tables.exec = Jvm.exec) {own : String} {index : Nat} {y : MethodName} {bytes : ByteArray} {maxL : Nat} {ret : Option FieldType}
    (hown : s.vm.findClass own = some m.cls) (hlink : (Cond.methodLink own index y).before args s = true) (hstat : (Cond.static y).before args s = true) (hinit : (Cond.initialized y.cls).before args s = true)
    (hcode : (Cond.code y bytes maxL ret).before args s = true) (hy : y.cls ≠ "java/lang/invoke/MethodHandle" ∧ y.cls ≠ "java/lang/invoke/VarHandle")
    {W9 : Nat} {Pre : Pt → Array Value → Prop} {Post : Pt → Array Value → Option Value → Pt → Prop} {PostX : Pt → Array Value → Addr → Pt → Prop} (hK : vx_Back l R p e below s args y 3 W9 Pre Post PostX)
    {g : JFrame} (hg : g.method = m) (hsize : g.locals.size = c.maxLocals) {argsL rest : List Value} (hlen : ∀ sig, parseMethodDescriptor y.desc = some sig → argsL.length = sig.parameters.length)
    (hstack : g.stack = argsL.reverse ++ rest) (hW : 2 * g.monitorRoom + (rest.map fun v => v.category).sum ≤ W9) (hdg : decode c.code g.pc = .ok (.invokestatic index, 3))
    (hpre : ∀ vm₁, s.WarmedH vm₁ → Pre ⟨T.setVm vm₁, locs, cells, slots⟩ argsL.toArray) :
    (∃ (v : Option Value) (vm₁ : Vm) (B : Pt), s.WarmedH vm₁ ∧ Stand p l e R s m args below meth c B.U B.locs B.cells B.slots ∧ Post ⟨T.setVm vm₁, locs, cells, slots⟩ argsL.toArray v B ∧
      ∀ target, Steps p.tables e below (B.U.setTop { g with pc := g.pc + 3, stack := v.toList ++ rest }) target → Steps p.tables e below (T.setTop g) target) ∨
    (∃ (q : Addr) (vm₁ : Vm) (B : Pt), s.WarmedH vm₁ ∧ Stand p l e R s m args below meth c B.U B.locs B.cells B.slots ∧ PostX ⟨T.setVm vm₁, locs, cells, slots⟩ argsL.toArray q B ∧
      Steps p.tables e below (T.setTop g) ((B.U.setTop { g with stack := rest }).pushFrame (.throwing q))) := by
  obtain ⟨mk, hnamed⟩ := Cond.code_named hcode
  obtain ⟨methM, cM, hmethM, -, -, -, -, -, -, hsigM⟩ := Cond.code_spec hnamed hcode
  have hstatic : methM.isStatic = true := Cond.static_spec hnamed hmethM hstat
  obtain ⟨kP, hkP, -⟩ := className_of_methodNamed hnamed
  have hinitP : kP.init = .initialized := Cond.initialized_spec (findClass_of_methodNamed hnamed) hkP hinit
  obtain ⟨vm₁, X₁, hstep₁⟩ := X.invokestatic hexec hown hlink hnamed hmethM hstatic hkP hinitP hy (g := g) hg (argsL := argsL) (rest := rest) (hlen _ hsigM) hstack hdg
  rcases hK m meth c ⟨T.setVm vm₁, locs, cells, slots⟩ { g with stack := rest } (.invokestatic index) mk argsL.toArray X₁ hg hsize hdg hW (X₁.named hnamed) (hpre vm₁ X₁.warmed) with ⟨v, B, X', hpost, hsteps⟩ | ⟨q, B, X', hpost, hsteps⟩
  · exact Or.inl ⟨v, vm₁, B, X₁.warmed, X', hpost, fun target h => hstep₁ _ fun acts => by rw [doInvoke_state]; exact hsteps.trans h⟩
  · exact Or.inr ⟨q, vm₁, B, X₁.warmed, X', hpost, hstep₁ _ fun acts => by rw [doInvoke_state]; exact hsteps⟩
end Calls
theorem vx_cls {s : State} {T : State} {vm₁ : Vm} {E : String} {k : ClassId} (hW : s.WarmedH vm₁) (h : (T.setVm vm₁).vm.findClass E = some k) : s.vm.findClass E = some k := by
  have h1 : vm₁.findClass E = some k := h
  rw [hW.alike.findClass] at h1
  exact h1
/-- the method's frame g, with q thrown over it -/
def vx_W (p : Program) (l : Launch) (e : Env) (R : Room) (s : State) (m : MethodId) (args : Array Value) (below : List Frame) (meth : Method) (c : Code) (H : Heap) (locs : List Loc) (cells slots : Nat) (Q : State → Prop) (g : JFrame) (q : Addr) : Prop :=
  ∀ T : State, T.heap = H → Stand p l e R s m args below meth c T locs cells slots → ∃ t, Steps p.tables e below ((T.setTop g).pushFrame (.throwing q)) t ∧ Q t
def vx_Run (p : Program) (l : Launch) (e : Env) (R : Room) (s : State) (m : MethodId) (args : Array Value) (below : List Frame) (meth : Method) (c : Code) (H : Heap) (locs : List Loc) (cells slots mc ms : Nat) (g : JFrame) (rest : List Value) (Qa : State → Outcome → State → Prop) (XC : String → State → State → Prop) (free : Addr → Prop) : Prop :=
  ∀ T : State, T.heap = H → Stand p l e R s m args below meth c T locs cells slots →
    (∃ (v : Option Value) (st₀ t T' : State) (L : List Loc), st₀.heap = H ∧ Stand p l e R s m args below meth c T' (locs ++ L) (cells + mc) (slots + ms) ∧ (∀ q ∈ L, free q.base) ∧ T'.heap = t.heap ∧ T'.vm = t.vm ∧ Qa st₀ (.returned v) t ∧
      Goes p e below T g T' { g with pc := g.pc + 3, stack := v.toList ++ rest }) ∨
    (∃ (q : Addr) (st₀ t T' : State) (L : List Loc) (E : String) (ce : Cell), st₀.heap = H ∧ Stand p l e R s m args below meth c T' (locs ++ L) (cells + mc) (slots + ms) ∧ (∀ z ∈ L, free z.base) ∧ T'.heap = t.heap ∧ T'.vm = t.vm ∧ XC E st₀ t ∧ t.heap[q]? = some ce ∧ ce.vm = .none ∧ s.vm.findClass E = some ce.cls ∧
      Steps p.tables e below (T.setTop g) ((T'.setTop { g with stack := rest }).pushFrame (.throwing q)))
def vx_X {S : Type} (px : S → Prop) (B : String → S → State → Prop) (A : Nat → Prop) : String → State → State → Prop := fun E st t => ∃ u : S, px u ∧ B E u t ∧ va_F A st t
section Runs
variable {p : Program} {l : Launch} {e : Env} {R : Room} {s : State} {m : MethodId} {args : Array Value} {below : List Frame} {meth : Method} {c : Code} {H : Heap} {locs : List Loc} {cells slots : Nat}
variable {y : MethodName} {bytes cc : ByteArray} {maxL nL mc ms n index : Nat} {ret : Option FieldType} {ws : List Cond} {rm : Room} {Pc : Array Value → State → Prop} {Qc : Array Value → State → Outcome → State → Prop} {XC : String → State → State → Prop} {free : Addr → Prop} {Ts : List Cond} {own C : String} {b : Addr} {As rest : List Value} {g : JFrame}
theorem vx_callBack (cb : CallB R s args own index y bytes maxL ret ws rm mc ms n) (hM : vx_Met l y ws rm Pc Qc XC mc ms free) (hbl : FrameBlind Pc) : vx_Back l R p e below s args y 3 8 (PreOf R mc ms Pc) (PostOf Qc mc ms free) (vx_Post XC mc ms free) := by
  obtain ⟨hrc, hrs, hfr, hlo, hws, hcw, -, hini, -⟩ := cb
  exact vx_back (bytes := bytes) (maxL := maxL) (ret := ret) hM hbl hrc hrs hfr hlo hws hcw (fun a' U hW => word_at hW (Or.inl (by first | rfl | simp [Cond.onTables, Cond.keeps, Cond.steady])) hini)
theorem vx_runV (S : CallFix p m c cc nL s args Ts own) (hM : vx_Met l y ws rm Pc Qc XC mc ms free) (cw : CallW R s args own C index y bytes maxL ret ws rm mc ms n) (hp : PreV s H C b Pc As)
    (hg : g.method = m) (hn : As.length = n) (hsize : g.locals.size = nL) (hstack : g.stack = As.reverse ++ .ref b :: rest) (hW : 2 * g.monitorRoom + (rest.map fun v => v.category).sum ≤ 8) (hdg : decode cc g.pc = .ok (.invokevirtual index, 3)) (hf : cells + mc ≤ R.cells ∧ slots + ms ≤ R.slots) :
    vx_Run p l e R s m args below meth c H locs cells slots mc ms g rest (Qc (Value.ref b :: As).toArray) XC free := by
  have hK : vx_Back l R p e below s args y 3 8 (PreOf R mc ms Pc) (PostOf Qc mc ms free) (vx_Post XC mc ms free) := vx_callBack cw.1 hM hp.1
  obtain ⟨⟨-, -, -, -, -, -, hcode, -, hy, hlen, hl⟩, hin, hse⟩ := cw
  obtain ⟨hx, hb, hml, ho, -⟩ := S
  obtain ⟨-, ⟨cellB, hcB, hoB, hclB⟩, hPc⟩ := hp
  intro T hT X
  rcases vx_callV X hx (C := C) (bytes := bytes) (maxL := maxL) (ret := ret) ho hl hin hse hcode hy hK (by rw [hT]; exact hcB) hoB hclB hg (hsize.trans hml.symm) (argsL := As) (rest := rest) (fun sig h => hn.trans (hlen sig h)) hstack hW (by rw [hb]; exact hdg)
    (fun vm₁ hW₁ => ⟨hf.1, hf.2, hPc (T.setVm vm₁) hT hW₁⟩) with ⟨v, vm₁, ⟨U', l2, c2, s2⟩, hW₁, X', ⟨g', mk, t, L, e1, e2, hq, h1, hL, h2, h3⟩, st⟩ | ⟨q, vm₁, ⟨U', l2, c2, s2⟩, hW₁, X', ⟨g', mk, t, L, E, ce, e1, e2, hq, hce, hcv, hcl, h1, hL, h2, h3⟩, st⟩
  · dsimp only [Pt.U, Pt.locs, Pt.cells, Pt.slots] at X' e1 e2 h1 h2 h3 st
    subst h1; subst h2; subst h3
    exact Or.inl ⟨v, (T.setVm vm₁).calling g' mk (Value.ref b :: As).toArray, t, U', L, hT, X', hL, e1, e2, hq, st⟩
  · dsimp only [Pt.U, Pt.locs, Pt.cells, Pt.slots] at X' e1 e2 h1 h2 h3 st hcl
    subst h1; subst h2; subst h3
    exact Or.inr ⟨q, (T.setVm vm₁).calling g' mk (Value.ref b :: As).toArray, t, U', L, E, ce, hT, X', hL, e1, e2, hq, hce, hcv, vx_cls hW₁ hcl, st⟩
theorem vx_runS (S : CallFix p m c cc nL s args Ts own) (hM : vx_Met l y ws rm Pc Qc XC mc ms free) (cw : CallB R s args own index y bytes maxL ret ws rm mc ms n ∧ (Cond.static y).before args s = true) (hp : PreS s H Pc As)
    (hg : g.method = m) (hn : As.length = n) (hsize : g.locals.size = nL) (hstack : g.stack = As.reverse ++ rest) (hW : 2 * g.monitorRoom + (rest.map fun v => v.category).sum ≤ 8) (hdg : decode cc g.pc = .ok (.invokestatic index, 3)) (hf : cells + mc ≤ R.cells ∧ slots + ms ≤ R.slots) :
    vx_Run p l e R s m args below meth c H locs cells slots mc ms g rest (Qc As.toArray) XC free := by
  have hK : vx_Back l R p e below s args y 3 8 (PreOf R mc ms Pc) (PostOf Qc mc ms free) (vx_Post XC mc ms free) := vx_callBack cw.1 hM hp.1
  obtain ⟨⟨-, -, -, -, -, -, hcode, hini, hy, hlen, hl⟩, hstt⟩ := cw
  obtain ⟨hx, hb, hml, ho, -⟩ := S
  intro T hT X
  rcases vx_callS X hx (bytes := bytes) (maxL := maxL) (ret := ret) ho hl hstt hini hcode hy hK hg (hsize.trans hml.symm) (argsL := As) (rest := rest) (fun sig h => hn.trans (hlen sig h)) hstack hW (by rw [hb]; exact hdg)
    (fun vm₁ hW₁ => ⟨hf.1, hf.2, hp.2 (T.setVm vm₁) hT hW₁⟩) with ⟨v, vm₁, ⟨U', l2, c2, s2⟩, hW₁, X', ⟨g', mk, t, L, e1, e2, hq, h1, hL, h2, h3⟩, st⟩ | ⟨q, vm₁, ⟨U', l2, c2, s2⟩, hW₁, X', ⟨g', mk, t, L, E, ce, e1, e2, hq, hce, hcv, hcl, h1, hL, h2, h3⟩, st⟩
  · dsimp only [Pt.U, Pt.locs, Pt.cells, Pt.slots] at X' e1 e2 h1 h2 h3 st
    subst h1; subst h2; subst h3
    exact Or.inl ⟨v, (T.setVm vm₁).calling g' mk As.toArray, t, U', L, hT, X', hL, e1, e2, hq, st⟩
  · dsimp only [Pt.U, Pt.locs, Pt.cells, Pt.slots] at X' e1 e2 h1 h2 h3 st hcl
    subst h1; subst h2; subst h3
    exact Or.inr ⟨q, (T.setVm vm₁).calling g' mk As.toArray, t, U', L, E, ce, hT, X', hL, e1, e2, hq, hce, hcv, vx_cls hW₁ hcl, st⟩
end Runs
section Rows
variable {p : Program} {l : Launch} {e : Env} {R : Room} {s : State} {m : MethodId} {args : Array Value} {below : List Frame} {meth : Method} {c : Code} {H : Heap} {locs : List Loc} {cells slots : Nat} {Q : State → Prop}
variable {mc ms : Nat} {free : Addr → Prop} {A0 A1 : Nat → Prop} {H0 : Heap} {a : Array Value} {pc : Nat} {ls : Array Slot} {st0 rest : List Value}
theorem vx_keep {st₀ t T' : State} {L : List Loc} (h0 : st₀.heap = H) (e1 : T'.heap = t.heap) (hS : va_S A0 H0 H locs) (hA : ∀ q, q < H.size → A1 q → A0 q) (hf : ∀ q, free q → A0 q) (hL : ∀ q ∈ L, free q.base) (hF : va_F A1 st₀ t) :
    H.size ≤ T'.heap.size ∧ (∀ q : Nat, q < H.size → ¬ A1 q → T'.heap[q]? = H[q]?) ∧ va_S A0 H0 T'.heap (locs ++ L) := by
  obtain ⟨hz, hk⟩ := hF
  rw [h0] at hz hk
  exact ⟨by rw [e1]; exact hz, fun q h1 h2 => by rw [e1]; exact hk q h1 h2,
    ⟨Nat.le_trans hS.1 (by rw [e1]; exact hz), fun q h1 h2 => by rw [e1, hk q (Nat.lt_of_lt_of_le h1 hS.1) (fun z => h2 (hA q (Nat.lt_of_lt_of_le h1 hS.1) z))]; exact hS.2.1 q h1 h2, fun q hq => by
      rcases List.mem_append.mp hq with h | h
      · exact hS.2.2 q h
      · exact hf _ (hL q h)⟩⟩
end Rows
section Ends
variable {p : Program} {l : Launch} {e : Env} {R : Room} {s : State} {m : MethodId} {args : Array Value} {below : List Frame} {meth : Method} {c : Code} {H : Heap} {locs : List Loc} {cells slots : Nat} {Q : State → Prop}
variable {mc ms : Nat} {free : Addr → Prop} {A0 A1 : Nat → Prop} {H0 : Heap} {a : Array Value} {ls : Array Slot} {st0 rest : List Value}
variable {Qc : Array Value → State → Outcome → State → Prop} {XC : String → State → State → Prop}
/-- what a body that may throw owes at its end -/
def vx_MQ (below : List Frame) (Qc : Array Value → State → Outcome → State → Prop) (XC : String → State → State → Prop) (a : Array Value) (s : State) (mc ms : Nat) (free : Addr → Prop) : State → Prop := fun t =>
  ∃ o, t.status = .running ∧ Ended t below o ∧ vx_Q Qc XC mc ms free a s o t
theorem vx_ret {g : JFrame} {mc ms : Nat} (k : W p l e R s m args below meth c H locs cells slots (MQ below Qc args s mc ms free) g) : W p l e R s m args below meth c H locs cells slots (vx_MQ below Qc XC args s mc ms free) g := by
  intro T hT X
  obtain ⟨t, a1, o, b1, b2, b3, b4⟩ := k T hT X
  exact ⟨t, a1, o, b1, b2, Or.inl ⟨b3, b4⟩⟩
/-- not caught here: it goes on to the caller -/
theorem vx_widen {g : JFrame} {q : Addr} {k n : Nat} (h1 : cells ≤ k) (h2 : slots ≤ n) (kk : vx_W p l e R s m args below meth c H locs k n Q g q) : vx_W p l e R s m args below meth c H locs cells slots Q g q := fun T hT X => kk T hT (stand_widen X h1 h2)
theorem vx_out {pc : Nat} {E : String} {ce : Cell} {q : Addr} {mc ms : Nat} (hout : ∀ x ∈ c.exceptionTable.toList, covers x pc = false) (hlocks : meth.locks = false) (hcell : H[q]? = some ce) (hv : ce.vm = .none) (hcl : s.vm.findClass E = some ce.cls)
    (hx : ∀ t : State, t.heap = H → s.vm.Alike t.vm → XC E s t) (hf : ∀ z ∈ locs, free z.base) (hc : cells ≤ mc) (hs : slots ≤ ms) :
    vx_W p l e R s m args below meth c H locs cells slots (vx_MQ below Qc XC args s mc ms free) (F0 m pc ls rest) q := by
  intro T hT X
  obtain ⟨st1, hrun, hend, hW, hsm⟩ := X.leaveThrown q (g := F0 m pc ls rest) rfl rfl rfl hout hlocks
  have hcell9 : (T.setFrames (.throwing q :: below)).heap[q]? = some ce := by
    show T.heap[q]? = some ce
    rw [hT]; exact hcell
  exact ⟨_, st1, .threw q, hrun, hend, Or.inr ⟨q, rfl, E, ce, locs, hx _ hT hW.alike, hcell9, hv, hcl, hW, hsm.mono hc hs, hf⟩⟩
theorem vx_frame {U : State} {k n : Nat} (h : s.sameButNew ({ U with vm := s.vm } : State) locs k n) : s.heap.size ≤ U.heap.size ∧ ∀ q : Nat, q < s.heap.size → (∀ z ∈ locs, z.base ≠ q) → U.heap[q]? = s.heap[q]? := by
  obtain ⟨-, h2, -, -, -, h6⟩ := h
  refine ⟨h2, fun q hq hz => ?_⟩
  obtain ⟨c9, e1, e2, e3, e4⟩ := h6 q _ (Array.getElem?_eq_getElem hq)
  have hs : c9.slots = (s.heap[q]).slots := Array.ext_getElem? fun i => e4 i fun hm => hz _ hm rfl
  have h9 : c9 = s.heap[q] := by
    rw [hs] at e2
    exact e2
  have e5 : U.heap[q]? = some c9 := e1
  rw [e5, h9, Array.getElem?_eq_getElem hq]
/-- the words of a throw but the four that speak of the heap -/
def vx_no (w : Cond) : Bool := decide (w ≠ .isRef (.static Bundle.tN "UNASSIGNED_STACK" Bundle.steD)) && decide (w ≠ .isRef (.static Bundle.tN "SUPPRESSED_SENTINEL" Bundle.listD)) && decide (w ≠ .laysStatic Bundle.tN "UNASSIGNED_STACK" Bundle.steD) && decide (w ≠ .laysStatic Bundle.tN "SUPPRESSED_SENTINEL" Bundle.listD)
def vx_atS (own : String) (ic : Nat) (X : String) (names : List String) : List Cond := (Bundle.ownAtoms own ic X names).filter vx_no
/-- a word that the tables alone decide, or a good one -/
def vx_ot (w : Cond) : Bool := w.onTables || goodWord w
theorem vx_ot_at {args a' : Array Value} {s U : State} {w : Cond} (hW : s.WarmedH U.vm) (hvm : s.vm = U.vm) (hg : vx_ot w = true) (h : w.before args s = true) : w.before a' U = true := by
  simp only [vx_ot, Bool.or_eq_true] at hg
  rcases hg with hg | hg
  · exact va_tabs hg hvm h
  · exact word_at hW (good_of_word hg) h
/-- a list's words: the good ones out of the method's own list, the others by premises of their own -/
theorem vx_hat {args : Array Value} {s : State} {L B : List Cond} (h1 : ∀ w ∈ L.filter goodWord, w.before args s = true) (h2 : ∀ w ∈ L.filter (fun w => !goodWord w), w ∈ B) (h3 : ∀ w ∈ B, w.before args s = true) : ∀ w ∈ L, w.before args s = true := by
  intro w hw
  by_cases g : goodWord w = true
  · exact h1 w (List.mem_filter.mpr ⟨hw, g⟩)
  · refine h3 w (h2 w (List.mem_filter.mpr ⟨hw, ?_⟩))
    show (!goodWord w) = true
    cases hgw : goodWord w
    · rfl
    · exact absurd hgw g
theorem vx_c {args : Array Value} {s : State} {w : Cond} {B : List Cond} (h : w.before args s = true) (t : ∀ w ∈ B, w.before args s = true) : ∀ w' ∈ w :: B, w'.before args s = true := fun w' h' => (List.mem_cons.mp h').elim (fun e => by rw [e]; exact h) (t w')
theorem vx_n {args : Array Value} {s : State} : ∀ w ∈ ([] : List Cond), w.before args s = true := fun _ h => nomatch h
theorem vx_own {args : Array Value} {s : State} {L : List Cond} (h1 : ∀ w ∈ L.filter vx_no, w.before args s = true)
    (hU : (Cond.isRef (.static Bundle.tN "UNASSIGNED_STACK" Bundle.steD)).before args s = true) (hN : (Cond.isRef (.static Bundle.tN "SUPPRESSED_SENTINEL" Bundle.listD)).before args s = true)
    (lU : (Cond.laysStatic Bundle.tN "UNASSIGNED_STACK" Bundle.steD).before args s = true) (lN : (Cond.laysStatic Bundle.tN "SUPPRESSED_SENTINEL" Bundle.listD).before args s = true) : ∀ w ∈ L, w.before args s = true := by
  intro w hw
  by_cases e1 : w = .isRef (.static Bundle.tN "UNASSIGNED_STACK" Bundle.steD)
  · rw [e1]; exact hU
  · by_cases e2 : w = .isRef (.static Bundle.tN "SUPPRESSED_SENTINEL" Bundle.listD)
    · rw [e2]; exact hN
    · by_cases e3 : w = .laysStatic Bundle.tN "UNASSIGNED_STACK" Bundle.steD
      · rw [e3]; exact lU
      · by_cases e4 : w = .laysStatic Bundle.tN "SUPPRESSED_SENTINEL" Bundle.listD
        · rw [e4]; exact lN
        · exact h1 w (List.mem_filter.mpr ⟨hw, by unfold vx_no; rw [decide_eq_true e1, decide_eq_true e2, decide_eq_true e3, decide_eq_true e4]; rfl⟩)
/-- where a static field lies, its class's statics cell in H -/
def vx_L (C n d : String) (A : Nat → Prop) (U : State) (H : Heap) : Prop := ∃ (c : ClassId) (k : Class) (i : Nat) (f : Field) (a : Nat) (cell : Cell), U.vm.findClass C = some c ∧ U.fieldFound? C n d = some (c, k, i, f) ∧ f.isStatic = true ∧ k.statics = some a ∧ H[a]? = some cell ∧ cell.vm.isStatics = true ∧ cell.cls = c ∧ f.slot < cell.slots.size ∧ k.staticTypes[f.slot]? = some f.type ∧ ¬ A a
theorem vx_L.moved {C n d : String} {A : Nat → Prop} {u U : State} {H : Heap} (hvm : u.vm.Alike U.vm) (h : vx_L C n d A u H) : vx_L C n d A U H := by
  obtain ⟨c, k, i, f, a, cell, h1, h2, h3, h4, h5, h6, h7, h8, h9, h10⟩ := h
  obtain ⟨k', hi', he⟩ := State.fieldFound?_setVm hvm h2
  exact ⟨c, k', i, f, a, cell, by rw [hvm.findClass]; exact h1, hi', h3, by rw [he]; exact h4, h5, h6, h7, h8, by rw [he]; exact h9, h10⟩
theorem vx_L.kept {C n d : String} {A : Nat → Prop} {U : State} {H H1 : Heap} (h : vx_L C n d A U H) (hq : ∀ a : Nat, a < H.size → ¬ A a → H1[a]? = H[a]?) : vx_L C n d A U H1 := by
  obtain ⟨c, k, i, f, a, cell, h1, h2, h3, h4, h5, h6, h7, h8, h9, h10⟩ := h
  exact ⟨c, k, i, f, a, cell, h1, h2, h3, h4, by rw [hq a (Array.getElem?_eq_some_iff.mp h5).1 h10]; exact h5, h6, h7, h8, h9, h10⟩
theorem vx_L.narrow {C n d : String} {A B : Nat → Prop} {U : State} {H : Heap} (h : vx_L C n d A U H) (hAB : ∀ q, B q → A q) : vx_L C n d B U H := by
  obtain ⟨c, k, i, f, a, cell, h1, h2, h3, h4, h5, h6, h7, h8, h9, h10⟩ := h
  exact ⟨c, k, i, f, a, cell, h1, h2, h3, h4, h5, h6, h7, h8, h9, fun z => h10 (hAB _ z)⟩
theorem vx_L.word {C n d : String} {A : Nat → Prop} {s : State} {args : Array Value} (h : vx_L C n d A s s.heap) : (Cond.laysStatic C n d).before args s = true := by
  obtain ⟨c, k, i, f, a, cell, h1, h2, h3, h4, h5, h6, h7, h8, h9, -⟩ := h
  show (Cond.laysStatic C n d).holds args s none s [] = true
  exact Cond.laysStatic_of h1 h2 h3 h4 h5 h6 h7 h8 h9
/-- .. and what it holds: null or some reference -/
def vx_Zq (C n d : String) (A : Nat → Prop) (U : State) (H : Heap) : Prop := va_Zq C n d A U H ∧ vx_L C n d A U H
theorem vx_Zq.moved {C n d : String} {A : Nat → Prop} {u U : State} {H : Heap} (hvm : u.vm.Alike U.vm) (h : vx_Zq C n d A u H) : vx_Zq C n d A U H := ⟨va_Zq.moved hvm h.1, vx_L.moved hvm h.2⟩
theorem vx_Zq.kept {C n d : String} {A : Nat → Prop} {U : State} {H H1 : Heap} (h : vx_Zq C n d A U H) (hq : ∀ a : Nat, a < H.size → ¬ A a → H1[a]? = H[a]?) : vx_Zq C n d A U H1 := ⟨va_Zq.kept h.1 hq, vx_L.kept h.2 hq⟩
theorem vx_Zq.narrow {C n d : String} {A B : Nat → Prop} {U : State} {H : Heap} (h : vx_Zq C n d A U H) (hAB : ∀ q, B q → A q) : vx_Zq C n d B U H := ⟨va_Zq.narrow h.1 hAB, vx_L.narrow h.2 hAB⟩
theorem vx_Zqof {args : Array Value} {s : State} {C n d : String} {A : Nat → Prop} (hl : (Cond.laysStatic C n d).before args s = true) (hini : (Cond.initialized C).before args s = true) (h : (Cond.isRef (.static C n d)).before args s = true) (hA : ∀ a : Nat, a < s.heap.size → ¬ A a) : vx_Zq C n d A s s.heap := by
  refine ⟨va_Zqof hl hini h hA, ?_⟩
  obtain ⟨c, k, i, f, a, cell, h1, h2, h3, h4, h5, h6, h7, h8, h9⟩ := Cond.laysStatic_spec hl
  exact ⟨c, k, i, f, a, cell, h1, h2, h3, h4, h5, h6, h7, h8, h9, hA a (Array.getElem?_eq_some_iff.mp h5).1⟩
theorem vx_isRef {C n d : String} {v : Value} {A : Nat → Prop} {s : State} {args : Array Value} (h : va_Z C n d v A s s.heap) (hv : v.isRef = true) : (Cond.isRef (.static C n d)).before args s = true := by
  obtain ⟨cf, kf, fi, f, a, cell, h1, h2, h3, h4, h5, h6, h7, -⟩ := h
  have he : (Term.static C n d).eval args s none [] s = some v := by
    simp [Term.eval, State.fieldNamed?, h1, h2, h4, h5, h6, h7]
  simp only [Cond.before, Cond.holds, Cond.value, he]
  cases v <;> simp_all [Value.isRef]
theorem vx_isRefq {C n d : String} {A : Nat → Prop} {s : State} {args : Array Value} (h : va_Zq C n d A s s.heap) : (Cond.isRef (.static C n d)).before args s = true := by
  rcases h with h | ⟨t, h⟩
  · exact vx_isRef h rfl
  · exact vx_isRef h rfl
/-- the same frame, seen from here: as if the method were called anew in this heap -/
theorem vx_rebase {T : State} (X : Stand p l e R s m args below meth c T locs cells slots) {R' : Room} (hf : R'.frames ≤ R.frames) (hl : R'.locals ≤ R.locals) (hc : cells + R'.cells ≤ R.cells) (hs : slots + R'.slots ≤ R.slots) :
    Stand p l e R' ((T.setVm s.vm).setFrames (.invoking m args :: below)) m args below meth c T [] 0 0 := by
  have htop : (T.setVm s.vm).topJava?.isSome := X.here.top
  have hF : ((T.setVm s.vm).setFrames (.invoking m args :: below)).frames = .invoking m args :: below := State.frames_setFrames _ (State.cur_lt_of_top htop)
  obtain ⟨g₀, hg0⟩ := Option.isSome_iff_exists.mp htop
  obtain ⟨r, hr⟩ := State.topJava?_eq_some.mp hg0
  have hl9 : e.platform.stackLimits (T.setVm s.vm).me = e.platform.stackLimits s.me := X.limits
  have hb9 : (T.setVm s.vm).me.stackBytes = s.me.stackBytes := X.bytes
  refine ⟨X.admits, X.cas, X.clock, hF, ?_, X.hears, X.method, X.code, X.here, X.tail, X.warmed, ?_, ?_, ?_⟩
  · have h := X.room
    have hU : ((T.setVm s.vm).setFrames (.invoking m args :: below)).localsInUse = s.localsInUse := by
      rw [State.localsInUse_invoking hF (meth := meth) (c := c) X.method X.code, State.localsInUse_invoking X.frames X.method X.code]
    simp only [State.hasRoom, Bool.and_eq_true, decide_eq_true_eq] at h ⊢
    obtain ⟨⟨⟨⟨h1, h2, h3, h4, h5, h6⟩, h7⟩, h8⟩, h9⟩ := h
    rw [X.frames, List.length_cons] at h2 h3
    have q1 := X.heapSize
    have q2 := X.used
    simp only [hF, hU, List.length_cons, State.stackLimits_setFrames, State.stackBytes_setFrames, hl9, hb9]
    refine ⟨⟨⟨⟨by omega, by omega, by omega, by omega, by omega, h6⟩, ?_⟩, ?_⟩, X.book⟩
    · show T.heap.size + R'.cells ≤ e.platform.maxCells
      omega
    · show T.slotsUsed + R'.slots ≤ e.platform.maxSlots
      omega
  · rw [State.stackLimits_setFrames]; rfl
  · rw [State.stackBytes_setFrames]; rfl
  · refine ⟨?_, Nat.le_refl _, Nat.le_refl _, ?_, ?_, fun a c9 h9 => ⟨c9, h9, rfl, rfl, fun _ _ => rfl⟩⟩
    · obtain ⟨t, ht, -⟩ := State.frames_cons hr
      show T.setVm s.vm = { ((T.setVm s.vm).setFrames (.invoking m args :: below)).setFrames (T.setVm s.vm).frames with heap := T.heap, slotsUsed := T.slotsUsed }
      rw [State.setFrames_setFrames, State.setFrames_self ht]
      rfl
    · show T.slotsUsed = T.slotsUsed + ((T.heap.toList.drop T.heap.size).map (·.slots.size)).sum
      rw [List.drop_eq_nil_of_le (Nat.le_of_eq Array.length_toList)]
      rfl
    · show ((T.heap.toList.drop T.heap.size).map (·.slots.size)).sum ≤ 0
      rw [List.drop_eq_nil_of_le (Nat.le_of_eq Array.length_toList)]
      exact Nat.le_refl _
/-- 'throw new E("text")': new; dup; ldc; invokespecial; athrow -/
theorem vx_throwS {cc : ByteArray} {pc : Nat} (hexec : p.tables.exec = Jvm.exec) (hb : c.code = cc) (hl : l.stackTraces = false) {own cls text : String} {names : List String} {ik is ic mc ms sa : Nat} {A : Nat → Prop}
    (hown : s.vm.findClass own = some m.cls) (hcls : Bundle.fit cls = true) (hnames : ∀ n ∈ names, Bundle.fit n = true)
    (hk : (Cond.classLink own ik cls).before args s = true) (hini : (Cond.initialized cls).before args s = true) (hstr : vk_R own is text sa s) (hat : ∀ w ∈ vx_atS own ic cls names, w.before args s = true)
    (hgood : ∀ w ∈ Cond.classLink own ik cls :: Cond.initialized cls :: vx_atS own ic cls names, vx_ot w = true)
    (hU : vx_Zq Bundle.tN "UNASSIGNED_STACK" Bundle.steD A s s.heap) (hN : vx_Zq Bundle.tN "SUPPRESSED_SENTINEL" Bundle.listD A s s.heap) (hS : va_S A s.heap H locs) (hsize : ls.size = c.maxLocals)
    (d0 : decode cc pc = .ok (.new ik, 3)) (d3 : decode cc (pc + 3) = .ok (.dup, 1)) (d4 : decode cc (pc + 4) = .ok (.ldc is, 2)) (d6 : decode cc (pc + 6) = .ok (.invokespecial ic, 3)) (d9 : decode cc (pc + 9) = .ok (.athrow, 1))
    (hout : ∀ x ∈ c.exceptionTable.toList, covers x (pc + 9) = false)
    (hRframes : names.length + 3 < R.frames) (hRlocals : (rest.map fun v => v.category).sum + (13 * (names.length + 1) + 43) ≤ R.locals) (hRcells : cells + 1 ≤ R.cells) (hRslots : slots + 6 ≤ R.slots) (hlocks : meth.locks = false)
    (hx : ∀ t : State, s.vm.Alike t.vm → t.heap.size = H.size + 1 → (∀ q : Nat, q < H.size → t.heap[q]? = H[q]?) → XC cls s t)
    (hf : ∀ z ∈ locs, free z.base) (hc : cells + 1 ≤ mc) (hs : slots + 6 ≤ ms) :
    W p l e R s m args below meth c H locs cells slots (vx_MQ below Qc XC args s mc ms free) (F0 m pc ls rest) := by
  intro T hT X
  have htr : e.platform.stackTraces = false := (show e.platform.stackTraces = l.stackTraces by rw [X.admits.platform]).trans hl
  have Y := vx_rebase X (R' := { frames := R.frames, locals := R.locals, cells := 1, slots := 6 }) (Nat.le_refl _) (Nat.le_refl _) hRcells hRslots
  obtain ⟨s', hA⟩ : ∃ z, z = (T.setVm s.vm).setFrames (.invoking m args :: below) := ⟨_, rfl⟩
  rw [← hA] at Y
  have hvm : s'.vm = s.vm := by rw [hA]; rfl
  have hhp : s'.heap = H := by rw [hA]; exact hT
  have hW0 : s.WarmedH s'.vm := by rw [hvm]; exact State.WarmedH.refl s
  have hat' : ∀ w ∈ vx_atS own ic cls names, w.before args s' = true := fun w hw => vx_ot_at hW0 hvm.symm (hgood w (List.mem_cons_of_mem _ (List.mem_cons_of_mem _ hw))) (hat w hw)
  have hk' : (Cond.classLink own ik cls).before args s' = true := vx_ot_at hW0 hvm.symm (hgood _ List.mem_cons_self) hk
  have hini' : (Cond.initialized cls).before args s' = true := vx_ot_at hW0 hvm.symm (hgood _ (List.mem_cons_of_mem _ List.mem_cons_self)) hini
  have hU' : vx_Zq Bundle.tN "UNASSIGNED_STACK" Bundle.steD A s' s'.heap := by rw [hhp]; exact vx_Zq.moved hW0.alike (hU.kept hS.2.1)
  have hN' : vx_Zq Bundle.tN "SUPPRESSED_SENTINEL" Bundle.listD A s' s'.heap := by rw [hhp]; exact vx_Zq.moved hW0.alike (hN.kept hS.2.1)
  have h : ∀ w ∈ Bundle.ownAtoms own ic cls names, w.before args s' = true := vx_own hat' (vx_isRefq hU'.1) (vx_isRefq hN'.1) hU'.2.word hN'.2.word
  have hown' : s'.vm.findClass own = some m.cls := by rw [hvm]; exact hown
  have hins : (Cond.instantiable cls 6).before args s' = true := h _ (by simp [Bundle.ownAtoms])
  obtain ⟨vm₁, cX, kX, hfX, hkX, -, -, X₁, st1⟩ := Y.newCold hexec (own := own) (C := cls) (index := ik) (n := 6) hown' hk' hins hini'
    (g := F0 m pc ls rest) rfl (by rw [hb]; exact d0) (Nat.le_refl _) (Nat.le_refl _)
  generalize hT1 : (T.setVm vm₁).pushCell { cls := cX, slots := kX.instanceTypes.map defaultValue, vm := .none } = T1 at X₁ st1
  have hcat : (Value.ref T.heap.size).category = 1 := rfl
  have hcellA : T1.heap[T.heap.size]? = some (freshCell cX kX) := by rw [← hT1]; exact State.heap_pushCell_size _ _
  have d3' : decode c.code (pc + 3) = .ok (.dup, 1) := by rw [hb]; exact d3
  have d4' : decode c.code (pc + 4) = .ok (.ldc is, 2) := by rw [hb]; exact d4
  have hstr' : vk_R own is text sa s' := vk_R.warm hW0 hstr
  obtain ⟨U, hsteps, hrun, hend, hW, hsame, ce, hce, hO⟩ := X₁.ctorThrowS hexec htr (own := own) (cls := cls) (names := names) (ic := ic) hown' hcls hnames h (fun x hx => nomatch hx) hfX hkX hcellA (by rw [hhp, hT]; exact Nat.le_refl _) (msg := .ref sa) rfl
    (g := { method := m, pc := pc + 6, locals := ls, stack := .ref sa :: .ref T.heap.size :: .ref T.heap.size :: rest, locked := none }) rfl hsize rfl rfl (rest := rest) rfl
    (by rw [hb]; exact d6) (by rw [hb]; exact d9) hout hRframes (by simp only [List.map_cons, List.sum_cons, hcat]; omega) hlocks
  obtain ⟨f1, f2⟩ := vx_frame hsame
  rw [hhp] at f1 f2
  have fz : U.heap.size = H.size + 1 := by
    have z1 : T.heap.size < U.heap.size := (Array.getElem?_eq_some_iff.mp hce).1
    have z2 : U.heap.size ≤ s'.heap.size + (0 + 1) := hsame.2.2.1
    rw [hhp] at z2
    rw [hT] at z1
    omega
  have hWs : s.WarmedH U.vm := State.WarmedH.trans hW0 hW
  have hcl : s.vm.findClass cls = some ce.cls := by
    have h9 := hO.cls
    rw [hvm] at h9
    exact h9
  have hall : s.sameButNew ({ U with vm := s.vm } : State) locs mc ms := by
    subst hA
    obtain ⟨e1, e2⟩ := hsame
    rw [State.setFrames_setFrames] at e1
    have h2 : (T.setVm s.vm).sameButNew ({ U with vm := s.vm } : State) [] (0 + 1) (0 + 6) := ⟨e1, e2⟩
    have h3 := X.same.trans h2
    rw [List.append_nil] at h3
    exact h3.mono hc hs
  refine ⟨U, ?_, .threw T.heap.size, hrun, hend, Or.inr ⟨T.heap.size, rfl, cls, ce, locs, hx U hWs.alike fz (fun q hq => f2 q hq (fun z hz => nomatch hz)), hce, hO.vm, hcl, hWs, hall, hf⟩⟩
  refine st1 _ ?_
  show Steps p.tables e below (T1.setTop { method := m, pc := pc + 3, locals := ls, stack := .ref T.heap.size :: rest, locked := none }) _
  jvm_step X₁.here [X₁.here.top, hexec, d3', Value.category]
  exact X₁.ldcString hexec (own := own) (text := text) (index := is) (a := sa) hown' hstr'.1 hstr'.2
    (g := { method := m, pc := pc + 4, locals := ls, stack := .ref T.heap.size :: .ref T.heap.size :: rest, locked := none }) rfl d4' _ hsteps
/-- 'throw new E("text")', the text by a wide index -/
theorem vx_throwSW {cc : ByteArray} {pc : Nat} (hexec : p.tables.exec = Jvm.exec) (hb : c.code = cc) (hl : l.stackTraces = false) {own cls text : String} {names : List String} {ik is ic mc ms sa : Nat} {A : Nat → Prop}
    (hown : s.vm.findClass own = some m.cls) (hcls : Bundle.fit cls = true) (hnames : ∀ n ∈ names, Bundle.fit n = true)
    (hk : (Cond.classLink own ik cls).before args s = true) (hini : (Cond.initialized cls).before args s = true) (hstr : vk_R own is text sa s) (hat : ∀ w ∈ vx_atS own ic cls names, w.before args s = true)
    (hgood : ∀ w ∈ Cond.classLink own ik cls :: Cond.initialized cls :: vx_atS own ic cls names, vx_ot w = true)
    (hU : vx_Zq Bundle.tN "UNASSIGNED_STACK" Bundle.steD A s s.heap) (hN : vx_Zq Bundle.tN "SUPPRESSED_SENTINEL" Bundle.listD A s s.heap) (hS : va_S A s.heap H locs) (hsize : ls.size = c.maxLocals)
    (d0 : decode cc pc = .ok (.new ik, 3)) (d3 : decode cc (pc + 3) = .ok (.dup, 1)) (d4 : decode cc (pc + 4) = .ok (.ldc_w is, 3)) (d7 : decode cc (pc + 7) = .ok (.invokespecial ic, 3)) (d10 : decode cc (pc + 10) = .ok (.athrow, 1))
    (hout : ∀ x ∈ c.exceptionTable.toList, covers x (pc + 10) = false)
    (hRframes : names.length + 3 < R.frames) (hRlocals : (rest.map fun v => v.category).sum + (13 * (names.length + 1) + 43) ≤ R.locals) (hRcells : cells + 1 ≤ R.cells) (hRslots : slots + 6 ≤ R.slots) (hlocks : meth.locks = false)
    (hx : ∀ t : State, s.vm.Alike t.vm → t.heap.size = H.size + 1 → (∀ q : Nat, q < H.size → t.heap[q]? = H[q]?) → XC cls s t)
    (hf : ∀ z ∈ locs, free z.base) (hc : cells + 1 ≤ mc) (hs : slots + 6 ≤ ms) :
    W p l e R s m args below meth c H locs cells slots (vx_MQ below Qc XC args s mc ms free) (F0 m pc ls rest) := by
  intro T hT X
  have htr : e.platform.stackTraces = false := (show e.platform.stackTraces = l.stackTraces by rw [X.admits.platform]).trans hl
  have Y := vx_rebase X (R' := { frames := R.frames, locals := R.locals, cells := 1, slots := 6 }) (Nat.le_refl _) (Nat.le_refl _) hRcells hRslots
  obtain ⟨s', hA⟩ : ∃ z, z = (T.setVm s.vm).setFrames (.invoking m args :: below) := ⟨_, rfl⟩
  rw [← hA] at Y
  have hvm : s'.vm = s.vm := by rw [hA]; rfl
  have hhp : s'.heap = H := by rw [hA]; exact hT
  have hW0 : s.WarmedH s'.vm := by rw [hvm]; exact State.WarmedH.refl s
  have hat' : ∀ w ∈ vx_atS own ic cls names, w.before args s' = true := fun w hw => vx_ot_at hW0 hvm.symm (hgood w (List.mem_cons_of_mem _ (List.mem_cons_of_mem _ hw))) (hat w hw)
  have hk' : (Cond.classLink own ik cls).before args s' = true := vx_ot_at hW0 hvm.symm (hgood _ List.mem_cons_self) hk
  have hini' : (Cond.initialized cls).before args s' = true := vx_ot_at hW0 hvm.symm (hgood _ (List.mem_cons_of_mem _ List.mem_cons_self)) hini
  have hU' : vx_Zq Bundle.tN "UNASSIGNED_STACK" Bundle.steD A s' s'.heap := by rw [hhp]; exact vx_Zq.moved hW0.alike (hU.kept hS.2.1)
  have hN' : vx_Zq Bundle.tN "SUPPRESSED_SENTINEL" Bundle.listD A s' s'.heap := by rw [hhp]; exact vx_Zq.moved hW0.alike (hN.kept hS.2.1)
  have h : ∀ w ∈ Bundle.ownAtoms own ic cls names, w.before args s' = true := vx_own hat' (vx_isRefq hU'.1) (vx_isRefq hN'.1) hU'.2.word hN'.2.word
  have hown' : s'.vm.findClass own = some m.cls := by rw [hvm]; exact hown
  have hins : (Cond.instantiable cls 6).before args s' = true := h _ (by simp [Bundle.ownAtoms])
  obtain ⟨vm₁, cX, kX, hfX, hkX, -, -, X₁, st1⟩ := Y.newCold hexec (own := own) (C := cls) (index := ik) (n := 6) hown' hk' hins hini'
    (g := F0 m pc ls rest) rfl (by rw [hb]; exact d0) (Nat.le_refl _) (Nat.le_refl _)
  generalize hT1 : (T.setVm vm₁).pushCell { cls := cX, slots := kX.instanceTypes.map defaultValue, vm := .none } = T1 at X₁ st1
  have hcat : (Value.ref T.heap.size).category = 1 := rfl
  have hcellA : T1.heap[T.heap.size]? = some (freshCell cX kX) := by rw [← hT1]; exact State.heap_pushCell_size _ _
  have d3' : decode c.code (pc + 3) = .ok (.dup, 1) := by rw [hb]; exact d3
  have d4' : decode c.code (pc + 4) = .ok (.ldc_w is, 3) := by rw [hb]; exact d4
  have hstr' : vk_R own is text sa s' := vk_R.warm hW0 hstr
  obtain ⟨U, hsteps, hrun, hend, hW, hsame, ce, hce, hO⟩ := X₁.ctorThrowS hexec htr (own := own) (cls := cls) (names := names) (ic := ic) hown' hcls hnames h (fun x hx => nomatch hx) hfX hkX hcellA (by rw [hhp, hT]; exact Nat.le_refl _) (msg := .ref sa) rfl
    (g := { method := m, pc := pc + 7, locals := ls, stack := .ref sa :: .ref T.heap.size :: .ref T.heap.size :: rest, locked := none }) rfl hsize rfl rfl (rest := rest) rfl
    (by rw [hb]; exact d7) (by rw [hb]; exact d10) hout hRframes (by simp only [List.map_cons, List.sum_cons, hcat]; omega) hlocks
  obtain ⟨f1, f2⟩ := vx_frame hsame
  rw [hhp] at f1 f2
  have fz : U.heap.size = H.size + 1 := by
    have z1 : T.heap.size < U.heap.size := (Array.getElem?_eq_some_iff.mp hce).1
    have z2 : U.heap.size ≤ s'.heap.size + (0 + 1) := hsame.2.2.1
    rw [hhp] at z2
    rw [hT] at z1
    omega
  have hWs : s.WarmedH U.vm := State.WarmedH.trans hW0 hW
  have hcl : s.vm.findClass cls = some ce.cls := by
    have h9 := hO.cls
    rw [hvm] at h9
    exact h9
  have hall : s.sameButNew ({ U with vm := s.vm } : State) locs mc ms := by
    subst hA
    obtain ⟨e1, e2⟩ := hsame
    rw [State.setFrames_setFrames] at e1
    have h2 : (T.setVm s.vm).sameButNew ({ U with vm := s.vm } : State) [] (0 + 1) (0 + 6) := ⟨e1, e2⟩
    have h3 := X.same.trans h2
    rw [List.append_nil] at h3
    exact h3.mono hc hs
  refine ⟨U, ?_, .threw T.heap.size, hrun, hend, Or.inr ⟨T.heap.size, rfl, cls, ce, locs, hx U hWs.alike fz (fun q hq => f2 q hq (fun z hz => nomatch hz)), hce, hO.vm, hcl, hWs, hall, hf⟩⟩
  refine st1 _ ?_
  show Steps p.tables e below (T1.setTop { method := m, pc := pc + 3, locals := ls, stack := .ref T.heap.size :: rest, locked := none }) _
  jvm_step X₁.here [X₁.here.top, hexec, d3', Value.category]
  exact X₁.ldcStringW hexec (own := own) (text := text) (index := is) (a := sa) hown' hstr'.1 hstr'.2
    (g := { method := m, pc := pc + 4, locals := ls, stack := .ref T.heap.size :: .ref T.heap.size :: rest, locked := none }) rfl d4' _ hsteps
end Ends
section Bodies
variable {l : Launch}
theorem vx_ofW {y : MethodName} {ws ws' : List Cond} {rm : Room} {Pc : Array Value → State → Prop} {Qc : Array Value → State → Outcome → State → Prop} {XC : String → State → State → Prop} {mc ms : Nat} {free : Addr → Prop} {cc : ByteArray} {maxL : Nat} {ret : Option FieldType}
    (hy : plainName y.cls = true) (hw : ws = Cond.code y cc maxL ret :: ws')
    (body : ∀ p e s m args below meth c s₁, BodyLoose p l y (headSpec ws rm) cc maxL ret e s m args below meth c s₁ → c.maxLocals = maxL → (∀ x ∈ c.exceptionTable.toList, False) → Pc args s →
      W p l e (headSpec ws rm).room s m args below meth c s.heap [] 0 0 (vx_MQ below Qc XC args s mc ms free) (entryFrame m args maxL)) : vx_Met l y ws rm Pc Qc XC mc ms free := by
  refine MetFree.of_bodyS (code := cc) (maxLocals := maxL) (ret := ret) hy ?_ ?_
  · intro args s m h hn
    obtain ⟨meth, c, h1, h2, h3, h4, h5, h6, -, -⟩ := Cond.code_spec hn (atoms_spec (ws := ws) h _ (by rw [hw]; exact List.mem_cons_self))
    exact ⟨meth, c, h1, h2, h3, h4, h5, h6⟩
  · intro p e s m args below meth c s₁ B hml hP _
    have hh0 : s₁.heap = s.heap := by rw [B.state]; rfl
    have ht : ∀ x ∈ c.exceptionTable.toList, False := by
      obtain ⟨meth9, c9, h1, h2, -, -, -, -, h7, -⟩ := Cond.code_spec B.named (atoms_spec (ws := ws) B.pre _ (by rw [hw]; exact List.mem_cons_self))
      cases Option.some.inj (h1.symm.trans B.method)
      cases Option.some.inj (h2.symm.trans (Stand.of_body B).code)
      intro x hx
      rw [Array.isEmpty_iff.mp h7] at hx
      cases hx
    obtain ⟨t, a1, o, b1, b2, b3⟩ := body p e s m args below meth c s₁ B hml ht hP s₁ hh0 (Stand.of_body B)
    exact ⟨t, o, a1, b1, b2, b3⟩
/-- the table of a body with handlers -/
theorem vx_table {p : Program} {x y : MethodName} {S : Spec} {cc bytes : ByteArray} {maxL maxL' : Nat} {ret ret' : Option FieldType} {e : Env} {s s₁ : State} {m : MethodId} {args : Array Value} {below : List Frame} {meth : Method} {c : Code} {hh : List (Nat × Nat × Nat × Nat)}
    (B : BodyLoose p l y S cc maxL ret e s m args below meth c s₁) (h : (Cond.codeWith y bytes maxL' ret' hh).before args s = true) : c.exceptionTable.toList = tableOf hh := by
  obtain ⟨m9, meth9, c9, hn9, h1, h2, -, -, h6, -⟩ := Cond.codeWith_spec h
  cases Option.some.inj (hn9.symm.trans B.named)
  cases Option.some.inj (h1.symm.trans B.method)
  cases Option.some.inj (h2.symm.trans (Stand.of_body B).code)
  rw [← h6, table_eq]
end Bodies
end VXA
/-! ===== END ===== -/
/-! ===== BEGIN a static call of a method with an exception table ===== -/
section VXS
variable {p : Program} {l : Launch} {e : Env} {R : Room} {s : State} {m : MethodId} {args : Array Value} {below : List Frame} {meth : Method} {c : Code} {T : State} {H : Heap} {locs : List Loc} {cells slots : Nat}
abbrev vx_CSW (R : Room) (s : State) (args : Array Value) (own : String) (index : Nat) (y : MethodName) (bytes : ByteArray) (maxL : Nat) (ret : Option FieldType) (hh : List (Nat × Nat × Nat × Nat)) (ws : List Cond) (rm : Room) (mc ms n : Nat) : Prop :=
  (rm.cells = mc ∧ rm.slots = ms ∧ rm.frames + 1 ≤ R.frames ∧ 8 + (maxL + 11) + rm.locals ≤ R.locals ∧ (∀ w ∈ ws, ∀ (a' : Array Value) (U : State), s.WarmedH U.vm → w.before a' U = true) ∧ Cond.codeWith y bytes maxL ret hh ∈ ws) ∧
  (Cond.codeWith y bytes maxL ret hh).before args s = true ∧ (Cond.initialized y.cls).before args s = true ∧ (y.cls ≠ "java/lang/invoke/MethodHandle" ∧ y.cls ≠ "java/lang/invoke/VarHandle") ∧
  (∀ sig, parseMethodDescriptor y.desc = some sig → n = sig.parameters.length) ∧ (Cond.methodLink own index y).before args s = true ∧ (Cond.static y).before args s = true
theorem vx_cwSW {own : String} {index maxL mc ms : Nat} {y : MethodName} {bytes : ByteArray} {ret : Option FieldType} {hh : List (Nat × Nat × Nat × Nat)} {Ts ws ws' : List Cond} {rm : Room} (n : Nat) (ht : ∀ w ∈ Ts, w.before args s = true) (hT : GoodIn Ts (va_wsS own index y ws)) (hw : ws = Cond.codeWith y bytes maxL ret hh :: ws') (hrc : rm.cells = mc) (hrs : rm.slots = ms)
    (hd : y.cls ≠ "java/lang/invoke/MethodHandle" ∧ y.cls ≠ "java/lang/invoke/VarHandle" ∧ (parseMethodDescriptor y.desc).map (fun d => d.parameters.length) = some n) (hR : rm.frames + 1 ≤ R.frames ∧ 8 + (maxL + 11) + rm.locals ≤ R.locals) :
    vx_CSW R s args own index y bytes maxL ret hh ws rm mc ms n := by
  have ok : ∀ w ∈ va_wsS own index y ws, w.before args s = true := fun w h => ht w (hT w h).1
  have hG : GoodIn Ts ws := fun w h => hT w (by unfold va_wsS; exact List.mem_append_right _ h)
  have hc : Cond.codeWith y bytes maxL ret hh ∈ ws := by rw [hw]; exact List.mem_cons_self
  refine ⟨⟨hrc, hrs, hR.1, hR.2, pay_in ht hG, hc⟩, ht _ (hG _ hc).1, ok _ (by simp [va_wsS]), ⟨hd.1, hd.2.1⟩, fun sig h => ?_, ok _ (by simp [va_wsS]), ok _ (by simp [va_wsS])⟩
  have h2 := hd.2.2
  rw [h] at h2
  exact (Option.some.inj h2).symm
theorem vx_callSW (X : Stand p l e R s m args below meth c T locs cells slots) (hexec : p.tables.exec = Jvm.exec) {own : String} {index : Nat} {y : MethodName} {bytes : ByteArray} {maxL : Nat} {ret : Option FieldType} {hh : List (Nat × Nat × Nat × Nat)}
    (hown : s.vm.findClass own = some m.cls) (hlink : (Cond.methodLink own index y).before args s = true) (hstat : (Cond.static y).before args s = true) (hinit : (Cond.initialized y.cls).before args s = true)
    (hcode : (Cond.codeWith y bytes maxL ret hh).before args s = true) (hy : y.cls ≠ "java/lang/invoke/MethodHandle" ∧ y.cls ≠ "java/lang/invoke/VarHandle")
    {W9 : Nat} {Pre : Pt → Array Value → Prop} {Post : Pt → Array Value → Option Value → Pt → Prop} (hK : Back l R p e below s args y 3 W9 Pre Post)
    {g : JFrame} (hg : g.method = m) (hsize : g.locals.size = c.maxLocals) {argsL rest : List Value} (hlen : ∀ sig, parseMethodDescriptor y.desc = some sig → argsL.length = sig.parameters.length)
    (hstack : g.stack = argsL.reverse ++ rest) (hW : 2 * g.monitorRoom + (rest.map fun v => v.category).sum ≤ W9) (hdg : decode c.code g.pc = .ok (.invokestatic index, 3))
    (hpre : ∀ vm₁, s.WarmedH vm₁ → Pre ⟨T.setVm vm₁, locs, cells, slots⟩ argsL.toArray) :
    ∃ (v : Option Value) (vm₁ : Vm) (B : Pt), s.WarmedH vm₁ ∧ Stand p l e R s m args below meth c B.U B.locs B.cells B.slots ∧ Post ⟨T.setVm vm₁, locs, cells, slots⟩ argsL.toArray v B ∧
      ∀ target, Steps p.tables e below (B.U.setTop { g with pc := g.pc + 3, stack := v.toList ++ rest }) target → Steps p.tables e below (T.setTop g) target := by
  obtain ⟨mk, methM, cM, hnamed, hmethM, -, -, -, -, -, -, hsigM⟩ := Cond.codeWith_spec hcode
  have hstatic : methM.isStatic = true := Cond.static_spec hnamed hmethM hstat
  obtain ⟨kP, hkP, -⟩ := className_of_methodNamed hnamed
  have hinitP : kP.init = .initialized := Cond.initialized_spec (findClass_of_methodNamed hnamed) hkP hinit
  obtain ⟨vm₁, X₁, hstep₁⟩ := X.invokestatic hexec hown hlink hnamed hmethM hstatic hkP hinitP hy (g := g) hg (argsL := argsL) (rest := rest) (hlen _ hsigM) hstack hdg
  obtain ⟨v, B, X', hpost, hsteps⟩ := hK m meth c ⟨T.setVm vm₁, locs, cells, slots⟩ { g with stack := rest } (.invokestatic index) mk argsL.toArray X₁ hg hsize hdg hW (X₁.named hnamed) (hpre vm₁ X₁.warmed)
  exact ⟨v, vm₁, B, X₁.warmed, X', hpost, fun target h => hstep₁ _ fun acts => by rw [doInvoke_state]; exact hsteps.trans h⟩
theorem vx_runSW {y : MethodName} {bytes cc : ByteArray} {maxL nL mc ms n index : Nat} {ret : Option FieldType} {hh : List (Nat × Nat × Nat × Nat)} {ws : List Cond} {rm : Room} {Pc : Array Value → State → Prop} {Qc : Array Value → State → Outcome → State → Prop} {free : Addr → Prop} {Ts : List Cond} {own : String} {As rest : List Value} {g : JFrame}
    (S : CallFix p m c cc nL s args Ts own) (hM : Met l y ws rm Pc Qc mc ms free) (cw : vx_CSW R s args own index y bytes maxL ret hh ws rm mc ms n) (hp : PreS s H Pc As)
    (hg : g.method = m) (hn : As.length = n) (hsize : g.locals.size = nL) (hstack : g.stack = As.reverse ++ rest) (hW : 2 * g.monitorRoom + (rest.map fun v => v.category).sum ≤ 8) (hdg : decode cc g.pc = .ok (.invokestatic index, 3)) (hf : cells + mc ≤ R.cells ∧ slots + ms ≤ R.slots) :
    va_Run p l e R s m args below meth c H locs cells slots mc ms g rest (Qc As.toArray) (free) := by
  obtain ⟨⟨hrc, hrs, hfr, hlo, hws, hcw⟩, hcode, hini, hy, hlen, hl, hstt⟩ := cw
  have hK : Back l R p e below s args y 3 8 (PreOf R mc ms Pc) (PostOf Qc mc ms free) := va_backW (hh := hh) (bytes := bytes) (maxL := maxL) (ret := ret) hM hp.1 hrc hrs hfr hlo hws hcw (fun a' U hW => word_at hW (Or.inl (by first | rfl | simp [Cond.onTables, Cond.keeps, Cond.steady])) hini)
  obtain ⟨hx, hb, hml, ho, -⟩ := S
  intro T hT X
  obtain ⟨v, vm₁, ⟨U', l2, c2, s2⟩, hW₁, X', ⟨g', mk, t, L, e1, e2, hq, h1, hL, h2, h3⟩, st⟩ := vx_callSW X hx (hh := hh) (bytes := bytes) (maxL := maxL) (ret := ret) ho hl hstt hini hcode hy hK hg (hsize.trans hml.symm) (argsL := As) (rest := rest) (fun sig h => hn.trans (hlen sig h)) hstack hW (by rw [hb]; exact hdg)
    (fun vm₁ hW₁ => ⟨hf.1, hf.2, hp.2 (T.setVm vm₁) hT hW₁⟩)
  dsimp only [Pt.U, Pt.locs, Pt.cells, Pt.slots] at X' e1 e2 h1 h2 h3 st
  subst h1; subst h2; subst h3
  exact ⟨v, (T.setVm vm₁).calling g' mk As.toArray, t, U', L, hT, X', hL, e1, e2, hq, st⟩
end VXS
/-! ===== END ===== -/
/-! ===== BEGIN methods with a table of their own: called by a name, returning or throwing ===== -/
section VXH
/-! vx_backW, vx_callVX, vx_callSX, vx_callVW, vx_runVW, vx_runVX, vx_runSX, vx_ofWH follow the same proofs as their sisters above (Free/Laws.lean, Shelf42/LK1.lean); vx_outP calls Shelf42/NT130.lean (outThrough). -/
variable {p : Program} {l : Launch} {e : Env} {R : Room} {s : State} {m : MethodId} {args : Array Value} {below : List Frame} {meth : Method} {c : Code} {T : State} {H : Heap} {locs : List Loc} {cells slots : Nat}
end VXH
/-! ===== END ===== -/
end
section
/-! A handler whose catch type may not be resolved yet: the search resolves it on its way. -/
section XCA
/-- a handler row that covers the pc and names a class: the tables note the class; then it takes the object, or the search goes on -/
theorem xg_row {Q : Handler → Pre} {E : CtlPost} {e : Env} {d : Bool} {acts : List Action} {s : State} {f : JFrame} {a : Addr} {x : ExceptionTableEntry} {t : List ExceptionTableEntry} {c : ClassId} {cell : Cell} (hx : covers x f.pc = true) (h0 : x.catchType ≠ 0)
    (hl : s.vm.ClassLinks e.platform f.method.cls x.catchType c) (hcell : s.heap[a]? = some cell) (hobj : ∀ k, cell.vm ≠ .statics k) (hk : ∃ k, s.vm.classes[cell.cls]? = some k) (hc : ∃ k, s.vm.classes[c]? = some k) :
    wp (findHandler.go f a (x :: t)) Q E e d acts s ↔ (if s.vm.assignable cell.cls c = true then Q (.found x.handlerPc) d acts (s.setVm (s.vm.noted f.method.cls x.catchType (.cls c))) else wp (findHandler.go f a t) Q E e d acts (s.setVm (s.vm.noted f.method.cls x.catchType (.cls c)))) := by
  simp only [covers] at hx
  obtain ⟨r1, r2⟩ := (resolveClass_links e.toSetting hl).op (op := VmOp.resolveClass f.method.cls x.catchType) rfl
  have al : s.vm.Alike (s.vm.noted f.method.cls x.catchType (.cls c)) := (Vm.Alike.refl s.vm).noted _ _ _
  obtain ⟨k1, hk1⟩ := hk
  obtain ⟨k2, hk2⟩ := hc
  obtain ⟨j1, hj1, -⟩ := al.2.2 _ _ hk1
  obtain ⟨j2, hj2, -⟩ := al.2.2 _ _ hk2
  cases hf : s.vm.assignable cell.cls c with
  | true =>
    have hf2 : (s.vm.noted f.method.cls x.catchType (.cls c)).assignable cell.cls c = true := by rw [al.assignable]; exact hf
    simp [findHandler.go, hx, h0, r1, r2, hcell, hobj, hj1, hj2, hf2, VmOp.dirties, VmOp.acts]
  | false =>
    have hf2 : (s.vm.noted f.method.cls x.catchType (.cls c)).assignable cell.cls c = false := by rw [al.assignable]; exact hf
    simp [findHandler.go, hx, h0, r1, r2, hcell, hobj, hj1, hj2, hf2, VmOp.dirties, VmOp.acts]
/-- the search down a table, as far as the row x that takes the object -/
theorem xg_find {e : Env} {s0 : State} {f : JFrame} {a : Addr} {cell : Cell} (hobj : ∀ k, cell.vm ≠ .statics k) (hk0 : ∃ k, s0.vm.classes[cell.cls]? = some k) (x : ExceptionTableEntry) (suf : List ExceptionTableEntry) (hx : covers x f.pc = true) (h0 : x.catchType ≠ 0)
    {c : ClassId} (hl : s0.vm.ClassLinks e.platform f.method.cls x.catchType c) (hfit : s0.vm.assignable cell.cls c = true) :
    ∀ (pre : List ExceptionTableEntry) (S : State), s0.WarmedH S.vm → S.heap[a]? = some cell → (∀ z ∈ pre, covers z f.pc = false ∨ (z.catchType ≠ 0 ∧ ∃ b, s0.vm.ClassLinks e.platform f.method.cls z.catchType b ∧ s0.vm.assignable cell.cls b = false)) →
      ∃ vm', s0.WarmedH vm' ∧ ∀ (Q : Handler → Pre) (E : CtlPost) (d : Bool) (acts : List Action), wp (findHandler.go f a (pre ++ x :: suf)) Q E e d acts S ↔ Q (.found x.handlerPc) d acts (S.setVm vm') := by
  obtain ⟨k0, hk0⟩ := hk0
  have note : ∀ {S : State} {z : ExceptionTableEntry} {b : ClassId}, s0.WarmedH S.vm → s0.vm.ClassLinks e.platform f.method.cls z.catchType b → s0.WarmedH (S.vm.noted f.method.cls z.catchType (.cls b)) ∧ ∃ k, S.vm.classes[b]? = some k := by
    intro S z b hW hz
    obtain ⟨dk, _, _, kt, hd, _, _, _, _, hkt, _, hopen⟩ := hz.here
    obtain ⟨kt', hkt', -⟩ := hW.alike.2.2 _ _ hkt
    exact ⟨hW.noted hd hopen (State.rightAt_cls hz), kt', hkt'⟩
  intro pre
  induction pre with
  | nil =>
    intro S hW hcell _
    obtain ⟨k1, hk1, -⟩ := hW.alike.2.2 _ _ hk0
    obtain ⟨n1, n2⟩ := note hW hl
    refine ⟨_, n1, fun Q E d acts => ?_⟩
    rw [List.nil_append, xg_row hx h0 (hW.classLinks hl) hcell hobj ⟨k1, hk1⟩ n2, if_pos (by rw [hW.alike.assignable]; exact hfit)]
  | cons z zs ih =>
    intro S hW hcell hpre
    obtain ⟨k1, hk1, -⟩ := hW.alike.2.2 _ _ hk0
    have hzs := fun y hy => hpre y (List.mem_cons_of_mem _ hy)
    cases hz : covers z f.pc with
    | false =>
      obtain ⟨vm', w1, w2⟩ := ih S hW hcell hzs
      exact ⟨vm', w1, fun Q E d acts => by rw [List.cons_append, W.findHandler_go_skip hz]; exact w2 Q E d acts⟩
    | true =>
      rcases hpre z List.mem_cons_self with h | ⟨z0, b, hb, hno⟩
      · rw [hz] at h; cases h
      · obtain ⟨n1, n2⟩ := note hW hb
        obtain ⟨vm', w1, w2⟩ := ih (S.setVm (S.vm.noted f.method.cls z.catchType (.cls b))) n1 hcell hzs
        refine ⟨vm', w1, fun Q E d acts => ?_⟩
        rw [List.cons_append, xg_row hz z0 (hW.classLinks hb) hcell hobj ⟨k1, hk1⟩ n2, if_neg (by rw [hW.alike.assignable, hno]; decide)]
        exact w2 Q E d acts
variable {p : Program} {l : Launch} {e : Env} {R : Room} {s : State} {m : MethodId} {args : Array Value} {below : List Frame} {meth : Method} {c : Code} {H : Heap} {locs : List Loc} {cells slots : Nat} {Q : State → Prop} {pc : Nat} {ls : Array Slot} {rest : List Value}
/-- caught by the row x of the method's own table -/
theorem xg_catch {own name : String} {E : String} {ce : Cell} {q : Addr} (hown : s.vm.findClass own = some m.cls) (pre : List ExceptionTableEntry) (x : ExceptionTableEntry) (suf : List ExceptionTableEntry) (hsplit : c.exceptionTable.toList = pre ++ x :: suf)
    (hpass : ∀ z ∈ pre, covers z pc = false ∨ (z.catchType ≠ 0 ∧ ∃ nm : String, (Cond.classLink own z.catchType nm).before args s = true ∧ va_Nc E nm s)) (hx : covers x pc = true) (h0 : x.catchType ≠ 0)
    (hlink : (Cond.classLink own x.catchType name).before args s = true) (hcast : (Cond.castable E name).before args s = true) (hcell : H[q]? = some ce) (hv : ce.vm = .none) (hcl : s.vm.findClass E = some ce.cls)
    (kk : W p l e R s m args below meth c H locs cells slots Q (F0 m x.handlerPc ls [.ref q])) : vx_W p l e R s m args below meth c H locs cells slots Q (F0 m pc ls rest) q := by
  intro T hT X
  have hpl : e.platform.magicAccessors = ({} : Platform).magicAccessors := by rw [X.admits.platform]
  obtain ⟨c3, c4, hc3, hc4, hasg⟩ := Cond.castable_spec hcast
  cases Option.some.inj (hc3.symm.trans hcl)
  obtain ⟨c5, hc5, hcl5⟩ := Cond.classLink_spec hown hlink e.platform hpl
  cases Option.some.inj (hc4.symm.trans hc5)
  obtain ⟨k9, h9, -⟩ := Vm.findClass_spec hcl
  have hobj : ∀ k, ce.vm ≠ .statics k := fun k h => by rw [hv] at h; cases h
  obtain ⟨vm', w1, w2⟩ := xg_find (e := e) (f := F0 m pc ls rest) (a := q) hobj ⟨k9, h9⟩ x suf hx h0 hcl5 hasg pre ((T.setTop (F0 m pc ls rest)).pushFrame (.throwing q)) X.warmed (by rw [throwing_heap, hT]; exact hcell) (fun z hz => by
    rcases hpass z hz with h | ⟨hz0, nm, hl1, hn1⟩
    · exact Or.inl h
    · obtain ⟨c6, hc6, hcl6⟩ := Cond.classLink_spec hown hl1 e.platform hpl
      obtain ⟨a8, b8, h1, h2, h3⟩ := hn1
      cases Option.some.inj (h1.symm.trans hcl)
      cases Option.some.inj (h2.symm.trans hc6)
      exact Or.inr ⟨hz0, _, hcl6, h3⟩)
  have X' := X.noted w1
  obtain ⟨t, a1, b1⟩ := kk (T.setVm vm') hT X'
  refine ⟨t, ?_, b1⟩
  have h : At T (F0 m pc ls rest).method c below := X.here
  obtain ⟨hgo, hw⟩ := h.throwing q
  refine Steps.head hgo hw ?_
  have st : (stepThrowing e ((T.setTop (F0 m pc ls rest)).pushFrame (.throwing q)) q (.java (F0 m pc ls rest) :: (T.frames.tail))).Is ((((T.setTop (F0 m pc ls rest)).pushFrame (.throwing q)).setVm vm').setFrames (.java { (F0 m pc ls rest) with pc := x.handlerPc, stack := [.ref q] } :: T.frames.tail)) [] := by
    simp only [stepThrowing, searchFrame, vmDo]
    generalize hr : Sem.go _ e false [] ((T.setTop (F0 m pc ls rest)).pushFrame (.throwing q)) = res
    obtain ⟨as, rfl, ha⟩ := Sem.eq_ok_of hr (a := Handler.found x.handlerPc) (s' := ((T.setTop (F0 m pc ls rest)).pushFrame (.throwing q)).setVm vm') (acts' := []) (by
      have key : wp (findHandler (F0 m pc ls rest) q) (fun a' _ acts'' s'' => a' = Handler.found x.handlerPc ∧ s'' = ((T.setTop (F0 m pc ls rest)).pushFrame (.throwing q)).setVm vm') (fun _ _ _ => False) e false [] ((T.setTop (F0 m pc ls rest)).pushFrame (.throwing q)) := by
        rw [W.findHandler_eq (meth := meth) (code := c) X.method' X.code, hsplit, w2]
        exact ⟨rfl, rfl⟩
      simp [W.findHandler_eq (meth := meth) (code := c) (f := F0 m pc ls rest) (s := (T.setTop (F0 m pc ls rest)).pushFrame (.throwing q)) X.method' X.code, hsplit, w2])
    exact ⟨rfl, ha⟩
  rw [stepThread_throwing (frames_entered h.top _)]
  obtain ⟨g₀, hg⟩ := Option.isSome_iff_exists.mp h.top
  obtain ⟨r, hr⟩ := State.topJava?_eq_some.mp hg
  have hr' : (T.setVm vm').frames = .java g₀ :: r := hr
  rw [State.setTop_of_frames _ hr'] at a1
  rw [st.1]
  have e9 : ∀ (u : State) (F G : List Frame), ((u.setFrames F).setVm vm').setFrames G = (u.setVm vm').setFrames G := fun u F G => by
    rw [show (u.setFrames F).setVm vm' = (u.setVm vm').setFrames F from rfl, State.setFrames_setFrames]
  rw [hr, List.tail_cons, State.pushFrame, State.setTop_of_frames _ hr, State.setFrames_setFrames, e9]
  exact a1
end XCA
end
section
/-! A small machine of its own: one heap of numbered cells, frames as lists; no tables, no states. A run of it is a function that can be computed. -/
abbrev xL : Type := List (Nat × Value)
/-- a cell: an array (element type, length and contents), an object (class number, fields), or something of which nothing is said -/
abbrev xC : Type := (FieldType × vp_A) ⊕ Option (Nat × List Value)
/-- cells made, slots made, the cells -/
abbrev xS : Type := Nat × Nat × List (List xC)
/-- an outcome: an answer, or the kind of what was thrown -/
abbrev xO : Type := Option Value ⊕ Nat
/-- two numbers, a constant, the place of its first word -/
abbrev xP : Type := Nat × Nat × Int × Nat
/-- an instruction, its length, what its pool entry is -/
abbrev xI : Type := Instr × Nat × xP
/-- pc, locals, stack, heap -/
abbrev xF : Type := Nat × xL × List Value × xS
def xget (h : List (List xC)) (k : Nat) : Option xC := (h.getD (k / 48) [])[k % 48]?
def xset (h : List (List xC)) (k : Nat) (c : xC) : List (List xC) := h.set (k / 48) ((h.getD (k / 48) []).set (k % 48) c)
theorem xget_set_self {h : List (List xC)} {k : Nat} {c0 c : xC} (hk : xget h k = some c0) : xget (xset h k c) k = some c := by
  unfold xget at hk
  unfold xget xset
  have hl : k / 48 < h.length := by
    rcases Nat.lt_or_ge (k / 48) h.length with q | q
    · exact q
    · rw [List.getD_eq_getElem?_getD, List.getElem?_eq_none q] at hk
      simp at hk
  rw [List.getD_eq_getElem?_getD (l := h.set _ _), List.getElem?_set_self hl, Option.getD_some]
  exact List.getElem?_set_self (List.getElem?_eq_some_iff.mp hk).1
theorem xget_set_ne {h : List (List xC)} {k j : Nat} {c : xC} (hj : j ≠ k) : xget (xset h k c) j = xget h j := by
  unfold xget xset
  by_cases hq : j / 48 = k / 48
  · have hr : k % 48 ≠ j % 48 := by omega
    rw [hq]
    rcases Nat.lt_or_ge (k / 48) h.length with q | q
    · rw [List.getD_eq_getElem?_getD (l := h.set _ _), List.getElem?_set_self q, Option.getD_some, List.getElem?_set_ne hr]
    · rw [List.set_eq_of_length_le q]
  · simp only [List.getD_eq_getElem?_getD]
    rw [List.getElem?_set_ne (fun q => hq q.symm)]
/-- one more cell of w slots -/
def xnew (S : xS) (c : xC) (w : Nat) : Option xS := match xget S.2.2 S.1 with
  | some _ => some (S.1 + 1, S.2.1 + w, xset S.2.2 S.1 c)
  | none => none
def xput (S : xS) (k : Nat) (c : xC) : xS := (S.1, S.2.1, xset S.2.2 k c)
def xat (S : xS) (k : Nat) : Option xC := if k < S.1 then xget S.2.2 k else none
def xfind : xL → Nat → Option Value
  | [], _ => none
  | (j, v) :: l, i => if j = i then some v else xfind l i
def xsto1 (l : xL) (i : Nat) (v : Value) : xL := (i, v) :: l.filter (fun q => !(q.1 == i) && !(q.1 + 1 == i && q.2.category == 2))
def xsto2 (l : xL) (i : Nat) (v : Value) : xL := (i, v) :: l.filter (fun q => !(q.1 == i) && (!(q.1 == i + 1) && !(q.1 + 1 == i && q.2.category == 2)))
def xtg (pc : Nat) (off : Int) : Option Nat := if 0 ≤ (pc : Int) + off then some ((pc : Int) + off).toNat else none
def xin (i : Int32) (n : Nat) : Bool := !(decide (i < 0)) && decide (i.toNatClampNeg < n)
def xcmp : ClassFile.Cond → Int32 → Int32 → Bool
  | .eq, x, y => decide (x = y)
  | .ne, x, y => !decide (x = y)
  | .lt, x, y => decide (x < y)
  | .ge, x, y => decide (y ≤ x)
  | .gt, x, y => decide (y < x)
  | .le, x, y => decide (x ≤ y)
def xii (st : List Value) (f : Int32 → Int32 → Option Int32) : Option (List Value) := match st with
  | .int y :: .int x :: r => (f x y).map fun z => .int z :: r
  | _ => none
def xll (st : List Value) (f : Int64 → Int64 → Value) : Option (List Value) := match st with
  | .long y :: .long x :: r => some (f x y :: r)
  | _ => none
def xli (st : List Value) (f : Int64 → Int32 → Value) : Option (List Value) := match st with
  | .int y :: .long x :: r => some (f x y :: r)
  | _ => none
def xi1 (st : List Value) (f : Int32 → Value) : Option (List Value) := match st with
  | .int x :: r => some (f x :: r)
  | _ => none
def xl1 (st : List Value) (f : Int64 → Value) : Option (List Value) := match st with
  | .long x :: r => some (f x :: r)
  | _ => none
def xldI (l : xL) (i : Nat) : Option Value := match xfind l i with
  | some (.int x) => some (.int x)
  | _ => none
def xldL (l : xL) (i : Nat) : Option Value := match xfind l i with
  | some (.long x) => some (.long x)
  | _ => none
def xldA (l : xL) (i : Nat) : Option Value := match xfind l i with
  | some (.ref x) => some (.ref x)
  | some .null => some .null
  | _ => none
def xstI (l : xL) (nL i : Nat) (st : List Value) : Option (xL × List Value) := match st with
  | .int x :: r => if i < nL then some (xsto1 l i (.int x), r) else none
  | _ => none
def xstL (l : xL) (nL i : Nat) (st : List Value) : Option (xL × List Value) := match st with
  | .long x :: r => if i + 1 < nL then some (xsto2 l i (.long x), r) else none
  | _ => none
def xstA (l : xL) (nL i : Nat) (st : List Value) : Option (xL × List Value) := match st with
  | .ref x :: r => if i < nL then some (xsto1 l i (.ref x), r) else none
  | .null :: r => if i < nL then some (xsto1 l i .null, r) else none
  | _ => none
def xif (c : ClassFile.Cond) (pc : Nat) (off : Int) (st : List Value) : Option (Nat × List Value) := match st with
  | .int x :: r => (xtg pc off).map fun t => (bif xcmp c x 0 then t else pc + 3, r)
  | _ => none
def xicmp (c : ClassFile.Cond) (pc : Nat) (off : Int) (st : List Value) : Option (Nat × List Value) := match st with
  | .int y :: .int x :: r => (xtg pc off).map fun t => (bif xcmp c x y then t else pc + 3, r)
  | _ => none
def xnul (onNull : Bool) (pc : Nat) (off : Int) (st : List Value) : Option (Nat × List Value) := match st with
  | .null :: r => (xtg pc off).map fun t => (bif onNull then t else pc + 3, r)
  | .ref _ :: r => (xtg pc off).map fun t => (bif onNull then pc + 3 else t, r)
  | _ => none
def xtab (d lo hi : Int) (offs : Array Int) (pc : Nat) (st : List Value) : Option (Nat × List Value) := match st with
  | .int x :: r => if x.toInt < lo ∨ hi < x.toInt then (xtg pc d).map fun t => (t, r) else
    match offs[(x.toInt - lo).toNat]? with
    | some off => (xtg pc off).map fun t => (t, r)
    | none => none
  | _ => none
def xlook (d : Int) (ps : Array (Int × Int)) (pc : Nat) (st : List Value) : Option (Nat × List Value) := match st with
  | .int x :: r => if (ps.toList.zip (ps.toList.drop 1)).all (fun (a, next) => a.1 < next.1) = true then (xtg pc (Op.lookupswitch.offset ps.toList d x.toInt)).map fun t => (t, r) else none
  | _ => none
/-- reads of arrays -/
def xiald (S : xS) (st : List Value) : Option (List Value) := match st with
  | .int i :: .ref a :: r => match xat S a with
    | some (.inl (.int, n, .inl f)) => if xin i n then some (.int (f i.toNatClampNeg) :: r) else none
    | _ => none
  | _ => none
def xzald (S : xS) (st : List Value) : Option (List Value) := match st with
  | .int i :: .ref a :: r => match xat S a with
    | some (.inl (.boolean, n, .inl f)) => if xin i n then some (.int (f i.toNatClampNeg) :: r) else none
    | _ => none
  | _ => none
def xlald (S : xS) (st : List Value) : Option (List Value) := match st with
  | .int i :: .ref a :: r => match xat S a with
    | some (.inl (.long, n, .inr (.inl f))) => if xin i n then some (.long (f i.toNatClampNeg) :: r) else none
    | _ => none
  | _ => none
def xaald (S : xS) (st : List Value) : Option (List Value) := match st with
  | .int i :: .ref a :: r => match xat S a with
    | some (.inl (.object _, n, .inr (.inr (.inr (.inr f))))) => if xin i n then some (va_rf (f i.toNatClampNeg) :: r) else none
    | _ => none
  | _ => none
def xlen (S : xS) (st : List Value) : Option (List Value) := match st with
  | .ref a :: r => match xat S a with
    | some (.inl (_, x)) => some (.int (Int32.ofNat x.1) :: r)
    | _ => none
  | _ => none
/-- writes of arrays -/
def xiast (S : xS) (st : List Value) : Option (List Value × xS) := match st with
  | .int x :: .int i :: .ref a :: r => match xat S a with
    | some (.inl (.int, n, .inl f)) => if xin i n then some (r, xput S a (.inl (.int, n, .inl (upd f i.toNatClampNeg x)))) else none
    | _ => none
  | _ => none
def xzast (S : xS) (st : List Value) : Option (List Value × xS) := match st with
  | .int x :: .int i :: .ref a :: r => match xat S a with
    | some (.inl (.boolean, n, .inl f)) => if xin i n then some (r, xput S a (.inl (.boolean, n, .inl (upd f i.toNatClampNeg (vp_nar .boolean x))))) else none
    | _ => none
  | _ => none
def xlast (S : xS) (st : List Value) : Option (List Value × xS) := match st with
  | .long x :: .int i :: .ref a :: r => match xat S a with
    | some (.inl (.long, n, .inr (.inl f))) => if xin i n then some (r, xput S a (.inl (.long, n, .inr (.inl (vp_updL f i.toNatClampNeg x))))) else none
    | _ => none
  | _ => none
def xaast (cl : List vw_C) (S : xS) (st : List Value) : Option (List Value × xS) := match st with
  | .ref v :: .int i :: .ref a :: r => match xat S a, xat S v with
    | some (.inl (.object C, n, .inr (.inr (.inr (.inr f))))), some (.inr (some (ci, _))) =>
      if xin i n && decide ((cl[ci]?).map (fun q => q.1) = some C) then some (r, xput S a (.inl (.object C, n, .inr (.inr (.inr (.inr (va_up f i.toNatClampNeg (some v)))))))) else none
    | _, _ => none
  | _ => none
/-- a value may lie in a field of a type, and be an answer of it -/
def xfit (ty : FieldType) (v : Value) : Bool := match ty with
  | .int => (match v with
    | .int _ => true
    | _ => false)
  | .long => (match v with
    | .long _ => true
    | _ => false)
  | .boolean => (match v with
    | .int x => decide (x = 0) || decide (x = 1)
    | _ => false)
  | .object _ => (match v with
    | .ref _ => true
    | .null => true
    | _ => false)
  | .array _ => (match v with
    | .ref _ => true
    | .null => true
    | _ => false)
  | _ => false
theorem xfit_ok {ty : FieldType} {v : Value} (h : xfit ty v = true) : narrow ty v = v ∧ fits ty v = true := by
  unfold xfit at h
  split at h
  · split at h
    · exact ⟨rfl, rfl⟩
    · cases h
  · split at h
    · exact ⟨rfl, rfl⟩
    · cases h
  · split at h
    · rename_i x
      simp only [Bool.or_eq_true, decide_eq_true_eq] at h
      rcases h with rfl | rfl
      · exact ⟨by decide +kernel, by decide +kernel⟩
      · exact ⟨by decide +kernel, by decide +kernel⟩
    · cases h
  · split at h
    · exact ⟨rfl, rfl⟩
    · exact ⟨rfl, rfl⟩
    · cases h
  · split at h
    · exact ⟨rfl, rfl⟩
    · exact ⟨rfl, rfl⟩
    · cases h
  · cases h
/-- fields -/
def xgetf (S : xS) (ci k : Nat) (st : List Value) : Option (List Value) := match st with
  | .ref a :: r => match xat S a with
    | some (.inr (some (cj, fs))) => if cj = ci then (fs[k]?).map fun v => v :: r else none
    | _ => none
  | _ => none
def xputf (S : xS) (ci k : Nat) (ty : FieldType) (st : List Value) : Option (List Value × xS) := match st with
  | v :: .ref a :: r => match xat S a with
    | some (.inr (some (cj, fs))) => if cj = ci ∧ k < fs.length ∧ xfit ty v = true then some (r, xput S a (.inr (some (ci, fs.set k v)))) else none
    | _ => none
  | _ => none
/-- makings -/
def xnewa (S : xS) (at0 : ArrayType) (st : List Value) : Option (List Value × xS) := match st with
  | .int n :: r => if n < 0 ∨ 65536 < n.toNatClampNeg then none else
    match at0 with
    | .int => (xnew S (.inl (.int, n.toNatClampNeg, .inl fun _ => 0)) n.toNatClampNeg).map fun S' => (.ref S.1 :: r, S')
    | .boolean => (xnew S (.inl (.boolean, n.toNatClampNeg, .inl fun _ => 0)) n.toNatClampNeg).map fun S' => (.ref S.1 :: r, S')
    | .long => (xnew S (.inl (.long, n.toNatClampNeg, .inr (.inl fun _ => 0))) n.toNatClampNeg).map fun S' => (.ref S.1 :: r, S')
    | _ => none
  | _ => none
def xnewq (S : xS) (C : String) (st : List Value) : Option (List Value × xS) := match st with
  | .int n :: r => if n < 0 ∨ 65536 < n.toNatClampNeg then none else (xnew S (.inl (.object C, n.toNatClampNeg, .inr (.inr (.inr (.inr fun _ => none))))) n.toNatClampNeg).map fun S' => (.ref S.1 :: r, S')
  | _ => none
def xcpy (S : xS) (st : List Value) : Option (List Value × xS) := match st with
  | .int n :: .int dp :: .ref a :: .int sp :: .ref a0 :: r => match xat S a0, xat S a with
    | some (.inl (.int, n0, .inl f)), some (.inl (.int, n1, .inl g)) =>
      if sp < 0 ∨ dp < 0 ∨ n < 0 then none else
      if sp.toNatClampNeg + n.toNatClampNeg ≤ n0 ∧ dp.toNatClampNeg + n.toNatClampNeg ≤ n1 then some (r, xput S a (.inl (.int, n1, .inl (va_cpy f g sp.toNatClampNeg dp.toNatClampNeg n.toNatClampNeg)))) else none
    | _, _ => none
  | _ => none
def xlenOf (i : Instr) (len : Nat) : Nat := match i with
  | .tableswitch _ _ _ _ => len
  | .lookupswitch _ _ => len
  | .aload _ => 2
  | .iload _ => 2
  | .lload _ => 2
  | .astore _ => 2
  | .istore _ => 2
  | .lstore _ => 2
  | .bipush _ => 2
  | .ldc _ => 2
  | .newarray _ => 2
  | .iinc _ _ => 3
  | .sipush _ => 3
  | .ldc_w _ => 3
  | .ldc2_w _ => 3
  | .goto _ => 3
  | .if_icmp _ _ => 3
  | .ifCond _ _ => 3
  | .ifnull _ => 3
  | .ifnonnull _ => 3
  | .getfield _ => 3
  | .putfield _ => 3
  | .new _ => 3
  | .anewarray _ => 3
  | .invokestatic _ => 3
  | .invokevirtual _ => 3
  | .invokespecial _ => 3
  | _ => 1
/-- the numbers of the methods that are no code of ours -/
abbrev xObj : Nat := 1000
abbrev xMax : Nat := 1001
abbrev xMin : Nat := 1002
abbrev xCopy : Nat := 1003
def xw (st : List Value) : Nat := (st.map fun v => v.category).sum
def xsp (k : Nat) (st : List Value) (S : xS) : Option (List Value × xS) :=
  if 16 < xw st then none
  else if k = xObj then (match st with
    | .ref _ :: r => some (r, S)
    | _ => none)
  else if k = xMax then (xii st fun x y => some (if x < y then y else x)).map fun t => (t, S)
  else if k = xMin then (xii st fun x y => some (if y < x then y else x)).map fun t => (t, S)
  else if k = xCopy then xcpy S st
  else none
/-- one step of an instruction that calls no method of ours and doesn't end -/
def xst (cl : List vw_C) (fty : Nat → Nat → FieldType) (fdef : Nat → List Value) (nL : Nat) (xi : xI) (pc : Nat) (ls : xL) (st : List Value) (S : xS) : Option xF := match xi.1 with
  | .aconst_null => some (pc + 1, ls, .null :: st, S)
  | .aload i => (xldA ls i).map fun v => (pc + 2, ls, v :: st, S)
  | .aload_n i => (xldA ls i.val).map fun v => (pc + 1, ls, v :: st, S)
  | .iload i => (xldI ls i).map fun v => (pc + 2, ls, v :: st, S)
  | .iload_n i => (xldI ls i.val).map fun v => (pc + 1, ls, v :: st, S)
  | .lload i => (xldL ls i).map fun v => (pc + 2, ls, v :: st, S)
  | .lload_n i => (xldL ls i.val).map fun v => (pc + 1, ls, v :: st, S)
  | .astore i => (xstA ls nL i st).map fun q => (pc + 2, q.1, q.2, S)
  | .astore_n i => (xstA ls nL i.val st).map fun q => (pc + 1, q.1, q.2, S)
  | .istore i => (xstI ls nL i st).map fun q => (pc + 2, q.1, q.2, S)
  | .istore_n i => (xstI ls nL i.val st).map fun q => (pc + 1, q.1, q.2, S)
  | .lstore i => (xstL ls nL i st).map fun q => (pc + 2, q.1, q.2, S)
  | .lstore_n i => (xstL ls nL i.val st).map fun q => (pc + 1, q.1, q.2, S)
  | .iinc i n => (match xfind ls i with
    | some (.int x) => if i < nL then some (pc + 3, xsto1 ls i (.int (x + Int32.ofInt n)), st, S) else none
    | _ => none)
  | .iconst n => some (pc + 1, ls, .int (Int32.ofInt n) :: st, S)
  | .bipush n => some (pc + 2, ls, .int (Int8.ofInt n).toInt32 :: st, S)
  | .sipush n => some (pc + 3, ls, .int (Int16.ofInt n).toInt32 :: st, S)
  | .lconst n => some (pc + 1, ls, .long (Int64.ofNat n.val) :: st, S)
  | .ldc _ => some (pc + 2, ls, .int (Int32.ofInt xi.2.2.2.2.1) :: st, S)
  | .ldc_w _ => some (pc + 3, ls, .int (Int32.ofInt xi.2.2.2.2.1) :: st, S)
  | .ldc2_w _ => some (pc + 3, ls, .long (Int64.ofInt xi.2.2.2.2.1) :: st, S)
  | .iadd => (xii st fun x y => some (x + y)).map fun t => (pc + 1, ls, t, S)
  | .isub => (xii st fun x y => some (x - y)).map fun t => (pc + 1, ls, t, S)
  | .imul => (xii st fun x y => some (x * y)).map fun t => (pc + 1, ls, t, S)
  | .iand => (xii st fun x y => some (x &&& y)).map fun t => (pc + 1, ls, t, S)
  | .ior => (xii st fun x y => some (x ||| y)).map fun t => (pc + 1, ls, t, S)
  | .ixor => (xii st fun x y => some (x ^^^ y)).map fun t => (pc + 1, ls, t, S)
  | .ishl => (xii st fun x y => some (x <<< (y &&& 31))).map fun t => (pc + 1, ls, t, S)
  | .ishr => (xii st fun x y => some (x >>> (y &&& 31))).map fun t => (pc + 1, ls, t, S)
  | .iushr => (xii st fun x y => some (x.toUInt32 >>> (y.toUInt32 &&& Int32.toUInt32 31)).toInt32).map fun t => (pc + 1, ls, t, S)
  | .idiv => (xii st fun x y => if y = 0 then none else some (x / y)).map fun t => (pc + 1, ls, t, S)
  | .irem => (xii st fun x y => if y = 0 then none else some (x - x / y * y)).map fun t => (pc + 1, ls, t, S)
  | .ineg => (xi1 st fun x => .int (-x)).map fun t => (pc + 1, ls, t, S)
  | .i2l => (xi1 st fun x => .long x.toInt64).map fun t => (pc + 1, ls, t, S)
  | .l2i => (xl1 st fun x => .int x.toInt32).map fun t => (pc + 1, ls, t, S)
  | .land => (xll st fun x y => .long (x &&& y)).map fun t => (pc + 1, ls, t, S)
  | .lor => (xll st fun x y => .long (x ||| y)).map fun t => (pc + 1, ls, t, S)
  | .lxor => (xll st fun x y => .long (x ^^^ y)).map fun t => (pc + 1, ls, t, S)
  | .lmul => (xll st fun x y => .long (x * y)).map fun t => (pc + 1, ls, t, S)
  | .lcmp => (xll st fun x y => .int (lg_cmp x y)).map fun t => (pc + 1, ls, t, S)
  | .lshl => (xli st fun x y => .long (x <<< (y.toInt64 &&& 63))).map fun t => (pc + 1, ls, t, S)
  | .lshr => (xli st fun x y => .long (x >>> (y.toInt64 &&& 63))).map fun t => (pc + 1, ls, t, S)
  | .lushr => (xli st fun x y => .long (x.toUInt64 >>> (y.toInt64.toUInt64 &&& Int64.toUInt64 63)).toInt64).map fun t => (pc + 1, ls, t, S)
  | .dup => (match st with
    | v :: r => if v.category = 1 then some (pc + 1, ls, v :: v :: r, S) else none
    | _ => none)
  | .dup2 => (match st with
    | v :: w :: r => if v.category = 1 ∧ w.category = 1 then some (pc + 1, ls, v :: w :: v :: w :: r, S) else none
    | _ => none)
  | .goto off => (xtg pc off).map fun t => (t, ls, st, S)
  | .ifCond c off => (xif c pc off st).map fun q => (q.1, ls, q.2, S)
  | .if_icmp c off => (xicmp c pc off st).map fun q => (q.1, ls, q.2, S)
  | .ifnull off => (xnul true pc off st).map fun q => (q.1, ls, q.2, S)
  | .ifnonnull off => (xnul false pc off st).map fun q => (q.1, ls, q.2, S)
  | .tableswitch d lo hi offs => (xtab d lo hi offs pc st).map fun q => (q.1, ls, q.2, S)
  | .lookupswitch d ps => (xlook d ps pc st).map fun q => (q.1, ls, q.2, S)
  | .iaload => (xiald S st).map fun t => (pc + 1, ls, t, S)
  | .baload => (xzald S st).map fun t => (pc + 1, ls, t, S)
  | .laload => (xlald S st).map fun t => (pc + 1, ls, t, S)
  | .aaload => (xaald S st).map fun t => (pc + 1, ls, t, S)
  | .arraylength => (xlen S st).map fun t => (pc + 1, ls, t, S)
  | .iastore => (xiast S st).map fun q => (pc + 1, ls, q.1, q.2)
  | .bastore => (xzast S st).map fun q => (pc + 1, ls, q.1, q.2)
  | .lastore => (xlast S st).map fun q => (pc + 1, ls, q.1, q.2)
  | .aastore => (xaast cl S st).map fun q => (pc + 1, ls, q.1, q.2)
  | .getfield _ => (xgetf S xi.2.2.1 xi.2.2.2.1 st).map fun t => (pc + 3, ls, t, S)
  | .putfield _ => (xputf S xi.2.2.1 xi.2.2.2.1 (fty xi.2.2.1 xi.2.2.2.1) st).map fun q => (pc + 3, ls, q.1, q.2)
  | .newarray a => (xnewa S a st).map fun q => (pc + 2, ls, q.1, q.2)
  | .anewarray _ => (match cl[xi.2.2.1]? with
    | some q => (xnewq S q.1 st).map fun q => (pc + 3, ls, q.1, q.2)
    | none => none)
  | .new _ => (match cl[xi.2.2.1]? with
    | some q => (xnew S (.inr (some (xi.2.2.1, fdef xi.2.2.1))) q.2.2).map fun S' => (pc + 3, ls, .ref S.1 :: st, S')
    | none => none)
  | .invokestatic _ => if xi.2.2.1 = xObj then none else (xsp xi.2.2.1 st S).map fun q => (pc + 3, ls, q.1, q.2)
  | .invokespecial _ => if xi.2.2.1 = xObj then (xsp xObj st S).map fun q => (pc + 3, ls, q.1, q.2) else none
  | _ => none
end
section
/-! The small machine's heap as the real one's: cell k lies at bs + k. -/
def cv (bs : Nat) : Value → Value
  | .ref k => .ref (bs + k)
  | v => v
theorem cv_cat (bs : Nat) (v : Value) : (cv bs v).category = v.category := by cases v <;> rfl
def ca (bs : Nat) (a : vp_A) : vp_A := (a.1, match a.2 with
  | .inr (.inr (.inr (.inr f))) => .inr (.inr (.inr (.inr fun i => (f i).map fun k => bs + k)))
  | g => g)
theorem cv_rf (bs : Nat) (r : Option Nat) : cv bs (va_rf r) = va_rf (r.map fun k => bs + k) := by cases r <;> rfl
theorem cv_narrow {bs : Nat} {ty : FieldType} {v : Value} (h : narrow ty v = v) : narrow ty (cv bs v) = cv bs v := by
  cases v <;> cases ty <;> first | rfl | exact h
theorem cv_fits {bs : Nat} {ty : FieldType} {v : Value} (h : fits ty v = true) : fits ty (cv bs v) = true := by
  cases v <;> cases ty <;> first | rfl | exact h
def xcat (D : va_G) (cl : List vw_C) (cT : FieldType → ClassId) (s : State) (bs a : Nat) (c : xC) (H : Heap) : Prop := match c with
  | .inl q => H[a]? = some (vp_cell (cT q.1) (ca bs q.2)) ∧ ArrOfT s (cT q.1) q.1 ∧ va_RA s (cT q.1) q.1
  | .inr (some o) => va_at D cl (a, .inr (o.1, o.2.map (cv bs))) H
  | .inr none => True
theorem xcat.kept {D : va_G} {cl : List vw_C} {cT : FieldType → ClassId} {s : State} {bs a : Nat} {c : xC} {H H1 : Heap} (h : xcat D cl cT s bs a c H) (hq : H1[a]? = H[a]?) : xcat D cl cT s bs a c H1 := by
  rcases c with q | (_ | o)
  · exact ⟨hq.trans h.1, h.2⟩
  · trivial
  · exact va_at.kept (q := (a, .inr (o.1, o.2.map (cv bs)))) h hq
theorem xcat.moved {D : va_G} {cl : List vw_C} {cT : FieldType → ClassId} {s U : State} (hvm : s.vm.Alike U.vm) {bs a : Nat} {c : xC} {H : Heap} (h : xcat D cl cT s bs a c H) : xcat D cl cT U bs a c H := by
  rcases c with q | (_ | o)
  · exact ⟨h.1, arrOfT_moved hvm h.2.1, h.2.2.moved hvm⟩
  · trivial
  · exact h
/-- the heap H holds the small machine's heap S -/
def xR (D : va_G) (cl : List vw_C) (cT : FieldType → ClassId) (s : State) (bs : Nat) (S : xS) (H : Heap) : Prop :=
  H.size = bs + S.1 ∧ va_K D cl [] s ∧ (∀ (ty : FieldType) (cA : ClassId), s.vm.findClass ("[" ++ ty.toString) = some cA → cA = cT ty) ∧ ∀ (k : Nat) (c : xC), xat S k = some c → xcat D cl cT s bs (bs + k) c H
theorem xR.moved {D : va_G} {cl : List vw_C} {cT : FieldType → ClassId} {s U : State} (hvm : s.vm.Alike U.vm) {bs : Nat} {S : xS} {H : Heap} (h : xR D cl cT s bs S H) : xR D cl cT U bs S H :=
  ⟨h.1, va_K.moved hvm h.2.1, fun ty cA q => h.2.2.1 ty cA (by rw [hvm.findClass] at q; exact q), fun k c hk => (h.2.2.2 k c hk).moved hvm⟩
theorem xat_lt {S : xS} {k : Nat} {c : xC} (h : xat S k = some c) : k < S.1 ∧ xget S.2.2 k = some c := by
  unfold xat at h
  split at h
  · exact ⟨by assumption, h⟩
  · cases h
theorem xat_put_self {S : xS} {k : Nat} {c0 c : xC} (h : xat S k = some c0) : xat (xput S k c) k = some c := by
  obtain ⟨h1, h2⟩ := xat_lt h
  unfold xat xput
  rw [if_pos h1]
  exact xget_set_self h2
theorem xat_put_ne {S : xS} {k j : Nat} {c : xC} (h : j ≠ k) : xat (xput S k c) j = xat S j := by
  unfold xat xput
  dsimp only
  rw [xget_set_ne h]
theorem xR.set {D : va_G} {cl : List vw_C} {cT : FieldType → ClassId} {s : State} {bs k : Nat} {S : xS} {H H1 : Heap} {c0 c : xC} (h : xR D cl cT s bs S H) (hk : xat S k = some c0) (z : H1.size = H.size) (oq : ∀ q : Nat, q ≠ bs + k → H1[q]? = H[q]?) (hc : xcat D cl cT s bs (bs + k) c H1) : xR D cl cT s bs (xput S k c) H1 := by
  refine ⟨z.trans h.1, h.2.1, h.2.2.1, fun j cj hj => ?_⟩
  by_cases e : j = k
  · subst e
    rw [xat_put_self hk] at hj
    cases hj
    exact hc
  · rw [xat_put_ne e] at hj
    exact (h.2.2.2 j cj hj).kept (oq _ (by omega))
theorem xnew_spec {S S' : xS} {c : xC} {w : Nat} (h : xnew S c w = some S') : S' = (S.1 + 1, S.2.1 + w, xset S.2.2 S.1 c) ∧ ∃ c0, xget S.2.2 S.1 = some c0 := by
  unfold xnew at h
  split at h
  · rename_i c0 hc0
    cases h
    exact ⟨rfl, c0, hc0⟩
  · cases h
theorem xR.new {D : va_G} {cl : List vw_C} {cT : FieldType → ClassId} {s : State} {bs w : Nat} {S S' : xS} {H H1 : Heap} {c : xC} (h : xR D cl cT s bs S H) (hn : xnew S c w = some S') (z : H1.size = H.size + 1) (oq : ∀ q : Nat, q < H.size → H1[q]? = H[q]?) (hc : xcat D cl cT s bs (bs + S.1) c H1) : xR D cl cT s bs S' H1 := by
  obtain ⟨rfl, c0, hc0⟩ := xnew_spec hn
  refine ⟨by rw [z, h.1]; rfl, h.2.1, h.2.2.1, fun j cj hj => ?_⟩
  obtain ⟨h1, h2⟩ := xat_lt hj
  dsimp only at h1 h2
  by_cases e : j = S.1
  · subst e
    rw [xget_set_self hc0] at h2
    cases h2
    exact hc
  · rw [xget_set_ne e] at h2
    have hlt : j < S.1 := by omega
    exact (h.2.2.2 j cj (by unfold xat; rw [if_pos hlt]; exact h2)).kept (oq _ (by rw [h.1]; omega))
theorem xin_in {i : Int32} {n : Nat} (h : xin i n = true) : vp_in i n := by
  unfold xin at h
  simp only [Bool.and_eq_true, Bool.not_eq_true', decide_eq_false_iff_not, decide_eq_true_eq] at h
  rintro (q | q)
  · exact h.1 q
  · omega
theorem xP1 {D : va_G} {cl : List vw_C} {q : Nat × va_E} {H : Heap} (h : va_at D cl q H) : va_P D cl [q] H := by
  intro k x hx
  have hz : k < 1 := (List.getElem?_eq_some_iff.mp hx).1
  rw [show k = 0 by omega] at hx
  cases hx
  exact h
theorem xK1 {D : va_G} {cl : List vw_C} {s : State} {cA : ClassId} {ty : FieldType} (h : va_K D cl [] s) (h1 : ArrOfT s cA ty) (h2 : va_RA s cA ty) : va_K D cl [(cA, ty)] s := by
  refine ⟨h.1, fun k x hx => ?_⟩
  have hz : k < 1 := (List.getElem?_eq_some_iff.mp hx).1
  rw [show k = 0 by omega] at hx
  cases hx
  exact ⟨h1, h2⟩
theorem xarr_get {α : Type} {cA : ClassId} {n k : Nat} {mk : α → Value} {f : Nat → α} {g : Nat → α} {x : α} (hg : ∀ j, g j = if j = k then x else f j) : (fun j => mk (g j)) = updV (fun j => mk (f j)) k (mk x) := by
  funext j
  by_cases hj : j = k
  · subst hj
    simp [updV, hg]
  · simp [updV, hg, hj]
section XW
variable {p : Program} {l : Launch} {e : Env} {R : Room} {s : State} {m : MethodId} {args : Array Value} {below : List Frame} {meth : Method} {c : Code} {H : Heap} {locs : List Loc} {cells slots : Nat} {Q : State → Prop}
variable {cc : ByteArray} {pc : Nat} {ls : Array Slot} {rest : List Value} {D : va_G} {cl : List vw_C} {cT : FieldType → ClassId} {bs : Nat} {S : xS} {H0 : Heap}
theorem xw_iald (hexec : p.tables.exec = Jvm.exec) (hb : c.code = cc) (hR : xR D cl cT s bs S H) {k n : Nat} {f : Nat → Int32} (hk : xat S k = some (.inl (.int, n, .inl f))) {i : Int32} (hin : xin i n = true) (hdg : decode cc pc = .ok (.iaload, 1))
    (kk : W p l e R s m args below meth c H locs cells slots Q (F0 m (pc + 1) ls (.int (f i.toNatClampNeg) :: rest))) : W p l e R s m args below meth c H locs cells slots Q (F0 m pc ls (.int i :: .ref (bs + k) :: rest)) := by
  obtain ⟨h1, h2, h3⟩ := hR.2.2.2 k _ hk
  exact va_iald (cA := cT .int) (n := n) (f := f) hexec hb (xK1 hR.2.1 h2 h3) (xP1 (q := (bs + k, .inl (cT .int, n, .inl f))) h1) 0 0 rfl rfl (xin_in hin) hdg kk
theorem xw_zald (hexec : p.tables.exec = Jvm.exec) (hb : c.code = cc) (hR : xR D cl cT s bs S H) {k n : Nat} {f : Nat → Int32} (hk : xat S k = some (.inl (.boolean, n, .inl f))) {i : Int32} (hin : xin i n = true) (hdg : decode cc pc = .ok (.baload, 1))
    (kk : W p l e R s m args below meth c H locs cells slots Q (F0 m (pc + 1) ls (.int (f i.toNatClampNeg) :: rest))) : W p l e R s m args below meth c H locs cells slots Q (F0 m pc ls (.int i :: .ref (bs + k) :: rest)) := by
  obtain ⟨h1, h2, h3⟩ := hR.2.2.2 k _ hk
  exact va_zald (cA := cT .boolean) (n := n) (f := f) hexec hb (xK1 hR.2.1 h2 h3) (xP1 (q := (bs + k, .inl (cT .boolean, n, .inl f))) h1) 0 0 rfl rfl (xin_in hin) hdg kk
theorem xw_lald (hexec : p.tables.exec = Jvm.exec) (hb : c.code = cc) (hR : xR D cl cT s bs S H) {k n : Nat} {f : Nat → Int64} (hk : xat S k = some (.inl (.long, n, .inr (.inl f)))) {i : Int32} (hin : xin i n = true) (hdg : decode cc pc = .ok (.laload, 1))
    (kk : W p l e R s m args below meth c H locs cells slots Q (F0 m (pc + 1) ls (.long (f i.toNatClampNeg) :: rest))) : W p l e R s m args below meth c H locs cells slots Q (F0 m pc ls (.int i :: .ref (bs + k) :: rest)) := by
  obtain ⟨h1, h2, h3⟩ := hR.2.2.2 k _ hk
  exact va_lald (cA := cT .long) (n := n) (f := f) hexec hb (xK1 hR.2.1 h2 h3) (xP1 (q := (bs + k, .inl (cT .long, n, .inr (.inl f)))) h1) 0 0 rfl rfl (xin_in hin) hdg kk
theorem xw_aald (hexec : p.tables.exec = Jvm.exec) (hb : c.code = cc) (hR : xR D cl cT s bs S H) {k n : Nat} {C : String} {f : Nat → Option Nat} (hk : xat S k = some (.inl (.object C, n, .inr (.inr (.inr (.inr f)))))) {i : Int32} (hin : xin i n = true) (hdg : decode cc pc = .ok (.aaload, 1))
    (kk : W p l e R s m args below meth c H locs cells slots Q (F0 m (pc + 1) ls (cv bs (va_rf (f i.toNatClampNeg)) :: rest))) : W p l e R s m args below meth c H locs cells slots Q (F0 m pc ls (.int i :: .ref (bs + k) :: rest)) := by
  obtain ⟨h1, h2, h3⟩ := hR.2.2.2 k _ hk
  refine va_aldq (cA := cT (.object C)) (C := C) (n := n) (f := fun i => (f i).map fun k => bs + k) hexec hb (xK1 hR.2.1 h2 h3) (xP1 (q := (bs + k, .inl (cT (.object C), n, .inr (.inr (.inr (.inr fun i => (f i).map fun k => bs + k)))))) h1) 0 0 rfl rfl (xin_in hin) hdg ?_
  rw [cv_rf] at kk
  exact kk
theorem xw_alen (hexec : p.tables.exec = Jvm.exec) (hb : c.code = cc) (hR : xR D cl cT s bs S H) {k : Nat} {ty : FieldType} {x : vp_A} (hk : xat S k = some (.inl (ty, x))) (hdg : decode cc pc = .ok (.arraylength, 1))
    (kk : W p l e R s m args below meth c H locs cells slots Q (F0 m (pc + 1) ls (.int (Int32.ofNat x.1) :: rest))) : W p l e R s m args below meth c H locs cells slots Q (F0 m pc ls (.ref (bs + k) :: rest)) := by
  obtain ⟨h1, h2, h3⟩ := hR.2.2.2 k _ hk
  exact va_alen (cA := cT ty) (x := ca bs x) (ty := ty) hexec hb (xK1 hR.2.1 h2 h3) (xP1 (q := (bs + k, .inl (cT ty, ca bs x))) h1) 0 0 rfl rfl rfl hdg kk
theorem xw_iast (hexec : p.tables.exec = Jvm.exec) (hb : c.code = cc) (hR : xR D cl cT s bs S H) (hS : va_S (fun q => bs ≤ q) H0 H locs) {k n : Nat} {f : Nat → Int32} (hk : xat S k = some (.inl (.int, n, .inl f))) {i x : Int32} (hin : xin i n = true) (hdg : decode cc pc = .ok (.iastore, 1))
    (kk : ∀ (H1 : Heap) (locs1 : List Loc), xR D cl cT s bs (xput S k (.inl (.int, n, .inl (upd f i.toNatClampNeg x)))) H1 → va_S (fun q => bs ≤ q) H0 H1 locs1 → W p l e R s m args below meth c H1 locs1 cells slots Q (F0 m (pc + 1) ls rest)) : W p l e R s m args below meth c H locs cells slots Q (F0 m pc ls (.int x :: .int i :: .ref (bs + k) :: rest)) := by
  obtain ⟨h1, h2, h3⟩ := hR.2.2.2 k _ hk
  refine W.iast hexec hb h1 (h2 n (fun j => .int (f j))) (fun q => by cases q) (by show ¬ (i < 0 ∨ (arrV _ _ _).slots.size ≤ _); rw [arrV_size]; exact xin_in hin) rfl rfl hdg fun H1 e z oq => ?_
  refine kk H1 _ (hR.set hk z oq ⟨?_, h2, h3⟩) (hS.put z oq (Nat.le_add_right _ _))
  rw [e]
  show some ((arrV _ n fun j => .int (f j)).setSlot _ _) = some (arrV _ n fun j => .int (upd f i.toNatClampNeg x j))
  rw [arrV_store]
  congr 2
  funext q
  by_cases hq : q = i.toNatClampNeg <;> simp [updV, upd, hq]
theorem xw_zast (hexec : p.tables.exec = Jvm.exec) (hb : c.code = cc) (hR : xR D cl cT s bs S H) (hS : va_S (fun q => bs ≤ q) H0 H locs) {k n : Nat} {f : Nat → Int32} (hk : xat S k = some (.inl (.boolean, n, .inl f))) {i x : Int32} (hin : xin i n = true) (hdg : decode cc pc = .ok (.bastore, 1))
    (kk : ∀ (H1 : Heap) (locs1 : List Loc), xR D cl cT s bs (xput S k (.inl (.boolean, n, .inl (upd f i.toNatClampNeg (vp_nar .boolean x))))) H1 → va_S (fun q => bs ≤ q) H0 H1 locs1 → W p l e R s m args below meth c H1 locs1 cells slots Q (F0 m (pc + 1) ls rest)) : W p l e R s m args below meth c H locs cells slots Q (F0 m pc ls (.int x :: .int i :: .ref (bs + k) :: rest)) := by
  obtain ⟨h1, h2, h3⟩ := hR.2.2.2 k _ hk
  refine W.zast hexec hb h1 (h2 n (fun j => .int (f j))) (fun q => by cases q) (by show ¬ (i < 0 ∨ (arrV _ _ _).slots.size ≤ _); rw [arrV_size]; exact xin_in hin) rfl rfl hdg fun H1 e z oq => ?_
  refine kk H1 _ (hR.set hk z oq ⟨?_, h2, h3⟩) (hS.put z oq (Nat.le_add_right _ _))
  rw [e]
  show some ((arrV _ n fun j => .int (f j)).setSlot _ _) = some (arrV _ n fun j => .int (upd f i.toNatClampNeg _ j))
  rw [arrV_store]
  congr 2
  funext q
  by_cases hq : q = i.toNatClampNeg <;> simp [updV, upd, hq, vp_nar, narrow]
theorem xw_last (hexec : p.tables.exec = Jvm.exec) (hb : c.code = cc) (hR : xR D cl cT s bs S H) (hS : va_S (fun q => bs ≤ q) H0 H locs) {k n : Nat} {f : Nat → Int64} (hk : xat S k = some (.inl (.long, n, .inr (.inl f)))) {i : Int32} {x : Int64} (hin : xin i n = true) (hdg : decode cc pc = .ok (.lastore, 1))
    (kk : ∀ (H1 : Heap) (locs1 : List Loc), xR D cl cT s bs (xput S k (.inl (.long, n, .inr (.inl (vp_updL f i.toNatClampNeg x))))) H1 → va_S (fun q => bs ≤ q) H0 H1 locs1 → W p l e R s m args below meth c H1 locs1 cells slots Q (F0 m (pc + 1) ls rest)) : W p l e R s m args below meth c H locs cells slots Q (F0 m pc ls (.long x :: .int i :: .ref (bs + k) :: rest)) := by
  obtain ⟨h1, h2, h3⟩ := hR.2.2.2 k _ hk
  refine W.last hexec hb h1 (h2 n (fun j => .long (f j))) (fun q => by cases q) (by show ¬ (i < 0 ∨ (arrV _ _ _).slots.size ≤ _); rw [arrV_size]; exact xin_in hin) rfl rfl hdg fun H1 e z oq => ?_
  refine kk H1 _ (hR.set hk z oq ⟨?_, h2, h3⟩) (hS.put z oq (Nat.le_add_right _ _))
  rw [e]
  show some ((arrV _ n fun j => .long (f j)).setSlot _ _) = some (arrV _ n fun j => .long (vp_updL f i.toNatClampNeg x j))
  rw [arrV_store]
  congr 2
  funext q
  by_cases hq : q = i.toNatClampNeg <;> simp [updV, vp_updL, hq]
theorem xw_aast (hexec : p.tables.exec = Jvm.exec) (hb : c.code = cc) (hR : xR D cl cT s bs S H) (hS : va_S (fun q => bs ≤ q) H0 H locs) {k n v ci : Nat} {r : vw_C} {vs : List Value} {f : Nat → Option Nat} (hk : xat S k = some (.inl (.object r.1, n, .inr (.inr (.inr (.inr f)))))) (hv : xat S v = some (.inr (some (ci, vs)))) (hc : cl[ci]? = some r) {i : Int32} (hin : xin i n = true) (hdg : decode cc pc = .ok (.aastore, 1))
    (kk : ∀ (H1 : Heap) (locs1 : List Loc), xR D cl cT s bs (xput S k (.inl (.object r.1, n, .inr (.inr (.inr (.inr (va_up f i.toNatClampNeg (some v)))))))) H1 → va_S (fun q => bs ≤ q) H0 H1 locs1 → W p l e R s m args below meth c H1 locs1 cells slots Q (F0 m (pc + 1) ls rest)) : W p l e R s m args below meth c H locs cells slots Q (F0 m pc ls (.ref (bs + v) :: .int i :: .ref (bs + k) :: rest)) := by
  have hi := xin_in hin
  have hlt : i.toNatClampNeg < n := Nat.not_le.mp fun q => hi (Or.inr q)
  have h0 : ¬ i < 0 := fun q => hi (Or.inl q)
  obtain ⟨h1, h2, h3⟩ := hR.2.2.2 k _ hk
  obtain ⟨r', hr', cellV, g1, g2, g3, -⟩ := hR.2.2.2 v _ hv
  have hcls := (hR.2.1.1 ci r hc).2
  obtain ⟨kA, comp, k1, k2, k3, -⟩ := id h3
  have hcomp : comp = D.1 ci := Option.some.inj (k3.symm.trans hcls.1)
  subst hcomp
  obtain ⟨kC, hkC, -⟩ := hcls.2
  refine W.aast hexec hb h1 (fun q h => by cases h) (fun h => by cases h) k1 k2 rfl hkC ⟨h0, by show _ < (arrV _ _ _).slots.size; rw [arrV_size]; exact hlt⟩ g1 (fun q h => by rw [g3] at h; cases h) (by rw [g2]; exact hkC) (by rw [g2]; exact va_assign hcls) rfl rfl hdg fun H1 e z oq => ?_
  refine kk H1 _ (hR.set hk z oq ⟨?_, h2, h3⟩) (hS.put z oq (Nat.le_add_right _ _))
  rw [e]
  show some ((arrV _ n fun j => va_rf ((f j).map fun k => bs + k)).setSlot _ _) = some (arrV _ n fun j => va_rf ((va_up f i.toNatClampNeg (some v) j).map fun k => bs + k))
  rw [arrV_store]
  congr 2
  funext q
  by_cases hq : q = i.toNatClampNeg <;> simp [updV, va_up, hq, va_rf]
end XW
end
section
/-- what is asked of the classes: their words, their fields' types and names, their fields' first values -/
def xCls (cl : List vw_C) (fty : Nat → Nat → FieldType) (fdef : Nat → List Value) (Ts : List Cond) : Prop := ∀ (ci : Nat) (q : vw_C), cl[ci]? = some q →
  (∀ w ∈ u_ws q.1 q.2.1 q.2.2, w ∈ Ts) ∧ (∀ k, k < q.2.2 → parseFieldDescriptor (q.2.1 k).2.2.1 = some (fty ci k)) ∧ (∀ a, a < q.2.2 → ∀ b, b < q.2.2 → a ≠ b → (q.2.1 a).2.1 ≠ (q.2.1 b).2.1) ∧
  (∀ j, j < q.2.2 → defaultValue (fty ci j) = vp_V (fdef ci) j) ∧ (∀ bs : Nat, (fdef ci).map (cv bs) = fdef ci)
section XH
variable {p : Program} {l : Launch} {e : Env} {R : Room} {s : State} {m : MethodId} {args : Array Value} {below : List Frame} {meth : Method} {c : Code} {H : Heap} {locs : List Loc} {cells slots : Nat} {Q : State → Prop}
variable {cc : ByteArray} {pc : Nat} {ls : Array Slot} {rest : List Value} {D : va_G} {cl : List vw_C} {cT : FieldType → ClassId} {bs : Nat} {S : xS} {H0 : Heap} {fty : Nat → Nat → FieldType} {fdef : Nat → List Value} {Ts : List Cond}
theorem xw_get (hexec : p.tables.exec = Jvm.exec) (hb : c.code = cc) (hts : ∀ w ∈ Ts, w.before args s = true) (hC : xCls cl fty fdef Ts) {own : String} (hown : s.vm.findClass own = some m.cls) (hR : xR D cl cT s bs S H) {k ci j index : Nat} {q : vw_C} {fs : List Value} {v : Value} (hk : xat S k = some (.inr (some (ci, fs)))) (hc : cl[ci]? = some q) (hj : j < q.2.2) (hv : fs[j]? = some v) (hlink : (Cond.fieldLink own index (q.2.1 j).1 (q.2.1 j).2.1 (q.2.1 j).2.2.1) ∈ Ts) (hdg : decode cc pc = .ok (.getfield index, 3))
    (kk : W p l e R s m args below meth c H locs cells slots Q (F0 m (pc + 3) ls (cv bs v :: rest))) : W p l e R s m args below meth c H locs cells slots Q (F0 m pc ls (.ref (bs + k) :: rest)) := by
  have h1 := hR.2.2.2 k _ hk
  exact va_get (D := D) (ci := ci) (v := cv bs v) (C := q.1) (T := q.2.1) (N := q.2.2) hexec hb hts (hC ci q hc).1 hown hR.2.1 (xP1 (q := (bs + k, .inr (ci, fs.map (cv bs)))) h1) 0 rfl hc j hj (hts _ hlink) (fun _ h9 => h9) (by rw [List.getElem?_map, hv]; rfl) hdg kk
theorem xw_put (hexec : p.tables.exec = Jvm.exec) (hb : c.code = cc) (hts : ∀ w ∈ Ts, w.before args s = true) (hC : xCls cl fty fdef Ts) {own : String} (hown : s.vm.findClass own = some m.cls) (hR : xR D cl cT s bs S H) (hS : va_S (fun q => bs ≤ q) H0 H locs) {k ci j index : Nat} {q : vw_C} {fs : List Value} {v : Value} (hk : xat S k = some (.inr (some (ci, fs)))) (hc : cl[ci]? = some q) (hj : j < q.2.2) (hl : j < fs.length) (hn : narrow (fty ci j) v = v) (hfit : fits (fty ci j) v = true) (hfin : (q.2.1 j).2.2.2 = false ∨ ((q.2.1 j).2.2.2 = true ∧ meth.name = "<init>" ∧ (q.2.1 j).1 = own)) (hlink : (Cond.fieldLink own index (q.2.1 j).1 (q.2.1 j).2.1 (q.2.1 j).2.2.1) ∈ Ts) (hdg : decode cc pc = .ok (.putfield index, 3))
    (kk : ∀ (H1 : Heap) (locs1 : List Loc), xR D cl cT s bs (xput S k (.inr (some (ci, fs.set j v)))) H1 → va_S (fun q => bs ≤ q) H0 H1 locs1 → W p l e R s m args below meth c H1 locs1 cells slots Q (F0 m (pc + 3) ls rest)) : W p l e R s m args below meth c H locs cells slots Q (F0 m pc ls (cv bs v :: .ref (bs + k) :: rest)) := by
  obtain ⟨hin, hty, hnm, -, -⟩ := hC ci q hc
  have hap := va_apart (own := own) hts hin (fty ci) hty hnm hR.2.1 hc
  obtain ⟨r, h1, cell, q1, q2, q3, q4⟩ := hR.2.2.2 k _ hk
  have hr : r = q := Option.some.inj (h1.symm.trans hc)
  subst hr
  obtain ⟨hSl, hfc, kC, hkC, hkind⟩ := hR.2.1.1 ci _ hc
  obtain ⟨cf, kf, fi, f, hi, hsl⟩ := hSl j hj
  have hst := (u_facts hfc hkC (u_lays hts hin hj) hi).1
  have hd := hty j hj
  have hlm : j < (fs.map (cv bs)).length := by rw [List.length_map]; exact hl
  have fin : ∀ H' : Heap, H'[bs + k]? = some (cell.setSlot f.slot (cv bs v)) → H'.size = H.size → (∀ q, q ≠ bs + k → H'[q]? = H[q]?) → W p l e R s m args below meth c H' (locs ++ [⟨bs + k, f.slot⟩]) cells slots Q (F0 m (pc + 3) ls rest) := by
    intro H' e1 e2 e3
    rw [hsl] at e1 ⊢
    refine kk H' _ (hR.set hk e2 e3 ⟨_, hc, ?_⟩) (hS.put e2 e3 (Nat.le_add_right _ _))
    show t_OB _ _ _ _ _ (vp_V ((fs.set j v).map (cv bs)))
    rw [List.map_set]
    exact t_OB.to (V := updV (vp_V (fs.map (cv bs))) j (cv bs v)) ⟨_, e1, q2, q3, t_set q4 hap hj (cv bs v)⟩ (fun i _ => vp_updV_set hlm (cv bs v) i)
  have hlay := hts _ (hin _ (u_in_lay hj))
  unfold u_lay at hlay
  rcases hfin with hfin | ⟨hfin, hin2, hdecl⟩
  · rw [if_neg (by rw [hfin]; decide)] at hlay
    have h6 := u_store hfc hkC hkind hlay hi hd (cv_narrow (bs := bs) hn) (cv_fits (bs := bs) hfit)
    exact W.putK hexec hb (f := f) ⟨hown, hts _ hlink, ⟨_, _, _, hi⟩, hst⟩ (by rw [q2]; exact h6) q1 q3 (by rw [hsl]; exact k2_hasslot (q4 j hj)) rfl rfl hdg fin
  · rw [if_pos hfin] at hlay
    have hcf : m.cls = cf := by
      obtain ⟨_, _, c', _, _, _, -, -, hf', -, -, -, hown2, -⟩ := Cond.laysFinal_spec hlay
      have e1 : c' = cf := by have := hi.symm.trans hf'; simp at this; exact this.1.symm
      rw [hdecl] at hown2
      rw [← e1]; exact Option.some.inj (hown.symm.trans hown2)
    have h6 := u_fits hfc hkC hkind (Or.inr hlay) hi hd (cv_narrow (bs := bs) hn) (cv_fits (bs := bs) hfit)
    exact W.putFinK hexec hb hown (hts _ hlink) hi hst hcf hin2 (by rw [q2]; exact h6) q1 q3 (by rw [hsl]; exact k2_hasslot (q4 j hj)) rfl rfl hdg fin
theorem xw_new (hexec : p.tables.exec = Jvm.exec) (hb : c.code = cc) (hts : ∀ w ∈ Ts, w.before args s = true) (hC : xCls cl fty fdef Ts) {own : String} (hown : s.vm.findClass own = some m.cls) (hR : xR D cl cT s bs S H) (hS : va_S (fun q => bs ≤ q) H0 H locs) {ci index : Nat} {q : vw_C} (hc : cl[ci]? = some q) {S' : xS} (hn : xnew S (.inr (some (ci, fdef ci))) q.2.2 = some S') (hcl : Cond.classLink own index q.1 ∈ Ts) (hinst : Cond.instantiable q.1 q.2.2 ∈ Ts) (hini : Cond.initialized q.1 ∈ Ts) (hcells : cells + 1 ≤ R.cells) (hslots : slots + q.2.2 ≤ R.slots) (hdg : decode cc pc = .ok (.new index, 3))
    (kk : ∀ (H1 : Heap), xR D cl cT s bs S' H1 → va_S (fun q => bs ≤ q) H0 H1 locs → W p l e R s m args below meth c H1 locs (cells + 1) (slots + q.2.2) Q (F0 m (pc + 3) ls (.ref (bs + S.1) :: rest))) : W p l e R s m args below meth c H locs cells slots Q (F0 m pc ls rest) := by
  obtain ⟨hin, hty, -, hdf, hdm⟩ := hC ci q hc
  have hKn := hR.2.1.1 ci _ hc
  refine W.newcK (h := bs + S.1) hexec hb hown (hts _ hcl) (hts _ hinst) (hts _ hini) rfl hdg hcells hslots hKn.2.1 hR.1 fun H1 kC hkC e1 z1 o1 => ?_
  refine kk H1 (hR.new hn (by rw [z1, hR.1]) (fun x hx => o1 x (by rw [← hR.1]; exact hx)) ⟨_, hc, ?_⟩) ⟨Nat.le_trans hS.1 (by rw [z1, hR.1]; omega), fun x h1 h2 => (o1 x (by rw [← hR.1]; exact Nat.lt_of_lt_of_le h1 hS.1)).trans (hS.2.1 x h1 h2), hS.2.2⟩
  show t_OB _ _ _ _ _ (vp_V ((fdef ci).map (cv bs)))
  rw [hdm bs]
  exact (u_born (fty ci) hts hin hKn hkC e1 hty).to hdf
theorem xw_newa (hexec : p.tables.exec = Jvm.exec) (hb : c.code = cc) {atype : ArrayType} (harr : (Cond.arrayClass (newarray.typeOf atype)).before args s = true) {ty : FieldType} (hty : newarray.typeOf atype = ty) (hR : xR D cl cT s bs S H) (hS : va_S (fun q => bs ≤ q) H0 H locs)
    {n : Int32} {a0 : vp_A} (ha : ∀ cA : ClassId, vp_cell cA (ca bs a0) = arrV cA n.toNatClampNeg (fun _ => defaultValue ty)) (hn : ¬ n < 0) (hbytes : n.toNatClampNeg * componentBytes ty ≤ 536870912) (hcells : cells + 1 ≤ R.cells) (hslots : slots + n.toNatClampNeg ≤ R.slots) {S' : xS} (hw : xnew S (.inl (ty, a0)) n.toNatClampNeg = some S') (hdg : decode cc pc = .ok (.newarray atype, 2))
    (kk : ∀ (H1 : Heap), xR D cl cT s bs S' H1 → va_S (fun q => bs ≤ q) H0 H1 locs → W p l e R s m args below meth c H1 locs (cells + 1) (slots + n.toNatClampNeg) Q (F0 m (pc + 2) ls (.ref (bs + S.1) :: rest))) : W p l e R s m args below meth c H locs cells slots Q (F0 m pc ls (.int n :: rest)) := by
  subst hty
  refine va_newaK (h := bs + S.1) hexec hb harr rfl hdg rfl hn rfl hbytes hcells hslots hR.1 fun H1 cA e1 z1 o1 hAr hNm => ?_
  have hcA := hR.2.2.1 _ _ hNm
  subst hcA
  refine kk H1 (hR.new hw (by rw [z1, hR.1]) (fun x hx => o1 x (by rw [← hR.1]; exact hx)) ⟨?_, hAr, ?_⟩) ⟨Nat.le_trans hS.1 (by rw [z1, hR.1]; omega), fun x h1 h2 => (o1 x (by rw [← hR.1]; exact Nat.lt_of_lt_of_le h1 hS.1)).trans (hS.2.1 x h1 h2), hS.2.2⟩
  · rw [ha]
    exact e1
  · cases atype <;> exact hNm
theorem xw_newq (hexec : p.tables.exec = Jvm.exec) (hb : c.code = cc) {own C : String} {index : Nat} (hown : s.vm.findClass own = some m.cls) (hclink : (Cond.classLink own index C).before args s = true) (hover : (Cond.arrayOver (.object C)).before args s = true) (hR : xR D cl cT s bs S H) (hS : va_S (fun q => bs ≤ q) H0 H locs)
    {n : Int32} (hn : ¬ n < 0) (hbytes : n.toNatClampNeg * 4 ≤ 536870912) (hcells : cells + 1 ≤ R.cells) (hslots : slots + n.toNatClampNeg ≤ R.slots) {S' : xS} (hw : xnew S (.inl (.object C, n.toNatClampNeg, .inr (.inr (.inr (.inr fun _ => none))))) n.toNatClampNeg = some S') (hdg : decode cc pc = .ok (.anewarray index, 3))
    (kk : ∀ (H1 : Heap), xR D cl cT s bs S' H1 → va_S (fun q => bs ≤ q) H0 H1 locs → W p l e R s m args below meth c H1 locs (cells + 1) (slots + n.toNatClampNeg) Q (F0 m (pc + 3) ls (.ref (bs + S.1) :: rest))) : W p l e R s m args below meth c H locs cells slots Q (F0 m pc ls (.int n :: rest)) := by
  refine W.anew hexec hb hown hclink hover rfl hdg rfl hn hbytes hcells hslots fun cA kA comp f1 f2 f3 f4 => ?_
  have hcA := hR.2.2.1 _ _ f1
  subst hcA
  rw [hR.1]
  generalize hH1 : H.push ({ cls := cT (.object C), slots := Array.replicate n.toNatClampNeg .null, vm := .none } : Cell) = H1
  have z1 : H1.size = H.size + 1 := by rw [← hH1, Array.size_push]
  have e1 : H1[bs + S.1]? = some (arrV (cT (.object C)) n.toNatClampNeg (fun _ => .null)) := by rw [← hR.1, ← hH1, Array.getElem?_push_size, ← arrV_new]
  have o1 : ∀ q : Nat, q < H.size → H1[q]? = H[q]? := fun q hq => by rw [← hH1, Array.getElem?_push, if_neg (Nat.ne_of_lt hq)]
  have hAr : ArrOfT s (cT (.object C)) (.object C) := fun N z => ⟨(fun k h => by cases h), kA, f2, comp, f3⟩
  exact kk H1 (hR.new hw z1 o1 ⟨e1, hAr, kA, comp, f2, f3, f4, f1⟩) ⟨Nat.le_trans hS.1 (by rw [z1]; omega), fun x h1 h2 => (o1 x (Nat.lt_of_lt_of_le h1 hS.1)).trans (hS.2.1 x h1 h2), hS.2.2⟩
theorem xw_copy (hexec : p.tables.exec = Jvm.exec) (hb : c.code = cc) (hml : c.maxLocals = ls.size) {own : String} {index : Nat} (hown : s.vm.findClass own = some m.cls) (hlink : (Cond.methodLink own index arraycopyName).before args s = true) (hnat : (Cond.native arraycopyName).before args s = true) (hstat : (Cond.static arraycopyName).before args s = true) (hini : (Cond.initialized "java/lang/System").before args s = true)
    (hR : xR D cl cT s bs S H) (hS : va_S (fun q => bs ≤ q) H0 H locs) {k0 k : Nat} {n0 n1 : Nat} {f g : Nat → Int32} (ha0 : xat S k0 = some (.inl (.int, n0, .inl f))) (ha1 : xat S k = some (.inl (.int, n1, .inl g)))
    {sp dp n : Int32} (h1 : ¬ sp < 0) (h2 : ¬ dp < 0) (h3 : ¬ n < 0) (h4 : sp.toNatClampNeg + n.toNatClampNeg ≤ n0) (h5 : dp.toNatClampNeg + n.toNatClampNeg ≤ n1)
    (hframes : 1 ≤ R.frames) (hlocals : (rest.map fun v => v.category).sum + (nativeFrameWords "java/lang/System" "arraycopy" 5 + 11) ≤ R.locals) (hdg : decode cc pc = .ok (.invokestatic index, 3))
    (kk : ∀ (H1 : Heap) (locs1 : List Loc), xR D cl cT s bs (xput S k (.inl (.int, n1, .inl (va_cpy f g sp.toNatClampNeg dp.toNatClampNeg n.toNatClampNeg)))) H1 → va_S (fun q => bs ≤ q) H0 H1 locs1 → W p l e R s m args below meth c H1 locs1 cells slots Q (F0 m (pc + 3) ls rest)) : W p l e R s m args below meth c H locs cells slots Q (F0 m pc ls (.int n :: .int dp :: .ref (bs + k) :: .int sp :: .ref (bs + k0) :: rest)) := by
  have nn : ∀ z : Int32, ¬ z < 0 → z.toInt = (z.toNatClampNeg : Int) := by
    intro z hz
    have hz0 : (0 : Int) ≤ z.toInt := by
      have := Int32.not_lt.mp hz
      simpa using Int32.le_iff_toInt_le.mp this
    show z.toInt = ((z.toInt.toNat : Nat) : Int)
    omega
  intro T hT X
  obtain ⟨hc0, t0, -⟩ := hR.2.2.2 k0 _ ha0
  obtain ⟨hc1, t1, t2⟩ := hR.2.2.2 k _ ha1
  have hc0 : H[bs + k0]? = some (vp_cell (cT .int) (n0, .inl f)) := hc0
  have hc1 : H[bs + k]? = some (vp_cell (cT .int) (n1, .inl g)) := hc1
  obtain ⟨-, q0, hk0, cm0, hkk0⟩ := t0 n0 (fun j => .int (f j))
  obtain ⟨-, q1, hk1, cm1, hkk1⟩ := t1 n1 (fun j => .int (g j))
  obtain ⟨vm', X', step⟩ := X.arraycopy hexec hown hlink hnat hstat hini (src := bs + k0) (dst := bs + k) (cs := vp_cell (cT .int) (n0, .inl f)) (cd := vp_cell (cT .int) (n1, .inl g)) (srcPos := sp) (destPos := dp) (n := n) (by rw [hT]; exact hc0) (by rw [hT]; exact hc1)
    (fun _ h => by cases h) (fun _ h => by cases h) (fun h => by cases h) (fun h => by cases h) hk0 hk1 hkk0 hkk1 (by simp [refKind]) h1 h2 h3
    (by rw [nn sp h1, nn n h3]; show ¬ _ > ((arrV _ n0 (fun j => .int (f j))).slots.size : Int); rw [arrV_size]; omega)
    (by rw [nn dp h2, nn n h3]; show ¬ _ > ((arrV _ n1 (fun j => .int (g j))).slots.size : Int); rw [arrV_size]; omega)
    (fun vm₁ _ i hi => by
      have e : (vp_cell (cT .int) (n0, .inl f)).slots.getD (sp.toNatClampNeg + i) .null = .int (f (sp.toNatClampNeg + i)) := by
        show (arrV _ n0 (fun j => .int (f j))).slots.getD _ _ = _
        rw [Array.getD_eq_getD_getElem?, arrV_read _ _ (by omega)]
        rfl
      refine ⟨?_, ?_⟩
      · rw [e]
        rfl
      · rw [e]
        exact trivial)
    (g := F0 m pc ls (.int n :: .int dp :: .ref (bs + k) :: .int sp :: .ref (bs + k0) :: rest)) rfl (by rw [hml]) (rest := rest) rfl (by rw [hb]; exact hdg) hframes (by show 2 * 0 + _ + _ ≤ _; omega)
  have e1 : copied (vp_cell (cT .int) (n0, .inl f)) (vp_cell (cT .int) (n1, .inl g)) sp dp n = vp_cell (cT .int) (n1, .inl (va_cpy f g sp.toNatClampNeg dp.toNatClampNeg n.toNatClampNeg)) := va_copied (fun z => .int z) _ _ f g h4
  rw [e1] at X' step
  have hl : bs + k < H.size := (Array.getElem?_eq_some_iff.mp hc1).1
  have hheap : ((T.setVm vm').setCell (bs + k) (vp_cell (cT .int) (n1, .inl (va_cpy f g sp.toNatClampNeg dp.toNatClampNeg n.toNatClampNeg)))).heap = H.setIfInBounds (bs + k) (vp_cell (cT .int) (n1, .inl (va_cpy f g sp.toNatClampNeg dp.toNatClampNeg n.toNatClampNeg))) := by rw [← hT]; rfl
  have oq : ∀ q : Nat, q ≠ bs + k → (H.setIfInBounds (bs + k) (vp_cell (cT .int) (n1, .inl (va_cpy f g sp.toNatClampNeg dp.toNatClampNeg n.toNatClampNeg))))[q]? = H[q]? := fun q hq => by simp [Array.getElem?_setIfInBounds, Ne.symm hq]
  obtain ⟨t, a1, b1⟩ := kk _ _ (hR.set ha1 (by simp) oq ⟨show (H.setIfInBounds (bs + k) _)[bs + k]? = some _ by simp [Array.getElem?_setIfInBounds, hl, ca], t1, t2⟩) ⟨by simp; exact hS.1, fun q g1 g2 => by
      rw [oq q (fun e => g2 (by rw [e]; exact Nat.le_add_right _ _))]
      exact hS.2.1 q g1 g2, fun q hq => by
      rcases List.mem_append.mp hq with h | h
      · exact hS.2.2 q h
      · obtain ⟨z, -, hz⟩ := List.mem_map.mp h
        rw [← hz]
        exact Nat.le_add_right _ _⟩ _ hheap X'
  exact ⟨t, step t a1, b1⟩
end XH
end
section
def cL (bs : Nat) (L : xL) : xL := L.map fun q => (q.1, cv bs q.2)
theorem xfind_mem {L : xL} {i : Nat} {v : Value} (h : xfind L i = some v) : (i, v) ∈ L := by
  induction L with
  | nil => cases h
  | cons q L ih =>
    obtain ⟨j, w⟩ := q
    unfold xfind at h
    split at h
    · rename_i hj
      cases h
      subst hj
      exact List.mem_cons_self
    · exact List.mem_cons_of_mem _ (ih h)
theorem xl_at {ls : Array Slot} {nL bs : Nat} {L : xL} {i : Nat} {v : Value} (hl : lv_has ls nL (cL bs L)) (h : xfind L i = some v) : ls[i]? = some (.val (cv bs v)) :=
  hl.2.2 (i, cv bs v) (List.mem_map.mpr ⟨(i, v), xfind_mem h, rfl⟩)
theorem cL_sto1 (bs : Nat) (L : xL) (i : Nat) (v : Value) : (i, cv bs v) :: (cL bs L).filter (fun q => !(q.1 == i) && !(q.1 + 1 == i && q.2.category == 2)) = cL bs (xsto1 L i v) := by
  unfold xsto1 cL
  rw [List.map_cons, List.filter_map]
  congr 2
  apply List.filter_congr
  intro q _
  simp [cv_cat]
theorem cL_sto2 (bs : Nat) (L : xL) (i : Nat) (v : Value) : (i, cv bs v) :: (cL bs L).filter (fun q => !(q.1 == i) && (!(q.1 == i + 1) && !(q.1 + 1 == i && q.2.category == 2))) = cL bs (xsto2 L i v) := by
  unfold xsto2 cL
  rw [List.map_cons, List.filter_map]
  congr 2
  apply List.filter_congr
  intro q _
  simp [cv_cat]
theorem cv_sum (bs : Nat) (st : List Value) : ((st.map (cv bs)).map fun v => v.category).sum = xw st := by
  unfold xw
  rw [List.map_map]
  congr 1
  apply List.map_congr_left
  intro v _
  exact cv_cat bs v
theorem xtg_spec {pc t : Nat} {off : Int} (h : xtg pc off = some t) : (pc : Int) + off = (t : Int) := by
  unfold xtg at h
  split at h
  · rename_i h0
    cases h
    omega
  · cases h
theorem xii_inv {st t : List Value} {f : Int32 → Int32 → Option Int32} (h : xii st f = some t) : ∃ x y z r, st = .int y :: .int x :: r ∧ f x y = some z ∧ t = .int z :: r := by
  unfold xii at h
  split at h
  · rename_i y x r
    cases hz : f x y with
    | none => rw [hz] at h; cases h
    | some z => rw [hz] at h; cases h; exact ⟨x, y, z, r, rfl, hz, rfl⟩
  · cases h
theorem xll_inv {st t : List Value} {f : Int64 → Int64 → Value} (h : xll st f = some t) : ∃ x y r, st = .long y :: .long x :: r ∧ t = f x y :: r := by
  unfold xll at h
  split at h
  · rename_i y x r
    cases h
    exact ⟨x, y, r, rfl, rfl⟩
  · cases h
theorem xli_inv {st t : List Value} {f : Int64 → Int32 → Value} (h : xli st f = some t) : ∃ x y r, st = .int y :: .long x :: r ∧ t = f x y :: r := by
  unfold xli at h
  split at h
  · rename_i y x r
    cases h
    exact ⟨x, y, r, rfl, rfl⟩
  · cases h
theorem xi1_inv {st t : List Value} {f : Int32 → Value} (h : xi1 st f = some t) : ∃ x r, st = .int x :: r ∧ t = f x :: r := by
  unfold xi1 at h
  split at h
  · rename_i x r
    cases h
    exact ⟨x, r, rfl, rfl⟩
  · cases h
theorem xl1_inv {st t : List Value} {f : Int64 → Value} (h : xl1 st f = some t) : ∃ x r, st = .long x :: r ∧ t = f x :: r := by
  unfold xl1 at h
  split at h
  · rename_i x r
    cases h
    exact ⟨x, r, rfl, rfl⟩
  · cases h
theorem xldI_inv {L : xL} {i : Nat} {v : Value} (h : xldI L i = some v) : ∃ x, v = .int x ∧ xfind L i = some (.int x) := by
  unfold xldI at h
  split at h
  · rename_i x hx
    cases h
    exact ⟨x, rfl, hx⟩
  · cases h
theorem xldL_inv {L : xL} {i : Nat} {v : Value} (h : xldL L i = some v) : ∃ x, v = .long x ∧ xfind L i = some (.long x) := by
  unfold xldL at h
  split at h
  · rename_i x hx
    cases h
    exact ⟨x, rfl, hx⟩
  · cases h
theorem xldA_inv {L : xL} {i : Nat} {v : Value} (h : xldA L i = some v) : (∃ x, v = .ref x ∧ xfind L i = some (.ref x)) ∨ (v = .null ∧ xfind L i = some .null) := by
  unfold xldA at h
  split at h
  · rename_i x hx
    cases h
    exact Or.inl ⟨x, rfl, hx⟩
  · rename_i hx
    cases h
    exact Or.inr ⟨rfl, hx⟩
  · cases h
theorem xstI_inv {L : xL} {nL i : Nat} {st : List Value} {q : xL × List Value} (h : xstI L nL i st = some q) : ∃ x, st = .int x :: q.2 ∧ i < nL ∧ q.1 = xsto1 L i (.int x) := by
  unfold xstI at h
  split at h
  · rename_i x r
    split at h
    · rename_i hi
      cases h
      exact ⟨x, rfl, hi, rfl⟩
    · cases h
  · cases h
theorem xstL_inv {L : xL} {nL i : Nat} {st : List Value} {q : xL × List Value} (h : xstL L nL i st = some q) : ∃ x, st = .long x :: q.2 ∧ i + 1 < nL ∧ q.1 = xsto2 L i (.long x) := by
  unfold xstL at h
  split at h
  · rename_i x r
    split at h
    · rename_i hi
      cases h
      exact ⟨x, rfl, hi, rfl⟩
    · cases h
  · cases h
theorem xstA_inv {L : xL} {nL i : Nat} {st : List Value} {q : xL × List Value} (h : xstA L nL i st = some q) : (∃ x, st = .ref x :: q.2 ∧ i < nL ∧ q.1 = xsto1 L i (.ref x)) ∨ (st = .null :: q.2 ∧ i < nL ∧ q.1 = xsto1 L i .null) := by
  unfold xstA at h
  split at h
  · rename_i x r
    split at h
    · rename_i hi
      cases h
      exact Or.inl ⟨x, rfl, hi, rfl⟩
    · cases h
  · rename_i r
    split at h
    · rename_i hi
      cases h
      exact Or.inr ⟨rfl, hi, rfl⟩
    · cases h
  · cases h
theorem xif_inv {c : ClassFile.Cond} {pc : Nat} {off : Int} {st : List Value} {q : Nat × List Value} (h : xif c pc off st = some q) : ∃ (x : Int32) (t : Nat), st = .int x :: q.2 ∧ (pc : Int) + off = (t : Int) ∧ q.1 = bif xcmp c x 0 then t else pc + 3 := by
  unfold xif at h
  split at h
  · rename_i x r
    cases ht : xtg pc off with
    | none => rw [ht] at h; cases h
    | some t => rw [ht] at h; cases h; exact ⟨x, t, rfl, xtg_spec ht, rfl⟩
  · cases h
theorem xicmp_inv {c : ClassFile.Cond} {pc : Nat} {off : Int} {st : List Value} {q : Nat × List Value} (h : xicmp c pc off st = some q) : ∃ (x y : Int32) (t : Nat), st = .int y :: .int x :: q.2 ∧ (pc : Int) + off = (t : Int) ∧ q.1 = bif xcmp c x y then t else pc + 3 := by
  unfold xicmp at h
  split at h
  · rename_i y x r
    cases ht : xtg pc off with
    | none => rw [ht] at h; cases h
    | some t => rw [ht] at h; cases h; exact ⟨x, y, t, rfl, xtg_spec ht, rfl⟩
  · cases h
theorem xnul_inv {b : Bool} {pc : Nat} {off : Int} {st : List Value} {q : Nat × List Value} (h : xnul b pc off st = some q) : ∃ t : Nat, (pc : Int) + off = (t : Int) ∧ ((st = .null :: q.2 ∧ q.1 = bif b then t else pc + 3) ∨ (∃ x, st = .ref x :: q.2 ∧ q.1 = bif b then pc + 3 else t)) := by
  unfold xnul at h
  split at h
  · rename_i r
    cases ht : xtg pc off with
    | none => rw [ht] at h; cases h
    | some t => rw [ht] at h; cases h; exact ⟨t, xtg_spec ht, Or.inl ⟨rfl, rfl⟩⟩
  · rename_i x r
    cases ht : xtg pc off with
    | none => rw [ht] at h; cases h
    | some t => rw [ht] at h; cases h; exact ⟨t, xtg_spec ht, Or.inr ⟨x, rfl, rfl⟩⟩
  · cases h
theorem xtab_inv {d lo hi : Int} {offs : Array Int} {pc : Nat} {st : List Value} {q : Nat × List Value} (h : xtab d lo hi offs pc st = some q) : ∃ x, st = .int x :: q.2 ∧ (((x.toInt < lo ∨ hi < x.toInt) ∧ (pc : Int) + d = (q.1 : Int)) ∨ (¬ x.toInt < lo ∧ ¬ hi < x.toInt ∧ ∃ off, offs[(x.toInt - lo).toNat]? = some off ∧ (pc : Int) + off = (q.1 : Int))) := by
  unfold xtab at h
  split at h
  · rename_i x r
    split at h
    · rename_i hx
      cases ht : xtg pc d with
      | none => rw [ht] at h; cases h
      | some t => rw [ht] at h; cases h; exact ⟨x, rfl, Or.inl ⟨hx, xtg_spec ht⟩⟩
    · rename_i hx
      split at h
      · rename_i off ho
        cases ht : xtg pc off with
        | none => rw [ht] at h; cases h
        | some t => rw [ht] at h; cases h; exact ⟨x, rfl, Or.inr ⟨fun z => hx (Or.inl z), fun z => hx (Or.inr z), off, ho, xtg_spec ht⟩⟩
      · cases h
  · cases h
theorem xlook_inv {d : Int} {ps : Array (Int × Int)} {pc : Nat} {st : List Value} {q : Nat × List Value} (h : xlook d ps pc st = some q) : ∃ x, st = .int x :: q.2 ∧ (ps.toList.zip (ps.toList.drop 1)).all (fun (a, next) => a.1 < next.1) = true ∧ (pc : Int) + Op.lookupswitch.offset ps.toList d x.toInt = (q.1 : Int) := by
  unfold xlook at h
  split at h
  · rename_i x r
    split at h
    · rename_i hx
      cases ht : xtg pc (Op.lookupswitch.offset ps.toList d x.toInt) with
      | none => rw [ht] at h; cases h
      | some t => rw [ht] at h; cases h; exact ⟨x, rfl, hx, xtg_spec ht⟩
    · cases h
  · cases h
theorem xiald_inv {S : xS} {st t : List Value} (h : xiald S st = some t) : ∃ i a r n f, st = .int i :: .ref a :: r ∧ xat S a = some (.inl (.int, n, .inl f)) ∧ xin i n = true ∧ t = .int (f i.toNatClampNeg) :: r := by
  unfold xiald at h
  split at h
  · rename_i i a r
    split at h
    · rename_i n f hx
      split at h
      · rename_i hi
        cases h
        exact ⟨i, a, r, n, f, rfl, hx, hi, rfl⟩
      · cases h
    · cases h
  · cases h
theorem xzald_inv {S : xS} {st t : List Value} (h : xzald S st = some t) : ∃ i a r n f, st = .int i :: .ref a :: r ∧ xat S a = some (.inl (.boolean, n, .inl f)) ∧ xin i n = true ∧ t = .int (f i.toNatClampNeg) :: r := by
  unfold xzald at h
  split at h
  · rename_i i a r
    split at h
    · rename_i n f hx
      split at h
      · rename_i hi
        cases h
        exact ⟨i, a, r, n, f, rfl, hx, hi, rfl⟩
      · cases h
    · cases h
  · cases h
theorem xlald_inv {S : xS} {st t : List Value} (h : xlald S st = some t) : ∃ i a r n f, st = .int i :: .ref a :: r ∧ xat S a = some (.inl (.long, n, .inr (.inl f))) ∧ xin i n = true ∧ t = .long (f i.toNatClampNeg) :: r := by
  unfold xlald at h
  split at h
  · rename_i i a r
    split at h
    · rename_i n f hx
      split at h
      · rename_i hi
        cases h
        exact ⟨i, a, r, n, f, rfl, hx, hi, rfl⟩
      · cases h
    · cases h
  · cases h
theorem xaald_inv {S : xS} {st t : List Value} (h : xaald S st = some t) : ∃ i a r C n f, st = .int i :: .ref a :: r ∧ xat S a = some (.inl (.object C, n, .inr (.inr (.inr (.inr f))))) ∧ xin i n = true ∧ t = va_rf (f i.toNatClampNeg) :: r := by
  unfold xaald at h
  split at h
  · rename_i i a r
    split at h
    · rename_i C n f hx
      split at h
      · rename_i hi
        cases h
        exact ⟨i, a, r, C, n, f, rfl, hx, hi, rfl⟩
      · cases h
    · cases h
  · cases h
theorem xlen_inv {S : xS} {st t : List Value} (h : xlen S st = some t) : ∃ a r ty x, st = .ref a :: r ∧ xat S a = some (.inl (ty, x)) ∧ t = .int (Int32.ofNat x.1) :: r := by
  unfold xlen at h
  split at h
  · rename_i a r
    split at h
    · rename_i ty x hx
      cases h
      exact ⟨a, r, ty, x, rfl, hx, rfl⟩
    · cases h
  · cases h
theorem xiast_inv {S : xS} {st : List Value} {q : List Value × xS} (h : xiast S st = some q) : ∃ x i a n f, st = .int x :: .int i :: .ref a :: q.1 ∧ xat S a = some (.inl (.int, n, .inl f)) ∧ xin i n = true ∧ q.2 = xput S a (.inl (.int, n, .inl (upd f i.toNatClampNeg x))) := by
  unfold xiast at h
  split at h
  · rename_i x i a r
    split at h
    · rename_i n f hx
      split at h
      · rename_i hi
        cases h
        exact ⟨x, i, a, n, f, rfl, hx, hi, rfl⟩
      · cases h
    · cases h
  · cases h
theorem xzast_inv {S : xS} {st : List Value} {q : List Value × xS} (h : xzast S st = some q) : ∃ x i a n f, st = .int x :: .int i :: .ref a :: q.1 ∧ xat S a = some (.inl (.boolean, n, .inl f)) ∧ xin i n = true ∧ q.2 = xput S a (.inl (.boolean, n, .inl (upd f i.toNatClampNeg (vp_nar .boolean x)))) := by
  unfold xzast at h
  split at h
  · rename_i x i a r
    split at h
    · rename_i n f hx
      split at h
      · rename_i hi
        cases h
        exact ⟨x, i, a, n, f, rfl, hx, hi, rfl⟩
      · cases h
    · cases h
  · cases h
theorem xlast_inv {S : xS} {st : List Value} {q : List Value × xS} (h : xlast S st = some q) : ∃ x i a n f, st = .long x :: .int i :: .ref a :: q.1 ∧ xat S a = some (.inl (.long, n, .inr (.inl f))) ∧ xin i n = true ∧ q.2 = xput S a (.inl (.long, n, .inr (.inl (vp_updL f i.toNatClampNeg x)))) := by
  unfold xlast at h
  split at h
  · rename_i x i a r
    split at h
    · rename_i n f hx
      split at h
      · rename_i hi
        cases h
        exact ⟨x, i, a, n, f, rfl, hx, hi, rfl⟩
      · cases h
    · cases h
  · cases h
theorem xaast_inv {cl : List vw_C} {S : xS} {st : List Value} {q : List Value × xS} (h : xaast cl S st = some q) : ∃ v i a r n f ci vs, st = .ref v :: .int i :: .ref a :: q.1 ∧ xat S a = some (.inl (.object r.1, n, .inr (.inr (.inr (.inr f))))) ∧ xat S v = some (.inr (some (ci, vs))) ∧ cl[ci]? = some r ∧ xin i n = true ∧ q.2 = xput S a (.inl (.object r.1, n, .inr (.inr (.inr (.inr (va_up f i.toNatClampNeg (some v))))))) := by
  unfold xaast at h
  split at h
  · rename_i v i a r
    split at h
    · rename_i C n f ci vs hx hv
      split at h
      · rename_i hi
        rw [Bool.and_eq_true, decide_eq_true_eq] at hi
        cases hc : cl[ci]? with
        | none => rw [hc] at hi; exact absurd hi.2 (by simp)
        | some rr =>
          rw [hc] at hi
          have hC : rr.1 = C := by simpa using hi.2
          subst hC
          cases h
          exact ⟨v, i, a, rr, n, f, ci, vs, rfl, hx, hv, hc, hi.1, rfl⟩
      · cases h
    · cases h
  · cases h
theorem xgetf_inv {S : xS} {ci k : Nat} {st t : List Value} (h : xgetf S ci k st = some t) : ∃ a r fs v, st = .ref a :: r ∧ xat S a = some (.inr (some (ci, fs))) ∧ fs[k]? = some v ∧ t = v :: r := by
  unfold xgetf at h
  split at h
  · rename_i a r
    split at h
    · rename_i cj fs hx
      split at h
      · rename_i he
        subst he
        cases hv : fs[k]? with
        | none => rw [hv] at h; cases h
        | some v => rw [hv] at h; cases h; exact ⟨a, r, fs, v, rfl, hx, hv, rfl⟩
      · cases h
    · cases h
  · cases h
theorem xputf_inv {S : xS} {ci k : Nat} {ty : FieldType} {st : List Value} {q : List Value × xS} (h : xputf S ci k ty st = some q) : ∃ v a fs, st = v :: .ref a :: q.1 ∧ xat S a = some (.inr (some (ci, fs))) ∧ k < fs.length ∧ narrow ty v = v ∧ fits ty v = true ∧ q.2 = xput S a (.inr (some (ci, fs.set k v))) := by
  unfold xputf at h
  split at h
  · rename_i v a r
    split at h
    · rename_i cj fs hx
      split at h
      · rename_i he
        obtain ⟨e1, e2, e3⟩ := he
        subst e1
        cases h
        exact ⟨v, a, fs, rfl, hx, e2, (xfit_ok e3).1, (xfit_ok e3).2, rfl⟩
      · cases h
    · cases h
  · cases h
theorem xcpy_inv {S : xS} {st : List Value} {q : List Value × xS} (h : xcpy S st = some q) : ∃ n dp a sp a0 n0 n1 f g, st = .int n :: .int dp :: .ref a :: .int sp :: .ref a0 :: q.1 ∧ xat S a0 = some (.inl (.int, n0, .inl f)) ∧ xat S a = some (.inl (.int, n1, .inl g)) ∧ ¬ sp < 0 ∧ ¬ dp < 0 ∧ ¬ n < 0 ∧ sp.toNatClampNeg + n.toNatClampNeg ≤ n0 ∧ dp.toNatClampNeg + n.toNatClampNeg ≤ n1 ∧ q.2 = xput S a (.inl (.int, n1, .inl (va_cpy f g sp.toNatClampNeg dp.toNatClampNeg n.toNatClampNeg))) := by
  unfold xcpy at h
  split at h
  · rename_i n dp a sp a0 r
    split at h
    · rename_i n0 f n1 g hx hy
      split at h
      · cases h
      · rename_i hs
        split at h
        · rename_i hz
          cases h
          exact ⟨n, dp, a, sp, a0, n0, n1, f, g, rfl, hx, hy, fun z => hs (Or.inl z), fun z => hs (Or.inr (Or.inl z)), fun z => hs (Or.inr (Or.inr z)), hz.1, hz.2, rfl⟩
        · cases h
    · cases h
  · cases h
end
section
/-- what is asked of an instruction: its words, by their places -/
def xok (cl : List vw_C) (Ts Bs : List Cond) (own : String) (ini : Bool) (xi : xI) : Bool := match xi.1 with
  | .getfield idx => (match cl[xi.2.2.1]? with
    | some q => decide (xi.2.2.2.1 < q.2.2) && decide (Ts[xi.2.2.2.2.2]? = some (Cond.fieldLink own idx (q.2.1 xi.2.2.2.1).1 (q.2.1 xi.2.2.2.1).2.1 (q.2.1 xi.2.2.2.1).2.2.1))
    | none => false)
  | .putfield idx => (match cl[xi.2.2.1]? with
    | some q => decide (xi.2.2.2.1 < q.2.2) && decide (Ts[xi.2.2.2.2.2]? = some (Cond.fieldLink own idx (q.2.1 xi.2.2.2.1).1 (q.2.1 xi.2.2.2.1).2.1 (q.2.1 xi.2.2.2.1).2.2.1)) && (!(q.2.1 xi.2.2.2.1).2.2.2 || (ini && decide ((q.2.1 xi.2.2.2.1).1 = own)))
    | none => false)
  | .new idx => (match cl[xi.2.2.1]? with
    | some q => decide (Ts[xi.2.2.2.2.2]? = some (Cond.classLink own idx q.1)) && decide (Ts[xi.2.2.2.2.2 + 1]? = some (Cond.instantiable q.1 q.2.2)) && decide (Ts[xi.2.2.2.2.2 + 2]? = some (Cond.initialized q.1))
    | none => true)
  | .newarray a => decide (Ts[xi.2.2.2.2.2]? = some (Cond.arrayClass (newarray.typeOf a)))
  | .anewarray idx => (match cl[xi.2.2.1]? with
    | some q => decide (Ts[xi.2.2.2.2.2]? = some (Cond.classLink own idx q.1)) && decide (Bs[xi.2.2.2.1]? = some (Cond.arrayOver (.object q.1)))
    | none => false)
  | .ldc idx => decide (Ts[xi.2.2.2.2.2]? = some (Cond.constant own idx (Int32.ofInt xi.2.2.2.2.1)))
  | .ldc_w idx => decide (Ts[xi.2.2.2.2.2]? = some (Cond.constant own idx (Int32.ofInt xi.2.2.2.2.1)))
  | .ldc2_w idx => decide (Ts[xi.2.2.2.2.2]? = some (Cond.constantLong own idx (Int64.ofInt xi.2.2.2.2.1)))
  | .invokespecial idx => if xi.2.2.1 = xObj then decide (Ts[xi.2.2.2.2.2]? = some (Cond.methodLink own idx objectInit)) && decide (Ts[xi.2.2.2.2.2 + 1]? = some (Cond.instanceMethod objectInit)) && decide (Ts[xi.2.2.2.2.2 + 2]? = some (Cond.code objectInit ⟨#[0xb1]⟩ 1 none)) else true
  | .invokestatic idx =>
    if xi.2.2.1 = xMax then decide (Ts[xi.2.2.2.2.2]? = some (Cond.methodLink own idx Lib.Math.max.name)) && decide (Ts[xi.2.2.2.2.2 + 1]? = some (Cond.static Lib.Math.max.name)) && decide (Ts[xi.2.2.2.2.2 + 2]? = some (Cond.initialized "java/lang/Math")) && decide (Ts[xi.2.2.2.2.2 + 3]? = some (Cond.code Lib.Math.max.name Lib.Math.max.code 2 (some .int)))
    else if xi.2.2.1 = xMin then decide (Ts[xi.2.2.2.2.2]? = some (Cond.methodLink own idx Lib.Math.min.name)) && decide (Ts[xi.2.2.2.2.2 + 1]? = some (Cond.static Lib.Math.min.name)) && decide (Ts[xi.2.2.2.2.2 + 2]? = some (Cond.initialized "java/lang/Math")) && decide (Ts[xi.2.2.2.2.2 + 3]? = some (Cond.code Lib.Math.min.name Lib.Math.min.code 2 (some .int)))
    else if xi.2.2.1 = xCopy then decide (Ts[xi.2.2.2.2.2]? = some (Cond.methodLink own idx arraycopyName)) && decide (Ts[xi.2.2.2.2.2 + 1]? = some (Cond.native arraycopyName)) && decide (Ts[xi.2.2.2.2.2 + 2]? = some (Cond.static arraycopyName)) && decide (Ts[xi.2.2.2.2.2 + 3]? = some (Cond.initialized "java/lang/System"))
    else true
  | _ => true
/-- the setting of a method's body -/
def xCx (cl : List vw_C) (fty : Nat → Nat → FieldType) (fdef : Nat → List Value) (Ts Bs : List Cond) (own : String) (ini : Bool) (cc : ByteArray) (nL : Nat) (p : Program) (R : Room) (s : State) (m : MethodId) (args : Array Value) (meth : Method) (c : Code) : Prop :=
  p.tables.exec = Jvm.exec ∧ c.code = cc ∧ c.maxLocals = nL ∧ s.vm.findClass own = some m.cls ∧ (∀ w ∈ Ts, w.before args s = true) ∧ (∀ w ∈ Bs, w.before args s = true) ∧ xCls cl fty fdef Ts ∧ (ini = true → meth.name = "<init>") ∧ 1 ≤ R.frames ∧ 16 + 12 + (nativeFrameWords "java/lang/System" "arraycopy" 5 + 11) ≤ R.locals
theorem xTs {Ts : List Cond} {args : Array Value} {s : State} (hts : ∀ w ∈ Ts, w.before args s = true) {j : Nat} {w : Cond} (h : decide (Ts[j]? = some w) = true) : w.before args s = true :=
  hts w (List.mem_of_getElem? (of_decide_eq_true h))
section XST
variable {p : Program} {l : Launch} {e : Env} {R : Room} {s : State} {m : MethodId} {args : Array Value} {below : List Frame} {meth : Method} {c : Code} {H : Heap} {locs : List Loc} {cells slots : Nat} {Q : State → Prop}
variable {cc : ByteArray} {pc nL : Nat} {ls : Array Slot} {D : va_G} {cl : List vw_C} {cT : FieldType → ClassId} {bs : Nat} {H0 : Heap} {fty : Nat → Nat → FieldType} {fdef : Nat → List Value} {Ts Bs : List Cond} {own : String} {ini : Bool}
/-- the machine goes on from a frame of the small one, so many cells and slots further -/
def xK (p : Program) (l : Launch) (e : Env) (R : Room) (s : State) (m : MethodId) (args : Array Value) (below : List Frame) (meth : Method) (c : Code) (Q : State → Prop) (D : va_G) (cl : List vw_C) (cT : FieldType → ClassId) (bs nL : Nat) (H0 : Heap) (cells slots : Nat) (S0 : xS) (fr : xF) : Prop :=
  ∀ (H1 : Heap) (locs1 : List Loc) (ls1 : Array Slot) (c1 s1 : Nat), c1 = cells + (fr.2.2.2.1 - S0.1) → s1 = slots + (fr.2.2.2.2.1 - S0.2.1) → xR D cl cT s bs fr.2.2.2 H1 → va_S (fun q => bs ≤ q) H0 H1 locs1 → lv_has ls1 nL (cL bs fr.2.1) → W p l e R s m args below meth c H1 locs1 c1 s1 Q (F0 m fr.1 ls1 (fr.2.2.1.map (cv bs)))
set_option maxHeartbeats 4000000 in
set_option maxRecDepth 100000 in
theorem xst_sound (C : xCx cl fty fdef Ts Bs own ini cc nL p R s m args meth c) {xi : xI} {L : xL} {st : List Value} {S : xS} {fr : xF} (hok : xok cl Ts Bs own ini xi = true) (hdg : decode cc pc = .ok (xi.1, xi.2.1)) (hlen : xi.2.1 = xlenOf xi.1 xi.2.1)
    (h : xst cl fty fdef nL xi pc L st S = some fr) (hR : xR D cl cT s bs S H) (hS : va_S (fun q => bs ≤ q) H0 H locs) (hl : lv_has ls nL (cL bs L)) (hc : cells + (fr.2.2.2.1 - S.1) ≤ R.cells) (hs : slots + (fr.2.2.2.2.1 - S.2.1) ≤ R.slots)
    (kk : xK p l e R s m args below meth c Q D cl cT bs nL H0 cells slots S fr) : W p l e R s m args below meth c H locs cells slots Q (F0 m pc ls (st.map (cv bs))) := by
  obtain ⟨hx, hb, hml, hown, hts, hbs, hC, hini, hfr, hlo⟩ := C
  obtain ⟨ins, len, qa, qb, qz, qj⟩ := xi
  dsimp only at hok hdg hlen h
  cases ins with
  | aconst_null =>
    rw [hlen] at hdg
    cases h
    exact lv_null hx hb hdg (kk H locs ls _ _ (by simp) (by simp) hR hS hl)
  | aload i =>
    rw [hlen] at hdg
    obtain ⟨v, hv, rfl⟩ := Option.map_eq_some_iff.mp h
    rcases xldA_inv hv with ⟨x, rfl, hf⟩ | ⟨rfl, hf⟩
    · exact lv_aload hx hb hdg (xl_at hl hf) (kk H locs ls _ _ (by simp) (by simp) hR hS hl)
    · exact lv_aloadN hx hb hdg (xl_at hl hf) (kk H locs ls _ _ (by simp) (by simp) hR hS hl)
  | aload_n i =>
    rw [hlen] at hdg
    obtain ⟨v, hv, rfl⟩ := Option.map_eq_some_iff.mp h
    rcases xldA_inv hv with ⟨x, rfl, hf⟩ | ⟨rfl, hf⟩
    · exact lv_aload_n hx hb hdg rfl (xl_at hl hf) (kk H locs ls _ _ (by simp) (by simp) hR hS hl)
    · exact lv_aload_nN hx hb hdg rfl (xl_at hl hf) (kk H locs ls _ _ (by simp) (by simp) hR hS hl)
  | iload i =>
    rw [hlen] at hdg
    obtain ⟨v, hv, rfl⟩ := Option.map_eq_some_iff.mp h
    obtain ⟨x, rfl, hf⟩ := xldI_inv hv
    exact lv_iload hx hb hdg (xl_at hl hf) (kk H locs ls _ _ (by simp) (by simp) hR hS hl)
  | iload_n i =>
    rw [hlen] at hdg
    obtain ⟨v, hv, rfl⟩ := Option.map_eq_some_iff.mp h
    obtain ⟨x, rfl, hf⟩ := xldI_inv hv
    exact lv_iload_n hx hb hdg rfl (xl_at hl hf) (kk H locs ls _ _ (by simp) (by simp) hR hS hl)
  | lload i =>
    rw [hlen] at hdg
    obtain ⟨v, hv, rfl⟩ := Option.map_eq_some_iff.mp h
    obtain ⟨x, rfl, hf⟩ := xldL_inv hv
    exact lv_lload hx hb hdg (xl_at hl hf) (kk H locs ls _ _ (by simp) (by simp) hR hS hl)
  | lload_n i =>
    rw [hlen] at hdg
    obtain ⟨v, hv, rfl⟩ := Option.map_eq_some_iff.mp h
    obtain ⟨x, rfl, hf⟩ := xldL_inv hv
    exact lv_lload_n hx hb hdg rfl (xl_at hl hf) (kk H locs ls _ _ (by simp) (by simp) hR hS hl)
  | astore i =>
    rw [hlen] at hdg
    obtain ⟨v, hv, rfl⟩ := Option.map_eq_some_iff.mp h
    obtain ⟨L1, r⟩ := v
    rcases xstA_inv hv with ⟨x, rfl, hi, e1⟩ | ⟨rfl, hi, e1⟩
    · dsimp only at e1; subst e1
      exact lv_astore hx hb hdg hl hi (cL_sto1 bs L _ (.ref x)) (fun ls1 hl1 => kk H locs ls1 _ _ (by simp) (by simp) hR hS hl1)
    · dsimp only at e1; subst e1
      exact lv_astoreN hx hb hdg hl hi (cL_sto1 bs L _ .null) (fun ls1 hl1 => kk H locs ls1 _ _ (by simp) (by simp) hR hS hl1)
  | istore i =>
    rw [hlen] at hdg
    obtain ⟨v, hv, rfl⟩ := Option.map_eq_some_iff.mp h
    obtain ⟨L1, r⟩ := v
    obtain ⟨x, rfl, hi, e1⟩ := xstI_inv hv
    dsimp only at e1; subst e1
    exact lv_istore hx hb hdg hl hi (cL_sto1 bs L _ (.int x)) (fun ls1 hl1 => kk H locs ls1 _ _ (by simp) (by simp) hR hS hl1)
  | lstore i =>
    rw [hlen] at hdg
    obtain ⟨v, hv, rfl⟩ := Option.map_eq_some_iff.mp h
    obtain ⟨L1, r⟩ := v
    obtain ⟨x, rfl, hi, e1⟩ := xstL_inv hv
    dsimp only at e1; subst e1
    exact lv_lstore hx hb hdg hl hi (cL_sto2 bs L _ (.long x)) (fun ls1 hl1 => kk H locs ls1 _ _ (by simp) (by simp) hR hS hl1)
  | astore_n i =>
    rw [hlen] at hdg
    obtain ⟨v, hv, rfl⟩ := Option.map_eq_some_iff.mp h
    obtain ⟨L1, r⟩ := v
    rcases xstA_inv hv with ⟨x, rfl, hi, e1⟩ | ⟨rfl, hi, e1⟩
    · dsimp only at e1; subst e1
      exact lv_astore_n hx hb hdg rfl hl hi (cL_sto1 bs L _ (.ref x)) (fun ls1 hl1 => kk H locs ls1 _ _ (by simp) (by simp) hR hS hl1)
    · dsimp only at e1; subst e1
      exact lv_astore_nN hx hb hdg rfl hl hi (cL_sto1 bs L _ .null) (fun ls1 hl1 => kk H locs ls1 _ _ (by simp) (by simp) hR hS hl1)
  | istore_n i =>
    rw [hlen] at hdg
    obtain ⟨v, hv, rfl⟩ := Option.map_eq_some_iff.mp h
    obtain ⟨L1, r⟩ := v
    obtain ⟨x, rfl, hi, e1⟩ := xstI_inv hv
    dsimp only at e1; subst e1
    exact lv_istore_n hx hb hdg rfl hl hi (cL_sto1 bs L _ (.int x)) (fun ls1 hl1 => kk H locs ls1 _ _ (by simp) (by simp) hR hS hl1)
  | lstore_n i =>
    rw [hlen] at hdg
    obtain ⟨v, hv, rfl⟩ := Option.map_eq_some_iff.mp h
    obtain ⟨L1, r⟩ := v
    obtain ⟨x, rfl, hi, e1⟩ := xstL_inv hv
    dsimp only at e1; subst e1
    exact lv_lstore_n hx hb hdg rfl hl hi (cL_sto2 bs L _ (.long x)) (fun ls1 hl1 => kk H locs ls1 _ _ (by simp) (by simp) hR hS hl1)
  | iinc i n =>
    rw [hlen] at hdg
    unfold xst at h
    dsimp only at h
    split at h
    · rename_i x hf
      split at h
      · rename_i hi
        cases h
        obtain ⟨k, hk⟩ := List.getElem?_of_mem (List.mem_map.mpr ⟨(i, .int x), xfind_mem hf, rfl⟩ : (i, cv bs (.int x)) ∈ cL bs L)
        exact lv_iinc (x := x) hx hb hdg hl hk rfl hi (cL_sto1 bs L i (.int (x + Int32.ofInt n))) (fun ls1 hl1 => kk H locs ls1 _ _ (by simp) (by simp) hR hS hl1)
      · cases h
    · cases h
  | iconst n =>
    rw [hlen] at hdg
    cases h
    exact lv_iconst hx hb hdg rfl (kk H locs ls _ _ (by simp) (by simp) hR hS hl)
  | bipush n =>
    rw [hlen] at hdg
    cases h
    exact lv_bipush hx hb hdg rfl (kk H locs ls _ _ (by simp) (by simp) hR hS hl)
  | sipush n =>
    rw [hlen] at hdg
    cases h
    exact lv_sipush hx hb hdg rfl (kk H locs ls _ _ (by simp) (by simp) hR hS hl)
  | lconst n =>
    rw [hlen] at hdg
    cases h
    exact lv_lconst hx hb hdg rfl (kk H locs ls _ _ (by simp) (by simp) hR hS hl)
  | ldc idx =>
    rw [hlen] at hdg
    cases h
    exact lv_ldc hx hb hown (xTs hts hok) hdg (kk H locs ls _ _ (by simp) (by simp) hR hS hl)
  | ldc_w idx =>
    rw [hlen] at hdg
    cases h
    exact lv_ldcw hx hb hown (xTs hts hok) hdg (kk H locs ls _ _ (by simp) (by simp) hR hS hl)
  | ldc2_w idx =>
    rw [hlen] at hdg
    cases h
    exact lv_ldc2 hx hb hown (xTs hts hok) hdg (kk H locs ls _ _ (by simp) (by simp) hR hS hl)
  | iadd =>
    rw [hlen] at hdg
    obtain ⟨t, ht, rfl⟩ := Option.map_eq_some_iff.mp h
    obtain ⟨x, y, z, r, rfl, hz, rfl⟩ := xii_inv ht
    cases hz
    exact lv_iadd hx hb hdg (kk H locs ls _ _ (by simp) (by simp) hR hS hl)
  | isub =>
    rw [hlen] at hdg
    obtain ⟨t, ht, rfl⟩ := Option.map_eq_some_iff.mp h
    obtain ⟨x, y, z, r, rfl, hz, rfl⟩ := xii_inv ht
    cases hz
    exact lv_isub hx hb hdg (kk H locs ls _ _ (by simp) (by simp) hR hS hl)
  | imul =>
    rw [hlen] at hdg
    obtain ⟨t, ht, rfl⟩ := Option.map_eq_some_iff.mp h
    obtain ⟨x, y, z, r, rfl, hz, rfl⟩ := xii_inv ht
    cases hz
    exact lv_imul hx hb hdg (kk H locs ls _ _ (by simp) (by simp) hR hS hl)
  | iand =>
    rw [hlen] at hdg
    obtain ⟨t, ht, rfl⟩ := Option.map_eq_some_iff.mp h
    obtain ⟨x, y, z, r, rfl, hz, rfl⟩ := xii_inv ht
    cases hz
    exact lv_iand hx hb hdg (kk H locs ls _ _ (by simp) (by simp) hR hS hl)
  | ior =>
    rw [hlen] at hdg
    obtain ⟨t, ht, rfl⟩ := Option.map_eq_some_iff.mp h
    obtain ⟨x, y, z, r, rfl, hz, rfl⟩ := xii_inv ht
    cases hz
    exact lv_ior hx hb hdg (kk H locs ls _ _ (by simp) (by simp) hR hS hl)
  | ixor =>
    rw [hlen] at hdg
    obtain ⟨t, ht, rfl⟩ := Option.map_eq_some_iff.mp h
    obtain ⟨x, y, z, r, rfl, hz, rfl⟩ := xii_inv ht
    cases hz
    exact lv_ixor hx hb hdg (kk H locs ls _ _ (by simp) (by simp) hR hS hl)
  | ishl =>
    rw [hlen] at hdg
    obtain ⟨t, ht, rfl⟩ := Option.map_eq_some_iff.mp h
    obtain ⟨x, y, z, r, rfl, hz, rfl⟩ := xii_inv ht
    cases hz
    exact lv_ishl hx hb hdg (kk H locs ls _ _ (by simp) (by simp) hR hS hl)
  | ishr =>
    rw [hlen] at hdg
    obtain ⟨t, ht, rfl⟩ := Option.map_eq_some_iff.mp h
    obtain ⟨x, y, z, r, rfl, hz, rfl⟩ := xii_inv ht
    cases hz
    exact lv_ishr hx hb hdg (kk H locs ls _ _ (by simp) (by simp) hR hS hl)
  | iushr =>
    rw [hlen] at hdg
    obtain ⟨t, ht, rfl⟩ := Option.map_eq_some_iff.mp h
    obtain ⟨x, y, z, r, rfl, hz, rfl⟩ := xii_inv ht
    cases hz
    exact lv_iushr hx hb hdg rfl (kk H locs ls _ _ (by simp) (by simp) hR hS hl)
  | idiv =>
    rw [hlen] at hdg
    obtain ⟨t, ht, rfl⟩ := Option.map_eq_some_iff.mp h
    obtain ⟨x, y, z, r, rfl, hz, rfl⟩ := xii_inv ht
    split at hz
    · cases hz
    · rename_i hy
      cases hz
      exact lv_idiv hx hb hdg hy (kk H locs ls _ _ (by simp) (by simp) hR hS hl)
  | irem =>
    rw [hlen] at hdg
    obtain ⟨t, ht, rfl⟩ := Option.map_eq_some_iff.mp h
    obtain ⟨x, y, z, r, rfl, hz, rfl⟩ := xii_inv ht
    split at hz
    · cases hz
    · rename_i hy
      cases hz
      exact lv_irem hx hb hdg hy (kk H locs ls _ _ (by simp) (by simp) hR hS hl)
  | ineg =>
    rw [hlen] at hdg
    obtain ⟨t, ht, rfl⟩ := Option.map_eq_some_iff.mp h
    obtain ⟨x, r, rfl, rfl⟩ := xi1_inv ht
    exact lv_ineg hx hb hdg (kk H locs ls _ _ (by simp) (by simp) hR hS hl)
  | i2l =>
    rw [hlen] at hdg
    obtain ⟨t, ht, rfl⟩ := Option.map_eq_some_iff.mp h
    obtain ⟨x, r, rfl, rfl⟩ := xi1_inv ht
    exact lv_i2l hx hb hdg rfl (kk H locs ls _ _ (by simp) (by simp) hR hS hl)
  | l2i =>
    rw [hlen] at hdg
    obtain ⟨t, ht, rfl⟩ := Option.map_eq_some_iff.mp h
    obtain ⟨x, r, rfl, rfl⟩ := xl1_inv ht
    exact lv_l2i hx hb hdg rfl (kk H locs ls _ _ (by simp) (by simp) hR hS hl)
  | land =>
    rw [hlen] at hdg
    obtain ⟨t, ht, rfl⟩ := Option.map_eq_some_iff.mp h
    obtain ⟨x, y, r, rfl, rfl⟩ := xll_inv ht
    exact lv_land hx hb hdg (kk H locs ls _ _ (by simp) (by simp) hR hS hl)
  | lor =>
    rw [hlen] at hdg
    obtain ⟨t, ht, rfl⟩ := Option.map_eq_some_iff.mp h
    obtain ⟨x, y, r, rfl, rfl⟩ := xll_inv ht
    exact lv_lor hx hb hdg (kk H locs ls _ _ (by simp) (by simp) hR hS hl)
  | lxor =>
    rw [hlen] at hdg
    obtain ⟨t, ht, rfl⟩ := Option.map_eq_some_iff.mp h
    obtain ⟨x, y, r, rfl, rfl⟩ := xll_inv ht
    exact lv_lxor hx hb hdg (kk H locs ls _ _ (by simp) (by simp) hR hS hl)
  | lmul =>
    rw [hlen] at hdg
    obtain ⟨t, ht, rfl⟩ := Option.map_eq_some_iff.mp h
    obtain ⟨x, y, r, rfl, rfl⟩ := xll_inv ht
    exact lv_lmul hx hb hdg (kk H locs ls _ _ (by simp) (by simp) hR hS hl)
  | lcmp =>
    rw [hlen] at hdg
    obtain ⟨t, ht, rfl⟩ := Option.map_eq_some_iff.mp h
    obtain ⟨x, y, r, rfl, rfl⟩ := xll_inv ht
    exact W.lcmp hx hb hdg (kk H locs ls _ _ (by simp) (by simp) hR hS hl)
  | lshl =>
    rw [hlen] at hdg
    obtain ⟨t, ht, rfl⟩ := Option.map_eq_some_iff.mp h
    obtain ⟨x, y, r, rfl, rfl⟩ := xli_inv ht
    exact lv_lshl hx hb hdg rfl (kk H locs ls _ _ (by simp) (by simp) hR hS hl)
  | lshr =>
    rw [hlen] at hdg
    obtain ⟨t, ht, rfl⟩ := Option.map_eq_some_iff.mp h
    obtain ⟨x, y, r, rfl, rfl⟩ := xli_inv ht
    exact lv_lshr hx hb hdg rfl (kk H locs ls _ _ (by simp) (by simp) hR hS hl)
  | lushr =>
    rw [hlen] at hdg
    obtain ⟨t, ht, rfl⟩ := Option.map_eq_some_iff.mp h
    obtain ⟨x, y, r, rfl, rfl⟩ := xli_inv ht
    exact lv_lushr hx hb hdg rfl (kk H locs ls _ _ (by simp) (by simp) hR hS hl)
  | dup =>
    rw [hlen] at hdg
    unfold xst at h
    dsimp only at h
    split at h
    · rename_i v r
      split at h
      · rename_i hv
        cases h
        exact lv_dup hx hb hdg (by rw [cv_cat]; exact hv) (kk H locs ls _ _ (by simp) (by simp) hR hS hl)
      · cases h
    · cases h
  | dup2 =>
    rw [hlen] at hdg
    unfold xst at h
    dsimp only at h
    split at h
    · rename_i v w r
      split at h
      · rename_i hv
        cases h
        exact lv_dup2_11 hx hb hdg (by rw [cv_cat]; exact hv.1) (by rw [cv_cat]; exact hv.2) (kk H locs ls _ _ (by simp) (by simp) hR hS hl)
      · cases h
    · cases h
  | goto off =>
    rw [hlen] at hdg
    obtain ⟨t, ht, rfl⟩ := Option.map_eq_some_iff.mp h
    exact lv_goto hx hb hdg (xtg_spec ht) (kk H locs ls _ _ (by simp) (by simp) hR hS hl)
  | ifCond cnd off =>
    rw [hlen] at hdg
    obtain ⟨v, hv, rfl⟩ := Option.map_eq_some_iff.mp h
    obtain ⟨pc1, r⟩ := v
    obtain ⟨x, t, rfl, hoff, e1⟩ := xif_inv hv
    dsimp only at e1 kk; subst e1
    cases cnd with
    | eq =>
      refine lv_if_eq hx hb hdg hoff (fun hc9 => ?_) (fun hc9 => ?_)
      · have k9 := kk H locs ls cells slots (by simp) (by simp) hR hS hl
        rw [show xcmp .eq x 0 = true from by simp [xcmp, hc9]] at k9
        exact k9
      · have k9 := kk H locs ls cells slots (by simp) (by simp) hR hS hl
        rw [show xcmp .eq x 0 = false from by simp [xcmp, hc9]] at k9
        exact k9
    | ne =>
      refine lv_if_ne hx hb hdg hoff (fun hc9 => ?_) (fun hc9 => ?_)
      · have k9 := kk H locs ls cells slots (by simp) (by simp) hR hS hl
        rw [show xcmp .ne x 0 = true from by simp [xcmp, hc9]] at k9
        exact k9
      · have k9 := kk H locs ls cells slots (by simp) (by simp) hR hS hl
        rw [show xcmp .ne x 0 = false from by simp [xcmp, hc9]] at k9
        exact k9
    | lt =>
      refine lv_if_lt hx hb hdg hoff (fun hc9 => ?_) (fun hc9 => ?_)
      · have k9 := kk H locs ls cells slots (by simp) (by simp) hR hS hl
        rw [show xcmp .lt x 0 = true from by simp [xcmp, hc9]] at k9
        exact k9
      · have k9 := kk H locs ls cells slots (by simp) (by simp) hR hS hl
        rw [show xcmp .lt x 0 = false from by simp [xcmp, hc9]] at k9
        exact k9
    | ge =>
      refine lv_if_ge hx hb hdg hoff (fun hc9 => ?_) (fun hc9 => ?_)
      · have k9 := kk H locs ls cells slots (by simp) (by simp) hR hS hl
        rw [show xcmp .ge x 0 = true from by simp [xcmp, hc9]] at k9
        exact k9
      · have k9 := kk H locs ls cells slots (by simp) (by simp) hR hS hl
        rw [show xcmp .ge x 0 = false from by simp [xcmp, hc9]] at k9
        exact k9
    | gt =>
      refine lv_if_gt hx hb hdg hoff (fun hc9 => ?_) (fun hc9 => ?_)
      · have k9 := kk H locs ls cells slots (by simp) (by simp) hR hS hl
        rw [show xcmp .gt x 0 = true from by simp [xcmp, hc9]] at k9
        exact k9
      · have k9 := kk H locs ls cells slots (by simp) (by simp) hR hS hl
        rw [show xcmp .gt x 0 = false from by simp [xcmp, hc9]] at k9
        exact k9
    | le =>
      refine lv_if_le hx hb hdg hoff (fun hc9 => ?_) (fun hc9 => ?_)
      · have k9 := kk H locs ls cells slots (by simp) (by simp) hR hS hl
        rw [show xcmp .le x 0 = true from by simp [xcmp, hc9]] at k9
        exact k9
      · have k9 := kk H locs ls cells slots (by simp) (by simp) hR hS hl
        rw [show xcmp .le x 0 = false from by simp [xcmp, hc9]] at k9
        exact k9
  | if_icmp cnd off =>
    rw [hlen] at hdg
    obtain ⟨v, hv, rfl⟩ := Option.map_eq_some_iff.mp h
    obtain ⟨pc1, r⟩ := v
    obtain ⟨x, y, t, rfl, hoff, e1⟩ := xicmp_inv hv
    dsimp only at e1 kk; subst e1
    cases cnd with
    | eq =>
      refine lv_icmp_eq hx hb hdg hoff (fun hc9 => ?_) (fun hc9 => ?_)
      · have k9 := kk H locs ls cells slots (by simp) (by simp) hR hS hl
        rw [show xcmp .eq x y = true from by simp [xcmp, hc9]] at k9
        exact k9
      · have k9 := kk H locs ls cells slots (by simp) (by simp) hR hS hl
        rw [show xcmp .eq x y = false from by simp [xcmp, hc9]] at k9
        exact k9
    | ne =>
      refine lv_icmp_ne hx hb hdg hoff (fun hc9 => ?_) (fun hc9 => ?_)
      · have k9 := kk H locs ls cells slots (by simp) (by simp) hR hS hl
        rw [show xcmp .ne x y = true from by simp [xcmp, hc9]] at k9
        exact k9
      · have k9 := kk H locs ls cells slots (by simp) (by simp) hR hS hl
        rw [show xcmp .ne x y = false from by simp [xcmp, hc9]] at k9
        exact k9
    | lt =>
      refine lv_icmp_lt hx hb hdg hoff (fun hc9 => ?_) (fun hc9 => ?_)
      · have k9 := kk H locs ls cells slots (by simp) (by simp) hR hS hl
        rw [show xcmp .lt x y = true from by simp [xcmp, hc9]] at k9
        exact k9
      · have k9 := kk H locs ls cells slots (by simp) (by simp) hR hS hl
        rw [show xcmp .lt x y = false from by simp [xcmp, hc9]] at k9
        exact k9
    | ge =>
      refine lv_icmp_ge hx hb hdg hoff (fun hc9 => ?_) (fun hc9 => ?_)
      · have k9 := kk H locs ls cells slots (by simp) (by simp) hR hS hl
        rw [show xcmp .ge x y = true from by simp [xcmp, hc9]] at k9
        exact k9
      · have k9 := kk H locs ls cells slots (by simp) (by simp) hR hS hl
        rw [show xcmp .ge x y = false from by simp [xcmp, hc9]] at k9
        exact k9
    | gt =>
      refine lv_icmp_gt hx hb hdg hoff (fun hc9 => ?_) (fun hc9 => ?_)
      · have k9 := kk H locs ls cells slots (by simp) (by simp) hR hS hl
        rw [show xcmp .gt x y = true from by simp [xcmp, hc9]] at k9
        exact k9
      · have k9 := kk H locs ls cells slots (by simp) (by simp) hR hS hl
        rw [show xcmp .gt x y = false from by simp [xcmp, hc9]] at k9
        exact k9
    | le =>
      refine lv_icmp_le hx hb hdg hoff (fun hc9 => ?_) (fun hc9 => ?_)
      · have k9 := kk H locs ls cells slots (by simp) (by simp) hR hS hl
        rw [show xcmp .le x y = true from by simp [xcmp, hc9]] at k9
        exact k9
      · have k9 := kk H locs ls cells slots (by simp) (by simp) hR hS hl
        rw [show xcmp .le x y = false from by simp [xcmp, hc9]] at k9
        exact k9
  | ifnull off =>
    rw [hlen] at hdg
    obtain ⟨v, hv, rfl⟩ := Option.map_eq_some_iff.mp h
    obtain ⟨pc1, r⟩ := v
    obtain ⟨t, hoff, hcase⟩ := xnul_inv hv
    rcases hcase with ⟨rfl, e1⟩ | ⟨x, rfl, e1⟩
    · dsimp only at e1; subst e1
      exact lv_ifnullN hx hb hdg hoff (kk H locs ls _ _ (by simp) (by simp) hR hS hl)
    · dsimp only at e1; subst e1
      exact lv_ifnull hx hb hdg (kk H locs ls _ _ (by simp) (by simp) hR hS hl)
  | ifnonnull off =>
    rw [hlen] at hdg
    obtain ⟨v, hv, rfl⟩ := Option.map_eq_some_iff.mp h
    obtain ⟨pc1, r⟩ := v
    obtain ⟨t, hoff, hcase⟩ := xnul_inv hv
    rcases hcase with ⟨rfl, e1⟩ | ⟨x, rfl, e1⟩
    · dsimp only at e1; subst e1
      exact lv_ifnonnullN hx hb hdg (kk H locs ls _ _ (by simp) (by simp) hR hS hl)
    · dsimp only at e1; subst e1
      exact lv_ifnonnull hx hb hdg hoff (kk H locs ls _ _ (by simp) (by simp) hR hS hl)
  | tableswitch d lo hi offs =>
    obtain ⟨v, hv, rfl⟩ := Option.map_eq_some_iff.mp h
    obtain ⟨pc1, r⟩ := v
    obtain ⟨x, rfl, hcase⟩ := xtab_inv hv
    rcases hcase with ⟨hx1, ht⟩ | ⟨hx1, hx2, off, ho, ht⟩
    · exact lv_tableOut hx hb hdg hx1 ht (kk H locs ls _ _ (by simp) (by simp) hR hS hl)
    · exact lv_tableIn hx hb hdg hx1 hx2 ho ht (kk H locs ls _ _ (by simp) (by simp) hR hS hl)
  | lookupswitch d ps =>
    obtain ⟨v, hv, rfl⟩ := Option.map_eq_some_iff.mp h
    obtain ⟨pc1, r⟩ := v
    obtain ⟨x, rfl, hp, ht⟩ := xlook_inv hv
    exact lv_lookup hx hb hdg hp rfl ht (kk H locs ls _ _ (by simp) (by simp) hR hS hl)
  | iaload =>
    rw [hlen] at hdg
    obtain ⟨t, ht, rfl⟩ := Option.map_eq_some_iff.mp h
    obtain ⟨i, a, r, n, f, rfl, ha, hi, rfl⟩ := xiald_inv ht
    exact xw_iald hx hb hR ha hi hdg (kk H locs ls _ _ (by simp) (by simp) hR hS hl)
  | baload =>
    rw [hlen] at hdg
    obtain ⟨t, ht, rfl⟩ := Option.map_eq_some_iff.mp h
    obtain ⟨i, a, r, n, f, rfl, ha, hi, rfl⟩ := xzald_inv ht
    exact xw_zald hx hb hR ha hi hdg (kk H locs ls _ _ (by simp) (by simp) hR hS hl)
  | laload =>
    rw [hlen] at hdg
    obtain ⟨t, ht, rfl⟩ := Option.map_eq_some_iff.mp h
    obtain ⟨i, a, r, n, f, rfl, ha, hi, rfl⟩ := xlald_inv ht
    exact xw_lald hx hb hR ha hi hdg (kk H locs ls _ _ (by simp) (by simp) hR hS hl)
  | aaload =>
    rw [hlen] at hdg
    obtain ⟨t, ht, rfl⟩ := Option.map_eq_some_iff.mp h
    obtain ⟨i, a, r, C, n, f, rfl, ha, hi, rfl⟩ := xaald_inv ht
    exact xw_aald hx hb hR ha hi hdg (kk H locs ls _ _ (by simp) (by simp) hR hS hl)
  | arraylength =>
    rw [hlen] at hdg
    obtain ⟨t, ht, rfl⟩ := Option.map_eq_some_iff.mp h
    obtain ⟨a, r, ty, x, rfl, ha, rfl⟩ := xlen_inv ht
    exact xw_alen hx hb hR ha hdg (kk H locs ls _ _ (by simp) (by simp) hR hS hl)
  | iastore =>
    rw [hlen] at hdg
    obtain ⟨v, hv, rfl⟩ := Option.map_eq_some_iff.mp h
    obtain ⟨r, S1⟩ := v
    obtain ⟨x, i, a, n, f, rfl, ha, hi, e1⟩ := xiast_inv hv
    dsimp only at e1; subst e1
    exact xw_iast hx hb hR hS ha hi hdg (fun H1 locs1 hR1 hS1 => kk H1 locs1 ls _ _ (by simp [xput]) (by simp [xput]) hR1 hS1 hl)
  | bastore =>
    rw [hlen] at hdg
    obtain ⟨v, hv, rfl⟩ := Option.map_eq_some_iff.mp h
    obtain ⟨r, S1⟩ := v
    obtain ⟨x, i, a, n, f, rfl, ha, hi, e1⟩ := xzast_inv hv
    dsimp only at e1; subst e1
    exact xw_zast hx hb hR hS ha hi hdg (fun H1 locs1 hR1 hS1 => kk H1 locs1 ls _ _ (by simp [xput]) (by simp [xput]) hR1 hS1 hl)
  | lastore =>
    rw [hlen] at hdg
    obtain ⟨v, hv, rfl⟩ := Option.map_eq_some_iff.mp h
    obtain ⟨r, S1⟩ := v
    obtain ⟨x, i, a, n, f, rfl, ha, hi, e1⟩ := xlast_inv hv
    dsimp only at e1; subst e1
    exact xw_last hx hb hR hS ha hi hdg (fun H1 locs1 hR1 hS1 => kk H1 locs1 ls _ _ (by simp [xput]) (by simp [xput]) hR1 hS1 hl)
  | aastore =>
    rw [hlen] at hdg
    obtain ⟨v, hv, rfl⟩ := Option.map_eq_some_iff.mp h
    obtain ⟨r, S1⟩ := v
    obtain ⟨v, i, a, rr, n, f, ci, vs, rfl, ha, hv2, hcl, hi, e1⟩ := xaast_inv hv
    dsimp only at e1; subst e1
    exact xw_aast hx hb hR hS ha hv2 hcl hi hdg (fun H1 locs1 hR1 hS1 => kk H1 locs1 ls _ _ (by simp [xput]) (by simp [xput]) hR1 hS1 hl)
  | getfield idx =>
    rw [hlen] at hdg
    obtain ⟨t, ht, rfl⟩ := Option.map_eq_some_iff.mp h
    obtain ⟨a, r, fs, v, rfl, ha, hv, rfl⟩ := xgetf_inv ht
    unfold xok at hok
    dsimp only at hok ha hv
    split at hok
    · rename_i q hq
      simp only [Bool.and_eq_true, decide_eq_true_eq] at hok
      exact xw_get hx hb hts hC hown hR ha hq hok.1 hv (List.mem_of_getElem? hok.2) hdg (kk H locs ls _ _ (by simp) (by simp) hR hS hl)
    · cases hok
  | putfield idx =>
    rw [hlen] at hdg
    obtain ⟨v, hv, rfl⟩ := Option.map_eq_some_iff.mp h
    obtain ⟨r, S1⟩ := v
    obtain ⟨v, a, fs, rfl, ha, hk, hn, hf, e1⟩ := xputf_inv hv
    dsimp only at e1 ha hk hn hf; subst e1
    unfold xok at hok
    dsimp only at hok
    split at hok
    · rename_i q hq
      simp only [Bool.and_eq_true, decide_eq_true_eq, Bool.or_eq_true, Bool.not_eq_true'] at hok
      refine xw_put hx hb hts hC hown hR hS ha hq hok.1.1 hk hn hf ?_ (List.mem_of_getElem? hok.1.2) hdg (fun H1 locs1 hR1 hS1 => kk H1 locs1 ls _ _ (by simp [xput]) (by simp [xput]) hR1 hS1 hl)
      rcases hok.2 with h9 | h9
      · exact Or.inl h9
      · cases hz : (q.2.1 qb).2.2.2
        · exact Or.inl rfl
        · exact Or.inr ⟨rfl, hini h9.1, h9.2⟩
    · cases hok
  | newarray a =>
    rw [hlen] at hdg
    obtain ⟨v, hv, rfl⟩ := Option.map_eq_some_iff.mp h
    unfold xnewa at hv
    split at hv
    · rename_i n r
      split at hv
      · cases hv
      · rename_i hn
        unfold xok at hok
        dsimp only at hok
        cases a with
        | int =>
          obtain ⟨S1, hw, hq⟩ := Option.map_eq_some_iff.mp hv
          cases hq
          have e0 := (xnew_spec hw).1
          have d1 : S1.1 = S.1 + 1 := by rw [e0]
          have d2 : S1.2.1 = S.2.1 + n.toNatClampNeg := by rw [e0]
          dsimp only at hc hs
          have hcb : componentBytes .int ≤ 8 := by decide +kernel
          have hmul := Nat.mul_le_mul_left n.toNatClampNeg hcb
          have hn2 : ¬ 65536 < n.toNatClampNeg := fun z => hn (Or.inr z)
          exact xw_newa (ty := .int) hx hb (xTs hts hok) rfl hR hS (fun cA => rfl) (fun z => hn (Or.inl z)) (by omega) (by rw [d1] at hc; omega) (by rw [d2] at hs; omega) hw hdg (fun H1 hR1 hS1 => kk H1 locs ls _ _ (by dsimp only; rw [d1]; omega) (by dsimp only; rw [d2]; omega) hR1 hS1 hl)
        | boolean =>
          obtain ⟨S1, hw, hq⟩ := Option.map_eq_some_iff.mp hv
          cases hq
          have e0 := (xnew_spec hw).1
          have d1 : S1.1 = S.1 + 1 := by rw [e0]
          have d2 : S1.2.1 = S.2.1 + n.toNatClampNeg := by rw [e0]
          dsimp only at hc hs
          have hcb : componentBytes .boolean ≤ 8 := by decide +kernel
          have hmul := Nat.mul_le_mul_left n.toNatClampNeg hcb
          have hn2 : ¬ 65536 < n.toNatClampNeg := fun z => hn (Or.inr z)
          exact xw_newa (ty := .boolean) hx hb (xTs hts hok) rfl hR hS (fun cA => rfl) (fun z => hn (Or.inl z)) (by omega) (by rw [d1] at hc; omega) (by rw [d2] at hs; omega) hw hdg (fun H1 hR1 hS1 => kk H1 locs ls _ _ (by dsimp only; rw [d1]; omega) (by dsimp only; rw [d2]; omega) hR1 hS1 hl)
        | long =>
          obtain ⟨S1, hw, hq⟩ := Option.map_eq_some_iff.mp hv
          cases hq
          have e0 := (xnew_spec hw).1
          have d1 : S1.1 = S.1 + 1 := by rw [e0]
          have d2 : S1.2.1 = S.2.1 + n.toNatClampNeg := by rw [e0]
          dsimp only at hc hs
          have hcb : componentBytes .long ≤ 8 := by decide +kernel
          have hmul := Nat.mul_le_mul_left n.toNatClampNeg hcb
          have hn2 : ¬ 65536 < n.toNatClampNeg := fun z => hn (Or.inr z)
          exact xw_newa (ty := .long) hx hb (xTs hts hok) rfl hR hS (fun cA => rfl) (fun z => hn (Or.inl z)) (by omega) (by rw [d1] at hc; omega) (by rw [d2] at hs; omega) hw hdg (fun H1 hR1 hS1 => kk H1 locs ls _ _ (by dsimp only; rw [d1]; omega) (by dsimp only; rw [d2]; omega) hR1 hS1 hl)
        | _ => cases hv
    · cases hv
  | anewarray idx =>
    rw [hlen] at hdg
    unfold xst at h
    dsimp only at h
    split at h
    · rename_i q hq
      obtain ⟨v, hv, rfl⟩ := Option.map_eq_some_iff.mp h
      unfold xok at hok
      dsimp only at hok
      rw [hq] at hok
      simp only [Bool.and_eq_true] at hok
      unfold xnewq at hv
      split at hv
      · rename_i n r
        split at hv
        · cases hv
        · rename_i hn
          obtain ⟨S1, hw, hq2⟩ := Option.map_eq_some_iff.mp hv
          cases hq2
          have e0 := (xnew_spec hw).1
          have d1 : S1.1 = S.1 + 1 := by rw [e0]
          have d2 : S1.2.1 = S.2.1 + n.toNatClampNeg := by rw [e0]
          dsimp only at hc hs
          have hn2 : ¬ 65536 < n.toNatClampNeg := fun z => hn (Or.inr z)
          exact xw_newq hx hb hown (xTs hts hok.1) (xTs hbs hok.2) hR hS (fun z => hn (Or.inl z)) (by omega) (by rw [d1] at hc; omega) (by rw [d2] at hs; omega) hw hdg (fun H1 hR1 hS1 => kk H1 locs ls _ _ (by dsimp only; rw [d1]; omega) (by dsimp only; rw [d2]; omega) hR1 hS1 hl)
      · cases hv
    · cases h
  | new idx =>
    rw [hlen] at hdg
    unfold xst at h
    dsimp only at h
    split at h
    · rename_i q hq
      obtain ⟨S1, hw, rfl⟩ := Option.map_eq_some_iff.mp h
      unfold xok at hok
      dsimp only at hok
      rw [hq] at hok
      simp only [Bool.and_eq_true, decide_eq_true_eq] at hok
      have e0 := (xnew_spec hw).1
      have d1 : S1.1 = S.1 + 1 := by rw [e0]
      have d2 : S1.2.1 = S.2.1 + q.2.2 := by rw [e0]
      dsimp only at hc hs
      exact xw_new hx hb hts hC hown hR hS hq hw (List.mem_of_getElem? hok.1.1) (List.mem_of_getElem? hok.1.2) (List.mem_of_getElem? hok.2) (by rw [d1] at hc; omega) (by rw [d2] at hs; omega) hdg (fun H1 hR1 hS1 => kk H1 locs ls _ _ (by dsimp only; rw [d1]; omega) (by dsimp only; rw [d2]; omega) hR1 hS1 hl)
    · cases h
  | invokespecial idx =>
    rw [hlen] at hdg
    unfold xst at h
    dsimp only at h
    unfold xok at hok
    dsimp only at hok
    split at h
    · rename_i hqa
      rw [if_pos hqa] at hok
      simp only [Bool.and_eq_true] at hok
      obtain ⟨v, hv, rfl⟩ := Option.map_eq_some_iff.mp h
      unfold xsp at hv
      split at hv
      · cases hv
      · rename_i hw
        rw [if_pos rfl] at hv
        split at hv
        · rename_i a r
          cases hv
          have hws : xw r ≤ 16 := by unfold xw at hw ⊢; simp [Value.category] at hw ⊢; omega
          exact W.objInit hx hb hown (xTs hts hok.1.1) (xTs hts hok.1.2) (xTs hts hok.2) rfl (by rw [hml]; exact hl.1) rfl hdg hfr (by rw [cv_sum]; show 2 * 0 + _ + _ ≤ _; omega) (kk H locs ls _ _ (by simp) (by simp) hR hS hl)
        · cases hv
    · cases h
  | invokestatic idx =>
    rw [hlen] at hdg
    unfold xst at h
    dsimp only at h
    unfold xok at hok
    dsimp only at hok
    split at h
    · cases h
    · rename_i hqo
      obtain ⟨v, hv, rfl⟩ := Option.map_eq_some_iff.mp h
      unfold xsp at hv
      split at hv
      · cases hv
      · rename_i hw
        split at hv
        · rename_i h1
          rw [if_pos h1] at hok
          simp only [Bool.and_eq_true] at hok
          obtain ⟨t, ht, e9⟩ := Option.map_eq_some_iff.mp hv
          cases e9
          obtain ⟨x, y, z, r, rfl, hz, rfl⟩ := xii_inv ht
          cases hz
          have hws : xw r ≤ 16 := by unfold xw at hw ⊢; simp [Value.category] at hw ⊢; omega
          exact va_mmax hx hb (by rw [hml]; exact hl.1.symm) hown (xTs hts hok.1.1.1) (xTs hts hok.1.1.2) (xTs hts hok.1.2) (xTs hts hok.2) hfr (by rw [cv_sum]; omega) (by simp at hc; omega) (by simp at hs; omega) hdg (kk H locs ls _ _ (by simp) (by simp) hR hS hl)
        · rename_i h1
          rw [if_neg h1] at hok
          split at hv
          · rename_i h2
            rw [if_pos h2] at hok
            simp only [Bool.and_eq_true] at hok
            obtain ⟨t, ht, e9⟩ := Option.map_eq_some_iff.mp hv
            cases e9
            obtain ⟨x, y, z, r, rfl, hz, rfl⟩ := xii_inv ht
            cases hz
            have hws : xw r ≤ 16 := by unfold xw at hw ⊢; simp [Value.category] at hw ⊢; omega
            exact va_mmin hx hb (by rw [hml]; exact hl.1.symm) hown (xTs hts hok.1.1.1) (xTs hts hok.1.1.2) (xTs hts hok.1.2) (xTs hts hok.2) hfr (by rw [cv_sum]; omega) (by simp at hc; omega) (by simp at hs; omega) hdg (kk H locs ls _ _ (by simp) (by simp) hR hS hl)
          · rename_i h2
            rw [if_neg h2] at hok
            split at hv
            · rename_i h3
              rw [if_pos h3] at hok
              simp only [Bool.and_eq_true] at hok
              obtain ⟨r, S1⟩ := v
              obtain ⟨n, dp, a, sp, a0, n0, n1, f, g, rfl, hq0, hq1, i1, i2, i3, i4, i5, e1⟩ := xcpy_inv hv
              dsimp only at e1; subst e1
              have hws : xw r ≤ 16 := by unfold xw at hw ⊢; simp [Value.category] at hw ⊢; omega
              have h7 : xw r + (nativeFrameWords "java/lang/System" "arraycopy" 5 + 11) ≤ R.locals := by omega
              exact xw_copy hx hb (by rw [hml]; exact hl.1.symm) hown (xTs hts hok.1.1.1) (xTs hts hok.1.1.2) (xTs hts hok.1.2) (xTs hts hok.2) hR hS hq0 hq1 i1 i2 i3 i4 i5 hfr (by rw [cv_sum]; exact h7) hdg (fun H1 locs1 hR1 hS1 => kk H1 locs1 ls _ _ (by simp [xput]) (by simp [xput]) hR1 hS1 hl)
            · cases hv
  | _ => cases h
end XST
end
section
/-! Whole methods of the small machine: a run of a body over what its callees answer; then the callees by depth. -/
/-- a method: (name, bytes, locals, answer), (how many arguments, the receiver counts; 0 static 1 virtual 2 constructor 3 a nest mate's constructor; its class's number; its words' place), (frames, words of locals), its instructions by pc, its handlers -/
abbrev xM : Type := (MethodName × ByteArray × Nat × Option FieldType) × (Nat × Nat × Nat × Nat) × (Nat × Nat) × List (Option xI) × List (Nat × Nat × Nat × Nat)
abbrev xnm (M : xM) : MethodName := M.1.1
abbrev xbc (M : xM) : ByteArray := M.1.2.1
abbrev xmx (M : xM) : Nat := M.1.2.2.1
abbrev xrt (M : xM) : Option FieldType := M.1.2.2.2
abbrev xna (M : xM) : Nat := M.2.1.1
abbrev xkd (M : xM) : Nat := M.2.1.2.1
abbrev xcn (M : xM) : Nat := M.2.1.2.2.1
abbrev xwp (M : xM) : Nat := M.2.1.2.2.2
abbrev xfr (M : xM) : Nat := M.2.2.1.1
abbrev xlo (M : xM) : Nat := M.2.2.1.2
abbrev xcd (M : xM) : List (Option xI) := M.2.2.2.1
abbrev xhs (M : xM) : List (Nat × Nat × Nat × Nat) := M.2.2.2.2
def xcw (M : xM) : Cond := match xhs M with
  | [] => .code (xnm M) (xbc M) (xmx M) (xrt M)
  | _ => .codeWith (xnm M) (xbc M) (xmx M) (xrt M) (xhs M)
/-- an answer -/
def xend (M : xM) (i : Instr) (st : List Value) : Option (Option Value) := match i with
  | .ireturn => (match st, xrt M with
    | [.int v], some ty => if xfit ty (.int v) = true then some (some (.int v)) else none
    | _, _ => none)
  | .lreturn => (match st, xrt M with
    | [.long v], some .long => some (some (.long v))
    | _, _ => none)
  | .areturn => (match st, xrt M with
    | [.ref a], some (.object _) => some (some (.ref a))
    | [.null], some (.object _) => some (some .null)
    | _, _ => none)
  | .return_ => (match st, xrt M with
    | [], none => some none
    | _, _ => none)
  | _ => none
/-- the receiver, of the class that the method is of -/
def xrcv (S : xS) (ci : Nat) (vs : List Value) : Bool := match vs with
  | .ref b :: _ => (match xat S b with
    | some (.inr (some (cj, _))) => decide (cj = ci)
    | _ => false)
  | _ => false
def xrf1 (vs : List Value) : Bool := match vs with
  | .ref _ :: _ => true
  | _ => false
/-- the arguments of a call, and what lies below them -/
def xargs (N : xM) (i : Instr) (st : List Value) (S : xS) : Option (List Value × List Value) :=
  if xna N ≤ st.length ∧ xw (st.drop (xna N)) ≤ 8 then
    (match i with
    | .invokestatic _ => if xkd N = 0 then some ((st.take (xna N)).reverse, st.drop (xna N)) else none
    | .invokevirtual _ => if xkd N = 1 ∧ xrcv S (xcn N) (st.take (xna N)).reverse = true then some ((st.take (xna N)).reverse, st.drop (xna N)) else none
    | .invokespecial _ => if (xkd N = 2 ∨ xkd N = 3) ∧ xrf1 (st.take (xna N)).reverse = true then some ((st.take (xna N)).reverse, st.drop (xna N)) else none
    | _ => none)
  else none
def xcal (prog : List xM) (xi : xI) (st : List Value) (S : xS) : Option (List Value × List Value) := match prog[xi.2.2.1]? with
  | some N => xargs N xi.1 st S
  | none => none
/-- 'throw new' of a kind of exception -/
def xthr (M : xM) (xi : xI) (st : List Value) (S : xS) : Option (Nat × xS) := match xi.1 with
  | .new _ => if 1000 ≤ xi.2.2.1 ∧ xw st ≤ 8 ∧ xhs M = [] then (xnew S (.inr none) 6).map fun S' => (xi.2.2.1 - 1000, S') else none
  | _ => none
/-- the handler that takes a kind of exception -/
def xhand (ck : Nat → Option Nat) : List (Nat × Nat × Nat × Nat) → Nat → Nat → Option Nat
  | [], _, _ => none
  | (a, b, h, t) :: r, pc, k => if a ≤ pc ∧ pc < b ∧ ck t = some k ∧ k < 3 then some h else xhand ck r pc k
def xfil (L : xL) (i : Nat) : xL := L.filter (fun q => !(q.1 == i) && !(q.1 + 1 == i && q.2.category == 2))
/-- the handler's first instruction lays the exception into a local: behind it nothing is known of that local -/
def xhp (M : xM) (hp : Nat) (L : xL) : Option (Nat × xL) := match (xcd M)[hp]? with
  | some (some xi) => if xi.2.1 = xlenOf xi.1 xi.2.1 then (match xi.1 with
    | .astore i => if i < xmx M then some (hp + 2, xfil L i) else none
    | .astore_n i => if i.val < xmx M then some (hp + 1, xfil L i.val) else none
    | _ => none) else none
  | _ => none
def xisp : Instr → Bool
  | .invokespecial _ => true
  | _ => false
def xrun (cl : List vw_C) (fty : Nat → Nat → FieldType) (fdef : Nat → List Value) (ck : Nat → Option Nat) (prog : List xM) (M : xM) (ex : Nat → List Value → xS → Option (xO × xS)) : Nat → Nat → xL → List Value → xS → Option (xO × xS)
  | 0, _, _, _, _ => none
  | f + 1, pc, L, st, S => match (xcd M)[pc]? with
    | some (some xi) =>
      if xi.2.1 = xlenOf xi.1 xi.2.1 then
        match xend M xi.1 st with
        | some v => some (.inl v, S)
        | none => match xcal prog xi st S with
          | some (vs, r) => (match ex xi.2.2.1 vs S with
            | some (.inl v, S1) => xrun cl fty fdef ck prog M ex f (pc + 3) L (v.toList ++ r) S1
            | some (.inr k, S1) => if xisp xi.1 = true then none else (match xhs M with
              | [] => some (.inr k, S1)
              | _ => (match xhand ck (xhs M) pc k with
                | some hp => (match xhp M hp L with
                  | some (pc', L') => xrun cl fty fdef ck prog M ex f pc' L' [] S1
                  | none => none)
                | none => none))
            | none => none)
          | none => (match xthr M xi st S with
            | some (k, S1) => some (.inr k, S1)
            | none => (match xst cl fty fdef (xmx M) xi pc L st S with
              | some (pc', L', st', S') => xrun cl fty fdef ck prog M ex f pc' L' st' S'
              | none => none))
      else none
    | _ => none
def xsl (vs : List Value) : Nat := xw vs
/-- a method, its callees by depth -/
def xex (cl : List vw_C) (fty : Nat → Nat → FieldType) (fdef : Nat → List Value) (ck : Nat → Option Nat) (prog : List xM) : Nat → Nat → Nat → List Value → xS → Option (xO × xS)
  | 0, _, _, _, _ => none
  | d + 1, F, a, vs, S => match prog[a]? with
    | some M => if xw vs ≤ xmx M then xrun cl fty fdef ck prog M (xex cl fty fdef ck prog d F) F 0 (lv_args 0 vs) [] S else none
    | none => none
/-! What a method's run says of the machine -/
/-- words that go along with the tables as they warm, though not every list may hold them -/
def xBw : Cond → Bool
  | .arrayOver (.object _) => true
  | .declares _ => true
  | .castable _ _ => true
  | .methodLinkNest _ _ _ _ => true
  | _ => false
theorem xBw_use {w : Cond} (hw : xBw w = true) {A : Array Value} {U : State} (h : va_Nw w U) : w.before A U = true := by
  unfold xBw at hw
  split at hw
  · exact va_AO.use h
  · exact va_Nw.use rfl h
  · exact va_Nw.use rfl h
  · exact va_Nw.use rfl h
  · cases hw
theorem xBw_warm {w : Cond} (hw : xBw w = true) {s U : State} (hW : s.WarmedH U.vm) (h : va_Nw w s) : va_Nw w U := by
  unfold xBw at hw
  split at hw
  · exact va_AO.moved hW.alike h
  · exact va_Nw.warmD hW h
  · exact va_Nw.warmC hW h
  · exact va_Nw.warmM hW h
  · cases hw
/-- what must be there for a throw, a catch and other links, besides the words -/
abbrev xE : Type := List (String × Nat × String) × List Cond × List (String × String)
def xTh (E : xE) (bs : Nat) (U : State) (H : Heap) : Prop := vx_Zq Bundle.tN "UNASSIGNED_STACK" Bundle.steD (fun q => bs ≤ q) U H ∧ vx_Zq Bundle.tN "SUPPRESSED_SENTINEL" Bundle.listD (fun q => bs ≤ q) U H ∧ (∀ q ∈ E.1, ∃ sa : Nat, vk_R q.1 q.2.1 q.2.2 sa U) ∧ (∀ w ∈ E.2.1, va_Nw w U) ∧ ∀ q ∈ E.2.2, va_Nc q.1 q.2 U
theorem xTh.moved {E : xE} (hE : ∀ w ∈ E.2.1, xBw w = true) {bs : Nat} {s U : State} {H : Heap} (hW : s.WarmedH U.vm) (h : xTh E bs s H) : xTh E bs U H :=
  ⟨vx_Zq.moved hW.alike h.1, vx_Zq.moved hW.alike h.2.1, fun q hq => by obtain ⟨sa, z⟩ := h.2.2.1 q hq; exact ⟨sa, vk_R.warm hW z⟩, fun w hw => xBw_warm (hE w hw) hW (h.2.2.2.1 w hw), fun q hq => (h.2.2.2.2 q hq).moved hW.alike⟩
theorem xTh.kept {E : xE} {bs : Nat} {s : State} {H H1 : Heap} (h : xTh E bs s H) (hq : ∀ a : Nat, a < H.size → ¬ bs ≤ a → H1[a]? = H[a]?) : xTh E bs s H1 :=
  ⟨h.1.kept hq, h.2.1.kept hq, h.2.2⟩
def xPc (E : xE) (D : va_G) (cl : List vw_C) (cT : FieldType → ClassId) (bs : Nat) (vs : List Value) (S : xS) : Array Value → State → Prop := va_Pc (vs.map (cv bs)) (fun U => xR D cl cT U bs S U.heap ∧ xTh E bs U U.heap)
def xQr (D : va_G) (cl : List vw_C) (cT : FieldType → ClassId) (bs : Nat) (v : Option Value) (S : xS) : Array Value → State → Outcome → State → Prop := fun _ st oc t => oc = .returned (v.map (cv bs)) ∧ xR D cl cT t bs S t.heap ∧ va_F (fun q => bs ≤ q) st t
def xQx (exN : Nat → String) (D : va_G) (cl : List vw_C) (cT : FieldType → ClassId) (bs : Nat) (k : Nat) (S : xS) : String → State → State → Prop := fun E st t => E = exN k ∧ xR D cl cT t bs S t.heap ∧ va_F (fun q => bs ≤ q) st t
def xNo : Array Value → State → Outcome → State → Prop := fun _ _ _ _ => False
def xrm (M : xM) (S S' : xS) : Room := { frames := xfr M, cells := S'.1 - S.1, slots := S'.2.1 - S.2.1, locals := xlo M }
/-- the contract of one run -/
def xMt (E : xE) (exN : Nat → String) (Ts : List Cond) (l : Launch) (D : va_G) (cl : List vw_C) (cT : FieldType → ClassId) (bs : Nat) (M : xM) (vs : List Value) (S : xS) (o : xO) (S' : xS) : Prop := match o with
  | .inl v => Met l (xnm M) (xcw M :: Ts) (xrm M S S') (xPc E D cl cT bs vs S) (xQr D cl cT bs v S') (S'.1 - S.1) (S'.2.1 - S.2.1) (fun q => bs ≤ q)
  | .inr k => vx_Met l (xnm M) (xcw M :: Ts) (xrm M S S') (xPc E D cl cT bs vs S) xNo (xQx exN D cl cT bs k S') (S'.1 - S.1) (S'.2.1 - S.2.1) (fun q => bs ≤ q)
theorem xPc_blind {E : xE} (hE : ∀ w ∈ E.2.1, xBw w = true) {D : va_G} {cl : List vw_C} {cT : FieldType → ClassId} {bs : Nat} {vs : List Value} {S : xS} : FrameBlind (xPc E D cl cT bs vs S) := by
  intro a U g mk q
  obtain ⟨q0, q1, q2⟩ := q
  exact ⟨q0, xR.moved (s := U) (U := U.calling g mk a) (Vm.Alike.refl U.vm) q1, vx_Zq.moved (u := U) (U := U.calling g mk a) (Vm.Alike.refl U.vm) q2.1, vx_Zq.moved (u := U) (U := U.calling g mk a) (Vm.Alike.refl U.vm) q2.2.1, fun w hw => by obtain ⟨sa, z⟩ := q2.2.2.1 w hw; exact ⟨sa, vk_R.same (u := U) rfl z⟩, fun w hw => xBw_warm (U := U.calling g mk a) (hE w hw) (State.WarmedH.refl U) (q2.2.2.2.1 w hw), fun w hw => (q2.2.2.2.2 w hw).moved (Vm.Alike.refl U.vm)⟩
section XCL
variable {p : Program} {l : Launch} {e : Env} {R : Room} {s : State} {m : MethodId} {args : Array Value} {below : List Frame} {meth : Method} {c : Code} {H : Heap} {locs : List Loc} {cells slots mc ms : Nat} {Q : State → Prop}
variable {cc : ByteArray} {pc : Nat} {ls : Array Slot} {st0 rest : List Value} {D : va_G} {cl : List vw_C} {cT : FieldType → ClassId} {bs : Nat} {S : xS} {H0 : Heap} {a : Array Value}
theorem xw_ret {v : Option Value} (hr : va_Run p l e R s m args below meth c H locs cells slots mc ms (F0 m pc ls st0) rest (xQr D cl cT bs v S a) (fun q => bs ≤ q)) (hS : va_S (fun q => bs ≤ q) H0 H locs)
    (kk : ∀ (H1 : Heap) (locs1 : List Loc), xR D cl cT s bs S H1 → va_S (fun q => bs ≤ q) H0 H1 locs1 → W p l e R s m args below meth c H1 locs1 (cells + mc) (slots + ms) Q (F0 m (pc + 3) ls ((v.map (cv bs)).toList ++ rest))) : W p l e R s m args below meth c H locs cells slots Q (F0 m pc ls st0) := by
  intro T hT X
  obtain ⟨v', st₀, t, T', L, h0, X', hL, e1, e2, ⟨hv, hR', hF⟩, st⟩ := hr T hT X
  cases hv
  obtain ⟨k1, k2, k3⟩ := vx_keep h0 e1 hS (fun q _ h => h) (fun q h => h) hL hF
  have hal : s.vm.Alike t.vm := by rw [← e2]; exact X'.warmed.alike
  obtain ⟨t2, a1, b1⟩ := kk T'.heap (locs ++ L) (by rw [e1]; exact hR'.moved hal.symm) k3 T' rfl X'
  exact ⟨t2, st t2 a1, b1⟩
theorem xw_thr {exN : Nat → String} {k : Nat} (hr : vx_Run p l e R s m args below meth c H locs cells slots mc ms (F0 m pc ls st0) rest (xNo a) (xQx exN D cl cT bs k S) (fun q => bs ≤ q)) (hS : va_S (fun q => bs ≤ q) H0 H locs)
    (kx : ∀ (H1 : Heap) (locs1 : List Loc) (q : Addr) (ce : Cell), xR D cl cT s bs S H1 → va_S (fun q => bs ≤ q) H0 H1 locs1 → H1[q]? = some ce → ce.vm = .none → s.vm.findClass (exN k) = some ce.cls → vx_W p l e R s m args below meth c H1 locs1 (cells + mc) (slots + ms) Q (F0 m pc ls rest) q) : W p l e R s m args below meth c H locs cells slots Q (F0 m pc ls st0) := by
  intro T hT X
  rcases hr T hT X with ⟨v, st₀, t, T', L, h0, X', hL, e1, e2, hno, st⟩ | ⟨q, st₀, t, T', L, E, ce, h0, X', hL, e1, e2, ⟨hE, hR', hF⟩, hce, hcv, hcl, st⟩
  · exact hno.elim
  · subst hE
    obtain ⟨k1, k2, k3⟩ := vx_keep h0 e1 hS (fun q _ h => h) (fun q h => h) hL hF
    have hal : s.vm.Alike t.vm := by rw [← e2]; exact X'.warmed.alike
    obtain ⟨t2, a1, b1⟩ := kx T'.heap (locs ++ L) q ce (by rw [e1]; exact hR'.moved hal.symm) k3 (by rw [e1]; exact hce) hcv hcl T' rfl X'
    exact ⟨t2, st.trans a1, b1⟩
end XCL
end
section
/-! The small machine's runs are the machine's. -/
/-- a call's words and room -/
def xcok (Ts Bs : List Cond) (own host : String) (M N : xM) (idx : Nat) (xi : xI) : Bool :=
  (if xkd N = 3 then decide (Bs[xi.2.2.2.2.2]? = some (Cond.methodLinkNest own idx (xnm N) host)) else decide (Ts[xi.2.2.2.2.2]? = some (Cond.methodLink own idx (xnm N)))) &&
  decide (xfr N + 1 ≤ xfr M) && decide (8 + (xmx N + 11) + xlo N ≤ xlo M) && decide (xhs N = [])
/-- what a run needs of the program beside the tables: the classes of the exceptions, the classes above them, the handlers' types, the throws' words -/
abbrev xG : Type := (Nat → String) × List String × (Nat → Option Nat) × List (String × Nat × Nat) × String
abbrev xexN (G : xG) : Nat → String := G.1
abbrev xnms (G : xG) : List String := G.2.1
abbrev xck (G : xG) : Nat → Option Nat := G.2.2.1
abbrev xths (G : xG) : List (String × Nat × Nat) := G.2.2.2.1
abbrev xhost (G : xG) : String := G.2.2.2.2
/-- a throw's words, room and instructions -/
def xtok (G : xG) (E : xE) (Ts : List Cond) (M : xM) (pc idx : Nat) (xi : xI) : Bool :=
  decide (Ts[xi.2.2.2.2.2]? = some (Cond.classLink (xnm M).cls idx (xexN G (xi.2.2.1 - 1000)))) && decide (Ts[xi.2.2.2.2.2 + 1]? = some (Cond.initialized (xexN G (xi.2.2.1 - 1000)))) &&
  decide (((xnm M).cls, xi.2.2.2.2.1.toNat, xi.2.2.1 - 1000) ∈ xths G) && E.1.any (fun q => decide (q.1 = (xnm M).cls) && decide (q.2.1 = xi.2.2.2.1)) &&
  decide ((xnms G).length + 3 < xfr M) && decide (8 + (13 * ((xnms G).length + 1) + 43) ≤ xlo M) &&
  decide (decode (xbc M) (pc + 3) = .ok (.dup, 1)) &&
  ((decide (decode (xbc M) (pc + 4) = .ok (.ldc xi.2.2.2.1, 2)) && decide (decode (xbc M) (pc + 6) = .ok (.invokespecial xi.2.2.2.2.1.toNat, 3)) && decide (decode (xbc M) (pc + 9) = .ok (.athrow, 1))) ||
   (decide (decode (xbc M) (pc + 4) = .ok (.ldc_w xi.2.2.2.1, 3)) && decide (decode (xbc M) (pc + 7) = .ok (.invokespecial xi.2.2.2.2.1.toNat, 3)) && decide (decode (xbc M) (pc + 10) = .ok (.athrow, 1))))
def xokc (G : xG) (E : xE) (Ts : List Cond) (prog : List xM) (M : xM) (pc : Nat) (xi : xI) : Bool := match xi.1 with
  | .invokestatic idx => (match prog[xi.2.2.1]? with
    | some N => xcok Ts E.2.1 (xnm M).cls (xhost G) M N idx xi
    | none => true)
  | .invokevirtual idx => (match prog[xi.2.2.1]? with
    | some N => xcok Ts E.2.1 (xnm M).cls (xhost G) M N idx xi
    | none => true)
  | .invokespecial idx => (match prog[xi.2.2.1]? with
    | some N => xcok Ts E.2.1 (xnm M).cls (xhost G) M N idx xi
    | none => true)
  | .new idx => if 1000 ≤ xi.2.2.1 then xtok G E Ts M pc idx xi else true
  | _ => true
/-- a method's own words and numbers -/
def xmok (cl : List vw_C) (Ts : List Cond) (N : xM) : Bool :=
  plainName (xnm N).cls && decide ((xnm N).cls ≠ "java/lang/invoke/MethodHandle") && decide ((xnm N).cls ≠ "java/lang/invoke/VarHandle") &&
  decide (Ts[xwp N]? = some (if xkd N = 0 then Cond.static (xnm N) else Cond.instanceMethod (xnm N))) && decide (Ts[xwp N + 1]? = some (Cond.initialized (xnm N).cls)) && decide (Ts[xwp N + 2]? = some (xcw N)) &&
  (if xkd N = 0 then decide ((parseMethodDescriptor (xnm N).desc).map (fun d => d.parameters.length) = some (xna N)) else decide (1 ≤ xna N) && decide ((parseMethodDescriptor (xnm N).desc).map (fun d => d.parameters.length) = some (xna N - 1))) &&
  (if xkd N = 1 then decide (Ts[xwp N + 3]? = some (Cond.selects (xnm N).cls (xnm N) (xnm N))) && decide ((cl[xcn N]?).map (fun q => q.1) = some (xnm N).cls) else true) &&
  (if 2 ≤ xkd N then decide ((xnm N).name = "<init>") && decide (xrt N = none) else true) && decide (1 ≤ xfr N) && decide (16 + 12 + (nativeFrameWords "java/lang/System" "arraycopy" 5 + 11) ≤ xlo N) && decide (xkd N ≤ 3)
/-- the program is as the small machine takes it -/
def xPg (cl : List vw_C) (fty : Nat → Nat → FieldType) (fdef : Nat → List Value) (G : xG) (E : xE) (Ts : List Cond) (prog : List xM) : Prop :=
  xCls cl fty fdef Ts ∧ Ts.all goodWord = true ∧ (∀ w ∈ E.2.1, xBw w = true) ∧ (∀ M ∈ prog, xmok cl Ts M = true) ∧
  (∀ M ∈ prog, ∀ (pc : Nat) (xi : xI), (xcd M)[pc]? = some (some xi) → decode (xbc M) pc = .ok (xi.1, xi.2.1) ∧ xok cl Ts E.2.1 (xnm M).cls (decide (2 ≤ xkd M)) xi = true ∧ xokc G E Ts prog M pc xi = true) ∧
  (∀ q ∈ xths G, Bundle.fit (xexN G q.2.2) = true ∧ (∀ n ∈ xnms G, Bundle.fit n = true) ∧ (∀ w ∈ vx_atS q.1 q.2.1 (xexN G q.2.2) (xnms G), (w ∈ Ts ∨ w ∈ E.2.1) ∧ vx_ot w = true)) ∧
  (∀ M ∈ prog, ∀ h ∈ xhs M, h.2.2.2 ≠ 0 ∧ ∃ (k : Nat) (nm : String), xck G h.2.2.2 = some k ∧ Cond.classLink (xnm M).cls h.2.2.2 nm ∈ Ts ∧ Cond.castable (xexN G k) nm ∈ E.2.1 ∧ ∀ k2 : Nat, k2 < 3 → k2 ≠ k → (xexN G k2, nm) ∈ E.2.2)
section XSD
variable {p : Program} {l : Launch} {e : Env} {R : Room} {s : State} {m : MethodId} {args : Array Value} {below : List Frame} {meth : Method} {c : Code} {H : Heap} {locs : List Loc} {cells slots : Nat} {Q : State → Prop}
variable {pc : Nat} {ls : Array Slot} {D : va_G} {cl : List vw_C} {cT : FieldType → ClassId} {bs : Nat} {H0 : Heap} {fty : Nat → Nat → FieldType} {fdef : Nat → List Value} {Ts : List Cond} {G : xG} {E : xE} {prog : List xM} {M N : xM}
/-- the end of a body -/
def xEnd (G : xG) (D : va_G) (cl : List vw_C) (cT : FieldType → ClassId) (bs : Nat) (below : List Frame) (args : Array Value) (s : State) (o : xO) (S' : xS) (mc ms : Nat) : State → Prop := match o with
  | .inl v => MQ below (xQr D cl cT bs v S') args s mc ms (fun q => bs ≤ q)
  | .inr k => vx_MQ below xNo (xQx (xexN G) D cl cT bs k S') args s mc ms (fun q => bs ≤ q)
theorem xgood (hG : Ts.all goodWord = true) (hc : xcw N ∈ Ts) : GoodIn Ts (xcw N :: Ts) := by
  refine goodIn_sub (fun w hw => ?_) ?_
  · rcases List.mem_cons.mp hw with rfl | h
    · exact hc
    · exact h
  · rw [List.all_cons, hG, Bool.and_true]
    exact List.all_eq_true.mp hG _ hc
theorem xrev {st : List Value} {n : Nat} {bs : Nat} (h : n ≤ st.length) : (st.map (cv bs)) = ((st.take n).reverse.map (cv bs)).reverse ++ (st.drop n).map (cv bs) := by
  rw [List.map_reverse, List.reverse_reverse, ← List.map_append, List.take_append_drop]
/-- a call, whatever comes of it -/
theorem xw_call (hP : xPg cl fty fdef G E Ts prog) (hM : M ∈ prog) (C : xCx cl fty fdef Ts E.2.1 (xnm M).cls (decide (2 ≤ xkd M)) (xbc M) (xmx M) p R s m args meth c) (hRf : xfr M ≤ R.frames) (hRl : xlo M ≤ R.locals)
    {xi : xI} (hat : (xcd M)[pc]? = some (some xi)) (hlen : xi.2.1 = xlenOf xi.1 xi.2.1) {st vs r : List Value} {S S1 : xS} (hcal : xcal prog xi st S = some (vs, r)) {o : xO} (hno : xisp xi.1 = true → ∀ k, o ≠ .inr k)
    (hX : ∀ N : xM, prog[xi.2.2.1]? = some N → xMt E (xexN G) Ts l D cl cT bs N vs S o S1) (hR : xR D cl cT s bs S H) (hT : xTh E bs s s.heap) (hS : va_S (fun q => bs ≤ q) s.heap H locs) (hl : ls.size = xmx M) (hc : cells + (S1.1 - S.1) ≤ R.cells) (hs : slots + (S1.2.1 - S.2.1) ≤ R.slots)
    (kr : ∀ (v : Option Value) (H1 : Heap) (locs1 : List Loc), o = .inl v → xR D cl cT s bs S1 H1 → va_S (fun q => bs ≤ q) s.heap H1 locs1 → W p l e R s m args below meth c H1 locs1 (cells + (S1.1 - S.1)) (slots + (S1.2.1 - S.2.1)) Q (F0 m (pc + 3) ls ((v.toList ++ r).map (cv bs))))
    (kx : ∀ (k : Nat) (H1 : Heap) (locs1 : List Loc) (q : Addr) (ce : Cell), o = .inr k → xR D cl cT s bs S1 H1 → va_S (fun q => bs ≤ q) s.heap H1 locs1 → H1[q]? = some ce → ce.vm = .none → s.vm.findClass (xexN G k) = some ce.cls → vx_W p l e R s m args below meth c H1 locs1 (cells + (S1.1 - S.1)) (slots + (S1.2.1 - S.2.1)) Q (F0 m pc ls (r.map (cv bs))) q) :
    W p l e R s m args below meth c H locs cells slots Q (F0 m pc ls (st.map (cv bs))) := by
  obtain ⟨hx, hb, hml, hown, hts, hbs, hC, hini, -, -⟩ := C
  obtain ⟨-, hgw, hbw, hmok, hins, -, -⟩ := hP
  obtain ⟨hdg, -, hokc⟩ := hins M hM pc xi hat
  unfold xcal at hcal
  split at hcal
  · rename_i N hN
    have hMt := hX N hN
    have hNok := hmok N (List.mem_of_getElem? hN)
    unfold xmok at hNok
    simp only [Bool.and_eq_true, decide_eq_true_eq] at hNok
    obtain ⟨⟨⟨⟨⟨⟨⟨⟨⟨⟨⟨n1, n2⟩, n3⟩, n4⟩, n5⟩, n6⟩, n7⟩, n8⟩, n9⟩, -⟩, -⟩, -⟩ := hNok
    have hcw : xcw N ∈ Ts := List.mem_of_getElem? n6
    have hini' : (Cond.initialized (xnm N).cls).before args s = true := hts _ (List.mem_of_getElem? n5)
    have hkd := hts _ (List.mem_of_getElem? n4)
    have hgi : GoodIn Ts (xcw N :: Ts) := xgood hgw hcw
    unfold xargs at hcal
    split at hcal
    · rename_i hna
      have hst := xrev (bs := bs) hna.1
      have hblind := xPc_blind (E := E) hbw (D := D) (cl := cl) (cT := cT) (bs := bs) (vs := vs) (S := S)
      have hpre : ∀ U : State, U.heap = H → s.WarmedH U.vm → xPc E D cl cT bs vs S (vs.map (cv bs)).toArray U := fun U hU hW =>
        ⟨rfl, by rw [hU]; exact hR.moved hW.alike, by rw [hU]; exact (hT.kept hS.2.1).moved hbw hW⟩
      have hrw : (((r.map (cv bs)).map fun v => v.category).sum) = xw r := cv_sum bs r
      split at hcal
      · -- static
        rename_i idx hi
        split at hcal
        · rename_i hk
          cases hcal
          have hcx : xcok Ts E.2.1 (xnm M).cls (xhost G) M N idx xi = true := by
            unfold xokc at hokc
            rw [hi] at hokc
            dsimp only at hokc
            rw [hN] at hokc
            exact hokc
          unfold xcok at hcx
          simp only [Bool.and_eq_true, decide_eq_true_eq] at hcx
          obtain ⟨⟨⟨x1, x2⟩, x3⟩, x4⟩ := hcx
          have hcode : xcw N = Cond.code (xnm N) (xbc N) (xmx N) (xrt N) := by unfold xcw; rw [x4]
          have hroom : (xrm N S S1).frames + 1 ≤ R.frames ∧ 8 + (xmx N + 11) + (xrm N S S1).locals ≤ R.locals := ⟨Nat.le_trans x2 hRf, Nat.le_trans x3 hRl⟩
          rw [hi] at hlen hdg
          rw [if_neg (by rw [hk]; decide)] at x1
          rw [if_pos hk] at n7 hkd
          have n7 := of_decide_eq_true n7
          rw [show xi.2.1 = 3 from hlen] at hdg
          have hCB : CallB R s args (xnm M).cls idx (xnm N) (xbc N) (xmx N) (xrt N) (xcw N :: Ts) (xrm N S S1) (S1.1 - S.1) (S1.2.1 - S.2.1) (xna N) :=
            callB_of (xna N) hts hgi (by rw [hcode]) rfl rfl hini' (hts _ (List.mem_of_getElem? (of_decide_eq_true x1))) ⟨n2, n3, n7⟩ hroom
          have hlenA : ((st.take (xna N)).reverse.map (cv bs)).length = xna N := by rw [List.length_map, List.length_reverse, List.length_take]; omega
          cases o with
          | inl v =>
            refine xw_ret (va_runS (As := (st.take (xna N)).reverse.map (cv bs)) (rest := (st.drop (xna N)).map (cv bs)) ⟨hx, hb, hml, hown, hts⟩ hMt ⟨hCB, hkd⟩ ⟨hblind, hpre⟩ rfl hlenA hl hst (lv_room (by rw [hrw]; exact hna.2)) hdg ⟨hc, hs⟩) hS (fun H1 locs1 hR1 hS1 => ?_)
            have := kr v H1 locs1 rfl hR1 hS1
            rw [List.map_append] at this
            cases v <;> exact this
          | inr k =>
            exact xw_thr (vx_runS (As := (st.take (xna N)).reverse.map (cv bs)) (rest := (st.drop (xna N)).map (cv bs)) ⟨hx, hb, hml, hown, hts⟩ hMt ⟨hCB, hkd⟩ ⟨hblind, hpre⟩ rfl hlenA hl hst (lv_room (by rw [hrw]; exact hna.2)) hdg ⟨hc, hs⟩) hS (fun H1 locs1 q ce hR1 hS1 h1 h2 h3 => kx k H1 locs1 q ce rfl hR1 hS1 h1 h2 h3)
        · cases hcal
      · -- virtual
        rename_i idx hi
        split at hcal
        · rename_i hk
          cases hcal
          have hcx : xcok Ts E.2.1 (xnm M).cls (xhost G) M N idx xi = true := by
            unfold xokc at hokc
            rw [hi] at hokc
            dsimp only at hokc
            rw [hN] at hokc
            exact hokc
          unfold xcok at hcx
          simp only [Bool.and_eq_true, decide_eq_true_eq] at hcx
          obtain ⟨⟨⟨x1, x2⟩, x3⟩, x4⟩ := hcx
          have hcode : xcw N = Cond.code (xnm N) (xbc N) (xmx N) (xrt N) := by unfold xcw; rw [x4]
          have hroom : (xrm N S S1).frames + 1 ≤ R.frames ∧ 8 + (xmx N + 11) + (xrm N S S1).locals ≤ R.locals := ⟨Nat.le_trans x2 hRf, Nat.le_trans x3 hRl⟩
          rw [hi] at hlen hdg
          rw [if_neg (by rw [hk.1]; decide)] at x1
          rw [if_neg (by rw [hk.1]; decide)] at n7 hkd
          rw [if_pos hk.1] at n8
          simp only [Bool.and_eq_true, decide_eq_true_eq] at n7 n8
          rw [show xi.2.1 = 3 from hlen] at hdg
          have hCB : CallB R s args (xnm M).cls idx (xnm N) (xbc N) (xmx N) (xrt N) (xcw N :: Ts) (xrm N S S1) (S1.1 - S.1) (S1.2.1 - S.2.1) (xna N - 1) :=
            callB_of (xna N - 1) hts hgi (by rw [hcode]) rfl rfl hini' (hts _ (List.mem_of_getElem? (of_decide_eq_true x1))) ⟨n2, n3, n7.2⟩ hroom
          have hsel := hts _ (List.mem_of_getElem? n8.1)
          have hrv := hk.2
          have hlt : ((st.take (xna N)).reverse).length = xna N := by rw [List.length_reverse, List.length_take]; omega
          generalize hvs : (st.take (xna N)).reverse = vs at hst hblind hpre hMt hrv hlt ⊢
          unfold xrcv at hrv
          split at hrv
          · rename_i b As
            split at hrv
            · rename_i cj fs hxb
              have hcj := of_decide_eq_true hrv
              subst hcj
              obtain ⟨r9, hr9, cell, g1, g2, g3, -⟩ := hR.2.2.2 b _ hxb
              have hq9 : r9.1 = (xnm N).cls := by
                have := n8.2
                rw [hr9] at this
                simpa using this
              have hcls : s.vm.findClass (xnm N).cls = some cell.cls := by rw [← hq9, g2]; exact (hR.2.1.1 _ r9 hr9).2.1
              have hst2 : st.map (cv bs) = (As.map (cv bs)).reverse ++ .ref (bs + b) :: (st.drop (xna N)).map (cv bs) := by
                rw [hst, List.map_cons, List.reverse_cons, List.append_assoc]
                rfl
              have hla : (As.map (cv bs)).length = xna N - 1 := by
                rw [List.length_cons] at hlt
                rw [List.length_map]
                omega
              have hpv : PreV s H (xnm N).cls (bs + b) (xPc E D cl cT bs (.ref b :: As) S) (As.map (cv bs)) := ⟨hblind, ⟨cell, g1, by rw [g3]; rfl, hcls⟩, hpre⟩
              cases o with
              | inl v =>
                refine xw_ret (va_runV (C := (xnm N).cls) (b := bs + b) (As := As.map (cv bs)) (rest := (st.drop (xna N)).map (cv bs)) ⟨hx, hb, hml, hown, hts⟩ hMt ⟨hCB, hkd, hsel⟩ hpv rfl hla hl hst2 (lv_room (by rw [hrw]; exact hna.2)) hdg ⟨hc, hs⟩) hS (fun H1 locs1 hR1 hS1 => ?_)
                have := kr v H1 locs1 rfl hR1 hS1
                rw [List.map_append] at this
                cases v <;> exact this
              | inr k =>
                exact xw_thr (vx_runV (C := (xnm N).cls) (b := bs + b) (As := As.map (cv bs)) (rest := (st.drop (xna N)).map (cv bs)) ⟨hx, hb, hml, hown, hts⟩ hMt ⟨hCB, hkd, hsel⟩ hpv rfl hla hl hst2 (lv_room (by rw [hrw]; exact hna.2)) hdg ⟨hc, hs⟩) hS (fun H1 locs1 q ce hR1 hS1 h1 h2 h3 => kx k H1 locs1 q ce rfl hR1 hS1 h1 h2 h3)
            · cases hrv
          · cases hrv
        · cases hcal
      · -- a constructor
        rename_i idx hi
        split at hcal
        · rename_i hk
          cases hcal
          have hcx : xcok Ts E.2.1 (xnm M).cls (xhost G) M N idx xi = true := by
            unfold xokc at hokc
            rw [hi] at hokc
            dsimp only at hokc
            rw [hN] at hokc
            exact hokc
          unfold xcok at hcx
          simp only [Bool.and_eq_true, decide_eq_true_eq] at hcx
          obtain ⟨⟨⟨x1, x2⟩, x3⟩, x4⟩ := hcx
          have hcode : xcw N = Cond.code (xnm N) (xbc N) (xmx N) (xrt N) := by unfold xcw; rw [x4]
          have hroom : (xrm N S S1).frames + 1 ≤ R.frames ∧ 8 + (xmx N + 11) + (xrm N S S1).locals ≤ R.locals := ⟨Nat.le_trans x2 hRf, Nat.le_trans x3 hRl⟩
          rw [hi] at hlen hdg
          have hk0 : ¬ xkd N = 0 := by rcases hk.1 with h | h <;> rw [h] <;> decide
          have hk2 : 2 ≤ xkd N := by rcases hk.1 with h | h <;> rw [h] <;> decide
          rw [if_neg hk0] at n7 hkd
          rw [if_pos hk2] at n9
          simp only [Bool.and_eq_true, decide_eq_true_eq] at n7 n9
          rw [show xi.2.1 = 3 from hlen] at hdg
          have hrv := hk.2
          have hlt : ((st.take (xna N)).reverse).length = xna N := by rw [List.length_reverse, List.length_take]; omega
          generalize hvs : (st.take (xna N)).reverse = vs at hst hblind hpre hMt hrv hlt ⊢
          unfold xrf1 at hrv
          split at hrv
          · rename_i b As
            have hst2 : st.map (cv bs) = (As.map (cv bs)).reverse ++ .ref (bs + b) :: (st.drop (xna N)).map (cv bs) := by
              rw [hst, List.map_cons, List.reverse_cons, List.append_assoc]
              rfl
            have hla : (As.map (cv bs)).length = xna N - 1 := by
              rw [List.length_cons] at hlt
              rw [List.length_map]
              omega
            have hcode0 : xcw N = Cond.code (xnm N) (xbc N) (xmx N) none := by rw [hcode, n9.2]
            have hps : PreS s H (xPc E D cl cT bs (.ref b :: As) S) (.ref (bs + b) :: As.map (cv bs)) := ⟨hblind, hpre⟩
            cases o with
            | inl v =>
              have run : va_Run p l e R s m args below meth c H locs cells slots (S1.1 - S.1) (S1.2.1 - S.2.1) (F0 m pc ls (st.map (cv bs))) ((st.drop (xna N)).map (cv bs)) (xQr D cl cT bs v S1 (Value.ref (bs + b) :: As.map (cv bs)).toArray) (fun q => bs ≤ q) := by
                by_cases h3 : xkd N = 3
                · rw [if_pos h3] at x1
                  have hnest := hbs _ (List.mem_of_getElem? (of_decide_eq_true x1))
                  exact va_runIN (b := bs + b) (As := As.map (cv bs)) ⟨hx, hb, hml, hown, hts⟩ hMt ⟨va_cnB (xna N - 1) hts hgi (by rw [hcode0]) rfl rfl (va_Nw.of rfl hnest) hini' ⟨n2, n3, n7.2⟩ hroom, n9.1, hkd⟩ hps rfl hla hl hst2 (lv_room (by rw [hrw]; exact hna.2)) hdg ⟨hc, hs⟩
                · rw [if_neg h3] at x1
                  exact va_runI (b := bs + b) (As := As.map (cv bs)) ⟨hx, hb, hml, hown, hts⟩ hMt ⟨callB_of (xna N - 1) hts hgi (by rw [hcode0]) rfl rfl hini' (hts _ (List.mem_of_getElem? (of_decide_eq_true x1))) ⟨n2, n3, n7.2⟩ hroom, n9.1, hkd⟩ hps rfl hla hl hst2 (lv_room (by rw [hrw]; exact hna.2)) hdg ⟨hc, hs⟩
              refine xw_ret run hS (fun H1 locs1 hR1 hS1 => ?_)
              have := kr v H1 locs1 rfl hR1 hS1
              rw [List.map_append] at this
              cases v <;> exact this
            | inr k => exact absurd rfl (hno (by rw [hi]; rfl) k)
          · cases hrv
        · cases hcal
      · cases hcal
    · cases hcal
  · cases hcal
end XSD
end
section
/-! How the counts go: a step, a run, a method never take cells away. -/
set_option maxHeartbeats 4000000 in
set_option maxRecDepth 100000 in
theorem xst_mono {cl : List vw_C} {fty : Nat → Nat → FieldType} {fdef : Nat → List Value} {nL : Nat} {xi : xI} {pc : Nat} {L : xL} {st : List Value} {S : xS} {fr : xF} (h : xst cl fty fdef nL xi pc L st S = some fr) : S.1 ≤ fr.2.2.2.1 ∧ S.2.1 ≤ fr.2.2.2.2.1 := by
  obtain ⟨ins, len, qa, qb, qz, qj⟩ := xi
  cases ins with
  | aconst_null =>
    cases h
    exact ⟨Nat.le_refl _, Nat.le_refl _⟩
  | iconst n =>
    cases h
    exact ⟨Nat.le_refl _, Nat.le_refl _⟩
  | bipush n =>
    cases h
    exact ⟨Nat.le_refl _, Nat.le_refl _⟩
  | sipush n =>
    cases h
    exact ⟨Nat.le_refl _, Nat.le_refl _⟩
  | lconst n =>
    cases h
    exact ⟨Nat.le_refl _, Nat.le_refl _⟩
  | ldc n =>
    cases h
    exact ⟨Nat.le_refl _, Nat.le_refl _⟩
  | ldc_w n =>
    cases h
    exact ⟨Nat.le_refl _, Nat.le_refl _⟩
  | ldc2_w n =>
    cases h
    exact ⟨Nat.le_refl _, Nat.le_refl _⟩
  | aload i =>
    obtain ⟨_, _, rfl⟩ := Option.map_eq_some_iff.mp h
    exact ⟨Nat.le_refl _, Nat.le_refl _⟩
  | aload_n i =>
    obtain ⟨_, _, rfl⟩ := Option.map_eq_some_iff.mp h
    exact ⟨Nat.le_refl _, Nat.le_refl _⟩
  | iload i =>
    obtain ⟨_, _, rfl⟩ := Option.map_eq_some_iff.mp h
    exact ⟨Nat.le_refl _, Nat.le_refl _⟩
  | iload_n i =>
    obtain ⟨_, _, rfl⟩ := Option.map_eq_some_iff.mp h
    exact ⟨Nat.le_refl _, Nat.le_refl _⟩
  | lload i =>
    obtain ⟨_, _, rfl⟩ := Option.map_eq_some_iff.mp h
    exact ⟨Nat.le_refl _, Nat.le_refl _⟩
  | lload_n i =>
    obtain ⟨_, _, rfl⟩ := Option.map_eq_some_iff.mp h
    exact ⟨Nat.le_refl _, Nat.le_refl _⟩
  | astore i =>
    obtain ⟨_, _, rfl⟩ := Option.map_eq_some_iff.mp h
    exact ⟨Nat.le_refl _, Nat.le_refl _⟩
  | astore_n i =>
    obtain ⟨_, _, rfl⟩ := Option.map_eq_some_iff.mp h
    exact ⟨Nat.le_refl _, Nat.le_refl _⟩
  | istore i =>
    obtain ⟨_, _, rfl⟩ := Option.map_eq_some_iff.mp h
    exact ⟨Nat.le_refl _, Nat.le_refl _⟩
  | istore_n i =>
    obtain ⟨_, _, rfl⟩ := Option.map_eq_some_iff.mp h
    exact ⟨Nat.le_refl _, Nat.le_refl _⟩
  | lstore i =>
    obtain ⟨_, _, rfl⟩ := Option.map_eq_some_iff.mp h
    exact ⟨Nat.le_refl _, Nat.le_refl _⟩
  | lstore_n i =>
    obtain ⟨_, _, rfl⟩ := Option.map_eq_some_iff.mp h
    exact ⟨Nat.le_refl _, Nat.le_refl _⟩
  | iadd =>
    obtain ⟨_, _, rfl⟩ := Option.map_eq_some_iff.mp h
    exact ⟨Nat.le_refl _, Nat.le_refl _⟩
  | isub =>
    obtain ⟨_, _, rfl⟩ := Option.map_eq_some_iff.mp h
    exact ⟨Nat.le_refl _, Nat.le_refl _⟩
  | imul =>
    obtain ⟨_, _, rfl⟩ := Option.map_eq_some_iff.mp h
    exact ⟨Nat.le_refl _, Nat.le_refl _⟩
  | iand =>
    obtain ⟨_, _, rfl⟩ := Option.map_eq_some_iff.mp h
    exact ⟨Nat.le_refl _, Nat.le_refl _⟩
  | ior =>
    obtain ⟨_, _, rfl⟩ := Option.map_eq_some_iff.mp h
    exact ⟨Nat.le_refl _, Nat.le_refl _⟩
  | ixor =>
    obtain ⟨_, _, rfl⟩ := Option.map_eq_some_iff.mp h
    exact ⟨Nat.le_refl _, Nat.le_refl _⟩
  | ishl =>
    obtain ⟨_, _, rfl⟩ := Option.map_eq_some_iff.mp h
    exact ⟨Nat.le_refl _, Nat.le_refl _⟩
  | ishr =>
    obtain ⟨_, _, rfl⟩ := Option.map_eq_some_iff.mp h
    exact ⟨Nat.le_refl _, Nat.le_refl _⟩
  | iushr =>
    obtain ⟨_, _, rfl⟩ := Option.map_eq_some_iff.mp h
    exact ⟨Nat.le_refl _, Nat.le_refl _⟩
  | idiv =>
    obtain ⟨_, _, rfl⟩ := Option.map_eq_some_iff.mp h
    exact ⟨Nat.le_refl _, Nat.le_refl _⟩
  | irem =>
    obtain ⟨_, _, rfl⟩ := Option.map_eq_some_iff.mp h
    exact ⟨Nat.le_refl _, Nat.le_refl _⟩
  | ineg =>
    obtain ⟨_, _, rfl⟩ := Option.map_eq_some_iff.mp h
    exact ⟨Nat.le_refl _, Nat.le_refl _⟩
  | i2l =>
    obtain ⟨_, _, rfl⟩ := Option.map_eq_some_iff.mp h
    exact ⟨Nat.le_refl _, Nat.le_refl _⟩
  | l2i =>
    obtain ⟨_, _, rfl⟩ := Option.map_eq_some_iff.mp h
    exact ⟨Nat.le_refl _, Nat.le_refl _⟩
  | land =>
    obtain ⟨_, _, rfl⟩ := Option.map_eq_some_iff.mp h
    exact ⟨Nat.le_refl _, Nat.le_refl _⟩
  | lor =>
    obtain ⟨_, _, rfl⟩ := Option.map_eq_some_iff.mp h
    exact ⟨Nat.le_refl _, Nat.le_refl _⟩
  | lxor =>
    obtain ⟨_, _, rfl⟩ := Option.map_eq_some_iff.mp h
    exact ⟨Nat.le_refl _, Nat.le_refl _⟩
  | lmul =>
    obtain ⟨_, _, rfl⟩ := Option.map_eq_some_iff.mp h
    exact ⟨Nat.le_refl _, Nat.le_refl _⟩
  | lcmp =>
    obtain ⟨_, _, rfl⟩ := Option.map_eq_some_iff.mp h
    exact ⟨Nat.le_refl _, Nat.le_refl _⟩
  | lshl =>
    obtain ⟨_, _, rfl⟩ := Option.map_eq_some_iff.mp h
    exact ⟨Nat.le_refl _, Nat.le_refl _⟩
  | lshr =>
    obtain ⟨_, _, rfl⟩ := Option.map_eq_some_iff.mp h
    exact ⟨Nat.le_refl _, Nat.le_refl _⟩
  | lushr =>
    obtain ⟨_, _, rfl⟩ := Option.map_eq_some_iff.mp h
    exact ⟨Nat.le_refl _, Nat.le_refl _⟩
  | goto off =>
    obtain ⟨_, _, rfl⟩ := Option.map_eq_some_iff.mp h
    exact ⟨Nat.le_refl _, Nat.le_refl _⟩
  | ifCond c off =>
    obtain ⟨_, _, rfl⟩ := Option.map_eq_some_iff.mp h
    exact ⟨Nat.le_refl _, Nat.le_refl _⟩
  | if_icmp c off =>
    obtain ⟨_, _, rfl⟩ := Option.map_eq_some_iff.mp h
    exact ⟨Nat.le_refl _, Nat.le_refl _⟩
  | ifnull off =>
    obtain ⟨_, _, rfl⟩ := Option.map_eq_some_iff.mp h
    exact ⟨Nat.le_refl _, Nat.le_refl _⟩
  | ifnonnull off =>
    obtain ⟨_, _, rfl⟩ := Option.map_eq_some_iff.mp h
    exact ⟨Nat.le_refl _, Nat.le_refl _⟩
  | tableswitch a b c d =>
    obtain ⟨_, _, rfl⟩ := Option.map_eq_some_iff.mp h
    exact ⟨Nat.le_refl _, Nat.le_refl _⟩
  | lookupswitch a b =>
    obtain ⟨_, _, rfl⟩ := Option.map_eq_some_iff.mp h
    exact ⟨Nat.le_refl _, Nat.le_refl _⟩
  | iaload =>
    obtain ⟨_, _, rfl⟩ := Option.map_eq_some_iff.mp h
    exact ⟨Nat.le_refl _, Nat.le_refl _⟩
  | baload =>
    obtain ⟨_, _, rfl⟩ := Option.map_eq_some_iff.mp h
    exact ⟨Nat.le_refl _, Nat.le_refl _⟩
  | laload =>
    obtain ⟨_, _, rfl⟩ := Option.map_eq_some_iff.mp h
    exact ⟨Nat.le_refl _, Nat.le_refl _⟩
  | aaload =>
    obtain ⟨_, _, rfl⟩ := Option.map_eq_some_iff.mp h
    exact ⟨Nat.le_refl _, Nat.le_refl _⟩
  | arraylength =>
    obtain ⟨_, _, rfl⟩ := Option.map_eq_some_iff.mp h
    exact ⟨Nat.le_refl _, Nat.le_refl _⟩
  | getfield i =>
    obtain ⟨_, _, rfl⟩ := Option.map_eq_some_iff.mp h
    exact ⟨Nat.le_refl _, Nat.le_refl _⟩
  | iinc i n =>
    unfold xst at h
    dsimp only at h
    split at h
    · split at h
      · cases h; exact ⟨Nat.le_refl _, Nat.le_refl _⟩
      · cases h
    · cases h
  | dup =>
    unfold xst at h
    dsimp only at h
    split at h
    · split at h
      · cases h; exact ⟨Nat.le_refl _, Nat.le_refl _⟩
      · cases h
    · cases h
  | dup2 =>
    unfold xst at h
    dsimp only at h
    split at h
    · split at h
      · cases h; exact ⟨Nat.le_refl _, Nat.le_refl _⟩
      · cases h
    · cases h
  | iastore =>
    obtain ⟨v, hv, rfl⟩ := Option.map_eq_some_iff.mp h
    obtain ⟨x, i, a, n, f, -, -, -, e1⟩ := xiast_inv hv
    dsimp only
    rw [e1]
    exact ⟨Nat.le_refl _, Nat.le_refl _⟩
  | bastore =>
    obtain ⟨v, hv, rfl⟩ := Option.map_eq_some_iff.mp h
    obtain ⟨x, i, a, n, f, -, -, -, e1⟩ := xzast_inv hv
    dsimp only
    rw [e1]
    exact ⟨Nat.le_refl _, Nat.le_refl _⟩
  | lastore =>
    obtain ⟨v, hv, rfl⟩ := Option.map_eq_some_iff.mp h
    obtain ⟨x, i, a, n, f, -, -, -, e1⟩ := xlast_inv hv
    dsimp only
    rw [e1]
    exact ⟨Nat.le_refl _, Nat.le_refl _⟩
  | aastore =>
    obtain ⟨v, hv, rfl⟩ := Option.map_eq_some_iff.mp h
    obtain ⟨v, i, a, rr, n, f, ci, vs, -, -, -, -, -, e1⟩ := xaast_inv hv
    dsimp only
    rw [e1]
    exact ⟨Nat.le_refl _, Nat.le_refl _⟩
  | putfield i =>
    obtain ⟨v, hv, rfl⟩ := Option.map_eq_some_iff.mp h
    obtain ⟨v, a, fs, -, -, -, -, -, e1⟩ := xputf_inv hv
    dsimp only
    rw [e1]
    exact ⟨Nat.le_refl _, Nat.le_refl _⟩
  | newarray a =>
    obtain ⟨v, hv, rfl⟩ := Option.map_eq_some_iff.mp h
    unfold xnewa at hv
    split at hv
    · split at hv
      · cases hv
      · cases a with
        | int =>
          obtain ⟨S1, hw, hq⟩ := Option.map_eq_some_iff.mp hv
          cases hq
          obtain ⟨rfl, -⟩ := xnew_spec hw
          exact ⟨Nat.le_succ _, Nat.le_add_right _ _⟩
        | boolean =>
          obtain ⟨S1, hw, hq⟩ := Option.map_eq_some_iff.mp hv
          cases hq
          obtain ⟨rfl, -⟩ := xnew_spec hw
          exact ⟨Nat.le_succ _, Nat.le_add_right _ _⟩
        | long =>
          obtain ⟨S1, hw, hq⟩ := Option.map_eq_some_iff.mp hv
          cases hq
          obtain ⟨rfl, -⟩ := xnew_spec hw
          exact ⟨Nat.le_succ _, Nat.le_add_right _ _⟩
        | _ => cases hv
    · cases hv
  | anewarray i =>
    unfold xst at h
    dsimp only at h
    split at h
    · obtain ⟨v, hv, rfl⟩ := Option.map_eq_some_iff.mp h
      unfold xnewq at hv
      split at hv
      · split at hv
        · cases hv
        · obtain ⟨S1, hw, hq⟩ := Option.map_eq_some_iff.mp hv
          cases hq
          obtain ⟨rfl, -⟩ := xnew_spec hw
          exact ⟨Nat.le_succ _, Nat.le_add_right _ _⟩
      · cases hv
    · cases h
  | new i =>
    unfold xst at h
    dsimp only at h
    split at h
    · obtain ⟨S1, hw, rfl⟩ := Option.map_eq_some_iff.mp h
      obtain ⟨rfl, -⟩ := xnew_spec hw
      exact ⟨Nat.le_succ _, Nat.le_add_right _ _⟩
    · cases h
  | invokespecial i =>
    unfold xst at h
    dsimp only at h
    split at h
    · obtain ⟨v, hv, rfl⟩ := Option.map_eq_some_iff.mp h
      unfold xsp at hv
      split at hv
      · cases hv
      · rw [if_pos rfl] at hv
        split at hv
        · cases hv; exact ⟨Nat.le_refl _, Nat.le_refl _⟩
        · cases hv
    · cases h
  | invokestatic i =>
    unfold xst at h
    dsimp only at h
    split at h
    · cases h
    · obtain ⟨v, hv, rfl⟩ := Option.map_eq_some_iff.mp h
      unfold xsp at hv
      split at hv
      · cases hv
      · split at hv
        · obtain ⟨t, ht, e9⟩ := Option.map_eq_some_iff.mp hv
          cases e9; exact ⟨Nat.le_refl _, Nat.le_refl _⟩
        · split at hv
          · obtain ⟨t, ht, e9⟩ := Option.map_eq_some_iff.mp hv
            cases e9; exact ⟨Nat.le_refl _, Nat.le_refl _⟩
          · split at hv
            · obtain ⟨n, dp, a, sp, a0, n0, n1, f, g, -, -, -, -, -, -, -, -, e1⟩ := xcpy_inv hv
              dsimp only
              rw [e1]
              exact ⟨Nat.le_refl _, Nat.le_refl _⟩
            · cases hv
  | _ => cases h
theorem xthr_spec {M : xM} {xi : xI} {st : List Value} {S S1 : xS} {k : Nat} (h : xthr M xi st S = some (k, S1)) : (∃ i, xi.1 = .new i) ∧ 1000 ≤ xi.2.2.1 ∧ k = xi.2.2.1 - 1000 ∧ xw st ≤ 8 ∧ xhs M = [] ∧ xnew S (.inr none) 6 = some S1 := by
  unfold xthr at h
  split at h
  · rename_i i hi
    split at h
    · rename_i hc
      obtain ⟨S2, hw, e1⟩ := Option.map_eq_some_iff.mp h
      have e2 := (Prod.mk.inj e1).1
      have e3 := (Prod.mk.inj e1).2
      subst e3
      exact ⟨⟨i, hi⟩, hc.1, e2.symm, hc.2.1, hc.2.2, hw⟩
    · cases h
  · cases h
theorem xrun_mono {cl : List vw_C} {fty : Nat → Nat → FieldType} {fdef : Nat → List Value} {ck : Nat → Option Nat} {prog : List xM} {M : xM} {ex : Nat → List Value → xS → Option (xO × xS)} (hex : ∀ a vs S o S1, ex a vs S = some (o, S1) → S.1 ≤ S1.1 ∧ S.2.1 ≤ S1.2.1) :
    ∀ (f pc : Nat) (L : xL) (st : List Value) (S : xS) (o : xO) (S' : xS), xrun cl fty fdef ck prog M ex f pc L st S = some (o, S') → S.1 ≤ S'.1 ∧ S.2.1 ≤ S'.2.1 := by
  intro f
  induction f with
  | zero => intro pc L st S o S' h; cases h
  | succ f ih =>
    intro pc L st S o S' h
    unfold xrun at h
    split at h
    · split at h
      · split at h
        · cases h; exact ⟨Nat.le_refl _, Nat.le_refl _⟩
        · split at h
          · split at h
            · rename_i hx
              have h1 := hex _ _ _ _ _ hx
              have h2 := ih _ _ _ _ _ _ h
              exact ⟨Nat.le_trans h1.1 h2.1, Nat.le_trans h1.2 h2.2⟩
            · rename_i hx
              have h1 := hex _ _ _ _ _ hx
              split at h
              · cases h
              · split at h
                · cases h; exact h1
                · split at h
                  · split at h
                    · have h2 := ih _ _ _ _ _ _ h
                      exact ⟨Nat.le_trans h1.1 h2.1, Nat.le_trans h1.2 h2.2⟩
                    · cases h
                  · cases h
            · cases h
          · split at h
            · rename_i ht
              cases h
              obtain ⟨-, -, -, -, -, hw⟩ := xthr_spec ht
              obtain ⟨rfl, -⟩ := xnew_spec hw
              exact ⟨Nat.le_succ _, Nat.le_add_right _ _⟩
            · split at h
              · rename_i hs
                have h1 := xst_mono hs
                have h2 := ih _ _ _ _ _ _ h
                exact ⟨Nat.le_trans h1.1 h2.1, Nat.le_trans h1.2 h2.2⟩
              · cases h
      · cases h
    · cases h
theorem xex_mono {cl : List vw_C} {fty : Nat → Nat → FieldType} {fdef : Nat → List Value} {ck : Nat → Option Nat} {prog : List xM} {F : Nat} : ∀ (d a : Nat) (vs : List Value) (S : xS) (o : xO) (S' : xS), xex cl fty fdef ck prog d F a vs S = some (o, S') → S.1 ≤ S'.1 ∧ S.2.1 ≤ S'.2.1 := by
  intro d
  induction d with
  | zero => intro a vs S o S' h; cases h
  | succ d ih =>
    intro a vs S o S' h
    unfold xex at h
    split at h
    · split at h
      · exact xrun_mono ih F 0 _ [] S o S' h
      · cases h
    · cases h
end
section
/-! A body's run, then a method's. -/
section XAL
variable {p : Program} {l : Launch} {e : Env} {R : Room} {s : State} {m : MethodId} {args : Array Value} {below : List Frame} {meth : Method} {c : Code} {H : Heap} {locs : List Loc} {cells slots : Nat} {Q : State → Prop}
variable {pc : Nat} {ls : Array Slot} {D : va_G} {cl : List vw_C} {cT : FieldType → ClassId} {bs : Nat} {fty : Nat → Nat → FieldType} {fdef : Nat → List Value} {Ts : List Cond} {G : xG} {E : xE} {prog : List xM} {M : xM}
theorem xhand_spec {ck : Nat → Option Nat} {pc k hp : Nat} : ∀ {hs : List (Nat × Nat × Nat × Nat)}, xhand ck hs pc k = some hp → ∃ pre x suf, hs = pre ++ x :: suf ∧ x.2.2.1 = hp ∧ x.1 ≤ pc ∧ pc < x.2.1 ∧ ck x.2.2.2 = some k ∧ k < 3 ∧ ∀ z ∈ pre, ¬ (z.1 ≤ pc ∧ pc < z.2.1) ∨ ck z.2.2.2 ≠ some k := by
  intro hs
  induction hs with
  | nil => intro h; cases h
  | cons q r ih =>
    obtain ⟨a, b, h0, t⟩ := q
    intro h
    unfold xhand at h
    split at h
    · rename_i hc
      cases h
      exact ⟨[], (a, b, hp, t), r, rfl, rfl, hc.1, hc.2.1, hc.2.2.1, hc.2.2.2, fun z hz => by cases hz⟩
    · rename_i hc
      obtain ⟨pre, x, suf, e1, e2, e3, e4, e5, e6, e7⟩ := ih h
      refine ⟨(a, b, h0, t) :: pre, x, suf, by rw [e1]; rfl, e2, e3, e4, e5, e6, fun z hz => ?_⟩
      rcases List.mem_cons.mp hz with rfl | hz
      · by_cases h9 : a ≤ pc ∧ pc < b
        · exact Or.inr (fun h8 => hc ⟨h9.1, h9.2, h8, e6⟩)
        · exact Or.inl h9
      · exact e7 z hz
theorem cL_fil (bs : Nat) (L : xL) (i : Nat) : (cL bs L).filter (fun q => !(q.1 == i) && !(q.1 + 1 == i && q.2.category == 2)) = cL bs (xfil L i) := by
  unfold xfil cL
  rw [List.filter_map]
  congr 1
  apply List.filter_congr
  intro q _
  simp [cv_cat]
set_option maxHeartbeats 1000000 in
/-- from a handler's pc, the exception on the stack -/
theorem xw_hp (hP : xPg cl fty fdef G E Ts prog) (hM : M ∈ prog) (C : xCx cl fty fdef Ts E.2.1 (xnm M).cls (decide (2 ≤ xkd M)) (xbc M) (xmx M) p R s m args meth c) {hp pc' : Nat} {L L' : xL} (h : xhp M hp L = some (pc', L')) {q : Addr} (hl : lv_has ls (xmx M) (cL bs L))
    (kk : ∀ ls1 : Array Slot, lv_has ls1 (xmx M) (cL bs L') → W p l e R s m args below meth c H locs cells slots Q (F0 m pc' ls1 [])) : W p l e R s m args below meth c H locs cells slots Q (F0 m hp ls [.ref q]) := by
  obtain ⟨hx, hb, -⟩ := C
  obtain ⟨-, -, -, -, hins, -, -⟩ := hP
  unfold xhp at h
  split at h
  · rename_i xi hat
    obtain ⟨hdg, -, -⟩ := hins M hM hp xi hat
    split at h
    · rename_i hlen
      rw [hlen] at hdg
      split at h
      · rename_i i hi
        rw [hi] at hdg
        split at h
        · rename_i hlt
          cases h
          exact lv_astore hx hb hdg hl hlt rfl (fun ls1 hl1 => kk ls1 ⟨hl1.1, hl1.2.1, fun z hz => hl1.2.2 z (List.mem_cons_of_mem _ (by rw [cL_fil]; exact hz))⟩)
        · cases h
      · rename_i i hi
        rw [hi] at hdg
        split at h
        · rename_i hlt
          cases h
          exact lv_astore_n hx hb hdg rfl hl hlt rfl (fun ls1 hl1 => kk ls1 ⟨hl1.1, hl1.2.1, fun z hz => hl1.2.2 z (List.mem_cons_of_mem _ (by rw [cL_fil]; exact hz))⟩)
        · cases h
      · cases h
    · cases h
  · cases h
set_option maxHeartbeats 4000000 in
theorem xrun_sound (hP : xPg cl fty fdef G E Ts prog) (hM : M ∈ prog) (C : xCx cl fty fdef Ts E.2.1 (xnm M).cls (decide (2 ≤ xkd M)) (xbc M) (xmx M) p R s m args meth c) (hRf : xfr M ≤ R.frames) (hRl : xlo M ≤ R.locals)
    (hr : meth.sig.returnType = xrt M) (hlocks : meth.locks = false) (htab : c.exceptionTable.toList = tableOf (xhs M)) (hnt : l.stackTraces = false) (hT : xTh E bs s s.heap) {ex : Nat → List Value → xS → Option (xO × xS)}
    (hexm : ∀ a vs S o S1, ex a vs S = some (o, S1) → S.1 ≤ S1.1 ∧ S.2.1 ≤ S1.2.1) (hex : ∀ (a : Nat) (N : xM) (vs : List Value) (S : xS) (o : xO) (S1 : xS), prog[a]? = some N → ex a vs S = some (o, S1) → xMt E (xexN G) Ts l D cl cT bs N vs S o S1) :
    ∀ (f pc : Nat) (L : xL) (st : List Value) (S : xS) (o : xO) (S' : xS), xrun cl fty fdef (xck G) prog M ex f pc L st S = some (o, S') → ∀ (H : Heap) (locs : List Loc) (ls : Array Slot) (cells slots : Nat), xR D cl cT s bs S H → va_S (fun q => bs ≤ q) s.heap H locs → lv_has ls (xmx M) (cL bs L) →
      cells + (S'.1 - S.1) ≤ R.cells → slots + (S'.2.1 - S.2.1) ≤ R.slots → W p l e R s m args below meth c H locs cells slots (xEnd G D cl cT bs below args s o S' (cells + (S'.1 - S.1)) (slots + (S'.2.1 - S.2.1))) (F0 m pc ls (st.map (cv bs))) := by
  have hx := C.1
  have hb := C.2.1
  have hown := C.2.2.2.1
  have hts := C.2.2.2.2.1
  have hbs := C.2.2.2.2.2.1
  intro f
  induction f with
  | zero => intro pc L st S o S' h; cases h
  | succ f ih =>
    intro pc L st S o S' h H locs ls cells slots hR hS hl hc hs
    unfold xrun at h
    split at h
    · rename_i xi hat
      obtain ⟨hdg, hok, hokc⟩ := hP.2.2.2.2.1 M hM pc xi hat
      split at h
      · rename_i hlen
        split at h
        · -- an answer
          rename_i v hv
          cases h
          rw [Nat.sub_self, Nat.sub_self, Nat.add_zero, Nat.add_zero]
          rw [hlen] at hdg
          have hq : ∀ t : State, t.heap = H → s.WarmedH t.vm → xQr D cl cT bs v S args s (.returned (v.map (cv bs))) t := fun t ht hW => ⟨rfl, by rw [ht]; exact hR.moved hW.alike, hS.F ht⟩
          unfold xend at hv
          split at hv
          · rename_i hi
            rw [hi] at hdg
            split at hv
            · rename_i z ty hty
              split at hv
              · rename_i hfit
                cases hv
                exact W.zret hx hb (hr.trans hty) (xfit_ok hfit).1 hq hS.2.2 hdg hlocks
              · cases hv
            · cases hv
          · rename_i hi
            rw [hi] at hdg
            split at hv
            · rename_i z hty
              cases hv
              exact W.lret hx hb (hr.trans hty) hq hS.2.2 hdg hlocks
            · cases hv
          · rename_i hi
            rw [hi] at hdg
            split at hv
            · rename_i a C hty
              cases hv
              exact W.aret hx hb (hr.trans hty) (Or.inl ⟨_, rfl⟩) (Or.inr ⟨_, rfl⟩) hq hS.2.2 hdg hlocks
            · rename_i C hty
              cases hv
              exact W.aret hx hb (hr.trans hty) (Or.inl ⟨_, rfl⟩) (Or.inl rfl) hq hS.2.2 hdg hlocks
            · cases hv
          · rename_i hi
            rw [hi] at hdg
            split at hv
            · rename_i hty
              cases hv
              exact W.vret hx hb (hr.trans hty) hq hS.2.2 hdg hlocks
            · cases hv
          · cases hv
        · split at h
          · -- a call
            rename_i vs r hcal
            split at h
            · rename_i v S1 he
              have m1 := hexm _ _ _ _ _ he
              have m2 := xrun_mono hexm f _ _ _ _ _ _ h
              refine xw_call hP hM C hRf hRl hat hlen hcal (o := .inl v) (fun _ k z => by cases z) (fun N hN => hex _ N _ _ _ _ hN he) hR hT hS hl.1 (by omega) (by omega) (fun v' H1 locs1 hv' hR1 hS1 => ?_) (fun k _ _ _ _ hk => by cases hk)
              cases hv'
              have := ih _ _ _ _ _ _ h H1 locs1 ls (cells + (S1.1 - S.1)) (slots + (S1.2.1 - S.2.1)) hR1 hS1 hl (by omega) (by omega)
              rw [show cells + (S1.1 - S.1) + (S'.1 - S1.1) = cells + (S'.1 - S.1) by omega, show slots + (S1.2.1 - S.2.1) + (S'.2.1 - S1.2.1) = slots + (S'.2.1 - S.2.1) by omega] at this
              exact this
            · rename_i k S1 he
              have m1 := hexm _ _ _ _ _ he
              split at h
              · cases h
              · rename_i hsp
                split at h
                · -- it goes on to the caller
                  rename_i hhs
                  cases h
                  refine xw_call hP hM C hRf hRl hat hlen hcal (o := .inr k) (fun z => absurd z hsp) (fun N hN => hex _ N _ _ _ _ hN he) hR hT hS hl.1 hc hs (fun v' _ _ hv' => by cases hv') (fun k' H1 locs1 q ce hk hR1 hS1 h1 h2 h3 => ?_)
                  cases hk
                  refine vx_out (E := xexN G k) (fun z hz => ?_) hlocks h1 h2 h3 (fun t ht hA => ⟨rfl, by rw [ht]; exact hR1.moved hA, hS1.F ht⟩) hS1.2.2 (Nat.le_refl _) (Nat.le_refl _)
                  rw [htab, hhs] at hz
                  cases hz
                · split at h
                  · rename_i hp hh
                    split at h
                    · rename_i pc' L' hhp
                      have m2 := xrun_mono hexm f _ _ _ _ _ _ h
                      refine xw_call hP hM C hRf hRl hat hlen hcal (o := .inr k) (fun z => absurd z hsp) (fun N hN => hex _ N _ _ _ _ hN he) hR hT hS hl.1 (by omega) (by omega) (fun v' _ _ hv' => by cases hv') (fun k' H1 locs1 q ce hk hR1 hS1 h1 h2 h3 => ?_)
                      cases hk
                      obtain ⟨pre, x, suf, e1, e2, e3, e4, e5, e6, e7⟩ := xhand_spec hh
                      have hH := hP.2.2.2.2.2.2 M hM
                      obtain ⟨c0, k1, nm, g1, g2, g3, -⟩ := hH x (by rw [e1]; exact List.mem_append_right _ List.mem_cons_self)
                      cases Option.some.inj (g1.symm.trans e5)
                      refine xg_catch (own := (xnm M).cls) (name := nm) (E := xexN G k) hown (tableOf pre) ⟨x.1, x.2.1, x.2.2.1, x.2.2.2⟩ (tableOf suf) (by rw [htab, e1]; simp [tableOf]) (fun z hz => ?_) (by simp [covers, e3, e4]) c0 (hts _ g2) (hbs _ g3) h1 h2 h3 ?_
                      · obtain ⟨y, hy, rfl⟩ := List.mem_map.mp hz
                        obtain ⟨d0, k2, nm2, f1, f2, -, f4⟩ := hH y (by rw [e1]; exact List.mem_append_left _ hy)
                        rcases e7 y hy with h9 | h9
                        · left
                          simp only [covers, Bool.and_eq_false_iff, decide_eq_false_iff_not]
                          by_cases h8 : y.1 ≤ pc
                          · exact Or.inr (fun h7 => h9 ⟨h8, h7⟩)
                          · exact Or.inl h8
                        · right
                          refine ⟨d0, nm2, hts _ f2, hT.2.2.2.2 _ (f4 k e6 (fun hkk => h9 (by rw [f1, hkk])))⟩
                      · show W p l e R s m args below meth c H1 locs1 _ _ _ (F0 m x.2.2.1 ls [.ref q])
                        rw [e2]
                        refine xw_hp hP hM C hhp hl (fun ls1 hl1 => ?_)
                        have := ih _ _ _ _ _ _ h H1 locs1 ls1 (cells + (S1.1 - S.1)) (slots + (S1.2.1 - S.2.1)) hR1 hS1 hl1 (by omega) (by omega)
                        rw [show cells + (S1.1 - S.1) + (S'.1 - S1.1) = cells + (S'.1 - S.1) by omega, show slots + (S1.2.1 - S.2.1) + (S'.2.1 - S1.2.1) = slots + (S'.2.1 - S.2.1) by omega] at this
                        exact this
                    · cases h
                  · cases h
            · cases h
          · split at h
            · -- a throw
              rename_i k S1 ht
              cases h
              obtain ⟨⟨idx, hi⟩, t1, t2, t3, t4, hw⟩ := xthr_spec ht
              have e0 := (xnew_spec hw).1
              have d1 : S'.1 = S.1 + 1 := by rw [e0]
              have d2 : S'.2.1 = S.2.1 + 6 := by rw [e0]
              rw [hlen] at hdg
              unfold xokc at hokc
              rw [hi] at hdg hokc
              dsimp only at hokc
              rw [if_pos t1] at hokc
              unfold xtok at hokc
              simp only [Bool.and_eq_true, decide_eq_true_eq, Bool.or_eq_true, List.any_eq_true] at hokc
              obtain ⟨⟨⟨⟨⟨⟨⟨u1, u2⟩, u3⟩, ⟨q, hq, hq1, hq2⟩⟩, u5⟩, u6⟩, u7⟩, u8⟩ := hokc
              rw [← t2] at u1 u2 u3
              obtain ⟨w1, w2, w3⟩ := hP.2.2.2.2.2.1 _ u3
              dsimp only at w1 w3
              obtain ⟨sa, hsa⟩ := hT.2.2.1 q hq
              rw [hq1, hq2] at hsa
              have hk9 := hts _ (List.mem_of_getElem? u1)
              have hi9 := hts _ (List.mem_of_getElem? u2)
              have hat9 : ∀ w ∈ vx_atS (xnm M).cls xi.2.2.2.2.1.toNat (xexN G k) (xnms G), w.before args s = true := fun w hw9 => by
                rcases (w3 w hw9).1 with z | z
                · exact hts w z
                · exact hbs w z
              have hgd : ∀ w ∈ Cond.classLink (xnm M).cls idx (xexN G k) :: Cond.initialized (xexN G k) :: vx_atS (xnm M).cls xi.2.2.2.2.1.toNat (xexN G k) (xnms G), vx_ot w = true := fun w hw9 => by
                rcases List.mem_cons.mp hw9 with rfl | hw9
                · rfl
                · rcases List.mem_cons.mp hw9 with rfl | hw9
                  · rfl
                  · exact (w3 w hw9).2
              have hxx : ∀ t : State, s.vm.Alike t.vm → t.heap.size = H.size + 1 → (∀ q : Nat, q < H.size → t.heap[q]? = H[q]?) → xQx (xexN G) D cl cT bs k S' (xexN G k) s t := fun t hA hz ho =>
                ⟨rfl, (hR.new hw hz ho trivial).moved hA, by rw [hz]; exact Nat.le_succ_of_le hS.1, fun q h1 h2 => by rw [ho q (Nat.lt_of_lt_of_le h1 hS.1)]; exact hS.2.1 q h1 h2⟩
              have hsum : ((st.map (cv bs)).map fun v => v.category).sum ≤ 8 := by rw [cv_sum]; exact t3
              have hno : ∀ z ∈ c.exceptionTable.toList, False := fun z hz => by rw [htab, t4] at hz; cases hz
              rcases u8 with ⟨⟨v4, v6⟩, v9⟩ | ⟨⟨v4, v6⟩, v9⟩
              · exact vx_throwS hx hb hnt hown w1 w2 hk9 hi9 hsa hat9 hgd hT.1 hT.2.1 hS (by rw [hl.1]; exact C.2.2.1.symm) hdg u7 v4 v6 v9 (fun z hz => (hno z hz).elim) (Nat.lt_of_lt_of_le u5 hRf) (by omega) (by omega) (by omega) hlocks hxx hS.2.2 (by omega) (by omega)
              · exact vx_throwSW hx hb hnt hown w1 w2 hk9 hi9 hsa hat9 hgd hT.1 hT.2.1 hS (by rw [hl.1]; exact C.2.2.1.symm) hdg u7 v4 v6 v9 (fun z hz => (hno z hz).elim) (Nat.lt_of_lt_of_le u5 hRf) (by omega) (by omega) (by omega) hlocks hxx hS.2.2 (by omega) (by omega)
            · split at h
              · -- a step
                rename_i pc' L' st' S1 hst
                have m1 := xst_mono hst
                have m2 := xrun_mono hexm f _ _ _ _ _ _ h
                dsimp only at m1
                refine xst_sound C hok hdg hlen hst hR hS hl (by dsimp only; omega) (by dsimp only; omega) (fun H1 locs1 ls1 c1 s1 hc1 hs1 hR1 hS1 hl1 => ?_)
                dsimp only at hc1 hs1 hR1 hl1
                subst hc1; subst hs1
                have := ih _ _ _ _ _ _ h H1 locs1 ls1 _ _ hR1 hS1 hl1 (show (cells + (S1.1 - S.1)) + _ ≤ _ by omega) (show (slots + (S1.2.1 - S.2.1)) + _ ≤ _ by omega)
                rw [show cells + (S1.1 - S.1) + (S'.1 - S1.1) = cells + (S'.1 - S.1) by omega, show slots + (S1.2.1 - S.2.1) + (S'.2.1 - S1.2.1) = slots + (S'.2.1 - S.2.1) by omega] at this
                exact this
              · cases h
      · cases h
    · cases h
end XAL
end
section
/-! The methods by depth. -/
theorem lv_args_cv (bs : Nat) (vs : List Value) : ∀ i : Nat, lv_args i (vs.map (cv bs)) = cL bs (lv_args i vs) := by
  induction vs with
  | nil => intro i; rfl
  | cons v vs ih =>
    intro i
    simp only [List.map_cons, lv_args, cv_cat, cL]
    rw [ih]
    rfl
theorem xsl_len (bs : Nat) (vs : List Value) : (lg_sl (vs.map (cv bs))).length = xw vs := by
  induction vs with
  | nil => rfl
  | cons v vs ih =>
    unfold lg_sl at ih ⊢
    unfold xw at ih ⊢
    rw [List.map_cons, List.flatMap_cons, List.length_append, ih, List.map_cons, List.sum_cons, cv_cat]
    rcases lv_cat v with h | h <;> simp [h]
theorem xrun_inr {cl : List vw_C} {fty : Nat → Nat → FieldType} {fdef : Nat → List Value} {ck : Nat → Option Nat} {prog : List xM} {M : xM} {ex : Nat → List Value → xS → Option (xO × xS)} {k : Nat} {S' : xS} :
    ∀ (f pc : Nat) (L : xL) (st : List Value) (S : xS), xrun cl fty fdef ck prog M ex f pc L st S = some (.inr k, S') → xhs M = [] := by
  intro f
  induction f with
  | zero => intro pc L st S h; cases h
  | succ f ih =>
    intro pc L st S h
    unfold xrun at h
    split at h
    · split at h
      · split at h
        · cases h
        · split at h
          · split at h
            · exact ih _ _ _ _ h
            · split at h
              · cases h
              · split at h
                · assumption
                · split at h
                  · split at h
                    · exact ih _ _ _ _ h
                    · cases h
                  · cases h
            · cases h
          · split at h
            · rename_i ht
              exact (xthr_spec ht).2.2.2.2.1
            · split at h
              · exact ih _ _ _ _ h
              · cases h
      · cases h
    · cases h
section XME
variable {l : Launch} {D : va_G} {cl : List vw_C} {cT : FieldType → ClassId} {bs : Nat} {fty : Nat → Nat → FieldType} {fdef : Nat → List Value} {Ts : List Cond} {G : xG} {E : xE} {prog : List xM}
set_option maxHeartbeats 1000000 in
theorem xex_sound (hP : xPg cl fty fdef G E Ts prog) (hnt : l.stackTraces = false) (F : Nat) :
    ∀ (d a : Nat) (M : xM) (vs : List Value) (S : xS) (o : xO) (S' : xS), prog[a]? = some M → xex cl fty fdef (xck G) prog d F a vs S = some (o, S') → xMt E (xexN G) Ts l D cl cT bs M vs S o S' := by
  intro d
  induction d with
  | zero => intro a M vs S o S' _ h; cases h
  | succ d ih =>
    intro a M vs S o S' hN h
    have hM : M ∈ prog := List.mem_of_getElem? hN
    have hmok := hP.2.2.2.1 M hM
    unfold xmok at hmok
    simp only [Bool.and_eq_true, decide_eq_true_eq] at hmok
    obtain ⟨⟨⟨⟨⟨⟨⟨⟨⟨⟨⟨n1, n2⟩, n3⟩, n4⟩, n5⟩, n6⟩, n7⟩, n8⟩, n9⟩, n10⟩, n11⟩, -⟩ := hmok
    unfold xex at h
    rw [hN] at h
    dsimp only at h
    split at h
    · rename_i hsl
      have body : ∀ (p : Program) (e : Env) (s : State) (m : MethodId) (args : Array Value) (below : List Frame) (meth : Method) (c : Code) (s₁ : State), BodyLoose p l (xnm M) (headSpec (xcw M :: Ts) (xrm M S S')) (xbc M) (xmx M) (xrt M) e s m args below meth c s₁ → c.maxLocals = xmx M → c.exceptionTable.toList = tableOf (xhs M) → xPc E D cl cT bs vs S args s →
          W p l e (headSpec (xcw M :: Ts) (xrm M S S')).room s m args below meth c s.heap [] 0 0 (xEnd G D cl cT bs below args s o S' (S'.1 - S.1) (S'.2.1 - S.2.1)) (entryFrame m args (xmx M)) := by
        intro p e s m args below meth c s₁ B hml htab hv
        obtain ⟨rfl, hR, hT⟩ := hv
        have hts : ∀ w ∈ Ts, w.before (vs.map (cv bs)).toArray s = true := fun w hw => atoms_spec (ws := xcw M :: Ts) B.pre w (List.mem_cons_of_mem _ hw)
        have hbs : ∀ w ∈ E.2.1, w.before (vs.map (cv bs)).toArray s = true := fun w hw => xBw_use (hP.2.2.1 w hw) (hT.2.2.2.1 w hw)
        have hC : xCx cl fty fdef Ts E.2.1 (xnm M).cls (decide (2 ≤ xkd M)) (xbc M) (xmx M) p (headSpec (xcw M :: Ts) (xrm M S S')).room s m (vs.map (cv bs)).toArray meth c :=
          ⟨B.exec, B.bytes, hml, findClass_of_methodNamed B.named, hts, hbs, hP.1, fun hd => by
            have h2 := of_decide_eq_true hd
            rw [if_pos h2] at n9
            simp only [Bool.and_eq_true, decide_eq_true_eq] at n9
            exact (name_of_methodNamed B.named B.method).1.trans n9.1, n10, n11⟩
        have hl := lv_entry (vs.map (cv bs)) (n := xmx M) (by rw [xsl_len]; exact hsl)
        rw [lg_entry_eq]
        generalize (lg_sl (vs.map (cv bs)) ++ List.replicate (xmx M - (lg_sl (vs.map (cv bs))).length) Slot.unset).toArray = ls at hl ⊢
        rw [lv_args_cv] at hl
        have := xrun_sound (e := e) (below := below) (R := (headSpec (xcw M :: Ts) (xrm M S S')).room) hP hM hC (Nat.le_refl _) (Nat.le_refl _) B.returns B.notSynchronized htab hnt hT (xex_mono (F := F) d) (fun a N vs S o S1 hN he => ih a N vs S o S1 hN he) F 0 _ [] S o S' h s.heap [] ls 0 0 hR va_S.rf hl (by rw [Nat.zero_add]; exact Nat.le_refl _) (by rw [Nat.zero_add]; exact Nat.le_refl _)
        rw [Nat.zero_add, Nat.zero_add] at this
        exact this
      have tab0 : ∀ {p : Program} {e : Env} {s : State} {m : MethodId} {args : Array Value} {below : List Frame} {meth : Method} {c : Code} {s₁ : State}, xhs M = [] → BodyLoose p l (xnm M) (headSpec (xcw M :: Ts) (xrm M S S')) (xbc M) (xmx M) (xrt M) e s m args below meth c s₁ → c.exceptionTable.toList = tableOf (xhs M) := by
        intro p e s m args below meth c s₁ hh B
        have hw : (Cond.code (xnm M) (xbc M) (xmx M) (xrt M)).before args s = true := by
          have := atoms_spec (ws := xcw M :: Ts) B.pre _ List.mem_cons_self
          unfold xcw at this
          rw [hh] at this
          exact this
        have h9 := B.noHandlers hw
        rw [hh, Array.isEmpty_iff.mp h9]
        rfl
      cases o with
      | inl v =>
        by_cases hh : xhs M = []
        · exact Met.ofW (cc := xbc M) (maxL := xmx M) (ret := xrt M) n1 (by unfold xcw; rw [hh]) (fun p e s m args below meth c s₁ B hml hv => body p e s m args below meth c s₁ B hml (tab0 hh B) hv)
        · have hcw : xcw M = Cond.codeWith (xnm M) (xbc M) (xmx M) (xrt M) (xhs M) := by
            unfold xcw
            split
            · rename_i h9; exact absurd h9 hh
            · rfl
          exact va_MetW (cc := xbc M) (maxL := xmx M) (ret := xrt M) (hh := xhs M) n1 (by rw [hcw]) (fun p e s m args below meth c s₁ B hml hv => body p e s m args below meth c s₁ B hml (vx_table (x := xnm M) B (by rw [← hcw]; exact atoms_spec (ws := xcw M :: Ts) B.pre _ List.mem_cons_self)) hv)
      | inr k =>
        have hh := xrun_inr _ _ _ _ _ h
        exact vx_ofW (cc := xbc M) (maxL := xmx M) (ret := xrt M) n1 (by unfold xcw; rw [hh]) (fun p e s m args below meth c s₁ B hml _ hv => body p e s m args below meth c s₁ B hml (tab0 hh B) hv)
    · cases h
end XME
end
section
/-! The claim's own tables, written by a program out of claim/Statement.lean: classes, fields, words, methods. -/
def zfl : List (List (String × String × String × Bool)) := [[("DiodeLink", "nameAtHand", "LDiodeLink$Bytes;", true), ("DiodeLink", "dataAtHand", "LDiodeLink$Bytes;", true), ("DiodeLink", "sender", "LDiodeLink$Sender;", true), ("DiodeLink", "slots", "[LDiodeLink$Bytes;", true), ("DiodeLink", "rules", "LDiodeLink$Rules;", true), ("DiodeLink", "journal", "LDiodeLink$Journal;", true), ("DiodeLink", "receiver", "LDiodeLink$Receiver;", true), ("DiodeLink", "packetsSent", "I", false)],
  [("DiodeLink$Bytes", "row", "[I", true), ("DiodeLink$Bytes", "size", "I", false)],
  [("DiodeLink$Edition", "items", "[LDiodeLink$Bytes;", true), ("DiodeLink$Edition", "number", "I", false), ("DiodeLink$Edition", "itemCount", "I", false)],
  [("DiodeLink$Folder", "names", "[LDiodeLink$Bytes;", true), ("DiodeLink$Folder", "contents", "[LDiodeLink$Bytes;", true), ("DiodeLink$Folder", "editions", "[LDiodeLink$Edition;", true), ("DiodeLink$Folder", "files", "I", false), ("DiodeLink$Folder", "latest", "I", false)],
  [("DiodeLink$Journal", "numbers", "[I", true), ("DiodeLink$Journal", "links", "[J", true), ("DiodeLink$Journal", "linked", "LDiodeLink$Bytes;", true), ("DiodeLink$Journal", "entries", "I", false), ("DiodeLink$Journal", "linkBeforeKept", "J", false), ("DiodeLink$Journal", "latestLink", "J", false)],
  [("DiodeLink$Receiver", "known", "[LDiodeLink$Version;", true), ("DiodeLink$Receiver", "shown", "[LDiodeLink$Version;", true), ("DiodeLink$Receiver", "rows", "LDiodeLink$Rows;", true), ("DiodeLink$Receiver", "rules", "LDiodeLink$Rules;", true), ("DiodeLink$Receiver", "journal", "LDiodeLink$Journal;", true), ("DiodeLink$Receiver", "greatestLife", "I", false), ("DiodeLink$Receiver", "dropped", "I", false)],
  [("DiodeLink$Rows", "keys", "[I", true), ("DiodeLink$Rows", "masks", "[I", true), ("DiodeLink$Rows", "values", "[J", true), ("DiodeLink$Rows", "used", "I", false)],
  [("DiodeLink$Rules", "signs", "[Z", true), ("DiodeLink$Rules", "firsts", "[Z", true), ("DiodeLink$Rules", "mostBytes", "I", false), ("DiodeLink$Rules", "mostFiles", "I", false)],
  [("DiodeLink$Sender", "folders", "[LDiodeLink$Folder;", true), ("DiodeLink$Sender", "nextPlaces", "[I", true), ("DiodeLink$Sender", "life", "I", false), ("DiodeLink$Sender", "turn", "I", false)],
  [("DiodeLink$Version", "items", "[LDiodeLink$Bytes;", true), ("DiodeLink$Version", "solved", "[Z", true), ("DiodeLink$Version", "held", "[Z", true), ("DiodeLink$Version", "nameAt", "[I", true), ("DiodeLink$Version", "nameSizes", "[I", true), ("DiodeLink$Version", "fileSizes", "[I", true), ("DiodeLink$Version", "fileHashes", "[J", true), ("DiodeLink$Version", "number", "I", false), ("DiodeLink$Version", "state", "I", false), ("DiodeLink$Version", "files", "I", false), ("DiodeLink$Version", "good", "Z", false)],
  [("DiodeLinkModel", "thrown", "I", false), ("DiodeLinkModel", "named", "I", false), ("DiodeLinkModel", "given", "I", false), ("DiodeLinkModel", "name", "[I", true), ("DiodeLinkModel", "data", "[I", true), ("DiodeLinkModel", "files", "[I", true), ("DiodeLinkModel", "nameSize", "[I", true), ("DiodeLinkModel", "names", "[I", true), ("DiodeLinkModel", "fileSize", "[I", true), ("DiodeLinkModel", "fileData", "[I", true), ("DiodeLinkModel", "versions", "[I", true), ("DiodeLinkModel", "keptItems", "[I", true), ("DiodeLinkModel", "keptSize", "[I", true), ("DiodeLinkModel", "keptData", "[I", true), ("DiodeLinkModel", "life", "I", false), ("DiodeLinkModel", "turn", "I", false), ("DiodeLinkModel", "sent", "I", false), ("DiodeLinkModel", "goes", "[I", true), ("DiodeLinkModel", "slots", "[I", true), ("DiodeLinkModel", "filled", "[Z", true), ("DiodeLinkModel", "found", "[I", true), ("DiodeLinkModel", "greatest", "I", false), ("DiodeLinkModel", "known", "[I", true), ("DiodeLinkModel", "good", "[Z", true), ("DiodeLinkModel", "count", "[I", true), ("DiodeLinkModel", "verdict", "[I", true), ("DiodeLinkModel", "size", "[I", true), ("DiodeLinkModel", "solved", "[Z", true), ("DiodeLinkModel", "bytes", "[I", true), ("DiodeLinkModel", "held", "[Z", true), ("DiodeLinkModel", "rows", "I", false), ("DiodeLinkModel", "rowItem", "[I", true), ("DiodeLinkModel", "rowBlock", "[I", true), ("DiodeLinkModel", "rowMask", "[I", true), ("DiodeLinkModel", "rowBytes", "[J", true), ("DiodeLinkModel", "dropped", "I", false), ("DiodeLinkModel", "mostSize", "I", false), ("DiodeLinkModel", "mostFiles", "I", false), ("DiodeLinkModel", "badSign", "[Z", true), ("DiodeLinkModel", "badFirst", "[Z", true), ("DiodeLinkModel", "released", "[I", true), ("DiodeLinkModel", "releases", "[I", true), ("DiodeLinkModel", "earlier", "[I", true), ("DiodeLinkModel", "releasedFiles", "[I", true), ("DiodeLinkModel", "releasedNames", "[I", true), ("DiodeLinkModel", "releasedSize", "[I", true), ("DiodeLinkModel", "releasedData", "[I", true), ("DiodeLinkModel", "entries", "I", false), ("DiodeLinkModel", "before", "J", false), ("DiodeLinkModel", "entry", "[I", true), ("DiodeLinkModel", "links", "[J", true)]]
def zty : List (List FieldType) := [[.object "DiodeLink$Bytes", .object "DiodeLink$Bytes", .object "DiodeLink$Sender", .array (.object "DiodeLink$Bytes"), .object "DiodeLink$Rules", .object "DiodeLink$Journal", .object "DiodeLink$Receiver", .int],
  [.array (.int), .int],
  [.array (.object "DiodeLink$Bytes"), .int, .int],
  [.array (.object "DiodeLink$Bytes"), .array (.object "DiodeLink$Bytes"), .array (.object "DiodeLink$Edition"), .int, .int],
  [.array (.int), .array (.long), .object "DiodeLink$Bytes", .int, .long, .long],
  [.array (.object "DiodeLink$Version"), .array (.object "DiodeLink$Version"), .object "DiodeLink$Rows", .object "DiodeLink$Rules", .object "DiodeLink$Journal", .int, .int],
  [.array (.int), .array (.int), .array (.long), .int],
  [.array (.boolean), .array (.boolean), .int, .int],
  [.array (.object "DiodeLink$Folder"), .array (.int), .int, .int],
  [.array (.object "DiodeLink$Bytes"), .array (.boolean), .array (.boolean), .array (.int), .array (.int), .array (.int), .array (.long), .int, .int, .int, .boolean],
  [.int, .int, .int, .array (.int), .array (.int), .array (.int), .array (.int), .array (.int), .array (.int), .array (.int), .array (.int), .array (.int), .array (.int), .array (.int), .int, .int, .int, .array (.int), .array (.int), .array (.boolean), .array (.int), .int, .array (.int), .array (.boolean), .array (.int), .array (.int), .array (.int), .array (.boolean), .array (.int), .array (.boolean), .int, .array (.int), .array (.int), .array (.int), .array (.long), .int, .int, .int, .array (.boolean), .array (.boolean), .array (.int), .array (.int), .array (.int), .array (.int), .array (.int), .array (.int), .array (.int), .int, .long, .array (.int), .array (.long)]]
def zdf : List (List Value) := [[.null, .null, .null, .null, .null, .null, .null, .int 0],
  [.null, .int 0],
  [.null, .int 0, .int 0],
  [.null, .null, .null, .int 0, .int 0],
  [.null, .null, .null, .int 0, .long 0, .long 0],
  [.null, .null, .null, .null, .null, .int 0, .int 0],
  [.null, .null, .null, .int 0],
  [.null, .null, .int 0, .int 0],
  [.null, .null, .int 0, .int 0],
  [.null, .null, .null, .null, .null, .null, .null, .int 0, .int 0, .int 0, .int 0],
  [.int 0, .int 0, .int 0, .null, .null, .null, .null, .null, .null, .null, .null, .null, .null, .null, .int 0, .int 0, .int 0, .null, .null, .null, .null, .int 0, .null, .null, .null, .null, .null, .null, .null, .null, .int 0, .null, .null, .null, .null, .int 0, .int 0, .int 0, .null, .null, .null, .null, .null, .null, .null, .null, .null, .int 0, .long 0, .null, .null]]
def zT (ci : Nat) : u_T := fun k => (zfl.getD ci []).getD k ("", "", "", false)
def zcl : List vw_C := [("DiodeLink", zT 0, 8), ("DiodeLink$Bytes", zT 1, 2), ("DiodeLink$Edition", zT 2, 3), ("DiodeLink$Folder", zT 3, 5), ("DiodeLink$Journal", zT 4, 6), ("DiodeLink$Receiver", zT 5, 7), ("DiodeLink$Rows", zT 6, 4), ("DiodeLink$Rules", zT 7, 4), ("DiodeLink$Sender", zT 8, 4), ("DiodeLink$Version", zT 9, 11), ("DiodeLinkModel", zT 10, 51)]
def zfty : Nat → Nat → FieldType := fun ci k => (zty.getD ci []).getD k .int
def zfdef : Nat → List Value := fun ci => zdf.getD ci []
def zTs0 : List Cond := [
  Cond.laysFinal "DiodeLink" "DiodeLink" "nameAtHand" "LDiodeLink$Bytes;",
  Cond.laysFinal "DiodeLink" "DiodeLink" "dataAtHand" "LDiodeLink$Bytes;",
  Cond.laysFinal "DiodeLink" "DiodeLink" "sender" "LDiodeLink$Sender;",
  Cond.laysFinal "DiodeLink" "DiodeLink" "slots" "[LDiodeLink$Bytes;",
  Cond.laysFinal "DiodeLink" "DiodeLink" "rules" "LDiodeLink$Rules;",
  Cond.laysFinal "DiodeLink" "DiodeLink" "journal" "LDiodeLink$Journal;",
  Cond.laysFinal "DiodeLink" "DiodeLink" "receiver" "LDiodeLink$Receiver;",
  Cond.lays "DiodeLink" "DiodeLink" "packetsSent" "I",
  Cond.laysFinal "DiodeLink$Bytes" "DiodeLink$Bytes" "row" "[I",
  Cond.lays "DiodeLink$Bytes" "DiodeLink$Bytes" "size" "I",
  Cond.laysFinal "DiodeLink$Edition" "DiodeLink$Edition" "items" "[LDiodeLink$Bytes;",
  Cond.lays "DiodeLink$Edition" "DiodeLink$Edition" "number" "I",
  Cond.lays "DiodeLink$Edition" "DiodeLink$Edition" "itemCount" "I",
  Cond.laysFinal "DiodeLink$Folder" "DiodeLink$Folder" "names" "[LDiodeLink$Bytes;",
  Cond.laysFinal "DiodeLink$Folder" "DiodeLink$Folder" "contents" "[LDiodeLink$Bytes;",
  Cond.laysFinal "DiodeLink$Folder" "DiodeLink$Folder" "editions" "[LDiodeLink$Edition;",
  Cond.lays "DiodeLink$Folder" "DiodeLink$Folder" "files" "I",
  Cond.lays "DiodeLink$Folder" "DiodeLink$Folder" "latest" "I",
  Cond.laysFinal "DiodeLink$Journal" "DiodeLink$Journal" "numbers" "[I",
  Cond.laysFinal "DiodeLink$Journal" "DiodeLink$Journal" "links" "[J",
  Cond.laysFinal "DiodeLink$Journal" "DiodeLink$Journal" "linked" "LDiodeLink$Bytes;",
  Cond.lays "DiodeLink$Journal" "DiodeLink$Journal" "entries" "I",
  Cond.lays "DiodeLink$Journal" "DiodeLink$Journal" "linkBeforeKept" "J",
  Cond.lays "DiodeLink$Journal" "DiodeLink$Journal" "latestLink" "J",
  Cond.laysFinal "DiodeLink$Receiver" "DiodeLink$Receiver" "known" "[LDiodeLink$Version;",
  Cond.laysFinal "DiodeLink$Receiver" "DiodeLink$Receiver" "shown" "[LDiodeLink$Version;",
  Cond.laysFinal "DiodeLink$Receiver" "DiodeLink$Receiver" "rows" "LDiodeLink$Rows;",
  Cond.laysFinal "DiodeLink$Receiver" "DiodeLink$Receiver" "rules" "LDiodeLink$Rules;",
  Cond.laysFinal "DiodeLink$Receiver" "DiodeLink$Receiver" "journal" "LDiodeLink$Journal;",
  Cond.lays "DiodeLink$Receiver" "DiodeLink$Receiver" "greatestLife" "I",
  Cond.lays "DiodeLink$Receiver" "DiodeLink$Receiver" "dropped" "I",
  Cond.laysFinal "DiodeLink$Rows" "DiodeLink$Rows" "keys" "[I",
  Cond.laysFinal "DiodeLink$Rows" "DiodeLink$Rows" "masks" "[I",
  Cond.laysFinal "DiodeLink$Rows" "DiodeLink$Rows" "values" "[J",
  Cond.lays "DiodeLink$Rows" "DiodeLink$Rows" "used" "I",
  Cond.laysFinal "DiodeLink$Rules" "DiodeLink$Rules" "signs" "[Z",
  Cond.laysFinal "DiodeLink$Rules" "DiodeLink$Rules" "firsts" "[Z",
  Cond.lays "DiodeLink$Rules" "DiodeLink$Rules" "mostBytes" "I",
  Cond.lays "DiodeLink$Rules" "DiodeLink$Rules" "mostFiles" "I",
  Cond.laysFinal "DiodeLink$Sender" "DiodeLink$Sender" "folders" "[LDiodeLink$Folder;",
  Cond.laysFinal "DiodeLink$Sender" "DiodeLink$Sender" "nextPlaces" "[I",
  Cond.lays "DiodeLink$Sender" "DiodeLink$Sender" "life" "I",
  Cond.lays "DiodeLink$Sender" "DiodeLink$Sender" "turn" "I",
  Cond.laysFinal "DiodeLink$Version" "DiodeLink$Version" "items" "[LDiodeLink$Bytes;",
  Cond.laysFinal "DiodeLink$Version" "DiodeLink$Version" "solved" "[Z",
  Cond.laysFinal "DiodeLink$Version" "DiodeLink$Version" "held" "[Z",
  Cond.laysFinal "DiodeLink$Version" "DiodeLink$Version" "nameAt" "[I",
  Cond.laysFinal "DiodeLink$Version" "DiodeLink$Version" "nameSizes" "[I",
  Cond.laysFinal "DiodeLink$Version" "DiodeLink$Version" "fileSizes" "[I",
  Cond.laysFinal "DiodeLink$Version" "DiodeLink$Version" "fileHashes" "[J",
  Cond.lays "DiodeLink$Version" "DiodeLink$Version" "number" "I",
  Cond.lays "DiodeLink$Version" "DiodeLink$Version" "state" "I",
  Cond.lays "DiodeLink$Version" "DiodeLink$Version" "files" "I",
  Cond.lays "DiodeLink$Version" "DiodeLink$Version" "good" "Z",
  Cond.lays "DiodeLinkModel" "DiodeLinkModel" "thrown" "I",
  Cond.lays "DiodeLinkModel" "DiodeLinkModel" "named" "I",
  Cond.lays "DiodeLinkModel" "DiodeLinkModel" "given" "I",
  Cond.laysFinal "DiodeLinkModel" "DiodeLinkModel" "name" "[I",
  Cond.laysFinal "DiodeLinkModel" "DiodeLinkModel" "data" "[I",
  Cond.laysFinal "DiodeLinkModel" "DiodeLinkModel" "files" "[I"]
def zTs1 : List Cond := [
  Cond.laysFinal "DiodeLinkModel" "DiodeLinkModel" "nameSize" "[I",
  Cond.laysFinal "DiodeLinkModel" "DiodeLinkModel" "names" "[I",
  Cond.laysFinal "DiodeLinkModel" "DiodeLinkModel" "fileSize" "[I",
  Cond.laysFinal "DiodeLinkModel" "DiodeLinkModel" "fileData" "[I",
  Cond.laysFinal "DiodeLinkModel" "DiodeLinkModel" "versions" "[I",
  Cond.laysFinal "DiodeLinkModel" "DiodeLinkModel" "keptItems" "[I",
  Cond.laysFinal "DiodeLinkModel" "DiodeLinkModel" "keptSize" "[I",
  Cond.laysFinal "DiodeLinkModel" "DiodeLinkModel" "keptData" "[I",
  Cond.lays "DiodeLinkModel" "DiodeLinkModel" "life" "I",
  Cond.lays "DiodeLinkModel" "DiodeLinkModel" "turn" "I",
  Cond.lays "DiodeLinkModel" "DiodeLinkModel" "sent" "I",
  Cond.laysFinal "DiodeLinkModel" "DiodeLinkModel" "goes" "[I",
  Cond.laysFinal "DiodeLinkModel" "DiodeLinkModel" "slots" "[I",
  Cond.laysFinal "DiodeLinkModel" "DiodeLinkModel" "filled" "[Z",
  Cond.laysFinal "DiodeLinkModel" "DiodeLinkModel" "found" "[I",
  Cond.lays "DiodeLinkModel" "DiodeLinkModel" "greatest" "I",
  Cond.laysFinal "DiodeLinkModel" "DiodeLinkModel" "known" "[I",
  Cond.laysFinal "DiodeLinkModel" "DiodeLinkModel" "good" "[Z",
  Cond.laysFinal "DiodeLinkModel" "DiodeLinkModel" "count" "[I",
  Cond.laysFinal "DiodeLinkModel" "DiodeLinkModel" "verdict" "[I",
  Cond.laysFinal "DiodeLinkModel" "DiodeLinkModel" "size" "[I",
  Cond.laysFinal "DiodeLinkModel" "DiodeLinkModel" "solved" "[Z",
  Cond.laysFinal "DiodeLinkModel" "DiodeLinkModel" "bytes" "[I",
  Cond.laysFinal "DiodeLinkModel" "DiodeLinkModel" "held" "[Z",
  Cond.lays "DiodeLinkModel" "DiodeLinkModel" "rows" "I",
  Cond.laysFinal "DiodeLinkModel" "DiodeLinkModel" "rowItem" "[I",
  Cond.laysFinal "DiodeLinkModel" "DiodeLinkModel" "rowBlock" "[I",
  Cond.laysFinal "DiodeLinkModel" "DiodeLinkModel" "rowMask" "[I",
  Cond.laysFinal "DiodeLinkModel" "DiodeLinkModel" "rowBytes" "[J",
  Cond.lays "DiodeLinkModel" "DiodeLinkModel" "dropped" "I",
  Cond.lays "DiodeLinkModel" "DiodeLinkModel" "mostSize" "I",
  Cond.lays "DiodeLinkModel" "DiodeLinkModel" "mostFiles" "I",
  Cond.laysFinal "DiodeLinkModel" "DiodeLinkModel" "badSign" "[Z",
  Cond.laysFinal "DiodeLinkModel" "DiodeLinkModel" "badFirst" "[Z",
  Cond.laysFinal "DiodeLinkModel" "DiodeLinkModel" "released" "[I",
  Cond.laysFinal "DiodeLinkModel" "DiodeLinkModel" "releases" "[I",
  Cond.laysFinal "DiodeLinkModel" "DiodeLinkModel" "earlier" "[I",
  Cond.laysFinal "DiodeLinkModel" "DiodeLinkModel" "releasedFiles" "[I",
  Cond.laysFinal "DiodeLinkModel" "DiodeLinkModel" "releasedNames" "[I",
  Cond.laysFinal "DiodeLinkModel" "DiodeLinkModel" "releasedSize" "[I",
  Cond.laysFinal "DiodeLinkModel" "DiodeLinkModel" "releasedData" "[I",
  Cond.lays "DiodeLinkModel" "DiodeLinkModel" "entries" "I",
  Cond.lays "DiodeLinkModel" "DiodeLinkModel" "before" "J",
  Cond.laysFinal "DiodeLinkModel" "DiodeLinkModel" "entry" "[I",
  Cond.laysFinal "DiodeLinkModel" "DiodeLinkModel" "links" "[J",
  Cond.methodLink "DiodeLink" 1 ⟨"java/lang/Object", "<init>", "()V"⟩,
  Cond.instanceMethod objectInit,
  Cond.code objectInit ⟨#[0xb1]⟩ 1 none,
  Cond.classLink "DiodeLink" 7 "DiodeLink$Bytes",
  Cond.instantiable "DiodeLink$Bytes" 2,
  Cond.initialized "DiodeLink$Bytes",
  Cond.methodLink "DiodeLink" 11 ⟨"DiodeLink$Bytes", "<init>", "(I)V"⟩,
  Cond.fieldLink "DiodeLink" 14 "DiodeLink" "nameAtHand" "LDiodeLink$Bytes;",
  Cond.fieldLink "DiodeLink" 18 "DiodeLink" "dataAtHand" "LDiodeLink$Bytes;",
  Cond.classLink "DiodeLink" 21 "DiodeLink$Sender",
  Cond.instantiable "DiodeLink$Sender" 4,
  Cond.initialized "DiodeLink$Sender",
  Cond.methodLink "DiodeLink" 23 ⟨"DiodeLink$Sender", "<init>", "()V"⟩,
  Cond.fieldLink "DiodeLink" 24 "DiodeLink" "sender" "LDiodeLink$Sender;",
  Cond.classLink "DiodeLink" 7 "DiodeLink$Bytes"]
def zTs2 : List Cond := [
  Cond.fieldLink "DiodeLink" 28 "DiodeLink" "slots" "[LDiodeLink$Bytes;",
  Cond.classLink "DiodeLink" 32 "DiodeLink$Rules",
  Cond.instantiable "DiodeLink$Rules" 4,
  Cond.initialized "DiodeLink$Rules",
  Cond.fieldLink "DiodeLink" 35 "DiodeLink" "rules" "LDiodeLink$Rules;",
  Cond.classLink "DiodeLink" 39 "DiodeLink$Journal",
  Cond.instantiable "DiodeLink$Journal" 6,
  Cond.initialized "DiodeLink$Journal",
  Cond.fieldLink "DiodeLink" 42 "DiodeLink" "journal" "LDiodeLink$Journal;",
  Cond.classLink "DiodeLink" 46 "DiodeLink$Receiver",
  Cond.instantiable "DiodeLink$Receiver" 7,
  Cond.initialized "DiodeLink$Receiver",
  Cond.methodLink "DiodeLink" 48 ⟨"DiodeLink$Receiver", "<init>", "(LDiodeLink$Rules;LDiodeLink$Journal;)V"⟩,
  Cond.fieldLink "DiodeLink" 51 "DiodeLink" "receiver" "LDiodeLink$Receiver;",
  Cond.fieldLink "DiodeLink" 55 "DiodeLink" "packetsSent" "I",
  Cond.methodLink "DiodeLink" 127 ⟨"DiodeLink", "checkSlot", "(I)V"⟩,
  Cond.classLink "DiodeLink" 59 "java/lang/IllegalArgumentException",
  Cond.initialized "java/lang/IllegalArgumentException",
  Cond.methodLink "DiodeLink" 138 ⟨"DiodeLink$Bytes", "turn", "(II)V"⟩,
  Cond.methodLink "DiodeLink" 82 ⟨"DiodeLink", "isFolder", "(I)Z"⟩,
  Cond.methodLink "DiodeLink" 66 ⟨"DiodeLink$Bytes", "size", "()I"⟩,
  Cond.constant "DiodeLink" 245 (Int32.ofInt (65535)),
  Cond.methodLink "DiodeLink" 113 ⟨"DiodeLink", "checkFolder", "(I)V"⟩,
  Cond.methodLink "DiodeLink" 116 ⟨"DiodeLink$Sender", "makeVersion", "(I)I"⟩,
  Cond.classLink "DiodeLink" 73 "java/lang/IllegalStateException",
  Cond.initialized "java/lang/IllegalStateException",
  Cond.methodLink "DiodeLink" 237 ⟨"DiodeLink$Receiver", "dropped", "()I"⟩,
  Cond.methodLink "DiodeLink" 240 ⟨"DiodeLink$Receiver", "allRows", "()I"⟩,
  Cond.methodLink "DiodeLink" 70 ⟨"DiodeLink$Bytes", "limit", "()I"⟩,
  Cond.methodLink "DiodeLink" 78 ⟨"DiodeLink$Bytes", "append", "(JI)V"⟩,
  Cond.methodLink "DiodeLink" 183 ⟨"DiodeLink$Receiver", "shown", "(I)LDiodeLink$Version;"⟩,
  Cond.methodLink "DiodeLink" 191 ⟨"DiodeLink$Version", "files", "()I"⟩,
  Cond.classLink "DiodeLink" 194 "java/lang/IndexOutOfBoundsException",
  Cond.initialized "java/lang/IndexOutOfBoundsException",
  Cond.methodLink "DiodeLink" 199 ⟨"DiodeLink$Version", "fileSize", "(I)I"⟩,
  Cond.methodLink "DiodeLink" 202 ⟨"DiodeLink$Version", "nameSize", "(I)I"⟩,
  Cond.methodLink "DiodeLink" 205 ⟨"DiodeLink$Version", "item", "(I)LDiodeLink$Bytes;"⟩,
  Cond.methodLink "DiodeLink" 209 ⟨"DiodeLink$Bytes", "at", "(I)I"⟩,
  Cond.methodLink "DiodeLink" 212 ⟨"DiodeLink$Version", "namePlace", "(I)I"⟩,
  Cond.methodLink "DiodeLink" 167 ⟨"DiodeLink", "checkVersion", "(II)V"⟩,
  Cond.methodLink "DiodeLink" 170 ⟨"DiodeLink$Receiver", "stateOf", "(II)I"⟩,
  Cond.methodLink "DiodeLink" 142 ⟨"DiodeLink$Receiver", "listen", "(LDiodeLink$Bytes;)I"⟩,
  Cond.methodLink "DiodeLink" 234 ⟨"DiodeLink$Journal", "linksHold", "()Z"⟩,
  Cond.methodLink "DiodeLink" 217 ⟨"DiodeLink$Journal", "entries", "()I"⟩,
  Cond.methodLink "DiodeLink" 220 ⟨"DiodeLink$Journal", "keeps", "(I)Z"⟩,
  Cond.methodLink "DiodeLink" 225 ⟨"DiodeLink$Journal", "link", "(I)J"⟩,
  Cond.methodLink "DiodeLink" 229 ⟨"DiodeLink$Journal", "number", "(II)I"⟩,
  Cond.methodLink "DiodeLink" 132 ⟨"DiodeLink$Bytes", "number", "(II)J"⟩,
  Cond.methodLink "DiodeLink" 176 ⟨"DiodeLink$Receiver", "rowsOf", "(IIII)I"⟩,
  Cond.methodLink "DiodeLink" 180 ⟨"DiodeLink$Receiver", "letOut", "(I)I"⟩,
  Cond.methodLink "DiodeLink" 187 ⟨"DiodeLink$Version", "number", "()I"⟩,
  Cond.methodLink "DiodeLink" 90 ⟨"DiodeLink$Sender", "folder", "(I)LDiodeLink$Folder;"⟩,
  Cond.methodLink "DiodeLink" 107 ⟨"DiodeLink$Folder", "takeOut", "(LDiodeLink$Bytes;)Z"⟩,
  Cond.methodLink "DiodeLink" 100 ⟨"DiodeLink$Bytes", "clear", "()V"⟩,
  Cond.methodLink "DiodeLink" 155 ⟨"DiodeLink$Receiver", "loseRows", "()V"⟩,
  Cond.methodLink "DiodeLink" 146 ⟨"DiodeLink$Sender", "beginLife", "()Z"⟩,
  Cond.methodLink "DiodeLink" 152 ⟨"DiodeLink$Sender", "life", "()I"⟩,
  Cond.methodLink "DiodeLink" 158 ⟨"DiodeLink$Rules", "greatestValue", "(I)I"⟩,
  Cond.methodLink "DiodeLink" 163 ⟨"DiodeLink$Rules", "set", "(IIZ)V"⟩,
  Cond.methodLink "DiodeLink" 122 ⟨"DiodeLink$Sender", "fillNext", "(LDiodeLink$Bytes;)Z"⟩]
def zTs3 : List Cond := [
  Cond.methodLink "DiodeLink" 231 ⟨"DiodeLink$Journal", "turn", "(III)V"⟩,
  Cond.methodLink "DiodeLink" 86 ⟨"DiodeLink$Bytes", "isName", "(II)Z"⟩,
  Cond.methodLink "DiodeLink" 94 ⟨"DiodeLink$Folder", "put", "(LDiodeLink$Bytes;LDiodeLink$Bytes;)I"⟩,
  Cond.methodLink "DiodeLink$Bytes" 3 ⟨"java/lang/Object", "<init>", "()V"⟩,
  Cond.instanceMethod objectInit,
  Cond.code objectInit ⟨#[0xb1]⟩ 1 none,
  Cond.fieldLink "DiodeLink$Bytes" 9 "DiodeLink$Bytes" "size" "I",
  Cond.arrayClass .int,
  Cond.fieldLink "DiodeLink$Bytes" 15 "DiodeLink$Bytes" "row" "[I",
  Cond.methodLink "DiodeLink$Bytes" 28 ⟨"DiodeLink$Bytes", "at", "(I)I"⟩,
  Cond.methodLink "DiodeLink$Bytes" 36 ⟨"DiodeLink$Bytes", "append", "(JI)V"⟩,
  Cond.methodLink "DiodeLink$Bytes" 54 ⟨"DiodeLink$Bytes", "compareParts", "(IILDiodeLink$Bytes;II)I"⟩,
  Cond.methodLink "DiodeLink$Bytes" 19 ⟨"java/lang/Math", "min", "(II)I"⟩,
  Cond.static ⟨"java/lang/Math", "min", "(II)I"⟩,
  Cond.initialized "java/lang/Math",
  Cond.code Lib.Math.min.name Lib.Math.min.code 2 (some .int),
  Cond.methodLink "DiodeLink$Bytes" 40 ⟨"DiodeLink$Bytes", "resize", "(I)V"⟩,
  Cond.methodLink "DiodeLink$Bytes" 44 ⟨"java/lang/System", "arraycopy", "(Ljava/lang/Object;ILjava/lang/Object;II)V"⟩,
  Cond.native ⟨"java/lang/System", "arraycopy", "(Ljava/lang/Object;ILjava/lang/Object;II)V"⟩,
  Cond.static ⟨"java/lang/System", "arraycopy", "(Ljava/lang/Object;ILjava/lang/Object;II)V"⟩,
  Cond.initialized "java/lang/System",
  Cond.constantLong "DiodeLink$Bytes" 50 (Int64.ofInt (-3750763034362895579)),
  Cond.constantLong "DiodeLink$Bytes" 52 (Int64.ofInt (1099511628211)),
  Cond.methodLink "DiodeLink$Bytes" 32 ⟨"DiodeLink$Bytes", "put", "(II)V"⟩,
  Cond.methodLink "DiodeLink$Bytes" 25 ⟨"java/lang/Math", "max", "(II)I"⟩,
  Cond.static ⟨"java/lang/Math", "max", "(II)I"⟩,
  Cond.initialized "java/lang/Math",
  Cond.code Lib.Math.max.name Lib.Math.max.code 2 (some .int),
  Cond.methodLink "DiodeLink$Cut" 9 ⟨"java/lang/Math", "max", "(II)I"⟩,
  Cond.static ⟨"java/lang/Math", "max", "(II)I"⟩,
  Cond.initialized "java/lang/Math",
  Cond.code Lib.Math.max.name Lib.Math.max.code 2 (some .int),
  Cond.constant "DiodeLink$Cut" 23 (Int32.ofInt (40503)),
  Cond.methodLink "DiodeLink$Cut" 18 ⟨"DiodeLink$Cut", "pieces", "(II)I"⟩,
  Cond.methodLink "DiodeLink$Cut" 15 ⟨"java/lang/Math", "min", "(II)I"⟩,
  Cond.static ⟨"java/lang/Math", "min", "(II)I"⟩,
  Cond.initialized "java/lang/Math",
  Cond.code Lib.Math.min.name Lib.Math.min.code 2 (some .int),
  Cond.methodLink "DiodeLink$Edition" 3 ⟨"java/lang/Object", "<init>", "()V"⟩,
  Cond.instanceMethod objectInit,
  Cond.code objectInit ⟨#[0xb1]⟩ 1 none,
  Cond.classLink "DiodeLink$Edition" 9 "DiodeLink$Bytes",
  Cond.fieldLink "DiodeLink$Edition" 11 "DiodeLink$Edition" "items" "[LDiodeLink$Bytes;",
  Cond.fieldLink "DiodeLink$Edition" 17 "DiodeLink$Edition" "number" "I",
  Cond.fieldLink "DiodeLink$Edition" 21 "DiodeLink$Edition" "itemCount" "I",
  Cond.classLink "DiodeLink$Edition" 9 "DiodeLink$Bytes",
  Cond.instantiable "DiodeLink$Bytes" 2,
  Cond.initialized "DiodeLink$Bytes",
  Cond.methodLink "DiodeLink$Edition" 24 ⟨"DiodeLink$Bytes", "<init>", "(I)V"⟩,
  Cond.methodLink "DiodeLink$Edition" 36 ⟨"DiodeLink$Bytes", "append", "(JI)V"⟩,
  Cond.methodLink "DiodeLink$Edition" 51 ⟨"DiodeLink$Bytes", "size", "()I"⟩,
  Cond.methodLink "DiodeLink$Edition" 61 ⟨"DiodeLink$Cut", "blocks", "(I)I"⟩,
  Cond.methodLink "DiodeLink$Edition" 67 ⟨"DiodeLink$Cut", "packets", "(II)I"⟩,
  Cond.methodLink "DiodeLink$Edition" 33 ⟨"DiodeLink$Bytes", "clear", "()V"⟩,
  Cond.methodLink "DiodeLink$Edition" 71 ⟨"DiodeLink$Edition", "appendPlace", "(LDiodeLink$Bytes;III)V"⟩,
  Cond.methodLink "DiodeLink$Edition" 75 ⟨"DiodeLink$Edition", "sum", "(III)J"⟩,
  Cond.methodLink "DiodeLink$Edition" 57 ⟨"DiodeLink$Bytes", "hash", "(I)J"⟩,
  Cond.methodLink "DiodeLink$Edition" 27 ⟨"DiodeLink$Folder", "files", "()I"⟩,
  Cond.methodLink "DiodeLink$Edition" 40 ⟨"DiodeLink$Folder", "content", "(I)LDiodeLink$Bytes;"⟩,
  Cond.methodLink "DiodeLink$Edition" 44 ⟨"DiodeLink$Bytes", "copyFrom", "(LDiodeLink$Bytes;)V"⟩]
def zTs4 : List Cond := [
  Cond.methodLink "DiodeLink$Edition" 48 ⟨"DiodeLink$Folder", "name", "(I)LDiodeLink$Bytes;"⟩,
  Cond.methodLink "DiodeLink$Edition" 54 ⟨"DiodeLink$Bytes", "appendAll", "(LDiodeLink$Bytes;)V"⟩,
  Cond.methodLink "DiodeLink$Edition" 79 ⟨"DiodeLink$Cut", "pieces", "(II)I"⟩,
  Cond.methodLink "DiodeLink$Edition" 82 ⟨"DiodeLink$Cut", "mask", "(IIIII)I"⟩,
  Cond.methodLink "DiodeLink$Edition" 86 ⟨"DiodeLink$Bytes", "number", "(II)J"⟩,
  Cond.methodLink "DiodeLink$Folder" 3 ⟨"java/lang/Object", "<init>", "()V"⟩,
  Cond.instanceMethod objectInit,
  Cond.code objectInit ⟨#[0xb1]⟩ 1 none,
  Cond.classLink "DiodeLink$Folder" 9 "DiodeLink$Bytes",
  Cond.fieldLink "DiodeLink$Folder" 11 "DiodeLink$Folder" "names" "[LDiodeLink$Bytes;",
  Cond.fieldLink "DiodeLink$Folder" 17 "DiodeLink$Folder" "contents" "[LDiodeLink$Bytes;",
  Cond.classLink "DiodeLink$Folder" 20 "DiodeLink$Edition",
  Cond.fieldLink "DiodeLink$Folder" 22 "DiodeLink$Folder" "editions" "[LDiodeLink$Edition;",
  Cond.fieldLink "DiodeLink$Folder" 26 "DiodeLink$Folder" "files" "I",
  Cond.fieldLink "DiodeLink$Folder" 30 "DiodeLink$Folder" "latest" "I",
  Cond.classLink "DiodeLink$Folder" 9 "DiodeLink$Bytes",
  Cond.instantiable "DiodeLink$Bytes" 2,
  Cond.initialized "DiodeLink$Bytes",
  Cond.methodLink "DiodeLink$Folder" 33 ⟨"DiodeLink$Bytes", "<init>", "(I)V"⟩,
  Cond.classLink "DiodeLink$Folder" 20 "DiodeLink$Edition",
  Cond.instantiable "DiodeLink$Edition" 3,
  Cond.initialized "DiodeLink$Edition",
  Cond.methodLink "DiodeLink$Folder" 36 ⟨"DiodeLink$Edition", "<init>", "()V"⟩,
  Cond.methodLink "DiodeLink$Folder" 57 ⟨"DiodeLink$Bytes", "compareAll", "(LDiodeLink$Bytes;)I"⟩,
  Cond.methodLink "DiodeLink$Folder" 53 ⟨"DiodeLink$Edition", "record", "(ILDiodeLink$Folder;)V"⟩,
  Cond.methodLink "DiodeLink$Folder" 37 ⟨"DiodeLink$Folder", "placeOf", "(LDiodeLink$Bytes;)I"⟩,
  Cond.methodLink "DiodeLink$Folder" 41 ⟨"DiodeLink$Folder", "isAt", "(ILDiodeLink$Bytes;)Z"⟩,
  Cond.methodLink "DiodeLink$Folder" 45 ⟨"DiodeLink$Folder", "moveFile", "(II)V"⟩,
  Cond.methodLink "DiodeLink$Folder" 49 ⟨"DiodeLink$Bytes", "copyFrom", "(LDiodeLink$Bytes;)V"⟩,
  Cond.methodLink "DiodeLink$Journal" 3 ⟨"java/lang/Object", "<init>", "()V"⟩,
  Cond.instanceMethod objectInit,
  Cond.code objectInit ⟨#[0xb1]⟩ 1 none,
  Cond.fieldLink "DiodeLink$Journal" 11 "DiodeLink$Journal" "numbers" "[I",
  Cond.arrayClass .long,
  Cond.fieldLink "DiodeLink$Journal" 15 "DiodeLink$Journal" "links" "[J",
  Cond.classLink "DiodeLink$Journal" 19 "DiodeLink$Bytes",
  Cond.instantiable "DiodeLink$Bytes" 2,
  Cond.initialized "DiodeLink$Bytes",
  Cond.methodLink "DiodeLink$Journal" 21 ⟨"DiodeLink$Bytes", "<init>", "(I)V"⟩,
  Cond.fieldLink "DiodeLink$Journal" 24 "DiodeLink$Journal" "linked" "LDiodeLink$Bytes;",
  Cond.fieldLink "DiodeLink$Journal" 28 "DiodeLink$Journal" "entries" "I",
  Cond.fieldLink "DiodeLink$Journal" 32 "DiodeLink$Journal" "linkBeforeKept" "J",
  Cond.fieldLink "DiodeLink$Journal" 36 "DiodeLink$Journal" "latestLink" "J",
  Cond.methodLink "DiodeLink$Journal" 60 ⟨"DiodeLink$Bytes", "clear", "()V"⟩,
  Cond.methodLink "DiodeLink$Journal" 63 ⟨"DiodeLink$Bytes", "append", "(JI)V"⟩,
  Cond.methodLink "DiodeLink$Journal" 67 ⟨"DiodeLink$Journal", "number", "(II)I"⟩,
  Cond.methodLink "DiodeLink$Journal" 70 ⟨"DiodeLink$Bytes", "hash", "(I)J"⟩,
  Cond.methodLink "DiodeLink$Journal" 47 ⟨"DiodeLink$Journal", "link", "(I)J"⟩,
  Cond.methodLink "DiodeLink$Journal" 43 ⟨"DiodeLink$Journal", "place", "(II)I"⟩,
  Cond.methodLink "DiodeLink$Journal" 51 ⟨"DiodeLink$Journal", "dueLink", "(JI)J"⟩,
  Cond.methodLink "DiodeLink$Journal" 55 ⟨"java/lang/Math", "max", "(II)I"⟩,
  Cond.static ⟨"java/lang/Math", "max", "(II)I"⟩,
  Cond.initialized "java/lang/Math",
  Cond.code Lib.Math.max.name Lib.Math.max.code 2 (some .int),
  Cond.methodLink "DiodeLink$Journal" 39 ⟨"DiodeLink$Journal", "firstKept", "()I"⟩,
  Cond.methodLink "DiodeLink$Receiver" 3 ⟨"java/lang/Object", "<init>", "()V"⟩,
  Cond.instanceMethod objectInit,
  Cond.code objectInit ⟨#[0xb1]⟩ 1 none,
  Cond.classLink "DiodeLink$Receiver" 11 "DiodeLink$Version",
  Cond.fieldLink "DiodeLink$Receiver" 13 "DiodeLink$Receiver" "known" "[LDiodeLink$Version;"]
def zTs5 : List Cond := [
  Cond.fieldLink "DiodeLink$Receiver" 17 "DiodeLink$Receiver" "shown" "[LDiodeLink$Version;",
  Cond.classLink "DiodeLink$Receiver" 20 "DiodeLink$Rows",
  Cond.instantiable "DiodeLink$Rows" 4,
  Cond.initialized "DiodeLink$Rows",
  Cond.fieldLink "DiodeLink$Receiver" 23 "DiodeLink$Receiver" "rows" "LDiodeLink$Rows;",
  Cond.fieldLink "DiodeLink$Receiver" 27 "DiodeLink$Receiver" "greatestLife" "I",
  Cond.fieldLink "DiodeLink$Receiver" 31 "DiodeLink$Receiver" "dropped" "I",
  Cond.fieldLink "DiodeLink$Receiver" 34 "DiodeLink$Receiver" "rules" "LDiodeLink$Rules;",
  Cond.fieldLink "DiodeLink$Receiver" 38 "DiodeLink$Receiver" "journal" "LDiodeLink$Journal;",
  Cond.classLink "DiodeLink$Receiver" 11 "DiodeLink$Version",
  Cond.instantiable "DiodeLink$Version" 11,
  Cond.initialized "DiodeLink$Version",
  Cond.methodLink "DiodeLink$Receiver" 42 ⟨"DiodeLink$Version", "<init>", "()V"⟩,
  Cond.methodLink "DiodeLink$Receiver" 43 ⟨"DiodeLink$Rows", "used", "()I"⟩,
  Cond.methodLink "DiodeLink$Receiver" 54 ⟨"DiodeLink$Bytes", "at", "(I)I"⟩,
  Cond.methodLink "DiodeLink$Receiver" 60 ⟨"DiodeLink$Bytes", "number", "(II)J"⟩,
  Cond.methodLink "DiodeLink$Receiver" 163 ⟨"DiodeLink$Cut", "blocks", "(I)I"⟩,
  Cond.methodLink "DiodeLink$Receiver" 168 ⟨"DiodeLink$Cut", "packets", "(II)I"⟩,
  Cond.methodLink "DiodeLink$Receiver" 171 ⟨"DiodeLink$Receiver", "leastOf", "(I)LDiodeLink$Version;"⟩,
  Cond.methodLink "DiodeLink$Receiver" 92 ⟨"DiodeLink$Version", "number", "()I"⟩,
  Cond.methodLink "DiodeLink$Receiver" 101 ⟨"DiodeLink$Rows", "owner", "(II)I"⟩,
  Cond.methodLink "DiodeLink$Receiver" 105 ⟨"DiodeLink$Rows", "key", "(III)I"⟩,
  Cond.methodLink "DiodeLink$Receiver" 180 ⟨"DiodeLink$Rows", "drop", "(II)V"⟩,
  Cond.methodLink "DiodeLink$Receiver" 112 ⟨"DiodeLink$Receiver", "knownAt", "(II)LDiodeLink$Version;"⟩,
  Cond.methodLink "DiodeLink$Receiver" 248 ⟨"DiodeLink$Version", "clearItem", "(I)V"⟩,
  Cond.methodLink "DiodeLink$Receiver" 251 ⟨"DiodeLink$Receiver", "dropItemRows", "(LDiodeLink$Version;II)V"⟩,
  Cond.methodLink "DiodeLink$Receiver" 128 ⟨"java/lang/Math", "max", "(II)I"⟩,
  Cond.static ⟨"java/lang/Math", "max", "(II)I"⟩,
  Cond.initialized "java/lang/Math",
  Cond.code Lib.Math.max.name Lib.Math.max.code 2 (some .int),
  Cond.methodLink "DiodeLink$Receiver" 187 ⟨"DiodeLink$Version", "hasSolved", "(I)Z"⟩,
  Cond.methodLink "DiodeLink$Receiver" 109 ⟨"DiodeLink$Rows", "rowsIn", "(II)I"⟩,
  Cond.methodLink "DiodeLink$Receiver" 190 ⟨"DiodeLink$Version", "item", "(I)LDiodeLink$Bytes;"⟩,
  Cond.methodLink "DiodeLink$Receiver" 194 ⟨"DiodeLink$Bytes", "size", "()I"⟩,
  Cond.methodLink "DiodeLink$Receiver" 242 ⟨"DiodeLink$Version", "files", "()I"⟩,
  Cond.methodLink "DiodeLink$Receiver" 254 ⟨"DiodeLink$Receiver", "holdByOther", "(III)Z"⟩,
  Cond.methodLink "DiodeLink$Receiver" 258 ⟨"DiodeLink$Version", "holds", "(I)Z"⟩,
  Cond.methodLink "DiodeLink$Receiver" 261 ⟨"DiodeLink$Version", "heldLike", "(LDiodeLink$Version;I)I"⟩,
  Cond.methodLink "DiodeLink$Receiver" 265 ⟨"DiodeLink$Version", "holdCopy", "(ILDiodeLink$Bytes;)V"⟩,
  Cond.methodLink "DiodeLink$Receiver" 274 ⟨"DiodeLink$Rules", "brokenBy", "(ILDiodeLink$Version;)I"⟩,
  Cond.methodLink "DiodeLink$Receiver" 115 ⟨"DiodeLink$Version", "become", "(I)V"⟩,
  Cond.methodLink "DiodeLink$Receiver" 122 ⟨"DiodeLink$Journal", "enter", "(IIII)V"⟩,
  Cond.methodLink "DiodeLink$Receiver" 213 ⟨"DiodeLink$Bytes", "resize", "(I)V"⟩,
  Cond.methodLink "DiodeLink$Receiver" 150 ⟨"DiodeLink$Receiver", "maskOf", "(LDiodeLink$Bytes;)I"⟩,
  Cond.methodLink "DiodeLink$Receiver" 216 ⟨"DiodeLink$Rows", "add", "(IIJ)V"⟩,
  Cond.methodLink "DiodeLink$Receiver" 200 ⟨"DiodeLink$Receiver", "piecesOf", "(LDiodeLink$Bytes;)I"⟩,
  Cond.methodLink "DiodeLink$Receiver" 220 ⟨"DiodeLink$Rows", "piece", "(II)J"⟩,
  Cond.methodLink "DiodeLink$Receiver" 223 ⟨"DiodeLink$Bytes", "putNumber", "(IJI)V"⟩,
  Cond.methodLink "DiodeLink$Receiver" 227 ⟨"DiodeLink$Version", "solve", "(II)V"⟩,
  Cond.methodLink "DiodeLink$Receiver" 64 ⟨"DiodeLink$Receiver", "find", "(II)LDiodeLink$Version;"⟩,
  Cond.methodLink "DiodeLink$Receiver" 174 ⟨"DiodeLink$Rows", "firstKey", "(I)I"⟩,
  Cond.methodLink "DiodeLink$Receiver" 177 ⟨"DiodeLink$Rows", "lastKey", "(I)I"⟩,
  Cond.methodLink "DiodeLink$Receiver" 184 ⟨"DiodeLink$Version", "begin", "(I)V"⟩,
  Cond.methodLink "DiodeLink$Receiver" 94 ⟨"DiodeLink$Version", "state", "()I"⟩,
  Cond.methodLink "DiodeLink$Receiver" 269 ⟨"DiodeLink$Version", "isWhole", "()Z"⟩,
  Cond.methodLink "DiodeLink$Receiver" 118 ⟨"DiodeLink$Version", "showFrom", "(LDiodeLink$Version;)V"⟩,
  Cond.methodLink "DiodeLink$Receiver" 50 ⟨"DiodeLink$Receiver", "whyDropped", "(LDiodeLink$Bytes;)I"⟩,
  Cond.methodLink "DiodeLink$Receiver" 68 ⟨"DiodeLink$Receiver", "keepRow", "(LDiodeLink$Version;ILDiodeLink$Bytes;)Z"⟩,
  Cond.methodLink "DiodeLink$Receiver" 72 ⟨"DiodeLink$Version", "isComplete", "(I)Z"⟩,
  Cond.methodLink "DiodeLink$Receiver" 76 ⟨"DiodeLink$Receiver", "lookAt", "(LDiodeLink$Version;II)V"⟩]
def zTs6 : List Cond := [
  Cond.methodLink "DiodeLink$Receiver" 80 ⟨"DiodeLink$Receiver", "holdAlike", "(I)V"⟩,
  Cond.methodLink "DiodeLink$Receiver" 84 ⟨"DiodeLink$Receiver", "leastToJudge", "(I)LDiodeLink$Version;"⟩,
  Cond.methodLink "DiodeLink$Receiver" 88 ⟨"DiodeLink$Receiver", "judge", "(LDiodeLink$Version;I)V"⟩,
  Cond.methodLink "DiodeLink$Receiver" 230 ⟨"DiodeLink$Version", "isGood", "()Z"⟩,
  Cond.methodLink "DiodeLink$Receiver" 233 ⟨"DiodeLink$Receiver", "lookAtFile", "(LDiodeLink$Version;II)V"⟩,
  Cond.methodLink "DiodeLink$Receiver" 236 ⟨"DiodeLink$Version", "readManifest", "()Z"⟩,
  Cond.methodLink "DiodeLink$Receiver" 239 ⟨"DiodeLink$Receiver", "forgetItem", "(LDiodeLink$Version;II)V"⟩,
  Cond.methodLink "DiodeLink$Receiver" 245 ⟨"DiodeLink$Version", "holdIfRight", "(I)Z"⟩,
  Cond.methodLink "DiodeLink$Receiver" 47 ⟨"DiodeLink$Rows", "dropAll", "()V"⟩,
  Cond.methodLink "DiodeLink$Receiver" 207 ⟨"DiodeLink$Rows", "ownerAt", "(I)I"⟩,
  Cond.methodLink "DiodeLink$Receiver" 210 ⟨"DiodeLink$Receiver", "greatestOf", "(I)I"⟩,
  Cond.methodLink "DiodeLink$Receiver" 203 ⟨"DiodeLink$Cut", "mask", "(IIIII)I"⟩,
  Cond.methodLink "DiodeLink$Receiver" 197 ⟨"DiodeLink$Cut", "pieces", "(II)I"⟩,
  Cond.methodLink "DiodeLink$Receiver" 97 ⟨"DiodeLink$Version", "isSolved", "(II)Z"⟩,
  Cond.methodLink "DiodeLink$Receiver" 133 ⟨"DiodeLink$Bytes", "hash", "(I)J"⟩,
  Cond.methodLink "DiodeLink$Receiver" 137 ⟨"DiodeLink$Receiver", "noteLife", "(I)V"⟩,
  Cond.methodLink "DiodeLink$Receiver" 140 ⟨"DiodeLink$Receiver", "canBe", "(LDiodeLink$Bytes;)Z"⟩,
  Cond.methodLink "DiodeLink$Receiver" 144 ⟨"DiodeLink$Receiver", "learn", "(II)LDiodeLink$Version;"⟩,
  Cond.methodLink "DiodeLink$Receiver" 147 ⟨"DiodeLink$Receiver", "hasOtherSize", "(LDiodeLink$Version;ILDiodeLink$Bytes;)Z"⟩,
  Cond.methodLink "DiodeLink$Receiver" 153 ⟨"DiodeLink$Rows", "tells", "(II)Z"⟩,
  Cond.methodLink "DiodeLink$Receiver" 156 ⟨"DiodeLink$Rows", "isFull", "()Z"⟩,
  Cond.methodLink "DiodeLink$Receiver" 160 ⟨"DiodeLink$Receiver", "makeRoom", "()Z"⟩,
  Cond.methodLink "DiodeLink$Rows" 3 ⟨"java/lang/Object", "<init>", "()V"⟩,
  Cond.instanceMethod objectInit,
  Cond.code objectInit ⟨#[0xb1]⟩ 1 none,
  Cond.fieldLink "DiodeLink$Rows" 11 "DiodeLink$Rows" "keys" "[I",
  Cond.fieldLink "DiodeLink$Rows" 15 "DiodeLink$Rows" "masks" "[I",
  Cond.fieldLink "DiodeLink$Rows" 18 "DiodeLink$Rows" "values" "[J",
  Cond.fieldLink "DiodeLink$Rows" 22 "DiodeLink$Rows" "used" "I",
  Cond.methodLink "DiodeLink$Rows" 30 ⟨"DiodeLink$Rows", "isFull", "()Z"⟩,
  Cond.methodLink "DiodeLink$Rows" 26 ⟨"DiodeLink$Rows", "hasPivotIn", "(III)Z"⟩,
  Cond.methodLink "DiodeLink$Rules" 3 ⟨"java/lang/Object", "<init>", "()V"⟩,
  Cond.instanceMethod objectInit,
  Cond.code objectInit ⟨#[0xb1]⟩ 1 none,
  Cond.arrayClass .boolean,
  Cond.fieldLink "DiodeLink$Rules" 11 "DiodeLink$Rules" "signs" "[Z",
  Cond.fieldLink "DiodeLink$Rules" 15 "DiodeLink$Rules" "firsts" "[Z",
  Cond.fieldLink "DiodeLink$Rules" 18 "DiodeLink$Rules" "mostBytes" "I",
  Cond.fieldLink "DiodeLink$Rules" 22 "DiodeLink$Rules" "mostFiles" "I",
  Cond.methodLink "DiodeLink$Rules" 25 ⟨"DiodeLink$Version", "files", "()I"⟩,
  Cond.methodLink "DiodeLink$Rules" 31 ⟨"DiodeLink$Rules", "isBrokenByFile", "(ILDiodeLink$Version;I)Z"⟩,
  Cond.methodLink "DiodeLink$Rules" 43 ⟨"DiodeLink$Version", "item", "(I)LDiodeLink$Bytes;"⟩,
  Cond.methodLink "DiodeLink$Rules" 52 ⟨"DiodeLink$Version", "namePlace", "(I)I"⟩,
  Cond.methodLink "DiodeLink$Rules" 55 ⟨"DiodeLink$Version", "nameSize", "(I)I"⟩,
  Cond.methodLink "DiodeLink$Rules" 47 ⟨"DiodeLink$Bytes", "at", "(I)I"⟩,
  Cond.methodLink "DiodeLink$Rules" 35 ⟨"DiodeLink$Version", "fileSize", "(I)I"⟩,
  Cond.methodLink "DiodeLink$Rules" 39 ⟨"DiodeLink$Rules", "hasBadSign", "(LDiodeLink$Version;I)Z"⟩,
  Cond.methodLink "DiodeLink$Sender" 3 ⟨"java/lang/Object", "<init>", "()V"⟩,
  Cond.instanceMethod objectInit,
  Cond.code objectInit ⟨#[0xb1]⟩ 1 none,
  Cond.classLink "DiodeLink$Sender" 9 "DiodeLink$Folder",
  Cond.fieldLink "DiodeLink$Sender" 11 "DiodeLink$Sender" "folders" "[LDiodeLink$Folder;",
  Cond.fieldLink "DiodeLink$Sender" 17 "DiodeLink$Sender" "nextPlaces" "[I",
  Cond.fieldLink "DiodeLink$Sender" 21 "DiodeLink$Sender" "life" "I",
  Cond.fieldLink "DiodeLink$Sender" 25 "DiodeLink$Sender" "turn" "I",
  Cond.classLink "DiodeLink$Sender" 9 "DiodeLink$Folder",
  Cond.instantiable "DiodeLink$Folder" 5,
  Cond.initialized "DiodeLink$Folder",
  Cond.methodLink "DiodeLink$Sender" 28 ⟨"DiodeLink$Folder", "<init>", "()V"⟩,
  Cond.methodLink "DiodeLink$Sender" 29 ⟨"DiodeLink$Sender", "beginRounds", "()V"⟩]
def zTs7 : List Cond := [
  Cond.methodLink "DiodeLink$Sender" 44 ⟨"DiodeLink$Sender", "oldestAge", "(I)I"⟩,
  Cond.methodLink "DiodeLink$Sender" 47 ⟨"DiodeLink$Sender", "youngestAge", "(I)I"⟩,
  Cond.methodLink "DiodeLink$Sender" 50 ⟨"DiodeLink$Folder", "edition", "(I)LDiodeLink$Edition;"⟩,
  Cond.methodLink "DiodeLink$Sender" 54 ⟨"DiodeLink$Edition", "packets", "()I"⟩,
  Cond.methodLink "DiodeLink$Sender" 59 ⟨"DiodeLink$Edition", "fillPacket", "(LDiodeLink$Bytes;III)V"⟩,
  Cond.methodLink "DiodeLink$Sender" 36 ⟨"DiodeLink$Sender", "packetsOf", "(I)I"⟩,
  Cond.methodLink "DiodeLink$Sender" 40 ⟨"DiodeLink$Sender", "fillFrom", "(LDiodeLink$Bytes;II)V"⟩,
  Cond.methodLink "DiodeLink$Sender" 32 ⟨"DiodeLink$Folder", "makeVersion", "()I"⟩,
  Cond.methodLink "DiodeLink$Version" 3 ⟨"java/lang/Object", "<init>", "()V"⟩,
  Cond.instanceMethod objectInit,
  Cond.code objectInit ⟨#[0xb1]⟩ 1 none,
  Cond.classLink "DiodeLink$Version" 9 "DiodeLink$Bytes",
  Cond.fieldLink "DiodeLink$Version" 11 "DiodeLink$Version" "items" "[LDiodeLink$Bytes;",
  Cond.fieldLink "DiodeLink$Version" 17 "DiodeLink$Version" "solved" "[Z",
  Cond.fieldLink "DiodeLink$Version" 21 "DiodeLink$Version" "held" "[Z",
  Cond.fieldLink "DiodeLink$Version" 24 "DiodeLink$Version" "nameAt" "[I",
  Cond.fieldLink "DiodeLink$Version" 28 "DiodeLink$Version" "nameSizes" "[I",
  Cond.fieldLink "DiodeLink$Version" 31 "DiodeLink$Version" "fileSizes" "[I",
  Cond.fieldLink "DiodeLink$Version" 34 "DiodeLink$Version" "fileHashes" "[J",
  Cond.fieldLink "DiodeLink$Version" 38 "DiodeLink$Version" "number" "I",
  Cond.fieldLink "DiodeLink$Version" 42 "DiodeLink$Version" "state" "I",
  Cond.fieldLink "DiodeLink$Version" 45 "DiodeLink$Version" "files" "I",
  Cond.fieldLink "DiodeLink$Version" 48 "DiodeLink$Version" "good" "Z",
  Cond.classLink "DiodeLink$Version" 9 "DiodeLink$Bytes",
  Cond.instantiable "DiodeLink$Bytes" 2,
  Cond.initialized "DiodeLink$Bytes",
  Cond.methodLink "DiodeLink$Version" 52 ⟨"DiodeLink$Bytes", "<init>", "(I)V"⟩,
  Cond.methodLink "DiodeLink$Version" 55 ⟨"DiodeLink$Version", "clearItem", "(I)V"⟩,
  Cond.methodLink "DiodeLink$Version" 58 ⟨"DiodeLink$Bytes", "clear", "()V"⟩,
  Cond.methodLink "DiodeLink$Version" 61 ⟨"DiodeLink$Version", "isSolved", "(II)Z"⟩,
  Cond.methodLink "DiodeLink$Version" 96 ⟨"DiodeLink$Bytes", "copyFrom", "(LDiodeLink$Bytes;)V"⟩,
  Cond.methodLink "DiodeLink$Version" 65 ⟨"DiodeLink$Bytes", "size", "()I"⟩,
  Cond.methodLink "DiodeLink$Version" 69 ⟨"DiodeLink$Cut", "blocks", "(I)I"⟩,
  Cond.methodLink "DiodeLink$Version" 92 ⟨"DiodeLink$Bytes", "hash", "(I)J"⟩,
  Cond.methodLink "DiodeLink$Version" 88 ⟨"DiodeLink$Bytes", "compareParts", "(IILDiodeLink$Bytes;II)I"⟩,
  Cond.methodLink "DiodeLink$Version" 75 ⟨"DiodeLink$Bytes", "at", "(I)I"⟩,
  Cond.methodLink "DiodeLink$Version" 78 ⟨"DiodeLink$Bytes", "number", "(II)J"⟩,
  Cond.methodLink "DiodeLink$Version" 81 ⟨"DiodeLink$Bytes", "isName", "(II)Z"⟩,
  Cond.methodLink "DiodeLink$Version" 84 ⟨"DiodeLink$Version", "isBehindLast", "(I)Z"⟩,
  Cond.methodLink "DiodeLink$Version" 100 ⟨"java/lang/System", "arraycopy", "(Ljava/lang/Object;ILjava/lang/Object;II)V"⟩,
  Cond.native ⟨"java/lang/System", "arraycopy", "(Ljava/lang/Object;ILjava/lang/Object;II)V"⟩,
  Cond.static ⟨"java/lang/System", "arraycopy", "(Ljava/lang/Object;ILjava/lang/Object;II)V"⟩,
  Cond.initialized "java/lang/System",
  Cond.methodLink "DiodeLinkLaw" 36 ⟨"DiodeLink", "alter", "(III)V"⟩,
  Cond.methodLink "DiodeLinkLaw" 25 ⟨"DiodeLink", "commit", "(I)I"⟩,
  Cond.methodLink "DiodeLinkLaw" 76 ⟨"DiodeLink", "count", "(I)I"⟩,
  Cond.methodLink "DiodeLinkLaw" 7 ⟨"DiodeLink", "feed", "(ZJI)I"⟩,
  Cond.methodLink "DiodeLinkLaw" 64 ⟨"DiodeLink", "file", "(IIIZ)I"⟩,
  Cond.methodLink "DiodeLinkLaw" 50 ⟨"DiodeLink", "have", "(II)I"⟩,
  Cond.methodLink "DiodeLinkLaw" 40 ⟨"DiodeLink", "hear", "(I)I"⟩,
  Cond.methodLink "DiodeLinkLaw" 70 ⟨"DiodeLink", "journal", "(II)J"⟩,
  Cond.methodLink "DiodeLinkLaw" 32 ⟨"DiodeLink", "packet", "(II)J"⟩,
  Cond.methodLink "DiodeLinkLaw" 54 ⟨"DiodeLink", "rank", "(IIII)I"⟩,
  Cond.methodLink "DiodeLinkLaw" 58 ⟨"DiodeLink", "release", "(I)I"⟩,
  Cond.methodLink "DiodeLinkLaw" 61 ⟨"DiodeLink", "released", "(I)I"⟩,
  Cond.methodLink "DiodeLinkLaw" 21 ⟨"DiodeLink", "remove", "(I)Z"⟩,
  Cond.methodLink "DiodeLinkLaw" 43 ⟨"DiodeLink", "restartSender", "()I"⟩,
  Cond.methodLink "DiodeLinkLaw" 46 ⟨"DiodeLink", "rule", "(IIZ)V"⟩,
  Cond.methodLink "DiodeLinkLaw" 28 ⟨"DiodeLink", "send", "()I"⟩,
  Cond.methodLink "DiodeLinkLaw" 73 ⟨"DiodeLink", "touch", "(III)V"⟩]
def zTs8 : List Cond := [
  Cond.methodLink "DiodeLinkLaw" 17 ⟨"DiodeLink", "write", "(I)I"⟩,
  Cond.methodLink "DiodeLinkModel" 1 ⟨"java/lang/Object", "<init>", "()V"⟩,
  Cond.instanceMethod objectInit,
  Cond.code objectInit ⟨#[0xb1]⟩ 1 none,
  Cond.fieldLink "DiodeLinkModel" 7 "DiodeLinkModel" "name" "[I",
  Cond.fieldLink "DiodeLinkModel" 13 "DiodeLinkModel" "data" "[I",
  Cond.fieldLink "DiodeLinkModel" 16 "DiodeLinkModel" "files" "[I",
  Cond.fieldLink "DiodeLinkModel" 19 "DiodeLinkModel" "nameSize" "[I",
  Cond.fieldLink "DiodeLinkModel" 22 "DiodeLinkModel" "names" "[I",
  Cond.fieldLink "DiodeLinkModel" 25 "DiodeLinkModel" "fileSize" "[I",
  Cond.fieldLink "DiodeLinkModel" 28 "DiodeLinkModel" "fileData" "[I",
  Cond.fieldLink "DiodeLinkModel" 31 "DiodeLinkModel" "versions" "[I",
  Cond.fieldLink "DiodeLinkModel" 34 "DiodeLinkModel" "keptItems" "[I",
  Cond.fieldLink "DiodeLinkModel" 37 "DiodeLinkModel" "keptSize" "[I",
  Cond.fieldLink "DiodeLinkModel" 40 "DiodeLinkModel" "keptData" "[I",
  Cond.fieldLink "DiodeLinkModel" 43 "DiodeLinkModel" "life" "I",
  Cond.fieldLink "DiodeLinkModel" 47 "DiodeLinkModel" "goes" "[I",
  Cond.fieldLink "DiodeLinkModel" 50 "DiodeLinkModel" "slots" "[I",
  Cond.fieldLink "DiodeLinkModel" 53 "DiodeLinkModel" "filled" "[Z",
  Cond.fieldLink "DiodeLinkModel" 57 "DiodeLinkModel" "found" "[I",
  Cond.fieldLink "DiodeLinkModel" 60 "DiodeLinkModel" "known" "[I",
  Cond.fieldLink "DiodeLinkModel" 63 "DiodeLinkModel" "good" "[Z",
  Cond.fieldLink "DiodeLinkModel" 66 "DiodeLinkModel" "count" "[I",
  Cond.fieldLink "DiodeLinkModel" 69 "DiodeLinkModel" "verdict" "[I",
  Cond.fieldLink "DiodeLinkModel" 72 "DiodeLinkModel" "size" "[I",
  Cond.fieldLink "DiodeLinkModel" 75 "DiodeLinkModel" "solved" "[Z",
  Cond.fieldLink "DiodeLinkModel" 78 "DiodeLinkModel" "bytes" "[I",
  Cond.fieldLink "DiodeLinkModel" 81 "DiodeLinkModel" "held" "[Z",
  Cond.fieldLink "DiodeLinkModel" 84 "DiodeLinkModel" "rowItem" "[I",
  Cond.fieldLink "DiodeLinkModel" 87 "DiodeLinkModel" "rowBlock" "[I",
  Cond.fieldLink "DiodeLinkModel" 90 "DiodeLinkModel" "rowMask" "[I",
  Cond.fieldLink "DiodeLinkModel" 93 "DiodeLinkModel" "rowBytes" "[J",
  Cond.fieldLink "DiodeLinkModel" 97 "DiodeLinkModel" "mostSize" "I",
  Cond.fieldLink "DiodeLinkModel" 100 "DiodeLinkModel" "mostFiles" "I",
  Cond.fieldLink "DiodeLinkModel" 103 "DiodeLinkModel" "badSign" "[Z",
  Cond.fieldLink "DiodeLinkModel" 106 "DiodeLinkModel" "badFirst" "[Z",
  Cond.fieldLink "DiodeLinkModel" 109 "DiodeLinkModel" "released" "[I",
  Cond.fieldLink "DiodeLinkModel" 112 "DiodeLinkModel" "releases" "[I",
  Cond.fieldLink "DiodeLinkModel" 115 "DiodeLinkModel" "earlier" "[I",
  Cond.fieldLink "DiodeLinkModel" 118 "DiodeLinkModel" "releasedFiles" "[I",
  Cond.fieldLink "DiodeLinkModel" 121 "DiodeLinkModel" "releasedNames" "[I",
  Cond.fieldLink "DiodeLinkModel" 124 "DiodeLinkModel" "releasedSize" "[I",
  Cond.fieldLink "DiodeLinkModel" 127 "DiodeLinkModel" "releasedData" "[I",
  Cond.fieldLink "DiodeLinkModel" 130 "DiodeLinkModel" "entry" "[I",
  Cond.fieldLink "DiodeLinkModel" 133 "DiodeLinkModel" "links" "[J",
  Cond.methodLink "DiodeLinkModel" 233 ⟨"DiodeLinkModel", "has", "(I)Z"⟩,
  Cond.methodLink "DiodeLinkModel" 143 ⟨"DiodeLinkModel", "in", "(III)Z"⟩,
  Cond.methodLink "DiodeLinkModel" 147 ⟨"DiodeLinkModel", "fails", "(ZI)Z"⟩,
  Cond.fieldLink "DiodeLinkModel" 197 "DiodeLinkModel" "turn" "I",
  Cond.constantLong "DiodeLinkModel" 141 (Int64.ofInt (-3750763034362895579)),
  Cond.methodLink "DiodeLinkModel" 281 ⟨"DiodeLinkModel", "sizeTold", "(II)I"⟩,
  Cond.methodLink "DiodeLinkModel" 284 ⟨"DiodeLinkModel", "hashTold", "(II)J"⟩,
  Cond.methodLink "DiodeLinkModel" 250 ⟨"DiodeLinkModel", "forget", "(I)V"⟩,
  Cond.methodLink "DiodeLinkModel" 201 ⟨"DiodeLinkModel", "blocks", "(I)I"⟩,
  Cond.methodLink "DiodeLinkModel" 269 ⟨"DiodeLinkModel", "byteOf", "(II)I"⟩,
  Cond.methodLink "DiodeLinkModel" 275 ⟨"DiodeLinkModel", "tells", "(II)I"⟩,
  Cond.methodLink "DiodeLinkModel" 204 ⟨"DiodeLinkModel", "pieces", "(II)I"⟩,
  Cond.methodLink "DiodeLinkModel" 190 ⟨"DiodeLinkModel", "manifest", "(III)V"⟩,
  Cond.methodLink "DiodeLinkModel" 194 ⟨"DiodeLinkModel", "anew", "()V"⟩,
  Cond.methodLink "DiodeLinkModel" 278 ⟨"DiodeLinkModel", "isComplete", "(I)Z"⟩]
def zTs9 : List Cond := [
  Cond.methodLink "DiodeLinkModel" 182 ⟨"DiodeLinkModel", "begin", "()J"⟩,
  Cond.methodLink "DiodeLinkModel" 186 ⟨"DiodeLinkModel", "more", "(JI)J"⟩,
  Cond.methodLink "DiodeLinkModel" 287 ⟨"DiodeLinkModel", "compare", "(II)V"⟩,
  Cond.methodLink "DiodeLinkModel" 290 ⟨"DiodeLinkModel", "isManifest", "(I)Z"⟩,
  Cond.fieldLink "DiodeLinkModel" 306 "DiodeLinkModel" "dropped" "I",
  Cond.fieldLink "DiodeLinkModel" 241 "DiodeLinkModel" "rows" "I",
  Cond.fieldLink "DiodeLinkModel" 214 "DiodeLinkModel" "sent" "I",
  Cond.fieldLink "DiodeLinkModel" 136 "DiodeLinkModel" "thrown" "I",
  Cond.fieldLink "DiodeLinkModel" 151 "DiodeLinkModel" "given" "I",
  Cond.fieldLink "DiodeLinkModel" 154 "DiodeLinkModel" "named" "I",
  Cond.constantLong "DiodeLinkModel" 157 (Int64.ofInt (255)),
  Cond.methodLink "DiodeLinkModel" 247 ⟨"DiodeLinkModel", "drop", "(III)V"⟩,
  Cond.constant "DiodeLinkModel" 349 (Int32.ofInt (65535)),
  Cond.methodLink "DiodeLinkModel" 257 ⟨"DiodeLinkModel", "placeOf", "(II)I"⟩,
  Cond.methodLink "DiodeLinkModel" 350 ⟨"DiodeLinkModel", "wasReleased", "(II)Z"⟩,
  Cond.methodLink "DiodeLinkModel" 229 ⟨"DiodeLinkModel", "hashOf", "(I)J"⟩,
  Cond.methodLink "DiodeLinkModel" 237 ⟨"DiodeLinkModel", "eight", "(II)J"⟩,
  Cond.methodLink "DiodeLinkModel" 309 ⟨"DiodeLinkModel", "drops", "(I)I"⟩,
  Cond.fieldLink "DiodeLinkModel" 312 "DiodeLinkModel" "greatest" "I",
  Cond.methodLink "DiodeLinkModel" 244 ⟨"DiodeLinkModel", "unsize", "()V"⟩,
  Cond.methodLink "DiodeLinkModel" 315 ⟨"DiodeLinkModel", "canBe", "(I)Z"⟩,
  Cond.methodLink "DiodeLinkModel" 318 ⟨"DiodeLinkModel", "hears", "(II)I"⟩,
  Cond.methodLink "DiodeLinkModel" 321 ⟨"DiodeLinkModel", "takes", "(IIII)I"⟩,
  Cond.methodLink "DiodeLinkModel" 260 ⟨"DiodeLinkModel", "empty", "(I)V"⟩,
  Cond.methodLink "DiodeLinkModel" 263 ⟨"DiodeLinkModel", "shift", "(I)V"⟩,
  Cond.fieldLink "DiodeLinkModel" 356 "DiodeLinkModel" "entries" "I",
  Cond.methodLink "DiodeLinkModel" 272 ⟨"DiodeLinkModel", "isBelow", "(III)Z"⟩,
  Cond.fieldLink "DiodeLinkModel" 359 "DiodeLinkModel" "before" "J",
  Cond.methodLink "DiodeLinkModel" 363 ⟨"DiodeLinkModel", "linked", "(JI)J"⟩,
  Cond.methodLink "DiodeLinkModel" 159 ⟨"DiodeLinkModel", "order", "(I)I"⟩,
  Cond.methodLink "DiodeLinkModel" 366 ⟨"DiodeLinkModel", "isKept", "(I)Z"⟩,
  Cond.methodLink "DiodeLinkModel" 296 ⟨"DiodeLinkModel", "reject", "(III)V"⟩,
  Cond.methodLink "DiodeLinkModel" 299 ⟨"DiodeLinkModel", "breaks", "(III)Z"⟩,
  Cond.methodLink "DiodeLinkModel" 208 ⟨"DiodeLinkModel", "within", "(III)I"⟩,
  Cond.methodLink "DiodeLinkModel" 178 ⟨"DiodeLinkModel", "told", "(III)I"⟩,
  Cond.constant "DiodeLinkModel" 200 (Int32.ofInt (40503)),
  Cond.constantLong "DiodeLinkModel" 139 (Int64.ofInt (1099511628211)),
  Cond.methodLink "DiodeLinkModel" 331 ⟨"DiodeLinkModel", "rowsOf", "(II)I"⟩,
  Cond.methodLink "DiodeLinkModel" 302 ⟨"DiodeLinkModel", "note", "(IIII)V"⟩,
  Cond.methodLink "DiodeLinkModel" 353 ⟨"DiodeLinkModel", "keep", "(II)V"⟩,
  Cond.methodLink "DiodeLinkModel" 167 ⟨"DiodeLinkModel", "place", "(I)I"⟩,
  Cond.methodLink "DiodeLinkModel" 170 ⟨"DiodeLinkModel", "isThere", "(II)Z"⟩,
  Cond.methodLink "DiodeLinkModel" 174 ⟨"DiodeLinkModel", "move", "(II)V"⟩,
  Cond.methodLink "DiodeLinkModel" 266 ⟨"DiodeLinkModel", "hasRows", "(I)Z"⟩,
  Cond.methodLink "DiodeLinkModel" 211 ⟨"DiodeLinkModel", "look", "(II)I"⟩,
  Cond.methodLink "DiodeLinkModel" 217 ⟨"DiodeLinkModel", "mask", "(IIIII)I"⟩,
  Cond.methodLink "DiodeLinkModel" 221 ⟨"DiodeLinkModel", "piece", "(III)J"⟩,
  Cond.methodLink "DiodeLinkModel" 225 ⟨"DiodeLinkModel", "lay", "(IIJI)V"⟩,
  Cond.methodLink "DiodeLinkModel" 293 ⟨"DiodeLinkModel", "borrows", "(II)Z"⟩,
  Cond.methodLink "DiodeLinkModel" 254 ⟨"DiodeLinkModel", "clear", "(I)V"⟩,
  Cond.methodLink "DiodeLinkModel" 325 ⟨"DiodeLinkModel", "sum", "(III)I"⟩,
  Cond.methodLink "DiodeLinkModel" 346 ⟨"DiodeLinkModel", "together", "(III)J"⟩,
  Cond.methodLink "DiodeLinkModel" 328 ⟨"DiodeLinkModel", "room", "()Z"⟩,
  Cond.methodLink "DiodeLinkModel" 334 ⟨"DiodeLinkModel", "solve", "(III)V"⟩,
  Cond.methodLink "DiodeLinkModel" 337 ⟨"DiodeLinkModel", "completes", "(II)V"⟩,
  Cond.methodLink "DiodeLinkModel" 340 ⟨"DiodeLinkModel", "share", "(I)V"⟩,
  Cond.methodLink "DiodeLinkModel" 343 ⟨"DiodeLinkModel", "judge", "(I)V"⟩,
  Cond.methodLink "DiodeLinkModel" 163 ⟨"DiodeLinkModel", "isName", "()Z"⟩,
  Cond.classLink "DiodeLinkLaw" 13 "java/lang/IllegalArgumentException",
  Cond.classLink "DiodeLinkLaw" 15 "java/lang/IllegalStateException"]
def zTs10 : List Cond := [
  Cond.classLink "DiodeLinkLaw" 68 "java/lang/IndexOutOfBoundsException",
  Cond.instanceMethod ⟨"DiodeLink", "<init>", "()V"⟩,
  Cond.initialized "DiodeLink",
  Cond.code ⟨"DiodeLink", "<init>", "()V"⟩ prog_1_method_1_code 2 (none),
  Cond.instanceMethod ⟨"DiodeLink", "alter", "(III)V"⟩,
  Cond.initialized "DiodeLink",
  Cond.code ⟨"DiodeLink", "alter", "(III)V"⟩ prog_1_method_8_code 4 (none),
  Cond.selects "DiodeLink" ⟨"DiodeLink", "alter", "(III)V"⟩ ⟨"DiodeLink", "alter", "(III)V"⟩,
  Cond.static ⟨"DiodeLink", "checkFolder", "(I)V"⟩,
  Cond.initialized "DiodeLink",
  Cond.code ⟨"DiodeLink", "checkFolder", "(I)V"⟩ prog_1_method_23_code 1 (none),
  Cond.instanceMethod ⟨"DiodeLink", "checkSlot", "(I)V"⟩,
  Cond.initialized "DiodeLink",
  Cond.code ⟨"DiodeLink", "checkSlot", "(I)V"⟩ prog_1_method_25_code 2 (none),
  Cond.selects "DiodeLink" ⟨"DiodeLink", "checkSlot", "(I)V"⟩ ⟨"DiodeLink", "checkSlot", "(I)V"⟩,
  Cond.static ⟨"DiodeLink", "checkVersion", "(II)V"⟩,
  Cond.initialized "DiodeLink",
  Cond.code ⟨"DiodeLink", "checkVersion", "(II)V"⟩ prog_1_method_24_code 2 (none),
  Cond.instanceMethod ⟨"DiodeLink", "commit", "(I)I"⟩,
  Cond.initialized "DiodeLink",
  Cond.code ⟨"DiodeLink", "commit", "(I)I"⟩ prog_1_method_5_code 3 (some .int),
  Cond.selects "DiodeLink" ⟨"DiodeLink", "commit", "(I)I"⟩ ⟨"DiodeLink", "commit", "(I)I"⟩,
  Cond.instanceMethod ⟨"DiodeLink", "count", "(I)I"⟩,
  Cond.initialized "DiodeLink",
  Cond.code ⟨"DiodeLink", "count", "(I)I"⟩ prog_1_method_21_code 2 (some .int),
  Cond.selects "DiodeLink" ⟨"DiodeLink", "count", "(I)I"⟩ ⟨"DiodeLink", "count", "(I)I"⟩,
  Cond.instanceMethod ⟨"DiodeLink", "feed", "(ZJI)I"⟩,
  Cond.initialized "DiodeLink",
  Cond.code ⟨"DiodeLink", "feed", "(ZJI)I"⟩ prog_1_method_2_code 6 (some .int),
  Cond.selects "DiodeLink" ⟨"DiodeLink", "feed", "(ZJI)I"⟩ ⟨"DiodeLink", "feed", "(ZJI)I"⟩,
  Cond.instanceMethod ⟨"DiodeLink", "file", "(IIIZ)I"⟩,
  Cond.initialized "DiodeLink",
  Cond.code ⟨"DiodeLink", "file", "(IIIZ)I"⟩ prog_1_method_17_code 7 (some .int),
  Cond.selects "DiodeLink" ⟨"DiodeLink", "file", "(IIIZ)I"⟩ ⟨"DiodeLink", "file", "(IIIZ)I"⟩,
  Cond.instanceMethod ⟨"DiodeLink", "have", "(II)I"⟩,
  Cond.initialized "DiodeLink",
  Cond.code ⟨"DiodeLink", "have", "(II)I"⟩ prog_1_method_13_code 3 (some .int),
  Cond.selects "DiodeLink" ⟨"DiodeLink", "have", "(II)I"⟩ ⟨"DiodeLink", "have", "(II)I"⟩,
  Cond.instanceMethod ⟨"DiodeLink", "hear", "(I)I"⟩,
  Cond.initialized "DiodeLink",
  Cond.code ⟨"DiodeLink", "hear", "(I)I"⟩ prog_1_method_9_code 2 (some .int),
  Cond.selects "DiodeLink" ⟨"DiodeLink", "hear", "(I)I"⟩ ⟨"DiodeLink", "hear", "(I)I"⟩,
  Cond.static ⟨"DiodeLink", "isFolder", "(I)Z"⟩,
  Cond.initialized "DiodeLink",
  Cond.code ⟨"DiodeLink", "isFolder", "(I)Z"⟩ prog_1_method_22_code 1 (some .boolean),
  Cond.instanceMethod ⟨"DiodeLink", "isSound", "()Z"⟩,
  Cond.initialized "DiodeLink",
  Cond.code ⟨"DiodeLink", "isSound", "()Z"⟩ prog_1_method_20_code 1 (some .boolean),
  Cond.selects "DiodeLink" ⟨"DiodeLink", "isSound", "()Z"⟩ ⟨"DiodeLink", "isSound", "()Z"⟩,
  Cond.instanceMethod ⟨"DiodeLink", "journal", "(II)J"⟩,
  Cond.initialized "DiodeLink",
  Cond.code ⟨"DiodeLink", "journal", "(II)J"⟩ prog_1_method_18_code 3 (some .long),
  Cond.selects "DiodeLink" ⟨"DiodeLink", "journal", "(II)J"⟩ ⟨"DiodeLink", "journal", "(II)J"⟩,
  Cond.instanceMethod ⟨"DiodeLink", "packet", "(II)J"⟩,
  Cond.initialized "DiodeLink",
  Cond.code ⟨"DiodeLink", "packet", "(II)J"⟩ prog_1_method_7_code 3 (some .long),
  Cond.selects "DiodeLink" ⟨"DiodeLink", "packet", "(II)J"⟩ ⟨"DiodeLink", "packet", "(II)J"⟩,
  Cond.instanceMethod ⟨"DiodeLink", "rank", "(IIII)I"⟩,
  Cond.initialized "DiodeLink",
  Cond.code ⟨"DiodeLink", "rank", "(IIII)I"⟩ prog_1_method_14_code 5 (some .int)]
def zTs11 : List Cond := [
  Cond.selects "DiodeLink" ⟨"DiodeLink", "rank", "(IIII)I"⟩ ⟨"DiodeLink", "rank", "(IIII)I"⟩,
  Cond.instanceMethod ⟨"DiodeLink", "release", "(I)I"⟩,
  Cond.initialized "DiodeLink",
  Cond.code ⟨"DiodeLink", "release", "(I)I"⟩ prog_1_method_15_code 2 (some .int),
  Cond.selects "DiodeLink" ⟨"DiodeLink", "release", "(I)I"⟩ ⟨"DiodeLink", "release", "(I)I"⟩,
  Cond.instanceMethod ⟨"DiodeLink", "released", "(I)I"⟩,
  Cond.initialized "DiodeLink",
  Cond.code ⟨"DiodeLink", "released", "(I)I"⟩ prog_1_method_16_code 2 (some .int),
  Cond.selects "DiodeLink" ⟨"DiodeLink", "released", "(I)I"⟩ ⟨"DiodeLink", "released", "(I)I"⟩,
  Cond.instanceMethod ⟨"DiodeLink", "remove", "(I)Z"⟩,
  Cond.initialized "DiodeLink",
  Cond.code ⟨"DiodeLink", "remove", "(I)Z"⟩ prog_1_method_4_code 4 (some .boolean),
  Cond.selects "DiodeLink" ⟨"DiodeLink", "remove", "(I)Z"⟩ ⟨"DiodeLink", "remove", "(I)Z"⟩,
  Cond.instanceMethod ⟨"DiodeLink", "restartReceiver", "()V"⟩,
  Cond.initialized "DiodeLink",
  Cond.code ⟨"DiodeLink", "restartReceiver", "()V"⟩ prog_1_method_11_code 1 (none),
  Cond.selects "DiodeLink" ⟨"DiodeLink", "restartReceiver", "()V"⟩ ⟨"DiodeLink", "restartReceiver", "()V"⟩,
  Cond.instanceMethod ⟨"DiodeLink", "restartSender", "()I"⟩,
  Cond.initialized "DiodeLink",
  Cond.code ⟨"DiodeLink", "restartSender", "()I"⟩ prog_1_method_10_code 1 (some .int),
  Cond.selects "DiodeLink" ⟨"DiodeLink", "restartSender", "()I"⟩ ⟨"DiodeLink", "restartSender", "()I"⟩,
  Cond.instanceMethod ⟨"DiodeLink", "rule", "(IIZ)V"⟩,
  Cond.initialized "DiodeLink",
  Cond.code ⟨"DiodeLink", "rule", "(IIZ)V"⟩ prog_1_method_12_code 4 (none),
  Cond.selects "DiodeLink" ⟨"DiodeLink", "rule", "(IIZ)V"⟩ ⟨"DiodeLink", "rule", "(IIZ)V"⟩,
  Cond.instanceMethod ⟨"DiodeLink", "send", "()I"⟩,
  Cond.initialized "DiodeLink",
  Cond.code ⟨"DiodeLink", "send", "()I"⟩ prog_1_method_6_code 2 (some .int),
  Cond.selects "DiodeLink" ⟨"DiodeLink", "send", "()I"⟩ ⟨"DiodeLink", "send", "()I"⟩,
  Cond.instanceMethod ⟨"DiodeLink", "touch", "(III)V"⟩,
  Cond.initialized "DiodeLink",
  Cond.code ⟨"DiodeLink", "touch", "(III)V"⟩ prog_1_method_19_code 4 (none),
  Cond.selects "DiodeLink" ⟨"DiodeLink", "touch", "(III)V"⟩ ⟨"DiodeLink", "touch", "(III)V"⟩,
  Cond.instanceMethod ⟨"DiodeLink", "write", "(I)I"⟩,
  Cond.initialized "DiodeLink",
  Cond.code ⟨"DiodeLink", "write", "(I)I"⟩ prog_1_method_3_code 4 (some .int),
  Cond.selects "DiodeLink" ⟨"DiodeLink", "write", "(I)I"⟩ ⟨"DiodeLink", "write", "(I)I"⟩,
  Cond.instanceMethod ⟨"DiodeLink$Bytes", "<init>", "(I)V"⟩,
  Cond.initialized "DiodeLink$Bytes",
  Cond.code ⟨"DiodeLink$Bytes", "<init>", "(I)V"⟩ prog_2_method_1_code 2 (none),
  Cond.instanceMethod ⟨"DiodeLink$Bytes", "append", "(JI)V"⟩,
  Cond.initialized "DiodeLink$Bytes",
  Cond.code ⟨"DiodeLink$Bytes", "append", "(JI)V"⟩ prog_2_method_11_code 5 (none),
  Cond.selects "DiodeLink$Bytes" ⟨"DiodeLink$Bytes", "append", "(JI)V"⟩ ⟨"DiodeLink$Bytes", "append", "(JI)V"⟩,
  Cond.instanceMethod ⟨"DiodeLink$Bytes", "appendAll", "(LDiodeLink$Bytes;)V"⟩,
  Cond.initialized "DiodeLink$Bytes",
  Cond.code ⟨"DiodeLink$Bytes", "appendAll", "(LDiodeLink$Bytes;)V"⟩ prog_2_method_12_code 3 (none),
  Cond.selects "DiodeLink$Bytes" ⟨"DiodeLink$Bytes", "appendAll", "(LDiodeLink$Bytes;)V"⟩ ⟨"DiodeLink$Bytes", "appendAll", "(LDiodeLink$Bytes;)V"⟩,
  Cond.instanceMethod ⟨"DiodeLink$Bytes", "at", "(I)I"⟩,
  Cond.initialized "DiodeLink$Bytes",
  Cond.code ⟨"DiodeLink$Bytes", "at", "(I)I"⟩ prog_2_method_6_code 2 (some .int),
  Cond.selects "DiodeLink$Bytes" ⟨"DiodeLink$Bytes", "at", "(I)I"⟩ ⟨"DiodeLink$Bytes", "at", "(I)I"⟩,
  Cond.instanceMethod ⟨"DiodeLink$Bytes", "clear", "()V"⟩,
  Cond.initialized "DiodeLink$Bytes",
  Cond.code ⟨"DiodeLink$Bytes", "clear", "()V"⟩ prog_2_method_4_code 1 (none),
  Cond.selects "DiodeLink$Bytes" ⟨"DiodeLink$Bytes", "clear", "()V"⟩ ⟨"DiodeLink$Bytes", "clear", "()V"⟩,
  Cond.instanceMethod ⟨"DiodeLink$Bytes", "compareAll", "(LDiodeLink$Bytes;)I"⟩,
  Cond.initialized "DiodeLink$Bytes",
  Cond.code ⟨"DiodeLink$Bytes", "compareAll", "(LDiodeLink$Bytes;)I"⟩ prog_2_method_17_code 2 (some .int),
  Cond.selects "DiodeLink$Bytes" ⟨"DiodeLink$Bytes", "compareAll", "(LDiodeLink$Bytes;)I"⟩ ⟨"DiodeLink$Bytes", "compareAll", "(LDiodeLink$Bytes;)I"⟩]
def zTs12 : List Cond := [
  Cond.instanceMethod ⟨"DiodeLink$Bytes", "compareParts", "(IILDiodeLink$Bytes;II)I"⟩,
  Cond.initialized "DiodeLink$Bytes",
  Cond.code ⟨"DiodeLink$Bytes", "compareParts", "(IILDiodeLink$Bytes;II)I"⟩ prog_2_method_16_code 9 (some .int),
  Cond.selects "DiodeLink$Bytes" ⟨"DiodeLink$Bytes", "compareParts", "(IILDiodeLink$Bytes;II)I"⟩ ⟨"DiodeLink$Bytes", "compareParts", "(IILDiodeLink$Bytes;II)I"⟩,
  Cond.instanceMethod ⟨"DiodeLink$Bytes", "copyFrom", "(LDiodeLink$Bytes;)V"⟩,
  Cond.initialized "DiodeLink$Bytes",
  Cond.code ⟨"DiodeLink$Bytes", "copyFrom", "(LDiodeLink$Bytes;)V"⟩ prog_2_method_13_code 2 (none),
  Cond.selects "DiodeLink$Bytes" ⟨"DiodeLink$Bytes", "copyFrom", "(LDiodeLink$Bytes;)V"⟩ ⟨"DiodeLink$Bytes", "copyFrom", "(LDiodeLink$Bytes;)V"⟩,
  Cond.instanceMethod ⟨"DiodeLink$Bytes", "hash", "(I)J"⟩,
  Cond.initialized "DiodeLink$Bytes",
  Cond.code ⟨"DiodeLink$Bytes", "hash", "(I)J"⟩ prog_2_method_14_code 5 (some .long),
  Cond.selects "DiodeLink$Bytes" ⟨"DiodeLink$Bytes", "hash", "(I)J"⟩ ⟨"DiodeLink$Bytes", "hash", "(I)J"⟩,
  Cond.instanceMethod ⟨"DiodeLink$Bytes", "isName", "(II)Z"⟩,
  Cond.initialized "DiodeLink$Bytes",
  Cond.code ⟨"DiodeLink$Bytes", "isName", "(II)Z"⟩ prog_2_method_15_code 4 (some .boolean),
  Cond.selects "DiodeLink$Bytes" ⟨"DiodeLink$Bytes", "isName", "(II)Z"⟩ ⟨"DiodeLink$Bytes", "isName", "(II)Z"⟩,
  Cond.instanceMethod ⟨"DiodeLink$Bytes", "limit", "()I"⟩,
  Cond.initialized "DiodeLink$Bytes",
  Cond.code ⟨"DiodeLink$Bytes", "limit", "()I"⟩ prog_2_method_3_code 1 (some .int),
  Cond.selects "DiodeLink$Bytes" ⟨"DiodeLink$Bytes", "limit", "()I"⟩ ⟨"DiodeLink$Bytes", "limit", "()I"⟩,
  Cond.instanceMethod ⟨"DiodeLink$Bytes", "number", "(II)J"⟩,
  Cond.initialized "DiodeLink$Bytes",
  Cond.code ⟨"DiodeLink$Bytes", "number", "(II)J"⟩ prog_2_method_9_code 6 (some .long),
  Cond.selects "DiodeLink$Bytes" ⟨"DiodeLink$Bytes", "number", "(II)J"⟩ ⟨"DiodeLink$Bytes", "number", "(II)J"⟩,
  Cond.instanceMethod ⟨"DiodeLink$Bytes", "put", "(II)V"⟩,
  Cond.initialized "DiodeLink$Bytes",
  Cond.code ⟨"DiodeLink$Bytes", "put", "(II)V"⟩ prog_2_method_7_code 3 (none),
  Cond.selects "DiodeLink$Bytes" ⟨"DiodeLink$Bytes", "put", "(II)V"⟩ ⟨"DiodeLink$Bytes", "put", "(II)V"⟩,
  Cond.instanceMethod ⟨"DiodeLink$Bytes", "putNumber", "(IJI)V"⟩,
  Cond.initialized "DiodeLink$Bytes",
  Cond.code ⟨"DiodeLink$Bytes", "putNumber", "(IJI)V"⟩ prog_2_method_10_code 6 (none),
  Cond.selects "DiodeLink$Bytes" ⟨"DiodeLink$Bytes", "putNumber", "(IJI)V"⟩ ⟨"DiodeLink$Bytes", "putNumber", "(IJI)V"⟩,
  Cond.instanceMethod ⟨"DiodeLink$Bytes", "resize", "(I)V"⟩,
  Cond.initialized "DiodeLink$Bytes",
  Cond.code ⟨"DiodeLink$Bytes", "resize", "(I)V"⟩ prog_2_method_5_code 2 (none),
  Cond.selects "DiodeLink$Bytes" ⟨"DiodeLink$Bytes", "resize", "(I)V"⟩ ⟨"DiodeLink$Bytes", "resize", "(I)V"⟩,
  Cond.instanceMethod ⟨"DiodeLink$Bytes", "size", "()I"⟩,
  Cond.initialized "DiodeLink$Bytes",
  Cond.code ⟨"DiodeLink$Bytes", "size", "()I"⟩ prog_2_method_2_code 1 (some .int),
  Cond.selects "DiodeLink$Bytes" ⟨"DiodeLink$Bytes", "size", "()I"⟩ ⟨"DiodeLink$Bytes", "size", "()I"⟩,
  Cond.instanceMethod ⟨"DiodeLink$Bytes", "turn", "(II)V"⟩,
  Cond.initialized "DiodeLink$Bytes",
  Cond.code ⟨"DiodeLink$Bytes", "turn", "(II)V"⟩ prog_2_method_8_code 3 (none),
  Cond.selects "DiodeLink$Bytes" ⟨"DiodeLink$Bytes", "turn", "(II)V"⟩ ⟨"DiodeLink$Bytes", "turn", "(II)V"⟩,
  Cond.static ⟨"DiodeLink$Cut", "blocks", "(I)I"⟩,
  Cond.initialized "DiodeLink$Cut",
  Cond.code ⟨"DiodeLink$Cut", "blocks", "(I)I"⟩ prog_3_method_2_code 1 (some .int),
  Cond.static ⟨"DiodeLink$Cut", "mask", "(IIIII)I"⟩,
  Cond.initialized "DiodeLink$Cut",
  Cond.code ⟨"DiodeLink$Cut", "mask", "(IIIII)I"⟩ prog_3_method_5_code 8 (some .int),
  Cond.static ⟨"DiodeLink$Cut", "packets", "(II)I"⟩,
  Cond.initialized "DiodeLink$Cut",
  Cond.code ⟨"DiodeLink$Cut", "packets", "(II)I"⟩ prog_3_method_4_code 2 (some .int),
  Cond.static ⟨"DiodeLink$Cut", "pieces", "(II)I"⟩,
  Cond.initialized "DiodeLink$Cut",
  Cond.code ⟨"DiodeLink$Cut", "pieces", "(II)I"⟩ prog_3_method_3_code 3 (some .int),
  Cond.instanceMethod ⟨"DiodeLink$Edition", "<init>", "()V"⟩,
  Cond.initialized "DiodeLink$Edition",
  Cond.code ⟨"DiodeLink$Edition", "<init>", "()V"⟩ prog_4_method_1_code 2 (none),
  Cond.instanceMethod ⟨"DiodeLink$Edition", "appendPlace", "(LDiodeLink$Bytes;III)V"⟩]
def zTs13 : List Cond := [
  Cond.initialized "DiodeLink$Edition",
  Cond.code ⟨"DiodeLink$Edition", "appendPlace", "(LDiodeLink$Bytes;III)V"⟩ prog_4_method_5_code 5 (none),
  Cond.selects "DiodeLink$Edition" ⟨"DiodeLink$Edition", "appendPlace", "(LDiodeLink$Bytes;III)V"⟩ ⟨"DiodeLink$Edition", "appendPlace", "(LDiodeLink$Bytes;III)V"⟩,
  Cond.instanceMethod ⟨"DiodeLink$Edition", "fillPacket", "(LDiodeLink$Bytes;III)V"⟩,
  Cond.initialized "DiodeLink$Edition",
  Cond.code ⟨"DiodeLink$Edition", "fillPacket", "(LDiodeLink$Bytes;III)V"⟩ prog_4_method_4_code 10 (none),
  Cond.selects "DiodeLink$Edition" ⟨"DiodeLink$Edition", "fillPacket", "(LDiodeLink$Bytes;III)V"⟩ ⟨"DiodeLink$Edition", "fillPacket", "(LDiodeLink$Bytes;III)V"⟩,
  Cond.instanceMethod ⟨"DiodeLink$Edition", "packets", "()I"⟩,
  Cond.initialized "DiodeLink$Edition",
  Cond.code ⟨"DiodeLink$Edition", "packets", "()I"⟩ prog_4_method_3_code 5 (some .int),
  Cond.selects "DiodeLink$Edition" ⟨"DiodeLink$Edition", "packets", "()I"⟩ ⟨"DiodeLink$Edition", "packets", "()I"⟩,
  Cond.instanceMethod ⟨"DiodeLink$Edition", "record", "(ILDiodeLink$Folder;)V"⟩,
  Cond.initialized "DiodeLink$Edition",
  Cond.code ⟨"DiodeLink$Edition", "record", "(ILDiodeLink$Folder;)V"⟩ prog_4_method_2_code 6 (none),
  Cond.selects "DiodeLink$Edition" ⟨"DiodeLink$Edition", "record", "(ILDiodeLink$Folder;)V"⟩ ⟨"DiodeLink$Edition", "record", "(ILDiodeLink$Folder;)V"⟩,
  Cond.instanceMethod ⟨"DiodeLink$Edition", "sum", "(III)J"⟩,
  Cond.initialized "DiodeLink$Edition",
  Cond.code ⟨"DiodeLink$Edition", "sum", "(III)J"⟩ prog_4_method_6_code 9 (some .long),
  Cond.selects "DiodeLink$Edition" ⟨"DiodeLink$Edition", "sum", "(III)J"⟩ ⟨"DiodeLink$Edition", "sum", "(III)J"⟩,
  Cond.instanceMethod ⟨"DiodeLink$Folder", "<init>", "()V"⟩,
  Cond.initialized "DiodeLink$Folder",
  Cond.code ⟨"DiodeLink$Folder", "<init>", "()V"⟩ prog_5_method_1_code 2 (none),
  Cond.instanceMethod ⟨"DiodeLink$Folder", "content", "(I)LDiodeLink$Bytes;"⟩,
  Cond.initialized "DiodeLink$Folder",
  Cond.code ⟨"DiodeLink$Folder", "content", "(I)LDiodeLink$Bytes;"⟩ prog_5_method_4_code 2 (some (.object "DiodeLink$Bytes")),
  Cond.selects "DiodeLink$Folder" ⟨"DiodeLink$Folder", "content", "(I)LDiodeLink$Bytes;"⟩ ⟨"DiodeLink$Folder", "content", "(I)LDiodeLink$Bytes;"⟩,
  Cond.instanceMethod ⟨"DiodeLink$Folder", "edition", "(I)LDiodeLink$Edition;"⟩,
  Cond.initialized "DiodeLink$Folder",
  Cond.code ⟨"DiodeLink$Folder", "edition", "(I)LDiodeLink$Edition;"⟩ prog_5_method_8_code 2 (some (.object "DiodeLink$Edition")),
  Cond.selects "DiodeLink$Folder" ⟨"DiodeLink$Folder", "edition", "(I)LDiodeLink$Edition;"⟩ ⟨"DiodeLink$Folder", "edition", "(I)LDiodeLink$Edition;"⟩,
  Cond.instanceMethod ⟨"DiodeLink$Folder", "files", "()I"⟩,
  Cond.initialized "DiodeLink$Folder",
  Cond.code ⟨"DiodeLink$Folder", "files", "()I"⟩ prog_5_method_2_code 1 (some .int),
  Cond.selects "DiodeLink$Folder" ⟨"DiodeLink$Folder", "files", "()I"⟩ ⟨"DiodeLink$Folder", "files", "()I"⟩,
  Cond.instanceMethod ⟨"DiodeLink$Folder", "isAt", "(ILDiodeLink$Bytes;)Z"⟩,
  Cond.initialized "DiodeLink$Folder",
  Cond.code ⟨"DiodeLink$Folder", "isAt", "(ILDiodeLink$Bytes;)Z"⟩ prog_5_method_10_code 3 (some .boolean),
  Cond.selects "DiodeLink$Folder" ⟨"DiodeLink$Folder", "isAt", "(ILDiodeLink$Bytes;)Z"⟩ ⟨"DiodeLink$Folder", "isAt", "(ILDiodeLink$Bytes;)Z"⟩,
  Cond.instanceMethod ⟨"DiodeLink$Folder", "makeVersion", "()I"⟩,
  Cond.initialized "DiodeLink$Folder",
  Cond.code ⟨"DiodeLink$Folder", "makeVersion", "()I"⟩ prog_5_method_7_code 1 (some .int),
  Cond.selects "DiodeLink$Folder" ⟨"DiodeLink$Folder", "makeVersion", "()I"⟩ ⟨"DiodeLink$Folder", "makeVersion", "()I"⟩,
  Cond.instanceMethod ⟨"DiodeLink$Folder", "moveFile", "(II)V"⟩,
  Cond.initialized "DiodeLink$Folder",
  Cond.code ⟨"DiodeLink$Folder", "moveFile", "(II)V"⟩ prog_5_method_11_code 6 (none),
  Cond.selects "DiodeLink$Folder" ⟨"DiodeLink$Folder", "moveFile", "(II)V"⟩ ⟨"DiodeLink$Folder", "moveFile", "(II)V"⟩,
  Cond.instanceMethod ⟨"DiodeLink$Folder", "name", "(I)LDiodeLink$Bytes;"⟩,
  Cond.initialized "DiodeLink$Folder",
  Cond.code ⟨"DiodeLink$Folder", "name", "(I)LDiodeLink$Bytes;"⟩ prog_5_method_3_code 2 (some (.object "DiodeLink$Bytes")),
  Cond.selects "DiodeLink$Folder" ⟨"DiodeLink$Folder", "name", "(I)LDiodeLink$Bytes;"⟩ ⟨"DiodeLink$Folder", "name", "(I)LDiodeLink$Bytes;"⟩,
  Cond.instanceMethod ⟨"DiodeLink$Folder", "placeOf", "(LDiodeLink$Bytes;)I"⟩,
  Cond.initialized "DiodeLink$Folder",
  Cond.code ⟨"DiodeLink$Folder", "placeOf", "(LDiodeLink$Bytes;)I"⟩ prog_5_method_9_code 3 (some .int),
  Cond.selects "DiodeLink$Folder" ⟨"DiodeLink$Folder", "placeOf", "(LDiodeLink$Bytes;)I"⟩ ⟨"DiodeLink$Folder", "placeOf", "(LDiodeLink$Bytes;)I"⟩,
  Cond.instanceMethod ⟨"DiodeLink$Folder", "put", "(LDiodeLink$Bytes;LDiodeLink$Bytes;)I"⟩,
  Cond.initialized "DiodeLink$Folder",
  Cond.code ⟨"DiodeLink$Folder", "put", "(LDiodeLink$Bytes;LDiodeLink$Bytes;)I"⟩ prog_5_method_5_code 4 (some .int),
  Cond.selects "DiodeLink$Folder" ⟨"DiodeLink$Folder", "put", "(LDiodeLink$Bytes;LDiodeLink$Bytes;)I"⟩ ⟨"DiodeLink$Folder", "put", "(LDiodeLink$Bytes;LDiodeLink$Bytes;)I"⟩,
  Cond.instanceMethod ⟨"DiodeLink$Folder", "takeOut", "(LDiodeLink$Bytes;)Z"⟩,
  Cond.initialized "DiodeLink$Folder"]
def zTs14 : List Cond := [
  Cond.code ⟨"DiodeLink$Folder", "takeOut", "(LDiodeLink$Bytes;)Z"⟩ prog_5_method_6_code 3 (some .boolean),
  Cond.selects "DiodeLink$Folder" ⟨"DiodeLink$Folder", "takeOut", "(LDiodeLink$Bytes;)Z"⟩ ⟨"DiodeLink$Folder", "takeOut", "(LDiodeLink$Bytes;)Z"⟩,
  Cond.instanceMethod ⟨"DiodeLink$Journal", "<init>", "()V"⟩,
  Cond.initialized "DiodeLink$Journal",
  Cond.code ⟨"DiodeLink$Journal", "<init>", "()V"⟩ prog_6_method_1_code 1 (none),
  Cond.instanceMethod ⟨"DiodeLink$Journal", "dueLink", "(JI)J"⟩,
  Cond.initialized "DiodeLink$Journal",
  Cond.code ⟨"DiodeLink$Journal", "dueLink", "(JI)J"⟩ prog_6_method_11_code 4 (some .long),
  Cond.selects "DiodeLink$Journal" ⟨"DiodeLink$Journal", "dueLink", "(JI)J"⟩ ⟨"DiodeLink$Journal", "dueLink", "(JI)J"⟩,
  Cond.instanceMethod ⟨"DiodeLink$Journal", "enter", "(IIII)V"⟩,
  Cond.initialized "DiodeLink$Journal",
  Cond.code ⟨"DiodeLink$Journal", "enter", "(IIII)V"⟩ prog_6_method_7_code 5 (none),
  Cond.selects "DiodeLink$Journal" ⟨"DiodeLink$Journal", "enter", "(IIII)V"⟩ ⟨"DiodeLink$Journal", "enter", "(IIII)V"⟩,
  Cond.instanceMethod ⟨"DiodeLink$Journal", "entries", "()I"⟩,
  Cond.initialized "DiodeLink$Journal",
  Cond.code ⟨"DiodeLink$Journal", "entries", "()I"⟩ prog_6_method_2_code 1 (some .int),
  Cond.selects "DiodeLink$Journal" ⟨"DiodeLink$Journal", "entries", "()I"⟩ ⟨"DiodeLink$Journal", "entries", "()I"⟩,
  Cond.instanceMethod ⟨"DiodeLink$Journal", "firstKept", "()I"⟩,
  Cond.initialized "DiodeLink$Journal",
  Cond.code ⟨"DiodeLink$Journal", "firstKept", "()I"⟩ prog_6_method_9_code 1 (some .int),
  Cond.selects "DiodeLink$Journal" ⟨"DiodeLink$Journal", "firstKept", "()I"⟩ ⟨"DiodeLink$Journal", "firstKept", "()I"⟩,
  Cond.instanceMethod ⟨"DiodeLink$Journal", "keeps", "(I)Z"⟩,
  Cond.initialized "DiodeLink$Journal",
  Cond.code ⟨"DiodeLink$Journal", "keeps", "(I)Z"⟩ prog_6_method_3_code 2 (some .boolean),
  Cond.selects "DiodeLink$Journal" ⟨"DiodeLink$Journal", "keeps", "(I)Z"⟩ ⟨"DiodeLink$Journal", "keeps", "(I)Z"⟩,
  Cond.instanceMethod ⟨"DiodeLink$Journal", "link", "(I)J"⟩,
  Cond.initialized "DiodeLink$Journal",
  Cond.code ⟨"DiodeLink$Journal", "link", "(I)J"⟩ prog_6_method_5_code 2 (some .long),
  Cond.selects "DiodeLink$Journal" ⟨"DiodeLink$Journal", "link", "(I)J"⟩ ⟨"DiodeLink$Journal", "link", "(I)J"⟩,
  Cond.instanceMethod ⟨"DiodeLink$Journal", "linksHold", "()Z"⟩,
  Cond.initialized "DiodeLink$Journal",
  Cond.code ⟨"DiodeLink$Journal", "linksHold", "()Z"⟩ prog_6_method_8_code 4 (some .boolean),
  Cond.selects "DiodeLink$Journal" ⟨"DiodeLink$Journal", "linksHold", "()Z"⟩ ⟨"DiodeLink$Journal", "linksHold", "()Z"⟩,
  Cond.instanceMethod ⟨"DiodeLink$Journal", "number", "(II)I"⟩,
  Cond.initialized "DiodeLink$Journal",
  Cond.code ⟨"DiodeLink$Journal", "number", "(II)I"⟩ prog_6_method_4_code 3 (some .int),
  Cond.selects "DiodeLink$Journal" ⟨"DiodeLink$Journal", "number", "(II)I"⟩ ⟨"DiodeLink$Journal", "number", "(II)I"⟩,
  Cond.static ⟨"DiodeLink$Journal", "place", "(II)I"⟩,
  Cond.initialized "DiodeLink$Journal",
  Cond.code ⟨"DiodeLink$Journal", "place", "(II)I"⟩ prog_6_method_10_code 2 (some .int),
  Cond.instanceMethod ⟨"DiodeLink$Journal", "turn", "(III)V"⟩,
  Cond.initialized "DiodeLink$Journal",
  Cond.code ⟨"DiodeLink$Journal", "turn", "(III)V"⟩ prog_6_method_6_code 4 (none),
  Cond.selects "DiodeLink$Journal" ⟨"DiodeLink$Journal", "turn", "(III)V"⟩ ⟨"DiodeLink$Journal", "turn", "(III)V"⟩,
  Cond.instanceMethod ⟨"DiodeLink$Receiver", "<init>", "(LDiodeLink$Rules;LDiodeLink$Journal;)V"⟩,
  Cond.initialized "DiodeLink$Receiver",
  Cond.code ⟨"DiodeLink$Receiver", "<init>", "(LDiodeLink$Rules;LDiodeLink$Journal;)V"⟩ prog_7_method_1_code 4 (none),
  Cond.instanceMethod ⟨"DiodeLink$Receiver", "allRows", "()I"⟩,
  Cond.initialized "DiodeLink$Receiver",
  Cond.code ⟨"DiodeLink$Receiver", "allRows", "()I"⟩ prog_7_method_4_code 1 (some .int),
  Cond.selects "DiodeLink$Receiver" ⟨"DiodeLink$Receiver", "allRows", "()I"⟩ ⟨"DiodeLink$Receiver", "allRows", "()I"⟩,
  Cond.instanceMethod ⟨"DiodeLink$Receiver", "canBe", "(LDiodeLink$Bytes;)Z"⟩,
  Cond.initialized "DiodeLink$Receiver",
  Cond.code ⟨"DiodeLink$Receiver", "canBe", "(LDiodeLink$Bytes;)Z"⟩ prog_7_method_16_code 6 (some .boolean),
  Cond.selects "DiodeLink$Receiver" ⟨"DiodeLink$Receiver", "canBe", "(LDiodeLink$Bytes;)Z"⟩ ⟨"DiodeLink$Receiver", "canBe", "(LDiodeLink$Bytes;)Z"⟩,
  Cond.instanceMethod ⟨"DiodeLink$Receiver", "dropItemRows", "(LDiodeLink$Version;II)V"⟩,
  Cond.initialized "DiodeLink$Receiver",
  Cond.code ⟨"DiodeLink$Receiver", "dropItemRows", "(LDiodeLink$Version;II)V"⟩ prog_7_method_26_code 5 (none),
  Cond.selects "DiodeLink$Receiver" ⟨"DiodeLink$Receiver", "dropItemRows", "(LDiodeLink$Version;II)V"⟩ ⟨"DiodeLink$Receiver", "dropItemRows", "(LDiodeLink$Version;II)V"⟩,
  Cond.instanceMethod ⟨"DiodeLink$Receiver", "dropped", "()I"⟩]
def zTs15 : List Cond := [
  Cond.initialized "DiodeLink$Receiver",
  Cond.code ⟨"DiodeLink$Receiver", "dropped", "()I"⟩ prog_7_method_3_code 1 (some .int),
  Cond.selects "DiodeLink$Receiver" ⟨"DiodeLink$Receiver", "dropped", "()I"⟩ ⟨"DiodeLink$Receiver", "dropped", "()I"⟩,
  Cond.instanceMethod ⟨"DiodeLink$Receiver", "find", "(II)LDiodeLink$Version;"⟩,
  Cond.initialized "DiodeLink$Receiver",
  Cond.code ⟨"DiodeLink$Receiver", "find", "(II)LDiodeLink$Version;"⟩ prog_7_method_11_code 4 (some (.object "DiodeLink$Version")),
  Cond.selects "DiodeLink$Receiver" ⟨"DiodeLink$Receiver", "find", "(II)LDiodeLink$Version;"⟩ ⟨"DiodeLink$Receiver", "find", "(II)LDiodeLink$Version;"⟩,
  Cond.instanceMethod ⟨"DiodeLink$Receiver", "forgetItem", "(LDiodeLink$Version;II)V"⟩,
  Cond.initialized "DiodeLink$Receiver",
  Cond.code ⟨"DiodeLink$Receiver", "forgetItem", "(LDiodeLink$Version;II)V"⟩ prog_7_method_25_code 4 (none),
  Cond.selects "DiodeLink$Receiver" ⟨"DiodeLink$Receiver", "forgetItem", "(LDiodeLink$Version;II)V"⟩ ⟨"DiodeLink$Receiver", "forgetItem", "(LDiodeLink$Version;II)V"⟩,
  Cond.instanceMethod ⟨"DiodeLink$Receiver", "greatestOf", "(I)I"⟩,
  Cond.initialized "DiodeLink$Receiver",
  Cond.code ⟨"DiodeLink$Receiver", "greatestOf", "(I)I"⟩ prog_7_method_13_code 4 (some .int),
  Cond.selects "DiodeLink$Receiver" ⟨"DiodeLink$Receiver", "greatestOf", "(I)I"⟩ ⟨"DiodeLink$Receiver", "greatestOf", "(I)I"⟩,
  Cond.instanceMethod ⟨"DiodeLink$Receiver", "hasOtherSize", "(LDiodeLink$Version;ILDiodeLink$Bytes;)Z"⟩,
  Cond.initialized "DiodeLink$Receiver",
  Cond.code ⟨"DiodeLink$Receiver", "hasOtherSize", "(LDiodeLink$Version;ILDiodeLink$Bytes;)Z"⟩ prog_7_method_18_code 6 (some .boolean),
  Cond.selects "DiodeLink$Receiver" ⟨"DiodeLink$Receiver", "hasOtherSize", "(LDiodeLink$Version;ILDiodeLink$Bytes;)Z"⟩ ⟨"DiodeLink$Receiver", "hasOtherSize", "(LDiodeLink$Version;ILDiodeLink$Bytes;)Z"⟩,
  Cond.instanceMethod ⟨"DiodeLink$Receiver", "holdAlike", "(I)V"⟩,
  Cond.initialized "DiodeLink$Receiver",
  Cond.code ⟨"DiodeLink$Receiver", "holdAlike", "(I)V"⟩ prog_7_method_27_code 6 (none),
  Cond.selects "DiodeLink$Receiver" ⟨"DiodeLink$Receiver", "holdAlike", "(I)V"⟩ ⟨"DiodeLink$Receiver", "holdAlike", "(I)V"⟩,
  Cond.instanceMethod ⟨"DiodeLink$Receiver", "holdByOther", "(III)Z"⟩,
  Cond.initialized "DiodeLink$Receiver",
  Cond.code ⟨"DiodeLink$Receiver", "holdByOther", "(III)Z"⟩ prog_7_method_28_code 8 (some .boolean),
  Cond.selects "DiodeLink$Receiver" ⟨"DiodeLink$Receiver", "holdByOther", "(III)Z"⟩ ⟨"DiodeLink$Receiver", "holdByOther", "(III)Z"⟩,
  Cond.instanceMethod ⟨"DiodeLink$Receiver", "judge", "(LDiodeLink$Version;I)V"⟩,
  Cond.initialized "DiodeLink$Receiver",
  Cond.code ⟨"DiodeLink$Receiver", "judge", "(LDiodeLink$Version;I)V"⟩ prog_7_method_30_code 5 (none),
  Cond.selects "DiodeLink$Receiver" ⟨"DiodeLink$Receiver", "judge", "(LDiodeLink$Version;I)V"⟩ ⟨"DiodeLink$Receiver", "judge", "(LDiodeLink$Version;I)V"⟩,
  Cond.instanceMethod ⟨"DiodeLink$Receiver", "keepRow", "(LDiodeLink$Version;ILDiodeLink$Bytes;)Z"⟩,
  Cond.initialized "DiodeLink$Receiver",
  Cond.code ⟨"DiodeLink$Receiver", "keepRow", "(LDiodeLink$Version;ILDiodeLink$Bytes;)Z"⟩ prog_7_method_22_code 9 (some .boolean),
  Cond.selects "DiodeLink$Receiver" ⟨"DiodeLink$Receiver", "keepRow", "(LDiodeLink$Version;ILDiodeLink$Bytes;)Z"⟩ ⟨"DiodeLink$Receiver", "keepRow", "(LDiodeLink$Version;ILDiodeLink$Bytes;)Z"⟩,
  Cond.instanceMethod ⟨"DiodeLink$Receiver", "knownAt", "(II)LDiodeLink$Version;"⟩,
  Cond.initialized "DiodeLink$Receiver",
  Cond.code ⟨"DiodeLink$Receiver", "knownAt", "(II)LDiodeLink$Version;"⟩ prog_7_method_10_code 3 (some (.object "DiodeLink$Version")),
  Cond.selects "DiodeLink$Receiver" ⟨"DiodeLink$Receiver", "knownAt", "(II)LDiodeLink$Version;"⟩ ⟨"DiodeLink$Receiver", "knownAt", "(II)LDiodeLink$Version;"⟩,
  Cond.instanceMethod ⟨"DiodeLink$Receiver", "learn", "(II)LDiodeLink$Version;"⟩,
  Cond.initialized "DiodeLink$Receiver",
  Cond.code ⟨"DiodeLink$Receiver", "learn", "(II)LDiodeLink$Version;"⟩ prog_7_method_17_code 6 (some (.object "DiodeLink$Version")),
  Cond.selects "DiodeLink$Receiver" ⟨"DiodeLink$Receiver", "learn", "(II)LDiodeLink$Version;"⟩ ⟨"DiodeLink$Receiver", "learn", "(II)LDiodeLink$Version;"⟩,
  Cond.instanceMethod ⟨"DiodeLink$Receiver", "leastOf", "(I)LDiodeLink$Version;"⟩,
  Cond.initialized "DiodeLink$Receiver",
  Cond.code ⟨"DiodeLink$Receiver", "leastOf", "(I)LDiodeLink$Version;"⟩ prog_7_method_12_code 4 (some (.object "DiodeLink$Version")),
  Cond.selects "DiodeLink$Receiver" ⟨"DiodeLink$Receiver", "leastOf", "(I)LDiodeLink$Version;"⟩ ⟨"DiodeLink$Receiver", "leastOf", "(I)LDiodeLink$Version;"⟩,
  Cond.instanceMethod ⟨"DiodeLink$Receiver", "leastToJudge", "(I)LDiodeLink$Version;"⟩,
  Cond.initialized "DiodeLink$Receiver",
  Cond.code ⟨"DiodeLink$Receiver", "leastToJudge", "(I)LDiodeLink$Version;"⟩ prog_7_method_29_code 6 (some (.object "DiodeLink$Version")),
  Cond.selects "DiodeLink$Receiver" ⟨"DiodeLink$Receiver", "leastToJudge", "(I)LDiodeLink$Version;"⟩ ⟨"DiodeLink$Receiver", "leastToJudge", "(I)LDiodeLink$Version;"⟩,
  Cond.instanceMethod ⟨"DiodeLink$Receiver", "letOut", "(I)I"⟩,
  Cond.initialized "DiodeLink$Receiver",
  Cond.code ⟨"DiodeLink$Receiver", "letOut", "(I)I"⟩ prog_7_method_9_code 6 (some .int),
  Cond.selects "DiodeLink$Receiver" ⟨"DiodeLink$Receiver", "letOut", "(I)I"⟩ ⟨"DiodeLink$Receiver", "letOut", "(I)I"⟩,
  Cond.instanceMethod ⟨"DiodeLink$Receiver", "listen", "(LDiodeLink$Bytes;)I"⟩,
  Cond.initialized "DiodeLink$Receiver",
  Cond.code ⟨"DiodeLink$Receiver", "listen", "(LDiodeLink$Bytes;)I"⟩ prog_7_method_6_code 7 (some .int),
  Cond.selects "DiodeLink$Receiver" ⟨"DiodeLink$Receiver", "listen", "(LDiodeLink$Bytes;)I"⟩ ⟨"DiodeLink$Receiver", "listen", "(LDiodeLink$Bytes;)I"⟩,
  Cond.instanceMethod ⟨"DiodeLink$Receiver", "lookAt", "(LDiodeLink$Version;II)V"⟩]
def zTs16 : List Cond := [
  Cond.initialized "DiodeLink$Receiver",
  Cond.code ⟨"DiodeLink$Receiver", "lookAt", "(LDiodeLink$Version;II)V"⟩ prog_7_method_23_code 5 (none),
  Cond.selects "DiodeLink$Receiver" ⟨"DiodeLink$Receiver", "lookAt", "(LDiodeLink$Version;II)V"⟩ ⟨"DiodeLink$Receiver", "lookAt", "(LDiodeLink$Version;II)V"⟩,
  Cond.instanceMethod ⟨"DiodeLink$Receiver", "lookAtFile", "(LDiodeLink$Version;II)V"⟩,
  Cond.initialized "DiodeLink$Receiver",
  Cond.code ⟨"DiodeLink$Receiver", "lookAtFile", "(LDiodeLink$Version;II)V"⟩ prog_7_method_24_code 4 (none),
  Cond.selects "DiodeLink$Receiver" ⟨"DiodeLink$Receiver", "lookAtFile", "(LDiodeLink$Version;II)V"⟩ ⟨"DiodeLink$Receiver", "lookAtFile", "(LDiodeLink$Version;II)V"⟩,
  Cond.instanceMethod ⟨"DiodeLink$Receiver", "loseRows", "()V"⟩,
  Cond.initialized "DiodeLink$Receiver",
  Cond.code ⟨"DiodeLink$Receiver", "loseRows", "()V"⟩ prog_7_method_5_code 1 (none),
  Cond.selects "DiodeLink$Receiver" ⟨"DiodeLink$Receiver", "loseRows", "()V"⟩ ⟨"DiodeLink$Receiver", "loseRows", "()V"⟩,
  Cond.instanceMethod ⟨"DiodeLink$Receiver", "makeRoom", "()Z"⟩,
  Cond.initialized "DiodeLink$Receiver",
  Cond.code ⟨"DiodeLink$Receiver", "makeRoom", "()Z"⟩ prog_7_method_21_code 5 (some .boolean),
  Cond.selects "DiodeLink$Receiver" ⟨"DiodeLink$Receiver", "makeRoom", "()Z"⟩ ⟨"DiodeLink$Receiver", "makeRoom", "()Z"⟩,
  Cond.static ⟨"DiodeLink$Receiver", "maskOf", "(LDiodeLink$Bytes;)I"⟩,
  Cond.initialized "DiodeLink$Receiver",
  Cond.code ⟨"DiodeLink$Receiver", "maskOf", "(LDiodeLink$Bytes;)I"⟩ prog_7_method_20_code 1 (some .int),
  Cond.instanceMethod ⟨"DiodeLink$Receiver", "noteLife", "(I)V"⟩,
  Cond.initialized "DiodeLink$Receiver",
  Cond.code ⟨"DiodeLink$Receiver", "noteLife", "(I)V"⟩ prog_7_method_15_code 2 (none),
  Cond.selects "DiodeLink$Receiver" ⟨"DiodeLink$Receiver", "noteLife", "(I)V"⟩ ⟨"DiodeLink$Receiver", "noteLife", "(I)V"⟩,
  Cond.static ⟨"DiodeLink$Receiver", "piecesOf", "(LDiodeLink$Bytes;)I"⟩,
  Cond.initialized "DiodeLink$Receiver",
  Cond.code ⟨"DiodeLink$Receiver", "piecesOf", "(LDiodeLink$Bytes;)I"⟩ prog_7_method_19_code 1 (some .int),
  Cond.instanceMethod ⟨"DiodeLink$Receiver", "rowsOf", "(IIII)I"⟩,
  Cond.initialized "DiodeLink$Receiver",
  Cond.code ⟨"DiodeLink$Receiver", "rowsOf", "(IIII)I"⟩ prog_7_method_8_code 7 (some .int),
  Cond.selects "DiodeLink$Receiver" ⟨"DiodeLink$Receiver", "rowsOf", "(IIII)I"⟩ ⟨"DiodeLink$Receiver", "rowsOf", "(IIII)I"⟩,
  Cond.instanceMethod ⟨"DiodeLink$Receiver", "shown", "(I)LDiodeLink$Version;"⟩,
  Cond.initialized "DiodeLink$Receiver",
  Cond.code ⟨"DiodeLink$Receiver", "shown", "(I)LDiodeLink$Version;"⟩ prog_7_method_2_code 2 (some (.object "DiodeLink$Version")),
  Cond.selects "DiodeLink$Receiver" ⟨"DiodeLink$Receiver", "shown", "(I)LDiodeLink$Version;"⟩ ⟨"DiodeLink$Receiver", "shown", "(I)LDiodeLink$Version;"⟩,
  Cond.instanceMethod ⟨"DiodeLink$Receiver", "stateOf", "(II)I"⟩,
  Cond.initialized "DiodeLink$Receiver",
  Cond.code ⟨"DiodeLink$Receiver", "stateOf", "(II)I"⟩ prog_7_method_7_code 4 (some .int),
  Cond.selects "DiodeLink$Receiver" ⟨"DiodeLink$Receiver", "stateOf", "(II)I"⟩ ⟨"DiodeLink$Receiver", "stateOf", "(II)I"⟩,
  Cond.instanceMethod ⟨"DiodeLink$Receiver", "whyDropped", "(LDiodeLink$Bytes;)I"⟩,
  Cond.initialized "DiodeLink$Receiver",
  Cond.code ⟨"DiodeLink$Receiver", "whyDropped", "(LDiodeLink$Bytes;)I"⟩ prog_7_method_14_code 8 (some .int),
  Cond.selects "DiodeLink$Receiver" ⟨"DiodeLink$Receiver", "whyDropped", "(LDiodeLink$Bytes;)I"⟩ ⟨"DiodeLink$Receiver", "whyDropped", "(LDiodeLink$Bytes;)I"⟩,
  Cond.instanceMethod ⟨"DiodeLink$Rows", "<init>", "()V"⟩,
  Cond.initialized "DiodeLink$Rows",
  Cond.code ⟨"DiodeLink$Rows", "<init>", "()V"⟩ prog_8_method_1_code 1 (none),
  Cond.instanceMethod ⟨"DiodeLink$Rows", "add", "(IIJ)V"⟩,
  Cond.initialized "DiodeLink$Rows",
  Cond.code ⟨"DiodeLink$Rows", "add", "(IIJ)V"⟩ prog_8_method_13_code 10 (none),
  Cond.selects "DiodeLink$Rows" ⟨"DiodeLink$Rows", "add", "(IIJ)V"⟩ ⟨"DiodeLink$Rows", "add", "(IIJ)V"⟩,
  Cond.instanceMethod ⟨"DiodeLink$Rows", "drop", "(II)V"⟩,
  Cond.initialized "DiodeLink$Rows",
  Cond.code ⟨"DiodeLink$Rows", "drop", "(II)V"⟩ prog_8_method_10_code 5 (none),
  Cond.selects "DiodeLink$Rows" ⟨"DiodeLink$Rows", "drop", "(II)V"⟩ ⟨"DiodeLink$Rows", "drop", "(II)V"⟩,
  Cond.instanceMethod ⟨"DiodeLink$Rows", "dropAll", "()V"⟩,
  Cond.initialized "DiodeLink$Rows",
  Cond.code ⟨"DiodeLink$Rows", "dropAll", "()V"⟩ prog_8_method_11_code 1 (none),
  Cond.selects "DiodeLink$Rows" ⟨"DiodeLink$Rows", "dropAll", "()V"⟩ ⟨"DiodeLink$Rows", "dropAll", "()V"⟩,
  Cond.static ⟨"DiodeLink$Rows", "firstKey", "(I)I"⟩,
  Cond.initialized "DiodeLink$Rows",
  Cond.code ⟨"DiodeLink$Rows", "firstKey", "(I)I"⟩ prog_8_method_3_code 1 (some .int),
  Cond.instanceMethod ⟨"DiodeLink$Rows", "hasPivotIn", "(III)Z"⟩]
def zTs17 : List Cond := [
  Cond.initialized "DiodeLink$Rows",
  Cond.code ⟨"DiodeLink$Rows", "hasPivotIn", "(III)Z"⟩ prog_8_method_15_code 4 (some .boolean),
  Cond.selects "DiodeLink$Rows" ⟨"DiodeLink$Rows", "hasPivotIn", "(III)Z"⟩ ⟨"DiodeLink$Rows", "hasPivotIn", "(III)Z"⟩,
  Cond.instanceMethod ⟨"DiodeLink$Rows", "isFull", "()Z"⟩,
  Cond.initialized "DiodeLink$Rows",
  Cond.code ⟨"DiodeLink$Rows", "isFull", "()Z"⟩ prog_8_method_7_code 1 (some .boolean),
  Cond.selects "DiodeLink$Rows" ⟨"DiodeLink$Rows", "isFull", "()Z"⟩ ⟨"DiodeLink$Rows", "isFull", "()Z"⟩,
  Cond.static ⟨"DiodeLink$Rows", "key", "(III)I"⟩,
  Cond.initialized "DiodeLink$Rows",
  Cond.code ⟨"DiodeLink$Rows", "key", "(III)I"⟩ prog_8_method_5_code 3 (some .int),
  Cond.static ⟨"DiodeLink$Rows", "lastKey", "(I)I"⟩,
  Cond.initialized "DiodeLink$Rows",
  Cond.code ⟨"DiodeLink$Rows", "lastKey", "(I)I"⟩ prog_8_method_4_code 1 (some .int),
  Cond.static ⟨"DiodeLink$Rows", "owner", "(II)I"⟩,
  Cond.initialized "DiodeLink$Rows",
  Cond.code ⟨"DiodeLink$Rows", "owner", "(II)I"⟩ prog_8_method_2_code 2 (some .int),
  Cond.instanceMethod ⟨"DiodeLink$Rows", "ownerAt", "(I)I"⟩,
  Cond.initialized "DiodeLink$Rows",
  Cond.code ⟨"DiodeLink$Rows", "ownerAt", "(I)I"⟩ prog_8_method_8_code 2 (some .int),
  Cond.selects "DiodeLink$Rows" ⟨"DiodeLink$Rows", "ownerAt", "(I)I"⟩ ⟨"DiodeLink$Rows", "ownerAt", "(I)I"⟩,
  Cond.instanceMethod ⟨"DiodeLink$Rows", "piece", "(II)J"⟩,
  Cond.initialized "DiodeLink$Rows",
  Cond.code ⟨"DiodeLink$Rows", "piece", "(II)J"⟩ prog_8_method_14_code 4 (some .long),
  Cond.selects "DiodeLink$Rows" ⟨"DiodeLink$Rows", "piece", "(II)J"⟩ ⟨"DiodeLink$Rows", "piece", "(II)J"⟩,
  Cond.instanceMethod ⟨"DiodeLink$Rows", "rowsIn", "(II)I"⟩,
  Cond.initialized "DiodeLink$Rows",
  Cond.code ⟨"DiodeLink$Rows", "rowsIn", "(II)I"⟩ prog_8_method_9_code 5 (some .int),
  Cond.selects "DiodeLink$Rows" ⟨"DiodeLink$Rows", "rowsIn", "(II)I"⟩ ⟨"DiodeLink$Rows", "rowsIn", "(II)I"⟩,
  Cond.instanceMethod ⟨"DiodeLink$Rows", "tells", "(II)Z"⟩,
  Cond.initialized "DiodeLink$Rows",
  Cond.code ⟨"DiodeLink$Rows", "tells", "(II)Z"⟩ prog_8_method_12_code 5 (some .boolean),
  Cond.selects "DiodeLink$Rows" ⟨"DiodeLink$Rows", "tells", "(II)Z"⟩ ⟨"DiodeLink$Rows", "tells", "(II)Z"⟩,
  Cond.instanceMethod ⟨"DiodeLink$Rows", "used", "()I"⟩,
  Cond.initialized "DiodeLink$Rows",
  Cond.code ⟨"DiodeLink$Rows", "used", "()I"⟩ prog_8_method_6_code 1 (some .int),
  Cond.selects "DiodeLink$Rows" ⟨"DiodeLink$Rows", "used", "()I"⟩ ⟨"DiodeLink$Rows", "used", "()I"⟩,
  Cond.instanceMethod ⟨"DiodeLink$Rules", "<init>", "()V"⟩,
  Cond.initialized "DiodeLink$Rules",
  Cond.code ⟨"DiodeLink$Rules", "<init>", "()V"⟩ prog_9_method_1_code 1 (none),
  Cond.instanceMethod ⟨"DiodeLink$Rules", "brokenBy", "(ILDiodeLink$Version;)I"⟩,
  Cond.initialized "DiodeLink$Rules",
  Cond.code ⟨"DiodeLink$Rules", "brokenBy", "(ILDiodeLink$Version;)I"⟩ prog_9_method_4_code 4 (some .int),
  Cond.selects "DiodeLink$Rules" ⟨"DiodeLink$Rules", "brokenBy", "(ILDiodeLink$Version;)I"⟩ ⟨"DiodeLink$Rules", "brokenBy", "(ILDiodeLink$Version;)I"⟩,
  Cond.static ⟨"DiodeLink$Rules", "greatestValue", "(I)I"⟩,
  Cond.initialized "DiodeLink$Rules",
  Cond.code ⟨"DiodeLink$Rules", "greatestValue", "(I)I"⟩ prog_9_method_2_code 1 (some .int),
  Cond.instanceMethod ⟨"DiodeLink$Rules", "hasBadSign", "(LDiodeLink$Version;I)Z"⟩,
  Cond.initialized "DiodeLink$Rules",
  Cond.code ⟨"DiodeLink$Rules", "hasBadSign", "(LDiodeLink$Version;I)Z"⟩ prog_9_method_6_code 6 (some .boolean),
  Cond.selects "DiodeLink$Rules" ⟨"DiodeLink$Rules", "hasBadSign", "(LDiodeLink$Version;I)Z"⟩ ⟨"DiodeLink$Rules", "hasBadSign", "(LDiodeLink$Version;I)Z"⟩,
  Cond.instanceMethod ⟨"DiodeLink$Rules", "isBrokenByFile", "(ILDiodeLink$Version;I)Z"⟩,
  Cond.initialized "DiodeLink$Rules",
  Cond.code ⟨"DiodeLink$Rules", "isBrokenByFile", "(ILDiodeLink$Version;I)Z"⟩ prog_9_method_5_code 4 (some .boolean),
  Cond.selects "DiodeLink$Rules" ⟨"DiodeLink$Rules", "isBrokenByFile", "(ILDiodeLink$Version;I)Z"⟩ ⟨"DiodeLink$Rules", "isBrokenByFile", "(ILDiodeLink$Version;I)Z"⟩,
  Cond.instanceMethod ⟨"DiodeLink$Rules", "set", "(IIZ)V"⟩,
  Cond.initialized "DiodeLink$Rules",
  Cond.code ⟨"DiodeLink$Rules", "set", "(IIZ)V"⟩ prog_9_method_3_code 4 (none),
  Cond.selects "DiodeLink$Rules" ⟨"DiodeLink$Rules", "set", "(IIZ)V"⟩ ⟨"DiodeLink$Rules", "set", "(IIZ)V"⟩,
  Cond.instanceMethod ⟨"DiodeLink$Sender", "<init>", "()V"⟩,
  Cond.initialized "DiodeLink$Sender"]
def zTs18 : List Cond := [
  Cond.code ⟨"DiodeLink$Sender", "<init>", "()V"⟩ prog_10_method_1_code 2 (none),
  Cond.instanceMethod ⟨"DiodeLink$Sender", "beginLife", "()Z"⟩,
  Cond.initialized "DiodeLink$Sender",
  Cond.code ⟨"DiodeLink$Sender", "beginLife", "()Z"⟩ prog_10_method_4_code 1 (some .boolean),
  Cond.selects "DiodeLink$Sender" ⟨"DiodeLink$Sender", "beginLife", "()Z"⟩ ⟨"DiodeLink$Sender", "beginLife", "()Z"⟩,
  Cond.instanceMethod ⟨"DiodeLink$Sender", "beginRounds", "()V"⟩,
  Cond.initialized "DiodeLink$Sender",
  Cond.code ⟨"DiodeLink$Sender", "beginRounds", "()V"⟩ prog_10_method_7_code 1 (none),
  Cond.selects "DiodeLink$Sender" ⟨"DiodeLink$Sender", "beginRounds", "()V"⟩ ⟨"DiodeLink$Sender", "beginRounds", "()V"⟩,
  Cond.instanceMethod ⟨"DiodeLink$Sender", "fillFrom", "(LDiodeLink$Bytes;II)V"⟩,
  Cond.initialized "DiodeLink$Sender",
  Cond.code ⟨"DiodeLink$Sender", "fillFrom", "(LDiodeLink$Bytes;II)V"⟩ prog_10_method_11_code 9 (none),
  Cond.selects "DiodeLink$Sender" ⟨"DiodeLink$Sender", "fillFrom", "(LDiodeLink$Bytes;II)V"⟩ ⟨"DiodeLink$Sender", "fillFrom", "(LDiodeLink$Bytes;II)V"⟩,
  Cond.instanceMethod ⟨"DiodeLink$Sender", "fillNext", "(LDiodeLink$Bytes;)Z"⟩,
  Cond.initialized "DiodeLink$Sender",
  Cond.code ⟨"DiodeLink$Sender", "fillNext", "(LDiodeLink$Bytes;)Z"⟩ prog_10_method_6_code 4 (some .boolean),
  Cond.selects "DiodeLink$Sender" ⟨"DiodeLink$Sender", "fillNext", "(LDiodeLink$Bytes;)Z"⟩ ⟨"DiodeLink$Sender", "fillNext", "(LDiodeLink$Bytes;)Z"⟩,
  Cond.instanceMethod ⟨"DiodeLink$Sender", "folder", "(I)LDiodeLink$Folder;"⟩,
  Cond.initialized "DiodeLink$Sender",
  Cond.code ⟨"DiodeLink$Sender", "folder", "(I)LDiodeLink$Folder;"⟩ prog_10_method_2_code 2 (some (.object "DiodeLink$Folder")),
  Cond.selects "DiodeLink$Sender" ⟨"DiodeLink$Sender", "folder", "(I)LDiodeLink$Folder;"⟩ ⟨"DiodeLink$Sender", "folder", "(I)LDiodeLink$Folder;"⟩,
  Cond.instanceMethod ⟨"DiodeLink$Sender", "life", "()I"⟩,
  Cond.initialized "DiodeLink$Sender",
  Cond.code ⟨"DiodeLink$Sender", "life", "()I"⟩ prog_10_method_3_code 1 (some .int),
  Cond.selects "DiodeLink$Sender" ⟨"DiodeLink$Sender", "life", "()I"⟩ ⟨"DiodeLink$Sender", "life", "()I"⟩,
  Cond.instanceMethod ⟨"DiodeLink$Sender", "makeVersion", "(I)I"⟩,
  Cond.initialized "DiodeLink$Sender",
  Cond.code ⟨"DiodeLink$Sender", "makeVersion", "(I)I"⟩ prog_10_method_5_code 3 (some .int),
  Cond.selects "DiodeLink$Sender" ⟨"DiodeLink$Sender", "makeVersion", "(I)I"⟩ ⟨"DiodeLink$Sender", "makeVersion", "(I)I"⟩,
  Cond.static ⟨"DiodeLink$Sender", "oldestAge", "(I)I"⟩,
  Cond.initialized "DiodeLink$Sender",
  Cond.code ⟨"DiodeLink$Sender", "oldestAge", "(I)I"⟩ prog_10_method_8_code 1 (some .int),
  Cond.instanceMethod ⟨"DiodeLink$Sender", "packetsOf", "(I)I"⟩,
  Cond.initialized "DiodeLink$Sender",
  Cond.code ⟨"DiodeLink$Sender", "packetsOf", "(I)I"⟩ prog_10_method_10_code 6 (some .int),
  Cond.selects "DiodeLink$Sender" ⟨"DiodeLink$Sender", "packetsOf", "(I)I"⟩ ⟨"DiodeLink$Sender", "packetsOf", "(I)I"⟩,
  Cond.static ⟨"DiodeLink$Sender", "youngestAge", "(I)I"⟩,
  Cond.initialized "DiodeLink$Sender",
  Cond.code ⟨"DiodeLink$Sender", "youngestAge", "(I)I"⟩ prog_10_method_9_code 1 (some .int),
  Cond.instanceMethod ⟨"DiodeLink$Version", "<init>", "()V"⟩,
  Cond.initialized "DiodeLink$Version",
  Cond.code ⟨"DiodeLink$Version", "<init>", "()V"⟩ prog_11_method_1_code 2 (none),
  Cond.instanceMethod ⟨"DiodeLink$Version", "become", "(I)V"⟩,
  Cond.initialized "DiodeLink$Version",
  Cond.code ⟨"DiodeLink$Version", "become", "(I)V"⟩ prog_11_method_4_code 2 (none),
  Cond.selects "DiodeLink$Version" ⟨"DiodeLink$Version", "become", "(I)V"⟩ ⟨"DiodeLink$Version", "become", "(I)V"⟩,
  Cond.instanceMethod ⟨"DiodeLink$Version", "begin", "(I)V"⟩,
  Cond.initialized "DiodeLink$Version",
  Cond.code ⟨"DiodeLink$Version", "begin", "(I)V"⟩ prog_11_method_9_code 3 (none),
  Cond.selects "DiodeLink$Version" ⟨"DiodeLink$Version", "begin", "(I)V"⟩ ⟨"DiodeLink$Version", "begin", "(I)V"⟩,
  Cond.instanceMethod ⟨"DiodeLink$Version", "clearItem", "(I)V"⟩,
  Cond.initialized "DiodeLink$Version",
  Cond.code ⟨"DiodeLink$Version", "clearItem", "(I)V"⟩ prog_11_method_10_code 3 (none),
  Cond.selects "DiodeLink$Version" ⟨"DiodeLink$Version", "clearItem", "(I)V"⟩ ⟨"DiodeLink$Version", "clearItem", "(I)V"⟩,
  Cond.instanceMethod ⟨"DiodeLink$Version", "fileSize", "(I)I"⟩,
  Cond.initialized "DiodeLink$Version",
  Cond.code ⟨"DiodeLink$Version", "fileSize", "(I)I"⟩ prog_11_method_18_code 2 (some .int),
  Cond.selects "DiodeLink$Version" ⟨"DiodeLink$Version", "fileSize", "(I)I"⟩ ⟨"DiodeLink$Version", "fileSize", "(I)I"⟩,
  Cond.instanceMethod ⟨"DiodeLink$Version", "files", "()I"⟩,
  Cond.initialized "DiodeLink$Version"]
def zTs19 : List Cond := [
  Cond.code ⟨"DiodeLink$Version", "files", "()I"⟩ prog_11_method_5_code 1 (some .int),
  Cond.selects "DiodeLink$Version" ⟨"DiodeLink$Version", "files", "()I"⟩ ⟨"DiodeLink$Version", "files", "()I"⟩,
  Cond.instanceMethod ⟨"DiodeLink$Version", "hasSolved", "(I)Z"⟩,
  Cond.initialized "DiodeLink$Version",
  Cond.code ⟨"DiodeLink$Version", "hasSolved", "(I)Z"⟩ prog_11_method_12_code 2 (some .boolean),
  Cond.selects "DiodeLink$Version" ⟨"DiodeLink$Version", "hasSolved", "(I)Z"⟩ ⟨"DiodeLink$Version", "hasSolved", "(I)Z"⟩,
  Cond.instanceMethod ⟨"DiodeLink$Version", "heldLike", "(LDiodeLink$Version;I)I"⟩,
  Cond.initialized "DiodeLink$Version",
  Cond.code ⟨"DiodeLink$Version", "heldLike", "(LDiodeLink$Version;I)I"⟩ prog_11_method_22_code 4 (some .int),
  Cond.selects "DiodeLink$Version" ⟨"DiodeLink$Version", "heldLike", "(LDiodeLink$Version;I)I"⟩ ⟨"DiodeLink$Version", "heldLike", "(LDiodeLink$Version;I)I"⟩,
  Cond.instanceMethod ⟨"DiodeLink$Version", "holdCopy", "(ILDiodeLink$Bytes;)V"⟩,
  Cond.initialized "DiodeLink$Version",
  Cond.code ⟨"DiodeLink$Version", "holdCopy", "(ILDiodeLink$Bytes;)V"⟩ prog_11_method_23_code 4 (none),
  Cond.selects "DiodeLink$Version" ⟨"DiodeLink$Version", "holdCopy", "(ILDiodeLink$Bytes;)V"⟩ ⟨"DiodeLink$Version", "holdCopy", "(ILDiodeLink$Bytes;)V"⟩,
  Cond.instanceMethod ⟨"DiodeLink$Version", "holdIfRight", "(I)Z"⟩,
  Cond.initialized "DiodeLink$Version",
  Cond.code ⟨"DiodeLink$Version", "holdIfRight", "(I)Z"⟩ prog_11_method_21_code 3 (some .boolean),
  Cond.selects "DiodeLink$Version" ⟨"DiodeLink$Version", "holdIfRight", "(I)Z"⟩ ⟨"DiodeLink$Version", "holdIfRight", "(I)Z"⟩,
  Cond.instanceMethod ⟨"DiodeLink$Version", "holds", "(I)Z"⟩,
  Cond.initialized "DiodeLink$Version",
  Cond.code ⟨"DiodeLink$Version", "holds", "(I)Z"⟩ prog_11_method_7_code 2 (some .boolean),
  Cond.selects "DiodeLink$Version" ⟨"DiodeLink$Version", "holds", "(I)Z"⟩ ⟨"DiodeLink$Version", "holds", "(I)Z"⟩,
  Cond.instanceMethod ⟨"DiodeLink$Version", "isBehindLast", "(I)Z"⟩,
  Cond.initialized "DiodeLink$Version",
  Cond.code ⟨"DiodeLink$Version", "isBehindLast", "(I)Z"⟩ prog_11_method_20_code 2 (some .boolean),
  Cond.selects "DiodeLink$Version" ⟨"DiodeLink$Version", "isBehindLast", "(I)Z"⟩ ⟨"DiodeLink$Version", "isBehindLast", "(I)Z"⟩,
  Cond.instanceMethod ⟨"DiodeLink$Version", "isComplete", "(I)Z"⟩,
  Cond.initialized "DiodeLink$Version",
  Cond.code ⟨"DiodeLink$Version", "isComplete", "(I)Z"⟩ prog_11_method_14_code 2 (some .boolean),
  Cond.selects "DiodeLink$Version" ⟨"DiodeLink$Version", "isComplete", "(I)Z"⟩ ⟨"DiodeLink$Version", "isComplete", "(I)Z"⟩,
  Cond.instanceMethod ⟨"DiodeLink$Version", "isGood", "()Z"⟩,
  Cond.initialized "DiodeLink$Version",
  Cond.code ⟨"DiodeLink$Version", "isGood", "()Z"⟩ prog_11_method_6_code 1 (some .boolean),
  Cond.selects "DiodeLink$Version" ⟨"DiodeLink$Version", "isGood", "()Z"⟩ ⟨"DiodeLink$Version", "isGood", "()Z"⟩,
  Cond.instanceMethod ⟨"DiodeLink$Version", "isSolved", "(II)Z"⟩,
  Cond.initialized "DiodeLink$Version",
  Cond.code ⟨"DiodeLink$Version", "isSolved", "(II)Z"⟩ prog_11_method_11_code 3 (some .boolean),
  Cond.selects "DiodeLink$Version" ⟨"DiodeLink$Version", "isSolved", "(II)Z"⟩ ⟨"DiodeLink$Version", "isSolved", "(II)Z"⟩,
  Cond.instanceMethod ⟨"DiodeLink$Version", "isWhole", "()Z"⟩,
  Cond.initialized "DiodeLink$Version",
  Cond.code ⟨"DiodeLink$Version", "isWhole", "()Z"⟩ prog_11_method_15_code 2 (some .boolean),
  Cond.selects "DiodeLink$Version" ⟨"DiodeLink$Version", "isWhole", "()Z"⟩ ⟨"DiodeLink$Version", "isWhole", "()Z"⟩,
  Cond.instanceMethod ⟨"DiodeLink$Version", "item", "(I)LDiodeLink$Bytes;"⟩,
  Cond.initialized "DiodeLink$Version",
  Cond.code ⟨"DiodeLink$Version", "item", "(I)LDiodeLink$Bytes;"⟩ prog_11_method_8_code 2 (some (.object "DiodeLink$Bytes")),
  Cond.selects "DiodeLink$Version" ⟨"DiodeLink$Version", "item", "(I)LDiodeLink$Bytes;"⟩ ⟨"DiodeLink$Version", "item", "(I)LDiodeLink$Bytes;"⟩,
  Cond.instanceMethod ⟨"DiodeLink$Version", "namePlace", "(I)I"⟩,
  Cond.initialized "DiodeLink$Version",
  Cond.code ⟨"DiodeLink$Version", "namePlace", "(I)I"⟩ prog_11_method_17_code 2 (some .int),
  Cond.selects "DiodeLink$Version" ⟨"DiodeLink$Version", "namePlace", "(I)I"⟩ ⟨"DiodeLink$Version", "namePlace", "(I)I"⟩,
  Cond.instanceMethod ⟨"DiodeLink$Version", "nameSize", "(I)I"⟩,
  Cond.initialized "DiodeLink$Version",
  Cond.code ⟨"DiodeLink$Version", "nameSize", "(I)I"⟩ prog_11_method_16_code 2 (some .int),
  Cond.selects "DiodeLink$Version" ⟨"DiodeLink$Version", "nameSize", "(I)I"⟩ ⟨"DiodeLink$Version", "nameSize", "(I)I"⟩,
  Cond.instanceMethod ⟨"DiodeLink$Version", "number", "()I"⟩,
  Cond.initialized "DiodeLink$Version",
  Cond.code ⟨"DiodeLink$Version", "number", "()I"⟩ prog_11_method_2_code 1 (some .int),
  Cond.selects "DiodeLink$Version" ⟨"DiodeLink$Version", "number", "()I"⟩ ⟨"DiodeLink$Version", "number", "()I"⟩,
  Cond.instanceMethod ⟨"DiodeLink$Version", "readManifest", "()Z"⟩,
  Cond.initialized "DiodeLink$Version"]
def zTs20 : List Cond := [
  Cond.code ⟨"DiodeLink$Version", "readManifest", "()Z"⟩ prog_11_method_19_code 5 (some .boolean),
  Cond.selects "DiodeLink$Version" ⟨"DiodeLink$Version", "readManifest", "()Z"⟩ ⟨"DiodeLink$Version", "readManifest", "()Z"⟩,
  Cond.instanceMethod ⟨"DiodeLink$Version", "showFrom", "(LDiodeLink$Version;)V"⟩,
  Cond.initialized "DiodeLink$Version",
  Cond.code ⟨"DiodeLink$Version", "showFrom", "(LDiodeLink$Version;)V"⟩ prog_11_method_24_code 3 (none),
  Cond.selects "DiodeLink$Version" ⟨"DiodeLink$Version", "showFrom", "(LDiodeLink$Version;)V"⟩ ⟨"DiodeLink$Version", "showFrom", "(LDiodeLink$Version;)V"⟩,
  Cond.instanceMethod ⟨"DiodeLink$Version", "solve", "(II)V"⟩,
  Cond.initialized "DiodeLink$Version",
  Cond.code ⟨"DiodeLink$Version", "solve", "(II)V"⟩ prog_11_method_13_code 3 (none),
  Cond.selects "DiodeLink$Version" ⟨"DiodeLink$Version", "solve", "(II)V"⟩ ⟨"DiodeLink$Version", "solve", "(II)V"⟩,
  Cond.instanceMethod ⟨"DiodeLink$Version", "state", "()I"⟩,
  Cond.initialized "DiodeLink$Version",
  Cond.code ⟨"DiodeLink$Version", "state", "()I"⟩ prog_11_method_3_code 1 (some .int),
  Cond.selects "DiodeLink$Version" ⟨"DiodeLink$Version", "state", "()I"⟩ ⟨"DiodeLink$Version", "state", "()I"⟩,
  Cond.static ⟨"DiodeLinkLaw", "alter", "(LDiodeLink;III)I"⟩,
  Cond.initialized "DiodeLinkLaw",
  Cond.codeWith ⟨"DiodeLinkLaw", "alter", "(LDiodeLink;III)I"⟩ method_9_code 5 (some .int) [(0, 7, 10, 13)],
  Cond.static ⟨"DiodeLinkLaw", "commit", "(LDiodeLink;I[J)I"⟩,
  Cond.initialized "DiodeLinkLaw",
  Cond.codeWith ⟨"DiodeLinkLaw", "commit", "(LDiodeLink;I[J)I"⟩ method_6_code 4 (some .int) [(0, 9, 12, 13), (0, 9, 15, 15)],
  Cond.static ⟨"DiodeLinkLaw", "count", "(LDiodeLink;I[J)I"⟩,
  Cond.initialized "DiodeLinkLaw",
  Cond.codeWith ⟨"DiodeLinkLaw", "count", "(LDiodeLink;I[J)I"⟩ method_20_code 4 (some .int) [(0, 9, 12, 13)],
  Cond.static ⟨"DiodeLinkLaw", "feed", "(LDiodeLink;ZJI[J)I"⟩,
  Cond.initialized "DiodeLinkLaw",
  Cond.codeWith ⟨"DiodeLinkLaw", "feed", "(LDiodeLink;ZJI[J)I"⟩ method_3_code 7 (some .int) [(0, 13, 16, 13), (0, 13, 20, 15)],
  Cond.static ⟨"DiodeLinkLaw", "file", "(LDiodeLink;IIIZ[J)I"⟩,
  Cond.initialized "DiodeLinkLaw",
  Cond.codeWith ⟨"DiodeLinkLaw", "file", "(LDiodeLink;IIIZ[J)I"⟩ method_17_code 7 (some .int) [(0, 14, 17, 13), (0, 14, 21, 68)],
  Cond.static ⟨"DiodeLinkLaw", "have", "(LDiodeLink;II[J)I"⟩,
  Cond.initialized "DiodeLinkLaw",
  Cond.codeWith ⟨"DiodeLinkLaw", "have", "(LDiodeLink;II[J)I"⟩ method_13_code 5 (some .int) [(0, 10, 13, 13)],
  Cond.static ⟨"DiodeLinkLaw", "hear", "(LDiodeLink;I[J)I"⟩,
  Cond.initialized "DiodeLinkLaw",
  Cond.codeWith ⟨"DiodeLinkLaw", "hear", "(LDiodeLink;I[J)I"⟩ method_10_code 4 (some .int) [(0, 9, 12, 13)],
  Cond.static ⟨"DiodeLinkLaw", "journal", "(LDiodeLink;II[J)I"⟩,
  Cond.initialized "DiodeLinkLaw",
  Cond.codeWith ⟨"DiodeLinkLaw", "journal", "(LDiodeLink;II[J)I"⟩ method_18_code 5 (some .int) [(0, 9, 12, 13), (0, 9, 16, 68)],
  Cond.static ⟨"DiodeLinkLaw", "packet", "(LDiodeLink;II[J)I"⟩,
  Cond.initialized "DiodeLinkLaw",
  Cond.codeWith ⟨"DiodeLinkLaw", "packet", "(LDiodeLink;II[J)I"⟩ method_8_code 5 (some .int) [(0, 9, 12, 13)],
  Cond.static ⟨"DiodeLinkLaw", "rank", "(LDiodeLink;IIII[J)I"⟩,
  Cond.initialized "DiodeLinkLaw",
  Cond.codeWith ⟨"DiodeLinkLaw", "rank", "(LDiodeLink;IIII[J)I"⟩ method_14_code 7 (some .int) [(0, 14, 17, 13)],
  Cond.static ⟨"DiodeLinkLaw", "release", "(LDiodeLink;I[J)I"⟩,
  Cond.initialized "DiodeLinkLaw",
  Cond.codeWith ⟨"DiodeLinkLaw", "release", "(LDiodeLink;I[J)I"⟩ method_15_code 4 (some .int) [(0, 9, 12, 13)],
  Cond.static ⟨"DiodeLinkLaw", "released", "(LDiodeLink;I[J)I"⟩,
  Cond.initialized "DiodeLinkLaw",
  Cond.codeWith ⟨"DiodeLinkLaw", "released", "(LDiodeLink;I[J)I"⟩ method_16_code 4 (some .int) [(0, 9, 12, 13)],
  Cond.static ⟨"DiodeLinkLaw", "remove", "(LDiodeLink;I[J)I"⟩,
  Cond.initialized "DiodeLinkLaw",
  Cond.codeWith ⟨"DiodeLinkLaw", "remove", "(LDiodeLink;I[J)I"⟩ method_5_code 4 (some .int) [(0, 16, 19, 13)],
  Cond.static ⟨"DiodeLinkLaw", "restartSender", "(LDiodeLink;[J)I"⟩,
  Cond.initialized "DiodeLinkLaw",
  Cond.codeWith ⟨"DiodeLinkLaw", "restartSender", "(LDiodeLink;[J)I"⟩ method_11_code 3 (some .int) [(0, 8, 11, 15)],
  Cond.static ⟨"DiodeLinkLaw", "rule", "(LDiodeLink;IIZ)I"⟩,
  Cond.initialized "DiodeLinkLaw",
  Cond.codeWith ⟨"DiodeLinkLaw", "rule", "(LDiodeLink;IIZ)I"⟩ method_12_code 5 (some .int) [(0, 7, 10, 13)],
  Cond.static ⟨"DiodeLinkLaw", "send", "(LDiodeLink;[J)I"⟩]
def zTs21 : List Cond := [
  Cond.initialized "DiodeLinkLaw",
  Cond.codeWith ⟨"DiodeLinkLaw", "send", "(LDiodeLink;[J)I"⟩ method_7_code 3 (some .int) [(0, 8, 11, 15)],
  Cond.static ⟨"DiodeLinkLaw", "touch", "(LDiodeLink;III)I"⟩,
  Cond.initialized "DiodeLinkLaw",
  Cond.codeWith ⟨"DiodeLinkLaw", "touch", "(LDiodeLink;III)I"⟩ method_19_code 5 (some .int) [(0, 7, 10, 13), (0, 7, 14, 68)],
  Cond.static ⟨"DiodeLinkLaw", "write", "(LDiodeLink;I[J)I"⟩,
  Cond.initialized "DiodeLinkLaw",
  Cond.codeWith ⟨"DiodeLinkLaw", "write", "(LDiodeLink;I[J)I"⟩ method_4_code 4 (some .int) [(0, 9, 12, 13), (0, 9, 15, 15)],
  Cond.instanceMethod ⟨"DiodeLinkModel", "<init>", "()V"⟩,
  Cond.initialized "DiodeLinkModel",
  Cond.code ⟨"DiodeLinkModel", "<init>", "()V"⟩ prog_13_method_1_code 2 (none),
  Cond.instanceMethod ⟨"DiodeLinkModel", "alter", "(III)V"⟩,
  Cond.initialized "DiodeLinkModel",
  Cond.code ⟨"DiodeLinkModel", "alter", "(III)V"⟩ prog_13_method_31_code 4 (none),
  Cond.selects "DiodeLinkModel" ⟨"DiodeLinkModel", "alter", "(III)V"⟩ ⟨"DiodeLinkModel", "alter", "(III)V"⟩,
  Cond.instanceMethod ⟨"DiodeLinkModel", "anew", "()V"⟩,
  Cond.initialized "DiodeLinkModel",
  Cond.code ⟨"DiodeLinkModel", "anew", "()V"⟩ prog_13_method_18_code 1 (none),
  Cond.selects "DiodeLinkModel" ⟨"DiodeLinkModel", "anew", "()V"⟩ ⟨"DiodeLinkModel", "anew", "()V"⟩,
  Cond.static ⟨"DiodeLinkModel", "begin", "()J"⟩,
  Cond.initialized "DiodeLinkModel",
  Cond.code ⟨"DiodeLinkModel", "begin", "()J"⟩ prog_13_method_6_code 0 (some .long),
  Cond.static ⟨"DiodeLinkModel", "blocks", "(I)I"⟩,
  Cond.initialized "DiodeLinkModel",
  Cond.code ⟨"DiodeLinkModel", "blocks", "(I)I"⟩ prog_13_method_19_code 1 (some .int),
  Cond.instanceMethod ⟨"DiodeLinkModel", "borrows", "(II)Z"⟩,
  Cond.initialized "DiodeLinkModel",
  Cond.code ⟨"DiodeLinkModel", "borrows", "(II)Z"⟩ prog_13_method_56_code 8 (some .boolean),
  Cond.selects "DiodeLinkModel" ⟨"DiodeLinkModel", "borrows", "(II)Z"⟩ ⟨"DiodeLinkModel", "borrows", "(II)Z"⟩,
  Cond.instanceMethod ⟨"DiodeLinkModel", "breaks", "(III)Z"⟩,
  Cond.initialized "DiodeLinkModel",
  Cond.code ⟨"DiodeLinkModel", "breaks", "(III)Z"⟩ prog_13_method_58_code 8 (some .boolean),
  Cond.selects "DiodeLinkModel" ⟨"DiodeLinkModel", "breaks", "(III)Z"⟩ ⟨"DiodeLinkModel", "breaks", "(III)Z"⟩,
  Cond.instanceMethod ⟨"DiodeLinkModel", "byteOf", "(II)I"⟩,
  Cond.initialized "DiodeLinkModel",
  Cond.code ⟨"DiodeLinkModel", "byteOf", "(II)I"⟩ prog_13_method_48_code 3 (some .int),
  Cond.selects "DiodeLinkModel" ⟨"DiodeLinkModel", "byteOf", "(II)I"⟩ ⟨"DiodeLinkModel", "byteOf", "(II)I"⟩,
  Cond.instanceMethod ⟨"DiodeLinkModel", "canBe", "(I)Z"⟩,
  Cond.initialized "DiodeLinkModel",
  Cond.code ⟨"DiodeLinkModel", "canBe", "(I)Z"⟩ prog_13_method_62_code 6 (some .boolean),
  Cond.selects "DiodeLinkModel" ⟨"DiodeLinkModel", "canBe", "(I)Z"⟩ ⟨"DiodeLinkModel", "canBe", "(I)Z"⟩,
  Cond.instanceMethod ⟨"DiodeLinkModel", "clear", "(I)V"⟩,
  Cond.initialized "DiodeLinkModel",
  Cond.code ⟨"DiodeLinkModel", "clear", "(I)V"⟩ prog_13_method_39_code 3 (none),
  Cond.selects "DiodeLinkModel" ⟨"DiodeLinkModel", "clear", "(I)V"⟩ ⟨"DiodeLinkModel", "clear", "(I)V"⟩,
  Cond.instanceMethod ⟨"DiodeLinkModel", "commit", "(I)I"⟩,
  Cond.initialized "DiodeLinkModel",
  Cond.code ⟨"DiodeLinkModel", "commit", "(I)I"⟩ prog_13_method_17_code 6 (some .int),
  Cond.selects "DiodeLinkModel" ⟨"DiodeLinkModel", "commit", "(I)I"⟩ ⟨"DiodeLinkModel", "commit", "(I)I"⟩,
  Cond.instanceMethod ⟨"DiodeLinkModel", "compare", "(II)V"⟩,
  Cond.initialized "DiodeLinkModel",
  Cond.code ⟨"DiodeLinkModel", "compare", "(II)V"⟩ prog_13_method_54_code 7 (none),
  Cond.selects "DiodeLinkModel" ⟨"DiodeLinkModel", "compare", "(II)V"⟩ ⟨"DiodeLinkModel", "compare", "(II)V"⟩,
  Cond.instanceMethod ⟨"DiodeLinkModel", "completes", "(II)V"⟩,
  Cond.initialized "DiodeLinkModel",
  Cond.code ⟨"DiodeLinkModel", "completes", "(II)V"⟩ prog_13_method_55_code 4 (none),
  Cond.selects "DiodeLinkModel" ⟨"DiodeLinkModel", "completes", "(II)V"⟩ ⟨"DiodeLinkModel", "completes", "(II)V"⟩,
  Cond.instanceMethod ⟨"DiodeLinkModel", "count", "(I)I"⟩,
  Cond.initialized "DiodeLinkModel",
  Cond.code ⟨"DiodeLinkModel", "count", "(I)I"⟩ prog_13_method_80_code 2 (some .int)]
def zTs22 : List Cond := [
  Cond.selects "DiodeLinkModel" ⟨"DiodeLinkModel", "count", "(I)I"⟩ ⟨"DiodeLinkModel", "count", "(I)I"⟩,
  Cond.instanceMethod ⟨"DiodeLinkModel", "drop", "(III)V"⟩,
  Cond.initialized "DiodeLinkModel",
  Cond.code ⟨"DiodeLinkModel", "drop", "(III)V"⟩ prog_13_method_34_code 6 (none),
  Cond.selects "DiodeLinkModel" ⟨"DiodeLinkModel", "drop", "(III)V"⟩ ⟨"DiodeLinkModel", "drop", "(III)V"⟩,
  Cond.instanceMethod ⟨"DiodeLinkModel", "drops", "(I)I"⟩,
  Cond.initialized "DiodeLinkModel",
  Cond.code ⟨"DiodeLinkModel", "drops", "(I)I"⟩ prog_13_method_61_code 2 (some .int),
  Cond.selects "DiodeLinkModel" ⟨"DiodeLinkModel", "drops", "(I)I"⟩ ⟨"DiodeLinkModel", "drops", "(I)I"⟩,
  Cond.instanceMethod ⟨"DiodeLinkModel", "eight", "(II)J"⟩,
  Cond.initialized "DiodeLinkModel",
  Cond.code ⟨"DiodeLinkModel", "eight", "(II)J"⟩ prog_13_method_29_code 6 (some .long),
  Cond.selects "DiodeLinkModel" ⟨"DiodeLinkModel", "eight", "(II)J"⟩ ⟨"DiodeLinkModel", "eight", "(II)J"⟩,
  Cond.instanceMethod ⟨"DiodeLinkModel", "empty", "(I)V"⟩,
  Cond.initialized "DiodeLinkModel",
  Cond.code ⟨"DiodeLinkModel", "empty", "(I)V"⟩ prog_13_method_37_code 3 (none),
  Cond.selects "DiodeLinkModel" ⟨"DiodeLinkModel", "empty", "(I)V"⟩ ⟨"DiodeLinkModel", "empty", "(I)V"⟩,
  Cond.instanceMethod ⟨"DiodeLinkModel", "fails", "(ZI)Z"⟩,
  Cond.initialized "DiodeLinkModel",
  Cond.code ⟨"DiodeLinkModel", "fails", "(ZI)Z"⟩ prog_13_method_3_code 3 (some .boolean),
  Cond.selects "DiodeLinkModel" ⟨"DiodeLinkModel", "fails", "(ZI)Z"⟩ ⟨"DiodeLinkModel", "fails", "(ZI)Z"⟩,
  Cond.instanceMethod ⟨"DiodeLinkModel", "feed", "(ZJI)I"⟩,
  Cond.initialized "DiodeLinkModel",
  Cond.code ⟨"DiodeLinkModel", "feed", "(ZJI)I"⟩ prog_13_method_7_code 8 (some .int),
  Cond.selects "DiodeLinkModel" ⟨"DiodeLinkModel", "feed", "(ZJI)I"⟩ ⟨"DiodeLinkModel", "feed", "(ZJI)I"⟩,
  Cond.instanceMethod ⟨"DiodeLinkModel", "file", "(IIIZ)I"⟩,
  Cond.initialized "DiodeLinkModel",
  Cond.code ⟨"DiodeLinkModel", "file", "(IIIZ)I"⟩ prog_13_method_73_code 7 (some .int),
  Cond.selects "DiodeLinkModel" ⟨"DiodeLinkModel", "file", "(IIIZ)I"⟩ ⟨"DiodeLinkModel", "file", "(IIIZ)I"⟩,
  Cond.instanceMethod ⟨"DiodeLinkModel", "forget", "(I)V"⟩,
  Cond.initialized "DiodeLinkModel",
  Cond.code ⟨"DiodeLinkModel", "forget", "(I)V"⟩ prog_13_method_36_code 2 (none),
  Cond.selects "DiodeLinkModel" ⟨"DiodeLinkModel", "forget", "(I)V"⟩ ⟨"DiodeLinkModel", "forget", "(I)V"⟩,
  Cond.instanceMethod ⟨"DiodeLinkModel", "has", "(I)Z"⟩,
  Cond.initialized "DiodeLinkModel",
  Cond.code ⟨"DiodeLinkModel", "has", "(I)Z"⟩ prog_13_method_28_code 2 (some .boolean),
  Cond.selects "DiodeLinkModel" ⟨"DiodeLinkModel", "has", "(I)Z"⟩ ⟨"DiodeLinkModel", "has", "(I)Z"⟩,
  Cond.instanceMethod ⟨"DiodeLinkModel", "hasRows", "(I)Z"⟩,
  Cond.initialized "DiodeLinkModel",
  Cond.code ⟨"DiodeLinkModel", "hasRows", "(I)Z"⟩ prog_13_method_45_code 4 (some .boolean),
  Cond.selects "DiodeLinkModel" ⟨"DiodeLinkModel", "hasRows", "(I)Z"⟩ ⟨"DiodeLinkModel", "hasRows", "(I)Z"⟩,
  Cond.instanceMethod ⟨"DiodeLinkModel", "hashOf", "(I)J"⟩,
  Cond.initialized "DiodeLinkModel",
  Cond.code ⟨"DiodeLinkModel", "hashOf", "(I)J"⟩ prog_13_method_26_code 5 (some .long),
  Cond.selects "DiodeLinkModel" ⟨"DiodeLinkModel", "hashOf", "(I)J"⟩ ⟨"DiodeLinkModel", "hashOf", "(I)J"⟩,
  Cond.instanceMethod ⟨"DiodeLinkModel", "hashTold", "(II)J"⟩,
  Cond.initialized "DiodeLinkModel",
  Cond.code ⟨"DiodeLinkModel", "hashTold", "(II)J"⟩ prog_13_method_53_code 7 (some .long),
  Cond.selects "DiodeLinkModel" ⟨"DiodeLinkModel", "hashTold", "(II)J"⟩ ⟨"DiodeLinkModel", "hashTold", "(II)J"⟩,
  Cond.instanceMethod ⟨"DiodeLinkModel", "have", "(II)I"⟩,
  Cond.initialized "DiodeLinkModel",
  Cond.code ⟨"DiodeLinkModel", "have", "(II)I"⟩ prog_13_method_68_code 4 (some .int),
  Cond.selects "DiodeLinkModel" ⟨"DiodeLinkModel", "have", "(II)I"⟩ ⟨"DiodeLinkModel", "have", "(II)I"⟩,
  Cond.instanceMethod ⟨"DiodeLinkModel", "hear", "(I)I"⟩,
  Cond.initialized "DiodeLinkModel",
  Cond.code ⟨"DiodeLinkModel", "hear", "(I)I"⟩ prog_13_method_63_code 4 (some .int),
  Cond.selects "DiodeLinkModel" ⟨"DiodeLinkModel", "hear", "(I)I"⟩ ⟨"DiodeLinkModel", "hear", "(I)I"⟩,
  Cond.instanceMethod ⟨"DiodeLinkModel", "hears", "(II)I"⟩,
  Cond.initialized "DiodeLinkModel",
  Cond.code ⟨"DiodeLinkModel", "hears", "(II)I"⟩ prog_13_method_41_code 5 (some .int)]
def zTs23 : List Cond := [
  Cond.selects "DiodeLinkModel" ⟨"DiodeLinkModel", "hears", "(II)I"⟩ ⟨"DiodeLinkModel", "hears", "(II)I"⟩,
  Cond.static ⟨"DiodeLinkModel", "in", "(III)Z"⟩,
  Cond.initialized "DiodeLinkModel",
  Cond.code ⟨"DiodeLinkModel", "in", "(III)Z"⟩ prog_13_method_4_code 3 (some .boolean),
  Cond.instanceMethod ⟨"DiodeLinkModel", "isBelow", "(III)Z"⟩,
  Cond.initialized "DiodeLinkModel",
  Cond.code ⟨"DiodeLinkModel", "isBelow", "(III)Z"⟩ prog_13_method_50_code 7 (some .boolean),
  Cond.selects "DiodeLinkModel" ⟨"DiodeLinkModel", "isBelow", "(III)Z"⟩ ⟨"DiodeLinkModel", "isBelow", "(III)Z"⟩,
  Cond.instanceMethod ⟨"DiodeLinkModel", "isComplete", "(I)Z"⟩,
  Cond.initialized "DiodeLinkModel",
  Cond.code ⟨"DiodeLinkModel", "isComplete", "(I)Z"⟩ prog_13_method_47_code 2 (some .boolean),
  Cond.selects "DiodeLinkModel" ⟨"DiodeLinkModel", "isComplete", "(I)Z"⟩ ⟨"DiodeLinkModel", "isComplete", "(I)Z"⟩,
  Cond.instanceMethod ⟨"DiodeLinkModel", "isKept", "(I)Z"⟩,
  Cond.initialized "DiodeLinkModel",
  Cond.code ⟨"DiodeLinkModel", "isKept", "(I)Z"⟩ prog_13_method_76_code 2 (some .boolean),
  Cond.selects "DiodeLinkModel" ⟨"DiodeLinkModel", "isKept", "(I)Z"⟩ ⟨"DiodeLinkModel", "isKept", "(I)Z"⟩,
  Cond.instanceMethod ⟨"DiodeLinkModel", "isManifest", "(I)Z"⟩,
  Cond.initialized "DiodeLinkModel",
  Cond.code ⟨"DiodeLinkModel", "isManifest", "(I)Z"⟩ prog_13_method_51_code 8 (some .boolean),
  Cond.selects "DiodeLinkModel" ⟨"DiodeLinkModel", "isManifest", "(I)Z"⟩ ⟨"DiodeLinkModel", "isManifest", "(I)Z"⟩,
  Cond.instanceMethod ⟨"DiodeLinkModel", "isName", "()Z"⟩,
  Cond.initialized "DiodeLinkModel",
  Cond.code ⟨"DiodeLinkModel", "isName", "()Z"⟩ prog_13_method_12_code 3 (some .boolean),
  Cond.selects "DiodeLinkModel" ⟨"DiodeLinkModel", "isName", "()Z"⟩ ⟨"DiodeLinkModel", "isName", "()Z"⟩,
  Cond.instanceMethod ⟨"DiodeLinkModel", "isSound", "()Z"⟩,
  Cond.initialized "DiodeLinkModel",
  Cond.code ⟨"DiodeLinkModel", "isSound", "()Z"⟩ prog_13_method_79_code 5 (some .boolean),
  Cond.selects "DiodeLinkModel" ⟨"DiodeLinkModel", "isSound", "()Z"⟩ ⟨"DiodeLinkModel", "isSound", "()Z"⟩,
  Cond.instanceMethod ⟨"DiodeLinkModel", "isThere", "(II)Z"⟩,
  Cond.initialized "DiodeLinkModel",
  Cond.code ⟨"DiodeLinkModel", "isThere", "(II)Z"⟩ prog_13_method_11_code 3 (some .boolean),
  Cond.selects "DiodeLinkModel" ⟨"DiodeLinkModel", "isThere", "(II)Z"⟩ ⟨"DiodeLinkModel", "isThere", "(II)Z"⟩,
  Cond.instanceMethod ⟨"DiodeLinkModel", "journal", "(II)J"⟩,
  Cond.initialized "DiodeLinkModel",
  Cond.code ⟨"DiodeLinkModel", "journal", "(II)J"⟩ prog_13_method_77_code 3 (some .long),
  Cond.selects "DiodeLinkModel" ⟨"DiodeLinkModel", "journal", "(II)J"⟩ ⟨"DiodeLinkModel", "journal", "(II)J"⟩,
  Cond.instanceMethod ⟨"DiodeLinkModel", "judge", "(I)V"⟩,
  Cond.initialized "DiodeLinkModel",
  Cond.code ⟨"DiodeLinkModel", "judge", "(I)V"⟩ prog_13_method_59_code 5 (none),
  Cond.selects "DiodeLinkModel" ⟨"DiodeLinkModel", "judge", "(I)V"⟩ ⟨"DiodeLinkModel", "judge", "(I)V"⟩,
  Cond.instanceMethod ⟨"DiodeLinkModel", "keep", "(II)V"⟩,
  Cond.initialized "DiodeLinkModel",
  Cond.code ⟨"DiodeLinkModel", "keep", "(II)V"⟩ prog_13_method_70_code 7 (none),
  Cond.selects "DiodeLinkModel" ⟨"DiodeLinkModel", "keep", "(II)V"⟩ ⟨"DiodeLinkModel", "keep", "(II)V"⟩,
  Cond.instanceMethod ⟨"DiodeLinkModel", "lay", "(IIJI)V"⟩,
  Cond.initialized "DiodeLinkModel",
  Cond.code ⟨"DiodeLinkModel", "lay", "(IIJI)V"⟩ prog_13_method_25_code 7 (none),
  Cond.selects "DiodeLinkModel" ⟨"DiodeLinkModel", "lay", "(IIJI)V"⟩ ⟨"DiodeLinkModel", "lay", "(IIJI)V"⟩,
  Cond.instanceMethod ⟨"DiodeLinkModel", "linked", "(JI)J"⟩,
  Cond.initialized "DiodeLinkModel",
  Cond.code ⟨"DiodeLinkModel", "linked", "(JI)J"⟩ prog_13_method_74_code 7 (some .long),
  Cond.selects "DiodeLinkModel" ⟨"DiodeLinkModel", "linked", "(JI)J"⟩ ⟨"DiodeLinkModel", "linked", "(JI)J"⟩,
  Cond.instanceMethod ⟨"DiodeLinkModel", "look", "(II)I"⟩,
  Cond.initialized "DiodeLinkModel",
  Cond.code ⟨"DiodeLinkModel", "look", "(II)I"⟩ prog_13_method_23_code 9 (some .int),
  Cond.selects "DiodeLinkModel" ⟨"DiodeLinkModel", "look", "(II)I"⟩ ⟨"DiodeLinkModel", "look", "(II)I"⟩,
  Cond.instanceMethod ⟨"DiodeLinkModel", "manifest", "(III)V"⟩,
  Cond.initialized "DiodeLinkModel",
  Cond.code ⟨"DiodeLinkModel", "manifest", "(III)V"⟩ prog_13_method_16_code 9 (none),
  Cond.selects "DiodeLinkModel" ⟨"DiodeLinkModel", "manifest", "(III)V"⟩ ⟨"DiodeLinkModel", "manifest", "(III)V"⟩]
def zTs24 : List Cond := [
  Cond.static ⟨"DiodeLinkModel", "mask", "(IIIII)I"⟩,
  Cond.initialized "DiodeLinkModel",
  Cond.code ⟨"DiodeLinkModel", "mask", "(IIIII)I"⟩ prog_13_method_21_code 7 (some .int),
  Cond.static ⟨"DiodeLinkModel", "more", "(JI)J"⟩,
  Cond.initialized "DiodeLinkModel",
  Cond.code ⟨"DiodeLinkModel", "more", "(JI)J"⟩ prog_13_method_5_code 3 (some .long),
  Cond.instanceMethod ⟨"DiodeLinkModel", "move", "(II)V"⟩,
  Cond.initialized "DiodeLinkModel",
  Cond.code ⟨"DiodeLinkModel", "move", "(II)V"⟩ prog_13_method_9_code 4 (none),
  Cond.selects "DiodeLinkModel" ⟨"DiodeLinkModel", "move", "(II)V"⟩ ⟨"DiodeLinkModel", "move", "(II)V"⟩,
  Cond.instanceMethod ⟨"DiodeLinkModel", "note", "(IIII)V"⟩,
  Cond.initialized "DiodeLinkModel",
  Cond.code ⟨"DiodeLinkModel", "note", "(IIII)V"⟩ prog_13_method_75_code 8 (none),
  Cond.selects "DiodeLinkModel" ⟨"DiodeLinkModel", "note", "(IIII)V"⟩ ⟨"DiodeLinkModel", "note", "(IIII)V"⟩,
  Cond.instanceMethod ⟨"DiodeLinkModel", "order", "(I)I"⟩,
  Cond.initialized "DiodeLinkModel",
  Cond.code ⟨"DiodeLinkModel", "order", "(I)I"⟩ prog_13_method_8_code 3 (some .int),
  Cond.selects "DiodeLinkModel" ⟨"DiodeLinkModel", "order", "(I)I"⟩ ⟨"DiodeLinkModel", "order", "(I)I"⟩,
  Cond.instanceMethod ⟨"DiodeLinkModel", "packet", "(II)J"⟩,
  Cond.initialized "DiodeLinkModel",
  Cond.code ⟨"DiodeLinkModel", "packet", "(II)J"⟩ prog_13_method_30_code 3 (some .long),
  Cond.selects "DiodeLinkModel" ⟨"DiodeLinkModel", "packet", "(II)J"⟩ ⟨"DiodeLinkModel", "packet", "(II)J"⟩,
  Cond.instanceMethod ⟨"DiodeLinkModel", "piece", "(III)J"⟩,
  Cond.initialized "DiodeLinkModel",
  Cond.code ⟨"DiodeLinkModel", "piece", "(III)J"⟩ prog_13_method_24_code 8 (some .long),
  Cond.selects "DiodeLinkModel" ⟨"DiodeLinkModel", "piece", "(III)J"⟩ ⟨"DiodeLinkModel", "piece", "(III)J"⟩,
  Cond.static ⟨"DiodeLinkModel", "pieces", "(II)I"⟩,
  Cond.initialized "DiodeLinkModel",
  Cond.code ⟨"DiodeLinkModel", "pieces", "(II)I"⟩ prog_13_method_20_code 3 (some .int),
  Cond.instanceMethod ⟨"DiodeLinkModel", "place", "(I)I"⟩,
  Cond.initialized "DiodeLinkModel",
  Cond.code ⟨"DiodeLinkModel", "place", "(I)I"⟩ prog_13_method_10_code 3 (some .int),
  Cond.selects "DiodeLinkModel" ⟨"DiodeLinkModel", "place", "(I)I"⟩ ⟨"DiodeLinkModel", "place", "(I)I"⟩,
  Cond.instanceMethod ⟨"DiodeLinkModel", "placeOf", "(II)I"⟩,
  Cond.initialized "DiodeLinkModel",
  Cond.code ⟨"DiodeLinkModel", "placeOf", "(II)I"⟩ prog_13_method_40_code 4 (some .int),
  Cond.selects "DiodeLinkModel" ⟨"DiodeLinkModel", "placeOf", "(II)I"⟩ ⟨"DiodeLinkModel", "placeOf", "(II)I"⟩,
  Cond.instanceMethod ⟨"DiodeLinkModel", "rank", "(IIII)I"⟩,
  Cond.initialized "DiodeLinkModel",
  Cond.code ⟨"DiodeLinkModel", "rank", "(IIII)I"⟩ prog_13_method_69_code 6 (some .int),
  Cond.selects "DiodeLinkModel" ⟨"DiodeLinkModel", "rank", "(IIII)I"⟩ ⟨"DiodeLinkModel", "rank", "(IIII)I"⟩,
  Cond.instanceMethod ⟨"DiodeLinkModel", "reject", "(III)V"⟩,
  Cond.initialized "DiodeLinkModel",
  Cond.code ⟨"DiodeLinkModel", "reject", "(III)V"⟩ prog_13_method_60_code 4 (none),
  Cond.selects "DiodeLinkModel" ⟨"DiodeLinkModel", "reject", "(III)V"⟩ ⟨"DiodeLinkModel", "reject", "(III)V"⟩,
  Cond.instanceMethod ⟨"DiodeLinkModel", "release", "(I)I"⟩,
  Cond.initialized "DiodeLinkModel",
  Cond.code ⟨"DiodeLinkModel", "release", "(I)I"⟩ prog_13_method_71_code 3 (some .int),
  Cond.selects "DiodeLinkModel" ⟨"DiodeLinkModel", "release", "(I)I"⟩ ⟨"DiodeLinkModel", "release", "(I)I"⟩,
  Cond.instanceMethod ⟨"DiodeLinkModel", "released", "(I)I"⟩,
  Cond.initialized "DiodeLinkModel",
  Cond.code ⟨"DiodeLinkModel", "released", "(I)I"⟩ prog_13_method_72_code 2 (some .int),
  Cond.selects "DiodeLinkModel" ⟨"DiodeLinkModel", "released", "(I)I"⟩ ⟨"DiodeLinkModel", "released", "(I)I"⟩,
  Cond.instanceMethod ⟨"DiodeLinkModel", "remove", "(I)Z"⟩,
  Cond.initialized "DiodeLinkModel",
  Cond.code ⟨"DiodeLinkModel", "remove", "(I)Z"⟩ prog_13_method_14_code 6 (some .boolean),
  Cond.selects "DiodeLinkModel" ⟨"DiodeLinkModel", "remove", "(I)Z"⟩ ⟨"DiodeLinkModel", "remove", "(I)Z"⟩,
  Cond.instanceMethod ⟨"DiodeLinkModel", "restartReceiver", "()V"⟩,
  Cond.initialized "DiodeLinkModel",
  Cond.code ⟨"DiodeLinkModel", "restartReceiver", "()V"⟩ prog_13_method_35_code 1 (none)]
def zTs25 : List Cond := [
  Cond.selects "DiodeLinkModel" ⟨"DiodeLinkModel", "restartReceiver", "()V"⟩ ⟨"DiodeLinkModel", "restartReceiver", "()V"⟩,
  Cond.instanceMethod ⟨"DiodeLinkModel", "restartSender", "()I"⟩,
  Cond.initialized "DiodeLinkModel",
  Cond.code ⟨"DiodeLinkModel", "restartSender", "()I"⟩ prog_13_method_32_code 1 (some .int),
  Cond.selects "DiodeLinkModel" ⟨"DiodeLinkModel", "restartSender", "()I"⟩ ⟨"DiodeLinkModel", "restartSender", "()I"⟩,
  Cond.instanceMethod ⟨"DiodeLinkModel", "room", "()Z"⟩,
  Cond.initialized "DiodeLinkModel",
  Cond.code ⟨"DiodeLinkModel", "room", "()Z"⟩ prog_13_method_46_code 3 (some .boolean),
  Cond.selects "DiodeLinkModel" ⟨"DiodeLinkModel", "room", "()Z"⟩ ⟨"DiodeLinkModel", "room", "()Z"⟩,
  Cond.instanceMethod ⟨"DiodeLinkModel", "rowsOf", "(II)I"⟩,
  Cond.initialized "DiodeLinkModel",
  Cond.code ⟨"DiodeLinkModel", "rowsOf", "(II)I"⟩ prog_13_method_44_code 5 (some .int),
  Cond.selects "DiodeLinkModel" ⟨"DiodeLinkModel", "rowsOf", "(II)I"⟩ ⟨"DiodeLinkModel", "rowsOf", "(II)I"⟩,
  Cond.instanceMethod ⟨"DiodeLinkModel", "rule", "(IIZ)V"⟩,
  Cond.initialized "DiodeLinkModel",
  Cond.code ⟨"DiodeLinkModel", "rule", "(IIZ)V"⟩ prog_13_method_66_code 5 (none),
  Cond.selects "DiodeLinkModel" ⟨"DiodeLinkModel", "rule", "(IIZ)V"⟩ ⟨"DiodeLinkModel", "rule", "(IIZ)V"⟩,
  Cond.instanceMethod ⟨"DiodeLinkModel", "send", "()I"⟩,
  Cond.initialized "DiodeLinkModel",
  Cond.code ⟨"DiodeLinkModel", "send", "()I"⟩ prog_13_method_27_code 10 (some .int),
  Cond.selects "DiodeLinkModel" ⟨"DiodeLinkModel", "send", "()I"⟩ ⟨"DiodeLinkModel", "send", "()I"⟩,
  Cond.instanceMethod ⟨"DiodeLinkModel", "share", "(I)V"⟩,
  Cond.initialized "DiodeLinkModel",
  Cond.code ⟨"DiodeLinkModel", "share", "(I)V"⟩ prog_13_method_57_code 5 (none),
  Cond.selects "DiodeLinkModel" ⟨"DiodeLinkModel", "share", "(I)V"⟩ ⟨"DiodeLinkModel", "share", "(I)V"⟩,
  Cond.instanceMethod ⟨"DiodeLinkModel", "shift", "(I)V"⟩,
  Cond.initialized "DiodeLinkModel",
  Cond.code ⟨"DiodeLinkModel", "shift", "(I)V"⟩ prog_13_method_38_code 4 (none),
  Cond.selects "DiodeLinkModel" ⟨"DiodeLinkModel", "shift", "(I)V"⟩ ⟨"DiodeLinkModel", "shift", "(I)V"⟩,
  Cond.instanceMethod ⟨"DiodeLinkModel", "sizeTold", "(II)I"⟩,
  Cond.initialized "DiodeLinkModel",
  Cond.code ⟨"DiodeLinkModel", "sizeTold", "(II)I"⟩ prog_13_method_52_code 4 (some .int),
  Cond.selects "DiodeLinkModel" ⟨"DiodeLinkModel", "sizeTold", "(II)I"⟩ ⟨"DiodeLinkModel", "sizeTold", "(II)I"⟩,
  Cond.instanceMethod ⟨"DiodeLinkModel", "solve", "(III)V"⟩,
  Cond.initialized "DiodeLinkModel",
  Cond.code ⟨"DiodeLinkModel", "solve", "(III)V"⟩ prog_13_method_65_code 9 (none),
  Cond.selects "DiodeLinkModel" ⟨"DiodeLinkModel", "solve", "(III)V"⟩ ⟨"DiodeLinkModel", "solve", "(III)V"⟩,
  Cond.instanceMethod ⟨"DiodeLinkModel", "sum", "(III)I"⟩,
  Cond.initialized "DiodeLinkModel",
  Cond.code ⟨"DiodeLinkModel", "sum", "(III)I"⟩ prog_13_method_42_code 9 (some .int),
  Cond.selects "DiodeLinkModel" ⟨"DiodeLinkModel", "sum", "(III)I"⟩ ⟨"DiodeLinkModel", "sum", "(III)I"⟩,
  Cond.instanceMethod ⟨"DiodeLinkModel", "takes", "(IIII)I"⟩,
  Cond.initialized "DiodeLinkModel",
  Cond.code ⟨"DiodeLinkModel", "takes", "(IIII)I"⟩ prog_13_method_64_code 10 (some .int),
  Cond.selects "DiodeLinkModel" ⟨"DiodeLinkModel", "takes", "(IIII)I"⟩ ⟨"DiodeLinkModel", "takes", "(IIII)I"⟩,
  Cond.instanceMethod ⟨"DiodeLinkModel", "tells", "(II)I"⟩,
  Cond.initialized "DiodeLinkModel",
  Cond.code ⟨"DiodeLinkModel", "tells", "(II)I"⟩ prog_13_method_49_code 5 (some .int),
  Cond.selects "DiodeLinkModel" ⟨"DiodeLinkModel", "tells", "(II)I"⟩ ⟨"DiodeLinkModel", "tells", "(II)I"⟩,
  Cond.instanceMethod ⟨"DiodeLinkModel", "thrown", "()I"⟩,
  Cond.initialized "DiodeLinkModel",
  Cond.code ⟨"DiodeLinkModel", "thrown", "()I"⟩ prog_13_method_2_code 1 (some .int),
  Cond.selects "DiodeLinkModel" ⟨"DiodeLinkModel", "thrown", "()I"⟩ ⟨"DiodeLinkModel", "thrown", "()I"⟩,
  Cond.instanceMethod ⟨"DiodeLinkModel", "together", "(III)J"⟩,
  Cond.initialized "DiodeLinkModel",
  Cond.code ⟨"DiodeLinkModel", "together", "(III)J"⟩ prog_13_method_43_code 8 (some .long),
  Cond.selects "DiodeLinkModel" ⟨"DiodeLinkModel", "together", "(III)J"⟩ ⟨"DiodeLinkModel", "together", "(III)J"⟩,
  Cond.instanceMethod ⟨"DiodeLinkModel", "told", "(III)I"⟩,
  Cond.initialized "DiodeLinkModel",
  Cond.code ⟨"DiodeLinkModel", "told", "(III)I"⟩ prog_13_method_15_code 4 (some .int)]
def zTs26 : List Cond := [
  Cond.selects "DiodeLinkModel" ⟨"DiodeLinkModel", "told", "(III)I"⟩ ⟨"DiodeLinkModel", "told", "(III)I"⟩,
  Cond.instanceMethod ⟨"DiodeLinkModel", "touch", "(III)V"⟩,
  Cond.initialized "DiodeLinkModel",
  Cond.code ⟨"DiodeLinkModel", "touch", "(III)V"⟩ prog_13_method_78_code 4 (none),
  Cond.selects "DiodeLinkModel" ⟨"DiodeLinkModel", "touch", "(III)V"⟩ ⟨"DiodeLinkModel", "touch", "(III)V"⟩,
  Cond.instanceMethod ⟨"DiodeLinkModel", "unsize", "()V"⟩,
  Cond.initialized "DiodeLinkModel",
  Cond.code ⟨"DiodeLinkModel", "unsize", "()V"⟩ prog_13_method_33_code 4 (none),
  Cond.selects "DiodeLinkModel" ⟨"DiodeLinkModel", "unsize", "()V"⟩ ⟨"DiodeLinkModel", "unsize", "()V"⟩,
  Cond.instanceMethod ⟨"DiodeLinkModel", "wasReleased", "(II)Z"⟩,
  Cond.initialized "DiodeLinkModel",
  Cond.code ⟨"DiodeLinkModel", "wasReleased", "(II)Z"⟩ prog_13_method_67_code 5 (some .boolean),
  Cond.selects "DiodeLinkModel" ⟨"DiodeLinkModel", "wasReleased", "(II)Z"⟩ ⟨"DiodeLinkModel", "wasReleased", "(II)Z"⟩,
  Cond.instanceMethod ⟨"DiodeLinkModel", "within", "(III)I"⟩,
  Cond.initialized "DiodeLinkModel",
  Cond.code ⟨"DiodeLinkModel", "within", "(III)I"⟩ prog_13_method_22_code 10 (some .int),
  Cond.selects "DiodeLinkModel" ⟨"DiodeLinkModel", "within", "(III)I"⟩ ⟨"DiodeLinkModel", "within", "(III)I"⟩,
  Cond.instanceMethod ⟨"DiodeLinkModel", "write", "(I)I"⟩,
  Cond.initialized "DiodeLinkModel",
  Cond.code ⟨"DiodeLinkModel", "write", "(I)I"⟩ prog_13_method_13_code 8 (some .int),
  Cond.selects "DiodeLinkModel" ⟨"DiodeLinkModel", "write", "(I)I"⟩ ⟨"DiodeLinkModel", "write", "(I)I"⟩,
  Cond.methodLink "DiodeLink" 63 ⟨"java/lang/IllegalArgumentException", "<init>", "(Ljava/lang/String;)V"⟩,
  Cond.methodLink "DiodeLink" 198 ⟨"java/lang/IndexOutOfBoundsException", "<init>", "(Ljava/lang/String;)V"⟩,
  Cond.methodLink "DiodeLink" 77 ⟨"java/lang/IllegalStateException", "<init>", "(Ljava/lang/String;)V"⟩]
def zTs : List Cond := zTs0 ++ (zTs1 ++ (zTs2 ++ (zTs3 ++ (zTs4 ++ (zTs5 ++ (zTs6 ++ (zTs7 ++ (zTs8 ++ (zTs9 ++ (zTs10 ++ (zTs11 ++ (zTs12 ++ (zTs13 ++ (zTs14 ++ (zTs15 ++ (zTs16 ++ (zTs17 ++ (zTs18 ++ (zTs19 ++ (zTs20 ++ (zTs21 ++ (zTs22 ++ (zTs23 ++ (zTs24 ++ (zTs25 ++ (zTs26))))))))))))))))))))))))))
def zBs : List Cond := [
  Cond.arrayOver (.object "DiodeLink$Folder"),
  Cond.arrayOver (.object "DiodeLink$Bytes"),
  Cond.arrayOver (.object "DiodeLink$Edition"),
  Cond.methodLinkNest "DiodeLink" 34 ⟨"DiodeLink$Rules", "<init>", "()V"⟩ "DiodeLink",
  Cond.methodLinkNest "DiodeLink" 41 ⟨"DiodeLink$Journal", "<init>", "()V"⟩ "DiodeLink",
  Cond.arrayOver (.object "DiodeLink$Version"),
  Cond.methodLinkNest "DiodeLink$Receiver" 22 ⟨"DiodeLink$Rows", "<init>", "()V"⟩ "DiodeLink",
  Cond.castable "java/lang/IllegalArgumentException" "java/lang/IllegalArgumentException",
  Cond.declares ⟨"java/lang/RuntimeException", "<init>", "()V"⟩,
  Cond.declares ⟨"java/lang/RuntimeException", "<init>", "(Ljava/lang/String;)V"⟩,
  Cond.declares ⟨"java/lang/Exception", "<init>", "()V"⟩,
  Cond.declares ⟨"java/lang/Exception", "<init>", "(Ljava/lang/String;)V"⟩,
  Cond.declares ⟨"java/lang/Throwable", "<init>", "()V"⟩,
  Cond.declares ⟨"java/lang/Throwable", "<init>", "(Ljava/lang/String;)V"⟩,
  Cond.castable "java/lang/IllegalStateException" "java/lang/IllegalStateException",
  Cond.castable "java/lang/IndexOutOfBoundsException" "java/lang/IndexOutOfBoundsException"]
def zE : xE := ([("DiodeLink", 61, "1 to 8 bytes at a time"), ("DiodeLink", 75, "more than a name or a file can have"), ("DiodeLink", 103, "no such folder, or no name"), ("DiodeLink", 105, "the folder has 6 other files"), ("DiodeLink", 111, "no such folder"), ("DiodeLink", 120, "there were 1,000 versions"), ("DiodeLink", 125, "no version at all"), ("DiodeLink", 248, "no such slot, or it has nothing"), ("DiodeLink", 130, "no such place"), ("DiodeLink", 136, "no such byte"), ("DiodeLink", 150, "it was the last life"), ("DiodeLink", 161, "no such rule"), ("DiodeLink", 246, "no such folder or version"), ("DiodeLink", 174, "no such item or block"), ("DiodeLink", 196, "no such file"), ("DiodeLink", 215, "no such number of an entry"), ("DiodeLink", 223, "no such entry, or not kept"), ("DiodeLink", 243, "no such count")], zBs, [("java/lang/IllegalArgumentException", "java/lang/IllegalStateException"), ("java/lang/IllegalArgumentException", "java/lang/IndexOutOfBoundsException"), ("java/lang/IllegalStateException", "java/lang/IllegalArgumentException"), ("java/lang/IllegalStateException", "java/lang/IndexOutOfBoundsException"), ("java/lang/IndexOutOfBoundsException", "java/lang/IllegalArgumentException"), ("java/lang/IndexOutOfBoundsException", "java/lang/IllegalStateException")])
def zexN : Nat → String := fun k => ["java/lang/IllegalArgumentException", "java/lang/IllegalStateException", "java/lang/IndexOutOfBoundsException"].getD k ""
def zck : Nat → Option Nat := fun t => if t = 13 then some 0 else if t = 15 then some 1 else if t = 68 then some 2 else none
def zG : xG := (zexN, ["java/lang/RuntimeException", "java/lang/Exception"], zck, [("DiodeLink", 63, 0), ("DiodeLink", 77, 1), ("DiodeLink", 198, 2)], "DiodeLink")
theorem zin_s : ∀ w ∈ k2_sels lw_privs, w ∈ lw_tbl := fun w h => List.mem_append_left _ h
theorem zin_1 : ∀ w ∈ tables_1_1, w ∈ lw_tbl := fun w h => List.mem_append_right _ (List.mem_append_left _ h)
theorem zin_2 : ∀ w ∈ tables_1_2, w ∈ lw_tbl := fun w h => List.mem_append_right _ (List.mem_append_right _ (List.mem_append_left _ h))
theorem zin_3 : ∀ w ∈ tables_1_3, w ∈ lw_tbl := fun w h => List.mem_append_right _ (List.mem_append_right _ (List.mem_append_right _ (List.mem_append_left _ h)))
theorem zin_4 : ∀ w ∈ tables_1_4, w ∈ lw_tbl := fun w h => List.mem_append_right _ (List.mem_append_right _ (List.mem_append_right _ (List.mem_append_right _ (List.mem_append_left _ h))))
theorem zin_5 : ∀ w ∈ tables_1_5, w ∈ lw_tbl := fun w h => List.mem_append_right _ (List.mem_append_right _ (List.mem_append_right _ (List.mem_append_right _ (List.mem_append_right _ (List.mem_append_left _ h)))))
theorem zin_6 : ∀ w ∈ tables_1_6, w ∈ lw_tbl := fun w h => List.mem_append_right _ (List.mem_append_right _ (List.mem_append_right _ (List.mem_append_right _ (List.mem_append_right _ (List.mem_append_right _ (List.mem_append_left _ h))))))
theorem zin_7 : ∀ w ∈ tables_1_7, w ∈ lw_tbl := fun w h => List.mem_append_right _ (List.mem_append_right _ (List.mem_append_right _ (List.mem_append_right _ (List.mem_append_right _ (List.mem_append_right _ (List.mem_append_right _ (h)))))))
theorem zw0 : Cond.laysFinal "DiodeLink" "DiodeLink" "nameAtHand" "LDiodeLink$Bytes;" ∈ lw_tbl := zin_2 _ (List.mem_of_getElem? (l := tables_1_2) (i := 13) rfl)
theorem zw1 : Cond.laysFinal "DiodeLink" "DiodeLink" "dataAtHand" "LDiodeLink$Bytes;" ∈ lw_tbl := zin_2 _ (List.mem_of_getElem? (l := tables_1_2) (i := 15) rfl)
theorem zw2 : Cond.laysFinal "DiodeLink" "DiodeLink" "sender" "LDiodeLink$Sender;" ∈ lw_tbl := zin_2 _ (List.mem_of_getElem? (l := tables_1_2) (i := 17) rfl)
theorem zw3 : Cond.laysFinal "DiodeLink" "DiodeLink" "slots" "[LDiodeLink$Bytes;" ∈ lw_tbl := zin_2 _ (List.mem_of_getElem? (l := tables_1_2) (i := 19) rfl)
theorem zw4 : Cond.laysFinal "DiodeLink" "DiodeLink" "rules" "LDiodeLink$Rules;" ∈ lw_tbl := zin_2 _ (List.mem_of_getElem? (l := tables_1_2) (i := 21) rfl)
theorem zw5 : Cond.laysFinal "DiodeLink" "DiodeLink" "journal" "LDiodeLink$Journal;" ∈ lw_tbl := zin_2 _ (List.mem_of_getElem? (l := tables_1_2) (i := 23) rfl)
theorem zw6 : Cond.laysFinal "DiodeLink" "DiodeLink" "receiver" "LDiodeLink$Receiver;" ∈ lw_tbl := zin_2 _ (List.mem_of_getElem? (l := tables_1_2) (i := 25) rfl)
theorem zw7 : Cond.lays "DiodeLink" "DiodeLink" "packetsSent" "I" ∈ lw_tbl := zin_2 _ (List.mem_of_getElem? (l := tables_1_2) (i := 27) rfl)
theorem zw8 : Cond.laysFinal "DiodeLink$Bytes" "DiodeLink$Bytes" "row" "[I" ∈ lw_tbl := zin_1 _ (List.mem_of_getElem? (l := tables_1_1) (i := 37) rfl)
theorem zw9 : Cond.lays "DiodeLink$Bytes" "DiodeLink$Bytes" "size" "I" ∈ lw_tbl := zin_1 _ (List.mem_of_getElem? (l := tables_1_1) (i := 39) rfl)
theorem zw10 : Cond.laysFinal "DiodeLink$Edition" "DiodeLink$Edition" "items" "[LDiodeLink$Bytes;" ∈ lw_tbl := zin_1 _ (List.mem_of_getElem? (l := tables_1_1) (i := 71) rfl)
theorem zw11 : Cond.lays "DiodeLink$Edition" "DiodeLink$Edition" "number" "I" ∈ lw_tbl := zin_1 _ (List.mem_of_getElem? (l := tables_1_1) (i := 73) rfl)
theorem zw12 : Cond.lays "DiodeLink$Edition" "DiodeLink$Edition" "itemCount" "I" ∈ lw_tbl := zin_1 _ (List.mem_of_getElem? (l := tables_1_1) (i := 75) rfl)
theorem zw13 : Cond.laysFinal "DiodeLink$Folder" "DiodeLink$Folder" "names" "[LDiodeLink$Bytes;" ∈ lw_tbl := zin_1 _ (List.mem_of_getElem? (l := tables_1_1) (i := 83) rfl)
theorem zw14 : Cond.laysFinal "DiodeLink$Folder" "DiodeLink$Folder" "contents" "[LDiodeLink$Bytes;" ∈ lw_tbl := zin_1 _ (List.mem_of_getElem? (l := tables_1_1) (i := 85) rfl)
theorem zw15 : Cond.laysFinal "DiodeLink$Folder" "DiodeLink$Folder" "editions" "[LDiodeLink$Edition;" ∈ lw_tbl := zin_1 _ (List.mem_of_getElem? (l := tables_1_1) (i := 87) rfl)
theorem zw16 : Cond.lays "DiodeLink$Folder" "DiodeLink$Folder" "files" "I" ∈ lw_tbl := zin_1 _ (List.mem_of_getElem? (l := tables_1_1) (i := 89) rfl)
theorem zw17 : Cond.lays "DiodeLink$Folder" "DiodeLink$Folder" "latest" "I" ∈ lw_tbl := zin_1 _ (List.mem_of_getElem? (l := tables_1_1) (i := 91) rfl)
theorem zw18 : Cond.laysFinal "DiodeLink$Journal" "DiodeLink$Journal" "numbers" "[I" ∈ lw_tbl := zin_1 _ (List.mem_of_getElem? (l := tables_1_1) (i := 141) rfl)
theorem zw19 : Cond.laysFinal "DiodeLink$Journal" "DiodeLink$Journal" "links" "[J" ∈ lw_tbl := zin_1 _ (List.mem_of_getElem? (l := tables_1_1) (i := 143) rfl)
theorem zw20 : Cond.laysFinal "DiodeLink$Journal" "DiodeLink$Journal" "linked" "LDiodeLink$Bytes;" ∈ lw_tbl := zin_1 _ (List.mem_of_getElem? (l := tables_1_1) (i := 145) rfl)
theorem zw21 : Cond.lays "DiodeLink$Journal" "DiodeLink$Journal" "entries" "I" ∈ lw_tbl := zin_1 _ (List.mem_of_getElem? (l := tables_1_1) (i := 147) rfl)
theorem zw22 : Cond.lays "DiodeLink$Journal" "DiodeLink$Journal" "linkBeforeKept" "J" ∈ lw_tbl := zin_1 _ (List.mem_of_getElem? (l := tables_1_1) (i := 149) rfl)
theorem zw23 : Cond.lays "DiodeLink$Journal" "DiodeLink$Journal" "latestLink" "J" ∈ lw_tbl := zin_1 _ (List.mem_of_getElem? (l := tables_1_1) (i := 151) rfl)
theorem zw24 : Cond.laysFinal "DiodeLink$Receiver" "DiodeLink$Receiver" "known" "[LDiodeLink$Version;" ∈ lw_tbl := zin_1 _ (List.mem_of_getElem? (l := tables_1_1) (i := 230) rfl)
theorem zw25 : Cond.laysFinal "DiodeLink$Receiver" "DiodeLink$Receiver" "shown" "[LDiodeLink$Version;" ∈ lw_tbl := zin_1 _ (List.mem_of_getElem? (l := tables_1_1) (i := 232) rfl)
theorem zw26 : Cond.laysFinal "DiodeLink$Receiver" "DiodeLink$Receiver" "rows" "LDiodeLink$Rows;" ∈ lw_tbl := zin_1 _ (List.mem_of_getElem? (l := tables_1_1) (i := 234) rfl)
theorem zw27 : Cond.laysFinal "DiodeLink$Receiver" "DiodeLink$Receiver" "rules" "LDiodeLink$Rules;" ∈ lw_tbl := zin_1 _ (List.mem_of_getElem? (l := tables_1_1) (i := 236) rfl)
theorem zw28 : Cond.laysFinal "DiodeLink$Receiver" "DiodeLink$Receiver" "journal" "LDiodeLink$Journal;" ∈ lw_tbl := zin_1 _ (List.mem_of_getElem? (l := tables_1_1) (i := 238) rfl)
theorem zw29 : Cond.lays "DiodeLink$Receiver" "DiodeLink$Receiver" "greatestLife" "I" ∈ lw_tbl := zin_2 _ (List.mem_of_getElem? (l := tables_1_2) (i := 0) rfl)
theorem zw30 : Cond.lays "DiodeLink$Receiver" "DiodeLink$Receiver" "dropped" "I" ∈ lw_tbl := zin_2 _ (List.mem_of_getElem? (l := tables_1_2) (i := 2) rfl)
theorem zw31 : Cond.laysFinal "DiodeLink$Rows" "DiodeLink$Rows" "keys" "[I" ∈ lw_tbl := zin_1 _ (List.mem_of_getElem? (l := tables_1_1) (i := 173) rfl)
theorem zw32 : Cond.laysFinal "DiodeLink$Rows" "DiodeLink$Rows" "masks" "[I" ∈ lw_tbl := zin_1 _ (List.mem_of_getElem? (l := tables_1_1) (i := 175) rfl)
theorem zw33 : Cond.laysFinal "DiodeLink$Rows" "DiodeLink$Rows" "values" "[J" ∈ lw_tbl := zin_1 _ (List.mem_of_getElem? (l := tables_1_1) (i := 177) rfl)
theorem zw34 : Cond.lays "DiodeLink$Rows" "DiodeLink$Rows" "used" "I" ∈ lw_tbl := zin_1 _ (List.mem_of_getElem? (l := tables_1_1) (i := 179) rfl)
theorem zw35 : Cond.laysFinal "DiodeLink$Rules" "DiodeLink$Rules" "signs" "[Z" ∈ lw_tbl := zin_1 _ (List.mem_of_getElem? (l := tables_1_1) (i := 117) rfl)
theorem zw36 : Cond.laysFinal "DiodeLink$Rules" "DiodeLink$Rules" "firsts" "[Z" ∈ lw_tbl := zin_1 _ (List.mem_of_getElem? (l := tables_1_1) (i := 119) rfl)
theorem zw37 : Cond.lays "DiodeLink$Rules" "DiodeLink$Rules" "mostBytes" "I" ∈ lw_tbl := zin_1 _ (List.mem_of_getElem? (l := tables_1_1) (i := 121) rfl)
theorem zw38 : Cond.lays "DiodeLink$Rules" "DiodeLink$Rules" "mostFiles" "I" ∈ lw_tbl := zin_1 _ (List.mem_of_getElem? (l := tables_1_1) (i := 123) rfl)
theorem zw39 : Cond.laysFinal "DiodeLink$Sender" "DiodeLink$Sender" "folders" "[LDiodeLink$Folder;" ∈ lw_tbl := zin_1 _ (List.mem_of_getElem? (l := tables_1_1) (i := 98) rfl)
theorem zw40 : Cond.laysFinal "DiodeLink$Sender" "DiodeLink$Sender" "nextPlaces" "[I" ∈ lw_tbl := zin_1 _ (List.mem_of_getElem? (l := tables_1_1) (i := 100) rfl)
theorem zw41 : Cond.lays "DiodeLink$Sender" "DiodeLink$Sender" "life" "I" ∈ lw_tbl := zin_1 _ (List.mem_of_getElem? (l := tables_1_1) (i := 102) rfl)
theorem zw42 : Cond.lays "DiodeLink$Sender" "DiodeLink$Sender" "turn" "I" ∈ lw_tbl := zin_1 _ (List.mem_of_getElem? (l := tables_1_1) (i := 104) rfl)
theorem zw43 : Cond.laysFinal "DiodeLink$Version" "DiodeLink$Version" "items" "[LDiodeLink$Bytes;" ∈ lw_tbl := zin_1 _ (List.mem_of_getElem? (l := tables_1_1) (i := 200) rfl)
theorem zw44 : Cond.laysFinal "DiodeLink$Version" "DiodeLink$Version" "solved" "[Z" ∈ lw_tbl := zin_1 _ (List.mem_of_getElem? (l := tables_1_1) (i := 202) rfl)
theorem zw45 : Cond.laysFinal "DiodeLink$Version" "DiodeLink$Version" "held" "[Z" ∈ lw_tbl := zin_1 _ (List.mem_of_getElem? (l := tables_1_1) (i := 204) rfl)
theorem zw46 : Cond.laysFinal "DiodeLink$Version" "DiodeLink$Version" "nameAt" "[I" ∈ lw_tbl := zin_1 _ (List.mem_of_getElem? (l := tables_1_1) (i := 206) rfl)
theorem zw47 : Cond.laysFinal "DiodeLink$Version" "DiodeLink$Version" "nameSizes" "[I" ∈ lw_tbl := zin_1 _ (List.mem_of_getElem? (l := tables_1_1) (i := 208) rfl)
theorem zw48 : Cond.laysFinal "DiodeLink$Version" "DiodeLink$Version" "fileSizes" "[I" ∈ lw_tbl := zin_1 _ (List.mem_of_getElem? (l := tables_1_1) (i := 210) rfl)
theorem zw49 : Cond.laysFinal "DiodeLink$Version" "DiodeLink$Version" "fileHashes" "[J" ∈ lw_tbl := zin_1 _ (List.mem_of_getElem? (l := tables_1_1) (i := 212) rfl)
theorem zw50 : Cond.lays "DiodeLink$Version" "DiodeLink$Version" "number" "I" ∈ lw_tbl := zin_1 _ (List.mem_of_getElem? (l := tables_1_1) (i := 214) rfl)
theorem zw51 : Cond.lays "DiodeLink$Version" "DiodeLink$Version" "state" "I" ∈ lw_tbl := zin_1 _ (List.mem_of_getElem? (l := tables_1_1) (i := 216) rfl)
theorem zw52 : Cond.lays "DiodeLink$Version" "DiodeLink$Version" "files" "I" ∈ lw_tbl := zin_1 _ (List.mem_of_getElem? (l := tables_1_1) (i := 218) rfl)
theorem zw53 : Cond.lays "DiodeLink$Version" "DiodeLink$Version" "good" "Z" ∈ lw_tbl := zin_1 _ (List.mem_of_getElem? (l := tables_1_1) (i := 220) rfl)
theorem zw54 : Cond.lays "DiodeLinkModel" "DiodeLinkModel" "thrown" "I" ∈ lw_tbl := zin_5 _ (List.mem_of_getElem? (l := tables_1_5) (i := 183) rfl)
theorem zw55 : Cond.lays "DiodeLinkModel" "DiodeLinkModel" "named" "I" ∈ lw_tbl := zin_5 _ (List.mem_of_getElem? (l := tables_1_5) (i := 185) rfl)
theorem zw56 : Cond.lays "DiodeLinkModel" "DiodeLinkModel" "given" "I" ∈ lw_tbl := zin_5 _ (List.mem_of_getElem? (l := tables_1_5) (i := 187) rfl)
theorem zw57 : Cond.laysFinal "DiodeLinkModel" "DiodeLinkModel" "name" "[I" ∈ lw_tbl := zin_5 _ (List.mem_of_getElem? (l := tables_1_5) (i := 189) rfl)
theorem zw58 : Cond.laysFinal "DiodeLinkModel" "DiodeLinkModel" "data" "[I" ∈ lw_tbl := zin_5 _ (List.mem_of_getElem? (l := tables_1_5) (i := 191) rfl)
theorem zw59 : Cond.laysFinal "DiodeLinkModel" "DiodeLinkModel" "files" "[I" ∈ lw_tbl := zin_5 _ (List.mem_of_getElem? (l := tables_1_5) (i := 193) rfl)
theorem zw60 : Cond.laysFinal "DiodeLinkModel" "DiodeLinkModel" "nameSize" "[I" ∈ lw_tbl := zin_5 _ (List.mem_of_getElem? (l := tables_1_5) (i := 195) rfl)
theorem zw61 : Cond.laysFinal "DiodeLinkModel" "DiodeLinkModel" "names" "[I" ∈ lw_tbl := zin_5 _ (List.mem_of_getElem? (l := tables_1_5) (i := 197) rfl)
theorem zw62 : Cond.laysFinal "DiodeLinkModel" "DiodeLinkModel" "fileSize" "[I" ∈ lw_tbl := zin_5 _ (List.mem_of_getElem? (l := tables_1_5) (i := 199) rfl)
theorem zw63 : Cond.laysFinal "DiodeLinkModel" "DiodeLinkModel" "fileData" "[I" ∈ lw_tbl := zin_5 _ (List.mem_of_getElem? (l := tables_1_5) (i := 201) rfl)
theorem zw64 : Cond.laysFinal "DiodeLinkModel" "DiodeLinkModel" "versions" "[I" ∈ lw_tbl := zin_5 _ (List.mem_of_getElem? (l := tables_1_5) (i := 203) rfl)
theorem zw65 : Cond.laysFinal "DiodeLinkModel" "DiodeLinkModel" "keptItems" "[I" ∈ lw_tbl := zin_5 _ (List.mem_of_getElem? (l := tables_1_5) (i := 205) rfl)
theorem zw66 : Cond.laysFinal "DiodeLinkModel" "DiodeLinkModel" "keptSize" "[I" ∈ lw_tbl := zin_5 _ (List.mem_of_getElem? (l := tables_1_5) (i := 207) rfl)
theorem zw67 : Cond.laysFinal "DiodeLinkModel" "DiodeLinkModel" "keptData" "[I" ∈ lw_tbl := zin_5 _ (List.mem_of_getElem? (l := tables_1_5) (i := 209) rfl)
theorem zw68 : Cond.lays "DiodeLinkModel" "DiodeLinkModel" "life" "I" ∈ lw_tbl := zin_5 _ (List.mem_of_getElem? (l := tables_1_5) (i := 211) rfl)
theorem zw69 : Cond.lays "DiodeLinkModel" "DiodeLinkModel" "turn" "I" ∈ lw_tbl := zin_5 _ (List.mem_of_getElem? (l := tables_1_5) (i := 213) rfl)
theorem zw70 : Cond.lays "DiodeLinkModel" "DiodeLinkModel" "sent" "I" ∈ lw_tbl := zin_5 _ (List.mem_of_getElem? (l := tables_1_5) (i := 215) rfl)
theorem zw71 : Cond.laysFinal "DiodeLinkModel" "DiodeLinkModel" "goes" "[I" ∈ lw_tbl := zin_5 _ (List.mem_of_getElem? (l := tables_1_5) (i := 217) rfl)
theorem zw72 : Cond.laysFinal "DiodeLinkModel" "DiodeLinkModel" "slots" "[I" ∈ lw_tbl := zin_5 _ (List.mem_of_getElem? (l := tables_1_5) (i := 219) rfl)
theorem zw73 : Cond.laysFinal "DiodeLinkModel" "DiodeLinkModel" "filled" "[Z" ∈ lw_tbl := zin_5 _ (List.mem_of_getElem? (l := tables_1_5) (i := 221) rfl)
theorem zw74 : Cond.laysFinal "DiodeLinkModel" "DiodeLinkModel" "found" "[I" ∈ lw_tbl := zin_5 _ (List.mem_of_getElem? (l := tables_1_5) (i := 223) rfl)
theorem zw75 : Cond.lays "DiodeLinkModel" "DiodeLinkModel" "greatest" "I" ∈ lw_tbl := zin_5 _ (List.mem_of_getElem? (l := tables_1_5) (i := 225) rfl)
theorem zw76 : Cond.laysFinal "DiodeLinkModel" "DiodeLinkModel" "known" "[I" ∈ lw_tbl := zin_5 _ (List.mem_of_getElem? (l := tables_1_5) (i := 227) rfl)
theorem zw77 : Cond.laysFinal "DiodeLinkModel" "DiodeLinkModel" "good" "[Z" ∈ lw_tbl := zin_5 _ (List.mem_of_getElem? (l := tables_1_5) (i := 229) rfl)
theorem zw78 : Cond.laysFinal "DiodeLinkModel" "DiodeLinkModel" "count" "[I" ∈ lw_tbl := zin_5 _ (List.mem_of_getElem? (l := tables_1_5) (i := 231) rfl)
theorem zw79 : Cond.laysFinal "DiodeLinkModel" "DiodeLinkModel" "verdict" "[I" ∈ lw_tbl := zin_5 _ (List.mem_of_getElem? (l := tables_1_5) (i := 233) rfl)
theorem zw80 : Cond.laysFinal "DiodeLinkModel" "DiodeLinkModel" "size" "[I" ∈ lw_tbl := zin_5 _ (List.mem_of_getElem? (l := tables_1_5) (i := 235) rfl)
theorem zw81 : Cond.laysFinal "DiodeLinkModel" "DiodeLinkModel" "solved" "[Z" ∈ lw_tbl := zin_5 _ (List.mem_of_getElem? (l := tables_1_5) (i := 237) rfl)
theorem zw82 : Cond.laysFinal "DiodeLinkModel" "DiodeLinkModel" "bytes" "[I" ∈ lw_tbl := zin_5 _ (List.mem_of_getElem? (l := tables_1_5) (i := 239) rfl)
theorem zw83 : Cond.laysFinal "DiodeLinkModel" "DiodeLinkModel" "held" "[Z" ∈ lw_tbl := zin_6 _ (List.mem_of_getElem? (l := tables_1_6) (i := 1) rfl)
theorem zw84 : Cond.lays "DiodeLinkModel" "DiodeLinkModel" "rows" "I" ∈ lw_tbl := zin_6 _ (List.mem_of_getElem? (l := tables_1_6) (i := 3) rfl)
theorem zw85 : Cond.laysFinal "DiodeLinkModel" "DiodeLinkModel" "rowItem" "[I" ∈ lw_tbl := zin_6 _ (List.mem_of_getElem? (l := tables_1_6) (i := 5) rfl)
theorem zw86 : Cond.laysFinal "DiodeLinkModel" "DiodeLinkModel" "rowBlock" "[I" ∈ lw_tbl := zin_6 _ (List.mem_of_getElem? (l := tables_1_6) (i := 7) rfl)
theorem zw87 : Cond.laysFinal "DiodeLinkModel" "DiodeLinkModel" "rowMask" "[I" ∈ lw_tbl := zin_6 _ (List.mem_of_getElem? (l := tables_1_6) (i := 9) rfl)
theorem zw88 : Cond.laysFinal "DiodeLinkModel" "DiodeLinkModel" "rowBytes" "[J" ∈ lw_tbl := zin_6 _ (List.mem_of_getElem? (l := tables_1_6) (i := 11) rfl)
theorem zw89 : Cond.lays "DiodeLinkModel" "DiodeLinkModel" "dropped" "I" ∈ lw_tbl := zin_6 _ (List.mem_of_getElem? (l := tables_1_6) (i := 13) rfl)
theorem zw90 : Cond.lays "DiodeLinkModel" "DiodeLinkModel" "mostSize" "I" ∈ lw_tbl := zin_6 _ (List.mem_of_getElem? (l := tables_1_6) (i := 15) rfl)
theorem zw91 : Cond.lays "DiodeLinkModel" "DiodeLinkModel" "mostFiles" "I" ∈ lw_tbl := zin_6 _ (List.mem_of_getElem? (l := tables_1_6) (i := 17) rfl)
theorem zw92 : Cond.laysFinal "DiodeLinkModel" "DiodeLinkModel" "badSign" "[Z" ∈ lw_tbl := zin_6 _ (List.mem_of_getElem? (l := tables_1_6) (i := 19) rfl)
theorem zw93 : Cond.laysFinal "DiodeLinkModel" "DiodeLinkModel" "badFirst" "[Z" ∈ lw_tbl := zin_6 _ (List.mem_of_getElem? (l := tables_1_6) (i := 21) rfl)
theorem zw94 : Cond.laysFinal "DiodeLinkModel" "DiodeLinkModel" "released" "[I" ∈ lw_tbl := zin_6 _ (List.mem_of_getElem? (l := tables_1_6) (i := 23) rfl)
theorem zw95 : Cond.laysFinal "DiodeLinkModel" "DiodeLinkModel" "releases" "[I" ∈ lw_tbl := zin_6 _ (List.mem_of_getElem? (l := tables_1_6) (i := 25) rfl)
theorem zw96 : Cond.laysFinal "DiodeLinkModel" "DiodeLinkModel" "earlier" "[I" ∈ lw_tbl := zin_6 _ (List.mem_of_getElem? (l := tables_1_6) (i := 27) rfl)
theorem zw97 : Cond.laysFinal "DiodeLinkModel" "DiodeLinkModel" "releasedFiles" "[I" ∈ lw_tbl := zin_6 _ (List.mem_of_getElem? (l := tables_1_6) (i := 29) rfl)
theorem zw98 : Cond.laysFinal "DiodeLinkModel" "DiodeLinkModel" "releasedNames" "[I" ∈ lw_tbl := zin_6 _ (List.mem_of_getElem? (l := tables_1_6) (i := 31) rfl)
theorem zw99 : Cond.laysFinal "DiodeLinkModel" "DiodeLinkModel" "releasedSize" "[I" ∈ lw_tbl := zin_6 _ (List.mem_of_getElem? (l := tables_1_6) (i := 33) rfl)
theorem zw100 : Cond.laysFinal "DiodeLinkModel" "DiodeLinkModel" "releasedData" "[I" ∈ lw_tbl := zin_6 _ (List.mem_of_getElem? (l := tables_1_6) (i := 35) rfl)
theorem zw101 : Cond.lays "DiodeLinkModel" "DiodeLinkModel" "entries" "I" ∈ lw_tbl := zin_6 _ (List.mem_of_getElem? (l := tables_1_6) (i := 37) rfl)
theorem zw102 : Cond.lays "DiodeLinkModel" "DiodeLinkModel" "before" "J" ∈ lw_tbl := zin_6 _ (List.mem_of_getElem? (l := tables_1_6) (i := 39) rfl)
theorem zw103 : Cond.laysFinal "DiodeLinkModel" "DiodeLinkModel" "entry" "[I" ∈ lw_tbl := zin_6 _ (List.mem_of_getElem? (l := tables_1_6) (i := 41) rfl)
theorem zw104 : Cond.laysFinal "DiodeLinkModel" "DiodeLinkModel" "links" "[J" ∈ lw_tbl := zin_6 _ (List.mem_of_getElem? (l := tables_1_6) (i := 43) rfl)
theorem zw105 : Cond.methodLink "DiodeLink" 1 ⟨"java/lang/Object", "<init>", "()V"⟩ ∈ lw_tbl := zin_1 _ (List.mem_of_getElem? (l := tables_1_1) (i := 26) rfl)
theorem zw106 : Cond.instanceMethod objectInit ∈ lw_tbl := zin_1 _ (List.mem_of_getElem? (l := tables_1_1) (i := 27) rfl)
theorem zw107 : Cond.code objectInit ⟨#[0xb1]⟩ 1 none ∈ lw_tbl := zin_1 _ (List.mem_of_getElem? (l := tables_1_1) (i := 28) rfl)
theorem zw108 : Cond.classLink "DiodeLink" 7 "DiodeLink$Bytes" ∈ lw_tbl := zin_1 _ (List.mem_of_getElem? (l := tables_1_1) (i := 29) rfl)
theorem zw109 : Cond.instantiable "DiodeLink$Bytes" 2 ∈ lw_tbl := zin_1 _ (List.mem_of_getElem? (l := tables_1_1) (i := 30) rfl)
theorem zw110 : Cond.initialized "DiodeLink$Bytes" ∈ lw_tbl := zin_1 _ (List.mem_of_getElem? (l := tables_1_1) (i := 2) rfl)
theorem zw111 : Cond.methodLink "DiodeLink" 11 ⟨"DiodeLink$Bytes", "<init>", "(I)V"⟩ ∈ lw_tbl := zin_1 _ (List.mem_of_getElem? (l := tables_1_1) (i := 31) rfl)
theorem zw112 : Cond.fieldLink "DiodeLink" 14 "DiodeLink" "nameAtHand" "LDiodeLink$Bytes;" ∈ lw_tbl := zin_2 _ (List.mem_of_getElem? (l := tables_1_2) (i := 5) rfl)
theorem zw113 : Cond.fieldLink "DiodeLink" 18 "DiodeLink" "dataAtHand" "LDiodeLink$Bytes;" ∈ lw_tbl := zin_2 _ (List.mem_of_getElem? (l := tables_1_2) (i := 6) rfl)
theorem zw114 : Cond.classLink "DiodeLink" 21 "DiodeLink$Sender" ∈ lw_tbl := zin_1 _ (List.mem_of_getElem? (l := tables_1_1) (i := 43) rfl)
theorem zw115 : Cond.instantiable "DiodeLink$Sender" 4 ∈ lw_tbl := zin_1 _ (List.mem_of_getElem? (l := tables_1_1) (i := 44) rfl)
theorem zw116 : Cond.initialized "DiodeLink$Sender" ∈ lw_tbl := zin_1 _ (List.mem_of_getElem? (l := tables_1_1) (i := 3) rfl)
theorem zw117 : Cond.methodLink "DiodeLink" 23 ⟨"DiodeLink$Sender", "<init>", "()V"⟩ ∈ lw_tbl := zin_1 _ (List.mem_of_getElem? (l := tables_1_1) (i := 45) rfl)
theorem zw118 : Cond.fieldLink "DiodeLink" 24 "DiodeLink" "sender" "LDiodeLink$Sender;" ∈ lw_tbl := zin_2 _ (List.mem_of_getElem? (l := tables_1_2) (i := 7) rfl)
theorem zw119 : Cond.fieldLink "DiodeLink" 28 "DiodeLink" "slots" "[LDiodeLink$Bytes;" ∈ lw_tbl := zin_2 _ (List.mem_of_getElem? (l := tables_1_2) (i := 8) rfl)
theorem zw120 : Cond.classLink "DiodeLink" 32 "DiodeLink$Rules" ∈ lw_tbl := zin_1 _ (List.mem_of_getElem? (l := tables_1_1) (i := 107) rfl)
theorem zw121 : Cond.instantiable "DiodeLink$Rules" 4 ∈ lw_tbl := zin_1 _ (List.mem_of_getElem? (l := tables_1_1) (i := 108) rfl)
theorem zw122 : Cond.initialized "DiodeLink$Rules" ∈ lw_tbl := zin_1 _ (List.mem_of_getElem? (l := tables_1_1) (i := 6) rfl)
theorem zw123 : Cond.fieldLink "DiodeLink" 35 "DiodeLink" "rules" "LDiodeLink$Rules;" ∈ lw_tbl := zin_2 _ (List.mem_of_getElem? (l := tables_1_2) (i := 9) rfl)
theorem zw124 : Cond.classLink "DiodeLink" 39 "DiodeLink$Journal" ∈ lw_tbl := zin_1 _ (List.mem_of_getElem? (l := tables_1_1) (i := 127) rfl)
theorem zw125 : Cond.instantiable "DiodeLink$Journal" 6 ∈ lw_tbl := zin_1 _ (List.mem_of_getElem? (l := tables_1_1) (i := 128) rfl)
theorem zw126 : Cond.initialized "DiodeLink$Journal" ∈ lw_tbl := zin_1 _ (List.mem_of_getElem? (l := tables_1_1) (i := 7) rfl)
theorem zw127 : Cond.fieldLink "DiodeLink" 42 "DiodeLink" "journal" "LDiodeLink$Journal;" ∈ lw_tbl := zin_2 _ (List.mem_of_getElem? (l := tables_1_2) (i := 10) rfl)
theorem zw128 : Cond.classLink "DiodeLink" 46 "DiodeLink$Receiver" ∈ lw_tbl := zin_1 _ (List.mem_of_getElem? (l := tables_1_1) (i := 155) rfl)
theorem zw129 : Cond.instantiable "DiodeLink$Receiver" 7 ∈ lw_tbl := zin_1 _ (List.mem_of_getElem? (l := tables_1_1) (i := 156) rfl)
theorem zw130 : Cond.initialized "DiodeLink$Receiver" ∈ lw_tbl := zin_1 _ (List.mem_of_getElem? (l := tables_1_1) (i := 8) rfl)
theorem zw131 : Cond.methodLink "DiodeLink" 48 ⟨"DiodeLink$Receiver", "<init>", "(LDiodeLink$Rules;LDiodeLink$Journal;)V"⟩ ∈ lw_tbl := zin_1 _ (List.mem_of_getElem? (l := tables_1_1) (i := 157) rfl)
theorem zw132 : Cond.fieldLink "DiodeLink" 51 "DiodeLink" "receiver" "LDiodeLink$Receiver;" ∈ lw_tbl := zin_2 _ (List.mem_of_getElem? (l := tables_1_2) (i := 11) rfl)
theorem zw133 : Cond.fieldLink "DiodeLink" 55 "DiodeLink" "packetsSent" "I" ∈ lw_tbl := zin_2 _ (List.mem_of_getElem? (l := tables_1_2) (i := 12) rfl)
theorem zw134 : Cond.methodLink "DiodeLink" 127 ⟨"DiodeLink", "checkSlot", "(I)V"⟩ ∈ lw_tbl := zin_3 _ (List.mem_of_getElem? (l := tables_1_3) (i := 146) rfl)
theorem zw135 : Cond.classLink "DiodeLink" 59 "java/lang/IllegalArgumentException" ∈ lw_tbl := zin_2 _ (List.mem_of_getElem? (l := tables_1_2) (i := 99) rfl)
theorem zw136 : Cond.initialized "java/lang/IllegalArgumentException" ∈ lw_tbl := zin_1 _ (List.mem_of_getElem? (l := tables_1_1) (i := 15) rfl)
theorem zw137 : Cond.methodLink "DiodeLink" 138 ⟨"DiodeLink$Bytes", "turn", "(II)V"⟩ ∈ lw_tbl := zin_3 _ (List.mem_of_getElem? (l := tables_1_3) (i := 161) rfl)
theorem zw138 : Cond.methodLink "DiodeLink" 82 ⟨"DiodeLink", "isFolder", "(I)Z"⟩ ∈ lw_tbl := zin_2 _ (List.mem_of_getElem? (l := tables_1_2) (i := 199) rfl)
theorem zw139 : Cond.methodLink "DiodeLink" 66 ⟨"DiodeLink$Bytes", "size", "()I"⟩ ∈ lw_tbl := zin_2 _ (List.mem_of_getElem? (l := tables_1_2) (i := 167) rfl)
theorem zw140 : Cond.constant "DiodeLink" 245 (Int32.ofInt (65535)) ∈ lw_tbl := zin_5 _ (List.mem_of_getElem? (l := tables_1_5) (i := 4) rfl)
theorem zw141 : Cond.methodLink "DiodeLink" 113 ⟨"DiodeLink", "checkFolder", "(I)V"⟩ ∈ lw_tbl := zin_3 _ (List.mem_of_getElem? (l := tables_1_3) (i := 31) rfl)
theorem zw142 : Cond.methodLink "DiodeLink" 116 ⟨"DiodeLink$Sender", "makeVersion", "(I)I"⟩ ∈ lw_tbl := zin_3 _ (List.mem_of_getElem? (l := tables_1_3) (i := 34) rfl)
theorem zw143 : Cond.classLink "DiodeLink" 73 "java/lang/IllegalStateException" ∈ lw_tbl := zin_2 _ (List.mem_of_getElem? (l := tables_1_2) (i := 175) rfl)
theorem zw144 : Cond.initialized "java/lang/IllegalStateException" ∈ lw_tbl := zin_1 _ (List.mem_of_getElem? (l := tables_1_1) (i := 16) rfl)
theorem zw145 : Cond.methodLink "DiodeLink" 237 ⟨"DiodeLink$Receiver", "dropped", "()I"⟩ ∈ lw_tbl := zin_5 _ (List.mem_of_getElem? (l := tables_1_5) (i := 117) rfl)
theorem zw146 : Cond.methodLink "DiodeLink" 240 ⟨"DiodeLink$Receiver", "allRows", "()I"⟩ ∈ lw_tbl := zin_5 _ (List.mem_of_getElem? (l := tables_1_5) (i := 121) rfl)
theorem zw147 : Cond.methodLink "DiodeLink" 70 ⟨"DiodeLink$Bytes", "limit", "()I"⟩ ∈ lw_tbl := zin_2 _ (List.mem_of_getElem? (l := tables_1_2) (i := 171) rfl)
theorem zw148 : Cond.methodLink "DiodeLink" 78 ⟨"DiodeLink$Bytes", "append", "(JI)V"⟩ ∈ lw_tbl := zin_2 _ (List.mem_of_getElem? (l := tables_1_2) (i := 191) rfl)
theorem zw149 : Cond.methodLink "DiodeLink" 183 ⟨"DiodeLink$Receiver", "shown", "(I)LDiodeLink$Version;"⟩ ∈ lw_tbl := zin_5 _ (List.mem_of_getElem? (l := tables_1_5) (i := 45) rfl)
theorem zw150 : Cond.methodLink "DiodeLink" 191 ⟨"DiodeLink$Version", "files", "()I"⟩ ∈ lw_tbl := zin_5 _ (List.mem_of_getElem? (l := tables_1_5) (i := 58) rfl)
theorem zw151 : Cond.classLink "DiodeLink" 194 "java/lang/IndexOutOfBoundsException" ∈ lw_tbl := zin_5 _ (List.mem_of_getElem? (l := tables_1_5) (i := 59) rfl)
theorem zw152 : Cond.initialized "java/lang/IndexOutOfBoundsException" ∈ lw_tbl := zin_1 _ (List.mem_of_getElem? (l := tables_1_1) (i := 20) rfl)
theorem zw153 : Cond.methodLink "DiodeLink" 199 ⟨"DiodeLink$Version", "fileSize", "(I)I"⟩ ∈ lw_tbl := zin_5 _ (List.mem_of_getElem? (l := tables_1_5) (i := 75) rfl)
theorem zw154 : Cond.methodLink "DiodeLink" 202 ⟨"DiodeLink$Version", "nameSize", "(I)I"⟩ ∈ lw_tbl := zin_5 _ (List.mem_of_getElem? (l := tables_1_5) (i := 76) rfl)
theorem zw155 : Cond.methodLink "DiodeLink" 205 ⟨"DiodeLink$Version", "item", "(I)LDiodeLink$Bytes;"⟩ ∈ lw_tbl := zin_5 _ (List.mem_of_getElem? (l := tables_1_5) (i := 77) rfl)
theorem zw156 : Cond.methodLink "DiodeLink" 209 ⟨"DiodeLink$Bytes", "at", "(I)I"⟩ ∈ lw_tbl := zin_5 _ (List.mem_of_getElem? (l := tables_1_5) (i := 78) rfl)
theorem zw157 : Cond.methodLink "DiodeLink" 212 ⟨"DiodeLink$Version", "namePlace", "(I)I"⟩ ∈ lw_tbl := zin_5 _ (List.mem_of_getElem? (l := tables_1_5) (i := 79) rfl)
theorem zw158 : Cond.methodLink "DiodeLink" 167 ⟨"DiodeLink", "checkVersion", "(II)V"⟩ ∈ lw_tbl := zin_5 _ (List.mem_of_getElem? (l := tables_1_5) (i := 1) rfl)
theorem zw159 : Cond.methodLink "DiodeLink" 170 ⟨"DiodeLink$Receiver", "stateOf", "(II)I"⟩ ∈ lw_tbl := zin_5 _ (List.mem_of_getElem? (l := tables_1_5) (i := 6) rfl)
theorem zw160 : Cond.methodLink "DiodeLink" 142 ⟨"DiodeLink$Receiver", "listen", "(LDiodeLink$Bytes;)I"⟩ ∈ lw_tbl := zin_3 _ (List.mem_of_getElem? (l := tables_1_3) (i := 176) rfl)
theorem zw161 : Cond.methodLink "DiodeLink" 234 ⟨"DiodeLink$Journal", "linksHold", "()Z"⟩ ∈ lw_tbl := zin_2 _ (List.mem_of_getElem? (l := tables_1_2) (i := 46) rfl)
theorem zw162 : Cond.methodLink "DiodeLink" 217 ⟨"DiodeLink$Journal", "entries", "()I"⟩ ∈ lw_tbl := zin_5 _ (List.mem_of_getElem? (l := tables_1_5) (i := 88) rfl)
theorem zw163 : Cond.methodLink "DiodeLink" 220 ⟨"DiodeLink$Journal", "keeps", "(I)Z"⟩ ∈ lw_tbl := zin_5 _ (List.mem_of_getElem? (l := tables_1_5) (i := 92) rfl)
theorem zw164 : Cond.methodLink "DiodeLink" 225 ⟨"DiodeLink$Journal", "link", "(I)J"⟩ ∈ lw_tbl := zin_5 _ (List.mem_of_getElem? (l := tables_1_5) (i := 97) rfl)
theorem zw165 : Cond.methodLink "DiodeLink" 229 ⟨"DiodeLink$Journal", "number", "(II)I"⟩ ∈ lw_tbl := zin_5 _ (List.mem_of_getElem? (l := tables_1_5) (i := 98) rfl)
theorem zw166 : Cond.methodLink "DiodeLink" 132 ⟨"DiodeLink$Bytes", "number", "(II)J"⟩ ∈ lw_tbl := zin_3 _ (List.mem_of_getElem? (l := tables_1_3) (i := 152) rfl)
theorem zw167 : Cond.methodLink "DiodeLink" 176 ⟨"DiodeLink$Receiver", "rowsOf", "(IIII)I"⟩ ∈ lw_tbl := zin_5 _ (List.mem_of_getElem? (l := tables_1_5) (i := 18) rfl)
theorem zw168 : Cond.methodLink "DiodeLink" 180 ⟨"DiodeLink$Receiver", "letOut", "(I)I"⟩ ∈ lw_tbl := zin_5 _ (List.mem_of_getElem? (l := tables_1_5) (i := 29) rfl)
theorem zw169 : Cond.methodLink "DiodeLink" 187 ⟨"DiodeLink$Version", "number", "()I"⟩ ∈ lw_tbl := zin_5 _ (List.mem_of_getElem? (l := tables_1_5) (i := 49) rfl)
theorem zw170 : Cond.methodLink "DiodeLink" 90 ⟨"DiodeLink$Sender", "folder", "(I)LDiodeLink$Folder;"⟩ ∈ lw_tbl := zin_2 _ (List.mem_of_getElem? (l := tables_1_2) (i := 206) rfl)
theorem zw171 : Cond.methodLink "DiodeLink" 107 ⟨"DiodeLink$Folder", "takeOut", "(LDiodeLink$Bytes;)Z"⟩ ∈ lw_tbl := zin_3 _ (List.mem_of_getElem? (l := tables_1_3) (i := 19) rfl)
theorem zw172 : Cond.methodLink "DiodeLink" 100 ⟨"DiodeLink$Bytes", "clear", "()V"⟩ ∈ lw_tbl := zin_3 _ (List.mem_of_getElem? (l := tables_1_3) (i := 9) rfl)
theorem zw173 : Cond.methodLink "DiodeLink" 155 ⟨"DiodeLink$Receiver", "loseRows", "()V"⟩ ∈ lw_tbl := zin_2 _ (List.mem_of_getElem? (l := tables_1_2) (i := 34) rfl)
theorem zw174 : Cond.methodLink "DiodeLink" 146 ⟨"DiodeLink$Sender", "beginLife", "()Z"⟩ ∈ lw_tbl := zin_4 _ (List.mem_of_getElem? (l := tables_1_4) (i := 210) rfl)
theorem zw175 : Cond.methodLink "DiodeLink" 152 ⟨"DiodeLink$Sender", "life", "()I"⟩ ∈ lw_tbl := zin_4 _ (List.mem_of_getElem? (l := tables_1_4) (i := 215) rfl)
theorem zw176 : Cond.methodLink "DiodeLink" 158 ⟨"DiodeLink$Rules", "greatestValue", "(I)I"⟩ ∈ lw_tbl := zin_4 _ (List.mem_of_getElem? (l := tables_1_4) (i := 226) rfl)
theorem zw177 : Cond.methodLink "DiodeLink" 163 ⟨"DiodeLink$Rules", "set", "(IIZ)V"⟩ ∈ lw_tbl := zin_4 _ (List.mem_of_getElem? (l := tables_1_4) (i := 230) rfl)
theorem zw178 : Cond.methodLink "DiodeLink" 122 ⟨"DiodeLink$Sender", "fillNext", "(LDiodeLink$Bytes;)Z"⟩ ∈ lw_tbl := zin_3 _ (List.mem_of_getElem? (l := tables_1_3) (i := 80) rfl)
theorem zw179 : Cond.methodLink "DiodeLink" 231 ⟨"DiodeLink$Journal", "turn", "(III)V"⟩ ∈ lw_tbl := zin_5 _ (List.mem_of_getElem? (l := tables_1_5) (i := 106) rfl)
theorem zw180 : Cond.methodLink "DiodeLink" 86 ⟨"DiodeLink$Bytes", "isName", "(II)Z"⟩ ∈ lw_tbl := zin_2 _ (List.mem_of_getElem? (l := tables_1_2) (i := 202) rfl)
theorem zw181 : Cond.methodLink "DiodeLink" 94 ⟨"DiodeLink$Folder", "put", "(LDiodeLink$Bytes;LDiodeLink$Bytes;)I"⟩ ∈ lw_tbl := zin_2 _ (List.mem_of_getElem? (l := tables_1_2) (i := 210) rfl)
theorem zw182 : Cond.methodLink "DiodeLink$Bytes" 3 ⟨"java/lang/Object", "<init>", "()V"⟩ ∈ lw_tbl := zin_1 _ (List.mem_of_getElem? (l := tables_1_1) (i := 34) rfl)
theorem zw183 : Cond.fieldLink "DiodeLink$Bytes" 9 "DiodeLink$Bytes" "size" "I" ∈ lw_tbl := zin_1 _ (List.mem_of_getElem? (l := tables_1_1) (i := 36) rfl)
theorem zw184 : Cond.arrayClass .int ∈ lw_tbl := zin_1 _ (List.mem_of_getElem? (l := tables_1_1) (i := 42) rfl)
theorem zw185 : Cond.fieldLink "DiodeLink$Bytes" 15 "DiodeLink$Bytes" "row" "[I" ∈ lw_tbl := zin_1 _ (List.mem_of_getElem? (l := tables_1_1) (i := 35) rfl)
theorem zw186 : Cond.methodLink "DiodeLink$Bytes" 28 ⟨"DiodeLink$Bytes", "at", "(I)I"⟩ ∈ lw_tbl := zin_2 _ (List.mem_of_getElem? (l := tables_1_2) (i := 85) rfl)
theorem zw187 : Cond.methodLink "DiodeLink$Bytes" 36 ⟨"DiodeLink$Bytes", "append", "(JI)V"⟩ ∈ lw_tbl := zin_3 _ (List.mem_of_getElem? (l := tables_1_3) (i := 66) rfl)
theorem zw188 : Cond.methodLink "DiodeLink$Bytes" 54 ⟨"DiodeLink$Bytes", "compareParts", "(IILDiodeLink$Bytes;II)I"⟩ ∈ lw_tbl := zin_2 _ (List.mem_of_getElem? (l := tables_1_2) (i := 222) rfl)
theorem zw189 : Cond.methodLink "DiodeLink$Bytes" 19 ⟨"java/lang/Math", "min", "(II)I"⟩ ∈ lw_tbl := zin_2 _ (List.mem_of_getElem? (l := tables_1_2) (i := 226) rfl)
theorem zw190 : Cond.static ⟨"java/lang/Math", "min", "(II)I"⟩ ∈ lw_tbl := zin_2 _ (List.mem_of_getElem? (l := tables_1_2) (i := 227) rfl)
theorem zw191 : Cond.initialized "java/lang/Math" ∈ lw_tbl := zin_1 _ (List.mem_of_getElem? (l := tables_1_1) (i := 17) rfl)
theorem zw192 : Cond.code Lib.Math.min.name Lib.Math.min.code 2 (some .int) ∈ lw_tbl := zin_2 _ (List.mem_of_getElem? (l := tables_1_2) (i := 228) rfl)
theorem zw193 : Cond.methodLink "DiodeLink$Bytes" 40 ⟨"DiodeLink$Bytes", "resize", "(I)V"⟩ ∈ lw_tbl := zin_3 _ (List.mem_of_getElem? (l := tables_1_3) (i := 1) rfl)
theorem zw194 : Cond.methodLink "DiodeLink$Bytes" 44 ⟨"java/lang/System", "arraycopy", "(Ljava/lang/Object;ILjava/lang/Object;II)V"⟩ ∈ lw_tbl := zin_3 _ (List.mem_of_getElem? (l := tables_1_3) (i := 6) rfl)
theorem zw195 : Cond.native ⟨"java/lang/System", "arraycopy", "(Ljava/lang/Object;ILjava/lang/Object;II)V"⟩ ∈ lw_tbl := zin_3 _ (List.mem_of_getElem? (l := tables_1_3) (i := 8) rfl)
theorem zw196 : Cond.static ⟨"java/lang/System", "arraycopy", "(Ljava/lang/Object;ILjava/lang/Object;II)V"⟩ ∈ lw_tbl := zin_3 _ (List.mem_of_getElem? (l := tables_1_3) (i := 7) rfl)
theorem zw197 : Cond.initialized "java/lang/System" ∈ lw_tbl := zin_1 _ (List.mem_of_getElem? (l := tables_1_1) (i := 18) rfl)
theorem zw198 : Cond.constantLong "DiodeLink$Bytes" 50 (Int64.ofInt (-3750763034362895579)) ∈ lw_tbl := zin_2 _ (List.mem_of_getElem? (l := tables_1_2) (i := 84) rfl)
theorem zw199 : Cond.constantLong "DiodeLink$Bytes" 52 (Int64.ofInt (1099511628211)) ∈ lw_tbl := zin_2 _ (List.mem_of_getElem? (l := tables_1_2) (i := 89) rfl)
theorem zw200 : Cond.methodLink "DiodeLink$Bytes" 32 ⟨"DiodeLink$Bytes", "put", "(II)V"⟩ ∈ lw_tbl := zin_3 _ (List.mem_of_getElem? (l := tables_1_3) (i := 165) rfl)
theorem zw201 : Cond.methodLink "DiodeLink$Bytes" 25 ⟨"java/lang/Math", "max", "(II)I"⟩ ∈ lw_tbl := zin_3 _ (List.mem_of_getElem? (l := tables_1_3) (i := 5) rfl)
theorem zw202 : Cond.static ⟨"java/lang/Math", "max", "(II)I"⟩ ∈ lw_tbl := zin_2 _ (List.mem_of_getElem? (l := tables_1_2) (i := 55) rfl)
theorem zw203 : Cond.code Lib.Math.max.name Lib.Math.max.code 2 (some .int) ∈ lw_tbl := zin_2 _ (List.mem_of_getElem? (l := tables_1_2) (i := 56) rfl)
theorem zw204 : Cond.methodLink "DiodeLink$Cut" 9 ⟨"java/lang/Math", "max", "(II)I"⟩ ∈ lw_tbl := zin_3 _ (List.mem_of_getElem? (l := tables_1_3) (i := 105) rfl)
theorem zw205 : Cond.constant "DiodeLink$Cut" 23 (Int32.ofInt (40503)) ∈ lw_tbl := zin_3 _ (List.mem_of_getElem? (l := tables_1_3) (i := 133) rfl)
theorem zw206 : Cond.methodLink "DiodeLink$Cut" 18 ⟨"DiodeLink$Cut", "pieces", "(II)I"⟩ ∈ lw_tbl := zin_3 _ (List.mem_of_getElem? (l := tables_1_3) (i := 109) rfl)
theorem zw207 : Cond.methodLink "DiodeLink$Cut" 15 ⟨"java/lang/Math", "min", "(II)I"⟩ ∈ lw_tbl := zin_3 _ (List.mem_of_getElem? (l := tables_1_3) (i := 112) rfl)
theorem zw208 : Cond.methodLink "DiodeLink$Edition" 3 ⟨"java/lang/Object", "<init>", "()V"⟩ ∈ lw_tbl := zin_1 _ (List.mem_of_getElem? (l := tables_1_1) (i := 65) rfl)
theorem zw209 : Cond.classLink "DiodeLink$Edition" 9 "DiodeLink$Bytes" ∈ lw_tbl := zin_1 _ (List.mem_of_getElem? (l := tables_1_1) (i := 66) rfl)
theorem zw210 : Cond.fieldLink "DiodeLink$Edition" 11 "DiodeLink$Edition" "items" "[LDiodeLink$Bytes;" ∈ lw_tbl := zin_1 _ (List.mem_of_getElem? (l := tables_1_1) (i := 68) rfl)
theorem zw211 : Cond.fieldLink "DiodeLink$Edition" 17 "DiodeLink$Edition" "number" "I" ∈ lw_tbl := zin_1 _ (List.mem_of_getElem? (l := tables_1_1) (i := 69) rfl)
theorem zw212 : Cond.fieldLink "DiodeLink$Edition" 21 "DiodeLink$Edition" "itemCount" "I" ∈ lw_tbl := zin_1 _ (List.mem_of_getElem? (l := tables_1_1) (i := 70) rfl)
theorem zw213 : Cond.methodLink "DiodeLink$Edition" 24 ⟨"DiodeLink$Bytes", "<init>", "(I)V"⟩ ∈ lw_tbl := zin_1 _ (List.mem_of_getElem? (l := tables_1_1) (i := 67) rfl)
theorem zw214 : Cond.methodLink "DiodeLink$Edition" 36 ⟨"DiodeLink$Bytes", "append", "(JI)V"⟩ ∈ lw_tbl := zin_3 _ (List.mem_of_getElem? (l := tables_1_3) (i := 51) rfl)
theorem zw215 : Cond.methodLink "DiodeLink$Edition" 51 ⟨"DiodeLink$Bytes", "size", "()I"⟩ ∈ lw_tbl := zin_3 _ (List.mem_of_getElem? (l := tables_1_3) (i := 61) rfl)
theorem zw216 : Cond.methodLink "DiodeLink$Edition" 61 ⟨"DiodeLink$Cut", "blocks", "(I)I"⟩ ∈ lw_tbl := zin_3 _ (List.mem_of_getElem? (l := tables_1_3) (i := 102) rfl)
theorem zw217 : Cond.methodLink "DiodeLink$Edition" 67 ⟨"DiodeLink$Cut", "packets", "(II)I"⟩ ∈ lw_tbl := zin_3 _ (List.mem_of_getElem? (l := tables_1_3) (i := 106) rfl)
theorem zw218 : Cond.methodLink "DiodeLink$Edition" 33 ⟨"DiodeLink$Bytes", "clear", "()V"⟩ ∈ lw_tbl := zin_3 _ (List.mem_of_getElem? (l := tables_1_3) (i := 50) rfl)
theorem zw219 : Cond.methodLink "DiodeLink$Edition" 71 ⟨"DiodeLink$Edition", "appendPlace", "(LDiodeLink$Bytes;III)V"⟩ ∈ lw_tbl := zin_3 _ (List.mem_of_getElem? (l := tables_1_3) (i := 121) rfl)
theorem zw220 : Cond.methodLink "DiodeLink$Edition" 75 ⟨"DiodeLink$Edition", "sum", "(III)J"⟩ ∈ lw_tbl := zin_3 _ (List.mem_of_getElem? (l := tables_1_3) (i := 125) rfl)
theorem zw221 : Cond.methodLink "DiodeLink$Edition" 57 ⟨"DiodeLink$Bytes", "hash", "(I)J"⟩ ∈ lw_tbl := zin_3 _ (List.mem_of_getElem? (l := tables_1_3) (i := 67) rfl)
theorem zw222 : Cond.methodLink "DiodeLink$Edition" 27 ⟨"DiodeLink$Folder", "files", "()I"⟩ ∈ lw_tbl := zin_3 _ (List.mem_of_getElem? (l := tables_1_3) (i := 46) rfl)
theorem zw223 : Cond.methodLink "DiodeLink$Edition" 40 ⟨"DiodeLink$Folder", "content", "(I)LDiodeLink$Bytes;"⟩ ∈ lw_tbl := zin_3 _ (List.mem_of_getElem? (l := tables_1_3) (i := 52) rfl)
theorem zw224 : Cond.methodLink "DiodeLink$Edition" 44 ⟨"DiodeLink$Bytes", "copyFrom", "(LDiodeLink$Bytes;)V"⟩ ∈ lw_tbl := zin_3 _ (List.mem_of_getElem? (l := tables_1_3) (i := 56) rfl)
theorem zw225 : Cond.methodLink "DiodeLink$Edition" 48 ⟨"DiodeLink$Folder", "name", "(I)LDiodeLink$Bytes;"⟩ ∈ lw_tbl := zin_3 _ (List.mem_of_getElem? (l := tables_1_3) (i := 57) rfl)
theorem zw226 : Cond.methodLink "DiodeLink$Edition" 54 ⟨"DiodeLink$Bytes", "appendAll", "(LDiodeLink$Bytes;)V"⟩ ∈ lw_tbl := zin_3 _ (List.mem_of_getElem? (l := tables_1_3) (i := 62) rfl)
theorem zw227 : Cond.methodLink "DiodeLink$Edition" 79 ⟨"DiodeLink$Cut", "pieces", "(II)I"⟩ ∈ lw_tbl := zin_3 _ (List.mem_of_getElem? (l := tables_1_3) (i := 129) rfl)
theorem zw228 : Cond.methodLink "DiodeLink$Edition" 82 ⟨"DiodeLink$Cut", "mask", "(IIIII)I"⟩ ∈ lw_tbl := zin_3 _ (List.mem_of_getElem? (l := tables_1_3) (i := 130) rfl)
theorem zw229 : Cond.methodLink "DiodeLink$Edition" 86 ⟨"DiodeLink$Bytes", "number", "(II)J"⟩ ∈ lw_tbl := zin_3 _ (List.mem_of_getElem? (l := tables_1_3) (i := 134) rfl)
theorem zw230 : Cond.methodLink "DiodeLink$Folder" 3 ⟨"java/lang/Object", "<init>", "()V"⟩ ∈ lw_tbl := zin_1 _ (List.mem_of_getElem? (l := tables_1_1) (i := 55) rfl)
theorem zw231 : Cond.classLink "DiodeLink$Folder" 9 "DiodeLink$Bytes" ∈ lw_tbl := zin_1 _ (List.mem_of_getElem? (l := tables_1_1) (i := 56) rfl)
theorem zw232 : Cond.fieldLink "DiodeLink$Folder" 11 "DiodeLink$Folder" "names" "[LDiodeLink$Bytes;" ∈ lw_tbl := zin_1 _ (List.mem_of_getElem? (l := tables_1_1) (i := 78) rfl)
theorem zw233 : Cond.fieldLink "DiodeLink$Folder" 17 "DiodeLink$Folder" "contents" "[LDiodeLink$Bytes;" ∈ lw_tbl := zin_1 _ (List.mem_of_getElem? (l := tables_1_1) (i := 79) rfl)
theorem zw234 : Cond.classLink "DiodeLink$Folder" 20 "DiodeLink$Edition" ∈ lw_tbl := zin_1 _ (List.mem_of_getElem? (l := tables_1_1) (i := 58) rfl)
theorem zw235 : Cond.fieldLink "DiodeLink$Folder" 22 "DiodeLink$Folder" "editions" "[LDiodeLink$Edition;" ∈ lw_tbl := zin_1 _ (List.mem_of_getElem? (l := tables_1_1) (i := 80) rfl)
theorem zw236 : Cond.fieldLink "DiodeLink$Folder" 26 "DiodeLink$Folder" "files" "I" ∈ lw_tbl := zin_1 _ (List.mem_of_getElem? (l := tables_1_1) (i := 81) rfl)
theorem zw237 : Cond.fieldLink "DiodeLink$Folder" 30 "DiodeLink$Folder" "latest" "I" ∈ lw_tbl := zin_1 _ (List.mem_of_getElem? (l := tables_1_1) (i := 82) rfl)
theorem zw238 : Cond.methodLink "DiodeLink$Folder" 33 ⟨"DiodeLink$Bytes", "<init>", "(I)V"⟩ ∈ lw_tbl := zin_1 _ (List.mem_of_getElem? (l := tables_1_1) (i := 60) rfl)
theorem zw239 : Cond.instantiable "DiodeLink$Edition" 3 ∈ lw_tbl := zin_1 _ (List.mem_of_getElem? (l := tables_1_1) (i := 61) rfl)
theorem zw240 : Cond.initialized "DiodeLink$Edition" ∈ lw_tbl := zin_1 _ (List.mem_of_getElem? (l := tables_1_1) (i := 5) rfl)
theorem zw241 : Cond.methodLink "DiodeLink$Folder" 36 ⟨"DiodeLink$Edition", "<init>", "()V"⟩ ∈ lw_tbl := zin_1 _ (List.mem_of_getElem? (l := tables_1_1) (i := 62) rfl)
theorem zw242 : Cond.methodLink "DiodeLink$Folder" 57 ⟨"DiodeLink$Bytes", "compareAll", "(LDiodeLink$Bytes;)I"⟩ ∈ lw_tbl := zin_2 _ (List.mem_of_getElem? (l := tables_1_2) (i := 218) rfl)
theorem zw243 : Cond.methodLink "DiodeLink$Folder" 53 ⟨"DiodeLink$Edition", "record", "(ILDiodeLink$Folder;)V"⟩ ∈ lw_tbl := zin_3 _ (List.mem_of_getElem? (l := tables_1_3) (i := 42) rfl)
theorem zw244 : Cond.methodLink "DiodeLink$Folder" 37 ⟨"DiodeLink$Folder", "placeOf", "(LDiodeLink$Bytes;)I"⟩ ∈ lw_tbl := zin_2 _ (List.mem_of_getElem? (l := tables_1_2) (i := 214) rfl)
theorem zw245 : Cond.methodLink "DiodeLink$Folder" 41 ⟨"DiodeLink$Folder", "isAt", "(ILDiodeLink$Bytes;)Z"⟩ ∈ lw_tbl := zin_2 _ (List.mem_of_getElem? (l := tables_1_2) (i := 229) rfl)
theorem zw246 : Cond.methodLink "DiodeLink$Folder" 45 ⟨"DiodeLink$Folder", "moveFile", "(II)V"⟩ ∈ lw_tbl := zin_2 _ (List.mem_of_getElem? (l := tables_1_2) (i := 233) rfl)
theorem zw247 : Cond.methodLink "DiodeLink$Folder" 49 ⟨"DiodeLink$Bytes", "copyFrom", "(LDiodeLink$Bytes;)V"⟩ ∈ lw_tbl := zin_2 _ (List.mem_of_getElem? (l := tables_1_2) (i := 237) rfl)
theorem zw248 : Cond.methodLink "DiodeLink$Journal" 3 ⟨"java/lang/Object", "<init>", "()V"⟩ ∈ lw_tbl := zin_1 _ (List.mem_of_getElem? (l := tables_1_1) (i := 132) rfl)
theorem zw249 : Cond.fieldLink "DiodeLink$Journal" 11 "DiodeLink$Journal" "numbers" "[I" ∈ lw_tbl := zin_1 _ (List.mem_of_getElem? (l := tables_1_1) (i := 135) rfl)
theorem zw250 : Cond.arrayClass .long ∈ lw_tbl := zin_1 _ (List.mem_of_getElem? (l := tables_1_1) (i := 154) rfl)
theorem zw251 : Cond.fieldLink "DiodeLink$Journal" 15 "DiodeLink$Journal" "links" "[J" ∈ lw_tbl := zin_1 _ (List.mem_of_getElem? (l := tables_1_1) (i := 136) rfl)
theorem zw252 : Cond.classLink "DiodeLink$Journal" 19 "DiodeLink$Bytes" ∈ lw_tbl := zin_1 _ (List.mem_of_getElem? (l := tables_1_1) (i := 133) rfl)
theorem zw253 : Cond.methodLink "DiodeLink$Journal" 21 ⟨"DiodeLink$Bytes", "<init>", "(I)V"⟩ ∈ lw_tbl := zin_1 _ (List.mem_of_getElem? (l := tables_1_1) (i := 134) rfl)
theorem zw254 : Cond.fieldLink "DiodeLink$Journal" 24 "DiodeLink$Journal" "linked" "LDiodeLink$Bytes;" ∈ lw_tbl := zin_1 _ (List.mem_of_getElem? (l := tables_1_1) (i := 137) rfl)
theorem zw255 : Cond.fieldLink "DiodeLink$Journal" 28 "DiodeLink$Journal" "entries" "I" ∈ lw_tbl := zin_1 _ (List.mem_of_getElem? (l := tables_1_1) (i := 138) rfl)
theorem zw256 : Cond.fieldLink "DiodeLink$Journal" 32 "DiodeLink$Journal" "linkBeforeKept" "J" ∈ lw_tbl := zin_1 _ (List.mem_of_getElem? (l := tables_1_1) (i := 139) rfl)
theorem zw257 : Cond.fieldLink "DiodeLink$Journal" 36 "DiodeLink$Journal" "latestLink" "J" ∈ lw_tbl := zin_1 _ (List.mem_of_getElem? (l := tables_1_1) (i := 140) rfl)
theorem zw258 : Cond.methodLink "DiodeLink$Journal" 60 ⟨"DiodeLink$Bytes", "clear", "()V"⟩ ∈ lw_tbl := zin_2 _ (List.mem_of_getElem? (l := tables_1_2) (i := 65) rfl)
theorem zw259 : Cond.methodLink "DiodeLink$Journal" 63 ⟨"DiodeLink$Bytes", "append", "(JI)V"⟩ ∈ lw_tbl := zin_2 _ (List.mem_of_getElem? (l := tables_1_2) (i := 69) rfl)
theorem zw260 : Cond.methodLink "DiodeLink$Journal" 67 ⟨"DiodeLink$Journal", "number", "(II)I"⟩ ∈ lw_tbl := zin_2 _ (List.mem_of_getElem? (l := tables_1_2) (i := 73) rfl)
theorem zw261 : Cond.methodLink "DiodeLink$Journal" 70 ⟨"DiodeLink$Bytes", "hash", "(I)J"⟩ ∈ lw_tbl := zin_2 _ (List.mem_of_getElem? (l := tables_1_2) (i := 80) rfl)
theorem zw262 : Cond.methodLink "DiodeLink$Journal" 47 ⟨"DiodeLink$Journal", "link", "(I)J"⟩ ∈ lw_tbl := zin_2 _ (List.mem_of_getElem? (l := tables_1_2) (i := 57) rfl)
theorem zw263 : Cond.methodLink "DiodeLink$Journal" 43 ⟨"DiodeLink$Journal", "place", "(II)I"⟩ ∈ lw_tbl := zin_2 _ (List.mem_of_getElem? (l := tables_1_2) (i := 77) rfl)
theorem zw264 : Cond.methodLink "DiodeLink$Journal" 51 ⟨"DiodeLink$Journal", "dueLink", "(JI)J"⟩ ∈ lw_tbl := zin_2 _ (List.mem_of_getElem? (l := tables_1_2) (i := 61) rfl)
theorem zw265 : Cond.methodLink "DiodeLink$Journal" 55 ⟨"java/lang/Math", "max", "(II)I"⟩ ∈ lw_tbl := zin_2 _ (List.mem_of_getElem? (l := tables_1_2) (i := 54) rfl)
theorem zw266 : Cond.methodLink "DiodeLink$Journal" 39 ⟨"DiodeLink$Journal", "firstKept", "()I"⟩ ∈ lw_tbl := zin_2 _ (List.mem_of_getElem? (l := tables_1_2) (i := 50) rfl)
theorem zw267 : Cond.methodLink "DiodeLink$Receiver" 3 ⟨"java/lang/Object", "<init>", "()V"⟩ ∈ lw_tbl := zin_1 _ (List.mem_of_getElem? (l := tables_1_1) (i := 160) rfl)
theorem zw268 : Cond.classLink "DiodeLink$Receiver" 11 "DiodeLink$Version" ∈ lw_tbl := zin_1 _ (List.mem_of_getElem? (l := tables_1_1) (i := 161) rfl)
theorem zw269 : Cond.fieldLink "DiodeLink$Receiver" 13 "DiodeLink$Receiver" "known" "[LDiodeLink$Version;" ∈ lw_tbl := zin_1 _ (List.mem_of_getElem? (l := tables_1_1) (i := 223) rfl)
theorem zw270 : Cond.fieldLink "DiodeLink$Receiver" 17 "DiodeLink$Receiver" "shown" "[LDiodeLink$Version;" ∈ lw_tbl := zin_1 _ (List.mem_of_getElem? (l := tables_1_1) (i := 224) rfl)
theorem zw271 : Cond.classLink "DiodeLink$Receiver" 20 "DiodeLink$Rows" ∈ lw_tbl := zin_1 _ (List.mem_of_getElem? (l := tables_1_1) (i := 163) rfl)
theorem zw272 : Cond.instantiable "DiodeLink$Rows" 4 ∈ lw_tbl := zin_1 _ (List.mem_of_getElem? (l := tables_1_1) (i := 164) rfl)
theorem zw273 : Cond.initialized "DiodeLink$Rows" ∈ lw_tbl := zin_1 _ (List.mem_of_getElem? (l := tables_1_1) (i := 9) rfl)
theorem zw274 : Cond.fieldLink "DiodeLink$Receiver" 23 "DiodeLink$Receiver" "rows" "LDiodeLink$Rows;" ∈ lw_tbl := zin_1 _ (List.mem_of_getElem? (l := tables_1_1) (i := 225) rfl)
theorem zw275 : Cond.fieldLink "DiodeLink$Receiver" 27 "DiodeLink$Receiver" "greatestLife" "I" ∈ lw_tbl := zin_1 _ (List.mem_of_getElem? (l := tables_1_1) (i := 228) rfl)
theorem zw276 : Cond.fieldLink "DiodeLink$Receiver" 31 "DiodeLink$Receiver" "dropped" "I" ∈ lw_tbl := zin_1 _ (List.mem_of_getElem? (l := tables_1_1) (i := 229) rfl)
theorem zw277 : Cond.fieldLink "DiodeLink$Receiver" 34 "DiodeLink$Receiver" "rules" "LDiodeLink$Rules;" ∈ lw_tbl := zin_1 _ (List.mem_of_getElem? (l := tables_1_1) (i := 226) rfl)
theorem zw278 : Cond.fieldLink "DiodeLink$Receiver" 38 "DiodeLink$Receiver" "journal" "LDiodeLink$Journal;" ∈ lw_tbl := zin_1 _ (List.mem_of_getElem? (l := tables_1_1) (i := 227) rfl)
theorem zw279 : Cond.instantiable "DiodeLink$Version" 11 ∈ lw_tbl := zin_1 _ (List.mem_of_getElem? (l := tables_1_1) (i := 182) rfl)
theorem zw280 : Cond.initialized "DiodeLink$Version" ∈ lw_tbl := zin_1 _ (List.mem_of_getElem? (l := tables_1_1) (i := 10) rfl)
theorem zw281 : Cond.methodLink "DiodeLink$Receiver" 42 ⟨"DiodeLink$Version", "<init>", "()V"⟩ ∈ lw_tbl := zin_1 _ (List.mem_of_getElem? (l := tables_1_1) (i := 183) rfl)
theorem zw282 : Cond.methodLink "DiodeLink$Receiver" 43 ⟨"DiodeLink$Rows", "used", "()I"⟩ ∈ lw_tbl := zin_4 _ (List.mem_of_getElem? (l := tables_1_4) (i := 48) rfl)
theorem zw283 : Cond.methodLink "DiodeLink$Receiver" 54 ⟨"DiodeLink$Bytes", "at", "(I)I"⟩ ∈ lw_tbl := zin_3 _ (List.mem_of_getElem? (l := tables_1_3) (i := 186) rfl)
theorem zw284 : Cond.methodLink "DiodeLink$Receiver" 60 ⟨"DiodeLink$Bytes", "number", "(II)J"⟩ ∈ lw_tbl := zin_3 _ (List.mem_of_getElem? (l := tables_1_3) (i := 185) rfl)
theorem zw285 : Cond.methodLink "DiodeLink$Receiver" 163 ⟨"DiodeLink$Cut", "blocks", "(I)I"⟩ ∈ lw_tbl := zin_3 _ (List.mem_of_getElem? (l := tables_1_3) (i := 195) rfl)
theorem zw286 : Cond.methodLink "DiodeLink$Receiver" 168 ⟨"DiodeLink$Cut", "packets", "(II)I"⟩ ∈ lw_tbl := zin_3 _ (List.mem_of_getElem? (l := tables_1_3) (i := 196) rfl)
theorem zw287 : Cond.methodLink "DiodeLink$Receiver" 171 ⟨"DiodeLink$Receiver", "leastOf", "(I)LDiodeLink$Version;"⟩ ∈ lw_tbl := zin_3 _ (List.mem_of_getElem? (l := tables_1_3) (i := 197) rfl)
theorem zw288 : Cond.methodLink "DiodeLink$Receiver" 92 ⟨"DiodeLink$Version", "number", "()I"⟩ ∈ lw_tbl := zin_3 _ (List.mem_of_getElem? (l := tables_1_3) (i := 205) rfl)
theorem zw289 : Cond.methodLink "DiodeLink$Receiver" 101 ⟨"DiodeLink$Rows", "owner", "(II)I"⟩ ∈ lw_tbl := zin_3 _ (List.mem_of_getElem? (l := tables_1_3) (i := 217) rfl)
theorem zw290 : Cond.methodLink "DiodeLink$Receiver" 105 ⟨"DiodeLink$Rows", "key", "(III)I"⟩ ∈ lw_tbl := zin_4 _ (List.mem_of_getElem? (l := tables_1_4) (i := 11) rfl)
theorem zw291 : Cond.methodLink "DiodeLink$Receiver" 180 ⟨"DiodeLink$Rows", "drop", "(II)V"⟩ ∈ lw_tbl := zin_3 _ (List.mem_of_getElem? (l := tables_1_3) (i := 226) rfl)
theorem zw292 : Cond.methodLink "DiodeLink$Receiver" 112 ⟨"DiodeLink$Receiver", "knownAt", "(II)LDiodeLink$Version;"⟩ ∈ lw_tbl := zin_3 _ (List.mem_of_getElem? (l := tables_1_3) (i := 201) rfl)
theorem zw293 : Cond.methodLink "DiodeLink$Receiver" 248 ⟨"DiodeLink$Version", "clearItem", "(I)V"⟩ ∈ lw_tbl := zin_4 _ (List.mem_of_getElem? (l := tables_1_4) (i := 110) rfl)
theorem zw294 : Cond.methodLink "DiodeLink$Receiver" 251 ⟨"DiodeLink$Receiver", "dropItemRows", "(LDiodeLink$Version;II)V"⟩ ∈ lw_tbl := zin_4 _ (List.mem_of_getElem? (l := tables_1_4) (i := 111) rfl)
theorem zw295 : Cond.methodLink "DiodeLink$Receiver" 128 ⟨"java/lang/Math", "max", "(II)I"⟩ ∈ lw_tbl := zin_4 _ (List.mem_of_getElem? (l := tables_1_4) (i := 60) rfl)
theorem zw296 : Cond.methodLink "DiodeLink$Receiver" 187 ⟨"DiodeLink$Version", "hasSolved", "(I)Z"⟩ ∈ lw_tbl := zin_4 _ (List.mem_of_getElem? (l := tables_1_4) (i := 3) rfl)
theorem zw297 : Cond.methodLink "DiodeLink$Receiver" 109 ⟨"DiodeLink$Rows", "rowsIn", "(II)I"⟩ ∈ lw_tbl := zin_4 _ (List.mem_of_getElem? (l := tables_1_4) (i := 14) rfl)
theorem zw298 : Cond.methodLink "DiodeLink$Receiver" 190 ⟨"DiodeLink$Version", "item", "(I)LDiodeLink$Bytes;"⟩ ∈ lw_tbl := zin_4 _ (List.mem_of_getElem? (l := tables_1_4) (i := 18) rfl)
theorem zw299 : Cond.methodLink "DiodeLink$Receiver" 194 ⟨"DiodeLink$Bytes", "size", "()I"⟩ ∈ lw_tbl := zin_4 _ (List.mem_of_getElem? (l := tables_1_4) (i := 22) rfl)
theorem zw300 : Cond.methodLink "DiodeLink$Receiver" 242 ⟨"DiodeLink$Version", "files", "()I"⟩ ∈ lw_tbl := zin_4 _ (List.mem_of_getElem? (l := tables_1_4) (i := 127) rfl)
theorem zw301 : Cond.methodLink "DiodeLink$Receiver" 254 ⟨"DiodeLink$Receiver", "holdByOther", "(III)Z"⟩ ∈ lw_tbl := zin_4 _ (List.mem_of_getElem? (l := tables_1_4) (i := 135) rfl)
theorem zw302 : Cond.methodLink "DiodeLink$Receiver" 258 ⟨"DiodeLink$Version", "holds", "(I)Z"⟩ ∈ lw_tbl := zin_4 _ (List.mem_of_getElem? (l := tables_1_4) (i := 139) rfl)
theorem zw303 : Cond.methodLink "DiodeLink$Receiver" 261 ⟨"DiodeLink$Version", "heldLike", "(LDiodeLink$Version;I)I"⟩ ∈ lw_tbl := zin_4 _ (List.mem_of_getElem? (l := tables_1_4) (i := 143) rfl)
theorem zw304 : Cond.methodLink "DiodeLink$Receiver" 265 ⟨"DiodeLink$Version", "holdCopy", "(ILDiodeLink$Bytes;)V"⟩ ∈ lw_tbl := zin_4 _ (List.mem_of_getElem? (l := tables_1_4) (i := 147) rfl)
theorem zw305 : Cond.methodLink "DiodeLink$Receiver" 274 ⟨"DiodeLink$Rules", "brokenBy", "(ILDiodeLink$Version;)I"⟩ ∈ lw_tbl := zin_4 _ (List.mem_of_getElem? (l := tables_1_4) (i := 168) rfl)
theorem zw306 : Cond.methodLink "DiodeLink$Receiver" 115 ⟨"DiodeLink$Version", "become", "(I)V"⟩ ∈ lw_tbl := zin_4 _ (List.mem_of_getElem? (l := tables_1_4) (i := 195) rfl)
theorem zw307 : Cond.methodLink "DiodeLink$Receiver" 122 ⟨"DiodeLink$Journal", "enter", "(IIII)V"⟩ ∈ lw_tbl := zin_4 _ (List.mem_of_getElem? (l := tables_1_4) (i := 199) rfl)
theorem zw308 : Cond.methodLink "DiodeLink$Receiver" 213 ⟨"DiodeLink$Bytes", "resize", "(I)V"⟩ ∈ lw_tbl := zin_4 _ (List.mem_of_getElem? (l := tables_1_4) (i := 65) rfl)
theorem zw309 : Cond.methodLink "DiodeLink$Receiver" 150 ⟨"DiodeLink$Receiver", "maskOf", "(LDiodeLink$Bytes;)I"⟩ ∈ lw_tbl := zin_4 _ (List.mem_of_getElem? (l := tables_1_4) (i := 24) rfl)
theorem zw310 : Cond.methodLink "DiodeLink$Receiver" 216 ⟨"DiodeLink$Rows", "add", "(IIJ)V"⟩ ∈ lw_tbl := zin_4 _ (List.mem_of_getElem? (l := tables_1_4) (i := 66) rfl)
theorem zw311 : Cond.methodLink "DiodeLink$Receiver" 200 ⟨"DiodeLink$Receiver", "piecesOf", "(LDiodeLink$Bytes;)I"⟩ ∈ lw_tbl := zin_4 _ (List.mem_of_getElem? (l := tables_1_4) (i := 27) rfl)
theorem zw312 : Cond.methodLink "DiodeLink$Receiver" 220 ⟨"DiodeLink$Rows", "piece", "(II)J"⟩ ∈ lw_tbl := zin_4 _ (List.mem_of_getElem? (l := tables_1_4) (i := 71) rfl)
theorem zw313 : Cond.methodLink "DiodeLink$Receiver" 223 ⟨"DiodeLink$Bytes", "putNumber", "(IJI)V"⟩ ∈ lw_tbl := zin_4 _ (List.mem_of_getElem? (l := tables_1_4) (i := 75) rfl)
theorem zw314 : Cond.methodLink "DiodeLink$Receiver" 227 ⟨"DiodeLink$Version", "solve", "(II)V"⟩ ∈ lw_tbl := zin_4 _ (List.mem_of_getElem? (l := tables_1_4) (i := 79) rfl)
theorem zw315 : Cond.methodLink "DiodeLink$Receiver" 64 ⟨"DiodeLink$Receiver", "find", "(II)LDiodeLink$Version;"⟩ ∈ lw_tbl := zin_3 _ (List.mem_of_getElem? (l := tables_1_3) (i := 213) rfl)
theorem zw316 : Cond.methodLink "DiodeLink$Receiver" 174 ⟨"DiodeLink$Rows", "firstKey", "(I)I"⟩ ∈ lw_tbl := zin_3 _ (List.mem_of_getElem? (l := tables_1_3) (i := 220) rfl)
theorem zw317 : Cond.methodLink "DiodeLink$Receiver" 177 ⟨"DiodeLink$Rows", "lastKey", "(I)I"⟩ ∈ lw_tbl := zin_3 _ (List.mem_of_getElem? (l := tables_1_3) (i := 223) rfl)
theorem zw318 : Cond.methodLink "DiodeLink$Receiver" 184 ⟨"DiodeLink$Version", "begin", "(I)V"⟩ ∈ lw_tbl := zin_3 _ (List.mem_of_getElem? (l := tables_1_3) (i := 230) rfl)
theorem zw319 : Cond.methodLink "DiodeLink$Receiver" 94 ⟨"DiodeLink$Version", "state", "()I"⟩ ∈ lw_tbl := zin_4 _ (List.mem_of_getElem? (l := tables_1_4) (i := 156) rfl)
theorem zw320 : Cond.methodLink "DiodeLink$Receiver" 269 ⟨"DiodeLink$Version", "isWhole", "()Z"⟩ ∈ lw_tbl := zin_4 _ (List.mem_of_getElem? (l := tables_1_4) (i := 160) rfl)
theorem zw321 : Cond.methodLink "DiodeLink$Receiver" 118 ⟨"DiodeLink$Version", "showFrom", "(LDiodeLink$Version;)V"⟩ ∈ lw_tbl := zin_5 _ (List.mem_of_getElem? (l := tables_1_5) (i := 33) rfl)
theorem zw322 : Cond.methodLink "DiodeLink$Receiver" 50 ⟨"DiodeLink$Receiver", "whyDropped", "(LDiodeLink$Bytes;)I"⟩ ∈ lw_tbl := zin_3 _ (List.mem_of_getElem? (l := tables_1_3) (i := 180) rfl)
theorem zw323 : Cond.methodLink "DiodeLink$Receiver" 68 ⟨"DiodeLink$Receiver", "keepRow", "(LDiodeLink$Version;ILDiodeLink$Bytes;)Z"⟩ ∈ lw_tbl := zin_4 _ (List.mem_of_getElem? (l := tables_1_4) (i := 61) rfl)
theorem zw324 : Cond.methodLink "DiodeLink$Receiver" 72 ⟨"DiodeLink$Version", "isComplete", "(I)Z"⟩ ∈ lw_tbl := zin_4 _ (List.mem_of_getElem? (l := tables_1_4) (i := 83) rfl)
theorem zw325 : Cond.methodLink "DiodeLink$Receiver" 76 ⟨"DiodeLink$Receiver", "lookAt", "(LDiodeLink$Version;II)V"⟩ ∈ lw_tbl := zin_4 _ (List.mem_of_getElem? (l := tables_1_4) (i := 89) rfl)
theorem zw326 : Cond.methodLink "DiodeLink$Receiver" 80 ⟨"DiodeLink$Receiver", "holdAlike", "(I)V"⟩ ∈ lw_tbl := zin_4 _ (List.mem_of_getElem? (l := tables_1_4) (i := 131) rfl)
theorem zw327 : Cond.methodLink "DiodeLink$Receiver" 84 ⟨"DiodeLink$Receiver", "leastToJudge", "(I)LDiodeLink$Version;"⟩ ∈ lw_tbl := zin_4 _ (List.mem_of_getElem? (l := tables_1_4) (i := 152) rfl)
theorem zw328 : Cond.methodLink "DiodeLink$Receiver" 88 ⟨"DiodeLink$Receiver", "judge", "(LDiodeLink$Version;I)V"⟩ ∈ lw_tbl := zin_4 _ (List.mem_of_getElem? (l := tables_1_4) (i := 164) rfl)
theorem zw329 : Cond.methodLink "DiodeLink$Receiver" 230 ⟨"DiodeLink$Version", "isGood", "()Z"⟩ ∈ lw_tbl := zin_4 _ (List.mem_of_getElem? (l := tables_1_4) (i := 93) rfl)
theorem zw330 : Cond.methodLink "DiodeLink$Receiver" 233 ⟨"DiodeLink$Receiver", "lookAtFile", "(LDiodeLink$Version;II)V"⟩ ∈ lw_tbl := zin_4 _ (List.mem_of_getElem? (l := tables_1_4) (i := 97) rfl)
theorem zw331 : Cond.methodLink "DiodeLink$Receiver" 236 ⟨"DiodeLink$Version", "readManifest", "()Z"⟩ ∈ lw_tbl := zin_4 _ (List.mem_of_getElem? (l := tables_1_4) (i := 115) rfl)
theorem zw332 : Cond.methodLink "DiodeLink$Receiver" 239 ⟨"DiodeLink$Receiver", "forgetItem", "(LDiodeLink$Version;II)V"⟩ ∈ lw_tbl := zin_4 _ (List.mem_of_getElem? (l := tables_1_4) (i := 106) rfl)
theorem zw333 : Cond.methodLink "DiodeLink$Receiver" 245 ⟨"DiodeLink$Version", "holdIfRight", "(I)Z"⟩ ∈ lw_tbl := zin_4 _ (List.mem_of_getElem? (l := tables_1_4) (i := 101) rfl)
theorem zw334 : Cond.methodLink "DiodeLink$Receiver" 47 ⟨"DiodeLink$Rows", "dropAll", "()V"⟩ ∈ lw_tbl := zin_2 _ (List.mem_of_getElem? (l := tables_1_2) (i := 38) rfl)
theorem zw335 : Cond.methodLink "DiodeLink$Receiver" 207 ⟨"DiodeLink$Rows", "ownerAt", "(I)I"⟩ ∈ lw_tbl := zin_4 _ (List.mem_of_getElem? (l := tables_1_4) (i := 52) rfl)
theorem zw336 : Cond.methodLink "DiodeLink$Receiver" 210 ⟨"DiodeLink$Receiver", "greatestOf", "(I)I"⟩ ∈ lw_tbl := zin_4 _ (List.mem_of_getElem? (l := tables_1_4) (i := 56) rfl)
theorem zw337 : Cond.methodLink "DiodeLink$Receiver" 203 ⟨"DiodeLink$Cut", "mask", "(IIIII)I"⟩ ∈ lw_tbl := zin_4 _ (List.mem_of_getElem? (l := tables_1_4) (i := 31) rfl)
theorem zw338 : Cond.methodLink "DiodeLink$Receiver" 197 ⟨"DiodeLink$Cut", "pieces", "(II)I"⟩ ∈ lw_tbl := zin_4 _ (List.mem_of_getElem? (l := tables_1_4) (i := 30) rfl)
theorem zw339 : Cond.methodLink "DiodeLink$Receiver" 97 ⟨"DiodeLink$Version", "isSolved", "(II)Z"⟩ ∈ lw_tbl := zin_4 _ (List.mem_of_getElem? (l := tables_1_4) (i := 23) rfl)
theorem zw340 : Cond.methodLink "DiodeLink$Receiver" 133 ⟨"DiodeLink$Bytes", "hash", "(I)J"⟩ ∈ lw_tbl := zin_3 _ (List.mem_of_getElem? (l := tables_1_3) (i := 184) rfl)
theorem zw341 : Cond.methodLink "DiodeLink$Receiver" 137 ⟨"DiodeLink$Receiver", "noteLife", "(I)V"⟩ ∈ lw_tbl := zin_3 _ (List.mem_of_getElem? (l := tables_1_3) (i := 187) rfl)
theorem zw342 : Cond.methodLink "DiodeLink$Receiver" 140 ⟨"DiodeLink$Receiver", "canBe", "(LDiodeLink$Bytes;)Z"⟩ ∈ lw_tbl := zin_3 _ (List.mem_of_getElem? (l := tables_1_3) (i := 191) rfl)
theorem zw343 : Cond.methodLink "DiodeLink$Receiver" 144 ⟨"DiodeLink$Receiver", "learn", "(II)LDiodeLink$Version;"⟩ ∈ lw_tbl := zin_3 _ (List.mem_of_getElem? (l := tables_1_3) (i := 209) rfl)
theorem zw344 : Cond.methodLink "DiodeLink$Receiver" 147 ⟨"DiodeLink$Receiver", "hasOtherSize", "(LDiodeLink$Version;ILDiodeLink$Bytes;)Z"⟩ ∈ lw_tbl := zin_3 _ (List.mem_of_getElem? (l := tables_1_3) (i := 239) rfl)
theorem zw345 : Cond.methodLink "DiodeLink$Receiver" 153 ⟨"DiodeLink$Rows", "tells", "(II)Z"⟩ ∈ lw_tbl := zin_4 _ (List.mem_of_getElem? (l := tables_1_4) (i := 32) rfl)
theorem zw346 : Cond.methodLink "DiodeLink$Receiver" 156 ⟨"DiodeLink$Rows", "isFull", "()Z"⟩ ∈ lw_tbl := zin_4 _ (List.mem_of_getElem? (l := tables_1_4) (i := 40) rfl)
theorem zw347 : Cond.methodLink "DiodeLink$Receiver" 160 ⟨"DiodeLink$Receiver", "makeRoom", "()Z"⟩ ∈ lw_tbl := zin_4 _ (List.mem_of_getElem? (l := tables_1_4) (i := 44) rfl)
theorem zw348 : Cond.methodLink "DiodeLink$Rows" 3 ⟨"java/lang/Object", "<init>", "()V"⟩ ∈ lw_tbl := zin_1 _ (List.mem_of_getElem? (l := tables_1_1) (i := 168) rfl)
theorem zw349 : Cond.fieldLink "DiodeLink$Rows" 11 "DiodeLink$Rows" "keys" "[I" ∈ lw_tbl := zin_1 _ (List.mem_of_getElem? (l := tables_1_1) (i := 169) rfl)
theorem zw350 : Cond.fieldLink "DiodeLink$Rows" 15 "DiodeLink$Rows" "masks" "[I" ∈ lw_tbl := zin_1 _ (List.mem_of_getElem? (l := tables_1_1) (i := 170) rfl)
theorem zw351 : Cond.fieldLink "DiodeLink$Rows" 18 "DiodeLink$Rows" "values" "[J" ∈ lw_tbl := zin_1 _ (List.mem_of_getElem? (l := tables_1_1) (i := 171) rfl)
theorem zw352 : Cond.fieldLink "DiodeLink$Rows" 22 "DiodeLink$Rows" "used" "I" ∈ lw_tbl := zin_1 _ (List.mem_of_getElem? (l := tables_1_1) (i := 172) rfl)
theorem zw353 : Cond.methodLink "DiodeLink$Rows" 30 ⟨"DiodeLink$Rows", "isFull", "()Z"⟩ ∈ lw_tbl := zin_4 _ (List.mem_of_getElem? (l := tables_1_4) (i := 70) rfl)
theorem zw354 : Cond.methodLink "DiodeLink$Rows" 26 ⟨"DiodeLink$Rows", "hasPivotIn", "(III)Z"⟩ ∈ lw_tbl := zin_4 _ (List.mem_of_getElem? (l := tables_1_4) (i := 36) rfl)
theorem zw355 : Cond.methodLink "DiodeLink$Rules" 3 ⟨"java/lang/Object", "<init>", "()V"⟩ ∈ lw_tbl := zin_1 _ (List.mem_of_getElem? (l := tables_1_1) (i := 112) rfl)
theorem zw356 : Cond.arrayClass .boolean ∈ lw_tbl := zin_1 _ (List.mem_of_getElem? (l := tables_1_1) (i := 126) rfl)
theorem zw357 : Cond.fieldLink "DiodeLink$Rules" 11 "DiodeLink$Rules" "signs" "[Z" ∈ lw_tbl := zin_1 _ (List.mem_of_getElem? (l := tables_1_1) (i := 113) rfl)
theorem zw358 : Cond.fieldLink "DiodeLink$Rules" 15 "DiodeLink$Rules" "firsts" "[Z" ∈ lw_tbl := zin_1 _ (List.mem_of_getElem? (l := tables_1_1) (i := 114) rfl)
theorem zw359 : Cond.fieldLink "DiodeLink$Rules" 18 "DiodeLink$Rules" "mostBytes" "I" ∈ lw_tbl := zin_1 _ (List.mem_of_getElem? (l := tables_1_1) (i := 115) rfl)
theorem zw360 : Cond.fieldLink "DiodeLink$Rules" 22 "DiodeLink$Rules" "mostFiles" "I" ∈ lw_tbl := zin_1 _ (List.mem_of_getElem? (l := tables_1_1) (i := 116) rfl)
theorem zw361 : Cond.methodLink "DiodeLink$Rules" 25 ⟨"DiodeLink$Version", "files", "()I"⟩ ∈ lw_tbl := zin_4 _ (List.mem_of_getElem? (l := tables_1_4) (i := 172) rfl)
theorem zw362 : Cond.methodLink "DiodeLink$Rules" 31 ⟨"DiodeLink$Rules", "isBrokenByFile", "(ILDiodeLink$Version;I)Z"⟩ ∈ lw_tbl := zin_4 _ (List.mem_of_getElem? (l := tables_1_4) (i := 173) rfl)
theorem zw363 : Cond.methodLink "DiodeLink$Rules" 43 ⟨"DiodeLink$Version", "item", "(I)LDiodeLink$Bytes;"⟩ ∈ lw_tbl := zin_4 _ (List.mem_of_getElem? (l := tables_1_4) (i := 185) rfl)
theorem zw364 : Cond.methodLink "DiodeLink$Rules" 52 ⟨"DiodeLink$Version", "namePlace", "(I)I"⟩ ∈ lw_tbl := zin_4 _ (List.mem_of_getElem? (l := tables_1_4) (i := 186) rfl)
theorem zw365 : Cond.methodLink "DiodeLink$Rules" 55 ⟨"DiodeLink$Version", "nameSize", "(I)I"⟩ ∈ lw_tbl := zin_4 _ (List.mem_of_getElem? (l := tables_1_4) (i := 190) rfl)
theorem zw366 : Cond.methodLink "DiodeLink$Rules" 47 ⟨"DiodeLink$Bytes", "at", "(I)I"⟩ ∈ lw_tbl := zin_4 _ (List.mem_of_getElem? (l := tables_1_4) (i := 194) rfl)
theorem zw367 : Cond.methodLink "DiodeLink$Rules" 35 ⟨"DiodeLink$Version", "fileSize", "(I)I"⟩ ∈ lw_tbl := zin_4 _ (List.mem_of_getElem? (l := tables_1_4) (i := 177) rfl)
theorem zw368 : Cond.methodLink "DiodeLink$Rules" 39 ⟨"DiodeLink$Rules", "hasBadSign", "(LDiodeLink$Version;I)Z"⟩ ∈ lw_tbl := zin_4 _ (List.mem_of_getElem? (l := tables_1_4) (i := 181) rfl)
theorem zw369 : Cond.methodLink "DiodeLink$Sender" 3 ⟨"java/lang/Object", "<init>", "()V"⟩ ∈ lw_tbl := zin_1 _ (List.mem_of_getElem? (l := tables_1_1) (i := 48) rfl)
theorem zw370 : Cond.classLink "DiodeLink$Sender" 9 "DiodeLink$Folder" ∈ lw_tbl := zin_1 _ (List.mem_of_getElem? (l := tables_1_1) (i := 49) rfl)
theorem zw371 : Cond.fieldLink "DiodeLink$Sender" 11 "DiodeLink$Sender" "folders" "[LDiodeLink$Folder;" ∈ lw_tbl := zin_1 _ (List.mem_of_getElem? (l := tables_1_1) (i := 94) rfl)
theorem zw372 : Cond.fieldLink "DiodeLink$Sender" 17 "DiodeLink$Sender" "nextPlaces" "[I" ∈ lw_tbl := zin_1 _ (List.mem_of_getElem? (l := tables_1_1) (i := 95) rfl)
theorem zw373 : Cond.fieldLink "DiodeLink$Sender" 21 "DiodeLink$Sender" "life" "I" ∈ lw_tbl := zin_1 _ (List.mem_of_getElem? (l := tables_1_1) (i := 96) rfl)
theorem zw374 : Cond.fieldLink "DiodeLink$Sender" 25 "DiodeLink$Sender" "turn" "I" ∈ lw_tbl := zin_1 _ (List.mem_of_getElem? (l := tables_1_1) (i := 97) rfl)
theorem zw375 : Cond.instantiable "DiodeLink$Folder" 5 ∈ lw_tbl := zin_1 _ (List.mem_of_getElem? (l := tables_1_1) (i := 51) rfl)
theorem zw376 : Cond.initialized "DiodeLink$Folder" ∈ lw_tbl := zin_1 _ (List.mem_of_getElem? (l := tables_1_1) (i := 4) rfl)
theorem zw377 : Cond.methodLink "DiodeLink$Sender" 28 ⟨"DiodeLink$Folder", "<init>", "()V"⟩ ∈ lw_tbl := zin_1 _ (List.mem_of_getElem? (l := tables_1_1) (i := 52) rfl)
theorem zw378 : Cond.methodLink "DiodeLink$Sender" 29 ⟨"DiodeLink$Sender", "beginRounds", "()V"⟩ ∈ lw_tbl := zin_3 _ (List.mem_of_getElem? (l := tables_1_3) (i := 68) rfl)
theorem zw379 : Cond.methodLink "DiodeLink$Sender" 44 ⟨"DiodeLink$Sender", "oldestAge", "(I)I"⟩ ∈ lw_tbl := zin_3 _ (List.mem_of_getElem? (l := tables_1_3) (i := 88) rfl)
theorem zw380 : Cond.methodLink "DiodeLink$Sender" 47 ⟨"DiodeLink$Sender", "youngestAge", "(I)I"⟩ ∈ lw_tbl := zin_3 _ (List.mem_of_getElem? (l := tables_1_3) (i := 91) rfl)
theorem zw381 : Cond.methodLink "DiodeLink$Sender" 50 ⟨"DiodeLink$Folder", "edition", "(I)LDiodeLink$Edition;"⟩ ∈ lw_tbl := zin_3 _ (List.mem_of_getElem? (l := tables_1_3) (i := 94) rfl)
theorem zw382 : Cond.methodLink "DiodeLink$Sender" 54 ⟨"DiodeLink$Edition", "packets", "()I"⟩ ∈ lw_tbl := zin_3 _ (List.mem_of_getElem? (l := tables_1_3) (i := 98) rfl)
theorem zw383 : Cond.methodLink "DiodeLink$Sender" 59 ⟨"DiodeLink$Edition", "fillPacket", "(LDiodeLink$Bytes;III)V"⟩ ∈ lw_tbl := zin_3 _ (List.mem_of_getElem? (l := tables_1_3) (i := 117) rfl)
theorem zw384 : Cond.methodLink "DiodeLink$Sender" 36 ⟨"DiodeLink$Sender", "packetsOf", "(I)I"⟩ ∈ lw_tbl := zin_3 _ (List.mem_of_getElem? (l := tables_1_3) (i := 84) rfl)
theorem zw385 : Cond.methodLink "DiodeLink$Sender" 40 ⟨"DiodeLink$Sender", "fillFrom", "(LDiodeLink$Bytes;II)V"⟩ ∈ lw_tbl := zin_3 _ (List.mem_of_getElem? (l := tables_1_3) (i := 113) rfl)
theorem zw386 : Cond.methodLink "DiodeLink$Sender" 32 ⟨"DiodeLink$Folder", "makeVersion", "()I"⟩ ∈ lw_tbl := zin_3 _ (List.mem_of_getElem? (l := tables_1_3) (i := 38) rfl)
theorem zw387 : Cond.methodLink "DiodeLink$Version" 3 ⟨"java/lang/Object", "<init>", "()V"⟩ ∈ lw_tbl := zin_1 _ (List.mem_of_getElem? (l := tables_1_1) (i := 186) rfl)
theorem zw388 : Cond.classLink "DiodeLink$Version" 9 "DiodeLink$Bytes" ∈ lw_tbl := zin_1 _ (List.mem_of_getElem? (l := tables_1_1) (i := 187) rfl)
theorem zw389 : Cond.fieldLink "DiodeLink$Version" 11 "DiodeLink$Version" "items" "[LDiodeLink$Bytes;" ∈ lw_tbl := zin_1 _ (List.mem_of_getElem? (l := tables_1_1) (i := 189) rfl)
theorem zw390 : Cond.fieldLink "DiodeLink$Version" 17 "DiodeLink$Version" "solved" "[Z" ∈ lw_tbl := zin_1 _ (List.mem_of_getElem? (l := tables_1_1) (i := 190) rfl)
theorem zw391 : Cond.fieldLink "DiodeLink$Version" 21 "DiodeLink$Version" "held" "[Z" ∈ lw_tbl := zin_1 _ (List.mem_of_getElem? (l := tables_1_1) (i := 191) rfl)
theorem zw392 : Cond.fieldLink "DiodeLink$Version" 24 "DiodeLink$Version" "nameAt" "[I" ∈ lw_tbl := zin_1 _ (List.mem_of_getElem? (l := tables_1_1) (i := 192) rfl)
theorem zw393 : Cond.fieldLink "DiodeLink$Version" 28 "DiodeLink$Version" "nameSizes" "[I" ∈ lw_tbl := zin_1 _ (List.mem_of_getElem? (l := tables_1_1) (i := 193) rfl)
theorem zw394 : Cond.fieldLink "DiodeLink$Version" 31 "DiodeLink$Version" "fileSizes" "[I" ∈ lw_tbl := zin_1 _ (List.mem_of_getElem? (l := tables_1_1) (i := 194) rfl)
theorem zw395 : Cond.fieldLink "DiodeLink$Version" 34 "DiodeLink$Version" "fileHashes" "[J" ∈ lw_tbl := zin_1 _ (List.mem_of_getElem? (l := tables_1_1) (i := 195) rfl)
theorem zw396 : Cond.fieldLink "DiodeLink$Version" 38 "DiodeLink$Version" "number" "I" ∈ lw_tbl := zin_1 _ (List.mem_of_getElem? (l := tables_1_1) (i := 196) rfl)
theorem zw397 : Cond.fieldLink "DiodeLink$Version" 42 "DiodeLink$Version" "state" "I" ∈ lw_tbl := zin_1 _ (List.mem_of_getElem? (l := tables_1_1) (i := 197) rfl)
theorem zw398 : Cond.fieldLink "DiodeLink$Version" 45 "DiodeLink$Version" "files" "I" ∈ lw_tbl := zin_1 _ (List.mem_of_getElem? (l := tables_1_1) (i := 198) rfl)
theorem zw399 : Cond.fieldLink "DiodeLink$Version" 48 "DiodeLink$Version" "good" "Z" ∈ lw_tbl := zin_1 _ (List.mem_of_getElem? (l := tables_1_1) (i := 199) rfl)
theorem zw400 : Cond.methodLink "DiodeLink$Version" 52 ⟨"DiodeLink$Bytes", "<init>", "(I)V"⟩ ∈ lw_tbl := zin_1 _ (List.mem_of_getElem? (l := tables_1_1) (i := 188) rfl)
theorem zw401 : Cond.methodLink "DiodeLink$Version" 55 ⟨"DiodeLink$Version", "clearItem", "(I)V"⟩ ∈ lw_tbl := zin_3 _ (List.mem_of_getElem? (l := tables_1_3) (i := 234) rfl)
theorem zw402 : Cond.methodLink "DiodeLink$Version" 58 ⟨"DiodeLink$Bytes", "clear", "()V"⟩ ∈ lw_tbl := zin_3 _ (List.mem_of_getElem? (l := tables_1_3) (i := 238) rfl)
theorem zw403 : Cond.methodLink "DiodeLink$Version" 61 ⟨"DiodeLink$Version", "isSolved", "(II)Z"⟩ ∈ lw_tbl := zin_4 _ (List.mem_of_getElem? (l := tables_1_4) (i := 7) rfl)
theorem zw404 : Cond.methodLink "DiodeLink$Version" 96 ⟨"DiodeLink$Bytes", "copyFrom", "(LDiodeLink$Bytes;)V"⟩ ∈ lw_tbl := zin_4 _ (List.mem_of_getElem? (l := tables_1_4) (i := 151) rfl)
theorem zw405 : Cond.methodLink "DiodeLink$Version" 65 ⟨"DiodeLink$Bytes", "size", "()I"⟩ ∈ lw_tbl := zin_4 _ (List.mem_of_getElem? (l := tables_1_4) (i := 87) rfl)
theorem zw406 : Cond.methodLink "DiodeLink$Version" 69 ⟨"DiodeLink$Cut", "blocks", "(I)I"⟩ ∈ lw_tbl := zin_4 _ (List.mem_of_getElem? (l := tables_1_4) (i := 88) rfl)
theorem zw407 : Cond.methodLink "DiodeLink$Version" 92 ⟨"DiodeLink$Bytes", "hash", "(I)J"⟩ ∈ lw_tbl := zin_4 _ (List.mem_of_getElem? (l := tables_1_4) (i := 105) rfl)
theorem zw408 : Cond.methodLink "DiodeLink$Version" 88 ⟨"DiodeLink$Bytes", "compareParts", "(IILDiodeLink$Bytes;II)I"⟩ ∈ lw_tbl := zin_4 _ (List.mem_of_getElem? (l := tables_1_4) (i := 126) rfl)
theorem zw409 : Cond.methodLink "DiodeLink$Version" 75 ⟨"DiodeLink$Bytes", "at", "(I)I"⟩ ∈ lw_tbl := zin_4 _ (List.mem_of_getElem? (l := tables_1_4) (i := 119) rfl)
theorem zw410 : Cond.methodLink "DiodeLink$Version" 78 ⟨"DiodeLink$Bytes", "number", "(II)J"⟩ ∈ lw_tbl := zin_4 _ (List.mem_of_getElem? (l := tables_1_4) (i := 120) rfl)
theorem zw411 : Cond.methodLink "DiodeLink$Version" 81 ⟨"DiodeLink$Bytes", "isName", "(II)Z"⟩ ∈ lw_tbl := zin_4 _ (List.mem_of_getElem? (l := tables_1_4) (i := 121) rfl)
theorem zw412 : Cond.methodLink "DiodeLink$Version" 84 ⟨"DiodeLink$Version", "isBehindLast", "(I)Z"⟩ ∈ lw_tbl := zin_4 _ (List.mem_of_getElem? (l := tables_1_4) (i := 122) rfl)
theorem zw413 : Cond.methodLink "DiodeLink$Version" 100 ⟨"java/lang/System", "arraycopy", "(Ljava/lang/Object;ILjava/lang/Object;II)V"⟩ ∈ lw_tbl := zin_5 _ (List.mem_of_getElem? (l := tables_1_5) (i := 37) rfl)
theorem zw414 : Cond.methodLink "DiodeLinkLaw" 36 ⟨"DiodeLink", "alter", "(III)V"⟩ ∈ lw_tbl := zin_3 _ (List.mem_of_getElem? (l := tables_1_3) (i := 156) rfl)
theorem zw415 : Cond.methodLink "DiodeLinkLaw" 25 ⟨"DiodeLink", "commit", "(I)I"⟩ ∈ lw_tbl := zin_3 _ (List.mem_of_getElem? (l := tables_1_3) (i := 27) rfl)
theorem zw416 : Cond.methodLink "DiodeLinkLaw" 76 ⟨"DiodeLink", "count", "(I)I"⟩ ∈ lw_tbl := zin_5 _ (List.mem_of_getElem? (l := tables_1_5) (i := 113) rfl)
theorem zw417 : Cond.methodLink "DiodeLinkLaw" 7 ⟨"DiodeLink", "feed", "(ZJI)I"⟩ ∈ lw_tbl := zin_2 _ (List.mem_of_getElem? (l := tables_1_2) (i := 95) rfl)
theorem zw418 : Cond.methodLink "DiodeLinkLaw" 64 ⟨"DiodeLink", "file", "(IIIZ)I"⟩ ∈ lw_tbl := zin_5 _ (List.mem_of_getElem? (l := tables_1_5) (i := 54) rfl)
theorem zw419 : Cond.methodLink "DiodeLinkLaw" 50 ⟨"DiodeLink", "have", "(II)I"⟩ ∈ lw_tbl := zin_4 _ (List.mem_of_getElem? (l := tables_1_4) (i := 237) rfl)
theorem zw420 : Cond.methodLink "DiodeLinkLaw" 40 ⟨"DiodeLink", "hear", "(I)I"⟩ ∈ lw_tbl := zin_3 _ (List.mem_of_getElem? (l := tables_1_3) (i := 172) rfl)
theorem zw421 : Cond.methodLink "DiodeLinkLaw" 70 ⟨"DiodeLink", "journal", "(II)J"⟩ ∈ lw_tbl := zin_5 _ (List.mem_of_getElem? (l := tables_1_5) (i := 83) rfl)
theorem zw422 : Cond.methodLink "DiodeLinkLaw" 32 ⟨"DiodeLink", "packet", "(II)J"⟩ ∈ lw_tbl := zin_3 _ (List.mem_of_getElem? (l := tables_1_3) (i := 142) rfl)
theorem zw423 : Cond.methodLink "DiodeLinkLaw" 54 ⟨"DiodeLink", "rank", "(IIII)I"⟩ ∈ lw_tbl := zin_5 _ (List.mem_of_getElem? (l := tables_1_5) (i := 13) rfl)
theorem zw424 : Cond.methodLink "DiodeLinkLaw" 58 ⟨"DiodeLink", "release", "(I)I"⟩ ∈ lw_tbl := zin_5 _ (List.mem_of_getElem? (l := tables_1_5) (i := 25) rfl)
theorem zw425 : Cond.methodLink "DiodeLinkLaw" 61 ⟨"DiodeLink", "released", "(I)I"⟩ ∈ lw_tbl := zin_5 _ (List.mem_of_getElem? (l := tables_1_5) (i := 41) rfl)
theorem zw426 : Cond.methodLink "DiodeLinkLaw" 21 ⟨"DiodeLink", "remove", "(I)Z"⟩ ∈ lw_tbl := zin_3 _ (List.mem_of_getElem? (l := tables_1_3) (i := 15) rfl)
theorem zw427 : Cond.methodLink "DiodeLinkLaw" 43 ⟨"DiodeLink", "restartSender", "()I"⟩ ∈ lw_tbl := zin_4 _ (List.mem_of_getElem? (l := tables_1_4) (i := 206) rfl)
theorem zw428 : Cond.methodLink "DiodeLinkLaw" 46 ⟨"DiodeLink", "rule", "(IIZ)V"⟩ ∈ lw_tbl := zin_4 _ (List.mem_of_getElem? (l := tables_1_4) (i := 222) rfl)
theorem zw429 : Cond.methodLink "DiodeLinkLaw" 28 ⟨"DiodeLink", "send", "()I"⟩ ∈ lw_tbl := zin_3 _ (List.mem_of_getElem? (l := tables_1_3) (i := 76) rfl)
theorem zw430 : Cond.methodLink "DiodeLinkLaw" 73 ⟨"DiodeLink", "touch", "(III)V"⟩ ∈ lw_tbl := zin_5 _ (List.mem_of_getElem? (l := tables_1_5) (i := 102) rfl)
theorem zw431 : Cond.methodLink "DiodeLinkLaw" 17 ⟨"DiodeLink", "write", "(I)I"⟩ ∈ lw_tbl := zin_2 _ (List.mem_of_getElem? (l := tables_1_2) (i := 195) rfl)
theorem zw432 : Cond.methodLink "DiodeLinkModel" 1 ⟨"java/lang/Object", "<init>", "()V"⟩ ∈ lw_tbl := zin_5 _ (List.mem_of_getElem? (l := tables_1_5) (i := 131) rfl)
theorem zw433 : Cond.fieldLink "DiodeLinkModel" 7 "DiodeLinkModel" "name" "[I" ∈ lw_tbl := zin_5 _ (List.mem_of_getElem? (l := tables_1_5) (i := 135) rfl)
theorem zw434 : Cond.fieldLink "DiodeLinkModel" 13 "DiodeLinkModel" "data" "[I" ∈ lw_tbl := zin_5 _ (List.mem_of_getElem? (l := tables_1_5) (i := 136) rfl)
theorem zw435 : Cond.fieldLink "DiodeLinkModel" 16 "DiodeLinkModel" "files" "[I" ∈ lw_tbl := zin_5 _ (List.mem_of_getElem? (l := tables_1_5) (i := 137) rfl)
theorem zw436 : Cond.fieldLink "DiodeLinkModel" 19 "DiodeLinkModel" "nameSize" "[I" ∈ lw_tbl := zin_5 _ (List.mem_of_getElem? (l := tables_1_5) (i := 138) rfl)
theorem zw437 : Cond.fieldLink "DiodeLinkModel" 22 "DiodeLinkModel" "names" "[I" ∈ lw_tbl := zin_5 _ (List.mem_of_getElem? (l := tables_1_5) (i := 139) rfl)
theorem zw438 : Cond.fieldLink "DiodeLinkModel" 25 "DiodeLinkModel" "fileSize" "[I" ∈ lw_tbl := zin_5 _ (List.mem_of_getElem? (l := tables_1_5) (i := 140) rfl)
theorem zw439 : Cond.fieldLink "DiodeLinkModel" 28 "DiodeLinkModel" "fileData" "[I" ∈ lw_tbl := zin_5 _ (List.mem_of_getElem? (l := tables_1_5) (i := 141) rfl)
theorem zw440 : Cond.fieldLink "DiodeLinkModel" 31 "DiodeLinkModel" "versions" "[I" ∈ lw_tbl := zin_5 _ (List.mem_of_getElem? (l := tables_1_5) (i := 142) rfl)
theorem zw441 : Cond.fieldLink "DiodeLinkModel" 34 "DiodeLinkModel" "keptItems" "[I" ∈ lw_tbl := zin_5 _ (List.mem_of_getElem? (l := tables_1_5) (i := 143) rfl)
theorem zw442 : Cond.fieldLink "DiodeLinkModel" 37 "DiodeLinkModel" "keptSize" "[I" ∈ lw_tbl := zin_5 _ (List.mem_of_getElem? (l := tables_1_5) (i := 144) rfl)
theorem zw443 : Cond.fieldLink "DiodeLinkModel" 40 "DiodeLinkModel" "keptData" "[I" ∈ lw_tbl := zin_5 _ (List.mem_of_getElem? (l := tables_1_5) (i := 145) rfl)
theorem zw444 : Cond.fieldLink "DiodeLinkModel" 43 "DiodeLinkModel" "life" "I" ∈ lw_tbl := zin_5 _ (List.mem_of_getElem? (l := tables_1_5) (i := 146) rfl)
theorem zw445 : Cond.fieldLink "DiodeLinkModel" 47 "DiodeLinkModel" "goes" "[I" ∈ lw_tbl := zin_5 _ (List.mem_of_getElem? (l := tables_1_5) (i := 149) rfl)
theorem zw446 : Cond.fieldLink "DiodeLinkModel" 50 "DiodeLinkModel" "slots" "[I" ∈ lw_tbl := zin_5 _ (List.mem_of_getElem? (l := tables_1_5) (i := 150) rfl)
theorem zw447 : Cond.fieldLink "DiodeLinkModel" 53 "DiodeLinkModel" "filled" "[Z" ∈ lw_tbl := zin_5 _ (List.mem_of_getElem? (l := tables_1_5) (i := 151) rfl)
theorem zw448 : Cond.fieldLink "DiodeLinkModel" 57 "DiodeLinkModel" "found" "[I" ∈ lw_tbl := zin_5 _ (List.mem_of_getElem? (l := tables_1_5) (i := 152) rfl)
theorem zw449 : Cond.fieldLink "DiodeLinkModel" 60 "DiodeLinkModel" "known" "[I" ∈ lw_tbl := zin_5 _ (List.mem_of_getElem? (l := tables_1_5) (i := 154) rfl)
theorem zw450 : Cond.fieldLink "DiodeLinkModel" 63 "DiodeLinkModel" "good" "[Z" ∈ lw_tbl := zin_5 _ (List.mem_of_getElem? (l := tables_1_5) (i := 155) rfl)
theorem zw451 : Cond.fieldLink "DiodeLinkModel" 66 "DiodeLinkModel" "count" "[I" ∈ lw_tbl := zin_5 _ (List.mem_of_getElem? (l := tables_1_5) (i := 156) rfl)
theorem zw452 : Cond.fieldLink "DiodeLinkModel" 69 "DiodeLinkModel" "verdict" "[I" ∈ lw_tbl := zin_5 _ (List.mem_of_getElem? (l := tables_1_5) (i := 157) rfl)
theorem zw453 : Cond.fieldLink "DiodeLinkModel" 72 "DiodeLinkModel" "size" "[I" ∈ lw_tbl := zin_5 _ (List.mem_of_getElem? (l := tables_1_5) (i := 158) rfl)
theorem zw454 : Cond.fieldLink "DiodeLinkModel" 75 "DiodeLinkModel" "solved" "[Z" ∈ lw_tbl := zin_5 _ (List.mem_of_getElem? (l := tables_1_5) (i := 159) rfl)
theorem zw455 : Cond.fieldLink "DiodeLinkModel" 78 "DiodeLinkModel" "bytes" "[I" ∈ lw_tbl := zin_5 _ (List.mem_of_getElem? (l := tables_1_5) (i := 160) rfl)
theorem zw456 : Cond.fieldLink "DiodeLinkModel" 81 "DiodeLinkModel" "held" "[Z" ∈ lw_tbl := zin_5 _ (List.mem_of_getElem? (l := tables_1_5) (i := 161) rfl)
theorem zw457 : Cond.fieldLink "DiodeLinkModel" 84 "DiodeLinkModel" "rowItem" "[I" ∈ lw_tbl := zin_5 _ (List.mem_of_getElem? (l := tables_1_5) (i := 163) rfl)
theorem zw458 : Cond.fieldLink "DiodeLinkModel" 87 "DiodeLinkModel" "rowBlock" "[I" ∈ lw_tbl := zin_5 _ (List.mem_of_getElem? (l := tables_1_5) (i := 164) rfl)
theorem zw459 : Cond.fieldLink "DiodeLinkModel" 90 "DiodeLinkModel" "rowMask" "[I" ∈ lw_tbl := zin_5 _ (List.mem_of_getElem? (l := tables_1_5) (i := 165) rfl)
theorem zw460 : Cond.fieldLink "DiodeLinkModel" 93 "DiodeLinkModel" "rowBytes" "[J" ∈ lw_tbl := zin_5 _ (List.mem_of_getElem? (l := tables_1_5) (i := 166) rfl)
theorem zw461 : Cond.fieldLink "DiodeLinkModel" 97 "DiodeLinkModel" "mostSize" "I" ∈ lw_tbl := zin_5 _ (List.mem_of_getElem? (l := tables_1_5) (i := 168) rfl)
theorem zw462 : Cond.fieldLink "DiodeLinkModel" 100 "DiodeLinkModel" "mostFiles" "I" ∈ lw_tbl := zin_5 _ (List.mem_of_getElem? (l := tables_1_5) (i := 169) rfl)
theorem zw463 : Cond.fieldLink "DiodeLinkModel" 103 "DiodeLinkModel" "badSign" "[Z" ∈ lw_tbl := zin_5 _ (List.mem_of_getElem? (l := tables_1_5) (i := 170) rfl)
theorem zw464 : Cond.fieldLink "DiodeLinkModel" 106 "DiodeLinkModel" "badFirst" "[Z" ∈ lw_tbl := zin_5 _ (List.mem_of_getElem? (l := tables_1_5) (i := 171) rfl)
theorem zw465 : Cond.fieldLink "DiodeLinkModel" 109 "DiodeLinkModel" "released" "[I" ∈ lw_tbl := zin_5 _ (List.mem_of_getElem? (l := tables_1_5) (i := 172) rfl)
theorem zw466 : Cond.fieldLink "DiodeLinkModel" 112 "DiodeLinkModel" "releases" "[I" ∈ lw_tbl := zin_5 _ (List.mem_of_getElem? (l := tables_1_5) (i := 173) rfl)
theorem zw467 : Cond.fieldLink "DiodeLinkModel" 115 "DiodeLinkModel" "earlier" "[I" ∈ lw_tbl := zin_5 _ (List.mem_of_getElem? (l := tables_1_5) (i := 174) rfl)
theorem zw468 : Cond.fieldLink "DiodeLinkModel" 118 "DiodeLinkModel" "releasedFiles" "[I" ∈ lw_tbl := zin_5 _ (List.mem_of_getElem? (l := tables_1_5) (i := 175) rfl)
theorem zw469 : Cond.fieldLink "DiodeLinkModel" 121 "DiodeLinkModel" "releasedNames" "[I" ∈ lw_tbl := zin_5 _ (List.mem_of_getElem? (l := tables_1_5) (i := 176) rfl)
theorem zw470 : Cond.fieldLink "DiodeLinkModel" 124 "DiodeLinkModel" "releasedSize" "[I" ∈ lw_tbl := zin_5 _ (List.mem_of_getElem? (l := tables_1_5) (i := 177) rfl)
theorem zw471 : Cond.fieldLink "DiodeLinkModel" 127 "DiodeLinkModel" "releasedData" "[I" ∈ lw_tbl := zin_5 _ (List.mem_of_getElem? (l := tables_1_5) (i := 178) rfl)
theorem zw472 : Cond.fieldLink "DiodeLinkModel" 130 "DiodeLinkModel" "entry" "[I" ∈ lw_tbl := zin_5 _ (List.mem_of_getElem? (l := tables_1_5) (i := 181) rfl)
theorem zw473 : Cond.fieldLink "DiodeLinkModel" 133 "DiodeLinkModel" "links" "[J" ∈ lw_tbl := zin_5 _ (List.mem_of_getElem? (l := tables_1_5) (i := 182) rfl)
theorem zw474 : Cond.methodLink "DiodeLinkModel" 233 ⟨"DiodeLinkModel", "has", "(I)Z"⟩ ∈ lw_tbl := zin_6 _ (List.mem_of_getElem? (l := tables_1_6) (i := 152) rfl)
theorem zw475 : Cond.methodLink "DiodeLinkModel" 143 ⟨"DiodeLinkModel", "in", "(III)Z"⟩ ∈ lw_tbl := zin_6 _ (List.mem_of_getElem? (l := tables_1_6) (i := 54) rfl)
theorem zw476 : Cond.methodLink "DiodeLinkModel" 147 ⟨"DiodeLinkModel", "fails", "(ZI)Z"⟩ ∈ lw_tbl := zin_6 _ (List.mem_of_getElem? (l := tables_1_6) (i := 57) rfl)
theorem zw477 : Cond.fieldLink "DiodeLinkModel" 197 "DiodeLinkModel" "turn" "I" ∈ lw_tbl := zin_5 _ (List.mem_of_getElem? (l := tables_1_5) (i := 147) rfl)
theorem zw478 : Cond.constantLong "DiodeLinkModel" 141 (Int64.ofInt (-3750763034362895579)) ∈ lw_tbl := zin_6 _ (List.mem_of_getElem? (l := tables_1_6) (i := 105) rfl)
theorem zw479 : Cond.methodLink "DiodeLinkModel" 281 ⟨"DiodeLinkModel", "sizeTold", "(II)I"⟩ ∈ lw_tbl := zin_7 _ (List.mem_of_getElem? (l := tables_1_7) (i := 20) rfl)
theorem zw480 : Cond.methodLink "DiodeLinkModel" 284 ⟨"DiodeLinkModel", "hashTold", "(II)J"⟩ ∈ lw_tbl := zin_7 _ (List.mem_of_getElem? (l := tables_1_7) (i := 28) rfl)
theorem zw481 : Cond.methodLink "DiodeLinkModel" 250 ⟨"DiodeLinkModel", "forget", "(I)V"⟩ ∈ lw_tbl := zin_6 _ (List.mem_of_getElem? (l := tables_1_6) (i := 200) rfl)
theorem zw482 : Cond.methodLink "DiodeLinkModel" 201 ⟨"DiodeLinkModel", "blocks", "(I)I"⟩ ∈ lw_tbl := zin_6 _ (List.mem_of_getElem? (l := tables_1_6) (i := 126) rfl)
theorem zw483 : Cond.methodLink "DiodeLinkModel" 269 ⟨"DiodeLinkModel", "byteOf", "(II)I"⟩ ∈ lw_tbl := zin_7 _ (List.mem_of_getElem? (l := tables_1_7) (i := 16) rfl)
theorem zw484 : Cond.methodLink "DiodeLinkModel" 275 ⟨"DiodeLinkModel", "tells", "(II)I"⟩ ∈ lw_tbl := zin_7 _ (List.mem_of_getElem? (l := tables_1_7) (i := 24) rfl)
theorem zw485 : Cond.methodLink "DiodeLinkModel" 204 ⟨"DiodeLinkModel", "pieces", "(II)I"⟩ ∈ lw_tbl := zin_6 _ (List.mem_of_getElem? (l := tables_1_6) (i := 129) rfl)
theorem zw486 : Cond.methodLink "DiodeLinkModel" 190 ⟨"DiodeLinkModel", "manifest", "(III)V"⟩ ∈ lw_tbl := zin_6 _ (List.mem_of_getElem? (l := tables_1_6) (i := 94) rfl)
theorem zw487 : Cond.methodLink "DiodeLinkModel" 194 ⟨"DiodeLinkModel", "anew", "()V"⟩ ∈ lw_tbl := zin_6 _ (List.mem_of_getElem? (l := tables_1_6) (i := 110) rfl)
theorem zw488 : Cond.methodLink "DiodeLinkModel" 278 ⟨"DiodeLinkModel", "isComplete", "(I)Z"⟩ ∈ lw_tbl := zin_7 _ (List.mem_of_getElem? (l := tables_1_7) (i := 4) rfl)
theorem zw489 : Cond.methodLink "DiodeLinkModel" 182 ⟨"DiodeLinkModel", "begin", "()J"⟩ ∈ lw_tbl := zin_6 _ (List.mem_of_getElem? (l := tables_1_6) (i := 102) rfl)
theorem zw490 : Cond.methodLink "DiodeLinkModel" 186 ⟨"DiodeLinkModel", "more", "(JI)J"⟩ ∈ lw_tbl := zin_6 _ (List.mem_of_getElem? (l := tables_1_6) (i := 106) rfl)
theorem zw491 : Cond.methodLink "DiodeLinkModel" 287 ⟨"DiodeLinkModel", "compare", "(II)V"⟩ ∈ lw_tbl := zin_7 _ (List.mem_of_getElem? (l := tables_1_7) (i := 12) rfl)
theorem zw492 : Cond.methodLink "DiodeLinkModel" 290 ⟨"DiodeLinkModel", "isManifest", "(I)Z"⟩ ∈ lw_tbl := zin_7 _ (List.mem_of_getElem? (l := tables_1_7) (i := 32) rfl)
theorem zw493 : Cond.fieldLink "DiodeLinkModel" 306 "DiodeLinkModel" "dropped" "I" ∈ lw_tbl := zin_5 _ (List.mem_of_getElem? (l := tables_1_5) (i := 167) rfl)
theorem zw494 : Cond.fieldLink "DiodeLinkModel" 241 "DiodeLinkModel" "rows" "I" ∈ lw_tbl := zin_5 _ (List.mem_of_getElem? (l := tables_1_5) (i := 162) rfl)
theorem zw495 : Cond.fieldLink "DiodeLinkModel" 214 "DiodeLinkModel" "sent" "I" ∈ lw_tbl := zin_5 _ (List.mem_of_getElem? (l := tables_1_5) (i := 148) rfl)
theorem zw496 : Cond.fieldLink "DiodeLinkModel" 136 "DiodeLinkModel" "thrown" "I" ∈ lw_tbl := zin_5 _ (List.mem_of_getElem? (l := tables_1_5) (i := 132) rfl)
theorem zw497 : Cond.fieldLink "DiodeLinkModel" 151 "DiodeLinkModel" "given" "I" ∈ lw_tbl := zin_5 _ (List.mem_of_getElem? (l := tables_1_5) (i := 134) rfl)
theorem zw498 : Cond.fieldLink "DiodeLinkModel" 154 "DiodeLinkModel" "named" "I" ∈ lw_tbl := zin_5 _ (List.mem_of_getElem? (l := tables_1_5) (i := 133) rfl)
theorem zw499 : Cond.constantLong "DiodeLinkModel" 157 (Int64.ofInt (255)) ∈ lw_tbl := zin_6 _ (List.mem_of_getElem? (l := tables_1_6) (i := 61) rfl)
theorem zw500 : Cond.methodLink "DiodeLinkModel" 247 ⟨"DiodeLinkModel", "drop", "(III)V"⟩ ∈ lw_tbl := zin_6 _ (List.mem_of_getElem? (l := tables_1_6) (i := 204) rfl)
theorem zw501 : Cond.constant "DiodeLinkModel" 349 (Int32.ofInt (65535)) ∈ lw_tbl := zin_7 _ (List.mem_of_getElem? (l := tables_1_7) (i := 76) rfl)
theorem zw502 : Cond.methodLink "DiodeLinkModel" 257 ⟨"DiodeLinkModel", "placeOf", "(II)I"⟩ ∈ lw_tbl := zin_6 _ (List.mem_of_getElem? (l := tables_1_6) (i := 192) rfl)
theorem zw503 : Cond.methodLink "DiodeLinkModel" 350 ⟨"DiodeLinkModel", "wasReleased", "(II)Z"⟩ ∈ lw_tbl := zin_7 _ (List.mem_of_getElem? (l := tables_1_7) (i := 77) rfl)
theorem zw504 : Cond.methodLink "DiodeLinkModel" 229 ⟨"DiodeLinkModel", "hashOf", "(I)J"⟩ ∈ lw_tbl := zin_6 _ (List.mem_of_getElem? (l := tables_1_6) (i := 144) rfl)
theorem zw505 : Cond.methodLink "DiodeLinkModel" 237 ⟨"DiodeLinkModel", "eight", "(II)J"⟩ ∈ lw_tbl := zin_6 _ (List.mem_of_getElem? (l := tables_1_6) (i := 156) rfl)
theorem zw506 : Cond.methodLink "DiodeLinkModel" 309 ⟨"DiodeLinkModel", "drops", "(I)I"⟩ ∈ lw_tbl := zin_6 _ (List.mem_of_getElem? (l := tables_1_6) (i := 180) rfl)
theorem zw507 : Cond.fieldLink "DiodeLinkModel" 312 "DiodeLinkModel" "greatest" "I" ∈ lw_tbl := zin_5 _ (List.mem_of_getElem? (l := tables_1_5) (i := 153) rfl)
theorem zw508 : Cond.methodLink "DiodeLinkModel" 244 ⟨"DiodeLinkModel", "unsize", "()V"⟩ ∈ lw_tbl := zin_6 _ (List.mem_of_getElem? (l := tables_1_6) (i := 172) rfl)
theorem zw509 : Cond.methodLink "DiodeLinkModel" 315 ⟨"DiodeLinkModel", "canBe", "(I)Z"⟩ ∈ lw_tbl := zin_6 _ (List.mem_of_getElem? (l := tables_1_6) (i := 184) rfl)
theorem zw510 : Cond.methodLink "DiodeLinkModel" 318 ⟨"DiodeLinkModel", "hears", "(II)I"⟩ ∈ lw_tbl := zin_6 _ (List.mem_of_getElem? (l := tables_1_6) (i := 188) rfl)
theorem zw511 : Cond.methodLink "DiodeLinkModel" 321 ⟨"DiodeLinkModel", "takes", "(IIII)I"⟩ ∈ lw_tbl := zin_6 _ (List.mem_of_getElem? (l := tables_1_6) (i := 216) rfl)
theorem zw512 : Cond.methodLink "DiodeLinkModel" 260 ⟨"DiodeLinkModel", "empty", "(I)V"⟩ ∈ lw_tbl := zin_6 _ (List.mem_of_getElem? (l := tables_1_6) (i := 196) rfl)
theorem zw513 : Cond.methodLink "DiodeLinkModel" 263 ⟨"DiodeLinkModel", "shift", "(I)V"⟩ ∈ lw_tbl := zin_6 _ (List.mem_of_getElem? (l := tables_1_6) (i := 208) rfl)
theorem zw514 : Cond.fieldLink "DiodeLinkModel" 356 "DiodeLinkModel" "entries" "I" ∈ lw_tbl := zin_5 _ (List.mem_of_getElem? (l := tables_1_5) (i := 179) rfl)
theorem zw515 : Cond.methodLink "DiodeLinkModel" 272 ⟨"DiodeLinkModel", "isBelow", "(III)Z"⟩ ∈ lw_tbl := zin_7 _ (List.mem_of_getElem? (l := tables_1_7) (i := 36) rfl)
theorem zw516 : Cond.fieldLink "DiodeLinkModel" 359 "DiodeLinkModel" "before" "J" ∈ lw_tbl := zin_5 _ (List.mem_of_getElem? (l := tables_1_5) (i := 180) rfl)
theorem zw517 : Cond.methodLink "DiodeLinkModel" 363 ⟨"DiodeLinkModel", "linked", "(JI)J"⟩ ∈ lw_tbl := zin_7 _ (List.mem_of_getElem? (l := tables_1_7) (i := 60) rfl)
theorem zw518 : Cond.methodLink "DiodeLinkModel" 159 ⟨"DiodeLinkModel", "order", "(I)I"⟩ ∈ lw_tbl := zin_6 _ (List.mem_of_getElem? (l := tables_1_6) (i := 74) rfl)
theorem zw519 : Cond.methodLink "DiodeLinkModel" 366 ⟨"DiodeLinkModel", "isKept", "(I)Z"⟩ ∈ lw_tbl := zin_7 _ (List.mem_of_getElem? (l := tables_1_7) (i := 105) rfl)
theorem zw520 : Cond.methodLink "DiodeLinkModel" 296 ⟨"DiodeLinkModel", "reject", "(III)V"⟩ ∈ lw_tbl := zin_7 _ (List.mem_of_getElem? (l := tables_1_7) (i := 52) rfl)
theorem zw521 : Cond.methodLink "DiodeLinkModel" 299 ⟨"DiodeLinkModel", "breaks", "(III)Z"⟩ ∈ lw_tbl := zin_7 _ (List.mem_of_getElem? (l := tables_1_7) (i := 64) rfl)
theorem zw522 : Cond.methodLink "DiodeLinkModel" 208 ⟨"DiodeLinkModel", "within", "(III)I"⟩ ∈ lw_tbl := zin_6 _ (List.mem_of_getElem? (l := tables_1_6) (i := 122) rfl)
theorem zw523 : Cond.methodLink "DiodeLinkModel" 178 ⟨"DiodeLinkModel", "told", "(III)I"⟩ ∈ lw_tbl := zin_6 _ (List.mem_of_getElem? (l := tables_1_6) (i := 98) rfl)
theorem zw524 : Cond.constant "DiodeLinkModel" 200 (Int32.ofInt (40503)) ∈ lw_tbl := zin_6 _ (List.mem_of_getElem? (l := tables_1_6) (i := 135) rfl)
theorem zw525 : Cond.constantLong "DiodeLinkModel" 139 (Int64.ofInt (1099511628211)) ∈ lw_tbl := zin_6 _ (List.mem_of_getElem? (l := tables_1_6) (i := 109) rfl)
theorem zw526 : Cond.methodLink "DiodeLinkModel" 331 ⟨"DiodeLinkModel", "rowsOf", "(II)I"⟩ ∈ lw_tbl := zin_6 _ (List.mem_of_getElem? (l := tables_1_6) (i := 232) rfl)
theorem zw527 : Cond.methodLink "DiodeLinkModel" 302 ⟨"DiodeLinkModel", "note", "(IIII)V"⟩ ∈ lw_tbl := zin_7 _ (List.mem_of_getElem? (l := tables_1_7) (i := 56) rfl)
theorem zw528 : Cond.methodLink "DiodeLinkModel" 353 ⟨"DiodeLinkModel", "keep", "(II)V"⟩ ∈ lw_tbl := zin_7 _ (List.mem_of_getElem? (l := tables_1_7) (i := 89) rfl)
theorem zw529 : Cond.methodLink "DiodeLinkModel" 167 ⟨"DiodeLinkModel", "place", "(I)I"⟩ ∈ lw_tbl := zin_6 _ (List.mem_of_getElem? (l := tables_1_6) (i := 70) rfl)
theorem zw530 : Cond.methodLink "DiodeLinkModel" 170 ⟨"DiodeLinkModel", "isThere", "(II)Z"⟩ ∈ lw_tbl := zin_6 _ (List.mem_of_getElem? (l := tables_1_6) (i := 78) rfl)
theorem zw531 : Cond.methodLink "DiodeLinkModel" 174 ⟨"DiodeLinkModel", "move", "(II)V"⟩ ∈ lw_tbl := zin_6 _ (List.mem_of_getElem? (l := tables_1_6) (i := 82) rfl)
theorem zw532 : Cond.methodLink "DiodeLinkModel" 266 ⟨"DiodeLinkModel", "hasRows", "(I)Z"⟩ ∈ lw_tbl := zin_6 _ (List.mem_of_getElem? (l := tables_1_6) (i := 228) rfl)
theorem zw533 : Cond.methodLink "DiodeLinkModel" 211 ⟨"DiodeLinkModel", "look", "(II)I"⟩ ∈ lw_tbl := zin_6 _ (List.mem_of_getElem? (l := tables_1_6) (i := 118) rfl)
theorem zw534 : Cond.methodLink "DiodeLinkModel" 217 ⟨"DiodeLinkModel", "mask", "(IIIII)I"⟩ ∈ lw_tbl := zin_6 _ (List.mem_of_getElem? (l := tables_1_6) (i := 132) rfl)
theorem zw535 : Cond.methodLink "DiodeLinkModel" 221 ⟨"DiodeLinkModel", "piece", "(III)J"⟩ ∈ lw_tbl := zin_6 _ (List.mem_of_getElem? (l := tables_1_6) (i := 136) rfl)
theorem zw536 : Cond.methodLink "DiodeLinkModel" 225 ⟨"DiodeLinkModel", "lay", "(IIJI)V"⟩ ∈ lw_tbl := zin_6 _ (List.mem_of_getElem? (l := tables_1_6) (i := 140) rfl)
theorem zw537 : Cond.methodLink "DiodeLinkModel" 293 ⟨"DiodeLinkModel", "borrows", "(II)Z"⟩ ∈ lw_tbl := zin_7 _ (List.mem_of_getElem? (l := tables_1_7) (i := 44) rfl)
theorem zw538 : Cond.methodLink "DiodeLinkModel" 254 ⟨"DiodeLinkModel", "clear", "(I)V"⟩ ∈ lw_tbl := zin_6 _ (List.mem_of_getElem? (l := tables_1_6) (i := 212) rfl)
theorem zw539 : Cond.methodLink "DiodeLinkModel" 325 ⟨"DiodeLinkModel", "sum", "(III)I"⟩ ∈ lw_tbl := zin_6 _ (List.mem_of_getElem? (l := tables_1_6) (i := 220) rfl)
theorem zw540 : Cond.methodLink "DiodeLinkModel" 346 ⟨"DiodeLinkModel", "together", "(III)J"⟩ ∈ lw_tbl := zin_7 _ (List.mem_of_getElem? (l := tables_1_7) (i := 0) rfl)
theorem zw541 : Cond.methodLink "DiodeLinkModel" 328 ⟨"DiodeLinkModel", "room", "()Z"⟩ ∈ lw_tbl := zin_6 _ (List.mem_of_getElem? (l := tables_1_6) (i := 224) rfl)
theorem zw542 : Cond.methodLink "DiodeLinkModel" 334 ⟨"DiodeLinkModel", "solve", "(III)V"⟩ ∈ lw_tbl := zin_6 _ (List.mem_of_getElem? (l := tables_1_6) (i := 236) rfl)
theorem zw543 : Cond.methodLink "DiodeLinkModel" 337 ⟨"DiodeLinkModel", "completes", "(II)V"⟩ ∈ lw_tbl := zin_7 _ (List.mem_of_getElem? (l := tables_1_7) (i := 8) rfl)
theorem zw544 : Cond.methodLink "DiodeLinkModel" 340 ⟨"DiodeLinkModel", "share", "(I)V"⟩ ∈ lw_tbl := zin_7 _ (List.mem_of_getElem? (l := tables_1_7) (i := 40) rfl)
theorem zw545 : Cond.methodLink "DiodeLinkModel" 343 ⟨"DiodeLinkModel", "judge", "(I)V"⟩ ∈ lw_tbl := zin_7 _ (List.mem_of_getElem? (l := tables_1_7) (i := 48) rfl)
theorem zw546 : Cond.methodLink "DiodeLinkModel" 163 ⟨"DiodeLinkModel", "isName", "()Z"⟩ ∈ lw_tbl := zin_6 _ (List.mem_of_getElem? (l := tables_1_6) (i := 66) rfl)
theorem zw547 : Cond.classLink "DiodeLinkLaw" 13 "java/lang/IllegalArgumentException" ∈ lw_tbl := zin_2 _ (List.mem_of_getElem? (l := tables_1_2) (i := 93) rfl)
theorem zw548 : Cond.classLink "DiodeLinkLaw" 15 "java/lang/IllegalStateException" ∈ lw_tbl := zin_2 _ (List.mem_of_getElem? (l := tables_1_2) (i := 94) rfl)
theorem zw549 : Cond.classLink "DiodeLinkLaw" 68 "java/lang/IndexOutOfBoundsException" ∈ lw_tbl := zin_5 _ (List.mem_of_getElem? (l := tables_1_5) (i := 53) rfl)
theorem zw550 : Cond.instanceMethod ⟨"DiodeLink", "<init>", "()V"⟩ ∈ lw_tbl := zin_1 _ (List.mem_of_getElem? (l := tables_1_1) (i := 24) rfl)
theorem zw551 : Cond.initialized "DiodeLink" ∈ lw_tbl := zin_1 _ (List.mem_of_getElem? (l := tables_1_1) (i := 1) rfl)
theorem zw552 : Cond.code ⟨"DiodeLink", "<init>", "()V"⟩ prog_1_method_1_code 2 (none) ∈ lw_tbl := zin_1 _ (List.mem_of_getElem? (l := tables_1_1) (i := 25) rfl)
theorem zw553 : Cond.instanceMethod ⟨"DiodeLink", "alter", "(III)V"⟩ ∈ lw_tbl := zin_3 _ (List.mem_of_getElem? (l := tables_1_3) (i := 157) rfl)
theorem zw554 : Cond.code ⟨"DiodeLink", "alter", "(III)V"⟩ prog_1_method_8_code 4 (none) ∈ lw_tbl := zin_3 _ (List.mem_of_getElem? (l := tables_1_3) (i := 159) rfl)
theorem zw555 : Cond.selects "DiodeLink" ⟨"DiodeLink", "alter", "(III)V"⟩ ⟨"DiodeLink", "alter", "(III)V"⟩ ∈ lw_tbl := zin_3 _ (List.mem_of_getElem? (l := tables_1_3) (i := 158) rfl)
theorem zw556 : Cond.static ⟨"DiodeLink", "checkFolder", "(I)V"⟩ ∈ lw_tbl := zin_3 _ (List.mem_of_getElem? (l := tables_1_3) (i := 32) rfl)
theorem zw557 : Cond.code ⟨"DiodeLink", "checkFolder", "(I)V"⟩ prog_1_method_23_code 1 (none) ∈ lw_tbl := zin_3 _ (List.mem_of_getElem? (l := tables_1_3) (i := 33) rfl)
theorem zw558 : Cond.instanceMethod ⟨"DiodeLink", "checkSlot", "(I)V"⟩ ∈ lw_tbl := zin_3 _ (List.mem_of_getElem? (l := tables_1_3) (i := 148) rfl)
theorem zw559 : Cond.code ⟨"DiodeLink", "checkSlot", "(I)V"⟩ prog_1_method_25_code 2 (none) ∈ lw_tbl := zin_3 _ (List.mem_of_getElem? (l := tables_1_3) (i := 149) rfl)
theorem zw560 : Cond.selects "DiodeLink" ⟨"DiodeLink", "checkSlot", "(I)V"⟩ ⟨"DiodeLink", "checkSlot", "(I)V"⟩ ∈ lw_tbl := zin_s _ (List.mem_of_getElem? (l := k2_sels lw_privs) (i := 11) rfl)
theorem zw561 : Cond.static ⟨"DiodeLink", "checkVersion", "(II)V"⟩ ∈ lw_tbl := zin_5 _ (List.mem_of_getElem? (l := tables_1_5) (i := 2) rfl)
theorem zw562 : Cond.code ⟨"DiodeLink", "checkVersion", "(II)V"⟩ prog_1_method_24_code 2 (none) ∈ lw_tbl := zin_5 _ (List.mem_of_getElem? (l := tables_1_5) (i := 3) rfl)
theorem zw563 : Cond.instanceMethod ⟨"DiodeLink", "commit", "(I)I"⟩ ∈ lw_tbl := zin_3 _ (List.mem_of_getElem? (l := tables_1_3) (i := 28) rfl)
theorem zw564 : Cond.code ⟨"DiodeLink", "commit", "(I)I"⟩ prog_1_method_5_code 3 (some .int) ∈ lw_tbl := zin_3 _ (List.mem_of_getElem? (l := tables_1_3) (i := 30) rfl)
theorem zw565 : Cond.selects "DiodeLink" ⟨"DiodeLink", "commit", "(I)I"⟩ ⟨"DiodeLink", "commit", "(I)I"⟩ ∈ lw_tbl := zin_3 _ (List.mem_of_getElem? (l := tables_1_3) (i := 29) rfl)
theorem zw566 : Cond.instanceMethod ⟨"DiodeLink", "count", "(I)I"⟩ ∈ lw_tbl := zin_5 _ (List.mem_of_getElem? (l := tables_1_5) (i := 114) rfl)
theorem zw567 : Cond.code ⟨"DiodeLink", "count", "(I)I"⟩ prog_1_method_21_code 2 (some .int) ∈ lw_tbl := zin_5 _ (List.mem_of_getElem? (l := tables_1_5) (i := 116) rfl)
theorem zw568 : Cond.selects "DiodeLink" ⟨"DiodeLink", "count", "(I)I"⟩ ⟨"DiodeLink", "count", "(I)I"⟩ ∈ lw_tbl := zin_5 _ (List.mem_of_getElem? (l := tables_1_5) (i := 115) rfl)
theorem zw569 : Cond.instanceMethod ⟨"DiodeLink", "feed", "(ZJI)I"⟩ ∈ lw_tbl := zin_2 _ (List.mem_of_getElem? (l := tables_1_2) (i := 96) rfl)
theorem zw570 : Cond.code ⟨"DiodeLink", "feed", "(ZJI)I"⟩ prog_1_method_2_code 6 (some .int) ∈ lw_tbl := zin_2 _ (List.mem_of_getElem? (l := tables_1_2) (i := 98) rfl)
theorem zw571 : Cond.selects "DiodeLink" ⟨"DiodeLink", "feed", "(ZJI)I"⟩ ⟨"DiodeLink", "feed", "(ZJI)I"⟩ ∈ lw_tbl := zin_2 _ (List.mem_of_getElem? (l := tables_1_2) (i := 97) rfl)
theorem zw572 : Cond.instanceMethod ⟨"DiodeLink", "file", "(IIIZ)I"⟩ ∈ lw_tbl := zin_5 _ (List.mem_of_getElem? (l := tables_1_5) (i := 55) rfl)
theorem zw573 : Cond.code ⟨"DiodeLink", "file", "(IIIZ)I"⟩ prog_1_method_17_code 7 (some .int) ∈ lw_tbl := zin_5 _ (List.mem_of_getElem? (l := tables_1_5) (i := 57) rfl)
theorem zw574 : Cond.selects "DiodeLink" ⟨"DiodeLink", "file", "(IIIZ)I"⟩ ⟨"DiodeLink", "file", "(IIIZ)I"⟩ ∈ lw_tbl := zin_5 _ (List.mem_of_getElem? (l := tables_1_5) (i := 56) rfl)
theorem zw575 : Cond.instanceMethod ⟨"DiodeLink", "have", "(II)I"⟩ ∈ lw_tbl := zin_4 _ (List.mem_of_getElem? (l := tables_1_4) (i := 238) rfl)
theorem zw576 : Cond.code ⟨"DiodeLink", "have", "(II)I"⟩ prog_1_method_13_code 3 (some .int) ∈ lw_tbl := zin_5 _ (List.mem_of_getElem? (l := tables_1_5) (i := 0) rfl)
theorem zw577 : Cond.selects "DiodeLink" ⟨"DiodeLink", "have", "(II)I"⟩ ⟨"DiodeLink", "have", "(II)I"⟩ ∈ lw_tbl := zin_4 _ (List.mem_of_getElem? (l := tables_1_4) (i := 239) rfl)
theorem zw578 : Cond.instanceMethod ⟨"DiodeLink", "hear", "(I)I"⟩ ∈ lw_tbl := zin_3 _ (List.mem_of_getElem? (l := tables_1_3) (i := 173) rfl)
theorem zw579 : Cond.code ⟨"DiodeLink", "hear", "(I)I"⟩ prog_1_method_9_code 2 (some .int) ∈ lw_tbl := zin_3 _ (List.mem_of_getElem? (l := tables_1_3) (i := 175) rfl)
theorem zw580 : Cond.selects "DiodeLink" ⟨"DiodeLink", "hear", "(I)I"⟩ ⟨"DiodeLink", "hear", "(I)I"⟩ ∈ lw_tbl := zin_3 _ (List.mem_of_getElem? (l := tables_1_3) (i := 174) rfl)
theorem zw581 : Cond.static ⟨"DiodeLink", "isFolder", "(I)Z"⟩ ∈ lw_tbl := zin_2 _ (List.mem_of_getElem? (l := tables_1_2) (i := 200) rfl)
theorem zw582 : Cond.code ⟨"DiodeLink", "isFolder", "(I)Z"⟩ prog_1_method_22_code 1 (some .boolean) ∈ lw_tbl := zin_2 _ (List.mem_of_getElem? (l := tables_1_2) (i := 201) rfl)
theorem zw583 : Cond.instanceMethod ⟨"DiodeLink", "isSound", "()Z"⟩ ∈ lw_tbl := zin_2 _ (List.mem_of_getElem? (l := tables_1_2) (i := 43) rfl)
theorem zw584 : Cond.code ⟨"DiodeLink", "isSound", "()Z"⟩ prog_1_method_20_code 1 (some .boolean) ∈ lw_tbl := zin_2 _ (List.mem_of_getElem? (l := tables_1_2) (i := 45) rfl)
theorem zw585 : Cond.selects "DiodeLink" ⟨"DiodeLink", "isSound", "()Z"⟩ ⟨"DiodeLink", "isSound", "()Z"⟩ ∈ lw_tbl := zin_2 _ (List.mem_of_getElem? (l := tables_1_2) (i := 44) rfl)
theorem zw586 : Cond.instanceMethod ⟨"DiodeLink", "journal", "(II)J"⟩ ∈ lw_tbl := zin_5 _ (List.mem_of_getElem? (l := tables_1_5) (i := 84) rfl)
theorem zw587 : Cond.code ⟨"DiodeLink", "journal", "(II)J"⟩ prog_1_method_18_code 3 (some .long) ∈ lw_tbl := zin_5 _ (List.mem_of_getElem? (l := tables_1_5) (i := 86) rfl)
theorem zw588 : Cond.selects "DiodeLink" ⟨"DiodeLink", "journal", "(II)J"⟩ ⟨"DiodeLink", "journal", "(II)J"⟩ ∈ lw_tbl := zin_5 _ (List.mem_of_getElem? (l := tables_1_5) (i := 85) rfl)
theorem zw589 : Cond.instanceMethod ⟨"DiodeLink", "packet", "(II)J"⟩ ∈ lw_tbl := zin_3 _ (List.mem_of_getElem? (l := tables_1_3) (i := 143) rfl)
theorem zw590 : Cond.code ⟨"DiodeLink", "packet", "(II)J"⟩ prog_1_method_7_code 3 (some .long) ∈ lw_tbl := zin_3 _ (List.mem_of_getElem? (l := tables_1_3) (i := 145) rfl)
theorem zw591 : Cond.selects "DiodeLink" ⟨"DiodeLink", "packet", "(II)J"⟩ ⟨"DiodeLink", "packet", "(II)J"⟩ ∈ lw_tbl := zin_3 _ (List.mem_of_getElem? (l := tables_1_3) (i := 144) rfl)
theorem zw592 : Cond.instanceMethod ⟨"DiodeLink", "rank", "(IIII)I"⟩ ∈ lw_tbl := zin_5 _ (List.mem_of_getElem? (l := tables_1_5) (i := 14) rfl)
theorem zw593 : Cond.code ⟨"DiodeLink", "rank", "(IIII)I"⟩ prog_1_method_14_code 5 (some .int) ∈ lw_tbl := zin_5 _ (List.mem_of_getElem? (l := tables_1_5) (i := 16) rfl)
theorem zw594 : Cond.selects "DiodeLink" ⟨"DiodeLink", "rank", "(IIII)I"⟩ ⟨"DiodeLink", "rank", "(IIII)I"⟩ ∈ lw_tbl := zin_5 _ (List.mem_of_getElem? (l := tables_1_5) (i := 15) rfl)
theorem zw595 : Cond.instanceMethod ⟨"DiodeLink", "release", "(I)I"⟩ ∈ lw_tbl := zin_5 _ (List.mem_of_getElem? (l := tables_1_5) (i := 26) rfl)
theorem zw596 : Cond.code ⟨"DiodeLink", "release", "(I)I"⟩ prog_1_method_15_code 2 (some .int) ∈ lw_tbl := zin_5 _ (List.mem_of_getElem? (l := tables_1_5) (i := 28) rfl)
theorem zw597 : Cond.selects "DiodeLink" ⟨"DiodeLink", "release", "(I)I"⟩ ⟨"DiodeLink", "release", "(I)I"⟩ ∈ lw_tbl := zin_5 _ (List.mem_of_getElem? (l := tables_1_5) (i := 27) rfl)
theorem zw598 : Cond.instanceMethod ⟨"DiodeLink", "released", "(I)I"⟩ ∈ lw_tbl := zin_5 _ (List.mem_of_getElem? (l := tables_1_5) (i := 42) rfl)
theorem zw599 : Cond.code ⟨"DiodeLink", "released", "(I)I"⟩ prog_1_method_16_code 2 (some .int) ∈ lw_tbl := zin_5 _ (List.mem_of_getElem? (l := tables_1_5) (i := 44) rfl)
theorem zw600 : Cond.selects "DiodeLink" ⟨"DiodeLink", "released", "(I)I"⟩ ⟨"DiodeLink", "released", "(I)I"⟩ ∈ lw_tbl := zin_5 _ (List.mem_of_getElem? (l := tables_1_5) (i := 43) rfl)
theorem zw601 : Cond.instanceMethod ⟨"DiodeLink", "remove", "(I)Z"⟩ ∈ lw_tbl := zin_3 _ (List.mem_of_getElem? (l := tables_1_3) (i := 16) rfl)
theorem zw602 : Cond.code ⟨"DiodeLink", "remove", "(I)Z"⟩ prog_1_method_4_code 4 (some .boolean) ∈ lw_tbl := zin_3 _ (List.mem_of_getElem? (l := tables_1_3) (i := 18) rfl)
theorem zw603 : Cond.selects "DiodeLink" ⟨"DiodeLink", "remove", "(I)Z"⟩ ⟨"DiodeLink", "remove", "(I)Z"⟩ ∈ lw_tbl := zin_3 _ (List.mem_of_getElem? (l := tables_1_3) (i := 17) rfl)
theorem zw604 : Cond.instanceMethod ⟨"DiodeLink", "restartReceiver", "()V"⟩ ∈ lw_tbl := zin_2 _ (List.mem_of_getElem? (l := tables_1_2) (i := 31) rfl)
theorem zw605 : Cond.code ⟨"DiodeLink", "restartReceiver", "()V"⟩ prog_1_method_11_code 1 (none) ∈ lw_tbl := zin_2 _ (List.mem_of_getElem? (l := tables_1_2) (i := 33) rfl)
theorem zw606 : Cond.selects "DiodeLink" ⟨"DiodeLink", "restartReceiver", "()V"⟩ ⟨"DiodeLink", "restartReceiver", "()V"⟩ ∈ lw_tbl := zin_2 _ (List.mem_of_getElem? (l := tables_1_2) (i := 32) rfl)
theorem zw607 : Cond.instanceMethod ⟨"DiodeLink", "restartSender", "()I"⟩ ∈ lw_tbl := zin_4 _ (List.mem_of_getElem? (l := tables_1_4) (i := 207) rfl)
theorem zw608 : Cond.code ⟨"DiodeLink", "restartSender", "()I"⟩ prog_1_method_10_code 1 (some .int) ∈ lw_tbl := zin_4 _ (List.mem_of_getElem? (l := tables_1_4) (i := 209) rfl)
theorem zw609 : Cond.selects "DiodeLink" ⟨"DiodeLink", "restartSender", "()I"⟩ ⟨"DiodeLink", "restartSender", "()I"⟩ ∈ lw_tbl := zin_4 _ (List.mem_of_getElem? (l := tables_1_4) (i := 208) rfl)
theorem zw610 : Cond.instanceMethod ⟨"DiodeLink", "rule", "(IIZ)V"⟩ ∈ lw_tbl := zin_4 _ (List.mem_of_getElem? (l := tables_1_4) (i := 223) rfl)
theorem zw611 : Cond.code ⟨"DiodeLink", "rule", "(IIZ)V"⟩ prog_1_method_12_code 4 (none) ∈ lw_tbl := zin_4 _ (List.mem_of_getElem? (l := tables_1_4) (i := 225) rfl)
theorem zw612 : Cond.selects "DiodeLink" ⟨"DiodeLink", "rule", "(IIZ)V"⟩ ⟨"DiodeLink", "rule", "(IIZ)V"⟩ ∈ lw_tbl := zin_4 _ (List.mem_of_getElem? (l := tables_1_4) (i := 224) rfl)
theorem zw613 : Cond.instanceMethod ⟨"DiodeLink", "send", "()I"⟩ ∈ lw_tbl := zin_3 _ (List.mem_of_getElem? (l := tables_1_3) (i := 77) rfl)
theorem zw614 : Cond.code ⟨"DiodeLink", "send", "()I"⟩ prog_1_method_6_code 2 (some .int) ∈ lw_tbl := zin_3 _ (List.mem_of_getElem? (l := tables_1_3) (i := 79) rfl)
theorem zw615 : Cond.selects "DiodeLink" ⟨"DiodeLink", "send", "()I"⟩ ⟨"DiodeLink", "send", "()I"⟩ ∈ lw_tbl := zin_3 _ (List.mem_of_getElem? (l := tables_1_3) (i := 78) rfl)
theorem zw616 : Cond.instanceMethod ⟨"DiodeLink", "touch", "(III)V"⟩ ∈ lw_tbl := zin_5 _ (List.mem_of_getElem? (l := tables_1_5) (i := 103) rfl)
theorem zw617 : Cond.code ⟨"DiodeLink", "touch", "(III)V"⟩ prog_1_method_19_code 4 (none) ∈ lw_tbl := zin_5 _ (List.mem_of_getElem? (l := tables_1_5) (i := 105) rfl)
theorem zw618 : Cond.selects "DiodeLink" ⟨"DiodeLink", "touch", "(III)V"⟩ ⟨"DiodeLink", "touch", "(III)V"⟩ ∈ lw_tbl := zin_5 _ (List.mem_of_getElem? (l := tables_1_5) (i := 104) rfl)
theorem zw619 : Cond.instanceMethod ⟨"DiodeLink", "write", "(I)I"⟩ ∈ lw_tbl := zin_2 _ (List.mem_of_getElem? (l := tables_1_2) (i := 196) rfl)
theorem zw620 : Cond.code ⟨"DiodeLink", "write", "(I)I"⟩ prog_1_method_3_code 4 (some .int) ∈ lw_tbl := zin_2 _ (List.mem_of_getElem? (l := tables_1_2) (i := 198) rfl)
theorem zw621 : Cond.selects "DiodeLink" ⟨"DiodeLink", "write", "(I)I"⟩ ⟨"DiodeLink", "write", "(I)I"⟩ ∈ lw_tbl := zin_2 _ (List.mem_of_getElem? (l := tables_1_2) (i := 197) rfl)
theorem zw622 : Cond.instanceMethod ⟨"DiodeLink$Bytes", "<init>", "(I)V"⟩ ∈ lw_tbl := zin_1 _ (List.mem_of_getElem? (l := tables_1_1) (i := 32) rfl)
theorem zw623 : Cond.code ⟨"DiodeLink$Bytes", "<init>", "(I)V"⟩ prog_2_method_1_code 2 (none) ∈ lw_tbl := zin_1 _ (List.mem_of_getElem? (l := tables_1_1) (i := 33) rfl)
theorem zw624 : Cond.instanceMethod ⟨"DiodeLink$Bytes", "append", "(JI)V"⟩ ∈ lw_tbl := zin_2 _ (List.mem_of_getElem? (l := tables_1_2) (i := 70) rfl)
theorem zw625 : Cond.code ⟨"DiodeLink$Bytes", "append", "(JI)V"⟩ prog_2_method_11_code 5 (none) ∈ lw_tbl := zin_2 _ (List.mem_of_getElem? (l := tables_1_2) (i := 72) rfl)
theorem zw626 : Cond.selects "DiodeLink$Bytes" ⟨"DiodeLink$Bytes", "append", "(JI)V"⟩ ⟨"DiodeLink$Bytes", "append", "(JI)V"⟩ ∈ lw_tbl := zin_2 _ (List.mem_of_getElem? (l := tables_1_2) (i := 71) rfl)
theorem zw627 : Cond.instanceMethod ⟨"DiodeLink$Bytes", "appendAll", "(LDiodeLink$Bytes;)V"⟩ ∈ lw_tbl := zin_3 _ (List.mem_of_getElem? (l := tables_1_3) (i := 63) rfl)
theorem zw628 : Cond.code ⟨"DiodeLink$Bytes", "appendAll", "(LDiodeLink$Bytes;)V"⟩ prog_2_method_12_code 3 (none) ∈ lw_tbl := zin_3 _ (List.mem_of_getElem? (l := tables_1_3) (i := 65) rfl)
theorem zw629 : Cond.selects "DiodeLink$Bytes" ⟨"DiodeLink$Bytes", "appendAll", "(LDiodeLink$Bytes;)V"⟩ ⟨"DiodeLink$Bytes", "appendAll", "(LDiodeLink$Bytes;)V"⟩ ∈ lw_tbl := zin_3 _ (List.mem_of_getElem? (l := tables_1_3) (i := 64) rfl)
theorem zw630 : Cond.instanceMethod ⟨"DiodeLink$Bytes", "at", "(I)I"⟩ ∈ lw_tbl := zin_2 _ (List.mem_of_getElem? (l := tables_1_2) (i := 86) rfl)
theorem zw631 : Cond.code ⟨"DiodeLink$Bytes", "at", "(I)I"⟩ prog_2_method_6_code 2 (some .int) ∈ lw_tbl := zin_2 _ (List.mem_of_getElem? (l := tables_1_2) (i := 88) rfl)
theorem zw632 : Cond.selects "DiodeLink$Bytes" ⟨"DiodeLink$Bytes", "at", "(I)I"⟩ ⟨"DiodeLink$Bytes", "at", "(I)I"⟩ ∈ lw_tbl := zin_2 _ (List.mem_of_getElem? (l := tables_1_2) (i := 87) rfl)
theorem zw633 : Cond.instanceMethod ⟨"DiodeLink$Bytes", "clear", "()V"⟩ ∈ lw_tbl := zin_2 _ (List.mem_of_getElem? (l := tables_1_2) (i := 66) rfl)
theorem zw634 : Cond.code ⟨"DiodeLink$Bytes", "clear", "()V"⟩ prog_2_method_4_code 1 (none) ∈ lw_tbl := zin_2 _ (List.mem_of_getElem? (l := tables_1_2) (i := 68) rfl)
theorem zw635 : Cond.selects "DiodeLink$Bytes" ⟨"DiodeLink$Bytes", "clear", "()V"⟩ ⟨"DiodeLink$Bytes", "clear", "()V"⟩ ∈ lw_tbl := zin_2 _ (List.mem_of_getElem? (l := tables_1_2) (i := 67) rfl)
theorem zw636 : Cond.instanceMethod ⟨"DiodeLink$Bytes", "compareAll", "(LDiodeLink$Bytes;)I"⟩ ∈ lw_tbl := zin_2 _ (List.mem_of_getElem? (l := tables_1_2) (i := 219) rfl)
theorem zw637 : Cond.code ⟨"DiodeLink$Bytes", "compareAll", "(LDiodeLink$Bytes;)I"⟩ prog_2_method_17_code 2 (some .int) ∈ lw_tbl := zin_2 _ (List.mem_of_getElem? (l := tables_1_2) (i := 221) rfl)
theorem zw638 : Cond.selects "DiodeLink$Bytes" ⟨"DiodeLink$Bytes", "compareAll", "(LDiodeLink$Bytes;)I"⟩ ⟨"DiodeLink$Bytes", "compareAll", "(LDiodeLink$Bytes;)I"⟩ ∈ lw_tbl := zin_2 _ (List.mem_of_getElem? (l := tables_1_2) (i := 220) rfl)
theorem zw639 : Cond.instanceMethod ⟨"DiodeLink$Bytes", "compareParts", "(IILDiodeLink$Bytes;II)I"⟩ ∈ lw_tbl := zin_2 _ (List.mem_of_getElem? (l := tables_1_2) (i := 223) rfl)
theorem zw640 : Cond.code ⟨"DiodeLink$Bytes", "compareParts", "(IILDiodeLink$Bytes;II)I"⟩ prog_2_method_16_code 9 (some .int) ∈ lw_tbl := zin_2 _ (List.mem_of_getElem? (l := tables_1_2) (i := 225) rfl)
theorem zw641 : Cond.selects "DiodeLink$Bytes" ⟨"DiodeLink$Bytes", "compareParts", "(IILDiodeLink$Bytes;II)I"⟩ ⟨"DiodeLink$Bytes", "compareParts", "(IILDiodeLink$Bytes;II)I"⟩ ∈ lw_tbl := zin_2 _ (List.mem_of_getElem? (l := tables_1_2) (i := 224) rfl)
theorem zw642 : Cond.instanceMethod ⟨"DiodeLink$Bytes", "copyFrom", "(LDiodeLink$Bytes;)V"⟩ ∈ lw_tbl := zin_2 _ (List.mem_of_getElem? (l := tables_1_2) (i := 238) rfl)
theorem zw643 : Cond.code ⟨"DiodeLink$Bytes", "copyFrom", "(LDiodeLink$Bytes;)V"⟩ prog_2_method_13_code 2 (none) ∈ lw_tbl := zin_3 _ (List.mem_of_getElem? (l := tables_1_3) (i := 0) rfl)
theorem zw644 : Cond.selects "DiodeLink$Bytes" ⟨"DiodeLink$Bytes", "copyFrom", "(LDiodeLink$Bytes;)V"⟩ ⟨"DiodeLink$Bytes", "copyFrom", "(LDiodeLink$Bytes;)V"⟩ ∈ lw_tbl := zin_2 _ (List.mem_of_getElem? (l := tables_1_2) (i := 239) rfl)
theorem zw645 : Cond.instanceMethod ⟨"DiodeLink$Bytes", "hash", "(I)J"⟩ ∈ lw_tbl := zin_2 _ (List.mem_of_getElem? (l := tables_1_2) (i := 81) rfl)
theorem zw646 : Cond.code ⟨"DiodeLink$Bytes", "hash", "(I)J"⟩ prog_2_method_14_code 5 (some .long) ∈ lw_tbl := zin_2 _ (List.mem_of_getElem? (l := tables_1_2) (i := 83) rfl)
theorem zw647 : Cond.selects "DiodeLink$Bytes" ⟨"DiodeLink$Bytes", "hash", "(I)J"⟩ ⟨"DiodeLink$Bytes", "hash", "(I)J"⟩ ∈ lw_tbl := zin_2 _ (List.mem_of_getElem? (l := tables_1_2) (i := 82) rfl)
theorem zw648 : Cond.instanceMethod ⟨"DiodeLink$Bytes", "isName", "(II)Z"⟩ ∈ lw_tbl := zin_2 _ (List.mem_of_getElem? (l := tables_1_2) (i := 203) rfl)
theorem zw649 : Cond.code ⟨"DiodeLink$Bytes", "isName", "(II)Z"⟩ prog_2_method_15_code 4 (some .boolean) ∈ lw_tbl := zin_2 _ (List.mem_of_getElem? (l := tables_1_2) (i := 205) rfl)
theorem zw650 : Cond.selects "DiodeLink$Bytes" ⟨"DiodeLink$Bytes", "isName", "(II)Z"⟩ ⟨"DiodeLink$Bytes", "isName", "(II)Z"⟩ ∈ lw_tbl := zin_2 _ (List.mem_of_getElem? (l := tables_1_2) (i := 204) rfl)
theorem zw651 : Cond.instanceMethod ⟨"DiodeLink$Bytes", "limit", "()I"⟩ ∈ lw_tbl := zin_2 _ (List.mem_of_getElem? (l := tables_1_2) (i := 172) rfl)
theorem zw652 : Cond.code ⟨"DiodeLink$Bytes", "limit", "()I"⟩ prog_2_method_3_code 1 (some .int) ∈ lw_tbl := zin_2 _ (List.mem_of_getElem? (l := tables_1_2) (i := 174) rfl)
theorem zw653 : Cond.selects "DiodeLink$Bytes" ⟨"DiodeLink$Bytes", "limit", "()I"⟩ ⟨"DiodeLink$Bytes", "limit", "()I"⟩ ∈ lw_tbl := zin_2 _ (List.mem_of_getElem? (l := tables_1_2) (i := 173) rfl)
theorem zw654 : Cond.instanceMethod ⟨"DiodeLink$Bytes", "number", "(II)J"⟩ ∈ lw_tbl := zin_3 _ (List.mem_of_getElem? (l := tables_1_3) (i := 135) rfl)
theorem zw655 : Cond.code ⟨"DiodeLink$Bytes", "number", "(II)J"⟩ prog_2_method_9_code 6 (some .long) ∈ lw_tbl := zin_3 _ (List.mem_of_getElem? (l := tables_1_3) (i := 137) rfl)
theorem zw656 : Cond.selects "DiodeLink$Bytes" ⟨"DiodeLink$Bytes", "number", "(II)J"⟩ ⟨"DiodeLink$Bytes", "number", "(II)J"⟩ ∈ lw_tbl := zin_3 _ (List.mem_of_getElem? (l := tables_1_3) (i := 136) rfl)
theorem zw657 : Cond.instanceMethod ⟨"DiodeLink$Bytes", "put", "(II)V"⟩ ∈ lw_tbl := zin_3 _ (List.mem_of_getElem? (l := tables_1_3) (i := 166) rfl)
theorem zw658 : Cond.code ⟨"DiodeLink$Bytes", "put", "(II)V"⟩ prog_2_method_7_code 3 (none) ∈ lw_tbl := zin_3 _ (List.mem_of_getElem? (l := tables_1_3) (i := 168) rfl)
theorem zw659 : Cond.selects "DiodeLink$Bytes" ⟨"DiodeLink$Bytes", "put", "(II)V"⟩ ⟨"DiodeLink$Bytes", "put", "(II)V"⟩ ∈ lw_tbl := zin_3 _ (List.mem_of_getElem? (l := tables_1_3) (i := 167) rfl)
theorem zw660 : Cond.instanceMethod ⟨"DiodeLink$Bytes", "putNumber", "(IJI)V"⟩ ∈ lw_tbl := zin_4 _ (List.mem_of_getElem? (l := tables_1_4) (i := 76) rfl)
theorem zw661 : Cond.code ⟨"DiodeLink$Bytes", "putNumber", "(IJI)V"⟩ prog_2_method_10_code 6 (none) ∈ lw_tbl := zin_4 _ (List.mem_of_getElem? (l := tables_1_4) (i := 78) rfl)
theorem zw662 : Cond.selects "DiodeLink$Bytes" ⟨"DiodeLink$Bytes", "putNumber", "(IJI)V"⟩ ⟨"DiodeLink$Bytes", "putNumber", "(IJI)V"⟩ ∈ lw_tbl := zin_4 _ (List.mem_of_getElem? (l := tables_1_4) (i := 77) rfl)
theorem zw663 : Cond.instanceMethod ⟨"DiodeLink$Bytes", "resize", "(I)V"⟩ ∈ lw_tbl := zin_3 _ (List.mem_of_getElem? (l := tables_1_3) (i := 2) rfl)
theorem zw664 : Cond.code ⟨"DiodeLink$Bytes", "resize", "(I)V"⟩ prog_2_method_5_code 2 (none) ∈ lw_tbl := zin_3 _ (List.mem_of_getElem? (l := tables_1_3) (i := 4) rfl)
theorem zw665 : Cond.selects "DiodeLink$Bytes" ⟨"DiodeLink$Bytes", "resize", "(I)V"⟩ ⟨"DiodeLink$Bytes", "resize", "(I)V"⟩ ∈ lw_tbl := zin_3 _ (List.mem_of_getElem? (l := tables_1_3) (i := 3) rfl)
theorem zw666 : Cond.instanceMethod ⟨"DiodeLink$Bytes", "size", "()I"⟩ ∈ lw_tbl := zin_2 _ (List.mem_of_getElem? (l := tables_1_2) (i := 168) rfl)
theorem zw667 : Cond.code ⟨"DiodeLink$Bytes", "size", "()I"⟩ prog_2_method_2_code 1 (some .int) ∈ lw_tbl := zin_2 _ (List.mem_of_getElem? (l := tables_1_2) (i := 170) rfl)
theorem zw668 : Cond.selects "DiodeLink$Bytes" ⟨"DiodeLink$Bytes", "size", "()I"⟩ ⟨"DiodeLink$Bytes", "size", "()I"⟩ ∈ lw_tbl := zin_2 _ (List.mem_of_getElem? (l := tables_1_2) (i := 169) rfl)
theorem zw669 : Cond.instanceMethod ⟨"DiodeLink$Bytes", "turn", "(II)V"⟩ ∈ lw_tbl := zin_3 _ (List.mem_of_getElem? (l := tables_1_3) (i := 162) rfl)
theorem zw670 : Cond.code ⟨"DiodeLink$Bytes", "turn", "(II)V"⟩ prog_2_method_8_code 3 (none) ∈ lw_tbl := zin_3 _ (List.mem_of_getElem? (l := tables_1_3) (i := 164) rfl)
theorem zw671 : Cond.selects "DiodeLink$Bytes" ⟨"DiodeLink$Bytes", "turn", "(II)V"⟩ ⟨"DiodeLink$Bytes", "turn", "(II)V"⟩ ∈ lw_tbl := zin_3 _ (List.mem_of_getElem? (l := tables_1_3) (i := 163) rfl)
theorem zw672 : Cond.static ⟨"DiodeLink$Cut", "blocks", "(I)I"⟩ ∈ lw_tbl := zin_3 _ (List.mem_of_getElem? (l := tables_1_3) (i := 103) rfl)
theorem zw673 : Cond.initialized "DiodeLink$Cut" ∈ lw_tbl := zin_1 _ (List.mem_of_getElem? (l := tables_1_1) (i := 19) rfl)
theorem zw674 : Cond.code ⟨"DiodeLink$Cut", "blocks", "(I)I"⟩ prog_3_method_2_code 1 (some .int) ∈ lw_tbl := zin_3 _ (List.mem_of_getElem? (l := tables_1_3) (i := 104) rfl)
theorem zw675 : Cond.static ⟨"DiodeLink$Cut", "mask", "(IIIII)I"⟩ ∈ lw_tbl := zin_3 _ (List.mem_of_getElem? (l := tables_1_3) (i := 131) rfl)
theorem zw676 : Cond.code ⟨"DiodeLink$Cut", "mask", "(IIIII)I"⟩ prog_3_method_5_code 8 (some .int) ∈ lw_tbl := zin_3 _ (List.mem_of_getElem? (l := tables_1_3) (i := 132) rfl)
theorem zw677 : Cond.static ⟨"DiodeLink$Cut", "packets", "(II)I"⟩ ∈ lw_tbl := zin_3 _ (List.mem_of_getElem? (l := tables_1_3) (i := 107) rfl)
theorem zw678 : Cond.code ⟨"DiodeLink$Cut", "packets", "(II)I"⟩ prog_3_method_4_code 2 (some .int) ∈ lw_tbl := zin_3 _ (List.mem_of_getElem? (l := tables_1_3) (i := 108) rfl)
theorem zw679 : Cond.static ⟨"DiodeLink$Cut", "pieces", "(II)I"⟩ ∈ lw_tbl := zin_3 _ (List.mem_of_getElem? (l := tables_1_3) (i := 110) rfl)
theorem zw680 : Cond.code ⟨"DiodeLink$Cut", "pieces", "(II)I"⟩ prog_3_method_3_code 3 (some .int) ∈ lw_tbl := zin_3 _ (List.mem_of_getElem? (l := tables_1_3) (i := 111) rfl)
theorem zw681 : Cond.instanceMethod ⟨"DiodeLink$Edition", "<init>", "()V"⟩ ∈ lw_tbl := zin_1 _ (List.mem_of_getElem? (l := tables_1_1) (i := 63) rfl)
theorem zw682 : Cond.code ⟨"DiodeLink$Edition", "<init>", "()V"⟩ prog_4_method_1_code 2 (none) ∈ lw_tbl := zin_1 _ (List.mem_of_getElem? (l := tables_1_1) (i := 64) rfl)
theorem zw683 : Cond.instanceMethod ⟨"DiodeLink$Edition", "appendPlace", "(LDiodeLink$Bytes;III)V"⟩ ∈ lw_tbl := zin_3 _ (List.mem_of_getElem? (l := tables_1_3) (i := 123) rfl)
theorem zw684 : Cond.code ⟨"DiodeLink$Edition", "appendPlace", "(LDiodeLink$Bytes;III)V"⟩ prog_4_method_5_code 5 (none) ∈ lw_tbl := zin_3 _ (List.mem_of_getElem? (l := tables_1_3) (i := 124) rfl)
theorem zw685 : Cond.selects "DiodeLink$Edition" ⟨"DiodeLink$Edition", "appendPlace", "(LDiodeLink$Bytes;III)V"⟩ ⟨"DiodeLink$Edition", "appendPlace", "(LDiodeLink$Bytes;III)V"⟩ ∈ lw_tbl := zin_s _ (List.mem_of_getElem? (l := k2_sels lw_privs) (i := 9) rfl)
theorem zw686 : Cond.instanceMethod ⟨"DiodeLink$Edition", "fillPacket", "(LDiodeLink$Bytes;III)V"⟩ ∈ lw_tbl := zin_3 _ (List.mem_of_getElem? (l := tables_1_3) (i := 118) rfl)
theorem zw687 : Cond.code ⟨"DiodeLink$Edition", "fillPacket", "(LDiodeLink$Bytes;III)V"⟩ prog_4_method_4_code 10 (none) ∈ lw_tbl := zin_3 _ (List.mem_of_getElem? (l := tables_1_3) (i := 120) rfl)
theorem zw688 : Cond.selects "DiodeLink$Edition" ⟨"DiodeLink$Edition", "fillPacket", "(LDiodeLink$Bytes;III)V"⟩ ⟨"DiodeLink$Edition", "fillPacket", "(LDiodeLink$Bytes;III)V"⟩ ∈ lw_tbl := zin_3 _ (List.mem_of_getElem? (l := tables_1_3) (i := 119) rfl)
theorem zw689 : Cond.instanceMethod ⟨"DiodeLink$Edition", "packets", "()I"⟩ ∈ lw_tbl := zin_3 _ (List.mem_of_getElem? (l := tables_1_3) (i := 99) rfl)
theorem zw690 : Cond.code ⟨"DiodeLink$Edition", "packets", "()I"⟩ prog_4_method_3_code 5 (some .int) ∈ lw_tbl := zin_3 _ (List.mem_of_getElem? (l := tables_1_3) (i := 101) rfl)
theorem zw691 : Cond.selects "DiodeLink$Edition" ⟨"DiodeLink$Edition", "packets", "()I"⟩ ⟨"DiodeLink$Edition", "packets", "()I"⟩ ∈ lw_tbl := zin_3 _ (List.mem_of_getElem? (l := tables_1_3) (i := 100) rfl)
theorem zw692 : Cond.instanceMethod ⟨"DiodeLink$Edition", "record", "(ILDiodeLink$Folder;)V"⟩ ∈ lw_tbl := zin_3 _ (List.mem_of_getElem? (l := tables_1_3) (i := 43) rfl)
theorem zw693 : Cond.code ⟨"DiodeLink$Edition", "record", "(ILDiodeLink$Folder;)V"⟩ prog_4_method_2_code 6 (none) ∈ lw_tbl := zin_3 _ (List.mem_of_getElem? (l := tables_1_3) (i := 45) rfl)
theorem zw694 : Cond.selects "DiodeLink$Edition" ⟨"DiodeLink$Edition", "record", "(ILDiodeLink$Folder;)V"⟩ ⟨"DiodeLink$Edition", "record", "(ILDiodeLink$Folder;)V"⟩ ∈ lw_tbl := zin_3 _ (List.mem_of_getElem? (l := tables_1_3) (i := 44) rfl)
theorem zw695 : Cond.instanceMethod ⟨"DiodeLink$Edition", "sum", "(III)J"⟩ ∈ lw_tbl := zin_3 _ (List.mem_of_getElem? (l := tables_1_3) (i := 127) rfl)
theorem zw696 : Cond.code ⟨"DiodeLink$Edition", "sum", "(III)J"⟩ prog_4_method_6_code 9 (some .long) ∈ lw_tbl := zin_3 _ (List.mem_of_getElem? (l := tables_1_3) (i := 128) rfl)
theorem zw697 : Cond.selects "DiodeLink$Edition" ⟨"DiodeLink$Edition", "sum", "(III)J"⟩ ⟨"DiodeLink$Edition", "sum", "(III)J"⟩ ∈ lw_tbl := zin_s _ (List.mem_of_getElem? (l := k2_sels lw_privs) (i := 10) rfl)
theorem zw698 : Cond.instanceMethod ⟨"DiodeLink$Folder", "<init>", "()V"⟩ ∈ lw_tbl := zin_1 _ (List.mem_of_getElem? (l := tables_1_1) (i := 53) rfl)
theorem zw699 : Cond.code ⟨"DiodeLink$Folder", "<init>", "()V"⟩ prog_5_method_1_code 2 (none) ∈ lw_tbl := zin_1 _ (List.mem_of_getElem? (l := tables_1_1) (i := 54) rfl)
theorem zw700 : Cond.instanceMethod ⟨"DiodeLink$Folder", "content", "(I)LDiodeLink$Bytes;"⟩ ∈ lw_tbl := zin_3 _ (List.mem_of_getElem? (l := tables_1_3) (i := 53) rfl)
theorem zw701 : Cond.code ⟨"DiodeLink$Folder", "content", "(I)LDiodeLink$Bytes;"⟩ prog_5_method_4_code 2 (some (.object "DiodeLink$Bytes")) ∈ lw_tbl := zin_3 _ (List.mem_of_getElem? (l := tables_1_3) (i := 55) rfl)
theorem zw702 : Cond.selects "DiodeLink$Folder" ⟨"DiodeLink$Folder", "content", "(I)LDiodeLink$Bytes;"⟩ ⟨"DiodeLink$Folder", "content", "(I)LDiodeLink$Bytes;"⟩ ∈ lw_tbl := zin_3 _ (List.mem_of_getElem? (l := tables_1_3) (i := 54) rfl)
theorem zw703 : Cond.instanceMethod ⟨"DiodeLink$Folder", "edition", "(I)LDiodeLink$Edition;"⟩ ∈ lw_tbl := zin_3 _ (List.mem_of_getElem? (l := tables_1_3) (i := 95) rfl)
theorem zw704 : Cond.code ⟨"DiodeLink$Folder", "edition", "(I)LDiodeLink$Edition;"⟩ prog_5_method_8_code 2 (some (.object "DiodeLink$Edition")) ∈ lw_tbl := zin_3 _ (List.mem_of_getElem? (l := tables_1_3) (i := 97) rfl)
theorem zw705 : Cond.selects "DiodeLink$Folder" ⟨"DiodeLink$Folder", "edition", "(I)LDiodeLink$Edition;"⟩ ⟨"DiodeLink$Folder", "edition", "(I)LDiodeLink$Edition;"⟩ ∈ lw_tbl := zin_3 _ (List.mem_of_getElem? (l := tables_1_3) (i := 96) rfl)
theorem zw706 : Cond.instanceMethod ⟨"DiodeLink$Folder", "files", "()I"⟩ ∈ lw_tbl := zin_3 _ (List.mem_of_getElem? (l := tables_1_3) (i := 47) rfl)
theorem zw707 : Cond.code ⟨"DiodeLink$Folder", "files", "()I"⟩ prog_5_method_2_code 1 (some .int) ∈ lw_tbl := zin_3 _ (List.mem_of_getElem? (l := tables_1_3) (i := 49) rfl)
theorem zw708 : Cond.selects "DiodeLink$Folder" ⟨"DiodeLink$Folder", "files", "()I"⟩ ⟨"DiodeLink$Folder", "files", "()I"⟩ ∈ lw_tbl := zin_3 _ (List.mem_of_getElem? (l := tables_1_3) (i := 48) rfl)
theorem zw709 : Cond.instanceMethod ⟨"DiodeLink$Folder", "isAt", "(ILDiodeLink$Bytes;)Z"⟩ ∈ lw_tbl := zin_2 _ (List.mem_of_getElem? (l := tables_1_2) (i := 231) rfl)
theorem zw710 : Cond.code ⟨"DiodeLink$Folder", "isAt", "(ILDiodeLink$Bytes;)Z"⟩ prog_5_method_10_code 3 (some .boolean) ∈ lw_tbl := zin_2 _ (List.mem_of_getElem? (l := tables_1_2) (i := 232) rfl)
theorem zw711 : Cond.selects "DiodeLink$Folder" ⟨"DiodeLink$Folder", "isAt", "(ILDiodeLink$Bytes;)Z"⟩ ⟨"DiodeLink$Folder", "isAt", "(ILDiodeLink$Bytes;)Z"⟩ ∈ lw_tbl := zin_s _ (List.mem_of_getElem? (l := k2_sels lw_privs) (i := 4) rfl)
theorem zw712 : Cond.instanceMethod ⟨"DiodeLink$Folder", "makeVersion", "()I"⟩ ∈ lw_tbl := zin_3 _ (List.mem_of_getElem? (l := tables_1_3) (i := 39) rfl)
theorem zw713 : Cond.code ⟨"DiodeLink$Folder", "makeVersion", "()I"⟩ prog_5_method_7_code 1 (some .int) ∈ lw_tbl := zin_3 _ (List.mem_of_getElem? (l := tables_1_3) (i := 41) rfl)
theorem zw714 : Cond.selects "DiodeLink$Folder" ⟨"DiodeLink$Folder", "makeVersion", "()I"⟩ ⟨"DiodeLink$Folder", "makeVersion", "()I"⟩ ∈ lw_tbl := zin_3 _ (List.mem_of_getElem? (l := tables_1_3) (i := 40) rfl)
theorem zw715 : Cond.instanceMethod ⟨"DiodeLink$Folder", "moveFile", "(II)V"⟩ ∈ lw_tbl := zin_2 _ (List.mem_of_getElem? (l := tables_1_2) (i := 235) rfl)
theorem zw716 : Cond.code ⟨"DiodeLink$Folder", "moveFile", "(II)V"⟩ prog_5_method_11_code 6 (none) ∈ lw_tbl := zin_2 _ (List.mem_of_getElem? (l := tables_1_2) (i := 236) rfl)
theorem zw717 : Cond.selects "DiodeLink$Folder" ⟨"DiodeLink$Folder", "moveFile", "(II)V"⟩ ⟨"DiodeLink$Folder", "moveFile", "(II)V"⟩ ∈ lw_tbl := zin_s _ (List.mem_of_getElem? (l := k2_sels lw_privs) (i := 5) rfl)
theorem zw718 : Cond.instanceMethod ⟨"DiodeLink$Folder", "name", "(I)LDiodeLink$Bytes;"⟩ ∈ lw_tbl := zin_3 _ (List.mem_of_getElem? (l := tables_1_3) (i := 58) rfl)
theorem zw719 : Cond.code ⟨"DiodeLink$Folder", "name", "(I)LDiodeLink$Bytes;"⟩ prog_5_method_3_code 2 (some (.object "DiodeLink$Bytes")) ∈ lw_tbl := zin_3 _ (List.mem_of_getElem? (l := tables_1_3) (i := 60) rfl)
theorem zw720 : Cond.selects "DiodeLink$Folder" ⟨"DiodeLink$Folder", "name", "(I)LDiodeLink$Bytes;"⟩ ⟨"DiodeLink$Folder", "name", "(I)LDiodeLink$Bytes;"⟩ ∈ lw_tbl := zin_3 _ (List.mem_of_getElem? (l := tables_1_3) (i := 59) rfl)
theorem zw721 : Cond.instanceMethod ⟨"DiodeLink$Folder", "placeOf", "(LDiodeLink$Bytes;)I"⟩ ∈ lw_tbl := zin_2 _ (List.mem_of_getElem? (l := tables_1_2) (i := 216) rfl)
theorem zw722 : Cond.code ⟨"DiodeLink$Folder", "placeOf", "(LDiodeLink$Bytes;)I"⟩ prog_5_method_9_code 3 (some .int) ∈ lw_tbl := zin_2 _ (List.mem_of_getElem? (l := tables_1_2) (i := 217) rfl)
theorem zw723 : Cond.selects "DiodeLink$Folder" ⟨"DiodeLink$Folder", "placeOf", "(LDiodeLink$Bytes;)I"⟩ ⟨"DiodeLink$Folder", "placeOf", "(LDiodeLink$Bytes;)I"⟩ ∈ lw_tbl := zin_s _ (List.mem_of_getElem? (l := k2_sels lw_privs) (i := 3) rfl)
theorem zw724 : Cond.instanceMethod ⟨"DiodeLink$Folder", "put", "(LDiodeLink$Bytes;LDiodeLink$Bytes;)I"⟩ ∈ lw_tbl := zin_2 _ (List.mem_of_getElem? (l := tables_1_2) (i := 211) rfl)
theorem zw725 : Cond.code ⟨"DiodeLink$Folder", "put", "(LDiodeLink$Bytes;LDiodeLink$Bytes;)I"⟩ prog_5_method_5_code 4 (some .int) ∈ lw_tbl := zin_2 _ (List.mem_of_getElem? (l := tables_1_2) (i := 213) rfl)
theorem zw726 : Cond.selects "DiodeLink$Folder" ⟨"DiodeLink$Folder", "put", "(LDiodeLink$Bytes;LDiodeLink$Bytes;)I"⟩ ⟨"DiodeLink$Folder", "put", "(LDiodeLink$Bytes;LDiodeLink$Bytes;)I"⟩ ∈ lw_tbl := zin_2 _ (List.mem_of_getElem? (l := tables_1_2) (i := 212) rfl)
theorem zw727 : Cond.instanceMethod ⟨"DiodeLink$Folder", "takeOut", "(LDiodeLink$Bytes;)Z"⟩ ∈ lw_tbl := zin_3 _ (List.mem_of_getElem? (l := tables_1_3) (i := 20) rfl)
theorem zw728 : Cond.code ⟨"DiodeLink$Folder", "takeOut", "(LDiodeLink$Bytes;)Z"⟩ prog_5_method_6_code 3 (some .boolean) ∈ lw_tbl := zin_3 _ (List.mem_of_getElem? (l := tables_1_3) (i := 22) rfl)
theorem zw729 : Cond.selects "DiodeLink$Folder" ⟨"DiodeLink$Folder", "takeOut", "(LDiodeLink$Bytes;)Z"⟩ ⟨"DiodeLink$Folder", "takeOut", "(LDiodeLink$Bytes;)Z"⟩ ∈ lw_tbl := zin_3 _ (List.mem_of_getElem? (l := tables_1_3) (i := 21) rfl)
theorem zw730 : Cond.instanceMethod ⟨"DiodeLink$Journal", "<init>", "()V"⟩ ∈ lw_tbl := zin_1 _ (List.mem_of_getElem? (l := tables_1_1) (i := 130) rfl)
theorem zw731 : Cond.code ⟨"DiodeLink$Journal", "<init>", "()V"⟩ prog_6_method_1_code 1 (none) ∈ lw_tbl := zin_1 _ (List.mem_of_getElem? (l := tables_1_1) (i := 131) rfl)
theorem zw732 : Cond.instanceMethod ⟨"DiodeLink$Journal", "dueLink", "(JI)J"⟩ ∈ lw_tbl := zin_2 _ (List.mem_of_getElem? (l := tables_1_2) (i := 63) rfl)
theorem zw733 : Cond.code ⟨"DiodeLink$Journal", "dueLink", "(JI)J"⟩ prog_6_method_11_code 4 (some .long) ∈ lw_tbl := zin_2 _ (List.mem_of_getElem? (l := tables_1_2) (i := 64) rfl)
theorem zw734 : Cond.selects "DiodeLink$Journal" ⟨"DiodeLink$Journal", "dueLink", "(JI)J"⟩ ⟨"DiodeLink$Journal", "dueLink", "(JI)J"⟩ ∈ lw_tbl := zin_s _ (List.mem_of_getElem? (l := k2_sels lw_privs) (i := 1) rfl)
theorem zw735 : Cond.instanceMethod ⟨"DiodeLink$Journal", "enter", "(IIII)V"⟩ ∈ lw_tbl := zin_4 _ (List.mem_of_getElem? (l := tables_1_4) (i := 200) rfl)
theorem zw736 : Cond.code ⟨"DiodeLink$Journal", "enter", "(IIII)V"⟩ prog_6_method_7_code 5 (none) ∈ lw_tbl := zin_4 _ (List.mem_of_getElem? (l := tables_1_4) (i := 202) rfl)
theorem zw737 : Cond.selects "DiodeLink$Journal" ⟨"DiodeLink$Journal", "enter", "(IIII)V"⟩ ⟨"DiodeLink$Journal", "enter", "(IIII)V"⟩ ∈ lw_tbl := zin_4 _ (List.mem_of_getElem? (l := tables_1_4) (i := 201) rfl)
theorem zw738 : Cond.instanceMethod ⟨"DiodeLink$Journal", "entries", "()I"⟩ ∈ lw_tbl := zin_5 _ (List.mem_of_getElem? (l := tables_1_5) (i := 89) rfl)
theorem zw739 : Cond.code ⟨"DiodeLink$Journal", "entries", "()I"⟩ prog_6_method_2_code 1 (some .int) ∈ lw_tbl := zin_5 _ (List.mem_of_getElem? (l := tables_1_5) (i := 91) rfl)
theorem zw740 : Cond.selects "DiodeLink$Journal" ⟨"DiodeLink$Journal", "entries", "()I"⟩ ⟨"DiodeLink$Journal", "entries", "()I"⟩ ∈ lw_tbl := zin_5 _ (List.mem_of_getElem? (l := tables_1_5) (i := 90) rfl)
theorem zw741 : Cond.instanceMethod ⟨"DiodeLink$Journal", "firstKept", "()I"⟩ ∈ lw_tbl := zin_2 _ (List.mem_of_getElem? (l := tables_1_2) (i := 52) rfl)
theorem zw742 : Cond.code ⟨"DiodeLink$Journal", "firstKept", "()I"⟩ prog_6_method_9_code 1 (some .int) ∈ lw_tbl := zin_2 _ (List.mem_of_getElem? (l := tables_1_2) (i := 53) rfl)
theorem zw743 : Cond.selects "DiodeLink$Journal" ⟨"DiodeLink$Journal", "firstKept", "()I"⟩ ⟨"DiodeLink$Journal", "firstKept", "()I"⟩ ∈ lw_tbl := zin_s _ (List.mem_of_getElem? (l := k2_sels lw_privs) (i := 0) rfl)
theorem zw744 : Cond.instanceMethod ⟨"DiodeLink$Journal", "keeps", "(I)Z"⟩ ∈ lw_tbl := zin_5 _ (List.mem_of_getElem? (l := tables_1_5) (i := 93) rfl)
theorem zw745 : Cond.code ⟨"DiodeLink$Journal", "keeps", "(I)Z"⟩ prog_6_method_3_code 2 (some .boolean) ∈ lw_tbl := zin_5 _ (List.mem_of_getElem? (l := tables_1_5) (i := 95) rfl)
theorem zw746 : Cond.selects "DiodeLink$Journal" ⟨"DiodeLink$Journal", "keeps", "(I)Z"⟩ ⟨"DiodeLink$Journal", "keeps", "(I)Z"⟩ ∈ lw_tbl := zin_5 _ (List.mem_of_getElem? (l := tables_1_5) (i := 94) rfl)
theorem zw747 : Cond.instanceMethod ⟨"DiodeLink$Journal", "link", "(I)J"⟩ ∈ lw_tbl := zin_2 _ (List.mem_of_getElem? (l := tables_1_2) (i := 58) rfl)
theorem zw748 : Cond.code ⟨"DiodeLink$Journal", "link", "(I)J"⟩ prog_6_method_5_code 2 (some .long) ∈ lw_tbl := zin_2 _ (List.mem_of_getElem? (l := tables_1_2) (i := 60) rfl)
theorem zw749 : Cond.selects "DiodeLink$Journal" ⟨"DiodeLink$Journal", "link", "(I)J"⟩ ⟨"DiodeLink$Journal", "link", "(I)J"⟩ ∈ lw_tbl := zin_2 _ (List.mem_of_getElem? (l := tables_1_2) (i := 59) rfl)
theorem zw750 : Cond.instanceMethod ⟨"DiodeLink$Journal", "linksHold", "()Z"⟩ ∈ lw_tbl := zin_2 _ (List.mem_of_getElem? (l := tables_1_2) (i := 47) rfl)
theorem zw751 : Cond.code ⟨"DiodeLink$Journal", "linksHold", "()Z"⟩ prog_6_method_8_code 4 (some .boolean) ∈ lw_tbl := zin_2 _ (List.mem_of_getElem? (l := tables_1_2) (i := 49) rfl)
theorem zw752 : Cond.selects "DiodeLink$Journal" ⟨"DiodeLink$Journal", "linksHold", "()Z"⟩ ⟨"DiodeLink$Journal", "linksHold", "()Z"⟩ ∈ lw_tbl := zin_2 _ (List.mem_of_getElem? (l := tables_1_2) (i := 48) rfl)
theorem zw753 : Cond.instanceMethod ⟨"DiodeLink$Journal", "number", "(II)I"⟩ ∈ lw_tbl := zin_2 _ (List.mem_of_getElem? (l := tables_1_2) (i := 74) rfl)
theorem zw754 : Cond.code ⟨"DiodeLink$Journal", "number", "(II)I"⟩ prog_6_method_4_code 3 (some .int) ∈ lw_tbl := zin_2 _ (List.mem_of_getElem? (l := tables_1_2) (i := 76) rfl)
theorem zw755 : Cond.selects "DiodeLink$Journal" ⟨"DiodeLink$Journal", "number", "(II)I"⟩ ⟨"DiodeLink$Journal", "number", "(II)I"⟩ ∈ lw_tbl := zin_2 _ (List.mem_of_getElem? (l := tables_1_2) (i := 75) rfl)
theorem zw756 : Cond.static ⟨"DiodeLink$Journal", "place", "(II)I"⟩ ∈ lw_tbl := zin_2 _ (List.mem_of_getElem? (l := tables_1_2) (i := 78) rfl)
theorem zw757 : Cond.code ⟨"DiodeLink$Journal", "place", "(II)I"⟩ prog_6_method_10_code 2 (some .int) ∈ lw_tbl := zin_2 _ (List.mem_of_getElem? (l := tables_1_2) (i := 79) rfl)
theorem zw758 : Cond.instanceMethod ⟨"DiodeLink$Journal", "turn", "(III)V"⟩ ∈ lw_tbl := zin_5 _ (List.mem_of_getElem? (l := tables_1_5) (i := 107) rfl)
theorem zw759 : Cond.code ⟨"DiodeLink$Journal", "turn", "(III)V"⟩ prog_6_method_6_code 4 (none) ∈ lw_tbl := zin_5 _ (List.mem_of_getElem? (l := tables_1_5) (i := 109) rfl)
theorem zw760 : Cond.selects "DiodeLink$Journal" ⟨"DiodeLink$Journal", "turn", "(III)V"⟩ ⟨"DiodeLink$Journal", "turn", "(III)V"⟩ ∈ lw_tbl := zin_5 _ (List.mem_of_getElem? (l := tables_1_5) (i := 108) rfl)
theorem zw761 : Cond.instanceMethod ⟨"DiodeLink$Receiver", "<init>", "(LDiodeLink$Rules;LDiodeLink$Journal;)V"⟩ ∈ lw_tbl := zin_1 _ (List.mem_of_getElem? (l := tables_1_1) (i := 158) rfl)
theorem zw762 : Cond.code ⟨"DiodeLink$Receiver", "<init>", "(LDiodeLink$Rules;LDiodeLink$Journal;)V"⟩ prog_7_method_1_code 4 (none) ∈ lw_tbl := zin_1 _ (List.mem_of_getElem? (l := tables_1_1) (i := 159) rfl)
theorem zw763 : Cond.instanceMethod ⟨"DiodeLink$Receiver", "allRows", "()I"⟩ ∈ lw_tbl := zin_5 _ (List.mem_of_getElem? (l := tables_1_5) (i := 122) rfl)
theorem zw764 : Cond.code ⟨"DiodeLink$Receiver", "allRows", "()I"⟩ prog_7_method_4_code 1 (some .int) ∈ lw_tbl := zin_5 _ (List.mem_of_getElem? (l := tables_1_5) (i := 124) rfl)
theorem zw765 : Cond.selects "DiodeLink$Receiver" ⟨"DiodeLink$Receiver", "allRows", "()I"⟩ ⟨"DiodeLink$Receiver", "allRows", "()I"⟩ ∈ lw_tbl := zin_5 _ (List.mem_of_getElem? (l := tables_1_5) (i := 123) rfl)
theorem zw766 : Cond.instanceMethod ⟨"DiodeLink$Receiver", "canBe", "(LDiodeLink$Bytes;)Z"⟩ ∈ lw_tbl := zin_3 _ (List.mem_of_getElem? (l := tables_1_3) (i := 193) rfl)
theorem zw767 : Cond.code ⟨"DiodeLink$Receiver", "canBe", "(LDiodeLink$Bytes;)Z"⟩ prog_7_method_16_code 6 (some .boolean) ∈ lw_tbl := zin_3 _ (List.mem_of_getElem? (l := tables_1_3) (i := 194) rfl)
theorem zw768 : Cond.selects "DiodeLink$Receiver" ⟨"DiodeLink$Receiver", "canBe", "(LDiodeLink$Bytes;)Z"⟩ ⟨"DiodeLink$Receiver", "canBe", "(LDiodeLink$Bytes;)Z"⟩ ∈ lw_tbl := zin_s _ (List.mem_of_getElem? (l := k2_sels lw_privs) (i := 14) rfl)
theorem zw769 : Cond.instanceMethod ⟨"DiodeLink$Receiver", "dropItemRows", "(LDiodeLink$Version;II)V"⟩ ∈ lw_tbl := zin_4 _ (List.mem_of_getElem? (l := tables_1_4) (i := 113) rfl)
theorem zw770 : Cond.code ⟨"DiodeLink$Receiver", "dropItemRows", "(LDiodeLink$Version;II)V"⟩ prog_7_method_26_code 5 (none) ∈ lw_tbl := zin_4 _ (List.mem_of_getElem? (l := tables_1_4) (i := 114) rfl)
theorem zw771 : Cond.selects "DiodeLink$Receiver" ⟨"DiodeLink$Receiver", "dropItemRows", "(LDiodeLink$Version;II)V"⟩ ⟨"DiodeLink$Receiver", "dropItemRows", "(LDiodeLink$Version;II)V"⟩ ∈ lw_tbl := zin_s _ (List.mem_of_getElem? (l := k2_sels lw_privs) (i := 27) rfl)
theorem zw772 : Cond.instanceMethod ⟨"DiodeLink$Receiver", "dropped", "()I"⟩ ∈ lw_tbl := zin_5 _ (List.mem_of_getElem? (l := tables_1_5) (i := 118) rfl)
theorem zw773 : Cond.code ⟨"DiodeLink$Receiver", "dropped", "()I"⟩ prog_7_method_3_code 1 (some .int) ∈ lw_tbl := zin_5 _ (List.mem_of_getElem? (l := tables_1_5) (i := 120) rfl)
theorem zw774 : Cond.selects "DiodeLink$Receiver" ⟨"DiodeLink$Receiver", "dropped", "()I"⟩ ⟨"DiodeLink$Receiver", "dropped", "()I"⟩ ∈ lw_tbl := zin_5 _ (List.mem_of_getElem? (l := tables_1_5) (i := 119) rfl)
theorem zw775 : Cond.instanceMethod ⟨"DiodeLink$Receiver", "find", "(II)LDiodeLink$Version;"⟩ ∈ lw_tbl := zin_3 _ (List.mem_of_getElem? (l := tables_1_3) (i := 215) rfl)
theorem zw776 : Cond.code ⟨"DiodeLink$Receiver", "find", "(II)LDiodeLink$Version;"⟩ prog_7_method_11_code 4 (some (.object "DiodeLink$Version")) ∈ lw_tbl := zin_3 _ (List.mem_of_getElem? (l := tables_1_3) (i := 216) rfl)
theorem zw777 : Cond.selects "DiodeLink$Receiver" ⟨"DiodeLink$Receiver", "find", "(II)LDiodeLink$Version;"⟩ ⟨"DiodeLink$Receiver", "find", "(II)LDiodeLink$Version;"⟩ ∈ lw_tbl := zin_s _ (List.mem_of_getElem? (l := k2_sels lw_privs) (i := 18) rfl)
theorem zw778 : Cond.instanceMethod ⟨"DiodeLink$Receiver", "forgetItem", "(LDiodeLink$Version;II)V"⟩ ∈ lw_tbl := zin_4 _ (List.mem_of_getElem? (l := tables_1_4) (i := 108) rfl)
theorem zw779 : Cond.code ⟨"DiodeLink$Receiver", "forgetItem", "(LDiodeLink$Version;II)V"⟩ prog_7_method_25_code 4 (none) ∈ lw_tbl := zin_4 _ (List.mem_of_getElem? (l := tables_1_4) (i := 109) rfl)
theorem zw780 : Cond.selects "DiodeLink$Receiver" ⟨"DiodeLink$Receiver", "forgetItem", "(LDiodeLink$Version;II)V"⟩ ⟨"DiodeLink$Receiver", "forgetItem", "(LDiodeLink$Version;II)V"⟩ ∈ lw_tbl := zin_s _ (List.mem_of_getElem? (l := k2_sels lw_privs) (i := 26) rfl)
theorem zw781 : Cond.instanceMethod ⟨"DiodeLink$Receiver", "greatestOf", "(I)I"⟩ ∈ lw_tbl := zin_4 _ (List.mem_of_getElem? (l := tables_1_4) (i := 58) rfl)
theorem zw782 : Cond.code ⟨"DiodeLink$Receiver", "greatestOf", "(I)I"⟩ prog_7_method_13_code 4 (some .int) ∈ lw_tbl := zin_4 _ (List.mem_of_getElem? (l := tables_1_4) (i := 59) rfl)
theorem zw783 : Cond.selects "DiodeLink$Receiver" ⟨"DiodeLink$Receiver", "greatestOf", "(I)I"⟩ ⟨"DiodeLink$Receiver", "greatestOf", "(I)I"⟩ ∈ lw_tbl := zin_s _ (List.mem_of_getElem? (l := k2_sels lw_privs) (i := 22) rfl)
theorem zw784 : Cond.instanceMethod ⟨"DiodeLink$Receiver", "hasOtherSize", "(LDiodeLink$Version;ILDiodeLink$Bytes;)Z"⟩ ∈ lw_tbl := zin_4 _ (List.mem_of_getElem? (l := tables_1_4) (i := 1) rfl)
theorem zw785 : Cond.code ⟨"DiodeLink$Receiver", "hasOtherSize", "(LDiodeLink$Version;ILDiodeLink$Bytes;)Z"⟩ prog_7_method_18_code 6 (some .boolean) ∈ lw_tbl := zin_4 _ (List.mem_of_getElem? (l := tables_1_4) (i := 2) rfl)
theorem zw786 : Cond.selects "DiodeLink$Receiver" ⟨"DiodeLink$Receiver", "hasOtherSize", "(LDiodeLink$Version;ILDiodeLink$Bytes;)Z"⟩ ⟨"DiodeLink$Receiver", "hasOtherSize", "(LDiodeLink$Version;ILDiodeLink$Bytes;)Z"⟩ ∈ lw_tbl := zin_s _ (List.mem_of_getElem? (l := k2_sels lw_privs) (i := 19) rfl)
theorem zw787 : Cond.instanceMethod ⟨"DiodeLink$Receiver", "holdAlike", "(I)V"⟩ ∈ lw_tbl := zin_4 _ (List.mem_of_getElem? (l := tables_1_4) (i := 133) rfl)
theorem zw788 : Cond.code ⟨"DiodeLink$Receiver", "holdAlike", "(I)V"⟩ prog_7_method_27_code 6 (none) ∈ lw_tbl := zin_4 _ (List.mem_of_getElem? (l := tables_1_4) (i := 134) rfl)
theorem zw789 : Cond.selects "DiodeLink$Receiver" ⟨"DiodeLink$Receiver", "holdAlike", "(I)V"⟩ ⟨"DiodeLink$Receiver", "holdAlike", "(I)V"⟩ ∈ lw_tbl := zin_s _ (List.mem_of_getElem? (l := k2_sels lw_privs) (i := 29) rfl)
theorem zw790 : Cond.instanceMethod ⟨"DiodeLink$Receiver", "holdByOther", "(III)Z"⟩ ∈ lw_tbl := zin_4 _ (List.mem_of_getElem? (l := tables_1_4) (i := 137) rfl)
theorem zw791 : Cond.code ⟨"DiodeLink$Receiver", "holdByOther", "(III)Z"⟩ prog_7_method_28_code 8 (some .boolean) ∈ lw_tbl := zin_4 _ (List.mem_of_getElem? (l := tables_1_4) (i := 138) rfl)
theorem zw792 : Cond.selects "DiodeLink$Receiver" ⟨"DiodeLink$Receiver", "holdByOther", "(III)Z"⟩ ⟨"DiodeLink$Receiver", "holdByOther", "(III)Z"⟩ ∈ lw_tbl := zin_s _ (List.mem_of_getElem? (l := k2_sels lw_privs) (i := 30) rfl)
theorem zw793 : Cond.instanceMethod ⟨"DiodeLink$Receiver", "judge", "(LDiodeLink$Version;I)V"⟩ ∈ lw_tbl := zin_4 _ (List.mem_of_getElem? (l := tables_1_4) (i := 166) rfl)
theorem zw794 : Cond.code ⟨"DiodeLink$Receiver", "judge", "(LDiodeLink$Version;I)V"⟩ prog_7_method_30_code 5 (none) ∈ lw_tbl := zin_4 _ (List.mem_of_getElem? (l := tables_1_4) (i := 167) rfl)
theorem zw795 : Cond.selects "DiodeLink$Receiver" ⟨"DiodeLink$Receiver", "judge", "(LDiodeLink$Version;I)V"⟩ ⟨"DiodeLink$Receiver", "judge", "(LDiodeLink$Version;I)V"⟩ ∈ lw_tbl := zin_s _ (List.mem_of_getElem? (l := k2_sels lw_privs) (i := 32) rfl)
theorem zw796 : Cond.instanceMethod ⟨"DiodeLink$Receiver", "keepRow", "(LDiodeLink$Version;ILDiodeLink$Bytes;)Z"⟩ ∈ lw_tbl := zin_4 _ (List.mem_of_getElem? (l := tables_1_4) (i := 63) rfl)
theorem zw797 : Cond.code ⟨"DiodeLink$Receiver", "keepRow", "(LDiodeLink$Version;ILDiodeLink$Bytes;)Z"⟩ prog_7_method_22_code 9 (some .boolean) ∈ lw_tbl := zin_4 _ (List.mem_of_getElem? (l := tables_1_4) (i := 64) rfl)
theorem zw798 : Cond.selects "DiodeLink$Receiver" ⟨"DiodeLink$Receiver", "keepRow", "(LDiodeLink$Version;ILDiodeLink$Bytes;)Z"⟩ ⟨"DiodeLink$Receiver", "keepRow", "(LDiodeLink$Version;ILDiodeLink$Bytes;)Z"⟩ ∈ lw_tbl := zin_s _ (List.mem_of_getElem? (l := k2_sels lw_privs) (i := 23) rfl)
theorem zw799 : Cond.instanceMethod ⟨"DiodeLink$Receiver", "knownAt", "(II)LDiodeLink$Version;"⟩ ∈ lw_tbl := zin_3 _ (List.mem_of_getElem? (l := tables_1_3) (i := 203) rfl)
theorem zw800 : Cond.code ⟨"DiodeLink$Receiver", "knownAt", "(II)LDiodeLink$Version;"⟩ prog_7_method_10_code 3 (some (.object "DiodeLink$Version")) ∈ lw_tbl := zin_3 _ (List.mem_of_getElem? (l := tables_1_3) (i := 204) rfl)
theorem zw801 : Cond.selects "DiodeLink$Receiver" ⟨"DiodeLink$Receiver", "knownAt", "(II)LDiodeLink$Version;"⟩ ⟨"DiodeLink$Receiver", "knownAt", "(II)LDiodeLink$Version;"⟩ ∈ lw_tbl := zin_s _ (List.mem_of_getElem? (l := k2_sels lw_privs) (i := 16) rfl)
theorem zw802 : Cond.instanceMethod ⟨"DiodeLink$Receiver", "learn", "(II)LDiodeLink$Version;"⟩ ∈ lw_tbl := zin_3 _ (List.mem_of_getElem? (l := tables_1_3) (i := 211) rfl)
theorem zw803 : Cond.code ⟨"DiodeLink$Receiver", "learn", "(II)LDiodeLink$Version;"⟩ prog_7_method_17_code 6 (some (.object "DiodeLink$Version")) ∈ lw_tbl := zin_3 _ (List.mem_of_getElem? (l := tables_1_3) (i := 212) rfl)
theorem zw804 : Cond.selects "DiodeLink$Receiver" ⟨"DiodeLink$Receiver", "learn", "(II)LDiodeLink$Version;"⟩ ⟨"DiodeLink$Receiver", "learn", "(II)LDiodeLink$Version;"⟩ ∈ lw_tbl := zin_s _ (List.mem_of_getElem? (l := k2_sels lw_privs) (i := 17) rfl)
theorem zw805 : Cond.instanceMethod ⟨"DiodeLink$Receiver", "leastOf", "(I)LDiodeLink$Version;"⟩ ∈ lw_tbl := zin_3 _ (List.mem_of_getElem? (l := tables_1_3) (i := 199) rfl)
theorem zw806 : Cond.code ⟨"DiodeLink$Receiver", "leastOf", "(I)LDiodeLink$Version;"⟩ prog_7_method_12_code 4 (some (.object "DiodeLink$Version")) ∈ lw_tbl := zin_3 _ (List.mem_of_getElem? (l := tables_1_3) (i := 200) rfl)
theorem zw807 : Cond.selects "DiodeLink$Receiver" ⟨"DiodeLink$Receiver", "leastOf", "(I)LDiodeLink$Version;"⟩ ⟨"DiodeLink$Receiver", "leastOf", "(I)LDiodeLink$Version;"⟩ ∈ lw_tbl := zin_s _ (List.mem_of_getElem? (l := k2_sels lw_privs) (i := 15) rfl)
theorem zw808 : Cond.instanceMethod ⟨"DiodeLink$Receiver", "leastToJudge", "(I)LDiodeLink$Version;"⟩ ∈ lw_tbl := zin_4 _ (List.mem_of_getElem? (l := tables_1_4) (i := 154) rfl)
theorem zw809 : Cond.code ⟨"DiodeLink$Receiver", "leastToJudge", "(I)LDiodeLink$Version;"⟩ prog_7_method_29_code 6 (some (.object "DiodeLink$Version")) ∈ lw_tbl := zin_4 _ (List.mem_of_getElem? (l := tables_1_4) (i := 155) rfl)
theorem zw810 : Cond.selects "DiodeLink$Receiver" ⟨"DiodeLink$Receiver", "leastToJudge", "(I)LDiodeLink$Version;"⟩ ⟨"DiodeLink$Receiver", "leastToJudge", "(I)LDiodeLink$Version;"⟩ ∈ lw_tbl := zin_s _ (List.mem_of_getElem? (l := k2_sels lw_privs) (i := 31) rfl)
theorem zw811 : Cond.instanceMethod ⟨"DiodeLink$Receiver", "letOut", "(I)I"⟩ ∈ lw_tbl := zin_5 _ (List.mem_of_getElem? (l := tables_1_5) (i := 30) rfl)
theorem zw812 : Cond.code ⟨"DiodeLink$Receiver", "letOut", "(I)I"⟩ prog_7_method_9_code 6 (some .int) ∈ lw_tbl := zin_5 _ (List.mem_of_getElem? (l := tables_1_5) (i := 32) rfl)
theorem zw813 : Cond.selects "DiodeLink$Receiver" ⟨"DiodeLink$Receiver", "letOut", "(I)I"⟩ ⟨"DiodeLink$Receiver", "letOut", "(I)I"⟩ ∈ lw_tbl := zin_5 _ (List.mem_of_getElem? (l := tables_1_5) (i := 31) rfl)
theorem zw814 : Cond.instanceMethod ⟨"DiodeLink$Receiver", "listen", "(LDiodeLink$Bytes;)I"⟩ ∈ lw_tbl := zin_3 _ (List.mem_of_getElem? (l := tables_1_3) (i := 177) rfl)
theorem zw815 : Cond.code ⟨"DiodeLink$Receiver", "listen", "(LDiodeLink$Bytes;)I"⟩ prog_7_method_6_code 7 (some .int) ∈ lw_tbl := zin_3 _ (List.mem_of_getElem? (l := tables_1_3) (i := 179) rfl)
theorem zw816 : Cond.selects "DiodeLink$Receiver" ⟨"DiodeLink$Receiver", "listen", "(LDiodeLink$Bytes;)I"⟩ ⟨"DiodeLink$Receiver", "listen", "(LDiodeLink$Bytes;)I"⟩ ∈ lw_tbl := zin_3 _ (List.mem_of_getElem? (l := tables_1_3) (i := 178) rfl)
theorem zw817 : Cond.instanceMethod ⟨"DiodeLink$Receiver", "lookAt", "(LDiodeLink$Version;II)V"⟩ ∈ lw_tbl := zin_4 _ (List.mem_of_getElem? (l := tables_1_4) (i := 91) rfl)
theorem zw818 : Cond.code ⟨"DiodeLink$Receiver", "lookAt", "(LDiodeLink$Version;II)V"⟩ prog_7_method_23_code 5 (none) ∈ lw_tbl := zin_4 _ (List.mem_of_getElem? (l := tables_1_4) (i := 92) rfl)
theorem zw819 : Cond.selects "DiodeLink$Receiver" ⟨"DiodeLink$Receiver", "lookAt", "(LDiodeLink$Version;II)V"⟩ ⟨"DiodeLink$Receiver", "lookAt", "(LDiodeLink$Version;II)V"⟩ ∈ lw_tbl := zin_s _ (List.mem_of_getElem? (l := k2_sels lw_privs) (i := 24) rfl)
theorem zw820 : Cond.instanceMethod ⟨"DiodeLink$Receiver", "lookAtFile", "(LDiodeLink$Version;II)V"⟩ ∈ lw_tbl := zin_4 _ (List.mem_of_getElem? (l := tables_1_4) (i := 99) rfl)
theorem zw821 : Cond.code ⟨"DiodeLink$Receiver", "lookAtFile", "(LDiodeLink$Version;II)V"⟩ prog_7_method_24_code 4 (none) ∈ lw_tbl := zin_4 _ (List.mem_of_getElem? (l := tables_1_4) (i := 100) rfl)
theorem zw822 : Cond.selects "DiodeLink$Receiver" ⟨"DiodeLink$Receiver", "lookAtFile", "(LDiodeLink$Version;II)V"⟩ ⟨"DiodeLink$Receiver", "lookAtFile", "(LDiodeLink$Version;II)V"⟩ ∈ lw_tbl := zin_s _ (List.mem_of_getElem? (l := k2_sels lw_privs) (i := 25) rfl)
theorem zw823 : Cond.instanceMethod ⟨"DiodeLink$Receiver", "loseRows", "()V"⟩ ∈ lw_tbl := zin_2 _ (List.mem_of_getElem? (l := tables_1_2) (i := 35) rfl)
theorem zw824 : Cond.code ⟨"DiodeLink$Receiver", "loseRows", "()V"⟩ prog_7_method_5_code 1 (none) ∈ lw_tbl := zin_2 _ (List.mem_of_getElem? (l := tables_1_2) (i := 37) rfl)
theorem zw825 : Cond.selects "DiodeLink$Receiver" ⟨"DiodeLink$Receiver", "loseRows", "()V"⟩ ⟨"DiodeLink$Receiver", "loseRows", "()V"⟩ ∈ lw_tbl := zin_2 _ (List.mem_of_getElem? (l := tables_1_2) (i := 36) rfl)
theorem zw826 : Cond.instanceMethod ⟨"DiodeLink$Receiver", "makeRoom", "()Z"⟩ ∈ lw_tbl := zin_4 _ (List.mem_of_getElem? (l := tables_1_4) (i := 46) rfl)
theorem zw827 : Cond.code ⟨"DiodeLink$Receiver", "makeRoom", "()Z"⟩ prog_7_method_21_code 5 (some .boolean) ∈ lw_tbl := zin_4 _ (List.mem_of_getElem? (l := tables_1_4) (i := 47) rfl)
theorem zw828 : Cond.selects "DiodeLink$Receiver" ⟨"DiodeLink$Receiver", "makeRoom", "()Z"⟩ ⟨"DiodeLink$Receiver", "makeRoom", "()Z"⟩ ∈ lw_tbl := zin_s _ (List.mem_of_getElem? (l := k2_sels lw_privs) (i := 21) rfl)
theorem zw829 : Cond.static ⟨"DiodeLink$Receiver", "maskOf", "(LDiodeLink$Bytes;)I"⟩ ∈ lw_tbl := zin_4 _ (List.mem_of_getElem? (l := tables_1_4) (i := 25) rfl)
theorem zw830 : Cond.code ⟨"DiodeLink$Receiver", "maskOf", "(LDiodeLink$Bytes;)I"⟩ prog_7_method_20_code 1 (some .int) ∈ lw_tbl := zin_4 _ (List.mem_of_getElem? (l := tables_1_4) (i := 26) rfl)
theorem zw831 : Cond.instanceMethod ⟨"DiodeLink$Receiver", "noteLife", "(I)V"⟩ ∈ lw_tbl := zin_3 _ (List.mem_of_getElem? (l := tables_1_3) (i := 189) rfl)
theorem zw832 : Cond.code ⟨"DiodeLink$Receiver", "noteLife", "(I)V"⟩ prog_7_method_15_code 2 (none) ∈ lw_tbl := zin_3 _ (List.mem_of_getElem? (l := tables_1_3) (i := 190) rfl)
theorem zw833 : Cond.selects "DiodeLink$Receiver" ⟨"DiodeLink$Receiver", "noteLife", "(I)V"⟩ ⟨"DiodeLink$Receiver", "noteLife", "(I)V"⟩ ∈ lw_tbl := zin_s _ (List.mem_of_getElem? (l := k2_sels lw_privs) (i := 13) rfl)
theorem zw834 : Cond.static ⟨"DiodeLink$Receiver", "piecesOf", "(LDiodeLink$Bytes;)I"⟩ ∈ lw_tbl := zin_4 _ (List.mem_of_getElem? (l := tables_1_4) (i := 28) rfl)
theorem zw835 : Cond.code ⟨"DiodeLink$Receiver", "piecesOf", "(LDiodeLink$Bytes;)I"⟩ prog_7_method_19_code 1 (some .int) ∈ lw_tbl := zin_4 _ (List.mem_of_getElem? (l := tables_1_4) (i := 29) rfl)
theorem zw836 : Cond.instanceMethod ⟨"DiodeLink$Receiver", "rowsOf", "(IIII)I"⟩ ∈ lw_tbl := zin_5 _ (List.mem_of_getElem? (l := tables_1_5) (i := 19) rfl)
theorem zw837 : Cond.code ⟨"DiodeLink$Receiver", "rowsOf", "(IIII)I"⟩ prog_7_method_8_code 7 (some .int) ∈ lw_tbl := zin_5 _ (List.mem_of_getElem? (l := tables_1_5) (i := 21) rfl)
theorem zw838 : Cond.selects "DiodeLink$Receiver" ⟨"DiodeLink$Receiver", "rowsOf", "(IIII)I"⟩ ⟨"DiodeLink$Receiver", "rowsOf", "(IIII)I"⟩ ∈ lw_tbl := zin_5 _ (List.mem_of_getElem? (l := tables_1_5) (i := 20) rfl)
theorem zw839 : Cond.instanceMethod ⟨"DiodeLink$Receiver", "shown", "(I)LDiodeLink$Version;"⟩ ∈ lw_tbl := zin_5 _ (List.mem_of_getElem? (l := tables_1_5) (i := 46) rfl)
theorem zw840 : Cond.code ⟨"DiodeLink$Receiver", "shown", "(I)LDiodeLink$Version;"⟩ prog_7_method_2_code 2 (some (.object "DiodeLink$Version")) ∈ lw_tbl := zin_5 _ (List.mem_of_getElem? (l := tables_1_5) (i := 48) rfl)
theorem zw841 : Cond.selects "DiodeLink$Receiver" ⟨"DiodeLink$Receiver", "shown", "(I)LDiodeLink$Version;"⟩ ⟨"DiodeLink$Receiver", "shown", "(I)LDiodeLink$Version;"⟩ ∈ lw_tbl := zin_5 _ (List.mem_of_getElem? (l := tables_1_5) (i := 47) rfl)
theorem zw842 : Cond.instanceMethod ⟨"DiodeLink$Receiver", "stateOf", "(II)I"⟩ ∈ lw_tbl := zin_5 _ (List.mem_of_getElem? (l := tables_1_5) (i := 7) rfl)
theorem zw843 : Cond.code ⟨"DiodeLink$Receiver", "stateOf", "(II)I"⟩ prog_7_method_7_code 4 (some .int) ∈ lw_tbl := zin_5 _ (List.mem_of_getElem? (l := tables_1_5) (i := 9) rfl)
theorem zw844 : Cond.selects "DiodeLink$Receiver" ⟨"DiodeLink$Receiver", "stateOf", "(II)I"⟩ ⟨"DiodeLink$Receiver", "stateOf", "(II)I"⟩ ∈ lw_tbl := zin_5 _ (List.mem_of_getElem? (l := tables_1_5) (i := 8) rfl)
theorem zw845 : Cond.instanceMethod ⟨"DiodeLink$Receiver", "whyDropped", "(LDiodeLink$Bytes;)I"⟩ ∈ lw_tbl := zin_3 _ (List.mem_of_getElem? (l := tables_1_3) (i := 182) rfl)
theorem zw846 : Cond.code ⟨"DiodeLink$Receiver", "whyDropped", "(LDiodeLink$Bytes;)I"⟩ prog_7_method_14_code 8 (some .int) ∈ lw_tbl := zin_3 _ (List.mem_of_getElem? (l := tables_1_3) (i := 183) rfl)
theorem zw847 : Cond.selects "DiodeLink$Receiver" ⟨"DiodeLink$Receiver", "whyDropped", "(LDiodeLink$Bytes;)I"⟩ ⟨"DiodeLink$Receiver", "whyDropped", "(LDiodeLink$Bytes;)I"⟩ ∈ lw_tbl := zin_s _ (List.mem_of_getElem? (l := k2_sels lw_privs) (i := 12) rfl)
theorem zw848 : Cond.instanceMethod ⟨"DiodeLink$Rows", "<init>", "()V"⟩ ∈ lw_tbl := zin_1 _ (List.mem_of_getElem? (l := tables_1_1) (i := 166) rfl)
theorem zw849 : Cond.code ⟨"DiodeLink$Rows", "<init>", "()V"⟩ prog_8_method_1_code 1 (none) ∈ lw_tbl := zin_1 _ (List.mem_of_getElem? (l := tables_1_1) (i := 167) rfl)
theorem zw850 : Cond.instanceMethod ⟨"DiodeLink$Rows", "add", "(IIJ)V"⟩ ∈ lw_tbl := zin_4 _ (List.mem_of_getElem? (l := tables_1_4) (i := 67) rfl)
theorem zw851 : Cond.code ⟨"DiodeLink$Rows", "add", "(IIJ)V"⟩ prog_8_method_13_code 10 (none) ∈ lw_tbl := zin_4 _ (List.mem_of_getElem? (l := tables_1_4) (i := 69) rfl)
theorem zw852 : Cond.selects "DiodeLink$Rows" ⟨"DiodeLink$Rows", "add", "(IIJ)V"⟩ ⟨"DiodeLink$Rows", "add", "(IIJ)V"⟩ ∈ lw_tbl := zin_4 _ (List.mem_of_getElem? (l := tables_1_4) (i := 68) rfl)
theorem zw853 : Cond.instanceMethod ⟨"DiodeLink$Rows", "drop", "(II)V"⟩ ∈ lw_tbl := zin_3 _ (List.mem_of_getElem? (l := tables_1_3) (i := 227) rfl)
theorem zw854 : Cond.code ⟨"DiodeLink$Rows", "drop", "(II)V"⟩ prog_8_method_10_code 5 (none) ∈ lw_tbl := zin_3 _ (List.mem_of_getElem? (l := tables_1_3) (i := 229) rfl)
theorem zw855 : Cond.selects "DiodeLink$Rows" ⟨"DiodeLink$Rows", "drop", "(II)V"⟩ ⟨"DiodeLink$Rows", "drop", "(II)V"⟩ ∈ lw_tbl := zin_3 _ (List.mem_of_getElem? (l := tables_1_3) (i := 228) rfl)
theorem zw856 : Cond.instanceMethod ⟨"DiodeLink$Rows", "dropAll", "()V"⟩ ∈ lw_tbl := zin_2 _ (List.mem_of_getElem? (l := tables_1_2) (i := 39) rfl)
theorem zw857 : Cond.code ⟨"DiodeLink$Rows", "dropAll", "()V"⟩ prog_8_method_11_code 1 (none) ∈ lw_tbl := zin_2 _ (List.mem_of_getElem? (l := tables_1_2) (i := 41) rfl)
theorem zw858 : Cond.selects "DiodeLink$Rows" ⟨"DiodeLink$Rows", "dropAll", "()V"⟩ ⟨"DiodeLink$Rows", "dropAll", "()V"⟩ ∈ lw_tbl := zin_2 _ (List.mem_of_getElem? (l := tables_1_2) (i := 40) rfl)
theorem zw859 : Cond.static ⟨"DiodeLink$Rows", "firstKey", "(I)I"⟩ ∈ lw_tbl := zin_3 _ (List.mem_of_getElem? (l := tables_1_3) (i := 221) rfl)
theorem zw860 : Cond.code ⟨"DiodeLink$Rows", "firstKey", "(I)I"⟩ prog_8_method_3_code 1 (some .int) ∈ lw_tbl := zin_3 _ (List.mem_of_getElem? (l := tables_1_3) (i := 222) rfl)
theorem zw861 : Cond.instanceMethod ⟨"DiodeLink$Rows", "hasPivotIn", "(III)Z"⟩ ∈ lw_tbl := zin_4 _ (List.mem_of_getElem? (l := tables_1_4) (i := 38) rfl)
theorem zw862 : Cond.code ⟨"DiodeLink$Rows", "hasPivotIn", "(III)Z"⟩ prog_8_method_15_code 4 (some .boolean) ∈ lw_tbl := zin_4 _ (List.mem_of_getElem? (l := tables_1_4) (i := 39) rfl)
theorem zw863 : Cond.selects "DiodeLink$Rows" ⟨"DiodeLink$Rows", "hasPivotIn", "(III)Z"⟩ ⟨"DiodeLink$Rows", "hasPivotIn", "(III)Z"⟩ ∈ lw_tbl := zin_s _ (List.mem_of_getElem? (l := k2_sels lw_privs) (i := 20) rfl)
theorem zw864 : Cond.instanceMethod ⟨"DiodeLink$Rows", "isFull", "()Z"⟩ ∈ lw_tbl := zin_4 _ (List.mem_of_getElem? (l := tables_1_4) (i := 41) rfl)
theorem zw865 : Cond.code ⟨"DiodeLink$Rows", "isFull", "()Z"⟩ prog_8_method_7_code 1 (some .boolean) ∈ lw_tbl := zin_4 _ (List.mem_of_getElem? (l := tables_1_4) (i := 43) rfl)
theorem zw866 : Cond.selects "DiodeLink$Rows" ⟨"DiodeLink$Rows", "isFull", "()Z"⟩ ⟨"DiodeLink$Rows", "isFull", "()Z"⟩ ∈ lw_tbl := zin_4 _ (List.mem_of_getElem? (l := tables_1_4) (i := 42) rfl)
theorem zw867 : Cond.static ⟨"DiodeLink$Rows", "key", "(III)I"⟩ ∈ lw_tbl := zin_4 _ (List.mem_of_getElem? (l := tables_1_4) (i := 12) rfl)
theorem zw868 : Cond.code ⟨"DiodeLink$Rows", "key", "(III)I"⟩ prog_8_method_5_code 3 (some .int) ∈ lw_tbl := zin_4 _ (List.mem_of_getElem? (l := tables_1_4) (i := 13) rfl)
theorem zw869 : Cond.static ⟨"DiodeLink$Rows", "lastKey", "(I)I"⟩ ∈ lw_tbl := zin_3 _ (List.mem_of_getElem? (l := tables_1_3) (i := 224) rfl)
theorem zw870 : Cond.code ⟨"DiodeLink$Rows", "lastKey", "(I)I"⟩ prog_8_method_4_code 1 (some .int) ∈ lw_tbl := zin_3 _ (List.mem_of_getElem? (l := tables_1_3) (i := 225) rfl)
theorem zw871 : Cond.static ⟨"DiodeLink$Rows", "owner", "(II)I"⟩ ∈ lw_tbl := zin_3 _ (List.mem_of_getElem? (l := tables_1_3) (i := 218) rfl)
theorem zw872 : Cond.code ⟨"DiodeLink$Rows", "owner", "(II)I"⟩ prog_8_method_2_code 2 (some .int) ∈ lw_tbl := zin_3 _ (List.mem_of_getElem? (l := tables_1_3) (i := 219) rfl)
theorem zw873 : Cond.instanceMethod ⟨"DiodeLink$Rows", "ownerAt", "(I)I"⟩ ∈ lw_tbl := zin_4 _ (List.mem_of_getElem? (l := tables_1_4) (i := 53) rfl)
theorem zw874 : Cond.code ⟨"DiodeLink$Rows", "ownerAt", "(I)I"⟩ prog_8_method_8_code 2 (some .int) ∈ lw_tbl := zin_4 _ (List.mem_of_getElem? (l := tables_1_4) (i := 55) rfl)
theorem zw875 : Cond.selects "DiodeLink$Rows" ⟨"DiodeLink$Rows", "ownerAt", "(I)I"⟩ ⟨"DiodeLink$Rows", "ownerAt", "(I)I"⟩ ∈ lw_tbl := zin_4 _ (List.mem_of_getElem? (l := tables_1_4) (i := 54) rfl)
theorem zw876 : Cond.instanceMethod ⟨"DiodeLink$Rows", "piece", "(II)J"⟩ ∈ lw_tbl := zin_4 _ (List.mem_of_getElem? (l := tables_1_4) (i := 72) rfl)
theorem zw877 : Cond.code ⟨"DiodeLink$Rows", "piece", "(II)J"⟩ prog_8_method_14_code 4 (some .long) ∈ lw_tbl := zin_4 _ (List.mem_of_getElem? (l := tables_1_4) (i := 74) rfl)
theorem zw878 : Cond.selects "DiodeLink$Rows" ⟨"DiodeLink$Rows", "piece", "(II)J"⟩ ⟨"DiodeLink$Rows", "piece", "(II)J"⟩ ∈ lw_tbl := zin_4 _ (List.mem_of_getElem? (l := tables_1_4) (i := 73) rfl)
theorem zw879 : Cond.instanceMethod ⟨"DiodeLink$Rows", "rowsIn", "(II)I"⟩ ∈ lw_tbl := zin_4 _ (List.mem_of_getElem? (l := tables_1_4) (i := 15) rfl)
theorem zw880 : Cond.code ⟨"DiodeLink$Rows", "rowsIn", "(II)I"⟩ prog_8_method_9_code 5 (some .int) ∈ lw_tbl := zin_4 _ (List.mem_of_getElem? (l := tables_1_4) (i := 17) rfl)
theorem zw881 : Cond.selects "DiodeLink$Rows" ⟨"DiodeLink$Rows", "rowsIn", "(II)I"⟩ ⟨"DiodeLink$Rows", "rowsIn", "(II)I"⟩ ∈ lw_tbl := zin_4 _ (List.mem_of_getElem? (l := tables_1_4) (i := 16) rfl)
theorem zw882 : Cond.instanceMethod ⟨"DiodeLink$Rows", "tells", "(II)Z"⟩ ∈ lw_tbl := zin_4 _ (List.mem_of_getElem? (l := tables_1_4) (i := 33) rfl)
theorem zw883 : Cond.code ⟨"DiodeLink$Rows", "tells", "(II)Z"⟩ prog_8_method_12_code 5 (some .boolean) ∈ lw_tbl := zin_4 _ (List.mem_of_getElem? (l := tables_1_4) (i := 35) rfl)
theorem zw884 : Cond.selects "DiodeLink$Rows" ⟨"DiodeLink$Rows", "tells", "(II)Z"⟩ ⟨"DiodeLink$Rows", "tells", "(II)Z"⟩ ∈ lw_tbl := zin_4 _ (List.mem_of_getElem? (l := tables_1_4) (i := 34) rfl)
theorem zw885 : Cond.instanceMethod ⟨"DiodeLink$Rows", "used", "()I"⟩ ∈ lw_tbl := zin_4 _ (List.mem_of_getElem? (l := tables_1_4) (i := 49) rfl)
theorem zw886 : Cond.code ⟨"DiodeLink$Rows", "used", "()I"⟩ prog_8_method_6_code 1 (some .int) ∈ lw_tbl := zin_4 _ (List.mem_of_getElem? (l := tables_1_4) (i := 51) rfl)
theorem zw887 : Cond.selects "DiodeLink$Rows" ⟨"DiodeLink$Rows", "used", "()I"⟩ ⟨"DiodeLink$Rows", "used", "()I"⟩ ∈ lw_tbl := zin_4 _ (List.mem_of_getElem? (l := tables_1_4) (i := 50) rfl)
theorem zw888 : Cond.instanceMethod ⟨"DiodeLink$Rules", "<init>", "()V"⟩ ∈ lw_tbl := zin_1 _ (List.mem_of_getElem? (l := tables_1_1) (i := 110) rfl)
theorem zw889 : Cond.code ⟨"DiodeLink$Rules", "<init>", "()V"⟩ prog_9_method_1_code 1 (none) ∈ lw_tbl := zin_1 _ (List.mem_of_getElem? (l := tables_1_1) (i := 111) rfl)
theorem zw890 : Cond.instanceMethod ⟨"DiodeLink$Rules", "brokenBy", "(ILDiodeLink$Version;)I"⟩ ∈ lw_tbl := zin_4 _ (List.mem_of_getElem? (l := tables_1_4) (i := 169) rfl)
theorem zw891 : Cond.code ⟨"DiodeLink$Rules", "brokenBy", "(ILDiodeLink$Version;)I"⟩ prog_9_method_4_code 4 (some .int) ∈ lw_tbl := zin_4 _ (List.mem_of_getElem? (l := tables_1_4) (i := 171) rfl)
theorem zw892 : Cond.selects "DiodeLink$Rules" ⟨"DiodeLink$Rules", "brokenBy", "(ILDiodeLink$Version;)I"⟩ ⟨"DiodeLink$Rules", "brokenBy", "(ILDiodeLink$Version;)I"⟩ ∈ lw_tbl := zin_4 _ (List.mem_of_getElem? (l := tables_1_4) (i := 170) rfl)
theorem zw893 : Cond.static ⟨"DiodeLink$Rules", "greatestValue", "(I)I"⟩ ∈ lw_tbl := zin_4 _ (List.mem_of_getElem? (l := tables_1_4) (i := 227) rfl)
theorem zw894 : Cond.code ⟨"DiodeLink$Rules", "greatestValue", "(I)I"⟩ prog_9_method_2_code 1 (some .int) ∈ lw_tbl := zin_4 _ (List.mem_of_getElem? (l := tables_1_4) (i := 228) rfl)
theorem zw895 : Cond.instanceMethod ⟨"DiodeLink$Rules", "hasBadSign", "(LDiodeLink$Version;I)Z"⟩ ∈ lw_tbl := zin_4 _ (List.mem_of_getElem? (l := tables_1_4) (i := 183) rfl)
theorem zw896 : Cond.code ⟨"DiodeLink$Rules", "hasBadSign", "(LDiodeLink$Version;I)Z"⟩ prog_9_method_6_code 6 (some .boolean) ∈ lw_tbl := zin_4 _ (List.mem_of_getElem? (l := tables_1_4) (i := 184) rfl)
theorem zw897 : Cond.selects "DiodeLink$Rules" ⟨"DiodeLink$Rules", "hasBadSign", "(LDiodeLink$Version;I)Z"⟩ ⟨"DiodeLink$Rules", "hasBadSign", "(LDiodeLink$Version;I)Z"⟩ ∈ lw_tbl := zin_s _ (List.mem_of_getElem? (l := k2_sels lw_privs) (i := 34) rfl)
theorem zw898 : Cond.instanceMethod ⟨"DiodeLink$Rules", "isBrokenByFile", "(ILDiodeLink$Version;I)Z"⟩ ∈ lw_tbl := zin_4 _ (List.mem_of_getElem? (l := tables_1_4) (i := 175) rfl)
theorem zw899 : Cond.code ⟨"DiodeLink$Rules", "isBrokenByFile", "(ILDiodeLink$Version;I)Z"⟩ prog_9_method_5_code 4 (some .boolean) ∈ lw_tbl := zin_4 _ (List.mem_of_getElem? (l := tables_1_4) (i := 176) rfl)
theorem zw900 : Cond.selects "DiodeLink$Rules" ⟨"DiodeLink$Rules", "isBrokenByFile", "(ILDiodeLink$Version;I)Z"⟩ ⟨"DiodeLink$Rules", "isBrokenByFile", "(ILDiodeLink$Version;I)Z"⟩ ∈ lw_tbl := zin_s _ (List.mem_of_getElem? (l := k2_sels lw_privs) (i := 33) rfl)
theorem zw901 : Cond.instanceMethod ⟨"DiodeLink$Rules", "set", "(IIZ)V"⟩ ∈ lw_tbl := zin_4 _ (List.mem_of_getElem? (l := tables_1_4) (i := 231) rfl)
theorem zw902 : Cond.code ⟨"DiodeLink$Rules", "set", "(IIZ)V"⟩ prog_9_method_3_code 4 (none) ∈ lw_tbl := zin_4 _ (List.mem_of_getElem? (l := tables_1_4) (i := 233) rfl)
theorem zw903 : Cond.selects "DiodeLink$Rules" ⟨"DiodeLink$Rules", "set", "(IIZ)V"⟩ ⟨"DiodeLink$Rules", "set", "(IIZ)V"⟩ ∈ lw_tbl := zin_4 _ (List.mem_of_getElem? (l := tables_1_4) (i := 232) rfl)
theorem zw904 : Cond.instanceMethod ⟨"DiodeLink$Sender", "<init>", "()V"⟩ ∈ lw_tbl := zin_1 _ (List.mem_of_getElem? (l := tables_1_1) (i := 46) rfl)
theorem zw905 : Cond.code ⟨"DiodeLink$Sender", "<init>", "()V"⟩ prog_10_method_1_code 2 (none) ∈ lw_tbl := zin_1 _ (List.mem_of_getElem? (l := tables_1_1) (i := 47) rfl)
theorem zw906 : Cond.instanceMethod ⟨"DiodeLink$Sender", "beginLife", "()Z"⟩ ∈ lw_tbl := zin_4 _ (List.mem_of_getElem? (l := tables_1_4) (i := 211) rfl)
theorem zw907 : Cond.code ⟨"DiodeLink$Sender", "beginLife", "()Z"⟩ prog_10_method_4_code 1 (some .boolean) ∈ lw_tbl := zin_4 _ (List.mem_of_getElem? (l := tables_1_4) (i := 213) rfl)
theorem zw908 : Cond.selects "DiodeLink$Sender" ⟨"DiodeLink$Sender", "beginLife", "()Z"⟩ ⟨"DiodeLink$Sender", "beginLife", "()Z"⟩ ∈ lw_tbl := zin_4 _ (List.mem_of_getElem? (l := tables_1_4) (i := 212) rfl)
theorem zw909 : Cond.instanceMethod ⟨"DiodeLink$Sender", "beginRounds", "()V"⟩ ∈ lw_tbl := zin_3 _ (List.mem_of_getElem? (l := tables_1_3) (i := 70) rfl)
theorem zw910 : Cond.code ⟨"DiodeLink$Sender", "beginRounds", "()V"⟩ prog_10_method_7_code 1 (none) ∈ lw_tbl := zin_3 _ (List.mem_of_getElem? (l := tables_1_3) (i := 71) rfl)
theorem zw911 : Cond.selects "DiodeLink$Sender" ⟨"DiodeLink$Sender", "beginRounds", "()V"⟩ ⟨"DiodeLink$Sender", "beginRounds", "()V"⟩ ∈ lw_tbl := zin_s _ (List.mem_of_getElem? (l := k2_sels lw_privs) (i := 6) rfl)
theorem zw912 : Cond.instanceMethod ⟨"DiodeLink$Sender", "fillFrom", "(LDiodeLink$Bytes;II)V"⟩ ∈ lw_tbl := zin_3 _ (List.mem_of_getElem? (l := tables_1_3) (i := 115) rfl)
theorem zw913 : Cond.code ⟨"DiodeLink$Sender", "fillFrom", "(LDiodeLink$Bytes;II)V"⟩ prog_10_method_11_code 9 (none) ∈ lw_tbl := zin_3 _ (List.mem_of_getElem? (l := tables_1_3) (i := 116) rfl)
theorem zw914 : Cond.selects "DiodeLink$Sender" ⟨"DiodeLink$Sender", "fillFrom", "(LDiodeLink$Bytes;II)V"⟩ ⟨"DiodeLink$Sender", "fillFrom", "(LDiodeLink$Bytes;II)V"⟩ ∈ lw_tbl := zin_s _ (List.mem_of_getElem? (l := k2_sels lw_privs) (i := 8) rfl)
theorem zw915 : Cond.instanceMethod ⟨"DiodeLink$Sender", "fillNext", "(LDiodeLink$Bytes;)Z"⟩ ∈ lw_tbl := zin_3 _ (List.mem_of_getElem? (l := tables_1_3) (i := 81) rfl)
theorem zw916 : Cond.code ⟨"DiodeLink$Sender", "fillNext", "(LDiodeLink$Bytes;)Z"⟩ prog_10_method_6_code 4 (some .boolean) ∈ lw_tbl := zin_3 _ (List.mem_of_getElem? (l := tables_1_3) (i := 83) rfl)
theorem zw917 : Cond.selects "DiodeLink$Sender" ⟨"DiodeLink$Sender", "fillNext", "(LDiodeLink$Bytes;)Z"⟩ ⟨"DiodeLink$Sender", "fillNext", "(LDiodeLink$Bytes;)Z"⟩ ∈ lw_tbl := zin_3 _ (List.mem_of_getElem? (l := tables_1_3) (i := 82) rfl)
theorem zw918 : Cond.instanceMethod ⟨"DiodeLink$Sender", "folder", "(I)LDiodeLink$Folder;"⟩ ∈ lw_tbl := zin_2 _ (List.mem_of_getElem? (l := tables_1_2) (i := 207) rfl)
theorem zw919 : Cond.code ⟨"DiodeLink$Sender", "folder", "(I)LDiodeLink$Folder;"⟩ prog_10_method_2_code 2 (some (.object "DiodeLink$Folder")) ∈ lw_tbl := zin_2 _ (List.mem_of_getElem? (l := tables_1_2) (i := 209) rfl)
theorem zw920 : Cond.selects "DiodeLink$Sender" ⟨"DiodeLink$Sender", "folder", "(I)LDiodeLink$Folder;"⟩ ⟨"DiodeLink$Sender", "folder", "(I)LDiodeLink$Folder;"⟩ ∈ lw_tbl := zin_2 _ (List.mem_of_getElem? (l := tables_1_2) (i := 208) rfl)
theorem zw921 : Cond.instanceMethod ⟨"DiodeLink$Sender", "life", "()I"⟩ ∈ lw_tbl := zin_4 _ (List.mem_of_getElem? (l := tables_1_4) (i := 216) rfl)
theorem zw922 : Cond.code ⟨"DiodeLink$Sender", "life", "()I"⟩ prog_10_method_3_code 1 (some .int) ∈ lw_tbl := zin_4 _ (List.mem_of_getElem? (l := tables_1_4) (i := 218) rfl)
theorem zw923 : Cond.selects "DiodeLink$Sender" ⟨"DiodeLink$Sender", "life", "()I"⟩ ⟨"DiodeLink$Sender", "life", "()I"⟩ ∈ lw_tbl := zin_4 _ (List.mem_of_getElem? (l := tables_1_4) (i := 217) rfl)
theorem zw924 : Cond.instanceMethod ⟨"DiodeLink$Sender", "makeVersion", "(I)I"⟩ ∈ lw_tbl := zin_3 _ (List.mem_of_getElem? (l := tables_1_3) (i := 35) rfl)
theorem zw925 : Cond.code ⟨"DiodeLink$Sender", "makeVersion", "(I)I"⟩ prog_10_method_5_code 3 (some .int) ∈ lw_tbl := zin_3 _ (List.mem_of_getElem? (l := tables_1_3) (i := 37) rfl)
theorem zw926 : Cond.selects "DiodeLink$Sender" ⟨"DiodeLink$Sender", "makeVersion", "(I)I"⟩ ⟨"DiodeLink$Sender", "makeVersion", "(I)I"⟩ ∈ lw_tbl := zin_3 _ (List.mem_of_getElem? (l := tables_1_3) (i := 36) rfl)
theorem zw927 : Cond.static ⟨"DiodeLink$Sender", "oldestAge", "(I)I"⟩ ∈ lw_tbl := zin_3 _ (List.mem_of_getElem? (l := tables_1_3) (i := 89) rfl)
theorem zw928 : Cond.code ⟨"DiodeLink$Sender", "oldestAge", "(I)I"⟩ prog_10_method_8_code 1 (some .int) ∈ lw_tbl := zin_3 _ (List.mem_of_getElem? (l := tables_1_3) (i := 90) rfl)
theorem zw929 : Cond.instanceMethod ⟨"DiodeLink$Sender", "packetsOf", "(I)I"⟩ ∈ lw_tbl := zin_3 _ (List.mem_of_getElem? (l := tables_1_3) (i := 86) rfl)
theorem zw930 : Cond.code ⟨"DiodeLink$Sender", "packetsOf", "(I)I"⟩ prog_10_method_10_code 6 (some .int) ∈ lw_tbl := zin_3 _ (List.mem_of_getElem? (l := tables_1_3) (i := 87) rfl)
theorem zw931 : Cond.selects "DiodeLink$Sender" ⟨"DiodeLink$Sender", "packetsOf", "(I)I"⟩ ⟨"DiodeLink$Sender", "packetsOf", "(I)I"⟩ ∈ lw_tbl := zin_s _ (List.mem_of_getElem? (l := k2_sels lw_privs) (i := 7) rfl)
theorem zw932 : Cond.static ⟨"DiodeLink$Sender", "youngestAge", "(I)I"⟩ ∈ lw_tbl := zin_3 _ (List.mem_of_getElem? (l := tables_1_3) (i := 92) rfl)
theorem zw933 : Cond.code ⟨"DiodeLink$Sender", "youngestAge", "(I)I"⟩ prog_10_method_9_code 1 (some .int) ∈ lw_tbl := zin_3 _ (List.mem_of_getElem? (l := tables_1_3) (i := 93) rfl)
theorem zw934 : Cond.instanceMethod ⟨"DiodeLink$Version", "<init>", "()V"⟩ ∈ lw_tbl := zin_1 _ (List.mem_of_getElem? (l := tables_1_1) (i := 184) rfl)
theorem zw935 : Cond.code ⟨"DiodeLink$Version", "<init>", "()V"⟩ prog_11_method_1_code 2 (none) ∈ lw_tbl := zin_1 _ (List.mem_of_getElem? (l := tables_1_1) (i := 185) rfl)
theorem zw936 : Cond.instanceMethod ⟨"DiodeLink$Version", "become", "(I)V"⟩ ∈ lw_tbl := zin_4 _ (List.mem_of_getElem? (l := tables_1_4) (i := 196) rfl)
theorem zw937 : Cond.code ⟨"DiodeLink$Version", "become", "(I)V"⟩ prog_11_method_4_code 2 (none) ∈ lw_tbl := zin_4 _ (List.mem_of_getElem? (l := tables_1_4) (i := 198) rfl)
theorem zw938 : Cond.selects "DiodeLink$Version" ⟨"DiodeLink$Version", "become", "(I)V"⟩ ⟨"DiodeLink$Version", "become", "(I)V"⟩ ∈ lw_tbl := zin_4 _ (List.mem_of_getElem? (l := tables_1_4) (i := 197) rfl)
theorem zw939 : Cond.instanceMethod ⟨"DiodeLink$Version", "begin", "(I)V"⟩ ∈ lw_tbl := zin_3 _ (List.mem_of_getElem? (l := tables_1_3) (i := 231) rfl)
theorem zw940 : Cond.code ⟨"DiodeLink$Version", "begin", "(I)V"⟩ prog_11_method_9_code 3 (none) ∈ lw_tbl := zin_3 _ (List.mem_of_getElem? (l := tables_1_3) (i := 233) rfl)
theorem zw941 : Cond.selects "DiodeLink$Version" ⟨"DiodeLink$Version", "begin", "(I)V"⟩ ⟨"DiodeLink$Version", "begin", "(I)V"⟩ ∈ lw_tbl := zin_3 _ (List.mem_of_getElem? (l := tables_1_3) (i := 232) rfl)
theorem zw942 : Cond.instanceMethod ⟨"DiodeLink$Version", "clearItem", "(I)V"⟩ ∈ lw_tbl := zin_3 _ (List.mem_of_getElem? (l := tables_1_3) (i := 235) rfl)
theorem zw943 : Cond.code ⟨"DiodeLink$Version", "clearItem", "(I)V"⟩ prog_11_method_10_code 3 (none) ∈ lw_tbl := zin_3 _ (List.mem_of_getElem? (l := tables_1_3) (i := 237) rfl)
theorem zw944 : Cond.selects "DiodeLink$Version" ⟨"DiodeLink$Version", "clearItem", "(I)V"⟩ ⟨"DiodeLink$Version", "clearItem", "(I)V"⟩ ∈ lw_tbl := zin_3 _ (List.mem_of_getElem? (l := tables_1_3) (i := 236) rfl)
theorem zw945 : Cond.instanceMethod ⟨"DiodeLink$Version", "fileSize", "(I)I"⟩ ∈ lw_tbl := zin_4 _ (List.mem_of_getElem? (l := tables_1_4) (i := 178) rfl)
theorem zw946 : Cond.code ⟨"DiodeLink$Version", "fileSize", "(I)I"⟩ prog_11_method_18_code 2 (some .int) ∈ lw_tbl := zin_4 _ (List.mem_of_getElem? (l := tables_1_4) (i := 180) rfl)
theorem zw947 : Cond.selects "DiodeLink$Version" ⟨"DiodeLink$Version", "fileSize", "(I)I"⟩ ⟨"DiodeLink$Version", "fileSize", "(I)I"⟩ ∈ lw_tbl := zin_4 _ (List.mem_of_getElem? (l := tables_1_4) (i := 179) rfl)
theorem zw948 : Cond.instanceMethod ⟨"DiodeLink$Version", "files", "()I"⟩ ∈ lw_tbl := zin_4 _ (List.mem_of_getElem? (l := tables_1_4) (i := 128) rfl)
theorem zw949 : Cond.code ⟨"DiodeLink$Version", "files", "()I"⟩ prog_11_method_5_code 1 (some .int) ∈ lw_tbl := zin_4 _ (List.mem_of_getElem? (l := tables_1_4) (i := 130) rfl)
theorem zw950 : Cond.selects "DiodeLink$Version" ⟨"DiodeLink$Version", "files", "()I"⟩ ⟨"DiodeLink$Version", "files", "()I"⟩ ∈ lw_tbl := zin_4 _ (List.mem_of_getElem? (l := tables_1_4) (i := 129) rfl)
theorem zw951 : Cond.instanceMethod ⟨"DiodeLink$Version", "hasSolved", "(I)Z"⟩ ∈ lw_tbl := zin_4 _ (List.mem_of_getElem? (l := tables_1_4) (i := 4) rfl)
theorem zw952 : Cond.code ⟨"DiodeLink$Version", "hasSolved", "(I)Z"⟩ prog_11_method_12_code 2 (some .boolean) ∈ lw_tbl := zin_4 _ (List.mem_of_getElem? (l := tables_1_4) (i := 6) rfl)
theorem zw953 : Cond.selects "DiodeLink$Version" ⟨"DiodeLink$Version", "hasSolved", "(I)Z"⟩ ⟨"DiodeLink$Version", "hasSolved", "(I)Z"⟩ ∈ lw_tbl := zin_4 _ (List.mem_of_getElem? (l := tables_1_4) (i := 5) rfl)
theorem zw954 : Cond.instanceMethod ⟨"DiodeLink$Version", "heldLike", "(LDiodeLink$Version;I)I"⟩ ∈ lw_tbl := zin_4 _ (List.mem_of_getElem? (l := tables_1_4) (i := 144) rfl)
theorem zw955 : Cond.code ⟨"DiodeLink$Version", "heldLike", "(LDiodeLink$Version;I)I"⟩ prog_11_method_22_code 4 (some .int) ∈ lw_tbl := zin_4 _ (List.mem_of_getElem? (l := tables_1_4) (i := 146) rfl)
theorem zw956 : Cond.selects "DiodeLink$Version" ⟨"DiodeLink$Version", "heldLike", "(LDiodeLink$Version;I)I"⟩ ⟨"DiodeLink$Version", "heldLike", "(LDiodeLink$Version;I)I"⟩ ∈ lw_tbl := zin_4 _ (List.mem_of_getElem? (l := tables_1_4) (i := 145) rfl)
theorem zw957 : Cond.instanceMethod ⟨"DiodeLink$Version", "holdCopy", "(ILDiodeLink$Bytes;)V"⟩ ∈ lw_tbl := zin_4 _ (List.mem_of_getElem? (l := tables_1_4) (i := 148) rfl)
theorem zw958 : Cond.code ⟨"DiodeLink$Version", "holdCopy", "(ILDiodeLink$Bytes;)V"⟩ prog_11_method_23_code 4 (none) ∈ lw_tbl := zin_4 _ (List.mem_of_getElem? (l := tables_1_4) (i := 150) rfl)
theorem zw959 : Cond.selects "DiodeLink$Version" ⟨"DiodeLink$Version", "holdCopy", "(ILDiodeLink$Bytes;)V"⟩ ⟨"DiodeLink$Version", "holdCopy", "(ILDiodeLink$Bytes;)V"⟩ ∈ lw_tbl := zin_4 _ (List.mem_of_getElem? (l := tables_1_4) (i := 149) rfl)
theorem zw960 : Cond.instanceMethod ⟨"DiodeLink$Version", "holdIfRight", "(I)Z"⟩ ∈ lw_tbl := zin_4 _ (List.mem_of_getElem? (l := tables_1_4) (i := 102) rfl)
theorem zw961 : Cond.code ⟨"DiodeLink$Version", "holdIfRight", "(I)Z"⟩ prog_11_method_21_code 3 (some .boolean) ∈ lw_tbl := zin_4 _ (List.mem_of_getElem? (l := tables_1_4) (i := 104) rfl)
theorem zw962 : Cond.selects "DiodeLink$Version" ⟨"DiodeLink$Version", "holdIfRight", "(I)Z"⟩ ⟨"DiodeLink$Version", "holdIfRight", "(I)Z"⟩ ∈ lw_tbl := zin_4 _ (List.mem_of_getElem? (l := tables_1_4) (i := 103) rfl)
theorem zw963 : Cond.instanceMethod ⟨"DiodeLink$Version", "holds", "(I)Z"⟩ ∈ lw_tbl := zin_4 _ (List.mem_of_getElem? (l := tables_1_4) (i := 140) rfl)
theorem zw964 : Cond.code ⟨"DiodeLink$Version", "holds", "(I)Z"⟩ prog_11_method_7_code 2 (some .boolean) ∈ lw_tbl := zin_4 _ (List.mem_of_getElem? (l := tables_1_4) (i := 142) rfl)
theorem zw965 : Cond.selects "DiodeLink$Version" ⟨"DiodeLink$Version", "holds", "(I)Z"⟩ ⟨"DiodeLink$Version", "holds", "(I)Z"⟩ ∈ lw_tbl := zin_4 _ (List.mem_of_getElem? (l := tables_1_4) (i := 141) rfl)
theorem zw966 : Cond.instanceMethod ⟨"DiodeLink$Version", "isBehindLast", "(I)Z"⟩ ∈ lw_tbl := zin_4 _ (List.mem_of_getElem? (l := tables_1_4) (i := 124) rfl)
theorem zw967 : Cond.code ⟨"DiodeLink$Version", "isBehindLast", "(I)Z"⟩ prog_11_method_20_code 2 (some .boolean) ∈ lw_tbl := zin_4 _ (List.mem_of_getElem? (l := tables_1_4) (i := 125) rfl)
theorem zw968 : Cond.selects "DiodeLink$Version" ⟨"DiodeLink$Version", "isBehindLast", "(I)Z"⟩ ⟨"DiodeLink$Version", "isBehindLast", "(I)Z"⟩ ∈ lw_tbl := zin_s _ (List.mem_of_getElem? (l := k2_sels lw_privs) (i := 28) rfl)
theorem zw969 : Cond.instanceMethod ⟨"DiodeLink$Version", "isComplete", "(I)Z"⟩ ∈ lw_tbl := zin_4 _ (List.mem_of_getElem? (l := tables_1_4) (i := 84) rfl)
theorem zw970 : Cond.code ⟨"DiodeLink$Version", "isComplete", "(I)Z"⟩ prog_11_method_14_code 2 (some .boolean) ∈ lw_tbl := zin_4 _ (List.mem_of_getElem? (l := tables_1_4) (i := 86) rfl)
theorem zw971 : Cond.selects "DiodeLink$Version" ⟨"DiodeLink$Version", "isComplete", "(I)Z"⟩ ⟨"DiodeLink$Version", "isComplete", "(I)Z"⟩ ∈ lw_tbl := zin_4 _ (List.mem_of_getElem? (l := tables_1_4) (i := 85) rfl)
theorem zw972 : Cond.instanceMethod ⟨"DiodeLink$Version", "isGood", "()Z"⟩ ∈ lw_tbl := zin_4 _ (List.mem_of_getElem? (l := tables_1_4) (i := 94) rfl)
theorem zw973 : Cond.code ⟨"DiodeLink$Version", "isGood", "()Z"⟩ prog_11_method_6_code 1 (some .boolean) ∈ lw_tbl := zin_4 _ (List.mem_of_getElem? (l := tables_1_4) (i := 96) rfl)
theorem zw974 : Cond.selects "DiodeLink$Version" ⟨"DiodeLink$Version", "isGood", "()Z"⟩ ⟨"DiodeLink$Version", "isGood", "()Z"⟩ ∈ lw_tbl := zin_4 _ (List.mem_of_getElem? (l := tables_1_4) (i := 95) rfl)
theorem zw975 : Cond.instanceMethod ⟨"DiodeLink$Version", "isSolved", "(II)Z"⟩ ∈ lw_tbl := zin_4 _ (List.mem_of_getElem? (l := tables_1_4) (i := 8) rfl)
theorem zw976 : Cond.code ⟨"DiodeLink$Version", "isSolved", "(II)Z"⟩ prog_11_method_11_code 3 (some .boolean) ∈ lw_tbl := zin_4 _ (List.mem_of_getElem? (l := tables_1_4) (i := 10) rfl)
theorem zw977 : Cond.selects "DiodeLink$Version" ⟨"DiodeLink$Version", "isSolved", "(II)Z"⟩ ⟨"DiodeLink$Version", "isSolved", "(II)Z"⟩ ∈ lw_tbl := zin_4 _ (List.mem_of_getElem? (l := tables_1_4) (i := 9) rfl)
theorem zw978 : Cond.instanceMethod ⟨"DiodeLink$Version", "isWhole", "()Z"⟩ ∈ lw_tbl := zin_4 _ (List.mem_of_getElem? (l := tables_1_4) (i := 161) rfl)
theorem zw979 : Cond.code ⟨"DiodeLink$Version", "isWhole", "()Z"⟩ prog_11_method_15_code 2 (some .boolean) ∈ lw_tbl := zin_4 _ (List.mem_of_getElem? (l := tables_1_4) (i := 163) rfl)
theorem zw980 : Cond.selects "DiodeLink$Version" ⟨"DiodeLink$Version", "isWhole", "()Z"⟩ ⟨"DiodeLink$Version", "isWhole", "()Z"⟩ ∈ lw_tbl := zin_4 _ (List.mem_of_getElem? (l := tables_1_4) (i := 162) rfl)
theorem zw981 : Cond.instanceMethod ⟨"DiodeLink$Version", "item", "(I)LDiodeLink$Bytes;"⟩ ∈ lw_tbl := zin_4 _ (List.mem_of_getElem? (l := tables_1_4) (i := 19) rfl)
theorem zw982 : Cond.code ⟨"DiodeLink$Version", "item", "(I)LDiodeLink$Bytes;"⟩ prog_11_method_8_code 2 (some (.object "DiodeLink$Bytes")) ∈ lw_tbl := zin_4 _ (List.mem_of_getElem? (l := tables_1_4) (i := 21) rfl)
theorem zw983 : Cond.selects "DiodeLink$Version" ⟨"DiodeLink$Version", "item", "(I)LDiodeLink$Bytes;"⟩ ⟨"DiodeLink$Version", "item", "(I)LDiodeLink$Bytes;"⟩ ∈ lw_tbl := zin_4 _ (List.mem_of_getElem? (l := tables_1_4) (i := 20) rfl)
theorem zw984 : Cond.instanceMethod ⟨"DiodeLink$Version", "namePlace", "(I)I"⟩ ∈ lw_tbl := zin_4 _ (List.mem_of_getElem? (l := tables_1_4) (i := 187) rfl)
theorem zw985 : Cond.code ⟨"DiodeLink$Version", "namePlace", "(I)I"⟩ prog_11_method_17_code 2 (some .int) ∈ lw_tbl := zin_4 _ (List.mem_of_getElem? (l := tables_1_4) (i := 189) rfl)
theorem zw986 : Cond.selects "DiodeLink$Version" ⟨"DiodeLink$Version", "namePlace", "(I)I"⟩ ⟨"DiodeLink$Version", "namePlace", "(I)I"⟩ ∈ lw_tbl := zin_4 _ (List.mem_of_getElem? (l := tables_1_4) (i := 188) rfl)
theorem zw987 : Cond.instanceMethod ⟨"DiodeLink$Version", "nameSize", "(I)I"⟩ ∈ lw_tbl := zin_4 _ (List.mem_of_getElem? (l := tables_1_4) (i := 191) rfl)
theorem zw988 : Cond.code ⟨"DiodeLink$Version", "nameSize", "(I)I"⟩ prog_11_method_16_code 2 (some .int) ∈ lw_tbl := zin_4 _ (List.mem_of_getElem? (l := tables_1_4) (i := 193) rfl)
theorem zw989 : Cond.selects "DiodeLink$Version" ⟨"DiodeLink$Version", "nameSize", "(I)I"⟩ ⟨"DiodeLink$Version", "nameSize", "(I)I"⟩ ∈ lw_tbl := zin_4 _ (List.mem_of_getElem? (l := tables_1_4) (i := 192) rfl)
theorem zw990 : Cond.instanceMethod ⟨"DiodeLink$Version", "number", "()I"⟩ ∈ lw_tbl := zin_3 _ (List.mem_of_getElem? (l := tables_1_3) (i := 206) rfl)
theorem zw991 : Cond.code ⟨"DiodeLink$Version", "number", "()I"⟩ prog_11_method_2_code 1 (some .int) ∈ lw_tbl := zin_3 _ (List.mem_of_getElem? (l := tables_1_3) (i := 208) rfl)
theorem zw992 : Cond.selects "DiodeLink$Version" ⟨"DiodeLink$Version", "number", "()I"⟩ ⟨"DiodeLink$Version", "number", "()I"⟩ ∈ lw_tbl := zin_3 _ (List.mem_of_getElem? (l := tables_1_3) (i := 207) rfl)
theorem zw993 : Cond.instanceMethod ⟨"DiodeLink$Version", "readManifest", "()Z"⟩ ∈ lw_tbl := zin_4 _ (List.mem_of_getElem? (l := tables_1_4) (i := 116) rfl)
theorem zw994 : Cond.code ⟨"DiodeLink$Version", "readManifest", "()Z"⟩ prog_11_method_19_code 5 (some .boolean) ∈ lw_tbl := zin_4 _ (List.mem_of_getElem? (l := tables_1_4) (i := 118) rfl)
theorem zw995 : Cond.selects "DiodeLink$Version" ⟨"DiodeLink$Version", "readManifest", "()Z"⟩ ⟨"DiodeLink$Version", "readManifest", "()Z"⟩ ∈ lw_tbl := zin_4 _ (List.mem_of_getElem? (l := tables_1_4) (i := 117) rfl)
theorem zw996 : Cond.instanceMethod ⟨"DiodeLink$Version", "showFrom", "(LDiodeLink$Version;)V"⟩ ∈ lw_tbl := zin_5 _ (List.mem_of_getElem? (l := tables_1_5) (i := 34) rfl)
theorem zw997 : Cond.code ⟨"DiodeLink$Version", "showFrom", "(LDiodeLink$Version;)V"⟩ prog_11_method_24_code 3 (none) ∈ lw_tbl := zin_5 _ (List.mem_of_getElem? (l := tables_1_5) (i := 36) rfl)
theorem zw998 : Cond.selects "DiodeLink$Version" ⟨"DiodeLink$Version", "showFrom", "(LDiodeLink$Version;)V"⟩ ⟨"DiodeLink$Version", "showFrom", "(LDiodeLink$Version;)V"⟩ ∈ lw_tbl := zin_5 _ (List.mem_of_getElem? (l := tables_1_5) (i := 35) rfl)
theorem zw999 : Cond.instanceMethod ⟨"DiodeLink$Version", "solve", "(II)V"⟩ ∈ lw_tbl := zin_4 _ (List.mem_of_getElem? (l := tables_1_4) (i := 80) rfl)
theorem zw1000 : Cond.code ⟨"DiodeLink$Version", "solve", "(II)V"⟩ prog_11_method_13_code 3 (none) ∈ lw_tbl := zin_4 _ (List.mem_of_getElem? (l := tables_1_4) (i := 82) rfl)
theorem zw1001 : Cond.selects "DiodeLink$Version" ⟨"DiodeLink$Version", "solve", "(II)V"⟩ ⟨"DiodeLink$Version", "solve", "(II)V"⟩ ∈ lw_tbl := zin_4 _ (List.mem_of_getElem? (l := tables_1_4) (i := 81) rfl)
theorem zw1002 : Cond.instanceMethod ⟨"DiodeLink$Version", "state", "()I"⟩ ∈ lw_tbl := zin_4 _ (List.mem_of_getElem? (l := tables_1_4) (i := 157) rfl)
theorem zw1003 : Cond.code ⟨"DiodeLink$Version", "state", "()I"⟩ prog_11_method_3_code 1 (some .int) ∈ lw_tbl := zin_4 _ (List.mem_of_getElem? (l := tables_1_4) (i := 159) rfl)
theorem zw1004 : Cond.selects "DiodeLink$Version" ⟨"DiodeLink$Version", "state", "()I"⟩ ⟨"DiodeLink$Version", "state", "()I"⟩ ∈ lw_tbl := zin_4 _ (List.mem_of_getElem? (l := tables_1_4) (i := 158) rfl)
theorem zw1005 : Cond.static ⟨"DiodeLinkLaw", "alter", "(LDiodeLink;III)I"⟩ ∈ lw_tbl := zin_3 _ (List.mem_of_getElem? (l := tables_1_3) (i := 154) rfl)
theorem zw1006 : Cond.initialized "DiodeLinkLaw" ∈ lw_tbl := zin_1 _ (List.mem_of_getElem? (l := tables_1_1) (i := 0) rfl)
theorem zw1007 : Cond.codeWith ⟨"DiodeLinkLaw", "alter", "(LDiodeLink;III)I"⟩ method_9_code 5 (some .int) [(0, 7, 10, 13)] ∈ lw_tbl := zin_3 _ (List.mem_of_getElem? (l := tables_1_3) (i := 155) rfl)
theorem zw1008 : Cond.static ⟨"DiodeLinkLaw", "commit", "(LDiodeLink;I[J)I"⟩ ∈ lw_tbl := zin_3 _ (List.mem_of_getElem? (l := tables_1_3) (i := 25) rfl)
theorem zw1009 : Cond.codeWith ⟨"DiodeLinkLaw", "commit", "(LDiodeLink;I[J)I"⟩ method_6_code 4 (some .int) [(0, 9, 12, 13), (0, 9, 15, 15)] ∈ lw_tbl := zin_3 _ (List.mem_of_getElem? (l := tables_1_3) (i := 26) rfl)
theorem zw1010 : Cond.static ⟨"DiodeLinkLaw", "count", "(LDiodeLink;I[J)I"⟩ ∈ lw_tbl := zin_5 _ (List.mem_of_getElem? (l := tables_1_5) (i := 111) rfl)
theorem zw1011 : Cond.codeWith ⟨"DiodeLinkLaw", "count", "(LDiodeLink;I[J)I"⟩ method_20_code 4 (some .int) [(0, 9, 12, 13)] ∈ lw_tbl := zin_5 _ (List.mem_of_getElem? (l := tables_1_5) (i := 112) rfl)
theorem zw1012 : Cond.static ⟨"DiodeLinkLaw", "feed", "(LDiodeLink;ZJI[J)I"⟩ ∈ lw_tbl := zin_2 _ (List.mem_of_getElem? (l := tables_1_2) (i := 91) rfl)
theorem zw1013 : Cond.codeWith ⟨"DiodeLinkLaw", "feed", "(LDiodeLink;ZJI[J)I"⟩ method_3_code 7 (some .int) [(0, 13, 16, 13), (0, 13, 20, 15)] ∈ lw_tbl := zin_2 _ (List.mem_of_getElem? (l := tables_1_2) (i := 92) rfl)
theorem zw1014 : Cond.static ⟨"DiodeLinkLaw", "file", "(LDiodeLink;IIIZ[J)I"⟩ ∈ lw_tbl := zin_5 _ (List.mem_of_getElem? (l := tables_1_5) (i := 51) rfl)
theorem zw1015 : Cond.codeWith ⟨"DiodeLinkLaw", "file", "(LDiodeLink;IIIZ[J)I"⟩ method_17_code 7 (some .int) [(0, 14, 17, 13), (0, 14, 21, 68)] ∈ lw_tbl := zin_5 _ (List.mem_of_getElem? (l := tables_1_5) (i := 52) rfl)
theorem zw1016 : Cond.static ⟨"DiodeLinkLaw", "have", "(LDiodeLink;II[J)I"⟩ ∈ lw_tbl := zin_4 _ (List.mem_of_getElem? (l := tables_1_4) (i := 235) rfl)
theorem zw1017 : Cond.codeWith ⟨"DiodeLinkLaw", "have", "(LDiodeLink;II[J)I"⟩ method_13_code 5 (some .int) [(0, 10, 13, 13)] ∈ lw_tbl := zin_4 _ (List.mem_of_getElem? (l := tables_1_4) (i := 236) rfl)
theorem zw1018 : Cond.static ⟨"DiodeLinkLaw", "hear", "(LDiodeLink;I[J)I"⟩ ∈ lw_tbl := zin_3 _ (List.mem_of_getElem? (l := tables_1_3) (i := 170) rfl)
theorem zw1019 : Cond.codeWith ⟨"DiodeLinkLaw", "hear", "(LDiodeLink;I[J)I"⟩ method_10_code 4 (some .int) [(0, 9, 12, 13)] ∈ lw_tbl := zin_3 _ (List.mem_of_getElem? (l := tables_1_3) (i := 171) rfl)
theorem zw1020 : Cond.static ⟨"DiodeLinkLaw", "journal", "(LDiodeLink;II[J)I"⟩ ∈ lw_tbl := zin_5 _ (List.mem_of_getElem? (l := tables_1_5) (i := 81) rfl)
theorem zw1021 : Cond.codeWith ⟨"DiodeLinkLaw", "journal", "(LDiodeLink;II[J)I"⟩ method_18_code 5 (some .int) [(0, 9, 12, 13), (0, 9, 16, 68)] ∈ lw_tbl := zin_5 _ (List.mem_of_getElem? (l := tables_1_5) (i := 82) rfl)
theorem zw1022 : Cond.static ⟨"DiodeLinkLaw", "packet", "(LDiodeLink;II[J)I"⟩ ∈ lw_tbl := zin_3 _ (List.mem_of_getElem? (l := tables_1_3) (i := 140) rfl)
theorem zw1023 : Cond.codeWith ⟨"DiodeLinkLaw", "packet", "(LDiodeLink;II[J)I"⟩ method_8_code 5 (some .int) [(0, 9, 12, 13)] ∈ lw_tbl := zin_3 _ (List.mem_of_getElem? (l := tables_1_3) (i := 141) rfl)
theorem zw1024 : Cond.static ⟨"DiodeLinkLaw", "rank", "(LDiodeLink;IIII[J)I"⟩ ∈ lw_tbl := zin_5 _ (List.mem_of_getElem? (l := tables_1_5) (i := 11) rfl)
theorem zw1025 : Cond.codeWith ⟨"DiodeLinkLaw", "rank", "(LDiodeLink;IIII[J)I"⟩ method_14_code 7 (some .int) [(0, 14, 17, 13)] ∈ lw_tbl := zin_5 _ (List.mem_of_getElem? (l := tables_1_5) (i := 12) rfl)
theorem zw1026 : Cond.static ⟨"DiodeLinkLaw", "release", "(LDiodeLink;I[J)I"⟩ ∈ lw_tbl := zin_5 _ (List.mem_of_getElem? (l := tables_1_5) (i := 23) rfl)
theorem zw1027 : Cond.codeWith ⟨"DiodeLinkLaw", "release", "(LDiodeLink;I[J)I"⟩ method_15_code 4 (some .int) [(0, 9, 12, 13)] ∈ lw_tbl := zin_5 _ (List.mem_of_getElem? (l := tables_1_5) (i := 24) rfl)
theorem zw1028 : Cond.static ⟨"DiodeLinkLaw", "released", "(LDiodeLink;I[J)I"⟩ ∈ lw_tbl := zin_5 _ (List.mem_of_getElem? (l := tables_1_5) (i := 39) rfl)
theorem zw1029 : Cond.codeWith ⟨"DiodeLinkLaw", "released", "(LDiodeLink;I[J)I"⟩ method_16_code 4 (some .int) [(0, 9, 12, 13)] ∈ lw_tbl := zin_5 _ (List.mem_of_getElem? (l := tables_1_5) (i := 40) rfl)
theorem zw1030 : Cond.static ⟨"DiodeLinkLaw", "remove", "(LDiodeLink;I[J)I"⟩ ∈ lw_tbl := zin_3 _ (List.mem_of_getElem? (l := tables_1_3) (i := 13) rfl)
theorem zw1031 : Cond.codeWith ⟨"DiodeLinkLaw", "remove", "(LDiodeLink;I[J)I"⟩ method_5_code 4 (some .int) [(0, 16, 19, 13)] ∈ lw_tbl := zin_3 _ (List.mem_of_getElem? (l := tables_1_3) (i := 14) rfl)
theorem zw1032 : Cond.static ⟨"DiodeLinkLaw", "restartSender", "(LDiodeLink;[J)I"⟩ ∈ lw_tbl := zin_4 _ (List.mem_of_getElem? (l := tables_1_4) (i := 204) rfl)
theorem zw1033 : Cond.codeWith ⟨"DiodeLinkLaw", "restartSender", "(LDiodeLink;[J)I"⟩ method_11_code 3 (some .int) [(0, 8, 11, 15)] ∈ lw_tbl := zin_4 _ (List.mem_of_getElem? (l := tables_1_4) (i := 205) rfl)
theorem zw1034 : Cond.static ⟨"DiodeLinkLaw", "rule", "(LDiodeLink;IIZ)I"⟩ ∈ lw_tbl := zin_4 _ (List.mem_of_getElem? (l := tables_1_4) (i := 220) rfl)
theorem zw1035 : Cond.codeWith ⟨"DiodeLinkLaw", "rule", "(LDiodeLink;IIZ)I"⟩ method_12_code 5 (some .int) [(0, 7, 10, 13)] ∈ lw_tbl := zin_4 _ (List.mem_of_getElem? (l := tables_1_4) (i := 221) rfl)
theorem zw1036 : Cond.static ⟨"DiodeLinkLaw", "send", "(LDiodeLink;[J)I"⟩ ∈ lw_tbl := zin_3 _ (List.mem_of_getElem? (l := tables_1_3) (i := 74) rfl)
theorem zw1037 : Cond.codeWith ⟨"DiodeLinkLaw", "send", "(LDiodeLink;[J)I"⟩ method_7_code 3 (some .int) [(0, 8, 11, 15)] ∈ lw_tbl := zin_3 _ (List.mem_of_getElem? (l := tables_1_3) (i := 75) rfl)
theorem zw1038 : Cond.static ⟨"DiodeLinkLaw", "touch", "(LDiodeLink;III)I"⟩ ∈ lw_tbl := zin_5 _ (List.mem_of_getElem? (l := tables_1_5) (i := 100) rfl)
theorem zw1039 : Cond.codeWith ⟨"DiodeLinkLaw", "touch", "(LDiodeLink;III)I"⟩ method_19_code 5 (some .int) [(0, 7, 10, 13), (0, 7, 14, 68)] ∈ lw_tbl := zin_5 _ (List.mem_of_getElem? (l := tables_1_5) (i := 101) rfl)
theorem zw1040 : Cond.static ⟨"DiodeLinkLaw", "write", "(LDiodeLink;I[J)I"⟩ ∈ lw_tbl := zin_2 _ (List.mem_of_getElem? (l := tables_1_2) (i := 193) rfl)
theorem zw1041 : Cond.codeWith ⟨"DiodeLinkLaw", "write", "(LDiodeLink;I[J)I"⟩ method_4_code 4 (some .int) [(0, 9, 12, 13), (0, 9, 15, 15)] ∈ lw_tbl := zin_2 _ (List.mem_of_getElem? (l := tables_1_2) (i := 194) rfl)
theorem zw1042 : Cond.instanceMethod ⟨"DiodeLinkModel", "<init>", "()V"⟩ ∈ lw_tbl := zin_5 _ (List.mem_of_getElem? (l := tables_1_5) (i := 129) rfl)
theorem zw1043 : Cond.initialized "DiodeLinkModel" ∈ lw_tbl := zin_1 _ (List.mem_of_getElem? (l := tables_1_1) (i := 11) rfl)
theorem zw1044 : Cond.code ⟨"DiodeLinkModel", "<init>", "()V"⟩ prog_13_method_1_code 2 (none) ∈ lw_tbl := zin_5 _ (List.mem_of_getElem? (l := tables_1_5) (i := 130) rfl)
theorem zw1045 : Cond.instanceMethod ⟨"DiodeLinkModel", "alter", "(III)V"⟩ ∈ lw_tbl := zin_6 _ (List.mem_of_getElem? (l := tables_1_6) (i := 161) rfl)
theorem zw1046 : Cond.code ⟨"DiodeLinkModel", "alter", "(III)V"⟩ prog_13_method_31_code 4 (none) ∈ lw_tbl := zin_6 _ (List.mem_of_getElem? (l := tables_1_6) (i := 163) rfl)
theorem zw1047 : Cond.selects "DiodeLinkModel" ⟨"DiodeLinkModel", "alter", "(III)V"⟩ ⟨"DiodeLinkModel", "alter", "(III)V"⟩ ∈ lw_tbl := zin_6 _ (List.mem_of_getElem? (l := tables_1_6) (i := 162) rfl)
theorem zw1048 : Cond.instanceMethod ⟨"DiodeLinkModel", "anew", "()V"⟩ ∈ lw_tbl := zin_6 _ (List.mem_of_getElem? (l := tables_1_6) (i := 112) rfl)
theorem zw1049 : Cond.code ⟨"DiodeLinkModel", "anew", "()V"⟩ prog_13_method_18_code 1 (none) ∈ lw_tbl := zin_6 _ (List.mem_of_getElem? (l := tables_1_6) (i := 113) rfl)
theorem zw1050 : Cond.selects "DiodeLinkModel" ⟨"DiodeLinkModel", "anew", "()V"⟩ ⟨"DiodeLinkModel", "anew", "()V"⟩ ∈ lw_tbl := zin_s _ (List.mem_of_getElem? (l := k2_sels lw_privs) (i := 43) rfl)
theorem zw1051 : Cond.static ⟨"DiodeLinkModel", "begin", "()J"⟩ ∈ lw_tbl := zin_6 _ (List.mem_of_getElem? (l := tables_1_6) (i := 103) rfl)
theorem zw1052 : Cond.code ⟨"DiodeLinkModel", "begin", "()J"⟩ prog_13_method_6_code 0 (some .long) ∈ lw_tbl := zin_6 _ (List.mem_of_getElem? (l := tables_1_6) (i := 104) rfl)
theorem zw1053 : Cond.static ⟨"DiodeLinkModel", "blocks", "(I)I"⟩ ∈ lw_tbl := zin_6 _ (List.mem_of_getElem? (l := tables_1_6) (i := 127) rfl)
theorem zw1054 : Cond.code ⟨"DiodeLinkModel", "blocks", "(I)I"⟩ prog_13_method_19_code 1 (some .int) ∈ lw_tbl := zin_6 _ (List.mem_of_getElem? (l := tables_1_6) (i := 128) rfl)
theorem zw1055 : Cond.instanceMethod ⟨"DiodeLinkModel", "borrows", "(II)Z"⟩ ∈ lw_tbl := zin_7 _ (List.mem_of_getElem? (l := tables_1_7) (i := 46) rfl)
theorem zw1056 : Cond.code ⟨"DiodeLinkModel", "borrows", "(II)Z"⟩ prog_13_method_56_code 8 (some .boolean) ∈ lw_tbl := zin_7 _ (List.mem_of_getElem? (l := tables_1_7) (i := 47) rfl)
theorem zw1057 : Cond.selects "DiodeLinkModel" ⟨"DiodeLinkModel", "borrows", "(II)Z"⟩ ⟨"DiodeLinkModel", "borrows", "(II)Z"⟩ ∈ lw_tbl := zin_s _ (List.mem_of_getElem? (l := k2_sels lw_privs) (i := 78) rfl)
theorem zw1058 : Cond.instanceMethod ⟨"DiodeLinkModel", "breaks", "(III)Z"⟩ ∈ lw_tbl := zin_7 _ (List.mem_of_getElem? (l := tables_1_7) (i := 66) rfl)
theorem zw1059 : Cond.code ⟨"DiodeLinkModel", "breaks", "(III)Z"⟩ prog_13_method_58_code 8 (some .boolean) ∈ lw_tbl := zin_7 _ (List.mem_of_getElem? (l := tables_1_7) (i := 67) rfl)
theorem zw1060 : Cond.selects "DiodeLinkModel" ⟨"DiodeLinkModel", "breaks", "(III)Z"⟩ ⟨"DiodeLinkModel", "breaks", "(III)Z"⟩ ∈ lw_tbl := zin_s _ (List.mem_of_getElem? (l := k2_sels lw_privs) (i := 83) rfl)
theorem zw1061 : Cond.instanceMethod ⟨"DiodeLinkModel", "byteOf", "(II)I"⟩ ∈ lw_tbl := zin_7 _ (List.mem_of_getElem? (l := tables_1_7) (i := 18) rfl)
theorem zw1062 : Cond.code ⟨"DiodeLinkModel", "byteOf", "(II)I"⟩ prog_13_method_48_code 3 (some .int) ∈ lw_tbl := zin_7 _ (List.mem_of_getElem? (l := tables_1_7) (i := 19) rfl)
theorem zw1063 : Cond.selects "DiodeLinkModel" ⟨"DiodeLinkModel", "byteOf", "(II)I"⟩ ⟨"DiodeLinkModel", "byteOf", "(II)I"⟩ ∈ lw_tbl := zin_s _ (List.mem_of_getElem? (l := k2_sels lw_privs) (i := 71) rfl)
theorem zw1064 : Cond.instanceMethod ⟨"DiodeLinkModel", "canBe", "(I)Z"⟩ ∈ lw_tbl := zin_6 _ (List.mem_of_getElem? (l := tables_1_6) (i := 186) rfl)
theorem zw1065 : Cond.code ⟨"DiodeLinkModel", "canBe", "(I)Z"⟩ prog_13_method_62_code 6 (some .boolean) ∈ lw_tbl := zin_6 _ (List.mem_of_getElem? (l := tables_1_6) (i := 187) rfl)
theorem zw1066 : Cond.selects "DiodeLinkModel" ⟨"DiodeLinkModel", "canBe", "(I)Z"⟩ ⟨"DiodeLinkModel", "canBe", "(I)Z"⟩ ∈ lw_tbl := zin_s _ (List.mem_of_getElem? (l := k2_sels lw_privs) (i := 53) rfl)
theorem zw1067 : Cond.instanceMethod ⟨"DiodeLinkModel", "clear", "(I)V"⟩ ∈ lw_tbl := zin_6 _ (List.mem_of_getElem? (l := tables_1_6) (i := 214) rfl)
theorem zw1068 : Cond.code ⟨"DiodeLinkModel", "clear", "(I)V"⟩ prog_13_method_39_code 3 (none) ∈ lw_tbl := zin_6 _ (List.mem_of_getElem? (l := tables_1_6) (i := 215) rfl)
theorem zw1069 : Cond.selects "DiodeLinkModel" ⟨"DiodeLinkModel", "clear", "(I)V"⟩ ⟨"DiodeLinkModel", "clear", "(I)V"⟩ ∈ lw_tbl := zin_s _ (List.mem_of_getElem? (l := k2_sels lw_privs) (i := 60) rfl)
theorem zw1070 : Cond.instanceMethod ⟨"DiodeLinkModel", "commit", "(I)I"⟩ ∈ lw_tbl := zin_6 _ (List.mem_of_getElem? (l := tables_1_6) (i := 91) rfl)
theorem zw1071 : Cond.code ⟨"DiodeLinkModel", "commit", "(I)I"⟩ prog_13_method_17_code 6 (some .int) ∈ lw_tbl := zin_6 _ (List.mem_of_getElem? (l := tables_1_6) (i := 93) rfl)
theorem zw1072 : Cond.selects "DiodeLinkModel" ⟨"DiodeLinkModel", "commit", "(I)I"⟩ ⟨"DiodeLinkModel", "commit", "(I)I"⟩ ∈ lw_tbl := zin_6 _ (List.mem_of_getElem? (l := tables_1_6) (i := 92) rfl)
theorem zw1073 : Cond.instanceMethod ⟨"DiodeLinkModel", "compare", "(II)V"⟩ ∈ lw_tbl := zin_7 _ (List.mem_of_getElem? (l := tables_1_7) (i := 14) rfl)
theorem zw1074 : Cond.code ⟨"DiodeLinkModel", "compare", "(II)V"⟩ prog_13_method_54_code 7 (none) ∈ lw_tbl := zin_7 _ (List.mem_of_getElem? (l := tables_1_7) (i := 15) rfl)
theorem zw1075 : Cond.selects "DiodeLinkModel" ⟨"DiodeLinkModel", "compare", "(II)V"⟩ ⟨"DiodeLinkModel", "compare", "(II)V"⟩ ∈ lw_tbl := zin_s _ (List.mem_of_getElem? (l := k2_sels lw_privs) (i := 70) rfl)
theorem zw1076 : Cond.instanceMethod ⟨"DiodeLinkModel", "completes", "(II)V"⟩ ∈ lw_tbl := zin_7 _ (List.mem_of_getElem? (l := tables_1_7) (i := 10) rfl)
theorem zw1077 : Cond.code ⟨"DiodeLinkModel", "completes", "(II)V"⟩ prog_13_method_55_code 4 (none) ∈ lw_tbl := zin_7 _ (List.mem_of_getElem? (l := tables_1_7) (i := 11) rfl)
theorem zw1078 : Cond.selects "DiodeLinkModel" ⟨"DiodeLinkModel", "completes", "(II)V"⟩ ⟨"DiodeLinkModel", "completes", "(II)V"⟩ ∈ lw_tbl := zin_s _ (List.mem_of_getElem? (l := k2_sels lw_privs) (i := 69) rfl)
theorem zw1079 : Cond.instanceMethod ⟨"DiodeLinkModel", "count", "(I)I"⟩ ∈ lw_tbl := zin_7 _ (List.mem_of_getElem? (l := tables_1_7) (i := 118) rfl)
theorem zw1080 : Cond.code ⟨"DiodeLinkModel", "count", "(I)I"⟩ prog_13_method_80_code 2 (some .int) ∈ lw_tbl := zin_7 _ (List.mem_of_getElem? (l := tables_1_7) (i := 120) rfl)
theorem zw1081 : Cond.selects "DiodeLinkModel" ⟨"DiodeLinkModel", "count", "(I)I"⟩ ⟨"DiodeLinkModel", "count", "(I)I"⟩ ∈ lw_tbl := zin_7 _ (List.mem_of_getElem? (l := tables_1_7) (i := 119) rfl)
theorem zw1082 : Cond.instanceMethod ⟨"DiodeLinkModel", "drop", "(III)V"⟩ ∈ lw_tbl := zin_6 _ (List.mem_of_getElem? (l := tables_1_6) (i := 206) rfl)
theorem zw1083 : Cond.code ⟨"DiodeLinkModel", "drop", "(III)V"⟩ prog_13_method_34_code 6 (none) ∈ lw_tbl := zin_6 _ (List.mem_of_getElem? (l := tables_1_6) (i := 207) rfl)
theorem zw1084 : Cond.selects "DiodeLinkModel" ⟨"DiodeLinkModel", "drop", "(III)V"⟩ ⟨"DiodeLinkModel", "drop", "(III)V"⟩ ∈ lw_tbl := zin_s _ (List.mem_of_getElem? (l := k2_sels lw_privs) (i := 58) rfl)
theorem zw1085 : Cond.instanceMethod ⟨"DiodeLinkModel", "drops", "(I)I"⟩ ∈ lw_tbl := zin_6 _ (List.mem_of_getElem? (l := tables_1_6) (i := 182) rfl)
theorem zw1086 : Cond.code ⟨"DiodeLinkModel", "drops", "(I)I"⟩ prog_13_method_61_code 2 (some .int) ∈ lw_tbl := zin_6 _ (List.mem_of_getElem? (l := tables_1_6) (i := 183) rfl)
theorem zw1087 : Cond.selects "DiodeLinkModel" ⟨"DiodeLinkModel", "drops", "(I)I"⟩ ⟨"DiodeLinkModel", "drops", "(I)I"⟩ ∈ lw_tbl := zin_s _ (List.mem_of_getElem? (l := k2_sels lw_privs) (i := 52) rfl)
theorem zw1088 : Cond.instanceMethod ⟨"DiodeLinkModel", "eight", "(II)J"⟩ ∈ lw_tbl := zin_6 _ (List.mem_of_getElem? (l := tables_1_6) (i := 158) rfl)
theorem zw1089 : Cond.code ⟨"DiodeLinkModel", "eight", "(II)J"⟩ prog_13_method_29_code 6 (some .long) ∈ lw_tbl := zin_6 _ (List.mem_of_getElem? (l := tables_1_6) (i := 159) rfl)
theorem zw1090 : Cond.selects "DiodeLinkModel" ⟨"DiodeLinkModel", "eight", "(II)J"⟩ ⟨"DiodeLinkModel", "eight", "(II)J"⟩ ∈ lw_tbl := zin_s _ (List.mem_of_getElem? (l := k2_sels lw_privs) (i := 50) rfl)
theorem zw1091 : Cond.instanceMethod ⟨"DiodeLinkModel", "empty", "(I)V"⟩ ∈ lw_tbl := zin_6 _ (List.mem_of_getElem? (l := tables_1_6) (i := 198) rfl)
theorem zw1092 : Cond.code ⟨"DiodeLinkModel", "empty", "(I)V"⟩ prog_13_method_37_code 3 (none) ∈ lw_tbl := zin_6 _ (List.mem_of_getElem? (l := tables_1_6) (i := 199) rfl)
theorem zw1093 : Cond.selects "DiodeLinkModel" ⟨"DiodeLinkModel", "empty", "(I)V"⟩ ⟨"DiodeLinkModel", "empty", "(I)V"⟩ ∈ lw_tbl := zin_s _ (List.mem_of_getElem? (l := k2_sels lw_privs) (i := 56) rfl)
theorem zw1094 : Cond.instanceMethod ⟨"DiodeLinkModel", "fails", "(ZI)Z"⟩ ∈ lw_tbl := zin_6 _ (List.mem_of_getElem? (l := tables_1_6) (i := 59) rfl)
theorem zw1095 : Cond.code ⟨"DiodeLinkModel", "fails", "(ZI)Z"⟩ prog_13_method_3_code 3 (some .boolean) ∈ lw_tbl := zin_6 _ (List.mem_of_getElem? (l := tables_1_6) (i := 60) rfl)
theorem zw1096 : Cond.selects "DiodeLinkModel" ⟨"DiodeLinkModel", "fails", "(ZI)Z"⟩ ⟨"DiodeLinkModel", "fails", "(ZI)Z"⟩ ∈ lw_tbl := zin_s _ (List.mem_of_getElem? (l := k2_sels lw_privs) (i := 35) rfl)
theorem zw1097 : Cond.instanceMethod ⟨"DiodeLinkModel", "feed", "(ZJI)I"⟩ ∈ lw_tbl := zin_6 _ (List.mem_of_getElem? (l := tables_1_6) (i := 51) rfl)
theorem zw1098 : Cond.code ⟨"DiodeLinkModel", "feed", "(ZJI)I"⟩ prog_13_method_7_code 8 (some .int) ∈ lw_tbl := zin_6 _ (List.mem_of_getElem? (l := tables_1_6) (i := 53) rfl)
theorem zw1099 : Cond.selects "DiodeLinkModel" ⟨"DiodeLinkModel", "feed", "(ZJI)I"⟩ ⟨"DiodeLinkModel", "feed", "(ZJI)I"⟩ ∈ lw_tbl := zin_6 _ (List.mem_of_getElem? (l := tables_1_6) (i := 52) rfl)
theorem zw1100 : Cond.instanceMethod ⟨"DiodeLinkModel", "file", "(IIIZ)I"⟩ ∈ lw_tbl := zin_7 _ (List.mem_of_getElem? (l := tables_1_7) (i := 98) rfl)
theorem zw1101 : Cond.code ⟨"DiodeLinkModel", "file", "(IIIZ)I"⟩ prog_13_method_73_code 7 (some .int) ∈ lw_tbl := zin_7 _ (List.mem_of_getElem? (l := tables_1_7) (i := 100) rfl)
theorem zw1102 : Cond.selects "DiodeLinkModel" ⟨"DiodeLinkModel", "file", "(IIIZ)I"⟩ ⟨"DiodeLinkModel", "file", "(IIIZ)I"⟩ ∈ lw_tbl := zin_7 _ (List.mem_of_getElem? (l := tables_1_7) (i := 99) rfl)
theorem zw1103 : Cond.instanceMethod ⟨"DiodeLinkModel", "forget", "(I)V"⟩ ∈ lw_tbl := zin_6 _ (List.mem_of_getElem? (l := tables_1_6) (i := 202) rfl)
theorem zw1104 : Cond.code ⟨"DiodeLinkModel", "forget", "(I)V"⟩ prog_13_method_36_code 2 (none) ∈ lw_tbl := zin_6 _ (List.mem_of_getElem? (l := tables_1_6) (i := 203) rfl)
theorem zw1105 : Cond.selects "DiodeLinkModel" ⟨"DiodeLinkModel", "forget", "(I)V"⟩ ⟨"DiodeLinkModel", "forget", "(I)V"⟩ ∈ lw_tbl := zin_s _ (List.mem_of_getElem? (l := k2_sels lw_privs) (i := 57) rfl)
theorem zw1106 : Cond.instanceMethod ⟨"DiodeLinkModel", "has", "(I)Z"⟩ ∈ lw_tbl := zin_6 _ (List.mem_of_getElem? (l := tables_1_6) (i := 154) rfl)
theorem zw1107 : Cond.code ⟨"DiodeLinkModel", "has", "(I)Z"⟩ prog_13_method_28_code 2 (some .boolean) ∈ lw_tbl := zin_6 _ (List.mem_of_getElem? (l := tables_1_6) (i := 155) rfl)
theorem zw1108 : Cond.selects "DiodeLinkModel" ⟨"DiodeLinkModel", "has", "(I)Z"⟩ ⟨"DiodeLinkModel", "has", "(I)Z"⟩ ∈ lw_tbl := zin_s _ (List.mem_of_getElem? (l := k2_sels lw_privs) (i := 49) rfl)
theorem zw1109 : Cond.instanceMethod ⟨"DiodeLinkModel", "hasRows", "(I)Z"⟩ ∈ lw_tbl := zin_6 _ (List.mem_of_getElem? (l := tables_1_6) (i := 230) rfl)
theorem zw1110 : Cond.code ⟨"DiodeLinkModel", "hasRows", "(I)Z"⟩ prog_13_method_45_code 4 (some .boolean) ∈ lw_tbl := zin_6 _ (List.mem_of_getElem? (l := tables_1_6) (i := 231) rfl)
theorem zw1111 : Cond.selects "DiodeLinkModel" ⟨"DiodeLinkModel", "hasRows", "(I)Z"⟩ ⟨"DiodeLinkModel", "hasRows", "(I)Z"⟩ ∈ lw_tbl := zin_s _ (List.mem_of_getElem? (l := k2_sels lw_privs) (i := 64) rfl)
theorem zw1112 : Cond.instanceMethod ⟨"DiodeLinkModel", "hashOf", "(I)J"⟩ ∈ lw_tbl := zin_6 _ (List.mem_of_getElem? (l := tables_1_6) (i := 146) rfl)
theorem zw1113 : Cond.code ⟨"DiodeLinkModel", "hashOf", "(I)J"⟩ prog_13_method_26_code 5 (some .long) ∈ lw_tbl := zin_6 _ (List.mem_of_getElem? (l := tables_1_6) (i := 147) rfl)
theorem zw1114 : Cond.selects "DiodeLinkModel" ⟨"DiodeLinkModel", "hashOf", "(I)J"⟩ ⟨"DiodeLinkModel", "hashOf", "(I)J"⟩ ∈ lw_tbl := zin_s _ (List.mem_of_getElem? (l := k2_sels lw_privs) (i := 48) rfl)
theorem zw1115 : Cond.instanceMethod ⟨"DiodeLinkModel", "hashTold", "(II)J"⟩ ∈ lw_tbl := zin_7 _ (List.mem_of_getElem? (l := tables_1_7) (i := 30) rfl)
theorem zw1116 : Cond.code ⟨"DiodeLinkModel", "hashTold", "(II)J"⟩ prog_13_method_53_code 7 (some .long) ∈ lw_tbl := zin_7 _ (List.mem_of_getElem? (l := tables_1_7) (i := 31) rfl)
theorem zw1117 : Cond.selects "DiodeLinkModel" ⟨"DiodeLinkModel", "hashTold", "(II)J"⟩ ⟨"DiodeLinkModel", "hashTold", "(II)J"⟩ ∈ lw_tbl := zin_s _ (List.mem_of_getElem? (l := k2_sels lw_privs) (i := 74) rfl)
theorem zw1118 : Cond.instanceMethod ⟨"DiodeLinkModel", "have", "(II)I"⟩ ∈ lw_tbl := zin_7 _ (List.mem_of_getElem? (l := tables_1_7) (i := 73) rfl)
theorem zw1119 : Cond.code ⟨"DiodeLinkModel", "have", "(II)I"⟩ prog_13_method_68_code 4 (some .int) ∈ lw_tbl := zin_7 _ (List.mem_of_getElem? (l := tables_1_7) (i := 75) rfl)
theorem zw1120 : Cond.selects "DiodeLinkModel" ⟨"DiodeLinkModel", "have", "(II)I"⟩ ⟨"DiodeLinkModel", "have", "(II)I"⟩ ∈ lw_tbl := zin_7 _ (List.mem_of_getElem? (l := tables_1_7) (i := 74) rfl)
theorem zw1121 : Cond.instanceMethod ⟨"DiodeLinkModel", "hear", "(I)I"⟩ ∈ lw_tbl := zin_6 _ (List.mem_of_getElem? (l := tables_1_6) (i := 177) rfl)
theorem zw1122 : Cond.code ⟨"DiodeLinkModel", "hear", "(I)I"⟩ prog_13_method_63_code 4 (some .int) ∈ lw_tbl := zin_6 _ (List.mem_of_getElem? (l := tables_1_6) (i := 179) rfl)
theorem zw1123 : Cond.selects "DiodeLinkModel" ⟨"DiodeLinkModel", "hear", "(I)I"⟩ ⟨"DiodeLinkModel", "hear", "(I)I"⟩ ∈ lw_tbl := zin_6 _ (List.mem_of_getElem? (l := tables_1_6) (i := 178) rfl)
theorem zw1124 : Cond.instanceMethod ⟨"DiodeLinkModel", "hears", "(II)I"⟩ ∈ lw_tbl := zin_6 _ (List.mem_of_getElem? (l := tables_1_6) (i := 190) rfl)
theorem zw1125 : Cond.code ⟨"DiodeLinkModel", "hears", "(II)I"⟩ prog_13_method_41_code 5 (some .int) ∈ lw_tbl := zin_6 _ (List.mem_of_getElem? (l := tables_1_6) (i := 191) rfl)
theorem zw1126 : Cond.selects "DiodeLinkModel" ⟨"DiodeLinkModel", "hears", "(II)I"⟩ ⟨"DiodeLinkModel", "hears", "(II)I"⟩ ∈ lw_tbl := zin_s _ (List.mem_of_getElem? (l := k2_sels lw_privs) (i := 54) rfl)
theorem zw1127 : Cond.static ⟨"DiodeLinkModel", "in", "(III)Z"⟩ ∈ lw_tbl := zin_6 _ (List.mem_of_getElem? (l := tables_1_6) (i := 55) rfl)
theorem zw1128 : Cond.code ⟨"DiodeLinkModel", "in", "(III)Z"⟩ prog_13_method_4_code 3 (some .boolean) ∈ lw_tbl := zin_6 _ (List.mem_of_getElem? (l := tables_1_6) (i := 56) rfl)
theorem zw1129 : Cond.instanceMethod ⟨"DiodeLinkModel", "isBelow", "(III)Z"⟩ ∈ lw_tbl := zin_7 _ (List.mem_of_getElem? (l := tables_1_7) (i := 38) rfl)
theorem zw1130 : Cond.code ⟨"DiodeLinkModel", "isBelow", "(III)Z"⟩ prog_13_method_50_code 7 (some .boolean) ∈ lw_tbl := zin_7 _ (List.mem_of_getElem? (l := tables_1_7) (i := 39) rfl)
theorem zw1131 : Cond.selects "DiodeLinkModel" ⟨"DiodeLinkModel", "isBelow", "(III)Z"⟩ ⟨"DiodeLinkModel", "isBelow", "(III)Z"⟩ ∈ lw_tbl := zin_s _ (List.mem_of_getElem? (l := k2_sels lw_privs) (i := 76) rfl)
theorem zw1132 : Cond.instanceMethod ⟨"DiodeLinkModel", "isComplete", "(I)Z"⟩ ∈ lw_tbl := zin_7 _ (List.mem_of_getElem? (l := tables_1_7) (i := 6) rfl)
theorem zw1133 : Cond.code ⟨"DiodeLinkModel", "isComplete", "(I)Z"⟩ prog_13_method_47_code 2 (some .boolean) ∈ lw_tbl := zin_7 _ (List.mem_of_getElem? (l := tables_1_7) (i := 7) rfl)
theorem zw1134 : Cond.selects "DiodeLinkModel" ⟨"DiodeLinkModel", "isComplete", "(I)Z"⟩ ⟨"DiodeLinkModel", "isComplete", "(I)Z"⟩ ∈ lw_tbl := zin_s _ (List.mem_of_getElem? (l := k2_sels lw_privs) (i := 68) rfl)
theorem zw1135 : Cond.instanceMethod ⟨"DiodeLinkModel", "isKept", "(I)Z"⟩ ∈ lw_tbl := zin_7 _ (List.mem_of_getElem? (l := tables_1_7) (i := 107) rfl)
theorem zw1136 : Cond.code ⟨"DiodeLinkModel", "isKept", "(I)Z"⟩ prog_13_method_76_code 2 (some .boolean) ∈ lw_tbl := zin_7 _ (List.mem_of_getElem? (l := tables_1_7) (i := 108) rfl)
theorem zw1137 : Cond.selects "DiodeLinkModel" ⟨"DiodeLinkModel", "isKept", "(I)Z"⟩ ⟨"DiodeLinkModel", "isKept", "(I)Z"⟩ ∈ lw_tbl := zin_s _ (List.mem_of_getElem? (l := k2_sels lw_privs) (i := 86) rfl)
theorem zw1138 : Cond.instanceMethod ⟨"DiodeLinkModel", "isManifest", "(I)Z"⟩ ∈ lw_tbl := zin_7 _ (List.mem_of_getElem? (l := tables_1_7) (i := 34) rfl)
theorem zw1139 : Cond.code ⟨"DiodeLinkModel", "isManifest", "(I)Z"⟩ prog_13_method_51_code 8 (some .boolean) ∈ lw_tbl := zin_7 _ (List.mem_of_getElem? (l := tables_1_7) (i := 35) rfl)
theorem zw1140 : Cond.selects "DiodeLinkModel" ⟨"DiodeLinkModel", "isManifest", "(I)Z"⟩ ⟨"DiodeLinkModel", "isManifest", "(I)Z"⟩ ∈ lw_tbl := zin_s _ (List.mem_of_getElem? (l := k2_sels lw_privs) (i := 75) rfl)
theorem zw1141 : Cond.instanceMethod ⟨"DiodeLinkModel", "isName", "()Z"⟩ ∈ lw_tbl := zin_6 _ (List.mem_of_getElem? (l := tables_1_6) (i := 68) rfl)
theorem zw1142 : Cond.code ⟨"DiodeLinkModel", "isName", "()Z"⟩ prog_13_method_12_code 3 (some .boolean) ∈ lw_tbl := zin_6 _ (List.mem_of_getElem? (l := tables_1_6) (i := 69) rfl)
theorem zw1143 : Cond.selects "DiodeLinkModel" ⟨"DiodeLinkModel", "isName", "()Z"⟩ ⟨"DiodeLinkModel", "isName", "()Z"⟩ ∈ lw_tbl := zin_s _ (List.mem_of_getElem? (l := k2_sels lw_privs) (i := 36) rfl)
theorem zw1144 : Cond.instanceMethod ⟨"DiodeLinkModel", "isSound", "()Z"⟩ ∈ lw_tbl := zin_7 _ (List.mem_of_getElem? (l := tables_1_7) (i := 114) rfl)
theorem zw1145 : Cond.code ⟨"DiodeLinkModel", "isSound", "()Z"⟩ prog_13_method_79_code 5 (some .boolean) ∈ lw_tbl := zin_7 _ (List.mem_of_getElem? (l := tables_1_7) (i := 116) rfl)
theorem zw1146 : Cond.selects "DiodeLinkModel" ⟨"DiodeLinkModel", "isSound", "()Z"⟩ ⟨"DiodeLinkModel", "isSound", "()Z"⟩ ∈ lw_tbl := zin_7 _ (List.mem_of_getElem? (l := tables_1_7) (i := 115) rfl)
theorem zw1147 : Cond.instanceMethod ⟨"DiodeLinkModel", "isThere", "(II)Z"⟩ ∈ lw_tbl := zin_6 _ (List.mem_of_getElem? (l := tables_1_6) (i := 80) rfl)
theorem zw1148 : Cond.code ⟨"DiodeLinkModel", "isThere", "(II)Z"⟩ prog_13_method_11_code 3 (some .boolean) ∈ lw_tbl := zin_6 _ (List.mem_of_getElem? (l := tables_1_6) (i := 81) rfl)
theorem zw1149 : Cond.selects "DiodeLinkModel" ⟨"DiodeLinkModel", "isThere", "(II)Z"⟩ ⟨"DiodeLinkModel", "isThere", "(II)Z"⟩ ∈ lw_tbl := zin_s _ (List.mem_of_getElem? (l := k2_sels lw_privs) (i := 39) rfl)
theorem zw1150 : Cond.instanceMethod ⟨"DiodeLinkModel", "journal", "(II)J"⟩ ∈ lw_tbl := zin_7 _ (List.mem_of_getElem? (l := tables_1_7) (i := 102) rfl)
theorem zw1151 : Cond.code ⟨"DiodeLinkModel", "journal", "(II)J"⟩ prog_13_method_77_code 3 (some .long) ∈ lw_tbl := zin_7 _ (List.mem_of_getElem? (l := tables_1_7) (i := 104) rfl)
theorem zw1152 : Cond.selects "DiodeLinkModel" ⟨"DiodeLinkModel", "journal", "(II)J"⟩ ⟨"DiodeLinkModel", "journal", "(II)J"⟩ ∈ lw_tbl := zin_7 _ (List.mem_of_getElem? (l := tables_1_7) (i := 103) rfl)
theorem zw1153 : Cond.instanceMethod ⟨"DiodeLinkModel", "judge", "(I)V"⟩ ∈ lw_tbl := zin_7 _ (List.mem_of_getElem? (l := tables_1_7) (i := 50) rfl)
theorem zw1154 : Cond.code ⟨"DiodeLinkModel", "judge", "(I)V"⟩ prog_13_method_59_code 5 (none) ∈ lw_tbl := zin_7 _ (List.mem_of_getElem? (l := tables_1_7) (i := 51) rfl)
theorem zw1155 : Cond.selects "DiodeLinkModel" ⟨"DiodeLinkModel", "judge", "(I)V"⟩ ⟨"DiodeLinkModel", "judge", "(I)V"⟩ ∈ lw_tbl := zin_s _ (List.mem_of_getElem? (l := k2_sels lw_privs) (i := 79) rfl)
theorem zw1156 : Cond.instanceMethod ⟨"DiodeLinkModel", "keep", "(II)V"⟩ ∈ lw_tbl := zin_7 _ (List.mem_of_getElem? (l := tables_1_7) (i := 91) rfl)
theorem zw1157 : Cond.code ⟨"DiodeLinkModel", "keep", "(II)V"⟩ prog_13_method_70_code 7 (none) ∈ lw_tbl := zin_7 _ (List.mem_of_getElem? (l := tables_1_7) (i := 92) rfl)
theorem zw1158 : Cond.selects "DiodeLinkModel" ⟨"DiodeLinkModel", "keep", "(II)V"⟩ ⟨"DiodeLinkModel", "keep", "(II)V"⟩ ∈ lw_tbl := zin_s _ (List.mem_of_getElem? (l := k2_sels lw_privs) (i := 85) rfl)
theorem zw1159 : Cond.instanceMethod ⟨"DiodeLinkModel", "lay", "(IIJI)V"⟩ ∈ lw_tbl := zin_6 _ (List.mem_of_getElem? (l := tables_1_6) (i := 142) rfl)
theorem zw1160 : Cond.code ⟨"DiodeLinkModel", "lay", "(IIJI)V"⟩ prog_13_method_25_code 7 (none) ∈ lw_tbl := zin_6 _ (List.mem_of_getElem? (l := tables_1_6) (i := 143) rfl)
theorem zw1161 : Cond.selects "DiodeLinkModel" ⟨"DiodeLinkModel", "lay", "(IIJI)V"⟩ ⟨"DiodeLinkModel", "lay", "(IIJI)V"⟩ ∈ lw_tbl := zin_s _ (List.mem_of_getElem? (l := k2_sels lw_privs) (i := 47) rfl)
theorem zw1162 : Cond.instanceMethod ⟨"DiodeLinkModel", "linked", "(JI)J"⟩ ∈ lw_tbl := zin_7 _ (List.mem_of_getElem? (l := tables_1_7) (i := 62) rfl)
theorem zw1163 : Cond.code ⟨"DiodeLinkModel", "linked", "(JI)J"⟩ prog_13_method_74_code 7 (some .long) ∈ lw_tbl := zin_7 _ (List.mem_of_getElem? (l := tables_1_7) (i := 63) rfl)
theorem zw1164 : Cond.selects "DiodeLinkModel" ⟨"DiodeLinkModel", "linked", "(JI)J"⟩ ⟨"DiodeLinkModel", "linked", "(JI)J"⟩ ∈ lw_tbl := zin_s _ (List.mem_of_getElem? (l := k2_sels lw_privs) (i := 82) rfl)
theorem zw1165 : Cond.instanceMethod ⟨"DiodeLinkModel", "look", "(II)I"⟩ ∈ lw_tbl := zin_6 _ (List.mem_of_getElem? (l := tables_1_6) (i := 120) rfl)
theorem zw1166 : Cond.code ⟨"DiodeLinkModel", "look", "(II)I"⟩ prog_13_method_23_code 9 (some .int) ∈ lw_tbl := zin_6 _ (List.mem_of_getElem? (l := tables_1_6) (i := 121) rfl)
theorem zw1167 : Cond.selects "DiodeLinkModel" ⟨"DiodeLinkModel", "look", "(II)I"⟩ ⟨"DiodeLinkModel", "look", "(II)I"⟩ ∈ lw_tbl := zin_s _ (List.mem_of_getElem? (l := k2_sels lw_privs) (i := 44) rfl)
theorem zw1168 : Cond.instanceMethod ⟨"DiodeLinkModel", "manifest", "(III)V"⟩ ∈ lw_tbl := zin_6 _ (List.mem_of_getElem? (l := tables_1_6) (i := 96) rfl)
theorem zw1169 : Cond.code ⟨"DiodeLinkModel", "manifest", "(III)V"⟩ prog_13_method_16_code 9 (none) ∈ lw_tbl := zin_6 _ (List.mem_of_getElem? (l := tables_1_6) (i := 97) rfl)
theorem zw1170 : Cond.selects "DiodeLinkModel" ⟨"DiodeLinkModel", "manifest", "(III)V"⟩ ⟨"DiodeLinkModel", "manifest", "(III)V"⟩ ∈ lw_tbl := zin_s _ (List.mem_of_getElem? (l := k2_sels lw_privs) (i := 41) rfl)
theorem zw1171 : Cond.static ⟨"DiodeLinkModel", "mask", "(IIIII)I"⟩ ∈ lw_tbl := zin_6 _ (List.mem_of_getElem? (l := tables_1_6) (i := 133) rfl)
theorem zw1172 : Cond.code ⟨"DiodeLinkModel", "mask", "(IIIII)I"⟩ prog_13_method_21_code 7 (some .int) ∈ lw_tbl := zin_6 _ (List.mem_of_getElem? (l := tables_1_6) (i := 134) rfl)
theorem zw1173 : Cond.static ⟨"DiodeLinkModel", "more", "(JI)J"⟩ ∈ lw_tbl := zin_6 _ (List.mem_of_getElem? (l := tables_1_6) (i := 107) rfl)
theorem zw1174 : Cond.code ⟨"DiodeLinkModel", "more", "(JI)J"⟩ prog_13_method_5_code 3 (some .long) ∈ lw_tbl := zin_6 _ (List.mem_of_getElem? (l := tables_1_6) (i := 108) rfl)
theorem zw1175 : Cond.instanceMethod ⟨"DiodeLinkModel", "move", "(II)V"⟩ ∈ lw_tbl := zin_6 _ (List.mem_of_getElem? (l := tables_1_6) (i := 84) rfl)
theorem zw1176 : Cond.code ⟨"DiodeLinkModel", "move", "(II)V"⟩ prog_13_method_9_code 4 (none) ∈ lw_tbl := zin_6 _ (List.mem_of_getElem? (l := tables_1_6) (i := 85) rfl)
theorem zw1177 : Cond.selects "DiodeLinkModel" ⟨"DiodeLinkModel", "move", "(II)V"⟩ ⟨"DiodeLinkModel", "move", "(II)V"⟩ ∈ lw_tbl := zin_s _ (List.mem_of_getElem? (l := k2_sels lw_privs) (i := 40) rfl)
theorem zw1178 : Cond.instanceMethod ⟨"DiodeLinkModel", "note", "(IIII)V"⟩ ∈ lw_tbl := zin_7 _ (List.mem_of_getElem? (l := tables_1_7) (i := 58) rfl)
theorem zw1179 : Cond.code ⟨"DiodeLinkModel", "note", "(IIII)V"⟩ prog_13_method_75_code 8 (none) ∈ lw_tbl := zin_7 _ (List.mem_of_getElem? (l := tables_1_7) (i := 59) rfl)
theorem zw1180 : Cond.selects "DiodeLinkModel" ⟨"DiodeLinkModel", "note", "(IIII)V"⟩ ⟨"DiodeLinkModel", "note", "(IIII)V"⟩ ∈ lw_tbl := zin_s _ (List.mem_of_getElem? (l := k2_sels lw_privs) (i := 81) rfl)
theorem zw1181 : Cond.instanceMethod ⟨"DiodeLinkModel", "order", "(I)I"⟩ ∈ lw_tbl := zin_6 _ (List.mem_of_getElem? (l := tables_1_6) (i := 76) rfl)
theorem zw1182 : Cond.code ⟨"DiodeLinkModel", "order", "(I)I"⟩ prog_13_method_8_code 3 (some .int) ∈ lw_tbl := zin_6 _ (List.mem_of_getElem? (l := tables_1_6) (i := 77) rfl)
theorem zw1183 : Cond.selects "DiodeLinkModel" ⟨"DiodeLinkModel", "order", "(I)I"⟩ ⟨"DiodeLinkModel", "order", "(I)I"⟩ ∈ lw_tbl := zin_s _ (List.mem_of_getElem? (l := k2_sels lw_privs) (i := 38) rfl)
theorem zw1184 : Cond.instanceMethod ⟨"DiodeLinkModel", "packet", "(II)J"⟩ ∈ lw_tbl := zin_6 _ (List.mem_of_getElem? (l := tables_1_6) (i := 149) rfl)
theorem zw1185 : Cond.code ⟨"DiodeLinkModel", "packet", "(II)J"⟩ prog_13_method_30_code 3 (some .long) ∈ lw_tbl := zin_6 _ (List.mem_of_getElem? (l := tables_1_6) (i := 151) rfl)
theorem zw1186 : Cond.selects "DiodeLinkModel" ⟨"DiodeLinkModel", "packet", "(II)J"⟩ ⟨"DiodeLinkModel", "packet", "(II)J"⟩ ∈ lw_tbl := zin_6 _ (List.mem_of_getElem? (l := tables_1_6) (i := 150) rfl)
theorem zw1187 : Cond.instanceMethod ⟨"DiodeLinkModel", "piece", "(III)J"⟩ ∈ lw_tbl := zin_6 _ (List.mem_of_getElem? (l := tables_1_6) (i := 138) rfl)
theorem zw1188 : Cond.code ⟨"DiodeLinkModel", "piece", "(III)J"⟩ prog_13_method_24_code 8 (some .long) ∈ lw_tbl := zin_6 _ (List.mem_of_getElem? (l := tables_1_6) (i := 139) rfl)
theorem zw1189 : Cond.selects "DiodeLinkModel" ⟨"DiodeLinkModel", "piece", "(III)J"⟩ ⟨"DiodeLinkModel", "piece", "(III)J"⟩ ∈ lw_tbl := zin_s _ (List.mem_of_getElem? (l := k2_sels lw_privs) (i := 46) rfl)
theorem zw1190 : Cond.static ⟨"DiodeLinkModel", "pieces", "(II)I"⟩ ∈ lw_tbl := zin_6 _ (List.mem_of_getElem? (l := tables_1_6) (i := 130) rfl)
theorem zw1191 : Cond.code ⟨"DiodeLinkModel", "pieces", "(II)I"⟩ prog_13_method_20_code 3 (some .int) ∈ lw_tbl := zin_6 _ (List.mem_of_getElem? (l := tables_1_6) (i := 131) rfl)
theorem zw1192 : Cond.instanceMethod ⟨"DiodeLinkModel", "place", "(I)I"⟩ ∈ lw_tbl := zin_6 _ (List.mem_of_getElem? (l := tables_1_6) (i := 72) rfl)
theorem zw1193 : Cond.code ⟨"DiodeLinkModel", "place", "(I)I"⟩ prog_13_method_10_code 3 (some .int) ∈ lw_tbl := zin_6 _ (List.mem_of_getElem? (l := tables_1_6) (i := 73) rfl)
theorem zw1194 : Cond.selects "DiodeLinkModel" ⟨"DiodeLinkModel", "place", "(I)I"⟩ ⟨"DiodeLinkModel", "place", "(I)I"⟩ ∈ lw_tbl := zin_s _ (List.mem_of_getElem? (l := k2_sels lw_privs) (i := 37) rfl)
theorem zw1195 : Cond.instanceMethod ⟨"DiodeLinkModel", "placeOf", "(II)I"⟩ ∈ lw_tbl := zin_6 _ (List.mem_of_getElem? (l := tables_1_6) (i := 194) rfl)
theorem zw1196 : Cond.code ⟨"DiodeLinkModel", "placeOf", "(II)I"⟩ prog_13_method_40_code 4 (some .int) ∈ lw_tbl := zin_6 _ (List.mem_of_getElem? (l := tables_1_6) (i := 195) rfl)
theorem zw1197 : Cond.selects "DiodeLinkModel" ⟨"DiodeLinkModel", "placeOf", "(II)I"⟩ ⟨"DiodeLinkModel", "placeOf", "(II)I"⟩ ∈ lw_tbl := zin_s _ (List.mem_of_getElem? (l := k2_sels lw_privs) (i := 55) rfl)
theorem zw1198 : Cond.instanceMethod ⟨"DiodeLinkModel", "rank", "(IIII)I"⟩ ∈ lw_tbl := zin_7 _ (List.mem_of_getElem? (l := tables_1_7) (i := 82) rfl)
theorem zw1199 : Cond.code ⟨"DiodeLinkModel", "rank", "(IIII)I"⟩ prog_13_method_69_code 6 (some .int) ∈ lw_tbl := zin_7 _ (List.mem_of_getElem? (l := tables_1_7) (i := 84) rfl)
theorem zw1200 : Cond.selects "DiodeLinkModel" ⟨"DiodeLinkModel", "rank", "(IIII)I"⟩ ⟨"DiodeLinkModel", "rank", "(IIII)I"⟩ ∈ lw_tbl := zin_7 _ (List.mem_of_getElem? (l := tables_1_7) (i := 83) rfl)
theorem zw1201 : Cond.instanceMethod ⟨"DiodeLinkModel", "reject", "(III)V"⟩ ∈ lw_tbl := zin_7 _ (List.mem_of_getElem? (l := tables_1_7) (i := 54) rfl)
theorem zw1202 : Cond.code ⟨"DiodeLinkModel", "reject", "(III)V"⟩ prog_13_method_60_code 4 (none) ∈ lw_tbl := zin_7 _ (List.mem_of_getElem? (l := tables_1_7) (i := 55) rfl)
theorem zw1203 : Cond.selects "DiodeLinkModel" ⟨"DiodeLinkModel", "reject", "(III)V"⟩ ⟨"DiodeLinkModel", "reject", "(III)V"⟩ ∈ lw_tbl := zin_s _ (List.mem_of_getElem? (l := k2_sels lw_privs) (i := 80) rfl)
theorem zw1204 : Cond.instanceMethod ⟨"DiodeLinkModel", "release", "(I)I"⟩ ∈ lw_tbl := zin_7 _ (List.mem_of_getElem? (l := tables_1_7) (i := 86) rfl)
theorem zw1205 : Cond.code ⟨"DiodeLinkModel", "release", "(I)I"⟩ prog_13_method_71_code 3 (some .int) ∈ lw_tbl := zin_7 _ (List.mem_of_getElem? (l := tables_1_7) (i := 88) rfl)
theorem zw1206 : Cond.selects "DiodeLinkModel" ⟨"DiodeLinkModel", "release", "(I)I"⟩ ⟨"DiodeLinkModel", "release", "(I)I"⟩ ∈ lw_tbl := zin_7 _ (List.mem_of_getElem? (l := tables_1_7) (i := 87) rfl)
theorem zw1207 : Cond.instanceMethod ⟨"DiodeLinkModel", "released", "(I)I"⟩ ∈ lw_tbl := zin_7 _ (List.mem_of_getElem? (l := tables_1_7) (i := 94) rfl)
theorem zw1208 : Cond.code ⟨"DiodeLinkModel", "released", "(I)I"⟩ prog_13_method_72_code 2 (some .int) ∈ lw_tbl := zin_7 _ (List.mem_of_getElem? (l := tables_1_7) (i := 96) rfl)
theorem zw1209 : Cond.selects "DiodeLinkModel" ⟨"DiodeLinkModel", "released", "(I)I"⟩ ⟨"DiodeLinkModel", "released", "(I)I"⟩ ∈ lw_tbl := zin_7 _ (List.mem_of_getElem? (l := tables_1_7) (i := 95) rfl)
theorem zw1210 : Cond.instanceMethod ⟨"DiodeLinkModel", "remove", "(I)Z"⟩ ∈ lw_tbl := zin_6 _ (List.mem_of_getElem? (l := tables_1_6) (i := 87) rfl)
theorem zw1211 : Cond.code ⟨"DiodeLinkModel", "remove", "(I)Z"⟩ prog_13_method_14_code 6 (some .boolean) ∈ lw_tbl := zin_6 _ (List.mem_of_getElem? (l := tables_1_6) (i := 89) rfl)
theorem zw1212 : Cond.selects "DiodeLinkModel" ⟨"DiodeLinkModel", "remove", "(I)Z"⟩ ⟨"DiodeLinkModel", "remove", "(I)Z"⟩ ∈ lw_tbl := zin_6 _ (List.mem_of_getElem? (l := tables_1_6) (i := 88) rfl)
theorem zw1213 : Cond.instanceMethod ⟨"DiodeLinkModel", "restartReceiver", "()V"⟩ ∈ lw_tbl := zin_6 _ (List.mem_of_getElem? (l := tables_1_6) (i := 169) rfl)
theorem zw1214 : Cond.code ⟨"DiodeLinkModel", "restartReceiver", "()V"⟩ prog_13_method_35_code 1 (none) ∈ lw_tbl := zin_6 _ (List.mem_of_getElem? (l := tables_1_6) (i := 171) rfl)
theorem zw1215 : Cond.selects "DiodeLinkModel" ⟨"DiodeLinkModel", "restartReceiver", "()V"⟩ ⟨"DiodeLinkModel", "restartReceiver", "()V"⟩ ∈ lw_tbl := zin_6 _ (List.mem_of_getElem? (l := tables_1_6) (i := 170) rfl)
theorem zw1216 : Cond.instanceMethod ⟨"DiodeLinkModel", "restartSender", "()I"⟩ ∈ lw_tbl := zin_6 _ (List.mem_of_getElem? (l := tables_1_6) (i := 165) rfl)
theorem zw1217 : Cond.code ⟨"DiodeLinkModel", "restartSender", "()I"⟩ prog_13_method_32_code 1 (some .int) ∈ lw_tbl := zin_6 _ (List.mem_of_getElem? (l := tables_1_6) (i := 167) rfl)
theorem zw1218 : Cond.selects "DiodeLinkModel" ⟨"DiodeLinkModel", "restartSender", "()I"⟩ ⟨"DiodeLinkModel", "restartSender", "()I"⟩ ∈ lw_tbl := zin_6 _ (List.mem_of_getElem? (l := tables_1_6) (i := 166) rfl)
theorem zw1219 : Cond.instanceMethod ⟨"DiodeLinkModel", "room", "()Z"⟩ ∈ lw_tbl := zin_6 _ (List.mem_of_getElem? (l := tables_1_6) (i := 226) rfl)
theorem zw1220 : Cond.code ⟨"DiodeLinkModel", "room", "()Z"⟩ prog_13_method_46_code 3 (some .boolean) ∈ lw_tbl := zin_6 _ (List.mem_of_getElem? (l := tables_1_6) (i := 227) rfl)
theorem zw1221 : Cond.selects "DiodeLinkModel" ⟨"DiodeLinkModel", "room", "()Z"⟩ ⟨"DiodeLinkModel", "room", "()Z"⟩ ∈ lw_tbl := zin_s _ (List.mem_of_getElem? (l := k2_sels lw_privs) (i := 63) rfl)
theorem zw1222 : Cond.instanceMethod ⟨"DiodeLinkModel", "rowsOf", "(II)I"⟩ ∈ lw_tbl := zin_6 _ (List.mem_of_getElem? (l := tables_1_6) (i := 234) rfl)
theorem zw1223 : Cond.code ⟨"DiodeLinkModel", "rowsOf", "(II)I"⟩ prog_13_method_44_code 5 (some .int) ∈ lw_tbl := zin_6 _ (List.mem_of_getElem? (l := tables_1_6) (i := 235) rfl)
theorem zw1224 : Cond.selects "DiodeLinkModel" ⟨"DiodeLinkModel", "rowsOf", "(II)I"⟩ ⟨"DiodeLinkModel", "rowsOf", "(II)I"⟩ ∈ lw_tbl := zin_s _ (List.mem_of_getElem? (l := k2_sels lw_privs) (i := 65) rfl)
theorem zw1225 : Cond.instanceMethod ⟨"DiodeLinkModel", "rule", "(IIZ)V"⟩ ∈ lw_tbl := zin_7 _ (List.mem_of_getElem? (l := tables_1_7) (i := 69) rfl)
theorem zw1226 : Cond.code ⟨"DiodeLinkModel", "rule", "(IIZ)V"⟩ prog_13_method_66_code 5 (none) ∈ lw_tbl := zin_7 _ (List.mem_of_getElem? (l := tables_1_7) (i := 71) rfl)
theorem zw1227 : Cond.selects "DiodeLinkModel" ⟨"DiodeLinkModel", "rule", "(IIZ)V"⟩ ⟨"DiodeLinkModel", "rule", "(IIZ)V"⟩ ∈ lw_tbl := zin_7 _ (List.mem_of_getElem? (l := tables_1_7) (i := 70) rfl)
theorem zw1228 : Cond.instanceMethod ⟨"DiodeLinkModel", "send", "()I"⟩ ∈ lw_tbl := zin_6 _ (List.mem_of_getElem? (l := tables_1_6) (i := 115) rfl)
theorem zw1229 : Cond.code ⟨"DiodeLinkModel", "send", "()I"⟩ prog_13_method_27_code 10 (some .int) ∈ lw_tbl := zin_6 _ (List.mem_of_getElem? (l := tables_1_6) (i := 117) rfl)
theorem zw1230 : Cond.selects "DiodeLinkModel" ⟨"DiodeLinkModel", "send", "()I"⟩ ⟨"DiodeLinkModel", "send", "()I"⟩ ∈ lw_tbl := zin_6 _ (List.mem_of_getElem? (l := tables_1_6) (i := 116) rfl)
theorem zw1231 : Cond.instanceMethod ⟨"DiodeLinkModel", "share", "(I)V"⟩ ∈ lw_tbl := zin_7 _ (List.mem_of_getElem? (l := tables_1_7) (i := 42) rfl)
theorem zw1232 : Cond.code ⟨"DiodeLinkModel", "share", "(I)V"⟩ prog_13_method_57_code 5 (none) ∈ lw_tbl := zin_7 _ (List.mem_of_getElem? (l := tables_1_7) (i := 43) rfl)
theorem zw1233 : Cond.selects "DiodeLinkModel" ⟨"DiodeLinkModel", "share", "(I)V"⟩ ⟨"DiodeLinkModel", "share", "(I)V"⟩ ∈ lw_tbl := zin_s _ (List.mem_of_getElem? (l := k2_sels lw_privs) (i := 77) rfl)
theorem zw1234 : Cond.instanceMethod ⟨"DiodeLinkModel", "shift", "(I)V"⟩ ∈ lw_tbl := zin_6 _ (List.mem_of_getElem? (l := tables_1_6) (i := 210) rfl)
theorem zw1235 : Cond.code ⟨"DiodeLinkModel", "shift", "(I)V"⟩ prog_13_method_38_code 4 (none) ∈ lw_tbl := zin_6 _ (List.mem_of_getElem? (l := tables_1_6) (i := 211) rfl)
theorem zw1236 : Cond.selects "DiodeLinkModel" ⟨"DiodeLinkModel", "shift", "(I)V"⟩ ⟨"DiodeLinkModel", "shift", "(I)V"⟩ ∈ lw_tbl := zin_s _ (List.mem_of_getElem? (l := k2_sels lw_privs) (i := 59) rfl)
theorem zw1237 : Cond.instanceMethod ⟨"DiodeLinkModel", "sizeTold", "(II)I"⟩ ∈ lw_tbl := zin_7 _ (List.mem_of_getElem? (l := tables_1_7) (i := 22) rfl)
theorem zw1238 : Cond.code ⟨"DiodeLinkModel", "sizeTold", "(II)I"⟩ prog_13_method_52_code 4 (some .int) ∈ lw_tbl := zin_7 _ (List.mem_of_getElem? (l := tables_1_7) (i := 23) rfl)
theorem zw1239 : Cond.selects "DiodeLinkModel" ⟨"DiodeLinkModel", "sizeTold", "(II)I"⟩ ⟨"DiodeLinkModel", "sizeTold", "(II)I"⟩ ∈ lw_tbl := zin_s _ (List.mem_of_getElem? (l := k2_sels lw_privs) (i := 72) rfl)
theorem zw1240 : Cond.instanceMethod ⟨"DiodeLinkModel", "solve", "(III)V"⟩ ∈ lw_tbl := zin_6 _ (List.mem_of_getElem? (l := tables_1_6) (i := 238) rfl)
theorem zw1241 : Cond.code ⟨"DiodeLinkModel", "solve", "(III)V"⟩ prog_13_method_65_code 9 (none) ∈ lw_tbl := zin_6 _ (List.mem_of_getElem? (l := tables_1_6) (i := 239) rfl)
theorem zw1242 : Cond.selects "DiodeLinkModel" ⟨"DiodeLinkModel", "solve", "(III)V"⟩ ⟨"DiodeLinkModel", "solve", "(III)V"⟩ ∈ lw_tbl := zin_s _ (List.mem_of_getElem? (l := k2_sels lw_privs) (i := 66) rfl)
theorem zw1243 : Cond.instanceMethod ⟨"DiodeLinkModel", "sum", "(III)I"⟩ ∈ lw_tbl := zin_6 _ (List.mem_of_getElem? (l := tables_1_6) (i := 222) rfl)
theorem zw1244 : Cond.code ⟨"DiodeLinkModel", "sum", "(III)I"⟩ prog_13_method_42_code 9 (some .int) ∈ lw_tbl := zin_6 _ (List.mem_of_getElem? (l := tables_1_6) (i := 223) rfl)
theorem zw1245 : Cond.selects "DiodeLinkModel" ⟨"DiodeLinkModel", "sum", "(III)I"⟩ ⟨"DiodeLinkModel", "sum", "(III)I"⟩ ∈ lw_tbl := zin_s _ (List.mem_of_getElem? (l := k2_sels lw_privs) (i := 62) rfl)
theorem zw1246 : Cond.instanceMethod ⟨"DiodeLinkModel", "takes", "(IIII)I"⟩ ∈ lw_tbl := zin_6 _ (List.mem_of_getElem? (l := tables_1_6) (i := 218) rfl)
theorem zw1247 : Cond.code ⟨"DiodeLinkModel", "takes", "(IIII)I"⟩ prog_13_method_64_code 10 (some .int) ∈ lw_tbl := zin_6 _ (List.mem_of_getElem? (l := tables_1_6) (i := 219) rfl)
theorem zw1248 : Cond.selects "DiodeLinkModel" ⟨"DiodeLinkModel", "takes", "(IIII)I"⟩ ⟨"DiodeLinkModel", "takes", "(IIII)I"⟩ ∈ lw_tbl := zin_s _ (List.mem_of_getElem? (l := k2_sels lw_privs) (i := 61) rfl)
theorem zw1249 : Cond.instanceMethod ⟨"DiodeLinkModel", "tells", "(II)I"⟩ ∈ lw_tbl := zin_7 _ (List.mem_of_getElem? (l := tables_1_7) (i := 26) rfl)
theorem zw1250 : Cond.code ⟨"DiodeLinkModel", "tells", "(II)I"⟩ prog_13_method_49_code 5 (some .int) ∈ lw_tbl := zin_7 _ (List.mem_of_getElem? (l := tables_1_7) (i := 27) rfl)
theorem zw1251 : Cond.selects "DiodeLinkModel" ⟨"DiodeLinkModel", "tells", "(II)I"⟩ ⟨"DiodeLinkModel", "tells", "(II)I"⟩ ∈ lw_tbl := zin_s _ (List.mem_of_getElem? (l := k2_sels lw_privs) (i := 73) rfl)
theorem zw1252 : Cond.instanceMethod ⟨"DiodeLinkModel", "thrown", "()I"⟩ ∈ lw_tbl := zin_6 _ (List.mem_of_getElem? (l := tables_1_6) (i := 47) rfl)
theorem zw1253 : Cond.code ⟨"DiodeLinkModel", "thrown", "()I"⟩ prog_13_method_2_code 1 (some .int) ∈ lw_tbl := zin_6 _ (List.mem_of_getElem? (l := tables_1_6) (i := 49) rfl)
theorem zw1254 : Cond.selects "DiodeLinkModel" ⟨"DiodeLinkModel", "thrown", "()I"⟩ ⟨"DiodeLinkModel", "thrown", "()I"⟩ ∈ lw_tbl := zin_6 _ (List.mem_of_getElem? (l := tables_1_6) (i := 48) rfl)
theorem zw1255 : Cond.instanceMethod ⟨"DiodeLinkModel", "together", "(III)J"⟩ ∈ lw_tbl := zin_7 _ (List.mem_of_getElem? (l := tables_1_7) (i := 2) rfl)
theorem zw1256 : Cond.code ⟨"DiodeLinkModel", "together", "(III)J"⟩ prog_13_method_43_code 8 (some .long) ∈ lw_tbl := zin_7 _ (List.mem_of_getElem? (l := tables_1_7) (i := 3) rfl)
theorem zw1257 : Cond.selects "DiodeLinkModel" ⟨"DiodeLinkModel", "together", "(III)J"⟩ ⟨"DiodeLinkModel", "together", "(III)J"⟩ ∈ lw_tbl := zin_s _ (List.mem_of_getElem? (l := k2_sels lw_privs) (i := 67) rfl)
theorem zw1258 : Cond.instanceMethod ⟨"DiodeLinkModel", "told", "(III)I"⟩ ∈ lw_tbl := zin_6 _ (List.mem_of_getElem? (l := tables_1_6) (i := 100) rfl)
theorem zw1259 : Cond.code ⟨"DiodeLinkModel", "told", "(III)I"⟩ prog_13_method_15_code 4 (some .int) ∈ lw_tbl := zin_6 _ (List.mem_of_getElem? (l := tables_1_6) (i := 101) rfl)
theorem zw1260 : Cond.selects "DiodeLinkModel" ⟨"DiodeLinkModel", "told", "(III)I"⟩ ⟨"DiodeLinkModel", "told", "(III)I"⟩ ∈ lw_tbl := zin_s _ (List.mem_of_getElem? (l := k2_sels lw_privs) (i := 42) rfl)
theorem zw1261 : Cond.instanceMethod ⟨"DiodeLinkModel", "touch", "(III)V"⟩ ∈ lw_tbl := zin_7 _ (List.mem_of_getElem? (l := tables_1_7) (i := 110) rfl)
theorem zw1262 : Cond.code ⟨"DiodeLinkModel", "touch", "(III)V"⟩ prog_13_method_78_code 4 (none) ∈ lw_tbl := zin_7 _ (List.mem_of_getElem? (l := tables_1_7) (i := 112) rfl)
theorem zw1263 : Cond.selects "DiodeLinkModel" ⟨"DiodeLinkModel", "touch", "(III)V"⟩ ⟨"DiodeLinkModel", "touch", "(III)V"⟩ ∈ lw_tbl := zin_7 _ (List.mem_of_getElem? (l := tables_1_7) (i := 111) rfl)
theorem zw1264 : Cond.instanceMethod ⟨"DiodeLinkModel", "unsize", "()V"⟩ ∈ lw_tbl := zin_6 _ (List.mem_of_getElem? (l := tables_1_6) (i := 174) rfl)
theorem zw1265 : Cond.code ⟨"DiodeLinkModel", "unsize", "()V"⟩ prog_13_method_33_code 4 (none) ∈ lw_tbl := zin_6 _ (List.mem_of_getElem? (l := tables_1_6) (i := 175) rfl)
theorem zw1266 : Cond.selects "DiodeLinkModel" ⟨"DiodeLinkModel", "unsize", "()V"⟩ ⟨"DiodeLinkModel", "unsize", "()V"⟩ ∈ lw_tbl := zin_s _ (List.mem_of_getElem? (l := k2_sels lw_privs) (i := 51) rfl)
theorem zw1267 : Cond.instanceMethod ⟨"DiodeLinkModel", "wasReleased", "(II)Z"⟩ ∈ lw_tbl := zin_7 _ (List.mem_of_getElem? (l := tables_1_7) (i := 79) rfl)
theorem zw1268 : Cond.code ⟨"DiodeLinkModel", "wasReleased", "(II)Z"⟩ prog_13_method_67_code 5 (some .boolean) ∈ lw_tbl := zin_7 _ (List.mem_of_getElem? (l := tables_1_7) (i := 80) rfl)
theorem zw1269 : Cond.selects "DiodeLinkModel" ⟨"DiodeLinkModel", "wasReleased", "(II)Z"⟩ ⟨"DiodeLinkModel", "wasReleased", "(II)Z"⟩ ∈ lw_tbl := zin_s _ (List.mem_of_getElem? (l := k2_sels lw_privs) (i := 84) rfl)
theorem zw1270 : Cond.instanceMethod ⟨"DiodeLinkModel", "within", "(III)I"⟩ ∈ lw_tbl := zin_6 _ (List.mem_of_getElem? (l := tables_1_6) (i := 124) rfl)
theorem zw1271 : Cond.code ⟨"DiodeLinkModel", "within", "(III)I"⟩ prog_13_method_22_code 10 (some .int) ∈ lw_tbl := zin_6 _ (List.mem_of_getElem? (l := tables_1_6) (i := 125) rfl)
theorem zw1272 : Cond.selects "DiodeLinkModel" ⟨"DiodeLinkModel", "within", "(III)I"⟩ ⟨"DiodeLinkModel", "within", "(III)I"⟩ ∈ lw_tbl := zin_s _ (List.mem_of_getElem? (l := k2_sels lw_privs) (i := 45) rfl)
theorem zw1273 : Cond.instanceMethod ⟨"DiodeLinkModel", "write", "(I)I"⟩ ∈ lw_tbl := zin_6 _ (List.mem_of_getElem? (l := tables_1_6) (i := 63) rfl)
theorem zw1274 : Cond.code ⟨"DiodeLinkModel", "write", "(I)I"⟩ prog_13_method_13_code 8 (some .int) ∈ lw_tbl := zin_6 _ (List.mem_of_getElem? (l := tables_1_6) (i := 65) rfl)
theorem zw1275 : Cond.selects "DiodeLinkModel" ⟨"DiodeLinkModel", "write", "(I)I"⟩ ⟨"DiodeLinkModel", "write", "(I)I"⟩ ∈ lw_tbl := zin_6 _ (List.mem_of_getElem? (l := tables_1_6) (i := 64) rfl)
theorem zw1276 : Cond.methodLink "DiodeLink" 63 ⟨"java/lang/IllegalArgumentException", "<init>", "(Ljava/lang/String;)V"⟩ ∈ lw_tbl := zin_2 _ (List.mem_of_getElem? (l := tables_1_2) (i := 141) rfl)
theorem zw1277 : Cond.methodLink "DiodeLink" 198 ⟨"java/lang/IndexOutOfBoundsException", "<init>", "(Ljava/lang/String;)V"⟩ ∈ lw_tbl := zin_5 _ (List.mem_of_getElem? (l := tables_1_5) (i := 69) rfl)
theorem zw1278 : Cond.methodLink "DiodeLink" 77 ⟨"java/lang/IllegalStateException", "<init>", "(Ljava/lang/String;)V"⟩ ∈ lw_tbl := zin_2 _ (List.mem_of_getElem? (l := tables_1_2) (i := 185) rfl)
theorem zw1279 : Cond.arrayOver (.object "DiodeLink$Folder") ∈ lw_tbl := zin_1 _ (List.mem_of_getElem? (l := tables_1_1) (i := 50) rfl)
theorem zw1280 : Cond.arrayOver (.object "DiodeLink$Bytes") ∈ lw_tbl := zin_1 _ (List.mem_of_getElem? (l := tables_1_1) (i := 57) rfl)
theorem zw1281 : Cond.arrayOver (.object "DiodeLink$Edition") ∈ lw_tbl := zin_1 _ (List.mem_of_getElem? (l := tables_1_1) (i := 59) rfl)
theorem zw1282 : Cond.methodLinkNest "DiodeLink" 34 ⟨"DiodeLink$Rules", "<init>", "()V"⟩ "DiodeLink" ∈ lw_tbl := zin_1 _ (List.mem_of_getElem? (l := tables_1_1) (i := 109) rfl)
theorem zw1283 : Cond.methodLinkNest "DiodeLink" 41 ⟨"DiodeLink$Journal", "<init>", "()V"⟩ "DiodeLink" ∈ lw_tbl := zin_1 _ (List.mem_of_getElem? (l := tables_1_1) (i := 129) rfl)
theorem zw1284 : Cond.arrayOver (.object "DiodeLink$Version") ∈ lw_tbl := zin_1 _ (List.mem_of_getElem? (l := tables_1_1) (i := 162) rfl)
theorem zw1285 : Cond.methodLinkNest "DiodeLink$Receiver" 22 ⟨"DiodeLink$Rows", "<init>", "()V"⟩ "DiodeLink" ∈ lw_tbl := zin_1 _ (List.mem_of_getElem? (l := tables_1_1) (i := 165) rfl)
theorem zw1286 : Cond.castable "java/lang/IllegalArgumentException" "java/lang/IllegalArgumentException" ∈ lw_tbl := zin_2 _ (List.mem_of_getElem? (l := tables_1_2) (i := 101) rfl)
theorem zw1287 : Cond.declares ⟨"java/lang/RuntimeException", "<init>", "()V"⟩ ∈ lw_tbl := zin_2 _ (List.mem_of_getElem? (l := tables_1_2) (i := 102) rfl)
theorem zw1288 : Cond.declares ⟨"java/lang/RuntimeException", "<init>", "(Ljava/lang/String;)V"⟩ ∈ lw_tbl := zin_2 _ (List.mem_of_getElem? (l := tables_1_2) (i := 103) rfl)
theorem zw1289 : Cond.declares ⟨"java/lang/Exception", "<init>", "()V"⟩ ∈ lw_tbl := zin_2 _ (List.mem_of_getElem? (l := tables_1_2) (i := 104) rfl)
theorem zw1290 : Cond.declares ⟨"java/lang/Exception", "<init>", "(Ljava/lang/String;)V"⟩ ∈ lw_tbl := zin_2 _ (List.mem_of_getElem? (l := tables_1_2) (i := 105) rfl)
theorem zw1291 : Cond.declares ⟨"java/lang/Throwable", "<init>", "()V"⟩ ∈ lw_tbl := zin_2 _ (List.mem_of_getElem? (l := tables_1_2) (i := 106) rfl)
theorem zw1292 : Cond.declares ⟨"java/lang/Throwable", "<init>", "(Ljava/lang/String;)V"⟩ ∈ lw_tbl := zin_2 _ (List.mem_of_getElem? (l := tables_1_2) (i := 107) rfl)
theorem zw1293 : Cond.castable "java/lang/IllegalStateException" "java/lang/IllegalStateException" ∈ lw_tbl := zin_2 _ (List.mem_of_getElem? (l := tables_1_2) (i := 177) rfl)
theorem zw1294 : Cond.castable "java/lang/IndexOutOfBoundsException" "java/lang/IndexOutOfBoundsException" ∈ lw_tbl := zin_5 _ (List.mem_of_getElem? (l := tables_1_5) (i := 61) rfl)
theorem zTs0_in : ∀ w ∈ zTs0, w ∈ lw_tbl := List.forall_mem_cons.mpr ⟨zw0, List.forall_mem_cons.mpr ⟨zw1, List.forall_mem_cons.mpr ⟨zw2, List.forall_mem_cons.mpr ⟨zw3, List.forall_mem_cons.mpr ⟨zw4, List.forall_mem_cons.mpr ⟨zw5, List.forall_mem_cons.mpr ⟨zw6, List.forall_mem_cons.mpr ⟨zw7, List.forall_mem_cons.mpr ⟨zw8, List.forall_mem_cons.mpr ⟨zw9, List.forall_mem_cons.mpr ⟨zw10, List.forall_mem_cons.mpr ⟨zw11, List.forall_mem_cons.mpr ⟨zw12, List.forall_mem_cons.mpr ⟨zw13, List.forall_mem_cons.mpr ⟨zw14, List.forall_mem_cons.mpr ⟨zw15, List.forall_mem_cons.mpr ⟨zw16, List.forall_mem_cons.mpr ⟨zw17, List.forall_mem_cons.mpr ⟨zw18, List.forall_mem_cons.mpr ⟨zw19, List.forall_mem_cons.mpr ⟨zw20, List.forall_mem_cons.mpr ⟨zw21, List.forall_mem_cons.mpr ⟨zw22, List.forall_mem_cons.mpr ⟨zw23, List.forall_mem_cons.mpr ⟨zw24, List.forall_mem_cons.mpr ⟨zw25, List.forall_mem_cons.mpr ⟨zw26, List.forall_mem_cons.mpr ⟨zw27, List.forall_mem_cons.mpr ⟨zw28, List.forall_mem_cons.mpr ⟨zw29, List.forall_mem_cons.mpr ⟨zw30, List.forall_mem_cons.mpr ⟨zw31, List.forall_mem_cons.mpr ⟨zw32, List.forall_mem_cons.mpr ⟨zw33, List.forall_mem_cons.mpr ⟨zw34, List.forall_mem_cons.mpr ⟨zw35, List.forall_mem_cons.mpr ⟨zw36, List.forall_mem_cons.mpr ⟨zw37, List.forall_mem_cons.mpr ⟨zw38, List.forall_mem_cons.mpr ⟨zw39, List.forall_mem_cons.mpr ⟨zw40, List.forall_mem_cons.mpr ⟨zw41, List.forall_mem_cons.mpr ⟨zw42, List.forall_mem_cons.mpr ⟨zw43, List.forall_mem_cons.mpr ⟨zw44, List.forall_mem_cons.mpr ⟨zw45, List.forall_mem_cons.mpr ⟨zw46, List.forall_mem_cons.mpr ⟨zw47, List.forall_mem_cons.mpr ⟨zw48, List.forall_mem_cons.mpr ⟨zw49, List.forall_mem_cons.mpr ⟨zw50, List.forall_mem_cons.mpr ⟨zw51, List.forall_mem_cons.mpr ⟨zw52, List.forall_mem_cons.mpr ⟨zw53, List.forall_mem_cons.mpr ⟨zw54, List.forall_mem_cons.mpr ⟨zw55, List.forall_mem_cons.mpr ⟨zw56, List.forall_mem_cons.mpr ⟨zw57, List.forall_mem_cons.mpr ⟨zw58, List.forall_mem_cons.mpr ⟨zw59, (fun _ h => nomatch h)⟩⟩⟩⟩⟩⟩⟩⟩⟩⟩⟩⟩⟩⟩⟩⟩⟩⟩⟩⟩⟩⟩⟩⟩⟩⟩⟩⟩⟩⟩⟩⟩⟩⟩⟩⟩⟩⟩⟩⟩⟩⟩⟩⟩⟩⟩⟩⟩⟩⟩⟩⟩⟩⟩⟩⟩⟩⟩⟩⟩
theorem zTs1_in : ∀ w ∈ zTs1, w ∈ lw_tbl := List.forall_mem_cons.mpr ⟨zw60, List.forall_mem_cons.mpr ⟨zw61, List.forall_mem_cons.mpr ⟨zw62, List.forall_mem_cons.mpr ⟨zw63, List.forall_mem_cons.mpr ⟨zw64, List.forall_mem_cons.mpr ⟨zw65, List.forall_mem_cons.mpr ⟨zw66, List.forall_mem_cons.mpr ⟨zw67, List.forall_mem_cons.mpr ⟨zw68, List.forall_mem_cons.mpr ⟨zw69, List.forall_mem_cons.mpr ⟨zw70, List.forall_mem_cons.mpr ⟨zw71, List.forall_mem_cons.mpr ⟨zw72, List.forall_mem_cons.mpr ⟨zw73, List.forall_mem_cons.mpr ⟨zw74, List.forall_mem_cons.mpr ⟨zw75, List.forall_mem_cons.mpr ⟨zw76, List.forall_mem_cons.mpr ⟨zw77, List.forall_mem_cons.mpr ⟨zw78, List.forall_mem_cons.mpr ⟨zw79, List.forall_mem_cons.mpr ⟨zw80, List.forall_mem_cons.mpr ⟨zw81, List.forall_mem_cons.mpr ⟨zw82, List.forall_mem_cons.mpr ⟨zw83, List.forall_mem_cons.mpr ⟨zw84, List.forall_mem_cons.mpr ⟨zw85, List.forall_mem_cons.mpr ⟨zw86, List.forall_mem_cons.mpr ⟨zw87, List.forall_mem_cons.mpr ⟨zw88, List.forall_mem_cons.mpr ⟨zw89, List.forall_mem_cons.mpr ⟨zw90, List.forall_mem_cons.mpr ⟨zw91, List.forall_mem_cons.mpr ⟨zw92, List.forall_mem_cons.mpr ⟨zw93, List.forall_mem_cons.mpr ⟨zw94, List.forall_mem_cons.mpr ⟨zw95, List.forall_mem_cons.mpr ⟨zw96, List.forall_mem_cons.mpr ⟨zw97, List.forall_mem_cons.mpr ⟨zw98, List.forall_mem_cons.mpr ⟨zw99, List.forall_mem_cons.mpr ⟨zw100, List.forall_mem_cons.mpr ⟨zw101, List.forall_mem_cons.mpr ⟨zw102, List.forall_mem_cons.mpr ⟨zw103, List.forall_mem_cons.mpr ⟨zw104, List.forall_mem_cons.mpr ⟨zw105, List.forall_mem_cons.mpr ⟨zw106, List.forall_mem_cons.mpr ⟨zw107, List.forall_mem_cons.mpr ⟨zw108, List.forall_mem_cons.mpr ⟨zw109, List.forall_mem_cons.mpr ⟨zw110, List.forall_mem_cons.mpr ⟨zw111, List.forall_mem_cons.mpr ⟨zw112, List.forall_mem_cons.mpr ⟨zw113, List.forall_mem_cons.mpr ⟨zw114, List.forall_mem_cons.mpr ⟨zw115, List.forall_mem_cons.mpr ⟨zw116, List.forall_mem_cons.mpr ⟨zw117, List.forall_mem_cons.mpr ⟨zw118, List.forall_mem_cons.mpr ⟨zw108, (fun _ h => nomatch h)⟩⟩⟩⟩⟩⟩⟩⟩⟩⟩⟩⟩⟩⟩⟩⟩⟩⟩⟩⟩⟩⟩⟩⟩⟩⟩⟩⟩⟩⟩⟩⟩⟩⟩⟩⟩⟩⟩⟩⟩⟩⟩⟩⟩⟩⟩⟩⟩⟩⟩⟩⟩⟩⟩⟩⟩⟩⟩⟩⟩
theorem zTs2_in : ∀ w ∈ zTs2, w ∈ lw_tbl := List.forall_mem_cons.mpr ⟨zw119, List.forall_mem_cons.mpr ⟨zw120, List.forall_mem_cons.mpr ⟨zw121, List.forall_mem_cons.mpr ⟨zw122, List.forall_mem_cons.mpr ⟨zw123, List.forall_mem_cons.mpr ⟨zw124, List.forall_mem_cons.mpr ⟨zw125, List.forall_mem_cons.mpr ⟨zw126, List.forall_mem_cons.mpr ⟨zw127, List.forall_mem_cons.mpr ⟨zw128, List.forall_mem_cons.mpr ⟨zw129, List.forall_mem_cons.mpr ⟨zw130, List.forall_mem_cons.mpr ⟨zw131, List.forall_mem_cons.mpr ⟨zw132, List.forall_mem_cons.mpr ⟨zw133, List.forall_mem_cons.mpr ⟨zw134, List.forall_mem_cons.mpr ⟨zw135, List.forall_mem_cons.mpr ⟨zw136, List.forall_mem_cons.mpr ⟨zw137, List.forall_mem_cons.mpr ⟨zw138, List.forall_mem_cons.mpr ⟨zw139, List.forall_mem_cons.mpr ⟨zw140, List.forall_mem_cons.mpr ⟨zw141, List.forall_mem_cons.mpr ⟨zw142, List.forall_mem_cons.mpr ⟨zw143, List.forall_mem_cons.mpr ⟨zw144, List.forall_mem_cons.mpr ⟨zw145, List.forall_mem_cons.mpr ⟨zw146, List.forall_mem_cons.mpr ⟨zw147, List.forall_mem_cons.mpr ⟨zw148, List.forall_mem_cons.mpr ⟨zw149, List.forall_mem_cons.mpr ⟨zw150, List.forall_mem_cons.mpr ⟨zw151, List.forall_mem_cons.mpr ⟨zw152, List.forall_mem_cons.mpr ⟨zw153, List.forall_mem_cons.mpr ⟨zw154, List.forall_mem_cons.mpr ⟨zw155, List.forall_mem_cons.mpr ⟨zw156, List.forall_mem_cons.mpr ⟨zw157, List.forall_mem_cons.mpr ⟨zw158, List.forall_mem_cons.mpr ⟨zw159, List.forall_mem_cons.mpr ⟨zw160, List.forall_mem_cons.mpr ⟨zw161, List.forall_mem_cons.mpr ⟨zw162, List.forall_mem_cons.mpr ⟨zw163, List.forall_mem_cons.mpr ⟨zw164, List.forall_mem_cons.mpr ⟨zw165, List.forall_mem_cons.mpr ⟨zw166, List.forall_mem_cons.mpr ⟨zw167, List.forall_mem_cons.mpr ⟨zw168, List.forall_mem_cons.mpr ⟨zw169, List.forall_mem_cons.mpr ⟨zw170, List.forall_mem_cons.mpr ⟨zw171, List.forall_mem_cons.mpr ⟨zw172, List.forall_mem_cons.mpr ⟨zw173, List.forall_mem_cons.mpr ⟨zw174, List.forall_mem_cons.mpr ⟨zw175, List.forall_mem_cons.mpr ⟨zw176, List.forall_mem_cons.mpr ⟨zw177, List.forall_mem_cons.mpr ⟨zw178, (fun _ h => nomatch h)⟩⟩⟩⟩⟩⟩⟩⟩⟩⟩⟩⟩⟩⟩⟩⟩⟩⟩⟩⟩⟩⟩⟩⟩⟩⟩⟩⟩⟩⟩⟩⟩⟩⟩⟩⟩⟩⟩⟩⟩⟩⟩⟩⟩⟩⟩⟩⟩⟩⟩⟩⟩⟩⟩⟩⟩⟩⟩⟩⟩
theorem zTs3_in : ∀ w ∈ zTs3, w ∈ lw_tbl := List.forall_mem_cons.mpr ⟨zw179, List.forall_mem_cons.mpr ⟨zw180, List.forall_mem_cons.mpr ⟨zw181, List.forall_mem_cons.mpr ⟨zw182, List.forall_mem_cons.mpr ⟨zw106, List.forall_mem_cons.mpr ⟨zw107, List.forall_mem_cons.mpr ⟨zw183, List.forall_mem_cons.mpr ⟨zw184, List.forall_mem_cons.mpr ⟨zw185, List.forall_mem_cons.mpr ⟨zw186, List.forall_mem_cons.mpr ⟨zw187, List.forall_mem_cons.mpr ⟨zw188, List.forall_mem_cons.mpr ⟨zw189, List.forall_mem_cons.mpr ⟨zw190, List.forall_mem_cons.mpr ⟨zw191, List.forall_mem_cons.mpr ⟨zw192, List.forall_mem_cons.mpr ⟨zw193, List.forall_mem_cons.mpr ⟨zw194, List.forall_mem_cons.mpr ⟨zw195, List.forall_mem_cons.mpr ⟨zw196, List.forall_mem_cons.mpr ⟨zw197, List.forall_mem_cons.mpr ⟨zw198, List.forall_mem_cons.mpr ⟨zw199, List.forall_mem_cons.mpr ⟨zw200, List.forall_mem_cons.mpr ⟨zw201, List.forall_mem_cons.mpr ⟨zw202, List.forall_mem_cons.mpr ⟨zw191, List.forall_mem_cons.mpr ⟨zw203, List.forall_mem_cons.mpr ⟨zw204, List.forall_mem_cons.mpr ⟨zw202, List.forall_mem_cons.mpr ⟨zw191, List.forall_mem_cons.mpr ⟨zw203, List.forall_mem_cons.mpr ⟨zw205, List.forall_mem_cons.mpr ⟨zw206, List.forall_mem_cons.mpr ⟨zw207, List.forall_mem_cons.mpr ⟨zw190, List.forall_mem_cons.mpr ⟨zw191, List.forall_mem_cons.mpr ⟨zw192, List.forall_mem_cons.mpr ⟨zw208, List.forall_mem_cons.mpr ⟨zw106, List.forall_mem_cons.mpr ⟨zw107, List.forall_mem_cons.mpr ⟨zw209, List.forall_mem_cons.mpr ⟨zw210, List.forall_mem_cons.mpr ⟨zw211, List.forall_mem_cons.mpr ⟨zw212, List.forall_mem_cons.mpr ⟨zw209, List.forall_mem_cons.mpr ⟨zw109, List.forall_mem_cons.mpr ⟨zw110, List.forall_mem_cons.mpr ⟨zw213, List.forall_mem_cons.mpr ⟨zw214, List.forall_mem_cons.mpr ⟨zw215, List.forall_mem_cons.mpr ⟨zw216, List.forall_mem_cons.mpr ⟨zw217, List.forall_mem_cons.mpr ⟨zw218, List.forall_mem_cons.mpr ⟨zw219, List.forall_mem_cons.mpr ⟨zw220, List.forall_mem_cons.mpr ⟨zw221, List.forall_mem_cons.mpr ⟨zw222, List.forall_mem_cons.mpr ⟨zw223, List.forall_mem_cons.mpr ⟨zw224, (fun _ h => nomatch h)⟩⟩⟩⟩⟩⟩⟩⟩⟩⟩⟩⟩⟩⟩⟩⟩⟩⟩⟩⟩⟩⟩⟩⟩⟩⟩⟩⟩⟩⟩⟩⟩⟩⟩⟩⟩⟩⟩⟩⟩⟩⟩⟩⟩⟩⟩⟩⟩⟩⟩⟩⟩⟩⟩⟩⟩⟩⟩⟩⟩
theorem zTs4_in : ∀ w ∈ zTs4, w ∈ lw_tbl := List.forall_mem_cons.mpr ⟨zw225, List.forall_mem_cons.mpr ⟨zw226, List.forall_mem_cons.mpr ⟨zw227, List.forall_mem_cons.mpr ⟨zw228, List.forall_mem_cons.mpr ⟨zw229, List.forall_mem_cons.mpr ⟨zw230, List.forall_mem_cons.mpr ⟨zw106, List.forall_mem_cons.mpr ⟨zw107, List.forall_mem_cons.mpr ⟨zw231, List.forall_mem_cons.mpr ⟨zw232, List.forall_mem_cons.mpr ⟨zw233, List.forall_mem_cons.mpr ⟨zw234, List.forall_mem_cons.mpr ⟨zw235, List.forall_mem_cons.mpr ⟨zw236, List.forall_mem_cons.mpr ⟨zw237, List.forall_mem_cons.mpr ⟨zw231, List.forall_mem_cons.mpr ⟨zw109, List.forall_mem_cons.mpr ⟨zw110, List.forall_mem_cons.mpr ⟨zw238, List.forall_mem_cons.mpr ⟨zw234, List.forall_mem_cons.mpr ⟨zw239, List.forall_mem_cons.mpr ⟨zw240, List.forall_mem_cons.mpr ⟨zw241, List.forall_mem_cons.mpr ⟨zw242, List.forall_mem_cons.mpr ⟨zw243, List.forall_mem_cons.mpr ⟨zw244, List.forall_mem_cons.mpr ⟨zw245, List.forall_mem_cons.mpr ⟨zw246, List.forall_mem_cons.mpr ⟨zw247, List.forall_mem_cons.mpr ⟨zw248, List.forall_mem_cons.mpr ⟨zw106, List.forall_mem_cons.mpr ⟨zw107, List.forall_mem_cons.mpr ⟨zw249, List.forall_mem_cons.mpr ⟨zw250, List.forall_mem_cons.mpr ⟨zw251, List.forall_mem_cons.mpr ⟨zw252, List.forall_mem_cons.mpr ⟨zw109, List.forall_mem_cons.mpr ⟨zw110, List.forall_mem_cons.mpr ⟨zw253, List.forall_mem_cons.mpr ⟨zw254, List.forall_mem_cons.mpr ⟨zw255, List.forall_mem_cons.mpr ⟨zw256, List.forall_mem_cons.mpr ⟨zw257, List.forall_mem_cons.mpr ⟨zw258, List.forall_mem_cons.mpr ⟨zw259, List.forall_mem_cons.mpr ⟨zw260, List.forall_mem_cons.mpr ⟨zw261, List.forall_mem_cons.mpr ⟨zw262, List.forall_mem_cons.mpr ⟨zw263, List.forall_mem_cons.mpr ⟨zw264, List.forall_mem_cons.mpr ⟨zw265, List.forall_mem_cons.mpr ⟨zw202, List.forall_mem_cons.mpr ⟨zw191, List.forall_mem_cons.mpr ⟨zw203, List.forall_mem_cons.mpr ⟨zw266, List.forall_mem_cons.mpr ⟨zw267, List.forall_mem_cons.mpr ⟨zw106, List.forall_mem_cons.mpr ⟨zw107, List.forall_mem_cons.mpr ⟨zw268, List.forall_mem_cons.mpr ⟨zw269, (fun _ h => nomatch h)⟩⟩⟩⟩⟩⟩⟩⟩⟩⟩⟩⟩⟩⟩⟩⟩⟩⟩⟩⟩⟩⟩⟩⟩⟩⟩⟩⟩⟩⟩⟩⟩⟩⟩⟩⟩⟩⟩⟩⟩⟩⟩⟩⟩⟩⟩⟩⟩⟩⟩⟩⟩⟩⟩⟩⟩⟩⟩⟩⟩
theorem zTs5_in : ∀ w ∈ zTs5, w ∈ lw_tbl := List.forall_mem_cons.mpr ⟨zw270, List.forall_mem_cons.mpr ⟨zw271, List.forall_mem_cons.mpr ⟨zw272, List.forall_mem_cons.mpr ⟨zw273, List.forall_mem_cons.mpr ⟨zw274, List.forall_mem_cons.mpr ⟨zw275, List.forall_mem_cons.mpr ⟨zw276, List.forall_mem_cons.mpr ⟨zw277, List.forall_mem_cons.mpr ⟨zw278, List.forall_mem_cons.mpr ⟨zw268, List.forall_mem_cons.mpr ⟨zw279, List.forall_mem_cons.mpr ⟨zw280, List.forall_mem_cons.mpr ⟨zw281, List.forall_mem_cons.mpr ⟨zw282, List.forall_mem_cons.mpr ⟨zw283, List.forall_mem_cons.mpr ⟨zw284, List.forall_mem_cons.mpr ⟨zw285, List.forall_mem_cons.mpr ⟨zw286, List.forall_mem_cons.mpr ⟨zw287, List.forall_mem_cons.mpr ⟨zw288, List.forall_mem_cons.mpr ⟨zw289, List.forall_mem_cons.mpr ⟨zw290, List.forall_mem_cons.mpr ⟨zw291, List.forall_mem_cons.mpr ⟨zw292, List.forall_mem_cons.mpr ⟨zw293, List.forall_mem_cons.mpr ⟨zw294, List.forall_mem_cons.mpr ⟨zw295, List.forall_mem_cons.mpr ⟨zw202, List.forall_mem_cons.mpr ⟨zw191, List.forall_mem_cons.mpr ⟨zw203, List.forall_mem_cons.mpr ⟨zw296, List.forall_mem_cons.mpr ⟨zw297, List.forall_mem_cons.mpr ⟨zw298, List.forall_mem_cons.mpr ⟨zw299, List.forall_mem_cons.mpr ⟨zw300, List.forall_mem_cons.mpr ⟨zw301, List.forall_mem_cons.mpr ⟨zw302, List.forall_mem_cons.mpr ⟨zw303, List.forall_mem_cons.mpr ⟨zw304, List.forall_mem_cons.mpr ⟨zw305, List.forall_mem_cons.mpr ⟨zw306, List.forall_mem_cons.mpr ⟨zw307, List.forall_mem_cons.mpr ⟨zw308, List.forall_mem_cons.mpr ⟨zw309, List.forall_mem_cons.mpr ⟨zw310, List.forall_mem_cons.mpr ⟨zw311, List.forall_mem_cons.mpr ⟨zw312, List.forall_mem_cons.mpr ⟨zw313, List.forall_mem_cons.mpr ⟨zw314, List.forall_mem_cons.mpr ⟨zw315, List.forall_mem_cons.mpr ⟨zw316, List.forall_mem_cons.mpr ⟨zw317, List.forall_mem_cons.mpr ⟨zw318, List.forall_mem_cons.mpr ⟨zw319, List.forall_mem_cons.mpr ⟨zw320, List.forall_mem_cons.mpr ⟨zw321, List.forall_mem_cons.mpr ⟨zw322, List.forall_mem_cons.mpr ⟨zw323, List.forall_mem_cons.mpr ⟨zw324, List.forall_mem_cons.mpr ⟨zw325, (fun _ h => nomatch h)⟩⟩⟩⟩⟩⟩⟩⟩⟩⟩⟩⟩⟩⟩⟩⟩⟩⟩⟩⟩⟩⟩⟩⟩⟩⟩⟩⟩⟩⟩⟩⟩⟩⟩⟩⟩⟩⟩⟩⟩⟩⟩⟩⟩⟩⟩⟩⟩⟩⟩⟩⟩⟩⟩⟩⟩⟩⟩⟩⟩
theorem zTs6_in : ∀ w ∈ zTs6, w ∈ lw_tbl := List.forall_mem_cons.mpr ⟨zw326, List.forall_mem_cons.mpr ⟨zw327, List.forall_mem_cons.mpr ⟨zw328, List.forall_mem_cons.mpr ⟨zw329, List.forall_mem_cons.mpr ⟨zw330, List.forall_mem_cons.mpr ⟨zw331, List.forall_mem_cons.mpr ⟨zw332, List.forall_mem_cons.mpr ⟨zw333, List.forall_mem_cons.mpr ⟨zw334, List.forall_mem_cons.mpr ⟨zw335, List.forall_mem_cons.mpr ⟨zw336, List.forall_mem_cons.mpr ⟨zw337, List.forall_mem_cons.mpr ⟨zw338, List.forall_mem_cons.mpr ⟨zw339, List.forall_mem_cons.mpr ⟨zw340, List.forall_mem_cons.mpr ⟨zw341, List.forall_mem_cons.mpr ⟨zw342, List.forall_mem_cons.mpr ⟨zw343, List.forall_mem_cons.mpr ⟨zw344, List.forall_mem_cons.mpr ⟨zw345, List.forall_mem_cons.mpr ⟨zw346, List.forall_mem_cons.mpr ⟨zw347, List.forall_mem_cons.mpr ⟨zw348, List.forall_mem_cons.mpr ⟨zw106, List.forall_mem_cons.mpr ⟨zw107, List.forall_mem_cons.mpr ⟨zw349, List.forall_mem_cons.mpr ⟨zw350, List.forall_mem_cons.mpr ⟨zw351, List.forall_mem_cons.mpr ⟨zw352, List.forall_mem_cons.mpr ⟨zw353, List.forall_mem_cons.mpr ⟨zw354, List.forall_mem_cons.mpr ⟨zw355, List.forall_mem_cons.mpr ⟨zw106, List.forall_mem_cons.mpr ⟨zw107, List.forall_mem_cons.mpr ⟨zw356, List.forall_mem_cons.mpr ⟨zw357, List.forall_mem_cons.mpr ⟨zw358, List.forall_mem_cons.mpr ⟨zw359, List.forall_mem_cons.mpr ⟨zw360, List.forall_mem_cons.mpr ⟨zw361, List.forall_mem_cons.mpr ⟨zw362, List.forall_mem_cons.mpr ⟨zw363, List.forall_mem_cons.mpr ⟨zw364, List.forall_mem_cons.mpr ⟨zw365, List.forall_mem_cons.mpr ⟨zw366, List.forall_mem_cons.mpr ⟨zw367, List.forall_mem_cons.mpr ⟨zw368, List.forall_mem_cons.mpr ⟨zw369, List.forall_mem_cons.mpr ⟨zw106, List.forall_mem_cons.mpr ⟨zw107, List.forall_mem_cons.mpr ⟨zw370, List.forall_mem_cons.mpr ⟨zw371, List.forall_mem_cons.mpr ⟨zw372, List.forall_mem_cons.mpr ⟨zw373, List.forall_mem_cons.mpr ⟨zw374, List.forall_mem_cons.mpr ⟨zw370, List.forall_mem_cons.mpr ⟨zw375, List.forall_mem_cons.mpr ⟨zw376, List.forall_mem_cons.mpr ⟨zw377, List.forall_mem_cons.mpr ⟨zw378, (fun _ h => nomatch h)⟩⟩⟩⟩⟩⟩⟩⟩⟩⟩⟩⟩⟩⟩⟩⟩⟩⟩⟩⟩⟩⟩⟩⟩⟩⟩⟩⟩⟩⟩⟩⟩⟩⟩⟩⟩⟩⟩⟩⟩⟩⟩⟩⟩⟩⟩⟩⟩⟩⟩⟩⟩⟩⟩⟩⟩⟩⟩⟩⟩
theorem zTs7_in : ∀ w ∈ zTs7, w ∈ lw_tbl := List.forall_mem_cons.mpr ⟨zw379, List.forall_mem_cons.mpr ⟨zw380, List.forall_mem_cons.mpr ⟨zw381, List.forall_mem_cons.mpr ⟨zw382, List.forall_mem_cons.mpr ⟨zw383, List.forall_mem_cons.mpr ⟨zw384, List.forall_mem_cons.mpr ⟨zw385, List.forall_mem_cons.mpr ⟨zw386, List.forall_mem_cons.mpr ⟨zw387, List.forall_mem_cons.mpr ⟨zw106, List.forall_mem_cons.mpr ⟨zw107, List.forall_mem_cons.mpr ⟨zw388, List.forall_mem_cons.mpr ⟨zw389, List.forall_mem_cons.mpr ⟨zw390, List.forall_mem_cons.mpr ⟨zw391, List.forall_mem_cons.mpr ⟨zw392, List.forall_mem_cons.mpr ⟨zw393, List.forall_mem_cons.mpr ⟨zw394, List.forall_mem_cons.mpr ⟨zw395, List.forall_mem_cons.mpr ⟨zw396, List.forall_mem_cons.mpr ⟨zw397, List.forall_mem_cons.mpr ⟨zw398, List.forall_mem_cons.mpr ⟨zw399, List.forall_mem_cons.mpr ⟨zw388, List.forall_mem_cons.mpr ⟨zw109, List.forall_mem_cons.mpr ⟨zw110, List.forall_mem_cons.mpr ⟨zw400, List.forall_mem_cons.mpr ⟨zw401, List.forall_mem_cons.mpr ⟨zw402, List.forall_mem_cons.mpr ⟨zw403, List.forall_mem_cons.mpr ⟨zw404, List.forall_mem_cons.mpr ⟨zw405, List.forall_mem_cons.mpr ⟨zw406, List.forall_mem_cons.mpr ⟨zw407, List.forall_mem_cons.mpr ⟨zw408, List.forall_mem_cons.mpr ⟨zw409, List.forall_mem_cons.mpr ⟨zw410, List.forall_mem_cons.mpr ⟨zw411, List.forall_mem_cons.mpr ⟨zw412, List.forall_mem_cons.mpr ⟨zw413, List.forall_mem_cons.mpr ⟨zw195, List.forall_mem_cons.mpr ⟨zw196, List.forall_mem_cons.mpr ⟨zw197, List.forall_mem_cons.mpr ⟨zw414, List.forall_mem_cons.mpr ⟨zw415, List.forall_mem_cons.mpr ⟨zw416, List.forall_mem_cons.mpr ⟨zw417, List.forall_mem_cons.mpr ⟨zw418, List.forall_mem_cons.mpr ⟨zw419, List.forall_mem_cons.mpr ⟨zw420, List.forall_mem_cons.mpr ⟨zw421, List.forall_mem_cons.mpr ⟨zw422, List.forall_mem_cons.mpr ⟨zw423, List.forall_mem_cons.mpr ⟨zw424, List.forall_mem_cons.mpr ⟨zw425, List.forall_mem_cons.mpr ⟨zw426, List.forall_mem_cons.mpr ⟨zw427, List.forall_mem_cons.mpr ⟨zw428, List.forall_mem_cons.mpr ⟨zw429, List.forall_mem_cons.mpr ⟨zw430, (fun _ h => nomatch h)⟩⟩⟩⟩⟩⟩⟩⟩⟩⟩⟩⟩⟩⟩⟩⟩⟩⟩⟩⟩⟩⟩⟩⟩⟩⟩⟩⟩⟩⟩⟩⟩⟩⟩⟩⟩⟩⟩⟩⟩⟩⟩⟩⟩⟩⟩⟩⟩⟩⟩⟩⟩⟩⟩⟩⟩⟩⟩⟩⟩
theorem zTs8_in : ∀ w ∈ zTs8, w ∈ lw_tbl := List.forall_mem_cons.mpr ⟨zw431, List.forall_mem_cons.mpr ⟨zw432, List.forall_mem_cons.mpr ⟨zw106, List.forall_mem_cons.mpr ⟨zw107, List.forall_mem_cons.mpr ⟨zw433, List.forall_mem_cons.mpr ⟨zw434, List.forall_mem_cons.mpr ⟨zw435, List.forall_mem_cons.mpr ⟨zw436, List.forall_mem_cons.mpr ⟨zw437, List.forall_mem_cons.mpr ⟨zw438, List.forall_mem_cons.mpr ⟨zw439, List.forall_mem_cons.mpr ⟨zw440, List.forall_mem_cons.mpr ⟨zw441, List.forall_mem_cons.mpr ⟨zw442, List.forall_mem_cons.mpr ⟨zw443, List.forall_mem_cons.mpr ⟨zw444, List.forall_mem_cons.mpr ⟨zw445, List.forall_mem_cons.mpr ⟨zw446, List.forall_mem_cons.mpr ⟨zw447, List.forall_mem_cons.mpr ⟨zw448, List.forall_mem_cons.mpr ⟨zw449, List.forall_mem_cons.mpr ⟨zw450, List.forall_mem_cons.mpr ⟨zw451, List.forall_mem_cons.mpr ⟨zw452, List.forall_mem_cons.mpr ⟨zw453, List.forall_mem_cons.mpr ⟨zw454, List.forall_mem_cons.mpr ⟨zw455, List.forall_mem_cons.mpr ⟨zw456, List.forall_mem_cons.mpr ⟨zw457, List.forall_mem_cons.mpr ⟨zw458, List.forall_mem_cons.mpr ⟨zw459, List.forall_mem_cons.mpr ⟨zw460, List.forall_mem_cons.mpr ⟨zw461, List.forall_mem_cons.mpr ⟨zw462, List.forall_mem_cons.mpr ⟨zw463, List.forall_mem_cons.mpr ⟨zw464, List.forall_mem_cons.mpr ⟨zw465, List.forall_mem_cons.mpr ⟨zw466, List.forall_mem_cons.mpr ⟨zw467, List.forall_mem_cons.mpr ⟨zw468, List.forall_mem_cons.mpr ⟨zw469, List.forall_mem_cons.mpr ⟨zw470, List.forall_mem_cons.mpr ⟨zw471, List.forall_mem_cons.mpr ⟨zw472, List.forall_mem_cons.mpr ⟨zw473, List.forall_mem_cons.mpr ⟨zw474, List.forall_mem_cons.mpr ⟨zw475, List.forall_mem_cons.mpr ⟨zw476, List.forall_mem_cons.mpr ⟨zw477, List.forall_mem_cons.mpr ⟨zw478, List.forall_mem_cons.mpr ⟨zw479, List.forall_mem_cons.mpr ⟨zw480, List.forall_mem_cons.mpr ⟨zw481, List.forall_mem_cons.mpr ⟨zw482, List.forall_mem_cons.mpr ⟨zw483, List.forall_mem_cons.mpr ⟨zw484, List.forall_mem_cons.mpr ⟨zw485, List.forall_mem_cons.mpr ⟨zw486, List.forall_mem_cons.mpr ⟨zw487, List.forall_mem_cons.mpr ⟨zw488, (fun _ h => nomatch h)⟩⟩⟩⟩⟩⟩⟩⟩⟩⟩⟩⟩⟩⟩⟩⟩⟩⟩⟩⟩⟩⟩⟩⟩⟩⟩⟩⟩⟩⟩⟩⟩⟩⟩⟩⟩⟩⟩⟩⟩⟩⟩⟩⟩⟩⟩⟩⟩⟩⟩⟩⟩⟩⟩⟩⟩⟩⟩⟩⟩
theorem zTs9_in : ∀ w ∈ zTs9, w ∈ lw_tbl := List.forall_mem_cons.mpr ⟨zw489, List.forall_mem_cons.mpr ⟨zw490, List.forall_mem_cons.mpr ⟨zw491, List.forall_mem_cons.mpr ⟨zw492, List.forall_mem_cons.mpr ⟨zw493, List.forall_mem_cons.mpr ⟨zw494, List.forall_mem_cons.mpr ⟨zw495, List.forall_mem_cons.mpr ⟨zw496, List.forall_mem_cons.mpr ⟨zw497, List.forall_mem_cons.mpr ⟨zw498, List.forall_mem_cons.mpr ⟨zw499, List.forall_mem_cons.mpr ⟨zw500, List.forall_mem_cons.mpr ⟨zw501, List.forall_mem_cons.mpr ⟨zw502, List.forall_mem_cons.mpr ⟨zw503, List.forall_mem_cons.mpr ⟨zw504, List.forall_mem_cons.mpr ⟨zw505, List.forall_mem_cons.mpr ⟨zw506, List.forall_mem_cons.mpr ⟨zw507, List.forall_mem_cons.mpr ⟨zw508, List.forall_mem_cons.mpr ⟨zw509, List.forall_mem_cons.mpr ⟨zw510, List.forall_mem_cons.mpr ⟨zw511, List.forall_mem_cons.mpr ⟨zw512, List.forall_mem_cons.mpr ⟨zw513, List.forall_mem_cons.mpr ⟨zw514, List.forall_mem_cons.mpr ⟨zw515, List.forall_mem_cons.mpr ⟨zw516, List.forall_mem_cons.mpr ⟨zw517, List.forall_mem_cons.mpr ⟨zw518, List.forall_mem_cons.mpr ⟨zw519, List.forall_mem_cons.mpr ⟨zw520, List.forall_mem_cons.mpr ⟨zw521, List.forall_mem_cons.mpr ⟨zw522, List.forall_mem_cons.mpr ⟨zw523, List.forall_mem_cons.mpr ⟨zw524, List.forall_mem_cons.mpr ⟨zw525, List.forall_mem_cons.mpr ⟨zw526, List.forall_mem_cons.mpr ⟨zw527, List.forall_mem_cons.mpr ⟨zw528, List.forall_mem_cons.mpr ⟨zw529, List.forall_mem_cons.mpr ⟨zw530, List.forall_mem_cons.mpr ⟨zw531, List.forall_mem_cons.mpr ⟨zw532, List.forall_mem_cons.mpr ⟨zw533, List.forall_mem_cons.mpr ⟨zw534, List.forall_mem_cons.mpr ⟨zw535, List.forall_mem_cons.mpr ⟨zw536, List.forall_mem_cons.mpr ⟨zw537, List.forall_mem_cons.mpr ⟨zw538, List.forall_mem_cons.mpr ⟨zw539, List.forall_mem_cons.mpr ⟨zw540, List.forall_mem_cons.mpr ⟨zw541, List.forall_mem_cons.mpr ⟨zw542, List.forall_mem_cons.mpr ⟨zw543, List.forall_mem_cons.mpr ⟨zw544, List.forall_mem_cons.mpr ⟨zw545, List.forall_mem_cons.mpr ⟨zw546, List.forall_mem_cons.mpr ⟨zw547, List.forall_mem_cons.mpr ⟨zw548, (fun _ h => nomatch h)⟩⟩⟩⟩⟩⟩⟩⟩⟩⟩⟩⟩⟩⟩⟩⟩⟩⟩⟩⟩⟩⟩⟩⟩⟩⟩⟩⟩⟩⟩⟩⟩⟩⟩⟩⟩⟩⟩⟩⟩⟩⟩⟩⟩⟩⟩⟩⟩⟩⟩⟩⟩⟩⟩⟩⟩⟩⟩⟩⟩
theorem zTs10_in : ∀ w ∈ zTs10, w ∈ lw_tbl := List.forall_mem_cons.mpr ⟨zw549, List.forall_mem_cons.mpr ⟨zw550, List.forall_mem_cons.mpr ⟨zw551, List.forall_mem_cons.mpr ⟨zw552, List.forall_mem_cons.mpr ⟨zw553, List.forall_mem_cons.mpr ⟨zw551, List.forall_mem_cons.mpr ⟨zw554, List.forall_mem_cons.mpr ⟨zw555, List.forall_mem_cons.mpr ⟨zw556, List.forall_mem_cons.mpr ⟨zw551, List.forall_mem_cons.mpr ⟨zw557, List.forall_mem_cons.mpr ⟨zw558, List.forall_mem_cons.mpr ⟨zw551, List.forall_mem_cons.mpr ⟨zw559, List.forall_mem_cons.mpr ⟨zw560, List.forall_mem_cons.mpr ⟨zw561, List.forall_mem_cons.mpr ⟨zw551, List.forall_mem_cons.mpr ⟨zw562, List.forall_mem_cons.mpr ⟨zw563, List.forall_mem_cons.mpr ⟨zw551, List.forall_mem_cons.mpr ⟨zw564, List.forall_mem_cons.mpr ⟨zw565, List.forall_mem_cons.mpr ⟨zw566, List.forall_mem_cons.mpr ⟨zw551, List.forall_mem_cons.mpr ⟨zw567, List.forall_mem_cons.mpr ⟨zw568, List.forall_mem_cons.mpr ⟨zw569, List.forall_mem_cons.mpr ⟨zw551, List.forall_mem_cons.mpr ⟨zw570, List.forall_mem_cons.mpr ⟨zw571, List.forall_mem_cons.mpr ⟨zw572, List.forall_mem_cons.mpr ⟨zw551, List.forall_mem_cons.mpr ⟨zw573, List.forall_mem_cons.mpr ⟨zw574, List.forall_mem_cons.mpr ⟨zw575, List.forall_mem_cons.mpr ⟨zw551, List.forall_mem_cons.mpr ⟨zw576, List.forall_mem_cons.mpr ⟨zw577, List.forall_mem_cons.mpr ⟨zw578, List.forall_mem_cons.mpr ⟨zw551, List.forall_mem_cons.mpr ⟨zw579, List.forall_mem_cons.mpr ⟨zw580, List.forall_mem_cons.mpr ⟨zw581, List.forall_mem_cons.mpr ⟨zw551, List.forall_mem_cons.mpr ⟨zw582, List.forall_mem_cons.mpr ⟨zw583, List.forall_mem_cons.mpr ⟨zw551, List.forall_mem_cons.mpr ⟨zw584, List.forall_mem_cons.mpr ⟨zw585, List.forall_mem_cons.mpr ⟨zw586, List.forall_mem_cons.mpr ⟨zw551, List.forall_mem_cons.mpr ⟨zw587, List.forall_mem_cons.mpr ⟨zw588, List.forall_mem_cons.mpr ⟨zw589, List.forall_mem_cons.mpr ⟨zw551, List.forall_mem_cons.mpr ⟨zw590, List.forall_mem_cons.mpr ⟨zw591, List.forall_mem_cons.mpr ⟨zw592, List.forall_mem_cons.mpr ⟨zw551, List.forall_mem_cons.mpr ⟨zw593, (fun _ h => nomatch h)⟩⟩⟩⟩⟩⟩⟩⟩⟩⟩⟩⟩⟩⟩⟩⟩⟩⟩⟩⟩⟩⟩⟩⟩⟩⟩⟩⟩⟩⟩⟩⟩⟩⟩⟩⟩⟩⟩⟩⟩⟩⟩⟩⟩⟩⟩⟩⟩⟩⟩⟩⟩⟩⟩⟩⟩⟩⟩⟩⟩
theorem zTs11_in : ∀ w ∈ zTs11, w ∈ lw_tbl := List.forall_mem_cons.mpr ⟨zw594, List.forall_mem_cons.mpr ⟨zw595, List.forall_mem_cons.mpr ⟨zw551, List.forall_mem_cons.mpr ⟨zw596, List.forall_mem_cons.mpr ⟨zw597, List.forall_mem_cons.mpr ⟨zw598, List.forall_mem_cons.mpr ⟨zw551, List.forall_mem_cons.mpr ⟨zw599, List.forall_mem_cons.mpr ⟨zw600, List.forall_mem_cons.mpr ⟨zw601, List.forall_mem_cons.mpr ⟨zw551, List.forall_mem_cons.mpr ⟨zw602, List.forall_mem_cons.mpr ⟨zw603, List.forall_mem_cons.mpr ⟨zw604, List.forall_mem_cons.mpr ⟨zw551, List.forall_mem_cons.mpr ⟨zw605, List.forall_mem_cons.mpr ⟨zw606, List.forall_mem_cons.mpr ⟨zw607, List.forall_mem_cons.mpr ⟨zw551, List.forall_mem_cons.mpr ⟨zw608, List.forall_mem_cons.mpr ⟨zw609, List.forall_mem_cons.mpr ⟨zw610, List.forall_mem_cons.mpr ⟨zw551, List.forall_mem_cons.mpr ⟨zw611, List.forall_mem_cons.mpr ⟨zw612, List.forall_mem_cons.mpr ⟨zw613, List.forall_mem_cons.mpr ⟨zw551, List.forall_mem_cons.mpr ⟨zw614, List.forall_mem_cons.mpr ⟨zw615, List.forall_mem_cons.mpr ⟨zw616, List.forall_mem_cons.mpr ⟨zw551, List.forall_mem_cons.mpr ⟨zw617, List.forall_mem_cons.mpr ⟨zw618, List.forall_mem_cons.mpr ⟨zw619, List.forall_mem_cons.mpr ⟨zw551, List.forall_mem_cons.mpr ⟨zw620, List.forall_mem_cons.mpr ⟨zw621, List.forall_mem_cons.mpr ⟨zw622, List.forall_mem_cons.mpr ⟨zw110, List.forall_mem_cons.mpr ⟨zw623, List.forall_mem_cons.mpr ⟨zw624, List.forall_mem_cons.mpr ⟨zw110, List.forall_mem_cons.mpr ⟨zw625, List.forall_mem_cons.mpr ⟨zw626, List.forall_mem_cons.mpr ⟨zw627, List.forall_mem_cons.mpr ⟨zw110, List.forall_mem_cons.mpr ⟨zw628, List.forall_mem_cons.mpr ⟨zw629, List.forall_mem_cons.mpr ⟨zw630, List.forall_mem_cons.mpr ⟨zw110, List.forall_mem_cons.mpr ⟨zw631, List.forall_mem_cons.mpr ⟨zw632, List.forall_mem_cons.mpr ⟨zw633, List.forall_mem_cons.mpr ⟨zw110, List.forall_mem_cons.mpr ⟨zw634, List.forall_mem_cons.mpr ⟨zw635, List.forall_mem_cons.mpr ⟨zw636, List.forall_mem_cons.mpr ⟨zw110, List.forall_mem_cons.mpr ⟨zw637, List.forall_mem_cons.mpr ⟨zw638, (fun _ h => nomatch h)⟩⟩⟩⟩⟩⟩⟩⟩⟩⟩⟩⟩⟩⟩⟩⟩⟩⟩⟩⟩⟩⟩⟩⟩⟩⟩⟩⟩⟩⟩⟩⟩⟩⟩⟩⟩⟩⟩⟩⟩⟩⟩⟩⟩⟩⟩⟩⟩⟩⟩⟩⟩⟩⟩⟩⟩⟩⟩⟩⟩
theorem zTs12_in : ∀ w ∈ zTs12, w ∈ lw_tbl := List.forall_mem_cons.mpr ⟨zw639, List.forall_mem_cons.mpr ⟨zw110, List.forall_mem_cons.mpr ⟨zw640, List.forall_mem_cons.mpr ⟨zw641, List.forall_mem_cons.mpr ⟨zw642, List.forall_mem_cons.mpr ⟨zw110, List.forall_mem_cons.mpr ⟨zw643, List.forall_mem_cons.mpr ⟨zw644, List.forall_mem_cons.mpr ⟨zw645, List.forall_mem_cons.mpr ⟨zw110, List.forall_mem_cons.mpr ⟨zw646, List.forall_mem_cons.mpr ⟨zw647, List.forall_mem_cons.mpr ⟨zw648, List.forall_mem_cons.mpr ⟨zw110, List.forall_mem_cons.mpr ⟨zw649, List.forall_mem_cons.mpr ⟨zw650, List.forall_mem_cons.mpr ⟨zw651, List.forall_mem_cons.mpr ⟨zw110, List.forall_mem_cons.mpr ⟨zw652, List.forall_mem_cons.mpr ⟨zw653, List.forall_mem_cons.mpr ⟨zw654, List.forall_mem_cons.mpr ⟨zw110, List.forall_mem_cons.mpr ⟨zw655, List.forall_mem_cons.mpr ⟨zw656, List.forall_mem_cons.mpr ⟨zw657, List.forall_mem_cons.mpr ⟨zw110, List.forall_mem_cons.mpr ⟨zw658, List.forall_mem_cons.mpr ⟨zw659, List.forall_mem_cons.mpr ⟨zw660, List.forall_mem_cons.mpr ⟨zw110, List.forall_mem_cons.mpr ⟨zw661, List.forall_mem_cons.mpr ⟨zw662, List.forall_mem_cons.mpr ⟨zw663, List.forall_mem_cons.mpr ⟨zw110, List.forall_mem_cons.mpr ⟨zw664, List.forall_mem_cons.mpr ⟨zw665, List.forall_mem_cons.mpr ⟨zw666, List.forall_mem_cons.mpr ⟨zw110, List.forall_mem_cons.mpr ⟨zw667, List.forall_mem_cons.mpr ⟨zw668, List.forall_mem_cons.mpr ⟨zw669, List.forall_mem_cons.mpr ⟨zw110, List.forall_mem_cons.mpr ⟨zw670, List.forall_mem_cons.mpr ⟨zw671, List.forall_mem_cons.mpr ⟨zw672, List.forall_mem_cons.mpr ⟨zw673, List.forall_mem_cons.mpr ⟨zw674, List.forall_mem_cons.mpr ⟨zw675, List.forall_mem_cons.mpr ⟨zw673, List.forall_mem_cons.mpr ⟨zw676, List.forall_mem_cons.mpr ⟨zw677, List.forall_mem_cons.mpr ⟨zw673, List.forall_mem_cons.mpr ⟨zw678, List.forall_mem_cons.mpr ⟨zw679, List.forall_mem_cons.mpr ⟨zw673, List.forall_mem_cons.mpr ⟨zw680, List.forall_mem_cons.mpr ⟨zw681, List.forall_mem_cons.mpr ⟨zw240, List.forall_mem_cons.mpr ⟨zw682, List.forall_mem_cons.mpr ⟨zw683, (fun _ h => nomatch h)⟩⟩⟩⟩⟩⟩⟩⟩⟩⟩⟩⟩⟩⟩⟩⟩⟩⟩⟩⟩⟩⟩⟩⟩⟩⟩⟩⟩⟩⟩⟩⟩⟩⟩⟩⟩⟩⟩⟩⟩⟩⟩⟩⟩⟩⟩⟩⟩⟩⟩⟩⟩⟩⟩⟩⟩⟩⟩⟩⟩
theorem zTs13_in : ∀ w ∈ zTs13, w ∈ lw_tbl := List.forall_mem_cons.mpr ⟨zw240, List.forall_mem_cons.mpr ⟨zw684, List.forall_mem_cons.mpr ⟨zw685, List.forall_mem_cons.mpr ⟨zw686, List.forall_mem_cons.mpr ⟨zw240, List.forall_mem_cons.mpr ⟨zw687, List.forall_mem_cons.mpr ⟨zw688, List.forall_mem_cons.mpr ⟨zw689, List.forall_mem_cons.mpr ⟨zw240, List.forall_mem_cons.mpr ⟨zw690, List.forall_mem_cons.mpr ⟨zw691, List.forall_mem_cons.mpr ⟨zw692, List.forall_mem_cons.mpr ⟨zw240, List.forall_mem_cons.mpr ⟨zw693, List.forall_mem_cons.mpr ⟨zw694, List.forall_mem_cons.mpr ⟨zw695, List.forall_mem_cons.mpr ⟨zw240, List.forall_mem_cons.mpr ⟨zw696, List.forall_mem_cons.mpr ⟨zw697, List.forall_mem_cons.mpr ⟨zw698, List.forall_mem_cons.mpr ⟨zw376, List.forall_mem_cons.mpr ⟨zw699, List.forall_mem_cons.mpr ⟨zw700, List.forall_mem_cons.mpr ⟨zw376, List.forall_mem_cons.mpr ⟨zw701, List.forall_mem_cons.mpr ⟨zw702, List.forall_mem_cons.mpr ⟨zw703, List.forall_mem_cons.mpr ⟨zw376, List.forall_mem_cons.mpr ⟨zw704, List.forall_mem_cons.mpr ⟨zw705, List.forall_mem_cons.mpr ⟨zw706, List.forall_mem_cons.mpr ⟨zw376, List.forall_mem_cons.mpr ⟨zw707, List.forall_mem_cons.mpr ⟨zw708, List.forall_mem_cons.mpr ⟨zw709, List.forall_mem_cons.mpr ⟨zw376, List.forall_mem_cons.mpr ⟨zw710, List.forall_mem_cons.mpr ⟨zw711, List.forall_mem_cons.mpr ⟨zw712, List.forall_mem_cons.mpr ⟨zw376, List.forall_mem_cons.mpr ⟨zw713, List.forall_mem_cons.mpr ⟨zw714, List.forall_mem_cons.mpr ⟨zw715, List.forall_mem_cons.mpr ⟨zw376, List.forall_mem_cons.mpr ⟨zw716, List.forall_mem_cons.mpr ⟨zw717, List.forall_mem_cons.mpr ⟨zw718, List.forall_mem_cons.mpr ⟨zw376, List.forall_mem_cons.mpr ⟨zw719, List.forall_mem_cons.mpr ⟨zw720, List.forall_mem_cons.mpr ⟨zw721, List.forall_mem_cons.mpr ⟨zw376, List.forall_mem_cons.mpr ⟨zw722, List.forall_mem_cons.mpr ⟨zw723, List.forall_mem_cons.mpr ⟨zw724, List.forall_mem_cons.mpr ⟨zw376, List.forall_mem_cons.mpr ⟨zw725, List.forall_mem_cons.mpr ⟨zw726, List.forall_mem_cons.mpr ⟨zw727, List.forall_mem_cons.mpr ⟨zw376, (fun _ h => nomatch h)⟩⟩⟩⟩⟩⟩⟩⟩⟩⟩⟩⟩⟩⟩⟩⟩⟩⟩⟩⟩⟩⟩⟩⟩⟩⟩⟩⟩⟩⟩⟩⟩⟩⟩⟩⟩⟩⟩⟩⟩⟩⟩⟩⟩⟩⟩⟩⟩⟩⟩⟩⟩⟩⟩⟩⟩⟩⟩⟩⟩
theorem zTs14_in : ∀ w ∈ zTs14, w ∈ lw_tbl := List.forall_mem_cons.mpr ⟨zw728, List.forall_mem_cons.mpr ⟨zw729, List.forall_mem_cons.mpr ⟨zw730, List.forall_mem_cons.mpr ⟨zw126, List.forall_mem_cons.mpr ⟨zw731, List.forall_mem_cons.mpr ⟨zw732, List.forall_mem_cons.mpr ⟨zw126, List.forall_mem_cons.mpr ⟨zw733, List.forall_mem_cons.mpr ⟨zw734, List.forall_mem_cons.mpr ⟨zw735, List.forall_mem_cons.mpr ⟨zw126, List.forall_mem_cons.mpr ⟨zw736, List.forall_mem_cons.mpr ⟨zw737, List.forall_mem_cons.mpr ⟨zw738, List.forall_mem_cons.mpr ⟨zw126, List.forall_mem_cons.mpr ⟨zw739, List.forall_mem_cons.mpr ⟨zw740, List.forall_mem_cons.mpr ⟨zw741, List.forall_mem_cons.mpr ⟨zw126, List.forall_mem_cons.mpr ⟨zw742, List.forall_mem_cons.mpr ⟨zw743, List.forall_mem_cons.mpr ⟨zw744, List.forall_mem_cons.mpr ⟨zw126, List.forall_mem_cons.mpr ⟨zw745, List.forall_mem_cons.mpr ⟨zw746, List.forall_mem_cons.mpr ⟨zw747, List.forall_mem_cons.mpr ⟨zw126, List.forall_mem_cons.mpr ⟨zw748, List.forall_mem_cons.mpr ⟨zw749, List.forall_mem_cons.mpr ⟨zw750, List.forall_mem_cons.mpr ⟨zw126, List.forall_mem_cons.mpr ⟨zw751, List.forall_mem_cons.mpr ⟨zw752, List.forall_mem_cons.mpr ⟨zw753, List.forall_mem_cons.mpr ⟨zw126, List.forall_mem_cons.mpr ⟨zw754, List.forall_mem_cons.mpr ⟨zw755, List.forall_mem_cons.mpr ⟨zw756, List.forall_mem_cons.mpr ⟨zw126, List.forall_mem_cons.mpr ⟨zw757, List.forall_mem_cons.mpr ⟨zw758, List.forall_mem_cons.mpr ⟨zw126, List.forall_mem_cons.mpr ⟨zw759, List.forall_mem_cons.mpr ⟨zw760, List.forall_mem_cons.mpr ⟨zw761, List.forall_mem_cons.mpr ⟨zw130, List.forall_mem_cons.mpr ⟨zw762, List.forall_mem_cons.mpr ⟨zw763, List.forall_mem_cons.mpr ⟨zw130, List.forall_mem_cons.mpr ⟨zw764, List.forall_mem_cons.mpr ⟨zw765, List.forall_mem_cons.mpr ⟨zw766, List.forall_mem_cons.mpr ⟨zw130, List.forall_mem_cons.mpr ⟨zw767, List.forall_mem_cons.mpr ⟨zw768, List.forall_mem_cons.mpr ⟨zw769, List.forall_mem_cons.mpr ⟨zw130, List.forall_mem_cons.mpr ⟨zw770, List.forall_mem_cons.mpr ⟨zw771, List.forall_mem_cons.mpr ⟨zw772, (fun _ h => nomatch h)⟩⟩⟩⟩⟩⟩⟩⟩⟩⟩⟩⟩⟩⟩⟩⟩⟩⟩⟩⟩⟩⟩⟩⟩⟩⟩⟩⟩⟩⟩⟩⟩⟩⟩⟩⟩⟩⟩⟩⟩⟩⟩⟩⟩⟩⟩⟩⟩⟩⟩⟩⟩⟩⟩⟩⟩⟩⟩⟩⟩
theorem zTs15_in : ∀ w ∈ zTs15, w ∈ lw_tbl := List.forall_mem_cons.mpr ⟨zw130, List.forall_mem_cons.mpr ⟨zw773, List.forall_mem_cons.mpr ⟨zw774, List.forall_mem_cons.mpr ⟨zw775, List.forall_mem_cons.mpr ⟨zw130, List.forall_mem_cons.mpr ⟨zw776, List.forall_mem_cons.mpr ⟨zw777, List.forall_mem_cons.mpr ⟨zw778, List.forall_mem_cons.mpr ⟨zw130, List.forall_mem_cons.mpr ⟨zw779, List.forall_mem_cons.mpr ⟨zw780, List.forall_mem_cons.mpr ⟨zw781, List.forall_mem_cons.mpr ⟨zw130, List.forall_mem_cons.mpr ⟨zw782, List.forall_mem_cons.mpr ⟨zw783, List.forall_mem_cons.mpr ⟨zw784, List.forall_mem_cons.mpr ⟨zw130, List.forall_mem_cons.mpr ⟨zw785, List.forall_mem_cons.mpr ⟨zw786, List.forall_mem_cons.mpr ⟨zw787, List.forall_mem_cons.mpr ⟨zw130, List.forall_mem_cons.mpr ⟨zw788, List.forall_mem_cons.mpr ⟨zw789, List.forall_mem_cons.mpr ⟨zw790, List.forall_mem_cons.mpr ⟨zw130, List.forall_mem_cons.mpr ⟨zw791, List.forall_mem_cons.mpr ⟨zw792, List.forall_mem_cons.mpr ⟨zw793, List.forall_mem_cons.mpr ⟨zw130, List.forall_mem_cons.mpr ⟨zw794, List.forall_mem_cons.mpr ⟨zw795, List.forall_mem_cons.mpr ⟨zw796, List.forall_mem_cons.mpr ⟨zw130, List.forall_mem_cons.mpr ⟨zw797, List.forall_mem_cons.mpr ⟨zw798, List.forall_mem_cons.mpr ⟨zw799, List.forall_mem_cons.mpr ⟨zw130, List.forall_mem_cons.mpr ⟨zw800, List.forall_mem_cons.mpr ⟨zw801, List.forall_mem_cons.mpr ⟨zw802, List.forall_mem_cons.mpr ⟨zw130, List.forall_mem_cons.mpr ⟨zw803, List.forall_mem_cons.mpr ⟨zw804, List.forall_mem_cons.mpr ⟨zw805, List.forall_mem_cons.mpr ⟨zw130, List.forall_mem_cons.mpr ⟨zw806, List.forall_mem_cons.mpr ⟨zw807, List.forall_mem_cons.mpr ⟨zw808, List.forall_mem_cons.mpr ⟨zw130, List.forall_mem_cons.mpr ⟨zw809, List.forall_mem_cons.mpr ⟨zw810, List.forall_mem_cons.mpr ⟨zw811, List.forall_mem_cons.mpr ⟨zw130, List.forall_mem_cons.mpr ⟨zw812, List.forall_mem_cons.mpr ⟨zw813, List.forall_mem_cons.mpr ⟨zw814, List.forall_mem_cons.mpr ⟨zw130, List.forall_mem_cons.mpr ⟨zw815, List.forall_mem_cons.mpr ⟨zw816, List.forall_mem_cons.mpr ⟨zw817, (fun _ h => nomatch h)⟩⟩⟩⟩⟩⟩⟩⟩⟩⟩⟩⟩⟩⟩⟩⟩⟩⟩⟩⟩⟩⟩⟩⟩⟩⟩⟩⟩⟩⟩⟩⟩⟩⟩⟩⟩⟩⟩⟩⟩⟩⟩⟩⟩⟩⟩⟩⟩⟩⟩⟩⟩⟩⟩⟩⟩⟩⟩⟩⟩
theorem zTs16_in : ∀ w ∈ zTs16, w ∈ lw_tbl := List.forall_mem_cons.mpr ⟨zw130, List.forall_mem_cons.mpr ⟨zw818, List.forall_mem_cons.mpr ⟨zw819, List.forall_mem_cons.mpr ⟨zw820, List.forall_mem_cons.mpr ⟨zw130, List.forall_mem_cons.mpr ⟨zw821, List.forall_mem_cons.mpr ⟨zw822, List.forall_mem_cons.mpr ⟨zw823, List.forall_mem_cons.mpr ⟨zw130, List.forall_mem_cons.mpr ⟨zw824, List.forall_mem_cons.mpr ⟨zw825, List.forall_mem_cons.mpr ⟨zw826, List.forall_mem_cons.mpr ⟨zw130, List.forall_mem_cons.mpr ⟨zw827, List.forall_mem_cons.mpr ⟨zw828, List.forall_mem_cons.mpr ⟨zw829, List.forall_mem_cons.mpr ⟨zw130, List.forall_mem_cons.mpr ⟨zw830, List.forall_mem_cons.mpr ⟨zw831, List.forall_mem_cons.mpr ⟨zw130, List.forall_mem_cons.mpr ⟨zw832, List.forall_mem_cons.mpr ⟨zw833, List.forall_mem_cons.mpr ⟨zw834, List.forall_mem_cons.mpr ⟨zw130, List.forall_mem_cons.mpr ⟨zw835, List.forall_mem_cons.mpr ⟨zw836, List.forall_mem_cons.mpr ⟨zw130, List.forall_mem_cons.mpr ⟨zw837, List.forall_mem_cons.mpr ⟨zw838, List.forall_mem_cons.mpr ⟨zw839, List.forall_mem_cons.mpr ⟨zw130, List.forall_mem_cons.mpr ⟨zw840, List.forall_mem_cons.mpr ⟨zw841, List.forall_mem_cons.mpr ⟨zw842, List.forall_mem_cons.mpr ⟨zw130, List.forall_mem_cons.mpr ⟨zw843, List.forall_mem_cons.mpr ⟨zw844, List.forall_mem_cons.mpr ⟨zw845, List.forall_mem_cons.mpr ⟨zw130, List.forall_mem_cons.mpr ⟨zw846, List.forall_mem_cons.mpr ⟨zw847, List.forall_mem_cons.mpr ⟨zw848, List.forall_mem_cons.mpr ⟨zw273, List.forall_mem_cons.mpr ⟨zw849, List.forall_mem_cons.mpr ⟨zw850, List.forall_mem_cons.mpr ⟨zw273, List.forall_mem_cons.mpr ⟨zw851, List.forall_mem_cons.mpr ⟨zw852, List.forall_mem_cons.mpr ⟨zw853, List.forall_mem_cons.mpr ⟨zw273, List.forall_mem_cons.mpr ⟨zw854, List.forall_mem_cons.mpr ⟨zw855, List.forall_mem_cons.mpr ⟨zw856, List.forall_mem_cons.mpr ⟨zw273, List.forall_mem_cons.mpr ⟨zw857, List.forall_mem_cons.mpr ⟨zw858, List.forall_mem_cons.mpr ⟨zw859, List.forall_mem_cons.mpr ⟨zw273, List.forall_mem_cons.mpr ⟨zw860, List.forall_mem_cons.mpr ⟨zw861, (fun _ h => nomatch h)⟩⟩⟩⟩⟩⟩⟩⟩⟩⟩⟩⟩⟩⟩⟩⟩⟩⟩⟩⟩⟩⟩⟩⟩⟩⟩⟩⟩⟩⟩⟩⟩⟩⟩⟩⟩⟩⟩⟩⟩⟩⟩⟩⟩⟩⟩⟩⟩⟩⟩⟩⟩⟩⟩⟩⟩⟩⟩⟩⟩
theorem zTs17_in : ∀ w ∈ zTs17, w ∈ lw_tbl := List.forall_mem_cons.mpr ⟨zw273, List.forall_mem_cons.mpr ⟨zw862, List.forall_mem_cons.mpr ⟨zw863, List.forall_mem_cons.mpr ⟨zw864, List.forall_mem_cons.mpr ⟨zw273, List.forall_mem_cons.mpr ⟨zw865, List.forall_mem_cons.mpr ⟨zw866, List.forall_mem_cons.mpr ⟨zw867, List.forall_mem_cons.mpr ⟨zw273, List.forall_mem_cons.mpr ⟨zw868, List.forall_mem_cons.mpr ⟨zw869, List.forall_mem_cons.mpr ⟨zw273, List.forall_mem_cons.mpr ⟨zw870, List.forall_mem_cons.mpr ⟨zw871, List.forall_mem_cons.mpr ⟨zw273, List.forall_mem_cons.mpr ⟨zw872, List.forall_mem_cons.mpr ⟨zw873, List.forall_mem_cons.mpr ⟨zw273, List.forall_mem_cons.mpr ⟨zw874, List.forall_mem_cons.mpr ⟨zw875, List.forall_mem_cons.mpr ⟨zw876, List.forall_mem_cons.mpr ⟨zw273, List.forall_mem_cons.mpr ⟨zw877, List.forall_mem_cons.mpr ⟨zw878, List.forall_mem_cons.mpr ⟨zw879, List.forall_mem_cons.mpr ⟨zw273, List.forall_mem_cons.mpr ⟨zw880, List.forall_mem_cons.mpr ⟨zw881, List.forall_mem_cons.mpr ⟨zw882, List.forall_mem_cons.mpr ⟨zw273, List.forall_mem_cons.mpr ⟨zw883, List.forall_mem_cons.mpr ⟨zw884, List.forall_mem_cons.mpr ⟨zw885, List.forall_mem_cons.mpr ⟨zw273, List.forall_mem_cons.mpr ⟨zw886, List.forall_mem_cons.mpr ⟨zw887, List.forall_mem_cons.mpr ⟨zw888, List.forall_mem_cons.mpr ⟨zw122, List.forall_mem_cons.mpr ⟨zw889, List.forall_mem_cons.mpr ⟨zw890, List.forall_mem_cons.mpr ⟨zw122, List.forall_mem_cons.mpr ⟨zw891, List.forall_mem_cons.mpr ⟨zw892, List.forall_mem_cons.mpr ⟨zw893, List.forall_mem_cons.mpr ⟨zw122, List.forall_mem_cons.mpr ⟨zw894, List.forall_mem_cons.mpr ⟨zw895, List.forall_mem_cons.mpr ⟨zw122, List.forall_mem_cons.mpr ⟨zw896, List.forall_mem_cons.mpr ⟨zw897, List.forall_mem_cons.mpr ⟨zw898, List.forall_mem_cons.mpr ⟨zw122, List.forall_mem_cons.mpr ⟨zw899, List.forall_mem_cons.mpr ⟨zw900, List.forall_mem_cons.mpr ⟨zw901, List.forall_mem_cons.mpr ⟨zw122, List.forall_mem_cons.mpr ⟨zw902, List.forall_mem_cons.mpr ⟨zw903, List.forall_mem_cons.mpr ⟨zw904, List.forall_mem_cons.mpr ⟨zw116, (fun _ h => nomatch h)⟩⟩⟩⟩⟩⟩⟩⟩⟩⟩⟩⟩⟩⟩⟩⟩⟩⟩⟩⟩⟩⟩⟩⟩⟩⟩⟩⟩⟩⟩⟩⟩⟩⟩⟩⟩⟩⟩⟩⟩⟩⟩⟩⟩⟩⟩⟩⟩⟩⟩⟩⟩⟩⟩⟩⟩⟩⟩⟩⟩
theorem zTs18_in : ∀ w ∈ zTs18, w ∈ lw_tbl := List.forall_mem_cons.mpr ⟨zw905, List.forall_mem_cons.mpr ⟨zw906, List.forall_mem_cons.mpr ⟨zw116, List.forall_mem_cons.mpr ⟨zw907, List.forall_mem_cons.mpr ⟨zw908, List.forall_mem_cons.mpr ⟨zw909, List.forall_mem_cons.mpr ⟨zw116, List.forall_mem_cons.mpr ⟨zw910, List.forall_mem_cons.mpr ⟨zw911, List.forall_mem_cons.mpr ⟨zw912, List.forall_mem_cons.mpr ⟨zw116, List.forall_mem_cons.mpr ⟨zw913, List.forall_mem_cons.mpr ⟨zw914, List.forall_mem_cons.mpr ⟨zw915, List.forall_mem_cons.mpr ⟨zw116, List.forall_mem_cons.mpr ⟨zw916, List.forall_mem_cons.mpr ⟨zw917, List.forall_mem_cons.mpr ⟨zw918, List.forall_mem_cons.mpr ⟨zw116, List.forall_mem_cons.mpr ⟨zw919, List.forall_mem_cons.mpr ⟨zw920, List.forall_mem_cons.mpr ⟨zw921, List.forall_mem_cons.mpr ⟨zw116, List.forall_mem_cons.mpr ⟨zw922, List.forall_mem_cons.mpr ⟨zw923, List.forall_mem_cons.mpr ⟨zw924, List.forall_mem_cons.mpr ⟨zw116, List.forall_mem_cons.mpr ⟨zw925, List.forall_mem_cons.mpr ⟨zw926, List.forall_mem_cons.mpr ⟨zw927, List.forall_mem_cons.mpr ⟨zw116, List.forall_mem_cons.mpr ⟨zw928, List.forall_mem_cons.mpr ⟨zw929, List.forall_mem_cons.mpr ⟨zw116, List.forall_mem_cons.mpr ⟨zw930, List.forall_mem_cons.mpr ⟨zw931, List.forall_mem_cons.mpr ⟨zw932, List.forall_mem_cons.mpr ⟨zw116, List.forall_mem_cons.mpr ⟨zw933, List.forall_mem_cons.mpr ⟨zw934, List.forall_mem_cons.mpr ⟨zw280, List.forall_mem_cons.mpr ⟨zw935, List.forall_mem_cons.mpr ⟨zw936, List.forall_mem_cons.mpr ⟨zw280, List.forall_mem_cons.mpr ⟨zw937, List.forall_mem_cons.mpr ⟨zw938, List.forall_mem_cons.mpr ⟨zw939, List.forall_mem_cons.mpr ⟨zw280, List.forall_mem_cons.mpr ⟨zw940, List.forall_mem_cons.mpr ⟨zw941, List.forall_mem_cons.mpr ⟨zw942, List.forall_mem_cons.mpr ⟨zw280, List.forall_mem_cons.mpr ⟨zw943, List.forall_mem_cons.mpr ⟨zw944, List.forall_mem_cons.mpr ⟨zw945, List.forall_mem_cons.mpr ⟨zw280, List.forall_mem_cons.mpr ⟨zw946, List.forall_mem_cons.mpr ⟨zw947, List.forall_mem_cons.mpr ⟨zw948, List.forall_mem_cons.mpr ⟨zw280, (fun _ h => nomatch h)⟩⟩⟩⟩⟩⟩⟩⟩⟩⟩⟩⟩⟩⟩⟩⟩⟩⟩⟩⟩⟩⟩⟩⟩⟩⟩⟩⟩⟩⟩⟩⟩⟩⟩⟩⟩⟩⟩⟩⟩⟩⟩⟩⟩⟩⟩⟩⟩⟩⟩⟩⟩⟩⟩⟩⟩⟩⟩⟩⟩
theorem zTs19_in : ∀ w ∈ zTs19, w ∈ lw_tbl := List.forall_mem_cons.mpr ⟨zw949, List.forall_mem_cons.mpr ⟨zw950, List.forall_mem_cons.mpr ⟨zw951, List.forall_mem_cons.mpr ⟨zw280, List.forall_mem_cons.mpr ⟨zw952, List.forall_mem_cons.mpr ⟨zw953, List.forall_mem_cons.mpr ⟨zw954, List.forall_mem_cons.mpr ⟨zw280, List.forall_mem_cons.mpr ⟨zw955, List.forall_mem_cons.mpr ⟨zw956, List.forall_mem_cons.mpr ⟨zw957, List.forall_mem_cons.mpr ⟨zw280, List.forall_mem_cons.mpr ⟨zw958, List.forall_mem_cons.mpr ⟨zw959, List.forall_mem_cons.mpr ⟨zw960, List.forall_mem_cons.mpr ⟨zw280, List.forall_mem_cons.mpr ⟨zw961, List.forall_mem_cons.mpr ⟨zw962, List.forall_mem_cons.mpr ⟨zw963, List.forall_mem_cons.mpr ⟨zw280, List.forall_mem_cons.mpr ⟨zw964, List.forall_mem_cons.mpr ⟨zw965, List.forall_mem_cons.mpr ⟨zw966, List.forall_mem_cons.mpr ⟨zw280, List.forall_mem_cons.mpr ⟨zw967, List.forall_mem_cons.mpr ⟨zw968, List.forall_mem_cons.mpr ⟨zw969, List.forall_mem_cons.mpr ⟨zw280, List.forall_mem_cons.mpr ⟨zw970, List.forall_mem_cons.mpr ⟨zw971, List.forall_mem_cons.mpr ⟨zw972, List.forall_mem_cons.mpr ⟨zw280, List.forall_mem_cons.mpr ⟨zw973, List.forall_mem_cons.mpr ⟨zw974, List.forall_mem_cons.mpr ⟨zw975, List.forall_mem_cons.mpr ⟨zw280, List.forall_mem_cons.mpr ⟨zw976, List.forall_mem_cons.mpr ⟨zw977, List.forall_mem_cons.mpr ⟨zw978, List.forall_mem_cons.mpr ⟨zw280, List.forall_mem_cons.mpr ⟨zw979, List.forall_mem_cons.mpr ⟨zw980, List.forall_mem_cons.mpr ⟨zw981, List.forall_mem_cons.mpr ⟨zw280, List.forall_mem_cons.mpr ⟨zw982, List.forall_mem_cons.mpr ⟨zw983, List.forall_mem_cons.mpr ⟨zw984, List.forall_mem_cons.mpr ⟨zw280, List.forall_mem_cons.mpr ⟨zw985, List.forall_mem_cons.mpr ⟨zw986, List.forall_mem_cons.mpr ⟨zw987, List.forall_mem_cons.mpr ⟨zw280, List.forall_mem_cons.mpr ⟨zw988, List.forall_mem_cons.mpr ⟨zw989, List.forall_mem_cons.mpr ⟨zw990, List.forall_mem_cons.mpr ⟨zw280, List.forall_mem_cons.mpr ⟨zw991, List.forall_mem_cons.mpr ⟨zw992, List.forall_mem_cons.mpr ⟨zw993, List.forall_mem_cons.mpr ⟨zw280, (fun _ h => nomatch h)⟩⟩⟩⟩⟩⟩⟩⟩⟩⟩⟩⟩⟩⟩⟩⟩⟩⟩⟩⟩⟩⟩⟩⟩⟩⟩⟩⟩⟩⟩⟩⟩⟩⟩⟩⟩⟩⟩⟩⟩⟩⟩⟩⟩⟩⟩⟩⟩⟩⟩⟩⟩⟩⟩⟩⟩⟩⟩⟩⟩
theorem zTs20_in : ∀ w ∈ zTs20, w ∈ lw_tbl := List.forall_mem_cons.mpr ⟨zw994, List.forall_mem_cons.mpr ⟨zw995, List.forall_mem_cons.mpr ⟨zw996, List.forall_mem_cons.mpr ⟨zw280, List.forall_mem_cons.mpr ⟨zw997, List.forall_mem_cons.mpr ⟨zw998, List.forall_mem_cons.mpr ⟨zw999, List.forall_mem_cons.mpr ⟨zw280, List.forall_mem_cons.mpr ⟨zw1000, List.forall_mem_cons.mpr ⟨zw1001, List.forall_mem_cons.mpr ⟨zw1002, List.forall_mem_cons.mpr ⟨zw280, List.forall_mem_cons.mpr ⟨zw1003, List.forall_mem_cons.mpr ⟨zw1004, List.forall_mem_cons.mpr ⟨zw1005, List.forall_mem_cons.mpr ⟨zw1006, List.forall_mem_cons.mpr ⟨zw1007, List.forall_mem_cons.mpr ⟨zw1008, List.forall_mem_cons.mpr ⟨zw1006, List.forall_mem_cons.mpr ⟨zw1009, List.forall_mem_cons.mpr ⟨zw1010, List.forall_mem_cons.mpr ⟨zw1006, List.forall_mem_cons.mpr ⟨zw1011, List.forall_mem_cons.mpr ⟨zw1012, List.forall_mem_cons.mpr ⟨zw1006, List.forall_mem_cons.mpr ⟨zw1013, List.forall_mem_cons.mpr ⟨zw1014, List.forall_mem_cons.mpr ⟨zw1006, List.forall_mem_cons.mpr ⟨zw1015, List.forall_mem_cons.mpr ⟨zw1016, List.forall_mem_cons.mpr ⟨zw1006, List.forall_mem_cons.mpr ⟨zw1017, List.forall_mem_cons.mpr ⟨zw1018, List.forall_mem_cons.mpr ⟨zw1006, List.forall_mem_cons.mpr ⟨zw1019, List.forall_mem_cons.mpr ⟨zw1020, List.forall_mem_cons.mpr ⟨zw1006, List.forall_mem_cons.mpr ⟨zw1021, List.forall_mem_cons.mpr ⟨zw1022, List.forall_mem_cons.mpr ⟨zw1006, List.forall_mem_cons.mpr ⟨zw1023, List.forall_mem_cons.mpr ⟨zw1024, List.forall_mem_cons.mpr ⟨zw1006, List.forall_mem_cons.mpr ⟨zw1025, List.forall_mem_cons.mpr ⟨zw1026, List.forall_mem_cons.mpr ⟨zw1006, List.forall_mem_cons.mpr ⟨zw1027, List.forall_mem_cons.mpr ⟨zw1028, List.forall_mem_cons.mpr ⟨zw1006, List.forall_mem_cons.mpr ⟨zw1029, List.forall_mem_cons.mpr ⟨zw1030, List.forall_mem_cons.mpr ⟨zw1006, List.forall_mem_cons.mpr ⟨zw1031, List.forall_mem_cons.mpr ⟨zw1032, List.forall_mem_cons.mpr ⟨zw1006, List.forall_mem_cons.mpr ⟨zw1033, List.forall_mem_cons.mpr ⟨zw1034, List.forall_mem_cons.mpr ⟨zw1006, List.forall_mem_cons.mpr ⟨zw1035, List.forall_mem_cons.mpr ⟨zw1036, (fun _ h => nomatch h)⟩⟩⟩⟩⟩⟩⟩⟩⟩⟩⟩⟩⟩⟩⟩⟩⟩⟩⟩⟩⟩⟩⟩⟩⟩⟩⟩⟩⟩⟩⟩⟩⟩⟩⟩⟩⟩⟩⟩⟩⟩⟩⟩⟩⟩⟩⟩⟩⟩⟩⟩⟩⟩⟩⟩⟩⟩⟩⟩⟩
theorem zTs21_in : ∀ w ∈ zTs21, w ∈ lw_tbl := List.forall_mem_cons.mpr ⟨zw1006, List.forall_mem_cons.mpr ⟨zw1037, List.forall_mem_cons.mpr ⟨zw1038, List.forall_mem_cons.mpr ⟨zw1006, List.forall_mem_cons.mpr ⟨zw1039, List.forall_mem_cons.mpr ⟨zw1040, List.forall_mem_cons.mpr ⟨zw1006, List.forall_mem_cons.mpr ⟨zw1041, List.forall_mem_cons.mpr ⟨zw1042, List.forall_mem_cons.mpr ⟨zw1043, List.forall_mem_cons.mpr ⟨zw1044, List.forall_mem_cons.mpr ⟨zw1045, List.forall_mem_cons.mpr ⟨zw1043, List.forall_mem_cons.mpr ⟨zw1046, List.forall_mem_cons.mpr ⟨zw1047, List.forall_mem_cons.mpr ⟨zw1048, List.forall_mem_cons.mpr ⟨zw1043, List.forall_mem_cons.mpr ⟨zw1049, List.forall_mem_cons.mpr ⟨zw1050, List.forall_mem_cons.mpr ⟨zw1051, List.forall_mem_cons.mpr ⟨zw1043, List.forall_mem_cons.mpr ⟨zw1052, List.forall_mem_cons.mpr ⟨zw1053, List.forall_mem_cons.mpr ⟨zw1043, List.forall_mem_cons.mpr ⟨zw1054, List.forall_mem_cons.mpr ⟨zw1055, List.forall_mem_cons.mpr ⟨zw1043, List.forall_mem_cons.mpr ⟨zw1056, List.forall_mem_cons.mpr ⟨zw1057, List.forall_mem_cons.mpr ⟨zw1058, List.forall_mem_cons.mpr ⟨zw1043, List.forall_mem_cons.mpr ⟨zw1059, List.forall_mem_cons.mpr ⟨zw1060, List.forall_mem_cons.mpr ⟨zw1061, List.forall_mem_cons.mpr ⟨zw1043, List.forall_mem_cons.mpr ⟨zw1062, List.forall_mem_cons.mpr ⟨zw1063, List.forall_mem_cons.mpr ⟨zw1064, List.forall_mem_cons.mpr ⟨zw1043, List.forall_mem_cons.mpr ⟨zw1065, List.forall_mem_cons.mpr ⟨zw1066, List.forall_mem_cons.mpr ⟨zw1067, List.forall_mem_cons.mpr ⟨zw1043, List.forall_mem_cons.mpr ⟨zw1068, List.forall_mem_cons.mpr ⟨zw1069, List.forall_mem_cons.mpr ⟨zw1070, List.forall_mem_cons.mpr ⟨zw1043, List.forall_mem_cons.mpr ⟨zw1071, List.forall_mem_cons.mpr ⟨zw1072, List.forall_mem_cons.mpr ⟨zw1073, List.forall_mem_cons.mpr ⟨zw1043, List.forall_mem_cons.mpr ⟨zw1074, List.forall_mem_cons.mpr ⟨zw1075, List.forall_mem_cons.mpr ⟨zw1076, List.forall_mem_cons.mpr ⟨zw1043, List.forall_mem_cons.mpr ⟨zw1077, List.forall_mem_cons.mpr ⟨zw1078, List.forall_mem_cons.mpr ⟨zw1079, List.forall_mem_cons.mpr ⟨zw1043, List.forall_mem_cons.mpr ⟨zw1080, (fun _ h => nomatch h)⟩⟩⟩⟩⟩⟩⟩⟩⟩⟩⟩⟩⟩⟩⟩⟩⟩⟩⟩⟩⟩⟩⟩⟩⟩⟩⟩⟩⟩⟩⟩⟩⟩⟩⟩⟩⟩⟩⟩⟩⟩⟩⟩⟩⟩⟩⟩⟩⟩⟩⟩⟩⟩⟩⟩⟩⟩⟩⟩⟩
theorem zTs22_in : ∀ w ∈ zTs22, w ∈ lw_tbl := List.forall_mem_cons.mpr ⟨zw1081, List.forall_mem_cons.mpr ⟨zw1082, List.forall_mem_cons.mpr ⟨zw1043, List.forall_mem_cons.mpr ⟨zw1083, List.forall_mem_cons.mpr ⟨zw1084, List.forall_mem_cons.mpr ⟨zw1085, List.forall_mem_cons.mpr ⟨zw1043, List.forall_mem_cons.mpr ⟨zw1086, List.forall_mem_cons.mpr ⟨zw1087, List.forall_mem_cons.mpr ⟨zw1088, List.forall_mem_cons.mpr ⟨zw1043, List.forall_mem_cons.mpr ⟨zw1089, List.forall_mem_cons.mpr ⟨zw1090, List.forall_mem_cons.mpr ⟨zw1091, List.forall_mem_cons.mpr ⟨zw1043, List.forall_mem_cons.mpr ⟨zw1092, List.forall_mem_cons.mpr ⟨zw1093, List.forall_mem_cons.mpr ⟨zw1094, List.forall_mem_cons.mpr ⟨zw1043, List.forall_mem_cons.mpr ⟨zw1095, List.forall_mem_cons.mpr ⟨zw1096, List.forall_mem_cons.mpr ⟨zw1097, List.forall_mem_cons.mpr ⟨zw1043, List.forall_mem_cons.mpr ⟨zw1098, List.forall_mem_cons.mpr ⟨zw1099, List.forall_mem_cons.mpr ⟨zw1100, List.forall_mem_cons.mpr ⟨zw1043, List.forall_mem_cons.mpr ⟨zw1101, List.forall_mem_cons.mpr ⟨zw1102, List.forall_mem_cons.mpr ⟨zw1103, List.forall_mem_cons.mpr ⟨zw1043, List.forall_mem_cons.mpr ⟨zw1104, List.forall_mem_cons.mpr ⟨zw1105, List.forall_mem_cons.mpr ⟨zw1106, List.forall_mem_cons.mpr ⟨zw1043, List.forall_mem_cons.mpr ⟨zw1107, List.forall_mem_cons.mpr ⟨zw1108, List.forall_mem_cons.mpr ⟨zw1109, List.forall_mem_cons.mpr ⟨zw1043, List.forall_mem_cons.mpr ⟨zw1110, List.forall_mem_cons.mpr ⟨zw1111, List.forall_mem_cons.mpr ⟨zw1112, List.forall_mem_cons.mpr ⟨zw1043, List.forall_mem_cons.mpr ⟨zw1113, List.forall_mem_cons.mpr ⟨zw1114, List.forall_mem_cons.mpr ⟨zw1115, List.forall_mem_cons.mpr ⟨zw1043, List.forall_mem_cons.mpr ⟨zw1116, List.forall_mem_cons.mpr ⟨zw1117, List.forall_mem_cons.mpr ⟨zw1118, List.forall_mem_cons.mpr ⟨zw1043, List.forall_mem_cons.mpr ⟨zw1119, List.forall_mem_cons.mpr ⟨zw1120, List.forall_mem_cons.mpr ⟨zw1121, List.forall_mem_cons.mpr ⟨zw1043, List.forall_mem_cons.mpr ⟨zw1122, List.forall_mem_cons.mpr ⟨zw1123, List.forall_mem_cons.mpr ⟨zw1124, List.forall_mem_cons.mpr ⟨zw1043, List.forall_mem_cons.mpr ⟨zw1125, (fun _ h => nomatch h)⟩⟩⟩⟩⟩⟩⟩⟩⟩⟩⟩⟩⟩⟩⟩⟩⟩⟩⟩⟩⟩⟩⟩⟩⟩⟩⟩⟩⟩⟩⟩⟩⟩⟩⟩⟩⟩⟩⟩⟩⟩⟩⟩⟩⟩⟩⟩⟩⟩⟩⟩⟩⟩⟩⟩⟩⟩⟩⟩⟩
theorem zTs23_in : ∀ w ∈ zTs23, w ∈ lw_tbl := List.forall_mem_cons.mpr ⟨zw1126, List.forall_mem_cons.mpr ⟨zw1127, List.forall_mem_cons.mpr ⟨zw1043, List.forall_mem_cons.mpr ⟨zw1128, List.forall_mem_cons.mpr ⟨zw1129, List.forall_mem_cons.mpr ⟨zw1043, List.forall_mem_cons.mpr ⟨zw1130, List.forall_mem_cons.mpr ⟨zw1131, List.forall_mem_cons.mpr ⟨zw1132, List.forall_mem_cons.mpr ⟨zw1043, List.forall_mem_cons.mpr ⟨zw1133, List.forall_mem_cons.mpr ⟨zw1134, List.forall_mem_cons.mpr ⟨zw1135, List.forall_mem_cons.mpr ⟨zw1043, List.forall_mem_cons.mpr ⟨zw1136, List.forall_mem_cons.mpr ⟨zw1137, List.forall_mem_cons.mpr ⟨zw1138, List.forall_mem_cons.mpr ⟨zw1043, List.forall_mem_cons.mpr ⟨zw1139, List.forall_mem_cons.mpr ⟨zw1140, List.forall_mem_cons.mpr ⟨zw1141, List.forall_mem_cons.mpr ⟨zw1043, List.forall_mem_cons.mpr ⟨zw1142, List.forall_mem_cons.mpr ⟨zw1143, List.forall_mem_cons.mpr ⟨zw1144, List.forall_mem_cons.mpr ⟨zw1043, List.forall_mem_cons.mpr ⟨zw1145, List.forall_mem_cons.mpr ⟨zw1146, List.forall_mem_cons.mpr ⟨zw1147, List.forall_mem_cons.mpr ⟨zw1043, List.forall_mem_cons.mpr ⟨zw1148, List.forall_mem_cons.mpr ⟨zw1149, List.forall_mem_cons.mpr ⟨zw1150, List.forall_mem_cons.mpr ⟨zw1043, List.forall_mem_cons.mpr ⟨zw1151, List.forall_mem_cons.mpr ⟨zw1152, List.forall_mem_cons.mpr ⟨zw1153, List.forall_mem_cons.mpr ⟨zw1043, List.forall_mem_cons.mpr ⟨zw1154, List.forall_mem_cons.mpr ⟨zw1155, List.forall_mem_cons.mpr ⟨zw1156, List.forall_mem_cons.mpr ⟨zw1043, List.forall_mem_cons.mpr ⟨zw1157, List.forall_mem_cons.mpr ⟨zw1158, List.forall_mem_cons.mpr ⟨zw1159, List.forall_mem_cons.mpr ⟨zw1043, List.forall_mem_cons.mpr ⟨zw1160, List.forall_mem_cons.mpr ⟨zw1161, List.forall_mem_cons.mpr ⟨zw1162, List.forall_mem_cons.mpr ⟨zw1043, List.forall_mem_cons.mpr ⟨zw1163, List.forall_mem_cons.mpr ⟨zw1164, List.forall_mem_cons.mpr ⟨zw1165, List.forall_mem_cons.mpr ⟨zw1043, List.forall_mem_cons.mpr ⟨zw1166, List.forall_mem_cons.mpr ⟨zw1167, List.forall_mem_cons.mpr ⟨zw1168, List.forall_mem_cons.mpr ⟨zw1043, List.forall_mem_cons.mpr ⟨zw1169, List.forall_mem_cons.mpr ⟨zw1170, (fun _ h => nomatch h)⟩⟩⟩⟩⟩⟩⟩⟩⟩⟩⟩⟩⟩⟩⟩⟩⟩⟩⟩⟩⟩⟩⟩⟩⟩⟩⟩⟩⟩⟩⟩⟩⟩⟩⟩⟩⟩⟩⟩⟩⟩⟩⟩⟩⟩⟩⟩⟩⟩⟩⟩⟩⟩⟩⟩⟩⟩⟩⟩⟩
theorem zTs24_in : ∀ w ∈ zTs24, w ∈ lw_tbl := List.forall_mem_cons.mpr ⟨zw1171, List.forall_mem_cons.mpr ⟨zw1043, List.forall_mem_cons.mpr ⟨zw1172, List.forall_mem_cons.mpr ⟨zw1173, List.forall_mem_cons.mpr ⟨zw1043, List.forall_mem_cons.mpr ⟨zw1174, List.forall_mem_cons.mpr ⟨zw1175, List.forall_mem_cons.mpr ⟨zw1043, List.forall_mem_cons.mpr ⟨zw1176, List.forall_mem_cons.mpr ⟨zw1177, List.forall_mem_cons.mpr ⟨zw1178, List.forall_mem_cons.mpr ⟨zw1043, List.forall_mem_cons.mpr ⟨zw1179, List.forall_mem_cons.mpr ⟨zw1180, List.forall_mem_cons.mpr ⟨zw1181, List.forall_mem_cons.mpr ⟨zw1043, List.forall_mem_cons.mpr ⟨zw1182, List.forall_mem_cons.mpr ⟨zw1183, List.forall_mem_cons.mpr ⟨zw1184, List.forall_mem_cons.mpr ⟨zw1043, List.forall_mem_cons.mpr ⟨zw1185, List.forall_mem_cons.mpr ⟨zw1186, List.forall_mem_cons.mpr ⟨zw1187, List.forall_mem_cons.mpr ⟨zw1043, List.forall_mem_cons.mpr ⟨zw1188, List.forall_mem_cons.mpr ⟨zw1189, List.forall_mem_cons.mpr ⟨zw1190, List.forall_mem_cons.mpr ⟨zw1043, List.forall_mem_cons.mpr ⟨zw1191, List.forall_mem_cons.mpr ⟨zw1192, List.forall_mem_cons.mpr ⟨zw1043, List.forall_mem_cons.mpr ⟨zw1193, List.forall_mem_cons.mpr ⟨zw1194, List.forall_mem_cons.mpr ⟨zw1195, List.forall_mem_cons.mpr ⟨zw1043, List.forall_mem_cons.mpr ⟨zw1196, List.forall_mem_cons.mpr ⟨zw1197, List.forall_mem_cons.mpr ⟨zw1198, List.forall_mem_cons.mpr ⟨zw1043, List.forall_mem_cons.mpr ⟨zw1199, List.forall_mem_cons.mpr ⟨zw1200, List.forall_mem_cons.mpr ⟨zw1201, List.forall_mem_cons.mpr ⟨zw1043, List.forall_mem_cons.mpr ⟨zw1202, List.forall_mem_cons.mpr ⟨zw1203, List.forall_mem_cons.mpr ⟨zw1204, List.forall_mem_cons.mpr ⟨zw1043, List.forall_mem_cons.mpr ⟨zw1205, List.forall_mem_cons.mpr ⟨zw1206, List.forall_mem_cons.mpr ⟨zw1207, List.forall_mem_cons.mpr ⟨zw1043, List.forall_mem_cons.mpr ⟨zw1208, List.forall_mem_cons.mpr ⟨zw1209, List.forall_mem_cons.mpr ⟨zw1210, List.forall_mem_cons.mpr ⟨zw1043, List.forall_mem_cons.mpr ⟨zw1211, List.forall_mem_cons.mpr ⟨zw1212, List.forall_mem_cons.mpr ⟨zw1213, List.forall_mem_cons.mpr ⟨zw1043, List.forall_mem_cons.mpr ⟨zw1214, (fun _ h => nomatch h)⟩⟩⟩⟩⟩⟩⟩⟩⟩⟩⟩⟩⟩⟩⟩⟩⟩⟩⟩⟩⟩⟩⟩⟩⟩⟩⟩⟩⟩⟩⟩⟩⟩⟩⟩⟩⟩⟩⟩⟩⟩⟩⟩⟩⟩⟩⟩⟩⟩⟩⟩⟩⟩⟩⟩⟩⟩⟩⟩⟩
theorem zTs25_in : ∀ w ∈ zTs25, w ∈ lw_tbl := List.forall_mem_cons.mpr ⟨zw1215, List.forall_mem_cons.mpr ⟨zw1216, List.forall_mem_cons.mpr ⟨zw1043, List.forall_mem_cons.mpr ⟨zw1217, List.forall_mem_cons.mpr ⟨zw1218, List.forall_mem_cons.mpr ⟨zw1219, List.forall_mem_cons.mpr ⟨zw1043, List.forall_mem_cons.mpr ⟨zw1220, List.forall_mem_cons.mpr ⟨zw1221, List.forall_mem_cons.mpr ⟨zw1222, List.forall_mem_cons.mpr ⟨zw1043, List.forall_mem_cons.mpr ⟨zw1223, List.forall_mem_cons.mpr ⟨zw1224, List.forall_mem_cons.mpr ⟨zw1225, List.forall_mem_cons.mpr ⟨zw1043, List.forall_mem_cons.mpr ⟨zw1226, List.forall_mem_cons.mpr ⟨zw1227, List.forall_mem_cons.mpr ⟨zw1228, List.forall_mem_cons.mpr ⟨zw1043, List.forall_mem_cons.mpr ⟨zw1229, List.forall_mem_cons.mpr ⟨zw1230, List.forall_mem_cons.mpr ⟨zw1231, List.forall_mem_cons.mpr ⟨zw1043, List.forall_mem_cons.mpr ⟨zw1232, List.forall_mem_cons.mpr ⟨zw1233, List.forall_mem_cons.mpr ⟨zw1234, List.forall_mem_cons.mpr ⟨zw1043, List.forall_mem_cons.mpr ⟨zw1235, List.forall_mem_cons.mpr ⟨zw1236, List.forall_mem_cons.mpr ⟨zw1237, List.forall_mem_cons.mpr ⟨zw1043, List.forall_mem_cons.mpr ⟨zw1238, List.forall_mem_cons.mpr ⟨zw1239, List.forall_mem_cons.mpr ⟨zw1240, List.forall_mem_cons.mpr ⟨zw1043, List.forall_mem_cons.mpr ⟨zw1241, List.forall_mem_cons.mpr ⟨zw1242, List.forall_mem_cons.mpr ⟨zw1243, List.forall_mem_cons.mpr ⟨zw1043, List.forall_mem_cons.mpr ⟨zw1244, List.forall_mem_cons.mpr ⟨zw1245, List.forall_mem_cons.mpr ⟨zw1246, List.forall_mem_cons.mpr ⟨zw1043, List.forall_mem_cons.mpr ⟨zw1247, List.forall_mem_cons.mpr ⟨zw1248, List.forall_mem_cons.mpr ⟨zw1249, List.forall_mem_cons.mpr ⟨zw1043, List.forall_mem_cons.mpr ⟨zw1250, List.forall_mem_cons.mpr ⟨zw1251, List.forall_mem_cons.mpr ⟨zw1252, List.forall_mem_cons.mpr ⟨zw1043, List.forall_mem_cons.mpr ⟨zw1253, List.forall_mem_cons.mpr ⟨zw1254, List.forall_mem_cons.mpr ⟨zw1255, List.forall_mem_cons.mpr ⟨zw1043, List.forall_mem_cons.mpr ⟨zw1256, List.forall_mem_cons.mpr ⟨zw1257, List.forall_mem_cons.mpr ⟨zw1258, List.forall_mem_cons.mpr ⟨zw1043, List.forall_mem_cons.mpr ⟨zw1259, (fun _ h => nomatch h)⟩⟩⟩⟩⟩⟩⟩⟩⟩⟩⟩⟩⟩⟩⟩⟩⟩⟩⟩⟩⟩⟩⟩⟩⟩⟩⟩⟩⟩⟩⟩⟩⟩⟩⟩⟩⟩⟩⟩⟩⟩⟩⟩⟩⟩⟩⟩⟩⟩⟩⟩⟩⟩⟩⟩⟩⟩⟩⟩⟩
theorem zTs26_in : ∀ w ∈ zTs26, w ∈ lw_tbl := List.forall_mem_cons.mpr ⟨zw1260, List.forall_mem_cons.mpr ⟨zw1261, List.forall_mem_cons.mpr ⟨zw1043, List.forall_mem_cons.mpr ⟨zw1262, List.forall_mem_cons.mpr ⟨zw1263, List.forall_mem_cons.mpr ⟨zw1264, List.forall_mem_cons.mpr ⟨zw1043, List.forall_mem_cons.mpr ⟨zw1265, List.forall_mem_cons.mpr ⟨zw1266, List.forall_mem_cons.mpr ⟨zw1267, List.forall_mem_cons.mpr ⟨zw1043, List.forall_mem_cons.mpr ⟨zw1268, List.forall_mem_cons.mpr ⟨zw1269, List.forall_mem_cons.mpr ⟨zw1270, List.forall_mem_cons.mpr ⟨zw1043, List.forall_mem_cons.mpr ⟨zw1271, List.forall_mem_cons.mpr ⟨zw1272, List.forall_mem_cons.mpr ⟨zw1273, List.forall_mem_cons.mpr ⟨zw1043, List.forall_mem_cons.mpr ⟨zw1274, List.forall_mem_cons.mpr ⟨zw1275, List.forall_mem_cons.mpr ⟨zw1276, List.forall_mem_cons.mpr ⟨zw1277, List.forall_mem_cons.mpr ⟨zw1278, (fun _ h => nomatch h)⟩⟩⟩⟩⟩⟩⟩⟩⟩⟩⟩⟩⟩⟩⟩⟩⟩⟩⟩⟩⟩⟩⟩⟩
theorem zBs_in : ∀ w ∈ zBs, w ∈ lw_tbl := List.forall_mem_cons.mpr ⟨zw1279, List.forall_mem_cons.mpr ⟨zw1280, List.forall_mem_cons.mpr ⟨zw1281, List.forall_mem_cons.mpr ⟨zw1282, List.forall_mem_cons.mpr ⟨zw1283, List.forall_mem_cons.mpr ⟨zw1284, List.forall_mem_cons.mpr ⟨zw1285, List.forall_mem_cons.mpr ⟨zw1286, List.forall_mem_cons.mpr ⟨zw1287, List.forall_mem_cons.mpr ⟨zw1288, List.forall_mem_cons.mpr ⟨zw1289, List.forall_mem_cons.mpr ⟨zw1290, List.forall_mem_cons.mpr ⟨zw1291, List.forall_mem_cons.mpr ⟨zw1292, List.forall_mem_cons.mpr ⟨zw1293, List.forall_mem_cons.mpr ⟨zw1294, (fun _ h => nomatch h)⟩⟩⟩⟩⟩⟩⟩⟩⟩⟩⟩⟩⟩⟩⟩⟩
theorem zTs_in : ∀ w ∈ zTs, w ∈ lw_tbl := fun w h0x => (List.mem_append.mp h0x).elim (fun h0 => zTs0_in w h0) (fun h1x => (List.mem_append.mp h1x).elim (fun h1 => zTs1_in w h1) (fun h2x => (List.mem_append.mp h2x).elim (fun h2 => zTs2_in w h2) (fun h3x => (List.mem_append.mp h3x).elim (fun h3 => zTs3_in w h3) (fun h4x => (List.mem_append.mp h4x).elim (fun h4 => zTs4_in w h4) (fun h5x => (List.mem_append.mp h5x).elim (fun h5 => zTs5_in w h5) (fun h6x => (List.mem_append.mp h6x).elim (fun h6 => zTs6_in w h6) (fun h7x => (List.mem_append.mp h7x).elim (fun h7 => zTs7_in w h7) (fun h8x => (List.mem_append.mp h8x).elim (fun h8 => zTs8_in w h8) (fun h9x => (List.mem_append.mp h9x).elim (fun h9 => zTs9_in w h9) (fun h10x => (List.mem_append.mp h10x).elim (fun h10 => zTs10_in w h10) (fun h11x => (List.mem_append.mp h11x).elim (fun h11 => zTs11_in w h11) (fun h12x => (List.mem_append.mp h12x).elim (fun h12 => zTs12_in w h12) (fun h13x => (List.mem_append.mp h13x).elim (fun h13 => zTs13_in w h13) (fun h14x => (List.mem_append.mp h14x).elim (fun h14 => zTs14_in w h14) (fun h15x => (List.mem_append.mp h15x).elim (fun h15 => zTs15_in w h15) (fun h16x => (List.mem_append.mp h16x).elim (fun h16 => zTs16_in w h16) (fun h17x => (List.mem_append.mp h17x).elim (fun h17 => zTs17_in w h17) (fun h18x => (List.mem_append.mp h18x).elim (fun h18 => zTs18_in w h18) (fun h19x => (List.mem_append.mp h19x).elim (fun h19 => zTs19_in w h19) (fun h20x => (List.mem_append.mp h20x).elim (fun h20 => zTs20_in w h20) (fun h21x => (List.mem_append.mp h21x).elim (fun h21 => zTs21_in w h21) (fun h22x => (List.mem_append.mp h22x).elim (fun h22 => zTs22_in w h22) (fun h23x => (List.mem_append.mp h23x).elim (fun h23 => zTs23_in w h23) (fun h24x => (List.mem_append.mp h24x).elim (fun h24 => zTs24_in w h24) (fun h25x => (List.mem_append.mp h25x).elim (fun h25 => zTs25_in w h25) (fun h26 => zTs26_in w h26))))))))))))))))))))))))))
theorem zTs_good : zTs.all goodWord = true := by decide +kernel
theorem zBs_ok : ∀ w ∈ zBs, xBw w = true := by decide +kernel
end

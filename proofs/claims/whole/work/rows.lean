section
-- ===== PART A: goes FIRST, ahead of the names: the tables' words, and 'selects' of the private methods out of them =====
/-- a private method of a class that the tables say can be made, by its rows of tables_1 -/
def lw_okq (q : MethodName × Nat) : Prop := (q.1.cls ≠ "java/lang/invoke/MethodHandle" ∧ q.1.cls ≠ "java/lang/invoke/VarHandle") ∧ Cond.instantiable q.1.cls q.2 ∈ tables_1 ∧ Cond.privateMethod q.1 ∈ tables_1 ∧ Cond.instanceMethod q.1 ∈ tables_1
theorem lw_p0 : lw_okq (⟨"QuestionReader$Condition", "clearLine", "()V"⟩, 12) := ⟨⟨by decide +kernel, by decide +kernel⟩, List.mem_of_getElem? (i := 221) (by decide +kernel), List.mem_of_getElem? (i := 383) (by decide +kernel), List.mem_of_getElem? (i := 384) (by decide +kernel)⟩
theorem lw_p1 : lw_okq (⟨"QuestionReader$Lexer", "skipBlanks", "()V"⟩, 9) := ⟨⟨by decide +kernel, by decide +kernel⟩, List.mem_of_getElem? (i := 54) (by decide +kernel), List.mem_of_getElem? (i := 391) (by decide +kernel), List.mem_of_getElem? (i := 392) (by decide +kernel)⟩
theorem lw_p2 : lw_okq (⟨"QuestionReader$Lexer", "scanWord", "()J"⟩, 9) := ⟨⟨by decide +kernel, by decide +kernel⟩, List.mem_of_getElem? (i := 54) (by decide +kernel), List.mem_of_getElem? (i := 398) (by decide +kernel), List.mem_of_getElem? (i := 399) (by decide +kernel)⟩
theorem lw_p3 : lw_okq (⟨"QuestionReader$Lexer", "isDigit", "(I)Z"⟩, 9) := ⟨⟨by decide +kernel, by decide +kernel⟩, List.mem_of_getElem? (i := 54) (by decide +kernel), List.mem_of_getElem? (i := 411) (by decide +kernel), List.mem_of_getElem? (i := 412) (by decide +kernel)⟩
theorem lw_p4 : lw_okq (⟨"QuestionReader$Lexer", "scanNumber", "()J"⟩, 9) := ⟨⟨by decide +kernel, by decide +kernel⟩, List.mem_of_getElem? (i := 54) (by decide +kernel), List.mem_of_getElem? (i := 415) (by decide +kernel), List.mem_of_getElem? (i := 416) (by decide +kernel)⟩
theorem lw_p5 : lw_okq (⟨"QuestionReader$Lexer", "scanSign", "()J"⟩, 9) := ⟨⟨by decide +kernel, by decide +kernel⟩, List.mem_of_getElem? (i := 54) (by decide +kernel), List.mem_of_getElem? (i := 425) (by decide +kernel), List.mem_of_getElem? (i := 426) (by decide +kernel)⟩
theorem lw_p6 : lw_okq (⟨"QuestionReader$QuestionGrammar", "readItems", "()Z"⟩, 5) := ⟨⟨by decide +kernel, by decide +kernel⟩, List.mem_of_getElem? (i := 209) (by decide +kernel), List.mem_of_getElem? (i := 448) (by decide +kernel), List.mem_of_getElem? (i := 449) (by decide +kernel)⟩
theorem lw_p7 : lw_okq (⟨"QuestionReader$QuestionGrammar", "readItem", "()Z"⟩, 5) := ⟨⟨by decide +kernel, by decide +kernel⟩, List.mem_of_getElem? (i := 209) (by decide +kernel), List.mem_of_getElem? (i := 453) (by decide +kernel), List.mem_of_getElem? (i := 454) (by decide +kernel)⟩
theorem lw_p8 : lw_okq (⟨"QuestionReader$QuestionGrammar", "readColumn", "(Z)I"⟩, 5) := ⟨⟨by decide +kernel, by decide +kernel⟩, List.mem_of_getElem? (i := 209) (by decide +kernel), List.mem_of_getElem? (i := 470) (by decide +kernel), List.mem_of_getElem? (i := 471) (by decide +kernel)⟩
theorem lw_p9 : lw_okq (⟨"QuestionReader$Names", "isSame", "(ILQuestionReader$Lexer;)Z"⟩, 2) := ⟨⟨by decide +kernel, by decide +kernel⟩, List.mem_of_getElem? (i := 108) (by decide +kernel), List.mem_of_getElem? (i := 486) (by decide +kernel), List.mem_of_getElem? (i := 487) (by decide +kernel)⟩
theorem lw_p10 : lw_okq (⟨"QuestionReader$QuestionGrammar", "readSummed", "(I)I"⟩, 5) := ⟨⟨by decide +kernel, by decide +kernel⟩, List.mem_of_getElem? (i := 209) (by decide +kernel), List.mem_of_getElem? (i := 507) (by decide +kernel), List.mem_of_getElem? (i := 508) (by decide +kernel)⟩
theorem lw_p11 : lw_okq (⟨"QuestionReader$QuestionGrammar", "readWhere", "()Z"⟩, 5) := ⟨⟨by decide +kernel, by decide +kernel⟩, List.mem_of_getElem? (i := 209) (by decide +kernel), List.mem_of_getElem? (i := 524) (by decide +kernel), List.mem_of_getElem? (i := 525) (by decide +kernel)⟩
theorem lw_p12 : lw_okq (⟨"QuestionReader$QuestionGrammar", "readComparison", "(LQuestionReader$Condition;)Z"⟩, 5) := ⟨⟨by decide +kernel, by decide +kernel⟩, List.mem_of_getElem? (i := 209) (by decide +kernel), List.mem_of_getElem? (i := 539) (by decide +kernel), List.mem_of_getElem? (i := 540) (by decide +kernel)⟩
theorem lw_p13 : lw_okq (⟨"QuestionReader$QuestionGrammar", "readList", "(LQuestionReader$Comparison;)Z"⟩, 5) := ⟨⟨by decide +kernel, by decide +kernel⟩, List.mem_of_getElem? (i := 209) (by decide +kernel), List.mem_of_getElem? (i := 557) (by decide +kernel), List.mem_of_getElem? (i := 558) (by decide +kernel)⟩
theorem lw_p14 : lw_okq (⟨"QuestionReader$QuestionGrammar", "readBetween", "(LQuestionReader$Comparison;)Z"⟩, 5) := ⟨⟨by decide +kernel, by decide +kernel⟩, List.mem_of_getElem? (i := 209) (by decide +kernel), List.mem_of_getElem? (i := 568) (by decide +kernel), List.mem_of_getElem? (i := 569) (by decide +kernel)⟩
theorem lw_p15 : lw_okq (⟨"QuestionReader$QuestionGrammar", "readRelation", "(LQuestionReader$Comparison;)Z"⟩, 5) := ⟨⟨by decide +kernel, by decide +kernel⟩, List.mem_of_getElem? (i := 209) (by decide +kernel), List.mem_of_getElem? (i := 578) (by decide +kernel), List.mem_of_getElem? (i := 579) (by decide +kernel)⟩
def lw_privs_1 : List (MethodName × Nat) := [(⟨"QuestionReader$Condition", "clearLine", "()V"⟩, 12), (⟨"QuestionReader$Lexer", "skipBlanks", "()V"⟩, 9), (⟨"QuestionReader$Lexer", "scanWord", "()J"⟩, 9), (⟨"QuestionReader$Lexer", "isDigit", "(I)Z"⟩, 9), (⟨"QuestionReader$Lexer", "scanNumber", "()J"⟩, 9), (⟨"QuestionReader$Lexer", "scanSign", "()J"⟩, 9), (⟨"QuestionReader$QuestionGrammar", "readItems", "()Z"⟩, 5), (⟨"QuestionReader$QuestionGrammar", "readItem", "()Z"⟩, 5), (⟨"QuestionReader$QuestionGrammar", "readColumn", "(Z)I"⟩, 5), (⟨"QuestionReader$Names", "isSame", "(ILQuestionReader$Lexer;)Z"⟩, 2), (⟨"QuestionReader$QuestionGrammar", "readSummed", "(I)I"⟩, 5), (⟨"QuestionReader$QuestionGrammar", "readWhere", "()Z"⟩, 5), (⟨"QuestionReader$QuestionGrammar", "readComparison", "(LQuestionReader$Condition;)Z"⟩, 5), (⟨"QuestionReader$QuestionGrammar", "readList", "(LQuestionReader$Comparison;)Z"⟩, 5), (⟨"QuestionReader$QuestionGrammar", "readBetween", "(LQuestionReader$Comparison;)Z"⟩, 5), (⟨"QuestionReader$QuestionGrammar", "readRelation", "(LQuestionReader$Comparison;)Z"⟩, 5)]
theorem lw_r1 : ∀ q ∈ lw_privs_1, lw_okq q := List.forall_mem_cons.mpr ⟨lw_p0, List.forall_mem_cons.mpr ⟨lw_p1, List.forall_mem_cons.mpr ⟨lw_p2, List.forall_mem_cons.mpr ⟨lw_p3, List.forall_mem_cons.mpr ⟨lw_p4, List.forall_mem_cons.mpr ⟨lw_p5, List.forall_mem_cons.mpr ⟨lw_p6, List.forall_mem_cons.mpr ⟨lw_p7, List.forall_mem_cons.mpr ⟨lw_p8, List.forall_mem_cons.mpr ⟨lw_p9, List.forall_mem_cons.mpr ⟨lw_p10, List.forall_mem_cons.mpr ⟨lw_p11, List.forall_mem_cons.mpr ⟨lw_p12, List.forall_mem_cons.mpr ⟨lw_p13, List.forall_mem_cons.mpr ⟨lw_p14, List.forall_mem_cons.mpr ⟨lw_p15, fun _ h => absurd h List.not_mem_nil⟩⟩⟩⟩⟩⟩⟩⟩⟩⟩⟩⟩⟩⟩⟩⟩
theorem lw_p16 : lw_okq (⟨"QuestionReader$Condition", "attach", "(I)V"⟩, 12) := ⟨⟨by decide +kernel, by decide +kernel⟩, List.mem_of_getElem? (i := 221) (by decide +kernel), List.mem_of_getElem? (i := 616) (by decide +kernel), List.mem_of_getElem? (i := 617) (by decide +kernel)⟩
theorem lw_p17 : lw_okq (⟨"QuestionReader$Condition", "join", "(ZII)I"⟩, 12) := ⟨⟨by decide +kernel, by decide +kernel⟩, List.mem_of_getElem? (i := 221) (by decide +kernel), List.mem_of_getElem? (i := 620) (by decide +kernel), List.mem_of_getElem? (i := 621) (by decide +kernel)⟩
theorem lw_p18 : lw_okq (⟨"QuestionReader$QuestionGrammar", "readClosings", "(LQuestionReader$Condition;)V"⟩, 5) := ⟨⟨by decide +kernel, by decide +kernel⟩, List.mem_of_getElem? (i := 209) (by decide +kernel), List.mem_of_getElem? (i := 624) (by decide +kernel), List.mem_of_getElem? (i := 625) (by decide +kernel)⟩
theorem lw_p19 : lw_okq (⟨"QuestionReader$Condition", "endLine", "()I"⟩, 12) := ⟨⟨by decide +kernel, by decide +kernel⟩, List.mem_of_getElem? (i := 221) (by decide +kernel), List.mem_of_getElem? (i := 632) (by decide +kernel), List.mem_of_getElem? (i := 633) (by decide +kernel)⟩
theorem lw_p20 : lw_okq (⟨"QuestionReader$QuestionGrammar", "readGroups", "()Z"⟩, 5) := ⟨⟨by decide +kernel, by decide +kernel⟩, List.mem_of_getElem? (i := 209) (by decide +kernel), List.mem_of_getElem? (i := 648) (by decide +kernel), List.mem_of_getElem? (i := 649) (by decide +kernel)⟩
theorem lw_p21 : lw_okq (⟨"QuestionReader$QuestionGrammar", "readGroup", "(Z)I"⟩, 5) := ⟨⟨by decide +kernel, by decide +kernel⟩, List.mem_of_getElem? (i := 209) (by decide +kernel), List.mem_of_getElem? (i := 658) (by decide +kernel), List.mem_of_getElem? (i := 659) (by decide +kernel)⟩
theorem lw_p22 : lw_okq (⟨"QuestionReader$CatalogGrammar", "readDimension", "()Z"⟩, 3) := ⟨⟨by decide +kernel, by decide +kernel⟩, List.mem_of_getElem? (i := 193) (by decide +kernel), List.mem_of_getElem? (i := 701) (by decide +kernel), List.mem_of_getElem? (i := 702) (by decide +kernel)⟩
theorem lw_p23 : lw_okq (⟨"QuestionReader$CatalogGrammar", "atNewName", "(Z)Z"⟩, 3) := ⟨⟨by decide +kernel, by decide +kernel⟩, List.mem_of_getElem? (i := 193) (by decide +kernel), List.mem_of_getElem? (i := 705) (by decide +kernel), List.mem_of_getElem? (i := 706) (by decide +kernel)⟩
theorem lw_p24 : lw_okq (⟨"QuestionReader$CatalogGrammar", "readLevels", "(I)I"⟩, 3) := ⟨⟨by decide +kernel, by decide +kernel⟩, List.mem_of_getElem? (i := 193) (by decide +kernel), List.mem_of_getElem? (i := 724) (by decide +kernel), List.mem_of_getElem? (i := 725) (by decide +kernel)⟩
theorem lw_p25 : lw_okq (⟨"QuestionReader$CatalogGrammar", "atNewLevel", "(II)Z"⟩, 3) := ⟨⟨by decide +kernel, by decide +kernel⟩, List.mem_of_getElem? (i := 193) (by decide +kernel), List.mem_of_getElem? (i := 729) (by decide +kernel), List.mem_of_getElem? (i := 730) (by decide +kernel)⟩
theorem lw_p26 : lw_okq (⟨"QuestionReader$CatalogGrammar", "readMeasure", "()Z"⟩, 3) := ⟨⟨by decide +kernel, by decide +kernel⟩, List.mem_of_getElem? (i := 193) (by decide +kernel), List.mem_of_getElem? (i := 738) (by decide +kernel), List.mem_of_getElem? (i := 739) (by decide +kernel)⟩
theorem lw_p27 : lw_okq (⟨"QuestionReader$CatalogGrammar", "readMembers", "()Z"⟩, 3) := ⟨⟨by decide +kernel, by decide +kernel⟩, List.mem_of_getElem? (i := 193) (by decide +kernel), List.mem_of_getElem? (i := 742) (by decide +kernel), List.mem_of_getElem? (i := 743) (by decide +kernel)⟩
theorem lw_p28 : lw_okq (⟨"QuestionReader$CatalogGrammar", "readMember", "(LQuestionReader$Dimension;I)Z"⟩, 3) := ⟨⟨by decide +kernel, by decide +kernel⟩, List.mem_of_getElem? (i := 193) (by decide +kernel), List.mem_of_getElem? (i := 747) (by decide +kernel), List.mem_of_getElem? (i := 748) (by decide +kernel)⟩
theorem lw_p29 : lw_okq (⟨"QuestionReader$CatalogGrammar", "readValues", "(LQuestionReader$Dimension;I)I"⟩, 3) := ⟨⟨by decide +kernel, by decide +kernel⟩, List.mem_of_getElem? (i := 193) (by decide +kernel), List.mem_of_getElem? (i := 752) (by decide +kernel), List.mem_of_getElem? (i := 753) (by decide +kernel)⟩
theorem lw_p30 : lw_okq (⟨"QuestionReader$Dimension", "firstWithSame", "(II)I"⟩, 7) := ⟨⟨by decide +kernel, by decide +kernel⟩, List.mem_of_getElem? (i := 123) (by decide +kernel), List.mem_of_getElem? (i := 766) (by decide +kernel), List.mem_of_getElem? (i := 767) (by decide +kernel)⟩
theorem lw_p31 : lw_okq (⟨"QuestionReader$Dimension", "agreeAbove", "(III)Z"⟩, 7) := ⟨⟨by decide +kernel, by decide +kernel⟩, List.mem_of_getElem? (i := 123) (by decide +kernel), List.mem_of_getElem? (i := 770) (by decide +kernel), List.mem_of_getElem? (i := 771) (by decide +kernel)⟩
def lw_privs_2 : List (MethodName × Nat) := [(⟨"QuestionReader$Condition", "attach", "(I)V"⟩, 12), (⟨"QuestionReader$Condition", "join", "(ZII)I"⟩, 12), (⟨"QuestionReader$QuestionGrammar", "readClosings", "(LQuestionReader$Condition;)V"⟩, 5), (⟨"QuestionReader$Condition", "endLine", "()I"⟩, 12), (⟨"QuestionReader$QuestionGrammar", "readGroups", "()Z"⟩, 5), (⟨"QuestionReader$QuestionGrammar", "readGroup", "(Z)I"⟩, 5), (⟨"QuestionReader$CatalogGrammar", "readDimension", "()Z"⟩, 3), (⟨"QuestionReader$CatalogGrammar", "atNewName", "(Z)Z"⟩, 3), (⟨"QuestionReader$CatalogGrammar", "readLevels", "(I)I"⟩, 3), (⟨"QuestionReader$CatalogGrammar", "atNewLevel", "(II)Z"⟩, 3), (⟨"QuestionReader$CatalogGrammar", "readMeasure", "()Z"⟩, 3), (⟨"QuestionReader$CatalogGrammar", "readMembers", "()Z"⟩, 3), (⟨"QuestionReader$CatalogGrammar", "readMember", "(LQuestionReader$Dimension;I)Z"⟩, 3), (⟨"QuestionReader$CatalogGrammar", "readValues", "(LQuestionReader$Dimension;I)I"⟩, 3), (⟨"QuestionReader$Dimension", "firstWithSame", "(II)I"⟩, 7), (⟨"QuestionReader$Dimension", "agreeAbove", "(III)Z"⟩, 7)]
theorem lw_r2 : ∀ q ∈ lw_privs_2, lw_okq q := List.forall_mem_cons.mpr ⟨lw_p16, List.forall_mem_cons.mpr ⟨lw_p17, List.forall_mem_cons.mpr ⟨lw_p18, List.forall_mem_cons.mpr ⟨lw_p19, List.forall_mem_cons.mpr ⟨lw_p20, List.forall_mem_cons.mpr ⟨lw_p21, List.forall_mem_cons.mpr ⟨lw_p22, List.forall_mem_cons.mpr ⟨lw_p23, List.forall_mem_cons.mpr ⟨lw_p24, List.forall_mem_cons.mpr ⟨lw_p25, List.forall_mem_cons.mpr ⟨lw_p26, List.forall_mem_cons.mpr ⟨lw_p27, List.forall_mem_cons.mpr ⟨lw_p28, List.forall_mem_cons.mpr ⟨lw_p29, List.forall_mem_cons.mpr ⟨lw_p30, List.forall_mem_cons.mpr ⟨lw_p31, fun _ h => absurd h List.not_mem_nil⟩⟩⟩⟩⟩⟩⟩⟩⟩⟩⟩⟩⟩⟩⟩⟩
theorem lw_p32 : lw_okq (⟨"QuestionReader$Dimension", "insert", "(II)V"⟩, 7) := ⟨⟨by decide +kernel, by decide +kernel⟩, List.mem_of_getElem? (i := 123) (by decide +kernel), List.mem_of_getElem? (i := 786) (by decide +kernel), List.mem_of_getElem? (i := 787) (by decide +kernel)⟩
theorem lw_p33 : lw_okq (⟨"java/lang/Throwable", "fillInStackTrace", "(I)Ljava/lang/Throwable;"⟩, 6) := ⟨⟨by decide +kernel, by decide +kernel⟩, List.mem_of_getElem? (i := 841) (by decide +kernel), List.mem_of_getElem? (i := 839) (by decide +kernel), List.mem_of_getElem? (i := 840) (by decide +kernel)⟩
theorem lw_p34 : lw_okq (⟨"QuestionReader", "demandOpen", "()V"⟩, 5) := ⟨⟨by decide +kernel, by decide +kernel⟩, List.mem_of_getElem? (i := 27) (by decide +kernel), List.mem_of_getElem? (i := 954) (by decide +kernel), List.mem_of_getElem? (i := 955) (by decide +kernel)⟩
theorem lw_p35 : lw_okq (⟨"QuestionReader$Comparison", "isListed", "(I)Z"⟩, 6) := ⟨⟨by decide +kernel, by decide +kernel⟩, List.mem_of_getElem? (i := 228) (by decide +kernel), List.mem_of_getElem? (i := 1050) (by decide +kernel), List.mem_of_getElem? (i := 1051) (by decide +kernel)⟩
theorem lw_p36 : lw_okq (⟨"QuestionReaderModel", "lay", "(I)V"⟩, 27) := ⟨⟨by decide +kernel, by decide +kernel⟩, List.mem_of_getElem? (i := 1054) (by decide +kernel), List.mem_of_getElem? (i := 1229) (by decide +kernel), List.mem_of_getElem? (i := 1230) (by decide +kernel)⟩
theorem lw_p37 : lw_okq (⟨"QuestionReaderModel", "read", "()V"⟩, 27) := ⟨⟨by decide +kernel, by decide +kernel⟩, List.mem_of_getElem? (i := 1054) (by decide +kernel), List.mem_of_getElem? (i := 1241) (by decide +kernel), List.mem_of_getElem? (i := 1242) (by decide +kernel)⟩
theorem lw_p38 : lw_okq (⟨"QuestionReaderModel", "look", "(I)I"⟩, 27) := ⟨⟨by decide +kernel, by decide +kernel⟩, List.mem_of_getElem? (i := 1054) (by decide +kernel), List.mem_of_getElem? (i := 1245) (by decide +kernel), List.mem_of_getElem? (i := 1246) (by decide +kernel)⟩
theorem lw_p39 : lw_okq (⟨"QuestionReaderModel", "wordOf", "()I"⟩, 27) := ⟨⟨by decide +kernel, by decide +kernel⟩, List.mem_of_getElem? (i := 1054) (by decide +kernel), List.mem_of_getElem? (i := 1255) (by decide +kernel), List.mem_of_getElem? (i := 1256) (by decide +kernel)⟩
theorem lw_p40 : lw_okq (⟨"QuestionReaderModel", "readNumber", "(Z)V"⟩, 27) := ⟨⟨by decide +kernel, by decide +kernel⟩, List.mem_of_getElem? (i := 1054) (by decide +kernel), List.mem_of_getElem? (i := 1307) (by decide +kernel), List.mem_of_getElem? (i := 1308) (by decide +kernel)⟩
theorem lw_p41 : lw_okq (⟨"QuestionReaderModel", "want", "(ZII)Z"⟩, 27) := ⟨⟨by decide +kernel, by decide +kernel⟩, List.mem_of_getElem? (i := 1054) (by decide +kernel), List.mem_of_getElem? (i := 1316) (by decide +kernel), List.mem_of_getElem? (i := 1317) (by decide +kernel)⟩
theorem lw_p42 : lw_okq (⟨"QuestionReaderModel", "readSign", "(I)V"⟩, 27) := ⟨⟨by decide +kernel, by decide +kernel⟩, List.mem_of_getElem? (i := 1054) (by decide +kernel), List.mem_of_getElem? (i := 1320) (by decide +kernel), List.mem_of_getElem? (i := 1321) (by decide +kernel)⟩
theorem lw_p43 : lw_okq (⟨"QuestionReaderModel", "statement", "()V"⟩, 27) := ⟨⟨by decide +kernel, by decide +kernel⟩, List.mem_of_getElem? (i := 1054) (by decide +kernel), List.mem_of_getElem? (i := 1324) (by decide +kernel), List.mem_of_getElem? (i := 1325) (by decide +kernel)⟩
theorem lw_p44 : lw_okq (⟨"QuestionReaderModel", "isWord", "(I)Z"⟩, 27) := ⟨⟨by decide +kernel, by decide +kernel⟩, List.mem_of_getElem? (i := 1054) (by decide +kernel), List.mem_of_getElem? (i := 1328) (by decide +kernel), List.mem_of_getElem? (i := 1329) (by decide +kernel)⟩
theorem lw_p45 : lw_okq (⟨"QuestionReaderModel", "must", "(Z)Z"⟩, 27) := ⟨⟨by decide +kernel, by decide +kernel⟩, List.mem_of_getElem? (i := 1054) (by decide +kernel), List.mem_of_getElem? (i := 1332) (by decide +kernel), List.mem_of_getElem? (i := 1333) (by decide +kernel)⟩
theorem lw_p46 : lw_okq (⟨"QuestionReaderModel", "dimension", "()V"⟩, 27) := ⟨⟨by decide +kernel, by decide +kernel⟩, List.mem_of_getElem? (i := 1054) (by decide +kernel), List.mem_of_getElem? (i := 1336) (by decide +kernel), List.mem_of_getElem? (i := 1337) (by decide +kernel)⟩
theorem lw_p47 : lw_okq (⟨"QuestionReaderModel", "newName", "()Z"⟩, 27) := ⟨⟨by decide +kernel, by decide +kernel⟩, List.mem_of_getElem? (i := 1054) (by decide +kernel), List.mem_of_getElem? (i := 1340) (by decide +kernel), List.mem_of_getElem? (i := 1341) (by decide +kernel)⟩
def lw_privs_3 : List (MethodName × Nat) := [(⟨"QuestionReader$Dimension", "insert", "(II)V"⟩, 7), (⟨"java/lang/Throwable", "fillInStackTrace", "(I)Ljava/lang/Throwable;"⟩, 6), (⟨"QuestionReader", "demandOpen", "()V"⟩, 5), (⟨"QuestionReader$Comparison", "isListed", "(I)Z"⟩, 6), (⟨"QuestionReaderModel", "lay", "(I)V"⟩, 27), (⟨"QuestionReaderModel", "read", "()V"⟩, 27), (⟨"QuestionReaderModel", "look", "(I)I"⟩, 27), (⟨"QuestionReaderModel", "wordOf", "()I"⟩, 27), (⟨"QuestionReaderModel", "readNumber", "(Z)V"⟩, 27), (⟨"QuestionReaderModel", "want", "(ZII)Z"⟩, 27), (⟨"QuestionReaderModel", "readSign", "(I)V"⟩, 27), (⟨"QuestionReaderModel", "statement", "()V"⟩, 27), (⟨"QuestionReaderModel", "isWord", "(I)Z"⟩, 27), (⟨"QuestionReaderModel", "must", "(Z)Z"⟩, 27), (⟨"QuestionReaderModel", "dimension", "()V"⟩, 27), (⟨"QuestionReaderModel", "newName", "()Z"⟩, 27)]
theorem lw_r3 : ∀ q ∈ lw_privs_3, lw_okq q := List.forall_mem_cons.mpr ⟨lw_p32, List.forall_mem_cons.mpr ⟨lw_p33, List.forall_mem_cons.mpr ⟨lw_p34, List.forall_mem_cons.mpr ⟨lw_p35, List.forall_mem_cons.mpr ⟨lw_p36, List.forall_mem_cons.mpr ⟨lw_p37, List.forall_mem_cons.mpr ⟨lw_p38, List.forall_mem_cons.mpr ⟨lw_p39, List.forall_mem_cons.mpr ⟨lw_p40, List.forall_mem_cons.mpr ⟨lw_p41, List.forall_mem_cons.mpr ⟨lw_p42, List.forall_mem_cons.mpr ⟨lw_p43, List.forall_mem_cons.mpr ⟨lw_p44, List.forall_mem_cons.mpr ⟨lw_p45, List.forall_mem_cons.mpr ⟨lw_p46, List.forall_mem_cons.mpr ⟨lw_p47, fun _ h => absurd h List.not_mem_nil⟩⟩⟩⟩⟩⟩⟩⟩⟩⟩⟩⟩⟩⟩⟩⟩
theorem lw_p48 : lw_okq (⟨"QuestionReaderModel", "name", "()Z"⟩, 27) := ⟨⟨by decide +kernel, by decide +kernel⟩, List.mem_of_getElem? (i := 1054) (by decide +kernel), List.mem_of_getElem? (i := 1344) (by decide +kernel), List.mem_of_getElem? (i := 1345) (by decide +kernel)⟩
theorem lw_p49 : lw_okq (⟨"QuestionReaderModel", "among", "(II)I"⟩, 27) := ⟨⟨by decide +kernel, by decide +kernel⟩, List.mem_of_getElem? (i := 1054) (by decide +kernel), List.mem_of_getElem? (i := 1348) (by decide +kernel), List.mem_of_getElem? (i := 1349) (by decide +kernel)⟩
theorem lw_p50 : lw_okq (⟨"QuestionReaderModel", "isName", "(I)Z"⟩, 27) := ⟨⟨by decide +kernel, by decide +kernel⟩, List.mem_of_getElem? (i := 1054) (by decide +kernel), List.mem_of_getElem? (i := 1352) (by decide +kernel), List.mem_of_getElem? (i := 1353) (by decide +kernel)⟩
theorem lw_p51 : lw_okq (⟨"QuestionReaderModel", "keep", "(I)V"⟩, 27) := ⟨⟨by decide +kernel, by decide +kernel⟩, List.mem_of_getElem? (i := 1054) (by decide +kernel), List.mem_of_getElem? (i := 1356) (by decide +kernel), List.mem_of_getElem? (i := 1357) (by decide +kernel)⟩
theorem lw_p52 : lw_okq (⟨"QuestionReaderModel", "needSign", "(I)Z"⟩, 27) := ⟨⟨by decide +kernel, by decide +kernel⟩, List.mem_of_getElem? (i := 1054) (by decide +kernel), List.mem_of_getElem? (i := 1360) (by decide +kernel), List.mem_of_getElem? (i := 1361) (by decide +kernel)⟩
theorem lw_p53 : lw_okq (⟨"QuestionReaderModel", "isSign", "(I)Z"⟩, 27) := ⟨⟨by decide +kernel, by decide +kernel⟩, List.mem_of_getElem? (i := 1054) (by decide +kernel), List.mem_of_getElem? (i := 1364) (by decide +kernel), List.mem_of_getElem? (i := 1365) (by decide +kernel)⟩
theorem lw_p54 : lw_okq (⟨"QuestionReaderModel", "measure", "()V"⟩, 27) := ⟨⟨by decide +kernel, by decide +kernel⟩, List.mem_of_getElem? (i := 1054) (by decide +kernel), List.mem_of_getElem? (i := 1368) (by decide +kernel), List.mem_of_getElem? (i := 1369) (by decide +kernel)⟩
theorem lw_p55 : lw_okq (⟨"QuestionReaderModel", "member", "()V"⟩, 27) := ⟨⟨by decide +kernel, by decide +kernel⟩, List.mem_of_getElem? (i := 1054) (by decide +kernel), List.mem_of_getElem? (i := 1372) (by decide +kernel), List.mem_of_getElem? (i := 1373) (by decide +kernel)⟩
theorem lw_p56 : lw_okq (⟨"QuestionReaderModel", "goes", "(II)Z"⟩, 27) := ⟨⟨by decide +kernel, by decide +kernel⟩, List.mem_of_getElem? (i := 1054) (by decide +kernel), List.mem_of_getElem? (i := 1376) (by decide +kernel), List.mem_of_getElem? (i := 1377) (by decide +kernel)⟩
theorem lw_p57 : lw_okq (⟨"QuestionReaderModel", "question", "()V"⟩, 27) := ⟨⟨by decide +kernel, by decide +kernel⟩, List.mem_of_getElem? (i := 1054) (by decide +kernel), List.mem_of_getElem? (i := 1380) (by decide +kernel), List.mem_of_getElem? (i := 1381) (by decide +kernel)⟩
theorem lw_p58 : lw_okq (⟨"QuestionReaderModel", "item", "()V"⟩, 27) := ⟨⟨by decide +kernel, by decide +kernel⟩, List.mem_of_getElem? (i := 1054) (by decide +kernel), List.mem_of_getElem? (i := 1384) (by decide +kernel), List.mem_of_getElem? (i := 1385) (by decide +kernel)⟩
theorem lw_p59 : lw_okq (⟨"QuestionReaderModel", "columnsDimension", "()I"⟩, 27) := ⟨⟨by decide +kernel, by decide +kernel⟩, List.mem_of_getElem? (i := 1054) (by decide +kernel), List.mem_of_getElem? (i := 1388) (by decide +kernel), List.mem_of_getElem? (i := 1389) (by decide +kernel)⟩
theorem lw_p60 : lw_okq (⟨"QuestionReaderModel", "columnsLevel", "(I)I"⟩, 27) := ⟨⟨by decide +kernel, by decide +kernel⟩, List.mem_of_getElem? (i := 1054) (by decide +kernel), List.mem_of_getElem? (i := 1392) (by decide +kernel), List.mem_of_getElem? (i := 1393) (by decide +kernel)⟩
theorem lw_p61 : lw_okq (⟨"QuestionReaderModel", "either", "()V"⟩, 27) := ⟨⟨by decide +kernel, by decide +kernel⟩, List.mem_of_getElem? (i := 1054) (by decide +kernel), List.mem_of_getElem? (i := 1396) (by decide +kernel), List.mem_of_getElem? (i := 1397) (by decide +kernel)⟩
theorem lw_p62 : lw_okq (⟨"QuestionReaderModel", "both", "()V"⟩, 27) := ⟨⟨by decide +kernel, by decide +kernel⟩, List.mem_of_getElem? (i := 1054) (by decide +kernel), List.mem_of_getElem? (i := 1400) (by decide +kernel), List.mem_of_getElem? (i := 1401) (by decide +kernel)⟩
theorem lw_p63 : lw_okq (⟨"QuestionReaderModel", "single", "()V"⟩, 27) := ⟨⟨by decide +kernel, by decide +kernel⟩, List.mem_of_getElem? (i := 1054) (by decide +kernel), List.mem_of_getElem? (i := 1404) (by decide +kernel), List.mem_of_getElem? (i := 1405) (by decide +kernel)⟩
def lw_privs_4 : List (MethodName × Nat) := [(⟨"QuestionReaderModel", "name", "()Z"⟩, 27), (⟨"QuestionReaderModel", "among", "(II)I"⟩, 27), (⟨"QuestionReaderModel", "isName", "(I)Z"⟩, 27), (⟨"QuestionReaderModel", "keep", "(I)V"⟩, 27), (⟨"QuestionReaderModel", "needSign", "(I)Z"⟩, 27), (⟨"QuestionReaderModel", "isSign", "(I)Z"⟩, 27), (⟨"QuestionReaderModel", "measure", "()V"⟩, 27), (⟨"QuestionReaderModel", "member", "()V"⟩, 27), (⟨"QuestionReaderModel", "goes", "(II)Z"⟩, 27), (⟨"QuestionReaderModel", "question", "()V"⟩, 27), (⟨"QuestionReaderModel", "item", "()V"⟩, 27), (⟨"QuestionReaderModel", "columnsDimension", "()I"⟩, 27), (⟨"QuestionReaderModel", "columnsLevel", "(I)I"⟩, 27), (⟨"QuestionReaderModel", "either", "()V"⟩, 27), (⟨"QuestionReaderModel", "both", "()V"⟩, 27), (⟨"QuestionReaderModel", "single", "()V"⟩, 27)]
theorem lw_r4 : ∀ q ∈ lw_privs_4, lw_okq q := List.forall_mem_cons.mpr ⟨lw_p48, List.forall_mem_cons.mpr ⟨lw_p49, List.forall_mem_cons.mpr ⟨lw_p50, List.forall_mem_cons.mpr ⟨lw_p51, List.forall_mem_cons.mpr ⟨lw_p52, List.forall_mem_cons.mpr ⟨lw_p53, List.forall_mem_cons.mpr ⟨lw_p54, List.forall_mem_cons.mpr ⟨lw_p55, List.forall_mem_cons.mpr ⟨lw_p56, List.forall_mem_cons.mpr ⟨lw_p57, List.forall_mem_cons.mpr ⟨lw_p58, List.forall_mem_cons.mpr ⟨lw_p59, List.forall_mem_cons.mpr ⟨lw_p60, List.forall_mem_cons.mpr ⟨lw_p61, List.forall_mem_cons.mpr ⟨lw_p62, List.forall_mem_cons.mpr ⟨lw_p63, fun _ h => absurd h List.not_mem_nil⟩⟩⟩⟩⟩⟩⟩⟩⟩⟩⟩⟩⟩⟩⟩⟩
theorem lw_p64 : lw_okq (⟨"QuestionReaderModel", "comparison", "()V"⟩, 27) := ⟨⟨by decide +kernel, by decide +kernel⟩, List.mem_of_getElem? (i := 1054) (by decide +kernel), List.mem_of_getElem? (i := 1408) (by decide +kernel), List.mem_of_getElem? (i := 1409) (by decide +kernel)⟩
theorem lw_p65 : lw_okq (⟨"QuestionReaderModel", "needNumber", "()I"⟩, 27) := ⟨⟨by decide +kernel, by decide +kernel⟩, List.mem_of_getElem? (i := 1054) (by decide +kernel), List.mem_of_getElem? (i := 1412) (by decide +kernel), List.mem_of_getElem? (i := 1413) (by decide +kernel)⟩
theorem lw_p66 : lw_okq (⟨"QuestionReaderModel", "list", "(I)V"⟩, 27) := ⟨⟨by decide +kernel, by decide +kernel⟩, List.mem_of_getElem? (i := 1054) (by decide +kernel), List.mem_of_getElem? (i := 1416) (by decide +kernel), List.mem_of_getElem? (i := 1417) (by decide +kernel)⟩
theorem lw_p67 : lw_okq (⟨"QuestionReaderModel", "say", "(I)V"⟩, 27) := ⟨⟨by decide +kernel, by decide +kernel⟩, List.mem_of_getElem? (i := 1054) (by decide +kernel), List.mem_of_getElem? (i := 1420) (by decide +kernel), List.mem_of_getElem? (i := 1421) (by decide +kernel)⟩
theorem lw_p68 : lw_okq (⟨"QuestionReaderModel", "grouping", "()V"⟩, 27) := ⟨⟨by decide +kernel, by decide +kernel⟩, List.mem_of_getElem? (i := 1054) (by decide +kernel), List.mem_of_getElem? (i := 1424) (by decide +kernel), List.mem_of_getElem? (i := 1425) (by decide +kernel)⟩
theorem lw_p69 : lw_okq (⟨"QuestionReaderModel", "groupsOf", "()I"⟩, 27) := ⟨⟨by decide +kernel, by decide +kernel⟩, List.mem_of_getElem? (i := 1054) (by decide +kernel), List.mem_of_getElem? (i := 1428) (by decide +kernel), List.mem_of_getElem? (i := 1429) (by decide +kernel)⟩
theorem lw_p70 : lw_okq (⟨"QuestionReaderModel", "groupColumn", "()V"⟩, 27) := ⟨⟨by decide +kernel, by decide +kernel⟩, List.mem_of_getElem? (i := 1054) (by decide +kernel), List.mem_of_getElem? (i := 1432) (by decide +kernel), List.mem_of_getElem? (i := 1433) (by decide +kernel)⟩
theorem lw_p71 : lw_okq (⟨"QuestionReaderModel", "spread", "(LQuestionReaderModel$Question;)V"⟩, 27) := ⟨⟨by decide +kernel, by decide +kernel⟩, List.mem_of_getElem? (i := 1054) (by decide +kernel), List.mem_of_getElem? (i := 1436) (by decide +kernel), List.mem_of_getElem? (i := 1437) (by decide +kernel)⟩
theorem lw_p72 : lw_okq (⟨"QuestionReaderModel", "order", "(I)V"⟩, 27) := ⟨⟨by decide +kernel, by decide +kernel⟩, List.mem_of_getElem? (i := 1054) (by decide +kernel), List.mem_of_getElem? (i := 1448) (by decide +kernel), List.mem_of_getElem? (i := 1449) (by decide +kernel)⟩
theorem lw_p73 : lw_okq (⟨"QuestionReaderModel", "isDimension", "(I)Z"⟩, 27) := ⟨⟨by decide +kernel, by decide +kernel⟩, List.mem_of_getElem? (i := 1054) (by decide +kernel), List.mem_of_getElem? (i := 1460) (by decide +kernel), List.mem_of_getElem? (i := 1461) (by decide +kernel)⟩
theorem lw_p74 : lw_okq (⟨"QuestionReaderModel", "isValue", "(III)Z"⟩, 27) := ⟨⟨by decide +kernel, by decide +kernel⟩, List.mem_of_getElem? (i := 1054) (by decide +kernel), List.mem_of_getElem? (i := 1468) (by decide +kernel), List.mem_of_getElem? (i := 1469) (by decide +kernel)⟩
theorem lw_p75 : lw_okq (⟨"QuestionReaderModel", "valueOf", "(III)I"⟩, 27) := ⟨⟨by decide +kernel, by decide +kernel⟩, List.mem_of_getElem? (i := 1054) (by decide +kernel), List.mem_of_getElem? (i := 1472) (by decide +kernel), List.mem_of_getElem? (i := 1473) (by decide +kernel)⟩
theorem lw_p76 : lw_okq (⟨"QuestionReaderModel", "isNamed", "(I)Z"⟩, 27) := ⟨⟨by decide +kernel, by decide +kernel⟩, List.mem_of_getElem? (i := 1054) (by decide +kernel), List.mem_of_getElem? (i := 1488) (by decide +kernel), List.mem_of_getElem? (i := 1489) (by decide +kernel)⟩
theorem lw_p77 : lw_okq (⟨"QuestionReaderModel", "compares", "(I)Z"⟩, 27) := ⟨⟨by decide +kernel, by decide +kernel⟩, List.mem_of_getElem? (i := 1054) (by decide +kernel), List.mem_of_getElem? (i := 1512) (by decide +kernel), List.mem_of_getElem? (i := 1513) (by decide +kernel)⟩
def lw_privs_5 : List (MethodName × Nat) := [(⟨"QuestionReaderModel", "comparison", "()V"⟩, 27), (⟨"QuestionReaderModel", "needNumber", "()I"⟩, 27), (⟨"QuestionReaderModel", "list", "(I)V"⟩, 27), (⟨"QuestionReaderModel", "say", "(I)V"⟩, 27), (⟨"QuestionReaderModel", "grouping", "()V"⟩, 27), (⟨"QuestionReaderModel", "groupsOf", "()I"⟩, 27), (⟨"QuestionReaderModel", "groupColumn", "()V"⟩, 27), (⟨"QuestionReaderModel", "spread", "(LQuestionReaderModel$Question;)V"⟩, 27), (⟨"QuestionReaderModel", "order", "(I)V"⟩, 27), (⟨"QuestionReaderModel", "isDimension", "(I)Z"⟩, 27), (⟨"QuestionReaderModel", "isValue", "(III)Z"⟩, 27), (⟨"QuestionReaderModel", "valueOf", "(III)I"⟩, 27), (⟨"QuestionReaderModel", "isNamed", "(I)Z"⟩, 27), (⟨"QuestionReaderModel", "compares", "(I)Z"⟩, 27)]
theorem lw_r5 : ∀ q ∈ lw_privs_5, lw_okq q := List.forall_mem_cons.mpr ⟨lw_p64, List.forall_mem_cons.mpr ⟨lw_p65, List.forall_mem_cons.mpr ⟨lw_p66, List.forall_mem_cons.mpr ⟨lw_p67, List.forall_mem_cons.mpr ⟨lw_p68, List.forall_mem_cons.mpr ⟨lw_p69, List.forall_mem_cons.mpr ⟨lw_p70, List.forall_mem_cons.mpr ⟨lw_p71, List.forall_mem_cons.mpr ⟨lw_p72, List.forall_mem_cons.mpr ⟨lw_p73, List.forall_mem_cons.mpr ⟨lw_p74, List.forall_mem_cons.mpr ⟨lw_p75, List.forall_mem_cons.mpr ⟨lw_p76, List.forall_mem_cons.mpr ⟨lw_p77, fun _ h => absurd h List.not_mem_nil⟩⟩⟩⟩⟩⟩⟩⟩⟩⟩⟩⟩⟩⟩
def lw_privs : List (MethodName × Nat) := lw_privs_1 ++ (lw_privs_2 ++ (lw_privs_3 ++ (lw_privs_4 ++ (lw_privs_5))))
def lw_tbl : List Cond := k2_sels lw_privs ++ tables_1
theorem lw_privs_ok : ∀ q ∈ lw_privs, lw_okq q := by
  show ∀ q ∈ lw_privs_1 ++ (lw_privs_2 ++ (lw_privs_3 ++ (lw_privs_4 ++ (lw_privs_5)))), lw_okq q
  exact List.forall_mem_append.mpr ⟨lw_r1, List.forall_mem_append.mpr ⟨lw_r2, List.forall_mem_append.mpr ⟨lw_r3, List.forall_mem_append.mpr ⟨lw_r4, lw_r5⟩⟩⟩⟩
-- ===== end of PART A; then your names; then what follows =====
end
section
abbrev R_QR : String := "QuestionReader"
def F_QR : u_T := fun k => match k with
  | 0 => ("QuestionReader", "text", "LQuestionReader$Text;", true)
  | 1 => ("QuestionReader", "lexer", "LQuestionReader$Lexer;", true)
  | 2 => ("QuestionReader", "catalog", "LQuestionReader$Catalog;", true)
  | 3 => ("QuestionReader", "catalogGrammar", "LQuestionReader$CatalogGrammar;", true)
  | _ => ("QuestionReader", "questionGrammar", "LQuestionReader$QuestionGrammar;", true)
def t_QR : Nat → FieldType := fun k => match k with
  | 0 => .object "QuestionReader$Text"
  | 1 => .object "QuestionReader$Lexer"
  | 2 => .object "QuestionReader$Catalog"
  | 3 => .object "QuestionReader$CatalogGrammar"
  | _ => .object "QuestionReader$QuestionGrammar"
abbrev R_TX : String := "QuestionReader$Text"
def F_TX : u_T := fun k => match k with
  | 0 => ("QuestionReader$Text", "bytes", "[B", true)
  | _ => ("QuestionReader$Text", "length", "I", false)
def t_TX : Nat → FieldType := fun k => match k with
  | 0 => .array .byte
  | _ => .int
abbrev R_LX : String := "QuestionReader$Lexer"
def F_LX : u_T := fun k => match k with
  | 0 => ("QuestionReader$Lexer", "text", "LQuestionReader$Text;", true)
  | 1 => ("QuestionReader$Lexer", "kind", "LQuestionReader$Kind;", false)
  | 2 => ("QuestionReader$Lexer", "start", "I", false)
  | 3 => ("QuestionReader$Lexer", "end", "I", false)
  | 4 => ("QuestionReader$Lexer", "number", "I", false)
  | 5 => ("QuestionReader$Lexer", "faultKind", "I", false)
  | 6 => ("QuestionReader$Lexer", "faultPlace", "I", false)
  | 7 => ("QuestionReader$Lexer", "isWord", "Z", false)
  | _ => ("QuestionReader$Lexer", "unfit", "I", false)
def t_LX : Nat → FieldType := fun k => match k with
  | 0 => .object "QuestionReader$Text"
  | 1 => .object "QuestionReader$Kind"
  | 2 => .int
  | 3 => .int
  | 4 => .int
  | 5 => .int
  | 6 => .int
  | 7 => .boolean
  | _ => .int
abbrev R_CT : String := "QuestionReader$Catalog"
def F_CT : u_T := fun k => match k with
  | 0 => ("QuestionReader$Catalog", "names", "LQuestionReader$Names;", true)
  | 1 => ("QuestionReader$Catalog", "dimensions", "[LQuestionReader$Dimension;", true)
  | 2 => ("QuestionReader$Catalog", "dimensionCount", "I", false)
  | 3 => ("QuestionReader$Catalog", "measureCount", "I", false)
  | _ => ("QuestionReader$Catalog", "isOpen", "Z", false)
def t_CT : Nat → FieldType := fun k => match k with
  | 0 => .object "QuestionReader$Names"
  | 1 => .array (.object "QuestionReader$Dimension")
  | 2 => .int
  | 3 => .int
  | _ => .boolean
abbrev R_NM : String := "QuestionReader$Names"
def F_NM : u_T := fun k => match k with
  | 0 => ("QuestionReader$Names", "letters", "[B", true)
  | _ => ("QuestionReader$Names", "lengths", "[I", true)
def t_NM : Nat → FieldType := fun k => match k with
  | 0 => .array .byte
  | _ => .array .int
abbrev R_DM : String := "QuestionReader$Dimension"
def F_DM : u_T := fun k => match k with
  | 0 => ("QuestionReader$Dimension", "levelCount", "I", false)
  | 1 => ("QuestionReader$Dimension", "memberCount", "I", false)
  | 2 => ("QuestionReader$Dimension", "picked", "I", false)
  | 3 => ("QuestionReader$Dimension", "values", "[[I", true)
  | 4 => ("QuestionReader$Dimension", "rows", "[I", true)
  | 5 => ("QuestionReader$Dimension", "sorted", "[[I", true)
  | _ => ("QuestionReader$Dimension", "sortedCounts", "[I", true)
def t_DM : Nat → FieldType := fun k => match k with
  | 0 => .int
  | 1 => .int
  | 2 => .int
  | 3 => .array (.array .int)
  | 4 => .array .int
  | 5 => .array (.array .int)
  | _ => .array .int
abbrev R_CG : String := "QuestionReader$CatalogGrammar"
def F_CG : u_T := fun k => match k with
  | 0 => ("QuestionReader$CatalogGrammar", "lexer", "LQuestionReader$Lexer;", true)
  | 1 => ("QuestionReader$CatalogGrammar", "catalog", "LQuestionReader$Catalog;", true)
  | _ => ("QuestionReader$CatalogGrammar", "names", "LQuestionReader$Names;", true)
def t_CG : Nat → FieldType := fun k => match k with
  | 0 => .object "QuestionReader$Lexer"
  | 1 => .object "QuestionReader$Catalog"
  | _ => .object "QuestionReader$Names"
abbrev R_QG : String := "QuestionReader$QuestionGrammar"
def F_QG : u_T := fun k => match k with
  | 0 => ("QuestionReader$QuestionGrammar", "lexer", "LQuestionReader$Lexer;", true)
  | 1 => ("QuestionReader$QuestionGrammar", "catalog", "LQuestionReader$Catalog;", true)
  | 2 => ("QuestionReader$QuestionGrammar", "names", "LQuestionReader$Names;", true)
  | 3 => ("QuestionReader$QuestionGrammar", "latest", "LQuestionReader$Question;", false)
  | _ => ("QuestionReader$QuestionGrammar", "draft", "LQuestionReader$Question;", false)
def t_QG : Nat → FieldType := fun k => match k with
  | 0 => .object "QuestionReader$Lexer"
  | 1 => .object "QuestionReader$Catalog"
  | 2 => .object "QuestionReader$Names"
  | 3 => .object "QuestionReader$Question"
  | _ => .object "QuestionReader$Question"
abbrev R_QU : String := "QuestionReader$Question"
def F_QU : u_T := fun k => match k with
  | 0 => ("QuestionReader$Question", "itemCount", "I", false)
  | 1 => ("QuestionReader$Question", "itemTypes", "[I", true)
  | 2 => ("QuestionReader$Question", "itemTargets", "[I", true)
  | 3 => ("QuestionReader$Question", "itemPlaces", "[I", true)
  | 4 => ("QuestionReader$Question", "columnCount", "I", false)
  | 5 => ("QuestionReader$Question", "columns", "[I", true)
  | 6 => ("QuestionReader$Question", "setCount", "I", false)
  | 7 => ("QuestionReader$Question", "sets", "[I", true)
  | _ => ("QuestionReader$Question", "condition", "LQuestionReader$Condition;", true)
def t_QU : Nat → FieldType := fun k => match k with
  | 0 => .int
  | 1 => .array .int
  | 2 => .array .int
  | 3 => .array .int
  | 4 => .int
  | 5 => .array .int
  | 6 => .int
  | 7 => .array .int
  | _ => .object "QuestionReader$Condition"
abbrev R_CN : String := "QuestionReader$Condition"
def F_CN : u_T := fun k => match k with
  | 0 => ("QuestionReader$Condition", "comparisonCount", "I", false)
  | 1 => ("QuestionReader$Condition", "depth", "I", false)
  | 2 => ("QuestionReader$Condition", "comparisons", "[LQuestionReader$Comparison;", true)
  | 3 => ("QuestionReader$Condition", "jointCount", "I", false)
  | 4 => ("QuestionReader$Condition", "lefts", "[I", true)
  | 5 => ("QuestionReader$Condition", "rights", "[I", true)
  | 6 => ("QuestionReader$Condition", "isAnd", "[Z", true)
  | 7 => ("QuestionReader$Condition", "isNegated", "[Z", true)
  | 8 => ("QuestionReader$Condition", "truths", "[Z", true)
  | 9 => ("QuestionReader$Condition", "beforeOr", "[I", true)
  | 10 => ("QuestionReader$Condition", "beforeAnd", "[I", true)
  | _ => ("QuestionReader$Condition", "isNotAhead", "[Z", true)
def t_CN : Nat → FieldType := fun k => match k with
  | 0 => .int
  | 1 => .int
  | 2 => .array (.object "QuestionReader$Comparison")
  | 3 => .int
  | 4 => .array .int
  | 5 => .array .int
  | 6 => .array .boolean
  | 7 => .array .boolean
  | 8 => .array .boolean
  | 9 => .array .int
  | 10 => .array .int
  | _ => .array .boolean
abbrev R_CP : String := "QuestionReader$Comparison"
def F_CP : u_T := fun k => match k with
  | 0 => ("QuestionReader$Comparison", "column", "I", false)
  | 1 => ("QuestionReader$Comparison", "isNegated", "Z", false)
  | 2 => ("QuestionReader$Comparison", "low", "I", false)
  | 3 => ("QuestionReader$Comparison", "high", "I", false)
  | 4 => ("QuestionReader$Comparison", "listed", "I", false)
  | _ => ("QuestionReader$Comparison", "list", "[I", true)
def t_CP : Nat → FieldType := fun k => match k with
  | 0 => .int
  | 1 => .boolean
  | 2 => .int
  | 3 => .int
  | 4 => .int
  | _ => .array .int
abbrev R_MD : String := "QuestionReaderModel"
def F_MD : u_T := fun k => match k with
  | 0 => ("QuestionReaderModel", "reserved", "Ljava/lang/String;", true)
  | 1 => ("QuestionReaderModel", "code", "I", false)
  | 2 => ("QuestionReaderModel", "open", "Z", false)
  | 3 => ("QuestionReaderModel", "text", "[B", true)
  | 4 => ("QuestionReaderModel", "size", "I", false)
  | 5 => ("QuestionReaderModel", "fault", "I", false)
  | 6 => ("QuestionReaderModel", "place", "I", false)
  | 7 => ("QuestionReaderModel", "at", "I", false)
  | 8 => ("QuestionReaderModel", "from", "I", false)
  | 9 => ("QuestionReaderModel", "token", "I", false)
  | 10 => ("QuestionReaderModel", "word", "I", false)
  | 11 => ("QuestionReaderModel", "number", "I", false)
  | 12 => ("QuestionReaderModel", "sign", "I", false)
  | 13 => ("QuestionReaderModel", "dimensions", "I", false)
  | 14 => ("QuestionReaderModel", "levels", "[I", true)
  | 15 => ("QuestionReaderModel", "members", "[I", true)
  | 16 => ("QuestionReaderModel", "values", "[I", true)
  | 17 => ("QuestionReaderModel", "picked", "[I", true)
  | 18 => ("QuestionReaderModel", "measures", "I", false)
  | 19 => ("QuestionReaderModel", "letters", "[B", true)
  | 20 => ("QuestionReaderModel", "lengths", "[I", true)
  | 21 => ("QuestionReaderModel", "asked", "LQuestionReaderModel$Question;", false)
  | 22 => ("QuestionReaderModel", "next", "LQuestionReaderModel$Question;", false)
  | 23 => ("QuestionReaderModel", "isAsked", "Z", false)
  | 24 => ("QuestionReaderModel", "brackets", "I", false)
  | 25 => ("QuestionReaderModel", "groupAt", "I", false)
  | _ => ("QuestionReaderModel", "pile", "[Z", true)
def t_MD : Nat → FieldType := fun k => match k with
  | 0 => .object "java/lang/String"
  | 1 => .int
  | 2 => .boolean
  | 3 => .array .byte
  | 4 => .int
  | 5 => .int
  | 6 => .int
  | 7 => .int
  | 8 => .int
  | 9 => .int
  | 10 => .int
  | 11 => .int
  | 12 => .int
  | 13 => .int
  | 14 => .array .int
  | 15 => .array .int
  | 16 => .array .int
  | 17 => .array .int
  | 18 => .int
  | 19 => .array .byte
  | 20 => .array .int
  | 21 => .object "QuestionReaderModel$Question"
  | 22 => .object "QuestionReaderModel$Question"
  | 23 => .boolean
  | 24 => .int
  | 25 => .int
  | _ => .array .boolean
abbrev R_MQ : String := "QuestionReaderModel$Question"
def F_MQ : u_T := fun k => match k with
  | 0 => ("QuestionReaderModel$Question", "items", "I", false)
  | 1 => ("QuestionReaderModel$Question", "kind", "[I", true)
  | 2 => ("QuestionReaderModel$Question", "of", "[I", true)
  | 3 => ("QuestionReaderModel$Question", "begins", "[I", true)
  | 4 => ("QuestionReaderModel$Question", "groups", "I", false)
  | 5 => ("QuestionReaderModel$Question", "group", "[I", true)
  | 6 => ("QuestionReaderModel$Question", "parts", "I", false)
  | 7 => ("QuestionReaderModel$Question", "partKind", "[I", true)
  | 8 => ("QuestionReaderModel$Question", "partSize", "[I", true)
  | 9 => ("QuestionReaderModel$Question", "sets", "I", false)
  | 10 => ("QuestionReaderModel$Question", "set", "[I", true)
  | 11 => ("QuestionReaderModel$Question", "signs", "I", false)
  | 12 => ("QuestionReaderModel$Question", "sign", "[I", true)
  | 13 => ("QuestionReaderModel$Question", "comparisons", "I", false)
  | 14 => ("QuestionReaderModel$Question", "column", "[I", true)
  | 15 => ("QuestionReaderModel$Question", "how", "[I", true)
  | 16 => ("QuestionReaderModel$Question", "first", "[I", true)
  | 17 => ("QuestionReaderModel$Question", "second", "[I", true)
  | _ => ("QuestionReaderModel$Question", "list", "[I", true)
def t_MQ : Nat → FieldType := fun k => match k with
  | 0 => .int
  | 1 => .array .int
  | 2 => .array .int
  | 3 => .array .int
  | 4 => .int
  | 5 => .array .int
  | 6 => .int
  | 7 => .array .int
  | 8 => .array .int
  | 9 => .int
  | 10 => .array .int
  | 11 => .int
  | 12 => .array .int
  | 13 => .int
  | 14 => .array .int
  | 15 => .array .int
  | 16 => .array .int
  | 17 => .array .int
  | _ => .array .int
/-- the classes whose objects the worlds hold -/
abbrev vwCl : List vw_C := [(R_QR, F_QR, 5), (R_TX, F_TX, 2), (R_LX, F_LX, 9), (R_CT, F_CT, 5), (R_NM, F_NM, 2), (R_DM, F_DM, 7), (R_CG, F_CG, 3), (R_QG, F_QG, 5), (R_QU, F_QU, 9), (R_CN, F_CN, 12), (R_CP, F_CP, 6), (R_MD, F_MD, 27), (R_MQ, F_MQ, 19)]
/-- the types of the elements of arrays -/
abbrev x_tl : List FieldType := [.int, .byte, .boolean, .long, .object "QuestionReader$Dimension", .object "QuestionReader$Comparison", .array .int]
/-- the words that last -/
def x_tsl : List Cond := lw_tbl.filter goodWord
theorem x_good : ∀ w ∈ x_tsl, (w.onTables && w.keeps) = true ∨ ∃ ty, w = .arrayClass ty := fun w h => good_of_word (List.mem_filter.mp h).2
theorem x_in {w : Cond} (i : Nat) (h : tables_1[i]? = some w) (hg : goodWord w = true) : w ∈ x_tsl := List.mem_filter.mpr ⟨List.mem_append_right _ (List.mem_of_getElem? h), hg⟩
theorem x_inS {w : Cond} (h : w ∈ k2_sels lw_privs) (hg : goodWord w = true) : w ∈ x_tsl := List.mem_filter.mpr ⟨List.mem_append_left _ h, hg⟩
/-- launch; classes' numbers and slots; array classes' numbers; the start's state and the script's address; the constants' addresses -/
abbrev x_G : Type := Launch × va_G × (Nat → ClassId) × (State × Nat) × (Nat → Nat)
abbrev x_s0 (G : x_G) : State := G.2.2.2.1.1
/-- the enum's constants, by their ordinals -/
def x_kn : List String := ["END", "WRONG", "NUMBER", "NAME", "TOO_LONG", "OPENING", "CLOSING", "COMMA", "SEMICOLON", "DOT", "STAR", "EQUAL", "UNEQUAL", "LESS", "AT_MOST", "MORE", "AT_LEAST", "DIMENSION", "MEASURE", "MEMBER", "SELECT", "WHERE", "GROUP", "BY", "ROLLUP", "CUBE", "GROUPING", "SUM", "COUNT", "MIN", "MAX", "AND", "OR", "NOT", "BETWEEN", "IN"]
/-- the keys of the enum's constants; the bytes of the reference's text -/
def x_kk : List Int64 := [0, 0, 0, 0, 0, 40, 41, 44, 59, 46, 42, 61, 7742, 60, 7741, 62, 7997, 7265352036076124142, 482883684628837, 3772553671410, 3978710053364, 32163592549, 27889761008, 12665, 3947034786544, 209547621, 58489068079183719, 1899245, 26809825140, 1799406, 1798392, 1603428, 14322, 1816564, 434510281405166, 13550]
def x_rs : List Int32 := [32, 100, 105, 109, 101, 110, 115, 105, 111, 110, 32, 109, 101, 97, 115, 117, 114, 101, 32, 109, 101, 109, 98, 101, 114, 32, 115, 101, 108, 101, 99, 116, 32, 119, 104, 101, 114, 101, 32, 103, 114, 111, 117, 112, 32, 98, 121, 32, 114, 111, 108, 108, 117, 112, 32, 99, 117, 98, 101, 32, 103, 114, 111, 117, 112, 105, 110, 103, 32, 115, 117, 109, 32, 99, 111, 117, 110, 116, 32, 109, 105, 110, 32, 109, 97, 120, 32, 97, 110, 100, 32, 111, 114, 32, 110, 111, 116, 32, 98, 101, 116, 119, 101, 101, 110, 32, 105, 110, 32]
def x_A0 (G : x_G) : Nat → Prop := fun q => (x_s0 G).heap.size ≤ q
/-- the address behind an abstract reference: k < x_N the k-th new cell, x_N + i the i-th constant -/
def x_N : Nat := 1000000000
def x_ad (G : x_G) (k : Nat) : Nat := if k < x_N then (x_s0 G).heap.size + k else G.2.2.2.2 (k - x_N)
def x_v0 (G : x_G) : Value → Value
  | .ref k => .ref (x_ad G k)
  | v => v
/-- the constants: the enum's 36, its row of them, the reference's text and its bytes, the texts of the exceptions -/
def x_cs (G : x_G) : Prop := (∀ i, i < 36 → va_Z "QuestionReader$Kind" (x_kn.getD i "") "LQuestionReader$Kind;" (.ref (G.2.2.2.2 i)) (x_A0 G) (x_s0 G) (x_s0 G).heap ∧ va_OF "QuestionReader$Kind" "key" "J" (.long (x_kk.getD i 0)) (G.2.2.2.2 i) (x_A0 G) (x_s0 G) (x_s0 G).heap) ∧
  (∀ i j, i < 36 → j < 36 → G.2.2.2.2 i = G.2.2.2.2 j → i = j) ∧
  (va_Z "QuestionReader$Kind" "ALL" "[LQuestionReader$Kind;" (.ref (G.2.2.2.2 36)) (x_A0 G) (x_s0 G) (x_s0 G).heap ∧ va_T (.object "QuestionReader$Kind") (G.2.2.2.2 36) 36 (fun j => .ref (G.2.2.2.2 j)) (x_A0 G) (x_s0 G) (x_s0 G).heap) ∧
  (va_O "java/lang/String" (G.2.2.2.2 37) (x_A0 G) (x_s0 G) (x_s0 G).heap ∧ va_OF "java/lang/String" "coder" "B" (.int 0) (G.2.2.2.2 37) (x_A0 G) (x_s0 G) (x_s0 G).heap ∧ va_OF "java/lang/String" "value" "[B" (.ref (G.2.2.2.2 38)) (G.2.2.2.2 37) (x_A0 G) (x_s0 G) (x_s0 G).heap ∧ va_T .byte (G.2.2.2.2 38) 109 (fun j => .int (x_rs.getD j 0)) (x_A0 G) (x_s0 G) (x_s0 G).heap) ∧
  vk_R "QuestionReaderModel" 7 " dimension measure member select where group by rollup cube grouping sum count min max and or not between in " (G.2.2.2.2 37) (x_s0 G) ∧
  (vk_R "QuestionReader" 55 "the text would be too long" (G.2.2.2.2 40) (x_s0 G) ∧ vk_R "QuestionReader" 223 "a number is out of its bounds" (G.2.2.2.2 41) (x_s0 G) ∧ vk_R "QuestionReader" 137 "nothing of this kind is counted" (G.2.2.2.2 42) (x_s0 G) ∧ vk_R "QuestionReader" 221 "the reader is new" (G.2.2.2.2 43) (x_s0 G) ∧ vk_R "QuestionReader" 211 "there is no question" (G.2.2.2.2 44) (x_s0 G)) ∧
  va_Z "java/lang/String" "COMPACT_STRINGS" "Z" (.int 1) (x_A0 G) (x_s0 G) (x_s0 G).heap ∧
  (∃ v : Value, (v = .null ∨ ∃ k, v = .ref k) ∧ va_Z "jdk/internal/util/Preconditions" "SIOOBE_FORMATTER" "Ljava/util/function/BiFunction;" (x_v0 G v) (x_A0 G) (x_s0 G) (x_s0 G).heap)
/-- what is known of the start -/
def x_0 (G : x_G) : Prop := x_cs G ∧ G.1.flags = flags0 ∧ (∀ w ∈ lw_tbl, w.before #[Value.ref G.2.2.2.1.2] (x_s0 G) = true) ∧ (Jvm.Cond.and given_1 narrow_1).before #[Value.ref G.2.2.2.1.2] (x_s0 G) = true ∧ G.2.2.2.1.2 < (x_s0 G).heap.size
/-- a state behind the start: warmer tables, the old cells as they were -/
def x_Z (G : x_G) (s : State) : Prop := x_0 G ∧ (x_s0 G).WarmedH s.vm ∧ ∀ q : Nat, q < (x_s0 G).heap.size → s.heap[q]? = (x_s0 G).heap[q]?
theorem x_Z_next {G : x_G} {s U : State} (hZ : x_Z G s) (hW : s.WarmedH U.vm) (hq : ∀ q : Nat, q < (x_s0 G).heap.size → U.heap[q]? = s.heap[q]?) : x_Z G U :=
  ⟨hZ.1, State.WarmedH.trans (vm' := U.vm) hZ.2.1 hW, fun q h => (hq q h).trans (hZ.2.2 q h)⟩
end
section
theorem x_l1 {w : Cond} (h : w ∈ tables_1_1) : w ∈ lw_tbl := List.mem_append_right _ (List.mem_append_left _ h)
theorem x_t1 {w : Cond} (h : w ∈ tables_1_1) (hg : goodWord w = true) : w ∈ x_tsl := List.mem_filter.mpr ⟨List.mem_append_right _ (List.mem_append_left _ h), hg⟩
theorem x_l2 {w : Cond} (h : w ∈ tables_1_2) : w ∈ lw_tbl := List.mem_append_right _ (List.mem_append_right _ (List.mem_append_left _ h))
theorem x_t2 {w : Cond} (h : w ∈ tables_1_2) (hg : goodWord w = true) : w ∈ x_tsl := List.mem_filter.mpr ⟨List.mem_append_right _ (List.mem_append_right _ (List.mem_append_left _ h)), hg⟩
theorem x_l3 {w : Cond} (h : w ∈ tables_1_3) : w ∈ lw_tbl := List.mem_append_right _ (List.mem_append_right _ (List.mem_append_right _ (List.mem_append_left _ h)))
theorem x_t3 {w : Cond} (h : w ∈ tables_1_3) (hg : goodWord w = true) : w ∈ x_tsl := List.mem_filter.mpr ⟨List.mem_append_right _ (List.mem_append_right _ (List.mem_append_right _ (List.mem_append_left _ h))), hg⟩
theorem x_l4 {w : Cond} (h : w ∈ tables_1_4) : w ∈ lw_tbl := List.mem_append_right _ (List.mem_append_right _ (List.mem_append_right _ (List.mem_append_right _ (List.mem_append_left _ h))))
theorem x_t4 {w : Cond} (h : w ∈ tables_1_4) (hg : goodWord w = true) : w ∈ x_tsl := List.mem_filter.mpr ⟨List.mem_append_right _ (List.mem_append_right _ (List.mem_append_right _ (List.mem_append_right _ (List.mem_append_left _ h)))), hg⟩
theorem x_l5 {w : Cond} (h : w ∈ tables_1_5) : w ∈ lw_tbl := List.mem_append_right _ (List.mem_append_right _ (List.mem_append_right _ (List.mem_append_right _ (List.mem_append_right _ (List.mem_append_left _ h)))))
theorem x_t5 {w : Cond} (h : w ∈ tables_1_5) (hg : goodWord w = true) : w ∈ x_tsl := List.mem_filter.mpr ⟨List.mem_append_right _ (List.mem_append_right _ (List.mem_append_right _ (List.mem_append_right _ (List.mem_append_right _ (List.mem_append_left _ h))))), hg⟩
theorem x_l6 {w : Cond} (h : w ∈ tables_1_6) : w ∈ lw_tbl := List.mem_append_right _ (List.mem_append_right _ (List.mem_append_right _ (List.mem_append_right _ (List.mem_append_right _ (List.mem_append_right _ (List.mem_append_left _ h))))))
theorem x_t6 {w : Cond} (h : w ∈ tables_1_6) (hg : goodWord w = true) : w ∈ x_tsl := List.mem_filter.mpr ⟨List.mem_append_right _ (List.mem_append_right _ (List.mem_append_right _ (List.mem_append_right _ (List.mem_append_right _ (List.mem_append_right _ (List.mem_append_left _ h)))))), hg⟩
theorem x_l7 {w : Cond} (h : w ∈ tables_1_7) : w ∈ lw_tbl := List.mem_append_right _ (List.mem_append_right _ (List.mem_append_right _ (List.mem_append_right _ (List.mem_append_right _ (List.mem_append_right _ (List.mem_append_right _ (h)))))))
theorem x_t7 {w : Cond} (h : w ∈ tables_1_7) (hg : goodWord w = true) : w ∈ x_tsl := List.mem_filter.mpr ⟨List.mem_append_right _ (List.mem_append_right _ (List.mem_append_right _ (List.mem_append_right _ (List.mem_append_right _ (List.mem_append_right _ (List.mem_append_right _ (h))))))), hg⟩
theorem w_0 : Cond.initialized "QuestionReaderLaw" ∈ x_tsl := x_t1 (List.mem_of_getElem? (i := 0) rfl) rfl
theorem w_1 : Cond.initialized "QuestionReader" ∈ x_tsl := x_t1 (List.mem_of_getElem? (i := 1) rfl) rfl
theorem w_2 : Cond.initialized "QuestionReader$Text" ∈ x_tsl := x_t1 (List.mem_of_getElem? (i := 2) rfl) rfl
theorem w_3 : Cond.initialized "QuestionReader$Lexer" ∈ x_tsl := x_t1 (List.mem_of_getElem? (i := 3) rfl) rfl
theorem w_4 : Cond.initialized "java/lang/Enum" ∈ x_tsl := x_t1 (List.mem_of_getElem? (i := 4) rfl) rfl
theorem w_5 : Cond.initialized "QuestionReader$Kind" ∈ x_tsl := x_t1 (List.mem_of_getElem? (i := 5) rfl) rfl
theorem w_6 : Cond.initialized "QuestionReader$Catalog" ∈ x_tsl := x_t1 (List.mem_of_getElem? (i := 6) rfl) rfl
theorem w_7 : Cond.initialized "QuestionReader$Names" ∈ x_tsl := x_t1 (List.mem_of_getElem? (i := 7) rfl) rfl
theorem w_8 : Cond.initialized "QuestionReader$Dimension" ∈ x_tsl := x_t1 (List.mem_of_getElem? (i := 8) rfl) rfl
theorem w_9 : Cond.initialized "QuestionReader$CatalogGrammar" ∈ x_tsl := x_t1 (List.mem_of_getElem? (i := 9) rfl) rfl
theorem w_10 : Cond.initialized "QuestionReader$QuestionGrammar" ∈ x_tsl := x_t1 (List.mem_of_getElem? (i := 10) rfl) rfl
theorem w_11 : Cond.initialized "QuestionReader$Question" ∈ x_tsl := x_t1 (List.mem_of_getElem? (i := 11) rfl) rfl
theorem w_12 : Cond.initialized "QuestionReader$Condition" ∈ x_tsl := x_t1 (List.mem_of_getElem? (i := 12) rfl) rfl
theorem w_13 : Cond.initialized "QuestionReader$Comparison" ∈ x_tsl := x_t1 (List.mem_of_getElem? (i := 13) rfl) rfl
theorem w_14 : Cond.initialized "QuestionReaderModel" ∈ x_tsl := x_t1 (List.mem_of_getElem? (i := 14) rfl) rfl
theorem w_15 : Cond.initialized "QuestionReaderModel$Question" ∈ x_tsl := x_t1 (List.mem_of_getElem? (i := 15) rfl) rfl
theorem w_16 : Cond.initialized "java/lang/Throwable" ∈ x_tsl := x_t1 (List.mem_of_getElem? (i := 16) rfl) rfl
theorem w_17 : Cond.initialized "java/lang/Exception" ∈ x_tsl := x_t1 (List.mem_of_getElem? (i := 17) rfl) rfl
theorem w_18 : Cond.initialized "java/lang/RuntimeException" ∈ x_tsl := x_t1 (List.mem_of_getElem? (i := 18) rfl) rfl
theorem w_19 : Cond.initialized "java/lang/IllegalStateException" ∈ x_tsl := x_t1 (List.mem_of_getElem? (i := 19) rfl) rfl
theorem w_20 : Cond.initialized "java/lang/IllegalArgumentException" ∈ x_tsl := x_t1 (List.mem_of_getElem? (i := 20) rfl) rfl
theorem w_21 : Cond.initialized "java/lang/System" ∈ x_tsl := x_t1 (List.mem_of_getElem? (i := 21) rfl) rfl
theorem w_22 : Cond.initialized "java/lang/String" ∈ x_tsl := x_t1 (List.mem_of_getElem? (i := 22) rfl) rfl
theorem w_23 : Cond.initialized "java/lang/StringLatin1" ∈ x_tsl := x_t1 (List.mem_of_getElem? (i := 23) rfl) rfl
theorem w_24 : Cond.initialized "jdk/internal/util/Preconditions" ∈ x_tsl := x_t1 (List.mem_of_getElem? (i := 24) rfl) rfl
theorem w_25 : Cond.initialized "java/lang/StringUTF16" ∈ x_tsl := x_t1 (List.mem_of_getElem? (i := 25) rfl) rfl
theorem w_26 : Cond.classLink "QuestionReaderLaw" 8 "QuestionReader" ∈ x_tsl := x_t1 (List.mem_of_getElem? (i := 26) rfl) rfl
theorem w_27 : Cond.instantiable "QuestionReader" 5 ∈ x_tsl := x_t1 (List.mem_of_getElem? (i := 27) rfl) rfl
theorem w_28 : Cond.methodLink "QuestionReaderLaw" 60 ⟨"QuestionReader", "<init>", "()V"⟩ ∈ x_tsl := x_t1 (List.mem_of_getElem? (i := 28) rfl) rfl
theorem w_29 : Cond.instanceMethod ⟨"QuestionReader", "<init>", "()V"⟩ ∈ x_tsl := x_t1 (List.mem_of_getElem? (i := 29) rfl) rfl
theorem w_30 : Cond.code ⟨"QuestionReader", "<init>", "()V"⟩ prog_1_method_1_code 1 none ∈ x_tsl := x_t1 (List.mem_of_getElem? (i := 30) rfl) rfl
theorem w_31 : Cond.methodLink "QuestionReader" 1 ⟨"java/lang/Object", "<init>", "()V"⟩ ∈ x_tsl := x_t1 (List.mem_of_getElem? (i := 31) rfl) rfl
theorem w_32 : Cond.instanceMethod ⟨"java/lang/Object", "<init>", "()V"⟩ ∈ x_tsl := x_t1 (List.mem_of_getElem? (i := 32) rfl) rfl
theorem w_33 : Cond.code ⟨"java/lang/Object", "<init>", "()V"⟩ object_method_1_code 1 none ∈ x_tsl := x_t1 (List.mem_of_getElem? (i := 33) rfl) rfl
theorem w_34 : Cond.classLink "QuestionReader" 7 "QuestionReader$Text" ∈ x_tsl := x_t1 (List.mem_of_getElem? (i := 34) rfl) rfl
theorem w_35 : Cond.instantiable "QuestionReader$Text" 2 ∈ x_tsl := x_t1 (List.mem_of_getElem? (i := 35) rfl) rfl
theorem w_37 : Cond.instanceMethod ⟨"QuestionReader$Text", "<init>", "()V"⟩ ∈ x_tsl := x_t1 (List.mem_of_getElem? (i := 37) rfl) rfl
theorem w_38 : Cond.code ⟨"QuestionReader$Text", "<init>", "()V"⟩ prog_12_method_1_code 1 none ∈ x_tsl := x_t1 (List.mem_of_getElem? (i := 38) rfl) rfl
theorem w_39 : Cond.methodLink "QuestionReader$Text" 1 ⟨"java/lang/Object", "<init>", "()V"⟩ ∈ x_tsl := x_t1 (List.mem_of_getElem? (i := 39) rfl) rfl
theorem w_40 : Cond.constant "QuestionReader$Text" 9 (65536 : Int32) ∈ x_tsl := x_t1 (List.mem_of_getElem? (i := 40) rfl) rfl
theorem w_41 : Cond.fieldLink "QuestionReader$Text" 10 "QuestionReader$Text" "bytes" "[B" ∈ x_tsl := x_t1 (List.mem_of_getElem? (i := 41) rfl) rfl
theorem w_42 : Cond.fieldLink "QuestionReader$Names" 32 "QuestionReader$Text" "bytes" "[B" ∈ x_tsl := x_t1 (List.mem_of_getElem? (i := 42) rfl) rfl
theorem w_43 : Cond.fieldLink "QuestionReader$Lexer" 52 "QuestionReader$Text" "bytes" "[B" ∈ x_tsl := x_t1 (List.mem_of_getElem? (i := 43) rfl) rfl
theorem w_44 : Cond.fieldLink "QuestionReader" 48 "QuestionReader$Text" "length" "I" ∈ x_tsl := x_t1 (List.mem_of_getElem? (i := 44) rfl) rfl
theorem w_45 : Cond.fieldLink "QuestionReader$Text" 14 "QuestionReader$Text" "length" "I" ∈ x_tsl := x_t1 (List.mem_of_getElem? (i := 45) rfl) rfl
theorem w_46 : Cond.fieldLink "QuestionReader$Lexer" 47 "QuestionReader$Text" "length" "I" ∈ x_tsl := x_t1 (List.mem_of_getElem? (i := 46) rfl) rfl
theorem w_47 : Cond.laysFinal "QuestionReader$Text" "QuestionReader$Text" "bytes" "[B" ∈ x_tsl := x_t1 (List.mem_of_getElem? (i := 47) rfl) rfl
theorem w_49 : Cond.lays "QuestionReader$Text" "QuestionReader$Text" "length" "I" ∈ x_tsl := x_t1 (List.mem_of_getElem? (i := 49) rfl) rfl
theorem w_52 : Cond.arrayClass FieldType.byte ∈ x_tsl := x_t1 (List.mem_of_getElem? (i := 52) rfl) rfl
theorem w_53 : Cond.classLink "QuestionReader" 16 "QuestionReader$Lexer" ∈ x_tsl := x_t1 (List.mem_of_getElem? (i := 53) rfl) rfl
theorem w_54 : Cond.instantiable "QuestionReader$Lexer" 9 ∈ x_tsl := x_t1 (List.mem_of_getElem? (i := 54) rfl) rfl
theorem w_55 : Cond.methodLink "QuestionReader" 18 ⟨"QuestionReader$Lexer", "<init>", "(LQuestionReader$Text;)V"⟩ ∈ x_tsl := x_t1 (List.mem_of_getElem? (i := 55) rfl) rfl
theorem w_56 : Cond.instanceMethod ⟨"QuestionReader$Lexer", "<init>", "(LQuestionReader$Text;)V"⟩ ∈ x_tsl := x_t1 (List.mem_of_getElem? (i := 56) rfl) rfl
theorem w_57 : Cond.code ⟨"QuestionReader$Lexer", "<init>", "(LQuestionReader$Text;)V"⟩ prog_8_method_1_code 2 none ∈ x_tsl := x_t1 (List.mem_of_getElem? (i := 57) rfl) rfl
theorem w_58 : Cond.methodLink "QuestionReader$Lexer" 3 ⟨"java/lang/Object", "<init>", "()V"⟩ ∈ x_tsl := x_t1 (List.mem_of_getElem? (i := 58) rfl) rfl
theorem w_59 : Cond.fieldLink "QuestionReader$Lexer" 9 "QuestionReader$Kind" "END" "LQuestionReader$Kind;" ∈ x_tsl := x_t1 (List.mem_of_getElem? (i := 59) rfl) rfl
theorem w_61 : Cond.fieldLink "QuestionReader$Lexer" 24 "QuestionReader$Lexer" "text" "LQuestionReader$Text;" ∈ x_tsl := x_t1 (List.mem_of_getElem? (i := 61) rfl) rfl
theorem w_62 : Cond.fieldLink "QuestionReader$Names" 28 "QuestionReader$Lexer" "text" "LQuestionReader$Text;" ∈ x_tsl := x_t1 (List.mem_of_getElem? (i := 62) rfl) rfl
theorem w_63 : Cond.fieldLink "QuestionReader$Lexer" 15 "QuestionReader$Lexer" "kind" "LQuestionReader$Kind;" ∈ x_tsl := x_t1 (List.mem_of_getElem? (i := 63) rfl) rfl
theorem w_64 : Cond.fieldLink "QuestionReader$CatalogGrammar" 26 "QuestionReader$Lexer" "kind" "LQuestionReader$Kind;" ∈ x_tsl := x_t1 (List.mem_of_getElem? (i := 64) rfl) rfl
theorem w_65 : Cond.fieldLink "QuestionReader$QuestionGrammar" 53 "QuestionReader$Lexer" "kind" "LQuestionReader$Kind;" ∈ x_tsl := x_t1 (List.mem_of_getElem? (i := 65) rfl) rfl
theorem w_66 : Cond.fieldLink "QuestionReader" 83 "QuestionReader$Lexer" "kind" "LQuestionReader$Kind;" ∈ x_tsl := x_t1 (List.mem_of_getElem? (i := 66) rfl) rfl
theorem w_67 : Cond.fieldLink "QuestionReader$Names" 25 "QuestionReader$Lexer" "start" "I" ∈ x_tsl := x_t1 (List.mem_of_getElem? (i := 67) rfl) rfl
theorem w_68 : Cond.fieldLink "QuestionReader$Lexer" 37 "QuestionReader$Lexer" "start" "I" ∈ x_tsl := x_t1 (List.mem_of_getElem? (i := 68) rfl) rfl
theorem w_69 : Cond.fieldLink "QuestionReader$QuestionGrammar" 95 "QuestionReader$Lexer" "start" "I" ∈ x_tsl := x_t1 (List.mem_of_getElem? (i := 69) rfl) rfl
theorem w_70 : Cond.fieldLink "QuestionReader$CatalogGrammar" 145 "QuestionReader$Lexer" "start" "I" ∈ x_tsl := x_t1 (List.mem_of_getElem? (i := 70) rfl) rfl
theorem w_71 : Cond.fieldLink "QuestionReader$Names" 19 "QuestionReader$Lexer" "end" "I" ∈ x_tsl := x_t1 (List.mem_of_getElem? (i := 71) rfl) rfl
theorem w_72 : Cond.fieldLink "QuestionReader$Lexer" 28 "QuestionReader$Lexer" "end" "I" ∈ x_tsl := x_t1 (List.mem_of_getElem? (i := 72) rfl) rfl
theorem w_73 : Cond.fieldLink "QuestionReader$Lexer" 82 "QuestionReader$Lexer" "number" "I" ∈ x_tsl := x_t1 (List.mem_of_getElem? (i := 73) rfl) rfl
theorem w_74 : Cond.fieldLink "QuestionReader$CatalogGrammar" 164 "QuestionReader$Lexer" "number" "I" ∈ x_tsl := x_t1 (List.mem_of_getElem? (i := 74) rfl) rfl
theorem w_75 : Cond.fieldLink "QuestionReader$QuestionGrammar" 245 "QuestionReader$Lexer" "number" "I" ∈ x_tsl := x_t1 (List.mem_of_getElem? (i := 75) rfl) rfl
theorem w_76 : Cond.fieldLink "QuestionReader$Lexer" 31 "QuestionReader$Lexer" "faultKind" "I" ∈ x_tsl := x_t1 (List.mem_of_getElem? (i := 76) rfl) rfl
theorem w_77 : Cond.fieldLink "QuestionReader" 102 "QuestionReader$Lexer" "faultKind" "I" ∈ x_tsl := x_t1 (List.mem_of_getElem? (i := 77) rfl) rfl
theorem w_78 : Cond.fieldLink "QuestionReader$Lexer" 20 "QuestionReader$Lexer" "faultPlace" "I" ∈ x_tsl := x_t1 (List.mem_of_getElem? (i := 78) rfl) rfl
theorem w_79 : Cond.fieldLink "QuestionReader" 105 "QuestionReader$Lexer" "faultPlace" "I" ∈ x_tsl := x_t1 (List.mem_of_getElem? (i := 79) rfl) rfl
theorem w_80 : Cond.fieldLink "QuestionReader$Lexer" 40 "QuestionReader$Lexer" "isWord" "Z" ∈ x_tsl := x_t1 (List.mem_of_getElem? (i := 80) rfl) rfl
theorem w_81 : Cond.fieldLink "QuestionReader$Lexer" 44 "QuestionReader$Lexer" "unfit" "I" ∈ x_tsl := x_t1 (List.mem_of_getElem? (i := 81) rfl) rfl
theorem w_82 : Cond.laysFinal "QuestionReader$Lexer" "QuestionReader$Lexer" "text" "LQuestionReader$Text;" ∈ x_tsl := x_t1 (List.mem_of_getElem? (i := 82) rfl) rfl
theorem w_84 : Cond.lays "QuestionReader$Lexer" "QuestionReader$Lexer" "kind" "LQuestionReader$Kind;" ∈ x_tsl := x_t1 (List.mem_of_getElem? (i := 84) rfl) rfl
theorem w_86 : Cond.lays "QuestionReader$Lexer" "QuestionReader$Lexer" "start" "I" ∈ x_tsl := x_t1 (List.mem_of_getElem? (i := 86) rfl) rfl
theorem w_88 : Cond.lays "QuestionReader$Lexer" "QuestionReader$Lexer" "end" "I" ∈ x_tsl := x_t1 (List.mem_of_getElem? (i := 88) rfl) rfl
theorem w_90 : Cond.lays "QuestionReader$Lexer" "QuestionReader$Lexer" "number" "I" ∈ x_tsl := x_t1 (List.mem_of_getElem? (i := 90) rfl) rfl
theorem w_92 : Cond.lays "QuestionReader$Lexer" "QuestionReader$Lexer" "faultKind" "I" ∈ x_tsl := x_t1 (List.mem_of_getElem? (i := 92) rfl) rfl
theorem w_94 : Cond.lays "QuestionReader$Lexer" "QuestionReader$Lexer" "faultPlace" "I" ∈ x_tsl := x_t1 (List.mem_of_getElem? (i := 94) rfl) rfl
theorem w_96 : Cond.lays "QuestionReader$Lexer" "QuestionReader$Lexer" "isWord" "Z" ∈ x_tsl := x_t1 (List.mem_of_getElem? (i := 96) rfl) rfl
theorem w_98 : Cond.lays "QuestionReader$Lexer" "QuestionReader$Lexer" "unfit" "I" ∈ x_tsl := x_t1 (List.mem_of_getElem? (i := 98) rfl) rfl
theorem w_101 : Cond.classLink "QuestionReader" 25 "QuestionReader$Catalog" ∈ x_tsl := x_t1 (List.mem_of_getElem? (i := 101) rfl) rfl
theorem w_102 : Cond.instantiable "QuestionReader$Catalog" 5 ∈ x_tsl := x_t1 (List.mem_of_getElem? (i := 102) rfl) rfl
theorem w_103 : Cond.methodLink "QuestionReader" 27 ⟨"QuestionReader$Catalog", "<init>", "()V"⟩ ∈ x_tsl := x_t1 (List.mem_of_getElem? (i := 103) rfl) rfl
theorem w_104 : Cond.instanceMethod ⟨"QuestionReader$Catalog", "<init>", "()V"⟩ ∈ x_tsl := x_t1 (List.mem_of_getElem? (i := 104) rfl) rfl
theorem w_105 : Cond.code ⟨"QuestionReader$Catalog", "<init>", "()V"⟩ prog_2_method_1_code 2 none ∈ x_tsl := x_t1 (List.mem_of_getElem? (i := 105) rfl) rfl
theorem w_106 : Cond.methodLink "QuestionReader$Catalog" 3 ⟨"java/lang/Object", "<init>", "()V"⟩ ∈ x_tsl := x_t1 (List.mem_of_getElem? (i := 106) rfl) rfl
theorem w_107 : Cond.classLink "QuestionReader$Catalog" 9 "QuestionReader$Names" ∈ x_tsl := x_t1 (List.mem_of_getElem? (i := 107) rfl) rfl
theorem w_108 : Cond.instantiable "QuestionReader$Names" 2 ∈ x_tsl := x_t1 (List.mem_of_getElem? (i := 108) rfl) rfl
theorem w_110 : Cond.instanceMethod ⟨"QuestionReader$Names", "<init>", "()V"⟩ ∈ x_tsl := x_t1 (List.mem_of_getElem? (i := 110) rfl) rfl
theorem w_111 : Cond.code ⟨"QuestionReader$Names", "<init>", "()V"⟩ prog_9_method_1_code 1 none ∈ x_tsl := x_t1 (List.mem_of_getElem? (i := 111) rfl) rfl
theorem w_112 : Cond.methodLink "QuestionReader$Names" 3 ⟨"java/lang/Object", "<init>", "()V"⟩ ∈ x_tsl := x_t1 (List.mem_of_getElem? (i := 112) rfl) rfl
theorem w_113 : Cond.fieldLink "QuestionReader$Names" 11 "QuestionReader$Names" "letters" "[B" ∈ x_tsl := x_t1 (List.mem_of_getElem? (i := 113) rfl) rfl
theorem w_114 : Cond.fieldLink "QuestionReader$Names" 15 "QuestionReader$Names" "lengths" "[I" ∈ x_tsl := x_t1 (List.mem_of_getElem? (i := 114) rfl) rfl
theorem w_115 : Cond.laysFinal "QuestionReader$Names" "QuestionReader$Names" "letters" "[B" ∈ x_tsl := x_t1 (List.mem_of_getElem? (i := 115) rfl) rfl
theorem w_117 : Cond.laysFinal "QuestionReader$Names" "QuestionReader$Names" "lengths" "[I" ∈ x_tsl := x_t1 (List.mem_of_getElem? (i := 117) rfl) rfl
theorem w_120 : Cond.arrayClass FieldType.int ∈ x_tsl := x_t1 (List.mem_of_getElem? (i := 120) rfl) rfl
theorem w_121 : Cond.classLink "QuestionReader$Catalog" 18 "QuestionReader$Dimension" ∈ x_tsl := x_t1 (List.mem_of_getElem? (i := 121) rfl) rfl
theorem w_123 : Cond.instantiable "QuestionReader$Dimension" 7 ∈ x_tsl := x_t1 (List.mem_of_getElem? (i := 123) rfl) rfl
theorem w_124 : Cond.methodLink "QuestionReader$Catalog" 24 ⟨"QuestionReader$Dimension", "<init>", "()V"⟩ ∈ x_tsl := x_t1 (List.mem_of_getElem? (i := 124) rfl) rfl
theorem w_125 : Cond.instanceMethod ⟨"QuestionReader$Dimension", "<init>", "()V"⟩ ∈ x_tsl := x_t1 (List.mem_of_getElem? (i := 125) rfl) rfl
theorem w_126 : Cond.code ⟨"QuestionReader$Dimension", "<init>", "()V"⟩ prog_6_method_1_code 2 none ∈ x_tsl := x_t1 (List.mem_of_getElem? (i := 126) rfl) rfl
theorem w_127 : Cond.methodLink "QuestionReader$Dimension" 3 ⟨"java/lang/Object", "<init>", "()V"⟩ ∈ x_tsl := x_t1 (List.mem_of_getElem? (i := 127) rfl) rfl
theorem w_128 : Cond.classLink "QuestionReader$Dimension" 11 "[[I" ∈ x_tsl := x_t1 (List.mem_of_getElem? (i := 128) rfl) rfl
theorem w_130 : Cond.fieldLink "QuestionReader$Dimension" 26 "QuestionReader$Dimension" "levelCount" "I" ∈ x_tsl := x_t1 (List.mem_of_getElem? (i := 130) rfl) rfl
theorem w_131 : Cond.fieldLink "QuestionReader$Catalog" 33 "QuestionReader$Dimension" "levelCount" "I" ∈ x_tsl := x_t1 (List.mem_of_getElem? (i := 131) rfl) rfl
theorem w_132 : Cond.fieldLink "QuestionReader$CatalogGrammar" 99 "QuestionReader$Dimension" "levelCount" "I" ∈ x_tsl := x_t1 (List.mem_of_getElem? (i := 132) rfl) rfl
theorem w_133 : Cond.fieldLink "QuestionReader$QuestionGrammar" 153 "QuestionReader$Dimension" "levelCount" "I" ∈ x_tsl := x_t1 (List.mem_of_getElem? (i := 133) rfl) rfl
theorem w_134 : Cond.fieldLink "QuestionReader" 148 "QuestionReader$Dimension" "levelCount" "I" ∈ x_tsl := x_t1 (List.mem_of_getElem? (i := 134) rfl) rfl
theorem w_135 : Cond.fieldLink "QuestionReader$Dimension" 38 "QuestionReader$Dimension" "memberCount" "I" ∈ x_tsl := x_t1 (List.mem_of_getElem? (i := 135) rfl) rfl
theorem w_136 : Cond.fieldLink "QuestionReader$Catalog" 36 "QuestionReader$Dimension" "memberCount" "I" ∈ x_tsl := x_t1 (List.mem_of_getElem? (i := 136) rfl) rfl
theorem w_137 : Cond.fieldLink "QuestionReader$CatalogGrammar" 138 "QuestionReader$Dimension" "memberCount" "I" ∈ x_tsl := x_t1 (List.mem_of_getElem? (i := 137) rfl) rfl
theorem w_138 : Cond.fieldLink "QuestionReader" 153 "QuestionReader$Dimension" "memberCount" "I" ∈ x_tsl := x_t1 (List.mem_of_getElem? (i := 138) rfl) rfl
theorem w_139 : Cond.fieldLink "QuestionReader$Dimension" 48 "QuestionReader$Dimension" "picked" "I" ∈ x_tsl := x_t1 (List.mem_of_getElem? (i := 139) rfl) rfl
theorem w_140 : Cond.fieldLink "QuestionReader$Catalog" 64 "QuestionReader$Dimension" "picked" "I" ∈ x_tsl := x_t1 (List.mem_of_getElem? (i := 140) rfl) rfl
theorem w_141 : Cond.fieldLink "QuestionReader" 205 "QuestionReader$Dimension" "picked" "I" ∈ x_tsl := x_t1 (List.mem_of_getElem? (i := 141) rfl) rfl
theorem w_142 : Cond.fieldLink "QuestionReader$Dimension" 13 "QuestionReader$Dimension" "values" "[[I" ∈ x_tsl := x_t1 (List.mem_of_getElem? (i := 142) rfl) rfl
theorem w_143 : Cond.fieldLink "QuestionReader$Dimension" 16 "QuestionReader$Dimension" "rows" "[I" ∈ x_tsl := x_t1 (List.mem_of_getElem? (i := 143) rfl) rfl
theorem w_144 : Cond.fieldLink "QuestionReader$Dimension" 20 "QuestionReader$Dimension" "sorted" "[[I" ∈ x_tsl := x_t1 (List.mem_of_getElem? (i := 144) rfl) rfl
theorem w_145 : Cond.fieldLink "QuestionReader$Dimension" 23 "QuestionReader$Dimension" "sortedCounts" "[I" ∈ x_tsl := x_t1 (List.mem_of_getElem? (i := 145) rfl) rfl
theorem w_146 : Cond.lays "QuestionReader$Dimension" "QuestionReader$Dimension" "levelCount" "I" ∈ x_tsl := x_t1 (List.mem_of_getElem? (i := 146) rfl) rfl
theorem w_148 : Cond.lays "QuestionReader$Dimension" "QuestionReader$Dimension" "memberCount" "I" ∈ x_tsl := x_t1 (List.mem_of_getElem? (i := 148) rfl) rfl
theorem w_150 : Cond.lays "QuestionReader$Dimension" "QuestionReader$Dimension" "picked" "I" ∈ x_tsl := x_t1 (List.mem_of_getElem? (i := 150) rfl) rfl
theorem w_152 : Cond.laysFinal "QuestionReader$Dimension" "QuestionReader$Dimension" "values" "[[I" ∈ x_tsl := x_t1 (List.mem_of_getElem? (i := 152) rfl) rfl
theorem w_154 : Cond.laysFinal "QuestionReader$Dimension" "QuestionReader$Dimension" "rows" "[I" ∈ x_tsl := x_t1 (List.mem_of_getElem? (i := 154) rfl) rfl
theorem w_156 : Cond.laysFinal "QuestionReader$Dimension" "QuestionReader$Dimension" "sorted" "[[I" ∈ x_tsl := x_t1 (List.mem_of_getElem? (i := 156) rfl) rfl
theorem w_158 : Cond.laysFinal "QuestionReader$Dimension" "QuestionReader$Dimension" "sortedCounts" "[I" ∈ x_tsl := x_t1 (List.mem_of_getElem? (i := 158) rfl) rfl
theorem w_161 : Cond.fieldLink "QuestionReader$Catalog" 12 "QuestionReader$Catalog" "names" "LQuestionReader$Names;" ∈ x_tsl := x_t1 (List.mem_of_getElem? (i := 161) rfl) rfl
theorem w_162 : Cond.fieldLink "QuestionReader$CatalogGrammar" 19 "QuestionReader$Catalog" "names" "LQuestionReader$Names;" ∈ x_tsl := x_t1 (List.mem_of_getElem? (i := 162) rfl) rfl
theorem w_163 : Cond.fieldLink "QuestionReader$QuestionGrammar" 29 "QuestionReader$Catalog" "names" "LQuestionReader$Names;" ∈ x_tsl := x_t1 (List.mem_of_getElem? (i := 163) rfl) rfl
theorem w_164 : Cond.fieldLink "QuestionReader" 183 "QuestionReader$Catalog" "names" "LQuestionReader$Names;" ∈ x_tsl := x_t1 (List.mem_of_getElem? (i := 164) rfl) rfl
theorem w_165 : Cond.fieldLink "QuestionReader$Catalog" 20 "QuestionReader$Catalog" "dimensions" "[LQuestionReader$Dimension;" ∈ x_tsl := x_t1 (List.mem_of_getElem? (i := 165) rfl) rfl
theorem w_166 : Cond.fieldLink "QuestionReader$CatalogGrammar" 95 "QuestionReader$Catalog" "dimensions" "[LQuestionReader$Dimension;" ∈ x_tsl := x_t1 (List.mem_of_getElem? (i := 166) rfl) rfl
theorem w_167 : Cond.fieldLink "QuestionReader$QuestionGrammar" 149 "QuestionReader$Catalog" "dimensions" "[LQuestionReader$Dimension;" ∈ x_tsl := x_t1 (List.mem_of_getElem? (i := 167) rfl) rfl
theorem w_168 : Cond.fieldLink "QuestionReader" 144 "QuestionReader$Catalog" "dimensions" "[LQuestionReader$Dimension;" ∈ x_tsl := x_t1 (List.mem_of_getElem? (i := 168) rfl) rfl
theorem w_169 : Cond.fieldLink "QuestionReader$Catalog" 25 "QuestionReader$Catalog" "dimensionCount" "I" ∈ x_tsl := x_t1 (List.mem_of_getElem? (i := 169) rfl) rfl
theorem w_170 : Cond.fieldLink "QuestionReader$CatalogGrammar" 67 "QuestionReader$Catalog" "dimensionCount" "I" ∈ x_tsl := x_t1 (List.mem_of_getElem? (i := 170) rfl) rfl
theorem w_171 : Cond.fieldLink "QuestionReader$QuestionGrammar" 139 "QuestionReader$Catalog" "dimensionCount" "I" ∈ x_tsl := x_t1 (List.mem_of_getElem? (i := 171) rfl) rfl
theorem w_172 : Cond.fieldLink "QuestionReader" 111 "QuestionReader$Catalog" "dimensionCount" "I" ∈ x_tsl := x_t1 (List.mem_of_getElem? (i := 172) rfl) rfl
theorem w_173 : Cond.fieldLink "QuestionReader$CatalogGrammar" 104 "QuestionReader$Catalog" "measureCount" "I" ∈ x_tsl := x_t1 (List.mem_of_getElem? (i := 173) rfl) rfl
theorem w_174 : Cond.fieldLink "QuestionReader$QuestionGrammar" 132 "QuestionReader$Catalog" "measureCount" "I" ∈ x_tsl := x_t1 (List.mem_of_getElem? (i := 174) rfl) rfl
theorem w_175 : Cond.fieldLink "QuestionReader$Catalog" 50 "QuestionReader$Catalog" "measureCount" "I" ∈ x_tsl := x_t1 (List.mem_of_getElem? (i := 175) rfl) rfl
theorem w_176 : Cond.fieldLink "QuestionReader" 114 "QuestionReader$Catalog" "measureCount" "I" ∈ x_tsl := x_t1 (List.mem_of_getElem? (i := 176) rfl) rfl
theorem w_177 : Cond.fieldLink "QuestionReader$QuestionGrammar" 36 "QuestionReader$Catalog" "isOpen" "Z" ∈ x_tsl := x_t1 (List.mem_of_getElem? (i := 177) rfl) rfl
theorem w_178 : Cond.fieldLink "QuestionReader$CatalogGrammar" 47 "QuestionReader$Catalog" "isOpen" "Z" ∈ x_tsl := x_t1 (List.mem_of_getElem? (i := 178) rfl) rfl
theorem w_179 : Cond.fieldLink "QuestionReader$Catalog" 57 "QuestionReader$Catalog" "isOpen" "Z" ∈ x_tsl := x_t1 (List.mem_of_getElem? (i := 179) rfl) rfl
theorem w_180 : Cond.fieldLink "QuestionReader" 217 "QuestionReader$Catalog" "isOpen" "Z" ∈ x_tsl := x_t1 (List.mem_of_getElem? (i := 180) rfl) rfl
theorem w_181 : Cond.laysFinal "QuestionReader$Catalog" "QuestionReader$Catalog" "names" "LQuestionReader$Names;" ∈ x_tsl := x_t1 (List.mem_of_getElem? (i := 181) rfl) rfl
theorem w_183 : Cond.laysFinal "QuestionReader$Catalog" "QuestionReader$Catalog" "dimensions" "[LQuestionReader$Dimension;" ∈ x_tsl := x_t1 (List.mem_of_getElem? (i := 183) rfl) rfl
theorem w_185 : Cond.lays "QuestionReader$Catalog" "QuestionReader$Catalog" "dimensionCount" "I" ∈ x_tsl := x_t1 (List.mem_of_getElem? (i := 185) rfl) rfl
theorem w_187 : Cond.lays "QuestionReader$Catalog" "QuestionReader$Catalog" "measureCount" "I" ∈ x_tsl := x_t1 (List.mem_of_getElem? (i := 187) rfl) rfl
theorem w_189 : Cond.lays "QuestionReader$Catalog" "QuestionReader$Catalog" "isOpen" "Z" ∈ x_tsl := x_t1 (List.mem_of_getElem? (i := 189) rfl) rfl
theorem w_192 : Cond.classLink "QuestionReader" 32 "QuestionReader$CatalogGrammar" ∈ x_tsl := x_t1 (List.mem_of_getElem? (i := 192) rfl) rfl
theorem w_193 : Cond.instantiable "QuestionReader$CatalogGrammar" 3 ∈ x_tsl := x_t1 (List.mem_of_getElem? (i := 193) rfl) rfl
theorem w_194 : Cond.methodLink "QuestionReader" 34 ⟨"QuestionReader$CatalogGrammar", "<init>", "(LQuestionReader$Lexer;LQuestionReader$Catalog;)V"⟩ ∈ x_tsl := x_t1 (List.mem_of_getElem? (i := 194) rfl) rfl
theorem w_195 : Cond.instanceMethod ⟨"QuestionReader$CatalogGrammar", "<init>", "(LQuestionReader$Lexer;LQuestionReader$Catalog;)V"⟩ ∈ x_tsl := x_t1 (List.mem_of_getElem? (i := 195) rfl) rfl
theorem w_196 : Cond.code ⟨"QuestionReader$CatalogGrammar", "<init>", "(LQuestionReader$Lexer;LQuestionReader$Catalog;)V"⟩ prog_3_method_1_code 3 none ∈ x_tsl := x_t1 (List.mem_of_getElem? (i := 196) rfl) rfl
theorem w_197 : Cond.methodLink "QuestionReader$CatalogGrammar" 3 ⟨"java/lang/Object", "<init>", "()V"⟩ ∈ x_tsl := x_t1 (List.mem_of_getElem? (i := 197) rfl) rfl
theorem w_198 : Cond.fieldLink "QuestionReader$CatalogGrammar" 9 "QuestionReader$CatalogGrammar" "lexer" "LQuestionReader$Lexer;" ∈ x_tsl := x_t1 (List.mem_of_getElem? (i := 198) rfl) rfl
theorem w_199 : Cond.fieldLink "QuestionReader$CatalogGrammar" 15 "QuestionReader$CatalogGrammar" "catalog" "LQuestionReader$Catalog;" ∈ x_tsl := x_t1 (List.mem_of_getElem? (i := 199) rfl) rfl
theorem w_200 : Cond.fieldLink "QuestionReader$CatalogGrammar" 25 "QuestionReader$CatalogGrammar" "names" "LQuestionReader$Names;" ∈ x_tsl := x_t1 (List.mem_of_getElem? (i := 200) rfl) rfl
theorem w_201 : Cond.laysFinal "QuestionReader$CatalogGrammar" "QuestionReader$CatalogGrammar" "lexer" "LQuestionReader$Lexer;" ∈ x_tsl := x_t1 (List.mem_of_getElem? (i := 201) rfl) rfl
theorem w_203 : Cond.laysFinal "QuestionReader$CatalogGrammar" "QuestionReader$CatalogGrammar" "catalog" "LQuestionReader$Catalog;" ∈ x_tsl := x_t1 (List.mem_of_getElem? (i := 203) rfl) rfl
theorem w_205 : Cond.laysFinal "QuestionReader$CatalogGrammar" "QuestionReader$CatalogGrammar" "names" "LQuestionReader$Names;" ∈ x_tsl := x_t1 (List.mem_of_getElem? (i := 205) rfl) rfl
theorem w_208 : Cond.classLink "QuestionReader" 41 "QuestionReader$QuestionGrammar" ∈ x_tsl := x_t1 (List.mem_of_getElem? (i := 208) rfl) rfl
theorem w_209 : Cond.instantiable "QuestionReader$QuestionGrammar" 5 ∈ x_tsl := x_t1 (List.mem_of_getElem? (i := 209) rfl) rfl
theorem w_210 : Cond.methodLink "QuestionReader" 43 ⟨"QuestionReader$QuestionGrammar", "<init>", "(LQuestionReader$Lexer;LQuestionReader$Catalog;)V"⟩ ∈ x_tsl := x_t1 (List.mem_of_getElem? (i := 210) rfl) rfl
theorem w_211 : Cond.instanceMethod ⟨"QuestionReader$QuestionGrammar", "<init>", "(LQuestionReader$Lexer;LQuestionReader$Catalog;)V"⟩ ∈ x_tsl := x_t1 (List.mem_of_getElem? (i := 211) rfl) rfl
theorem w_212 : Cond.code ⟨"QuestionReader$QuestionGrammar", "<init>", "(LQuestionReader$Lexer;LQuestionReader$Catalog;)V"⟩ prog_11_method_1_code 3 none ∈ x_tsl := x_t1 (List.mem_of_getElem? (i := 212) rfl) rfl
theorem w_213 : Cond.methodLink "QuestionReader$QuestionGrammar" 3 ⟨"java/lang/Object", "<init>", "()V"⟩ ∈ x_tsl := x_t1 (List.mem_of_getElem? (i := 213) rfl) rfl
theorem w_214 : Cond.classLink "QuestionReader$QuestionGrammar" 9 "QuestionReader$Question" ∈ x_tsl := x_t1 (List.mem_of_getElem? (i := 214) rfl) rfl
theorem w_215 : Cond.instantiable "QuestionReader$Question" 9 ∈ x_tsl := x_t1 (List.mem_of_getElem? (i := 215) rfl) rfl
theorem w_217 : Cond.instanceMethod ⟨"QuestionReader$Question", "<init>", "()V"⟩ ∈ x_tsl := x_t1 (List.mem_of_getElem? (i := 217) rfl) rfl
theorem w_218 : Cond.code ⟨"QuestionReader$Question", "<init>", "()V"⟩ prog_10_method_1_code 1 none ∈ x_tsl := x_t1 (List.mem_of_getElem? (i := 218) rfl) rfl
theorem w_219 : Cond.methodLink "QuestionReader$Question" 3 ⟨"java/lang/Object", "<init>", "()V"⟩ ∈ x_tsl := x_t1 (List.mem_of_getElem? (i := 219) rfl) rfl
theorem w_220 : Cond.classLink "QuestionReader$Question" 27 "QuestionReader$Condition" ∈ x_tsl := x_t1 (List.mem_of_getElem? (i := 220) rfl) rfl
theorem w_221 : Cond.instantiable "QuestionReader$Condition" 12 ∈ x_tsl := x_t1 (List.mem_of_getElem? (i := 221) rfl) rfl
theorem w_222 : Cond.methodLink "QuestionReader$Question" 29 ⟨"QuestionReader$Condition", "<init>", "()V"⟩ ∈ x_tsl := x_t1 (List.mem_of_getElem? (i := 222) rfl) rfl
theorem w_223 : Cond.instanceMethod ⟨"QuestionReader$Condition", "<init>", "()V"⟩ ∈ x_tsl := x_t1 (List.mem_of_getElem? (i := 223) rfl) rfl
theorem w_224 : Cond.code ⟨"QuestionReader$Condition", "<init>", "()V"⟩ prog_5_method_1_code 2 none ∈ x_tsl := x_t1 (List.mem_of_getElem? (i := 224) rfl) rfl
theorem w_225 : Cond.methodLink "QuestionReader$Condition" 5 ⟨"java/lang/Object", "<init>", "()V"⟩ ∈ x_tsl := x_t1 (List.mem_of_getElem? (i := 225) rfl) rfl
theorem w_226 : Cond.classLink "QuestionReader$Condition" 11 "QuestionReader$Comparison" ∈ x_tsl := x_t1 (List.mem_of_getElem? (i := 226) rfl) rfl
theorem w_228 : Cond.instantiable "QuestionReader$Comparison" 6 ∈ x_tsl := x_t1 (List.mem_of_getElem? (i := 228) rfl) rfl
theorem w_230 : Cond.instanceMethod ⟨"QuestionReader$Comparison", "<init>", "()V"⟩ ∈ x_tsl := x_t1 (List.mem_of_getElem? (i := 230) rfl) rfl
theorem w_231 : Cond.code ⟨"QuestionReader$Comparison", "<init>", "()V"⟩ prog_4_method_1_code 1 none ∈ x_tsl := x_t1 (List.mem_of_getElem? (i := 231) rfl) rfl
theorem w_232 : Cond.methodLink "QuestionReader$Comparison" 1 ⟨"java/lang/Object", "<init>", "()V"⟩ ∈ x_tsl := x_t1 (List.mem_of_getElem? (i := 232) rfl) rfl
theorem w_233 : Cond.fieldLink "QuestionReader$Comparison" 13 "QuestionReader$Comparison" "column" "I" ∈ x_tsl := x_t1 (List.mem_of_getElem? (i := 233) rfl) rfl
theorem w_234 : Cond.fieldLink "QuestionReader$Condition" 65 "QuestionReader$Comparison" "column" "I" ∈ x_tsl := x_t1 (List.mem_of_getElem? (i := 234) rfl) rfl
theorem w_235 : Cond.fieldLink "QuestionReader$Comparison" 17 "QuestionReader$Comparison" "isNegated" "Z" ∈ x_tsl := x_t1 (List.mem_of_getElem? (i := 235) rfl) rfl
theorem w_236 : Cond.fieldLink "QuestionReader$QuestionGrammar" 220 "QuestionReader$Comparison" "isNegated" "Z" ∈ x_tsl := x_t1 (List.mem_of_getElem? (i := 236) rfl) rfl
theorem w_237 : Cond.fieldLink "QuestionReader$Comparison" 24 "QuestionReader$Comparison" "low" "I" ∈ x_tsl := x_t1 (List.mem_of_getElem? (i := 237) rfl) rfl
theorem w_238 : Cond.fieldLink "QuestionReader$Comparison" 27 "QuestionReader$Comparison" "high" "I" ∈ x_tsl := x_t1 (List.mem_of_getElem? (i := 238) rfl) rfl
theorem w_239 : Cond.fieldLink "QuestionReader$Comparison" 21 "QuestionReader$Comparison" "listed" "I" ∈ x_tsl := x_t1 (List.mem_of_getElem? (i := 239) rfl) rfl
theorem w_240 : Cond.fieldLink "QuestionReader$Comparison" 9 "QuestionReader$Comparison" "list" "[I" ∈ x_tsl := x_t2 (List.mem_of_getElem? (i := 0) rfl) rfl
theorem w_241 : Cond.lays "QuestionReader$Comparison" "QuestionReader$Comparison" "column" "I" ∈ x_tsl := x_t2 (List.mem_of_getElem? (i := 1) rfl) rfl
theorem w_243 : Cond.lays "QuestionReader$Comparison" "QuestionReader$Comparison" "isNegated" "Z" ∈ x_tsl := x_t2 (List.mem_of_getElem? (i := 3) rfl) rfl
theorem w_245 : Cond.lays "QuestionReader$Comparison" "QuestionReader$Comparison" "low" "I" ∈ x_tsl := x_t2 (List.mem_of_getElem? (i := 5) rfl) rfl
theorem w_247 : Cond.lays "QuestionReader$Comparison" "QuestionReader$Comparison" "high" "I" ∈ x_tsl := x_t2 (List.mem_of_getElem? (i := 7) rfl) rfl
theorem w_249 : Cond.lays "QuestionReader$Comparison" "QuestionReader$Comparison" "listed" "I" ∈ x_tsl := x_t2 (List.mem_of_getElem? (i := 9) rfl) rfl
theorem w_251 : Cond.laysFinal "QuestionReader$Comparison" "QuestionReader$Comparison" "list" "[I" ∈ x_tsl := x_t2 (List.mem_of_getElem? (i := 11) rfl) rfl
theorem w_254 : Cond.arrayClass FieldType.boolean ∈ x_tsl := x_t2 (List.mem_of_getElem? (i := 14) rfl) rfl
theorem w_255 : Cond.fieldLink "QuestionReader$Condition" 44 "QuestionReader$Condition" "comparisonCount" "I" ∈ x_tsl := x_t2 (List.mem_of_getElem? (i := 15) rfl) rfl
theorem w_256 : Cond.fieldLink "QuestionReader" 130 "QuestionReader$Condition" "comparisonCount" "I" ∈ x_tsl := x_t2 (List.mem_of_getElem? (i := 16) rfl) rfl
theorem w_257 : Cond.fieldLink "QuestionReader$Condition" 51 "QuestionReader$Condition" "depth" "I" ∈ x_tsl := x_t2 (List.mem_of_getElem? (i := 17) rfl) rfl
theorem w_258 : Cond.fieldLink "QuestionReader$QuestionGrammar" 199 "QuestionReader$Condition" "depth" "I" ∈ x_tsl := x_t2 (List.mem_of_getElem? (i := 18) rfl) rfl
theorem w_259 : Cond.fieldLink "QuestionReader$Condition" 13 "QuestionReader$Condition" "comparisons" "[LQuestionReader$Comparison;" ∈ x_tsl := x_t2 (List.mem_of_getElem? (i := 19) rfl) rfl
theorem w_260 : Cond.fieldLink "QuestionReader$Condition" 48 "QuestionReader$Condition" "jointCount" "I" ∈ x_tsl := x_t2 (List.mem_of_getElem? (i := 20) rfl) rfl
theorem w_261 : Cond.fieldLink "QuestionReader$Condition" 17 "QuestionReader$Condition" "lefts" "[I" ∈ x_tsl := x_t2 (List.mem_of_getElem? (i := 21) rfl) rfl
theorem w_262 : Cond.fieldLink "QuestionReader$Condition" 21 "QuestionReader$Condition" "rights" "[I" ∈ x_tsl := x_t2 (List.mem_of_getElem? (i := 22) rfl) rfl
theorem w_263 : Cond.fieldLink "QuestionReader$Condition" 24 "QuestionReader$Condition" "isAnd" "[Z" ∈ x_tsl := x_t2 (List.mem_of_getElem? (i := 23) rfl) rfl
theorem w_264 : Cond.fieldLink "QuestionReader$Condition" 28 "QuestionReader$Condition" "isNegated" "[Z" ∈ x_tsl := x_t2 (List.mem_of_getElem? (i := 24) rfl) rfl
theorem w_265 : Cond.fieldLink "QuestionReader$Condition" 31 "QuestionReader$Condition" "truths" "[Z" ∈ x_tsl := x_t2 (List.mem_of_getElem? (i := 25) rfl) rfl
theorem w_266 : Cond.fieldLink "QuestionReader$Condition" 34 "QuestionReader$Condition" "beforeOr" "[I" ∈ x_tsl := x_t2 (List.mem_of_getElem? (i := 26) rfl) rfl
theorem w_267 : Cond.fieldLink "QuestionReader$Condition" 37 "QuestionReader$Condition" "beforeAnd" "[I" ∈ x_tsl := x_t2 (List.mem_of_getElem? (i := 27) rfl) rfl
theorem w_268 : Cond.fieldLink "QuestionReader$Condition" 40 "QuestionReader$Condition" "isNotAhead" "[Z" ∈ x_tsl := x_t2 (List.mem_of_getElem? (i := 28) rfl) rfl
theorem w_269 : Cond.lays "QuestionReader$Condition" "QuestionReader$Condition" "comparisonCount" "I" ∈ x_tsl := x_t2 (List.mem_of_getElem? (i := 29) rfl) rfl
theorem w_271 : Cond.lays "QuestionReader$Condition" "QuestionReader$Condition" "depth" "I" ∈ x_tsl := x_t2 (List.mem_of_getElem? (i := 31) rfl) rfl
theorem w_273 : Cond.laysFinal "QuestionReader$Condition" "QuestionReader$Condition" "comparisons" "[LQuestionReader$Comparison;" ∈ x_tsl := x_t2 (List.mem_of_getElem? (i := 33) rfl) rfl
theorem w_275 : Cond.lays "QuestionReader$Condition" "QuestionReader$Condition" "jointCount" "I" ∈ x_tsl := x_t2 (List.mem_of_getElem? (i := 35) rfl) rfl
theorem w_277 : Cond.laysFinal "QuestionReader$Condition" "QuestionReader$Condition" "lefts" "[I" ∈ x_tsl := x_t2 (List.mem_of_getElem? (i := 37) rfl) rfl
theorem w_279 : Cond.laysFinal "QuestionReader$Condition" "QuestionReader$Condition" "rights" "[I" ∈ x_tsl := x_t2 (List.mem_of_getElem? (i := 39) rfl) rfl
theorem w_281 : Cond.laysFinal "QuestionReader$Condition" "QuestionReader$Condition" "isAnd" "[Z" ∈ x_tsl := x_t2 (List.mem_of_getElem? (i := 41) rfl) rfl
theorem w_283 : Cond.laysFinal "QuestionReader$Condition" "QuestionReader$Condition" "isNegated" "[Z" ∈ x_tsl := x_t2 (List.mem_of_getElem? (i := 43) rfl) rfl
theorem w_285 : Cond.laysFinal "QuestionReader$Condition" "QuestionReader$Condition" "truths" "[Z" ∈ x_tsl := x_t2 (List.mem_of_getElem? (i := 45) rfl) rfl
theorem w_287 : Cond.laysFinal "QuestionReader$Condition" "QuestionReader$Condition" "beforeOr" "[I" ∈ x_tsl := x_t2 (List.mem_of_getElem? (i := 47) rfl) rfl
theorem w_289 : Cond.laysFinal "QuestionReader$Condition" "QuestionReader$Condition" "beforeAnd" "[I" ∈ x_tsl := x_t2 (List.mem_of_getElem? (i := 49) rfl) rfl
theorem w_291 : Cond.laysFinal "QuestionReader$Condition" "QuestionReader$Condition" "isNotAhead" "[Z" ∈ x_tsl := x_t2 (List.mem_of_getElem? (i := 51) rfl) rfl
theorem w_294 : Cond.fieldLink "QuestionReader$Question" 34 "QuestionReader$Question" "itemCount" "I" ∈ x_tsl := x_t2 (List.mem_of_getElem? (i := 54) rfl) rfl
theorem w_295 : Cond.fieldLink "QuestionReader$QuestionGrammar" 103 "QuestionReader$Question" "itemCount" "I" ∈ x_tsl := x_t2 (List.mem_of_getElem? (i := 55) rfl) rfl
theorem w_296 : Cond.fieldLink "QuestionReader" 117 "QuestionReader$Question" "itemCount" "I" ∈ x_tsl := x_t2 (List.mem_of_getElem? (i := 56) rfl) rfl
theorem w_297 : Cond.fieldLink "QuestionReader$Question" 11 "QuestionReader$Question" "itemTypes" "[I" ∈ x_tsl := x_t2 (List.mem_of_getElem? (i := 57) rfl) rfl
theorem w_298 : Cond.fieldLink "QuestionReader" 192 "QuestionReader$Question" "itemTypes" "[I" ∈ x_tsl := x_t2 (List.mem_of_getElem? (i := 58) rfl) rfl
theorem w_299 : Cond.fieldLink "QuestionReader$Question" 15 "QuestionReader$Question" "itemTargets" "[I" ∈ x_tsl := x_t2 (List.mem_of_getElem? (i := 59) rfl) rfl
theorem w_300 : Cond.fieldLink "QuestionReader" 196 "QuestionReader$Question" "itemTargets" "[I" ∈ x_tsl := x_t2 (List.mem_of_getElem? (i := 60) rfl) rfl
theorem w_301 : Cond.fieldLink "QuestionReader$Question" 18 "QuestionReader$Question" "itemPlaces" "[I" ∈ x_tsl := x_t2 (List.mem_of_getElem? (i := 61) rfl) rfl
theorem w_302 : Cond.fieldLink "QuestionReader$Question" 38 "QuestionReader$Question" "columnCount" "I" ∈ x_tsl := x_t2 (List.mem_of_getElem? (i := 62) rfl) rfl
theorem w_303 : Cond.fieldLink "QuestionReader" 120 "QuestionReader$Question" "columnCount" "I" ∈ x_tsl := x_t2 (List.mem_of_getElem? (i := 63) rfl) rfl
theorem w_304 : Cond.fieldLink "QuestionReader$QuestionGrammar" 275 "QuestionReader$Question" "columnCount" "I" ∈ x_tsl := x_t2 (List.mem_of_getElem? (i := 64) rfl) rfl
theorem w_305 : Cond.fieldLink "QuestionReader$Question" 21 "QuestionReader$Question" "columns" "[I" ∈ x_tsl := x_t2 (List.mem_of_getElem? (i := 65) rfl) rfl
theorem w_306 : Cond.fieldLink "QuestionReader" 199 "QuestionReader$Question" "columns" "[I" ∈ x_tsl := x_t2 (List.mem_of_getElem? (i := 66) rfl) rfl
theorem w_307 : Cond.fieldLink "QuestionReader$Question" 41 "QuestionReader$Question" "setCount" "I" ∈ x_tsl := x_t2 (List.mem_of_getElem? (i := 67) rfl) rfl
theorem w_308 : Cond.fieldLink "QuestionReader" 123 "QuestionReader$Question" "setCount" "I" ∈ x_tsl := x_t2 (List.mem_of_getElem? (i := 68) rfl) rfl
theorem w_309 : Cond.fieldLink "QuestionReader$Question" 24 "QuestionReader$Question" "sets" "[I" ∈ x_tsl := x_t2 (List.mem_of_getElem? (i := 69) rfl) rfl
theorem w_310 : Cond.fieldLink "QuestionReader" 202 "QuestionReader$Question" "sets" "[I" ∈ x_tsl := x_t2 (List.mem_of_getElem? (i := 70) rfl) rfl
theorem w_311 : Cond.fieldLink "QuestionReader$Question" 30 "QuestionReader$Question" "condition" "LQuestionReader$Condition;" ∈ x_tsl := x_t2 (List.mem_of_getElem? (i := 71) rfl) rfl
theorem w_312 : Cond.fieldLink "QuestionReader$QuestionGrammar" 158 "QuestionReader$Question" "condition" "LQuestionReader$Condition;" ∈ x_tsl := x_t2 (List.mem_of_getElem? (i := 72) rfl) rfl
theorem w_313 : Cond.fieldLink "QuestionReader" 126 "QuestionReader$Question" "condition" "LQuestionReader$Condition;" ∈ x_tsl := x_t2 (List.mem_of_getElem? (i := 73) rfl) rfl
theorem w_314 : Cond.lays "QuestionReader$Question" "QuestionReader$Question" "itemCount" "I" ∈ x_tsl := x_t2 (List.mem_of_getElem? (i := 74) rfl) rfl
theorem w_316 : Cond.laysFinal "QuestionReader$Question" "QuestionReader$Question" "itemTypes" "[I" ∈ x_tsl := x_t2 (List.mem_of_getElem? (i := 76) rfl) rfl
theorem w_318 : Cond.laysFinal "QuestionReader$Question" "QuestionReader$Question" "itemTargets" "[I" ∈ x_tsl := x_t2 (List.mem_of_getElem? (i := 78) rfl) rfl
theorem w_320 : Cond.laysFinal "QuestionReader$Question" "QuestionReader$Question" "itemPlaces" "[I" ∈ x_tsl := x_t2 (List.mem_of_getElem? (i := 80) rfl) rfl
theorem w_322 : Cond.lays "QuestionReader$Question" "QuestionReader$Question" "columnCount" "I" ∈ x_tsl := x_t2 (List.mem_of_getElem? (i := 82) rfl) rfl
theorem w_324 : Cond.laysFinal "QuestionReader$Question" "QuestionReader$Question" "columns" "[I" ∈ x_tsl := x_t2 (List.mem_of_getElem? (i := 84) rfl) rfl
theorem w_326 : Cond.lays "QuestionReader$Question" "QuestionReader$Question" "setCount" "I" ∈ x_tsl := x_t2 (List.mem_of_getElem? (i := 86) rfl) rfl
theorem w_328 : Cond.laysFinal "QuestionReader$Question" "QuestionReader$Question" "sets" "[I" ∈ x_tsl := x_t2 (List.mem_of_getElem? (i := 88) rfl) rfl
theorem w_330 : Cond.laysFinal "QuestionReader$Question" "QuestionReader$Question" "condition" "LQuestionReader$Condition;" ∈ x_tsl := x_t2 (List.mem_of_getElem? (i := 90) rfl) rfl
theorem w_333 : Cond.fieldLink "QuestionReader$QuestionGrammar" 21 "QuestionReader$QuestionGrammar" "lexer" "LQuestionReader$Lexer;" ∈ x_tsl := x_t2 (List.mem_of_getElem? (i := 93) rfl) rfl
theorem w_334 : Cond.fieldLink "QuestionReader$QuestionGrammar" 25 "QuestionReader$QuestionGrammar" "catalog" "LQuestionReader$Catalog;" ∈ x_tsl := x_t2 (List.mem_of_getElem? (i := 94) rfl) rfl
theorem w_335 : Cond.fieldLink "QuestionReader$QuestionGrammar" 35 "QuestionReader$QuestionGrammar" "names" "LQuestionReader$Names;" ∈ x_tsl := x_t2 (List.mem_of_getElem? (i := 95) rfl) rfl
theorem w_336 : Cond.fieldLink "QuestionReader$QuestionGrammar" 12 "QuestionReader$QuestionGrammar" "latest" "LQuestionReader$Question;" ∈ x_tsl := x_t2 (List.mem_of_getElem? (i := 96) rfl) rfl
theorem w_337 : Cond.fieldLink "QuestionReader" 71 "QuestionReader$QuestionGrammar" "latest" "LQuestionReader$Question;" ∈ x_tsl := x_t2 (List.mem_of_getElem? (i := 97) rfl) rfl
theorem w_338 : Cond.fieldLink "QuestionReader$QuestionGrammar" 18 "QuestionReader$QuestionGrammar" "draft" "LQuestionReader$Question;" ∈ x_tsl := x_t2 (List.mem_of_getElem? (i := 98) rfl) rfl
theorem w_339 : Cond.laysFinal "QuestionReader$QuestionGrammar" "QuestionReader$QuestionGrammar" "lexer" "LQuestionReader$Lexer;" ∈ x_tsl := x_t2 (List.mem_of_getElem? (i := 99) rfl) rfl
theorem w_341 : Cond.laysFinal "QuestionReader$QuestionGrammar" "QuestionReader$QuestionGrammar" "catalog" "LQuestionReader$Catalog;" ∈ x_tsl := x_t2 (List.mem_of_getElem? (i := 101) rfl) rfl
theorem w_343 : Cond.laysFinal "QuestionReader$QuestionGrammar" "QuestionReader$QuestionGrammar" "names" "LQuestionReader$Names;" ∈ x_tsl := x_t2 (List.mem_of_getElem? (i := 103) rfl) rfl
theorem w_345 : Cond.lays "QuestionReader$QuestionGrammar" "QuestionReader$QuestionGrammar" "latest" "LQuestionReader$Question;" ∈ x_tsl := x_t2 (List.mem_of_getElem? (i := 105) rfl) rfl
theorem w_347 : Cond.lays "QuestionReader$QuestionGrammar" "QuestionReader$QuestionGrammar" "draft" "LQuestionReader$Question;" ∈ x_tsl := x_t2 (List.mem_of_getElem? (i := 107) rfl) rfl
theorem w_350 : Cond.fieldLink "QuestionReader" 10 "QuestionReader" "text" "LQuestionReader$Text;" ∈ x_tsl := x_t2 (List.mem_of_getElem? (i := 110) rfl) rfl
theorem w_351 : Cond.fieldLink "QuestionReader" 21 "QuestionReader" "lexer" "LQuestionReader$Lexer;" ∈ x_tsl := x_t2 (List.mem_of_getElem? (i := 111) rfl) rfl
theorem w_352 : Cond.fieldLink "QuestionReader" 28 "QuestionReader" "catalog" "LQuestionReader$Catalog;" ∈ x_tsl := x_t2 (List.mem_of_getElem? (i := 112) rfl) rfl
theorem w_353 : Cond.fieldLink "QuestionReader" 37 "QuestionReader" "catalogGrammar" "LQuestionReader$CatalogGrammar;" ∈ x_tsl := x_t2 (List.mem_of_getElem? (i := 113) rfl) rfl
theorem w_354 : Cond.fieldLink "QuestionReader" 44 "QuestionReader" "questionGrammar" "LQuestionReader$QuestionGrammar;" ∈ x_tsl := x_t2 (List.mem_of_getElem? (i := 114) rfl) rfl
theorem w_355 : Cond.laysFinal "QuestionReader" "QuestionReader" "text" "LQuestionReader$Text;" ∈ x_tsl := x_t2 (List.mem_of_getElem? (i := 115) rfl) rfl
theorem w_357 : Cond.laysFinal "QuestionReader" "QuestionReader" "lexer" "LQuestionReader$Lexer;" ∈ x_tsl := x_t2 (List.mem_of_getElem? (i := 117) rfl) rfl
theorem w_359 : Cond.laysFinal "QuestionReader" "QuestionReader" "catalog" "LQuestionReader$Catalog;" ∈ x_tsl := x_t2 (List.mem_of_getElem? (i := 119) rfl) rfl
theorem w_361 : Cond.laysFinal "QuestionReader" "QuestionReader" "catalogGrammar" "LQuestionReader$CatalogGrammar;" ∈ x_tsl := x_t2 (List.mem_of_getElem? (i := 121) rfl) rfl
theorem w_363 : Cond.laysFinal "QuestionReader" "QuestionReader" "questionGrammar" "LQuestionReader$QuestionGrammar;" ∈ x_tsl := x_t2 (List.mem_of_getElem? (i := 123) rfl) rfl
theorem w_366 : Cond.methodLink "QuestionReaderLaw" 78 ⟨"QuestionReader", "run", "()I"⟩ ∈ x_tsl := x_t2 (List.mem_of_getElem? (i := 126) rfl) rfl
theorem w_367 : Cond.instanceMethod ⟨"QuestionReader", "run", "()I"⟩ ∈ x_tsl := x_t2 (List.mem_of_getElem? (i := 127) rfl) rfl
theorem w_368 : Cond.selects "QuestionReader" ⟨"QuestionReader", "run", "()I"⟩ ⟨"QuestionReader", "run", "()I"⟩ ∈ x_tsl := x_t2 (List.mem_of_getElem? (i := 128) rfl) rfl
theorem w_369 : Cond.code ⟨"QuestionReader", "run", "()I"⟩ prog_1_method_4_code 4 (Option.some FieldType.int) ∈ x_tsl := x_t2 (List.mem_of_getElem? (i := 129) rfl) rfl
theorem w_370 : Cond.methodLink "QuestionReader" 68 ⟨"QuestionReader$Lexer", "restart", "()V"⟩ ∈ x_tsl := x_t2 (List.mem_of_getElem? (i := 130) rfl) rfl
theorem w_371 : Cond.instanceMethod ⟨"QuestionReader$Lexer", "restart", "()V"⟩ ∈ x_tsl := x_t2 (List.mem_of_getElem? (i := 131) rfl) rfl
theorem w_372 : Cond.selects "QuestionReader$Lexer" ⟨"QuestionReader$Lexer", "restart", "()V"⟩ ⟨"QuestionReader$Lexer", "restart", "()V"⟩ ∈ x_tsl := x_t2 (List.mem_of_getElem? (i := 132) rfl) rfl
theorem w_373 : Cond.code ⟨"QuestionReader$Lexer", "restart", "()V"⟩ prog_8_method_2_code 1 none ∈ x_tsl := x_t2 (List.mem_of_getElem? (i := 133) rfl) rfl
theorem w_374 : Cond.methodLink "QuestionReader" 75 ⟨"QuestionReader$Question", "clear", "()V"⟩ ∈ x_tsl := x_t2 (List.mem_of_getElem? (i := 134) rfl) rfl
theorem w_375 : Cond.instanceMethod ⟨"QuestionReader$Question", "clear", "()V"⟩ ∈ x_tsl := x_t2 (List.mem_of_getElem? (i := 135) rfl) rfl
theorem w_376 : Cond.selects "QuestionReader$Question" ⟨"QuestionReader$Question", "clear", "()V"⟩ ⟨"QuestionReader$Question", "clear", "()V"⟩ ∈ x_tsl := x_t2 (List.mem_of_getElem? (i := 136) rfl) rfl
theorem w_377 : Cond.code ⟨"QuestionReader$Question", "clear", "()V"⟩ prog_10_method_2_code 1 none ∈ x_tsl := x_t2 (List.mem_of_getElem? (i := 137) rfl) rfl
theorem w_378 : Cond.methodLink "QuestionReader$Question" 44 ⟨"QuestionReader$Condition", "clear", "()V"⟩ ∈ x_tsl := x_t2 (List.mem_of_getElem? (i := 138) rfl) rfl
theorem w_379 : Cond.instanceMethod ⟨"QuestionReader$Condition", "clear", "()V"⟩ ∈ x_tsl := x_t2 (List.mem_of_getElem? (i := 139) rfl) rfl
theorem w_380 : Cond.selects "QuestionReader$Condition" ⟨"QuestionReader$Condition", "clear", "()V"⟩ ⟨"QuestionReader$Condition", "clear", "()V"⟩ ∈ x_tsl := x_t2 (List.mem_of_getElem? (i := 140) rfl) rfl
theorem w_381 : Cond.code ⟨"QuestionReader$Condition", "clear", "()V"⟩ prog_5_method_2_code 1 none ∈ x_tsl := x_t2 (List.mem_of_getElem? (i := 141) rfl) rfl
theorem w_382 : Cond.methodLink "QuestionReader$Condition" 54 ⟨"QuestionReader$Condition", "clearLine", "()V"⟩ ∈ x_tsl := x_t2 (List.mem_of_getElem? (i := 142) rfl) rfl
theorem w_384 : Cond.instanceMethod ⟨"QuestionReader$Condition", "clearLine", "()V"⟩ ∈ x_tsl := x_t2 (List.mem_of_getElem? (i := 144) rfl) rfl
theorem w_385 : Cond.code ⟨"QuestionReader$Condition", "clearLine", "()V"⟩ prog_5_method_12_code 1 none ∈ x_tsl := x_t2 (List.mem_of_getElem? (i := 145) rfl) rfl
theorem w_386 : Cond.methodLink "QuestionReader" 80 ⟨"QuestionReader$Lexer", "advance", "()V"⟩ ∈ x_tsl := x_t2 (List.mem_of_getElem? (i := 146) rfl) rfl
theorem w_387 : Cond.instanceMethod ⟨"QuestionReader$Lexer", "advance", "()V"⟩ ∈ x_tsl := x_t2 (List.mem_of_getElem? (i := 147) rfl) rfl
theorem w_388 : Cond.selects "QuestionReader$Lexer" ⟨"QuestionReader$Lexer", "advance", "()V"⟩ ⟨"QuestionReader$Lexer", "advance", "()V"⟩ ∈ x_tsl := x_t2 (List.mem_of_getElem? (i := 148) rfl) rfl
theorem w_389 : Cond.code ⟨"QuestionReader$Lexer", "advance", "()V"⟩ prog_8_method_3_code 3 none ∈ x_tsl := x_t2 (List.mem_of_getElem? (i := 149) rfl) rfl
theorem w_390 : Cond.methodLink "QuestionReader$Lexer" 34 ⟨"QuestionReader$Lexer", "skipBlanks", "()V"⟩ ∈ x_tsl := x_t2 (List.mem_of_getElem? (i := 150) rfl) rfl
theorem w_392 : Cond.instanceMethod ⟨"QuestionReader$Lexer", "skipBlanks", "()V"⟩ ∈ x_tsl := x_t2 (List.mem_of_getElem? (i := 152) rfl) rfl
theorem w_393 : Cond.code ⟨"QuestionReader$Lexer", "skipBlanks", "()V"⟩ prog_8_method_10_code 3 none ∈ x_tsl := x_t2 (List.mem_of_getElem? (i := 153) rfl) rfl
theorem w_394 : Cond.methodLink "QuestionReader$Lexer" 56 ⟨"QuestionReader$Lexer", "isLetter", "(I)Z"⟩ ∈ x_tsl := x_t2 (List.mem_of_getElem? (i := 154) rfl) rfl
theorem w_395 : Cond.static ⟨"QuestionReader$Lexer", "isLetter", "(I)Z"⟩ ∈ x_tsl := x_t2 (List.mem_of_getElem? (i := 155) rfl) rfl
theorem w_396 : Cond.code ⟨"QuestionReader$Lexer", "isLetter", "(I)Z"⟩ prog_8_method_15_code 1 (Option.some FieldType.boolean) ∈ x_tsl := x_t2 (List.mem_of_getElem? (i := 156) rfl) rfl
theorem w_397 : Cond.methodLink "QuestionReader$Lexer" 60 ⟨"QuestionReader$Lexer", "scanWord", "()J"⟩ ∈ x_tsl := x_t2 (List.mem_of_getElem? (i := 157) rfl) rfl
theorem w_399 : Cond.instanceMethod ⟨"QuestionReader$Lexer", "scanWord", "()J"⟩ ∈ x_tsl := x_t2 (List.mem_of_getElem? (i := 159) rfl) rfl
theorem w_400 : Cond.code ⟨"QuestionReader$Lexer", "scanWord", "()J"⟩ prog_8_method_11_code 5 (Option.some FieldType.long) ∈ x_tsl := x_t2 (List.mem_of_getElem? (i := 160) rfl) rfl
theorem w_401 : Cond.fieldLink "QuestionReader$Lexer" 66 "QuestionReader$Kind" "TOO_LONG" "LQuestionReader$Kind;" ∈ x_tsl := x_t2 (List.mem_of_getElem? (i := 161) rfl) rfl
theorem w_403 : Cond.fieldLink "QuestionReader$Lexer" 69 "QuestionReader$Kind" "NAME" "LQuestionReader$Kind;" ∈ x_tsl := x_t2 (List.mem_of_getElem? (i := 163) rfl) rfl
theorem w_405 : Cond.methodLink "QuestionReader$Lexer" 72 ⟨"QuestionReader$Kind", "spelled", "(JLQuestionReader$Kind;)LQuestionReader$Kind;"⟩ ∈ x_tsl := x_t2 (List.mem_of_getElem? (i := 165) rfl) rfl
theorem w_406 : Cond.static ⟨"QuestionReader$Kind", "spelled", "(JLQuestionReader$Kind;)LQuestionReader$Kind;"⟩ ∈ x_tsl := x_t2 (List.mem_of_getElem? (i := 166) rfl) rfl
theorem w_407 : Cond.code ⟨"QuestionReader$Kind", "spelled", "(JLQuestionReader$Kind;)LQuestionReader$Kind;"⟩ prog_7_method_4_code 4 (Option.some (FieldType.object "QuestionReader$Kind")) ∈ x_tsl := x_t2 (List.mem_of_getElem? (i := 167) rfl) rfl
theorem w_408 : Cond.fieldLink "QuestionReader$Kind" 145 "QuestionReader$Kind" "ALL" "[LQuestionReader$Kind;" ∈ x_tsl := x_t2 (List.mem_of_getElem? (i := 168) rfl) rfl
theorem w_410 : Cond.methodLink "QuestionReader$Lexer" 76 ⟨"QuestionReader$Lexer", "isDigit", "(I)Z"⟩ ∈ x_tsl := x_t2 (List.mem_of_getElem? (i := 170) rfl) rfl
theorem w_412 : Cond.instanceMethod ⟨"QuestionReader$Lexer", "isDigit", "(I)Z"⟩ ∈ x_tsl := x_t2 (List.mem_of_getElem? (i := 172) rfl) rfl
theorem w_413 : Cond.code ⟨"QuestionReader$Lexer", "isDigit", "(I)Z"⟩ prog_8_method_14_code 2 (Option.some FieldType.boolean) ∈ x_tsl := x_t2 (List.mem_of_getElem? (i := 173) rfl) rfl
theorem w_414 : Cond.methodLink "QuestionReader$Lexer" 79 ⟨"QuestionReader$Lexer", "scanNumber", "()J"⟩ ∈ x_tsl := x_t2 (List.mem_of_getElem? (i := 174) rfl) rfl
theorem w_416 : Cond.instanceMethod ⟨"QuestionReader$Lexer", "scanNumber", "()J"⟩ ∈ x_tsl := x_t2 (List.mem_of_getElem? (i := 176) rfl) rfl
theorem w_417 : Cond.code ⟨"QuestionReader$Lexer", "scanNumber", "()J"⟩ prog_8_method_12_code 6 (Option.some FieldType.long) ∈ x_tsl := x_t2 (List.mem_of_getElem? (i := 177) rfl) rfl
theorem w_418 : Cond.constantLong "QuestionReader$Lexer" 105 (2147483648 : Int64) ∈ x_tsl := x_t2 (List.mem_of_getElem? (i := 178) rfl) rfl
theorem w_419 : Cond.constantLong "QuestionReader$Lexer" 107 (10 : Int64) ∈ x_tsl := x_t2 (List.mem_of_getElem? (i := 179) rfl) rfl
theorem w_420 : Cond.fieldLink "QuestionReader$Lexer" 85 "QuestionReader$Kind" "NUMBER" "LQuestionReader$Kind;" ∈ x_tsl := x_t2 (List.mem_of_getElem? (i := 180) rfl) rfl
theorem w_422 : Cond.fieldLink "QuestionReader$Lexer" 88 "QuestionReader$Kind" "WRONG" "LQuestionReader$Kind;" ∈ x_tsl := x_t2 (List.mem_of_getElem? (i := 182) rfl) rfl
theorem w_424 : Cond.methodLink "QuestionReader$Lexer" 91 ⟨"QuestionReader$Lexer", "scanSign", "()J"⟩ ∈ x_tsl := x_t2 (List.mem_of_getElem? (i := 184) rfl) rfl
theorem w_426 : Cond.instanceMethod ⟨"QuestionReader$Lexer", "scanSign", "()J"⟩ ∈ x_tsl := x_t2 (List.mem_of_getElem? (i := 186) rfl) rfl
theorem w_427 : Cond.code ⟨"QuestionReader$Lexer", "scanSign", "()J"⟩ prog_8_method_13_code 4 (Option.some FieldType.long) ∈ x_tsl := x_t2 (List.mem_of_getElem? (i := 187) rfl) rfl
theorem w_428 : Cond.fieldLink "QuestionReader" 87 "QuestionReader$Kind" "SELECT" "LQuestionReader$Kind;" ∈ x_tsl := x_t2 (List.mem_of_getElem? (i := 188) rfl) rfl
theorem w_430 : Cond.methodLink "QuestionReader" 92 ⟨"QuestionReader$QuestionGrammar", "readQuestion", "()Z"⟩ ∈ x_tsl := x_t2 (List.mem_of_getElem? (i := 190) rfl) rfl
theorem w_431 : Cond.instanceMethod ⟨"QuestionReader$QuestionGrammar", "readQuestion", "()Z"⟩ ∈ x_tsl := x_t2 (List.mem_of_getElem? (i := 191) rfl) rfl
theorem w_432 : Cond.selects "QuestionReader$QuestionGrammar" ⟨"QuestionReader$QuestionGrammar", "readQuestion", "()Z"⟩ ⟨"QuestionReader$QuestionGrammar", "readQuestion", "()Z"⟩ ∈ x_tsl := x_t2 (List.mem_of_getElem? (i := 192) rfl) rfl
theorem w_433 : Cond.code ⟨"QuestionReader$QuestionGrammar", "readQuestion", "()Z"⟩ prog_11_method_2_code 3 (Option.some FieldType.boolean) ∈ x_tsl := x_t2 (List.mem_of_getElem? (i := 193) rfl) rfl
theorem w_434 : Cond.methodLink "QuestionReader$QuestionGrammar" 42 ⟨"QuestionReader$Lexer", "tellHere", "(I)Z"⟩ ∈ x_tsl := x_t2 (List.mem_of_getElem? (i := 194) rfl) rfl
theorem w_435 : Cond.instanceMethod ⟨"QuestionReader$Lexer", "tellHere", "(I)Z"⟩ ∈ x_tsl := x_t2 (List.mem_of_getElem? (i := 195) rfl) rfl
theorem w_436 : Cond.selects "QuestionReader$Lexer" ⟨"QuestionReader$Lexer", "tellHere", "(I)Z"⟩ ⟨"QuestionReader$Lexer", "tellHere", "(I)Z"⟩ ∈ x_tsl := x_t2 (List.mem_of_getElem? (i := 196) rfl) rfl
theorem w_437 : Cond.code ⟨"QuestionReader$Lexer", "tellHere", "(I)Z"⟩ prog_8_method_8_code 2 (Option.some FieldType.boolean) ∈ x_tsl := x_t2 (List.mem_of_getElem? (i := 197) rfl) rfl
theorem w_438 : Cond.methodLink "QuestionReader$Lexer" 101 ⟨"QuestionReader$Lexer", "tell", "(II)Z"⟩ ∈ x_tsl := x_t2 (List.mem_of_getElem? (i := 198) rfl) rfl
theorem w_439 : Cond.instanceMethod ⟨"QuestionReader$Lexer", "tell", "(II)Z"⟩ ∈ x_tsl := x_t2 (List.mem_of_getElem? (i := 199) rfl) rfl
theorem w_440 : Cond.selects "QuestionReader$Lexer" ⟨"QuestionReader$Lexer", "tell", "(II)Z"⟩ ⟨"QuestionReader$Lexer", "tell", "(II)Z"⟩ ∈ x_tsl := x_t2 (List.mem_of_getElem? (i := 200) rfl) rfl
theorem w_441 : Cond.code ⟨"QuestionReader$Lexer", "tell", "(II)Z"⟩ prog_8_method_9_code 3 (Option.some FieldType.boolean) ∈ x_tsl := x_t2 (List.mem_of_getElem? (i := 201) rfl) rfl
theorem w_442 : Cond.methodLink "QuestionReader$QuestionGrammar" 46 ⟨"QuestionReader$Question", "restart", "()V"⟩ ∈ x_tsl := x_t2 (List.mem_of_getElem? (i := 202) rfl) rfl
theorem w_443 : Cond.instanceMethod ⟨"QuestionReader$Question", "restart", "()V"⟩ ∈ x_tsl := x_t2 (List.mem_of_getElem? (i := 203) rfl) rfl
theorem w_444 : Cond.selects "QuestionReader$Question" ⟨"QuestionReader$Question", "restart", "()V"⟩ ⟨"QuestionReader$Question", "restart", "()V"⟩ ∈ x_tsl := x_t2 (List.mem_of_getElem? (i := 204) rfl) rfl
theorem w_445 : Cond.code ⟨"QuestionReader$Question", "restart", "()V"⟩ prog_10_method_3_code 1 none ∈ x_tsl := x_t2 (List.mem_of_getElem? (i := 205) rfl) rfl
theorem w_446 : Cond.methodLink "QuestionReader$Question" 47 ⟨"QuestionReader$Question", "clear", "()V"⟩ ∈ x_tsl := x_t2 (List.mem_of_getElem? (i := 206) rfl) rfl
theorem w_447 : Cond.methodLink "QuestionReader$QuestionGrammar" 49 ⟨"QuestionReader$QuestionGrammar", "readItems", "()Z"⟩ ∈ x_tsl := x_t2 (List.mem_of_getElem? (i := 207) rfl) rfl
theorem w_449 : Cond.instanceMethod ⟨"QuestionReader$QuestionGrammar", "readItems", "()Z"⟩ ∈ x_tsl := x_t2 (List.mem_of_getElem? (i := 209) rfl) rfl
theorem w_450 : Cond.code ⟨"QuestionReader$QuestionGrammar", "readItems", "()Z"⟩ prog_11_method_3_code 2 (Option.some FieldType.boolean) ∈ x_tsl := x_t2 (List.mem_of_getElem? (i := 210) rfl) rfl
theorem w_451 : Cond.methodLink "QuestionReader$QuestionGrammar" 86 ⟨"QuestionReader$Lexer", "advance", "()V"⟩ ∈ x_tsl := x_t2 (List.mem_of_getElem? (i := 211) rfl) rfl
theorem w_452 : Cond.methodLink "QuestionReader$QuestionGrammar" 89 ⟨"QuestionReader$QuestionGrammar", "readItem", "()Z"⟩ ∈ x_tsl := x_t2 (List.mem_of_getElem? (i := 212) rfl) rfl
theorem w_454 : Cond.instanceMethod ⟨"QuestionReader$QuestionGrammar", "readItem", "()Z"⟩ ∈ x_tsl := x_t2 (List.mem_of_getElem? (i := 214) rfl) rfl
theorem w_455 : Cond.code ⟨"QuestionReader$QuestionGrammar", "readItem", "()Z"⟩ prog_11_method_4_code 5 (Option.some FieldType.boolean) ∈ x_tsl := x_t2 (List.mem_of_getElem? (i := 215) rfl) rfl
theorem w_456 : Cond.methodLink "QuestionReader$QuestionGrammar" 99 ⟨"QuestionReader$QuestionGrammar", "itemType", "(LQuestionReader$Kind;)I"⟩ ∈ x_tsl := x_t2 (List.mem_of_getElem? (i := 216) rfl) rfl
theorem w_457 : Cond.static ⟨"QuestionReader$QuestionGrammar", "itemType", "(LQuestionReader$Kind;)I"⟩ ∈ x_tsl := x_t2 (List.mem_of_getElem? (i := 217) rfl) rfl
theorem w_458 : Cond.code ⟨"QuestionReader$QuestionGrammar", "itemType", "(LQuestionReader$Kind;)I"⟩ prog_11_method_15_code 1 (Option.some FieldType.int) ∈ x_tsl := x_t2 (List.mem_of_getElem? (i := 218) rfl) rfl
theorem w_459 : Cond.fieldLink "QuestionReader$QuestionGrammar" 284 "QuestionReader$Kind" "SUM" "LQuestionReader$Kind;" ∈ x_tsl := x_t2 (List.mem_of_getElem? (i := 219) rfl) rfl
theorem w_461 : Cond.fieldLink "QuestionReader$QuestionGrammar" 287 "QuestionReader$Kind" "MIN" "LQuestionReader$Kind;" ∈ x_tsl := x_t2 (List.mem_of_getElem? (i := 221) rfl) rfl
theorem w_463 : Cond.fieldLink "QuestionReader$QuestionGrammar" 290 "QuestionReader$Kind" "MAX" "LQuestionReader$Kind;" ∈ x_tsl := x_t2 (List.mem_of_getElem? (i := 223) rfl) rfl
theorem w_465 : Cond.fieldLink "QuestionReader$QuestionGrammar" 293 "QuestionReader$Kind" "COUNT" "LQuestionReader$Kind;" ∈ x_tsl := x_t2 (List.mem_of_getElem? (i := 225) rfl) rfl
theorem w_467 : Cond.fieldLink "QuestionReader$QuestionGrammar" 296 "QuestionReader$Kind" "GROUPING" "LQuestionReader$Kind;" ∈ x_tsl := x_t2 (List.mem_of_getElem? (i := 227) rfl) rfl
theorem w_469 : Cond.methodLink "QuestionReader$QuestionGrammar" 106 ⟨"QuestionReader$QuestionGrammar", "readColumn", "(Z)I"⟩ ∈ x_tsl := x_t2 (List.mem_of_getElem? (i := 229) rfl) rfl
theorem w_471 : Cond.instanceMethod ⟨"QuestionReader$QuestionGrammar", "readColumn", "(Z)I"⟩ ∈ x_tsl := x_t2 (List.mem_of_getElem? (i := 231) rfl) rfl
theorem w_472 : Cond.code ⟨"QuestionReader$QuestionGrammar", "readColumn", "(Z)I"⟩ prog_11_method_6_code 5 (Option.some FieldType.int) ∈ x_tsl := x_t2 (List.mem_of_getElem? (i := 232) rfl) rfl
theorem w_473 : Cond.methodLink "QuestionReader$QuestionGrammar" 135 ⟨"QuestionReader$Names", "read", "(IILQuestionReader$Lexer;)I"⟩ ∈ x_tsl := x_t2 (List.mem_of_getElem? (i := 233) rfl) rfl
theorem w_474 : Cond.instanceMethod ⟨"QuestionReader$Names", "read", "(IILQuestionReader$Lexer;)I"⟩ ∈ x_tsl := x_t2 (List.mem_of_getElem? (i := 234) rfl) rfl
theorem w_475 : Cond.selects "QuestionReader$Names" ⟨"QuestionReader$Names", "read", "(IILQuestionReader$Lexer;)I"⟩ ⟨"QuestionReader$Names", "read", "(IILQuestionReader$Lexer;)I"⟩ ∈ x_tsl := x_t2 (List.mem_of_getElem? (i := 235) rfl) rfl
theorem w_476 : Cond.code ⟨"QuestionReader$Names", "read", "(IILQuestionReader$Lexer;)I"⟩ prog_9_method_4_code 5 (Option.some FieldType.int) ∈ x_tsl := x_t2 (List.mem_of_getElem? (i := 236) rfl) rfl
theorem w_477 : Cond.methodLink "QuestionReader$Names" 43 ⟨"QuestionReader$Lexer", "atName", "()Z"⟩ ∈ x_tsl := x_t2 (List.mem_of_getElem? (i := 237) rfl) rfl
theorem w_478 : Cond.instanceMethod ⟨"QuestionReader$Lexer", "atName", "()Z"⟩ ∈ x_tsl := x_t2 (List.mem_of_getElem? (i := 238) rfl) rfl
theorem w_479 : Cond.selects "QuestionReader$Lexer" ⟨"QuestionReader$Lexer", "atName", "()Z"⟩ ⟨"QuestionReader$Lexer", "atName", "()Z"⟩ ∈ x_tsl := x_t2 (List.mem_of_getElem? (i := 239) rfl) rfl
theorem w_480 : Cond.code ⟨"QuestionReader$Lexer", "atName", "()Z"⟩ prog_8_method_6_code 1 (Option.some FieldType.boolean) ∈ x_tsl := x_t3 (List.mem_of_getElem? (i := 0) rfl) rfl
theorem w_481 : Cond.methodLink "QuestionReader$Names" 47 ⟨"QuestionReader$Names", "search", "(IILQuestionReader$Lexer;)I"⟩ ∈ x_tsl := x_t3 (List.mem_of_getElem? (i := 1) rfl) rfl
theorem w_482 : Cond.instanceMethod ⟨"QuestionReader$Names", "search", "(IILQuestionReader$Lexer;)I"⟩ ∈ x_tsl := x_t3 (List.mem_of_getElem? (i := 2) rfl) rfl
theorem w_483 : Cond.selects "QuestionReader$Names" ⟨"QuestionReader$Names", "search", "(IILQuestionReader$Lexer;)I"⟩ ⟨"QuestionReader$Names", "search", "(IILQuestionReader$Lexer;)I"⟩ ∈ x_tsl := x_t3 (List.mem_of_getElem? (i := 3) rfl) rfl
theorem w_484 : Cond.code ⟨"QuestionReader$Names", "search", "(IILQuestionReader$Lexer;)I"⟩ prog_9_method_5_code 5 (Option.some FieldType.int) ∈ x_tsl := x_t3 (List.mem_of_getElem? (i := 4) rfl) rfl
theorem w_485 : Cond.methodLink "QuestionReader$Names" 55 ⟨"QuestionReader$Names", "isSame", "(ILQuestionReader$Lexer;)Z"⟩ ∈ x_tsl := x_t3 (List.mem_of_getElem? (i := 5) rfl) rfl
theorem w_487 : Cond.instanceMethod ⟨"QuestionReader$Names", "isSame", "(ILQuestionReader$Lexer;)Z"⟩ ∈ x_tsl := x_t3 (List.mem_of_getElem? (i := 7) rfl) rfl
theorem w_488 : Cond.code ⟨"QuestionReader$Names", "isSame", "(ILQuestionReader$Lexer;)Z"⟩ prog_9_method_6_code 5 (Option.some FieldType.boolean) ∈ x_tsl := x_t3 (List.mem_of_getElem? (i := 8) rfl) rfl
theorem w_489 : Cond.methodLink "QuestionReader$Names" 51 ⟨"QuestionReader$Lexer", "tellHere", "(I)Z"⟩ ∈ x_tsl := x_t3 (List.mem_of_getElem? (i := 9) rfl) rfl
theorem w_490 : Cond.fieldLink "QuestionReader$QuestionGrammar" 142 "QuestionReader$Kind" "DOT" "LQuestionReader$Kind;" ∈ x_tsl := x_t3 (List.mem_of_getElem? (i := 10) rfl) rfl
theorem w_492 : Cond.methodLink "QuestionReader$QuestionGrammar" 113 ⟨"QuestionReader$Lexer", "next", "(LQuestionReader$Kind;)Z"⟩ ∈ x_tsl := x_t3 (List.mem_of_getElem? (i := 12) rfl) rfl
theorem w_493 : Cond.instanceMethod ⟨"QuestionReader$Lexer", "next", "(LQuestionReader$Kind;)Z"⟩ ∈ x_tsl := x_t3 (List.mem_of_getElem? (i := 13) rfl) rfl
theorem w_494 : Cond.selects "QuestionReader$Lexer" ⟨"QuestionReader$Lexer", "next", "(LQuestionReader$Kind;)Z"⟩ ⟨"QuestionReader$Lexer", "next", "(LQuestionReader$Kind;)Z"⟩ ∈ x_tsl := x_t3 (List.mem_of_getElem? (i := 14) rfl) rfl
theorem w_495 : Cond.code ⟨"QuestionReader$Lexer", "next", "(LQuestionReader$Kind;)Z"⟩ prog_8_method_4_code 2 (Option.some FieldType.boolean) ∈ x_tsl := x_t3 (List.mem_of_getElem? (i := 15) rfl) rfl
theorem w_496 : Cond.methodLink "QuestionReader$Lexer" 94 ⟨"QuestionReader$Lexer", "advance", "()V"⟩ ∈ x_tsl := x_t3 (List.mem_of_getElem? (i := 16) rfl) rfl
theorem w_497 : Cond.methodLink "QuestionReader$Lexer" 97 ⟨"QuestionReader$Lexer", "at", "(LQuestionReader$Kind;)Z"⟩ ∈ x_tsl := x_t3 (List.mem_of_getElem? (i := 17) rfl) rfl
theorem w_498 : Cond.instanceMethod ⟨"QuestionReader$Lexer", "at", "(LQuestionReader$Kind;)Z"⟩ ∈ x_tsl := x_t3 (List.mem_of_getElem? (i := 18) rfl) rfl
theorem w_499 : Cond.selects "QuestionReader$Lexer" ⟨"QuestionReader$Lexer", "at", "(LQuestionReader$Kind;)Z"⟩ ⟨"QuestionReader$Lexer", "at", "(LQuestionReader$Kind;)Z"⟩ ∈ x_tsl := x_t3 (List.mem_of_getElem? (i := 19) rfl) rfl
theorem w_500 : Cond.code ⟨"QuestionReader$Lexer", "at", "(LQuestionReader$Kind;)Z"⟩ prog_8_method_5_code 2 (Option.some FieldType.boolean) ∈ x_tsl := x_t3 (List.mem_of_getElem? (i := 20) rfl) rfl
theorem w_501 : Cond.methodLink "QuestionReader$QuestionGrammar" 145 ⟨"QuestionReader$Catalog", "columnNumber", "(II)I"⟩ ∈ x_tsl := x_t3 (List.mem_of_getElem? (i := 21) rfl) rfl
theorem w_502 : Cond.static ⟨"QuestionReader$Catalog", "columnNumber", "(II)I"⟩ ∈ x_tsl := x_t3 (List.mem_of_getElem? (i := 22) rfl) rfl
theorem w_503 : Cond.code ⟨"QuestionReader$Catalog", "columnNumber", "(II)I"⟩ prog_2_method_9_code 2 (Option.some FieldType.int) ∈ x_tsl := x_t3 (List.mem_of_getElem? (i := 23) rfl) rfl
theorem w_504 : Cond.fieldLink "QuestionReader$QuestionGrammar" 110 "QuestionReader$Kind" "OPENING" "LQuestionReader$Kind;" ∈ x_tsl := x_t3 (List.mem_of_getElem? (i := 24) rfl) rfl
theorem w_506 : Cond.methodLink "QuestionReader$QuestionGrammar" 116 ⟨"QuestionReader$QuestionGrammar", "readSummed", "(I)I"⟩ ∈ x_tsl := x_t3 (List.mem_of_getElem? (i := 26) rfl) rfl
theorem w_508 : Cond.instanceMethod ⟨"QuestionReader$QuestionGrammar", "readSummed", "(I)I"⟩ ∈ x_tsl := x_t3 (List.mem_of_getElem? (i := 28) rfl) rfl
theorem w_509 : Cond.code ⟨"QuestionReader$QuestionGrammar", "readSummed", "(I)I"⟩ prog_11_method_5_code 2 (Option.some FieldType.int) ∈ x_tsl := x_t3 (List.mem_of_getElem? (i := 29) rfl) rfl
theorem w_510 : Cond.fieldLink "QuestionReader$QuestionGrammar" 127 "QuestionReader$Kind" "STAR" "LQuestionReader$Kind;" ∈ x_tsl := x_t3 (List.mem_of_getElem? (i := 30) rfl) rfl
theorem w_512 : Cond.methodLink "QuestionReader$QuestionGrammar" 74 ⟨"QuestionReader$Lexer", "at", "(LQuestionReader$Kind;)Z"⟩ ∈ x_tsl := x_t3 (List.mem_of_getElem? (i := 32) rfl) rfl
theorem w_513 : Cond.fieldLink "QuestionReader$QuestionGrammar" 120 "QuestionReader$Kind" "CLOSING" "LQuestionReader$Kind;" ∈ x_tsl := x_t3 (List.mem_of_getElem? (i := 33) rfl) rfl
theorem w_515 : Cond.methodLink "QuestionReader$QuestionGrammar" 123 ⟨"QuestionReader$Question", "addItem", "(III)V"⟩ ∈ x_tsl := x_t3 (List.mem_of_getElem? (i := 35) rfl) rfl
theorem w_516 : Cond.instanceMethod ⟨"QuestionReader$Question", "addItem", "(III)V"⟩ ∈ x_tsl := x_t3 (List.mem_of_getElem? (i := 36) rfl) rfl
theorem w_517 : Cond.selects "QuestionReader$Question" ⟨"QuestionReader$Question", "addItem", "(III)V"⟩ ⟨"QuestionReader$Question", "addItem", "(III)V"⟩ ∈ x_tsl := x_t3 (List.mem_of_getElem? (i := 37) rfl) rfl
theorem w_518 : Cond.code ⟨"QuestionReader$Question", "addItem", "(III)V"⟩ prog_10_method_5_code 4 none ∈ x_tsl := x_t3 (List.mem_of_getElem? (i := 38) rfl) rfl
theorem w_519 : Cond.fieldLink "QuestionReader$QuestionGrammar" 92 "QuestionReader$Kind" "COMMA" "LQuestionReader$Kind;" ∈ x_tsl := x_t3 (List.mem_of_getElem? (i := 39) rfl) rfl
theorem w_521 : Cond.fieldLink "QuestionReader$QuestionGrammar" 57 "QuestionReader$Kind" "WHERE" "LQuestionReader$Kind;" ∈ x_tsl := x_t3 (List.mem_of_getElem? (i := 41) rfl) rfl
theorem w_523 : Cond.methodLink "QuestionReader$QuestionGrammar" 62 ⟨"QuestionReader$QuestionGrammar", "readWhere", "()Z"⟩ ∈ x_tsl := x_t3 (List.mem_of_getElem? (i := 43) rfl) rfl
theorem w_525 : Cond.instanceMethod ⟨"QuestionReader$QuestionGrammar", "readWhere", "()Z"⟩ ∈ x_tsl := x_t3 (List.mem_of_getElem? (i := 45) rfl) rfl
theorem w_526 : Cond.code ⟨"QuestionReader$QuestionGrammar", "readWhere", "()Z"⟩ prog_11_method_7_code 3 (Option.some FieldType.boolean) ∈ x_tsl := x_t3 (List.mem_of_getElem? (i := 46) rfl) rfl
theorem w_527 : Cond.constant "QuestionReader$QuestionGrammar" 164 (65536 : Int32) ∈ x_tsl := x_t3 (List.mem_of_getElem? (i := 47) rfl) rfl
theorem w_528 : Cond.fieldLink "QuestionReader$QuestionGrammar" 165 "QuestionReader$Kind" "NOT" "LQuestionReader$Kind;" ∈ x_tsl := x_t3 (List.mem_of_getElem? (i := 48) rfl) rfl
theorem w_530 : Cond.methodLink "QuestionReader$QuestionGrammar" 168 ⟨"QuestionReader$Condition", "negateNext", "()V"⟩ ∈ x_tsl := x_t3 (List.mem_of_getElem? (i := 50) rfl) rfl
theorem w_531 : Cond.instanceMethod ⟨"QuestionReader$Condition", "negateNext", "()V"⟩ ∈ x_tsl := x_t3 (List.mem_of_getElem? (i := 51) rfl) rfl
theorem w_532 : Cond.selects "QuestionReader$Condition" ⟨"QuestionReader$Condition", "negateNext", "()V"⟩ ⟨"QuestionReader$Condition", "negateNext", "()V"⟩ ∈ x_tsl := x_t3 (List.mem_of_getElem? (i := 52) rfl) rfl
theorem w_533 : Cond.code ⟨"QuestionReader$Condition", "negateNext", "()V"⟩ prog_5_method_6_code 1 none ∈ x_tsl := x_t3 (List.mem_of_getElem? (i := 53) rfl) rfl
theorem w_534 : Cond.methodLink "QuestionReader$QuestionGrammar" 173 ⟨"QuestionReader$Condition", "openBracket", "()Z"⟩ ∈ x_tsl := x_t3 (List.mem_of_getElem? (i := 54) rfl) rfl
theorem w_535 : Cond.instanceMethod ⟨"QuestionReader$Condition", "openBracket", "()Z"⟩ ∈ x_tsl := x_t3 (List.mem_of_getElem? (i := 55) rfl) rfl
theorem w_536 : Cond.selects "QuestionReader$Condition" ⟨"QuestionReader$Condition", "openBracket", "()Z"⟩ ⟨"QuestionReader$Condition", "openBracket", "()Z"⟩ ∈ x_tsl := x_t3 (List.mem_of_getElem? (i := 56) rfl) rfl
theorem w_537 : Cond.code ⟨"QuestionReader$Condition", "openBracket", "()Z"⟩ prog_5_method_7_code 1 (Option.some FieldType.boolean) ∈ x_tsl := x_t3 (List.mem_of_getElem? (i := 57) rfl) rfl
theorem w_538 : Cond.methodLink "QuestionReader$QuestionGrammar" 176 ⟨"QuestionReader$QuestionGrammar", "readComparison", "(LQuestionReader$Condition;)Z"⟩ ∈ x_tsl := x_t3 (List.mem_of_getElem? (i := 58) rfl) rfl
theorem w_540 : Cond.instanceMethod ⟨"QuestionReader$QuestionGrammar", "readComparison", "(LQuestionReader$Condition;)Z"⟩ ∈ x_tsl := x_t3 (List.mem_of_getElem? (i := 60) rfl) rfl
theorem w_541 : Cond.code ⟨"QuestionReader$QuestionGrammar", "readComparison", "(LQuestionReader$Condition;)Z"⟩ prog_11_method_9_code 5 (Option.some FieldType.boolean) ∈ x_tsl := x_t3 (List.mem_of_getElem? (i := 61) rfl) rfl
theorem w_542 : Cond.methodLink "QuestionReader$QuestionGrammar" 208 ⟨"QuestionReader$Condition", "isFull", "()Z"⟩ ∈ x_tsl := x_t3 (List.mem_of_getElem? (i := 62) rfl) rfl
theorem w_543 : Cond.instanceMethod ⟨"QuestionReader$Condition", "isFull", "()Z"⟩ ∈ x_tsl := x_t3 (List.mem_of_getElem? (i := 63) rfl) rfl
theorem w_544 : Cond.selects "QuestionReader$Condition" ⟨"QuestionReader$Condition", "isFull", "()Z"⟩ ⟨"QuestionReader$Condition", "isFull", "()Z"⟩ ∈ x_tsl := x_t3 (List.mem_of_getElem? (i := 64) rfl) rfl
theorem w_545 : Cond.code ⟨"QuestionReader$Condition", "isFull", "()Z"⟩ prog_5_method_3_code 1 (Option.some FieldType.boolean) ∈ x_tsl := x_t3 (List.mem_of_getElem? (i := 65) rfl) rfl
theorem w_546 : Cond.methodLink "QuestionReader$QuestionGrammar" 211 ⟨"QuestionReader$Condition", "coming", "()LQuestionReader$Comparison;"⟩ ∈ x_tsl := x_t3 (List.mem_of_getElem? (i := 66) rfl) rfl
theorem w_547 : Cond.instanceMethod ⟨"QuestionReader$Condition", "coming", "()LQuestionReader$Comparison;"⟩ ∈ x_tsl := x_t3 (List.mem_of_getElem? (i := 67) rfl) rfl
theorem w_548 : Cond.selects "QuestionReader$Condition" ⟨"QuestionReader$Condition", "coming", "()LQuestionReader$Comparison;"⟩ ⟨"QuestionReader$Condition", "coming", "()LQuestionReader$Comparison;"⟩ ∈ x_tsl := x_t3 (List.mem_of_getElem? (i := 68) rfl) rfl
theorem w_549 : Cond.code ⟨"QuestionReader$Condition", "coming", "()LQuestionReader$Comparison;"⟩ prog_5_method_4_code 1 (Option.some (FieldType.object "QuestionReader$Comparison")) ∈ x_tsl := x_t3 (List.mem_of_getElem? (i := 69) rfl) rfl
theorem w_550 : Cond.methodLink "QuestionReader$QuestionGrammar" 215 ⟨"QuestionReader$Comparison", "restart", "(I)V"⟩ ∈ x_tsl := x_t3 (List.mem_of_getElem? (i := 70) rfl) rfl
theorem w_551 : Cond.instanceMethod ⟨"QuestionReader$Comparison", "restart", "(I)V"⟩ ∈ x_tsl := x_t3 (List.mem_of_getElem? (i := 71) rfl) rfl
theorem w_552 : Cond.selects "QuestionReader$Comparison" ⟨"QuestionReader$Comparison", "restart", "(I)V"⟩ ⟨"QuestionReader$Comparison", "restart", "(I)V"⟩ ∈ x_tsl := x_t3 (List.mem_of_getElem? (i := 72) rfl) rfl
theorem w_553 : Cond.code ⟨"QuestionReader$Comparison", "restart", "(I)V"⟩ prog_4_method_2_code 2 none ∈ x_tsl := x_t3 (List.mem_of_getElem? (i := 73) rfl) rfl
theorem w_554 : Cond.fieldLink "QuestionReader$QuestionGrammar" 223 "QuestionReader$Kind" "IN" "LQuestionReader$Kind;" ∈ x_tsl := x_t3 (List.mem_of_getElem? (i := 74) rfl) rfl
theorem w_556 : Cond.methodLink "QuestionReader$QuestionGrammar" 226 ⟨"QuestionReader$QuestionGrammar", "readList", "(LQuestionReader$Comparison;)Z"⟩ ∈ x_tsl := x_t3 (List.mem_of_getElem? (i := 76) rfl) rfl
theorem w_558 : Cond.instanceMethod ⟨"QuestionReader$QuestionGrammar", "readList", "(LQuestionReader$Comparison;)Z"⟩ ∈ x_tsl := x_t3 (List.mem_of_getElem? (i := 78) rfl) rfl
theorem w_559 : Cond.code ⟨"QuestionReader$QuestionGrammar", "readList", "(LQuestionReader$Comparison;)Z"⟩ prog_11_method_12_code 3 (Option.some FieldType.boolean) ∈ x_tsl := x_t3 (List.mem_of_getElem? (i := 79) rfl) rfl
theorem w_560 : Cond.fieldLink "QuestionReader$QuestionGrammar" 242 "QuestionReader$Kind" "NUMBER" "LQuestionReader$Kind;" ∈ x_tsl := x_t3 (List.mem_of_getElem? (i := 80) rfl) rfl
theorem w_561 : Cond.methodLink "QuestionReader$QuestionGrammar" 256 ⟨"QuestionReader$Comparison", "addToList", "(I)Z"⟩ ∈ x_tsl := x_t3 (List.mem_of_getElem? (i := 81) rfl) rfl
theorem w_562 : Cond.instanceMethod ⟨"QuestionReader$Comparison", "addToList", "(I)Z"⟩ ∈ x_tsl := x_t3 (List.mem_of_getElem? (i := 82) rfl) rfl
theorem w_563 : Cond.selects "QuestionReader$Comparison" ⟨"QuestionReader$Comparison", "addToList", "(I)Z"⟩ ⟨"QuestionReader$Comparison", "addToList", "(I)Z"⟩ ∈ x_tsl := x_t3 (List.mem_of_getElem? (i := 83) rfl) rfl
theorem w_564 : Cond.code ⟨"QuestionReader$Comparison", "addToList", "(I)Z"⟩ prog_4_method_5_code 2 (Option.some FieldType.boolean) ∈ x_tsl := x_t3 (List.mem_of_getElem? (i := 84) rfl) rfl
theorem w_565 : Cond.fieldLink "QuestionReader$QuestionGrammar" 230 "QuestionReader$Kind" "BETWEEN" "LQuestionReader$Kind;" ∈ x_tsl := x_t3 (List.mem_of_getElem? (i := 85) rfl) rfl
theorem w_567 : Cond.methodLink "QuestionReader$QuestionGrammar" 233 ⟨"QuestionReader$QuestionGrammar", "readBetween", "(LQuestionReader$Comparison;)Z"⟩ ∈ x_tsl := x_t3 (List.mem_of_getElem? (i := 87) rfl) rfl
theorem w_569 : Cond.instanceMethod ⟨"QuestionReader$QuestionGrammar", "readBetween", "(LQuestionReader$Comparison;)Z"⟩ ∈ x_tsl := x_t3 (List.mem_of_getElem? (i := 89) rfl) rfl
theorem w_570 : Cond.code ⟨"QuestionReader$QuestionGrammar", "readBetween", "(LQuestionReader$Comparison;)Z"⟩ prog_11_method_11_code 3 (Option.some FieldType.boolean) ∈ x_tsl := x_t3 (List.mem_of_getElem? (i := 90) rfl) rfl
theorem w_571 : Cond.fieldLink "QuestionReader$QuestionGrammar" 193 "QuestionReader$Kind" "AND" "LQuestionReader$Kind;" ∈ x_tsl := x_t3 (List.mem_of_getElem? (i := 91) rfl) rfl
theorem w_573 : Cond.methodLink "QuestionReader$QuestionGrammar" 252 ⟨"QuestionReader$Comparison", "becomeRange", "(II)V"⟩ ∈ x_tsl := x_t3 (List.mem_of_getElem? (i := 93) rfl) rfl
theorem w_574 : Cond.instanceMethod ⟨"QuestionReader$Comparison", "becomeRange", "(II)V"⟩ ∈ x_tsl := x_t3 (List.mem_of_getElem? (i := 94) rfl) rfl
theorem w_575 : Cond.selects "QuestionReader$Comparison" ⟨"QuestionReader$Comparison", "becomeRange", "(II)V"⟩ ⟨"QuestionReader$Comparison", "becomeRange", "(II)V"⟩ ∈ x_tsl := x_t3 (List.mem_of_getElem? (i := 95) rfl) rfl
theorem w_576 : Cond.code ⟨"QuestionReader$Comparison", "becomeRange", "(II)V"⟩ prog_4_method_3_code 3 none ∈ x_tsl := x_t3 (List.mem_of_getElem? (i := 96) rfl) rfl
theorem w_577 : Cond.methodLink "QuestionReader$QuestionGrammar" 236 ⟨"QuestionReader$QuestionGrammar", "readRelation", "(LQuestionReader$Comparison;)Z"⟩ ∈ x_tsl := x_t3 (List.mem_of_getElem? (i := 97) rfl) rfl
theorem w_579 : Cond.instanceMethod ⟨"QuestionReader$QuestionGrammar", "readRelation", "(LQuestionReader$Comparison;)Z"⟩ ∈ x_tsl := x_t3 (List.mem_of_getElem? (i := 99) rfl) rfl
theorem w_580 : Cond.code ⟨"QuestionReader$QuestionGrammar", "readRelation", "(LQuestionReader$Comparison;)Z"⟩ prog_11_method_10_code 3 (Option.some FieldType.boolean) ∈ x_tsl := x_t3 (List.mem_of_getElem? (i := 100) rfl) rfl
theorem w_581 : Cond.methodLink "QuestionReader$QuestionGrammar" 239 ⟨"QuestionReader$QuestionGrammar", "isRelation", "(LQuestionReader$Kind;)Z"⟩ ∈ x_tsl := x_t3 (List.mem_of_getElem? (i := 101) rfl) rfl
theorem w_582 : Cond.static ⟨"QuestionReader$QuestionGrammar", "isRelation", "(LQuestionReader$Kind;)Z"⟩ ∈ x_tsl := x_t3 (List.mem_of_getElem? (i := 102) rfl) rfl
theorem w_583 : Cond.code ⟨"QuestionReader$QuestionGrammar", "isRelation", "(LQuestionReader$Kind;)Z"⟩ prog_11_method_16_code 1 (Option.some FieldType.boolean) ∈ x_tsl := x_t3 (List.mem_of_getElem? (i := 103) rfl) rfl
theorem w_584 : Cond.fieldLink "QuestionReader$QuestionGrammar" 299 "QuestionReader$Kind" "EQUAL" "LQuestionReader$Kind;" ∈ x_tsl := x_t3 (List.mem_of_getElem? (i := 104) rfl) rfl
theorem w_586 : Cond.fieldLink "QuestionReader$QuestionGrammar" 302 "QuestionReader$Kind" "UNEQUAL" "LQuestionReader$Kind;" ∈ x_tsl := x_t3 (List.mem_of_getElem? (i := 106) rfl) rfl
theorem w_588 : Cond.fieldLink "QuestionReader$QuestionGrammar" 305 "QuestionReader$Kind" "LESS" "LQuestionReader$Kind;" ∈ x_tsl := x_t3 (List.mem_of_getElem? (i := 108) rfl) rfl
theorem w_590 : Cond.fieldLink "QuestionReader$QuestionGrammar" 308 "QuestionReader$Kind" "AT_MOST" "LQuestionReader$Kind;" ∈ x_tsl := x_t3 (List.mem_of_getElem? (i := 110) rfl) rfl
theorem w_592 : Cond.fieldLink "QuestionReader$QuestionGrammar" 311 "QuestionReader$Kind" "MORE" "LQuestionReader$Kind;" ∈ x_tsl := x_t3 (List.mem_of_getElem? (i := 112) rfl) rfl
theorem w_594 : Cond.fieldLink "QuestionReader$QuestionGrammar" 314 "QuestionReader$Kind" "AT_LEAST" "LQuestionReader$Kind;" ∈ x_tsl := x_t3 (List.mem_of_getElem? (i := 114) rfl) rfl
theorem w_596 : Cond.methodLink "QuestionReader$QuestionGrammar" 202 ⟨"QuestionReader$Lexer", "tellUnfit", "()Z"⟩ ∈ x_tsl := x_t3 (List.mem_of_getElem? (i := 116) rfl) rfl
theorem w_597 : Cond.instanceMethod ⟨"QuestionReader$Lexer", "tellUnfit", "()Z"⟩ ∈ x_tsl := x_t3 (List.mem_of_getElem? (i := 117) rfl) rfl
theorem w_598 : Cond.selects "QuestionReader$Lexer" ⟨"QuestionReader$Lexer", "tellUnfit", "()Z"⟩ ⟨"QuestionReader$Lexer", "tellUnfit", "()Z"⟩ ∈ x_tsl := x_t3 (List.mem_of_getElem? (i := 118) rfl) rfl
theorem w_599 : Cond.code ⟨"QuestionReader$Lexer", "tellUnfit", "()Z"⟩ prog_8_method_7_code 1 (Option.some FieldType.boolean) ∈ x_tsl := x_t3 (List.mem_of_getElem? (i := 119) rfl) rfl
theorem w_600 : Cond.methodLink "QuestionReader$QuestionGrammar" 248 ⟨"QuestionReader$Comparison", "becomeRelation", "(LQuestionReader$Kind;I)V"⟩ ∈ x_tsl := x_t3 (List.mem_of_getElem? (i := 120) rfl) rfl
theorem w_601 : Cond.instanceMethod ⟨"QuestionReader$Comparison", "becomeRelation", "(LQuestionReader$Kind;I)V"⟩ ∈ x_tsl := x_t3 (List.mem_of_getElem? (i := 121) rfl) rfl
theorem w_602 : Cond.selects "QuestionReader$Comparison" ⟨"QuestionReader$Comparison", "becomeRelation", "(LQuestionReader$Kind;I)V"⟩ ⟨"QuestionReader$Comparison", "becomeRelation", "(LQuestionReader$Kind;I)V"⟩ ∈ x_tsl := x_t3 (List.mem_of_getElem? (i := 122) rfl) rfl
theorem w_603 : Cond.code ⟨"QuestionReader$Comparison", "becomeRelation", "(LQuestionReader$Kind;I)V"⟩ prog_4_method_4_code 5 none ∈ x_tsl := x_t3 (List.mem_of_getElem? (i := 123) rfl) rfl
theorem w_604 : Cond.fieldLink "QuestionReader$Comparison" 30 "QuestionReader$Kind" "UNEQUAL" "LQuestionReader$Kind;" ∈ x_tsl := x_t3 (List.mem_of_getElem? (i := 124) rfl) rfl
theorem w_605 : Cond.fieldLink "QuestionReader$Comparison" 36 "QuestionReader$Kind" "LESS" "LQuestionReader$Kind;" ∈ x_tsl := x_t3 (List.mem_of_getElem? (i := 125) rfl) rfl
theorem w_606 : Cond.fieldLink "QuestionReader$Comparison" 39 "QuestionReader$Kind" "MORE" "LQuestionReader$Kind;" ∈ x_tsl := x_t3 (List.mem_of_getElem? (i := 126) rfl) rfl
theorem w_607 : Cond.fieldLink "QuestionReader$Comparison" 42 "QuestionReader$Kind" "AT_MOST" "LQuestionReader$Kind;" ∈ x_tsl := x_t3 (List.mem_of_getElem? (i := 127) rfl) rfl
theorem w_608 : Cond.fieldLink "QuestionReader$Comparison" 45 "QuestionReader$Kind" "AT_LEAST" "LQuestionReader$Kind;" ∈ x_tsl := x_t3 (List.mem_of_getElem? (i := 128) rfl) rfl
theorem w_609 : Cond.constant "QuestionReader$Comparison" 50 (-2147483648 : Int32) ∈ x_tsl := x_t3 (List.mem_of_getElem? (i := 129) rfl) rfl
theorem w_610 : Cond.constant "QuestionReader$Comparison" 51 (2147483647 : Int32) ∈ x_tsl := x_t3 (List.mem_of_getElem? (i := 130) rfl) rfl
theorem w_611 : Cond.methodLink "QuestionReader$QuestionGrammar" 180 ⟨"QuestionReader$Condition", "addComing", "()V"⟩ ∈ x_tsl := x_t3 (List.mem_of_getElem? (i := 131) rfl) rfl
theorem w_612 : Cond.instanceMethod ⟨"QuestionReader$Condition", "addComing", "()V"⟩ ∈ x_tsl := x_t3 (List.mem_of_getElem? (i := 132) rfl) rfl
theorem w_613 : Cond.selects "QuestionReader$Condition" ⟨"QuestionReader$Condition", "addComing", "()V"⟩ ⟨"QuestionReader$Condition", "addComing", "()V"⟩ ∈ x_tsl := x_t3 (List.mem_of_getElem? (i := 133) rfl) rfl
theorem w_614 : Cond.code ⟨"QuestionReader$Condition", "addComing", "()V"⟩ prog_5_method_5_code 2 none ∈ x_tsl := x_t3 (List.mem_of_getElem? (i := 134) rfl) rfl
theorem w_615 : Cond.methodLink "QuestionReader$Condition" 57 ⟨"QuestionReader$Condition", "attach", "(I)V"⟩ ∈ x_tsl := x_t3 (List.mem_of_getElem? (i := 135) rfl) rfl
theorem w_617 : Cond.instanceMethod ⟨"QuestionReader$Condition", "attach", "(I)V"⟩ ∈ x_tsl := x_t3 (List.mem_of_getElem? (i := 137) rfl) rfl
theorem w_618 : Cond.code ⟨"QuestionReader$Condition", "attach", "(I)V"⟩ prog_5_method_13_code 2 none ∈ x_tsl := x_t3 (List.mem_of_getElem? (i := 138) rfl) rfl
theorem w_619 : Cond.methodLink "QuestionReader$Condition" 78 ⟨"QuestionReader$Condition", "join", "(ZII)I"⟩ ∈ x_tsl := x_t3 (List.mem_of_getElem? (i := 139) rfl) rfl
theorem w_621 : Cond.instanceMethod ⟨"QuestionReader$Condition", "join", "(ZII)I"⟩ ∈ x_tsl := x_t3 (List.mem_of_getElem? (i := 141) rfl) rfl
theorem w_622 : Cond.code ⟨"QuestionReader$Condition", "join", "(ZII)I"⟩ prog_5_method_15_code 5 (Option.some FieldType.int) ∈ x_tsl := x_t3 (List.mem_of_getElem? (i := 142) rfl) rfl
theorem w_623 : Cond.methodLink "QuestionReader$QuestionGrammar" 183 ⟨"QuestionReader$QuestionGrammar", "readClosings", "(LQuestionReader$Condition;)V"⟩ ∈ x_tsl := x_t3 (List.mem_of_getElem? (i := 143) rfl) rfl
theorem w_625 : Cond.instanceMethod ⟨"QuestionReader$QuestionGrammar", "readClosings", "(LQuestionReader$Condition;)V"⟩ ∈ x_tsl := x_t3 (List.mem_of_getElem? (i := 145) rfl) rfl
theorem w_626 : Cond.code ⟨"QuestionReader$QuestionGrammar", "readClosings", "(LQuestionReader$Condition;)V"⟩ prog_11_method_8_code 3 none ∈ x_tsl := x_t3 (List.mem_of_getElem? (i := 146) rfl) rfl
theorem w_627 : Cond.methodLink "QuestionReader$QuestionGrammar" 205 ⟨"QuestionReader$Condition", "closeBracket", "()V"⟩ ∈ x_tsl := x_t3 (List.mem_of_getElem? (i := 147) rfl) rfl
theorem w_628 : Cond.instanceMethod ⟨"QuestionReader$Condition", "closeBracket", "()V"⟩ ∈ x_tsl := x_t3 (List.mem_of_getElem? (i := 148) rfl) rfl
theorem w_629 : Cond.selects "QuestionReader$Condition" ⟨"QuestionReader$Condition", "closeBracket", "()V"⟩ ⟨"QuestionReader$Condition", "closeBracket", "()V"⟩ ∈ x_tsl := x_t3 (List.mem_of_getElem? (i := 149) rfl) rfl
theorem w_630 : Cond.code ⟨"QuestionReader$Condition", "closeBracket", "()V"⟩ prog_5_method_8_code 2 none ∈ x_tsl := x_t3 (List.mem_of_getElem? (i := 150) rfl) rfl
theorem w_631 : Cond.methodLink "QuestionReader$Condition" 61 ⟨"QuestionReader$Condition", "endLine", "()I"⟩ ∈ x_tsl := x_t3 (List.mem_of_getElem? (i := 151) rfl) rfl
theorem w_633 : Cond.instanceMethod ⟨"QuestionReader$Condition", "endLine", "()I"⟩ ∈ x_tsl := x_t3 (List.mem_of_getElem? (i := 153) rfl) rfl
theorem w_634 : Cond.code ⟨"QuestionReader$Condition", "endLine", "()I"⟩ prog_5_method_14_code 1 (Option.some FieldType.int) ∈ x_tsl := x_t3 (List.mem_of_getElem? (i := 154) rfl) rfl
theorem w_635 : Cond.fieldLink "QuestionReader$QuestionGrammar" 187 "QuestionReader$Kind" "OR" "LQuestionReader$Kind;" ∈ x_tsl := x_t3 (List.mem_of_getElem? (i := 155) rfl) rfl
theorem w_637 : Cond.methodLink "QuestionReader$QuestionGrammar" 190 ⟨"QuestionReader$Condition", "startAlternative", "()V"⟩ ∈ x_tsl := x_t3 (List.mem_of_getElem? (i := 157) rfl) rfl
theorem w_638 : Cond.instanceMethod ⟨"QuestionReader$Condition", "startAlternative", "()V"⟩ ∈ x_tsl := x_t3 (List.mem_of_getElem? (i := 158) rfl) rfl
theorem w_639 : Cond.selects "QuestionReader$Condition" ⟨"QuestionReader$Condition", "startAlternative", "()V"⟩ ⟨"QuestionReader$Condition", "startAlternative", "()V"⟩ ∈ x_tsl := x_t3 (List.mem_of_getElem? (i := 159) rfl) rfl
theorem w_640 : Cond.code ⟨"QuestionReader$Condition", "startAlternative", "()V"⟩ prog_5_method_9_code 1 none ∈ x_tsl := x_t3 (List.mem_of_getElem? (i := 160) rfl) rfl
theorem w_641 : Cond.methodLink "QuestionReader$QuestionGrammar" 196 ⟨"QuestionReader$Condition", "finish", "()V"⟩ ∈ x_tsl := x_t3 (List.mem_of_getElem? (i := 161) rfl) rfl
theorem w_642 : Cond.instanceMethod ⟨"QuestionReader$Condition", "finish", "()V"⟩ ∈ x_tsl := x_t3 (List.mem_of_getElem? (i := 162) rfl) rfl
theorem w_643 : Cond.selects "QuestionReader$Condition" ⟨"QuestionReader$Condition", "finish", "()V"⟩ ⟨"QuestionReader$Condition", "finish", "()V"⟩ ∈ x_tsl := x_t3 (List.mem_of_getElem? (i := 163) rfl) rfl
theorem w_644 : Cond.code ⟨"QuestionReader$Condition", "finish", "()V"⟩ prog_5_method_10_code 1 none ∈ x_tsl := x_t3 (List.mem_of_getElem? (i := 164) rfl) rfl
theorem w_645 : Cond.fieldLink "QuestionReader$QuestionGrammar" 65 "QuestionReader$Kind" "GROUP" "LQuestionReader$Kind;" ∈ x_tsl := x_t3 (List.mem_of_getElem? (i := 165) rfl) rfl
theorem w_647 : Cond.methodLink "QuestionReader$QuestionGrammar" 68 ⟨"QuestionReader$QuestionGrammar", "readGroups", "()Z"⟩ ∈ x_tsl := x_t3 (List.mem_of_getElem? (i := 167) rfl) rfl
theorem w_649 : Cond.instanceMethod ⟨"QuestionReader$QuestionGrammar", "readGroups", "()Z"⟩ ∈ x_tsl := x_t3 (List.mem_of_getElem? (i := 169) rfl) rfl
theorem w_650 : Cond.code ⟨"QuestionReader$QuestionGrammar", "readGroups", "()Z"⟩ prog_11_method_13_code 5 (Option.some FieldType.boolean) ∈ x_tsl := x_t3 (List.mem_of_getElem? (i := 170) rfl) rfl
theorem w_651 : Cond.fieldLink "QuestionReader$QuestionGrammar" 259 "QuestionReader$Kind" "BY" "LQuestionReader$Kind;" ∈ x_tsl := x_t3 (List.mem_of_getElem? (i := 171) rfl) rfl
theorem w_653 : Cond.fieldLink "QuestionReader$QuestionGrammar" 262 "QuestionReader$Kind" "ROLLUP" "LQuestionReader$Kind;" ∈ x_tsl := x_t3 (List.mem_of_getElem? (i := 173) rfl) rfl
theorem w_655 : Cond.fieldLink "QuestionReader$QuestionGrammar" 265 "QuestionReader$Kind" "CUBE" "LQuestionReader$Kind;" ∈ x_tsl := x_t3 (List.mem_of_getElem? (i := 175) rfl) rfl
theorem w_657 : Cond.methodLink "QuestionReader$QuestionGrammar" 268 ⟨"QuestionReader$QuestionGrammar", "readGroup", "(Z)I"⟩ ∈ x_tsl := x_t3 (List.mem_of_getElem? (i := 177) rfl) rfl
theorem w_659 : Cond.instanceMethod ⟨"QuestionReader$QuestionGrammar", "readGroup", "(Z)I"⟩ ∈ x_tsl := x_t3 (List.mem_of_getElem? (i := 179) rfl) rfl
theorem w_660 : Cond.code ⟨"QuestionReader$QuestionGrammar", "readGroup", "(Z)I"⟩ prog_11_method_14_code 5 (Option.some FieldType.int) ∈ x_tsl := x_t3 (List.mem_of_getElem? (i := 180) rfl) rfl
theorem w_661 : Cond.methodLink "QuestionReader$QuestionGrammar" 278 ⟨"QuestionReader$Question", "hasColumn", "(I)Z"⟩ ∈ x_tsl := x_t3 (List.mem_of_getElem? (i := 181) rfl) rfl
theorem w_662 : Cond.instanceMethod ⟨"QuestionReader$Question", "hasColumn", "(I)Z"⟩ ∈ x_tsl := x_t3 (List.mem_of_getElem? (i := 182) rfl) rfl
theorem w_663 : Cond.selects "QuestionReader$Question" ⟨"QuestionReader$Question", "hasColumn", "(I)Z"⟩ ⟨"QuestionReader$Question", "hasColumn", "(I)Z"⟩ ∈ x_tsl := x_t3 (List.mem_of_getElem? (i := 183) rfl) rfl
theorem w_664 : Cond.code ⟨"QuestionReader$Question", "hasColumn", "(I)Z"⟩ prog_10_method_7_code 3 (Option.some FieldType.boolean) ∈ x_tsl := x_t3 (List.mem_of_getElem? (i := 184) rfl) rfl
theorem w_665 : Cond.methodLink "QuestionReader$QuestionGrammar" 82 ⟨"QuestionReader$Lexer", "tell", "(II)Z"⟩ ∈ x_tsl := x_t3 (List.mem_of_getElem? (i := 185) rfl) rfl
theorem w_666 : Cond.methodLink "QuestionReader$QuestionGrammar" 281 ⟨"QuestionReader$Question", "addColumn", "(I)V"⟩ ∈ x_tsl := x_t3 (List.mem_of_getElem? (i := 186) rfl) rfl
theorem w_667 : Cond.instanceMethod ⟨"QuestionReader$Question", "addColumn", "(I)V"⟩ ∈ x_tsl := x_t3 (List.mem_of_getElem? (i := 187) rfl) rfl
theorem w_668 : Cond.selects "QuestionReader$Question" ⟨"QuestionReader$Question", "addColumn", "(I)V"⟩ ⟨"QuestionReader$Question", "addColumn", "(I)V"⟩ ∈ x_tsl := x_t3 (List.mem_of_getElem? (i := 188) rfl) rfl
theorem w_669 : Cond.code ⟨"QuestionReader$Question", "addColumn", "(I)V"⟩ prog_10_method_6_code 2 none ∈ x_tsl := x_t3 (List.mem_of_getElem? (i := 189) rfl) rfl
theorem w_670 : Cond.methodLink "QuestionReader$QuestionGrammar" 271 ⟨"QuestionReader$Question", "addGroup", "(LQuestionReader$Kind;I)Z"⟩ ∈ x_tsl := x_t3 (List.mem_of_getElem? (i := 190) rfl) rfl
theorem w_671 : Cond.instanceMethod ⟨"QuestionReader$Question", "addGroup", "(LQuestionReader$Kind;I)Z"⟩ ∈ x_tsl := x_t3 (List.mem_of_getElem? (i := 191) rfl) rfl
theorem w_672 : Cond.selects "QuestionReader$Question" ⟨"QuestionReader$Question", "addGroup", "(LQuestionReader$Kind;I)Z"⟩ ⟨"QuestionReader$Question", "addGroup", "(LQuestionReader$Kind;I)Z"⟩ ∈ x_tsl := x_t3 (List.mem_of_getElem? (i := 192) rfl) rfl
theorem w_673 : Cond.code ⟨"QuestionReader$Question", "addGroup", "(LQuestionReader$Kind;I)Z"⟩ prog_10_method_8_code 8 (Option.some FieldType.boolean) ∈ x_tsl := x_t3 (List.mem_of_getElem? (i := 193) rfl) rfl
theorem w_674 : Cond.fieldLink "QuestionReader$Question" 48 "QuestionReader$Kind" "CUBE" "LQuestionReader$Kind;" ∈ x_tsl := x_t3 (List.mem_of_getElem? (i := 194) rfl) rfl
theorem w_675 : Cond.fieldLink "QuestionReader$Question" 54 "QuestionReader$Kind" "ROLLUP" "LQuestionReader$Kind;" ∈ x_tsl := x_t3 (List.mem_of_getElem? (i := 195) rfl) rfl
theorem w_676 : Cond.methodLink "QuestionReader$Question" 57 ⟨"QuestionReader$Question", "chosenColumns", "(LQuestionReader$Kind;II)I"⟩ ∈ x_tsl := x_t3 (List.mem_of_getElem? (i := 196) rfl) rfl
theorem w_677 : Cond.static ⟨"QuestionReader$Question", "chosenColumns", "(LQuestionReader$Kind;II)I"⟩ ∈ x_tsl := x_t3 (List.mem_of_getElem? (i := 197) rfl) rfl
theorem w_678 : Cond.code ⟨"QuestionReader$Question", "chosenColumns", "(LQuestionReader$Kind;II)I"⟩ prog_10_method_10_code 4 (Option.some FieldType.int) ∈ x_tsl := x_t3 (List.mem_of_getElem? (i := 198) rfl) rfl
theorem w_679 : Cond.fieldLink "QuestionReader$QuestionGrammar" 71 "QuestionReader$Kind" "SEMICOLON" "LQuestionReader$Kind;" ∈ x_tsl := x_t3 (List.mem_of_getElem? (i := 199) rfl) rfl
theorem w_681 : Cond.methodLink "QuestionReader$QuestionGrammar" 78 ⟨"QuestionReader$Question", "firstUngrouped", "()I"⟩ ∈ x_tsl := x_t3 (List.mem_of_getElem? (i := 201) rfl) rfl
theorem w_682 : Cond.instanceMethod ⟨"QuestionReader$Question", "firstUngrouped", "()I"⟩ ∈ x_tsl := x_t3 (List.mem_of_getElem? (i := 202) rfl) rfl
theorem w_683 : Cond.selects "QuestionReader$Question" ⟨"QuestionReader$Question", "firstUngrouped", "()I"⟩ ⟨"QuestionReader$Question", "firstUngrouped", "()I"⟩ ∈ x_tsl := x_t3 (List.mem_of_getElem? (i := 203) rfl) rfl
theorem w_684 : Cond.code ⟨"QuestionReader$Question", "firstUngrouped", "()I"⟩ prog_10_method_9_code 3 (Option.some FieldType.int) ∈ x_tsl := x_t3 (List.mem_of_getElem? (i := 204) rfl) rfl
theorem w_685 : Cond.methodLink "QuestionReader$Question" 61 ⟨"QuestionReader$Question", "hasColumn", "(I)Z"⟩ ∈ x_tsl := x_t3 (List.mem_of_getElem? (i := 205) rfl) rfl
theorem w_686 : Cond.fieldLink "QuestionReader" 96 "QuestionReader$Kind" "END" "LQuestionReader$Kind;" ∈ x_tsl := x_t3 (List.mem_of_getElem? (i := 206) rfl) rfl
theorem w_687 : Cond.methodLink "QuestionReader" 99 ⟨"QuestionReader$CatalogGrammar", "readStatement", "()Z"⟩ ∈ x_tsl := x_t3 (List.mem_of_getElem? (i := 207) rfl) rfl
theorem w_688 : Cond.instanceMethod ⟨"QuestionReader$CatalogGrammar", "readStatement", "()Z"⟩ ∈ x_tsl := x_t3 (List.mem_of_getElem? (i := 208) rfl) rfl
theorem w_689 : Cond.selects "QuestionReader$CatalogGrammar" ⟨"QuestionReader$CatalogGrammar", "readStatement", "()Z"⟩ ⟨"QuestionReader$CatalogGrammar", "readStatement", "()Z"⟩ ∈ x_tsl := x_t3 (List.mem_of_getElem? (i := 209) rfl) rfl
theorem w_690 : Cond.code ⟨"QuestionReader$CatalogGrammar", "readStatement", "()Z"⟩ prog_3_method_2_code 2 (Option.some FieldType.boolean) ∈ x_tsl := x_t3 (List.mem_of_getElem? (i := 210) rfl) rfl
theorem w_691 : Cond.fieldLink "QuestionReader$CatalogGrammar" 32 "QuestionReader$Kind" "DIMENSION" "LQuestionReader$Kind;" ∈ x_tsl := x_t3 (List.mem_of_getElem? (i := 211) rfl) rfl
theorem w_693 : Cond.fieldLink "QuestionReader$CatalogGrammar" 37 "QuestionReader$Kind" "MEASURE" "LQuestionReader$Kind;" ∈ x_tsl := x_t3 (List.mem_of_getElem? (i := 213) rfl) rfl
theorem w_695 : Cond.fieldLink "QuestionReader$CatalogGrammar" 40 "QuestionReader$Kind" "MEMBER" "LQuestionReader$Kind;" ∈ x_tsl := x_t3 (List.mem_of_getElem? (i := 215) rfl) rfl
theorem w_697 : Cond.methodLink "QuestionReader$CatalogGrammar" 43 ⟨"QuestionReader$Lexer", "tellUnfit", "()Z"⟩ ∈ x_tsl := x_t3 (List.mem_of_getElem? (i := 217) rfl) rfl
theorem w_698 : Cond.methodLink "QuestionReader$CatalogGrammar" 51 ⟨"QuestionReader$Lexer", "tellHere", "(I)Z"⟩ ∈ x_tsl := x_t3 (List.mem_of_getElem? (i := 218) rfl) rfl
theorem w_699 : Cond.methodLink "QuestionReader$CatalogGrammar" 55 ⟨"QuestionReader$Lexer", "advance", "()V"⟩ ∈ x_tsl := x_t3 (List.mem_of_getElem? (i := 219) rfl) rfl
theorem w_700 : Cond.methodLink "QuestionReader$CatalogGrammar" 58 ⟨"QuestionReader$CatalogGrammar", "readDimension", "()Z"⟩ ∈ x_tsl := x_t3 (List.mem_of_getElem? (i := 220) rfl) rfl
theorem w_702 : Cond.instanceMethod ⟨"QuestionReader$CatalogGrammar", "readDimension", "()Z"⟩ ∈ x_tsl := x_t3 (List.mem_of_getElem? (i := 222) rfl) rfl
theorem w_703 : Cond.code ⟨"QuestionReader$CatalogGrammar", "readDimension", "()Z"⟩ prog_3_method_3_code 3 (Option.some FieldType.boolean) ∈ x_tsl := x_t3 (List.mem_of_getElem? (i := 223) rfl) rfl
theorem w_704 : Cond.methodLink "QuestionReader$CatalogGrammar" 71 ⟨"QuestionReader$CatalogGrammar", "atNewName", "(Z)Z"⟩ ∈ x_tsl := x_t3 (List.mem_of_getElem? (i := 224) rfl) rfl
theorem w_706 : Cond.instanceMethod ⟨"QuestionReader$CatalogGrammar", "atNewName", "(Z)Z"⟩ ∈ x_tsl := x_t3 (List.mem_of_getElem? (i := 226) rfl) rfl
theorem w_707 : Cond.code ⟨"QuestionReader$CatalogGrammar", "atNewName", "(Z)Z"⟩ prog_3_method_5_code 2 (Option.some FieldType.boolean) ∈ x_tsl := x_t3 (List.mem_of_getElem? (i := 227) rfl) rfl
theorem w_708 : Cond.methodLink "QuestionReader$CatalogGrammar" 107 ⟨"QuestionReader$Lexer", "atName", "()Z"⟩ ∈ x_tsl := x_t3 (List.mem_of_getElem? (i := 228) rfl) rfl
theorem w_709 : Cond.methodLink "QuestionReader$CatalogGrammar" 110 ⟨"QuestionReader$Catalog", "isTaken", "(LQuestionReader$Lexer;)Z"⟩ ∈ x_tsl := x_t3 (List.mem_of_getElem? (i := 229) rfl) rfl
theorem w_710 : Cond.instanceMethod ⟨"QuestionReader$Catalog", "isTaken", "(LQuestionReader$Lexer;)Z"⟩ ∈ x_tsl := x_t3 (List.mem_of_getElem? (i := 230) rfl) rfl
theorem w_711 : Cond.selects "QuestionReader$Catalog" ⟨"QuestionReader$Catalog", "isTaken", "(LQuestionReader$Lexer;)Z"⟩ ⟨"QuestionReader$Catalog", "isTaken", "(LQuestionReader$Lexer;)Z"⟩ ∈ x_tsl := x_t3 (List.mem_of_getElem? (i := 231) rfl) rfl
theorem w_712 : Cond.code ⟨"QuestionReader$Catalog", "isTaken", "(LQuestionReader$Lexer;)Z"⟩ prog_2_method_6_code 2 (Option.some FieldType.boolean) ∈ x_tsl := x_t3 (List.mem_of_getElem? (i := 232) rfl) rfl
theorem w_713 : Cond.methodLink "QuestionReader$Catalog" 53 ⟨"QuestionReader$Names", "search", "(IILQuestionReader$Lexer;)I"⟩ ∈ x_tsl := x_t3 (List.mem_of_getElem? (i := 233) rfl) rfl
theorem w_714 : Cond.methodLink "QuestionReader$CatalogGrammar" 75 ⟨"QuestionReader$Names", "keep", "(ILQuestionReader$Lexer;)V"⟩ ∈ x_tsl := x_t3 (List.mem_of_getElem? (i := 234) rfl) rfl
theorem w_715 : Cond.instanceMethod ⟨"QuestionReader$Names", "keep", "(ILQuestionReader$Lexer;)V"⟩ ∈ x_tsl := x_t3 (List.mem_of_getElem? (i := 235) rfl) rfl
theorem w_716 : Cond.selects "QuestionReader$Names" ⟨"QuestionReader$Names", "keep", "(ILQuestionReader$Lexer;)V"⟩ ⟨"QuestionReader$Names", "keep", "(ILQuestionReader$Lexer;)V"⟩ ∈ x_tsl := x_t3 (List.mem_of_getElem? (i := 236) rfl) rfl
theorem w_717 : Cond.code ⟨"QuestionReader$Names", "keep", "(ILQuestionReader$Lexer;)V"⟩ prog_9_method_2_code 4 none ∈ x_tsl := x_t3 (List.mem_of_getElem? (i := 237) rfl) rfl
theorem w_718 : Cond.methodLink "QuestionReader$Names" 37 ⟨"java/lang/System", "arraycopy", "(Ljava/lang/Object;ILjava/lang/Object;II)V"⟩ ∈ x_tsl := x_t3 (List.mem_of_getElem? (i := 238) rfl) rfl
theorem w_719 : Cond.static ⟨"java/lang/System", "arraycopy", "(Ljava/lang/Object;ILjava/lang/Object;II)V"⟩ ∈ x_tsl := x_t3 (List.mem_of_getElem? (i := 239) rfl) rfl
theorem w_720 : Cond.native ⟨"java/lang/System", "arraycopy", "(Ljava/lang/Object;ILjava/lang/Object;II)V"⟩ ∈ x_tsl := x_t4 (List.mem_of_getElem? (i := 0) rfl) rfl
theorem w_721 : Cond.fieldLink "QuestionReader$CatalogGrammar" 81 "QuestionReader$Kind" "OPENING" "LQuestionReader$Kind;" ∈ x_tsl := x_t4 (List.mem_of_getElem? (i := 1) rfl) rfl
theorem w_722 : Cond.methodLink "QuestionReader$CatalogGrammar" 84 ⟨"QuestionReader$Lexer", "next", "(LQuestionReader$Kind;)Z"⟩ ∈ x_tsl := x_t4 (List.mem_of_getElem? (i := 2) rfl) rfl
theorem w_723 : Cond.methodLink "QuestionReader$CatalogGrammar" 88 ⟨"QuestionReader$CatalogGrammar", "readLevels", "(I)I"⟩ ∈ x_tsl := x_t4 (List.mem_of_getElem? (i := 3) rfl) rfl
theorem w_725 : Cond.instanceMethod ⟨"QuestionReader$CatalogGrammar", "readLevels", "(I)I"⟩ ∈ x_tsl := x_t4 (List.mem_of_getElem? (i := 5) rfl) rfl
theorem w_726 : Cond.code ⟨"QuestionReader$CatalogGrammar", "readLevels", "(I)I"⟩ prog_3_method_6_code 4 (Option.some FieldType.int) ∈ x_tsl := x_t4 (List.mem_of_getElem? (i := 6) rfl) rfl
theorem w_727 : Cond.methodLink "QuestionReader$CatalogGrammar" 114 ⟨"QuestionReader$Catalog", "columnNumber", "(II)I"⟩ ∈ x_tsl := x_t4 (List.mem_of_getElem? (i := 7) rfl) rfl
theorem w_728 : Cond.methodLink "QuestionReader$CatalogGrammar" 118 ⟨"QuestionReader$CatalogGrammar", "atNewLevel", "(II)Z"⟩ ∈ x_tsl := x_t4 (List.mem_of_getElem? (i := 8) rfl) rfl
theorem w_730 : Cond.instanceMethod ⟨"QuestionReader$CatalogGrammar", "atNewLevel", "(II)Z"⟩ ∈ x_tsl := x_t4 (List.mem_of_getElem? (i := 10) rfl) rfl
theorem w_731 : Cond.code ⟨"QuestionReader$CatalogGrammar", "atNewLevel", "(II)Z"⟩ prog_3_method_7_code 3 (Option.some FieldType.boolean) ∈ x_tsl := x_t4 (List.mem_of_getElem? (i := 11) rfl) rfl
theorem w_732 : Cond.methodLink "QuestionReader$CatalogGrammar" 131 ⟨"QuestionReader$Names", "search", "(IILQuestionReader$Lexer;)I"⟩ ∈ x_tsl := x_t4 (List.mem_of_getElem? (i := 12) rfl) rfl
theorem w_733 : Cond.fieldLink "QuestionReader$CatalogGrammar" 122 "QuestionReader$Kind" "CLOSING" "LQuestionReader$Kind;" ∈ x_tsl := x_t4 (List.mem_of_getElem? (i := 13) rfl) rfl
theorem w_734 : Cond.fieldLink "QuestionReader$CatalogGrammar" 125 "QuestionReader$Kind" "COMMA" "LQuestionReader$Kind;" ∈ x_tsl := x_t4 (List.mem_of_getElem? (i := 14) rfl) rfl
theorem w_735 : Cond.methodLink "QuestionReader$CatalogGrammar" 128 ⟨"QuestionReader$Lexer", "at", "(LQuestionReader$Kind;)Z"⟩ ∈ x_tsl := x_t4 (List.mem_of_getElem? (i := 15) rfl) rfl
theorem w_736 : Cond.fieldLink "QuestionReader$CatalogGrammar" 92 "QuestionReader$Kind" "SEMICOLON" "LQuestionReader$Kind;" ∈ x_tsl := x_t4 (List.mem_of_getElem? (i := 16) rfl) rfl
theorem w_737 : Cond.methodLink "QuestionReader$CatalogGrammar" 61 ⟨"QuestionReader$CatalogGrammar", "readMeasure", "()Z"⟩ ∈ x_tsl := x_t4 (List.mem_of_getElem? (i := 17) rfl) rfl
theorem w_739 : Cond.instanceMethod ⟨"QuestionReader$CatalogGrammar", "readMeasure", "()Z"⟩ ∈ x_tsl := x_t4 (List.mem_of_getElem? (i := 19) rfl) rfl
theorem w_740 : Cond.code ⟨"QuestionReader$CatalogGrammar", "readMeasure", "()Z"⟩ prog_3_method_4_code 1 (Option.some FieldType.boolean) ∈ x_tsl := x_t4 (List.mem_of_getElem? (i := 20) rfl) rfl
theorem w_741 : Cond.methodLink "QuestionReader$CatalogGrammar" 64 ⟨"QuestionReader$CatalogGrammar", "readMembers", "()Z"⟩ ∈ x_tsl := x_t4 (List.mem_of_getElem? (i := 21) rfl) rfl
theorem w_743 : Cond.instanceMethod ⟨"QuestionReader$CatalogGrammar", "readMembers", "()Z"⟩ ∈ x_tsl := x_t4 (List.mem_of_getElem? (i := 23) rfl) rfl
theorem w_744 : Cond.code ⟨"QuestionReader$CatalogGrammar", "readMembers", "()Z"⟩ prog_3_method_8_code 4 (Option.some FieldType.boolean) ∈ x_tsl := x_t4 (List.mem_of_getElem? (i := 24) rfl) rfl
theorem w_745 : Cond.methodLink "QuestionReader$CatalogGrammar" 135 ⟨"QuestionReader$Names", "read", "(IILQuestionReader$Lexer;)I"⟩ ∈ x_tsl := x_t4 (List.mem_of_getElem? (i := 25) rfl) rfl
theorem w_746 : Cond.methodLink "QuestionReader$CatalogGrammar" 141 ⟨"QuestionReader$CatalogGrammar", "readMember", "(LQuestionReader$Dimension;I)Z"⟩ ∈ x_tsl := x_t4 (List.mem_of_getElem? (i := 26) rfl) rfl
theorem w_748 : Cond.instanceMethod ⟨"QuestionReader$CatalogGrammar", "readMember", "(LQuestionReader$Dimension;I)Z"⟩ ∈ x_tsl := x_t4 (List.mem_of_getElem? (i := 28) rfl) rfl
theorem w_749 : Cond.code ⟨"QuestionReader$CatalogGrammar", "readMember", "(LQuestionReader$Dimension;I)Z"⟩ prog_3_method_9_code 5 (Option.some FieldType.boolean) ∈ x_tsl := x_t4 (List.mem_of_getElem? (i := 29) rfl) rfl
theorem w_750 : Cond.methodLink "QuestionReader$CatalogGrammar" 148 ⟨"QuestionReader$Lexer", "tell", "(II)Z"⟩ ∈ x_tsl := x_t4 (List.mem_of_getElem? (i := 30) rfl) rfl
theorem w_751 : Cond.methodLink "QuestionReader$CatalogGrammar" 151 ⟨"QuestionReader$CatalogGrammar", "readValues", "(LQuestionReader$Dimension;I)I"⟩ ∈ x_tsl := x_t4 (List.mem_of_getElem? (i := 31) rfl) rfl
theorem w_753 : Cond.instanceMethod ⟨"QuestionReader$CatalogGrammar", "readValues", "(LQuestionReader$Dimension;I)I"⟩ ∈ x_tsl := x_t4 (List.mem_of_getElem? (i := 33) rfl) rfl
theorem w_754 : Cond.code ⟨"QuestionReader$CatalogGrammar", "readValues", "(LQuestionReader$Dimension;I)I"⟩ prog_3_method_10_code 4 (Option.some FieldType.int) ∈ x_tsl := x_t4 (List.mem_of_getElem? (i := 34) rfl) rfl
theorem w_755 : Cond.constant "QuestionReader$CatalogGrammar" 160 (65536 : Int32) ∈ x_tsl := x_t4 (List.mem_of_getElem? (i := 35) rfl) rfl
theorem w_756 : Cond.fieldLink "QuestionReader$CatalogGrammar" 161 "QuestionReader$Kind" "NUMBER" "LQuestionReader$Kind;" ∈ x_tsl := x_t4 (List.mem_of_getElem? (i := 36) rfl) rfl
theorem w_757 : Cond.methodLink "QuestionReader$CatalogGrammar" 167 ⟨"QuestionReader$Dimension", "prepare", "(III)V"⟩ ∈ x_tsl := x_t4 (List.mem_of_getElem? (i := 37) rfl) rfl
theorem w_758 : Cond.instanceMethod ⟨"QuestionReader$Dimension", "prepare", "(III)V"⟩ ∈ x_tsl := x_t4 (List.mem_of_getElem? (i := 38) rfl) rfl
theorem w_759 : Cond.selects "QuestionReader$Dimension" ⟨"QuestionReader$Dimension", "prepare", "(III)V"⟩ ⟨"QuestionReader$Dimension", "prepare", "(III)V"⟩ ∈ x_tsl := x_t4 (List.mem_of_getElem? (i := 39) rfl) rfl
theorem w_760 : Cond.code ⟨"QuestionReader$Dimension", "prepare", "(III)V"⟩ prog_6_method_2_code 4 none ∈ x_tsl := x_t4 (List.mem_of_getElem? (i := 40) rfl) rfl
theorem w_761 : Cond.methodLink "QuestionReader$CatalogGrammar" 155 ⟨"QuestionReader$Dimension", "fits", "(I)Z"⟩ ∈ x_tsl := x_t4 (List.mem_of_getElem? (i := 41) rfl) rfl
theorem w_762 : Cond.instanceMethod ⟨"QuestionReader$Dimension", "fits", "(I)Z"⟩ ∈ x_tsl := x_t4 (List.mem_of_getElem? (i := 42) rfl) rfl
theorem w_763 : Cond.selects "QuestionReader$Dimension" ⟨"QuestionReader$Dimension", "fits", "(I)Z"⟩ ⟨"QuestionReader$Dimension", "fits", "(I)Z"⟩ ∈ x_tsl := x_t4 (List.mem_of_getElem? (i := 43) rfl) rfl
theorem w_764 : Cond.code ⟨"QuestionReader$Dimension", "fits", "(I)Z"⟩ prog_6_method_3_code 4 (Option.some FieldType.boolean) ∈ x_tsl := x_t4 (List.mem_of_getElem? (i := 44) rfl) rfl
theorem w_765 : Cond.methodLink "QuestionReader$Dimension" 30 ⟨"QuestionReader$Dimension", "firstWithSame", "(II)I"⟩ ∈ x_tsl := x_t4 (List.mem_of_getElem? (i := 45) rfl) rfl
theorem w_767 : Cond.instanceMethod ⟨"QuestionReader$Dimension", "firstWithSame", "(II)I"⟩ ∈ x_tsl := x_t4 (List.mem_of_getElem? (i := 47) rfl) rfl
theorem w_768 : Cond.code ⟨"QuestionReader$Dimension", "firstWithSame", "(II)I"⟩ prog_6_method_9_code 4 (Option.some FieldType.int) ∈ x_tsl := x_t4 (List.mem_of_getElem? (i := 48) rfl) rfl
theorem w_769 : Cond.methodLink "QuestionReader$Dimension" 34 ⟨"QuestionReader$Dimension", "agreeAbove", "(III)Z"⟩ ∈ x_tsl := x_t4 (List.mem_of_getElem? (i := 49) rfl) rfl
theorem w_771 : Cond.instanceMethod ⟨"QuestionReader$Dimension", "agreeAbove", "(III)Z"⟩ ∈ x_tsl := x_t4 (List.mem_of_getElem? (i := 51) rfl) rfl
theorem w_772 : Cond.code ⟨"QuestionReader$Dimension", "agreeAbove", "(III)Z"⟩ prog_6_method_10_code 5 (Option.some FieldType.boolean) ∈ x_tsl := x_t4 (List.mem_of_getElem? (i := 52) rfl) rfl
theorem w_773 : Cond.methodLink "QuestionReaderLaw" 85 ⟨"QuestionReader", "open", "()Z"⟩ ∈ x_tsl := x_t4 (List.mem_of_getElem? (i := 53) rfl) rfl
theorem w_774 : Cond.instanceMethod ⟨"QuestionReader", "open", "()Z"⟩ ∈ x_tsl := x_t4 (List.mem_of_getElem? (i := 54) rfl) rfl
theorem w_775 : Cond.selects "QuestionReader" ⟨"QuestionReader", "open", "()Z"⟩ ⟨"QuestionReader", "open", "()Z"⟩ ∈ x_tsl := x_t4 (List.mem_of_getElem? (i := 55) rfl) rfl
theorem w_776 : Cond.code ⟨"QuestionReader", "open", "()Z"⟩ prog_1_method_6_code 1 (Option.some FieldType.boolean) ∈ x_tsl := x_t4 (List.mem_of_getElem? (i := 56) rfl) rfl
theorem w_777 : Cond.methodLink "QuestionReader" 108 ⟨"QuestionReader$Catalog", "becomeOpen", "()Z"⟩ ∈ x_tsl := x_t4 (List.mem_of_getElem? (i := 57) rfl) rfl
theorem w_778 : Cond.instanceMethod ⟨"QuestionReader$Catalog", "becomeOpen", "()Z"⟩ ∈ x_tsl := x_t4 (List.mem_of_getElem? (i := 58) rfl) rfl
theorem w_779 : Cond.selects "QuestionReader$Catalog" ⟨"QuestionReader$Catalog", "becomeOpen", "()Z"⟩ ⟨"QuestionReader$Catalog", "becomeOpen", "()Z"⟩ ∈ x_tsl := x_t4 (List.mem_of_getElem? (i := 59) rfl) rfl
theorem w_780 : Cond.code ⟨"QuestionReader$Catalog", "becomeOpen", "()Z"⟩ prog_2_method_7_code 2 (Option.some FieldType.boolean) ∈ x_tsl := x_t4 (List.mem_of_getElem? (i := 60) rfl) rfl
theorem w_781 : Cond.methodLink "QuestionReader$Catalog" 61 ⟨"QuestionReader$Dimension", "arrange", "()V"⟩ ∈ x_tsl := x_t4 (List.mem_of_getElem? (i := 61) rfl) rfl
theorem w_782 : Cond.instanceMethod ⟨"QuestionReader$Dimension", "arrange", "()V"⟩ ∈ x_tsl := x_t4 (List.mem_of_getElem? (i := 62) rfl) rfl
theorem w_783 : Cond.selects "QuestionReader$Dimension" ⟨"QuestionReader$Dimension", "arrange", "()V"⟩ ⟨"QuestionReader$Dimension", "arrange", "()V"⟩ ∈ x_tsl := x_t4 (List.mem_of_getElem? (i := 63) rfl) rfl
theorem w_784 : Cond.code ⟨"QuestionReader$Dimension", "arrange", "()V"⟩ prog_6_method_4_code 3 none ∈ x_tsl := x_t4 (List.mem_of_getElem? (i := 64) rfl) rfl
theorem w_785 : Cond.methodLink "QuestionReader$Dimension" 41 ⟨"QuestionReader$Dimension", "insert", "(II)V"⟩ ∈ x_tsl := x_t4 (List.mem_of_getElem? (i := 65) rfl) rfl
theorem w_787 : Cond.instanceMethod ⟨"QuestionReader$Dimension", "insert", "(II)V"⟩ ∈ x_tsl := x_t4 (List.mem_of_getElem? (i := 67) rfl) rfl
theorem w_788 : Cond.code ⟨"QuestionReader$Dimension", "insert", "(II)V"⟩ prog_6_method_11_code 7 none ∈ x_tsl := x_t4 (List.mem_of_getElem? (i := 68) rfl) rfl
theorem w_789 : Cond.methodLink "QuestionReader$Dimension" 45 ⟨"QuestionReader$Dimension", "lowerThan", "(II)I"⟩ ∈ x_tsl := x_t4 (List.mem_of_getElem? (i := 69) rfl) rfl
theorem w_790 : Cond.instanceMethod ⟨"QuestionReader$Dimension", "lowerThan", "(II)I"⟩ ∈ x_tsl := x_t4 (List.mem_of_getElem? (i := 70) rfl) rfl
theorem w_791 : Cond.selects "QuestionReader$Dimension" ⟨"QuestionReader$Dimension", "lowerThan", "(II)I"⟩ ⟨"QuestionReader$Dimension", "lowerThan", "(II)I"⟩ ∈ x_tsl := x_t4 (List.mem_of_getElem? (i := 71) rfl) rfl
theorem w_792 : Cond.code ⟨"QuestionReader$Dimension", "lowerThan", "(II)I"⟩ prog_6_method_7_code 7 (Option.some FieldType.int) ∈ x_tsl := x_t4 (List.mem_of_getElem? (i := 72) rfl) rfl
theorem w_793 : Cond.methodLink "QuestionReader$Dimension" 51 ⟨"java/lang/System", "arraycopy", "(Ljava/lang/Object;ILjava/lang/Object;II)V"⟩ ∈ x_tsl := x_t4 (List.mem_of_getElem? (i := 73) rfl) rfl
theorem w_794 : Cond.methodLink "QuestionReaderLaw" 64 ⟨"QuestionReaderLaw", "feed", "(LQuestionReader;IIIII[J)I"⟩ ∈ x_tsl := x_t4 (List.mem_of_getElem? (i := 74) rfl) rfl
theorem w_795 : Cond.static ⟨"QuestionReaderLaw", "feed", "(LQuestionReader;IIIII[J)I"⟩ ∈ x_tsl := x_t4 (List.mem_of_getElem? (i := 75) rfl) rfl
theorem w_796 : Cond.codeWith ⟨"QuestionReaderLaw", "feed", "(LQuestionReader;IIIII[J)I"⟩ method_3_code 8 (Option.some FieldType.int) [(0, 16, 19, 13)] ∈ x_tsl := x_t4 (List.mem_of_getElem? (i := 76) rfl) rfl
theorem w_797 : Cond.classLink "QuestionReaderLaw" 13 "java/lang/IllegalStateException" ∈ x_tsl := x_t4 (List.mem_of_getElem? (i := 77) rfl) rfl
theorem w_798 : Cond.methodLink "QuestionReaderLaw" 7 ⟨"QuestionReader", "feed", "(IIIII)I"⟩ ∈ x_tsl := x_t4 (List.mem_of_getElem? (i := 78) rfl) rfl
theorem w_799 : Cond.instanceMethod ⟨"QuestionReader", "feed", "(IIIII)I"⟩ ∈ x_tsl := x_t4 (List.mem_of_getElem? (i := 79) rfl) rfl
theorem w_800 : Cond.selects "QuestionReader" ⟨"QuestionReader", "feed", "(IIIII)I"⟩ ⟨"QuestionReader", "feed", "(IIIII)I"⟩ ∈ x_tsl := x_t4 (List.mem_of_getElem? (i := 80) rfl) rfl
theorem w_801 : Cond.code ⟨"QuestionReader", "feed", "(IIIII)I"⟩ prog_1_method_2_code 6 (Option.some FieldType.int) ∈ x_tsl := x_t4 (List.mem_of_getElem? (i := 81) rfl) rfl
theorem w_802 : Cond.constant "QuestionReader" 52 (65516 : Int32) ∈ x_tsl := x_t4 (List.mem_of_getElem? (i := 82) rfl) rfl
theorem w_803 : Cond.classLink "QuestionReader" 53 "java/lang/IllegalStateException" ∈ x_tsl := x_t4 (List.mem_of_getElem? (i := 83) rfl) rfl
theorem w_804 : Cond.instantiable "java/lang/IllegalStateException" 6 ∈ x_tsl := x_t4 (List.mem_of_getElem? (i := 84) rfl) rfl
theorem w_812 : Cond.selects "java/lang/IllegalStateException" ⟨"java/lang/Throwable", "fillInStackTrace", "(I)Ljava/lang/Throwable;"⟩ ⟨"java/lang/Throwable", "fillInStackTrace", "(I)Ljava/lang/Throwable;"⟩ ∈ x_tsl := x_t4 (List.mem_of_getElem? (i := 92) rfl) rfl
theorem w_813 : Cond.selects "java/lang/IllegalStateException" ⟨"java/lang/Throwable", "fillInStackTrace", "()Ljava/lang/Throwable;"⟩ ⟨"java/lang/Throwable", "fillInStackTrace", "()Ljava/lang/Throwable;"⟩ ∈ x_tsl := x_t4 (List.mem_of_getElem? (i := 93) rfl) rfl
theorem w_814 : Cond.lays "java/lang/IllegalStateException" "java/lang/Throwable" "cause" "Ljava/lang/Throwable;" ∈ x_tsl := x_t4 (List.mem_of_getElem? (i := 94) rfl) rfl
theorem w_815 : Cond.lays "java/lang/Throwable" "java/lang/Throwable" "cause" "Ljava/lang/Throwable;" ∈ x_tsl := x_t4 (List.mem_of_getElem? (i := 95) rfl) rfl
theorem w_816 : Cond.lays "java/lang/IllegalStateException" "java/lang/Throwable" "stackTrace" "[Ljava/lang/StackTraceElement;" ∈ x_tsl := x_t4 (List.mem_of_getElem? (i := 96) rfl) rfl
theorem w_817 : Cond.lays "java/lang/Throwable" "java/lang/Throwable" "stackTrace" "[Ljava/lang/StackTraceElement;" ∈ x_tsl := x_t4 (List.mem_of_getElem? (i := 97) rfl) rfl
theorem w_818 : Cond.lays "java/lang/IllegalStateException" "java/lang/Throwable" "suppressedExceptions" "Ljava/util/List;" ∈ x_tsl := x_t4 (List.mem_of_getElem? (i := 98) rfl) rfl
theorem w_819 : Cond.lays "java/lang/Throwable" "java/lang/Throwable" "suppressedExceptions" "Ljava/util/List;" ∈ x_tsl := x_t4 (List.mem_of_getElem? (i := 99) rfl) rfl
theorem w_820 : Cond.lays "java/lang/IllegalStateException" "java/lang/Throwable" "detailMessage" "Ljava/lang/String;" ∈ x_tsl := x_t4 (List.mem_of_getElem? (i := 100) rfl) rfl
theorem w_821 : Cond.lays "java/lang/Throwable" "java/lang/Throwable" "detailMessage" "Ljava/lang/String;" ∈ x_tsl := x_t4 (List.mem_of_getElem? (i := 101) rfl) rfl
theorem w_822 : Cond.lays "java/lang/IllegalStateException" "java/lang/Throwable" "backtrace" "Ljava/lang/Object;" ∈ x_tsl := x_t4 (List.mem_of_getElem? (i := 102) rfl) rfl
theorem w_823 : Cond.lays "java/lang/Throwable" "java/lang/Throwable" "backtrace" "Ljava/lang/Object;" ∈ x_tsl := x_t4 (List.mem_of_getElem? (i := 103) rfl) rfl
theorem w_824 : Cond.fieldLink "java/lang/Throwable" 198 "java/lang/Throwable" "backtrace" "Ljava/lang/Object;" ∈ x_tsl := x_t4 (List.mem_of_getElem? (i := 104) rfl) rfl
theorem w_826 : Cond.instanceMethod ⟨"java/lang/Throwable", "<init>", "()V"⟩ ∈ x_tsl := x_t4 (List.mem_of_getElem? (i := 106) rfl) rfl
theorem w_827 : Cond.code ⟨"java/lang/Throwable", "<init>", "()V"⟩ prog_25_method_1_code 1 none ∈ x_tsl := x_t4 (List.mem_of_getElem? (i := 107) rfl) rfl
theorem w_828 : Cond.methodLink "java/lang/Throwable" 1 ⟨"java/lang/Object", "<init>", "()V"⟩ ∈ x_tsl := x_t4 (List.mem_of_getElem? (i := 108) rfl) rfl
theorem w_829 : Cond.fieldLink "java/lang/Throwable" 13 "java/lang/Throwable" "UNASSIGNED_STACK" "[Ljava/lang/StackTraceElement;" ∈ x_tsl := x_t4 (List.mem_of_getElem? (i := 109) rfl) rfl
theorem w_831 : Cond.fieldLink "java/lang/Throwable" 20 "java/lang/Throwable" "SUPPRESSED_SENTINEL" "Ljava/util/List;" ∈ x_tsl := x_t4 (List.mem_of_getElem? (i := 111) rfl) rfl
theorem w_833 : Cond.methodLink "java/lang/Throwable" 27 ⟨"java/lang/Throwable", "fillInStackTrace", "()Ljava/lang/Throwable;"⟩ ∈ x_tsl := x_t4 (List.mem_of_getElem? (i := 113) rfl) rfl
theorem w_834 : Cond.instanceMethod ⟨"java/lang/Throwable", "fillInStackTrace", "()Ljava/lang/Throwable;"⟩ ∈ x_tsl := x_t4 (List.mem_of_getElem? (i := 114) rfl) rfl
theorem w_836 : Cond.selects "java/lang/IllegalArgumentException" ⟨"java/lang/Throwable", "fillInStackTrace", "()Ljava/lang/Throwable;"⟩ ⟨"java/lang/Throwable", "fillInStackTrace", "()Ljava/lang/Throwable;"⟩ ∈ x_tsl := x_t4 (List.mem_of_getElem? (i := 116) rfl) rfl
theorem w_838 : Cond.methodLink "java/lang/Throwable" 202 ⟨"java/lang/Throwable", "fillInStackTrace", "(I)Ljava/lang/Throwable;"⟩ ∈ x_tsl := x_t4 (List.mem_of_getElem? (i := 118) rfl) rfl
theorem w_840 : Cond.instanceMethod ⟨"java/lang/Throwable", "fillInStackTrace", "(I)Ljava/lang/Throwable;"⟩ ∈ x_tsl := x_t4 (List.mem_of_getElem? (i := 120) rfl) rfl
theorem w_841 : Cond.instantiable "java/lang/Throwable" 6 ∈ x_tsl := x_t4 (List.mem_of_getElem? (i := 121) rfl) rfl
theorem w_842 : Cond.native ⟨"java/lang/Throwable", "fillInStackTrace", "(I)Ljava/lang/Throwable;"⟩ ∈ x_tsl := x_t4 (List.mem_of_getElem? (i := 122) rfl) rfl
theorem w_844 : Cond.methodLink "QuestionReader" 57 ⟨"java/lang/IllegalStateException", "<init>", "(Ljava/lang/String;)V"⟩ ∈ x_tsl := x_t4 (List.mem_of_getElem? (i := 124) rfl) rfl
theorem w_845 : Cond.instanceMethod ⟨"java/lang/IllegalStateException", "<init>", "(Ljava/lang/String;)V"⟩ ∈ x_tsl := x_t4 (List.mem_of_getElem? (i := 125) rfl) rfl
theorem w_846 : Cond.code ⟨"java/lang/IllegalStateException", "<init>", "(Ljava/lang/String;)V"⟩ prog_19_method_2_code 2 none ∈ x_tsl := x_t4 (List.mem_of_getElem? (i := 126) rfl) rfl
theorem w_847 : Cond.methodLink "java/lang/IllegalStateException" 7 ⟨"java/lang/RuntimeException", "<init>", "(Ljava/lang/String;)V"⟩ ∈ x_tsl := x_t4 (List.mem_of_getElem? (i := 127) rfl) rfl
theorem w_848 : Cond.instanceMethod ⟨"java/lang/RuntimeException", "<init>", "(Ljava/lang/String;)V"⟩ ∈ x_tsl := x_t4 (List.mem_of_getElem? (i := 128) rfl) rfl
theorem w_849 : Cond.code ⟨"java/lang/RuntimeException", "<init>", "(Ljava/lang/String;)V"⟩ prog_20_method_2_code 2 none ∈ x_tsl := x_t4 (List.mem_of_getElem? (i := 129) rfl) rfl
theorem w_850 : Cond.methodLink "java/lang/RuntimeException" 7 ⟨"java/lang/Exception", "<init>", "(Ljava/lang/String;)V"⟩ ∈ x_tsl := x_t4 (List.mem_of_getElem? (i := 130) rfl) rfl
theorem w_851 : Cond.instanceMethod ⟨"java/lang/Exception", "<init>", "(Ljava/lang/String;)V"⟩ ∈ x_tsl := x_t4 (List.mem_of_getElem? (i := 131) rfl) rfl
theorem w_852 : Cond.code ⟨"java/lang/Exception", "<init>", "(Ljava/lang/String;)V"⟩ prog_17_method_2_code 2 none ∈ x_tsl := x_t4 (List.mem_of_getElem? (i := 132) rfl) rfl
theorem w_853 : Cond.methodLink "java/lang/Exception" 7 ⟨"java/lang/Throwable", "<init>", "(Ljava/lang/String;)V"⟩ ∈ x_tsl := x_t4 (List.mem_of_getElem? (i := 133) rfl) rfl
theorem w_854 : Cond.instanceMethod ⟨"java/lang/Throwable", "<init>", "(Ljava/lang/String;)V"⟩ ∈ x_tsl := x_t4 (List.mem_of_getElem? (i := 134) rfl) rfl
theorem w_855 : Cond.code ⟨"java/lang/Throwable", "<init>", "(Ljava/lang/String;)V"⟩ prog_25_method_2_code 2 none ∈ x_tsl := x_t4 (List.mem_of_getElem? (i := 135) rfl) rfl
theorem w_856 : Cond.fieldLink "java/lang/Throwable" 198 "java/lang/Throwable" "backtrace" "Ljava/lang/Object;" ∈ x_tsl := x_t4 (List.mem_of_getElem? (i := 136) rfl) rfl
theorem w_857 : Cond.fieldLink "java/lang/Throwable" 31 "java/lang/Throwable" "detailMessage" "Ljava/lang/String;" ∈ x_tsl := x_t4 (List.mem_of_getElem? (i := 137) rfl) rfl
theorem w_858 : Cond.fieldLink "java/lang/Throwable" 7 "java/lang/Throwable" "cause" "Ljava/lang/Throwable;" ∈ x_tsl := x_t4 (List.mem_of_getElem? (i := 138) rfl) rfl
theorem w_859 : Cond.fieldLink "java/lang/Throwable" 17 "java/lang/Throwable" "stackTrace" "[Ljava/lang/StackTraceElement;" ∈ x_tsl := x_t4 (List.mem_of_getElem? (i := 139) rfl) rfl
theorem w_860 : Cond.fieldLink "java/lang/Throwable" 24 "java/lang/Throwable" "suppressedExceptions" "Ljava/util/List;" ∈ x_tsl := x_t4 (List.mem_of_getElem? (i := 140) rfl) rfl
theorem w_865 : Cond.lays "java/lang/IllegalStateException" "java/lang/Throwable" "depth" "I" ∈ x_tsl := x_t4 (List.mem_of_getElem? (i := 145) rfl) rfl
theorem w_869 : Cond.methodLink "QuestionReader" 60 ⟨"QuestionReader$Text", "addFour", "(I)V"⟩ ∈ x_tsl := x_t4 (List.mem_of_getElem? (i := 149) rfl) rfl
theorem w_870 : Cond.instanceMethod ⟨"QuestionReader$Text", "addFour", "(I)V"⟩ ∈ x_tsl := x_t4 (List.mem_of_getElem? (i := 150) rfl) rfl
theorem w_871 : Cond.selects "QuestionReader$Text" ⟨"QuestionReader$Text", "addFour", "(I)V"⟩ ⟨"QuestionReader$Text", "addFour", "(I)V"⟩ ∈ x_tsl := x_t4 (List.mem_of_getElem? (i := 151) rfl) rfl
theorem w_872 : Cond.code ⟨"QuestionReader$Text", "addFour", "(I)V"⟩ prog_12_method_2_code 3 none ∈ x_tsl := x_t4 (List.mem_of_getElem? (i := 152) rfl) rfl
theorem w_873 : Cond.methodLink "QuestionReaderLaw" 74 ⟨"QuestionReaderLaw", "trim", "(LQuestionReader;I[J)I"⟩ ∈ x_tsl := x_t4 (List.mem_of_getElem? (i := 153) rfl) rfl
theorem w_874 : Cond.static ⟨"QuestionReaderLaw", "trim", "(LQuestionReader;I[J)I"⟩ ∈ x_tsl := x_t4 (List.mem_of_getElem? (i := 154) rfl) rfl
theorem w_875 : Cond.codeWith ⟨"QuestionReaderLaw", "trim", "(LQuestionReader;I[J)I"⟩ method_4_code 4 (Option.some FieldType.int) [(0, 9, 12, 19)] ∈ x_tsl := x_t4 (List.mem_of_getElem? (i := 155) rfl) rfl
theorem w_876 : Cond.classLink "QuestionReaderLaw" 19 "java/lang/IllegalArgumentException" ∈ x_tsl := x_t4 (List.mem_of_getElem? (i := 156) rfl) rfl
theorem w_877 : Cond.methodLink "QuestionReaderLaw" 15 ⟨"QuestionReader", "trim", "(I)I"⟩ ∈ x_tsl := x_t4 (List.mem_of_getElem? (i := 157) rfl) rfl
theorem w_878 : Cond.instanceMethod ⟨"QuestionReader", "trim", "(I)I"⟩ ∈ x_tsl := x_t4 (List.mem_of_getElem? (i := 158) rfl) rfl
theorem w_879 : Cond.selects "QuestionReader" ⟨"QuestionReader", "trim", "(I)I"⟩ ⟨"QuestionReader", "trim", "(I)I"⟩ ∈ x_tsl := x_t4 (List.mem_of_getElem? (i := 159) rfl) rfl
theorem w_880 : Cond.code ⟨"QuestionReader", "trim", "(I)I"⟩ prog_1_method_3_code 2 (Option.some FieldType.int) ∈ x_tsl := x_t4 (List.mem_of_getElem? (i := 160) rfl) rfl
theorem w_881 : Cond.methodLink "QuestionReader" 64 ⟨"QuestionReader", "demand", "(Z)V"⟩ ∈ x_tsl := x_t4 (List.mem_of_getElem? (i := 161) rfl) rfl
theorem w_882 : Cond.static ⟨"QuestionReader", "demand", "(Z)V"⟩ ∈ x_tsl := x_t4 (List.mem_of_getElem? (i := 162) rfl) rfl
theorem w_883 : Cond.code ⟨"QuestionReader", "demand", "(Z)V"⟩ prog_1_method_19_code 1 none ∈ x_tsl := x_t4 (List.mem_of_getElem? (i := 163) rfl) rfl
theorem w_884 : Cond.classLink "QuestionReader" 135 "java/lang/IllegalArgumentException" ∈ x_tsl := x_t4 (List.mem_of_getElem? (i := 164) rfl) rfl
theorem w_885 : Cond.instantiable "java/lang/IllegalArgumentException" 6 ∈ x_tsl := x_t4 (List.mem_of_getElem? (i := 165) rfl) rfl
theorem w_887 : Cond.selects "java/lang/IllegalArgumentException" ⟨"java/lang/Throwable", "fillInStackTrace", "(I)Ljava/lang/Throwable;"⟩ ⟨"java/lang/Throwable", "fillInStackTrace", "(I)Ljava/lang/Throwable;"⟩ ∈ x_tsl := x_t4 (List.mem_of_getElem? (i := 167) rfl) rfl
theorem w_888 : Cond.lays "java/lang/IllegalArgumentException" "java/lang/Throwable" "cause" "Ljava/lang/Throwable;" ∈ x_tsl := x_t4 (List.mem_of_getElem? (i := 168) rfl) rfl
theorem w_889 : Cond.lays "java/lang/IllegalArgumentException" "java/lang/Throwable" "stackTrace" "[Ljava/lang/StackTraceElement;" ∈ x_tsl := x_t4 (List.mem_of_getElem? (i := 169) rfl) rfl
theorem w_890 : Cond.lays "java/lang/IllegalArgumentException" "java/lang/Throwable" "suppressedExceptions" "Ljava/util/List;" ∈ x_tsl := x_t4 (List.mem_of_getElem? (i := 170) rfl) rfl
theorem w_891 : Cond.lays "java/lang/IllegalArgumentException" "java/lang/Throwable" "detailMessage" "Ljava/lang/String;" ∈ x_tsl := x_t4 (List.mem_of_getElem? (i := 171) rfl) rfl
theorem w_892 : Cond.lays "java/lang/IllegalArgumentException" "java/lang/Throwable" "backtrace" "Ljava/lang/Object;" ∈ x_tsl := x_t4 (List.mem_of_getElem? (i := 172) rfl) rfl
theorem w_894 : Cond.methodLink "QuestionReader" 139 ⟨"java/lang/IllegalArgumentException", "<init>", "(Ljava/lang/String;)V"⟩ ∈ x_tsl := x_t4 (List.mem_of_getElem? (i := 174) rfl) rfl
theorem w_895 : Cond.instanceMethod ⟨"java/lang/IllegalArgumentException", "<init>", "(Ljava/lang/String;)V"⟩ ∈ x_tsl := x_t4 (List.mem_of_getElem? (i := 175) rfl) rfl
theorem w_896 : Cond.code ⟨"java/lang/IllegalArgumentException", "<init>", "(Ljava/lang/String;)V"⟩ prog_18_method_2_code 2 none ∈ x_tsl := x_t4 (List.mem_of_getElem? (i := 176) rfl) rfl
theorem w_897 : Cond.methodLink "java/lang/IllegalArgumentException" 7 ⟨"java/lang/RuntimeException", "<init>", "(Ljava/lang/String;)V"⟩ ∈ x_tsl := x_t4 (List.mem_of_getElem? (i := 177) rfl) rfl
theorem w_898 : Cond.lays "java/lang/IllegalArgumentException" "java/lang/Throwable" "depth" "I" ∈ x_tsl := x_t4 (List.mem_of_getElem? (i := 178) rfl) rfl
theorem w_900 : Cond.methodLink "QuestionReaderLaw" 82 ⟨"QuestionReaderLaw", "fault", "(LQuestionReader;I[J)I"⟩ ∈ x_tsl := x_t4 (List.mem_of_getElem? (i := 180) rfl) rfl
theorem w_901 : Cond.static ⟨"QuestionReaderLaw", "fault", "(LQuestionReader;I[J)I"⟩ ∈ x_tsl := x_t4 (List.mem_of_getElem? (i := 181) rfl) rfl
theorem w_902 : Cond.codeWith ⟨"QuestionReaderLaw", "fault", "(LQuestionReader;I[J)I"⟩ method_5_code 4 (Option.some FieldType.int) [(0, 9, 12, 19)] ∈ x_tsl := x_t4 (List.mem_of_getElem? (i := 182) rfl) rfl
theorem w_903 : Cond.methodLink "QuestionReaderLaw" 21 ⟨"QuestionReader", "fault", "(I)I"⟩ ∈ x_tsl := x_t4 (List.mem_of_getElem? (i := 183) rfl) rfl
theorem w_904 : Cond.instanceMethod ⟨"QuestionReader", "fault", "(I)I"⟩ ∈ x_tsl := x_t4 (List.mem_of_getElem? (i := 184) rfl) rfl
theorem w_905 : Cond.selects "QuestionReader" ⟨"QuestionReader", "fault", "(I)I"⟩ ⟨"QuestionReader", "fault", "(I)I"⟩ ∈ x_tsl := x_t4 (List.mem_of_getElem? (i := 185) rfl) rfl
theorem w_906 : Cond.code ⟨"QuestionReader", "fault", "(I)I"⟩ prog_1_method_5_code 2 (Option.some FieldType.int) ∈ x_tsl := x_t4 (List.mem_of_getElem? (i := 186) rfl) rfl
theorem w_907 : Cond.methodLink "QuestionReaderLaw" 89 ⟨"QuestionReaderLaw", "count", "(LQuestionReader;I[J)I"⟩ ∈ x_tsl := x_t4 (List.mem_of_getElem? (i := 187) rfl) rfl
theorem w_908 : Cond.static ⟨"QuestionReaderLaw", "count", "(LQuestionReader;I[J)I"⟩ ∈ x_tsl := x_t4 (List.mem_of_getElem? (i := 188) rfl) rfl
theorem w_909 : Cond.codeWith ⟨"QuestionReaderLaw", "count", "(LQuestionReader;I[J)I"⟩ method_6_code 4 (Option.some FieldType.int) [(0, 9, 12, 19)] ∈ x_tsl := x_t4 (List.mem_of_getElem? (i := 189) rfl) rfl
theorem w_910 : Cond.methodLink "QuestionReaderLaw" 24 ⟨"QuestionReader", "count", "(I)I"⟩ ∈ x_tsl := x_t4 (List.mem_of_getElem? (i := 190) rfl) rfl
theorem w_911 : Cond.instanceMethod ⟨"QuestionReader", "count", "(I)I"⟩ ∈ x_tsl := x_t4 (List.mem_of_getElem? (i := 191) rfl) rfl
theorem w_912 : Cond.selects "QuestionReader" ⟨"QuestionReader", "count", "(I)I"⟩ ⟨"QuestionReader", "count", "(I)I"⟩ ∈ x_tsl := x_t4 (List.mem_of_getElem? (i := 192) rfl) rfl
theorem w_913 : Cond.code ⟨"QuestionReader", "count", "(I)I"⟩ prog_1_method_7_code 3 (Option.some FieldType.int) ∈ x_tsl := x_t4 (List.mem_of_getElem? (i := 193) rfl) rfl
theorem w_915 : Cond.methodLink "QuestionReaderLaw" 92 ⟨"QuestionReaderLaw", "dimension", "(LQuestionReader;II[J)I"⟩ ∈ x_tsl := x_t4 (List.mem_of_getElem? (i := 195) rfl) rfl
theorem w_916 : Cond.static ⟨"QuestionReaderLaw", "dimension", "(LQuestionReader;II[J)I"⟩ ∈ x_tsl := x_t4 (List.mem_of_getElem? (i := 196) rfl) rfl
theorem w_917 : Cond.codeWith ⟨"QuestionReaderLaw", "dimension", "(LQuestionReader;II[J)I"⟩ method_7_code 5 (Option.some FieldType.int) [(0, 10, 13, 19)] ∈ x_tsl := x_t4 (List.mem_of_getElem? (i := 197) rfl) rfl
theorem w_918 : Cond.methodLink "QuestionReaderLaw" 27 ⟨"QuestionReader", "dimension", "(II)I"⟩ ∈ x_tsl := x_t4 (List.mem_of_getElem? (i := 198) rfl) rfl
theorem w_919 : Cond.instanceMethod ⟨"QuestionReader", "dimension", "(II)I"⟩ ∈ x_tsl := x_t4 (List.mem_of_getElem? (i := 199) rfl) rfl
theorem w_920 : Cond.selects "QuestionReader" ⟨"QuestionReader", "dimension", "(II)I"⟩ ⟨"QuestionReader", "dimension", "(II)I"⟩ ∈ x_tsl := x_t4 (List.mem_of_getElem? (i := 200) rfl) rfl
theorem w_921 : Cond.code ⟨"QuestionReader", "dimension", "(II)I"⟩ prog_1_method_8_code 4 (Option.some FieldType.int) ∈ x_tsl := x_t4 (List.mem_of_getElem? (i := 201) rfl) rfl
theorem w_922 : Cond.methodLink "QuestionReader" 140 ⟨"QuestionReader$Catalog", "hasDimension", "(I)Z"⟩ ∈ x_tsl := x_t4 (List.mem_of_getElem? (i := 202) rfl) rfl
theorem w_923 : Cond.instanceMethod ⟨"QuestionReader$Catalog", "hasDimension", "(I)Z"⟩ ∈ x_tsl := x_t4 (List.mem_of_getElem? (i := 203) rfl) rfl
theorem w_924 : Cond.selects "QuestionReader$Catalog" ⟨"QuestionReader$Catalog", "hasDimension", "(I)Z"⟩ ⟨"QuestionReader$Catalog", "hasDimension", "(I)Z"⟩ ∈ x_tsl := x_t4 (List.mem_of_getElem? (i := 204) rfl) rfl
theorem w_925 : Cond.code ⟨"QuestionReader$Catalog", "hasDimension", "(I)Z"⟩ prog_2_method_2_code 2 (Option.some FieldType.boolean) ∈ x_tsl := x_t4 (List.mem_of_getElem? (i := 205) rfl) rfl
theorem w_926 : Cond.methodLink "QuestionReaderLaw" 96 ⟨"QuestionReaderLaw", "value", "(LQuestionReader;III[J)I"⟩ ∈ x_tsl := x_t4 (List.mem_of_getElem? (i := 206) rfl) rfl
theorem w_927 : Cond.static ⟨"QuestionReaderLaw", "value", "(LQuestionReader;III[J)I"⟩ ∈ x_tsl := x_t4 (List.mem_of_getElem? (i := 207) rfl) rfl
theorem w_928 : Cond.codeWith ⟨"QuestionReaderLaw", "value", "(LQuestionReader;III[J)I"⟩ method_8_code 6 (Option.some FieldType.int) [(0, 12, 15, 19)] ∈ x_tsl := x_t4 (List.mem_of_getElem? (i := 208) rfl) rfl
theorem w_929 : Cond.methodLink "QuestionReaderLaw" 31 ⟨"QuestionReader", "value", "(III)I"⟩ ∈ x_tsl := x_t4 (List.mem_of_getElem? (i := 209) rfl) rfl
theorem w_930 : Cond.instanceMethod ⟨"QuestionReader", "value", "(III)I"⟩ ∈ x_tsl := x_t4 (List.mem_of_getElem? (i := 210) rfl) rfl
theorem w_931 : Cond.selects "QuestionReader" ⟨"QuestionReader", "value", "(III)I"⟩ ⟨"QuestionReader", "value", "(III)I"⟩ ∈ x_tsl := x_t4 (List.mem_of_getElem? (i := 211) rfl) rfl
theorem w_932 : Cond.code ⟨"QuestionReader", "value", "(III)I"⟩ prog_1_method_9_code 4 (Option.some FieldType.int) ∈ x_tsl := x_t4 (List.mem_of_getElem? (i := 212) rfl) rfl
theorem w_933 : Cond.methodLink "QuestionReader" 156 ⟨"QuestionReader$Catalog", "hasLevel", "(II)Z"⟩ ∈ x_tsl := x_t4 (List.mem_of_getElem? (i := 213) rfl) rfl
theorem w_934 : Cond.instanceMethod ⟨"QuestionReader$Catalog", "hasLevel", "(II)Z"⟩ ∈ x_tsl := x_t4 (List.mem_of_getElem? (i := 214) rfl) rfl
theorem w_935 : Cond.selects "QuestionReader$Catalog" ⟨"QuestionReader$Catalog", "hasLevel", "(II)Z"⟩ ⟨"QuestionReader$Catalog", "hasLevel", "(II)Z"⟩ ∈ x_tsl := x_t4 (List.mem_of_getElem? (i := 215) rfl) rfl
theorem w_936 : Cond.code ⟨"QuestionReader$Catalog", "hasLevel", "(II)Z"⟩ prog_2_method_3_code 3 (Option.some FieldType.boolean) ∈ x_tsl := x_t4 (List.mem_of_getElem? (i := 216) rfl) rfl
theorem w_937 : Cond.methodLink "QuestionReader$Catalog" 29 ⟨"QuestionReader$Catalog", "hasDimension", "(I)Z"⟩ ∈ x_tsl := x_t4 (List.mem_of_getElem? (i := 217) rfl) rfl
theorem w_938 : Cond.methodLink "QuestionReader" 160 ⟨"QuestionReader$Catalog", "hasMember", "(II)Z"⟩ ∈ x_tsl := x_t4 (List.mem_of_getElem? (i := 218) rfl) rfl
theorem w_939 : Cond.instanceMethod ⟨"QuestionReader$Catalog", "hasMember", "(II)Z"⟩ ∈ x_tsl := x_t4 (List.mem_of_getElem? (i := 219) rfl) rfl
theorem w_940 : Cond.selects "QuestionReader$Catalog" ⟨"QuestionReader$Catalog", "hasMember", "(II)Z"⟩ ⟨"QuestionReader$Catalog", "hasMember", "(II)Z"⟩ ∈ x_tsl := x_t4 (List.mem_of_getElem? (i := 220) rfl) rfl
theorem w_941 : Cond.code ⟨"QuestionReader$Catalog", "hasMember", "(II)Z"⟩ prog_2_method_4_code 3 (Option.some FieldType.boolean) ∈ x_tsl := x_t4 (List.mem_of_getElem? (i := 221) rfl) rfl
theorem w_942 : Cond.methodLink "QuestionReader" 163 ⟨"QuestionReader$Dimension", "valueAt", "(II)I"⟩ ∈ x_tsl := x_t4 (List.mem_of_getElem? (i := 222) rfl) rfl
theorem w_943 : Cond.instanceMethod ⟨"QuestionReader$Dimension", "valueAt", "(II)I"⟩ ∈ x_tsl := x_t4 (List.mem_of_getElem? (i := 223) rfl) rfl
theorem w_944 : Cond.selects "QuestionReader$Dimension" ⟨"QuestionReader$Dimension", "valueAt", "(II)I"⟩ ⟨"QuestionReader$Dimension", "valueAt", "(II)I"⟩ ∈ x_tsl := x_t4 (List.mem_of_getElem? (i := 224) rfl) rfl
theorem w_945 : Cond.code ⟨"QuestionReader$Dimension", "valueAt", "(II)I"⟩ prog_6_method_5_code 3 (Option.some FieldType.int) ∈ x_tsl := x_t4 (List.mem_of_getElem? (i := 225) rfl) rfl
theorem w_946 : Cond.methodLink "QuestionReaderLaw" 100 ⟨"QuestionReaderLaw", "rank", "(LQuestionReader;III[J)I"⟩ ∈ x_tsl := x_t4 (List.mem_of_getElem? (i := 226) rfl) rfl
theorem w_947 : Cond.static ⟨"QuestionReaderLaw", "rank", "(LQuestionReader;III[J)I"⟩ ∈ x_tsl := x_t4 (List.mem_of_getElem? (i := 227) rfl) rfl
theorem w_948 : Cond.codeWith ⟨"QuestionReaderLaw", "rank", "(LQuestionReader;III[J)I"⟩ method_9_code 6 (Option.some FieldType.int) [(0, 12, 15, 19), (0, 12, 19, 13)] ∈ x_tsl := x_t4 (List.mem_of_getElem? (i := 228) rfl) rfl
theorem w_949 : Cond.methodLink "QuestionReaderLaw" 35 ⟨"QuestionReader", "rank", "(III)I"⟩ ∈ x_tsl := x_t4 (List.mem_of_getElem? (i := 229) rfl) rfl
theorem w_950 : Cond.instanceMethod ⟨"QuestionReader", "rank", "(III)I"⟩ ∈ x_tsl := x_t4 (List.mem_of_getElem? (i := 230) rfl) rfl
theorem w_951 : Cond.selects "QuestionReader" ⟨"QuestionReader", "rank", "(III)I"⟩ ⟨"QuestionReader", "rank", "(III)I"⟩ ∈ x_tsl := x_t4 (List.mem_of_getElem? (i := 231) rfl) rfl
theorem w_952 : Cond.code ⟨"QuestionReader", "rank", "(III)I"⟩ prog_1_method_10_code 5 (Option.some FieldType.int) ∈ x_tsl := x_t4 (List.mem_of_getElem? (i := 232) rfl) rfl
theorem w_953 : Cond.methodLink "QuestionReader" 167 ⟨"QuestionReader", "demandOpen", "()V"⟩ ∈ x_tsl := x_t4 (List.mem_of_getElem? (i := 233) rfl) rfl
theorem w_955 : Cond.instanceMethod ⟨"QuestionReader", "demandOpen", "()V"⟩ ∈ x_tsl := x_t4 (List.mem_of_getElem? (i := 235) rfl) rfl
theorem w_956 : Cond.code ⟨"QuestionReader", "demandOpen", "()V"⟩ prog_1_method_18_code 1 none ∈ x_tsl := x_t4 (List.mem_of_getElem? (i := 236) rfl) rfl
theorem w_958 : Cond.methodLink "QuestionReader" 170 ⟨"QuestionReader$Dimension", "distinctAt", "(I)I"⟩ ∈ x_tsl := x_t4 (List.mem_of_getElem? (i := 238) rfl) rfl
theorem w_959 : Cond.instanceMethod ⟨"QuestionReader$Dimension", "distinctAt", "(I)I"⟩ ∈ x_tsl := x_t4 (List.mem_of_getElem? (i := 239) rfl) rfl
theorem w_960 : Cond.selects "QuestionReader$Dimension" ⟨"QuestionReader$Dimension", "distinctAt", "(I)I"⟩ ⟨"QuestionReader$Dimension", "distinctAt", "(I)I"⟩ ∈ x_tsl := x_t5 (List.mem_of_getElem? (i := 0) rfl) rfl
theorem w_961 : Cond.code ⟨"QuestionReader$Dimension", "distinctAt", "(I)I"⟩ prog_6_method_6_code 2 (Option.some FieldType.int) ∈ x_tsl := x_t5 (List.mem_of_getElem? (i := 1) rfl) rfl
theorem w_962 : Cond.methodLink "QuestionReader" 174 ⟨"QuestionReader$Dimension", "lowerThan", "(II)I"⟩ ∈ x_tsl := x_t5 (List.mem_of_getElem? (i := 2) rfl) rfl
theorem w_963 : Cond.methodLink "QuestionReaderLaw" 103 ⟨"QuestionReaderLaw", "find", "(LQuestionReader;II[J)I"⟩ ∈ x_tsl := x_t5 (List.mem_of_getElem? (i := 3) rfl) rfl
theorem w_964 : Cond.static ⟨"QuestionReaderLaw", "find", "(LQuestionReader;II[J)I"⟩ ∈ x_tsl := x_t5 (List.mem_of_getElem? (i := 4) rfl) rfl
theorem w_965 : Cond.codeWith ⟨"QuestionReaderLaw", "find", "(LQuestionReader;II[J)I"⟩ method_10_code 5 (Option.some FieldType.int) [(0, 10, 13, 19), (0, 10, 17, 13)] ∈ x_tsl := x_t5 (List.mem_of_getElem? (i := 5) rfl) rfl
theorem w_966 : Cond.methodLink "QuestionReaderLaw" 38 ⟨"QuestionReader", "find", "(II)I"⟩ ∈ x_tsl := x_t5 (List.mem_of_getElem? (i := 6) rfl) rfl
theorem w_967 : Cond.instanceMethod ⟨"QuestionReader", "find", "(II)I"⟩ ∈ x_tsl := x_t5 (List.mem_of_getElem? (i := 7) rfl) rfl
theorem w_968 : Cond.selects "QuestionReader" ⟨"QuestionReader", "find", "(II)I"⟩ ⟨"QuestionReader", "find", "(II)I"⟩ ∈ x_tsl := x_t5 (List.mem_of_getElem? (i := 8) rfl) rfl
theorem w_969 : Cond.code ⟨"QuestionReader", "find", "(II)I"⟩ prog_1_method_11_code 3 (Option.some FieldType.int) ∈ x_tsl := x_t5 (List.mem_of_getElem? (i := 9) rfl) rfl
theorem w_970 : Cond.methodLink "QuestionReader" 177 ⟨"QuestionReader$Dimension", "placeOf", "(I)I"⟩ ∈ x_tsl := x_t5 (List.mem_of_getElem? (i := 10) rfl) rfl
theorem w_971 : Cond.instanceMethod ⟨"QuestionReader$Dimension", "placeOf", "(I)I"⟩ ∈ x_tsl := x_t5 (List.mem_of_getElem? (i := 11) rfl) rfl
theorem w_972 : Cond.selects "QuestionReader$Dimension" ⟨"QuestionReader$Dimension", "placeOf", "(I)I"⟩ ⟨"QuestionReader$Dimension", "placeOf", "(I)I"⟩ ∈ x_tsl := x_t5 (List.mem_of_getElem? (i := 12) rfl) rfl
theorem w_973 : Cond.code ⟨"QuestionReader$Dimension", "placeOf", "(I)I"⟩ prog_6_method_8_code 3 (Option.some FieldType.int) ∈ x_tsl := x_t5 (List.mem_of_getElem? (i := 13) rfl) rfl
theorem w_974 : Cond.methodLink "QuestionReaderLaw" 106 ⟨"QuestionReaderLaw", "letter", "(LQuestionReader;II[J)I"⟩ ∈ x_tsl := x_t5 (List.mem_of_getElem? (i := 14) rfl) rfl
theorem w_975 : Cond.static ⟨"QuestionReaderLaw", "letter", "(LQuestionReader;II[J)I"⟩ ∈ x_tsl := x_t5 (List.mem_of_getElem? (i := 15) rfl) rfl
theorem w_976 : Cond.codeWith ⟨"QuestionReaderLaw", "letter", "(LQuestionReader;II[J)I"⟩ method_11_code 5 (Option.some FieldType.int) [(0, 10, 13, 19)] ∈ x_tsl := x_t5 (List.mem_of_getElem? (i := 16) rfl) rfl
theorem w_977 : Cond.methodLink "QuestionReaderLaw" 41 ⟨"QuestionReader", "letter", "(II)I"⟩ ∈ x_tsl := x_t5 (List.mem_of_getElem? (i := 17) rfl) rfl
theorem w_978 : Cond.instanceMethod ⟨"QuestionReader", "letter", "(II)I"⟩ ∈ x_tsl := x_t5 (List.mem_of_getElem? (i := 18) rfl) rfl
theorem w_979 : Cond.selects "QuestionReader" ⟨"QuestionReader", "letter", "(II)I"⟩ ⟨"QuestionReader", "letter", "(II)I"⟩ ∈ x_tsl := x_t5 (List.mem_of_getElem? (i := 19) rfl) rfl
theorem w_980 : Cond.code ⟨"QuestionReader", "letter", "(II)I"⟩ prog_1_method_12_code 3 (Option.some FieldType.int) ∈ x_tsl := x_t5 (List.mem_of_getElem? (i := 20) rfl) rfl
theorem w_981 : Cond.methodLink "QuestionReader" 180 ⟨"QuestionReader$Catalog", "hasName", "(I)Z"⟩ ∈ x_tsl := x_t5 (List.mem_of_getElem? (i := 21) rfl) rfl
theorem w_982 : Cond.instanceMethod ⟨"QuestionReader$Catalog", "hasName", "(I)Z"⟩ ∈ x_tsl := x_t5 (List.mem_of_getElem? (i := 22) rfl) rfl
theorem w_983 : Cond.selects "QuestionReader$Catalog" ⟨"QuestionReader$Catalog", "hasName", "(I)Z"⟩ ⟨"QuestionReader$Catalog", "hasName", "(I)Z"⟩ ∈ x_tsl := x_t5 (List.mem_of_getElem? (i := 23) rfl) rfl
theorem w_984 : Cond.code ⟨"QuestionReader$Catalog", "hasName", "(I)Z"⟩ prog_2_method_5_code 3 (Option.some FieldType.boolean) ∈ x_tsl := x_t5 (List.mem_of_getElem? (i := 24) rfl) rfl
theorem w_985 : Cond.methodLink "QuestionReader$Catalog" 39 ⟨"QuestionReader$Catalog", "dimensionOf", "(I)I"⟩ ∈ x_tsl := x_t5 (List.mem_of_getElem? (i := 25) rfl) rfl
theorem w_986 : Cond.static ⟨"QuestionReader$Catalog", "dimensionOf", "(I)I"⟩ ∈ x_tsl := x_t5 (List.mem_of_getElem? (i := 26) rfl) rfl
theorem w_987 : Cond.code ⟨"QuestionReader$Catalog", "dimensionOf", "(I)I"⟩ prog_2_method_10_code 1 (Option.some FieldType.int) ∈ x_tsl := x_t5 (List.mem_of_getElem? (i := 27) rfl) rfl
theorem w_988 : Cond.methodLink "QuestionReader$Catalog" 43 ⟨"QuestionReader$Catalog", "levelOf", "(I)I"⟩ ∈ x_tsl := x_t5 (List.mem_of_getElem? (i := 28) rfl) rfl
theorem w_989 : Cond.static ⟨"QuestionReader$Catalog", "levelOf", "(I)I"⟩ ∈ x_tsl := x_t5 (List.mem_of_getElem? (i := 29) rfl) rfl
theorem w_990 : Cond.code ⟨"QuestionReader$Catalog", "levelOf", "(I)I"⟩ prog_2_method_11_code 1 (Option.some FieldType.int) ∈ x_tsl := x_t5 (List.mem_of_getElem? (i := 30) rfl) rfl
theorem w_991 : Cond.methodLink "QuestionReader$Catalog" 46 ⟨"QuestionReader$Catalog", "hasLevel", "(II)Z"⟩ ∈ x_tsl := x_t5 (List.mem_of_getElem? (i := 31) rfl) rfl
theorem w_992 : Cond.methodLink "QuestionReader" 187 ⟨"QuestionReader$Names", "letterAt", "(II)I"⟩ ∈ x_tsl := x_t5 (List.mem_of_getElem? (i := 32) rfl) rfl
theorem w_993 : Cond.instanceMethod ⟨"QuestionReader$Names", "letterAt", "(II)I"⟩ ∈ x_tsl := x_t5 (List.mem_of_getElem? (i := 33) rfl) rfl
theorem w_994 : Cond.selects "QuestionReader$Names" ⟨"QuestionReader$Names", "letterAt", "(II)I"⟩ ⟨"QuestionReader$Names", "letterAt", "(II)I"⟩ ∈ x_tsl := x_t5 (List.mem_of_getElem? (i := 34) rfl) rfl
theorem w_995 : Cond.code ⟨"QuestionReader$Names", "letterAt", "(II)I"⟩ prog_9_method_3_code 3 (Option.some FieldType.int) ∈ x_tsl := x_t5 (List.mem_of_getElem? (i := 35) rfl) rfl
theorem w_996 : Cond.methodLink "QuestionReaderLaw" 109 ⟨"QuestionReaderLaw", "item", "(LQuestionReader;II[J)I"⟩ ∈ x_tsl := x_t5 (List.mem_of_getElem? (i := 36) rfl) rfl
theorem w_997 : Cond.static ⟨"QuestionReaderLaw", "item", "(LQuestionReader;II[J)I"⟩ ∈ x_tsl := x_t5 (List.mem_of_getElem? (i := 37) rfl) rfl
theorem w_998 : Cond.codeWith ⟨"QuestionReaderLaw", "item", "(LQuestionReader;II[J)I"⟩ method_12_code 5 (Option.some FieldType.int) [(0, 10, 13, 19)] ∈ x_tsl := x_t5 (List.mem_of_getElem? (i := 38) rfl) rfl
theorem w_999 : Cond.methodLink "QuestionReaderLaw" 44 ⟨"QuestionReader", "item", "(II)I"⟩ ∈ x_tsl := x_t5 (List.mem_of_getElem? (i := 39) rfl) rfl
theorem w_1000 : Cond.instanceMethod ⟨"QuestionReader", "item", "(II)I"⟩ ∈ x_tsl := x_t5 (List.mem_of_getElem? (i := 40) rfl) rfl
theorem w_1001 : Cond.selects "QuestionReader" ⟨"QuestionReader", "item", "(II)I"⟩ ⟨"QuestionReader", "item", "(II)I"⟩ ∈ x_tsl := x_t5 (List.mem_of_getElem? (i := 41) rfl) rfl
theorem w_1002 : Cond.code ⟨"QuestionReader", "item", "(II)I"⟩ prog_1_method_13_code 4 (Option.some FieldType.int) ∈ x_tsl := x_t5 (List.mem_of_getElem? (i := 42) rfl) rfl
theorem w_1003 : Cond.methodLink "QuestionReaderLaw" 112 ⟨"QuestionReaderLaw", "group", "(LQuestionReader;I[J)I"⟩ ∈ x_tsl := x_t5 (List.mem_of_getElem? (i := 43) rfl) rfl
theorem w_1004 : Cond.static ⟨"QuestionReaderLaw", "group", "(LQuestionReader;I[J)I"⟩ ∈ x_tsl := x_t5 (List.mem_of_getElem? (i := 44) rfl) rfl
theorem w_1005 : Cond.codeWith ⟨"QuestionReaderLaw", "group", "(LQuestionReader;I[J)I"⟩ method_13_code 4 (Option.some FieldType.int) [(0, 9, 12, 19)] ∈ x_tsl := x_t5 (List.mem_of_getElem? (i := 45) rfl) rfl
theorem w_1006 : Cond.methodLink "QuestionReaderLaw" 47 ⟨"QuestionReader", "group", "(I)I"⟩ ∈ x_tsl := x_t5 (List.mem_of_getElem? (i := 46) rfl) rfl
theorem w_1007 : Cond.instanceMethod ⟨"QuestionReader", "group", "(I)I"⟩ ∈ x_tsl := x_t5 (List.mem_of_getElem? (i := 47) rfl) rfl
theorem w_1008 : Cond.selects "QuestionReader" ⟨"QuestionReader", "group", "(I)I"⟩ ⟨"QuestionReader", "group", "(I)I"⟩ ∈ x_tsl := x_t5 (List.mem_of_getElem? (i := 48) rfl) rfl
theorem w_1009 : Cond.code ⟨"QuestionReader", "group", "(I)I"⟩ prog_1_method_14_code 3 (Option.some FieldType.int) ∈ x_tsl := x_t5 (List.mem_of_getElem? (i := 49) rfl) rfl
theorem w_1010 : Cond.methodLink "QuestionReaderLaw" 115 ⟨"QuestionReaderLaw", "set", "(LQuestionReader;I[J)I"⟩ ∈ x_tsl := x_t5 (List.mem_of_getElem? (i := 50) rfl) rfl
theorem w_1011 : Cond.static ⟨"QuestionReaderLaw", "set", "(LQuestionReader;I[J)I"⟩ ∈ x_tsl := x_t5 (List.mem_of_getElem? (i := 51) rfl) rfl
theorem w_1012 : Cond.codeWith ⟨"QuestionReaderLaw", "set", "(LQuestionReader;I[J)I"⟩ method_14_code 4 (Option.some FieldType.int) [(0, 9, 12, 19)] ∈ x_tsl := x_t5 (List.mem_of_getElem? (i := 52) rfl) rfl
theorem w_1013 : Cond.methodLink "QuestionReaderLaw" 50 ⟨"QuestionReader", "set", "(I)I"⟩ ∈ x_tsl := x_t5 (List.mem_of_getElem? (i := 53) rfl) rfl
theorem w_1014 : Cond.instanceMethod ⟨"QuestionReader", "set", "(I)I"⟩ ∈ x_tsl := x_t5 (List.mem_of_getElem? (i := 54) rfl) rfl
theorem w_1015 : Cond.selects "QuestionReader" ⟨"QuestionReader", "set", "(I)I"⟩ ⟨"QuestionReader", "set", "(I)I"⟩ ∈ x_tsl := x_t5 (List.mem_of_getElem? (i := 55) rfl) rfl
theorem w_1016 : Cond.code ⟨"QuestionReader", "set", "(I)I"⟩ prog_1_method_15_code 3 (Option.some FieldType.int) ∈ x_tsl := x_t5 (List.mem_of_getElem? (i := 56) rfl) rfl
theorem w_1017 : Cond.methodLink "QuestionReaderLaw" 118 ⟨"QuestionReaderLaw", "pick", "(LQuestionReader;II[J)I"⟩ ∈ x_tsl := x_t5 (List.mem_of_getElem? (i := 57) rfl) rfl
theorem w_1018 : Cond.static ⟨"QuestionReaderLaw", "pick", "(LQuestionReader;II[J)I"⟩ ∈ x_tsl := x_t5 (List.mem_of_getElem? (i := 58) rfl) rfl
theorem w_1019 : Cond.codeWith ⟨"QuestionReaderLaw", "pick", "(LQuestionReader;II[J)I"⟩ method_15_code 5 (Option.some FieldType.int) [(0, 10, 13, 19), (0, 10, 17, 13)] ∈ x_tsl := x_t5 (List.mem_of_getElem? (i := 59) rfl) rfl
theorem w_1020 : Cond.methodLink "QuestionReaderLaw" 53 ⟨"QuestionReader", "pick", "(II)I"⟩ ∈ x_tsl := x_t5 (List.mem_of_getElem? (i := 60) rfl) rfl
theorem w_1021 : Cond.instanceMethod ⟨"QuestionReader", "pick", "(II)I"⟩ ∈ x_tsl := x_t5 (List.mem_of_getElem? (i := 61) rfl) rfl
theorem w_1022 : Cond.selects "QuestionReader" ⟨"QuestionReader", "pick", "(II)I"⟩ ⟨"QuestionReader", "pick", "(II)I"⟩ ∈ x_tsl := x_t5 (List.mem_of_getElem? (i := 62) rfl) rfl
theorem w_1023 : Cond.code ⟨"QuestionReader", "pick", "(II)I"⟩ prog_1_method_16_code 5 (Option.some FieldType.int) ∈ x_tsl := x_t5 (List.mem_of_getElem? (i := 63) rfl) rfl
theorem w_1024 : Cond.methodLink "QuestionReaderLaw" 121 ⟨"QuestionReaderLaw", "holds", "(LQuestionReader;[J)I"⟩ ∈ x_tsl := x_t5 (List.mem_of_getElem? (i := 64) rfl) rfl
theorem w_1025 : Cond.static ⟨"QuestionReaderLaw", "holds", "(LQuestionReader;[J)I"⟩ ∈ x_tsl := x_t5 (List.mem_of_getElem? (i := 65) rfl) rfl
theorem w_1026 : Cond.codeWith ⟨"QuestionReaderLaw", "holds", "(LQuestionReader;[J)I"⟩ method_16_code 3 (Option.some FieldType.int) [(0, 15, 18, 13)] ∈ x_tsl := x_t5 (List.mem_of_getElem? (i := 66) rfl) rfl
theorem w_1027 : Cond.methodLink "QuestionReaderLaw" 56 ⟨"QuestionReader", "holds", "()Z"⟩ ∈ x_tsl := x_t5 (List.mem_of_getElem? (i := 67) rfl) rfl
theorem w_1028 : Cond.instanceMethod ⟨"QuestionReader", "holds", "()Z"⟩ ∈ x_tsl := x_t5 (List.mem_of_getElem? (i := 68) rfl) rfl
theorem w_1029 : Cond.selects "QuestionReader" ⟨"QuestionReader", "holds", "()Z"⟩ ⟨"QuestionReader", "holds", "()Z"⟩ ∈ x_tsl := x_t5 (List.mem_of_getElem? (i := 69) rfl) rfl
theorem w_1030 : Cond.code ⟨"QuestionReader", "holds", "()Z"⟩ prog_1_method_17_code 2 (Option.some FieldType.boolean) ∈ x_tsl := x_t5 (List.mem_of_getElem? (i := 70) rfl) rfl
theorem w_1031 : Cond.methodLink "QuestionReader" 208 ⟨"QuestionReader$Question", "isAsked", "()Z"⟩ ∈ x_tsl := x_t5 (List.mem_of_getElem? (i := 71) rfl) rfl
theorem w_1032 : Cond.instanceMethod ⟨"QuestionReader$Question", "isAsked", "()Z"⟩ ∈ x_tsl := x_t5 (List.mem_of_getElem? (i := 72) rfl) rfl
theorem w_1033 : Cond.selects "QuestionReader$Question" ⟨"QuestionReader$Question", "isAsked", "()Z"⟩ ⟨"QuestionReader$Question", "isAsked", "()Z"⟩ ∈ x_tsl := x_t5 (List.mem_of_getElem? (i := 73) rfl) rfl
theorem w_1034 : Cond.code ⟨"QuestionReader$Question", "isAsked", "()Z"⟩ prog_10_method_4_code 1 (Option.some FieldType.boolean) ∈ x_tsl := x_t5 (List.mem_of_getElem? (i := 74) rfl) rfl
theorem w_1036 : Cond.methodLink "QuestionReader" 213 ⟨"QuestionReader$Condition", "isTrueFor", "(LQuestionReader$Catalog;)Z"⟩ ∈ x_tsl := x_t5 (List.mem_of_getElem? (i := 76) rfl) rfl
theorem w_1037 : Cond.instanceMethod ⟨"QuestionReader$Condition", "isTrueFor", "(LQuestionReader$Catalog;)Z"⟩ ∈ x_tsl := x_t5 (List.mem_of_getElem? (i := 77) rfl) rfl
theorem w_1038 : Cond.selects "QuestionReader$Condition" ⟨"QuestionReader$Condition", "isTrueFor", "(LQuestionReader$Catalog;)Z"⟩ ⟨"QuestionReader$Condition", "isTrueFor", "(LQuestionReader$Catalog;)Z"⟩ ∈ x_tsl := x_t5 (List.mem_of_getElem? (i := 78) rfl) rfl
theorem w_1039 : Cond.code ⟨"QuestionReader$Condition", "isTrueFor", "(LQuestionReader$Catalog;)Z"⟩ prog_5_method_11_code 6 (Option.some FieldType.boolean) ∈ x_tsl := x_t5 (List.mem_of_getElem? (i := 79) rfl) rfl
theorem w_1040 : Cond.methodLink "QuestionReader$Condition" 68 ⟨"QuestionReader$Catalog", "pickedValue", "(I)I"⟩ ∈ x_tsl := x_t5 (List.mem_of_getElem? (i := 80) rfl) rfl
theorem w_1041 : Cond.instanceMethod ⟨"QuestionReader$Catalog", "pickedValue", "(I)I"⟩ ∈ x_tsl := x_t5 (List.mem_of_getElem? (i := 81) rfl) rfl
theorem w_1042 : Cond.selects "QuestionReader$Catalog" ⟨"QuestionReader$Catalog", "pickedValue", "(I)I"⟩ ⟨"QuestionReader$Catalog", "pickedValue", "(I)I"⟩ ∈ x_tsl := x_t5 (List.mem_of_getElem? (i := 82) rfl) rfl
theorem w_1043 : Cond.code ⟨"QuestionReader$Catalog", "pickedValue", "(I)I"⟩ prog_2_method_8_code 3 (Option.some FieldType.int) ∈ x_tsl := x_t5 (List.mem_of_getElem? (i := 83) rfl) rfl
theorem w_1044 : Cond.methodLink "QuestionReader$Catalog" 67 ⟨"QuestionReader$Dimension", "valueAt", "(II)I"⟩ ∈ x_tsl := x_t5 (List.mem_of_getElem? (i := 84) rfl) rfl
theorem w_1045 : Cond.methodLink "QuestionReader$Condition" 74 ⟨"QuestionReader$Comparison", "accepts", "(I)Z"⟩ ∈ x_tsl := x_t5 (List.mem_of_getElem? (i := 85) rfl) rfl
theorem w_1046 : Cond.instanceMethod ⟨"QuestionReader$Comparison", "accepts", "(I)Z"⟩ ∈ x_tsl := x_t5 (List.mem_of_getElem? (i := 86) rfl) rfl
theorem w_1047 : Cond.selects "QuestionReader$Comparison" ⟨"QuestionReader$Comparison", "accepts", "(I)Z"⟩ ⟨"QuestionReader$Comparison", "accepts", "(I)Z"⟩ ∈ x_tsl := x_t5 (List.mem_of_getElem? (i := 87) rfl) rfl
theorem w_1048 : Cond.code ⟨"QuestionReader$Comparison", "accepts", "(I)Z"⟩ prog_4_method_6_code 3 (Option.some FieldType.boolean) ∈ x_tsl := x_t5 (List.mem_of_getElem? (i := 88) rfl) rfl
theorem w_1049 : Cond.methodLink "QuestionReader$Comparison" 52 ⟨"QuestionReader$Comparison", "isListed", "(I)Z"⟩ ∈ x_tsl := x_t5 (List.mem_of_getElem? (i := 89) rfl) rfl
theorem w_1051 : Cond.instanceMethod ⟨"QuestionReader$Comparison", "isListed", "(I)Z"⟩ ∈ x_tsl := x_t5 (List.mem_of_getElem? (i := 91) rfl) rfl
theorem w_1052 : Cond.code ⟨"QuestionReader$Comparison", "isListed", "(I)Z"⟩ prog_4_method_7_code 3 (Option.some FieldType.boolean) ∈ x_tsl := x_t5 (List.mem_of_getElem? (i := 92) rfl) rfl
theorem w_1053 : Cond.classLink "QuestionReaderLaw" 61 "QuestionReaderModel" ∈ x_tsl := x_t5 (List.mem_of_getElem? (i := 93) rfl) rfl
theorem w_1054 : Cond.instantiable "QuestionReaderModel" 27 ∈ x_tsl := x_t5 (List.mem_of_getElem? (i := 94) rfl) rfl
theorem w_1055 : Cond.methodLink "QuestionReaderLaw" 63 ⟨"QuestionReaderModel", "<init>", "()V"⟩ ∈ x_tsl := x_t5 (List.mem_of_getElem? (i := 95) rfl) rfl
theorem w_1056 : Cond.instanceMethod ⟨"QuestionReaderModel", "<init>", "()V"⟩ ∈ x_tsl := x_t5 (List.mem_of_getElem? (i := 96) rfl) rfl
theorem w_1057 : Cond.code ⟨"QuestionReaderModel", "<init>", "()V"⟩ prog_14_method_1_code 1 none ∈ x_tsl := x_t5 (List.mem_of_getElem? (i := 97) rfl) rfl
theorem w_1058 : Cond.methodLink "QuestionReaderModel" 1 ⟨"java/lang/Object", "<init>", "()V"⟩ ∈ x_tsl := x_t5 (List.mem_of_getElem? (i := 98) rfl) rfl
theorem w_1060 : Cond.constant "QuestionReaderModel" 15 (65536 : Int32) ∈ x_tsl := x_t5 (List.mem_of_getElem? (i := 100) rfl) rfl
theorem w_1061 : Cond.classLink "QuestionReaderModel" 43 "QuestionReaderModel$Question" ∈ x_tsl := x_t5 (List.mem_of_getElem? (i := 101) rfl) rfl
theorem w_1062 : Cond.instantiable "QuestionReaderModel$Question" 19 ∈ x_tsl := x_t5 (List.mem_of_getElem? (i := 102) rfl) rfl
theorem w_1064 : Cond.instanceMethod ⟨"QuestionReaderModel$Question", "<init>", "()V"⟩ ∈ x_tsl := x_t5 (List.mem_of_getElem? (i := 104) rfl) rfl
theorem w_1065 : Cond.code ⟨"QuestionReaderModel$Question", "<init>", "()V"⟩ prog_15_method_1_code 1 none ∈ x_tsl := x_t5 (List.mem_of_getElem? (i := 105) rfl) rfl
theorem w_1066 : Cond.methodLink "QuestionReaderModel$Question" 1 ⟨"java/lang/Object", "<init>", "()V"⟩ ∈ x_tsl := x_t5 (List.mem_of_getElem? (i := 106) rfl) rfl
theorem w_1068 : Cond.fieldLink "QuestionReaderModel$Question" 7 "QuestionReaderModel$Question" "kind" "[I" ∈ x_tsl := x_t5 (List.mem_of_getElem? (i := 108) rfl) rfl
theorem w_1070 : Cond.fieldLink "QuestionReaderModel$Question" 13 "QuestionReaderModel$Question" "of" "[I" ∈ x_tsl := x_t5 (List.mem_of_getElem? (i := 110) rfl) rfl
theorem w_1072 : Cond.fieldLink "QuestionReaderModel$Question" 16 "QuestionReaderModel$Question" "begins" "[I" ∈ x_tsl := x_t5 (List.mem_of_getElem? (i := 112) rfl) rfl
theorem w_1075 : Cond.fieldLink "QuestionReaderModel$Question" 19 "QuestionReaderModel$Question" "group" "[I" ∈ x_tsl := x_t5 (List.mem_of_getElem? (i := 115) rfl) rfl
theorem w_1078 : Cond.fieldLink "QuestionReaderModel$Question" 22 "QuestionReaderModel$Question" "partKind" "[I" ∈ x_tsl := x_t5 (List.mem_of_getElem? (i := 118) rfl) rfl
theorem w_1080 : Cond.fieldLink "QuestionReaderModel$Question" 25 "QuestionReaderModel$Question" "partSize" "[I" ∈ x_tsl := x_t5 (List.mem_of_getElem? (i := 120) rfl) rfl
theorem w_1083 : Cond.fieldLink "QuestionReaderModel$Question" 28 "QuestionReaderModel$Question" "set" "[I" ∈ x_tsl := x_t5 (List.mem_of_getElem? (i := 123) rfl) rfl
theorem w_1086 : Cond.fieldLink "QuestionReaderModel$Question" 31 "QuestionReaderModel$Question" "sign" "[I" ∈ x_tsl := x_t5 (List.mem_of_getElem? (i := 126) rfl) rfl
theorem w_1089 : Cond.fieldLink "QuestionReaderModel$Question" 34 "QuestionReaderModel$Question" "column" "[I" ∈ x_tsl := x_t5 (List.mem_of_getElem? (i := 129) rfl) rfl
theorem w_1091 : Cond.fieldLink "QuestionReaderModel$Question" 37 "QuestionReaderModel$Question" "how" "[I" ∈ x_tsl := x_t5 (List.mem_of_getElem? (i := 131) rfl) rfl
theorem w_1093 : Cond.fieldLink "QuestionReaderModel$Question" 40 "QuestionReaderModel$Question" "first" "[I" ∈ x_tsl := x_t5 (List.mem_of_getElem? (i := 133) rfl) rfl
theorem w_1095 : Cond.fieldLink "QuestionReaderModel$Question" 43 "QuestionReaderModel$Question" "second" "[I" ∈ x_tsl := x_t5 (List.mem_of_getElem? (i := 135) rfl) rfl
theorem w_1097 : Cond.fieldLink "QuestionReaderModel$Question" 46 "QuestionReaderModel$Question" "list" "[I" ∈ x_tsl := x_t5 (List.mem_of_getElem? (i := 137) rfl) rfl
theorem w_1099 : Cond.lays "QuestionReaderModel$Question" "QuestionReaderModel$Question" "items" "I" ∈ x_tsl := x_t5 (List.mem_of_getElem? (i := 139) rfl) rfl
theorem w_1101 : Cond.laysFinal "QuestionReaderModel$Question" "QuestionReaderModel$Question" "kind" "[I" ∈ x_tsl := x_t5 (List.mem_of_getElem? (i := 141) rfl) rfl
theorem w_1103 : Cond.laysFinal "QuestionReaderModel$Question" "QuestionReaderModel$Question" "of" "[I" ∈ x_tsl := x_t5 (List.mem_of_getElem? (i := 143) rfl) rfl
theorem w_1105 : Cond.laysFinal "QuestionReaderModel$Question" "QuestionReaderModel$Question" "begins" "[I" ∈ x_tsl := x_t5 (List.mem_of_getElem? (i := 145) rfl) rfl
theorem w_1107 : Cond.lays "QuestionReaderModel$Question" "QuestionReaderModel$Question" "groups" "I" ∈ x_tsl := x_t5 (List.mem_of_getElem? (i := 147) rfl) rfl
theorem w_1109 : Cond.laysFinal "QuestionReaderModel$Question" "QuestionReaderModel$Question" "group" "[I" ∈ x_tsl := x_t5 (List.mem_of_getElem? (i := 149) rfl) rfl
theorem w_1111 : Cond.lays "QuestionReaderModel$Question" "QuestionReaderModel$Question" "parts" "I" ∈ x_tsl := x_t5 (List.mem_of_getElem? (i := 151) rfl) rfl
theorem w_1113 : Cond.laysFinal "QuestionReaderModel$Question" "QuestionReaderModel$Question" "partKind" "[I" ∈ x_tsl := x_t5 (List.mem_of_getElem? (i := 153) rfl) rfl
theorem w_1115 : Cond.laysFinal "QuestionReaderModel$Question" "QuestionReaderModel$Question" "partSize" "[I" ∈ x_tsl := x_t5 (List.mem_of_getElem? (i := 155) rfl) rfl
theorem w_1117 : Cond.lays "QuestionReaderModel$Question" "QuestionReaderModel$Question" "sets" "I" ∈ x_tsl := x_t5 (List.mem_of_getElem? (i := 157) rfl) rfl
theorem w_1119 : Cond.laysFinal "QuestionReaderModel$Question" "QuestionReaderModel$Question" "set" "[I" ∈ x_tsl := x_t5 (List.mem_of_getElem? (i := 159) rfl) rfl
theorem w_1121 : Cond.lays "QuestionReaderModel$Question" "QuestionReaderModel$Question" "signs" "I" ∈ x_tsl := x_t5 (List.mem_of_getElem? (i := 161) rfl) rfl
theorem w_1123 : Cond.laysFinal "QuestionReaderModel$Question" "QuestionReaderModel$Question" "sign" "[I" ∈ x_tsl := x_t5 (List.mem_of_getElem? (i := 163) rfl) rfl
theorem w_1125 : Cond.lays "QuestionReaderModel$Question" "QuestionReaderModel$Question" "comparisons" "I" ∈ x_tsl := x_t5 (List.mem_of_getElem? (i := 165) rfl) rfl
theorem w_1127 : Cond.laysFinal "QuestionReaderModel$Question" "QuestionReaderModel$Question" "column" "[I" ∈ x_tsl := x_t5 (List.mem_of_getElem? (i := 167) rfl) rfl
theorem w_1129 : Cond.laysFinal "QuestionReaderModel$Question" "QuestionReaderModel$Question" "how" "[I" ∈ x_tsl := x_t5 (List.mem_of_getElem? (i := 169) rfl) rfl
theorem w_1131 : Cond.laysFinal "QuestionReaderModel$Question" "QuestionReaderModel$Question" "first" "[I" ∈ x_tsl := x_t5 (List.mem_of_getElem? (i := 171) rfl) rfl
theorem w_1133 : Cond.laysFinal "QuestionReaderModel$Question" "QuestionReaderModel$Question" "second" "[I" ∈ x_tsl := x_t5 (List.mem_of_getElem? (i := 173) rfl) rfl
theorem w_1135 : Cond.laysFinal "QuestionReaderModel$Question" "QuestionReaderModel$Question" "list" "[I" ∈ x_tsl := x_t5 (List.mem_of_getElem? (i := 175) rfl) rfl
theorem w_1138 : Cond.fieldLink "QuestionReaderModel" 9 "QuestionReaderModel" "reserved" "Ljava/lang/String;" ∈ x_tsl := x_t5 (List.mem_of_getElem? (i := 178) rfl) rfl
theorem w_1139 : Cond.fieldLink "QuestionReaderModel" 57 "QuestionReaderModel" "code" "I" ∈ x_tsl := x_t5 (List.mem_of_getElem? (i := 179) rfl) rfl
theorem w_1140 : Cond.fieldLink "QuestionReaderModel" 284 "QuestionReaderModel" "open" "Z" ∈ x_tsl := x_t5 (List.mem_of_getElem? (i := 180) rfl) rfl
theorem w_1141 : Cond.fieldLink "QuestionReaderModel" 16 "QuestionReaderModel" "text" "[B" ∈ x_tsl := x_t5 (List.mem_of_getElem? (i := 181) rfl) rfl
theorem w_1142 : Cond.fieldLink "QuestionReaderModel" 60 "QuestionReaderModel" "size" "I" ∈ x_tsl := x_t5 (List.mem_of_getElem? (i := 182) rfl) rfl
theorem w_1143 : Cond.fieldLink "QuestionReaderModel" 67 "QuestionReaderModel" "fault" "I" ∈ x_tsl := x_t5 (List.mem_of_getElem? (i := 183) rfl) rfl
theorem w_1144 : Cond.fieldLink "QuestionReaderModel" 20 "QuestionReaderModel" "place" "I" ∈ x_tsl := x_t5 (List.mem_of_getElem? (i := 184) rfl) rfl
theorem w_1145 : Cond.fieldLink "QuestionReaderModel" 70 "QuestionReaderModel" "at" "I" ∈ x_tsl := x_t5 (List.mem_of_getElem? (i := 185) rfl) rfl
theorem w_1146 : Cond.fieldLink "QuestionReaderModel" 77 "QuestionReaderModel" "from" "I" ∈ x_tsl := x_t5 (List.mem_of_getElem? (i := 186) rfl) rfl
theorem w_1147 : Cond.fieldLink "QuestionReaderModel" 86 "QuestionReaderModel" "token" "I" ∈ x_tsl := x_t5 (List.mem_of_getElem? (i := 187) rfl) rfl
theorem w_1148 : Cond.fieldLink "QuestionReaderModel" 80 "QuestionReaderModel" "word" "I" ∈ x_tsl := x_t5 (List.mem_of_getElem? (i := 188) rfl) rfl
theorem w_1149 : Cond.fieldLink "QuestionReaderModel" 121 "QuestionReaderModel" "number" "I" ∈ x_tsl := x_t5 (List.mem_of_getElem? (i := 189) rfl) rfl
theorem w_1150 : Cond.fieldLink "QuestionReaderModel" 83 "QuestionReaderModel" "sign" "I" ∈ x_tsl := x_t5 (List.mem_of_getElem? (i := 190) rfl) rfl
theorem w_1151 : Cond.fieldLink "QuestionReaderModel" 150 "QuestionReaderModel" "dimensions" "I" ∈ x_tsl := x_t5 (List.mem_of_getElem? (i := 191) rfl) rfl
theorem w_1152 : Cond.fieldLink "QuestionReaderModel" 24 "QuestionReaderModel" "levels" "[I" ∈ x_tsl := x_t5 (List.mem_of_getElem? (i := 192) rfl) rfl
theorem w_1153 : Cond.fieldLink "QuestionReaderModel" 28 "QuestionReaderModel" "members" "[I" ∈ x_tsl := x_t5 (List.mem_of_getElem? (i := 193) rfl) rfl
theorem w_1154 : Cond.fieldLink "QuestionReaderModel" 31 "QuestionReaderModel" "values" "[I" ∈ x_tsl := x_t5 (List.mem_of_getElem? (i := 194) rfl) rfl
theorem w_1155 : Cond.fieldLink "QuestionReaderModel" 34 "QuestionReaderModel" "picked" "[I" ∈ x_tsl := x_t5 (List.mem_of_getElem? (i := 195) rfl) rfl
theorem w_1156 : Cond.fieldLink "QuestionReaderModel" 157 "QuestionReaderModel" "measures" "I" ∈ x_tsl := x_t5 (List.mem_of_getElem? (i := 196) rfl) rfl
theorem w_1157 : Cond.fieldLink "QuestionReaderModel" 37 "QuestionReaderModel" "letters" "[B" ∈ x_tsl := x_t5 (List.mem_of_getElem? (i := 197) rfl) rfl
theorem w_1158 : Cond.fieldLink "QuestionReaderModel" 40 "QuestionReaderModel" "lengths" "[I" ∈ x_tsl := x_t5 (List.mem_of_getElem? (i := 198) rfl) rfl
theorem w_1159 : Cond.fieldLink "QuestionReaderModel" 46 "QuestionReaderModel" "asked" "LQuestionReaderModel$Question;" ∈ x_tsl := x_t5 (List.mem_of_getElem? (i := 199) rfl) rfl
theorem w_1160 : Cond.fieldLink "QuestionReaderModel" 50 "QuestionReaderModel" "next" "LQuestionReaderModel$Question;" ∈ x_tsl := x_t5 (List.mem_of_getElem? (i := 200) rfl) rfl
theorem w_1161 : Cond.fieldLink "QuestionReaderModel" 280 "QuestionReaderModel" "isAsked" "Z" ∈ x_tsl := x_t5 (List.mem_of_getElem? (i := 201) rfl) rfl
theorem w_1162 : Cond.fieldLink "QuestionReaderModel" 208 "QuestionReaderModel" "brackets" "I" ∈ x_tsl := x_t5 (List.mem_of_getElem? (i := 202) rfl) rfl
theorem w_1163 : Cond.fieldLink "QuestionReaderModel" 258 "QuestionReaderModel" "groupAt" "I" ∈ x_tsl := x_t5 (List.mem_of_getElem? (i := 203) rfl) rfl
theorem w_1164 : Cond.fieldLink "QuestionReaderModel" 53 "QuestionReaderModel" "pile" "[Z" ∈ x_tsl := x_t5 (List.mem_of_getElem? (i := 204) rfl) rfl
theorem w_1165 : Cond.laysFinal "QuestionReaderModel" "QuestionReaderModel" "reserved" "Ljava/lang/String;" ∈ x_tsl := x_t5 (List.mem_of_getElem? (i := 205) rfl) rfl
theorem w_1167 : Cond.lays "QuestionReaderModel" "QuestionReaderModel" "code" "I" ∈ x_tsl := x_t5 (List.mem_of_getElem? (i := 207) rfl) rfl
theorem w_1169 : Cond.lays "QuestionReaderModel" "QuestionReaderModel" "open" "Z" ∈ x_tsl := x_t5 (List.mem_of_getElem? (i := 209) rfl) rfl
theorem w_1171 : Cond.laysFinal "QuestionReaderModel" "QuestionReaderModel" "text" "[B" ∈ x_tsl := x_t5 (List.mem_of_getElem? (i := 211) rfl) rfl
theorem w_1173 : Cond.lays "QuestionReaderModel" "QuestionReaderModel" "size" "I" ∈ x_tsl := x_t5 (List.mem_of_getElem? (i := 213) rfl) rfl
theorem w_1175 : Cond.lays "QuestionReaderModel" "QuestionReaderModel" "fault" "I" ∈ x_tsl := x_t5 (List.mem_of_getElem? (i := 215) rfl) rfl
theorem w_1177 : Cond.lays "QuestionReaderModel" "QuestionReaderModel" "place" "I" ∈ x_tsl := x_t5 (List.mem_of_getElem? (i := 217) rfl) rfl
theorem w_1179 : Cond.lays "QuestionReaderModel" "QuestionReaderModel" "at" "I" ∈ x_tsl := x_t5 (List.mem_of_getElem? (i := 219) rfl) rfl
theorem w_1181 : Cond.lays "QuestionReaderModel" "QuestionReaderModel" "from" "I" ∈ x_tsl := x_t5 (List.mem_of_getElem? (i := 221) rfl) rfl
theorem w_1183 : Cond.lays "QuestionReaderModel" "QuestionReaderModel" "token" "I" ∈ x_tsl := x_t5 (List.mem_of_getElem? (i := 223) rfl) rfl
theorem w_1185 : Cond.lays "QuestionReaderModel" "QuestionReaderModel" "word" "I" ∈ x_tsl := x_t5 (List.mem_of_getElem? (i := 225) rfl) rfl
theorem w_1187 : Cond.lays "QuestionReaderModel" "QuestionReaderModel" "number" "I" ∈ x_tsl := x_t5 (List.mem_of_getElem? (i := 227) rfl) rfl
theorem w_1189 : Cond.lays "QuestionReaderModel" "QuestionReaderModel" "sign" "I" ∈ x_tsl := x_t5 (List.mem_of_getElem? (i := 229) rfl) rfl
theorem w_1191 : Cond.lays "QuestionReaderModel" "QuestionReaderModel" "dimensions" "I" ∈ x_tsl := x_t5 (List.mem_of_getElem? (i := 231) rfl) rfl
theorem w_1193 : Cond.laysFinal "QuestionReaderModel" "QuestionReaderModel" "levels" "[I" ∈ x_tsl := x_t5 (List.mem_of_getElem? (i := 233) rfl) rfl
theorem w_1195 : Cond.laysFinal "QuestionReaderModel" "QuestionReaderModel" "members" "[I" ∈ x_tsl := x_t5 (List.mem_of_getElem? (i := 235) rfl) rfl
theorem w_1197 : Cond.laysFinal "QuestionReaderModel" "QuestionReaderModel" "values" "[I" ∈ x_tsl := x_t5 (List.mem_of_getElem? (i := 237) rfl) rfl
theorem w_1199 : Cond.laysFinal "QuestionReaderModel" "QuestionReaderModel" "picked" "[I" ∈ x_tsl := x_t5 (List.mem_of_getElem? (i := 239) rfl) rfl
theorem w_1201 : Cond.lays "QuestionReaderModel" "QuestionReaderModel" "measures" "I" ∈ x_tsl := x_t6 (List.mem_of_getElem? (i := 1) rfl) rfl
theorem w_1203 : Cond.laysFinal "QuestionReaderModel" "QuestionReaderModel" "letters" "[B" ∈ x_tsl := x_t6 (List.mem_of_getElem? (i := 3) rfl) rfl
theorem w_1205 : Cond.laysFinal "QuestionReaderModel" "QuestionReaderModel" "lengths" "[I" ∈ x_tsl := x_t6 (List.mem_of_getElem? (i := 5) rfl) rfl
theorem w_1207 : Cond.lays "QuestionReaderModel" "QuestionReaderModel" "asked" "LQuestionReaderModel$Question;" ∈ x_tsl := x_t6 (List.mem_of_getElem? (i := 7) rfl) rfl
theorem w_1209 : Cond.lays "QuestionReaderModel" "QuestionReaderModel" "next" "LQuestionReaderModel$Question;" ∈ x_tsl := x_t6 (List.mem_of_getElem? (i := 9) rfl) rfl
theorem w_1211 : Cond.lays "QuestionReaderModel" "QuestionReaderModel" "isAsked" "Z" ∈ x_tsl := x_t6 (List.mem_of_getElem? (i := 11) rfl) rfl
theorem w_1213 : Cond.lays "QuestionReaderModel" "QuestionReaderModel" "brackets" "I" ∈ x_tsl := x_t6 (List.mem_of_getElem? (i := 13) rfl) rfl
theorem w_1215 : Cond.lays "QuestionReaderModel" "QuestionReaderModel" "groupAt" "I" ∈ x_tsl := x_t6 (List.mem_of_getElem? (i := 15) rfl) rfl
theorem w_1217 : Cond.laysFinal "QuestionReaderModel" "QuestionReaderModel" "pile" "[Z" ∈ x_tsl := x_t6 (List.mem_of_getElem? (i := 17) rfl) rfl
theorem w_1220 : Cond.methodLink "QuestionReaderLaw" 70 ⟨"QuestionReaderModel", "thrown", "()I"⟩ ∈ x_tsl := x_t6 (List.mem_of_getElem? (i := 20) rfl) rfl
theorem w_1221 : Cond.instanceMethod ⟨"QuestionReaderModel", "thrown", "()I"⟩ ∈ x_tsl := x_t6 (List.mem_of_getElem? (i := 21) rfl) rfl
theorem w_1222 : Cond.selects "QuestionReaderModel" ⟨"QuestionReaderModel", "thrown", "()I"⟩ ⟨"QuestionReaderModel", "thrown", "()I"⟩ ∈ x_tsl := x_t6 (List.mem_of_getElem? (i := 22) rfl) rfl
theorem w_1223 : Cond.code ⟨"QuestionReaderModel", "thrown", "()I"⟩ prog_14_method_2_code 1 (Option.some FieldType.int) ∈ x_tsl := x_t6 (List.mem_of_getElem? (i := 23) rfl) rfl
theorem w_1224 : Cond.methodLink "QuestionReaderLaw" 69 ⟨"QuestionReaderModel", "feed", "(IIIII)I"⟩ ∈ x_tsl := x_t6 (List.mem_of_getElem? (i := 24) rfl) rfl
theorem w_1225 : Cond.instanceMethod ⟨"QuestionReaderModel", "feed", "(IIIII)I"⟩ ∈ x_tsl := x_t6 (List.mem_of_getElem? (i := 25) rfl) rfl
theorem w_1226 : Cond.selects "QuestionReaderModel" ⟨"QuestionReaderModel", "feed", "(IIIII)I"⟩ ⟨"QuestionReaderModel", "feed", "(IIIII)I"⟩ ∈ x_tsl := x_t6 (List.mem_of_getElem? (i := 26) rfl) rfl
theorem w_1227 : Cond.code ⟨"QuestionReaderModel", "feed", "(IIIII)I"⟩ prog_14_method_4_code 6 (Option.some FieldType.int) ∈ x_tsl := x_t6 (List.mem_of_getElem? (i := 27) rfl) rfl
theorem w_1228 : Cond.methodLink "QuestionReaderModel" 63 ⟨"QuestionReaderModel", "lay", "(I)V"⟩ ∈ x_tsl := x_t6 (List.mem_of_getElem? (i := 28) rfl) rfl
theorem w_1230 : Cond.instanceMethod ⟨"QuestionReaderModel", "lay", "(I)V"⟩ ∈ x_tsl := x_t6 (List.mem_of_getElem? (i := 30) rfl) rfl
theorem w_1231 : Cond.code ⟨"QuestionReaderModel", "lay", "(I)V"⟩ prog_14_method_3_code 2 none ∈ x_tsl := x_t6 (List.mem_of_getElem? (i := 31) rfl) rfl
theorem w_1232 : Cond.methodLink "QuestionReaderLaw" 77 ⟨"QuestionReaderModel", "trim", "(I)I"⟩ ∈ x_tsl := x_t6 (List.mem_of_getElem? (i := 32) rfl) rfl
theorem w_1233 : Cond.instanceMethod ⟨"QuestionReaderModel", "trim", "(I)I"⟩ ∈ x_tsl := x_t6 (List.mem_of_getElem? (i := 33) rfl) rfl
theorem w_1234 : Cond.selects "QuestionReaderModel" ⟨"QuestionReaderModel", "trim", "(I)I"⟩ ⟨"QuestionReaderModel", "trim", "(I)I"⟩ ∈ x_tsl := x_t6 (List.mem_of_getElem? (i := 34) rfl) rfl
theorem w_1235 : Cond.code ⟨"QuestionReaderModel", "trim", "(I)I"⟩ prog_14_method_5_code 2 (Option.some FieldType.int) ∈ x_tsl := x_t6 (List.mem_of_getElem? (i := 35) rfl) rfl
theorem w_1236 : Cond.methodLink "QuestionReaderLaw" 81 ⟨"QuestionReaderModel", "run", "()I"⟩ ∈ x_tsl := x_t6 (List.mem_of_getElem? (i := 36) rfl) rfl
theorem w_1237 : Cond.instanceMethod ⟨"QuestionReaderModel", "run", "()I"⟩ ∈ x_tsl := x_t6 (List.mem_of_getElem? (i := 37) rfl) rfl
theorem w_1238 : Cond.selects "QuestionReaderModel" ⟨"QuestionReaderModel", "run", "()I"⟩ ⟨"QuestionReaderModel", "run", "()I"⟩ ∈ x_tsl := x_t6 (List.mem_of_getElem? (i := 38) rfl) rfl
theorem w_1239 : Cond.code ⟨"QuestionReaderModel", "run", "()I"⟩ prog_14_method_43_code 2 (Option.some FieldType.int) ∈ x_tsl := x_t6 (List.mem_of_getElem? (i := 39) rfl) rfl
theorem w_1240 : Cond.methodLink "QuestionReaderModel" 133 ⟨"QuestionReaderModel", "read", "()V"⟩ ∈ x_tsl := x_t6 (List.mem_of_getElem? (i := 40) rfl) rfl
theorem w_1242 : Cond.instanceMethod ⟨"QuestionReaderModel", "read", "()V"⟩ ∈ x_tsl := x_t6 (List.mem_of_getElem? (i := 42) rfl) rfl
theorem w_1243 : Cond.code ⟨"QuestionReaderModel", "read", "()V"⟩ prog_14_method_10_code 2 none ∈ x_tsl := x_t6 (List.mem_of_getElem? (i := 43) rfl) rfl
theorem w_1244 : Cond.methodLink "QuestionReaderModel" 73 ⟨"QuestionReaderModel", "look", "(I)I"⟩ ∈ x_tsl := x_t6 (List.mem_of_getElem? (i := 44) rfl) rfl
theorem w_1246 : Cond.instanceMethod ⟨"QuestionReaderModel", "look", "(I)I"⟩ ∈ x_tsl := x_t6 (List.mem_of_getElem? (i := 46) rfl) rfl
theorem w_1247 : Cond.code ⟨"QuestionReaderModel", "look", "(I)I"⟩ prog_14_method_9_code 2 (Option.some FieldType.int) ∈ x_tsl := x_t6 (List.mem_of_getElem? (i := 47) rfl) rfl
theorem w_1248 : Cond.methodLink "QuestionReaderModel" 89 ⟨"QuestionReaderModel", "isLetter", "(I)Z"⟩ ∈ x_tsl := x_t6 (List.mem_of_getElem? (i := 48) rfl) rfl
theorem w_1249 : Cond.static ⟨"QuestionReaderModel", "isLetter", "(I)Z"⟩ ∈ x_tsl := x_t6 (List.mem_of_getElem? (i := 49) rfl) rfl
theorem w_1250 : Cond.code ⟨"QuestionReaderModel", "isLetter", "(I)Z"⟩ prog_14_method_7_code 1 (Option.some FieldType.boolean) ∈ x_tsl := x_t6 (List.mem_of_getElem? (i := 50) rfl) rfl
theorem w_1251 : Cond.methodLink "QuestionReaderModel" 93 ⟨"QuestionReaderModel", "isDigit", "(I)Z"⟩ ∈ x_tsl := x_t6 (List.mem_of_getElem? (i := 51) rfl) rfl
theorem w_1252 : Cond.static ⟨"QuestionReaderModel", "isDigit", "(I)Z"⟩ ∈ x_tsl := x_t6 (List.mem_of_getElem? (i := 52) rfl) rfl
theorem w_1253 : Cond.code ⟨"QuestionReaderModel", "isDigit", "(I)Z"⟩ prog_14_method_8_code 1 (Option.some FieldType.boolean) ∈ x_tsl := x_t6 (List.mem_of_getElem? (i := 53) rfl) rfl
theorem w_1254 : Cond.methodLink "QuestionReaderModel" 96 ⟨"QuestionReaderModel", "wordOf", "()I"⟩ ∈ x_tsl := x_t6 (List.mem_of_getElem? (i := 54) rfl) rfl
theorem w_1256 : Cond.instanceMethod ⟨"QuestionReaderModel", "wordOf", "()I"⟩ ∈ x_tsl := x_t6 (List.mem_of_getElem? (i := 56) rfl) rfl
theorem w_1257 : Cond.code ⟨"QuestionReaderModel", "wordOf", "()I"⟩ prog_14_method_13_code 4 (Option.some FieldType.int) ∈ x_tsl := x_t6 (List.mem_of_getElem? (i := 57) rfl) rfl
theorem w_1258 : Cond.methodLink "QuestionReaderModel" 124 ⟨"java/lang/String", "length", "()I"⟩ ∈ x_tsl := x_t6 (List.mem_of_getElem? (i := 58) rfl) rfl
theorem w_1259 : Cond.instanceMethod ⟨"java/lang/String", "length", "()I"⟩ ∈ x_tsl := x_t6 (List.mem_of_getElem? (i := 59) rfl) rfl
theorem w_1260 : Cond.selects "java/lang/String" ⟨"java/lang/String", "length", "()I"⟩ ⟨"java/lang/String", "length", "()I"⟩ ∈ x_tsl := x_t6 (List.mem_of_getElem? (i := 60) rfl) rfl
theorem w_1261 : Cond.code ⟨"java/lang/String", "length", "()I"⟩ prog_21_method_54_code 1 (Option.some FieldType.int) ∈ x_tsl := x_t6 (List.mem_of_getElem? (i := 61) rfl) rfl
theorem w_1262 : Cond.methodLink "java/lang/String" 335 ⟨"java/lang/String", "coder", "()B"⟩ ∈ x_tsl := x_t6 (List.mem_of_getElem? (i := 62) rfl) rfl
theorem w_1263 : Cond.instanceMethod ⟨"java/lang/String", "coder", "()B"⟩ ∈ x_tsl := x_t6 (List.mem_of_getElem? (i := 63) rfl) rfl
theorem w_1264 : Cond.selects "java/lang/String" ⟨"java/lang/String", "coder", "()B"⟩ ⟨"java/lang/String", "coder", "()B"⟩ ∈ x_tsl := x_t6 (List.mem_of_getElem? (i := 64) rfl) rfl
theorem w_1265 : Cond.code ⟨"java/lang/String", "coder", "()B"⟩ prog_21_method_152_code 1 (Option.some FieldType.byte) ∈ x_tsl := x_t6 (List.mem_of_getElem? (i := 65) rfl) rfl
theorem w_1266 : Cond.fieldLink "java/lang/String" 38 "java/lang/String" "COMPACT_STRINGS" "Z" ∈ x_tsl := x_t6 (List.mem_of_getElem? (i := 66) rfl) rfl
theorem w_1268 : Cond.methodLink "QuestionReaderModel" 129 ⟨"java/lang/String", "charAt", "(I)C"⟩ ∈ x_tsl := x_t6 (List.mem_of_getElem? (i := 68) rfl) rfl
theorem w_1269 : Cond.instanceMethod ⟨"java/lang/String", "charAt", "(I)C"⟩ ∈ x_tsl := x_t6 (List.mem_of_getElem? (i := 69) rfl) rfl
theorem w_1270 : Cond.selects "java/lang/String" ⟨"java/lang/String", "charAt", "(I)C"⟩ ⟨"java/lang/String", "charAt", "(I)C"⟩ ∈ x_tsl := x_t6 (List.mem_of_getElem? (i := 70) rfl) rfl
theorem w_1271 : Cond.code ⟨"java/lang/String", "charAt", "(I)C"⟩ prog_21_method_56_code 2 (Option.some FieldType.char) ∈ x_tsl := x_t6 (List.mem_of_getElem? (i := 71) rfl) rfl
theorem w_1272 : Cond.methodLink "java/lang/String" 492 ⟨"java/lang/String", "isLatin1", "()Z"⟩ ∈ x_tsl := x_t6 (List.mem_of_getElem? (i := 72) rfl) rfl
theorem w_1273 : Cond.instanceMethod ⟨"java/lang/String", "isLatin1", "()Z"⟩ ∈ x_tsl := x_t6 (List.mem_of_getElem? (i := 73) rfl) rfl
theorem w_1274 : Cond.selects "java/lang/String" ⟨"java/lang/String", "isLatin1", "()Z"⟩ ⟨"java/lang/String", "isLatin1", "()Z"⟩ ∈ x_tsl := x_t6 (List.mem_of_getElem? (i := 74) rfl) rfl
theorem w_1275 : Cond.code ⟨"java/lang/String", "isLatin1", "()Z"⟩ prog_21_method_154_code 1 (Option.some FieldType.boolean) ∈ x_tsl := x_t6 (List.mem_of_getElem? (i := 75) rfl) rfl
theorem w_1276 : Cond.methodLink "java/lang/String" 495 ⟨"java/lang/StringLatin1", "charAt", "([BI)C"⟩ ∈ x_tsl := x_t6 (List.mem_of_getElem? (i := 76) rfl) rfl
theorem w_1277 : Cond.static ⟨"java/lang/StringLatin1", "charAt", "([BI)C"⟩ ∈ x_tsl := x_t6 (List.mem_of_getElem? (i := 77) rfl) rfl
theorem w_1278 : Cond.code ⟨"java/lang/StringLatin1", "charAt", "([BI)C"⟩ prog_22_method_2_code 2 (Option.some FieldType.char) ∈ x_tsl := x_t6 (List.mem_of_getElem? (i := 78) rfl) rfl
theorem w_1279 : Cond.methodLink "java/lang/StringLatin1" 9 ⟨"java/lang/String", "checkIndex", "(II)V"⟩ ∈ x_tsl := x_t6 (List.mem_of_getElem? (i := 79) rfl) rfl
theorem w_1280 : Cond.static ⟨"java/lang/String", "checkIndex", "(II)V"⟩ ∈ x_tsl := x_t6 (List.mem_of_getElem? (i := 80) rfl) rfl
theorem w_1281 : Cond.code ⟨"java/lang/String", "checkIndex", "(II)V"⟩ prog_21_method_155_code 2 none ∈ x_tsl := x_t6 (List.mem_of_getElem? (i := 81) rfl) rfl
theorem w_1282 : Cond.fieldLink "java/lang/String" 1053 "jdk/internal/util/Preconditions" "SIOOBE_FORMATTER" "Ljava/util/function/BiFunction;" ∈ x_tsl := x_t6 (List.mem_of_getElem? (i := 82) rfl) rfl
theorem w_1284 : Cond.methodLink "java/lang/String" 1059 ⟨"jdk/internal/util/Preconditions", "checkIndex", "(IILjava/util/function/BiFunction;)I"⟩ ∈ x_tsl := x_t6 (List.mem_of_getElem? (i := 84) rfl) rfl
theorem w_1285 : Cond.static ⟨"jdk/internal/util/Preconditions", "checkIndex", "(IILjava/util/function/BiFunction;)I"⟩ ∈ x_tsl := x_t6 (List.mem_of_getElem? (i := 85) rfl) rfl
theorem w_1286 : Cond.code ⟨"jdk/internal/util/Preconditions", "checkIndex", "(IILjava/util/function/BiFunction;)I"⟩ prog_26_method_11_code 3 (Option.some FieldType.int) ∈ x_tsl := x_t6 (List.mem_of_getElem? (i := 86) rfl) rfl
theorem w_1287 : Cond.methodLink "java/lang/String" 498 ⟨"java/lang/StringUTF16", "charAt", "([BI)C"⟩ ∈ x_tsl := x_t6 (List.mem_of_getElem? (i := 87) rfl) rfl
theorem w_1288 : Cond.static ⟨"java/lang/StringUTF16", "charAt", "([BI)C"⟩ ∈ x_tsl := x_t6 (List.mem_of_getElem? (i := 88) rfl) rfl
theorem w_1289 : Cond.code ⟨"java/lang/StringUTF16", "charAt", "([BI)C"⟩ prog_23_method_83_code 2 (Option.some FieldType.char) ∈ x_tsl := x_t6 (List.mem_of_getElem? (i := 89) rfl) rfl
theorem w_1290 : Cond.methodLink "java/lang/StringUTF16" 67 ⟨"java/lang/StringUTF16", "checkIndex", "(I[B)V"⟩ ∈ x_tsl := x_t6 (List.mem_of_getElem? (i := 90) rfl) rfl
theorem w_1291 : Cond.static ⟨"java/lang/StringUTF16", "checkIndex", "(I[B)V"⟩ ∈ x_tsl := x_t6 (List.mem_of_getElem? (i := 91) rfl) rfl
theorem w_1292 : Cond.code ⟨"java/lang/StringUTF16", "checkIndex", "(I[B)V"⟩ prog_23_method_91_code 2 none ∈ x_tsl := x_t6 (List.mem_of_getElem? (i := 92) rfl) rfl
theorem w_1293 : Cond.methodLink "java/lang/StringUTF16" 48 ⟨"java/lang/StringUTF16", "length", "([B)I"⟩ ∈ x_tsl := x_t6 (List.mem_of_getElem? (i := 93) rfl) rfl
theorem w_1294 : Cond.static ⟨"java/lang/StringUTF16", "length", "([B)I"⟩ ∈ x_tsl := x_t6 (List.mem_of_getElem? (i := 94) rfl) rfl
theorem w_1295 : Cond.code ⟨"java/lang/StringUTF16", "length", "([B)I"⟩ prog_23_method_6_code 1 (Option.some FieldType.int) ∈ x_tsl := x_t6 (List.mem_of_getElem? (i := 95) rfl) rfl
theorem w_1296 : Cond.methodLink "java/lang/StringUTF16" 414 ⟨"java/lang/String", "checkIndex", "(II)V"⟩ ∈ x_tsl := x_t6 (List.mem_of_getElem? (i := 96) rfl) rfl
theorem w_1297 : Cond.methodLink "java/lang/StringUTF16" 71 ⟨"java/lang/StringUTF16", "getChar", "([BI)C"⟩ ∈ x_tsl := x_t6 (List.mem_of_getElem? (i := 97) rfl) rfl
theorem w_1298 : Cond.static ⟨"java/lang/StringUTF16", "getChar", "([BI)C"⟩ ∈ x_tsl := x_t6 (List.mem_of_getElem? (i := 98) rfl) rfl
theorem w_1299 : Cond.code ⟨"java/lang/StringUTF16", "getChar", "([BI)C"⟩ prog_23_method_5_code 2 (Option.some FieldType.char) ∈ x_tsl := x_t6 (List.mem_of_getElem? (i := 99) rfl) rfl
theorem w_1300 : Cond.fieldLink "java/lang/StringUTF16" 44 "java/lang/StringUTF16" "$assertionsDisabled" "Z" ∈ x_tsl := x_t6 (List.mem_of_getElem? (i := 100) rfl) rfl
theorem w_1302 : Cond.fieldLink "java/lang/StringUTF16" 59 "java/lang/StringUTF16" "HI_BYTE_SHIFT" "I" ∈ x_tsl := x_t6 (List.mem_of_getElem? (i := 102) rfl) rfl
theorem w_1304 : Cond.fieldLink "java/lang/StringUTF16" 63 "java/lang/StringUTF16" "LO_BYTE_SHIFT" "I" ∈ x_tsl := x_t6 (List.mem_of_getElem? (i := 104) rfl) rfl
theorem w_1306 : Cond.methodLink "QuestionReaderModel" 100 ⟨"QuestionReaderModel", "readNumber", "(Z)V"⟩ ∈ x_tsl := x_t6 (List.mem_of_getElem? (i := 106) rfl) rfl
theorem w_1308 : Cond.instanceMethod ⟨"QuestionReaderModel", "readNumber", "(Z)V"⟩ ∈ x_tsl := x_t6 (List.mem_of_getElem? (i := 108) rfl) rfl
theorem w_1309 : Cond.code ⟨"QuestionReaderModel", "readNumber", "(Z)V"⟩ prog_14_method_11_code 4 none ∈ x_tsl := x_t6 (List.mem_of_getElem? (i := 109) rfl) rfl
theorem w_1310 : Cond.constantLong "QuestionReaderModel" 107 (3000000000 : Int64) ∈ x_tsl := x_t6 (List.mem_of_getElem? (i := 110) rfl) rfl
theorem w_1311 : Cond.constantLong "QuestionReaderModel" 109 (10 : Int64) ∈ x_tsl := x_t6 (List.mem_of_getElem? (i := 111) rfl) rfl
theorem w_1312 : Cond.constantLong "QuestionReaderModel" 111 (48 : Int64) ∈ x_tsl := x_t6 (List.mem_of_getElem? (i := 112) rfl) rfl
theorem w_1313 : Cond.constantLong "QuestionReaderModel" 113 (-2147483648 : Int64) ∈ x_tsl := x_t6 (List.mem_of_getElem? (i := 113) rfl) rfl
theorem w_1314 : Cond.constantLong "QuestionReaderModel" 115 (2147483647 : Int64) ∈ x_tsl := x_t6 (List.mem_of_getElem? (i := 114) rfl) rfl
theorem w_1315 : Cond.methodLink "QuestionReaderModel" 117 ⟨"QuestionReaderModel", "want", "(ZII)Z"⟩ ∈ x_tsl := x_t6 (List.mem_of_getElem? (i := 115) rfl) rfl
theorem w_1317 : Cond.instanceMethod ⟨"QuestionReaderModel", "want", "(ZII)Z"⟩ ∈ x_tsl := x_t6 (List.mem_of_getElem? (i := 117) rfl) rfl
theorem w_1318 : Cond.code ⟨"QuestionReaderModel", "want", "(ZII)Z"⟩ prog_14_method_6_code 4 (Option.some FieldType.boolean) ∈ x_tsl := x_t6 (List.mem_of_getElem? (i := 118) rfl) rfl
theorem w_1319 : Cond.methodLink "QuestionReaderModel" 104 ⟨"QuestionReaderModel", "readSign", "(I)V"⟩ ∈ x_tsl := x_t6 (List.mem_of_getElem? (i := 119) rfl) rfl
theorem w_1321 : Cond.instanceMethod ⟨"QuestionReaderModel", "readSign", "(I)V"⟩ ∈ x_tsl := x_t6 (List.mem_of_getElem? (i := 121) rfl) rfl
theorem w_1322 : Cond.code ⟨"QuestionReaderModel", "readSign", "(I)V"⟩ prog_14_method_12_code 5 none ∈ x_tsl := x_t6 (List.mem_of_getElem? (i := 122) rfl) rfl
theorem w_1323 : Cond.methodLink "QuestionReaderModel" 299 ⟨"QuestionReaderModel", "statement", "()V"⟩ ∈ x_tsl := x_t6 (List.mem_of_getElem? (i := 123) rfl) rfl
theorem w_1325 : Cond.instanceMethod ⟨"QuestionReaderModel", "statement", "()V"⟩ ∈ x_tsl := x_t6 (List.mem_of_getElem? (i := 125) rfl) rfl
theorem w_1326 : Cond.code ⟨"QuestionReaderModel", "statement", "()V"⟩ prog_14_method_42_code 2 none ∈ x_tsl := x_t6 (List.mem_of_getElem? (i := 126) rfl) rfl
theorem w_1327 : Cond.methodLink "QuestionReaderModel" 173 ⟨"QuestionReaderModel", "isWord", "(I)Z"⟩ ∈ x_tsl := x_t6 (List.mem_of_getElem? (i := 127) rfl) rfl
theorem w_1329 : Cond.instanceMethod ⟨"QuestionReaderModel", "isWord", "(I)Z"⟩ ∈ x_tsl := x_t6 (List.mem_of_getElem? (i := 129) rfl) rfl
theorem w_1330 : Cond.code ⟨"QuestionReaderModel", "isWord", "(I)Z"⟩ prog_14_method_16_code 2 (Option.some FieldType.boolean) ∈ x_tsl := x_t6 (List.mem_of_getElem? (i := 130) rfl) rfl
theorem w_1331 : Cond.methodLink "QuestionReaderModel" 139 ⟨"QuestionReaderModel", "must", "(Z)Z"⟩ ∈ x_tsl := x_t6 (List.mem_of_getElem? (i := 131) rfl) rfl
theorem w_1333 : Cond.instanceMethod ⟨"QuestionReaderModel", "must", "(Z)Z"⟩ ∈ x_tsl := x_t6 (List.mem_of_getElem? (i := 133) rfl) rfl
theorem w_1334 : Cond.code ⟨"QuestionReaderModel", "must", "(Z)Z"⟩ prog_14_method_14_code 2 (Option.some FieldType.boolean) ∈ x_tsl := x_t6 (List.mem_of_getElem? (i := 134) rfl) rfl
theorem w_1335 : Cond.methodLink "QuestionReaderModel" 287 ⟨"QuestionReaderModel", "dimension", "()V"⟩ ∈ x_tsl := x_t6 (List.mem_of_getElem? (i := 135) rfl) rfl
theorem w_1337 : Cond.instanceMethod ⟨"QuestionReaderModel", "dimension", "()V"⟩ ∈ x_tsl := x_t6 (List.mem_of_getElem? (i := 137) rfl) rfl
theorem w_1338 : Cond.code ⟨"QuestionReaderModel", "dimension", "()V"⟩ prog_14_method_23_code 4 none ∈ x_tsl := x_t6 (List.mem_of_getElem? (i := 138) rfl) rfl
theorem w_1339 : Cond.methodLink "QuestionReaderModel" 160 ⟨"QuestionReaderModel", "newName", "()Z"⟩ ∈ x_tsl := x_t6 (List.mem_of_getElem? (i := 139) rfl) rfl
theorem w_1341 : Cond.instanceMethod ⟨"QuestionReaderModel", "newName", "()Z"⟩ ∈ x_tsl := x_t6 (List.mem_of_getElem? (i := 141) rfl) rfl
theorem w_1342 : Cond.code ⟨"QuestionReaderModel", "newName", "()Z"⟩ prog_14_method_22_code 1 (Option.some FieldType.boolean) ∈ x_tsl := x_t6 (List.mem_of_getElem? (i := 142) rfl) rfl
theorem w_1343 : Cond.methodLink "QuestionReaderModel" 146 ⟨"QuestionReaderModel", "name", "()Z"⟩ ∈ x_tsl := x_t6 (List.mem_of_getElem? (i := 143) rfl) rfl
theorem w_1345 : Cond.instanceMethod ⟨"QuestionReaderModel", "name", "()Z"⟩ ∈ x_tsl := x_t6 (List.mem_of_getElem? (i := 145) rfl) rfl
theorem w_1346 : Cond.code ⟨"QuestionReaderModel", "name", "()Z"⟩ prog_14_method_18_code 1 (Option.some FieldType.boolean) ∈ x_tsl := x_t6 (List.mem_of_getElem? (i := 146) rfl) rfl
theorem w_1347 : Cond.methodLink "QuestionReaderModel" 153 ⟨"QuestionReaderModel", "among", "(II)I"⟩ ∈ x_tsl := x_t6 (List.mem_of_getElem? (i := 147) rfl) rfl
theorem w_1349 : Cond.instanceMethod ⟨"QuestionReaderModel", "among", "(II)I"⟩ ∈ x_tsl := x_t6 (List.mem_of_getElem? (i := 149) rfl) rfl
theorem w_1350 : Cond.code ⟨"QuestionReaderModel", "among", "(II)I"⟩ prog_14_method_20_code 4 (Option.some FieldType.int) ∈ x_tsl := x_t6 (List.mem_of_getElem? (i := 150) rfl) rfl
theorem w_1351 : Cond.methodLink "QuestionReaderModel" 143 ⟨"QuestionReaderModel", "isName", "(I)Z"⟩ ∈ x_tsl := x_t6 (List.mem_of_getElem? (i := 151) rfl) rfl
theorem w_1353 : Cond.instanceMethod ⟨"QuestionReaderModel", "isName", "(I)Z"⟩ ∈ x_tsl := x_t6 (List.mem_of_getElem? (i := 153) rfl) rfl
theorem w_1354 : Cond.code ⟨"QuestionReaderModel", "isName", "(I)Z"⟩ prog_14_method_19_code 4 (Option.some FieldType.boolean) ∈ x_tsl := x_t6 (List.mem_of_getElem? (i := 154) rfl) rfl
theorem w_1355 : Cond.methodLink "QuestionReaderModel" 163 ⟨"QuestionReaderModel", "keep", "(I)V"⟩ ∈ x_tsl := x_t6 (List.mem_of_getElem? (i := 155) rfl) rfl
theorem w_1357 : Cond.instanceMethod ⟨"QuestionReaderModel", "keep", "(I)V"⟩ ∈ x_tsl := x_t6 (List.mem_of_getElem? (i := 157) rfl) rfl
theorem w_1358 : Cond.code ⟨"QuestionReaderModel", "keep", "(I)V"⟩ prog_14_method_21_code 3 none ∈ x_tsl := x_t6 (List.mem_of_getElem? (i := 158) rfl) rfl
theorem w_1359 : Cond.methodLink "QuestionReaderModel" 166 ⟨"QuestionReaderModel", "needSign", "(I)Z"⟩ ∈ x_tsl := x_t6 (List.mem_of_getElem? (i := 159) rfl) rfl
theorem w_1361 : Cond.instanceMethod ⟨"QuestionReaderModel", "needSign", "(I)Z"⟩ ∈ x_tsl := x_t6 (List.mem_of_getElem? (i := 161) rfl) rfl
theorem w_1362 : Cond.code ⟨"QuestionReaderModel", "needSign", "(I)Z"⟩ prog_14_method_17_code 2 (Option.some FieldType.boolean) ∈ x_tsl := x_t6 (List.mem_of_getElem? (i := 162) rfl) rfl
theorem w_1363 : Cond.methodLink "QuestionReaderModel" 136 ⟨"QuestionReaderModel", "isSign", "(I)Z"⟩ ∈ x_tsl := x_t6 (List.mem_of_getElem? (i := 163) rfl) rfl
theorem w_1365 : Cond.instanceMethod ⟨"QuestionReaderModel", "isSign", "(I)Z"⟩ ∈ x_tsl := x_t6 (List.mem_of_getElem? (i := 165) rfl) rfl
theorem w_1366 : Cond.code ⟨"QuestionReaderModel", "isSign", "(I)Z"⟩ prog_14_method_15_code 2 (Option.some FieldType.boolean) ∈ x_tsl := x_t6 (List.mem_of_getElem? (i := 166) rfl) rfl
theorem w_1367 : Cond.methodLink "QuestionReaderModel" 290 ⟨"QuestionReaderModel", "measure", "()V"⟩ ∈ x_tsl := x_t6 (List.mem_of_getElem? (i := 167) rfl) rfl
theorem w_1369 : Cond.instanceMethod ⟨"QuestionReaderModel", "measure", "()V"⟩ ∈ x_tsl := x_t6 (List.mem_of_getElem? (i := 169) rfl) rfl
theorem w_1370 : Cond.code ⟨"QuestionReaderModel", "measure", "()V"⟩ prog_14_method_24_code 1 none ∈ x_tsl := x_t6 (List.mem_of_getElem? (i := 170) rfl) rfl
theorem w_1371 : Cond.methodLink "QuestionReaderModel" 293 ⟨"QuestionReaderModel", "member", "()V"⟩ ∈ x_tsl := x_t6 (List.mem_of_getElem? (i := 171) rfl) rfl
theorem w_1373 : Cond.instanceMethod ⟨"QuestionReaderModel", "member", "()V"⟩ ∈ x_tsl := x_t6 (List.mem_of_getElem? (i := 173) rfl) rfl
theorem w_1374 : Cond.code ⟨"QuestionReaderModel", "member", "()V"⟩ prog_14_method_26_code 8 none ∈ x_tsl := x_t6 (List.mem_of_getElem? (i := 174) rfl) rfl
theorem w_1375 : Cond.methodLink "QuestionReaderModel" 169 ⟨"QuestionReaderModel", "goes", "(II)Z"⟩ ∈ x_tsl := x_t6 (List.mem_of_getElem? (i := 175) rfl) rfl
theorem w_1377 : Cond.instanceMethod ⟨"QuestionReaderModel", "goes", "(II)Z"⟩ ∈ x_tsl := x_t6 (List.mem_of_getElem? (i := 177) rfl) rfl
theorem w_1378 : Cond.code ⟨"QuestionReaderModel", "goes", "(II)Z"⟩ prog_14_method_25_code 8 (Option.some FieldType.boolean) ∈ x_tsl := x_t6 (List.mem_of_getElem? (i := 178) rfl) rfl
theorem w_1379 : Cond.methodLink "QuestionReaderModel" 296 ⟨"QuestionReaderModel", "question", "()V"⟩ ∈ x_tsl := x_t6 (List.mem_of_getElem? (i := 179) rfl) rfl
theorem w_1381 : Cond.instanceMethod ⟨"QuestionReaderModel", "question", "()V"⟩ ∈ x_tsl := x_t6 (List.mem_of_getElem? (i := 181) rfl) rfl
theorem w_1382 : Cond.code ⟨"QuestionReaderModel", "question", "()V"⟩ prog_14_method_41_code 6 none ∈ x_tsl := x_t6 (List.mem_of_getElem? (i := 182) rfl) rfl
theorem w_1383 : Cond.methodLink "QuestionReaderModel" 270 ⟨"QuestionReaderModel", "item", "()V"⟩ ∈ x_tsl := x_t6 (List.mem_of_getElem? (i := 183) rfl) rfl
theorem w_1385 : Cond.instanceMethod ⟨"QuestionReaderModel", "item", "()V"⟩ ∈ x_tsl := x_t6 (List.mem_of_getElem? (i := 185) rfl) rfl
theorem w_1386 : Cond.code ⟨"QuestionReaderModel", "item", "()V"⟩ prog_14_method_29_code 6 none ∈ x_tsl := x_t6 (List.mem_of_getElem? (i := 186) rfl) rfl
theorem w_1387 : Cond.methodLink "QuestionReaderModel" 176 ⟨"QuestionReaderModel", "columnsDimension", "()I"⟩ ∈ x_tsl := x_t6 (List.mem_of_getElem? (i := 187) rfl) rfl
theorem w_1389 : Cond.instanceMethod ⟨"QuestionReaderModel", "columnsDimension", "()I"⟩ ∈ x_tsl := x_t6 (List.mem_of_getElem? (i := 189) rfl) rfl
theorem w_1390 : Cond.code ⟨"QuestionReaderModel", "columnsDimension", "()I"⟩ prog_14_method_27_code 2 (Option.some FieldType.int) ∈ x_tsl := x_t6 (List.mem_of_getElem? (i := 190) rfl) rfl
theorem w_1391 : Cond.methodLink "QuestionReaderModel" 182 ⟨"QuestionReaderModel", "columnsLevel", "(I)I"⟩ ∈ x_tsl := x_t6 (List.mem_of_getElem? (i := 191) rfl) rfl
theorem w_1393 : Cond.instanceMethod ⟨"QuestionReaderModel", "columnsLevel", "(I)I"⟩ ∈ x_tsl := x_t6 (List.mem_of_getElem? (i := 193) rfl) rfl
theorem w_1394 : Cond.code ⟨"QuestionReaderModel", "columnsLevel", "(I)I"⟩ prog_14_method_28_code 3 (Option.some FieldType.int) ∈ x_tsl := x_t6 (List.mem_of_getElem? (i := 194) rfl) rfl
theorem w_1395 : Cond.methodLink "QuestionReaderModel" 211 ⟨"QuestionReaderModel", "either", "()V"⟩ ∈ x_tsl := x_t6 (List.mem_of_getElem? (i := 195) rfl) rfl
theorem w_1397 : Cond.instanceMethod ⟨"QuestionReaderModel", "either", "()V"⟩ ∈ x_tsl := x_t6 (List.mem_of_getElem? (i := 197) rfl) rfl
theorem w_1398 : Cond.code ⟨"QuestionReaderModel", "either", "()V"⟩ prog_14_method_31_code 1 none ∈ x_tsl := x_t6 (List.mem_of_getElem? (i := 198) rfl) rfl
theorem w_1399 : Cond.methodLink "QuestionReaderModel" 199 ⟨"QuestionReaderModel", "both", "()V"⟩ ∈ x_tsl := x_t6 (List.mem_of_getElem? (i := 199) rfl) rfl
theorem w_1401 : Cond.instanceMethod ⟨"QuestionReaderModel", "both", "()V"⟩ ∈ x_tsl := x_t6 (List.mem_of_getElem? (i := 201) rfl) rfl
theorem w_1402 : Cond.code ⟨"QuestionReaderModel", "both", "()V"⟩ prog_14_method_32_code 1 none ∈ x_tsl := x_t6 (List.mem_of_getElem? (i := 202) rfl) rfl
theorem w_1403 : Cond.methodLink "QuestionReaderModel" 205 ⟨"QuestionReaderModel", "single", "()V"⟩ ∈ x_tsl := x_t6 (List.mem_of_getElem? (i := 203) rfl) rfl
theorem w_1405 : Cond.instanceMethod ⟨"QuestionReaderModel", "single", "()V"⟩ ∈ x_tsl := x_t6 (List.mem_of_getElem? (i := 205) rfl) rfl
theorem w_1406 : Cond.code ⟨"QuestionReaderModel", "single", "()V"⟩ prog_14_method_33_code 3 none ∈ x_tsl := x_t6 (List.mem_of_getElem? (i := 206) rfl) rfl
theorem w_1407 : Cond.methodLink "QuestionReaderModel" 214 ⟨"QuestionReaderModel", "comparison", "()V"⟩ ∈ x_tsl := x_t6 (List.mem_of_getElem? (i := 207) rfl) rfl
theorem w_1409 : Cond.instanceMethod ⟨"QuestionReaderModel", "comparison", "()V"⟩ ∈ x_tsl := x_t6 (List.mem_of_getElem? (i := 209) rfl) rfl
theorem w_1410 : Cond.code ⟨"QuestionReaderModel", "comparison", "()V"⟩ prog_14_method_35_code 6 none ∈ x_tsl := x_t6 (List.mem_of_getElem? (i := 210) rfl) rfl
theorem w_1411 : Cond.methodLink "QuestionReaderModel" 229 ⟨"QuestionReaderModel", "needNumber", "()I"⟩ ∈ x_tsl := x_t6 (List.mem_of_getElem? (i := 211) rfl) rfl
theorem w_1413 : Cond.instanceMethod ⟨"QuestionReaderModel", "needNumber", "()I"⟩ ∈ x_tsl := x_t6 (List.mem_of_getElem? (i := 213) rfl) rfl
theorem w_1414 : Cond.code ⟨"QuestionReaderModel", "needNumber", "()I"⟩ prog_14_method_34_code 1 (Option.some FieldType.int) ∈ x_tsl := x_t6 (List.mem_of_getElem? (i := 214) rfl) rfl
theorem w_1415 : Cond.methodLink "QuestionReaderModel" 232 ⟨"QuestionReaderModel", "list", "(I)V"⟩ ∈ x_tsl := x_t6 (List.mem_of_getElem? (i := 215) rfl) rfl
theorem w_1417 : Cond.instanceMethod ⟨"QuestionReaderModel", "list", "(I)V"⟩ ∈ x_tsl := x_t6 (List.mem_of_getElem? (i := 217) rfl) rfl
theorem w_1418 : Cond.code ⟨"QuestionReaderModel", "list", "(I)V"⟩ prog_14_method_36_code 5 none ∈ x_tsl := x_t6 (List.mem_of_getElem? (i := 218) rfl) rfl
theorem w_1419 : Cond.methodLink "QuestionReaderModel" 202 ⟨"QuestionReaderModel", "say", "(I)V"⟩ ∈ x_tsl := x_t6 (List.mem_of_getElem? (i := 219) rfl) rfl
theorem w_1421 : Cond.instanceMethod ⟨"QuestionReaderModel", "say", "(I)V"⟩ ∈ x_tsl := x_t6 (List.mem_of_getElem? (i := 221) rfl) rfl
theorem w_1422 : Cond.code ⟨"QuestionReaderModel", "say", "(I)V"⟩ prog_14_method_30_code 2 none ∈ x_tsl := x_t6 (List.mem_of_getElem? (i := 222) rfl) rfl
theorem w_1423 : Cond.methodLink "QuestionReaderModel" 273 ⟨"QuestionReaderModel", "grouping", "()V"⟩ ∈ x_tsl := x_t6 (List.mem_of_getElem? (i := 223) rfl) rfl
theorem w_1425 : Cond.instanceMethod ⟨"QuestionReaderModel", "grouping", "()V"⟩ ∈ x_tsl := x_t6 (List.mem_of_getElem? (i := 225) rfl) rfl
theorem w_1426 : Cond.code ⟨"QuestionReaderModel", "grouping", "()V"⟩ prog_14_method_39_code 4 none ∈ x_tsl := x_t6 (List.mem_of_getElem? (i := 226) rfl) rfl
theorem w_1427 : Cond.methodLink "QuestionReaderModel" 261 ⟨"QuestionReaderModel", "groupsOf", "()I"⟩ ∈ x_tsl := x_t6 (List.mem_of_getElem? (i := 227) rfl) rfl
theorem w_1429 : Cond.instanceMethod ⟨"QuestionReaderModel", "groupsOf", "()I"⟩ ∈ x_tsl := x_t6 (List.mem_of_getElem? (i := 229) rfl) rfl
theorem w_1430 : Cond.code ⟨"QuestionReaderModel", "groupsOf", "()I"⟩ prog_14_method_38_code 4 (Option.some FieldType.int) ∈ x_tsl := x_t6 (List.mem_of_getElem? (i := 230) rfl) rfl
theorem w_1431 : Cond.methodLink "QuestionReaderModel" 246 ⟨"QuestionReaderModel", "groupColumn", "()V"⟩ ∈ x_tsl := x_t6 (List.mem_of_getElem? (i := 231) rfl) rfl
theorem w_1433 : Cond.instanceMethod ⟨"QuestionReaderModel", "groupColumn", "()V"⟩ ∈ x_tsl := x_t6 (List.mem_of_getElem? (i := 233) rfl) rfl
theorem w_1434 : Cond.code ⟨"QuestionReaderModel", "groupColumn", "()V"⟩ prog_14_method_37_code 6 none ∈ x_tsl := x_t6 (List.mem_of_getElem? (i := 234) rfl) rfl
theorem w_1435 : Cond.methodLink "QuestionReaderModel" 276 ⟨"QuestionReaderModel", "spread", "(LQuestionReaderModel$Question;)V"⟩ ∈ x_tsl := x_t6 (List.mem_of_getElem? (i := 235) rfl) rfl
theorem w_1437 : Cond.instanceMethod ⟨"QuestionReaderModel", "spread", "(LQuestionReaderModel$Question;)V"⟩ ∈ x_tsl := x_t6 (List.mem_of_getElem? (i := 237) rfl) rfl
theorem w_1438 : Cond.code ⟨"QuestionReaderModel", "spread", "(LQuestionReaderModel$Question;)V"⟩ prog_14_method_40_code 8 none ∈ x_tsl := x_t6 (List.mem_of_getElem? (i := 238) rfl) rfl
theorem w_1439 : Cond.methodLink "QuestionReaderLaw" 84 ⟨"QuestionReaderModel", "fault", "(I)I"⟩ ∈ x_tsl := x_t6 (List.mem_of_getElem? (i := 239) rfl) rfl
theorem w_1440 : Cond.instanceMethod ⟨"QuestionReaderModel", "fault", "(I)I"⟩ ∈ x_tsl := x_t7 (List.mem_of_getElem? (i := 0) rfl) rfl
theorem w_1441 : Cond.selects "QuestionReaderModel" ⟨"QuestionReaderModel", "fault", "(I)I"⟩ ⟨"QuestionReaderModel", "fault", "(I)I"⟩ ∈ x_tsl := x_t7 (List.mem_of_getElem? (i := 1) rfl) rfl
theorem w_1442 : Cond.code ⟨"QuestionReaderModel", "fault", "(I)I"⟩ prog_14_method_44_code 2 (Option.some FieldType.int) ∈ x_tsl := x_t7 (List.mem_of_getElem? (i := 2) rfl) rfl
theorem w_1443 : Cond.methodLink "QuestionReaderLaw" 88 ⟨"QuestionReaderModel", "open", "()Z"⟩ ∈ x_tsl := x_t7 (List.mem_of_getElem? (i := 3) rfl) rfl
theorem w_1444 : Cond.instanceMethod ⟨"QuestionReaderModel", "open", "()Z"⟩ ∈ x_tsl := x_t7 (List.mem_of_getElem? (i := 4) rfl) rfl
theorem w_1445 : Cond.selects "QuestionReaderModel" ⟨"QuestionReaderModel", "open", "()Z"⟩ ⟨"QuestionReaderModel", "open", "()Z"⟩ ∈ x_tsl := x_t7 (List.mem_of_getElem? (i := 5) rfl) rfl
theorem w_1446 : Cond.code ⟨"QuestionReaderModel", "open", "()Z"⟩ prog_14_method_46_code 3 (Option.some FieldType.boolean) ∈ x_tsl := x_t7 (List.mem_of_getElem? (i := 6) rfl) rfl
theorem w_1447 : Cond.methodLink "QuestionReaderModel" 302 ⟨"QuestionReaderModel", "order", "(I)V"⟩ ∈ x_tsl := x_t7 (List.mem_of_getElem? (i := 7) rfl) rfl
theorem w_1449 : Cond.instanceMethod ⟨"QuestionReaderModel", "order", "(I)V"⟩ ∈ x_tsl := x_t7 (List.mem_of_getElem? (i := 9) rfl) rfl
theorem w_1450 : Cond.code ⟨"QuestionReaderModel", "order", "(I)V"⟩ prog_14_method_45_code 8 none ∈ x_tsl := x_t7 (List.mem_of_getElem? (i := 10) rfl) rfl
theorem w_1451 : Cond.methodLink "QuestionReaderLaw" 91 ⟨"QuestionReaderModel", "count", "(I)I"⟩ ∈ x_tsl := x_t7 (List.mem_of_getElem? (i := 11) rfl) rfl
theorem w_1452 : Cond.instanceMethod ⟨"QuestionReaderModel", "count", "(I)I"⟩ ∈ x_tsl := x_t7 (List.mem_of_getElem? (i := 12) rfl) rfl
theorem w_1453 : Cond.selects "QuestionReaderModel" ⟨"QuestionReaderModel", "count", "(I)I"⟩ ⟨"QuestionReaderModel", "count", "(I)I"⟩ ∈ x_tsl := x_t7 (List.mem_of_getElem? (i := 13) rfl) rfl
theorem w_1454 : Cond.code ⟨"QuestionReaderModel", "count", "(I)I"⟩ prog_14_method_47_code 2 (Option.some FieldType.int) ∈ x_tsl := x_t7 (List.mem_of_getElem? (i := 14) rfl) rfl
theorem w_1455 : Cond.methodLink "QuestionReaderLaw" 95 ⟨"QuestionReaderModel", "dimension", "(II)I"⟩ ∈ x_tsl := x_t7 (List.mem_of_getElem? (i := 15) rfl) rfl
theorem w_1456 : Cond.instanceMethod ⟨"QuestionReaderModel", "dimension", "(II)I"⟩ ∈ x_tsl := x_t7 (List.mem_of_getElem? (i := 16) rfl) rfl
theorem w_1457 : Cond.selects "QuestionReaderModel" ⟨"QuestionReaderModel", "dimension", "(II)I"⟩ ⟨"QuestionReaderModel", "dimension", "(II)I"⟩ ∈ x_tsl := x_t7 (List.mem_of_getElem? (i := 17) rfl) rfl
theorem w_1458 : Cond.code ⟨"QuestionReaderModel", "dimension", "(II)I"⟩ prog_14_method_49_code 3 (Option.some FieldType.int) ∈ x_tsl := x_t7 (List.mem_of_getElem? (i := 18) rfl) rfl
theorem w_1459 : Cond.methodLink "QuestionReaderModel" 305 ⟨"QuestionReaderModel", "isDimension", "(I)Z"⟩ ∈ x_tsl := x_t7 (List.mem_of_getElem? (i := 19) rfl) rfl
theorem w_1461 : Cond.instanceMethod ⟨"QuestionReaderModel", "isDimension", "(I)Z"⟩ ∈ x_tsl := x_t7 (List.mem_of_getElem? (i := 21) rfl) rfl
theorem w_1462 : Cond.code ⟨"QuestionReaderModel", "isDimension", "(I)Z"⟩ prog_14_method_48_code 2 (Option.some FieldType.boolean) ∈ x_tsl := x_t7 (List.mem_of_getElem? (i := 22) rfl) rfl
theorem w_1463 : Cond.methodLink "QuestionReaderLaw" 99 ⟨"QuestionReaderModel", "value", "(III)I"⟩ ∈ x_tsl := x_t7 (List.mem_of_getElem? (i := 23) rfl) rfl
theorem w_1464 : Cond.instanceMethod ⟨"QuestionReaderModel", "value", "(III)I"⟩ ∈ x_tsl := x_t7 (List.mem_of_getElem? (i := 24) rfl) rfl
theorem w_1465 : Cond.selects "QuestionReaderModel" ⟨"QuestionReaderModel", "value", "(III)I"⟩ ⟨"QuestionReaderModel", "value", "(III)I"⟩ ∈ x_tsl := x_t7 (List.mem_of_getElem? (i := 25) rfl) rfl
theorem w_1466 : Cond.code ⟨"QuestionReaderModel", "value", "(III)I"⟩ prog_14_method_52_code 4 (Option.some FieldType.int) ∈ x_tsl := x_t7 (List.mem_of_getElem? (i := 26) rfl) rfl
theorem w_1467 : Cond.methodLink "QuestionReaderModel" 308 ⟨"QuestionReaderModel", "isValue", "(III)Z"⟩ ∈ x_tsl := x_t7 (List.mem_of_getElem? (i := 27) rfl) rfl
theorem w_1469 : Cond.instanceMethod ⟨"QuestionReaderModel", "isValue", "(III)Z"⟩ ∈ x_tsl := x_t7 (List.mem_of_getElem? (i := 29) rfl) rfl
theorem w_1470 : Cond.code ⟨"QuestionReaderModel", "isValue", "(III)Z"⟩ prog_14_method_50_code 4 (Option.some FieldType.boolean) ∈ x_tsl := x_t7 (List.mem_of_getElem? (i := 30) rfl) rfl
theorem w_1471 : Cond.methodLink "QuestionReaderModel" 312 ⟨"QuestionReaderModel", "valueOf", "(III)I"⟩ ∈ x_tsl := x_t7 (List.mem_of_getElem? (i := 31) rfl) rfl
theorem w_1473 : Cond.instanceMethod ⟨"QuestionReaderModel", "valueOf", "(III)I"⟩ ∈ x_tsl := x_t7 (List.mem_of_getElem? (i := 33) rfl) rfl
theorem w_1474 : Cond.code ⟨"QuestionReaderModel", "valueOf", "(III)I"⟩ prog_14_method_51_code 4 (Option.some FieldType.int) ∈ x_tsl := x_t7 (List.mem_of_getElem? (i := 34) rfl) rfl
theorem w_1475 : Cond.methodLink "QuestionReaderLaw" 102 ⟨"QuestionReaderModel", "rank", "(III)I"⟩ ∈ x_tsl := x_t7 (List.mem_of_getElem? (i := 35) rfl) rfl
theorem w_1476 : Cond.instanceMethod ⟨"QuestionReaderModel", "rank", "(III)I"⟩ ∈ x_tsl := x_t7 (List.mem_of_getElem? (i := 36) rfl) rfl
theorem w_1477 : Cond.selects "QuestionReaderModel" ⟨"QuestionReaderModel", "rank", "(III)I"⟩ ⟨"QuestionReaderModel", "rank", "(III)I"⟩ ∈ x_tsl := x_t7 (List.mem_of_getElem? (i := 37) rfl) rfl
theorem w_1478 : Cond.code ⟨"QuestionReaderModel", "rank", "(III)I"⟩ prog_14_method_53_code 9 (Option.some FieldType.int) ∈ x_tsl := x_t7 (List.mem_of_getElem? (i := 38) rfl) rfl
theorem w_1479 : Cond.methodLink "QuestionReaderLaw" 105 ⟨"QuestionReaderModel", "find", "(II)I"⟩ ∈ x_tsl := x_t7 (List.mem_of_getElem? (i := 39) rfl) rfl
theorem w_1480 : Cond.instanceMethod ⟨"QuestionReaderModel", "find", "(II)I"⟩ ∈ x_tsl := x_t7 (List.mem_of_getElem? (i := 40) rfl) rfl
theorem w_1481 : Cond.selects "QuestionReaderModel" ⟨"QuestionReaderModel", "find", "(II)I"⟩ ⟨"QuestionReaderModel", "find", "(II)I"⟩ ∈ x_tsl := x_t7 (List.mem_of_getElem? (i := 41) rfl) rfl
theorem w_1482 : Cond.code ⟨"QuestionReaderModel", "find", "(II)I"⟩ prog_14_method_54_code 5 (Option.some FieldType.int) ∈ x_tsl := x_t7 (List.mem_of_getElem? (i := 42) rfl) rfl
theorem w_1483 : Cond.methodLink "QuestionReaderLaw" 108 ⟨"QuestionReaderModel", "letter", "(II)I"⟩ ∈ x_tsl := x_t7 (List.mem_of_getElem? (i := 43) rfl) rfl
theorem w_1484 : Cond.instanceMethod ⟨"QuestionReaderModel", "letter", "(II)I"⟩ ∈ x_tsl := x_t7 (List.mem_of_getElem? (i := 44) rfl) rfl
theorem w_1485 : Cond.selects "QuestionReaderModel" ⟨"QuestionReaderModel", "letter", "(II)I"⟩ ⟨"QuestionReaderModel", "letter", "(II)I"⟩ ∈ x_tsl := x_t7 (List.mem_of_getElem? (i := 45) rfl) rfl
theorem w_1486 : Cond.code ⟨"QuestionReaderModel", "letter", "(II)I"⟩ prog_14_method_56_code 3 (Option.some FieldType.int) ∈ x_tsl := x_t7 (List.mem_of_getElem? (i := 46) rfl) rfl
theorem w_1487 : Cond.methodLink "QuestionReaderModel" 316 ⟨"QuestionReaderModel", "isNamed", "(I)Z"⟩ ∈ x_tsl := x_t7 (List.mem_of_getElem? (i := 47) rfl) rfl
theorem w_1489 : Cond.instanceMethod ⟨"QuestionReaderModel", "isNamed", "(I)Z"⟩ ∈ x_tsl := x_t7 (List.mem_of_getElem? (i := 49) rfl) rfl
theorem w_1490 : Cond.code ⟨"QuestionReaderModel", "isNamed", "(I)Z"⟩ prog_14_method_55_code 2 (Option.some FieldType.boolean) ∈ x_tsl := x_t7 (List.mem_of_getElem? (i := 50) rfl) rfl
theorem w_1491 : Cond.methodLink "QuestionReaderLaw" 111 ⟨"QuestionReaderModel", "item", "(II)I"⟩ ∈ x_tsl := x_t7 (List.mem_of_getElem? (i := 51) rfl) rfl
theorem w_1492 : Cond.instanceMethod ⟨"QuestionReaderModel", "item", "(II)I"⟩ ∈ x_tsl := x_t7 (List.mem_of_getElem? (i := 52) rfl) rfl
theorem w_1493 : Cond.selects "QuestionReaderModel" ⟨"QuestionReaderModel", "item", "(II)I"⟩ ⟨"QuestionReaderModel", "item", "(II)I"⟩ ∈ x_tsl := x_t7 (List.mem_of_getElem? (i := 53) rfl) rfl
theorem w_1494 : Cond.code ⟨"QuestionReaderModel", "item", "(II)I"⟩ prog_14_method_57_code 3 (Option.some FieldType.int) ∈ x_tsl := x_t7 (List.mem_of_getElem? (i := 54) rfl) rfl
theorem w_1495 : Cond.methodLink "QuestionReaderLaw" 114 ⟨"QuestionReaderModel", "group", "(I)I"⟩ ∈ x_tsl := x_t7 (List.mem_of_getElem? (i := 55) rfl) rfl
theorem w_1496 : Cond.instanceMethod ⟨"QuestionReaderModel", "group", "(I)I"⟩ ∈ x_tsl := x_t7 (List.mem_of_getElem? (i := 56) rfl) rfl
theorem w_1497 : Cond.selects "QuestionReaderModel" ⟨"QuestionReaderModel", "group", "(I)I"⟩ ⟨"QuestionReaderModel", "group", "(I)I"⟩ ∈ x_tsl := x_t7 (List.mem_of_getElem? (i := 57) rfl) rfl
theorem w_1498 : Cond.code ⟨"QuestionReaderModel", "group", "(I)I"⟩ prog_14_method_58_code 2 (Option.some FieldType.int) ∈ x_tsl := x_t7 (List.mem_of_getElem? (i := 58) rfl) rfl
theorem w_1499 : Cond.methodLink "QuestionReaderLaw" 117 ⟨"QuestionReaderModel", "set", "(I)I"⟩ ∈ x_tsl := x_t7 (List.mem_of_getElem? (i := 59) rfl) rfl
theorem w_1500 : Cond.instanceMethod ⟨"QuestionReaderModel", "set", "(I)I"⟩ ∈ x_tsl := x_t7 (List.mem_of_getElem? (i := 60) rfl) rfl
theorem w_1501 : Cond.selects "QuestionReaderModel" ⟨"QuestionReaderModel", "set", "(I)I"⟩ ⟨"QuestionReaderModel", "set", "(I)I"⟩ ∈ x_tsl := x_t7 (List.mem_of_getElem? (i := 61) rfl) rfl
theorem w_1502 : Cond.code ⟨"QuestionReaderModel", "set", "(I)I"⟩ prog_14_method_59_code 2 (Option.some FieldType.int) ∈ x_tsl := x_t7 (List.mem_of_getElem? (i := 62) rfl) rfl
theorem w_1503 : Cond.methodLink "QuestionReaderLaw" 120 ⟨"QuestionReaderModel", "pick", "(II)I"⟩ ∈ x_tsl := x_t7 (List.mem_of_getElem? (i := 63) rfl) rfl
theorem w_1504 : Cond.instanceMethod ⟨"QuestionReaderModel", "pick", "(II)I"⟩ ∈ x_tsl := x_t7 (List.mem_of_getElem? (i := 64) rfl) rfl
theorem w_1505 : Cond.selects "QuestionReaderModel" ⟨"QuestionReaderModel", "pick", "(II)I"⟩ ⟨"QuestionReaderModel", "pick", "(II)I"⟩ ∈ x_tsl := x_t7 (List.mem_of_getElem? (i := 65) rfl) rfl
theorem w_1506 : Cond.code ⟨"QuestionReaderModel", "pick", "(II)I"⟩ prog_14_method_60_code 5 (Option.some FieldType.int) ∈ x_tsl := x_t7 (List.mem_of_getElem? (i := 66) rfl) rfl
theorem w_1507 : Cond.methodLink "QuestionReaderLaw" 124 ⟨"QuestionReaderModel", "holds", "()Z"⟩ ∈ x_tsl := x_t7 (List.mem_of_getElem? (i := 67) rfl) rfl
theorem w_1508 : Cond.instanceMethod ⟨"QuestionReaderModel", "holds", "()Z"⟩ ∈ x_tsl := x_t7 (List.mem_of_getElem? (i := 68) rfl) rfl
theorem w_1509 : Cond.selects "QuestionReaderModel" ⟨"QuestionReaderModel", "holds", "()Z"⟩ ⟨"QuestionReaderModel", "holds", "()Z"⟩ ∈ x_tsl := x_t7 (List.mem_of_getElem? (i := 69) rfl) rfl
theorem w_1510 : Cond.code ⟨"QuestionReaderModel", "holds", "()Z"⟩ prog_14_method_62_code 4 (Option.some FieldType.boolean) ∈ x_tsl := x_t7 (List.mem_of_getElem? (i := 70) rfl) rfl
theorem w_1511 : Cond.methodLink "QuestionReaderModel" 319 ⟨"QuestionReaderModel", "compares", "(I)Z"⟩ ∈ x_tsl := x_t7 (List.mem_of_getElem? (i := 71) rfl) rfl
theorem w_1513 : Cond.instanceMethod ⟨"QuestionReaderModel", "compares", "(I)Z"⟩ ∈ x_tsl := x_t7 (List.mem_of_getElem? (i := 73) rfl) rfl
theorem w_1514 : Cond.code ⟨"QuestionReaderModel", "compares", "(I)Z"⟩ prog_14_method_61_code 7 (Option.some FieldType.boolean) ∈ x_tsl := x_t7 (List.mem_of_getElem? (i := 74) rfl) rfl
theorem w_1515 : Cond.arrayClass FieldType.long ∈ x_tsl := x_t7 (List.mem_of_getElem? (i := 75) rfl) rfl
theorem w_1517 : Cond.fieldLink "QuestionReader$Kind" 141 "QuestionReader$Kind" "key" "J" ∈ x_tsl := x_t7 (List.mem_of_getElem? (i := 77) rfl) rfl
theorem w_1518 : Cond.fieldLink "java/lang/String" 9 "java/lang/String" "value" "[B" ∈ x_tsl := x_t7 (List.mem_of_getElem? (i := 78) rfl) rfl
theorem w_1519 : Cond.fieldLink "java/lang/String" 15 "java/lang/String" "coder" "B" ∈ x_tsl := x_t7 (List.mem_of_getElem? (i := 79) rfl) rfl
theorem wl_36 : Cond.methodLinkNest "QuestionReader" 9 ⟨"QuestionReader$Text", "<init>", "()V"⟩ "QuestionReader" ∈ lw_tbl := x_l1 (List.mem_of_getElem? (i := 36) rfl)
theorem wl_60 : Cond.laysStatic "QuestionReader$Kind" "END" "LQuestionReader$Kind;" ∈ lw_tbl := x_l1 (List.mem_of_getElem? (i := 60) rfl)
theorem wl_109 : Cond.methodLinkNest "QuestionReader$Catalog" 11 ⟨"QuestionReader$Names", "<init>", "()V"⟩ "QuestionReader" ∈ lw_tbl := x_l1 (List.mem_of_getElem? (i := 109) rfl)
theorem wl_216 : Cond.methodLinkNest "QuestionReader$QuestionGrammar" 11 ⟨"QuestionReader$Question", "<init>", "()V"⟩ "QuestionReader" ∈ lw_tbl := x_l1 (List.mem_of_getElem? (i := 216) rfl)
theorem wl_229 : Cond.methodLinkNest "QuestionReader$Condition" 43 ⟨"QuestionReader$Comparison", "<init>", "()V"⟩ "QuestionReader" ∈ lw_tbl := x_l1 (List.mem_of_getElem? (i := 229) rfl)
theorem wl_402 : Cond.laysStatic "QuestionReader$Kind" "TOO_LONG" "LQuestionReader$Kind;" ∈ lw_tbl := x_l2 (List.mem_of_getElem? (i := 162) rfl)
theorem wl_404 : Cond.laysStatic "QuestionReader$Kind" "NAME" "LQuestionReader$Kind;" ∈ lw_tbl := x_l2 (List.mem_of_getElem? (i := 164) rfl)
theorem wl_409 : Cond.laysStatic "QuestionReader$Kind" "ALL" "[LQuestionReader$Kind;" ∈ lw_tbl := x_l2 (List.mem_of_getElem? (i := 169) rfl)
theorem wl_421 : Cond.laysStatic "QuestionReader$Kind" "NUMBER" "LQuestionReader$Kind;" ∈ lw_tbl := x_l2 (List.mem_of_getElem? (i := 181) rfl)
theorem wl_423 : Cond.laysStatic "QuestionReader$Kind" "WRONG" "LQuestionReader$Kind;" ∈ lw_tbl := x_l2 (List.mem_of_getElem? (i := 183) rfl)
theorem wl_429 : Cond.laysStatic "QuestionReader$Kind" "SELECT" "LQuestionReader$Kind;" ∈ lw_tbl := x_l2 (List.mem_of_getElem? (i := 189) rfl)
theorem wl_460 : Cond.laysStatic "QuestionReader$Kind" "SUM" "LQuestionReader$Kind;" ∈ lw_tbl := x_l2 (List.mem_of_getElem? (i := 220) rfl)
theorem wl_462 : Cond.laysStatic "QuestionReader$Kind" "MIN" "LQuestionReader$Kind;" ∈ lw_tbl := x_l2 (List.mem_of_getElem? (i := 222) rfl)
theorem wl_464 : Cond.laysStatic "QuestionReader$Kind" "MAX" "LQuestionReader$Kind;" ∈ lw_tbl := x_l2 (List.mem_of_getElem? (i := 224) rfl)
theorem wl_466 : Cond.laysStatic "QuestionReader$Kind" "COUNT" "LQuestionReader$Kind;" ∈ lw_tbl := x_l2 (List.mem_of_getElem? (i := 226) rfl)
theorem wl_468 : Cond.laysStatic "QuestionReader$Kind" "GROUPING" "LQuestionReader$Kind;" ∈ lw_tbl := x_l2 (List.mem_of_getElem? (i := 228) rfl)
theorem wl_491 : Cond.laysStatic "QuestionReader$Kind" "DOT" "LQuestionReader$Kind;" ∈ lw_tbl := x_l3 (List.mem_of_getElem? (i := 11) rfl)
theorem wl_505 : Cond.laysStatic "QuestionReader$Kind" "OPENING" "LQuestionReader$Kind;" ∈ lw_tbl := x_l3 (List.mem_of_getElem? (i := 25) rfl)
theorem wl_511 : Cond.laysStatic "QuestionReader$Kind" "STAR" "LQuestionReader$Kind;" ∈ lw_tbl := x_l3 (List.mem_of_getElem? (i := 31) rfl)
theorem wl_514 : Cond.laysStatic "QuestionReader$Kind" "CLOSING" "LQuestionReader$Kind;" ∈ lw_tbl := x_l3 (List.mem_of_getElem? (i := 34) rfl)
theorem wl_520 : Cond.laysStatic "QuestionReader$Kind" "COMMA" "LQuestionReader$Kind;" ∈ lw_tbl := x_l3 (List.mem_of_getElem? (i := 40) rfl)
theorem wl_522 : Cond.laysStatic "QuestionReader$Kind" "WHERE" "LQuestionReader$Kind;" ∈ lw_tbl := x_l3 (List.mem_of_getElem? (i := 42) rfl)
theorem wl_529 : Cond.laysStatic "QuestionReader$Kind" "NOT" "LQuestionReader$Kind;" ∈ lw_tbl := x_l3 (List.mem_of_getElem? (i := 49) rfl)
theorem wl_555 : Cond.laysStatic "QuestionReader$Kind" "IN" "LQuestionReader$Kind;" ∈ lw_tbl := x_l3 (List.mem_of_getElem? (i := 75) rfl)
theorem wl_566 : Cond.laysStatic "QuestionReader$Kind" "BETWEEN" "LQuestionReader$Kind;" ∈ lw_tbl := x_l3 (List.mem_of_getElem? (i := 86) rfl)
theorem wl_572 : Cond.laysStatic "QuestionReader$Kind" "AND" "LQuestionReader$Kind;" ∈ lw_tbl := x_l3 (List.mem_of_getElem? (i := 92) rfl)
theorem wl_585 : Cond.laysStatic "QuestionReader$Kind" "EQUAL" "LQuestionReader$Kind;" ∈ lw_tbl := x_l3 (List.mem_of_getElem? (i := 105) rfl)
theorem wl_587 : Cond.laysStatic "QuestionReader$Kind" "UNEQUAL" "LQuestionReader$Kind;" ∈ lw_tbl := x_l3 (List.mem_of_getElem? (i := 107) rfl)
theorem wl_589 : Cond.laysStatic "QuestionReader$Kind" "LESS" "LQuestionReader$Kind;" ∈ lw_tbl := x_l3 (List.mem_of_getElem? (i := 109) rfl)
theorem wl_591 : Cond.laysStatic "QuestionReader$Kind" "AT_MOST" "LQuestionReader$Kind;" ∈ lw_tbl := x_l3 (List.mem_of_getElem? (i := 111) rfl)
theorem wl_593 : Cond.laysStatic "QuestionReader$Kind" "MORE" "LQuestionReader$Kind;" ∈ lw_tbl := x_l3 (List.mem_of_getElem? (i := 113) rfl)
theorem wl_595 : Cond.laysStatic "QuestionReader$Kind" "AT_LEAST" "LQuestionReader$Kind;" ∈ lw_tbl := x_l3 (List.mem_of_getElem? (i := 115) rfl)
theorem wl_636 : Cond.laysStatic "QuestionReader$Kind" "OR" "LQuestionReader$Kind;" ∈ lw_tbl := x_l3 (List.mem_of_getElem? (i := 156) rfl)
theorem wl_646 : Cond.laysStatic "QuestionReader$Kind" "GROUP" "LQuestionReader$Kind;" ∈ lw_tbl := x_l3 (List.mem_of_getElem? (i := 166) rfl)
theorem wl_652 : Cond.laysStatic "QuestionReader$Kind" "BY" "LQuestionReader$Kind;" ∈ lw_tbl := x_l3 (List.mem_of_getElem? (i := 172) rfl)
theorem wl_654 : Cond.laysStatic "QuestionReader$Kind" "ROLLUP" "LQuestionReader$Kind;" ∈ lw_tbl := x_l3 (List.mem_of_getElem? (i := 174) rfl)
theorem wl_656 : Cond.laysStatic "QuestionReader$Kind" "CUBE" "LQuestionReader$Kind;" ∈ lw_tbl := x_l3 (List.mem_of_getElem? (i := 176) rfl)
theorem wl_680 : Cond.laysStatic "QuestionReader$Kind" "SEMICOLON" "LQuestionReader$Kind;" ∈ lw_tbl := x_l3 (List.mem_of_getElem? (i := 200) rfl)
theorem wl_692 : Cond.laysStatic "QuestionReader$Kind" "DIMENSION" "LQuestionReader$Kind;" ∈ lw_tbl := x_l3 (List.mem_of_getElem? (i := 212) rfl)
theorem wl_694 : Cond.laysStatic "QuestionReader$Kind" "MEASURE" "LQuestionReader$Kind;" ∈ lw_tbl := x_l3 (List.mem_of_getElem? (i := 214) rfl)
theorem wl_696 : Cond.laysStatic "QuestionReader$Kind" "MEMBER" "LQuestionReader$Kind;" ∈ lw_tbl := x_l3 (List.mem_of_getElem? (i := 216) rfl)
theorem wl_830 : Cond.laysStatic "java/lang/Throwable" "UNASSIGNED_STACK" "[Ljava/lang/StackTraceElement;" ∈ lw_tbl := x_l4 (List.mem_of_getElem? (i := 110) rfl)
theorem wl_832 : Cond.laysStatic "java/lang/Throwable" "SUPPRESSED_SENTINEL" "Ljava/util/List;" ∈ lw_tbl := x_l4 (List.mem_of_getElem? (i := 112) rfl)
theorem wl_843 : Cond.stringRef "QuestionReader" 55 "the text would be too long" ∈ lw_tbl := x_l4 (List.mem_of_getElem? (i := 123) rfl)
theorem wl_893 : Cond.stringRef "QuestionReader" 223 "a number is out of its bounds" ∈ lw_tbl := x_l4 (List.mem_of_getElem? (i := 173) rfl)
theorem wl_914 : Cond.stringRef "QuestionReader" 137 "nothing of this kind is counted" ∈ lw_tbl := x_l4 (List.mem_of_getElem? (i := 194) rfl)
theorem wl_957 : Cond.stringRef "QuestionReader" 221 "the reader is new" ∈ lw_tbl := x_l4 (List.mem_of_getElem? (i := 237) rfl)
theorem wl_1035 : Cond.stringRef "QuestionReader" 211 "there is no question" ∈ lw_tbl := x_l5 (List.mem_of_getElem? (i := 75) rfl)
theorem wl_1059 : Cond.stringRef "QuestionReaderModel" 7 " dimension measure member select where group by rollup cube grouping sum count min max and or not between in " ∈ lw_tbl := x_l5 (List.mem_of_getElem? (i := 99) rfl)
theorem wl_1063 : Cond.methodLinkNest "QuestionReaderModel" 45 ⟨"QuestionReaderModel$Question", "<init>", "()V"⟩ "QuestionReaderModel" ∈ lw_tbl := x_l5 (List.mem_of_getElem? (i := 103) rfl)
theorem wl_1067 : Cond.fieldLinkNest "QuestionReaderModel" 179 "QuestionReaderModel$Question" "items" "I" "QuestionReaderModel" ∈ lw_tbl := x_l5 (List.mem_of_getElem? (i := 107) rfl)
theorem wl_1069 : Cond.fieldLinkNest "QuestionReaderModel" 185 "QuestionReaderModel$Question" "kind" "[I" "QuestionReaderModel" ∈ lw_tbl := x_l5 (List.mem_of_getElem? (i := 109) rfl)
theorem wl_1071 : Cond.fieldLinkNest "QuestionReaderModel" 188 "QuestionReaderModel$Question" "of" "[I" "QuestionReaderModel" ∈ lw_tbl := x_l5 (List.mem_of_getElem? (i := 111) rfl)
theorem wl_1073 : Cond.fieldLinkNest "QuestionReaderModel" 191 "QuestionReaderModel$Question" "begins" "[I" "QuestionReaderModel" ∈ lw_tbl := x_l5 (List.mem_of_getElem? (i := 113) rfl)
theorem wl_1074 : Cond.fieldLinkNest "QuestionReaderModel" 240 "QuestionReaderModel$Question" "groups" "I" "QuestionReaderModel" ∈ lw_tbl := x_l5 (List.mem_of_getElem? (i := 114) rfl)
theorem wl_1076 : Cond.fieldLinkNest "QuestionReaderModel" 243 "QuestionReaderModel$Question" "group" "[I" "QuestionReaderModel" ∈ lw_tbl := x_l5 (List.mem_of_getElem? (i := 116) rfl)
theorem wl_1077 : Cond.fieldLinkNest "QuestionReaderModel" 252 "QuestionReaderModel$Question" "parts" "I" "QuestionReaderModel" ∈ lw_tbl := x_l5 (List.mem_of_getElem? (i := 117) rfl)
theorem wl_1079 : Cond.fieldLinkNest "QuestionReaderModel" 249 "QuestionReaderModel$Question" "partKind" "[I" "QuestionReaderModel" ∈ lw_tbl := x_l5 (List.mem_of_getElem? (i := 119) rfl)
theorem wl_1081 : Cond.fieldLinkNest "QuestionReaderModel" 255 "QuestionReaderModel$Question" "partSize" "[I" "QuestionReaderModel" ∈ lw_tbl := x_l5 (List.mem_of_getElem? (i := 121) rfl)
theorem wl_1082 : Cond.fieldLinkNest "QuestionReaderModel" 264 "QuestionReaderModel$Question" "sets" "I" "QuestionReaderModel" ∈ lw_tbl := x_l5 (List.mem_of_getElem? (i := 122) rfl)
theorem wl_1084 : Cond.fieldLinkNest "QuestionReaderModel" 267 "QuestionReaderModel$Question" "set" "[I" "QuestionReaderModel" ∈ lw_tbl := x_l5 (List.mem_of_getElem? (i := 124) rfl)
theorem wl_1085 : Cond.fieldLinkNest "QuestionReaderModel" 196 "QuestionReaderModel$Question" "signs" "I" "QuestionReaderModel" ∈ lw_tbl := x_l5 (List.mem_of_getElem? (i := 125) rfl)
theorem wl_1087 : Cond.fieldLinkNest "QuestionReaderModel" 194 "QuestionReaderModel$Question" "sign" "[I" "QuestionReaderModel" ∈ lw_tbl := x_l5 (List.mem_of_getElem? (i := 127) rfl)
theorem wl_1088 : Cond.fieldLinkNest "QuestionReaderModel" 217 "QuestionReaderModel$Question" "comparisons" "I" "QuestionReaderModel" ∈ lw_tbl := x_l5 (List.mem_of_getElem? (i := 128) rfl)
theorem wl_1090 : Cond.fieldLinkNest "QuestionReaderModel" 220 "QuestionReaderModel$Question" "column" "[I" "QuestionReaderModel" ∈ lw_tbl := x_l5 (List.mem_of_getElem? (i := 130) rfl)
theorem wl_1092 : Cond.fieldLinkNest "QuestionReaderModel" 223 "QuestionReaderModel$Question" "how" "[I" "QuestionReaderModel" ∈ lw_tbl := x_l5 (List.mem_of_getElem? (i := 132) rfl)
theorem wl_1094 : Cond.fieldLinkNest "QuestionReaderModel" 226 "QuestionReaderModel$Question" "first" "[I" "QuestionReaderModel" ∈ lw_tbl := x_l5 (List.mem_of_getElem? (i := 134) rfl)
theorem wl_1096 : Cond.fieldLinkNest "QuestionReaderModel" 235 "QuestionReaderModel$Question" "second" "[I" "QuestionReaderModel" ∈ lw_tbl := x_l5 (List.mem_of_getElem? (i := 136) rfl)
theorem wl_1098 : Cond.fieldLinkNest "QuestionReaderModel" 238 "QuestionReaderModel$Question" "list" "[I" "QuestionReaderModel" ∈ lw_tbl := x_l5 (List.mem_of_getElem? (i := 138) rfl)
theorem wl_1267 : Cond.laysStatic "java/lang/String" "COMPACT_STRINGS" "Z" ∈ lw_tbl := x_l6 (List.mem_of_getElem? (i := 67) rfl)
theorem wl_1283 : Cond.laysStatic "jdk/internal/util/Preconditions" "SIOOBE_FORMATTER" "Ljava/util/function/BiFunction;" ∈ lw_tbl := x_l6 (List.mem_of_getElem? (i := 83) rfl)
theorem wl_1301 : Cond.laysStatic "java/lang/StringUTF16" "$assertionsDisabled" "Z" ∈ lw_tbl := x_l6 (List.mem_of_getElem? (i := 101) rfl)
theorem wl_1303 : Cond.laysStatic "java/lang/StringUTF16" "HI_BYTE_SHIFT" "I" ∈ lw_tbl := x_l6 (List.mem_of_getElem? (i := 103) rfl)
theorem wl_1305 : Cond.laysStatic "java/lang/StringUTF16" "LO_BYTE_SHIFT" "I" ∈ lw_tbl := x_l6 (List.mem_of_getElem? (i := 105) rfl)
theorem ws_0 : Cond.selects "QuestionReader$Condition" ⟨"QuestionReader$Condition", "clearLine", "()V"⟩ ⟨"QuestionReader$Condition", "clearLine", "()V"⟩ ∈ x_tsl := x_inS (List.mem_of_getElem? (i := 0) rfl) rfl
theorem ws_1 : Cond.selects "QuestionReader$Lexer" ⟨"QuestionReader$Lexer", "skipBlanks", "()V"⟩ ⟨"QuestionReader$Lexer", "skipBlanks", "()V"⟩ ∈ x_tsl := x_inS (List.mem_of_getElem? (i := 1) rfl) rfl
theorem ws_2 : Cond.selects "QuestionReader$Lexer" ⟨"QuestionReader$Lexer", "scanWord", "()J"⟩ ⟨"QuestionReader$Lexer", "scanWord", "()J"⟩ ∈ x_tsl := x_inS (List.mem_of_getElem? (i := 2) rfl) rfl
theorem ws_3 : Cond.selects "QuestionReader$Lexer" ⟨"QuestionReader$Lexer", "isDigit", "(I)Z"⟩ ⟨"QuestionReader$Lexer", "isDigit", "(I)Z"⟩ ∈ x_tsl := x_inS (List.mem_of_getElem? (i := 3) rfl) rfl
theorem ws_4 : Cond.selects "QuestionReader$Lexer" ⟨"QuestionReader$Lexer", "scanNumber", "()J"⟩ ⟨"QuestionReader$Lexer", "scanNumber", "()J"⟩ ∈ x_tsl := x_inS (List.mem_of_getElem? (i := 4) rfl) rfl
theorem ws_5 : Cond.selects "QuestionReader$Lexer" ⟨"QuestionReader$Lexer", "scanSign", "()J"⟩ ⟨"QuestionReader$Lexer", "scanSign", "()J"⟩ ∈ x_tsl := x_inS (List.mem_of_getElem? (i := 5) rfl) rfl
theorem ws_6 : Cond.selects "QuestionReader$QuestionGrammar" ⟨"QuestionReader$QuestionGrammar", "readItems", "()Z"⟩ ⟨"QuestionReader$QuestionGrammar", "readItems", "()Z"⟩ ∈ x_tsl := x_inS (List.mem_of_getElem? (i := 6) rfl) rfl
theorem ws_7 : Cond.selects "QuestionReader$QuestionGrammar" ⟨"QuestionReader$QuestionGrammar", "readItem", "()Z"⟩ ⟨"QuestionReader$QuestionGrammar", "readItem", "()Z"⟩ ∈ x_tsl := x_inS (List.mem_of_getElem? (i := 7) rfl) rfl
theorem ws_8 : Cond.selects "QuestionReader$QuestionGrammar" ⟨"QuestionReader$QuestionGrammar", "readColumn", "(Z)I"⟩ ⟨"QuestionReader$QuestionGrammar", "readColumn", "(Z)I"⟩ ∈ x_tsl := x_inS (List.mem_of_getElem? (i := 8) rfl) rfl
theorem ws_9 : Cond.selects "QuestionReader$Names" ⟨"QuestionReader$Names", "isSame", "(ILQuestionReader$Lexer;)Z"⟩ ⟨"QuestionReader$Names", "isSame", "(ILQuestionReader$Lexer;)Z"⟩ ∈ x_tsl := x_inS (List.mem_of_getElem? (i := 9) rfl) rfl
theorem ws_10 : Cond.selects "QuestionReader$QuestionGrammar" ⟨"QuestionReader$QuestionGrammar", "readSummed", "(I)I"⟩ ⟨"QuestionReader$QuestionGrammar", "readSummed", "(I)I"⟩ ∈ x_tsl := x_inS (List.mem_of_getElem? (i := 10) rfl) rfl
theorem ws_11 : Cond.selects "QuestionReader$QuestionGrammar" ⟨"QuestionReader$QuestionGrammar", "readWhere", "()Z"⟩ ⟨"QuestionReader$QuestionGrammar", "readWhere", "()Z"⟩ ∈ x_tsl := x_inS (List.mem_of_getElem? (i := 11) rfl) rfl
theorem ws_12 : Cond.selects "QuestionReader$QuestionGrammar" ⟨"QuestionReader$QuestionGrammar", "readComparison", "(LQuestionReader$Condition;)Z"⟩ ⟨"QuestionReader$QuestionGrammar", "readComparison", "(LQuestionReader$Condition;)Z"⟩ ∈ x_tsl := x_inS (List.mem_of_getElem? (i := 12) rfl) rfl
theorem ws_13 : Cond.selects "QuestionReader$QuestionGrammar" ⟨"QuestionReader$QuestionGrammar", "readList", "(LQuestionReader$Comparison;)Z"⟩ ⟨"QuestionReader$QuestionGrammar", "readList", "(LQuestionReader$Comparison;)Z"⟩ ∈ x_tsl := x_inS (List.mem_of_getElem? (i := 13) rfl) rfl
theorem ws_14 : Cond.selects "QuestionReader$QuestionGrammar" ⟨"QuestionReader$QuestionGrammar", "readBetween", "(LQuestionReader$Comparison;)Z"⟩ ⟨"QuestionReader$QuestionGrammar", "readBetween", "(LQuestionReader$Comparison;)Z"⟩ ∈ x_tsl := x_inS (List.mem_of_getElem? (i := 14) rfl) rfl
theorem ws_15 : Cond.selects "QuestionReader$QuestionGrammar" ⟨"QuestionReader$QuestionGrammar", "readRelation", "(LQuestionReader$Comparison;)Z"⟩ ⟨"QuestionReader$QuestionGrammar", "readRelation", "(LQuestionReader$Comparison;)Z"⟩ ∈ x_tsl := x_inS (List.mem_of_getElem? (i := 15) rfl) rfl
theorem ws_16 : Cond.selects "QuestionReader$Condition" ⟨"QuestionReader$Condition", "attach", "(I)V"⟩ ⟨"QuestionReader$Condition", "attach", "(I)V"⟩ ∈ x_tsl := x_inS (List.mem_of_getElem? (i := 16) rfl) rfl
theorem ws_17 : Cond.selects "QuestionReader$Condition" ⟨"QuestionReader$Condition", "join", "(ZII)I"⟩ ⟨"QuestionReader$Condition", "join", "(ZII)I"⟩ ∈ x_tsl := x_inS (List.mem_of_getElem? (i := 17) rfl) rfl
theorem ws_18 : Cond.selects "QuestionReader$QuestionGrammar" ⟨"QuestionReader$QuestionGrammar", "readClosings", "(LQuestionReader$Condition;)V"⟩ ⟨"QuestionReader$QuestionGrammar", "readClosings", "(LQuestionReader$Condition;)V"⟩ ∈ x_tsl := x_inS (List.mem_of_getElem? (i := 18) rfl) rfl
theorem ws_19 : Cond.selects "QuestionReader$Condition" ⟨"QuestionReader$Condition", "endLine", "()I"⟩ ⟨"QuestionReader$Condition", "endLine", "()I"⟩ ∈ x_tsl := x_inS (List.mem_of_getElem? (i := 19) rfl) rfl
theorem ws_20 : Cond.selects "QuestionReader$QuestionGrammar" ⟨"QuestionReader$QuestionGrammar", "readGroups", "()Z"⟩ ⟨"QuestionReader$QuestionGrammar", "readGroups", "()Z"⟩ ∈ x_tsl := x_inS (List.mem_of_getElem? (i := 20) rfl) rfl
theorem ws_21 : Cond.selects "QuestionReader$QuestionGrammar" ⟨"QuestionReader$QuestionGrammar", "readGroup", "(Z)I"⟩ ⟨"QuestionReader$QuestionGrammar", "readGroup", "(Z)I"⟩ ∈ x_tsl := x_inS (List.mem_of_getElem? (i := 21) rfl) rfl
theorem ws_22 : Cond.selects "QuestionReader$CatalogGrammar" ⟨"QuestionReader$CatalogGrammar", "readDimension", "()Z"⟩ ⟨"QuestionReader$CatalogGrammar", "readDimension", "()Z"⟩ ∈ x_tsl := x_inS (List.mem_of_getElem? (i := 22) rfl) rfl
theorem ws_23 : Cond.selects "QuestionReader$CatalogGrammar" ⟨"QuestionReader$CatalogGrammar", "atNewName", "(Z)Z"⟩ ⟨"QuestionReader$CatalogGrammar", "atNewName", "(Z)Z"⟩ ∈ x_tsl := x_inS (List.mem_of_getElem? (i := 23) rfl) rfl
theorem ws_24 : Cond.selects "QuestionReader$CatalogGrammar" ⟨"QuestionReader$CatalogGrammar", "readLevels", "(I)I"⟩ ⟨"QuestionReader$CatalogGrammar", "readLevels", "(I)I"⟩ ∈ x_tsl := x_inS (List.mem_of_getElem? (i := 24) rfl) rfl
theorem ws_25 : Cond.selects "QuestionReader$CatalogGrammar" ⟨"QuestionReader$CatalogGrammar", "atNewLevel", "(II)Z"⟩ ⟨"QuestionReader$CatalogGrammar", "atNewLevel", "(II)Z"⟩ ∈ x_tsl := x_inS (List.mem_of_getElem? (i := 25) rfl) rfl
theorem ws_26 : Cond.selects "QuestionReader$CatalogGrammar" ⟨"QuestionReader$CatalogGrammar", "readMeasure", "()Z"⟩ ⟨"QuestionReader$CatalogGrammar", "readMeasure", "()Z"⟩ ∈ x_tsl := x_inS (List.mem_of_getElem? (i := 26) rfl) rfl
theorem ws_27 : Cond.selects "QuestionReader$CatalogGrammar" ⟨"QuestionReader$CatalogGrammar", "readMembers", "()Z"⟩ ⟨"QuestionReader$CatalogGrammar", "readMembers", "()Z"⟩ ∈ x_tsl := x_inS (List.mem_of_getElem? (i := 27) rfl) rfl
theorem ws_28 : Cond.selects "QuestionReader$CatalogGrammar" ⟨"QuestionReader$CatalogGrammar", "readMember", "(LQuestionReader$Dimension;I)Z"⟩ ⟨"QuestionReader$CatalogGrammar", "readMember", "(LQuestionReader$Dimension;I)Z"⟩ ∈ x_tsl := x_inS (List.mem_of_getElem? (i := 28) rfl) rfl
theorem ws_29 : Cond.selects "QuestionReader$CatalogGrammar" ⟨"QuestionReader$CatalogGrammar", "readValues", "(LQuestionReader$Dimension;I)I"⟩ ⟨"QuestionReader$CatalogGrammar", "readValues", "(LQuestionReader$Dimension;I)I"⟩ ∈ x_tsl := x_inS (List.mem_of_getElem? (i := 29) rfl) rfl
theorem ws_30 : Cond.selects "QuestionReader$Dimension" ⟨"QuestionReader$Dimension", "firstWithSame", "(II)I"⟩ ⟨"QuestionReader$Dimension", "firstWithSame", "(II)I"⟩ ∈ x_tsl := x_inS (List.mem_of_getElem? (i := 30) rfl) rfl
theorem ws_31 : Cond.selects "QuestionReader$Dimension" ⟨"QuestionReader$Dimension", "agreeAbove", "(III)Z"⟩ ⟨"QuestionReader$Dimension", "agreeAbove", "(III)Z"⟩ ∈ x_tsl := x_inS (List.mem_of_getElem? (i := 31) rfl) rfl
theorem ws_32 : Cond.selects "QuestionReader$Dimension" ⟨"QuestionReader$Dimension", "insert", "(II)V"⟩ ⟨"QuestionReader$Dimension", "insert", "(II)V"⟩ ∈ x_tsl := x_inS (List.mem_of_getElem? (i := 32) rfl) rfl
theorem ws_33 : Cond.selects "java/lang/Throwable" ⟨"java/lang/Throwable", "fillInStackTrace", "(I)Ljava/lang/Throwable;"⟩ ⟨"java/lang/Throwable", "fillInStackTrace", "(I)Ljava/lang/Throwable;"⟩ ∈ x_tsl := x_inS (List.mem_of_getElem? (i := 33) rfl) rfl
theorem ws_34 : Cond.selects "QuestionReader" ⟨"QuestionReader", "demandOpen", "()V"⟩ ⟨"QuestionReader", "demandOpen", "()V"⟩ ∈ x_tsl := x_inS (List.mem_of_getElem? (i := 34) rfl) rfl
theorem ws_35 : Cond.selects "QuestionReader$Comparison" ⟨"QuestionReader$Comparison", "isListed", "(I)Z"⟩ ⟨"QuestionReader$Comparison", "isListed", "(I)Z"⟩ ∈ x_tsl := x_inS (List.mem_of_getElem? (i := 35) rfl) rfl
theorem ws_36 : Cond.selects "QuestionReaderModel" ⟨"QuestionReaderModel", "lay", "(I)V"⟩ ⟨"QuestionReaderModel", "lay", "(I)V"⟩ ∈ x_tsl := x_inS (List.mem_of_getElem? (i := 36) rfl) rfl
theorem ws_37 : Cond.selects "QuestionReaderModel" ⟨"QuestionReaderModel", "read", "()V"⟩ ⟨"QuestionReaderModel", "read", "()V"⟩ ∈ x_tsl := x_inS (List.mem_of_getElem? (i := 37) rfl) rfl
theorem ws_38 : Cond.selects "QuestionReaderModel" ⟨"QuestionReaderModel", "look", "(I)I"⟩ ⟨"QuestionReaderModel", "look", "(I)I"⟩ ∈ x_tsl := x_inS (List.mem_of_getElem? (i := 38) rfl) rfl
theorem ws_39 : Cond.selects "QuestionReaderModel" ⟨"QuestionReaderModel", "wordOf", "()I"⟩ ⟨"QuestionReaderModel", "wordOf", "()I"⟩ ∈ x_tsl := x_inS (List.mem_of_getElem? (i := 39) rfl) rfl
theorem ws_40 : Cond.selects "QuestionReaderModel" ⟨"QuestionReaderModel", "readNumber", "(Z)V"⟩ ⟨"QuestionReaderModel", "readNumber", "(Z)V"⟩ ∈ x_tsl := x_inS (List.mem_of_getElem? (i := 40) rfl) rfl
theorem ws_41 : Cond.selects "QuestionReaderModel" ⟨"QuestionReaderModel", "want", "(ZII)Z"⟩ ⟨"QuestionReaderModel", "want", "(ZII)Z"⟩ ∈ x_tsl := x_inS (List.mem_of_getElem? (i := 41) rfl) rfl
theorem ws_42 : Cond.selects "QuestionReaderModel" ⟨"QuestionReaderModel", "readSign", "(I)V"⟩ ⟨"QuestionReaderModel", "readSign", "(I)V"⟩ ∈ x_tsl := x_inS (List.mem_of_getElem? (i := 42) rfl) rfl
theorem ws_43 : Cond.selects "QuestionReaderModel" ⟨"QuestionReaderModel", "statement", "()V"⟩ ⟨"QuestionReaderModel", "statement", "()V"⟩ ∈ x_tsl := x_inS (List.mem_of_getElem? (i := 43) rfl) rfl
theorem ws_44 : Cond.selects "QuestionReaderModel" ⟨"QuestionReaderModel", "isWord", "(I)Z"⟩ ⟨"QuestionReaderModel", "isWord", "(I)Z"⟩ ∈ x_tsl := x_inS (List.mem_of_getElem? (i := 44) rfl) rfl
theorem ws_45 : Cond.selects "QuestionReaderModel" ⟨"QuestionReaderModel", "must", "(Z)Z"⟩ ⟨"QuestionReaderModel", "must", "(Z)Z"⟩ ∈ x_tsl := x_inS (List.mem_of_getElem? (i := 45) rfl) rfl
theorem ws_46 : Cond.selects "QuestionReaderModel" ⟨"QuestionReaderModel", "dimension", "()V"⟩ ⟨"QuestionReaderModel", "dimension", "()V"⟩ ∈ x_tsl := x_inS (List.mem_of_getElem? (i := 46) rfl) rfl
theorem ws_47 : Cond.selects "QuestionReaderModel" ⟨"QuestionReaderModel", "newName", "()Z"⟩ ⟨"QuestionReaderModel", "newName", "()Z"⟩ ∈ x_tsl := x_inS (List.mem_of_getElem? (i := 47) rfl) rfl
theorem ws_48 : Cond.selects "QuestionReaderModel" ⟨"QuestionReaderModel", "name", "()Z"⟩ ⟨"QuestionReaderModel", "name", "()Z"⟩ ∈ x_tsl := x_inS (List.mem_of_getElem? (i := 48) rfl) rfl
theorem ws_49 : Cond.selects "QuestionReaderModel" ⟨"QuestionReaderModel", "among", "(II)I"⟩ ⟨"QuestionReaderModel", "among", "(II)I"⟩ ∈ x_tsl := x_inS (List.mem_of_getElem? (i := 49) rfl) rfl
theorem ws_50 : Cond.selects "QuestionReaderModel" ⟨"QuestionReaderModel", "isName", "(I)Z"⟩ ⟨"QuestionReaderModel", "isName", "(I)Z"⟩ ∈ x_tsl := x_inS (List.mem_of_getElem? (i := 50) rfl) rfl
theorem ws_51 : Cond.selects "QuestionReaderModel" ⟨"QuestionReaderModel", "keep", "(I)V"⟩ ⟨"QuestionReaderModel", "keep", "(I)V"⟩ ∈ x_tsl := x_inS (List.mem_of_getElem? (i := 51) rfl) rfl
theorem ws_52 : Cond.selects "QuestionReaderModel" ⟨"QuestionReaderModel", "needSign", "(I)Z"⟩ ⟨"QuestionReaderModel", "needSign", "(I)Z"⟩ ∈ x_tsl := x_inS (List.mem_of_getElem? (i := 52) rfl) rfl
theorem ws_53 : Cond.selects "QuestionReaderModel" ⟨"QuestionReaderModel", "isSign", "(I)Z"⟩ ⟨"QuestionReaderModel", "isSign", "(I)Z"⟩ ∈ x_tsl := x_inS (List.mem_of_getElem? (i := 53) rfl) rfl
theorem ws_54 : Cond.selects "QuestionReaderModel" ⟨"QuestionReaderModel", "measure", "()V"⟩ ⟨"QuestionReaderModel", "measure", "()V"⟩ ∈ x_tsl := x_inS (List.mem_of_getElem? (i := 54) rfl) rfl
theorem ws_55 : Cond.selects "QuestionReaderModel" ⟨"QuestionReaderModel", "member", "()V"⟩ ⟨"QuestionReaderModel", "member", "()V"⟩ ∈ x_tsl := x_inS (List.mem_of_getElem? (i := 55) rfl) rfl
theorem ws_56 : Cond.selects "QuestionReaderModel" ⟨"QuestionReaderModel", "goes", "(II)Z"⟩ ⟨"QuestionReaderModel", "goes", "(II)Z"⟩ ∈ x_tsl := x_inS (List.mem_of_getElem? (i := 56) rfl) rfl
theorem ws_57 : Cond.selects "QuestionReaderModel" ⟨"QuestionReaderModel", "question", "()V"⟩ ⟨"QuestionReaderModel", "question", "()V"⟩ ∈ x_tsl := x_inS (List.mem_of_getElem? (i := 57) rfl) rfl
theorem ws_58 : Cond.selects "QuestionReaderModel" ⟨"QuestionReaderModel", "item", "()V"⟩ ⟨"QuestionReaderModel", "item", "()V"⟩ ∈ x_tsl := x_inS (List.mem_of_getElem? (i := 58) rfl) rfl
theorem ws_59 : Cond.selects "QuestionReaderModel" ⟨"QuestionReaderModel", "columnsDimension", "()I"⟩ ⟨"QuestionReaderModel", "columnsDimension", "()I"⟩ ∈ x_tsl := x_inS (List.mem_of_getElem? (i := 59) rfl) rfl
theorem ws_60 : Cond.selects "QuestionReaderModel" ⟨"QuestionReaderModel", "columnsLevel", "(I)I"⟩ ⟨"QuestionReaderModel", "columnsLevel", "(I)I"⟩ ∈ x_tsl := x_inS (List.mem_of_getElem? (i := 60) rfl) rfl
theorem ws_61 : Cond.selects "QuestionReaderModel" ⟨"QuestionReaderModel", "either", "()V"⟩ ⟨"QuestionReaderModel", "either", "()V"⟩ ∈ x_tsl := x_inS (List.mem_of_getElem? (i := 61) rfl) rfl
theorem ws_62 : Cond.selects "QuestionReaderModel" ⟨"QuestionReaderModel", "both", "()V"⟩ ⟨"QuestionReaderModel", "both", "()V"⟩ ∈ x_tsl := x_inS (List.mem_of_getElem? (i := 62) rfl) rfl
theorem ws_63 : Cond.selects "QuestionReaderModel" ⟨"QuestionReaderModel", "single", "()V"⟩ ⟨"QuestionReaderModel", "single", "()V"⟩ ∈ x_tsl := x_inS (List.mem_of_getElem? (i := 63) rfl) rfl
theorem ws_64 : Cond.selects "QuestionReaderModel" ⟨"QuestionReaderModel", "comparison", "()V"⟩ ⟨"QuestionReaderModel", "comparison", "()V"⟩ ∈ x_tsl := x_inS (List.mem_of_getElem? (i := 64) rfl) rfl
theorem ws_65 : Cond.selects "QuestionReaderModel" ⟨"QuestionReaderModel", "needNumber", "()I"⟩ ⟨"QuestionReaderModel", "needNumber", "()I"⟩ ∈ x_tsl := x_inS (List.mem_of_getElem? (i := 65) rfl) rfl
theorem ws_66 : Cond.selects "QuestionReaderModel" ⟨"QuestionReaderModel", "list", "(I)V"⟩ ⟨"QuestionReaderModel", "list", "(I)V"⟩ ∈ x_tsl := x_inS (List.mem_of_getElem? (i := 66) rfl) rfl
theorem ws_67 : Cond.selects "QuestionReaderModel" ⟨"QuestionReaderModel", "say", "(I)V"⟩ ⟨"QuestionReaderModel", "say", "(I)V"⟩ ∈ x_tsl := x_inS (List.mem_of_getElem? (i := 67) rfl) rfl
theorem ws_68 : Cond.selects "QuestionReaderModel" ⟨"QuestionReaderModel", "grouping", "()V"⟩ ⟨"QuestionReaderModel", "grouping", "()V"⟩ ∈ x_tsl := x_inS (List.mem_of_getElem? (i := 68) rfl) rfl
theorem ws_69 : Cond.selects "QuestionReaderModel" ⟨"QuestionReaderModel", "groupsOf", "()I"⟩ ⟨"QuestionReaderModel", "groupsOf", "()I"⟩ ∈ x_tsl := x_inS (List.mem_of_getElem? (i := 69) rfl) rfl
theorem ws_70 : Cond.selects "QuestionReaderModel" ⟨"QuestionReaderModel", "groupColumn", "()V"⟩ ⟨"QuestionReaderModel", "groupColumn", "()V"⟩ ∈ x_tsl := x_inS (List.mem_of_getElem? (i := 70) rfl) rfl
theorem ws_71 : Cond.selects "QuestionReaderModel" ⟨"QuestionReaderModel", "spread", "(LQuestionReaderModel$Question;)V"⟩ ⟨"QuestionReaderModel", "spread", "(LQuestionReaderModel$Question;)V"⟩ ∈ x_tsl := x_inS (List.mem_of_getElem? (i := 71) rfl) rfl
theorem ws_72 : Cond.selects "QuestionReaderModel" ⟨"QuestionReaderModel", "order", "(I)V"⟩ ⟨"QuestionReaderModel", "order", "(I)V"⟩ ∈ x_tsl := x_inS (List.mem_of_getElem? (i := 72) rfl) rfl
theorem ws_73 : Cond.selects "QuestionReaderModel" ⟨"QuestionReaderModel", "isDimension", "(I)Z"⟩ ⟨"QuestionReaderModel", "isDimension", "(I)Z"⟩ ∈ x_tsl := x_inS (List.mem_of_getElem? (i := 73) rfl) rfl
theorem ws_74 : Cond.selects "QuestionReaderModel" ⟨"QuestionReaderModel", "isValue", "(III)Z"⟩ ⟨"QuestionReaderModel", "isValue", "(III)Z"⟩ ∈ x_tsl := x_inS (List.mem_of_getElem? (i := 74) rfl) rfl
theorem ws_75 : Cond.selects "QuestionReaderModel" ⟨"QuestionReaderModel", "valueOf", "(III)I"⟩ ⟨"QuestionReaderModel", "valueOf", "(III)I"⟩ ∈ x_tsl := x_inS (List.mem_of_getElem? (i := 75) rfl) rfl
theorem ws_76 : Cond.selects "QuestionReaderModel" ⟨"QuestionReaderModel", "isNamed", "(I)Z"⟩ ⟨"QuestionReaderModel", "isNamed", "(I)Z"⟩ ∈ x_tsl := x_inS (List.mem_of_getElem? (i := 76) rfl) rfl
theorem ws_77 : Cond.selects "QuestionReaderModel" ⟨"QuestionReaderModel", "compares", "(I)Z"⟩ ⟨"QuestionReaderModel", "compares", "(I)Z"⟩ ∈ x_tsl := x_inS (List.mem_of_getElem? (i := 77) rfl) rfl
theorem wu_QR : ∀ w ∈ u_ws R_QR F_QR 5, w ∈ x_tsl := List.forall_mem_cons.mpr ⟨w_355, List.forall_mem_cons.mpr ⟨w_357, List.forall_mem_cons.mpr ⟨w_359, List.forall_mem_cons.mpr ⟨w_361, List.forall_mem_cons.mpr ⟨w_363, fun _ h => absurd h List.not_mem_nil⟩⟩⟩⟩⟩
theorem wu_TX : ∀ w ∈ u_ws R_TX F_TX 2, w ∈ x_tsl := List.forall_mem_cons.mpr ⟨w_47, List.forall_mem_cons.mpr ⟨w_49, fun _ h => absurd h List.not_mem_nil⟩⟩
theorem wu_LX : ∀ w ∈ u_ws R_LX F_LX 9, w ∈ x_tsl := List.forall_mem_cons.mpr ⟨w_82, List.forall_mem_cons.mpr ⟨w_84, List.forall_mem_cons.mpr ⟨w_86, List.forall_mem_cons.mpr ⟨w_88, List.forall_mem_cons.mpr ⟨w_90, List.forall_mem_cons.mpr ⟨w_92, List.forall_mem_cons.mpr ⟨w_94, List.forall_mem_cons.mpr ⟨w_96, List.forall_mem_cons.mpr ⟨w_98, fun _ h => absurd h List.not_mem_nil⟩⟩⟩⟩⟩⟩⟩⟩⟩
theorem wu_CT : ∀ w ∈ u_ws R_CT F_CT 5, w ∈ x_tsl := List.forall_mem_cons.mpr ⟨w_181, List.forall_mem_cons.mpr ⟨w_183, List.forall_mem_cons.mpr ⟨w_185, List.forall_mem_cons.mpr ⟨w_187, List.forall_mem_cons.mpr ⟨w_189, fun _ h => absurd h List.not_mem_nil⟩⟩⟩⟩⟩
theorem wu_NM : ∀ w ∈ u_ws R_NM F_NM 2, w ∈ x_tsl := List.forall_mem_cons.mpr ⟨w_115, List.forall_mem_cons.mpr ⟨w_117, fun _ h => absurd h List.not_mem_nil⟩⟩
theorem wu_DM : ∀ w ∈ u_ws R_DM F_DM 7, w ∈ x_tsl := List.forall_mem_cons.mpr ⟨w_146, List.forall_mem_cons.mpr ⟨w_148, List.forall_mem_cons.mpr ⟨w_150, List.forall_mem_cons.mpr ⟨w_152, List.forall_mem_cons.mpr ⟨w_154, List.forall_mem_cons.mpr ⟨w_156, List.forall_mem_cons.mpr ⟨w_158, fun _ h => absurd h List.not_mem_nil⟩⟩⟩⟩⟩⟩⟩
theorem wu_CG : ∀ w ∈ u_ws R_CG F_CG 3, w ∈ x_tsl := List.forall_mem_cons.mpr ⟨w_201, List.forall_mem_cons.mpr ⟨w_203, List.forall_mem_cons.mpr ⟨w_205, fun _ h => absurd h List.not_mem_nil⟩⟩⟩
theorem wu_QG : ∀ w ∈ u_ws R_QG F_QG 5, w ∈ x_tsl := List.forall_mem_cons.mpr ⟨w_339, List.forall_mem_cons.mpr ⟨w_341, List.forall_mem_cons.mpr ⟨w_343, List.forall_mem_cons.mpr ⟨w_345, List.forall_mem_cons.mpr ⟨w_347, fun _ h => absurd h List.not_mem_nil⟩⟩⟩⟩⟩
theorem wu_QU : ∀ w ∈ u_ws R_QU F_QU 9, w ∈ x_tsl := List.forall_mem_cons.mpr ⟨w_314, List.forall_mem_cons.mpr ⟨w_316, List.forall_mem_cons.mpr ⟨w_318, List.forall_mem_cons.mpr ⟨w_320, List.forall_mem_cons.mpr ⟨w_322, List.forall_mem_cons.mpr ⟨w_324, List.forall_mem_cons.mpr ⟨w_326, List.forall_mem_cons.mpr ⟨w_328, List.forall_mem_cons.mpr ⟨w_330, fun _ h => absurd h List.not_mem_nil⟩⟩⟩⟩⟩⟩⟩⟩⟩
theorem wu_CN : ∀ w ∈ u_ws R_CN F_CN 12, w ∈ x_tsl := List.forall_mem_cons.mpr ⟨w_269, List.forall_mem_cons.mpr ⟨w_271, List.forall_mem_cons.mpr ⟨w_273, List.forall_mem_cons.mpr ⟨w_275, List.forall_mem_cons.mpr ⟨w_277, List.forall_mem_cons.mpr ⟨w_279, List.forall_mem_cons.mpr ⟨w_281, List.forall_mem_cons.mpr ⟨w_283, List.forall_mem_cons.mpr ⟨w_285, List.forall_mem_cons.mpr ⟨w_287, List.forall_mem_cons.mpr ⟨w_289, List.forall_mem_cons.mpr ⟨w_291, fun _ h => absurd h List.not_mem_nil⟩⟩⟩⟩⟩⟩⟩⟩⟩⟩⟩⟩
theorem wu_CP : ∀ w ∈ u_ws R_CP F_CP 6, w ∈ x_tsl := List.forall_mem_cons.mpr ⟨w_241, List.forall_mem_cons.mpr ⟨w_243, List.forall_mem_cons.mpr ⟨w_245, List.forall_mem_cons.mpr ⟨w_247, List.forall_mem_cons.mpr ⟨w_249, List.forall_mem_cons.mpr ⟨w_251, fun _ h => absurd h List.not_mem_nil⟩⟩⟩⟩⟩⟩
theorem wu_MD : ∀ w ∈ u_ws R_MD F_MD 27, w ∈ x_tsl := List.forall_mem_cons.mpr ⟨w_1165, List.forall_mem_cons.mpr ⟨w_1167, List.forall_mem_cons.mpr ⟨w_1169, List.forall_mem_cons.mpr ⟨w_1171, List.forall_mem_cons.mpr ⟨w_1173, List.forall_mem_cons.mpr ⟨w_1175, List.forall_mem_cons.mpr ⟨w_1177, List.forall_mem_cons.mpr ⟨w_1179, List.forall_mem_cons.mpr ⟨w_1181, List.forall_mem_cons.mpr ⟨w_1183, List.forall_mem_cons.mpr ⟨w_1185, List.forall_mem_cons.mpr ⟨w_1187, List.forall_mem_cons.mpr ⟨w_1189, List.forall_mem_cons.mpr ⟨w_1191, List.forall_mem_cons.mpr ⟨w_1193, List.forall_mem_cons.mpr ⟨w_1195, List.forall_mem_cons.mpr ⟨w_1197, List.forall_mem_cons.mpr ⟨w_1199, List.forall_mem_cons.mpr ⟨w_1201, List.forall_mem_cons.mpr ⟨w_1203, List.forall_mem_cons.mpr ⟨w_1205, List.forall_mem_cons.mpr ⟨w_1207, List.forall_mem_cons.mpr ⟨w_1209, List.forall_mem_cons.mpr ⟨w_1211, List.forall_mem_cons.mpr ⟨w_1213, List.forall_mem_cons.mpr ⟨w_1215, List.forall_mem_cons.mpr ⟨w_1217, fun _ h => absurd h List.not_mem_nil⟩⟩⟩⟩⟩⟩⟩⟩⟩⟩⟩⟩⟩⟩⟩⟩⟩⟩⟩⟩⟩⟩⟩⟩⟩⟩⟩
theorem wu_MQ : ∀ w ∈ u_ws R_MQ F_MQ 19, w ∈ x_tsl := List.forall_mem_cons.mpr ⟨w_1099, List.forall_mem_cons.mpr ⟨w_1101, List.forall_mem_cons.mpr ⟨w_1103, List.forall_mem_cons.mpr ⟨w_1105, List.forall_mem_cons.mpr ⟨w_1107, List.forall_mem_cons.mpr ⟨w_1109, List.forall_mem_cons.mpr ⟨w_1111, List.forall_mem_cons.mpr ⟨w_1113, List.forall_mem_cons.mpr ⟨w_1115, List.forall_mem_cons.mpr ⟨w_1117, List.forall_mem_cons.mpr ⟨w_1119, List.forall_mem_cons.mpr ⟨w_1121, List.forall_mem_cons.mpr ⟨w_1123, List.forall_mem_cons.mpr ⟨w_1125, List.forall_mem_cons.mpr ⟨w_1127, List.forall_mem_cons.mpr ⟨w_1129, List.forall_mem_cons.mpr ⟨w_1131, List.forall_mem_cons.mpr ⟨w_1133, List.forall_mem_cons.mpr ⟨w_1135, fun _ h => absurd h List.not_mem_nil⟩⟩⟩⟩⟩⟩⟩⟩⟩⟩⟩⟩⟩⟩⟩⟩⟩⟩⟩
end
section
/-! ===== THE CORE: a frame of a method over an abstract heap. An abstract reference is a place: k < x_N is the k-th new cell, x_N + i the i-th constant.
Needs: vwCl (the classes), x_tl (the types of array elements), x_tsl (the words), x_G, x_Z (what is known of the start's statics). ===== -/
abbrev x_l (G : x_G) : Launch := G.1
abbrev x_D (G : x_G) : va_G := G.2.1
abbrev x_c (G : x_G) : Nat → ClassId := G.2.2.1
abbrev x_B (G : x_G) : Nat := G.2.2.2.1.1.heap.size
abbrev x_C (G : x_G) : Nat → Nat := G.2.2.2.2
def x_ty (G : x_G) : List (ClassId × FieldType) := x_tl.mapIdx (fun i t => (x_c G i, t))
abbrev x_v (G : x_G) : Value → Value := x_v0 G
def x_a (G : x_G) (a : vp_A) : vp_A := (a.1, match a.2 with
  | .inl f => .inl f
  | .inr (.inl f) => .inr (.inl f)
  | .inr (.inr (.inl f)) => .inr (.inr (.inl f))
  | .inr (.inr (.inr (.inl f))) => .inr (.inr (.inr (.inl f)))
  | .inr (.inr (.inr (.inr f))) => .inr (.inr (.inr (.inr (fun j => (f j).map (x_ad G))))))
def x_e (G : x_G) : va_E → va_E
  | .inl (t, a) => .inl (x_c G t, x_a G a)
  | .inr (ci, fs) => .inr (ci, fs.map (x_v G))
/-- the cells that a method may change -/
def x_A (G : x_G) : Nat → Prop := fun q => x_B G ≤ q
abbrev x_h : Type := Nat → va_E
/-- no new cell holds statics -/
def x_ns (G : x_G) (H : Heap) : Prop := ∀ (q : Nat) (cell : Cell), x_B G ≤ q → H[q]? = some cell → cell.vm.isStatics = false
/-- the heap H holds the n places of h; if ex, nothing else is new -/
def x_H (G : x_G) (ex : Bool) (n : Nat) (h : x_h) (H : Heap) : Prop :=
  n ≤ x_N ∧ x_B G + n ≤ H.size ∧ (ex = true → H.size = x_B G + n) ∧ (∀ k, k < n → va_at (x_D G) vwCl (x_B G + k, x_e G (h k)) H) ∧ x_ns G H
def x_K (G : x_G) (s : State) : Prop := va_K (x_D G) vwCl (x_ty G) s ∧ x_Z G s ∧ x_B G ≤ s.heap.size ∧ x_ns G s.heap
/-- a method: its name, its bytes, its locals, what it returns, its handlers -/
abbrev x_M : Type := MethodName × ByteArray × Nat × Option FieldType × List (Nat × Nat × Nat × Nat)
def x_F (G : x_G) (M : x_M) (p : Program) (s : State) (m : MethodId) (args : Array Value) (meth : Method) (c : Code) : Prop :=
  p.tables.exec = Jvm.exec ∧ c.code = M.2.1 ∧ c.maxLocals = M.2.2.1 ∧ meth.sig.returnType = M.2.2.2.1 ∧
  c.exceptionTable.toList.map (fun h => (h.startPc, h.endPc, h.handlerPc, h.catchType)) = M.2.2.2.2 ∧
  s.vm.findClass M.1.cls = some m.cls ∧ meth.locks = false ∧ meth.name = M.1.name ∧ (∀ w ∈ x_tsl, w.before args s = true) ∧ x_K G s
def x_lv (G : x_G) (lv : List (Nat × Value)) : List (Nat × Value) := lv.map (fun q => (q.1, x_v G q.2))
def x_st (G : x_G) (st : List Value) : List Value := st.map (x_v G)
/-- the frame at pc, locals lv, stack st, heap h, comes to a state with Qf -/
def x_W (G : x_G) (M : x_M) (rm : Room) (Qf : List Frame → Array Value → State → State → Prop) (ex : Bool) (n : Nat) (h : x_h) (cells slots : Nat) (lv : List (Nat × Value)) (st : List Value) (pc : Nat) : Prop :=
  ∀ (p : Program) (e : Env) (s : State) (m : MethodId) (args : Array Value) (below : List Frame) (meth : Method) (c : Code), x_F G M p s m args meth c →
    ∀ (H : Heap) (locs : List Loc) (ls : Array Slot), x_H G ex n h H → va_S (x_A G) s.heap H locs → lv_has ls M.2.2.1 (x_lv G lv) →
    W p (x_l G) e rm s m args below meth c H locs cells slots (Qf below args s) (F0 m pc ls (x_st G st))
/-- what a method answers or throws, and the heap behind it -/
abbrev x_P : Type := (Option Value ⊕ String) → Nat → x_h → Prop
def x_Q (G : x_G) (rm : Room) (ex : Bool) (Po : x_P) (below : List Frame) (_ : Array Value) (s t : State) : Prop :=
  t.status = .running ∧ s.WarmedH t.vm ∧ (∃ L, s.sameButNew ({ t with vm := s.vm } : State) L rm.cells rm.slots ∧ ∀ q ∈ L, x_A G q.base) ∧ va_F (x_A G) s t ∧
  ((∃ v n h, Ended t below (.returned (v.map (x_v G))) ∧ Po (.inl v) n h ∧ x_H G ex n h t.heap) ∨
   (∃ a X n h cell, Ended t below (.threw a) ∧ Po (.inr X) n h ∧ x_H G ex n h t.heap ∧ t.heap[a]? = some cell ∧ cell.vm = .none ∧ s.vm.findClass X = some cell.cls))
/-- the contract: with these arguments, in this heap, the method ends, and Po -/
def x_R (G : x_G) (M : x_M) (rm : Room) (ex : Bool) (args : List Value) (n : Nat) (h : x_h) (Po : x_P) : Prop :=
  x_W G M rm (x_Q G rm ex Po) ex n h 0 0 (lv_args 0 args) [] 0
-- small rows
theorem x_ad_new {G : x_G} {k : Nat} (h : k < x_N) : x_ad G k = x_B G + k := if_pos h
theorem x_cat {G : x_G} {v : Value} : (x_v G v).category = v.category := by cases v <;> rfl
theorem x_lv_at {G : x_G} {lv : List (Nat × Value)} {ls : Array Slot} {nL i : Nat} {v : Value} (hl : lv_has ls nL (x_lv G lv)) (h : (lv.find? (fun q => q.1 == i)) = some (i, v)) : ls[i]? = some (.val (x_v G v)) :=
  hl.2.2 (i, x_v G v) (List.mem_map.mpr ⟨(i, v), List.mem_of_find?_eq_some h, rfl⟩)
def x_ins : List (Nat × Value) → Nat → Value → List (Nat × Value)
  | [], i, v => [(i, v)]
  | q :: r, i, v => if i < q.1 then (i, v) :: q :: r else q :: x_ins r i v
theorem x_ins_mem : ∀ (l : List (Nat × Value)) (i : Nat) (v : Value) (q : Nat × Value), q ∈ x_ins l i v → q = (i, v) ∨ q ∈ l
  | [], i, v, q, h => Or.inl (List.mem_singleton.mp h)
  | a :: r, i, v, q, h => by
    unfold x_ins at h
    by_cases c : i < a.1
    · rw [if_pos c] at h
      rcases List.mem_cons.mp h with h | h
      · exact Or.inl h
      · exact Or.inr h
    · rw [if_neg c] at h
      rcases List.mem_cons.mp h with h | h
      · exact Or.inr (by rw [h]; exact List.mem_cons_self)
      · rcases x_ins_mem r i v q h with h | h
        · exact Or.inl h
        · exact Or.inr (List.mem_cons_of_mem _ h)
def x_put (lv : List (Nat × Value)) (i : Nat) (v : Value) : List (Nat × Value) := x_ins (lv.filter (fun q => !(q.1 == i) && !(q.1 + 1 == i && q.2.category == 2))) i v
def x_putL (lv : List (Nat × Value)) (i : Nat) (v : Value) : List (Nat × Value) := x_ins (lv.filter (fun q => !(q.1 == i) && (!(q.1 == i + 1) && !(q.1 + 1 == i && q.2.category == 2)))) i v
theorem x_put_has {G : x_G} {lv lv2 : List (Nat × Value)} {i nL : Nat} {v w : Value} {ls : Array Slot} (hl : lv_has ls nL ((i, w) :: (x_lv G lv).filter (fun q => !(q.1 == i) && !(q.1 + 1 == i && q.2.category == 2)))) (hq : x_put lv i v = lv2) (hv : x_v G v = w) : lv_has ls nL (x_lv G lv2) := by
  refine ⟨hl.1, hl.2.1, fun q h => hl.2.2 q ?_⟩
  subst hq; subst hv
  obtain ⟨r, hr, rfl⟩ := List.mem_map.mp h
  rcases x_ins_mem _ _ _ _ hr with h | h
  · subst h; exact List.mem_cons_self
  · obtain ⟨h1, h2⟩ := List.mem_filter.mp h
    refine List.mem_cons_of_mem _ (List.mem_filter.mpr ⟨List.mem_map.mpr ⟨r, h1, rfl⟩, ?_⟩)
    rw [x_cat]; exact h2
theorem x_putL_has {G : x_G} {lv lv2 : List (Nat × Value)} {i nL : Nat} {v w : Value} {ls : Array Slot} (hl : lv_has ls nL ((i, w) :: (x_lv G lv).filter (fun q => !(q.1 == i) && (!(q.1 == i + 1) && !(q.1 + 1 == i && q.2.category == 2))))) (hq : x_putL lv i v = lv2) (hv : x_v G v = w) : lv_has ls nL (x_lv G lv2) := by
  refine ⟨hl.1, hl.2.1, fun q h => hl.2.2 q ?_⟩
  subst hq; subst hv
  obtain ⟨r, hr, rfl⟩ := List.mem_map.mp h
  rcases x_ins_mem _ _ _ _ hr with h | h
  · subst h; exact List.mem_cons_self
  · obtain ⟨h1, h2⟩ := List.mem_filter.mp h
    refine List.mem_cons_of_mem _ (List.mem_filter.mpr ⟨List.mem_map.mpr ⟨r, h1, rfl⟩, ?_⟩)
    rw [x_cat]; exact h2
theorem x_ty_at {G : x_G} {t : Nat} {ty : FieldType} (h : x_tl[t]? = some ty) : (x_ty G)[t]? = some (x_c G t, ty) := by
  unfold x_ty
  rw [List.getElem?_mapIdx, h]
  rfl
theorem x_at_vm {D : va_G} {cl : List vw_C} {a : Nat} {e : va_E} {H : Heap} {cell : Cell} (h : va_at D cl (a, e) H) (hc : H[a]? = some cell) : cell.vm.isStatics = false := by
  cases e with
  | inl x =>
    have h1 : H[a]? = some (vp_cell x.1 x.2) := h
    rw [hc] at h1
    cases h1
    obtain ⟨c, n, f | f | f | f | f⟩ := x <;> rfl
  | inr o =>
    obtain ⟨r, -, cell', q1, -, q3, -⟩ := h
    have q1' : H[a]? = some cell' := q1
    rw [hc] at q1'
    cases q1'
    rw [q3]; rfl
theorem x_H.at {G : x_G} {ex : Bool} {n : Nat} {h : x_h} {H : Heap} (hH : x_H G ex n h H) {k : Nat} (hk : k < n) {c : va_E} (hc : h k = c) : va_P (x_D G) vwCl [(x_B G + k, x_e G c)] H := by
  intro i q hq
  subst hc
  cases i with
  | zero => cases hq; exact hH.2.2.2.1 k hk
  | succ i => simp at hq
theorem x_H.upd {G : x_G} {ex : Bool} {n : Nat} {h : x_h} {H H1 : Heap} (hH : x_H G ex n h H) {k : Nat} {c : va_E} (z : H1.size = H.size) (oq : ∀ q : Nat, q ≠ x_B G + k → H1[q]? = H[q]?) (hc : va_at (x_D G) vwCl (x_B G + k, x_e G c) H1) : x_H G ex n (va_up h k c) H1 := by
  refine ⟨hH.1, by rw [z]; exact hH.2.1, fun x => by rw [z]; exact hH.2.2.1 x, fun j hj => ?_, fun q cell h1 h2 => ?_⟩
  · by_cases e : j = k
    · subst e
      rw [va_up_self]; exact hc
    · rw [va_up_ne _ _ e]
      exact (hH.2.2.2.1 j hj).kept (oq _ (by show x_B G + j ≠ _; omega))
  · by_cases e : q = x_B G + k
    · subst e; exact x_at_vm hc h2
    · rw [oq q e] at h2; exact hH.2.2.2.2 q cell h1 h2
theorem x_H.new {G : x_G} {n : Nat} {h : x_h} {H H1 : Heap} (hH : x_H G true n h H) {c : va_E} (hn : n + 1 ≤ x_N) (z : H1.size = H.size + 1) (oq : ∀ q : Nat, q < H.size → H1[q]? = H[q]?) (hc : va_at (x_D G) vwCl (x_B G + n, x_e G c) H1) : x_H G true (n + 1) (va_up h n c) H1 := by
  have z0 := hH.2.2.1 rfl
  refine ⟨hn, by omega, fun _ => by omega, fun j hj => ?_, fun q cell h1 h2 => ?_⟩
  · by_cases e : j = n
    · subst e
      rw [va_up_self]; exact hc
    · rw [va_up_ne _ _ e]
      exact (hH.2.2.2.1 j (by omega)).kept (oq _ (by show x_B G + j < _; omega))
  · by_cases e : q = x_B G + n
    · subst e; exact x_at_vm hc h2
    · have hlt : q < H1.size := (Array.getElem?_eq_some_iff.mp h2).1
      rw [oq q (by omega)] at h2; exact hH.2.2.2.2 q cell h1 h2
theorem x_S.put {G : x_G} {H0 H H1 : Heap} {locs : List Loc} {k i : Nat} (hS : va_S (x_A G) H0 H locs) (z : H1.size = H.size) (oq : ∀ q : Nat, q ≠ x_B G + k → H1[q]? = H[q]?) : va_S (x_A G) H0 H1 (locs ++ [⟨x_B G + k, i⟩]) := by
  refine ⟨by rw [z]; exact hS.1, fun q h1 h2 => ?_, fun q hq => ?_⟩
  · rw [oq q (fun e => h2 (by rw [e]; exact Nat.le_add_right _ _))]; exact hS.2.1 q h1 h2
  · rcases List.mem_append.mp hq with h | h
    · exact hS.2.2 q h
    · rw [List.mem_singleton.mp h]; exact Nat.le_add_right _ _
theorem x_S.new {G : x_G} {H0 H H1 : Heap} {locs : List Loc} (hS : va_S (x_A G) H0 H locs) (z : H.size ≤ H1.size) (oq : ∀ q : Nat, q < H.size → H1[q]? = H[q]?) : va_S (x_A G) H0 H1 locs :=
  ⟨Nat.le_trans hS.1 z, fun q h1 h2 => (oq q (Nat.lt_of_lt_of_le h1 hS.1)).trans (hS.2.1 q h1 h2), hS.2.2⟩
end
section
section XR
variable {G : x_G} {M : x_M} {rm : Room} {Qf : List Frame → Array Value → State → State → Prop} {ex : Bool} {n : Nat} {h : x_h} {cells slots : Nat} {lv : List (Nat × Value)} {st : List Value} {pc : Nat}
theorem x_iconst {i : Int} {v : Int32} (hd : decode M.2.1 pc = .ok (.iconst i, 1)) (hv : Int32.ofInt i = v) (k : x_W G M rm Qf ex n h cells slots lv (.int v :: st) (pc + 1)) : x_W G M rm Qf ex n h cells slots lv st pc :=
  fun p e s m args below meth c F H locs ls hH hS hl => lv_iconst F.1 F.2.1 hd hv (k p e s m args below meth c F H locs ls hH hS hl)
theorem x_bipush {i : Int} {v : Int32} (hd : decode M.2.1 pc = .ok (.bipush i, 2)) (hv : (Int8.ofInt i).toInt32 = v) (k : x_W G M rm Qf ex n h cells slots lv (.int v :: st) (pc + 2)) : x_W G M rm Qf ex n h cells slots lv st pc :=
  fun p e s m args below meth c F H locs ls hH hS hl => lv_bipush F.1 F.2.1 hd hv (k p e s m args below meth c F H locs ls hH hS hl)
theorem x_sipush {i : Int} {v : Int32} (hd : decode M.2.1 pc = .ok (.sipush i, 3)) (hv : (Int16.ofInt i).toInt32 = v) (k : x_W G M rm Qf ex n h cells slots lv (.int v :: st) (pc + 3)) : x_W G M rm Qf ex n h cells slots lv st pc :=
  fun p e s m args below meth c F H locs ls hH hS hl => lv_sipush F.1 F.2.1 hd hv (k p e s m args below meth c F H locs ls hH hS hl)
theorem x_lconst {i : Fin 2} {v : Int64} (hd : decode M.2.1 pc = .ok (.lconst i, 1)) (hv : Int64.ofNat (i : Nat) = v) (k : x_W G M rm Qf ex n h cells slots lv (.long v :: st) (pc + 1)) : x_W G M rm Qf ex n h cells slots lv st pc :=
  fun p e s m args below meth c F H locs ls hH hS hl => lv_lconst F.1 F.2.1 hd hv (k p e s m args below meth c F H locs ls hH hS hl)
theorem x_iload_n {q : Fin 4} {i : Nat} {x : Int32} (hd : decode M.2.1 pc = .ok (.iload_n q, 1)) (hi : (q : Nat) = i) (hx : lv.find? (fun q => q.1 == i) = some (i, .int x)) (k : x_W G M rm Qf ex n h cells slots lv (.int x :: st) (pc + 1)) : x_W G M rm Qf ex n h cells slots lv st pc :=
  fun p e s m args below meth c F H locs ls hH hS hl => lv_iload_n F.1 F.2.1 hd hi (x_lv_at hl hx) (k p e s m args below meth c F H locs ls hH hS hl)
theorem x_iload {i : Nat} {x : Int32} (hd : decode M.2.1 pc = .ok (.iload i, 2)) (hx : lv.find? (fun q => q.1 == i) = some (i, .int x)) (k : x_W G M rm Qf ex n h cells slots lv (.int x :: st) (pc + 2)) : x_W G M rm Qf ex n h cells slots lv st pc :=
  fun p e s m args below meth c F H locs ls hH hS hl => lv_iload F.1 F.2.1 hd (x_lv_at hl hx) (k p e s m args below meth c F H locs ls hH hS hl)
theorem x_lload_n {q : Fin 4} {i : Nat} {x : Int64} (hd : decode M.2.1 pc = .ok (.lload_n q, 1)) (hi : (q : Nat) = i) (hx : lv.find? (fun q => q.1 == i) = some (i, .long x)) (k : x_W G M rm Qf ex n h cells slots lv (.long x :: st) (pc + 1)) : x_W G M rm Qf ex n h cells slots lv st pc :=
  fun p e s m args below meth c F H locs ls hH hS hl => lv_lload_n F.1 F.2.1 hd hi (x_lv_at hl hx) (k p e s m args below meth c F H locs ls hH hS hl)
theorem x_lload {i : Nat} {x : Int64} (hd : decode M.2.1 pc = .ok (.lload i, 2)) (hx : lv.find? (fun q => q.1 == i) = some (i, .long x)) (k : x_W G M rm Qf ex n h cells slots lv (.long x :: st) (pc + 2)) : x_W G M rm Qf ex n h cells slots lv st pc :=
  fun p e s m args below meth c F H locs ls hH hS hl => lv_lload F.1 F.2.1 hd (x_lv_at hl hx) (k p e s m args below meth c F H locs ls hH hS hl)
theorem x_aload_n {q : Fin 4} {i : Nat} {x : Nat} (hd : decode M.2.1 pc = .ok (.aload_n q, 1)) (hi : (q : Nat) = i) (hx : lv.find? (fun q => q.1 == i) = some (i, .ref x)) (k : x_W G M rm Qf ex n h cells slots lv (.ref x :: st) (pc + 1)) : x_W G M rm Qf ex n h cells slots lv st pc :=
  fun p e s m args below meth c F H locs ls hH hS hl => lv_aload_n F.1 F.2.1 hd hi (x_lv_at hl hx) (k p e s m args below meth c F H locs ls hH hS hl)
theorem x_aload {i : Nat} {x : Nat} (hd : decode M.2.1 pc = .ok (.aload i, 2)) (hx : lv.find? (fun q => q.1 == i) = some (i, .ref x)) (k : x_W G M rm Qf ex n h cells slots lv (.ref x :: st) (pc + 2)) : x_W G M rm Qf ex n h cells slots lv st pc :=
  fun p e s m args below meth c F H locs ls hH hS hl => lv_aload F.1 F.2.1 hd (x_lv_at hl hx) (k p e s m args below meth c F H locs ls hH hS hl)
theorem x_istore_n {q : Fin 4} {i : Nat} {x : Int32} {lv2 : List (Nat × Value)} (hd : decode M.2.1 pc = .ok (.istore_n q, 1)) (hi : (q : Nat) = i) (hn : i < M.2.2.1) (hq : x_put lv i (.int x) = lv2) (k : x_W G M rm Qf ex n h cells slots lv2 st (pc + 1)) : x_W G M rm Qf ex n h cells slots lv (.int x :: st) pc :=
  fun p e s m args below meth c F H locs ls hH hS hl => lv_istore_n F.1 F.2.1 hd hi hl hn rfl (fun ls hl => k p e s m args below meth c F H locs ls hH hS (x_put_has hl hq rfl))
theorem x_istore {i : Nat} {x : Int32} {lv2 : List (Nat × Value)} (hd : decode M.2.1 pc = .ok (.istore i, 2)) (hn : i < M.2.2.1) (hq : x_put lv i (.int x) = lv2) (k : x_W G M rm Qf ex n h cells slots lv2 st (pc + 2)) : x_W G M rm Qf ex n h cells slots lv (.int x :: st) pc :=
  fun p e s m args below meth c F H locs ls hH hS hl => lv_istore F.1 F.2.1 hd hl hn rfl (fun ls hl => k p e s m args below meth c F H locs ls hH hS (x_put_has hl hq rfl))
theorem x_astore_n {q : Fin 4} {i : Nat} {x : Nat} {lv2 : List (Nat × Value)} (hd : decode M.2.1 pc = .ok (.astore_n q, 1)) (hi : (q : Nat) = i) (hn : i < M.2.2.1) (hq : x_put lv i (.ref x) = lv2) (k : x_W G M rm Qf ex n h cells slots lv2 st (pc + 1)) : x_W G M rm Qf ex n h cells slots lv (.ref x :: st) pc :=
  fun p e s m args below meth c F H locs ls hH hS hl => lv_astore_n F.1 F.2.1 hd hi hl hn rfl (fun ls hl => k p e s m args below meth c F H locs ls hH hS (x_put_has hl hq rfl))
theorem x_astore {i : Nat} {x : Nat} {lv2 : List (Nat × Value)} (hd : decode M.2.1 pc = .ok (.astore i, 2)) (hn : i < M.2.2.1) (hq : x_put lv i (.ref x) = lv2) (k : x_W G M rm Qf ex n h cells slots lv2 st (pc + 2)) : x_W G M rm Qf ex n h cells slots lv (.ref x :: st) pc :=
  fun p e s m args below meth c F H locs ls hH hS hl => lv_astore F.1 F.2.1 hd hl hn rfl (fun ls hl => k p e s m args below meth c F H locs ls hH hS (x_put_has hl hq rfl))
theorem x_lstore_n {q : Fin 4} {i : Nat} {x : Int64} {lv2 : List (Nat × Value)} (hd : decode M.2.1 pc = .ok (.lstore_n q, 1)) (hi : (q : Nat) = i) (hn : i + 1 < M.2.2.1) (hq : x_putL lv i (.long x) = lv2) (k : x_W G M rm Qf ex n h cells slots lv2 st (pc + 1)) : x_W G M rm Qf ex n h cells slots lv (.long x :: st) pc :=
  fun p e s m args below meth c F H locs ls hH hS hl => lv_lstore_n F.1 F.2.1 hd hi hl hn rfl (fun ls hl => k p e s m args below meth c F H locs ls hH hS (x_putL_has hl hq rfl))
theorem x_lstore {i : Nat} {x : Int64} {lv2 : List (Nat × Value)} (hd : decode M.2.1 pc = .ok (.lstore i, 2)) (hn : i + 1 < M.2.2.1) (hq : x_putL lv i (.long x) = lv2) (k : x_W G M rm Qf ex n h cells slots lv2 st (pc + 2)) : x_W G M rm Qf ex n h cells slots lv (.long x :: st) pc :=
  fun p e s m args below meth c F H locs ls hH hS hl => lv_lstore F.1 F.2.1 hd hl hn rfl (fun ls hl => k p e s m args below meth c F H locs ls hH hS (x_putL_has hl hq rfl))
theorem x_iadd {x y : Int32} (hd : decode M.2.1 pc = .ok (.iadd, 1)) (k : x_W G M rm Qf ex n h cells slots lv (.int (x + y) :: st) (pc + 1)) : x_W G M rm Qf ex n h cells slots lv (.int y :: .int x :: st) pc :=
  fun p e s m args below meth c F H locs ls hH hS hl => lv_iadd F.1 F.2.1 hd (k p e s m args below meth c F H locs ls hH hS hl)
theorem x_isub {x y : Int32} (hd : decode M.2.1 pc = .ok (.isub, 1)) (k : x_W G M rm Qf ex n h cells slots lv (.int (x - y) :: st) (pc + 1)) : x_W G M rm Qf ex n h cells slots lv (.int y :: .int x :: st) pc :=
  fun p e s m args below meth c F H locs ls hH hS hl => lv_isub F.1 F.2.1 hd (k p e s m args below meth c F H locs ls hH hS hl)
theorem x_imul {x y : Int32} (hd : decode M.2.1 pc = .ok (.imul, 1)) (k : x_W G M rm Qf ex n h cells slots lv (.int (x * y) :: st) (pc + 1)) : x_W G M rm Qf ex n h cells slots lv (.int y :: .int x :: st) pc :=
  fun p e s m args below meth c F H locs ls hH hS hl => lv_imul F.1 F.2.1 hd (k p e s m args below meth c F H locs ls hH hS hl)
theorem x_iand {x y : Int32} (hd : decode M.2.1 pc = .ok (.iand, 1)) (k : x_W G M rm Qf ex n h cells slots lv (.int (x &&& y) :: st) (pc + 1)) : x_W G M rm Qf ex n h cells slots lv (.int y :: .int x :: st) pc :=
  fun p e s m args below meth c F H locs ls hH hS hl => lv_iand F.1 F.2.1 hd (k p e s m args below meth c F H locs ls hH hS hl)
theorem x_ior {x y : Int32} (hd : decode M.2.1 pc = .ok (.ior, 1)) (k : x_W G M rm Qf ex n h cells slots lv (.int (x ||| y) :: st) (pc + 1)) : x_W G M rm Qf ex n h cells slots lv (.int y :: .int x :: st) pc :=
  fun p e s m args below meth c F H locs ls hH hS hl => lv_ior F.1 F.2.1 hd (k p e s m args below meth c F H locs ls hH hS hl)
theorem x_ixor {x y : Int32} (hd : decode M.2.1 pc = .ok (.ixor, 1)) (k : x_W G M rm Qf ex n h cells slots lv (.int (x ^^^ y) :: st) (pc + 1)) : x_W G M rm Qf ex n h cells slots lv (.int y :: .int x :: st) pc :=
  fun p e s m args below meth c F H locs ls hH hS hl => lv_ixor F.1 F.2.1 hd (k p e s m args below meth c F H locs ls hH hS hl)
theorem x_ishl {x y : Int32} (hd : decode M.2.1 pc = .ok (.ishl, 1)) (k : x_W G M rm Qf ex n h cells slots lv (.int (x <<< (y &&& 31)) :: st) (pc + 1)) : x_W G M rm Qf ex n h cells slots lv (.int y :: .int x :: st) pc :=
  fun p e s m args below meth c F H locs ls hH hS hl => lv_ishl F.1 F.2.1 hd (k p e s m args below meth c F H locs ls hH hS hl)
theorem x_ishr {x y : Int32} (hd : decode M.2.1 pc = .ok (.ishr, 1)) (k : x_W G M rm Qf ex n h cells slots lv (.int (x >>> (y &&& 31)) :: st) (pc + 1)) : x_W G M rm Qf ex n h cells slots lv (.int y :: .int x :: st) pc :=
  fun p e s m args below meth c F H locs ls hH hS hl => lv_ishr F.1 F.2.1 hd (k p e s m args below meth c F H locs ls hH hS hl)
theorem x_idiv {x y : Int32} (hd : decode M.2.1 pc = .ok (.idiv, 1)) (hne : ¬ y = 0) (k : x_W G M rm Qf ex n h cells slots lv (.int (x / y) :: st) (pc + 1)) : x_W G M rm Qf ex n h cells slots lv (.int y :: .int x :: st) pc :=
  fun p e s m args below meth c F H locs ls hH hS hl => lv_idiv F.1 F.2.1 hd hne (k p e s m args below meth c F H locs ls hH hS hl)
theorem x_irem {x y : Int32} (hd : decode M.2.1 pc = .ok (.irem, 1)) (hne : ¬ y = 0) (k : x_W G M rm Qf ex n h cells slots lv (.int (x - x / y * y) :: st) (pc + 1)) : x_W G M rm Qf ex n h cells slots lv (.int y :: .int x :: st) pc :=
  fun p e s m args below meth c F H locs ls hH hS hl => lv_irem F.1 F.2.1 hd hne (k p e s m args below meth c F H locs ls hH hS hl)
theorem x_ladd {x y : Int64} (hd : decode M.2.1 pc = .ok (.ladd, 1)) (k : x_W G M rm Qf ex n h cells slots lv (.long (x + y) :: st) (pc + 1)) : x_W G M rm Qf ex n h cells slots lv (.long y :: .long x :: st) pc :=
  fun p e s m args below meth c F H locs ls hH hS hl => lv_ladd F.1 F.2.1 hd (k p e s m args below meth c F H locs ls hH hS hl)
theorem x_lsub {x y : Int64} (hd : decode M.2.1 pc = .ok (.lsub, 1)) (k : x_W G M rm Qf ex n h cells slots lv (.long (x - y) :: st) (pc + 1)) : x_W G M rm Qf ex n h cells slots lv (.long y :: .long x :: st) pc :=
  fun p e s m args below meth c F H locs ls hH hS hl => lv_lsub F.1 F.2.1 hd (k p e s m args below meth c F H locs ls hH hS hl)
theorem x_lmul {x y : Int64} (hd : decode M.2.1 pc = .ok (.lmul, 1)) (k : x_W G M rm Qf ex n h cells slots lv (.long (x * y) :: st) (pc + 1)) : x_W G M rm Qf ex n h cells slots lv (.long y :: .long x :: st) pc :=
  fun p e s m args below meth c F H locs ls hH hS hl => lv_lmul F.1 F.2.1 hd (k p e s m args below meth c F H locs ls hH hS hl)
theorem x_land {x y : Int64} (hd : decode M.2.1 pc = .ok (.land, 1)) (k : x_W G M rm Qf ex n h cells slots lv (.long (x &&& y) :: st) (pc + 1)) : x_W G M rm Qf ex n h cells slots lv (.long y :: .long x :: st) pc :=
  fun p e s m args below meth c F H locs ls hH hS hl => lv_land F.1 F.2.1 hd (k p e s m args below meth c F H locs ls hH hS hl)
theorem x_lor {x y : Int64} (hd : decode M.2.1 pc = .ok (.lor, 1)) (k : x_W G M rm Qf ex n h cells slots lv (.long (x ||| y) :: st) (pc + 1)) : x_W G M rm Qf ex n h cells slots lv (.long y :: .long x :: st) pc :=
  fun p e s m args below meth c F H locs ls hH hS hl => lv_lor F.1 F.2.1 hd (k p e s m args below meth c F H locs ls hH hS hl)
theorem x_lxor {x y : Int64} (hd : decode M.2.1 pc = .ok (.lxor, 1)) (k : x_W G M rm Qf ex n h cells slots lv (.long (x ^^^ y) :: st) (pc + 1)) : x_W G M rm Qf ex n h cells slots lv (.long y :: .long x :: st) pc :=
  fun p e s m args below meth c F H locs ls hH hS hl => lv_lxor F.1 F.2.1 hd (k p e s m args below meth c F H locs ls hH hS hl)
theorem x_ineg {x : Int32} (hd : decode M.2.1 pc = .ok (.ineg, 1)) (k : x_W G M rm Qf ex n h cells slots lv (.int (-x) :: st) (pc + 1)) : x_W G M rm Qf ex n h cells slots lv (.int x :: st) pc :=
  fun p e s m args below meth c F H locs ls hH hS hl => lv_ineg F.1 F.2.1 hd (k p e s m args below meth c F H locs ls hH hS hl)
theorem x_lneg {x : Int64} (hd : decode M.2.1 pc = .ok (.lneg, 1)) (k : x_W G M rm Qf ex n h cells slots lv (.long (-x) :: st) (pc + 1)) : x_W G M rm Qf ex n h cells slots lv (.long x :: st) pc :=
  fun p e s m args below meth c F H locs ls hH hS hl => lv_lneg F.1 F.2.1 hd (k p e s m args below meth c F H locs ls hH hS hl)
theorem x_lcmp {x y : Int64} (hd : decode M.2.1 pc = .ok (.lcmp, 1)) (k : x_W G M rm Qf ex n h cells slots lv (.int (lg_cmp x y) :: st) (pc + 1)) : x_W G M rm Qf ex n h cells slots lv (.long y :: .long x :: st) pc :=
  fun p e s m args below meth c F H locs ls hH hS hl => W.lcmp F.1 F.2.1 hd (k p e s m args below meth c F H locs ls hH hS hl)
theorem x_i2l {x : Int32} (hd : decode M.2.1 pc = .ok (.i2l, 1)) (k : x_W G M rm Qf ex n h cells slots lv (.long (x.toInt64) :: st) (pc + 1)) : x_W G M rm Qf ex n h cells slots lv (.int x :: st) pc :=
  fun p e s m args below meth c F H locs ls hH hS hl => lv_i2l F.1 F.2.1 hd rfl (k p e s m args below meth c F H locs ls hH hS hl)
theorem x_i2b {x : Int32} (hd : decode M.2.1 pc = .ok (.i2b, 1)) (k : x_W G M rm Qf ex n h cells slots lv (.int (x.toInt8.toInt32) :: st) (pc + 1)) : x_W G M rm Qf ex n h cells slots lv (.int x :: st) pc :=
  fun p e s m args below meth c F H locs ls hH hS hl => lv_i2b F.1 F.2.1 hd rfl (k p e s m args below meth c F H locs ls hH hS hl)
theorem x_i2s {x : Int32} (hd : decode M.2.1 pc = .ok (.i2s, 1)) (k : x_W G M rm Qf ex n h cells slots lv (.int (x.toInt16.toInt32) :: st) (pc + 1)) : x_W G M rm Qf ex n h cells slots lv (.int x :: st) pc :=
  fun p e s m args below meth c F H locs ls hH hS hl => lv_i2s F.1 F.2.1 hd rfl (k p e s m args below meth c F H locs ls hH hS hl)
theorem x_i2c {x : Int32} (hd : decode M.2.1 pc = .ok (.i2c, 1)) (k : x_W G M rm Qf ex n h cells slots lv (.int ((x.toUInt32 % 65536).toInt32) :: st) (pc + 1)) : x_W G M rm Qf ex n h cells slots lv (.int x :: st) pc :=
  fun p e s m args below meth c F H locs ls hH hS hl => lv_i2c F.1 F.2.1 hd rfl (k p e s m args below meth c F H locs ls hH hS hl)
theorem x_l2i {x : Int64} (hd : decode M.2.1 pc = .ok (.l2i, 1)) (k : x_W G M rm Qf ex n h cells slots lv (.int x.toInt32 :: st) (pc + 1)) : x_W G M rm Qf ex n h cells slots lv (.long x :: st) pc :=
  fun p e s m args below meth c F H locs ls hH hS hl => lv_l2i F.1 F.2.1 hd rfl (k p e s m args below meth c F H locs ls hH hS hl)
theorem x_iushr {x y : Int32} (hd : decode M.2.1 pc = .ok (.iushr, 1)) (k : x_W G M rm Qf ex n h cells slots lv (.int ((x.toUInt32 >>> (y.toUInt32 &&& Int32.toUInt32 31)).toInt32) :: st) (pc + 1)) : x_W G M rm Qf ex n h cells slots lv (.int y :: .int x :: st) pc :=
  fun p e s m args below meth c F H locs ls hH hS hl => lv_iushr F.1 F.2.1 hd rfl (k p e s m args below meth c F H locs ls hH hS hl)
theorem x_lushr {x : Int64} {y : Int32} (hd : decode M.2.1 pc = .ok (.lushr, 1)) (k : x_W G M rm Qf ex n h cells slots lv (.long ((x.toUInt64 >>> (y.toInt64.toUInt64 &&& Int64.toUInt64 63)).toInt64) :: st) (pc + 1)) : x_W G M rm Qf ex n h cells slots lv (.int y :: .long x :: st) pc :=
  fun p e s m args below meth c F H locs ls hH hS hl => lv_lushr F.1 F.2.1 hd rfl (k p e s m args below meth c F H locs ls hH hS hl)
theorem x_lshl {x : Int64} {y : Int32} (hd : decode M.2.1 pc = .ok (.lshl, 1)) (k : x_W G M rm Qf ex n h cells slots lv (.long (x <<< (y.toInt64 &&& 63)) :: st) (pc + 1)) : x_W G M rm Qf ex n h cells slots lv (.int y :: .long x :: st) pc :=
  fun p e s m args below meth c F H locs ls hH hS hl => lv_lshl F.1 F.2.1 hd rfl (k p e s m args below meth c F H locs ls hH hS hl)
theorem x_lshr {x : Int64} {y : Int32} (hd : decode M.2.1 pc = .ok (.lshr, 1)) (k : x_W G M rm Qf ex n h cells slots lv (.long (x >>> (y.toInt64 &&& 63)) :: st) (pc + 1)) : x_W G M rm Qf ex n h cells slots lv (.int y :: .long x :: st) pc :=
  fun p e s m args below meth c F H locs ls hH hS hl => lv_lshr F.1 F.2.1 hd rfl (k p e s m args below meth c F H locs ls hH hS hl)
theorem x_dup {va : Value} (hd : decode M.2.1 pc = .ok (.dup, 1)) (h1 : va.category = 1) (k : x_W G M rm Qf ex n h cells slots lv (va :: va :: st) (pc + 1)) : x_W G M rm Qf ex n h cells slots lv (va :: st) pc :=
  fun p e s m args below meth c F H locs ls hH hS hl => lv_dup F.1 F.2.1 hd (x_cat.trans h1) (k p e s m args below meth c F H locs ls hH hS hl)
theorem x_pop {va : Value} (hd : decode M.2.1 pc = .ok (.pop, 1)) (h1 : va.category = 1) (k : x_W G M rm Qf ex n h cells slots lv st (pc + 1)) : x_W G M rm Qf ex n h cells slots lv (va :: st) pc :=
  fun p e s m args below meth c F H locs ls hH hS hl => lv_pop F.1 F.2.1 hd (x_cat.trans h1) (k p e s m args below meth c F H locs ls hH hS hl)
theorem x_dup_x1 {va vb : Value} (hd : decode M.2.1 pc = .ok (.dup_x1, 1)) (h1 : va.category = 1) (h2 : vb.category = 1) (k : x_W G M rm Qf ex n h cells slots lv (va :: vb :: va :: st) (pc + 1)) : x_W G M rm Qf ex n h cells slots lv (va :: vb :: st) pc :=
  fun p e s m args below meth c F H locs ls hH hS hl => lv_dup_x1 F.1 F.2.1 hd (x_cat.trans h1) (x_cat.trans h2) (k p e s m args below meth c F H locs ls hH hS hl)
theorem x_dup2 {va vb : Value} (hd : decode M.2.1 pc = .ok (.dup2, 1)) (h1 : va.category = 1) (h2 : vb.category = 1) (k : x_W G M rm Qf ex n h cells slots lv (va :: vb :: va :: vb :: st) (pc + 1)) : x_W G M rm Qf ex n h cells slots lv (va :: vb :: st) pc :=
  fun p e s m args below meth c F H locs ls hH hS hl => lv_dup2_11 F.1 F.2.1 hd (x_cat.trans h1) (x_cat.trans h2) (k p e s m args below meth c F H locs ls hH hS hl)
theorem x_dup_x2 {va vb vd : Value} (hd : decode M.2.1 pc = .ok (.dup_x2, 1)) (h1 : va.category = 1) (h2 : vb.category = 1) (h3 : vd.category = 1) (k : x_W G M rm Qf ex n h cells slots lv (va :: vb :: vd :: va :: st) (pc + 1)) : x_W G M rm Qf ex n h cells slots lv (va :: vb :: vd :: st) pc :=
  fun p e s m args below meth c F H locs ls hH hS hl => lv_dup_x2 F.1 F.2.1 hd (x_cat.trans h1) (x_cat.trans h2) (x_cat.trans h3) (k p e s m args below meth c F H locs ls hH hS hl)
theorem x_goto {off : Int} {tgt : Nat} (hd : decode M.2.1 pc = .ok (.goto off, 3)) (ht : (pc : Int) + off = (tgt : Int)) (k : x_W G M rm Qf ex n h cells slots lv st tgt) : x_W G M rm Qf ex n h cells slots lv st pc :=
  fun p e s m args below meth c F H locs ls hH hS hl => lv_goto F.1 F.2.1 hd ht (k p e s m args below meth c F H locs ls hH hS hl)
theorem x_if_eq {x : Int32} {off : Int} {tgt : Nat} (hd : decode M.2.1 pc = .ok (.ifCond .eq off, 3)) (ht : (pc : Int) + off = (tgt : Int)) (kt : x = 0 → x_W G M rm Qf ex n h cells slots lv st tgt) (kf : ¬ x = 0 → x_W G M rm Qf ex n h cells slots lv st (pc + 3)) : x_W G M rm Qf ex n h cells slots lv (.int x :: st) pc :=
  fun p e s m args below meth c F H locs ls hH hS hl => lv_if_eq F.1 F.2.1 hd ht (fun z => kt z p e s m args below meth c F H locs ls hH hS hl) (fun z => kf z p e s m args below meth c F H locs ls hH hS hl)
theorem x_icmp_eq {x y : Int32} {off : Int} {tgt : Nat} (hd : decode M.2.1 pc = .ok (.if_icmp .eq off, 3)) (ht : (pc : Int) + off = (tgt : Int)) (kt : x = y → x_W G M rm Qf ex n h cells slots lv st tgt) (kf : ¬ x = y → x_W G M rm Qf ex n h cells slots lv st (pc + 3)) : x_W G M rm Qf ex n h cells slots lv (.int y :: .int x :: st) pc :=
  fun p e s m args below meth c F H locs ls hH hS hl => lv_icmp_eq F.1 F.2.1 hd ht (fun z => kt z p e s m args below meth c F H locs ls hH hS hl) (fun z => kf z p e s m args below meth c F H locs ls hH hS hl)
theorem x_if_ne {x : Int32} {off : Int} {tgt : Nat} (hd : decode M.2.1 pc = .ok (.ifCond .ne off, 3)) (ht : (pc : Int) + off = (tgt : Int)) (kt : ¬ x = 0 → x_W G M rm Qf ex n h cells slots lv st tgt) (kf : x = 0 → x_W G M rm Qf ex n h cells slots lv st (pc + 3)) : x_W G M rm Qf ex n h cells slots lv (.int x :: st) pc :=
  fun p e s m args below meth c F H locs ls hH hS hl => lv_if_ne F.1 F.2.1 hd ht (fun z => kt z p e s m args below meth c F H locs ls hH hS hl) (fun z => kf z p e s m args below meth c F H locs ls hH hS hl)
theorem x_icmp_ne {x y : Int32} {off : Int} {tgt : Nat} (hd : decode M.2.1 pc = .ok (.if_icmp .ne off, 3)) (ht : (pc : Int) + off = (tgt : Int)) (kt : ¬ x = y → x_W G M rm Qf ex n h cells slots lv st tgt) (kf : x = y → x_W G M rm Qf ex n h cells slots lv st (pc + 3)) : x_W G M rm Qf ex n h cells slots lv (.int y :: .int x :: st) pc :=
  fun p e s m args below meth c F H locs ls hH hS hl => lv_icmp_ne F.1 F.2.1 hd ht (fun z => kt z p e s m args below meth c F H locs ls hH hS hl) (fun z => kf z p e s m args below meth c F H locs ls hH hS hl)
theorem x_if_lt {x : Int32} {off : Int} {tgt : Nat} (hd : decode M.2.1 pc = .ok (.ifCond .lt off, 3)) (ht : (pc : Int) + off = (tgt : Int)) (kt : x < 0 → x_W G M rm Qf ex n h cells slots lv st tgt) (kf : ¬ x < 0 → x_W G M rm Qf ex n h cells slots lv st (pc + 3)) : x_W G M rm Qf ex n h cells slots lv (.int x :: st) pc :=
  fun p e s m args below meth c F H locs ls hH hS hl => lv_if_lt F.1 F.2.1 hd ht (fun z => kt z p e s m args below meth c F H locs ls hH hS hl) (fun z => kf z p e s m args below meth c F H locs ls hH hS hl)
theorem x_icmp_lt {x y : Int32} {off : Int} {tgt : Nat} (hd : decode M.2.1 pc = .ok (.if_icmp .lt off, 3)) (ht : (pc : Int) + off = (tgt : Int)) (kt : x < y → x_W G M rm Qf ex n h cells slots lv st tgt) (kf : ¬ x < y → x_W G M rm Qf ex n h cells slots lv st (pc + 3)) : x_W G M rm Qf ex n h cells slots lv (.int y :: .int x :: st) pc :=
  fun p e s m args below meth c F H locs ls hH hS hl => lv_icmp_lt F.1 F.2.1 hd ht (fun z => kt z p e s m args below meth c F H locs ls hH hS hl) (fun z => kf z p e s m args below meth c F H locs ls hH hS hl)
theorem x_if_ge {x : Int32} {off : Int} {tgt : Nat} (hd : decode M.2.1 pc = .ok (.ifCond .ge off, 3)) (ht : (pc : Int) + off = (tgt : Int)) (kt : 0 ≤ x → x_W G M rm Qf ex n h cells slots lv st tgt) (kf : ¬ 0 ≤ x → x_W G M rm Qf ex n h cells slots lv st (pc + 3)) : x_W G M rm Qf ex n h cells slots lv (.int x :: st) pc :=
  fun p e s m args below meth c F H locs ls hH hS hl => lv_if_ge F.1 F.2.1 hd ht (fun z => kt z p e s m args below meth c F H locs ls hH hS hl) (fun z => kf z p e s m args below meth c F H locs ls hH hS hl)
theorem x_icmp_ge {x y : Int32} {off : Int} {tgt : Nat} (hd : decode M.2.1 pc = .ok (.if_icmp .ge off, 3)) (ht : (pc : Int) + off = (tgt : Int)) (kt : y ≤ x → x_W G M rm Qf ex n h cells slots lv st tgt) (kf : ¬ y ≤ x → x_W G M rm Qf ex n h cells slots lv st (pc + 3)) : x_W G M rm Qf ex n h cells slots lv (.int y :: .int x :: st) pc :=
  fun p e s m args below meth c F H locs ls hH hS hl => lv_icmp_ge F.1 F.2.1 hd ht (fun z => kt z p e s m args below meth c F H locs ls hH hS hl) (fun z => kf z p e s m args below meth c F H locs ls hH hS hl)
theorem x_if_gt {x : Int32} {off : Int} {tgt : Nat} (hd : decode M.2.1 pc = .ok (.ifCond .gt off, 3)) (ht : (pc : Int) + off = (tgt : Int)) (kt : 0 < x → x_W G M rm Qf ex n h cells slots lv st tgt) (kf : ¬ 0 < x → x_W G M rm Qf ex n h cells slots lv st (pc + 3)) : x_W G M rm Qf ex n h cells slots lv (.int x :: st) pc :=
  fun p e s m args below meth c F H locs ls hH hS hl => lv_if_gt F.1 F.2.1 hd ht (fun z => kt z p e s m args below meth c F H locs ls hH hS hl) (fun z => kf z p e s m args below meth c F H locs ls hH hS hl)
theorem x_icmp_gt {x y : Int32} {off : Int} {tgt : Nat} (hd : decode M.2.1 pc = .ok (.if_icmp .gt off, 3)) (ht : (pc : Int) + off = (tgt : Int)) (kt : y < x → x_W G M rm Qf ex n h cells slots lv st tgt) (kf : ¬ y < x → x_W G M rm Qf ex n h cells slots lv st (pc + 3)) : x_W G M rm Qf ex n h cells slots lv (.int y :: .int x :: st) pc :=
  fun p e s m args below meth c F H locs ls hH hS hl => lv_icmp_gt F.1 F.2.1 hd ht (fun z => kt z p e s m args below meth c F H locs ls hH hS hl) (fun z => kf z p e s m args below meth c F H locs ls hH hS hl)
theorem x_if_le {x : Int32} {off : Int} {tgt : Nat} (hd : decode M.2.1 pc = .ok (.ifCond .le off, 3)) (ht : (pc : Int) + off = (tgt : Int)) (kt : x ≤ 0 → x_W G M rm Qf ex n h cells slots lv st tgt) (kf : ¬ x ≤ 0 → x_W G M rm Qf ex n h cells slots lv st (pc + 3)) : x_W G M rm Qf ex n h cells slots lv (.int x :: st) pc :=
  fun p e s m args below meth c F H locs ls hH hS hl => lv_if_le F.1 F.2.1 hd ht (fun z => kt z p e s m args below meth c F H locs ls hH hS hl) (fun z => kf z p e s m args below meth c F H locs ls hH hS hl)
theorem x_icmp_le {x y : Int32} {off : Int} {tgt : Nat} (hd : decode M.2.1 pc = .ok (.if_icmp .le off, 3)) (ht : (pc : Int) + off = (tgt : Int)) (kt : x ≤ y → x_W G M rm Qf ex n h cells slots lv st tgt) (kf : ¬ x ≤ y → x_W G M rm Qf ex n h cells slots lv st (pc + 3)) : x_W G M rm Qf ex n h cells slots lv (.int y :: .int x :: st) pc :=
  fun p e s m args below meth c F H locs ls hH hS hl => lv_icmp_le F.1 F.2.1 hd ht (fun z => kt z p e s m args below meth c F H locs ls hH hS hl) (fun z => kf z p e s m args below meth c F H locs ls hH hS hl)
theorem x_acmp_eq {a b : Nat} {off : Int} {tgt : Nat} (hd : decode M.2.1 pc = .ok (.if_acmp .eq off, 3)) (ht : (pc : Int) + off = (tgt : Int)) (hj : x_ad G a = x_ad G b → a = b) (kt : a = b → x_W G M rm Qf ex n h cells slots lv st tgt) (kf : ¬ a = b → x_W G M rm Qf ex n h cells slots lv st (pc + 3)) : x_W G M rm Qf ex n h cells slots lv (.ref b :: .ref a :: st) pc :=
  fun p e s m args below meth c F H locs ls hH hS hl => lv_acmp_eq (rx := some (x_ad G a)) (ry := some (x_ad G b)) F.1 F.2.1 hd ht (fun z => kt (hj (Option.some.inj z)) p e s m args below meth c F H locs ls hH hS hl) (fun z => kf (fun w => z (by rw [w])) p e s m args below meth c F H locs ls hH hS hl)
theorem x_acmp_ne {a b : Nat} {off : Int} {tgt : Nat} (hd : decode M.2.1 pc = .ok (.if_acmp .ne off, 3)) (ht : (pc : Int) + off = (tgt : Int)) (hj : x_ad G a = x_ad G b → a = b) (kt : ¬ a = b → x_W G M rm Qf ex n h cells slots lv st tgt) (kf : a = b → x_W G M rm Qf ex n h cells slots lv st (pc + 3)) : x_W G M rm Qf ex n h cells slots lv (.ref b :: .ref a :: st) pc :=
  fun p e s m args below meth c F H locs ls hH hS hl => lv_acmp_ne (rx := some (x_ad G a)) (ry := some (x_ad G b)) F.1 F.2.1 hd ht (fun z => kt (fun w => z (by rw [w])) p e s m args below meth c F H locs ls hH hS hl) (fun z => kf (hj (Option.some.inj z)) p e s m args below meth c F H locs ls hH hS hl)
theorem x_iinc {i : Nat} {z : Int} {x v : Int32} {lv2 : List (Nat × Value)} (hd : decode M.2.1 pc = .ok (.iinc i z, 3)) (hx : lv.find? (fun q => q.1 == i) = some (i, .int x)) (hv : x + Int32.ofInt z = v) (hn : i < M.2.2.1) (hq : x_put lv i (.int v) = lv2) (k : x_W G M rm Qf ex n h cells slots lv2 st (pc + 3)) : x_W G M rm Qf ex n h cells slots lv st pc :=
  fun p e s m args below meth c F H locs ls hH hS hl => by
  obtain ⟨j, hj⟩ := List.getElem?_of_mem (List.mem_map.mpr ⟨(i, Value.int x), List.mem_of_find?_eq_some hx, rfl⟩ : ((i, x_v G (.int x)) : Nat × Value) ∈ x_lv G lv)
  exact lv_iinc F.1 F.2.1 hd hl hj hv hn rfl (fun ls hl => k p e s m args below meth c F H locs ls hH hS (x_put_has hl hq rfl))
end XR
end
section
/-! the rows of fields, arrays, ends -/
def x_fl (M : x_M) (index ci k : Nat) (C : String) (T : u_T) (N : Nat) : Prop := (∀ w ∈ u_ws C T N, w ∈ x_tsl) ∧ vwCl[ci]? = some (C, T, N) ∧ k < N ∧ Cond.fieldLink M.1.cls index (T k).1 (T k).2.1 (T k).2.2.1 ∈ x_tsl
def x_tb (T : u_T) (N : Nat) (t0 : Nat → FieldType) : Prop := (∀ k, k < N → parseFieldDescriptor (T k).2.2.1 = some (t0 k)) ∧ ∀ a, a < N → ∀ b, b < N → a ≠ b → (T a).2.1 ≠ (T b).2.1
theorem x_nar {G : x_G} {ty : FieldType} {v : Value} (h : narrow ty v = v) : narrow ty (x_v G v) = x_v G v := by
  cases v <;> first | exact h | (cases ty <;> rfl)
theorem x_fit {G : x_G} {ty : FieldType} {v : Value} (h : fits ty v = true) : fits ty (x_v G v) = true := by
  cases v <;> first | exact h | (cases ty <;> first | rfl | exact h)
section XH
variable {G : x_G} {M : x_M} {rm : Room} {Qf : List Frame → Array Value → State → State → Prop} {ex : Bool} {n : Nat} {h : x_h} {cells slots : Nat} {lv : List (Nat × Value)} {st : List Value} {pc : Nat}
theorem x_getf {index ci k : Nat} {C : String} {T : u_T} {N : Nat} {fs : List Value} {v : Value} {a : Nat} (hd : decode M.2.1 pc = .ok (.getfield index, 3)) (hf : x_fl M index ci k C T N) (ha : a < n) (hc : h a = .inr (ci, fs)) (hv : fs[k]? = some v)
    (kk : x_W G M rm Qf ex n h cells slots lv (v :: st) (pc + 3)) : x_W G M rm Qf ex n h cells slots lv (.ref a :: st) pc := by
  intro p e s m args below meth c F H locs ls hH hS hl
  obtain ⟨f1, f2, f3, f4, f5, f6, f7, f8, hts, hK⟩ := id F
  show W p _ e rm s m args below meth c H locs cells slots _ (F0 m pc ls (.ref (x_ad G a) :: x_st G st))
  rw [x_ad_new (Nat.lt_of_lt_of_le ha hH.1)]
  exact va_get (D := x_D G) f1 f2 hts hf.1 f6 hK.1 (hH.at ha hc) 0 (fs := fs.map (x_v G)) rfl hf.2.1 k hf.2.2.1 (hts _ hf.2.2.2) (fun _ z => z) (v := x_v G v) (by rw [List.getElem?_map, hv]; rfl) hd (kk p e s m args below meth c F H locs ls hH hS hl)
theorem x_putf {index ci k : Nat} {C : String} {T : u_T} {N : Nat} {t0 : Nat → FieldType} {fs : List Value} {v : Value} {a : Nat} (hd : decode M.2.1 pc = .ok (.putfield index, 3)) (hf : x_fl M index ci k C T N) (hb : x_tb T N t0) (hfin : (T k).2.2.2 = false) (ha : a < n) (hc : h a = .inr (ci, fs)) (hlen : k < fs.length) (hn : narrow (t0 k) v = v) (hfit : fits (t0 k) v = true)
    (kk : x_W G M rm Qf ex n (va_up h a (.inr (ci, fs.set k v))) cells slots lv st (pc + 3)) : x_W G M rm Qf ex n h cells slots lv (v :: .ref a :: st) pc := by
  intro p e s m args below meth c F H locs ls hH hS hl
  obtain ⟨f1, f2, f3, f4, f5, f6, f7, f8, hts, hK⟩ := id F
  show W p _ e rm s m args below meth c H locs cells slots _ (F0 m pc ls (x_v G v :: .ref (x_ad G a) :: x_st G st))
  rw [x_ad_new (Nat.lt_of_lt_of_le ha hH.1)]
  have hap := va_apart (own := M.1.cls) hts hf.1 t0 hb.1 hb.2 hK.1 hf.2.1
  obtain ⟨r, h1, cell, q1, q2, q3, q4⟩ := (hH.at ha hc) 0 _ rfl
  have hr : r = (C, T, N) := Option.some.inj (h1.symm.trans hf.2.1)
  subst hr
  obtain ⟨hS1, hfc, kC, hkC, hkind⟩ := hK.1.1 ci _ hf.2.1
  obtain ⟨cf, kf, fi, f, hi, hsl⟩ := hS1 k hf.2.2.1
  have hlay := hts _ (hf.1 _ (u_in_lay hf.2.2.1))
  unfold u_lay at hlay
  rw [if_neg (by rw [hfin]; decide)] at hlay
  have hst := (u_facts hfc hkC (u_lays hts hf.1 hf.2.2.1) hi).1
  have h6 := u_store hfc hkC hkind hlay hi (hb.1 k hf.2.2.1) (x_nar (G := G) hn) (x_fit (G := G) hfit)
  refine W.putK f1 f2 (f := f) ⟨f6, hts _ hf.2.2.2, ⟨_, _, _, hi⟩, hst⟩ (by rw [q2]; exact h6) q1 q3 (by rw [hsl]; exact k2_hasslot (q4 k hf.2.2.1)) rfl rfl hd fun H' e1 e2 e3 => ?_
  rw [hsl] at e1 ⊢
  refine kk p e s m args below meth c F H' _ ls (hH.upd e2 e3 ?_) (x_S.put hS e2 e3) hl
  refine ⟨_, hf.2.1, t_OB.to (V := updV (vp_V (fs.map (x_v G))) k (x_v G v)) ⟨_, e1, q2, q3, t_set q4 hap hf.2.2.1 _⟩ (fun j _ => ?_)⟩
  rw [vp_updV_set (by rw [List.length_map]; exact hlen)]
  show vp_V ((fs.map (x_v G)).set k (x_v G v)) j = vp_V ((fs.set k v).map (x_v G)) j
  rw [List.map_set]
/-- a final field, in the class's own constructor -/
theorem x_putF {index ci k : Nat} {C : String} {T : u_T} {N : Nat} {t0 : Nat → FieldType} {fs : List Value} {v : Value} {a : Nat} (hd : decode M.2.1 pc = .ok (.putfield index, 3)) (hf : x_fl M index ci k C T N) (hb : x_tb T N t0) (hfin : (T k).2.2.2 = true) (hin : M.1.name = "<init>") (hdecl : (T k).1 = M.1.cls) (ha : a < n) (hc : h a = .inr (ci, fs)) (hlen : k < fs.length) (hn : narrow (t0 k) v = v) (hfit : fits (t0 k) v = true)
    (kk : x_W G M rm Qf ex n (va_up h a (.inr (ci, fs.set k v))) cells slots lv st (pc + 3)) : x_W G M rm Qf ex n h cells slots lv (v :: .ref a :: st) pc := by
  intro p e s m args below meth c F H locs ls hH hS hl
  obtain ⟨f1, f2, f3, f4, f5, f6, f7, f8, hts, hK⟩ := id F
  show W p _ e rm s m args below meth c H locs cells slots _ (F0 m pc ls (x_v G v :: .ref (x_ad G a) :: x_st G st))
  rw [x_ad_new (Nat.lt_of_lt_of_le ha hH.1)]
  have hap := va_apart (own := M.1.cls) hts hf.1 t0 hb.1 hb.2 hK.1 hf.2.1
  obtain ⟨r, h1, cell, q1, q2, q3, q4⟩ := (hH.at ha hc) 0 _ rfl
  have hr : r = (C, T, N) := Option.some.inj (h1.symm.trans hf.2.1)
  subst hr
  obtain ⟨hS1, hfc, kC, hkC, hkind⟩ := hK.1.1 ci _ hf.2.1
  obtain ⟨cf, kf, fi, f, hi, hsl⟩ := hS1 k hf.2.2.1
  have hlay := hts _ (hf.1 _ (u_in_lay hf.2.2.1))
  unfold u_lay at hlay
  rw [if_pos hfin] at hlay
  have hst := (u_facts hfc hkC (u_lays hts hf.1 hf.2.2.1) hi).1
  have hcf : m.cls = cf := by
    obtain ⟨_, _, c', _, _, _, -, -, hf', -, -, -, hown2, -⟩ := Cond.laysFinal_spec hlay
    have e1 : c' = cf := by have := hi.symm.trans hf'; simp at this; exact this.1.symm
    rw [hdecl] at hown2
    rw [← e1]; exact Option.some.inj (f6.symm.trans hown2)
  have h6 := u_fits hfc hkC hkind (Or.inr hlay) hi (hb.1 k hf.2.2.1) (x_nar (G := G) hn) (x_fit (G := G) hfit)
  refine W.putFinK f1 f2 f6 (hts _ hf.2.2.2) hi hst hcf (f8.trans hin) (by rw [q2]; exact h6) q1 q3 (by rw [hsl]; exact k2_hasslot (q4 k hf.2.2.1)) rfl rfl hd fun H' e1 e2 e3 => ?_
  rw [hsl] at e1 ⊢
  refine kk p e s m args below meth c F H' _ ls (hH.upd e2 e3 ?_) (x_S.put hS e2 e3) hl
  refine ⟨_, hf.2.1, t_OB.to (V := updV (vp_V (fs.map (x_v G))) k (x_v G v)) ⟨_, e1, q2, q3, t_set q4 hap hf.2.2.1 _⟩ (fun j _ => ?_)⟩
  rw [vp_updV_set (by rw [List.length_map]; exact hlen)]
  show vp_V ((fs.map (x_v G)).set k (x_v G v)) j = vp_V ((fs.set k v).map (x_v G)) j
  rw [List.map_set]
theorem x_iald {t len a : Nat} {f : Nat → Int32} {i : Int32} (hd : decode M.2.1 pc = .ok (.iaload, 1)) (ht : x_tl[t]? = some .int) (ha : a < n) (hc : h a = .inl (t, len, .inl f)) (hin : vp_in i len)
    (kk : x_W G M rm Qf ex n h cells slots lv (.int (f i.toNatClampNeg) :: st) (pc + 1)) : x_W G M rm Qf ex n h cells slots lv (.int i :: .ref a :: st) pc := by
  intro p e s m args below meth c F H locs ls hH hS hl
  have hK := F.2.2.2.2.2.2.2.2.2
  show W p _ e rm s m args below meth c H locs cells slots _ (F0 m pc ls (.int i :: .ref (x_ad G a) :: x_st G st))
  rw [x_ad_new (Nat.lt_of_lt_of_le ha hH.1)]
  exact va_iald F.1 F.2.1 hK.1 (hH.at ha hc) 0 t rfl (x_ty_at ht) hin hd (kk p e s m args below meth c F H locs ls hH hS hl)
theorem x_bald {t len a : Nat} {f : Nat → Int32} {i : Int32} (hd : decode M.2.1 pc = .ok (.baload, 1)) (ht : x_tl[t]? = some .byte) (ha : a < n) (hc : h a = .inl (t, len, .inl f)) (hin : vp_in i len)
    (kk : x_W G M rm Qf ex n h cells slots lv (.int (f i.toNatClampNeg) :: st) (pc + 1)) : x_W G M rm Qf ex n h cells slots lv (.int i :: .ref a :: st) pc := by
  intro p e s m args below meth c F H locs ls hH hS hl
  have hK := F.2.2.2.2.2.2.2.2.2
  show W p _ e rm s m args below meth c H locs cells slots _ (F0 m pc ls (.int i :: .ref (x_ad G a) :: x_st G st))
  rw [x_ad_new (Nat.lt_of_lt_of_le ha hH.1)]
  exact va_bald F.1 F.2.1 hK.1 (hH.at ha hc) 0 t rfl (x_ty_at ht) hin hd (kk p e s m args below meth c F H locs ls hH hS hl)
theorem x_zald {t len a : Nat} {f : Nat → Int32} {i : Int32} (hd : decode M.2.1 pc = .ok (.baload, 1)) (ht : x_tl[t]? = some .boolean) (ha : a < n) (hc : h a = .inl (t, len, .inl f)) (hin : vp_in i len)
    (kk : x_W G M rm Qf ex n h cells slots lv (.int (f i.toNatClampNeg) :: st) (pc + 1)) : x_W G M rm Qf ex n h cells slots lv (.int i :: .ref a :: st) pc := by
  intro p e s m args below meth c F H locs ls hH hS hl
  have hK := F.2.2.2.2.2.2.2.2.2
  show W p _ e rm s m args below meth c H locs cells slots _ (F0 m pc ls (.int i :: .ref (x_ad G a) :: x_st G st))
  rw [x_ad_new (Nat.lt_of_lt_of_le ha hH.1)]
  exact va_zald F.1 F.2.1 hK.1 (hH.at ha hc) 0 t rfl (x_ty_at ht) hin hd (kk p e s m args below meth c F H locs ls hH hS hl)
theorem x_lald {t len a : Nat} {f : Nat → Int64} {i : Int32} (hd : decode M.2.1 pc = .ok (.laload, 1)) (ht : x_tl[t]? = some .long) (ha : a < n) (hc : h a = .inl (t, len, .inr (.inl f))) (hin : vp_in i len)
    (kk : x_W G M rm Qf ex n h cells slots lv (.long (f i.toNatClampNeg) :: st) (pc + 1)) : x_W G M rm Qf ex n h cells slots lv (.int i :: .ref a :: st) pc := by
  intro p e s m args below meth c F H locs ls hH hS hl
  have hK := F.2.2.2.2.2.2.2.2.2
  show W p _ e rm s m args below meth c H locs cells slots _ (F0 m pc ls (.int i :: .ref (x_ad G a) :: x_st G st))
  rw [x_ad_new (Nat.lt_of_lt_of_le ha hH.1)]
  exact va_lald F.1 F.2.1 hK.1 (hH.at ha hc) 0 t rfl (x_ty_at ht) hin hd (kk p e s m args below meth c F H locs ls hH hS hl)
theorem x_iast {t len a : Nat} {f : Nat → Int32} {i : Int32} {x : Int32} (hd : decode M.2.1 pc = .ok (.iastore, 1)) (ht : x_tl[t]? = some .int) (ha : a < n) (hc : h a = .inl (t, len, .inl f)) (hin : vp_in i len)
    (kk : x_W G M rm Qf ex n (va_up h a (.inl (t, len, .inl (upd f i.toNatClampNeg x)))) cells slots lv st (pc + 1)) : x_W G M rm Qf ex n h cells slots lv (.int x :: .int i :: .ref a :: st) pc := by
  intro p e s m args below meth c F H locs ls hH hS hl
  have hK := F.2.2.2.2.2.2.2.2.2
  show W p _ e rm s m args below meth c H locs cells slots _ (F0 m pc ls (.int x :: .int i :: .ref (x_ad G a) :: x_st G st))
  rw [x_ad_new (Nat.lt_of_lt_of_le ha hH.1)]
  refine W.iast F.1 F.2.1 ((hH.at ha hc) 0 _ rfl) ((hK.1.2 t _ (x_ty_at ht)).1 len (fun j => .int (f j))) (fun q => by cases q) (by show ¬ (i < 0 ∨ (arrV _ _ _).slots.size ≤ _); rw [arrV_size]; exact hin) rfl rfl hd fun H1 e1 z oq => ?_
  refine kk p e s m args below meth c F H1 _ ls (hH.upd z oq ?_) (x_S.put hS z oq) hl
  show H1[x_B G + a]? = some (vp_cell _ (len, .inl (upd f i.toNatClampNeg x)))
  rw [e1]
  show some ((arrV _ _ _).setSlot _ _) = _
  rw [vp_cell_i, arrV_store]
  congr 2
  funext q
  by_cases hq : q = i.toNatClampNeg
  · subst hq
    simp [updV, upd, vp_nar]
    try rfl
  · simp [updV, upd, hq]
theorem x_bast {t len a : Nat} {f : Nat → Int32} {i : Int32} {x : Int32} (hd : decode M.2.1 pc = .ok (.bastore, 1)) (ht : x_tl[t]? = some .byte) (ha : a < n) (hc : h a = .inl (t, len, .inl f)) (hin : vp_in i len)
    (kk : x_W G M rm Qf ex n (va_up h a (.inl (t, len, .inl (upd f i.toNatClampNeg (vp_nar .byte x))))) cells slots lv st (pc + 1)) : x_W G M rm Qf ex n h cells slots lv (.int x :: .int i :: .ref a :: st) pc := by
  intro p e s m args below meth c F H locs ls hH hS hl
  have hK := F.2.2.2.2.2.2.2.2.2
  show W p _ e rm s m args below meth c H locs cells slots _ (F0 m pc ls (.int x :: .int i :: .ref (x_ad G a) :: x_st G st))
  rw [x_ad_new (Nat.lt_of_lt_of_le ha hH.1)]
  refine W.bast F.1 F.2.1 ((hH.at ha hc) 0 _ rfl) ((hK.1.2 t _ (x_ty_at ht)).1 len (fun j => .int (f j))) (fun q => by cases q) (by show ¬ (i < 0 ∨ (arrV _ _ _).slots.size ≤ _); rw [arrV_size]; exact hin) rfl rfl hd fun H1 e1 z oq => ?_
  refine kk p e s m args below meth c F H1 _ ls (hH.upd z oq ?_) (x_S.put hS z oq) hl
  show H1[x_B G + a]? = some (vp_cell _ (len, .inl (upd f i.toNatClampNeg (vp_nar .byte x))))
  rw [e1]
  show some ((arrV _ _ _).setSlot _ _) = _
  rw [vp_cell_i, arrV_store]
  congr 2
  funext q
  by_cases hq : q = i.toNatClampNeg
  · subst hq
    simp [updV, upd, vp_nar]
    try rfl
  · simp [updV, upd, hq]
theorem x_zast {t len a : Nat} {f : Nat → Int32} {i : Int32} {x : Int32} (hd : decode M.2.1 pc = .ok (.bastore, 1)) (ht : x_tl[t]? = some .boolean) (ha : a < n) (hc : h a = .inl (t, len, .inl f)) (hin : vp_in i len)
    (kk : x_W G M rm Qf ex n (va_up h a (.inl (t, len, .inl (upd f i.toNatClampNeg (vp_nar .boolean x))))) cells slots lv st (pc + 1)) : x_W G M rm Qf ex n h cells slots lv (.int x :: .int i :: .ref a :: st) pc := by
  intro p e s m args below meth c F H locs ls hH hS hl
  have hK := F.2.2.2.2.2.2.2.2.2
  show W p _ e rm s m args below meth c H locs cells slots _ (F0 m pc ls (.int x :: .int i :: .ref (x_ad G a) :: x_st G st))
  rw [x_ad_new (Nat.lt_of_lt_of_le ha hH.1)]
  refine W.zast F.1 F.2.1 ((hH.at ha hc) 0 _ rfl) ((hK.1.2 t _ (x_ty_at ht)).1 len (fun j => .int (f j))) (fun q => by cases q) (by show ¬ (i < 0 ∨ (arrV _ _ _).slots.size ≤ _); rw [arrV_size]; exact hin) rfl rfl hd fun H1 e1 z oq => ?_
  refine kk p e s m args below meth c F H1 _ ls (hH.upd z oq ?_) (x_S.put hS z oq) hl
  show H1[x_B G + a]? = some (vp_cell _ (len, .inl (upd f i.toNatClampNeg (vp_nar .boolean x))))
  rw [e1]
  show some ((arrV _ _ _).setSlot _ _) = _
  rw [vp_cell_i, arrV_store]
  congr 2
  funext q
  by_cases hq : q = i.toNatClampNeg
  · subst hq
    simp [updV, upd, vp_nar]
    try rfl
  · simp [updV, upd, hq]
theorem x_last {t len a : Nat} {f : Nat → Int64} {i : Int32} {x : Int64} (hd : decode M.2.1 pc = .ok (.lastore, 1)) (ht : x_tl[t]? = some .long) (ha : a < n) (hc : h a = .inl (t, len, .inr (.inl f))) (hin : vp_in i len)
    (kk : x_W G M rm Qf ex n (va_up h a (.inl (t, len, .inr (.inl (vp_updL f i.toNatClampNeg x))))) cells slots lv st (pc + 1)) : x_W G M rm Qf ex n h cells slots lv (.long x :: .int i :: .ref a :: st) pc := by
  intro p e s m args below meth c F H locs ls hH hS hl
  have hK := F.2.2.2.2.2.2.2.2.2
  show W p _ e rm s m args below meth c H locs cells slots _ (F0 m pc ls (.long x :: .int i :: .ref (x_ad G a) :: x_st G st))
  rw [x_ad_new (Nat.lt_of_lt_of_le ha hH.1)]
  refine W.last F.1 F.2.1 ((hH.at ha hc) 0 _ rfl) ((hK.1.2 t _ (x_ty_at ht)).1 len (fun j => .long (f j))) (fun q => by cases q) (by show ¬ (i < 0 ∨ (arrV _ _ _).slots.size ≤ _); rw [arrV_size]; exact hin) rfl rfl hd fun H1 e1 z oq => ?_
  refine kk p e s m args below meth c F H1 _ ls (hH.upd z oq ?_) (x_S.put hS z oq) hl
  show H1[x_B G + a]? = some (vp_cell _ (len, .inr (.inl (vp_updL f i.toNatClampNeg x))))
  rw [e1]
  show some ((arrV _ _ _).setSlot _ _) = _
  rw [vp_cell_l, arrV_store]
  congr 2
  funext q
  by_cases hq : q = i.toNatClampNeg
  · subst hq
    simp [updV, vp_updL, vp_nar]
    try rfl
  · simp [updV, vp_updL, hq]
theorem x_rf {G : x_G} (r : Option Nat) : x_v G (va_rf r) = va_rf (r.map (x_ad G)) := by cases r <;> rfl
theorem x_aald {t len a b : Nat} {C : String} {f : Nat → Option Nat} {i : Int32} (hd : decode M.2.1 pc = .ok (.aaload, 1)) (ht : x_tl[t]? = some (.object C)) (ha : a < n) (hc : h a = .inl (t, len, .inr (.inr (.inr (.inr f))))) (hin : vp_in i len) (hb : f i.toNatClampNeg = some b)
    (kk : x_W G M rm Qf ex n h cells slots lv (.ref b :: st) (pc + 1)) : x_W G M rm Qf ex n h cells slots lv (.int i :: .ref a :: st) pc := by
  intro p e s m args below meth c F H locs ls hH hS hl
  have hK := F.2.2.2.2.2.2.2.2.2
  show W p _ e rm s m args below meth c H locs cells slots _ (F0 m pc ls (.int i :: .ref (x_ad G a) :: x_st G st))
  rw [x_ad_new (Nat.lt_of_lt_of_le ha hH.1)]
  refine va_aldq F.1 F.2.1 hK.1 (hH.at ha hc) 0 t rfl (x_ty_at ht) hin hd ?_
  rw [hb]
  exact kk p e s m args below meth c F H locs ls hH hS hl
theorem x_aaldA {t len a b : Nat} {ty : FieldType} {f : Nat → Option Nat} {i : Int32} (hd : decode M.2.1 pc = .ok (.aaload, 1)) (ht : x_tl[t]? = some (.array ty)) (ha : a < n) (hc : h a = .inl (t, len, .inr (.inr (.inr (.inr f))))) (hin : vp_in i len) (hb : f i.toNatClampNeg = some b)
    (kk : x_W G M rm Qf ex n h cells slots lv (.ref b :: st) (pc + 1)) : x_W G M rm Qf ex n h cells slots lv (.int i :: .ref a :: st) pc := by
  intro p e s m args below meth c F H locs ls hH hS hl
  have hK := F.2.2.2.2.2.2.2.2.2
  show W p _ e rm s m args below meth c H locs cells slots _ (F0 m pc ls (.int i :: .ref (x_ad G a) :: x_st G st))
  rw [x_ad_new (Nat.lt_of_lt_of_le ha hH.1)]
  have hlt : i.toNatClampNeg < len := Nat.not_le.mp fun q => hin (Or.inr q)
  have e0 : (f i.toNatClampNeg).map (x_ad G) = some (x_ad G b) := by rw [hb]; rfl
  exact W.aald (v := .ref (x_ad G b)) (ty := .array ty) F.1 F.2.1 ((hH.at ha hc) 0 _ rfl) ((hK.1.2 t _ (x_ty_at ht)).1 len (fun j => va_rf ((f j).map (x_ad G)))) rfl (fun q => by cases q) (by show ¬ (i < 0 ∨ (arrV _ _ _).slots.size ≤ _); rw [arrV_size]; exact hin) (by show (arrV (x_c G t) len (fun j => va_rf ((f j).map (x_ad G)))).slots[i.toNatClampNeg]? = _; rw [arrV_read _ _ hlt, e0]; rfl) rfl rfl hd (kk p e s m args below meth c F H locs ls hH hS hl)
theorem x_alen {t a : Nat} {x : vp_A} {ty : FieldType} {v : Int32} (hd : decode M.2.1 pc = .ok (.arraylength, 1)) (ht : x_tl[t]? = some ty) (ha : a < n) (hc : h a = .inl (t, x)) (hv : Int32.ofNat x.1 = v)
    (kk : x_W G M rm Qf ex n h cells slots lv (.int v :: st) (pc + 1)) : x_W G M rm Qf ex n h cells slots lv (.ref a :: st) pc := by
  intro p e s m args below meth c F H locs ls hH hS hl
  have hK := F.2.2.2.2.2.2.2.2.2
  show W p _ e rm s m args below meth c H locs cells slots _ (F0 m pc ls (.ref (x_ad G a) :: x_st G st))
  rw [x_ad_new (Nat.lt_of_lt_of_le ha hH.1)]
  exact va_alen F.1 F.2.1 hK.1 (hH.at ha hc) 0 t rfl (x_ty_at ht) (x := x_a G x) hv hd (kk p e s m args below meth c F H locs ls hH hS hl)
end XH
end
section
/-! ends, and calls: the callee's frame is entered and left -/
theorem x_imp {p : Program} {l : Launch} {e : Env} {R : Room} {s : State} {m : MethodId} {args : Array Value} {below : List Frame} {meth : Method} {c : Code} {H : Heap} {locs : List Loc} {cells slots : Nat} {Q Q' : State → Prop} {g : JFrame} (hq : ∀ t, Q t → Q' t) (w : W p l e R s m args below meth c H locs cells slots Q g) : W p l e R s m args below meth c H locs cells slots Q' g := by
  intro T hT X
  obtain ⟨t, a, b⟩ := w T hT X
  exact ⟨t, a, hq t b⟩
theorem x_back {tb : Tables} {e : Env} {mid below : List Frame} {a b : State} (h : Steps tb e (mid ++ below) a b) : Steps tb e below a b := by
  obtain ⟨n, hn, w⟩ := h
  exact ⟨n, hn, fun k hk => (w k hk).weaken⟩
section XE
variable {G : x_G} {M : x_M} {rm : Room} {ex : Bool} {n : Nat} {h : x_h} {cells slots : Nat} {lv : List (Nat × Value)} {st : List Value} {pc : Nat} {Po : x_P}
theorem x_iret {ty : FieldType} {v : Int32} (hd : decode M.2.1 pc = .ok (.ireturn, 1)) (hr : M.2.2.2.1 = some ty) (hn : narrow ty (.int v) = .int v) (hc : cells ≤ rm.cells) (hs : slots ≤ rm.slots) (hp : Po (.inl (some (.int v))) n h) : x_W G M rm (x_Q G rm ex Po) ex n h cells slots lv [.int v] pc := by
  intro p e s m args below meth c F H locs ls hH hS hl
  obtain ⟨f1, f2, f3, f4, f5, f6, f7, f8, hts, hK⟩ := id F
  refine W.widen hc hs ?_
  refine x_imp (fun t q => ?_) (W.zret (Qc := fun _ _ o t => o = .returned (some (.int v)) ∧ t.heap = H) (free := x_A G) f1 f2 (f4.trans hr) hn (fun t ht _ => ⟨rfl, ht⟩) hS.2.2 hd f7)
  obtain ⟨o, q1, q2, ⟨rfl, q4⟩, L, ⟨-, q5, q6⟩, q7⟩ := q
  exact ⟨q1, q5, ⟨L, q6, q7⟩, hS.F q4, Or.inl ⟨some (.int v), n, h, q2, hp, by rw [q4]; exact hH⟩⟩
theorem x_lret {v : Int64} (hd : decode M.2.1 pc = .ok (.lreturn, 1)) (hr : M.2.2.2.1 = some .long) (hc : cells ≤ rm.cells) (hs : slots ≤ rm.slots) (hp : Po (.inl (some (.long v))) n h) : x_W G M rm (x_Q G rm ex Po) ex n h cells slots lv [.long v] pc := by
  intro p e s m args below meth c F H locs ls hH hS hl
  obtain ⟨f1, f2, f3, f4, f5, f6, f7, f8, hts, hK⟩ := id F
  refine W.widen hc hs ?_
  refine x_imp (fun t q => ?_) (W.lret (Qc := fun _ _ o t => o = .returned (some (.long v)) ∧ t.heap = H) (free := x_A G) f1 f2 (f4.trans hr) (fun t ht _ => ⟨rfl, ht⟩) hS.2.2 hd f7)
  obtain ⟨o, q1, q2, ⟨rfl, q4⟩, L, ⟨-, q5, q6⟩, q7⟩ := q
  exact ⟨q1, q5, ⟨L, q6, q7⟩, hS.F q4, Or.inl ⟨some (.long v), n, h, q2, hp, by rw [q4]; exact hH⟩⟩
theorem x_vret (hd : decode M.2.1 pc = .ok (.return_, 1)) (hr : M.2.2.2.1 = none) (hc : cells ≤ rm.cells) (hs : slots ≤ rm.slots) (hp : Po (.inl none) n h) : x_W G M rm (x_Q G rm ex Po) ex n h cells slots lv [] pc := by
  intro p e s m args below meth c F H locs ls hH hS hl
  obtain ⟨f1, f2, f3, f4, f5, f6, f7, f8, hts, hK⟩ := id F
  refine W.widen hc hs ?_
  refine x_imp (fun t q => ?_) (W.vret (Qc := fun _ _ o t => o = .returned none ∧ t.heap = H) (free := x_A G) f1 f2 (f4.trans hr) (fun t ht _ => ⟨rfl, ht⟩) hS.2.2 hd f7)
  obtain ⟨o, q1, q2, ⟨rfl, q4⟩, L, ⟨-, q5, q6⟩, q7⟩ := q
  exact ⟨q1, q5, ⟨L, q6, q7⟩, hS.F q4, Or.inl ⟨none, n, h, q2, hp, by rw [q4]; exact hH⟩⟩
theorem x_aret {rt : FieldType} {k : Nat} (hd : decode M.2.1 pc = .ok (.areturn, 1)) (hr : M.2.2.2.1 = some rt) (hrt : (∃ n, rt = .object n) ∨ ∃ t, rt = .array t) (hc : cells ≤ rm.cells) (hs : slots ≤ rm.slots) (hp : Po (.inl (some (.ref k))) n h) : x_W G M rm (x_Q G rm ex Po) ex n h cells slots lv [.ref k] pc := by
  intro p e s m args below meth c F H locs ls hH hS hl
  obtain ⟨f1, f2, f3, f4, f5, f6, f7, f8, hts, hK⟩ := id F
  refine W.widen hc hs ?_
  refine x_imp (fun t q => ?_) (W.aret (v := .ref (x_ad G k)) (Qc := fun _ _ o t => o = .returned (some (.ref (x_ad G k))) ∧ t.heap = H) (free := x_A G) f1 f2 (f4.trans hr) hrt (Or.inr ⟨_, rfl⟩) (fun t ht _ => ⟨rfl, ht⟩) hS.2.2 hd f7)
  obtain ⟨o, q1, q2, ⟨rfl, q4⟩, L, ⟨-, q5, q6⟩, q7⟩ := q
  exact ⟨q1, q5, ⟨L, q6, q7⟩, hS.F q4, Or.inl ⟨some (.ref k), n, h, q2, hp, by rw [q4]; exact hH⟩⟩
theorem x_sub {Qf : List Frame → Array Value → State → State → Prop} {lv2 : List (Nat × Value)} (hq : ∀ q ∈ lv2, q ∈ lv) (k : x_W G M rm Qf ex n h cells slots lv2 st pc) : x_W G M rm Qf ex n h cells slots lv st pc :=
  fun p e s m args below meth c F H locs ls hH hS hl => k p e s m args below meth c F H locs ls hH hS ⟨hl.1, hl.2.1, fun q h => by
    obtain ⟨r, hr, rfl⟩ := List.mem_map.mp h
    exact hl.2.2 _ (List.mem_map.mpr ⟨r, hq r hr, rfl⟩)⟩
theorem x_wide {Qf : List Frame → Array Value → State → State → Prop} {c1 s1 : Nat} (h1 : cells ≤ c1) (h2 : slots ≤ s1) (k : x_W G M rm Qf ex n h c1 s1 lv st pc) : x_W G M rm Qf ex n h cells slots lv st pc :=
  fun p e s m args below meth c F H locs ls hH hS hl => W.widen h1 h2 (k p e s m args below meth c F H locs ls hH hS hl)
end XE
theorem x_args (G : x_G) : ∀ (As : List Value) (i : Nat), lv_args i (As.map (x_v G)) = x_lv G (lv_args i As)
  | [], _ => rfl
  | v :: r, i => by
    show (i, x_v G v) :: lv_args (if (x_v G v).category = 2 then i + 2 else i + 1) (r.map (x_v G)) = (i, x_v G v) :: x_lv G (lv_args (if v.category = 2 then i + 2 else i + 1) r)
    rw [x_cat, x_args G r]
theorem x_sl (G : x_G) : ∀ (As : List Value), (lg_sl (As.map (x_v G))).length = (lg_sl As).length
  | [] => rfl
  | v :: r => by
    have ih := x_sl G r
    simp only [lg_sl, List.map_cons, List.flatMap_cons, List.length_append] at ih ⊢
    rw [x_cat, ih]
    by_cases hv : v.category = 2 <;> simp [hv]
theorem x_K.next {G : x_G} {s U : State} {locs : List Loc} (hK : x_K G s) (hW : s.WarmedH U.vm) (hS : va_S (x_A G) s.heap U.heap locs) (hN : x_ns G U.heap) : x_K G U :=
  ⟨va_K.moved hW.alike hK.1, x_Z_next hK.2.1 hW (fun q hq => hS.2.1 q (Nat.lt_of_lt_of_le hq hK.2.2.1) (Nat.not_le.mpr hq)), Nat.le_trans hK.2.2.1 hS.1, hN⟩
/-- a callee, entered and left -/
def x_cd (M : x_M) : Prop := plainFor M.1 = true ∧ ((Cond.code M.1 M.2.1 M.2.2.1 M.2.2.2.1 ∈ x_tsl ∧ M.2.2.2.2 = []) ∨ Cond.codeWith M.1 M.2.1 M.2.2.1 M.2.2.2.1 M.2.2.2.2 ∈ x_tsl)
theorem x_cd.spec {M : x_M} (hM : x_cd M) {args : Array Value} {s : State} (hts : ∀ w ∈ x_tsl, w.before args s = true) : ∃ (mk : MethodId) (methk : Method) (ck : Code), s.methodNamed? M.1 = some mk ∧ s.vm.method? mk = some methk ∧ methk.code = some ck ∧ ck.code = M.2.1 ∧ ck.maxLocals = M.2.2.1 ∧
    ck.exceptionTable.toList.map (fun h => (h.startPc, h.endPc, h.handlerPc, h.catchType)) = M.2.2.2.2 ∧ methk.sig.returnType = M.2.2.2.1 ∧ methk.locks = false ∧ parseMethodDescriptor M.1.desc = some methk.sig := by
  rcases hM.2 with ⟨h, h0⟩ | h
  · have hc := hts _ h
    obtain ⟨mk, hn⟩ := Cond.code_named hc
    obtain ⟨meth, c, h1, h2, h3, h4, h5, h6, h7, h8⟩ := Cond.code_spec hn hc
    refine ⟨mk, meth, c, hn, h1, h2, h3, h4, ?_, h5, h6, h8⟩
    rw [h0]
    have : c.exceptionTable.toList = [] := by simpa using h7
    rw [this]; rfl
  · obtain ⟨mk, meth, c, h1, h2, h3, h4, h5, h6, h7, h8, h9⟩ := Cond.codeWith_spec (hts _ h)
    exact ⟨mk, meth, c, h1, h2, h3, h4, h5, h6, h7, h8, h9⟩
set_option maxHeartbeats 1000000 in
theorem x_enter {G : x_G} {M2 : x_M} {rm rm2 : Room} {ex : Bool} {n : Nat} {h : x_h} {Po : x_P} {As : List Value} (hR : x_R G M2 rm2 ex As n h Po) (hM : x_cd M2)
    {p : Program} {e : Env} {s : State} {m : MethodId} {args : Array Value} {below : List Frame} {meth : Method} {c : Code} {T : State} {locs : List Loc} {cells slots : Nat} (X : Stand p (x_l G) e rm s m args below meth c T locs cells slots)
    (hexec : p.tables.exec = Jvm.exec) (hts : ∀ w ∈ x_tsl, w.before args s = true) (hK : x_K G s) (hH : x_H G ex n h T.heap) (hS : va_S (x_A G) s.heap T.heap locs)
    {g : JFrame} (hg : g.method = m) (hsize : g.locals.size = c.maxLocals) {ig : Instr} {len : Nat} (hdg : decode c.code g.pc = .ok (ig, len)) (hw : 2 * g.monitorRoom + (g.stack.map fun v => v.category).sum ≤ 8)
    {mk : MethodId} (hnk : s.methodNamed? M2.1 = some mk) (hrm : rm2.frames + 1 ≤ rm.frames ∧ 8 + (M2.2.2.1 + 11) + rm2.locals ≤ rm.locals) (hce : cells + rm2.cells ≤ rm.cells) (hsl : slots + rm2.slots ≤ rm.slots) (hal : (lg_sl As).length ≤ M2.2.2.1) :
    ∃ (T' : State) (L : List Loc), Stand p (x_l G) e rm s m args below meth c T' (locs ++ L) (cells + rm2.cells) (slots + rm2.slots) ∧ va_S (x_A G) s.heap T'.heap (locs ++ L) ∧
      ((∃ v n' h', Po (.inl v) n' h' ∧ x_H G ex n' h' T'.heap ∧ ∀ acts, Steps p.tables e below (doInvoke e (T.setTop g) acts mk (As.map (x_v G)).toArray).1 (T'.setTop { g with pc := g.pc + len, stack := (v.map (x_v G)).toList ++ g.stack })) ∨
       (∃ a Y n' h' cell, Po (.inr Y) n' h' ∧ x_H G ex n' h' T'.heap ∧ T'.heap[a]? = some cell ∧ cell.vm = .none ∧ s.vm.findClass Y = some cell.cls ∧ ∀ acts, Steps p.tables e below (doInvoke e (T.setTop g) acts mk (As.map (x_v G)).toArray).1 ((T'.setTop g).pushFrame (.throwing a)))) := by
  obtain ⟨mk', methk, ck, n1, n2, n3, n4, n5, n6, n7, n8, n9⟩ := hM.spec hts
  cases hnk.symm.trans n1
  have hmT : T.vm.method? mk = some methk := by rw [X.warmed.alike.method?]; exact n2
  have hnT : T.methodNamed? M2.1 = some mk := X.named hnk
  obtain ⟨Y, hdo⟩ := X.into hg hsize hdg (As.map (x_v G)).toArray (R' := rm2) hmT n3 n8 (State.plainMethod.of_named hM.1 hnT hmT) hrm.1 (by rw [n5]; omega) hce hsl
  generalize hU : T.calling g mk (As.map (x_v G)).toArray = U at Y
  have hUh : U.heap = T.heap := by rw [← hU]; rfl
  have hUv : U.vm = T.vm := by rw [← hU]; rfl
  have hWU : s.WarmedH U.vm := by rw [hUv]; exact X.warmed
  have hSU : va_S (x_A G) s.heap U.heap locs := by rw [hUh]; exact hS
  have hF : x_F G M2 p U mk (As.map (x_v G)).toArray methk ck :=
    ⟨hexec, n4, n5, n7, n6, by rw [hUv, X.warmed.alike.findClass]; exact findClass_of_methodNamed n1, n8, (name_of_methodNamed n1 n2).1, fun w hw => word_at hWU (x_good w hw) (hts w hw), hK.next hWU hSU (by rw [hUh]; exact hH.2.2.2.2)⟩
  have hent := lv_entry (As.map (x_v G)) (n := M2.2.2.1) (by rw [x_sl]; exact hal)
  rw [x_args] at hent
  generalize hV : (T.setTop g).pushFrame (.java (entryFrame mk (As.map (x_v G)).toArray ck.maxLocals)) = V at Y hdo
  have hVh : V.heap = U.heap := by rw [← hV, hUh]; rfl
  obtain ⟨t, hst, hq⟩ := hR p e U mk (As.map (x_v G)).toArray (.java g :: below) methk ck hF U.heap [] _ (by rw [hUh]; exact hH) va_S.rf hent V hVh Y
  rw [n5, lg_entry_eq] at hdo
  obtain ⟨q1, q2, ⟨L, q3, q4⟩, q5, q6⟩ := hq
  have hS' : ∀ T' : State, T'.heap = t.heap → va_S (x_A G) s.heap T'.heap (locs ++ L) := fun T' e1 => by
    refine ⟨by rw [e1]; exact Nat.le_trans hSU.1 q5.1, fun q h1 h2 => ?_, fun q hq => ?_⟩
    · rw [e1, q5.2 q (Nat.lt_of_lt_of_le h1 hSU.1) h2]; exact hSU.2.1 q h1 h2
    · rcases List.mem_append.mp hq with z | z
      · exact hS.2.2 q z
      · exact q4 q z
  rcases q6 with ⟨v, n', h', r1, r2, r3⟩ | ⟨a, Y', n', h', cell, r1, r2, r3, r4, r5, r6⟩
  · subst hU
    obtain ⟨T', X', -, -, ht⟩ := X.outOf hg hdg r1 q2 q3
    have hth : T'.heap = t.heap := by rw [ht]; rfl
    refine ⟨T', L, X', hS' T' hth, Or.inl ⟨v, n', h', r2, by rw [hth]; exact r3, fun acts => ?_⟩⟩
    rw [hdo acts, ← ht]
    exact x_back (mid := [.java g]) hst
  · subst hU
    obtain ⟨T', X', -, -, ht⟩ := X.outOfThrown hg r1 q2 q3
    have hth : T'.heap = t.heap := by rw [ht]; rfl
    refine ⟨T', L, X', hS' T' hth, Or.inr ⟨a, Y', n', h', cell, r2, by rw [hth]; exact r3, by rw [hth]; exact r4, r5, by rw [hUv, X.warmed.alike.findClass] at r6; exact r6, fun acts => ?_⟩⟩
    rw [hdo acts, ← ht]
    exact x_back (mid := [.java g]) hst
end
section
/-! calls: static, virtual, constructors; an exception is under way at pc -/
def x_WT (G : x_G) (M : x_M) (rm : Room) (Qf : List Frame → Array Value → State → State → Prop) (ex : Bool) (n : Nat) (h : x_h) (cells slots : Nat) (lv : List (Nat × Value)) (Y : String) (pc : Nat) : Prop :=
  ∀ (p : Program) (e : Env) (s : State) (m : MethodId) (args : Array Value) (below : List Frame) (meth : Method) (c : Code), x_F G M p s m args meth c →
    ∀ (H : Heap) (locs : List Loc) (ls : Array Slot) (st : List Value) (a : Nat) (cell : Cell), x_H G ex n h H → va_S (x_A G) s.heap H locs → lv_has ls M.2.2.1 (x_lv G lv) → H[a]? = some cell → cell.vm = .none → s.vm.findClass Y = some cell.cls →
    ∀ T : State, T.heap = H → Stand p (x_l G) e rm s m args below meth c T locs cells slots → ∃ t, Steps p.tables e below ((T.setTop (F0 m pc ls st)).pushFrame (.throwing a)) t ∧ Qf below args s t
def x_pl (M : x_M) : Prop := M.1.cls ≠ "java/lang/invoke/MethodHandle" ∧ M.1.cls ≠ "java/lang/invoke/VarHandle"
def x_rm (rm rm2 : Room) (M2 : x_M) : Prop := rm2.frames + 1 ≤ rm.frames ∧ 8 + (M2.2.2.1 + 11) + rm2.locals ≤ rm.locals
theorem x_stA {G : x_G} {As st : List Value} : x_st G (As.reverse ++ st) = (As.map (x_v G)).reverse ++ x_st G st := by
  simp [x_st, List.map_append, List.map_reverse]
theorem x_stV {G : x_G} {v : Option Value} {st : List Value} : x_st G (v.toList ++ st) = (v.map (x_v G)).toList ++ x_st G st := by
  cases v <;> rfl
theorem x_stW {G : x_G} {st : List Value} : ((x_st G st).map fun v => v.category).sum = (st.map fun v => v.category).sum := by
  unfold x_st
  rw [List.map_map]
  congr 1
  apply List.map_congr_left
  intro v _
  exact x_cat
section XI
variable {G : x_G} {M : x_M} {rm : Room} {Qf : List Frame → Array Value → State → State → Prop} {ex : Bool} {n : Nat} {h : x_h} {cells slots : Nat} {lv : List (Nat × Value)} {st stk : List Value} {pc : Nat}
variable {M2 : x_M} {rm2 : Room} {As : List Value} {Po : x_P} {index : Nat}
/-- behind the instruction's own step -/
theorem x_goes (hR : x_R G M2 rm2 ex As n h Po) (hM : x_cd M2) (hrm : x_rm rm rm2 M2) (hce : cells + rm2.cells ≤ rm.cells) (hsl : slots + rm2.slots ≤ rm.slots) (hal : (lg_sl As).length ≤ M2.2.2.1) (hw : (st.map fun v => v.category).sum ≤ 8)
    (kr : ∀ v n' h', Po (.inl v) n' h' → x_W G M rm Qf ex n' h' (cells + rm2.cells) (slots + rm2.slots) lv (v.toList ++ st) (pc + 3))
    (kt : ∀ Y n' h', Po (.inr Y) n' h' → x_WT G M rm Qf ex n' h' (cells + rm2.cells) (slots + rm2.slots) lv Y pc)
    {p : Program} {e : Env} {s : State} {m : MethodId} {args : Array Value} {below : List Frame} {meth : Method} {c : Code} (F : x_F G M p s m args meth c) {T : State} {locs : List Loc} {ls : Array Slot} (hH : x_H G ex n h T.heap) (hS : va_S (x_A G) s.heap T.heap locs) (hl : lv_has ls M.2.2.1 (x_lv G lv))
    (X : Stand p (x_l G) e rm s m args below meth c T locs cells slots) {ig : Instr} (hd : decode M.2.1 pc = .ok (ig, 3)) {mk : MethodId} (hnk : s.methodNamed? M2.1 = some mk) :
    ∃ t, (∀ acts, Steps p.tables e below (doInvoke e (T.setTop (F0 m pc ls (x_st G st))) acts mk (As.map (x_v G)).toArray).1 t) ∧ Qf below args s t := by
  obtain ⟨f1, f2, f3, f4, f5, f6, f7, f8, hts, hK⟩ := id F
  obtain ⟨T', L, X', hS', hor⟩ := x_enter hR hM X f1 hts hK hH hS (g := F0 m pc ls (x_st G st)) rfl (hl.1.trans f3.symm) (by rw [f2]; exact hd) (by show 2 * 0 + _ ≤ 8; rw [x_stW]; omega) hnk hrm hce hsl hal
  rcases hor with ⟨v, n', h', r1, r2, r3⟩ | ⟨a, Y, n', h', cell, r1, r2, r3, r4, r5, r6⟩
  · obtain ⟨t, a1, b1⟩ := kr v n' h' r1 p e s m args below meth c F T'.heap (locs ++ L) ls r2 hS' hl T' rfl X'
    rw [x_stV] at a1
    exact ⟨t, fun acts => (r3 acts).trans a1, b1⟩
  · obtain ⟨t, a1, b1⟩ := kt Y n' h' r1 p e s m args below meth c F T'.heap (locs ++ L) ls (x_st G st) a cell r2 hS' hl r3 r4 r5 T' rfl X'
    exact ⟨t, fun acts => (r6 acts).trans a1, b1⟩
theorem x_callS (hd : decode M.2.1 pc = .ok (.invokestatic index, 3)) (hR : x_R G M2 rm2 ex As n h Po) (hM : x_cd M2) (hlk : Cond.methodLink M.1.cls index M2.1 ∈ x_tsl) (hss : Cond.static M2.1 ∈ x_tsl) (hii : Cond.initialized M2.1.cls ∈ x_tsl) (hp : x_pl M2) (hn : (parseMethodDescriptor M2.1.desc).map (fun d => d.parameters.length) = some As.length)
    (hrm : x_rm rm rm2 M2) (hce : cells + rm2.cells ≤ rm.cells) (hsl : slots + rm2.slots ≤ rm.slots) (hal : (lg_sl As).length ≤ M2.2.2.1) (hw : (st.map fun v => v.category).sum ≤ 8) (hst : stk = As.reverse ++ st)
    (kr : ∀ v n' h', Po (.inl v) n' h' → x_W G M rm Qf ex n' h' (cells + rm2.cells) (slots + rm2.slots) lv (v.toList ++ st) (pc + 3))
    (kt : ∀ Y n' h', Po (.inr Y) n' h' → x_WT G M rm Qf ex n' h' (cells + rm2.cells) (slots + rm2.slots) lv Y pc) : x_W G M rm Qf ex n h cells slots lv stk pc := by
  intro p e s m args below meth c F H locs ls hH hS hl T hT X
  subst hT; subst hst
  obtain ⟨f1, f2, f3, f4, f5, f6, f7, f8, hts, hK⟩ := id F
  obtain ⟨mk, methk, ck, n1, n2, n3, n4, n5, n6, n7, n8, n9⟩ := hM.spec hts
  obtain ⟨kP, hkP, -⟩ := className_of_methodNamed n1
  rw [n9] at hn
  obtain ⟨vm₁, X₁, hstep⟩ := X.invokestatic f1 f6 (hts _ hlk) n1 n2 (Cond.static_spec n1 n2 (hts _ hss)) hkP (Cond.initialized_spec (findClass_of_methodNamed n1) hkP (hts _ hii)) hp (g := F0 m pc ls (x_st G (As.reverse ++ st))) rfl (argsL := As.map (x_v G)) (rest := x_st G st) (by rw [List.length_map]; exact (Option.some.inj hn).symm) x_stA (by rw [f2]; exact hd)
  obtain ⟨t, a1, b1⟩ := x_goes hR hM hrm hce hsl hal hw kr kt F (T := T.setVm vm₁) hH hS hl X₁ hd n1
  exact ⟨t, hstep _ a1, b1⟩
theorem x_callV {b ci : Nat} {fs : List Value} {C : String} {Tb : u_T} {N : Nat} (hd : decode M.2.1 pc = .ok (.invokevirtual index, 3)) (hR : x_R G M2 rm2 ex (.ref b :: As) n h Po) (hM : x_cd M2) (hlk : Cond.methodLink M.1.cls index M2.1 ∈ x_tsl) (hii : Cond.instanceMethod M2.1 ∈ x_tsl) (hse : Cond.selects C M2.1 M2.1 ∈ x_tsl) (hp : x_pl M2) (hn : (parseMethodDescriptor M2.1.desc).map (fun d => d.parameters.length) = some As.length)
    (hb : b < n) (hc : h b = .inr (ci, fs)) (hcl : vwCl[ci]? = some (C, Tb, N))
    (hrm : x_rm rm rm2 M2) (hce : cells + rm2.cells ≤ rm.cells) (hsl : slots + rm2.slots ≤ rm.slots) (hal : (lg_sl (.ref b :: As)).length ≤ M2.2.2.1) (hw : (st.map fun v => v.category).sum ≤ 8) (hst : stk = As.reverse ++ .ref b :: st)
    (kr : ∀ v n' h', Po (.inl v) n' h' → x_W G M rm Qf ex n' h' (cells + rm2.cells) (slots + rm2.slots) lv (v.toList ++ st) (pc + 3))
    (kt : ∀ Y n' h', Po (.inr Y) n' h' → x_WT G M rm Qf ex n' h' (cells + rm2.cells) (slots + rm2.slots) lv Y pc) : x_W G M rm Qf ex n h cells slots lv stk pc := by
  intro p e s m args below meth c F H locs ls hH hS hl T hT X
  subst hT; subst hst
  obtain ⟨f1, f2, f3, f4, f5, f6, f7, f8, hts, hK⟩ := id F
  obtain ⟨mk, methk, ck, n1, n2, n3, n4, n5, n6, n7, n8, n9⟩ := hM.spec hts
  obtain ⟨mk', methM, hnamed, hmethM, hstM, habM⟩ := Cond.instanceMethod_spec (hts _ hii)
  cases n1.symm.trans hnamed
  cases n2.symm.trans hmethM
  obtain ⟨cellB, hcB, hoB, hclB⟩ := va_recv hK.1 (hH.at hb hc) (q0 := 0) hcl rfl
  obtain ⟨c2, r2, m2, q1, q2, q3, q4, kP, hkP, hkPi⟩ := Cond.selects_spec (hts _ hse)
  cases hclB.symm.trans q1
  cases (State.methodFound?_of_named hnamed hp).symm.trans q2
  cases hnamed.symm.trans q3
  have hselP : selectMethod e.platform s.vm cellB.cls mk = .method mk := by rw [Launch.admits_selectMethod X.admits]; exact q4
  rw [n9] at hn
  obtain ⟨vm₁, X₁, hstep⟩ := X.invokevirtual f1 f6 (hts _ hlk) hnamed hmethM hstM hkP hkPi hp (a := x_B G + b) (cell := cellB) hcB (fun z h => by rw [h] at hoB; cases hoB) hselP hmethM habM hkP hkPi (g := F0 m pc ls (x_st G (As.reverse ++ .ref b :: st))) rfl (argsL := As.map (x_v G)) (rest := x_st G st) (by rw [List.length_map]; exact (Option.some.inj hn).symm)
    (by show x_st G (As.reverse ++ .ref b :: st) = _; rw [x_stA]; show _ ++ (Value.ref (x_ad G b) :: x_st G st) = _; rw [x_ad_new (Nat.lt_of_lt_of_le hb hH.1)]) (by rw [f2]; exact hd)
  obtain ⟨t, a1, b1⟩ := x_goes hR hM hrm hce hsl hal hw kr kt F (T := T.setVm vm₁) hH hS hl X₁ hd n1
  refine ⟨t, hstep _ (fun acts => ?_), b1⟩
  have e0 : (Value.ref (x_B G + b) :: As.map (x_v G)).toArray = ((Value.ref b :: As).map (x_v G)).toArray := by
    show _ = (Value.ref (x_ad G b) :: As.map (x_v G)).toArray
    rw [x_ad_new (Nat.lt_of_lt_of_le hb hH.1)]
  rw [e0]
  exact a1 acts
theorem x_callI {b : Nat} (hd : decode M.2.1 pc = .ok (.invokespecial index, 3)) (hR : x_R G M2 rm2 ex (.ref b :: As) n h Po) (hM : x_cd M2) (hM0 : Cond.code M2.1 M2.2.1 M2.2.2.1 none ∈ x_tsl) (hnm : M2.1.name = "<init>") (hlk : Cond.methodLink M.1.cls index M2.1 ∈ x_tsl) (hii : Cond.instanceMethod M2.1 ∈ x_tsl) (hp : x_pl M2) (hn : (parseMethodDescriptor M2.1.desc).map (fun d => d.parameters.length) = some As.length)
    (hrm : x_rm rm rm2 M2) (hce : cells + rm2.cells ≤ rm.cells) (hsl : slots + rm2.slots ≤ rm.slots) (hal : (lg_sl (.ref b :: As)).length ≤ M2.2.2.1) (hw : (st.map fun v => v.category).sum ≤ 8) (hst : stk = As.reverse ++ .ref b :: st)
    (kr : ∀ v n' h', Po (.inl v) n' h' → x_W G M rm Qf ex n' h' (cells + rm2.cells) (slots + rm2.slots) lv (v.toList ++ st) (pc + 3))
    (kt : ∀ Y n' h', Po (.inr Y) n' h' → x_WT G M rm Qf ex n' h' (cells + rm2.cells) (slots + rm2.slots) lv Y pc) : x_W G M rm Qf ex n h cells slots lv stk pc := by
  intro p e s m args below meth c F H locs ls hH hS hl T hT X
  subst hT; subst hst
  obtain ⟨f1, f2, f3, f4, f5, f6, f7, f8, hts, hK⟩ := id F
  have hpl : e.platform.magicAccessors = ({} : Platform).magicAccessors := by rw [X.admits.platform]
  obtain ⟨mk, methM, cM, kP, vm₁, hnamed, hmethM, hcodeM, -, hlocalsM, -, hkP, -, hW₁, hstep⟩ := Steps.initColdArgs (e := e) X.here f1 X.warmed hpl f6 hnm hp (hts _ hlk) (hts _ hii) (hts _ hM0) (f := F0 m pc ls (x_st G (As.reverse ++ .ref b :: st))) rfl (a := x_ad G b) (argsL := As.map (x_v G)) (rest := x_st G st)
    (fun sig z => by rw [z] at hn; rw [List.length_map]; exact (Option.some.inj hn).symm) (by show x_st G (As.reverse ++ .ref b :: st) = _; rw [x_stA]; rfl) (by rw [f2]; exact hd)
  obtain ⟨t, a1, b1⟩ := x_goes hR hM hrm hce hsl hal hw kr kt F (T := T.setVm vm₁) hH hS hl (X.noted hW₁) hd hnamed
  exact ⟨t, hstep _ a1, b1⟩
end XI
end
section
/-! exceptions: out of a method, to a handler, thrown anew -/
def x_cov (q : Nat × Nat × Nat × Nat) (pc : Nat) : Bool := decide (q.1 ≤ pc) && decide (pc < q.2.1)
theorem x_cov_eq {x : ExceptionTableEntry} {pc : Nat} : covers x pc = x_cov (x.startPc, x.endPc, x.handlerPc, x.catchType) pc := rfl
section XO
variable {G : x_G} {M : x_M} {rm : Room} {ex : Bool} {n : Nat} {h : x_h} {cells slots : Nat} {lv : List (Nat × Value)} {pc : Nat} {Y : String}
theorem x_out {Po : x_P} (hh : ∀ q ∈ M.2.2.2.2, x_cov q pc = false) (hc : cells ≤ rm.cells) (hs : slots ≤ rm.slots) (hp : Po (.inr Y) n h) : x_WT G M rm (x_Q G rm ex Po) ex n h cells slots lv Y pc := by
  intro p e s m args below meth c F H locs ls st a cell hH hS hl ha hv hY T hT X
  obtain ⟨f1, f2, f3, f4, f5, f6, f7, f8, hts, hK⟩ := id F
  have hout : ∀ x ∈ c.exceptionTable.toList, covers x pc = false := fun x hx => by
    rw [x_cov_eq]
    exact hh _ (by rw [← f5]; exact List.mem_map.mpr ⟨x, hx, rfl⟩)
  have X2 := stand_widen X hc hs
  obtain ⟨q1, q2, q3, q4, q5⟩ := X2.leaveThrown a (g := F0 m pc ls st) rfl rfl rfl hout f7
  have hth : (T.setFrames (.throwing a :: below)).heap = H := hT
  exact ⟨_, q1, q2, q4, ⟨locs, q5, hS.2.2⟩, hS.F hth, Or.inr ⟨a, Y, n, h, cell, q3, hp, by rw [hth]; exact hH, by rw [hth]; exact ha, hv, hY⟩⟩
end XO
def x_FT (e : Env) (s : State) (f : JFrame) (a : Addr) (hd : Handler) (vm' : Vm) : Prop :=
  ∀ (Q : Handler → Pre) (E : CtlPost) (d : Bool) (acts : List Action), wp (findHandler f a) Q E e d acts s ↔ Q hd d acts (s.setVm vm')
theorem x_go_hit {Q : Handler → Pre} {E : CtlPost} {e : Env} {d : Bool} {acts : List Action} {s : State} {f : JFrame} {a : Addr} {x : ExceptionTableEntry} {t : List ExceptionTableEntry} {c : ClassId} {cell : Cell} (hx : covers x f.pc = true) (h0 : x.catchType ≠ 0)
    (hl : s.vm.ClassLinks e.platform f.method.cls x.catchType c) (hcell : s.heap[a]? = some cell) (hobj : ∀ k, cell.vm ≠ .statics k)
    (hk : ∃ k, s.vm.classes[cell.cls]? = some k) (hc : ∃ k, s.vm.classes[c]? = some k) :
    wp (findHandler.go f a (x :: t)) Q E e d acts s ↔ if s.vm.assignable cell.cls c = true then Q (.found x.handlerPc) d acts (s.setVm (s.vm.noted f.method.cls x.catchType (.cls c))) else wp (findHandler.go f a t) Q E e d acts (s.setVm (s.vm.noted f.method.cls x.catchType (.cls c))) := by
  simp only [covers] at hx
  obtain ⟨ha, ht⟩ := (resolveClass_links e.toSetting hl).op (op := VmOp.resolveClass f.method.cls x.catchType) rfl
  have hal : s.vm.Alike (s.vm.noted f.method.cls x.catchType (.cls c)) := (Vm.Alike.refl s.vm).noted _ _ _
  obtain ⟨k1, hk1⟩ := hk
  obtain ⟨k2, hk2⟩ := hc
  obtain ⟨k1', hk1', -⟩ := hal.2.2 _ _ hk1
  obtain ⟨k2', hk2', -⟩ := hal.2.2 _ _ hk2
  have has : (s.vm.noted f.method.cls x.catchType (.cls c)).assignable cell.cls c = s.vm.assignable cell.cls c := by rw [hal.assignable]
  by_cases hfit : s.vm.assignable cell.cls c = true
  · rw [if_pos hfit]
    rw [hfit] at has
    simp [findHandler.go, hx, h0, ha, ht, hcell, hobj, hk1', hk2', has, VmOp.dirties, VmOp.acts]
  · rw [if_neg hfit]
    have hfit2 : s.vm.assignable cell.cls c = false := by simpa using hfit
    rw [hfit2] at has
    simp [findHandler.go, hx, h0, ha, ht, hcell, hobj, hk1', hk2', has, VmOp.dirties, VmOp.acts]
end
section
/-! the shape of the heap behind the two constructors: 0 .. 386 the class, 387 .. 423 the reference, 424 the law's own array.
An object: its class, its fields (a reference that stays, an int, a reference that may change); an array of ints, of longs, of references that stay. -/
abbrev x_S : Type := (Nat × List (Nat ⊕ Bool)) ⊕ (Nat × Nat) ⊕ (Nat × Nat) ⊕ (Nat × Nat × (Nat → Option Nat))
/-- ints of objects, ints of arrays, references of objects, longs of arrays -/
abbrev x_m : Type := (Nat → Nat → Int32) × (Nat → Nat → Int32) × (Nat → Nat → Nat) × (Nat → Nat → Int64)
def x_shD (b j : Nat) : x_S := match j with
  | 0 => .inl (5, [.inr false, .inr false, .inr false, .inl (b + 1), .inl (b + 6), .inl (b + 7), .inl (b + 12)])
  | 1 => .inr (.inr (.inr (6, 4, fun i => if i < 4 then some (b + 2 + i) else none)))
  | 7 => .inr (.inr (.inr (6, 4, fun i => if i < 4 then some (b + 8 + i) else none)))
  | 12 => .inr (.inl (0, 4))
  | _ => .inr (.inl (0, 1000))
def x_shC (b : Nat) : x_S := .inl (10, [.inr false, .inr false, .inr false, .inr false, .inr false, .inl (b + 1)])
def x_shQ (b j : Nat) : x_S := match j with
  | 0 => .inl (8, [.inr false, .inl (b + 1), .inl (b + 2), .inl (b + 3), .inr false, .inl (b + 4), .inr false, .inl (b + 5), .inl (b + 6)])
  | 1 => .inr (.inl (0, 24))
  | 2 => .inr (.inl (0, 24))
  | 3 => .inr (.inl (0, 24))
  | 4 => .inr (.inl (0, 8))
  | 5 => .inr (.inl (0, 32))
  | 6 => .inl (9, [.inr false, .inr false, .inl (b + 7), .inr false, .inl (b + 8), .inl (b + 9), .inl (b + 10), .inl (b + 11), .inl (b + 12), .inl (b + 13), .inl (b + 14), .inl (b + 15)])
  | 7 => .inr (.inr (.inr (5, 60, fun i => if i < 60 then some (b + 16 + 2 * i) else none)))
  | 8 => .inr (.inl (0, 59))
  | 9 => .inr (.inl (0, 59))
  | 10 => .inr (.inl (2, 59))
  | 11 => .inr (.inl (2, 119))
  | 12 => .inr (.inl (2, 119))
  | 13 => .inr (.inl (0, 41))
  | 14 => .inr (.inl (0, 41))
  | 15 => .inr (.inl (2, 41))
  | j + 16 => if j % 2 = 0 then x_shC (b + 16 + j) else .inr (.inl (0, 40))
def x_shM (b j : Nat) : x_S := match j with
  | 0 => .inl (12, [.inr false, .inl (b + 1), .inl (b + 2), .inl (b + 3), .inr false, .inl (b + 4), .inr false, .inl (b + 5), .inl (b + 6), .inr false, .inl (b + 7), .inr false, .inl (b + 8), .inr false, .inl (b + 9), .inl (b + 10), .inl (b + 11), .inl (b + 12), .inl (b + 13)])
  | 1 => .inr (.inl (0, 24))
  | 2 => .inr (.inl (0, 24))
  | 3 => .inr (.inl (0, 24))
  | 4 => .inr (.inl (0, 8))
  | 5 => .inr (.inl (0, 8))
  | 6 => .inr (.inl (0, 8))
  | 7 => .inr (.inl (0, 32))
  | 8 => .inr (.inl (0, 2600))
  | 9 => .inr (.inl (0, 60))
  | 10 => .inr (.inl (0, 60))
  | 11 => .inr (.inl (0, 60))
  | 12 => .inr (.inl (0, 60))
  | _ => .inr (.inl (0, 2400))
def x_shape (p : Nat) : x_S :=
  if p < 9 then (match p with
    | 0 => .inl (0, [.inl (1), .inl (3), .inl (4), .inl (113), .inl (114)])
    | 1 => .inl (1, [.inl (2), .inr false])
    | 2 => .inr (.inl (1, 65536))
    | 3 => .inl (2, [.inl (1), .inr true, .inr false, .inr false, .inr false, .inr false, .inr false, .inr false, .inr false])
    | 4 => .inl (3, [.inl (5), .inl (8), .inr false, .inr false, .inr false])
    | 5 => .inl (4, [.inl (6), .inl (7)])
    | 6 => .inr (.inl (1, 1920))
    | 7 => .inr (.inl (0, 48))
    | _ => .inr (.inr (.inr (4, 8, fun i => if i < 8 then some (9 + 13 * i) else none))))
  else if p < 113 then x_shD (9 + 13 * ((p - 9) / 13)) ((p - 9) % 13)
  else if p = 113 then .inl (6, [.inl (3), .inl (4), .inl (5)])
  else if p = 114 then .inl (7, [.inl (3), .inl (4), .inl (5), .inr true, .inr true])
  else if p < 251 then x_shQ 115 (p - 115)
  else if p < 387 then x_shQ 251 (p - 251)
  else if p < 395 then (match p - 387 with
    | 0 => .inl (11, [.inl (x_N + 37), .inr false, .inr false, .inl (388), .inr false, .inr false, .inr false, .inr false, .inr false, .inr false, .inr false, .inr false, .inr false, .inr false, .inl (389), .inl (390), .inl (391), .inl (392), .inr false, .inl (393), .inl (394), .inr true, .inr true, .inr false, .inr false, .inr false, .inl (423)])
    | 1 => .inr (.inl (1, 65536))
    | 2 => .inr (.inl (0, 8))
    | 3 => .inr (.inl (0, 8))
    | 4 => .inr (.inl (0, 32000))
    | 5 => .inr (.inl (0, 8))
    | 6 => .inr (.inl (1, 1920))
    | _ => .inr (.inl (0, 48)))
  else if p < 409 then x_shM 395 (p - 395)
  else if p < 423 then x_shM 409 (p - 409)
  else if p = 423 then .inr (.inl (2, 64))
  else .inr (.inr (.inl (3, 1)))
def x_fv (m : x_m) (p j : Nat) : Nat ⊕ Bool → Value
  | .inl c => .ref c
  | .inr false => .int (m.1 p j)
  | .inr true => .ref (m.2.2.1 p j)
def x_fs (m : x_m) (p : Nat) (tp : List (Nat ⊕ Bool)) : List Value := tp.mapIdx (x_fv m p)
def x_hp (m : x_m) : x_h := fun p => match x_shape p with
  | .inl (ci, tp) => .inr (ci, x_fs m p tp)
  | .inr (.inl (t, n)) => .inl (t, n, .inl (m.2.1 p))
  | .inr (.inr (.inl (t, n))) => .inl (t, n, .inr (.inl (m.2.2.2 p)))
  | .inr (.inr (.inr (t, n, f))) => .inl (t, n, .inr (.inr (.inr (.inr f))))
def x_u2 {α : Type} (f : Nat → Nat → α) (p j : Nat) (v : α) : Nat → Nat → α := fun a b => if a = p ∧ b = j then v else f a b
def x_wS (m : x_m) (p j : Nat) (v : Int32) : x_m := (x_u2 m.1 p j v, m.2)
def x_wA (m : x_m) (p j : Nat) (v : Int32) : x_m := (m.1, x_u2 m.2.1 p j v, m.2.2)
def x_wR (m : x_m) (p j : Nat) (v : Nat) : x_m := (m.1, m.2.1, x_u2 m.2.2.1 p j v, m.2.2.2)
def x_wL (m : x_m) (p j : Nat) (v : Int64) : x_m := (m.1, m.2.1, m.2.2.1, x_u2 m.2.2.2 p j v)
/-- how many places there are -/
abbrev x_np : Nat := 425
-- the heap by its shape
theorem x_hp_o {m : x_m} {p ci : Nat} {tp : List (Nat ⊕ Bool)} (h : x_shape p = .inl (ci, tp)) : x_hp m p = .inr (ci, x_fs m p tp) := by unfold x_hp; rw [h]
theorem x_hp_i {m : x_m} {p t n : Nat} (h : x_shape p = .inr (.inl (t, n))) : x_hp m p = .inl (t, n, .inl (m.2.1 p)) := by unfold x_hp; rw [h]
theorem x_hp_l {m : x_m} {p t n : Nat} (h : x_shape p = .inr (.inr (.inl (t, n)))) : x_hp m p = .inl (t, n, .inr (.inl (m.2.2.2 p))) := by unfold x_hp; rw [h]
theorem x_hp_r {m : x_m} {p t n : Nat} {f : Nat → Option Nat} (h : x_shape p = .inr (.inr (.inr (t, n, f)))) : x_hp m p = .inl (t, n, .inr (.inr (.inr (.inr f)))) := by unfold x_hp; rw [h]
theorem x_u2_row {α : Type} (f : Nat → Nat → α) {p a : Nat} (j : Nat) (v : α) (h : a ≠ p) : x_u2 f p j v a = f a := by
  funext b
  exact if_neg (fun z => h z.1)
theorem x_u2_own {α : Type} (f : Nat → Nat → α) (p j : Nat) (v : α) : x_u2 f p j v p = fun b => if b = j then v else f p b := by
  funext b
  by_cases h : b = j
  · exact (if_pos ⟨rfl, h⟩).trans (if_pos h).symm
  · exact (if_neg (fun z => h z.2)).trans (if_neg h).symm
theorem x_fs_get {m : x_m} {p : Nat} {tp : List (Nat ⊕ Bool)} {k : Nat} {e : Nat ⊕ Bool} (h : tp[k]? = some e) : (x_fs m p tp)[k]? = some (x_fv m p k e) := by
  unfold x_fs
  rw [List.getElem?_mapIdx, h]
  rfl
theorem x_fs_ne {m : x_m} {p q k : Nat} (v : Int32) (tp : List (Nat ⊕ Bool)) (h : q ≠ p) : x_fs (x_wS m p k v) q tp = x_fs m q tp := by
  unfold x_fs
  congr 1
  funext j e
  match e with
  | .inl c => rfl
  | .inr true => rfl
  | .inr false => exact congrArg Value.int (congrFun (x_u2_row m.1 k v h) j)
theorem x_fsR_ne {m : x_m} {p q k : Nat} (v : Nat) (tp : List (Nat ⊕ Bool)) (h : q ≠ p) : x_fs (x_wR m p k v) q tp = x_fs m q tp := by
  unfold x_fs
  congr 1
  funext j e
  match e with
  | .inl c => rfl
  | .inr true => exact congrArg Value.ref (congrFun (x_u2_row m.2.2.1 k v h) j)
  | .inr false => rfl
theorem x_fs_set {m : x_m} {p k : Nat} (v : Int32) {tp : List (Nat ⊕ Bool)} (h : tp[k]? = some (.inr false)) : (x_fs m p tp).set k (.int v) = x_fs (x_wS m p k v) p tp := by
  apply List.ext_getElem?
  intro j
  unfold x_fs
  by_cases e : j = k
  · subst e
    have hl : j < tp.length := (List.getElem?_eq_some_iff.mp h).1
    rw [List.getElem?_set_self (by rw [List.length_mapIdx]; exact hl), List.getElem?_mapIdx, h]
    show some (Value.int v) = some (.int (x_u2 m.1 p j v p j))
    rw [show x_u2 m.1 p j v p j = v from if_pos ⟨rfl, rfl⟩]
  · rw [List.getElem?_set_ne (Ne.symm e), List.getElem?_mapIdx, List.getElem?_mapIdx]
    cases hj : tp[j]? with
    | none => rfl
    | some x =>
      match x with
      | .inl c => rfl
      | .inr true => rfl
      | .inr false => exact congrArg (fun z => some (Value.int z)) (if_neg (fun z => e z.2)).symm
theorem x_fsR_set {m : x_m} {p k : Nat} (v : Nat) {tp : List (Nat ⊕ Bool)} (h : tp[k]? = some (.inr true)) : (x_fs m p tp).set k (.ref v) = x_fs (x_wR m p k v) p tp := by
  apply List.ext_getElem?
  intro j
  unfold x_fs
  by_cases e : j = k
  · subst e
    have hl : j < tp.length := (List.getElem?_eq_some_iff.mp h).1
    rw [List.getElem?_set_self (by rw [List.length_mapIdx]; exact hl), List.getElem?_mapIdx, h]
    show some (Value.ref v) = some (.ref (x_u2 m.2.2.1 p j v p j))
    rw [show x_u2 m.2.2.1 p j v p j = v from if_pos ⟨rfl, rfl⟩]
  · rw [List.getElem?_set_ne (Ne.symm e), List.getElem?_mapIdx, List.getElem?_mapIdx]
    cases hj : tp[j]? with
    | none => rfl
    | some x =>
      match x with
      | .inl c => rfl
      | .inr false => rfl
      | .inr true => exact congrArg (fun z => some (Value.ref z)) (if_neg (fun z => e z.2)).symm
theorem x_up_S {m : x_m} {p ci k : Nat} {tp : List (Nat ⊕ Bool)} (v : Int32) (hs : x_shape p = .inl (ci, tp)) (h : tp[k]? = some (.inr false)) : va_up (x_hp m) p (.inr (ci, (x_fs m p tp).set k (.int v))) = x_hp (x_wS m p k v) := by
  funext q
  by_cases e : q = p
  · subst e
    rw [va_up_self, x_hp_o hs, x_fs_set v h]
  · rw [va_up_ne _ _ e]
    unfold x_hp
    cases x_shape q with
    | inl z => show Sum.inr (z.1, _) = Sum.inr (z.1, _); rw [x_fs_ne v z.2 e]
    | inr z => match z with
      | .inl (t1, n1) => rfl
      | .inr (.inl (t1, n1)) => rfl
      | .inr (.inr (t1, n1, f1)) => rfl
theorem x_up_R {m : x_m} {p ci k : Nat} {tp : List (Nat ⊕ Bool)} (v : Nat) (hs : x_shape p = .inl (ci, tp)) (h : tp[k]? = some (.inr true)) : va_up (x_hp m) p (.inr (ci, (x_fs m p tp).set k (.ref v))) = x_hp (x_wR m p k v) := by
  funext q
  by_cases e : q = p
  · subst e
    rw [va_up_self, x_hp_o hs, x_fsR_set v h]
  · rw [va_up_ne _ _ e]
    unfold x_hp
    cases x_shape q with
    | inl z => show Sum.inr (z.1, _) = Sum.inr (z.1, _); rw [x_fsR_ne v z.2 e]
    | inr z => match z with
      | .inl (t1, n1) => rfl
      | .inr (.inl (t1, n1)) => rfl
      | .inr (.inr (t1, n1, f1)) => rfl
theorem x_up_A {m : x_m} {p t n : Nat} (j : Nat) (v : Int32) (hs : x_shape p = .inr (.inl (t, n))) : va_up (x_hp m) p (.inl (t, n, .inl (upd (m.2.1 p) j v))) = x_hp (x_wA m p j v) := by
  funext q
  by_cases e : q = p
  · subst e
    rw [va_up_self, x_hp_i hs]
    show _ = (Sum.inl (t, n, .inl (x_u2 m.2.1 q j v q)) : va_E)
    rw [x_u2_own]; rfl
  · rw [va_up_ne _ _ e]
    unfold x_hp
    cases x_shape q with
    | inl z => rfl
    | inr z =>
      match z with
      | .inl (t1, n1) =>
        show _ = (Sum.inl (t1, n1, .inl (x_u2 m.2.1 p j v q)) : va_E)
        rw [x_u2_row _ _ _ e]
      | .inr (.inl (t1, n1)) => rfl
      | .inr (.inr (t1, n1, f1)) => rfl
theorem x_up_L {m : x_m} {p t n : Nat} (j : Nat) (v : Int64) (hs : x_shape p = .inr (.inr (.inl (t, n)))) : va_up (x_hp m) p (.inl (t, n, .inr (.inl (vp_updL (m.2.2.2 p) j v)))) = x_hp (x_wL m p j v) := by
  funext q
  by_cases e : q = p
  · subst e
    rw [va_up_self, x_hp_l hs]
    show _ = (Sum.inl (t, n, .inr (.inl (x_u2 m.2.2.2 q j v q))) : va_E)
    rw [x_u2_own]; rfl
  · rw [va_up_ne _ _ e]
    unfold x_hp
    cases x_shape q with
    | inl z => rfl
    | inr z =>
      match z with
      | .inl (t1, n1) => rfl
      | .inr (.inl (t1, n1)) =>
        show _ = (Sum.inl (t1, n1, .inr (.inl (x_u2 m.2.2.2 p j v q))) : va_E)
        rw [x_u2_row _ _ _ e]
      | .inr (.inr (t1, n1, f1)) => rfl
end
section
/-! rows over the memory -/
def x_ix (i : Int32) (n : Nat) : Bool := decide (¬ i < 0) && decide (i.toNatClampNeg < n)
theorem x_ix_ok {i : Int32} {n : Nat} (h : x_ix i n = true) : vp_in i n := by
  simp only [x_ix, Bool.and_eq_true, decide_eq_true_eq] at h
  intro z
  rcases z with z | z
  · exact h.1 z
  · omega
theorem x_ix_lt {i : Int32} {n : Nat} (h : x_ix i n = true) : i.toNatClampNeg < n := by
  simp only [x_ix, Bool.and_eq_true, decide_eq_true_eq] at h
  exact h.2
def x_b1 (v : Int32) : Bool := decide (v = 0) || decide (v = 1)
theorem x_b1_ok {v : Int32} (h : x_b1 v = true) : narrow .boolean (.int v) = .int v ∧ fits .boolean (.int v) = true := by
  simp only [x_b1, Bool.or_eq_true, decide_eq_true_eq] at h
  rcases h with h | h <;> subst h <;> exact ⟨rfl, rfl⟩
/-- a constant of the enum -/
def x_kv (a : Nat) : Bool := decide (x_N ≤ a) && decide (a < x_N + 36)
def x_pi (r : Int32 × x_m) : x_P := fun o n h => o = .inl (some (.int r.1)) ∧ n = x_np ∧ h = x_hp r.2
def x_pj (r : Int64 × x_m) : x_P := fun o n h => o = .inl (some (.long r.1)) ∧ n = x_np ∧ h = x_hp r.2
def x_pr (r : Nat × x_m) : x_P := fun o n h => o = .inl (some (.ref r.1)) ∧ n = x_np ∧ h = x_hp r.2
def x_pv (r : x_m) : x_P := fun o n h => o = .inl none ∧ n = x_np ∧ h = x_hp r
/-- the room of a method that makes nothing, d calls deep -/
def x_rd (d : Nat) : Room := { frames := d, cells := 0, slots := 0, locals := 40 * d }
def x_kV (M2 : x_M) (C : String) (na : Nat) : Prop := x_cd M2 ∧ Cond.instanceMethod M2.1 ∈ x_tsl ∧ Cond.selects C M2.1 M2.1 ∈ x_tsl ∧ x_pl M2 ∧ (parseMethodDescriptor M2.1.desc).map (fun d => d.parameters.length) = some na
def x_kS (M2 : x_M) (na : Nat) : Prop := x_cd M2 ∧ Cond.static M2.1 ∈ x_tsl ∧ Cond.initialized M2.1.cls ∈ x_tsl ∧ x_pl M2 ∧ (parseMethodDescriptor M2.1.desc).map (fun d => d.parameters.length) = some na
section XM
variable {G : x_G} {M : x_M} {rm : Room} {Qf : List Frame → Array Value → State → State → Prop} {ex : Bool} {m : x_m} {cells slots : Nat} {lv : List (Nat × Value)} {st stk : List Value} {pc : Nat}
variable {index ci k p : Nat} {C : String} {T : u_T} {N : Nat} {tp : List (Nat ⊕ Bool)}
theorem x_gI (hd : decode M.2.1 pc = .ok (.getfield index, 3)) (hf : x_fl M index ci k C T N) (hs : x_shape p = .inl (ci, tp)) (hp : p < x_np) (ht : tp[k]? = some (.inr false))
    (kk : x_W G M rm Qf ex x_np (x_hp m) cells slots lv (.int (m.1 p k) :: st) (pc + 3)) : x_W G M rm Qf ex x_np (x_hp m) cells slots lv (.ref p :: st) pc :=
  x_getf hd hf hp (x_hp_o hs) (x_fs_get ht) kk
theorem x_gC {c : Nat} (hd : decode M.2.1 pc = .ok (.getfield index, 3)) (hf : x_fl M index ci k C T N) (hs : x_shape p = .inl (ci, tp)) (hp : p < x_np) (ht : tp[k]? = some (.inl c))
    (kk : x_W G M rm Qf ex x_np (x_hp m) cells slots lv (.ref c :: st) (pc + 3)) : x_W G M rm Qf ex x_np (x_hp m) cells slots lv (.ref p :: st) pc :=
  x_getf hd hf hp (x_hp_o hs) (x_fs_get ht) kk
theorem x_gR (hd : decode M.2.1 pc = .ok (.getfield index, 3)) (hf : x_fl M index ci k C T N) (hs : x_shape p = .inl (ci, tp)) (hp : p < x_np) (ht : tp[k]? = some (.inr true))
    (kk : x_W G M rm Qf ex x_np (x_hp m) cells slots lv (.ref (m.2.2.1 p k) :: st) (pc + 3)) : x_W G M rm Qf ex x_np (x_hp m) cells slots lv (.ref p :: st) pc :=
  x_getf hd hf hp (x_hp_o hs) (x_fs_get ht) kk
theorem x_pI {t0 : Nat → FieldType} {v : Int32} (hd : decode M.2.1 pc = .ok (.putfield index, 3)) (hf : x_fl M index ci k C T N) (hb : x_tb T N t0) (hfin : (T k).2.2.2 = false) (hs : x_shape p = .inl (ci, tp)) (hp : p < x_np) (ht : tp[k]? = some (.inr false)) (hn : narrow (t0 k) (.int v) = .int v ∧ fits (t0 k) (.int v) = true)
    (kk : x_W G M rm Qf ex x_np (x_hp (x_wS m p k v)) cells slots lv st (pc + 3)) : x_W G M rm Qf ex x_np (x_hp m) cells slots lv (.int v :: .ref p :: st) pc :=
  x_putf hd hf hb hfin hp (x_hp_o hs) (by rw [x_fs, List.length_mapIdx]; exact (List.getElem?_eq_some_iff.mp ht).1) hn.1 hn.2 (by rw [x_up_S v hs ht]; exact kk)
theorem x_pR {t0 : Nat → FieldType} {v : Nat} (hd : decode M.2.1 pc = .ok (.putfield index, 3)) (hf : x_fl M index ci k C T N) (hb : x_tb T N t0) (hfin : (T k).2.2.2 = false) (hs : x_shape p = .inl (ci, tp)) (hp : p < x_np) (ht : tp[k]? = some (.inr true)) (hn : narrow (t0 k) (.ref v) = .ref v ∧ fits (t0 k) (.ref v) = true)
    (kk : x_W G M rm Qf ex x_np (x_hp (x_wR m p k v)) cells slots lv st (pc + 3)) : x_W G M rm Qf ex x_np (x_hp m) cells slots lv (.ref v :: .ref p :: st) pc :=
  x_putf hd hf hb hfin hp (x_hp_o hs) (by rw [x_fs, List.length_mapIdx]; exact (List.getElem?_eq_some_iff.mp ht).1) hn.1 hn.2 (by rw [x_up_R v hs ht]; exact kk)
theorem x_lI {t len : Nat} {i : Int32} (hd : decode M.2.1 pc = .ok (.iaload, 1)) (ht : x_tl[t]? = some .int) (hs : x_shape p = .inr (.inl (t, len))) (hp : p < x_np) (hin : x_ix i len = true)
    (kk : x_W G M rm Qf ex x_np (x_hp m) cells slots lv (.int (m.2.1 p i.toNatClampNeg) :: st) (pc + 1)) : x_W G M rm Qf ex x_np (x_hp m) cells slots lv (.int i :: .ref p :: st) pc :=
  x_iald hd ht hp (x_hp_i hs) (x_ix_ok hin) kk
theorem x_lB {t len : Nat} {i : Int32} (hd : decode M.2.1 pc = .ok (.baload, 1)) (ht : x_tl[t]? = some .byte) (hs : x_shape p = .inr (.inl (t, len))) (hp : p < x_np) (hin : x_ix i len = true)
    (kk : x_W G M rm Qf ex x_np (x_hp m) cells slots lv (.int (m.2.1 p i.toNatClampNeg) :: st) (pc + 1)) : x_W G M rm Qf ex x_np (x_hp m) cells slots lv (.int i :: .ref p :: st) pc :=
  x_bald hd ht hp (x_hp_i hs) (x_ix_ok hin) kk
theorem x_lZ {t len : Nat} {i : Int32} (hd : decode M.2.1 pc = .ok (.baload, 1)) (ht : x_tl[t]? = some .boolean) (hs : x_shape p = .inr (.inl (t, len))) (hp : p < x_np) (hin : x_ix i len = true)
    (kk : x_W G M rm Qf ex x_np (x_hp m) cells slots lv (.int (m.2.1 p i.toNatClampNeg) :: st) (pc + 1)) : x_W G M rm Qf ex x_np (x_hp m) cells slots lv (.int i :: .ref p :: st) pc :=
  x_zald hd ht hp (x_hp_i hs) (x_ix_ok hin) kk
theorem x_sI {t len : Nat} {i x : Int32} (hd : decode M.2.1 pc = .ok (.iastore, 1)) (ht : x_tl[t]? = some .int) (hs : x_shape p = .inr (.inl (t, len))) (hp : p < x_np) (hin : x_ix i len = true)
    (kk : x_W G M rm Qf ex x_np (x_hp (x_wA m p i.toNatClampNeg x)) cells slots lv st (pc + 1)) : x_W G M rm Qf ex x_np (x_hp m) cells slots lv (.int x :: .int i :: .ref p :: st) pc :=
  x_iast hd ht hp (x_hp_i hs) (x_ix_ok hin) (by rw [x_up_A _ _ hs]; exact kk)
theorem x_sB {t len : Nat} {i x : Int32} (hd : decode M.2.1 pc = .ok (.bastore, 1)) (ht : x_tl[t]? = some .byte) (hs : x_shape p = .inr (.inl (t, len))) (hp : p < x_np) (hin : x_ix i len = true)
    (kk : x_W G M rm Qf ex x_np (x_hp (x_wA m p i.toNatClampNeg (vp_nar .byte x))) cells slots lv st (pc + 1)) : x_W G M rm Qf ex x_np (x_hp m) cells slots lv (.int x :: .int i :: .ref p :: st) pc :=
  x_bast hd ht hp (x_hp_i hs) (x_ix_ok hin) (by rw [x_up_A _ _ hs]; exact kk)
theorem x_sZ {t len : Nat} {i x : Int32} (hd : decode M.2.1 pc = .ok (.bastore, 1)) (ht : x_tl[t]? = some .boolean) (hs : x_shape p = .inr (.inl (t, len))) (hp : p < x_np) (hin : x_ix i len = true)
    (kk : x_W G M rm Qf ex x_np (x_hp (x_wA m p i.toNatClampNeg (vp_nar .boolean x))) cells slots lv st (pc + 1)) : x_W G M rm Qf ex x_np (x_hp m) cells slots lv (.int x :: .int i :: .ref p :: st) pc :=
  x_zast hd ht hp (x_hp_i hs) (x_ix_ok hin) (by rw [x_up_A _ _ hs]; exact kk)
theorem x_lL {t len : Nat} {i : Int32} (hd : decode M.2.1 pc = .ok (.laload, 1)) (ht : x_tl[t]? = some .long) (hs : x_shape p = .inr (.inr (.inl (t, len)))) (hp : p < x_np) (hin : x_ix i len = true)
    (kk : x_W G M rm Qf ex x_np (x_hp m) cells slots lv (.long (m.2.2.2 p i.toNatClampNeg) :: st) (pc + 1)) : x_W G M rm Qf ex x_np (x_hp m) cells slots lv (.int i :: .ref p :: st) pc :=
  x_lald hd ht hp (x_hp_l hs) (x_ix_ok hin) kk
theorem x_sL {t len : Nat} {i : Int32} {x : Int64} (hd : decode M.2.1 pc = .ok (.lastore, 1)) (ht : x_tl[t]? = some .long) (hs : x_shape p = .inr (.inr (.inl (t, len)))) (hp : p < x_np) (hin : x_ix i len = true)
    (kk : x_W G M rm Qf ex x_np (x_hp (x_wL m p i.toNatClampNeg x)) cells slots lv st (pc + 1)) : x_W G M rm Qf ex x_np (x_hp m) cells slots lv (.long x :: .int i :: .ref p :: st) pc :=
  x_last hd ht hp (x_hp_l hs) (x_ix_ok hin) (by rw [x_up_L _ _ hs]; exact kk)
theorem x_lR {t len b : Nat} {D : String} {f : Nat → Option Nat} {i : Int32} (hd : decode M.2.1 pc = .ok (.aaload, 1)) (ht : x_tl[t]? = some (.object D)) (hs : x_shape p = .inr (.inr (.inr (t, len, f)))) (hp : p < x_np) (hin : x_ix i len = true) (hb : f i.toNatClampNeg = some b)
    (kk : x_W G M rm Qf ex x_np (x_hp m) cells slots lv (.ref b :: st) (pc + 1)) : x_W G M rm Qf ex x_np (x_hp m) cells slots lv (.int i :: .ref p :: st) pc :=
  x_aald hd ht hp (x_hp_r hs) (x_ix_ok hin) hb kk
theorem x_lA {t len b : Nat} {ty : FieldType} {f : Nat → Option Nat} {i : Int32} (hd : decode M.2.1 pc = .ok (.aaload, 1)) (ht : x_tl[t]? = some (.array ty)) (hs : x_shape p = .inr (.inr (.inr (t, len, f)))) (hp : p < x_np) (hin : x_ix i len = true) (hb : f i.toNatClampNeg = some b)
    (kk : x_W G M rm Qf ex x_np (x_hp m) cells slots lv (.ref b :: st) (pc + 1)) : x_W G M rm Qf ex x_np (x_hp m) cells slots lv (.int i :: .ref p :: st) pc :=
  x_aaldA hd ht hp (x_hp_r hs) (x_ix_ok hin) hb kk
theorem x_ldc {v : Int32} (hd : decode M.2.1 pc = .ok (.ldc index, 2)) (hc : Cond.constant M.1.cls index v ∈ x_tsl) {n : Nat} {h : x_h} (kk : x_W G M rm Qf ex n h cells slots lv (.int v :: st) (pc + 2)) : x_W G M rm Qf ex n h cells slots lv st pc :=
  fun p e s m args below meth c F H locs ls hH hS hl => lv_ldc F.1 F.2.1 F.2.2.2.2.2.1 (F.2.2.2.2.2.2.2.2.1 _ hc) hd (kk p e s m args below meth c F H locs ls hH hS hl)
theorem x_ldc2 {v : Int64} (hd : decode M.2.1 pc = .ok (.ldc2_w index, 3)) (hc : Cond.constantLong M.1.cls index v ∈ x_tsl) {n : Nat} {h : x_h} (kk : x_W G M rm Qf ex n h cells slots lv (.long v :: st) (pc + 3)) : x_W G M rm Qf ex n h cells slots lv st pc :=
  fun p e s m args below meth c F H locs ls hH hS hl => lv_ldc2 F.1 F.2.1 F.2.2.2.2.2.1 (F.2.2.2.2.2.2.2.2.1 _ hc) hd (kk p e s m args below meth c F H locs ls hH hS hl)
theorem x_ri {d : Nat} {ty : FieldType} {v : Int32} (hd : decode M.2.1 pc = .ok (.ireturn, 1)) (hr : M.2.2.2.1 = some ty) (hn : narrow ty (.int v) = .int v) : x_W G M (x_rd d) (x_Q G (x_rd d) ex (x_pi (v, m))) ex x_np (x_hp m) 0 0 lv [.int v] pc := x_iret hd hr hn (Nat.le_refl 0) (Nat.le_refl 0) ⟨rfl, rfl, rfl⟩
theorem x_rj {d : Nat} {v : Int64} (hd : decode M.2.1 pc = .ok (.lreturn, 1)) (hr : M.2.2.2.1 = some .long) : x_W G M (x_rd d) (x_Q G (x_rd d) ex (x_pj (v, m))) ex x_np (x_hp m) 0 0 lv [.long v] pc := x_lret hd hr (Nat.le_refl 0) (Nat.le_refl 0) ⟨rfl, rfl, rfl⟩
theorem x_rr {d k : Nat} {rt : FieldType} (hd : decode M.2.1 pc = .ok (.areturn, 1)) (hr : M.2.2.2.1 = some rt) (hrt : (∃ n, rt = .object n) ∨ ∃ t, rt = .array t) : x_W G M (x_rd d) (x_Q G (x_rd d) ex (x_pr (k, m))) ex x_np (x_hp m) 0 0 lv [.ref k] pc := x_aret hd hr hrt (Nat.le_refl 0) (Nat.le_refl 0) ⟨rfl, rfl, rfl⟩
theorem x_rv {d : Nat} (hd : decode M.2.1 pc = .ok (.return_, 1)) (hr : M.2.2.2.1 = none) : x_W G M (x_rd d) (x_Q G (x_rd d) ex (x_pv m)) ex x_np (x_hp m) 0 0 lv [] pc := x_vret hd hr (Nat.le_refl 0) (Nat.le_refl 0) ⟨rfl, rfl, rfl⟩
theorem x_cVi {M2 : x_M} {d d2 b na : Nat} {As : List Value} {r : Int32 × x_m} (hd : decode M.2.1 pc = .ok (.invokevirtual index, 3)) (hlk : Cond.methodLink M.1.cls index M2.1 ∈ x_tsl) (hk : x_kV M2 C na) (hR : x_R G M2 (x_rd d2) ex (.ref b :: As) x_np (x_hp m) (x_pi r)) (hcl : vwCl[ci]? = some (C, T, N)) (hs : x_shape b = .inl (ci, tp)) (hb : b < x_np) (hna : As.length = na)
    (hrm : x_rm (x_rd d) (x_rd d2) M2) (hal : (lg_sl (.ref b :: As)).length ≤ M2.2.2.1) (hw : (st.map fun v => v.category).sum ≤ 8) (hst : stk = As.reverse ++ .ref b :: st)
    (kk : x_W G M (x_rd d) Qf ex x_np (x_hp r.2) 0 0 lv (.int r.1 :: st) (pc + 3)) : x_W G M (x_rd d) Qf ex x_np (x_hp m) 0 0 lv stk pc := by
  obtain ⟨k1, k2, k3, k4, k5⟩ := hk
  subst hna
  refine x_callV hd hR k1 hlk k2 k3 k4 k5 hb (x_hp_o hs) hcl hrm (Nat.le_refl 0) (Nat.le_refl 0) hal hw hst ?_ ?_
  · rintro v n' h' ⟨h1, rfl, rfl⟩
    cases h1
    exact kk
  · rintro Y n' h' ⟨h1, -, -⟩
    cases h1
theorem x_cSi {M2 : x_M} {d d2 na : Nat} {As : List Value} {r : Int32 × x_m} (hd : decode M.2.1 pc = .ok (.invokestatic index, 3)) (hlk : Cond.methodLink M.1.cls index M2.1 ∈ x_tsl) (hk : x_kS M2 na) (hR : x_R G M2 (x_rd d2) ex As x_np (x_hp m) (x_pi r)) (hna : As.length = na)
    (hrm : x_rm (x_rd d) (x_rd d2) M2) (hal : (lg_sl As).length ≤ M2.2.2.1) (hw : (st.map fun v => v.category).sum ≤ 8) (hst : stk = As.reverse ++ st)
    (kk : x_W G M (x_rd d) Qf ex x_np (x_hp r.2) 0 0 lv (.int r.1 :: st) (pc + 3)) : x_W G M (x_rd d) Qf ex x_np (x_hp m) 0 0 lv stk pc := by
  obtain ⟨k1, k2, k3, k4, k5⟩ := hk
  subst hna
  refine x_callS hd hR k1 hlk k2 k3 k4 k5 hrm (Nat.le_refl 0) (Nat.le_refl 0) hal hw hst ?_ ?_
  · rintro v n' h' ⟨h1, rfl, rfl⟩
    cases h1
    exact kk
  · rintro Y n' h' ⟨h1, -, -⟩
    cases h1
theorem x_cVj {M2 : x_M} {d d2 b na : Nat} {As : List Value} {r : Int64 × x_m} (hd : decode M.2.1 pc = .ok (.invokevirtual index, 3)) (hlk : Cond.methodLink M.1.cls index M2.1 ∈ x_tsl) (hk : x_kV M2 C na) (hR : x_R G M2 (x_rd d2) ex (.ref b :: As) x_np (x_hp m) (x_pj r)) (hcl : vwCl[ci]? = some (C, T, N)) (hs : x_shape b = .inl (ci, tp)) (hb : b < x_np) (hna : As.length = na)
    (hrm : x_rm (x_rd d) (x_rd d2) M2) (hal : (lg_sl (.ref b :: As)).length ≤ M2.2.2.1) (hw : (st.map fun v => v.category).sum ≤ 8) (hst : stk = As.reverse ++ .ref b :: st)
    (kk : x_W G M (x_rd d) Qf ex x_np (x_hp r.2) 0 0 lv (.long r.1 :: st) (pc + 3)) : x_W G M (x_rd d) Qf ex x_np (x_hp m) 0 0 lv stk pc := by
  obtain ⟨k1, k2, k3, k4, k5⟩ := hk
  subst hna
  refine x_callV hd hR k1 hlk k2 k3 k4 k5 hb (x_hp_o hs) hcl hrm (Nat.le_refl 0) (Nat.le_refl 0) hal hw hst ?_ ?_
  · rintro v n' h' ⟨h1, rfl, rfl⟩
    cases h1
    exact kk
  · rintro Y n' h' ⟨h1, -, -⟩
    cases h1
theorem x_cSj {M2 : x_M} {d d2 na : Nat} {As : List Value} {r : Int64 × x_m} (hd : decode M.2.1 pc = .ok (.invokestatic index, 3)) (hlk : Cond.methodLink M.1.cls index M2.1 ∈ x_tsl) (hk : x_kS M2 na) (hR : x_R G M2 (x_rd d2) ex As x_np (x_hp m) (x_pj r)) (hna : As.length = na)
    (hrm : x_rm (x_rd d) (x_rd d2) M2) (hal : (lg_sl As).length ≤ M2.2.2.1) (hw : (st.map fun v => v.category).sum ≤ 8) (hst : stk = As.reverse ++ st)
    (kk : x_W G M (x_rd d) Qf ex x_np (x_hp r.2) 0 0 lv (.long r.1 :: st) (pc + 3)) : x_W G M (x_rd d) Qf ex x_np (x_hp m) 0 0 lv stk pc := by
  obtain ⟨k1, k2, k3, k4, k5⟩ := hk
  subst hna
  refine x_callS hd hR k1 hlk k2 k3 k4 k5 hrm (Nat.le_refl 0) (Nat.le_refl 0) hal hw hst ?_ ?_
  · rintro v n' h' ⟨h1, rfl, rfl⟩
    cases h1
    exact kk
  · rintro Y n' h' ⟨h1, -, -⟩
    cases h1
theorem x_cVr {M2 : x_M} {d d2 b na : Nat} {As : List Value} {r : Nat × x_m} (hd : decode M.2.1 pc = .ok (.invokevirtual index, 3)) (hlk : Cond.methodLink M.1.cls index M2.1 ∈ x_tsl) (hk : x_kV M2 C na) (hR : x_R G M2 (x_rd d2) ex (.ref b :: As) x_np (x_hp m) (x_pr r)) (hcl : vwCl[ci]? = some (C, T, N)) (hs : x_shape b = .inl (ci, tp)) (hb : b < x_np) (hna : As.length = na)
    (hrm : x_rm (x_rd d) (x_rd d2) M2) (hal : (lg_sl (.ref b :: As)).length ≤ M2.2.2.1) (hw : (st.map fun v => v.category).sum ≤ 8) (hst : stk = As.reverse ++ .ref b :: st)
    (kk : x_W G M (x_rd d) Qf ex x_np (x_hp r.2) 0 0 lv (.ref r.1 :: st) (pc + 3)) : x_W G M (x_rd d) Qf ex x_np (x_hp m) 0 0 lv stk pc := by
  obtain ⟨k1, k2, k3, k4, k5⟩ := hk
  subst hna
  refine x_callV hd hR k1 hlk k2 k3 k4 k5 hb (x_hp_o hs) hcl hrm (Nat.le_refl 0) (Nat.le_refl 0) hal hw hst ?_ ?_
  · rintro v n' h' ⟨h1, rfl, rfl⟩
    cases h1
    exact kk
  · rintro Y n' h' ⟨h1, -, -⟩
    cases h1
theorem x_cSr {M2 : x_M} {d d2 na : Nat} {As : List Value} {r : Nat × x_m} (hd : decode M.2.1 pc = .ok (.invokestatic index, 3)) (hlk : Cond.methodLink M.1.cls index M2.1 ∈ x_tsl) (hk : x_kS M2 na) (hR : x_R G M2 (x_rd d2) ex As x_np (x_hp m) (x_pr r)) (hna : As.length = na)
    (hrm : x_rm (x_rd d) (x_rd d2) M2) (hal : (lg_sl As).length ≤ M2.2.2.1) (hw : (st.map fun v => v.category).sum ≤ 8) (hst : stk = As.reverse ++ st)
    (kk : x_W G M (x_rd d) Qf ex x_np (x_hp r.2) 0 0 lv (.ref r.1 :: st) (pc + 3)) : x_W G M (x_rd d) Qf ex x_np (x_hp m) 0 0 lv stk pc := by
  obtain ⟨k1, k2, k3, k4, k5⟩ := hk
  subst hna
  refine x_callS hd hR k1 hlk k2 k3 k4 k5 hrm (Nat.le_refl 0) (Nat.le_refl 0) hal hw hst ?_ ?_
  · rintro v n' h' ⟨h1, rfl, rfl⟩
    cases h1
    exact kk
  · rintro Y n' h' ⟨h1, -, -⟩
    cases h1
theorem x_cVv {M2 : x_M} {d d2 b na : Nat} {As : List Value} {r : x_m} (hd : decode M.2.1 pc = .ok (.invokevirtual index, 3)) (hlk : Cond.methodLink M.1.cls index M2.1 ∈ x_tsl) (hk : x_kV M2 C na) (hR : x_R G M2 (x_rd d2) ex (.ref b :: As) x_np (x_hp m) (x_pv r)) (hcl : vwCl[ci]? = some (C, T, N)) (hs : x_shape b = .inl (ci, tp)) (hb : b < x_np) (hna : As.length = na)
    (hrm : x_rm (x_rd d) (x_rd d2) M2) (hal : (lg_sl (.ref b :: As)).length ≤ M2.2.2.1) (hw : (st.map fun v => v.category).sum ≤ 8) (hst : stk = As.reverse ++ .ref b :: st)
    (kk : x_W G M (x_rd d) Qf ex x_np (x_hp r) 0 0 lv (st) (pc + 3)) : x_W G M (x_rd d) Qf ex x_np (x_hp m) 0 0 lv stk pc := by
  obtain ⟨k1, k2, k3, k4, k5⟩ := hk
  subst hna
  refine x_callV hd hR k1 hlk k2 k3 k4 k5 hb (x_hp_o hs) hcl hrm (Nat.le_refl 0) (Nat.le_refl 0) hal hw hst ?_ ?_
  · rintro v n' h' ⟨h1, rfl, rfl⟩
    cases h1
    exact kk
  · rintro Y n' h' ⟨h1, -, -⟩
    cases h1
theorem x_cSv {M2 : x_M} {d d2 na : Nat} {As : List Value} {r : x_m} (hd : decode M.2.1 pc = .ok (.invokestatic index, 3)) (hlk : Cond.methodLink M.1.cls index M2.1 ∈ x_tsl) (hk : x_kS M2 na) (hR : x_R G M2 (x_rd d2) ex As x_np (x_hp m) (x_pv r)) (hna : As.length = na)
    (hrm : x_rm (x_rd d) (x_rd d2) M2) (hal : (lg_sl As).length ≤ M2.2.2.1) (hw : (st.map fun v => v.category).sum ≤ 8) (hst : stk = As.reverse ++ st)
    (kk : x_W G M (x_rd d) Qf ex x_np (x_hp r) 0 0 lv (st) (pc + 3)) : x_W G M (x_rd d) Qf ex x_np (x_hp m) 0 0 lv stk pc := by
  obtain ⟨k1, k2, k3, k4, k5⟩ := hk
  subst hna
  refine x_callS hd hR k1 hlk k2 k3 k4 k5 hrm (Nat.le_refl 0) (Nat.le_refl 0) hal hw hst ?_ ?_
  · rintro v n' h' ⟨h1, rfl, rfl⟩
    cases h1
    exact kk
  · rintro Y n' h' ⟨h1, -, -⟩
    cases h1
end XM
end
section
def x_DM (p : Nat) : Prop := ∃ d, d < 8 ∧ p = 9 + 13 * d
def x_QB (p : Nat) : Prop := p = 115 ∨ p = 251
def x_CN (p : Nat) : Prop := p = 121 ∨ p = 257
def x_CP (p : Nat) : Prop := ∃ b i, x_QB b ∧ i < 60 ∧ p = b + 16 + 2 * i
def x_MQ (p : Nat) : Prop := p = 395 ∨ p = 409
def x_qb (p : Nat) : Bool := decide (p = 115) || decide (p = 251)
def x_mq (p : Nat) : Bool := decide (p = 395) || decide (p = 409)
theorem x_qb_ok {p : Nat} (h : x_qb p = true) : x_QB p := by simpa [x_qb, x_QB] using h
theorem x_mq_ok {p : Nat} (h : x_mq p = true) : x_MQ p := by simpa [x_mq, x_MQ] using h
theorem x_DM_of {i : Nat} (h : i < 8) : x_DM (9 + 13 * i) := ⟨i, h, rfl⟩
theorem x_CN_of {b : Nat} (h : x_QB b) : x_CN (b + 6) := by rcases h with rfl | rfl; exact Or.inl rfl; exact Or.inr rfl
theorem x_CP_of {p i : Nat} (h : x_CN p) (hi : i < 60) : x_CP (p + 10 + 2 * i) := by rcases h with rfl | rfl; exact ⟨115, i, Or.inl rfl, hi, by omega⟩; exact ⟨251, i, Or.inr rfl, hi, by omega⟩
theorem sh_QR : x_shape 0 = .inl (0, [.inl (1), .inl (3), .inl (4), .inl (113), .inl (114)]) := rfl
theorem hp_QR : 0 < x_np := by decide
theorem sh_TX : x_shape 1 = .inl (1, [.inl (2), .inr false]) := rfl
theorem hp_TX : 1 < x_np := by decide
theorem sh_LX : x_shape 3 = .inl (2, [.inl (1), .inr true, .inr false, .inr false, .inr false, .inr false, .inr false, .inr false, .inr false]) := rfl
theorem hp_LX : 3 < x_np := by decide
theorem sh_CT : x_shape 4 = .inl (3, [.inl (5), .inl (8), .inr false, .inr false, .inr false]) := rfl
theorem hp_CT : 4 < x_np := by decide
theorem sh_NM : x_shape 5 = .inl (4, [.inl (6), .inl (7)]) := rfl
theorem hp_NM : 5 < x_np := by decide
theorem sh_CG : x_shape 113 = .inl (6, [.inl (3), .inl (4), .inl (5)]) := rfl
theorem hp_CG : 113 < x_np := by decide
theorem sh_QG : x_shape 114 = .inl (7, [.inl (3), .inl (4), .inl (5), .inr true, .inr true]) := rfl
theorem hp_QG : 114 < x_np := by decide
theorem sh_MD : x_shape 387 = .inl (11, [.inl (x_N + 37), .inr false, .inr false, .inl (388), .inr false, .inr false, .inr false, .inr false, .inr false, .inr false, .inr false, .inr false, .inr false, .inr false, .inl (389), .inl (390), .inl (391), .inl (392), .inr false, .inl (393), .inl (394), .inr true, .inr true, .inr false, .inr false, .inr false, .inl (423)]) := rfl
theorem hp_MD : 387 < x_np := by decide
theorem sa_TX_bytes : x_shape 2 = .inr (.inl (1, 65536)) := rfl
theorem ha_TX_bytes : 2 < x_np := by decide
theorem sa_NM_letters : x_shape 6 = .inr (.inl (1, 1920)) := rfl
theorem ha_NM_letters : 6 < x_np := by decide
theorem sa_NM_lengths : x_shape 7 = .inr (.inl (0, 48)) := rfl
theorem ha_NM_lengths : 7 < x_np := by decide
theorem sa_MD_text : x_shape 388 = .inr (.inl (1, 65536)) := rfl
theorem ha_MD_text : 388 < x_np := by decide
theorem sa_MD_levels : x_shape 389 = .inr (.inl (0, 8)) := rfl
theorem ha_MD_levels : 389 < x_np := by decide
theorem sa_MD_members : x_shape 390 = .inr (.inl (0, 8)) := rfl
theorem ha_MD_members : 390 < x_np := by decide
theorem sa_MD_values : x_shape 391 = .inr (.inl (0, 32000)) := rfl
theorem ha_MD_values : 391 < x_np := by decide
theorem sa_MD_picked : x_shape 392 = .inr (.inl (0, 8)) := rfl
theorem ha_MD_picked : 392 < x_np := by decide
theorem sa_MD_letters : x_shape 393 = .inr (.inl (1, 1920)) := rfl
theorem ha_MD_letters : 393 < x_np := by decide
theorem sa_MD_lengths : x_shape 394 = .inr (.inl (0, 48)) := rfl
theorem ha_MD_lengths : 394 < x_np := by decide
theorem sa_MD_pile : x_shape 423 = .inr (.inl (2, 64)) := rfl
theorem ha_MD_pile : 423 < x_np := by decide
theorem sa_CT_dimensions : x_shape 8 = .inr (.inr (.inr (4, 8, fun i => if i < 8 then some (9 + 13 * i) else none))) := rfl
theorem ha_CT_dimensions : 8 < x_np := by decide
theorem sa_OUT : x_shape 424 = .inr (.inr (.inl (3, 1))) := rfl
theorem ha_OUT : 424 < x_np := by decide
theorem sh_DM {p : Nat} (h : x_DM p) : x_shape (p) = .inl (5, [.inr false, .inr false, .inr false, .inl (p + 1), .inl (p + 6), .inl (p + 7), .inl (p + 12)]) := by
  obtain ⟨d, hd, rfl⟩ := h
  exact match d, hd with
    | 0, _ => rfl
    | 1, _ => rfl
    | 2, _ => rfl
    | 3, _ => rfl
    | 4, _ => rfl
    | 5, _ => rfl
    | 6, _ => rfl
    | 7, _ => rfl
theorem sa_DM_values {p : Nat} (h : x_DM p) : x_shape (p + 1) = .inr (.inr (.inr (6, 4, fun i => if i < 4 then some (p + 2 + i) else none))) := by
  obtain ⟨d, hd, rfl⟩ := h
  exact match d, hd with
    | 0, _ => rfl
    | 1, _ => rfl
    | 2, _ => rfl
    | 3, _ => rfl
    | 4, _ => rfl
    | 5, _ => rfl
    | 6, _ => rfl
    | 7, _ => rfl
theorem sa_DM_sorted {p : Nat} (h : x_DM p) : x_shape (p + 7) = .inr (.inr (.inr (6, 4, fun i => if i < 4 then some (p + 8 + i) else none))) := by
  obtain ⟨d, hd, rfl⟩ := h
  exact match d, hd with
    | 0, _ => rfl
    | 1, _ => rfl
    | 2, _ => rfl
    | 3, _ => rfl
    | 4, _ => rfl
    | 5, _ => rfl
    | 6, _ => rfl
    | 7, _ => rfl
theorem sa_DM_rows {p : Nat} (h : x_DM p) : x_shape (p + 6) = .inr (.inl (0, 1000)) := by
  obtain ⟨d, hd, rfl⟩ := h
  exact match d, hd with
    | 0, _ => rfl
    | 1, _ => rfl
    | 2, _ => rfl
    | 3, _ => rfl
    | 4, _ => rfl
    | 5, _ => rfl
    | 6, _ => rfl
    | 7, _ => rfl
theorem sa_DM_sortedCounts {p : Nat} (h : x_DM p) : x_shape (p + 12) = .inr (.inl (0, 4)) := by
  obtain ⟨d, hd, rfl⟩ := h
  exact match d, hd with
    | 0, _ => rfl
    | 1, _ => rfl
    | 2, _ => rfl
    | 3, _ => rfl
    | 4, _ => rfl
    | 5, _ => rfl
    | 6, _ => rfl
    | 7, _ => rfl
theorem sa_DM_vrow {p j : Nat} (h : x_DM p) (hj : j < 4) : x_shape (p + 2 + j) = .inr (.inl (0, 1000)) := by
  obtain ⟨d, hd, rfl⟩ := h
  exact match d, hd, j, hj with
    | 0, _, 0, _ => rfl
    | 0, _, 1, _ => rfl
    | 0, _, 2, _ => rfl
    | 0, _, 3, _ => rfl
    | 1, _, 0, _ => rfl
    | 1, _, 1, _ => rfl
    | 1, _, 2, _ => rfl
    | 1, _, 3, _ => rfl
    | 2, _, 0, _ => rfl
    | 2, _, 1, _ => rfl
    | 2, _, 2, _ => rfl
    | 2, _, 3, _ => rfl
    | 3, _, 0, _ => rfl
    | 3, _, 1, _ => rfl
    | 3, _, 2, _ => rfl
    | 3, _, 3, _ => rfl
    | 4, _, 0, _ => rfl
    | 4, _, 1, _ => rfl
    | 4, _, 2, _ => rfl
    | 4, _, 3, _ => rfl
    | 5, _, 0, _ => rfl
    | 5, _, 1, _ => rfl
    | 5, _, 2, _ => rfl
    | 5, _, 3, _ => rfl
    | 6, _, 0, _ => rfl
    | 6, _, 1, _ => rfl
    | 6, _, 2, _ => rfl
    | 6, _, 3, _ => rfl
    | 7, _, 0, _ => rfl
    | 7, _, 1, _ => rfl
    | 7, _, 2, _ => rfl
    | 7, _, 3, _ => rfl
theorem sa_DM_srow {p j : Nat} (h : x_DM p) (hj : j < 4) : x_shape (p + 8 + j) = .inr (.inl (0, 1000)) := by
  obtain ⟨d, hd, rfl⟩ := h
  exact match d, hd, j, hj with
    | 0, _, 0, _ => rfl
    | 0, _, 1, _ => rfl
    | 0, _, 2, _ => rfl
    | 0, _, 3, _ => rfl
    | 1, _, 0, _ => rfl
    | 1, _, 1, _ => rfl
    | 1, _, 2, _ => rfl
    | 1, _, 3, _ => rfl
    | 2, _, 0, _ => rfl
    | 2, _, 1, _ => rfl
    | 2, _, 2, _ => rfl
    | 2, _, 3, _ => rfl
    | 3, _, 0, _ => rfl
    | 3, _, 1, _ => rfl
    | 3, _, 2, _ => rfl
    | 3, _, 3, _ => rfl
    | 4, _, 0, _ => rfl
    | 4, _, 1, _ => rfl
    | 4, _, 2, _ => rfl
    | 4, _, 3, _ => rfl
    | 5, _, 0, _ => rfl
    | 5, _, 1, _ => rfl
    | 5, _, 2, _ => rfl
    | 5, _, 3, _ => rfl
    | 6, _, 0, _ => rfl
    | 6, _, 1, _ => rfl
    | 6, _, 2, _ => rfl
    | 6, _, 3, _ => rfl
    | 7, _, 0, _ => rfl
    | 7, _, 1, _ => rfl
    | 7, _, 2, _ => rfl
    | 7, _, 3, _ => rfl
theorem x_DM_lt {p : Nat} (h : x_DM p) : p + 12 < x_np := by obtain ⟨d, hd, rfl⟩ := h; show _ < 425; omega
theorem hp_DM {p : Nat} (h : x_DM p) : p < x_np := Nat.lt_of_le_of_lt (Nat.le_add_right p 12) (x_DM_lt h)
theorem ha_DM_values {p : Nat} (h : x_DM p) : p + 1 < x_np := by have h2 : p + 12 < 425 := x_DM_lt h; show _ < 425; omega
theorem ha_DM_rows {p : Nat} (h : x_DM p) : p + 6 < x_np := by have h2 : p + 12 < 425 := x_DM_lt h; show _ < 425; omega
theorem ha_DM_sorted {p : Nat} (h : x_DM p) : p + 7 < x_np := by have h2 : p + 12 < 425 := x_DM_lt h; show _ < 425; omega
theorem ha_DM_sortedCounts {p : Nat} (h : x_DM p) : p + 12 < x_np := by have h2 : p + 12 < 425 := x_DM_lt h; show _ < 425; omega
theorem ha_DM_vrow {p j : Nat} (h : x_DM p) (hj : j < 4) : p + 2 + j < x_np := by have h2 : p + 12 < 425 := x_DM_lt h; show _ < 425; omega
theorem ha_DM_srow {p j : Nat} (h : x_DM p) (hj : j < 4) : p + 8 + j < x_np := by have h2 : p + 12 < 425 := x_DM_lt h; show _ < 425; omega
theorem sh_QU {p : Nat} (h : x_QB p) : x_shape (p) = .inl (8, [.inr false, .inl (p + 1), .inl (p + 2), .inl (p + 3), .inr false, .inl (p + 4), .inr false, .inl (p + 5), .inl (p + 6)]) := by
  rcases h with rfl | rfl
  · rfl
  · rfl
theorem hp_QU {p : Nat} (h : x_QB p) : p < x_np := by
  rcases h with rfl | rfl <;> decide
theorem sa_QU_itemTypes {p : Nat} (h : x_QB p) : x_shape (p + 1) = .inr (.inl (0, 24)) := by
  rcases h with rfl | rfl
  · rfl
  · rfl
theorem ha_QU_itemTypes {p : Nat} (h : x_QB p) : p + 1 < x_np := by
  rcases h with rfl | rfl <;> decide
theorem sa_QU_itemTargets {p : Nat} (h : x_QB p) : x_shape (p + 2) = .inr (.inl (0, 24)) := by
  rcases h with rfl | rfl
  · rfl
  · rfl
theorem ha_QU_itemTargets {p : Nat} (h : x_QB p) : p + 2 < x_np := by
  rcases h with rfl | rfl <;> decide
theorem sa_QU_itemPlaces {p : Nat} (h : x_QB p) : x_shape (p + 3) = .inr (.inl (0, 24)) := by
  rcases h with rfl | rfl
  · rfl
  · rfl
theorem ha_QU_itemPlaces {p : Nat} (h : x_QB p) : p + 3 < x_np := by
  rcases h with rfl | rfl <;> decide
theorem sa_QU_columns {p : Nat} (h : x_QB p) : x_shape (p + 4) = .inr (.inl (0, 8)) := by
  rcases h with rfl | rfl
  · rfl
  · rfl
theorem ha_QU_columns {p : Nat} (h : x_QB p) : p + 4 < x_np := by
  rcases h with rfl | rfl <;> decide
theorem sa_QU_sets {p : Nat} (h : x_QB p) : x_shape (p + 5) = .inr (.inl (0, 32)) := by
  rcases h with rfl | rfl
  · rfl
  · rfl
theorem ha_QU_sets {p : Nat} (h : x_QB p) : p + 5 < x_np := by
  rcases h with rfl | rfl <;> decide
theorem sh_CN {p : Nat} (h : x_CN p) : x_shape (p) = .inl (9, [.inr false, .inr false, .inl (p + 1), .inr false, .inl (p + 2), .inl (p + 3), .inl (p + 4), .inl (p + 5), .inl (p + 6), .inl (p + 7), .inl (p + 8), .inl (p + 9)]) := by
  rcases h with rfl | rfl
  · rfl
  · rfl
theorem hp_CN {p : Nat} (h : x_CN p) : p < x_np := by
  rcases h with rfl | rfl <;> decide
theorem sa_CN_comparisons {p : Nat} (h : x_CN p) : x_shape (p + 1) = .inr (.inr (.inr (5, 60, fun i => if i < 60 then some (p + 10 + 2 * i) else none))) := by
  rcases h with rfl | rfl
  · rfl
  · rfl
theorem ha_CN_comparisons {p : Nat} (h : x_CN p) : p + 1 < x_np := by
  rcases h with rfl | rfl <;> decide
theorem sa_CN_lefts {p : Nat} (h : x_CN p) : x_shape (p + 2) = .inr (.inl (0, 59)) := by
  rcases h with rfl | rfl
  · rfl
  · rfl
theorem ha_CN_lefts {p : Nat} (h : x_CN p) : p + 2 < x_np := by
  rcases h with rfl | rfl <;> decide
theorem sa_CN_rights {p : Nat} (h : x_CN p) : x_shape (p + 3) = .inr (.inl (0, 59)) := by
  rcases h with rfl | rfl
  · rfl
  · rfl
theorem ha_CN_rights {p : Nat} (h : x_CN p) : p + 3 < x_np := by
  rcases h with rfl | rfl <;> decide
theorem sa_CN_isAnd {p : Nat} (h : x_CN p) : x_shape (p + 4) = .inr (.inl (2, 59)) := by
  rcases h with rfl | rfl
  · rfl
  · rfl
theorem ha_CN_isAnd {p : Nat} (h : x_CN p) : p + 4 < x_np := by
  rcases h with rfl | rfl <;> decide
theorem sa_CN_isNegated {p : Nat} (h : x_CN p) : x_shape (p + 5) = .inr (.inl (2, 119)) := by
  rcases h with rfl | rfl
  · rfl
  · rfl
theorem ha_CN_isNegated {p : Nat} (h : x_CN p) : p + 5 < x_np := by
  rcases h with rfl | rfl <;> decide
theorem sa_CN_truths {p : Nat} (h : x_CN p) : x_shape (p + 6) = .inr (.inl (2, 119)) := by
  rcases h with rfl | rfl
  · rfl
  · rfl
theorem ha_CN_truths {p : Nat} (h : x_CN p) : p + 6 < x_np := by
  rcases h with rfl | rfl <;> decide
theorem sa_CN_beforeOr {p : Nat} (h : x_CN p) : x_shape (p + 7) = .inr (.inl (0, 41)) := by
  rcases h with rfl | rfl
  · rfl
  · rfl
theorem ha_CN_beforeOr {p : Nat} (h : x_CN p) : p + 7 < x_np := by
  rcases h with rfl | rfl <;> decide
theorem sa_CN_beforeAnd {p : Nat} (h : x_CN p) : x_shape (p + 8) = .inr (.inl (0, 41)) := by
  rcases h with rfl | rfl
  · rfl
  · rfl
theorem ha_CN_beforeAnd {p : Nat} (h : x_CN p) : p + 8 < x_np := by
  rcases h with rfl | rfl <;> decide
theorem sa_CN_isNotAhead {p : Nat} (h : x_CN p) : x_shape (p + 9) = .inr (.inl (2, 41)) := by
  rcases h with rfl | rfl
  · rfl
  · rfl
theorem ha_CN_isNotAhead {p : Nat} (h : x_CN p) : p + 9 < x_np := by
  rcases h with rfl | rfl <;> decide
theorem x_CP_at (b i j : Nat) (hb : x_QB b) (hi : i < 60) (hj : j < 2) : x_shape (b + 16 + 2 * i + j) = x_shQ b (2 * i + j + 16) := by
  rcases hb with rfl | rfl
  · unfold x_shape
    rw [if_neg (by omega), if_neg (by omega), if_neg (by omega), if_neg (by omega), if_pos (by omega)]
    exact congrArg (x_shQ 115) (by omega)
  · unfold x_shape
    rw [if_neg (by omega), if_neg (by omega), if_neg (by omega), if_neg (by omega), if_neg (by omega), if_pos (by omega)]
    exact congrArg (x_shQ 251) (by omega)
theorem sh_CP {p : Nat} (h : x_CP p) : x_shape p = .inl (10, [.inr false, .inr false, .inr false, .inr false, .inr false, .inl (p + 1)]) := by
  obtain ⟨b, i, hb, hi, rfl⟩ := h
  have e := x_CP_at b i 0 hb hi (by omega)
  rw [Nat.add_zero, Nat.add_zero] at e
  rw [e]
  show (if 2 * i % 2 = 0 then x_shC (b + 16 + 2 * i) else _) = _
  rw [if_pos (by omega)]; rfl
theorem sa_CP_list {p : Nat} (h : x_CP p) : x_shape (p + 1) = .inr (.inl (0, 40)) := by
  obtain ⟨b, i, hb, hi, rfl⟩ := h
  rw [x_CP_at b i 1 hb hi (by omega)]
  show (if (2 * i + 1) % 2 = 0 then _ else _) = _
  rw [if_neg (by omega)]
theorem x_CP_lt {p : Nat} (h : x_CP p) : p + 1 < x_np := by
  obtain ⟨b, i, hb, hi, rfl⟩ := h
  show _ < 425
  rcases hb with rfl | rfl <;> omega
theorem hp_CP {p : Nat} (h : x_CP p) : p < x_np := Nat.lt_of_succ_lt (x_CP_lt h)
theorem ha_CP_list {p : Nat} (h : x_CP p) : p + 1 < x_np := x_CP_lt h
theorem sh_MQ {p : Nat} (h : x_MQ p) : x_shape (p) = .inl (12, [.inr false, .inl (p + 1), .inl (p + 2), .inl (p + 3), .inr false, .inl (p + 4), .inr false, .inl (p + 5), .inl (p + 6), .inr false, .inl (p + 7), .inr false, .inl (p + 8), .inr false, .inl (p + 9), .inl (p + 10), .inl (p + 11), .inl (p + 12), .inl (p + 13)]) := by
  rcases h with rfl | rfl
  · rfl
  · rfl
theorem hp_MQ {p : Nat} (h : x_MQ p) : p < x_np := by
  rcases h with rfl | rfl <;> decide
theorem sa_MQ_kind {p : Nat} (h : x_MQ p) : x_shape (p + 1) = .inr (.inl (0, 24)) := by
  rcases h with rfl | rfl
  · rfl
  · rfl
theorem ha_MQ_kind {p : Nat} (h : x_MQ p) : p + 1 < x_np := by
  rcases h with rfl | rfl <;> decide
theorem sa_MQ_of {p : Nat} (h : x_MQ p) : x_shape (p + 2) = .inr (.inl (0, 24)) := by
  rcases h with rfl | rfl
  · rfl
  · rfl
theorem ha_MQ_of {p : Nat} (h : x_MQ p) : p + 2 < x_np := by
  rcases h with rfl | rfl <;> decide
theorem sa_MQ_begins {p : Nat} (h : x_MQ p) : x_shape (p + 3) = .inr (.inl (0, 24)) := by
  rcases h with rfl | rfl
  · rfl
  · rfl
theorem ha_MQ_begins {p : Nat} (h : x_MQ p) : p + 3 < x_np := by
  rcases h with rfl | rfl <;> decide
theorem sa_MQ_group {p : Nat} (h : x_MQ p) : x_shape (p + 4) = .inr (.inl (0, 8)) := by
  rcases h with rfl | rfl
  · rfl
  · rfl
theorem ha_MQ_group {p : Nat} (h : x_MQ p) : p + 4 < x_np := by
  rcases h with rfl | rfl <;> decide
theorem sa_MQ_partKind {p : Nat} (h : x_MQ p) : x_shape (p + 5) = .inr (.inl (0, 8)) := by
  rcases h with rfl | rfl
  · rfl
  · rfl
theorem ha_MQ_partKind {p : Nat} (h : x_MQ p) : p + 5 < x_np := by
  rcases h with rfl | rfl <;> decide
theorem sa_MQ_partSize {p : Nat} (h : x_MQ p) : x_shape (p + 6) = .inr (.inl (0, 8)) := by
  rcases h with rfl | rfl
  · rfl
  · rfl
theorem ha_MQ_partSize {p : Nat} (h : x_MQ p) : p + 6 < x_np := by
  rcases h with rfl | rfl <;> decide
theorem sa_MQ_set {p : Nat} (h : x_MQ p) : x_shape (p + 7) = .inr (.inl (0, 32)) := by
  rcases h with rfl | rfl
  · rfl
  · rfl
theorem ha_MQ_set {p : Nat} (h : x_MQ p) : p + 7 < x_np := by
  rcases h with rfl | rfl <;> decide
theorem sa_MQ_sign {p : Nat} (h : x_MQ p) : x_shape (p + 8) = .inr (.inl (0, 2600)) := by
  rcases h with rfl | rfl
  · rfl
  · rfl
theorem ha_MQ_sign {p : Nat} (h : x_MQ p) : p + 8 < x_np := by
  rcases h with rfl | rfl <;> decide
theorem sa_MQ_column {p : Nat} (h : x_MQ p) : x_shape (p + 9) = .inr (.inl (0, 60)) := by
  rcases h with rfl | rfl
  · rfl
  · rfl
theorem ha_MQ_column {p : Nat} (h : x_MQ p) : p + 9 < x_np := by
  rcases h with rfl | rfl <;> decide
theorem sa_MQ_how {p : Nat} (h : x_MQ p) : x_shape (p + 10) = .inr (.inl (0, 60)) := by
  rcases h with rfl | rfl
  · rfl
  · rfl
theorem ha_MQ_how {p : Nat} (h : x_MQ p) : p + 10 < x_np := by
  rcases h with rfl | rfl <;> decide
theorem sa_MQ_first {p : Nat} (h : x_MQ p) : x_shape (p + 11) = .inr (.inl (0, 60)) := by
  rcases h with rfl | rfl
  · rfl
  · rfl
theorem ha_MQ_first {p : Nat} (h : x_MQ p) : p + 11 < x_np := by
  rcases h with rfl | rfl <;> decide
theorem sa_MQ_second {p : Nat} (h : x_MQ p) : x_shape (p + 12) = .inr (.inl (0, 60)) := by
  rcases h with rfl | rfl
  · rfl
  · rfl
theorem ha_MQ_second {p : Nat} (h : x_MQ p) : p + 12 < x_np := by
  rcases h with rfl | rfl <;> decide
theorem sa_MQ_list {p : Nat} (h : x_MQ p) : x_shape (p + 13) = .inr (.inl (0, 2400)) := by
  rcases h with rfl | rfl
  · rfl
  · rfl
theorem ha_MQ_list {p : Nat} (h : x_MQ p) : p + 13 < x_np := by
  rcases h with rfl | rfl <;> decide
theorem f_QR_10 {M : x_M} (h : M.1.cls = "QuestionReader") : x_fl M 10 0 0 R_QR F_QR 5 := ⟨wu_QR, rfl, by decide, by rw [h]; exact w_350⟩
theorem f_QR_21 {M : x_M} (h : M.1.cls = "QuestionReader") : x_fl M 21 0 1 R_QR F_QR 5 := ⟨wu_QR, rfl, by decide, by rw [h]; exact w_351⟩
theorem f_QR_28 {M : x_M} (h : M.1.cls = "QuestionReader") : x_fl M 28 0 2 R_QR F_QR 5 := ⟨wu_QR, rfl, by decide, by rw [h]; exact w_352⟩
theorem f_QR_37 {M : x_M} (h : M.1.cls = "QuestionReader") : x_fl M 37 0 3 R_QR F_QR 5 := ⟨wu_QR, rfl, by decide, by rw [h]; exact w_353⟩
theorem f_QR_44 {M : x_M} (h : M.1.cls = "QuestionReader") : x_fl M 44 0 4 R_QR F_QR 5 := ⟨wu_QR, rfl, by decide, by rw [h]; exact w_354⟩
theorem f_QR_48 {M : x_M} (h : M.1.cls = "QuestionReader") : x_fl M 48 1 1 R_TX F_TX 2 := ⟨wu_TX, rfl, by decide, by rw [h]; exact w_44⟩
theorem f_QR_71 {M : x_M} (h : M.1.cls = "QuestionReader") : x_fl M 71 7 3 R_QG F_QG 5 := ⟨wu_QG, rfl, by decide, by rw [h]; exact w_337⟩
theorem f_QR_83 {M : x_M} (h : M.1.cls = "QuestionReader") : x_fl M 83 2 1 R_LX F_LX 9 := ⟨wu_LX, rfl, by decide, by rw [h]; exact w_66⟩
theorem f_QR_102 {M : x_M} (h : M.1.cls = "QuestionReader") : x_fl M 102 2 5 R_LX F_LX 9 := ⟨wu_LX, rfl, by decide, by rw [h]; exact w_77⟩
theorem f_QR_105 {M : x_M} (h : M.1.cls = "QuestionReader") : x_fl M 105 2 6 R_LX F_LX 9 := ⟨wu_LX, rfl, by decide, by rw [h]; exact w_79⟩
theorem f_QR_111 {M : x_M} (h : M.1.cls = "QuestionReader") : x_fl M 111 3 2 R_CT F_CT 5 := ⟨wu_CT, rfl, by decide, by rw [h]; exact w_172⟩
theorem f_QR_114 {M : x_M} (h : M.1.cls = "QuestionReader") : x_fl M 114 3 3 R_CT F_CT 5 := ⟨wu_CT, rfl, by decide, by rw [h]; exact w_176⟩
theorem f_QR_117 {M : x_M} (h : M.1.cls = "QuestionReader") : x_fl M 117 8 0 R_QU F_QU 9 := ⟨wu_QU, rfl, by decide, by rw [h]; exact w_296⟩
theorem f_QR_120 {M : x_M} (h : M.1.cls = "QuestionReader") : x_fl M 120 8 4 R_QU F_QU 9 := ⟨wu_QU, rfl, by decide, by rw [h]; exact w_303⟩
theorem f_QR_123 {M : x_M} (h : M.1.cls = "QuestionReader") : x_fl M 123 8 6 R_QU F_QU 9 := ⟨wu_QU, rfl, by decide, by rw [h]; exact w_308⟩
theorem f_QR_126 {M : x_M} (h : M.1.cls = "QuestionReader") : x_fl M 126 8 8 R_QU F_QU 9 := ⟨wu_QU, rfl, by decide, by rw [h]; exact w_313⟩
theorem f_QR_130 {M : x_M} (h : M.1.cls = "QuestionReader") : x_fl M 130 9 0 R_CN F_CN 12 := ⟨wu_CN, rfl, by decide, by rw [h]; exact w_256⟩
theorem f_QR_144 {M : x_M} (h : M.1.cls = "QuestionReader") : x_fl M 144 3 1 R_CT F_CT 5 := ⟨wu_CT, rfl, by decide, by rw [h]; exact w_168⟩
theorem f_QR_148 {M : x_M} (h : M.1.cls = "QuestionReader") : x_fl M 148 5 0 R_DM F_DM 7 := ⟨wu_DM, rfl, by decide, by rw [h]; exact w_134⟩
theorem f_QR_153 {M : x_M} (h : M.1.cls = "QuestionReader") : x_fl M 153 5 1 R_DM F_DM 7 := ⟨wu_DM, rfl, by decide, by rw [h]; exact w_138⟩
theorem f_QR_183 {M : x_M} (h : M.1.cls = "QuestionReader") : x_fl M 183 3 0 R_CT F_CT 5 := ⟨wu_CT, rfl, by decide, by rw [h]; exact w_164⟩
theorem f_QR_192 {M : x_M} (h : M.1.cls = "QuestionReader") : x_fl M 192 8 1 R_QU F_QU 9 := ⟨wu_QU, rfl, by decide, by rw [h]; exact w_298⟩
theorem f_QR_196 {M : x_M} (h : M.1.cls = "QuestionReader") : x_fl M 196 8 2 R_QU F_QU 9 := ⟨wu_QU, rfl, by decide, by rw [h]; exact w_300⟩
theorem f_QR_199 {M : x_M} (h : M.1.cls = "QuestionReader") : x_fl M 199 8 5 R_QU F_QU 9 := ⟨wu_QU, rfl, by decide, by rw [h]; exact w_306⟩
theorem f_QR_202 {M : x_M} (h : M.1.cls = "QuestionReader") : x_fl M 202 8 7 R_QU F_QU 9 := ⟨wu_QU, rfl, by decide, by rw [h]; exact w_310⟩
theorem f_QR_205 {M : x_M} (h : M.1.cls = "QuestionReader") : x_fl M 205 5 2 R_DM F_DM 7 := ⟨wu_DM, rfl, by decide, by rw [h]; exact w_141⟩
theorem f_QR_217 {M : x_M} (h : M.1.cls = "QuestionReader") : x_fl M 217 3 4 R_CT F_CT 5 := ⟨wu_CT, rfl, by decide, by rw [h]; exact w_180⟩
theorem f_CT_12 {M : x_M} (h : M.1.cls = "QuestionReader$Catalog") : x_fl M 12 3 0 R_CT F_CT 5 := ⟨wu_CT, rfl, by decide, by rw [h]; exact w_161⟩
theorem f_CT_20 {M : x_M} (h : M.1.cls = "QuestionReader$Catalog") : x_fl M 20 3 1 R_CT F_CT 5 := ⟨wu_CT, rfl, by decide, by rw [h]; exact w_165⟩
theorem f_CT_25 {M : x_M} (h : M.1.cls = "QuestionReader$Catalog") : x_fl M 25 3 2 R_CT F_CT 5 := ⟨wu_CT, rfl, by decide, by rw [h]; exact w_169⟩
theorem f_CT_33 {M : x_M} (h : M.1.cls = "QuestionReader$Catalog") : x_fl M 33 5 0 R_DM F_DM 7 := ⟨wu_DM, rfl, by decide, by rw [h]; exact w_131⟩
theorem f_CT_36 {M : x_M} (h : M.1.cls = "QuestionReader$Catalog") : x_fl M 36 5 1 R_DM F_DM 7 := ⟨wu_DM, rfl, by decide, by rw [h]; exact w_136⟩
theorem f_CT_50 {M : x_M} (h : M.1.cls = "QuestionReader$Catalog") : x_fl M 50 3 3 R_CT F_CT 5 := ⟨wu_CT, rfl, by decide, by rw [h]; exact w_175⟩
theorem f_CT_57 {M : x_M} (h : M.1.cls = "QuestionReader$Catalog") : x_fl M 57 3 4 R_CT F_CT 5 := ⟨wu_CT, rfl, by decide, by rw [h]; exact w_179⟩
theorem f_CT_64 {M : x_M} (h : M.1.cls = "QuestionReader$Catalog") : x_fl M 64 5 2 R_DM F_DM 7 := ⟨wu_DM, rfl, by decide, by rw [h]; exact w_140⟩
theorem f_CG_9 {M : x_M} (h : M.1.cls = "QuestionReader$CatalogGrammar") : x_fl M 9 6 0 R_CG F_CG 3 := ⟨wu_CG, rfl, by decide, by rw [h]; exact w_198⟩
theorem f_CG_15 {M : x_M} (h : M.1.cls = "QuestionReader$CatalogGrammar") : x_fl M 15 6 1 R_CG F_CG 3 := ⟨wu_CG, rfl, by decide, by rw [h]; exact w_199⟩
theorem f_CG_19 {M : x_M} (h : M.1.cls = "QuestionReader$CatalogGrammar") : x_fl M 19 3 0 R_CT F_CT 5 := ⟨wu_CT, rfl, by decide, by rw [h]; exact w_162⟩
theorem f_CG_25 {M : x_M} (h : M.1.cls = "QuestionReader$CatalogGrammar") : x_fl M 25 6 2 R_CG F_CG 3 := ⟨wu_CG, rfl, by decide, by rw [h]; exact w_200⟩
theorem f_CG_26 {M : x_M} (h : M.1.cls = "QuestionReader$CatalogGrammar") : x_fl M 26 2 1 R_LX F_LX 9 := ⟨wu_LX, rfl, by decide, by rw [h]; exact w_64⟩
theorem f_CG_47 {M : x_M} (h : M.1.cls = "QuestionReader$CatalogGrammar") : x_fl M 47 3 4 R_CT F_CT 5 := ⟨wu_CT, rfl, by decide, by rw [h]; exact w_178⟩
theorem f_CG_67 {M : x_M} (h : M.1.cls = "QuestionReader$CatalogGrammar") : x_fl M 67 3 2 R_CT F_CT 5 := ⟨wu_CT, rfl, by decide, by rw [h]; exact w_170⟩
theorem f_CG_95 {M : x_M} (h : M.1.cls = "QuestionReader$CatalogGrammar") : x_fl M 95 3 1 R_CT F_CT 5 := ⟨wu_CT, rfl, by decide, by rw [h]; exact w_166⟩
theorem f_CG_99 {M : x_M} (h : M.1.cls = "QuestionReader$CatalogGrammar") : x_fl M 99 5 0 R_DM F_DM 7 := ⟨wu_DM, rfl, by decide, by rw [h]; exact w_132⟩
theorem f_CG_104 {M : x_M} (h : M.1.cls = "QuestionReader$CatalogGrammar") : x_fl M 104 3 3 R_CT F_CT 5 := ⟨wu_CT, rfl, by decide, by rw [h]; exact w_173⟩
theorem f_CG_138 {M : x_M} (h : M.1.cls = "QuestionReader$CatalogGrammar") : x_fl M 138 5 1 R_DM F_DM 7 := ⟨wu_DM, rfl, by decide, by rw [h]; exact w_137⟩
theorem f_CG_145 {M : x_M} (h : M.1.cls = "QuestionReader$CatalogGrammar") : x_fl M 145 2 2 R_LX F_LX 9 := ⟨wu_LX, rfl, by decide, by rw [h]; exact w_70⟩
theorem f_CG_164 {M : x_M} (h : M.1.cls = "QuestionReader$CatalogGrammar") : x_fl M 164 2 4 R_LX F_LX 9 := ⟨wu_LX, rfl, by decide, by rw [h]; exact w_74⟩
theorem f_CP_9 {M : x_M} (h : M.1.cls = "QuestionReader$Comparison") : x_fl M 9 10 5 R_CP F_CP 6 := ⟨wu_CP, rfl, by decide, by rw [h]; exact w_240⟩
theorem f_CP_13 {M : x_M} (h : M.1.cls = "QuestionReader$Comparison") : x_fl M 13 10 0 R_CP F_CP 6 := ⟨wu_CP, rfl, by decide, by rw [h]; exact w_233⟩
theorem f_CP_17 {M : x_M} (h : M.1.cls = "QuestionReader$Comparison") : x_fl M 17 10 1 R_CP F_CP 6 := ⟨wu_CP, rfl, by decide, by rw [h]; exact w_235⟩
theorem f_CP_21 {M : x_M} (h : M.1.cls = "QuestionReader$Comparison") : x_fl M 21 10 4 R_CP F_CP 6 := ⟨wu_CP, rfl, by decide, by rw [h]; exact w_239⟩
theorem f_CP_24 {M : x_M} (h : M.1.cls = "QuestionReader$Comparison") : x_fl M 24 10 2 R_CP F_CP 6 := ⟨wu_CP, rfl, by decide, by rw [h]; exact w_237⟩
theorem f_CP_27 {M : x_M} (h : M.1.cls = "QuestionReader$Comparison") : x_fl M 27 10 3 R_CP F_CP 6 := ⟨wu_CP, rfl, by decide, by rw [h]; exact w_238⟩
theorem f_CN_13 {M : x_M} (h : M.1.cls = "QuestionReader$Condition") : x_fl M 13 9 2 R_CN F_CN 12 := ⟨wu_CN, rfl, by decide, by rw [h]; exact w_259⟩
theorem f_CN_17 {M : x_M} (h : M.1.cls = "QuestionReader$Condition") : x_fl M 17 9 4 R_CN F_CN 12 := ⟨wu_CN, rfl, by decide, by rw [h]; exact w_261⟩
theorem f_CN_21 {M : x_M} (h : M.1.cls = "QuestionReader$Condition") : x_fl M 21 9 5 R_CN F_CN 12 := ⟨wu_CN, rfl, by decide, by rw [h]; exact w_262⟩
theorem f_CN_24 {M : x_M} (h : M.1.cls = "QuestionReader$Condition") : x_fl M 24 9 6 R_CN F_CN 12 := ⟨wu_CN, rfl, by decide, by rw [h]; exact w_263⟩
theorem f_CN_28 {M : x_M} (h : M.1.cls = "QuestionReader$Condition") : x_fl M 28 9 7 R_CN F_CN 12 := ⟨wu_CN, rfl, by decide, by rw [h]; exact w_264⟩
theorem f_CN_31 {M : x_M} (h : M.1.cls = "QuestionReader$Condition") : x_fl M 31 9 8 R_CN F_CN 12 := ⟨wu_CN, rfl, by decide, by rw [h]; exact w_265⟩
theorem f_CN_34 {M : x_M} (h : M.1.cls = "QuestionReader$Condition") : x_fl M 34 9 9 R_CN F_CN 12 := ⟨wu_CN, rfl, by decide, by rw [h]; exact w_266⟩
theorem f_CN_37 {M : x_M} (h : M.1.cls = "QuestionReader$Condition") : x_fl M 37 9 10 R_CN F_CN 12 := ⟨wu_CN, rfl, by decide, by rw [h]; exact w_267⟩
theorem f_CN_40 {M : x_M} (h : M.1.cls = "QuestionReader$Condition") : x_fl M 40 9 11 R_CN F_CN 12 := ⟨wu_CN, rfl, by decide, by rw [h]; exact w_268⟩
theorem f_CN_44 {M : x_M} (h : M.1.cls = "QuestionReader$Condition") : x_fl M 44 9 0 R_CN F_CN 12 := ⟨wu_CN, rfl, by decide, by rw [h]; exact w_255⟩
theorem f_CN_48 {M : x_M} (h : M.1.cls = "QuestionReader$Condition") : x_fl M 48 9 3 R_CN F_CN 12 := ⟨wu_CN, rfl, by decide, by rw [h]; exact w_260⟩
theorem f_CN_51 {M : x_M} (h : M.1.cls = "QuestionReader$Condition") : x_fl M 51 9 1 R_CN F_CN 12 := ⟨wu_CN, rfl, by decide, by rw [h]; exact w_257⟩
theorem f_CN_65 {M : x_M} (h : M.1.cls = "QuestionReader$Condition") : x_fl M 65 10 0 R_CP F_CP 6 := ⟨wu_CP, rfl, by decide, by rw [h]; exact w_234⟩
theorem f_DM_13 {M : x_M} (h : M.1.cls = "QuestionReader$Dimension") : x_fl M 13 5 3 R_DM F_DM 7 := ⟨wu_DM, rfl, by decide, by rw [h]; exact w_142⟩
theorem f_DM_16 {M : x_M} (h : M.1.cls = "QuestionReader$Dimension") : x_fl M 16 5 4 R_DM F_DM 7 := ⟨wu_DM, rfl, by decide, by rw [h]; exact w_143⟩
theorem f_DM_20 {M : x_M} (h : M.1.cls = "QuestionReader$Dimension") : x_fl M 20 5 5 R_DM F_DM 7 := ⟨wu_DM, rfl, by decide, by rw [h]; exact w_144⟩
theorem f_DM_23 {M : x_M} (h : M.1.cls = "QuestionReader$Dimension") : x_fl M 23 5 6 R_DM F_DM 7 := ⟨wu_DM, rfl, by decide, by rw [h]; exact w_145⟩
theorem f_DM_26 {M : x_M} (h : M.1.cls = "QuestionReader$Dimension") : x_fl M 26 5 0 R_DM F_DM 7 := ⟨wu_DM, rfl, by decide, by rw [h]; exact w_130⟩
theorem f_DM_38 {M : x_M} (h : M.1.cls = "QuestionReader$Dimension") : x_fl M 38 5 1 R_DM F_DM 7 := ⟨wu_DM, rfl, by decide, by rw [h]; exact w_135⟩
theorem f_DM_48 {M : x_M} (h : M.1.cls = "QuestionReader$Dimension") : x_fl M 48 5 2 R_DM F_DM 7 := ⟨wu_DM, rfl, by decide, by rw [h]; exact w_139⟩
theorem f_LX_15 {M : x_M} (h : M.1.cls = "QuestionReader$Lexer") : x_fl M 15 2 1 R_LX F_LX 9 := ⟨wu_LX, rfl, by decide, by rw [h]; exact w_63⟩
theorem f_LX_20 {M : x_M} (h : M.1.cls = "QuestionReader$Lexer") : x_fl M 20 2 6 R_LX F_LX 9 := ⟨wu_LX, rfl, by decide, by rw [h]; exact w_78⟩
theorem f_LX_24 {M : x_M} (h : M.1.cls = "QuestionReader$Lexer") : x_fl M 24 2 0 R_LX F_LX 9 := ⟨wu_LX, rfl, by decide, by rw [h]; exact w_61⟩
theorem f_LX_28 {M : x_M} (h : M.1.cls = "QuestionReader$Lexer") : x_fl M 28 2 3 R_LX F_LX 9 := ⟨wu_LX, rfl, by decide, by rw [h]; exact w_72⟩
theorem f_LX_31 {M : x_M} (h : M.1.cls = "QuestionReader$Lexer") : x_fl M 31 2 5 R_LX F_LX 9 := ⟨wu_LX, rfl, by decide, by rw [h]; exact w_76⟩
theorem f_LX_37 {M : x_M} (h : M.1.cls = "QuestionReader$Lexer") : x_fl M 37 2 2 R_LX F_LX 9 := ⟨wu_LX, rfl, by decide, by rw [h]; exact w_68⟩
theorem f_LX_40 {M : x_M} (h : M.1.cls = "QuestionReader$Lexer") : x_fl M 40 2 7 R_LX F_LX 9 := ⟨wu_LX, rfl, by decide, by rw [h]; exact w_80⟩
theorem f_LX_44 {M : x_M} (h : M.1.cls = "QuestionReader$Lexer") : x_fl M 44 2 8 R_LX F_LX 9 := ⟨wu_LX, rfl, by decide, by rw [h]; exact w_81⟩
theorem f_LX_47 {M : x_M} (h : M.1.cls = "QuestionReader$Lexer") : x_fl M 47 1 1 R_TX F_TX 2 := ⟨wu_TX, rfl, by decide, by rw [h]; exact w_46⟩
theorem f_LX_52 {M : x_M} (h : M.1.cls = "QuestionReader$Lexer") : x_fl M 52 1 0 R_TX F_TX 2 := ⟨wu_TX, rfl, by decide, by rw [h]; exact w_43⟩
theorem f_LX_82 {M : x_M} (h : M.1.cls = "QuestionReader$Lexer") : x_fl M 82 2 4 R_LX F_LX 9 := ⟨wu_LX, rfl, by decide, by rw [h]; exact w_73⟩
theorem f_NM_11 {M : x_M} (h : M.1.cls = "QuestionReader$Names") : x_fl M 11 4 0 R_NM F_NM 2 := ⟨wu_NM, rfl, by decide, by rw [h]; exact w_113⟩
theorem f_NM_15 {M : x_M} (h : M.1.cls = "QuestionReader$Names") : x_fl M 15 4 1 R_NM F_NM 2 := ⟨wu_NM, rfl, by decide, by rw [h]; exact w_114⟩
theorem f_NM_19 {M : x_M} (h : M.1.cls = "QuestionReader$Names") : x_fl M 19 2 3 R_LX F_LX 9 := ⟨wu_LX, rfl, by decide, by rw [h]; exact w_71⟩
theorem f_NM_25 {M : x_M} (h : M.1.cls = "QuestionReader$Names") : x_fl M 25 2 2 R_LX F_LX 9 := ⟨wu_LX, rfl, by decide, by rw [h]; exact w_67⟩
theorem f_NM_28 {M : x_M} (h : M.1.cls = "QuestionReader$Names") : x_fl M 28 2 0 R_LX F_LX 9 := ⟨wu_LX, rfl, by decide, by rw [h]; exact w_62⟩
theorem f_NM_32 {M : x_M} (h : M.1.cls = "QuestionReader$Names") : x_fl M 32 1 0 R_TX F_TX 2 := ⟨wu_TX, rfl, by decide, by rw [h]; exact w_42⟩
theorem f_QU_11 {M : x_M} (h : M.1.cls = "QuestionReader$Question") : x_fl M 11 8 1 R_QU F_QU 9 := ⟨wu_QU, rfl, by decide, by rw [h]; exact w_297⟩
theorem f_QU_15 {M : x_M} (h : M.1.cls = "QuestionReader$Question") : x_fl M 15 8 2 R_QU F_QU 9 := ⟨wu_QU, rfl, by decide, by rw [h]; exact w_299⟩
theorem f_QU_18 {M : x_M} (h : M.1.cls = "QuestionReader$Question") : x_fl M 18 8 3 R_QU F_QU 9 := ⟨wu_QU, rfl, by decide, by rw [h]; exact w_301⟩
theorem f_QU_21 {M : x_M} (h : M.1.cls = "QuestionReader$Question") : x_fl M 21 8 5 R_QU F_QU 9 := ⟨wu_QU, rfl, by decide, by rw [h]; exact w_305⟩
theorem f_QU_24 {M : x_M} (h : M.1.cls = "QuestionReader$Question") : x_fl M 24 8 7 R_QU F_QU 9 := ⟨wu_QU, rfl, by decide, by rw [h]; exact w_309⟩
theorem f_QU_30 {M : x_M} (h : M.1.cls = "QuestionReader$Question") : x_fl M 30 8 8 R_QU F_QU 9 := ⟨wu_QU, rfl, by decide, by rw [h]; exact w_311⟩
theorem f_QU_34 {M : x_M} (h : M.1.cls = "QuestionReader$Question") : x_fl M 34 8 0 R_QU F_QU 9 := ⟨wu_QU, rfl, by decide, by rw [h]; exact w_294⟩
theorem f_QU_38 {M : x_M} (h : M.1.cls = "QuestionReader$Question") : x_fl M 38 8 4 R_QU F_QU 9 := ⟨wu_QU, rfl, by decide, by rw [h]; exact w_302⟩
theorem f_QU_41 {M : x_M} (h : M.1.cls = "QuestionReader$Question") : x_fl M 41 8 6 R_QU F_QU 9 := ⟨wu_QU, rfl, by decide, by rw [h]; exact w_307⟩
theorem f_QG_12 {M : x_M} (h : M.1.cls = "QuestionReader$QuestionGrammar") : x_fl M 12 7 3 R_QG F_QG 5 := ⟨wu_QG, rfl, by decide, by rw [h]; exact w_336⟩
theorem f_QG_18 {M : x_M} (h : M.1.cls = "QuestionReader$QuestionGrammar") : x_fl M 18 7 4 R_QG F_QG 5 := ⟨wu_QG, rfl, by decide, by rw [h]; exact w_338⟩
theorem f_QG_21 {M : x_M} (h : M.1.cls = "QuestionReader$QuestionGrammar") : x_fl M 21 7 0 R_QG F_QG 5 := ⟨wu_QG, rfl, by decide, by rw [h]; exact w_333⟩
theorem f_QG_25 {M : x_M} (h : M.1.cls = "QuestionReader$QuestionGrammar") : x_fl M 25 7 1 R_QG F_QG 5 := ⟨wu_QG, rfl, by decide, by rw [h]; exact w_334⟩
theorem f_QG_29 {M : x_M} (h : M.1.cls = "QuestionReader$QuestionGrammar") : x_fl M 29 3 0 R_CT F_CT 5 := ⟨wu_CT, rfl, by decide, by rw [h]; exact w_163⟩
theorem f_QG_35 {M : x_M} (h : M.1.cls = "QuestionReader$QuestionGrammar") : x_fl M 35 7 2 R_QG F_QG 5 := ⟨wu_QG, rfl, by decide, by rw [h]; exact w_335⟩
theorem f_QG_36 {M : x_M} (h : M.1.cls = "QuestionReader$QuestionGrammar") : x_fl M 36 3 4 R_CT F_CT 5 := ⟨wu_CT, rfl, by decide, by rw [h]; exact w_177⟩
theorem f_QG_53 {M : x_M} (h : M.1.cls = "QuestionReader$QuestionGrammar") : x_fl M 53 2 1 R_LX F_LX 9 := ⟨wu_LX, rfl, by decide, by rw [h]; exact w_65⟩
theorem f_QG_95 {M : x_M} (h : M.1.cls = "QuestionReader$QuestionGrammar") : x_fl M 95 2 2 R_LX F_LX 9 := ⟨wu_LX, rfl, by decide, by rw [h]; exact w_69⟩
theorem f_QG_103 {M : x_M} (h : M.1.cls = "QuestionReader$QuestionGrammar") : x_fl M 103 8 0 R_QU F_QU 9 := ⟨wu_QU, rfl, by decide, by rw [h]; exact w_295⟩
theorem f_QG_132 {M : x_M} (h : M.1.cls = "QuestionReader$QuestionGrammar") : x_fl M 132 3 3 R_CT F_CT 5 := ⟨wu_CT, rfl, by decide, by rw [h]; exact w_174⟩
theorem f_QG_139 {M : x_M} (h : M.1.cls = "QuestionReader$QuestionGrammar") : x_fl M 139 3 2 R_CT F_CT 5 := ⟨wu_CT, rfl, by decide, by rw [h]; exact w_171⟩
theorem f_QG_149 {M : x_M} (h : M.1.cls = "QuestionReader$QuestionGrammar") : x_fl M 149 3 1 R_CT F_CT 5 := ⟨wu_CT, rfl, by decide, by rw [h]; exact w_167⟩
theorem f_QG_153 {M : x_M} (h : M.1.cls = "QuestionReader$QuestionGrammar") : x_fl M 153 5 0 R_DM F_DM 7 := ⟨wu_DM, rfl, by decide, by rw [h]; exact w_133⟩
theorem f_QG_158 {M : x_M} (h : M.1.cls = "QuestionReader$QuestionGrammar") : x_fl M 158 8 8 R_QU F_QU 9 := ⟨wu_QU, rfl, by decide, by rw [h]; exact w_312⟩
theorem f_QG_199 {M : x_M} (h : M.1.cls = "QuestionReader$QuestionGrammar") : x_fl M 199 9 1 R_CN F_CN 12 := ⟨wu_CN, rfl, by decide, by rw [h]; exact w_258⟩
theorem f_QG_220 {M : x_M} (h : M.1.cls = "QuestionReader$QuestionGrammar") : x_fl M 220 10 1 R_CP F_CP 6 := ⟨wu_CP, rfl, by decide, by rw [h]; exact w_236⟩
theorem f_QG_245 {M : x_M} (h : M.1.cls = "QuestionReader$QuestionGrammar") : x_fl M 245 2 4 R_LX F_LX 9 := ⟨wu_LX, rfl, by decide, by rw [h]; exact w_75⟩
theorem f_QG_275 {M : x_M} (h : M.1.cls = "QuestionReader$QuestionGrammar") : x_fl M 275 8 4 R_QU F_QU 9 := ⟨wu_QU, rfl, by decide, by rw [h]; exact w_304⟩
theorem f_TX_10 {M : x_M} (h : M.1.cls = "QuestionReader$Text") : x_fl M 10 1 0 R_TX F_TX 2 := ⟨wu_TX, rfl, by decide, by rw [h]; exact w_41⟩
theorem f_TX_14 {M : x_M} (h : M.1.cls = "QuestionReader$Text") : x_fl M 14 1 1 R_TX F_TX 2 := ⟨wu_TX, rfl, by decide, by rw [h]; exact w_45⟩
theorem f_MD_9 {M : x_M} (h : M.1.cls = "QuestionReaderModel") : x_fl M 9 11 0 R_MD F_MD 27 := ⟨wu_MD, rfl, by decide, by rw [h]; exact w_1138⟩
theorem f_MD_16 {M : x_M} (h : M.1.cls = "QuestionReaderModel") : x_fl M 16 11 3 R_MD F_MD 27 := ⟨wu_MD, rfl, by decide, by rw [h]; exact w_1141⟩
theorem f_MD_20 {M : x_M} (h : M.1.cls = "QuestionReaderModel") : x_fl M 20 11 6 R_MD F_MD 27 := ⟨wu_MD, rfl, by decide, by rw [h]; exact w_1144⟩
theorem f_MD_24 {M : x_M} (h : M.1.cls = "QuestionReaderModel") : x_fl M 24 11 14 R_MD F_MD 27 := ⟨wu_MD, rfl, by decide, by rw [h]; exact w_1152⟩
theorem f_MD_28 {M : x_M} (h : M.1.cls = "QuestionReaderModel") : x_fl M 28 11 15 R_MD F_MD 27 := ⟨wu_MD, rfl, by decide, by rw [h]; exact w_1153⟩
theorem f_MD_31 {M : x_M} (h : M.1.cls = "QuestionReaderModel") : x_fl M 31 11 16 R_MD F_MD 27 := ⟨wu_MD, rfl, by decide, by rw [h]; exact w_1154⟩
theorem f_MD_34 {M : x_M} (h : M.1.cls = "QuestionReaderModel") : x_fl M 34 11 17 R_MD F_MD 27 := ⟨wu_MD, rfl, by decide, by rw [h]; exact w_1155⟩
theorem f_MD_37 {M : x_M} (h : M.1.cls = "QuestionReaderModel") : x_fl M 37 11 19 R_MD F_MD 27 := ⟨wu_MD, rfl, by decide, by rw [h]; exact w_1157⟩
theorem f_MD_40 {M : x_M} (h : M.1.cls = "QuestionReaderModel") : x_fl M 40 11 20 R_MD F_MD 27 := ⟨wu_MD, rfl, by decide, by rw [h]; exact w_1158⟩
theorem f_MD_46 {M : x_M} (h : M.1.cls = "QuestionReaderModel") : x_fl M 46 11 21 R_MD F_MD 27 := ⟨wu_MD, rfl, by decide, by rw [h]; exact w_1159⟩
theorem f_MD_50 {M : x_M} (h : M.1.cls = "QuestionReaderModel") : x_fl M 50 11 22 R_MD F_MD 27 := ⟨wu_MD, rfl, by decide, by rw [h]; exact w_1160⟩
theorem f_MD_53 {M : x_M} (h : M.1.cls = "QuestionReaderModel") : x_fl M 53 11 26 R_MD F_MD 27 := ⟨wu_MD, rfl, by decide, by rw [h]; exact w_1164⟩
theorem f_MD_57 {M : x_M} (h : M.1.cls = "QuestionReaderModel") : x_fl M 57 11 1 R_MD F_MD 27 := ⟨wu_MD, rfl, by decide, by rw [h]; exact w_1139⟩
theorem f_MD_60 {M : x_M} (h : M.1.cls = "QuestionReaderModel") : x_fl M 60 11 4 R_MD F_MD 27 := ⟨wu_MD, rfl, by decide, by rw [h]; exact w_1142⟩
theorem f_MD_67 {M : x_M} (h : M.1.cls = "QuestionReaderModel") : x_fl M 67 11 5 R_MD F_MD 27 := ⟨wu_MD, rfl, by decide, by rw [h]; exact w_1143⟩
theorem f_MD_70 {M : x_M} (h : M.1.cls = "QuestionReaderModel") : x_fl M 70 11 7 R_MD F_MD 27 := ⟨wu_MD, rfl, by decide, by rw [h]; exact w_1145⟩
theorem f_MD_77 {M : x_M} (h : M.1.cls = "QuestionReaderModel") : x_fl M 77 11 8 R_MD F_MD 27 := ⟨wu_MD, rfl, by decide, by rw [h]; exact w_1146⟩
theorem f_MD_80 {M : x_M} (h : M.1.cls = "QuestionReaderModel") : x_fl M 80 11 10 R_MD F_MD 27 := ⟨wu_MD, rfl, by decide, by rw [h]; exact w_1148⟩
theorem f_MD_83 {M : x_M} (h : M.1.cls = "QuestionReaderModel") : x_fl M 83 11 12 R_MD F_MD 27 := ⟨wu_MD, rfl, by decide, by rw [h]; exact w_1150⟩
theorem f_MD_86 {M : x_M} (h : M.1.cls = "QuestionReaderModel") : x_fl M 86 11 9 R_MD F_MD 27 := ⟨wu_MD, rfl, by decide, by rw [h]; exact w_1147⟩
theorem f_MD_121 {M : x_M} (h : M.1.cls = "QuestionReaderModel") : x_fl M 121 11 11 R_MD F_MD 27 := ⟨wu_MD, rfl, by decide, by rw [h]; exact w_1149⟩
theorem f_MD_150 {M : x_M} (h : M.1.cls = "QuestionReaderModel") : x_fl M 150 11 13 R_MD F_MD 27 := ⟨wu_MD, rfl, by decide, by rw [h]; exact w_1151⟩
theorem f_MD_157 {M : x_M} (h : M.1.cls = "QuestionReaderModel") : x_fl M 157 11 18 R_MD F_MD 27 := ⟨wu_MD, rfl, by decide, by rw [h]; exact w_1156⟩
theorem f_MD_208 {M : x_M} (h : M.1.cls = "QuestionReaderModel") : x_fl M 208 11 24 R_MD F_MD 27 := ⟨wu_MD, rfl, by decide, by rw [h]; exact w_1162⟩
theorem f_MD_258 {M : x_M} (h : M.1.cls = "QuestionReaderModel") : x_fl M 258 11 25 R_MD F_MD 27 := ⟨wu_MD, rfl, by decide, by rw [h]; exact w_1163⟩
theorem f_MD_280 {M : x_M} (h : M.1.cls = "QuestionReaderModel") : x_fl M 280 11 23 R_MD F_MD 27 := ⟨wu_MD, rfl, by decide, by rw [h]; exact w_1161⟩
theorem f_MD_284 {M : x_M} (h : M.1.cls = "QuestionReaderModel") : x_fl M 284 11 2 R_MD F_MD 27 := ⟨wu_MD, rfl, by decide, by rw [h]; exact w_1140⟩
theorem f_MQ_7 {M : x_M} (h : M.1.cls = "QuestionReaderModel$Question") : x_fl M 7 12 1 R_MQ F_MQ 19 := ⟨wu_MQ, rfl, by decide, by rw [h]; exact w_1068⟩
theorem f_MQ_13 {M : x_M} (h : M.1.cls = "QuestionReaderModel$Question") : x_fl M 13 12 2 R_MQ F_MQ 19 := ⟨wu_MQ, rfl, by decide, by rw [h]; exact w_1070⟩
theorem f_MQ_16 {M : x_M} (h : M.1.cls = "QuestionReaderModel$Question") : x_fl M 16 12 3 R_MQ F_MQ 19 := ⟨wu_MQ, rfl, by decide, by rw [h]; exact w_1072⟩
theorem f_MQ_19 {M : x_M} (h : M.1.cls = "QuestionReaderModel$Question") : x_fl M 19 12 5 R_MQ F_MQ 19 := ⟨wu_MQ, rfl, by decide, by rw [h]; exact w_1075⟩
theorem f_MQ_22 {M : x_M} (h : M.1.cls = "QuestionReaderModel$Question") : x_fl M 22 12 7 R_MQ F_MQ 19 := ⟨wu_MQ, rfl, by decide, by rw [h]; exact w_1078⟩
theorem f_MQ_25 {M : x_M} (h : M.1.cls = "QuestionReaderModel$Question") : x_fl M 25 12 8 R_MQ F_MQ 19 := ⟨wu_MQ, rfl, by decide, by rw [h]; exact w_1080⟩
theorem f_MQ_28 {M : x_M} (h : M.1.cls = "QuestionReaderModel$Question") : x_fl M 28 12 10 R_MQ F_MQ 19 := ⟨wu_MQ, rfl, by decide, by rw [h]; exact w_1083⟩
theorem f_MQ_31 {M : x_M} (h : M.1.cls = "QuestionReaderModel$Question") : x_fl M 31 12 12 R_MQ F_MQ 19 := ⟨wu_MQ, rfl, by decide, by rw [h]; exact w_1086⟩
theorem f_MQ_34 {M : x_M} (h : M.1.cls = "QuestionReaderModel$Question") : x_fl M 34 12 14 R_MQ F_MQ 19 := ⟨wu_MQ, rfl, by decide, by rw [h]; exact w_1089⟩
theorem f_MQ_37 {M : x_M} (h : M.1.cls = "QuestionReaderModel$Question") : x_fl M 37 12 15 R_MQ F_MQ 19 := ⟨wu_MQ, rfl, by decide, by rw [h]; exact w_1091⟩
theorem f_MQ_40 {M : x_M} (h : M.1.cls = "QuestionReaderModel$Question") : x_fl M 40 12 16 R_MQ F_MQ 19 := ⟨wu_MQ, rfl, by decide, by rw [h]; exact w_1093⟩
theorem f_MQ_43 {M : x_M} (h : M.1.cls = "QuestionReaderModel$Question") : x_fl M 43 12 17 R_MQ F_MQ 19 := ⟨wu_MQ, rfl, by decide, by rw [h]; exact w_1095⟩
theorem f_MQ_46 {M : x_M} (h : M.1.cls = "QuestionReaderModel$Question") : x_fl M 46 12 18 R_MQ F_MQ 19 := ⟨wu_MQ, rfl, by decide, by rw [h]; exact w_1097⟩
theorem tb_QR : x_tb F_QR 5 t_QR := ⟨by decide +kernel, by decide +kernel⟩
theorem tb_TX : x_tb F_TX 2 t_TX := ⟨by decide +kernel, by decide +kernel⟩
theorem tb_LX : x_tb F_LX 9 t_LX := ⟨by decide +kernel, by decide +kernel⟩
theorem tb_CT : x_tb F_CT 5 t_CT := ⟨by decide +kernel, by decide +kernel⟩
theorem tb_NM : x_tb F_NM 2 t_NM := ⟨by decide +kernel, by decide +kernel⟩
theorem tb_DM : x_tb F_DM 7 t_DM := ⟨by decide +kernel, by decide +kernel⟩
theorem tb_CG : x_tb F_CG 3 t_CG := ⟨by decide +kernel, by decide +kernel⟩
theorem tb_QG : x_tb F_QG 5 t_QG := ⟨by decide +kernel, by decide +kernel⟩
theorem tb_QU : x_tb F_QU 9 t_QU := ⟨by decide +kernel, by decide +kernel⟩
theorem tb_CN : x_tb F_CN 12 t_CN := ⟨by decide +kernel, by decide +kernel⟩
theorem tb_CP : x_tb F_CP 6 t_CP := ⟨by decide +kernel, by decide +kernel⟩
theorem tb_MD : x_tb F_MD 27 t_MD := ⟨by decide +kernel, by decide +kernel⟩
theorem tb_MQ : x_tb F_MQ 19 t_MQ := ⟨by decide +kernel, by decide +kernel⟩
end
section
/-! what the written walks use -/
def x_fu : Nat := 200000
theorem x_gd {α : Type} {c : Bool} {A : Option α} {r : α} (h : (if c = true then A else none) = some r) : c = true ∧ A = some r := by
  cases c with
  | true => exact ⟨rfl, h⟩
  | false => exact nomatch h
theorem x_it {α : Type} {c : Prop} [Decidable c] {A B : Option α} {r : α} (h : (if c then A else B) = some r) (hc : c) : A = some r := by rw [if_pos hc] at h; exact h
theorem x_ie {α : Type} {c : Prop} [Decidable c] {A B : Option α} {r : α} (h : (if c then A else B) = some r) (hc : ¬ c) : B = some r := by rw [if_neg hc] at h; exact h
theorem x_bd {α β : Type} {A : Option α} {f : α → Option β} {r : β} (h : A.bind f = some r) : ∃ a, A = some a ∧ f a = some r := Option.bind_eq_some_iff.mp h
theorem x_sbk {G : x_G} {M : x_M} {rm : Room} {Qf : List Frame → Array Value → State → State → Prop} {ex : Bool} {n : Nat} {h : x_h} {cells slots : Nat} {lv lv2 : List (Nat × Value)} {st : List Value} {pc : Nat} (ks : List Nat) (hq : ks.filterMap (fun k => lv[k]?) = lv2) (k : x_W G M rm Qf ex n h cells slots lv2 st pc) : x_W G M rm Qf ex n h cells slots lv st pc :=
  x_sub (fun q hq2 => by
    subst hq
    obtain ⟨i, -, hi⟩ := List.mem_filterMap.mp hq2
    exact List.mem_of_getElem? hi) k
end
section
/-! the enum's constants; fields of a nest mate; arraycopy -/
theorem x_ls : ∀ i, i < 36 → Cond.laysStatic "QuestionReader$Kind" (x_kn.getD i "") "LQuestionReader$Kind;" ∈ lw_tbl := fun i hi => match i, hi with
  | 0, _ => wl_60
  | 1, _ => wl_423
  | 2, _ => wl_421
  | 3, _ => wl_404
  | 4, _ => wl_402
  | 5, _ => wl_505
  | 6, _ => wl_514
  | 7, _ => wl_520
  | 8, _ => wl_680
  | 9, _ => wl_491
  | 10, _ => wl_511
  | 11, _ => wl_585
  | 12, _ => wl_587
  | 13, _ => wl_589
  | 14, _ => wl_591
  | 15, _ => wl_593
  | 16, _ => wl_595
  | 17, _ => wl_692
  | 18, _ => wl_694
  | 19, _ => wl_696
  | 20, _ => wl_429
  | 21, _ => wl_522
  | 22, _ => wl_646
  | 23, _ => wl_652
  | 24, _ => wl_654
  | 25, _ => wl_656
  | 26, _ => wl_468
  | 27, _ => wl_460
  | 28, _ => wl_466
  | 29, _ => wl_462
  | 30, _ => wl_464
  | 31, _ => wl_572
  | 32, _ => wl_636
  | 33, _ => wl_529
  | 34, _ => wl_566
  | 35, _ => wl_555
  | _ + 36, h => absurd h (by omega)
theorem x_Zk {G : x_G} {s : State} (hZ : x_Z G s) {i : Nat} (hi : i < 36) : va_Z "QuestionReader$Kind" (x_kn.getD i "") "LQuestionReader$Kind;" (.ref (x_C G i)) (x_A G) s s.heap :=
  (va_Z.moved hZ.2.1.alike (hZ.1.1.1 i hi).1).kept (fun a ha _ => hZ.2.2 a ha)
theorem x_kinj {G : x_G} (h0 : x_0 G) {a b : Nat} (ha : x_kv a = true) (hb : x_kv b = true) (h : x_ad G a = x_ad G b) : a = b := by
  simp only [x_kv, Bool.and_eq_true, decide_eq_true_eq] at ha hb
  unfold x_ad at h
  rw [if_neg (by omega), if_neg (by omega)] at h
  have := h0.1.2.1 (a - x_N) (b - x_N) (by omega) (by omega) h
  omega
section XK
variable {G : x_G} {M : x_M} {rm : Room} {Qf : List Frame → Array Value → State → State → Prop} {ex : Bool} {n : Nat} {h : x_h} {cells slots : Nat} {lv : List (Nat × Value)} {st : List Value} {pc : Nat}
theorem x_gets {i index : Nat} (hd : decode M.2.1 pc = .ok (.getstatic index, 3)) (hi : i < 36) (hl : Cond.fieldLink M.1.cls index "QuestionReader$Kind" (x_kn.getD i "") "LQuestionReader$Kind;" ∈ x_tsl) (k : x_W G M rm Qf ex n h cells slots lv (.ref (x_N + i) :: st) (pc + 3)) : x_W G M rm Qf ex n h cells slots lv st pc := by
  intro p e s m args below meth c F H locs ls hH hS hlv
  obtain ⟨f1, f2, f3, f4, f5, f6, f7, f8, hts, hK⟩ := id F
  have hk := k p e s m args below meth c F H locs ls hH hS hlv
  have e0 : x_ad G (x_N + i) = x_C G i := by unfold x_ad; rw [if_neg (by omega), Nat.add_sub_cancel_left]
  refine va_gets f1 f2 (x_Zk hK.2.1 hi) hS f6 (hts _ hl) (fun _ z => z) hd ?_
  rw [← e0]
  exact hk
theorem x_kacmp_eq {a b : Nat} {off : Int} {tgt : Nat} (hd : decode M.2.1 pc = .ok (.if_acmp .eq off, 3)) (ht : (pc : Int) + off = (tgt : Int)) (ha : x_kv a = true) (hb : x_kv b = true) (kt : a = b → x_W G M rm Qf ex n h cells slots lv st tgt) (kf : ¬ a = b → x_W G M rm Qf ex n h cells slots lv st (pc + 3)) : x_W G M rm Qf ex n h cells slots lv (.ref b :: .ref a :: st) pc :=
  fun p e s m args below meth c F H locs ls hH hS hl => x_acmp_eq hd ht (x_kinj F.2.2.2.2.2.2.2.2.2.2.1.1 ha hb) kt kf p e s m args below meth c F H locs ls hH hS hl
theorem x_kacmp_ne {a b : Nat} {off : Int} {tgt : Nat} (hd : decode M.2.1 pc = .ok (.if_acmp .ne off, 3)) (ht : (pc : Int) + off = (tgt : Int)) (ha : x_kv a = true) (hb : x_kv b = true) (kt : ¬ a = b → x_W G M rm Qf ex n h cells slots lv st tgt) (kf : a = b → x_W G M rm Qf ex n h cells slots lv st (pc + 3)) : x_W G M rm Qf ex n h cells slots lv (.ref b :: .ref a :: st) pc :=
  fun p e s m args below meth c F H locs ls hH hS hl => x_acmp_ne hd ht (x_kinj F.2.2.2.2.2.2.2.2.2.2.1.1 ha hb) kt kf p e s m args below meth c F H locs ls hH hS hl
end XK
theorem x_kvN (i : Nat) (hi : i < 36) : x_kv (x_N + i) = true := by
  simp only [x_kv, Bool.and_eq_true, decide_eq_true_eq]; omega
/-- a Comparison -/
def x_cp (p : Nat) : Bool := (decide (131 ≤ p) && decide (p < 251) && decide ((p - 131) % 2 = 0)) || (decide (267 ≤ p) && decide (p < 387) && decide ((p - 267) % 2 = 0))
theorem x_cp_ok {p : Nat} (h : x_cp p = true) : x_CP p := by
  simp only [x_cp, Bool.and_eq_true, Bool.or_eq_true, decide_eq_true_eq] at h
  rcases h with h | h
  · exact ⟨115, (p - 131) / 2, Or.inl rfl, by omega, by omega⟩
  · exact ⟨251, (p - 267) / 2, Or.inr rfl, by omega, by omega⟩
def x_fn (M : x_M) (index ci k : Nat) (C : String) (T : u_T) (N : Nat) (host : String) : Prop := (∀ w ∈ u_ws C T N, w ∈ x_tsl) ∧ vwCl[ci]? = some (C, T, N) ∧ k < N ∧ Cond.fieldLinkNest M.1.cls index (T k).1 (T k).2.1 (T k).2.2.1 host ∈ lw_tbl
theorem x_nF {G : x_G} {s : State} (hZ : x_Z G s) {a : String} {i : Nat} {b n d h : String} (hw : Cond.fieldLinkNest a i b n d h ∈ lw_tbl) {args : Array Value} : (Cond.fieldLinkNest a i b n d h).before args s = true :=
  va_Nw.use rfl (va_Nw.warmF hZ.2.1 (va_Nw.of rfl (hZ.1.2.2.1 _ hw)))
section XN
variable {G : x_G} {M : x_M} {rm : Room} {Qf : List Frame → Array Value → State → State → Prop} {ex : Bool} {n : Nat} {h : x_h} {cells slots : Nat} {lv : List (Nat × Value)} {st : List Value} {pc : Nat}
theorem x_getfN {index ci k : Nat} {C : String} {T : u_T} {N : Nat} {host : String} {fs : List Value} {v : Value} {a : Nat} (hd : decode M.2.1 pc = .ok (.getfield index, 3)) (hf : x_fn M index ci k C T N host) (ha : a < n) (hc : h a = .inr (ci, fs)) (hv : fs[k]? = some v)
    (kk : x_W G M rm Qf ex n h cells slots lv (v :: st) (pc + 3)) : x_W G M rm Qf ex n h cells slots lv (.ref a :: st) pc := by
  intro p e s m args below meth c F H locs ls hH hS hl
  obtain ⟨f1, f2, f3, f4, f5, f6, f7, f8, hts, hK⟩ := id F
  show W p _ e rm s m args below meth c H locs cells slots _ (F0 m pc ls (.ref (x_ad G a) :: x_st G st))
  rw [x_ad_new (Nat.lt_of_lt_of_le ha hH.1)]
  exact va_getN (D := x_D G) f1 f2 hts hf.1 f6 hK.1 (hH.at ha hc) 0 (fs := fs.map (x_v G)) rfl hf.2.1 k hf.2.2.1 (x_nF hK.2.1 hf.2.2.2) (fun _ z => z) (v := x_v G v) (by rw [List.getElem?_map, hv]; rfl) hd (kk p e s m args below meth c F H locs ls hH hS hl)
theorem x_putfN {index ci k : Nat} {C : String} {T : u_T} {N : Nat} {host : String} {t0 : Nat → FieldType} {fs : List Value} {v : Value} {a : Nat} (hd : decode M.2.1 pc = .ok (.putfield index, 3)) (hf : x_fn M index ci k C T N host) (hb : x_tb T N t0) (hfin : (T k).2.2.2 = false) (ha : a < n) (hc : h a = .inr (ci, fs)) (hlen : k < fs.length) (hn : narrow (t0 k) v = v) (hfit : fits (t0 k) v = true)
    (kk : x_W G M rm Qf ex n (va_up h a (.inr (ci, fs.set k v))) cells slots lv st (pc + 3)) : x_W G M rm Qf ex n h cells slots lv (v :: .ref a :: st) pc := by
  intro p e s m args below meth c F H locs ls hH hS hl
  obtain ⟨f1, f2, f3, f4, f5, f6, f7, f8, hts, hK⟩ := id F
  show W p _ e rm s m args below meth c H locs cells slots _ (F0 m pc ls (x_v G v :: .ref (x_ad G a) :: x_st G st))
  rw [x_ad_new (Nat.lt_of_lt_of_le ha hH.1)]
  have hap := va_apart (own := M.1.cls) hts hf.1 t0 hb.1 hb.2 hK.1 hf.2.1
  obtain ⟨r, h1, cell, q1, q2, q3, q4⟩ := (hH.at ha hc) 0 _ rfl
  have hr : r = (C, T, N) := Option.some.inj (h1.symm.trans hf.2.1)
  subst hr
  obtain ⟨hS1, hfc, kC, hkC, hkind⟩ := hK.1.1 ci _ hf.2.1
  obtain ⟨cf, kf, fi, f, hi, hsl⟩ := hS1 k hf.2.2.1
  have hlay := hts _ (hf.1 _ (u_in_lay hf.2.2.1))
  unfold u_lay at hlay
  rw [if_neg (by rw [hfin]; decide)] at hlay
  have hst := (u_facts hfc hkC (u_lays hts hf.1 hf.2.2.1) hi).1
  have h6 := u_store hfc hkC hkind hlay hi (hb.1 k hf.2.2.1) (x_nar (G := G) hn) (x_fit (G := G) hfit)
  refine va_WputK f1 f2 (f := f) f6 (x_nF hK.2.1 hf.2.2.2) hi hst (by rw [q2]; exact h6) q1 q3 (by rw [hsl]; exact k2_hasslot (q4 k hf.2.2.1)) rfl rfl hd fun H' e1 e2 e3 => ?_
  rw [hsl] at e1 ⊢
  refine kk p e s m args below meth c F H' _ ls (hH.upd e2 e3 ?_) (x_S.put hS e2 e3) hl
  refine ⟨_, hf.2.1, t_OB.to (V := updV (vp_V (fs.map (x_v G))) k (x_v G v)) ⟨_, e1, q2, q3, t_set q4 hap hf.2.2.1 _⟩ (fun j _ => ?_)⟩
  rw [vp_updV_set (by rw [List.length_map]; exact hlen)]
  show vp_V ((fs.map (x_v G)).set k (x_v G v)) j = vp_V ((fs.set k v).map (x_v G)) j
  rw [List.map_set]
end XN
section XNM
variable {G : x_G} {M : x_M} {rm : Room} {Qf : List Frame → Array Value → State → State → Prop} {ex : Bool} {m : x_m} {cells slots : Nat} {lv : List (Nat × Value)} {st : List Value} {pc : Nat}
variable {index ci k p : Nat} {C host : String} {T : u_T} {N : Nat} {tp : List (Nat ⊕ Bool)}
theorem x_gIN (hd : decode M.2.1 pc = .ok (.getfield index, 3)) (hf : x_fn M index ci k C T N host) (hs : x_shape p = .inl (ci, tp)) (hp : p < x_np) (ht : tp[k]? = some (.inr false))
    (kk : x_W G M rm Qf ex x_np (x_hp m) cells slots lv (.int (m.1 p k) :: st) (pc + 3)) : x_W G M rm Qf ex x_np (x_hp m) cells slots lv (.ref p :: st) pc :=
  x_getfN hd hf hp (x_hp_o hs) (x_fs_get ht) kk
theorem x_gCN {c : Nat} (hd : decode M.2.1 pc = .ok (.getfield index, 3)) (hf : x_fn M index ci k C T N host) (hs : x_shape p = .inl (ci, tp)) (hp : p < x_np) (ht : tp[k]? = some (.inl c))
    (kk : x_W G M rm Qf ex x_np (x_hp m) cells slots lv (.ref c :: st) (pc + 3)) : x_W G M rm Qf ex x_np (x_hp m) cells slots lv (.ref p :: st) pc :=
  x_getfN hd hf hp (x_hp_o hs) (x_fs_get ht) kk
theorem x_gRN (hd : decode M.2.1 pc = .ok (.getfield index, 3)) (hf : x_fn M index ci k C T N host) (hs : x_shape p = .inl (ci, tp)) (hp : p < x_np) (ht : tp[k]? = some (.inr true))
    (kk : x_W G M rm Qf ex x_np (x_hp m) cells slots lv (.ref (m.2.2.1 p k) :: st) (pc + 3)) : x_W G M rm Qf ex x_np (x_hp m) cells slots lv (.ref p :: st) pc :=
  x_getfN hd hf hp (x_hp_o hs) (x_fs_get ht) kk
theorem x_pIN {t0 : Nat → FieldType} {v : Int32} (hd : decode M.2.1 pc = .ok (.putfield index, 3)) (hf : x_fn M index ci k C T N host) (hb : x_tb T N t0) (hfin : (T k).2.2.2 = false) (hs : x_shape p = .inl (ci, tp)) (hp : p < x_np) (ht : tp[k]? = some (.inr false)) (hn : narrow (t0 k) (.int v) = .int v ∧ fits (t0 k) (.int v) = true)
    (kk : x_W G M rm Qf ex x_np (x_hp (x_wS m p k v)) cells slots lv st (pc + 3)) : x_W G M rm Qf ex x_np (x_hp m) cells slots lv (.int v :: .ref p :: st) pc :=
  x_putfN hd hf hb hfin hp (x_hp_o hs) (by rw [x_fs, List.length_mapIdx]; exact (List.getElem?_eq_some_iff.mp ht).1) hn.1 hn.2 (by rw [x_up_S v hs ht]; exact kk)
end XNM
theorem f_MD_179 {M : x_M} (h : M.1.cls = "QuestionReaderModel") : x_fn M 179 12 0 R_MQ F_MQ 19 "QuestionReaderModel" := ⟨wu_MQ, rfl, by decide, by rw [h]; exact wl_1067⟩
theorem f_MD_185 {M : x_M} (h : M.1.cls = "QuestionReaderModel") : x_fn M 185 12 1 R_MQ F_MQ 19 "QuestionReaderModel" := ⟨wu_MQ, rfl, by decide, by rw [h]; exact wl_1069⟩
theorem f_MD_188 {M : x_M} (h : M.1.cls = "QuestionReaderModel") : x_fn M 188 12 2 R_MQ F_MQ 19 "QuestionReaderModel" := ⟨wu_MQ, rfl, by decide, by rw [h]; exact wl_1071⟩
theorem f_MD_191 {M : x_M} (h : M.1.cls = "QuestionReaderModel") : x_fn M 191 12 3 R_MQ F_MQ 19 "QuestionReaderModel" := ⟨wu_MQ, rfl, by decide, by rw [h]; exact wl_1073⟩
theorem f_MD_194 {M : x_M} (h : M.1.cls = "QuestionReaderModel") : x_fn M 194 12 12 R_MQ F_MQ 19 "QuestionReaderModel" := ⟨wu_MQ, rfl, by decide, by rw [h]; exact wl_1087⟩
theorem f_MD_196 {M : x_M} (h : M.1.cls = "QuestionReaderModel") : x_fn M 196 12 11 R_MQ F_MQ 19 "QuestionReaderModel" := ⟨wu_MQ, rfl, by decide, by rw [h]; exact wl_1085⟩
theorem f_MD_217 {M : x_M} (h : M.1.cls = "QuestionReaderModel") : x_fn M 217 12 13 R_MQ F_MQ 19 "QuestionReaderModel" := ⟨wu_MQ, rfl, by decide, by rw [h]; exact wl_1088⟩
theorem f_MD_220 {M : x_M} (h : M.1.cls = "QuestionReaderModel") : x_fn M 220 12 14 R_MQ F_MQ 19 "QuestionReaderModel" := ⟨wu_MQ, rfl, by decide, by rw [h]; exact wl_1090⟩
theorem f_MD_223 {M : x_M} (h : M.1.cls = "QuestionReaderModel") : x_fn M 223 12 15 R_MQ F_MQ 19 "QuestionReaderModel" := ⟨wu_MQ, rfl, by decide, by rw [h]; exact wl_1092⟩
theorem f_MD_226 {M : x_M} (h : M.1.cls = "QuestionReaderModel") : x_fn M 226 12 16 R_MQ F_MQ 19 "QuestionReaderModel" := ⟨wu_MQ, rfl, by decide, by rw [h]; exact wl_1094⟩
theorem f_MD_235 {M : x_M} (h : M.1.cls = "QuestionReaderModel") : x_fn M 235 12 17 R_MQ F_MQ 19 "QuestionReaderModel" := ⟨wu_MQ, rfl, by decide, by rw [h]; exact wl_1096⟩
theorem f_MD_238 {M : x_M} (h : M.1.cls = "QuestionReaderModel") : x_fn M 238 12 18 R_MQ F_MQ 19 "QuestionReaderModel" := ⟨wu_MQ, rfl, by decide, by rw [h]; exact wl_1098⟩
theorem f_MD_240 {M : x_M} (h : M.1.cls = "QuestionReaderModel") : x_fn M 240 12 4 R_MQ F_MQ 19 "QuestionReaderModel" := ⟨wu_MQ, rfl, by decide, by rw [h]; exact wl_1074⟩
theorem f_MD_243 {M : x_M} (h : M.1.cls = "QuestionReaderModel") : x_fn M 243 12 5 R_MQ F_MQ 19 "QuestionReaderModel" := ⟨wu_MQ, rfl, by decide, by rw [h]; exact wl_1076⟩
theorem f_MD_249 {M : x_M} (h : M.1.cls = "QuestionReaderModel") : x_fn M 249 12 7 R_MQ F_MQ 19 "QuestionReaderModel" := ⟨wu_MQ, rfl, by decide, by rw [h]; exact wl_1079⟩
theorem f_MD_252 {M : x_M} (h : M.1.cls = "QuestionReaderModel") : x_fn M 252 12 6 R_MQ F_MQ 19 "QuestionReaderModel" := ⟨wu_MQ, rfl, by decide, by rw [h]; exact wl_1077⟩
theorem f_MD_255 {M : x_M} (h : M.1.cls = "QuestionReaderModel") : x_fn M 255 12 8 R_MQ F_MQ 19 "QuestionReaderModel" := ⟨wu_MQ, rfl, by decide, by rw [h]; exact wl_1081⟩
theorem f_MD_264 {M : x_M} (h : M.1.cls = "QuestionReaderModel") : x_fn M 264 12 9 R_MQ F_MQ 19 "QuestionReaderModel" := ⟨wu_MQ, rfl, by decide, by rw [h]; exact wl_1082⟩
theorem f_MD_267 {M : x_M} (h : M.1.cls = "QuestionReaderModel") : x_fn M 267 12 10 R_MQ F_MQ 19 "QuestionReaderModel" := ⟨wu_MQ, rfl, by decide, by rw [h]; exact wl_1084⟩
end
section
/-! arraycopy between arrays of the heap -/
def x_wC (m : x_m) (a0 a1 sp dp n : Nat) : x_m := (m.1, fun p => if p = a1 then va_cpy (m.2.1 a0) (m.2.1 a1) sp dp n else m.2.1 p, m.2.2)
def x_cg (sp dp n : Int32) (l0 l1 : Nat) : Bool := decide (¬ sp < 0) && (decide (¬ dp < 0) && (decide (¬ n < 0) && (decide (sp.toNatClampNeg + n.toNatClampNeg ≤ l0) && decide (dp.toNatClampNeg + n.toNatClampNeg ≤ l1))))
def x_cb (m : x_m) (a0 : Nat) (sp n : Int32) : Bool := (List.range n.toNatClampNeg).all (fun i => fits .byte (.int (m.2.1 a0 (sp.toNatClampNeg + i))))
theorem x_up_C {m : x_m} {a0 p t n : Nat} (sp dp k : Nat) (hs : x_shape p = .inr (.inl (t, n))) : va_up (x_hp m) p (.inl (t, n, .inl (va_cpy (m.2.1 a0) (m.2.1 p) sp dp k))) = x_hp (x_wC m a0 p sp dp k) := by
  funext q
  by_cases e : q = p
  · subst e
    rw [va_up_self, x_hp_i hs]
    show _ = (Sum.inl (t, n, .inl (if q = q then va_cpy (m.2.1 a0) (m.2.1 q) sp dp k else m.2.1 q)) : va_E)
    rw [if_pos rfl]
  · rw [va_up_ne _ _ e]
    unfold x_hp
    cases x_shape q with
    | inl z => rfl
    | inr z =>
      match z with
      | .inl (t1, n1) =>
        show _ = (Sum.inl (t1, n1, .inl (if q = p then va_cpy (m.2.1 a0) (m.2.1 p) sp dp k else m.2.1 q)) : va_E)
        rw [if_neg e]
      | .inr (.inl (t1, n1)) => rfl
      | .inr (.inr (t1, n1, f1)) => rfl
section XJ
variable {G : x_G} {M : x_M} {rm : Room} {Qf : List Frame → Array Value → State → State → Prop} {ex : Bool} {n : Nat} {h : x_h} {cells slots : Nat} {lv : List (Nat × Value)} {st : List Value} {pc index : Nat}
theorem x_copyH {a0 a1 t l0 l1 : Nat} {f g : Nat → Int32} {ty : FieldType} {sp dp k : Int32} (hd : decode M.2.1 pc = .ok (.invokestatic index, 3)) (hlk : Cond.methodLink M.1.cls index arraycopyName ∈ x_tsl) (hw1 : Cond.native arraycopyName ∈ x_tsl) (hw2 : Cond.static arraycopyName ∈ x_tsl) (hw3 : Cond.initialized "java/lang/System" ∈ x_tsl)
    (ht : x_tl[t]? = some ty) (hprim : refKind ty = false) (ha0 : a0 < n) (hc0 : h a0 = .inl (t, l0, .inl f)) (ha1 : a1 < n) (hc1 : h a1 = .inl (t, l1, .inl g)) (hg : x_cg sp dp k l0 l1 = true) (hfit : ∀ i, i < k.toNatClampNeg → fits ty (.int (f (sp.toNatClampNeg + i))) = true)
    (hfr : 1 ≤ rm.frames) (hlo : (st.map fun v => v.category).sum + (nativeFrameWords "java/lang/System" "arraycopy" 5 + 11) ≤ rm.locals)
    (kk : x_W G M rm Qf ex n (va_up h a1 (.inl (t, l1, .inl (va_cpy f g sp.toNatClampNeg dp.toNatClampNeg k.toNatClampNeg)))) cells slots lv st (pc + 3)) : x_W G M rm Qf ex n h cells slots lv (.int k :: .int dp :: .ref a1 :: .int sp :: .ref a0 :: st) pc := by
  intro p e s m args below meth c F H locs ls hH hS hl T hT X
  obtain ⟨f1, f2, f3, f4, f5, f6, f7, f8, hts, hK⟩ := id F
  simp only [x_cg, Bool.and_eq_true, decide_eq_true_eq] at hg
  obtain ⟨h1, h2, h3, h4, h5⟩ := hg
  have nn : ∀ z : Int32, ¬ z < 0 → z.toInt = (z.toNatClampNeg : Int) := by
    intro z hz
    have hz0 : (0 : Int) ≤ z.toInt := by
      have := Int32.not_lt.mp hz
      simpa using Int32.le_iff_toInt_le.mp this
    show z.toInt = ((z.toInt.toNat : Nat) : Int)
    omega
  have hc0' : H[x_B G + a0]? = some (vp_cell (x_c G t) (l0, .inl f)) := (hH.at ha0 hc0) 0 _ rfl
  have hc1' : H[x_B G + a1]? = some (vp_cell (x_c G t) (l1, .inl g)) := (hH.at ha1 hc1) 0 _ rfl
  obtain ⟨-, k0, hk0, cm0, hkk0⟩ := (hK.1.2 t _ (x_ty_at ht)).1 l0 (fun j => .int (f j))
  obtain ⟨-, k1, hk1, cm1, hkk1⟩ := (hK.1.2 t _ (x_ty_at ht)).1 l1 (fun j => .int (g j))
  have e5 : F0 m pc ls (x_st G (.int k :: .int dp :: .ref a1 :: .int sp :: .ref a0 :: st)) = F0 m pc ls (.int k :: .int dp :: .ref (x_B G + a1) :: .int sp :: .ref (x_B G + a0) :: x_st G st) := by
    show F0 m pc ls (.int k :: .int dp :: .ref (x_ad G a1) :: .int sp :: .ref (x_ad G a0) :: x_st G st) = _
    rw [x_ad_new (Nat.lt_of_lt_of_le ha0 hH.1), x_ad_new (Nat.lt_of_lt_of_le ha1 hH.1)]
  rw [e5]
  obtain ⟨vm', X', step⟩ := X.arraycopy f1 f6 (hts _ hlk) (hts _ hw1) (hts _ hw2) (hts _ hw3) (src := x_B G + a0) (dst := x_B G + a1) (cs := vp_cell (x_c G t) (l0, .inl f)) (cd := vp_cell (x_c G t) (l1, .inl g)) (srcPos := sp) (destPos := dp) (n := k) (by rw [hT]; exact hc0') (by rw [hT]; exact hc1')
    (fun _ z => by cases z) (fun _ z => by cases z) (fun z => by cases z) (fun z => by cases z) hk0 hk1 hkk0 hkk1 (by simp [hprim]) h1 h2 h3
    (by rw [nn sp h1, nn k h3]; show ¬ _ > ((arrV (x_c G t) l0 (fun j => .int (f j))).slots.size : Int); rw [arrV_size]; omega)
    (by rw [nn dp h2, nn k h3]; show ¬ _ > ((arrV (x_c G t) l1 (fun j => .int (g j))).slots.size : Int); rw [arrV_size]; omega)
    (fun vm₁ _ i hi => by
      have e : (vp_cell (x_c G t) (l0, .inl f)).slots.getD (sp.toNatClampNeg + i) .null = .int (f (sp.toNatClampNeg + i)) := by
        show (arrV (x_c G t) l0 (fun j => .int (f j))).slots.getD _ _ = _
        rw [Array.getD_eq_getD_getElem?, arrV_read _ _ (by omega)]
        rfl
      refine ⟨?_, ?_⟩
      · rw [e]
        exact hfit i hi
      · rw [e]
        exact trivial)
    (g := F0 m pc ls (.int k :: .int dp :: .ref (x_B G + a1) :: .int sp :: .ref (x_B G + a0) :: x_st G st)) rfl (hl.1.trans f3.symm) (rest := x_st G st) rfl (by rw [f2]; exact hd) hfr (by show 2 * 0 + _ + _ ≤ _; rw [x_stW]; omega)
  have e1 : copied (vp_cell (x_c G t) (l0, .inl f)) (vp_cell (x_c G t) (l1, .inl g)) sp dp k = vp_cell (x_c G t) (l1, .inl (va_cpy f g sp.toNatClampNeg dp.toNatClampNeg k.toNatClampNeg)) := va_copied (fun z => .int z) (x_c G t) (x_c G t) f g h4
  rw [e1] at X' step
  have hlt : x_B G + a1 < H.size := (Array.getElem?_eq_some_iff.mp hc1').1
  generalize hN : vp_cell (x_c G t) (l1, .inl (va_cpy f g sp.toNatClampNeg dp.toNatClampNeg k.toNatClampNeg)) = N at X' step
  have hheap : ((T.setVm vm').setCell (x_B G + a1) N).heap = H.setIfInBounds (x_B G + a1) N := by rw [← hT]; rfl
  have oq : ∀ q : Nat, q ≠ x_B G + a1 → (H.setIfInBounds (x_B G + a1) N)[q]? = H[q]? := fun q hq => by simp [Array.getElem?_setIfInBounds, Ne.symm hq]
  have z : (H.setIfInBounds (x_B G + a1) N).size = H.size := by simp
  have hA1 : (H.setIfInBounds (x_B G + a1) N)[x_B G + a1]? = some N := by simp [Array.getElem?_setIfInBounds, hlt]
  obtain ⟨t', b1, b2⟩ := kk p e s m args below meth c F (H.setIfInBounds (x_B G + a1) N) _ ls (hH.upd z oq (by show _ = some (vp_cell _ _); rw [hA1, ← hN]; rfl)) ⟨by rw [z]; exact hS.1, fun q g1 g2 => by
      rw [oq q (fun e => g2 (by rw [e]; exact Nat.le_add_right _ _))]
      exact hS.2.1 q g1 g2, fun q hq => by
      rcases List.mem_append.mp hq with y | y
      · exact hS.2.2 q y
      · obtain ⟨w, -, hw⟩ := List.mem_map.mp y
        rw [← hw]
        exact Nat.le_add_right _ _⟩ hl _ hheap X'
  exact ⟨t', step t' b1, b2⟩
end XJ
end
section
/-! the enum's row of constants and their keys; arraycopy over the memory -/
theorem x_TA {G : x_G} {s : State} (hZ : x_Z G s) : va_T (.object "QuestionReader$Kind") (x_C G 36) 36 (fun j => .ref (x_C G j)) (x_A G) s s.heap :=
  (va_T.moved hZ.2.1.alike hZ.1.1.2.2.1.2).kept (fun a ha _ => hZ.2.2 a ha)
theorem x_KF {G : x_G} {s : State} (hZ : x_Z G s) {i : Nat} (hi : i < 36) : va_OF "QuestionReader$Kind" "key" "J" (.long (x_kk.getD i 0)) (x_C G i) (x_A G) s s.heap :=
  (va_OF.moved hZ.2.1.alike (hZ.1.1.1 i hi).2).kept (fun a ha _ => hZ.2.2 a ha)
section XKR
variable {G : x_G} {M : x_M} {rm : Room} {Qf : List Frame → Array Value → State → State → Prop} {ex : Bool} {n : Nat} {h : x_h} {cells slots : Nat} {lv : List (Nat × Value)} {st : List Value} {pc index : Nat}
theorem x_adN {G : x_G} (i : Nat) : x_ad G (x_N + i) = x_C G i := by unfold x_ad; rw [if_neg (by omega), Nat.add_sub_cancel_left]
theorem x_getsA (hd : decode M.2.1 pc = .ok (.getstatic index, 3)) (hl : Cond.fieldLink M.1.cls index "QuestionReader$Kind" "ALL" "[LQuestionReader$Kind;" ∈ x_tsl) (k : x_W G M rm Qf ex n h cells slots lv (.ref (x_N + 36) :: st) (pc + 3)) : x_W G M rm Qf ex n h cells slots lv st pc := by
  intro p e s m args below meth c F H locs ls hH hS hlv
  obtain ⟨f1, f2, f3, f4, f5, f6, f7, f8, hts, hK⟩ := id F
  have hk := k p e s m args below meth c F H locs ls hH hS hlv
  have hz : va_Z "QuestionReader$Kind" "ALL" "[LQuestionReader$Kind;" (.ref (x_C G 36)) (x_A G) s s.heap := (va_Z.moved hK.2.1.2.1.alike hK.2.1.1.1.2.2.1.1).kept (fun a ha _ => hK.2.1.2.2 a ha)
  refine va_gets f1 f2 hz hS f6 (hts _ hl) (fun _ z => z) hd ?_
  rw [← x_adN (G := G)]
  exact hk
theorem x_alenA (hd : decode M.2.1 pc = .ok (.arraylength, 1)) (k : x_W G M rm Qf ex n h cells slots lv (.int 36 :: st) (pc + 1)) : x_W G M rm Qf ex n h cells slots lv (.ref (x_N + 36) :: st) pc := by
  intro p e s m args below meth c F H locs ls hH hS hlv
  obtain ⟨f1, f2, f3, f4, f5, f6, f7, f8, hts, hK⟩ := id F
  have hk := k p e s m args below meth c F H locs ls hH hS hlv
  obtain ⟨cell, h1, h2, h3, h4, h5, h6, h7⟩ := (x_TA hK.2.1).kept hS.2.1
  show W p _ e rm s m args below meth c H locs cells slots _ (F0 m pc ls (.ref (x_ad G (x_N + 36)) :: x_st G st))
  rw [x_adN]
  exact W.alen f1 f2 h1 h2 h5 rfl rfl hd hk
theorem x_aaldK {i : Int32} (hd : decode M.2.1 pc = .ok (.aaload, 1)) (hin : x_ix i 36 = true) (k : x_W G M rm Qf ex n h cells slots lv (.ref (x_N + i.toNatClampNeg) :: st) (pc + 1)) : x_W G M rm Qf ex n h cells slots lv (.int i :: .ref (x_N + 36) :: st) pc := by
  intro p e s m args below meth c F H locs ls hH hS hlv
  obtain ⟨f1, f2, f3, f4, f5, f6, f7, f8, hts, hK⟩ := id F
  have hk := k p e s m args below meth c F H locs ls hH hS hlv
  obtain ⟨cell, h1, h2, h3, h4, h5, h6, h7⟩ := (x_TA hK.2.1).kept hS.2.1
  have hlt := x_ix_lt hin
  have hi0 := x_ix_ok hin
  show W p _ e rm s m args below meth c H locs cells slots _ (F0 m pc ls (.int i :: .ref (x_ad G (x_N + 36)) :: x_st G st))
  rw [x_adN]
  refine W.aald (v := .ref (x_C G i.toNatClampNeg)) (ty := .object "QuestionReader$Kind") f1 f2 h1 h2 rfl h3 (fun z => ?_) (h6 _ hlt) rfl rfl hd ?_
  · rcases z with z | z
    · exact hi0 (Or.inl z)
    · omega
  · show W p _ e rm s m args below meth c H locs cells slots _ (F0 m (pc + 1) ls (.ref (x_C G i.toNatClampNeg) :: x_st G st))
    rw [← x_adN (G := G) i.toNatClampNeg]
    exact hk
theorem x_gKey {a : Nat} (hd : decode M.2.1 pc = .ok (.getfield index, 3)) (hl : Cond.fieldLink M.1.cls index "QuestionReader$Kind" "key" "J" ∈ x_tsl) (ha : x_kv a = true) (k : x_W G M rm Qf ex n h cells slots lv (.long (x_kk.getD (a - x_N) 0) :: st) (pc + 3)) : x_W G M rm Qf ex n h cells slots lv (.ref a :: st) pc := by
  intro p e s m args below meth c F H locs ls hH hS hlv
  obtain ⟨f1, f2, f3, f4, f5, f6, f7, f8, hts, hK⟩ := id F
  have hk := k p e s m args below meth c F H locs ls hH hS hlv
  simp only [x_kv, Bool.and_eq_true, decide_eq_true_eq] at ha
  obtain ⟨cf, k', fi, f, cell, h1, h2, h3, h4, h5, h6⟩ := (x_KF hK.2.1 (i := a - x_N) (by omega)).kept hS.2.1
  show W p _ e rm s m args below meth c H locs cells slots _ (F0 m pc ls (.ref (x_ad G a) :: x_st G st))
  rw [show x_ad G a = x_C G (a - x_N) by unfold x_ad; rw [if_neg (by omega)]]
  exact W.getf f1 f2 f6 (hts _ hl) h1 h2 h3 h4 (v := .long (x_kk.getD (a - x_N) 0)) h5 rfl rfl hd hk
end XKR
section XCM
variable {G : x_G} {M : x_M} {rm : Room} {Qf : List Frame → Array Value → State → State → Prop} {ex : Bool} {m : x_m} {cells slots : Nat} {lv : List (Nat × Value)} {st : List Value} {pc index : Nat}
theorem x_cpM {p0 p1 t l0 l1 : Nat} {ty : FieldType} {sp dp k : Int32} (hd : decode M.2.1 pc = .ok (.invokestatic index, 3)) (hlk : Cond.methodLink M.1.cls index arraycopyName ∈ x_tsl) (ht : x_tl[t]? = some ty) (hprim : refKind ty = false) (hs0 : x_shape p0 = .inr (.inl (t, l0))) (hp0 : p0 < x_np) (hs1 : x_shape p1 = .inr (.inl (t, l1))) (hp1 : p1 < x_np) (hg : x_cg sp dp k l0 l1 = true) (hfit : ∀ i, i < k.toNatClampNeg → fits ty (.int (m.2.1 p0 (sp.toNatClampNeg + i))) = true)
    (hfr : 1 ≤ rm.frames) (hlo : (st.map fun v => v.category).sum + (nativeFrameWords "java/lang/System" "arraycopy" 5 + 11) ≤ rm.locals)
    (kk : x_W G M rm Qf ex x_np (x_hp (x_wC m p0 p1 sp.toNatClampNeg dp.toNatClampNeg k.toNatClampNeg)) cells slots lv st (pc + 3)) : x_W G M rm Qf ex x_np (x_hp m) cells slots lv (.int k :: .int dp :: .ref p1 :: .int sp :: .ref p0 :: st) pc :=
  x_copyH hd hlk w_720 w_719 w_21 ht hprim hp0 (x_hp_i hs0) hp1 (x_hp_i hs1) hg hfit hfr hlo (by rw [x_up_C _ _ _ hs1]; exact kk)
end XCM
theorem x_cb_ok {m : x_m} {a0 : Nat} {sp n : Int32} (h : x_cb m a0 sp n = true) : ∀ i, i < n.toNatClampNeg → fits .byte (.int (m.2.1 a0 (sp.toNatClampNeg + i))) = true :=
  fun i hi => List.all_eq_true.mp h i (List.mem_range.mpr hi)
end
section
def M_ST_length : x_M := (⟨"java/lang/String", "length", "()I"⟩, prog_21_method_54_code, 1, some (.int), [])
theorem d_ST_length_0 : decode M_ST_length.2.1 0 = .ok (.aload_n 0, 1) := by decide +kernel
theorem d_ST_length_1 : decode M_ST_length.2.1 1 = .ok (.getfield 9, 3) := by decide +kernel
theorem d_ST_length_4 : decode M_ST_length.2.1 4 = .ok (.arraylength, 1) := by decide +kernel
theorem d_ST_length_5 : decode M_ST_length.2.1 5 = .ok (.aload_n 0, 1) := by decide +kernel
theorem d_ST_length_6 : decode M_ST_length.2.1 6 = .ok (.invokevirtual 335, 3) := by decide +kernel
theorem d_ST_length_9 : decode M_ST_length.2.1 9 = .ok (.ishr, 1) := by decide +kernel
theorem d_ST_length_10 : decode M_ST_length.2.1 10 = .ok (.ireturn, 1) := by decide +kernel
theorem k_ST_length : x_kV M_ST_length "java/lang/String" 0 := ⟨⟨by decide, Or.inl ⟨w_1261, rfl⟩⟩, w_1259, w_1260, ⟨by decide, by decide⟩, by decide +kernel⟩
def M_ST_coder : x_M := (⟨"java/lang/String", "coder", "()B"⟩, prog_21_method_152_code, 1, some (.byte), [])
theorem d_ST_coder_0 : decode M_ST_coder.2.1 0 = .ok (.getstatic 38, 3) := by decide +kernel
theorem d_ST_coder_3 : decode M_ST_coder.2.1 3 = .ok (.ifCond .eq 10, 3) := by decide +kernel
theorem d_ST_coder_6 : decode M_ST_coder.2.1 6 = .ok (.aload_n 0, 1) := by decide +kernel
theorem d_ST_coder_7 : decode M_ST_coder.2.1 7 = .ok (.getfield 15, 3) := by decide +kernel
theorem d_ST_coder_10 : decode M_ST_coder.2.1 10 = .ok (.goto 4, 3) := by decide +kernel
theorem d_ST_coder_13 : decode M_ST_coder.2.1 13 = .ok (.iconst 1, 1) := by decide +kernel
theorem d_ST_coder_14 : decode M_ST_coder.2.1 14 = .ok (.ireturn, 1) := by decide +kernel
theorem k_ST_coder : x_kV M_ST_coder "java/lang/String" 0 := ⟨⟨by decide, Or.inl ⟨w_1265, rfl⟩⟩, w_1263, w_1264, ⟨by decide, by decide⟩, by decide +kernel⟩
def M_ST_charAt : x_M := (⟨"java/lang/String", "charAt", "(I)C"⟩, prog_21_method_56_code, 2, some (.char), [])
theorem d_ST_charAt_0 : decode M_ST_charAt.2.1 0 = .ok (.aload_n 0, 1) := by decide +kernel
theorem d_ST_charAt_1 : decode M_ST_charAt.2.1 1 = .ok (.invokevirtual 492, 3) := by decide +kernel
theorem d_ST_charAt_4 : decode M_ST_charAt.2.1 4 = .ok (.ifCond .eq 12, 3) := by decide +kernel
theorem d_ST_charAt_7 : decode M_ST_charAt.2.1 7 = .ok (.aload_n 0, 1) := by decide +kernel
theorem d_ST_charAt_8 : decode M_ST_charAt.2.1 8 = .ok (.getfield 9, 3) := by decide +kernel
theorem d_ST_charAt_11 : decode M_ST_charAt.2.1 11 = .ok (.iload_n 1, 1) := by decide +kernel
theorem d_ST_charAt_12 : decode M_ST_charAt.2.1 12 = .ok (.invokestatic 495, 3) := by decide +kernel
theorem d_ST_charAt_15 : decode M_ST_charAt.2.1 15 = .ok (.ireturn, 1) := by decide +kernel
theorem d_ST_charAt_16 : decode M_ST_charAt.2.1 16 = .ok (.aload_n 0, 1) := by decide +kernel
theorem d_ST_charAt_17 : decode M_ST_charAt.2.1 17 = .ok (.getfield 9, 3) := by decide +kernel
theorem d_ST_charAt_20 : decode M_ST_charAt.2.1 20 = .ok (.iload_n 1, 1) := by decide +kernel
theorem d_ST_charAt_21 : decode M_ST_charAt.2.1 21 = .ok (.invokestatic 498, 3) := by decide +kernel
theorem d_ST_charAt_24 : decode M_ST_charAt.2.1 24 = .ok (.ireturn, 1) := by decide +kernel
theorem k_ST_charAt : x_kV M_ST_charAt "java/lang/String" 1 := ⟨⟨by decide, Or.inl ⟨w_1271, rfl⟩⟩, w_1269, w_1270, ⟨by decide, by decide⟩, by decide +kernel⟩
def M_ST_isLatin1 : x_M := (⟨"java/lang/String", "isLatin1", "()Z"⟩, prog_21_method_154_code, 1, some (.boolean), [])
theorem d_ST_isLatin1_0 : decode M_ST_isLatin1.2.1 0 = .ok (.getstatic 38, 3) := by decide +kernel
theorem d_ST_isLatin1_3 : decode M_ST_isLatin1.2.1 3 = .ok (.ifCond .eq 14, 3) := by decide +kernel
theorem d_ST_isLatin1_6 : decode M_ST_isLatin1.2.1 6 = .ok (.aload_n 0, 1) := by decide +kernel
theorem d_ST_isLatin1_7 : decode M_ST_isLatin1.2.1 7 = .ok (.getfield 15, 3) := by decide +kernel
theorem d_ST_isLatin1_10 : decode M_ST_isLatin1.2.1 10 = .ok (.ifCond .ne 7, 3) := by decide +kernel
theorem d_ST_isLatin1_13 : decode M_ST_isLatin1.2.1 13 = .ok (.iconst 1, 1) := by decide +kernel
theorem d_ST_isLatin1_14 : decode M_ST_isLatin1.2.1 14 = .ok (.goto 4, 3) := by decide +kernel
theorem d_ST_isLatin1_17 : decode M_ST_isLatin1.2.1 17 = .ok (.iconst 0, 1) := by decide +kernel
theorem d_ST_isLatin1_18 : decode M_ST_isLatin1.2.1 18 = .ok (.ireturn, 1) := by decide +kernel
theorem k_ST_isLatin1 : x_kV M_ST_isLatin1 "java/lang/String" 0 := ⟨⟨by decide, Or.inl ⟨w_1275, rfl⟩⟩, w_1273, w_1274, ⟨by decide, by decide⟩, by decide +kernel⟩
def M_SL_charAt : x_M := (⟨"java/lang/StringLatin1", "charAt", "([BI)C"⟩, prog_22_method_2_code, 2, some (.char), [])
theorem d_SL_charAt_0 : decode M_SL_charAt.2.1 0 = .ok (.iload_n 1, 1) := by decide +kernel
theorem d_SL_charAt_1 : decode M_SL_charAt.2.1 1 = .ok (.aload_n 0, 1) := by decide +kernel
theorem d_SL_charAt_2 : decode M_SL_charAt.2.1 2 = .ok (.arraylength, 1) := by decide +kernel
theorem d_SL_charAt_3 : decode M_SL_charAt.2.1 3 = .ok (.invokestatic 9, 3) := by decide +kernel
theorem d_SL_charAt_6 : decode M_SL_charAt.2.1 6 = .ok (.aload_n 0, 1) := by decide +kernel
theorem d_SL_charAt_7 : decode M_SL_charAt.2.1 7 = .ok (.iload_n 1, 1) := by decide +kernel
theorem d_SL_charAt_8 : decode M_SL_charAt.2.1 8 = .ok (.baload, 1) := by decide +kernel
theorem d_SL_charAt_9 : decode M_SL_charAt.2.1 9 = .ok (.sipush 255, 3) := by decide +kernel
theorem d_SL_charAt_12 : decode M_SL_charAt.2.1 12 = .ok (.iand, 1) := by decide +kernel
theorem d_SL_charAt_13 : decode M_SL_charAt.2.1 13 = .ok (.i2c, 1) := by decide +kernel
theorem d_SL_charAt_14 : decode M_SL_charAt.2.1 14 = .ok (.ireturn, 1) := by decide +kernel
theorem k_SL_charAt : x_kS M_SL_charAt 2 := ⟨⟨by decide, Or.inl ⟨w_1278, rfl⟩⟩, w_1277, w_23, ⟨by decide, by decide⟩, by decide +kernel⟩
def M_ST_checkIndex : x_M := (⟨"java/lang/String", "checkIndex", "(II)V"⟩, prog_21_method_155_code, 2, none, [])
theorem d_ST_checkIndex_0 : decode M_ST_checkIndex.2.1 0 = .ok (.iload_n 0, 1) := by decide +kernel
theorem d_ST_checkIndex_1 : decode M_ST_checkIndex.2.1 1 = .ok (.iload_n 1, 1) := by decide +kernel
theorem d_ST_checkIndex_2 : decode M_ST_checkIndex.2.1 2 = .ok (.getstatic 1053, 3) := by decide +kernel
theorem d_ST_checkIndex_5 : decode M_ST_checkIndex.2.1 5 = .ok (.invokestatic 1059, 3) := by decide +kernel
theorem d_ST_checkIndex_8 : decode M_ST_checkIndex.2.1 8 = .ok (.pop, 1) := by decide +kernel
theorem d_ST_checkIndex_9 : decode M_ST_checkIndex.2.1 9 = .ok (.return_, 1) := by decide +kernel
theorem k_ST_checkIndex : x_kS M_ST_checkIndex 2 := ⟨⟨by decide, Or.inl ⟨w_1281, rfl⟩⟩, w_1280, w_22, ⟨by decide, by decide⟩, by decide +kernel⟩
def M_PC_checkIndex : x_M := (⟨"jdk/internal/util/Preconditions", "checkIndex", "(IILjava/util/function/BiFunction;)I"⟩, prog_26_method_11_code, 3, some (.int), [])
theorem d_PC_checkIndex_0 : decode M_PC_checkIndex.2.1 0 = .ok (.iload_n 0, 1) := by decide +kernel
theorem d_PC_checkIndex_1 : decode M_PC_checkIndex.2.1 1 = .ok (.ifCond .lt 8, 3) := by decide +kernel
theorem d_PC_checkIndex_4 : decode M_PC_checkIndex.2.1 4 = .ok (.iload_n 0, 1) := by decide +kernel
theorem d_PC_checkIndex_5 : decode M_PC_checkIndex.2.1 5 = .ok (.iload_n 1, 1) := by decide +kernel
theorem d_PC_checkIndex_6 : decode M_PC_checkIndex.2.1 6 = .ok (.if_icmp .lt 10, 3) := by decide +kernel
theorem d_PC_checkIndex_9 : decode M_PC_checkIndex.2.1 9 = .ok (.aload_n 2, 1) := by decide +kernel
theorem d_PC_checkIndex_10 : decode M_PC_checkIndex.2.1 10 = .ok (.iload_n 0, 1) := by decide +kernel
theorem d_PC_checkIndex_11 : decode M_PC_checkIndex.2.1 11 = .ok (.iload_n 1, 1) := by decide +kernel
theorem d_PC_checkIndex_16 : decode M_PC_checkIndex.2.1 16 = .ok (.iload_n 0, 1) := by decide +kernel
theorem d_PC_checkIndex_17 : decode M_PC_checkIndex.2.1 17 = .ok (.ireturn, 1) := by decide +kernel
theorem k_PC_checkIndex : x_kS M_PC_checkIndex 3 := ⟨⟨by decide, Or.inl ⟨w_1286, rfl⟩⟩, w_1285, w_24, ⟨by decide, by decide⟩, by decide +kernel⟩
section XT
theorem x_To {G : x_G} {s : State} (hZ : x_Z G s) : va_O "java/lang/String" (x_C G 37) (x_A G) s s.heap := (va_O.moved hZ.2.1.alike hZ.1.1.2.2.2.1.1).kept (fun a ha _ => hZ.2.2 a ha)
theorem x_Tc {G : x_G} {s : State} (hZ : x_Z G s) : va_OF "java/lang/String" "coder" "B" (.int 0) (x_C G 37) (x_A G) s s.heap := (va_OF.moved hZ.2.1.alike hZ.1.1.2.2.2.1.2.1).kept (fun a ha _ => hZ.2.2 a ha)
theorem x_Tv {G : x_G} {s : State} (hZ : x_Z G s) : va_OF "java/lang/String" "value" "[B" (.ref (x_C G 38)) (x_C G 37) (x_A G) s s.heap := (va_OF.moved hZ.2.1.alike hZ.1.1.2.2.2.1.2.2.1).kept (fun a ha _ => hZ.2.2 a ha)
theorem x_Tb {G : x_G} {s : State} (hZ : x_Z G s) : va_T .byte (x_C G 38) 109 (fun j => .int (x_rs.getD j 0)) (x_A G) s s.heap := (va_T.moved hZ.2.1.alike hZ.1.1.2.2.2.1.2.2.2).kept (fun a ha _ => hZ.2.2 a ha)
variable {G : x_G} {M : x_M} {rm : Room} {Qf : List Frame → Array Value → State → State → Prop} {ex : Bool} {n : Nat} {h : x_h} {cells slots : Nat} {lv : List (Nat × Value)} {st stk : List Value} {pc index : Nat}
theorem x_tcoder (hd : decode M.2.1 pc = .ok (.getfield index, 3)) (hl : Cond.fieldLink M.1.cls index "java/lang/String" "coder" "B" ∈ x_tsl) (k : x_W G M rm Qf ex n h cells slots lv (.int 0 :: st) (pc + 3)) : x_W G M rm Qf ex n h cells slots lv (.ref (x_N + 37) :: st) pc := by
  intro p e s m args below meth c F H locs ls hH hS hlv
  obtain ⟨f1, f2, f3, f4, f5, f6, f7, f8, hts, hK⟩ := id F
  have hk := k p e s m args below meth c F H locs ls hH hS hlv
  obtain ⟨cf, k', fi, f, cell, h1, h2, h3, h4, h5, h6⟩ := (x_Tc hK.2.1).kept hS.2.1
  show W p _ e rm s m args below meth c H locs cells slots _ (F0 m pc ls (.ref (x_ad G (x_N + 37)) :: x_st G st))
  rw [x_adN]
  exact W.getf f1 f2 f6 (hts _ hl) h1 h2 h3 h4 (v := .int 0) h5 rfl rfl hd hk
theorem x_tvalue (hd : decode M.2.1 pc = .ok (.getfield index, 3)) (hl : Cond.fieldLink M.1.cls index "java/lang/String" "value" "[B" ∈ x_tsl) (k : x_W G M rm Qf ex n h cells slots lv (.ref (x_N + 38) :: st) (pc + 3)) : x_W G M rm Qf ex n h cells slots lv (.ref (x_N + 37) :: st) pc := by
  intro p e s m args below meth c F H locs ls hH hS hlv
  obtain ⟨f1, f2, f3, f4, f5, f6, f7, f8, hts, hK⟩ := id F
  have hk := k p e s m args below meth c F H locs ls hH hS hlv
  obtain ⟨cf, k', fi, f, cell, h1, h2, h3, h4, h5, h6⟩ := (x_Tv hK.2.1).kept hS.2.1
  show W p _ e rm s m args below meth c H locs cells slots _ (F0 m pc ls (.ref (x_ad G (x_N + 37)) :: x_st G st))
  rw [x_adN]
  refine W.getf f1 f2 f6 (hts _ hl) h1 h2 h3 h4 (v := .ref (x_C G 38)) h5 rfl rfl hd ?_
  show W p _ e rm s m args below meth c H locs cells slots _ (F0 m (pc + 3) ls (.ref (x_C G 38) :: x_st G st))
  rw [← x_adN (G := G) 38]
  exact hk
theorem x_tlen (hd : decode M.2.1 pc = .ok (.arraylength, 1)) (k : x_W G M rm Qf ex n h cells slots lv (.int 109 :: st) (pc + 1)) : x_W G M rm Qf ex n h cells slots lv (.ref (x_N + 38) :: st) pc := by
  intro p e s m args below meth c F H locs ls hH hS hlv
  obtain ⟨f1, f2, f3, f4, f5, f6, f7, f8, hts, hK⟩ := id F
  have hk := k p e s m args below meth c F H locs ls hH hS hlv
  obtain ⟨cell, h1, h2, h3, h4, h5, h6, h7⟩ := (x_Tb hK.2.1).kept hS.2.1
  show W p _ e rm s m args below meth c H locs cells slots _ (F0 m pc ls (.ref (x_ad G (x_N + 38)) :: x_st G st))
  rw [x_adN]
  exact W.alen f1 f2 h1 h2 h5 rfl rfl hd hk
theorem x_tbald {i : Int32} (hd : decode M.2.1 pc = .ok (.baload, 1)) (hin : x_ix i 109 = true) (k : x_W G M rm Qf ex n h cells slots lv (.int (x_rs.getD i.toNatClampNeg 0) :: st) (pc + 1)) : x_W G M rm Qf ex n h cells slots lv (.int i :: .ref (x_N + 38) :: st) pc := by
  intro p e s m args below meth c F H locs ls hH hS hlv
  obtain ⟨f1, f2, f3, f4, f5, f6, f7, f8, hts, hK⟩ := id F
  have hk := k p e s m args below meth c F H locs ls hH hS hlv
  obtain ⟨cell, h1, h2, h3, h4, h5, h6, h7⟩ := (x_Tb hK.2.1).kept hS.2.1
  have hlt := x_ix_lt hin
  have hi0 := x_ix_ok hin
  show W p _ e rm s m args below meth c H locs cells slots _ (F0 m pc ls (.int i :: .ref (x_ad G (x_N + 38)) :: x_st G st))
  rw [x_adN]
  refine W.bald (v := .int (x_rs.getD i.toNatClampNeg 0)) f1 f2 h1 h2 h3 (fun z => ?_) (h6 _ hlt) rfl rfl hd hk
  rcases z with z | z
  · exact hi0 (Or.inl z)
  · omega
theorem x_tcomp (hd : decode M.2.1 pc = .ok (.getstatic index, 3)) (hl : Cond.fieldLink M.1.cls index "java/lang/String" "COMPACT_STRINGS" "Z" ∈ x_tsl) (k : x_W G M rm Qf ex n h cells slots lv (.int 1 :: st) (pc + 3)) : x_W G M rm Qf ex n h cells slots lv st pc := by
  intro p e s m args below meth c F H locs ls hH hS hlv
  obtain ⟨f1, f2, f3, f4, f5, f6, f7, f8, hts, hK⟩ := id F
  have hk := k p e s m args below meth c F H locs ls hH hS hlv
  have hz : va_Z "java/lang/String" "COMPACT_STRINGS" "Z" (.int 1) (x_A G) s s.heap := (va_Z.moved hK.2.1.2.1.alike hK.2.1.1.1.2.2.2.2.2.2.1).kept (fun a ha _ => hK.2.1.2.2 a ha)
  exact va_gets f1 f2 hz hS f6 (hts _ hl) (fun _ z => z) hd hk
theorem x_tform (hd : decode M.2.1 pc = .ok (.getstatic index, 3)) (hl : Cond.fieldLink M.1.cls index "jdk/internal/util/Preconditions" "SIOOBE_FORMATTER" "Ljava/util/function/BiFunction;" ∈ x_tsl) (k : ∀ v : Value, (v = .null ∨ ∃ k, v = .ref k) → x_W G M rm Qf ex n h cells slots lv (v :: st) (pc + 3)) : x_W G M rm Qf ex n h cells slots lv st pc := by
  intro p e s m args below meth c F H locs ls hH hS hlv
  obtain ⟨f1, f2, f3, f4, f5, f6, f7, f8, hts, hK⟩ := id F
  obtain ⟨v, hv, hz0⟩ := hK.2.1.1.1.2.2.2.2.2.2.2
  have hz : va_Z "jdk/internal/util/Preconditions" "SIOOBE_FORMATTER" "Ljava/util/function/BiFunction;" (x_v0 G v) (x_A G) s s.heap := (va_Z.moved hK.2.1.2.1.alike hz0).kept (fun a ha _ => hK.2.1.2.2 a ha)
  have hk := k v hv p e s m args below meth c F H locs ls hH hS hlv
  refine va_gets f1 f2 hz hS f6 (hts _ hl) (fun _ z => z) hd ?_
  have e0 : x_v0 G v = x_v G v := rfl
  rw [e0]
  exact hk
theorem x_cVt {M2 : x_M} {d d2 na : Nat} {m : x_m} {As : List Value} {r : Int32 × x_m} (hd : decode M.2.1 pc = .ok (.invokevirtual index, 3)) (hlk : Cond.methodLink M.1.cls index M2.1 ∈ x_tsl) (hk : x_kV M2 "java/lang/String" na) (hR : x_R G M2 (x_rd d2) ex (.ref (x_N + 37) :: As) x_np (x_hp m) (x_pi r)) (hna : As.length = na)
    (hrm : x_rm (x_rd d) (x_rd d2) M2) (hal : (lg_sl (.ref (x_N + 37) :: As)).length ≤ M2.2.2.1) (hw : (st.map fun v => v.category).sum ≤ 8) (hst : stk = As.reverse ++ .ref (x_N + 37) :: st)
    (kk : x_W G M (x_rd d) Qf ex x_np (x_hp r.2) 0 0 lv (.int r.1 :: st) (pc + 3)) : x_W G M (x_rd d) Qf ex x_np (x_hp m) 0 0 lv stk pc := by
  obtain ⟨hM, hii, hse, hp, hn⟩ := hk
  subst hna
  intro p e s mm args below meth c F H locs ls hH hS hl T hT X
  subst hT; subst hst
  obtain ⟨f1, f2, f3, f4, f5, f6, f7, f8, hts, hK⟩ := id F
  obtain ⟨mk, methk, ck, n1, n2, n3, n4, n5, n6, n7, n8, n9⟩ := hM.spec hts
  obtain ⟨mk', methM, hnamed, hmethM, hstM, habM⟩ := Cond.instanceMethod_spec (hts _ hii)
  cases n1.symm.trans hnamed
  cases n2.symm.trans hmethM
  obtain ⟨cellB, hcB, hoB, hclB, -⟩ := (x_To hK.2.1).kept hS.2.1
  obtain ⟨c2, r2, m2, q1, q2, q3, q4, kP, hkP, hkPi⟩ := Cond.selects_spec (hts _ hse)
  cases hclB.symm.trans q1
  cases (State.methodFound?_of_named hnamed hp).symm.trans q2
  cases hnamed.symm.trans q3
  have hselP : selectMethod e.platform s.vm cellB.cls mk = .method mk := by rw [Launch.admits_selectMethod X.admits]; exact q4
  rw [n9] at hn
  obtain ⟨vm₁, X₁, hstep⟩ := X.invokevirtual f1 f6 (hts _ hlk) hnamed hmethM hstM hkP hkPi hp (a := x_C G 37) (cell := cellB) hcB (fun z h => by rw [h] at hoB; cases hoB) hselP hmethM habM hkP hkPi (g := F0 mm pc ls (x_st G (As.reverse ++ .ref (x_N + 37) :: st))) rfl (argsL := As.map (x_v G)) (rest := x_st G st) (by rw [List.length_map]; exact (Option.some.inj hn).symm)
    (by show x_st G (As.reverse ++ .ref (x_N + 37) :: st) = _; rw [x_stA]; show _ ++ (Value.ref (x_ad G (x_N + 37)) :: x_st G st) = _; rw [x_adN]) (by rw [f2]; exact hd)
  obtain ⟨t, a1, b1⟩ := x_goes hR hM hrm (Nat.le_refl 0) (Nat.le_refl 0) hal hw (Qf := Qf) (fun v n' h' z => by obtain ⟨h1, rfl, rfl⟩ := z; cases h1; exact kk) (fun Y n' h' z => by obtain ⟨h1, -, -⟩ := z; cases h1) F (T := T.setVm vm₁) hH hS hl X₁ hd n1
  refine ⟨t, hstep _ (fun acts => ?_), b1⟩
  have e0 : (Value.ref (x_C G 37) :: As.map (x_v G)).toArray = ((Value.ref (x_N + 37) :: As).map (x_v G)).toArray := by
    show _ = (Value.ref (x_ad G (x_N + 37)) :: As.map (x_v G)).toArray
    rw [x_adN]
  rw [e0]
  exact a1 acts
end XT
def x_ch (i : Int32) : Int32 := x_rs.getD i.toNatClampNeg 0
theorem x_ch_ok : ∀ j, j < 109 → ((x_rs.getD j 0 &&& 255).toUInt32 % 65536).toInt32 = x_rs.getD j 0 ∧ narrow .char (.int (x_rs.getD j 0)) = .int (x_rs.getD j 0) := by decide +kernel
section XTC
variable {G : x_G} {ex : Bool} {m : x_m}
theorem c_ST_coder : x_R G M_ST_coder (x_rd 0) ex [.ref (x_N + 37)] x_np (x_hp m) (x_pi (0, m)) := by
  show x_W G M_ST_coder (x_rd 0) (x_Q G (x_rd 0) ex (x_pi (0, m))) ex x_np (x_hp m) 0 0 [(0, .ref (x_N + 37))] [] 0
  refine x_tcomp d_ST_coder_0 w_1266 ?_
  refine x_if_eq (tgt := 13) d_ST_coder_3 (by decide) (fun c_ => absurd c_ (by decide)) (fun _ => ?_)
  refine x_aload_n d_ST_coder_6 rfl rfl ?_
  refine x_tcoder d_ST_coder_7 w_1519 ?_
  refine x_goto (tgt := 14) d_ST_coder_10 (by decide) ?_
  exact x_ri d_ST_coder_14 rfl rfl
theorem c_ST_isLatin1 : x_R G M_ST_isLatin1 (x_rd 0) ex [.ref (x_N + 37)] x_np (x_hp m) (x_pi (1, m)) := by
  show x_W G M_ST_isLatin1 (x_rd 0) (x_Q G (x_rd 0) ex (x_pi (1, m))) ex x_np (x_hp m) 0 0 [(0, .ref (x_N + 37))] [] 0
  refine x_tcomp d_ST_isLatin1_0 w_1266 ?_
  refine x_if_eq (tgt := 17) d_ST_isLatin1_3 (by decide) (fun c_ => absurd c_ (by decide)) (fun _ => ?_)
  refine x_aload_n d_ST_isLatin1_6 rfl rfl ?_
  refine x_tcoder d_ST_isLatin1_7 w_1519 ?_
  refine x_if_ne (tgt := 17) d_ST_isLatin1_10 (by decide) (fun c_ => absurd rfl c_) (fun _ => ?_)
  refine x_iconst (v := 1) d_ST_isLatin1_13 (by decide) ?_
  refine x_goto (tgt := 18) d_ST_isLatin1_14 (by decide) ?_
  exact x_ri d_ST_isLatin1_18 rfl rfl
theorem c_ST_length : x_R G M_ST_length (x_rd 1) ex [.ref (x_N + 37)] x_np (x_hp m) (x_pi (109, m)) := by
  show x_W G M_ST_length (x_rd 1) (x_Q G (x_rd 1) ex (x_pi (109, m))) ex x_np (x_hp m) 0 0 [(0, .ref (x_N + 37))] [] 0
  refine x_aload_n d_ST_length_0 rfl rfl ?_
  refine x_tvalue d_ST_length_1 w_1518 ?_
  refine x_tlen d_ST_length_4 ?_
  refine x_aload_n d_ST_length_5 rfl rfl ?_
  refine x_cVt (M2 := M_ST_coder) (As := []) (st := [.int 109]) d_ST_length_6 w_1262 k_ST_coder c_ST_coder rfl ⟨Nat.le_of_ble_eq_true rfl, Nat.le_of_ble_eq_true rfl⟩ (Nat.le_of_ble_eq_true rfl) (Nat.le_of_ble_eq_true rfl) rfl ?_
  refine x_ishr d_ST_length_9 ?_
  have e0 : ((109 : Int32) >>> (((0 : Int32), m).1 &&& 31)) = 109 := by show ((109 : Int32) >>> ((0 : Int32) &&& 31)) = 109; decide
  rw [e0]
  exact x_ri (v := 109) d_ST_length_10 rfl rfl
theorem c_PC_checkIndex {i k : Int32} {v : Value} (h0 : ¬ i < 0) (h1 : i < k) : x_R G M_PC_checkIndex (x_rd 0) ex [.int i, .int k, v] x_np (x_hp m) (x_pi (i, m)) := by
  show x_W G M_PC_checkIndex (x_rd 0) (x_Q G (x_rd 0) ex (x_pi (i, m))) ex x_np (x_hp m) 0 0 [(0, .int i), (1, .int k), (2, v)] [] 0
  refine x_iload_n d_PC_checkIndex_0 rfl rfl ?_
  refine x_if_lt (tgt := 9) d_PC_checkIndex_1 (by decide) (fun c_ => absurd c_ h0) (fun _ => ?_)
  refine x_iload_n d_PC_checkIndex_4 rfl rfl ?_
  refine x_iload_n d_PC_checkIndex_5 rfl rfl ?_
  refine x_icmp_lt (tgt := 16) d_PC_checkIndex_6 (by decide) (fun _ => ?_) (fun c_ => absurd h1 c_)
  refine x_iload_n d_PC_checkIndex_16 rfl rfl ?_
  exact x_ri d_PC_checkIndex_17 rfl rfl
theorem c_ST_checkIndex {i k : Int32} (h0 : ¬ i < 0) (h1 : i < k) : x_R G M_ST_checkIndex (x_rd 1) ex [.int i, .int k] x_np (x_hp m) (x_pv m) := by
  show x_W G M_ST_checkIndex (x_rd 1) (x_Q G (x_rd 1) ex (x_pv m)) ex x_np (x_hp m) 0 0 [(0, .int i), (1, .int k)] [] 0
  refine x_iload_n d_ST_checkIndex_0 rfl rfl ?_
  refine x_iload_n d_ST_checkIndex_1 rfl rfl ?_
  refine x_tform d_ST_checkIndex_2 w_1282 (fun v hv => ?_)
  have hlen : (lg_sl [.int i, .int k, v]).length ≤ 3 := by rcases hv with rfl | ⟨a, rfl⟩ <;> exact Nat.le_of_ble_eq_true rfl
  refine x_cSi (M2 := M_PC_checkIndex) (As := [.int i, .int k, v]) (st := []) d_ST_checkIndex_5 w_1284 k_PC_checkIndex (c_PC_checkIndex h0 h1) rfl ⟨Nat.le_of_ble_eq_true rfl, Nat.le_of_ble_eq_true rfl⟩ hlen (Nat.le_of_ble_eq_true rfl) rfl ?_
  refine x_pop d_ST_checkIndex_8 rfl ?_
  exact x_rv d_ST_checkIndex_9 rfl
theorem x_ix_109 {i : Int32} (h : x_ix i 109 = true) : ¬ i < 0 ∧ i < 109 := by
  simp only [x_ix, Bool.and_eq_true, decide_eq_true_eq] at h
  refine ⟨h.1, ?_⟩
  obtain ⟨j, hj, rfl⟩ := nI_of h.1
  have h2 := h.2
  rw [nI_clamp hj] at h2
  exact nI_lt h2 (by decide)
theorem c_SL_charAt {i : Int32} (hi : x_ix i 109 = true) : x_R G M_SL_charAt (x_rd 2) ex [.ref (x_N + 38), .int i] x_np (x_hp m) (x_pi (x_ch i, m)) := by
  show x_W G M_SL_charAt (x_rd 2) (x_Q G (x_rd 2) ex (x_pi (x_ch i, m))) ex x_np (x_hp m) 0 0 [(0, .ref (x_N + 38)), (1, .int i)] [] 0
  refine x_iload_n d_SL_charAt_0 rfl rfl ?_
  refine x_aload_n d_SL_charAt_1 rfl rfl ?_
  refine x_tlen d_SL_charAt_2 ?_
  refine x_cSv (M2 := M_ST_checkIndex) (As := [.int i, .int 109]) (st := []) d_SL_charAt_3 w_1279 k_ST_checkIndex (c_ST_checkIndex (x_ix_109 hi).1 (x_ix_109 hi).2) rfl ⟨Nat.le_of_ble_eq_true rfl, Nat.le_of_ble_eq_true rfl⟩ (Nat.le_of_ble_eq_true rfl) (Nat.le_of_ble_eq_true rfl) rfl ?_
  refine x_aload_n d_SL_charAt_6 rfl rfl ?_
  refine x_iload_n d_SL_charAt_7 rfl rfl ?_
  refine x_tbald d_SL_charAt_8 hi ?_
  refine x_sipush (v := 255) d_SL_charAt_9 (by decide) ?_
  refine x_iand d_SL_charAt_12 ?_
  refine x_i2c d_SL_charAt_13 ?_
  obtain ⟨e1, e2⟩ := x_ch_ok _ (x_ix_lt hi)
  rw [e1]
  exact x_ri d_SL_charAt_14 rfl e2
theorem c_ST_charAt {i : Int32} (hi : x_ix i 109 = true) : x_R G M_ST_charAt (x_rd 3) ex [.ref (x_N + 37), .int i] x_np (x_hp m) (x_pi (x_ch i, m)) := by
  show x_W G M_ST_charAt (x_rd 3) (x_Q G (x_rd 3) ex (x_pi (x_ch i, m))) ex x_np (x_hp m) 0 0 [(0, .ref (x_N + 37)), (1, .int i)] [] 0
  refine x_aload_n d_ST_charAt_0 rfl rfl ?_
  refine x_cVt (M2 := M_ST_isLatin1) (As := []) (st := []) d_ST_charAt_1 w_1272 k_ST_isLatin1 c_ST_isLatin1 rfl ⟨Nat.le_of_ble_eq_true rfl, Nat.le_of_ble_eq_true rfl⟩ (Nat.le_of_ble_eq_true rfl) (Nat.le_of_ble_eq_true rfl) rfl ?_
  refine x_if_eq (tgt := 16) d_ST_charAt_4 (by decide) (fun c_ => absurd (show (1 : Int32) = 0 from c_) (by decide)) (fun _ => ?_)
  refine x_aload_n d_ST_charAt_7 rfl rfl ?_
  refine x_tvalue d_ST_charAt_8 w_1518 ?_
  refine x_iload_n d_ST_charAt_11 rfl rfl ?_
  refine x_cSi (M2 := M_SL_charAt) (As := [.ref (x_N + 38), .int i]) (st := []) d_ST_charAt_12 w_1276 k_SL_charAt (c_SL_charAt hi) rfl ⟨Nat.le_of_ble_eq_true rfl, Nat.le_of_ble_eq_true rfl⟩ (Nat.le_of_ble_eq_true rfl) (Nat.le_of_ble_eq_true rfl) rfl ?_
  exact x_ri d_ST_charAt_15 rfl (x_ch_ok _ (x_ix_lt hi)).2
end XTC
theorem x_ldcT {G : x_G} {M : x_M} {rm : Room} {Qf : List Frame → Array Value → State → State → Prop} {ex : Bool} {n : Nat} {h : x_h} {cells slots : Nat} {lv : List (Nat × Value)} {st : List Value} {pc : Nat} (hd : decode M.2.1 pc = .ok (.ldc 7, 2)) (hM : M.1.cls = "QuestionReaderModel") (k : x_W G M rm Qf ex n h cells slots lv (.ref (x_N + 37) :: st) (pc + 2)) : x_W G M rm Qf ex n h cells slots lv st pc := by
  intro p e s m args below meth c F H locs ls hH hS hlv
  obtain ⟨f1, f2, f3, f4, f5, f6, f7, f8, hts, hK⟩ := id F
  have hk := k p e s m args below meth c F H locs ls hH hS hlv
  refine va_ldcS f1 f2 (own := "QuestionReaderModel") (by rw [← hM]; exact f6) (vk_R.warm hK.2.1.2.1 hK.2.1.1.1.2.2.2.2.1) hd ?_
  show W p _ e rm s m args below meth c H locs cells slots _ (F0 m (pc + 2) ls (.ref (x_C G 37) :: x_st G st))
  rw [← x_adN (G := G) 37]
  exact hk
theorem x_rmo {d d2 : Nat} {M2 : x_M} (h : d2 + 1 ≤ d) (hm : M2.2.2.1 ≤ 21) : x_rm (x_rd d) (x_rd d2) M2 := ⟨h, by show 8 + (M2.2.2.1 + 11) + 40 * d2 ≤ 40 * d; omega⟩
section XSW
variable {G : x_G} {M : x_M} {rm : Room} {Qf : List Frame → Array Value → State → State → Prop} {ex : Bool} {n : Nat} {h : x_h} {cells slots : Nat} {lv : List (Nat × Value)} {st : List Value} {pc len : Nat} {dflt lo hi : Int} {offs : Array Int} {x : Int32}
theorem x_tsI {k : Int32} {off : Int} {tgt : Nat} (hd : decode M.2.1 pc = .ok (.tableswitch dflt lo hi offs, len)) (hx : x = k) (h1 : ¬ k.toInt < lo) (h2 : ¬ hi < k.toInt) (ho : offs[(k.toInt - lo).toNat]? = some off) (ht : (pc : Int) + off = (tgt : Int)) (kk : x_W G M rm Qf ex n h cells slots lv st tgt) : x_W G M rm Qf ex n h cells slots lv (.int x :: st) pc := by
  subst hx
  exact fun p e s m args below meth c F H locs ls hH hS hl => lv_tableIn F.1 F.2.1 hd h1 h2 ho ht (kk p e s m args below meth c F H locs ls hH hS hl)
theorem x_tsO {tgt : Nat} (hd : decode M.2.1 pc = .ok (.tableswitch dflt lo hi offs, len)) (ho : x.toInt < lo ∨ hi < x.toInt) (ht : (pc : Int) + dflt = (tgt : Int)) (kk : x_W G M rm Qf ex n h cells slots lv st tgt) : x_W G M rm Qf ex n h cells slots lv (.int x :: st) pc :=
  fun p e s m args below meth c F H locs ls hH hS hl => lv_tableOut F.1 F.2.1 hd ho ht (kk p e s m args below meth c F H locs ls hH hS hl)
end XSW
theorem x_tsd {x : Int32} {n : Nat} (hn : n < 1000) (h : ∀ j : Nat, j < n → ¬ x = nI j) : x.toInt < 0 ∨ ((n : Int) - 1) < x.toInt := by
  rcases pk_ix x (n := n) (by omega) with h1 | h1 | ⟨j, hj, e⟩
  · left; simpa using Int32.lt_iff_toInt_lt.mp h1
  · right
    have := Int32.le_iff_toInt_le.mp h1
    rw [nI_toInt (by omega)] at this
    omega
  · exact absurd e (h j hj)
end

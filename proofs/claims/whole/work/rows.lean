section
-- ===== PART A: goes FIRST, ahead of the names: the tables' words, and 'selects' of the private methods out of them =====
/-- a private method of a class that the tables say can be made, by its rows of tables_1 -/
def lw_okq (q : MethodName × Nat) : Prop := (q.1.cls ≠ "java/lang/invoke/MethodHandle" ∧ q.1.cls ≠ "java/lang/invoke/VarHandle") ∧ Cond.instantiable q.1.cls q.2 ∈ tables_1 ∧ Cond.privateMethod q.1 ∈ tables_1 ∧ Cond.instanceMethod q.1 ∈ tables_1
theorem lw_p0 : lw_okq (⟨"QuestionReader$Condition", "clearLine", "()V"⟩, 12) := ⟨⟨by decide +kernel, by decide +kernel⟩, List.mem_of_getElem? (i := 221) (by decide +kernel), List.mem_of_getElem? (i := 383) (by decide +kernel), List.mem_of_getElem? (i := 384) (by decide +kernel)⟩
theorem lw_p1 : lw_okq (⟨"QuestionReader$Lexer", "skipBlanks", "()V"⟩, 9) := ⟨⟨by decide +kernel, by decide +kernel⟩, List.mem_of_getElem? (i := 54) (by decide +kernel), List.mem_of_getElem? (i := 391) (by decide +kernel), List.mem_of_getElem? (i := 392) (by decide +kernel)⟩
theorem lw_p2 : lw_okq (⟨"QuestionReader$Lexer", "scanWord", "()J"⟩, 9) := ⟨⟨by decide +kernel, by decide +kernel⟩, List.mem_of_getElem? (i := 54) (by decide +kernel), List.mem_of_getElem? (i := 398) (by decide +kernel), List.mem_of_getElem? (i := 399) (by decide +kernel)⟩
theorem lw_p3 : lw_okq (⟨"QuestionReader$Lexer", "isDigit", "(I)Z"⟩, 9) := ⟨⟨by decide +kernel, by decide +kernel⟩, List.mem_of_getElem? (i := 54) (by decide +kernel), List.mem_of_getElem? (i := 411) (by decide +kernel), List.mem_of_getElem? (i := 412) (by decide +kernel)⟩
theorem lw_p4 : lw_okq (⟨"QuestionReader$Lexer", "scanNumber", "()J"⟩, 9) := ⟨⟨by decide +kernel, by decide +kernel⟩, List.mem_of_getElem? (i := 54) (by decide +kernel), List.mem_of_getElem? (i := 415) (by decide +kernel), List.mem_of_getElem? (i := 416) (by decide +kernel)⟩
theorem lw_p5 : lw_okq (⟨"QuestionReader$Lexer", "scanSign", "()J"⟩, 9) := ⟨⟨by decide +kernel, by decide +kernel⟩, List.mem_of_getElem? (i := 54) (by decide +kernel), List.mem_of_getElem? (i := 425) (by decide +kernel), List.mem_of_getElem? (i := 426) (by decide +kernel)⟩
theorem lw_p6 : lw_okq (⟨"QuestionReader$QuestionGrammar", "readItems", "()Z"⟩, 5) := ⟨⟨by decide +kernel, by decide +kernel⟩, List.mem_of_getElem? (i := 209) (by decide +kernel), List.mem_of_getElem? (i := 448) (by decide +kernel), List.mem_of_getElem? (i := 449) (by decide +kernel)⟩
theorem lw_p7 : lw_okq (⟨"QuestionReader$QuestionGrammar", "readItem", "()Z"⟩, 5) := ⟨⟨by decide +kernel, by decide +kernel⟩, List.mem_of_getElem? (i := 209) (by decide +kernel), List.mem_of_getElem? (i := 453) (by decide +kernel), List.mem_of_getElem? (i := 454) (by decide +kernel)⟩
theorem lw_p8 : lw_okq (⟨"QuestionReader$QuestionGrammar", "readColumn", "(Z)I"⟩, 5) := ⟨⟨by decide +kernel, by decide +kernel⟩, List.mem_of_getElem? (i := 209) (by decide +kernel), List.mem_of_getElem? (i := 470) (by decide +kernel), List.mem_of_getElem? (i := 471) (by decide +kernel)⟩
theorem lw_p9 : lw_okq (⟨"QuestionReader$Names", "isSame", "(ILQuestionReader$Lexer;)Z"⟩, 2) := ⟨⟨by decide +kernel, by decide +kernel⟩, List.mem_of_getElem? (i := 108) (by decide +kernel), List.mem_of_getElem? (i := 486) (by decide +kernel), List.mem_of_getElem? (i := 487) (by decide +kernel)⟩
theorem lw_p10 : lw_okq (⟨"QuestionReader$QuestionGrammar", "readSummed", "(I)I"⟩, 5) := ⟨⟨by decide +kernel, by decide +kernel⟩, List.mem_of_getElem? (i := 209) (by decide +kernel), List.mem_of_getElem? (i := 507) (by decide +kernel), List.mem_of_getElem? (i := 508) (by decide +kernel)⟩
theorem lw_p11 : lw_okq (⟨"QuestionReader$QuestionGrammar", "readWhere", "()Z"⟩, 5) := ⟨⟨by decide +kernel, by decide +kernel⟩, List.mem_of_getElem? (i := 209) (by decide +kernel), List.mem_of_getElem? (i := 524) (by decide +kernel), List.mem_of_getElem? (i := 525) (by decide +kernel)⟩
theorem lw_p12 : lw_okq (⟨"QuestionReader$QuestionGrammar", "readComparison", "(LQuestionReader$Condition;)Z"⟩, 5) := ⟨⟨by decide +kernel, by decide +kernel⟩, List.mem_of_getElem? (i := 209) (by decide +kernel), List.mem_of_getElem? (i := 539) (by decide +kernel), List.mem_of_getElem? (i := 540) (by decide +kernel)⟩
theorem lw_p13 : lw_okq (⟨"QuestionReader$QuestionGrammar", "readList", "(LQuestionReader$Comparison;)Z"⟩, 5) := ⟨⟨by decide +kernel, by decide +kernel⟩, List.mem_of_getElem? (i := 209) (by decide +kernel), List.mem_of_getElem? (i := 557) (by decide +kernel), List.mem_of_getElem? (i := 558) (by decide +kernel)⟩
theorem lw_p14 : lw_okq (⟨"QuestionReader$QuestionGrammar", "readBetween", "(LQuestionReader$Comparison;)Z"⟩, 5) := ⟨⟨by decide +kernel, by decide +kernel⟩, List.mem_of_getElem? (i := 209) (by decide +kernel), List.mem_of_getElem? (i := 568) (by decide +kernel), List.mem_of_getElem? (i := 569) (by decide +kernel)⟩
theorem lw_p15 : lw_okq (⟨"QuestionReader$QuestionGrammar", "readRelation", "(LQuestionReader$Comparison;)Z"⟩, 5) := ⟨⟨by decide +kernel, by decide +kernel⟩, List.mem_of_getElem? (i := 209) (by decide +kernel), List.mem_of_getElem? (i := 578) (by decide +kernel), List.mem_of_getElem? (i := 579) (by decide +kernel)⟩
def lw_privs_1 : List (MethodName × Nat) := [(⟨"QuestionReader$Condition", "clearLine", "()V"⟩, 12), (⟨"QuestionReader$Lexer", "skipBlanks", "()V"⟩, 9), (⟨"QuestionReader$Lexer", "scanWord", "()J"⟩, 9), (⟨"QuestionReader$Lexer", "isDigit", "(I)Z"⟩, 9), (⟨"QuestionReader$Lexer", "scanNumber", "()J"⟩, 9), (⟨"QuestionReader$Lexer", "scanSign", "()J"⟩, 9), (⟨"QuestionReader$QuestionGrammar", "readItems", "()Z"⟩, 5), (⟨"QuestionReader$QuestionGrammar", "readItem", "()Z"⟩, 5), (⟨"QuestionReader$QuestionGrammar", "readColumn", "(Z)I"⟩, 5), (⟨"QuestionReader$Names", "isSame", "(ILQuestionReader$Lexer;)Z"⟩, 2), (⟨"QuestionReader$QuestionGrammar", "readSummed", "(I)I"⟩, 5), (⟨"QuestionReader$QuestionGrammar", "readWhere", "()Z"⟩, 5), (⟨"QuestionReader$QuestionGrammar", "readComparison", "(LQuestionReader$Condition;)Z"⟩, 5), (⟨"QuestionReader$QuestionGrammar", "readList", "(LQuestionReader$Comparison;)Z"⟩, 5), (⟨"QuestionReader$QuestionGrammar", "readBetween", "(LQuestionReader$Comparison;)Z"⟩, 5), (⟨"QuestionReader$QuestionGrammar", "readRelation", "(LQuestionReader$Comparison;)Z"⟩, 5)]
theorem lw_r1 : ∀ q ∈ lw_privs_1, lw_okq q := List.forall_mem_cons.mpr ⟨lw_p0, List.forall_mem_cons.mpr ⟨lw_p1, List.forall_mem_cons.mpr ⟨lw_p2, List.forall_mem_cons.mpr ⟨lw_p3, List.forall_mem_cons.mpr ⟨lw_p4, List.forall_mem_cons.mpr ⟨lw_p5, List.forall_mem_cons.mpr ⟨lw_p6, List.forall_mem_cons.mpr ⟨lw_p7, List.forall_mem_cons.mpr ⟨lw_p8, List.forall_mem_cons.mpr ⟨lw_p9, List.forall_mem_cons.mpr ⟨lw_p10, List.forall_mem_cons.mpr ⟨lw_p11, List.forall_mem_cons.mpr ⟨lw_p12, List.forall_mem_cons.mpr ⟨lw_p13, List.forall_mem_cons.mpr ⟨lw_p14, List.forall_mem_cons.mpr ⟨lw_p15, fun _ h => absurd h List.not_mem_nil⟩⟩⟩⟩⟩⟩⟩⟩⟩⟩⟩⟩⟩⟩⟩⟩
theorem lw_p16 : lw_okq (⟨"QuestionReader$Condition", "attach", "(I)V"⟩, 12) := ⟨⟨by decide +kernel, by decide +kernel⟩, List.mem_of_getElem? (i := 221) (by decide +kernel), List.mem_of_getElem? (i := 616) (by decide +kernel), List.mem_of_getElem? (i := 617) (by decide +kernel)⟩
theorem lw_p17 : lw_okq (⟨"QuestionReader$Condition", "join", "(ZII)I"⟩, 12) := ⟨⟨by decide +kernel, by decide +kernel⟩, List.mem_of_getElem? (i := 221) (by decide +kernel), List.mem_of_getElem? (i := 620) (by decide +kernel), List.mem_of_getElem? (i := 621) (by decide +kernel)⟩
theorem lw_p18 : lw_okq (⟨"QuestionReader$QuestionGrammar", "readClosings", "(LQuestionReader$Condition;)V"⟩, 5) := ⟨⟨by decide +kernel, by decide +kernel⟩, List.mem_of_getElem? (i := 209) (by decide +kernel), List.mem_of_getElem? (i := 624) (by decide +kernel), List.mem_of_getElem? (i := 625) (by decide +kernel)⟩
theorem lw_p19 : lw_okq (⟨"QuestionReader$Condition", "endLine", "()I"⟩, 12) := ⟨⟨by decide +kernel, by decide +kernel⟩, List.mem_of_getElem? (i := 221) (by decide +kernel), List.mem_of_getElem? (i := 632) (by decide +kernel), List.mem_of_getElem? (i := 633) (by decide +kernel)⟩
theorem lw_p20 : lw_okq (⟨"QuestionReader$QuestionGrammar", "readGroups", "()Z"⟩, 5) := ⟨⟨by decide +kernel, by decide +kernel⟩, List.mem_of_getElem? (i := 209) (by decide +kernel), List.mem_of_getElem? (i := 648) (by decide +kernel), List.mem_of_getElem? (i := 649) (by decide +kernel)⟩
theorem lw_p21 : lw_okq (⟨"QuestionReader$QuestionGrammar", "readGroup", "(Z)I"⟩, 5) := ⟨⟨by decide +kernel, by decide +kernel⟩, List.mem_of_getElem? (i := 209) (by decide +kernel), List.mem_of_getElem? (i := 658) (by decide +kernel), List.mem_of_getElem? (i := 659) (by decide +kernel)⟩
theorem lw_p22 : lw_okq (⟨"QuestionReader$CatalogGrammar", "readDimension", "()Z"⟩, 3) := ⟨⟨by decide +kernel, by decide +kernel⟩, List.mem_of_getElem? (i := 193) (by decide +kernel), List.mem_of_getElem? (i := 701) (by decide +kernel), List.mem_of_getElem? (i := 702) (by decide +kernel)⟩
theorem lw_p23 : lw_okq (⟨"QuestionReader$CatalogGrammar", "atNewName", "(Z)Z"⟩, 3) := ⟨⟨by decide +kernel, by decide +kernel⟩, List.mem_of_getElem? (i := 193) (by decide +kernel), List.mem_of_getElem? (i := 705) (by decide +kernel), List.mem_of_getElem? (i := 706) (by decide +kernel)⟩
theorem lw_p24 : lw_okq (⟨"QuestionReader$CatalogGrammar", "readLevels", "(I)I"⟩, 3) := ⟨⟨by decide +kernel, by decide +kernel⟩, List.mem_of_getElem? (i := 193) (by decide +kernel), List.mem_of_getElem? (i := 724) (by decide +kernel), List.mem_of_getElem? (i := 725) (by decide +kernel)⟩
theorem lw_p25 : lw_okq (⟨"QuestionReader$CatalogGrammar", "atNewLevel", "(II)Z"⟩, 3) := ⟨⟨by decide +kernel, by decide +kernel⟩, List.mem_of_getElem? (i := 193) (by decide +kernel), List.mem_of_getElem? (i := 729) (by decide +kernel), List.mem_of_getElem? (i := 730) (by decide +kernel)⟩
theorem lw_p26 : lw_okq (⟨"QuestionReader$CatalogGrammar", "readMeasure", "()Z"⟩, 3) := ⟨⟨by decide +kernel, by decide +kernel⟩, List.mem_of_getElem? (i := 193) (by decide +kernel), List.mem_of_getElem? (i := 738) (by decide +kernel), List.mem_of_getElem? (i := 739) (by decide +kernel)⟩
theorem lw_p27 : lw_okq (⟨"QuestionReader$CatalogGrammar", "readMembers", "()Z"⟩, 3) := ⟨⟨by decide +kernel, by decide +kernel⟩, List.mem_of_getElem? (i := 193) (by decide +kernel), List.mem_of_getElem? (i := 742) (by decide +kernel), List.mem_of_getElem? (i := 743) (by decide +kernel)⟩
theorem lw_p28 : lw_okq (⟨"QuestionReader$CatalogGrammar", "readMember", "(LQuestionReader$Dimension;I)Z"⟩, 3) := ⟨⟨by decide +kernel, by decide +kernel⟩, List.mem_of_getElem? (i := 193) (by decide +kernel), List.mem_of_getElem? (i := 747) (by decide +kernel), List.mem_of_getElem? (i := 748) (by decide +kernel)⟩
theorem lw_p29 : lw_okq (⟨"QuestionReader$CatalogGrammar", "readValues", "(LQuestionReader$Dimension;I)I"⟩, 3) := ⟨⟨by decide +kernel, by decide +kernel⟩, List.mem_of_getElem? (i := 193) (by decide +kernel), List.mem_of_getElem? (i := 752) (by decide +kernel), List.mem_of_getElem? (i := 753) (by decide +kernel)⟩
theorem lw_p30 : lw_okq (⟨"QuestionReader$Dimension", "firstWithSame", "(II)I"⟩, 7) := ⟨⟨by decide +kernel, by decide +kernel⟩, List.mem_of_getElem? (i := 123) (by decide +kernel), List.mem_of_getElem? (i := 766) (by decide +kernel), List.mem_of_getElem? (i := 767) (by decide +kernel)⟩
theorem lw_p31 : lw_okq (⟨"QuestionReader$Dimension", "agreeAbove", "(III)Z"⟩, 7) := ⟨⟨by decide +kernel, by decide +kernel⟩, List.mem_of_getElem? (i := 123) (by decide +kernel), List.mem_of_getElem? (i := 770) (by decide +kernel), List.mem_of_getElem? (i := 771) (by decide +kernel)⟩
def lw_privs_2 : List (MethodName × Nat) := [(⟨"QuestionReader$Condition", "attach", "(I)V"⟩, 12), (⟨"QuestionReader$Condition", "join", "(ZII)I"⟩, 12), (⟨"QuestionReader$QuestionGrammar", "readClosings", "(LQuestionReader$Condition;)V"⟩, 5), (⟨"QuestionReader$Condition", "endLine", "()I"⟩, 12), (⟨"QuestionReader$QuestionGrammar", "readGroups", "()Z"⟩, 5), (⟨"QuestionReader$QuestionGrammar", "readGroup", "(Z)I"⟩, 5), (⟨"QuestionReader$CatalogGrammar", "readDimension", "()Z"⟩, 3), (⟨"QuestionReader$CatalogGrammar", "atNewName", "(Z)Z"⟩, 3), (⟨"QuestionReader$CatalogGrammar", "readLevels", "(I)I"⟩, 3), (⟨"QuestionReader$CatalogGrammar", "atNewLevel", "(II)Z"⟩, 3), (⟨"QuestionReader$CatalogGrammar", "readMeasure", "()Z"⟩, 3), (⟨"QuestionReader$CatalogGrammar", "readMembers", "()Z"⟩, 3), (⟨"QuestionReader$CatalogGrammar", "readMember", "(LQuestionReader$Dimension;I)Z"⟩, 3), (⟨"QuestionReader$CatalogGrammar", "readValues", "(LQuestionReader$Dimension;I)I"⟩, 3), (⟨"QuestionReader$Dimension", "firstWithSame", "(II)I"⟩, 7), (⟨"QuestionReader$Dimension", "agreeAbove", "(III)Z"⟩, 7)]
theorem lw_r2 : ∀ q ∈ lw_privs_2, lw_okq q := List.forall_mem_cons.mpr ⟨lw_p16, List.forall_mem_cons.mpr ⟨lw_p17, List.forall_mem_cons.mpr ⟨lw_p18, List.forall_mem_cons.mpr ⟨lw_p19, List.forall_mem_cons.mpr ⟨lw_p20, List.forall_mem_cons.mpr ⟨lw_p21, List.forall_mem_cons.mpr ⟨lw_p22, List.forall_mem_cons.mpr ⟨lw_p23, List.forall_mem_cons.mpr ⟨lw_p24, List.forall_mem_cons.mpr ⟨lw_p25, List.forall_mem_cons.mpr ⟨lw_p26, List.forall_mem_cons.mpr ⟨lw_p27, List.forall_mem_cons.mpr ⟨lw_p28, List.forall_mem_cons.mpr ⟨lw_p29, List.forall_mem_cons.mpr ⟨lw_p30, List.forall_mem_cons.mpr ⟨lw_p31, fun _ h => absurd h List.not_mem_nil⟩⟩⟩⟩⟩⟩⟩⟩⟩⟩⟩⟩⟩⟩⟩⟩
theorem lw_p32 : lw_okq (⟨"QuestionReader$Dimension", "insert", "(II)V"⟩, 7) := ⟨⟨by decide +kernel, by decide +kernel⟩, List.mem_of_getElem? (i := 123) (by decide +kernel), List.mem_of_getElem? (i := 786) (by decide +kernel), List.mem_of_getElem? (i := 787) (by decide +kernel)⟩
theorem lw_p33 : lw_okq (⟨"java/lang/Throwable", "fillInStackTrace", "(I)Ljava/lang/Throwable;"⟩, 6) := ⟨⟨by decide +kernel, by decide +kernel⟩, List.mem_of_getElem? (i := 841) (by decide +kernel), List.mem_of_getElem? (i := 839) (by decide +kernel), List.mem_of_getElem? (i := 840) (by decide +kernel)⟩
theorem lw_p34 : lw_okq (⟨"QuestionReader", "demandOpen", "()V"⟩, 5) := ⟨⟨by decide +kernel, by decide +kernel⟩, List.mem_of_getElem? (i := 27) (by decide +kernel), List.mem_of_getElem? (i := 954) (by decide +kernel), List.mem_of_getElem? (i := 955) (by decide +kernel)⟩
theorem lw_p35 : lw_okq (⟨"QuestionReader$Comparison", "isListed", "(I)Z"⟩, 6) := ⟨⟨by decide +kernel, by decide +kernel⟩, List.mem_of_getElem? (i := 228) (by decide +kernel), List.mem_of_getElem? (i := 1050) (by decide +kernel), List.mem_of_getElem? (i := 1051) (by decide +kernel)⟩
theorem lw_p36 : lw_okq (⟨"QuestionReaderModel", "lay", "(I)V"⟩, 27) := ⟨⟨by decide +kernel, by decide +kernel⟩, List.mem_of_getElem? (i := 1054) (by decide +kernel), List.mem_of_getElem? (i := 1229) (by decide +kernel), List.mem_of_getElem? (i := 1230) (by decide +kernel)⟩
theorem lw_p37 : lw_okq (⟨"QuestionReaderModel", "read", "()V"⟩, 27) := ⟨⟨by decide +kernel, by decide +kernel⟩, List.mem_of_getElem? (i := 1054) (by decide +kernel), List.mem_of_getElem? (i := 1241) (by decide +kernel), List.mem_of_getElem? (i := 1242) (by decide +kernel)⟩
theorem lw_p38 : lw_okq (⟨"QuestionReaderModel", "look", "(I)I"⟩, 27) := ⟨⟨by decide +kernel, by decide +kernel⟩, List.mem_of_getElem? (i := 1054) (by decide +kernel), List.mem_of_getElem? (i := 1245) (by decide +kernel), List.mem_of_getElem? (i := 1246) (by decide +kernel)⟩
theorem lw_p39 : lw_okq (⟨"QuestionReaderModel", "wordOf", "()I"⟩, 27) := ⟨⟨by decide +kernel, by decide +kernel⟩, List.mem_of_getElem? (i := 1054) (by decide +kernel), List.mem_of_getElem? (i := 1255) (by decide +kernel), List.mem_of_getElem? (i := 1256) (by decide +kernel)⟩
theorem lw_p40 : lw_okq (⟨"QuestionReaderModel", "readNumber", "(Z)V"⟩, 27) := ⟨⟨by decide +kernel, by decide +kernel⟩, List.mem_of_getElem? (i := 1054) (by decide +kernel), List.mem_of_getElem? (i := 1307) (by decide +kernel), List.mem_of_getElem? (i := 1308) (by decide +kernel)⟩
theorem lw_p41 : lw_okq (⟨"QuestionReaderModel", "want", "(ZII)Z"⟩, 27) := ⟨⟨by decide +kernel, by decide +kernel⟩, List.mem_of_getElem? (i := 1054) (by decide +kernel), List.mem_of_getElem? (i := 1316) (by decide +kernel), List.mem_of_getElem? (i := 1317) (by decide +kernel)⟩
theorem lw_p42 : lw_okq (⟨"QuestionReaderModel", "readSign", "(I)V"⟩, 27) := ⟨⟨by decide +kernel, by decide +kernel⟩, List.mem_of_getElem? (i := 1054) (by decide +kernel), List.mem_of_getElem? (i := 1320) (by decide +kernel), List.mem_of_getElem? (i := 1321) (by decide +kernel)⟩
theorem lw_p43 : lw_okq (⟨"QuestionReaderModel", "statement", "()V"⟩, 27) := ⟨⟨by decide +kernel, by decide +kernel⟩, List.mem_of_getElem? (i := 1054) (by decide +kernel), List.mem_of_getElem? (i := 1324) (by decide +kernel), List.mem_of_getElem? (i := 1325) (by decide +kernel)⟩
theorem lw_p44 : lw_okq (⟨"QuestionReaderModel", "isWord", "(I)Z"⟩, 27) := ⟨⟨by decide +kernel, by decide +kernel⟩, List.mem_of_getElem? (i := 1054) (by decide +kernel), List.mem_of_getElem? (i := 1328) (by decide +kernel), List.mem_of_getElem? (i := 1329) (by decide +kernel)⟩
theorem lw_p45 : lw_okq (⟨"QuestionReaderModel", "must", "(Z)Z"⟩, 27) := ⟨⟨by decide +kernel, by decide +kernel⟩, List.mem_of_getElem? (i := 1054) (by decide +kernel), List.mem_of_getElem? (i := 1332) (by decide +kernel), List.mem_of_getElem? (i := 1333) (by decide +kernel)⟩
theorem lw_p46 : lw_okq (⟨"QuestionReaderModel", "dimension", "()V"⟩, 27) := ⟨⟨by decide +kernel, by decide +kernel⟩, List.mem_of_getElem? (i := 1054) (by decide +kernel), List.mem_of_getElem? (i := 1336) (by decide +kernel), List.mem_of_getElem? (i := 1337) (by decide +kernel)⟩
theorem lw_p47 : lw_okq (⟨"QuestionReaderModel", "newName", "()Z"⟩, 27) := ⟨⟨by decide +kernel, by decide +kernel⟩, List.mem_of_getElem? (i := 1054) (by decide +kernel), List.mem_of_getElem? (i := 1340) (by decide +kernel), List.mem_of_getElem? (i := 1341) (by decide +kernel)⟩
def lw_privs_3 : List (MethodName × Nat) := [(⟨"QuestionReader$Dimension", "insert", "(II)V"⟩, 7), (⟨"java/lang/Throwable", "fillInStackTrace", "(I)Ljava/lang/Throwable;"⟩, 6), (⟨"QuestionReader", "demandOpen", "()V"⟩, 5), (⟨"QuestionReader$Comparison", "isListed", "(I)Z"⟩, 6), (⟨"QuestionReaderModel", "lay", "(I)V"⟩, 27), (⟨"QuestionReaderModel", "read", "()V"⟩, 27), (⟨"QuestionReaderModel", "look", "(I)I"⟩, 27), (⟨"QuestionReaderModel", "wordOf", "()I"⟩, 27), (⟨"QuestionReaderModel", "readNumber", "(Z)V"⟩, 27), (⟨"QuestionReaderModel", "want", "(ZII)Z"⟩, 27), (⟨"QuestionReaderModel", "readSign", "(I)V"⟩, 27), (⟨"QuestionReaderModel", "statement", "()V"⟩, 27), (⟨"QuestionReaderModel", "isWord", "(I)Z"⟩, 27), (⟨"QuestionReaderModel", "must", "(Z)Z"⟩, 27), (⟨"QuestionReaderModel", "dimension", "()V"⟩, 27), (⟨"QuestionReaderModel", "newName", "()Z"⟩, 27)]
theorem lw_r3 : ∀ q ∈ lw_privs_3, lw_okq q := List.forall_mem_cons.mpr ⟨lw_p32, List.forall_mem_cons.mpr ⟨lw_p33, List.forall_mem_cons.mpr ⟨lw_p34, List.forall_mem_cons.mpr ⟨lw_p35, List.forall_mem_cons.mpr ⟨lw_p36, List.forall_mem_cons.mpr ⟨lw_p37, List.forall_mem_cons.mpr ⟨lw_p38, List.forall_mem_cons.mpr ⟨lw_p39, List.forall_mem_cons.mpr ⟨lw_p40, List.forall_mem_cons.mpr ⟨lw_p41, List.forall_mem_cons.mpr ⟨lw_p42, List.forall_mem_cons.mpr ⟨lw_p43, List.forall_mem_cons.mpr ⟨lw_p44, List.forall_mem_cons.mpr ⟨lw_p45, List.forall_mem_cons.mpr ⟨lw_p46, List.forall_mem_cons.mpr ⟨lw_p47, fun _ h => absurd h List.not_mem_nil⟩⟩⟩⟩⟩⟩⟩⟩⟩⟩⟩⟩⟩⟩⟩⟩
theorem lw_p48 : lw_okq (⟨"QuestionReaderModel", "name", "()Z"⟩, 27) := ⟨⟨by decide +kernel, by decide +kernel⟩, List.mem_of_getElem? (i := 1054) (by decide +kernel), List.mem_of_getElem? (i := 1344) (by decide +kernel), List.mem_of_getElem? (i := 1345) (by decide +kernel)⟩
theorem lw_p49 : lw_okq (⟨"QuestionReaderModel", "among", "(II)I"⟩, 27) := ⟨⟨by decide +kernel, by decide +kernel⟩, List.mem_of_getElem? (i := 1054) (by decide +kernel), List.mem_of_getElem? (i := 1348) (by decide +kernel), List.mem_of_getElem? (i := 1349) (by decide +kernel)⟩
theorem lw_p50 : lw_okq (⟨"QuestionReaderModel", "isName", "(I)Z"⟩, 27) := ⟨⟨by decide +kernel, by decide +kernel⟩, List.mem_of_getElem? (i := 1054) (by decide +kernel), List.mem_of_getElem? (i := 1352) (by decide +kernel), List.mem_of_getElem? (i := 1353) (by decide +kernel)⟩
theorem lw_p51 : lw_okq (⟨"QuestionReaderModel", "keep", "(I)V"⟩, 27) := ⟨⟨by decide +kernel, by decide +kernel⟩, List.mem_of_getElem? (i := 1054) (by decide +kernel), List.mem_of_getElem? (i := 1356) (by decide +kernel), List.mem_of_getElem? (i := 1357) (by decide +kernel)⟩
theorem lw_p52 : lw_okq (⟨"QuestionReaderModel", "needSign", "(I)Z"⟩, 27) := ⟨⟨by decide +kernel, by decide +kernel⟩, List.mem_of_getElem? (i := 1054) (by decide +kernel), List.mem_of_getElem? (i := 1360) (by decide +kernel), List.mem_of_getElem? (i := 1361) (by decide +kernel)⟩
theorem lw_p53 : lw_okq (⟨"QuestionReaderModel", "isSign", "(I)Z"⟩, 27) := ⟨⟨by decide +kernel, by decide +kernel⟩, List.mem_of_getElem? (i := 1054) (by decide +kernel), List.mem_of_getElem? (i := 1364) (by decide +kernel), List.mem_of_getElem? (i := 1365) (by decide +kernel)⟩
theorem lw_p54 : lw_okq (⟨"QuestionReaderModel", "measure", "()V"⟩, 27) := ⟨⟨by decide +kernel, by decide +kernel⟩, List.mem_of_getElem? (i := 1054) (by decide +kernel), List.mem_of_getElem? (i := 1368) (by decide +kernel), List.mem_of_getElem? (i := 1369) (by decide +kernel)⟩
theorem lw_p55 : lw_okq (⟨"QuestionReaderModel", "member", "()V"⟩, 27) := ⟨⟨by decide +kernel, by decide +kernel⟩, List.mem_of_getElem? (i := 1054) (by decide +kernel), List.mem_of_getElem? (i := 1372) (by decide +kernel), List.mem_of_getElem? (i := 1373) (by decide +kernel)⟩
theorem lw_p56 : lw_okq (⟨"QuestionReaderModel", "goes", "(II)Z"⟩, 27) := ⟨⟨by decide +kernel, by decide +kernel⟩, List.mem_of_getElem? (i := 1054) (by decide +kernel), List.mem_of_getElem? (i := 1376) (by decide +kernel), List.mem_of_getElem? (i := 1377) (by decide +kernel)⟩
theorem lw_p57 : lw_okq (⟨"QuestionReaderModel", "question", "()V"⟩, 27) := ⟨⟨by decide +kernel, by decide +kernel⟩, List.mem_of_getElem? (i := 1054) (by decide +kernel), List.mem_of_getElem? (i := 1380) (by decide +kernel), List.mem_of_getElem? (i := 1381) (by decide +kernel)⟩
theorem lw_p58 : lw_okq (⟨"QuestionReaderModel", "item", "()V"⟩, 27) := ⟨⟨by decide +kernel, by decide +kernel⟩, List.mem_of_getElem? (i := 1054) (by decide +kernel), List.mem_of_getElem? (i := 1384) (by decide +kernel), List.mem_of_getElem? (i := 1385) (by decide +kernel)⟩
theorem lw_p59 : lw_okq (⟨"QuestionReaderModel", "columnsDimension", "()I"⟩, 27) := ⟨⟨by decide +kernel, by decide +kernel⟩, List.mem_of_getElem? (i := 1054) (by decide +kernel), List.mem_of_getElem? (i := 1388) (by decide +kernel), List.mem_of_getElem? (i := 1389) (by decide +kernel)⟩
theorem lw_p60 : lw_okq (⟨"QuestionReaderModel", "columnsLevel", "(I)I"⟩, 27) := ⟨⟨by decide +kernel, by decide +kernel⟩, List.mem_of_getElem? (i := 1054) (by decide +kernel), List.mem_of_getElem? (i := 1392) (by decide +kernel), List.mem_of_getElem? (i := 1393) (by decide +kernel)⟩
theorem lw_p61 : lw_okq (⟨"QuestionReaderModel", "either", "()V"⟩, 27) := ⟨⟨by decide +kernel, by decide +kernel⟩, List.mem_of_getElem? (i := 1054) (by decide +kernel), List.mem_of_getElem? (i := 1396) (by decide +kernel), List.mem_of_getElem? (i := 1397) (by decide +kernel)⟩
theorem lw_p62 : lw_okq (⟨"QuestionReaderModel", "both", "()V"⟩, 27) := ⟨⟨by decide +kernel, by decide +kernel⟩, List.mem_of_getElem? (i := 1054) (by decide +kernel), List.mem_of_getElem? (i := 1400) (by decide +kernel), List.mem_of_getElem? (i := 1401) (by decide +kernel)⟩
theorem lw_p63 : lw_okq (⟨"QuestionReaderModel", "single", "()V"⟩, 27) := ⟨⟨by decide +kernel, by decide +kernel⟩, List.mem_of_getElem? (i := 1054) (by decide +kernel), List.mem_of_getElem? (i := 1404) (by decide +kernel), List.mem_of_getElem? (i := 1405) (by decide +kernel)⟩
def lw_privs_4 : List (MethodName × Nat) := [(⟨"QuestionReaderModel", "name", "()Z"⟩, 27), (⟨"QuestionReaderModel", "among", "(II)I"⟩, 27), (⟨"QuestionReaderModel", "isName", "(I)Z"⟩, 27), (⟨"QuestionReaderModel", "keep", "(I)V"⟩, 27), (⟨"QuestionReaderModel", "needSign", "(I)Z"⟩, 27), (⟨"QuestionReaderModel", "isSign", "(I)Z"⟩, 27), (⟨"QuestionReaderModel", "measure", "()V"⟩, 27), (⟨"QuestionReaderModel", "member", "()V"⟩, 27), (⟨"QuestionReaderModel", "goes", "(II)Z"⟩, 27), (⟨"QuestionReaderModel", "question", "()V"⟩, 27), (⟨"QuestionReaderModel", "item", "()V"⟩, 27), (⟨"QuestionReaderModel", "columnsDimension", "()I"⟩, 27), (⟨"QuestionReaderModel", "columnsLevel", "(I)I"⟩, 27), (⟨"QuestionReaderModel", "either", "()V"⟩, 27), (⟨"QuestionReaderModel", "both", "()V"⟩, 27), (⟨"QuestionReaderModel", "single", "()V"⟩, 27)]
theorem lw_r4 : ∀ q ∈ lw_privs_4, lw_okq q := List.forall_mem_cons.mpr ⟨lw_p48, List.forall_mem_cons.mpr ⟨lw_p49, List.forall_mem_cons.mpr ⟨lw_p50, List.forall_mem_cons.mpr ⟨lw_p51, List.forall_mem_cons.mpr ⟨lw_p52, List.forall_mem_cons.mpr ⟨lw_p53, List.forall_mem_cons.mpr ⟨lw_p54, List.forall_mem_cons.mpr ⟨lw_p55, List.forall_mem_cons.mpr ⟨lw_p56, List.forall_mem_cons.mpr ⟨lw_p57, List.forall_mem_cons.mpr ⟨lw_p58, List.forall_mem_cons.mpr ⟨lw_p59, List.forall_mem_cons.mpr ⟨lw_p60, List.forall_mem_cons.mpr ⟨lw_p61, List.forall_mem_cons.mpr ⟨lw_p62, List.forall_mem_cons.mpr ⟨lw_p63, fun _ h => absurd h List.not_mem_nil⟩⟩⟩⟩⟩⟩⟩⟩⟩⟩⟩⟩⟩⟩⟩⟩
theorem lw_p64 : lw_okq (⟨"QuestionReaderModel", "comparison", "()V"⟩, 27) := ⟨⟨by decide +kernel, by decide +kernel⟩, List.mem_of_getElem? (i := 1054) (by decide +kernel), List.mem_of_getElem? (i := 1408) (by decide +kernel), List.mem_of_getElem? (i := 1409) (by decide +kernel)⟩
theorem lw_p65 : lw_okq (⟨"QuestionReaderModel", "needNumber", "()I"⟩, 27) := ⟨⟨by decide +kernel, by decide +kernel⟩, List.mem_of_getElem? (i := 1054) (by decide +kernel), List.mem_of_getElem? (i := 1412) (by decide +kernel), List.mem_of_getElem? (i := 1413) (by decide +kernel)⟩
theorem lw_p66 : lw_okq (⟨"QuestionReaderModel", "list", "(I)V"⟩, 27) := ⟨⟨by decide +kernel, by decide +kernel⟩, List.mem_of_getElem? (i := 1054) (by decide +kernel), List.mem_of_getElem? (i := 1416) (by decide +kernel), List.mem_of_getElem? (i := 1417) (by decide +kernel)⟩
theorem lw_p67 : lw_okq (⟨"QuestionReaderModel", "say", "(I)V"⟩, 27) := ⟨⟨by decide +kernel, by decide +kernel⟩, List.mem_of_getElem? (i := 1054) (by decide +kernel), List.mem_of_getElem? (i := 1420) (by decide +kernel), List.mem_of_getElem? (i := 1421) (by decide +kernel)⟩
theorem lw_p68 : lw_okq (⟨"QuestionReaderModel", "grouping", "()V"⟩, 27) := ⟨⟨by decide +kernel, by decide +kernel⟩, List.mem_of_getElem? (i := 1054) (by decide +kernel), List.mem_of_getElem? (i := 1424) (by decide +kernel), List.mem_of_getElem? (i := 1425) (by decide +kernel)⟩
theorem lw_p69 : lw_okq (⟨"QuestionReaderModel", "groupsOf", "()I"⟩, 27) := ⟨⟨by decide +kernel, by decide +kernel⟩, List.mem_of_getElem? (i := 1054) (by decide +kernel), List.mem_of_getElem? (i := 1428) (by decide +kernel), List.mem_of_getElem? (i := 1429) (by decide +kernel)⟩
theorem lw_p70 : lw_okq (⟨"QuestionReaderModel", "groupColumn", "()V"⟩, 27) := ⟨⟨by decide +kernel, by decide +kernel⟩, List.mem_of_getElem? (i := 1054) (by decide +kernel), List.mem_of_getElem? (i := 1432) (by decide +kernel), List.mem_of_getElem? (i := 1433) (by decide +kernel)⟩
theorem lw_p71 : lw_okq (⟨"QuestionReaderModel", "spread", "(LQuestionReaderModel$Question;)V"⟩, 27) := ⟨⟨by decide +kernel, by decide +kernel⟩, List.mem_of_getElem? (i := 1054) (by decide +kernel), List.mem_of_getElem? (i := 1436) (by decide +kernel), List.mem_of_getElem? (i := 1437) (by decide +kernel)⟩
theorem lw_p72 : lw_okq (⟨"QuestionReaderModel", "order", "(I)V"⟩, 27) := ⟨⟨by decide +kernel, by decide +kernel⟩, List.mem_of_getElem? (i := 1054) (by decide +kernel), List.mem_of_getElem? (i := 1448) (by decide +kernel), List.mem_of_getElem? (i := 1449) (by decide +kernel)⟩
theorem lw_p73 : lw_okq (⟨"QuestionReaderModel", "isDimension", "(I)Z"⟩, 27) := ⟨⟨by decide +kernel, by decide +kernel⟩, List.mem_of_getElem? (i := 1054) (by decide +kernel), List.mem_of_getElem? (i := 1460) (by decide +kernel), List.mem_of_getElem? (i := 1461) (by decide +kernel)⟩
theorem lw_p74 : lw_okq (⟨"QuestionReaderModel", "isValue", "(III)Z"⟩, 27) := ⟨⟨by decide +kernel, by decide +kernel⟩, List.mem_of_getElem? (i := 1054) (by decide +kernel), List.mem_of_getElem? (i := 1468) (by decide +kernel), List.mem_of_getElem? (i := 1469) (by decide +kernel)⟩
theorem lw_p75 : lw_okq (⟨"QuestionReaderModel", "valueOf", "(III)I"⟩, 27) := ⟨⟨by decide +kernel, by decide +kernel⟩, List.mem_of_getElem? (i := 1054) (by decide +kernel), List.mem_of_getElem? (i := 1472) (by decide +kernel), List.mem_of_getElem? (i := 1473) (by decide +kernel)⟩
theorem lw_p76 : lw_okq (⟨"QuestionReaderModel", "isNamed", "(I)Z"⟩, 27) := ⟨⟨by decide +kernel, by decide +kernel⟩, List.mem_of_getElem? (i := 1054) (by decide +kernel), List.mem_of_getElem? (i := 1488) (by decide +kernel), List.mem_of_getElem? (i := 1489) (by decide +kernel)⟩
theorem lw_p77 : lw_okq (⟨"QuestionReaderModel", "compares", "(I)Z"⟩, 27) := ⟨⟨by decide +kernel, by decide +kernel⟩, List.mem_of_getElem? (i := 1054) (by decide +kernel), List.mem_of_getElem? (i := 1512) (by decide +kernel), List.mem_of_getElem? (i := 1513) (by decide +kernel)⟩
def lw_privs_5 : List (MethodName × Nat) := [(⟨"QuestionReaderModel", "comparison", "()V"⟩, 27), (⟨"QuestionReaderModel", "needNumber", "()I"⟩, 27), (⟨"QuestionReaderModel", "list", "(I)V"⟩, 27), (⟨"QuestionReaderModel", "say", "(I)V"⟩, 27), (⟨"QuestionReaderModel", "grouping", "()V"⟩, 27), (⟨"QuestionReaderModel", "groupsOf", "()I"⟩, 27), (⟨"QuestionReaderModel", "groupColumn", "()V"⟩, 27), (⟨"QuestionReaderModel", "spread", "(LQuestionReaderModel$Question;)V"⟩, 27), (⟨"QuestionReaderModel", "order", "(I)V"⟩, 27), (⟨"QuestionReaderModel", "isDimension", "(I)Z"⟩, 27), (⟨"QuestionReaderModel", "isValue", "(III)Z"⟩, 27), (⟨"QuestionReaderModel", "valueOf", "(III)I"⟩, 27), (⟨"QuestionReaderModel", "isNamed", "(I)Z"⟩, 27), (⟨"QuestionReaderModel", "compares", "(I)Z"⟩, 27)]
theorem lw_r5 : ∀ q ∈ lw_privs_5, lw_okq q := List.forall_mem_cons.mpr ⟨lw_p64, List.forall_mem_cons.mpr ⟨lw_p65, List.forall_mem_cons.mpr ⟨lw_p66, List.forall_mem_cons.mpr ⟨lw_p67, List.forall_mem_cons.mpr ⟨lw_p68, List.forall_mem_cons.mpr ⟨lw_p69, List.forall_mem_cons.mpr ⟨lw_p70, List.forall_mem_cons.mpr ⟨lw_p71, List.forall_mem_cons.mpr ⟨lw_p72, List.forall_mem_cons.mpr ⟨lw_p73, List.forall_mem_cons.mpr ⟨lw_p74, List.forall_mem_cons.mpr ⟨lw_p75, List.forall_mem_cons.mpr ⟨lw_p76, List.forall_mem_cons.mpr ⟨lw_p77, fun _ h => absurd h List.not_mem_nil⟩⟩⟩⟩⟩⟩⟩⟩⟩⟩⟩⟩⟩⟩
def lw_privs : List (MethodName × Nat) := lw_privs_1 ++ (lw_privs_2 ++ (lw_privs_3 ++ (lw_privs_4 ++ (lw_privs_5))))
def lw_tbl : List Cond := k2_sels lw_privs ++ tables_1
theorem lw_privs_ok : ∀ q ∈ lw_privs, lw_okq q := by
  show ∀ q ∈ lw_privs_1 ++ (lw_privs_2 ++ (lw_privs_3 ++ (lw_privs_4 ++ (lw_privs_5)))), lw_okq q
  exact List.forall_mem_append.mpr ⟨lw_r1, List.forall_mem_append.mpr ⟨lw_r2, List.forall_mem_append.mpr ⟨lw_r3, List.forall_mem_append.mpr ⟨lw_r4, lw_r5⟩⟩⟩⟩
-- ===== end of PART A; then your names; then what follows =====
end
section
abbrev R_QR : String := "QuestionReader"
def F_QR : u_T := fun k => match k with
  | 0 => ("QuestionReader", "text", "LQuestionReader$Text;", true)
  | 1 => ("QuestionReader", "lexer", "LQuestionReader$Lexer;", true)
  | 2 => ("QuestionReader", "catalog", "LQuestionReader$Catalog;", true)
  | 3 => ("QuestionReader", "catalogGrammar", "LQuestionReader$CatalogGrammar;", true)
  | _ => ("QuestionReader", "questionGrammar", "LQuestionReader$QuestionGrammar;", true)
def t_QR : Nat → FieldType := fun k => match k with
  | 0 => .object "QuestionReader$Text"
  | 1 => .object "QuestionReader$Lexer"
  | 2 => .object "QuestionReader$Catalog"
  | 3 => .object "QuestionReader$CatalogGrammar"
  | _ => .object "QuestionReader$QuestionGrammar"
abbrev R_TX : String := "QuestionReader$Text"
def F_TX : u_T := fun k => match k with
  | 0 => ("QuestionReader$Text", "bytes", "[B", true)
  | _ => ("QuestionReader$Text", "length", "I", false)
def t_TX : Nat → FieldType := fun k => match k with
  | 0 => .array .byte
  | _ => .int
abbrev R_LX : String := "QuestionReader$Lexer"
def F_LX : u_T := fun k => match k with
  | 0 => ("QuestionReader$Lexer", "text", "LQuestionReader$Text;", true)
  | 1 => ("QuestionReader$Lexer", "kind", "LQuestionReader$Kind;", false)
  | 2 => ("QuestionReader$Lexer", "start", "I", false)
  | 3 => ("QuestionReader$Lexer", "end", "I", false)
  | 4 => ("QuestionReader$Lexer", "number", "I", false)
  | 5 => ("QuestionReader$Lexer", "faultKind", "I", false)
  | 6 => ("QuestionReader$Lexer", "faultPlace", "I", false)
  | 7 => ("QuestionReader$Lexer", "isWord", "Z", false)
  | _ => ("QuestionReader$Lexer", "unfit", "I", false)
def t_LX : Nat → FieldType := fun k => match k with
  | 0 => .object "QuestionReader$Text"
  | 1 => .object "QuestionReader$Kind"
  | 2 => .int
  | 3 => .int
  | 4 => .int
  | 5 => .int
  | 6 => .int
  | 7 => .boolean
  | _ => .int
abbrev R_CT : String := "QuestionReader$Catalog"
def F_CT : u_T := fun k => match k with
  | 0 => ("QuestionReader$Catalog", "names", "LQuestionReader$Names;", true)
  | 1 => ("QuestionReader$Catalog", "dimensions", "[LQuestionReader$Dimension;", true)
  | 2 => ("QuestionReader$Catalog", "dimensionCount", "I", false)
  | 3 => ("QuestionReader$Catalog", "measureCount", "I", false)
  | _ => ("QuestionReader$Catalog", "isOpen", "Z", false)
def t_CT : Nat → FieldType := fun k => match k with
  | 0 => .object "QuestionReader$Names"
  | 1 => .array (.object "QuestionReader$Dimension")
  | 2 => .int
  | 3 => .int
  | _ => .boolean
abbrev R_NM : String := "QuestionReader$Names"
def F_NM : u_T := fun k => match k with
  | 0 => ("QuestionReader$Names", "letters", "[B", true)
  | _ => ("QuestionReader$Names", "lengths", "[I", true)
def t_NM : Nat → FieldType := fun k => match k with
  | 0 => .array .byte
  | _ => .array .int
abbrev R_DM : String := "QuestionReader$Dimension"
def F_DM : u_T := fun k => match k with
  | 0 => ("QuestionReader$Dimension", "levelCount", "I", false)
  | 1 => ("QuestionReader$Dimension", "memberCount", "I", false)
  | 2 => ("QuestionReader$Dimension", "picked", "I", false)
  | 3 => ("QuestionReader$Dimension", "values", "[[I", true)
  | 4 => ("QuestionReader$Dimension", "rows", "[I", true)
  | 5 => ("QuestionReader$Dimension", "sorted", "[[I", true)
  | _ => ("QuestionReader$Dimension", "sortedCounts", "[I", true)
def t_DM : Nat → FieldType := fun k => match k with
  | 0 => .int
  | 1 => .int
  | 2 => .int
  | 3 => .array (.array .int)
  | 4 => .array .int
  | 5 => .array (.array .int)
  | _ => .array .int
abbrev R_CG : String := "QuestionReader$CatalogGrammar"
def F_CG : u_T := fun k => match k with
  | 0 => ("QuestionReader$CatalogGrammar", "lexer", "LQuestionReader$Lexer;", true)
  | 1 => ("QuestionReader$CatalogGrammar", "catalog", "LQuestionReader$Catalog;", true)
  | _ => ("QuestionReader$CatalogGrammar", "names", "LQuestionReader$Names;", true)
def t_CG : Nat → FieldType := fun k => match k with
  | 0 => .object "QuestionReader$Lexer"
  | 1 => .object "QuestionReader$Catalog"
  | _ => .object "QuestionReader$Names"
abbrev R_QG : String := "QuestionReader$QuestionGrammar"
def F_QG : u_T := fun k => match k with
  | 0 => ("QuestionReader$QuestionGrammar", "lexer", "LQuestionReader$Lexer;", true)
  | 1 => ("QuestionReader$QuestionGrammar", "catalog", "LQuestionReader$Catalog;", true)
  | 2 => ("QuestionReader$QuestionGrammar", "names", "LQuestionReader$Names;", true)
  | 3 => ("QuestionReader$QuestionGrammar", "latest", "LQuestionReader$Question;", false)
  | _ => ("QuestionReader$QuestionGrammar", "draft", "LQuestionReader$Question;", false)
def t_QG : Nat → FieldType := fun k => match k with
  | 0 => .object "QuestionReader$Lexer"
  | 1 => .object "QuestionReader$Catalog"
  | 2 => .object "QuestionReader$Names"
  | 3 => .object "QuestionReader$Question"
  | _ => .object "QuestionReader$Question"
abbrev R_QU : String := "QuestionReader$Question"
def F_QU : u_T := fun k => match k with
  | 0 => ("QuestionReader$Question", "itemCount", "I", false)
  | 1 => ("QuestionReader$Question", "itemTypes", "[I", true)
  | 2 => ("QuestionReader$Question", "itemTargets", "[I", true)
  | 3 => ("QuestionReader$Question", "itemPlaces", "[I", true)
  | 4 => ("QuestionReader$Question", "columnCount", "I", false)
  | 5 => ("QuestionReader$Question", "columns", "[I", true)
  | 6 => ("QuestionReader$Question", "setCount", "I", false)
  | 7 => ("QuestionReader$Question", "sets", "[I", true)
  | _ => ("QuestionReader$Question", "condition", "LQuestionReader$Condition;", true)
def t_QU : Nat → FieldType := fun k => match k with
  | 0 => .int
  | 1 => .array .int
  | 2 => .array .int
  | 3 => .array .int
  | 4 => .int
  | 5 => .array .int
  | 6 => .int
  | 7 => .array .int
  | _ => .object "QuestionReader$Condition"
abbrev R_CN : String := "QuestionReader$Condition"
def F_CN : u_T := fun k => match k with
  | 0 => ("QuestionReader$Condition", "comparisonCount", "I", false)
  | 1 => ("QuestionReader$Condition", "depth", "I", false)
  | 2 => ("QuestionReader$Condition", "comparisons", "[LQuestionReader$Comparison;", true)
  | 3 => ("QuestionReader$Condition", "jointCount", "I", false)
  | 4 => ("QuestionReader$Condition", "lefts", "[I", true)
  | 5 => ("QuestionReader$Condition", "rights", "[I", true)
  | 6 => ("QuestionReader$Condition", "isAnd", "[Z", true)
  | 7 => ("QuestionReader$Condition", "isNegated", "[Z", true)
  | 8 => ("QuestionReader$Condition", "truths", "[Z", true)
  | 9 => ("QuestionReader$Condition", "beforeOr", "[I", true)
  | 10 => ("QuestionReader$Condition", "beforeAnd", "[I", true)
  | _ => ("QuestionReader$Condition", "isNotAhead", "[Z", true)
def t_CN : Nat → FieldType := fun k => match k with
  | 0 => .int
  | 1 => .int
  | 2 => .array (.object "QuestionReader$Comparison")
  | 3 => .int
  | 4 => .array .int
  | 5 => .array .int
  | 6 => .array .boolean
  | 7 => .array .boolean
  | 8 => .array .boolean
  | 9 => .array .int
  | 10 => .array .int
  | _ => .array .boolean
abbrev R_CP : String := "QuestionReader$Comparison"
def F_CP : u_T := fun k => match k with
  | 0 => ("QuestionReader$Comparison", "column", "I", false)
  | 1 => ("QuestionReader$Comparison", "isNegated", "Z", false)
  | 2 => ("QuestionReader$Comparison", "low", "I", false)
  | 3 => ("QuestionReader$Comparison", "high", "I", false)
  | 4 => ("QuestionReader$Comparison", "listed", "I", false)
  | _ => ("QuestionReader$Comparison", "list", "[I", true)
def t_CP : Nat → FieldType := fun k => match k with
  | 0 => .int
  | 1 => .boolean
  | 2 => .int
  | 3 => .int
  | 4 => .int
  | _ => .array .int
abbrev R_MD : String := "QuestionReaderModel"
def F_MD : u_T := fun k => match k with
  | 0 => ("QuestionReaderModel", "reserved", "Ljava/lang/String;", true)
  | 1 => ("QuestionReaderModel", "code", "I", false)
  | 2 => ("QuestionReaderModel", "open", "Z", false)
  | 3 => ("QuestionReaderModel", "text", "[B", true)
  | 4 => ("QuestionReaderModel", "size", "I", false)
  | 5 => ("QuestionReaderModel", "fault", "I", false)
  | 6 => ("QuestionReaderModel", "place", "I", false)
  | 7 => ("QuestionReaderModel", "at", "I", false)
  | 8 => ("QuestionReaderModel", "from", "I", false)
  | 9 => ("QuestionReaderModel", "token", "I", false)
  | 10 => ("QuestionReaderModel", "word", "I", false)
  | 11 => ("QuestionReaderModel", "number", "I", false)
  | 12 => ("QuestionReaderModel", "sign", "I", false)
  | 13 => ("QuestionReaderModel", "dimensions", "I", false)
  | 14 => ("QuestionReaderModel", "levels", "[I", true)
  | 15 => ("QuestionReaderModel", "members", "[I", true)
  | 16 => ("QuestionReaderModel", "values", "[I", true)
  | 17 => ("QuestionReaderModel", "picked", "[I", true)
  | 18 => ("QuestionReaderModel", "measures", "I", false)
  | 19 => ("QuestionReaderModel", "letters", "[B", true)
  | 20 => ("QuestionReaderModel", "lengths", "[I", true)
  | 21 => ("QuestionReaderModel", "asked", "LQuestionReaderModel$Question;", false)
  | 22 => ("QuestionReaderModel", "next", "LQuestionReaderModel$Question;", false)
  | 23 => ("QuestionReaderModel", "isAsked", "Z", false)
  | 24 => ("QuestionReaderModel", "brackets", "I", false)
  | 25 => ("QuestionReaderModel", "groupAt", "I", false)
  | _ => ("QuestionReaderModel", "pile", "[Z", true)
def t_MD : Nat → FieldType := fun k => match k with
  | 0 => .object "java/lang/String"
  | 1 => .int
  | 2 => .boolean
  | 3 => .array .byte
  | 4 => .int
  | 5 => .int
  | 6 => .int
  | 7 => .int
  | 8 => .int
  | 9 => .int
  | 10 => .int
  | 11 => .int
  | 12 => .int
  | 13 => .int
  | 14 => .array .int
  | 15 => .array .int
  | 16 => .array .int
  | 17 => .array .int
  | 18 => .int
  | 19 => .array .byte
  | 20 => .array .int
  | 21 => .object "QuestionReaderModel$Question"
  | 22 => .object "QuestionReaderModel$Question"
  | 23 => .boolean
  | 24 => .int
  | 25 => .int
  | _ => .array .boolean
abbrev R_MQ : String := "QuestionReaderModel$Question"
def F_MQ : u_T := fun k => match k with
  | 0 => ("QuestionReaderModel$Question", "items", "I", false)
  | 1 => ("QuestionReaderModel$Question", "kind", "[I", true)
  | 2 => ("QuestionReaderModel$Question", "of", "[I", true)
  | 3 => ("QuestionReaderModel$Question", "begins", "[I", true)
  | 4 => ("QuestionReaderModel$Question", "groups", "I", false)
  | 5 => ("QuestionReaderModel$Question", "group", "[I", true)
  | 6 => ("QuestionReaderModel$Question", "parts", "I", false)
  | 7 => ("QuestionReaderModel$Question", "partKind", "[I", true)
  | 8 => ("QuestionReaderModel$Question", "partSize", "[I", true)
  | 9 => ("QuestionReaderModel$Question", "sets", "I", false)
  | 10 => ("QuestionReaderModel$Question", "set", "[I", true)
  | 11 => ("QuestionReaderModel$Question", "signs", "I", false)
  | 12 => ("QuestionReaderModel$Question", "sign", "[I", true)
  | 13 => ("QuestionReaderModel$Question", "comparisons", "I", false)
  | 14 => ("QuestionReaderModel$Question", "column", "[I", true)
  | 15 => ("QuestionReaderModel$Question", "how", "[I", true)
  | 16 => ("QuestionReaderModel$Question", "first", "[I", true)
  | 17 => ("QuestionReaderModel$Question", "second", "[I", true)
  | _ => ("QuestionReaderModel$Question", "list", "[I", true)
def t_MQ : Nat → FieldType := fun k => match k with
  | 0 => .int
  | 1 => .array .int
  | 2 => .array .int
  | 3 => .array .int
  | 4 => .int
  | 5 => .array .int
  | 6 => .int
  | 7 => .array .int
  | 8 => .array .int
  | 9 => .int
  | 10 => .array .int
  | 11 => .int
  | 12 => .array .int
  | 13 => .int
  | 14 => .array .int
  | 15 => .array .int
  | 16 => .array .int
  | 17 => .array .int
  | _ => .array .int
/-- the classes whose objects the worlds hold -/
abbrev vwCl : List vw_C := [(R_QR, F_QR, 5), (R_TX, F_TX, 2), (R_LX, F_LX, 9), (R_CT, F_CT, 5), (R_NM, F_NM, 2), (R_DM, F_DM, 7), (R_CG, F_CG, 3), (R_QG, F_QG, 5), (R_QU, F_QU, 9), (R_CN, F_CN, 12), (R_CP, F_CP, 6), (R_MD, F_MD, 27), (R_MQ, F_MQ, 19)]
/-- the types of the elements of arrays -/
abbrev x_tl : List FieldType := [.int, .byte, .boolean, .long, .object "QuestionReader$Dimension", .object "QuestionReader$Comparison", .array .int]
/-- the words that last -/
def x_tsl : List Cond := lw_tbl.filter goodWord
theorem x_good : ∀ w ∈ x_tsl, (w.onTables && w.keeps) = true ∨ ∃ ty, w = .arrayClass ty := fun w h => good_of_word (List.mem_filter.mp h).2
theorem x_in {w : Cond} (i : Nat) (h : tables_1[i]? = some w) (hg : goodWord w = true) : w ∈ x_tsl := List.mem_filter.mpr ⟨List.mem_append_right _ (List.mem_of_getElem? h), hg⟩
theorem x_inS {w : Cond} (h : w ∈ k2_sels lw_privs) (hg : goodWord w = true) : w ∈ x_tsl := List.mem_filter.mpr ⟨List.mem_append_left _ h, hg⟩
/-- launch; classes' numbers and slots; array classes' numbers; the start's state and the script's address; the constants' addresses -/
abbrev x_G : Type := Launch × va_G × (Nat → ClassId) × (State × Nat) × (Nat → Nat)
abbrev x_s0 (G : x_G) : State := G.2.2.2.1.1
/-- what is known of the start -/
def x_0 (G : x_G) : Prop := G.1.flags = flags0 ∧ (∀ w ∈ lw_tbl, w.before #[Value.ref G.2.2.2.1.2] (x_s0 G) = true) ∧ (Jvm.Cond.and given_1 narrow_1).before #[Value.ref G.2.2.2.1.2] (x_s0 G) = true ∧ G.2.2.2.1.2 < (x_s0 G).heap.size
/-- a state behind the start: warmer tables, the old cells as they were -/
def x_Z (G : x_G) (s : State) : Prop := x_0 G ∧ (x_s0 G).WarmedH s.vm ∧ ∀ q : Nat, q < (x_s0 G).heap.size → s.heap[q]? = (x_s0 G).heap[q]?
theorem x_Z_next {G : x_G} {s U : State} (hZ : x_Z G s) (hW : s.WarmedH U.vm) (hq : ∀ q : Nat, q < (x_s0 G).heap.size → U.heap[q]? = s.heap[q]?) : x_Z G U :=
  ⟨hZ.1, State.WarmedH.trans (vm' := U.vm) hZ.2.1 hW, fun q h => (hq q h).trans (hZ.2.2 q h)⟩
end
section
/-! ===== THE CORE: a frame of a method over an abstract heap. An abstract reference is a place: k < x_N is the k-th new cell, x_N + i the i-th constant.
Needs: vwCl (the classes), x_tl (the types of array elements), x_tsl (the words), x_G, x_Z (what is known of the start's statics). ===== -/
def x_N : Nat := 1000000000
abbrev x_l (G : x_G) : Launch := G.1
abbrev x_D (G : x_G) : va_G := G.2.1
abbrev x_c (G : x_G) : Nat → ClassId := G.2.2.1
abbrev x_B (G : x_G) : Nat := G.2.2.2.1.1.heap.size
abbrev x_C (G : x_G) : Nat → Nat := G.2.2.2.2
def x_ty (G : x_G) : List (ClassId × FieldType) := x_tl.mapIdx (fun i t => (x_c G i, t))
/-- the address behind an abstract reference -/
def x_ad (G : x_G) (k : Nat) : Nat := if k < x_N then x_B G + k else x_C G (k - x_N)
def x_v (G : x_G) : Value → Value
  | .ref k => .ref (x_ad G k)
  | v => v
def x_a (G : x_G) (a : vp_A) : vp_A := (a.1, match a.2 with
  | .inl f => .inl f
  | .inr (.inl f) => .inr (.inl f)
  | .inr (.inr (.inl f)) => .inr (.inr (.inl f))
  | .inr (.inr (.inr (.inl f))) => .inr (.inr (.inr (.inl f)))
  | .inr (.inr (.inr (.inr f))) => .inr (.inr (.inr (.inr (fun j => (f j).map (x_ad G))))))
def x_e (G : x_G) : va_E → va_E
  | .inl (t, a) => .inl (x_c G t, x_a G a)
  | .inr (ci, fs) => .inr (ci, fs.map (x_v G))
/-- the cells that a method may change -/
def x_A (G : x_G) : Nat → Prop := fun q => x_B G ≤ q
abbrev x_h : Type := Nat → va_E
/-- the heap H holds the n places of h; if ex, nothing else is new -/
def x_H (G : x_G) (ex : Bool) (n : Nat) (h : x_h) (H : Heap) : Prop :=
  n ≤ x_N ∧ x_B G + n ≤ H.size ∧ (ex = true → H.size = x_B G + n) ∧ ∀ k, k < n → va_at (x_D G) vwCl (x_B G + k, x_e G (h k)) H
def x_K (G : x_G) (s : State) : Prop := va_K (x_D G) vwCl (x_ty G) s ∧ x_Z G s ∧ x_B G ≤ s.heap.size
/-- a method: its name, its bytes, its locals, what it returns, its handlers -/
abbrev x_M : Type := MethodName × ByteArray × Nat × Option FieldType × List (Nat × Nat × Nat × Nat)
def x_F (G : x_G) (M : x_M) (p : Program) (s : State) (m : MethodId) (args : Array Value) (meth : Method) (c : Code) : Prop :=
  p.tables.exec = Jvm.exec ∧ c.code = M.2.1 ∧ c.maxLocals = M.2.2.1 ∧ meth.sig.returnType = M.2.2.2.1 ∧
  c.exceptionTable.toList.map (fun h => (h.startPc, h.endPc, h.handlerPc, h.catchType)) = M.2.2.2.2 ∧
  s.vm.findClass M.1.cls = some m.cls ∧ meth.locks = false ∧ meth.name = M.1.name ∧ (∀ w ∈ x_tsl, w.before args s = true) ∧ x_K G s
def x_lv (G : x_G) (lv : List (Nat × Value)) : List (Nat × Value) := lv.map (fun q => (q.1, x_v G q.2))
def x_st (G : x_G) (st : List Value) : List Value := st.map (x_v G)
/-- the frame at pc, locals lv, stack st, heap h, comes to a state with Qf -/
def x_W (G : x_G) (M : x_M) (rm : Room) (Qf : List Frame → Array Value → State → State → Prop) (ex : Bool) (n : Nat) (h : x_h) (cells slots : Nat) (lv : List (Nat × Value)) (st : List Value) (pc : Nat) : Prop :=
  ∀ (p : Program) (e : Env) (s : State) (m : MethodId) (args : Array Value) (below : List Frame) (meth : Method) (c : Code), x_F G M p s m args meth c →
    ∀ (H : Heap) (locs : List Loc) (ls : Array Slot), x_H G ex n h H → va_S (x_A G) s.heap H locs → lv_has ls M.2.2.1 (x_lv G lv) →
    W p (x_l G) e rm s m args below meth c H locs cells slots (Qf below args s) (F0 m pc ls (x_st G st))
/-- what a method answers or throws, and the heap behind it -/
abbrev x_P : Type := (Option Value ⊕ String) → Nat → x_h → Prop
def x_Q (G : x_G) (rm : Room) (ex : Bool) (Po : x_P) (below : List Frame) (_ : Array Value) (s t : State) : Prop :=
  t.status = .running ∧ s.WarmedH t.vm ∧ (∃ L, s.sameButNew ({ t with vm := s.vm } : State) L rm.cells rm.slots ∧ ∀ q ∈ L, x_A G q.base) ∧ va_F (x_A G) s t ∧
  ((∃ v n h, Ended t below (.returned (v.map (x_v G))) ∧ Po (.inl v) n h ∧ x_H G ex n h t.heap) ∨
   (∃ a X n h cell, Ended t below (.threw a) ∧ Po (.inr X) n h ∧ x_H G ex n h t.heap ∧ t.heap[a]? = some cell ∧ cell.vm = .none ∧ s.vm.findClass X = some cell.cls))
/-- the contract: with these arguments, in this heap, the method ends, and Po -/
def x_R (G : x_G) (M : x_M) (rm : Room) (ex : Bool) (args : List Value) (n : Nat) (h : x_h) (Po : x_P) : Prop :=
  x_W G M rm (x_Q G rm ex Po) ex n h 0 0 (lv_args 0 args) [] 0
-- small rows
theorem x_ad_new {G : x_G} {k : Nat} (h : k < x_N) : x_ad G k = x_B G + k := if_pos h
theorem x_cat {G : x_G} {v : Value} : (x_v G v).category = v.category := by cases v <;> rfl
theorem x_lv_at {G : x_G} {lv : List (Nat × Value)} {ls : Array Slot} {nL i : Nat} {v : Value} (hl : lv_has ls nL (x_lv G lv)) (h : (lv.find? (fun q => q.1 == i)) = some (i, v)) : ls[i]? = some (.val (x_v G v)) :=
  hl.2.2 (i, x_v G v) (List.mem_map.mpr ⟨(i, v), List.mem_of_find?_eq_some h, rfl⟩)
def x_ins : List (Nat × Value) → Nat → Value → List (Nat × Value)
  | [], i, v => [(i, v)]
  | q :: r, i, v => if i < q.1 then (i, v) :: q :: r else q :: x_ins r i v
theorem x_ins_mem : ∀ (l : List (Nat × Value)) (i : Nat) (v : Value) (q : Nat × Value), q ∈ x_ins l i v → q = (i, v) ∨ q ∈ l
  | [], i, v, q, h => Or.inl (List.mem_singleton.mp h)
  | a :: r, i, v, q, h => by
    unfold x_ins at h
    by_cases c : i < a.1
    · rw [if_pos c] at h
      rcases List.mem_cons.mp h with h | h
      · exact Or.inl h
      · exact Or.inr h
    · rw [if_neg c] at h
      rcases List.mem_cons.mp h with h | h
      · exact Or.inr (by rw [h]; exact List.mem_cons_self)
      · rcases x_ins_mem r i v q h with h | h
        · exact Or.inl h
        · exact Or.inr (List.mem_cons_of_mem _ h)
def x_put (lv : List (Nat × Value)) (i : Nat) (v : Value) : List (Nat × Value) := x_ins (lv.filter (fun q => !(q.1 == i) && !(q.1 + 1 == i && q.2.category == 2))) i v
def x_putL (lv : List (Nat × Value)) (i : Nat) (v : Value) : List (Nat × Value) := x_ins (lv.filter (fun q => !(q.1 == i) && (!(q.1 == i + 1) && !(q.1 + 1 == i && q.2.category == 2)))) i v
theorem x_put_has {G : x_G} {lv lv2 : List (Nat × Value)} {i nL : Nat} {v w : Value} {ls : Array Slot} (hl : lv_has ls nL ((i, w) :: (x_lv G lv).filter (fun q => !(q.1 == i) && !(q.1 + 1 == i && q.2.category == 2)))) (hq : x_put lv i v = lv2) (hv : x_v G v = w) : lv_has ls nL (x_lv G lv2) := by
  refine ⟨hl.1, hl.2.1, fun q h => hl.2.2 q ?_⟩
  subst hq; subst hv
  obtain ⟨r, hr, rfl⟩ := List.mem_map.mp h
  rcases x_ins_mem _ _ _ _ hr with h | h
  · subst h; exact List.mem_cons_self
  · obtain ⟨h1, h2⟩ := List.mem_filter.mp h
    refine List.mem_cons_of_mem _ (List.mem_filter.mpr ⟨List.mem_map.mpr ⟨r, h1, rfl⟩, ?_⟩)
    rw [x_cat]; exact h2
theorem x_putL_has {G : x_G} {lv lv2 : List (Nat × Value)} {i nL : Nat} {v w : Value} {ls : Array Slot} (hl : lv_has ls nL ((i, w) :: (x_lv G lv).filter (fun q => !(q.1 == i) && (!(q.1 == i + 1) && !(q.1 + 1 == i && q.2.category == 2))))) (hq : x_putL lv i v = lv2) (hv : x_v G v = w) : lv_has ls nL (x_lv G lv2) := by
  refine ⟨hl.1, hl.2.1, fun q h => hl.2.2 q ?_⟩
  subst hq; subst hv
  obtain ⟨r, hr, rfl⟩ := List.mem_map.mp h
  rcases x_ins_mem _ _ _ _ hr with h | h
  · subst h; exact List.mem_cons_self
  · obtain ⟨h1, h2⟩ := List.mem_filter.mp h
    refine List.mem_cons_of_mem _ (List.mem_filter.mpr ⟨List.mem_map.mpr ⟨r, h1, rfl⟩, ?_⟩)
    rw [x_cat]; exact h2
theorem x_ty_at {G : x_G} {t : Nat} {ty : FieldType} (h : x_tl[t]? = some ty) : (x_ty G)[t]? = some (x_c G t, ty) := by
  unfold x_ty
  rw [List.getElem?_mapIdx, h]
  rfl
theorem x_H.at {G : x_G} {ex : Bool} {n : Nat} {h : x_h} {H : Heap} (hH : x_H G ex n h H) {k : Nat} (hk : k < n) {c : va_E} (hc : h k = c) : va_P (x_D G) vwCl [(x_B G + k, x_e G c)] H := by
  intro i q hq
  subst hc
  cases i with
  | zero => cases hq; exact hH.2.2.2 k hk
  | succ i => simp at hq
theorem x_H.upd {G : x_G} {ex : Bool} {n : Nat} {h : x_h} {H H1 : Heap} (hH : x_H G ex n h H) {k : Nat} {c : va_E} (z : H1.size = H.size) (oq : ∀ q : Nat, q ≠ x_B G + k → H1[q]? = H[q]?) (hc : va_at (x_D G) vwCl (x_B G + k, x_e G c) H1) : x_H G ex n (va_up h k c) H1 := by
  refine ⟨hH.1, by rw [z]; exact hH.2.1, fun x => by rw [z]; exact hH.2.2.1 x, fun j hj => ?_⟩
  by_cases e : j = k
  · subst e
    rw [va_up_self]; exact hc
  · rw [va_up_ne _ _ e]
    exact (hH.2.2.2 j hj).kept (oq _ (by show x_B G + j ≠ _; omega))
theorem x_H.new {G : x_G} {n : Nat} {h : x_h} {H H1 : Heap} (hH : x_H G true n h H) {c : va_E} (hn : n + 1 ≤ x_N) (z : H1.size = H.size + 1) (oq : ∀ q : Nat, q < H.size → H1[q]? = H[q]?) (hc : va_at (x_D G) vwCl (x_B G + n, x_e G c) H1) : x_H G true (n + 1) (va_up h n c) H1 := by
  have z0 := hH.2.2.1 rfl
  refine ⟨hn, by omega, fun _ => by omega, fun j hj => ?_⟩
  by_cases e : j = n
  · subst e
    rw [va_up_self]; exact hc
  · rw [va_up_ne _ _ e]
    exact (hH.2.2.2 j (by omega)).kept (oq _ (by show x_B G + j < _; omega))
theorem x_S.put {G : x_G} {H0 H H1 : Heap} {locs : List Loc} {k i : Nat} (hS : va_S (x_A G) H0 H locs) (z : H1.size = H.size) (oq : ∀ q : Nat, q ≠ x_B G + k → H1[q]? = H[q]?) : va_S (x_A G) H0 H1 (locs ++ [⟨x_B G + k, i⟩]) := by
  refine ⟨by rw [z]; exact hS.1, fun q h1 h2 => ?_, fun q hq => ?_⟩
  · rw [oq q (fun e => h2 (by rw [e]; exact Nat.le_add_right _ _))]; exact hS.2.1 q h1 h2
  · rcases List.mem_append.mp hq with h | h
    · exact hS.2.2 q h
    · rw [List.mem_singleton.mp h]; exact Nat.le_add_right _ _
theorem x_S.new {G : x_G} {H0 H H1 : Heap} {locs : List Loc} (hS : va_S (x_A G) H0 H locs) (z : H.size ≤ H1.size) (oq : ∀ q : Nat, q < H.size → H1[q]? = H[q]?) : va_S (x_A G) H0 H1 locs :=
  ⟨Nat.le_trans hS.1 z, fun q h1 h2 => (oq q (Nat.lt_of_lt_of_le h1 hS.1)).trans (hS.2.1 q h1 h2), hS.2.2⟩
end
section
section XR
variable {G : x_G} {M : x_M} {rm : Room} {Qf : List Frame → Array Value → State → State → Prop} {ex : Bool} {n : Nat} {h : x_h} {cells slots : Nat} {lv : List (Nat × Value)} {st : List Value} {pc : Nat}
theorem x_iconst {i : Int} {v : Int32} (hd : decode M.2.1 pc = .ok (.iconst i, 1)) (hv : Int32.ofInt i = v) (k : x_W G M rm Qf ex n h cells slots lv (.int v :: st) (pc + 1)) : x_W G M rm Qf ex n h cells slots lv st pc :=
  fun p e s m args below meth c F H locs ls hH hS hl => lv_iconst F.1 F.2.1 hd hv (k p e s m args below meth c F H locs ls hH hS hl)
theorem x_bipush {i : Int} {v : Int32} (hd : decode M.2.1 pc = .ok (.bipush i, 2)) (hv : (Int8.ofInt i).toInt32 = v) (k : x_W G M rm Qf ex n h cells slots lv (.int v :: st) (pc + 2)) : x_W G M rm Qf ex n h cells slots lv st pc :=
  fun p e s m args below meth c F H locs ls hH hS hl => lv_bipush F.1 F.2.1 hd hv (k p e s m args below meth c F H locs ls hH hS hl)
theorem x_sipush {i : Int} {v : Int32} (hd : decode M.2.1 pc = .ok (.sipush i, 3)) (hv : (Int16.ofInt i).toInt32 = v) (k : x_W G M rm Qf ex n h cells slots lv (.int v :: st) (pc + 3)) : x_W G M rm Qf ex n h cells slots lv st pc :=
  fun p e s m args below meth c F H locs ls hH hS hl => lv_sipush F.1 F.2.1 hd hv (k p e s m args below meth c F H locs ls hH hS hl)
theorem x_lconst {i : Fin 2} {v : Int64} (hd : decode M.2.1 pc = .ok (.lconst i, 1)) (hv : Int64.ofNat (i : Nat) = v) (k : x_W G M rm Qf ex n h cells slots lv (.long v :: st) (pc + 1)) : x_W G M rm Qf ex n h cells slots lv st pc :=
  fun p e s m args below meth c F H locs ls hH hS hl => lv_lconst F.1 F.2.1 hd hv (k p e s m args below meth c F H locs ls hH hS hl)
theorem x_iload_n {q : Fin 4} {i : Nat} {x : Int32} (hd : decode M.2.1 pc = .ok (.iload_n q, 1)) (hi : (q : Nat) = i) (hx : lv.find? (fun q => q.1 == i) = some (i, .int x)) (k : x_W G M rm Qf ex n h cells slots lv (.int x :: st) (pc + 1)) : x_W G M rm Qf ex n h cells slots lv st pc :=
  fun p e s m args below meth c F H locs ls hH hS hl => lv_iload_n F.1 F.2.1 hd hi (x_lv_at hl hx) (k p e s m args below meth c F H locs ls hH hS hl)
theorem x_iload {i : Nat} {x : Int32} (hd : decode M.2.1 pc = .ok (.iload i, 2)) (hx : lv.find? (fun q => q.1 == i) = some (i, .int x)) (k : x_W G M rm Qf ex n h cells slots lv (.int x :: st) (pc + 2)) : x_W G M rm Qf ex n h cells slots lv st pc :=
  fun p e s m args below meth c F H locs ls hH hS hl => lv_iload F.1 F.2.1 hd (x_lv_at hl hx) (k p e s m args below meth c F H locs ls hH hS hl)
theorem x_lload_n {q : Fin 4} {i : Nat} {x : Int64} (hd : decode M.2.1 pc = .ok (.lload_n q, 1)) (hi : (q : Nat) = i) (hx : lv.find? (fun q => q.1 == i) = some (i, .long x)) (k : x_W G M rm Qf ex n h cells slots lv (.long x :: st) (pc + 1)) : x_W G M rm Qf ex n h cells slots lv st pc :=
  fun p e s m args below meth c F H locs ls hH hS hl => lv_lload_n F.1 F.2.1 hd hi (x_lv_at hl hx) (k p e s m args below meth c F H locs ls hH hS hl)
theorem x_lload {i : Nat} {x : Int64} (hd : decode M.2.1 pc = .ok (.lload i, 2)) (hx : lv.find? (fun q => q.1 == i) = some (i, .long x)) (k : x_W G M rm Qf ex n h cells slots lv (.long x :: st) (pc + 2)) : x_W G M rm Qf ex n h cells slots lv st pc :=
  fun p e s m args below meth c F H locs ls hH hS hl => lv_lload F.1 F.2.1 hd (x_lv_at hl hx) (k p e s m args below meth c F H locs ls hH hS hl)
theorem x_aload_n {q : Fin 4} {i : Nat} {x : Nat} (hd : decode M.2.1 pc = .ok (.aload_n q, 1)) (hi : (q : Nat) = i) (hx : lv.find? (fun q => q.1 == i) = some (i, .ref x)) (k : x_W G M rm Qf ex n h cells slots lv (.ref x :: st) (pc + 1)) : x_W G M rm Qf ex n h cells slots lv st pc :=
  fun p e s m args below meth c F H locs ls hH hS hl => lv_aload_n F.1 F.2.1 hd hi (x_lv_at hl hx) (k p e s m args below meth c F H locs ls hH hS hl)
theorem x_aload {i : Nat} {x : Nat} (hd : decode M.2.1 pc = .ok (.aload i, 2)) (hx : lv.find? (fun q => q.1 == i) = some (i, .ref x)) (k : x_W G M rm Qf ex n h cells slots lv (.ref x :: st) (pc + 2)) : x_W G M rm Qf ex n h cells slots lv st pc :=
  fun p e s m args below meth c F H locs ls hH hS hl => lv_aload F.1 F.2.1 hd (x_lv_at hl hx) (k p e s m args below meth c F H locs ls hH hS hl)
theorem x_istore_n {q : Fin 4} {i : Nat} {x : Int32} {lv2 : List (Nat × Value)} (hd : decode M.2.1 pc = .ok (.istore_n q, 1)) (hi : (q : Nat) = i) (hn : i < M.2.2.1) (hq : x_put lv i (.int x) = lv2) (k : x_W G M rm Qf ex n h cells slots lv2 st (pc + 1)) : x_W G M rm Qf ex n h cells slots lv (.int x :: st) pc :=
  fun p e s m args below meth c F H locs ls hH hS hl => lv_istore_n F.1 F.2.1 hd hi hl hn rfl (fun ls hl => k p e s m args below meth c F H locs ls hH hS (x_put_has hl hq rfl))
theorem x_istore {i : Nat} {x : Int32} {lv2 : List (Nat × Value)} (hd : decode M.2.1 pc = .ok (.istore i, 2)) (hn : i < M.2.2.1) (hq : x_put lv i (.int x) = lv2) (k : x_W G M rm Qf ex n h cells slots lv2 st (pc + 2)) : x_W G M rm Qf ex n h cells slots lv (.int x :: st) pc :=
  fun p e s m args below meth c F H locs ls hH hS hl => lv_istore F.1 F.2.1 hd hl hn rfl (fun ls hl => k p e s m args below meth c F H locs ls hH hS (x_put_has hl hq rfl))
theorem x_astore_n {q : Fin 4} {i : Nat} {x : Nat} {lv2 : List (Nat × Value)} (hd : decode M.2.1 pc = .ok (.astore_n q, 1)) (hi : (q : Nat) = i) (hn : i < M.2.2.1) (hq : x_put lv i (.ref x) = lv2) (k : x_W G M rm Qf ex n h cells slots lv2 st (pc + 1)) : x_W G M rm Qf ex n h cells slots lv (.ref x :: st) pc :=
  fun p e s m args below meth c F H locs ls hH hS hl => lv_astore_n F.1 F.2.1 hd hi hl hn rfl (fun ls hl => k p e s m args below meth c F H locs ls hH hS (x_put_has hl hq rfl))
theorem x_astore {i : Nat} {x : Nat} {lv2 : List (Nat × Value)} (hd : decode M.2.1 pc = .ok (.astore i, 2)) (hn : i < M.2.2.1) (hq : x_put lv i (.ref x) = lv2) (k : x_W G M rm Qf ex n h cells slots lv2 st (pc + 2)) : x_W G M rm Qf ex n h cells slots lv (.ref x :: st) pc :=
  fun p e s m args below meth c F H locs ls hH hS hl => lv_astore F.1 F.2.1 hd hl hn rfl (fun ls hl => k p e s m args below meth c F H locs ls hH hS (x_put_has hl hq rfl))
theorem x_lstore_n {q : Fin 4} {i : Nat} {x : Int64} {lv2 : List (Nat × Value)} (hd : decode M.2.1 pc = .ok (.lstore_n q, 1)) (hi : (q : Nat) = i) (hn : i + 1 < M.2.2.1) (hq : x_putL lv i (.long x) = lv2) (k : x_W G M rm Qf ex n h cells slots lv2 st (pc + 1)) : x_W G M rm Qf ex n h cells slots lv (.long x :: st) pc :=
  fun p e s m args below meth c F H locs ls hH hS hl => lv_lstore_n F.1 F.2.1 hd hi hl hn rfl (fun ls hl => k p e s m args below meth c F H locs ls hH hS (x_putL_has hl hq rfl))
theorem x_lstore {i : Nat} {x : Int64} {lv2 : List (Nat × Value)} (hd : decode M.2.1 pc = .ok (.lstore i, 2)) (hn : i + 1 < M.2.2.1) (hq : x_putL lv i (.long x) = lv2) (k : x_W G M rm Qf ex n h cells slots lv2 st (pc + 2)) : x_W G M rm Qf ex n h cells slots lv (.long x :: st) pc :=
  fun p e s m args below meth c F H locs ls hH hS hl => lv_lstore F.1 F.2.1 hd hl hn rfl (fun ls hl => k p e s m args below meth c F H locs ls hH hS (x_putL_has hl hq rfl))
theorem x_iadd {x y : Int32} (hd : decode M.2.1 pc = .ok (.iadd, 1)) (k : x_W G M rm Qf ex n h cells slots lv (.int (x + y) :: st) (pc + 1)) : x_W G M rm Qf ex n h cells slots lv (.int y :: .int x :: st) pc :=
  fun p e s m args below meth c F H locs ls hH hS hl => lv_iadd F.1 F.2.1 hd (k p e s m args below meth c F H locs ls hH hS hl)
theorem x_isub {x y : Int32} (hd : decode M.2.1 pc = .ok (.isub, 1)) (k : x_W G M rm Qf ex n h cells slots lv (.int (x - y) :: st) (pc + 1)) : x_W G M rm Qf ex n h cells slots lv (.int y :: .int x :: st) pc :=
  fun p e s m args below meth c F H locs ls hH hS hl => lv_isub F.1 F.2.1 hd (k p e s m args below meth c F H locs ls hH hS hl)
theorem x_imul {x y : Int32} (hd : decode M.2.1 pc = .ok (.imul, 1)) (k : x_W G M rm Qf ex n h cells slots lv (.int (x * y) :: st) (pc + 1)) : x_W G M rm Qf ex n h cells slots lv (.int y :: .int x :: st) pc :=
  fun p e s m args below meth c F H locs ls hH hS hl => lv_imul F.1 F.2.1 hd (k p e s m args below meth c F H locs ls hH hS hl)
theorem x_iand {x y : Int32} (hd : decode M.2.1 pc = .ok (.iand, 1)) (k : x_W G M rm Qf ex n h cells slots lv (.int (x &&& y) :: st) (pc + 1)) : x_W G M rm Qf ex n h cells slots lv (.int y :: .int x :: st) pc :=
  fun p e s m args below meth c F H locs ls hH hS hl => lv_iand F.1 F.2.1 hd (k p e s m args below meth c F H locs ls hH hS hl)
theorem x_ior {x y : Int32} (hd : decode M.2.1 pc = .ok (.ior, 1)) (k : x_W G M rm Qf ex n h cells slots lv (.int (x ||| y) :: st) (pc + 1)) : x_W G M rm Qf ex n h cells slots lv (.int y :: .int x :: st) pc :=
  fun p e s m args below meth c F H locs ls hH hS hl => lv_ior F.1 F.2.1 hd (k p e s m args below meth c F H locs ls hH hS hl)
theorem x_ixor {x y : Int32} (hd : decode M.2.1 pc = .ok (.ixor, 1)) (k : x_W G M rm Qf ex n h cells slots lv (.int (x ^^^ y) :: st) (pc + 1)) : x_W G M rm Qf ex n h cells slots lv (.int y :: .int x :: st) pc :=
  fun p e s m args below meth c F H locs ls hH hS hl => lv_ixor F.1 F.2.1 hd (k p e s m args below meth c F H locs ls hH hS hl)
theorem x_ishl {x y : Int32} (hd : decode M.2.1 pc = .ok (.ishl, 1)) (k : x_W G M rm Qf ex n h cells slots lv (.int (x <<< (y &&& 31)) :: st) (pc + 1)) : x_W G M rm Qf ex n h cells slots lv (.int y :: .int x :: st) pc :=
  fun p e s m args below meth c F H locs ls hH hS hl => lv_ishl F.1 F.2.1 hd (k p e s m args below meth c F H locs ls hH hS hl)
theorem x_ishr {x y : Int32} (hd : decode M.2.1 pc = .ok (.ishr, 1)) (k : x_W G M rm Qf ex n h cells slots lv (.int (x >>> (y &&& 31)) :: st) (pc + 1)) : x_W G M rm Qf ex n h cells slots lv (.int y :: .int x :: st) pc :=
  fun p e s m args below meth c F H locs ls hH hS hl => lv_ishr F.1 F.2.1 hd (k p e s m args below meth c F H locs ls hH hS hl)
theorem x_idiv {x y : Int32} (hd : decode M.2.1 pc = .ok (.idiv, 1)) (hne : ¬ y = 0) (k : x_W G M rm Qf ex n h cells slots lv (.int (x / y) :: st) (pc + 1)) : x_W G M rm Qf ex n h cells slots lv (.int y :: .int x :: st) pc :=
  fun p e s m args below meth c F H locs ls hH hS hl => lv_idiv F.1 F.2.1 hd hne (k p e s m args below meth c F H locs ls hH hS hl)
theorem x_irem {x y : Int32} (hd : decode M.2.1 pc = .ok (.irem, 1)) (hne : ¬ y = 0) (k : x_W G M rm Qf ex n h cells slots lv (.int (x - x / y * y) :: st) (pc + 1)) : x_W G M rm Qf ex n h cells slots lv (.int y :: .int x :: st) pc :=
  fun p e s m args below meth c F H locs ls hH hS hl => lv_irem F.1 F.2.1 hd hne (k p e s m args below meth c F H locs ls hH hS hl)
theorem x_ladd {x y : Int64} (hd : decode M.2.1 pc = .ok (.ladd, 1)) (k : x_W G M rm Qf ex n h cells slots lv (.long (x + y) :: st) (pc + 1)) : x_W G M rm Qf ex n h cells slots lv (.long y :: .long x :: st) pc :=
  fun p e s m args below meth c F H locs ls hH hS hl => lv_ladd F.1 F.2.1 hd (k p e s m args below meth c F H locs ls hH hS hl)
theorem x_lsub {x y : Int64} (hd : decode M.2.1 pc = .ok (.lsub, 1)) (k : x_W G M rm Qf ex n h cells slots lv (.long (x - y) :: st) (pc + 1)) : x_W G M rm Qf ex n h cells slots lv (.long y :: .long x :: st) pc :=
  fun p e s m args below meth c F H locs ls hH hS hl => lv_lsub F.1 F.2.1 hd (k p e s m args below meth c F H locs ls hH hS hl)
theorem x_lmul {x y : Int64} (hd : decode M.2.1 pc = .ok (.lmul, 1)) (k : x_W G M rm Qf ex n h cells slots lv (.long (x * y) :: st) (pc + 1)) : x_W G M rm Qf ex n h cells slots lv (.long y :: .long x :: st) pc :=
  fun p e s m args below meth c F H locs ls hH hS hl => lv_lmul F.1 F.2.1 hd (k p e s m args below meth c F H locs ls hH hS hl)
theorem x_land {x y : Int64} (hd : decode M.2.1 pc = .ok (.land, 1)) (k : x_W G M rm Qf ex n h cells slots lv (.long (x &&& y) :: st) (pc + 1)) : x_W G M rm Qf ex n h cells slots lv (.long y :: .long x :: st) pc :=
  fun p e s m args below meth c F H locs ls hH hS hl => lv_land F.1 F.2.1 hd (k p e s m args below meth c F H locs ls hH hS hl)
theorem x_lor {x y : Int64} (hd : decode M.2.1 pc = .ok (.lor, 1)) (k : x_W G M rm Qf ex n h cells slots lv (.long (x ||| y) :: st) (pc + 1)) : x_W G M rm Qf ex n h cells slots lv (.long y :: .long x :: st) pc :=
  fun p e s m args below meth c F H locs ls hH hS hl => lv_lor F.1 F.2.1 hd (k p e s m args below meth c F H locs ls hH hS hl)
theorem x_lxor {x y : Int64} (hd : decode M.2.1 pc = .ok (.lxor, 1)) (k : x_W G M rm Qf ex n h cells slots lv (.long (x ^^^ y) :: st) (pc + 1)) : x_W G M rm Qf ex n h cells slots lv (.long y :: .long x :: st) pc :=
  fun p e s m args below meth c F H locs ls hH hS hl => lv_lxor F.1 F.2.1 hd (k p e s m args below meth c F H locs ls hH hS hl)
theorem x_ineg {x : Int32} (hd : decode M.2.1 pc = .ok (.ineg, 1)) (k : x_W G M rm Qf ex n h cells slots lv (.int (-x) :: st) (pc + 1)) : x_W G M rm Qf ex n h cells slots lv (.int x :: st) pc :=
  fun p e s m args below meth c F H locs ls hH hS hl => lv_ineg F.1 F.2.1 hd (k p e s m args below meth c F H locs ls hH hS hl)
theorem x_lneg {x : Int64} (hd : decode M.2.1 pc = .ok (.lneg, 1)) (k : x_W G M rm Qf ex n h cells slots lv (.long (-x) :: st) (pc + 1)) : x_W G M rm Qf ex n h cells slots lv (.long x :: st) pc :=
  fun p e s m args below meth c F H locs ls hH hS hl => lv_lneg F.1 F.2.1 hd (k p e s m args below meth c F H locs ls hH hS hl)
theorem x_lcmp {x y : Int64} (hd : decode M.2.1 pc = .ok (.lcmp, 1)) (k : x_W G M rm Qf ex n h cells slots lv (.int (lg_cmp x y) :: st) (pc + 1)) : x_W G M rm Qf ex n h cells slots lv (.long y :: .long x :: st) pc :=
  fun p e s m args below meth c F H locs ls hH hS hl => W.lcmp F.1 F.2.1 hd (k p e s m args below meth c F H locs ls hH hS hl)
theorem x_i2l {x : Int32} (hd : decode M.2.1 pc = .ok (.i2l, 1)) (k : x_W G M rm Qf ex n h cells slots lv (.long (x.toInt64) :: st) (pc + 1)) : x_W G M rm Qf ex n h cells slots lv (.int x :: st) pc :=
  fun p e s m args below meth c F H locs ls hH hS hl => lv_i2l F.1 F.2.1 hd rfl (k p e s m args below meth c F H locs ls hH hS hl)
theorem x_i2b {x : Int32} (hd : decode M.2.1 pc = .ok (.i2b, 1)) (k : x_W G M rm Qf ex n h cells slots lv (.int (x.toInt8.toInt32) :: st) (pc + 1)) : x_W G M rm Qf ex n h cells slots lv (.int x :: st) pc :=
  fun p e s m args below meth c F H locs ls hH hS hl => lv_i2b F.1 F.2.1 hd rfl (k p e s m args below meth c F H locs ls hH hS hl)
theorem x_i2s {x : Int32} (hd : decode M.2.1 pc = .ok (.i2s, 1)) (k : x_W G M rm Qf ex n h cells slots lv (.int (x.toInt16.toInt32) :: st) (pc + 1)) : x_W G M rm Qf ex n h cells slots lv (.int x :: st) pc :=
  fun p e s m args below meth c F H locs ls hH hS hl => lv_i2s F.1 F.2.1 hd rfl (k p e s m args below meth c F H locs ls hH hS hl)
theorem x_i2c {x : Int32} (hd : decode M.2.1 pc = .ok (.i2c, 1)) (k : x_W G M rm Qf ex n h cells slots lv (.int ((x.toUInt32 % 65536).toInt32) :: st) (pc + 1)) : x_W G M rm Qf ex n h cells slots lv (.int x :: st) pc :=
  fun p e s m args below meth c F H locs ls hH hS hl => lv_i2c F.1 F.2.1 hd rfl (k p e s m args below meth c F H locs ls hH hS hl)
theorem x_l2i {x : Int64} (hd : decode M.2.1 pc = .ok (.l2i, 1)) (k : x_W G M rm Qf ex n h cells slots lv (.int x.toInt32 :: st) (pc + 1)) : x_W G M rm Qf ex n h cells slots lv (.long x :: st) pc :=
  fun p e s m args below meth c F H locs ls hH hS hl => lv_l2i F.1 F.2.1 hd rfl (k p e s m args below meth c F H locs ls hH hS hl)
theorem x_iushr {x y : Int32} (hd : decode M.2.1 pc = .ok (.iushr, 1)) (k : x_W G M rm Qf ex n h cells slots lv (.int ((x.toUInt32 >>> (y.toUInt32 &&& Int32.toUInt32 31)).toInt32) :: st) (pc + 1)) : x_W G M rm Qf ex n h cells slots lv (.int y :: .int x :: st) pc :=
  fun p e s m args below meth c F H locs ls hH hS hl => lv_iushr F.1 F.2.1 hd rfl (k p e s m args below meth c F H locs ls hH hS hl)
theorem x_lushr {x : Int64} {y : Int32} (hd : decode M.2.1 pc = .ok (.lushr, 1)) (k : x_W G M rm Qf ex n h cells slots lv (.long ((x.toUInt64 >>> (y.toInt64.toUInt64 &&& Int64.toUInt64 63)).toInt64) :: st) (pc + 1)) : x_W G M rm Qf ex n h cells slots lv (.int y :: .long x :: st) pc :=
  fun p e s m args below meth c F H locs ls hH hS hl => lv_lushr F.1 F.2.1 hd rfl (k p e s m args below meth c F H locs ls hH hS hl)
theorem x_lshl {x : Int64} {y : Int32} (hd : decode M.2.1 pc = .ok (.lshl, 1)) (k : x_W G M rm Qf ex n h cells slots lv (.long (x <<< (y.toInt64 &&& 63)) :: st) (pc + 1)) : x_W G M rm Qf ex n h cells slots lv (.int y :: .long x :: st) pc :=
  fun p e s m args below meth c F H locs ls hH hS hl => lv_lshl F.1 F.2.1 hd rfl (k p e s m args below meth c F H locs ls hH hS hl)
theorem x_lshr {x : Int64} {y : Int32} (hd : decode M.2.1 pc = .ok (.lshr, 1)) (k : x_W G M rm Qf ex n h cells slots lv (.long (x >>> (y.toInt64 &&& 63)) :: st) (pc + 1)) : x_W G M rm Qf ex n h cells slots lv (.int y :: .long x :: st) pc :=
  fun p e s m args below meth c F H locs ls hH hS hl => lv_lshr F.1 F.2.1 hd rfl (k p e s m args below meth c F H locs ls hH hS hl)
theorem x_dup {va : Value} (hd : decode M.2.1 pc = .ok (.dup, 1)) (h1 : va.category = 1) (k : x_W G M rm Qf ex n h cells slots lv (va :: va :: st) (pc + 1)) : x_W G M rm Qf ex n h cells slots lv (va :: st) pc :=
  fun p e s m args below meth c F H locs ls hH hS hl => lv_dup F.1 F.2.1 hd (x_cat.trans h1) (k p e s m args below meth c F H locs ls hH hS hl)
theorem x_pop {va : Value} (hd : decode M.2.1 pc = .ok (.pop, 1)) (h1 : va.category = 1) (k : x_W G M rm Qf ex n h cells slots lv st (pc + 1)) : x_W G M rm Qf ex n h cells slots lv (va :: st) pc :=
  fun p e s m args below meth c F H locs ls hH hS hl => lv_pop F.1 F.2.1 hd (x_cat.trans h1) (k p e s m args below meth c F H locs ls hH hS hl)
theorem x_dup_x1 {va vb : Value} (hd : decode M.2.1 pc = .ok (.dup_x1, 1)) (h1 : va.category = 1) (h2 : vb.category = 1) (k : x_W G M rm Qf ex n h cells slots lv (va :: vb :: va :: st) (pc + 1)) : x_W G M rm Qf ex n h cells slots lv (va :: vb :: st) pc :=
  fun p e s m args below meth c F H locs ls hH hS hl => lv_dup_x1 F.1 F.2.1 hd (x_cat.trans h1) (x_cat.trans h2) (k p e s m args below meth c F H locs ls hH hS hl)
theorem x_dup2 {va vb : Value} (hd : decode M.2.1 pc = .ok (.dup2, 1)) (h1 : va.category = 1) (h2 : vb.category = 1) (k : x_W G M rm Qf ex n h cells slots lv (va :: vb :: va :: vb :: st) (pc + 1)) : x_W G M rm Qf ex n h cells slots lv (va :: vb :: st) pc :=
  fun p e s m args below meth c F H locs ls hH hS hl => lv_dup2_11 F.1 F.2.1 hd (x_cat.trans h1) (x_cat.trans h2) (k p e s m args below meth c F H locs ls hH hS hl)
theorem x_dup_x2 {va vb vd : Value} (hd : decode M.2.1 pc = .ok (.dup_x2, 1)) (h1 : va.category = 1) (h2 : vb.category = 1) (h3 : vd.category = 1) (k : x_W G M rm Qf ex n h cells slots lv (va :: vb :: vd :: va :: st) (pc + 1)) : x_W G M rm Qf ex n h cells slots lv (va :: vb :: vd :: st) pc :=
  fun p e s m args below meth c F H locs ls hH hS hl => lv_dup_x2 F.1 F.2.1 hd (x_cat.trans h1) (x_cat.trans h2) (x_cat.trans h3) (k p e s m args below meth c F H locs ls hH hS hl)
theorem x_goto {off : Int} {tgt : Nat} (hd : decode M.2.1 pc = .ok (.goto off, 3)) (ht : (pc : Int) + off = (tgt : Int)) (k : x_W G M rm Qf ex n h cells slots lv st tgt) : x_W G M rm Qf ex n h cells slots lv st pc :=
  fun p e s m args below meth c F H locs ls hH hS hl => lv_goto F.1 F.2.1 hd ht (k p e s m args below meth c F H locs ls hH hS hl)
theorem x_if_eq {x : Int32} {off : Int} {tgt : Nat} (hd : decode M.2.1 pc = .ok (.ifCond .eq off, 3)) (ht : (pc : Int) + off = (tgt : Int)) (kt : x = 0 → x_W G M rm Qf ex n h cells slots lv st tgt) (kf : ¬ x = 0 → x_W G M rm Qf ex n h cells slots lv st (pc + 3)) : x_W G M rm Qf ex n h cells slots lv (.int x :: st) pc :=
  fun p e s m args below meth c F H locs ls hH hS hl => lv_if_eq F.1 F.2.1 hd ht (fun z => kt z p e s m args below meth c F H locs ls hH hS hl) (fun z => kf z p e s m args below meth c F H locs ls hH hS hl)
theorem x_icmp_eq {x y : Int32} {off : Int} {tgt : Nat} (hd : decode M.2.1 pc = .ok (.if_icmp .eq off, 3)) (ht : (pc : Int) + off = (tgt : Int)) (kt : x = y → x_W G M rm Qf ex n h cells slots lv st tgt) (kf : ¬ x = y → x_W G M rm Qf ex n h cells slots lv st (pc + 3)) : x_W G M rm Qf ex n h cells slots lv (.int y :: .int x :: st) pc :=
  fun p e s m args below meth c F H locs ls hH hS hl => lv_icmp_eq F.1 F.2.1 hd ht (fun z => kt z p e s m args below meth c F H locs ls hH hS hl) (fun z => kf z p e s m args below meth c F H locs ls hH hS hl)
theorem x_if_ne {x : Int32} {off : Int} {tgt : Nat} (hd : decode M.2.1 pc = .ok (.ifCond .ne off, 3)) (ht : (pc : Int) + off = (tgt : Int)) (kt : ¬ x = 0 → x_W G M rm Qf ex n h cells slots lv st tgt) (kf : x = 0 → x_W G M rm Qf ex n h cells slots lv st (pc + 3)) : x_W G M rm Qf ex n h cells slots lv (.int x :: st) pc :=
  fun p e s m args below meth c F H locs ls hH hS hl => lv_if_ne F.1 F.2.1 hd ht (fun z => kt z p e s m args below meth c F H locs ls hH hS hl) (fun z => kf z p e s m args below meth c F H locs ls hH hS hl)
theorem x_icmp_ne {x y : Int32} {off : Int} {tgt : Nat} (hd : decode M.2.1 pc = .ok (.if_icmp .ne off, 3)) (ht : (pc : Int) + off = (tgt : Int)) (kt : ¬ x = y → x_W G M rm Qf ex n h cells slots lv st tgt) (kf : x = y → x_W G M rm Qf ex n h cells slots lv st (pc + 3)) : x_W G M rm Qf ex n h cells slots lv (.int y :: .int x :: st) pc :=
  fun p e s m args below meth c F H locs ls hH hS hl => lv_icmp_ne F.1 F.2.1 hd ht (fun z => kt z p e s m args below meth c F H locs ls hH hS hl) (fun z => kf z p e s m args below meth c F H locs ls hH hS hl)
theorem x_if_lt {x : Int32} {off : Int} {tgt : Nat} (hd : decode M.2.1 pc = .ok (.ifCond .lt off, 3)) (ht : (pc : Int) + off = (tgt : Int)) (kt : x < 0 → x_W G M rm Qf ex n h cells slots lv st tgt) (kf : ¬ x < 0 → x_W G M rm Qf ex n h cells slots lv st (pc + 3)) : x_W G M rm Qf ex n h cells slots lv (.int x :: st) pc :=
  fun p e s m args below meth c F H locs ls hH hS hl => lv_if_lt F.1 F.2.1 hd ht (fun z => kt z p e s m args below meth c F H locs ls hH hS hl) (fun z => kf z p e s m args below meth c F H locs ls hH hS hl)
theorem x_icmp_lt {x y : Int32} {off : Int} {tgt : Nat} (hd : decode M.2.1 pc = .ok (.if_icmp .lt off, 3)) (ht : (pc : Int) + off = (tgt : Int)) (kt : x < y → x_W G M rm Qf ex n h cells slots lv st tgt) (kf : ¬ x < y → x_W G M rm Qf ex n h cells slots lv st (pc + 3)) : x_W G M rm Qf ex n h cells slots lv (.int y :: .int x :: st) pc :=
  fun p e s m args below meth c F H locs ls hH hS hl => lv_icmp_lt F.1 F.2.1 hd ht (fun z => kt z p e s m args below meth c F H locs ls hH hS hl) (fun z => kf z p e s m args below meth c F H locs ls hH hS hl)
theorem x_if_ge {x : Int32} {off : Int} {tgt : Nat} (hd : decode M.2.1 pc = .ok (.ifCond .ge off, 3)) (ht : (pc : Int) + off = (tgt : Int)) (kt : 0 ≤ x → x_W G M rm Qf ex n h cells slots lv st tgt) (kf : ¬ 0 ≤ x → x_W G M rm Qf ex n h cells slots lv st (pc + 3)) : x_W G M rm Qf ex n h cells slots lv (.int x :: st) pc :=
  fun p e s m args below meth c F H locs ls hH hS hl => lv_if_ge F.1 F.2.1 hd ht (fun z => kt z p e s m args below meth c F H locs ls hH hS hl) (fun z => kf z p e s m args below meth c F H locs ls hH hS hl)
theorem x_icmp_ge {x y : Int32} {off : Int} {tgt : Nat} (hd : decode M.2.1 pc = .ok (.if_icmp .ge off, 3)) (ht : (pc : Int) + off = (tgt : Int)) (kt : y ≤ x → x_W G M rm Qf ex n h cells slots lv st tgt) (kf : ¬ y ≤ x → x_W G M rm Qf ex n h cells slots lv st (pc + 3)) : x_W G M rm Qf ex n h cells slots lv (.int y :: .int x :: st) pc :=
  fun p e s m args below meth c F H locs ls hH hS hl => lv_icmp_ge F.1 F.2.1 hd ht (fun z => kt z p e s m args below meth c F H locs ls hH hS hl) (fun z => kf z p e s m args below meth c F H locs ls hH hS hl)
theorem x_if_gt {x : Int32} {off : Int} {tgt : Nat} (hd : decode M.2.1 pc = .ok (.ifCond .gt off, 3)) (ht : (pc : Int) + off = (tgt : Int)) (kt : 0 < x → x_W G M rm Qf ex n h cells slots lv st tgt) (kf : ¬ 0 < x → x_W G M rm Qf ex n h cells slots lv st (pc + 3)) : x_W G M rm Qf ex n h cells slots lv (.int x :: st) pc :=
  fun p e s m args below meth c F H locs ls hH hS hl => lv_if_gt F.1 F.2.1 hd ht (fun z => kt z p e s m args below meth c F H locs ls hH hS hl) (fun z => kf z p e s m args below meth c F H locs ls hH hS hl)
theorem x_icmp_gt {x y : Int32} {off : Int} {tgt : Nat} (hd : decode M.2.1 pc = .ok (.if_icmp .gt off, 3)) (ht : (pc : Int) + off = (tgt : Int)) (kt : y < x → x_W G M rm Qf ex n h cells slots lv st tgt) (kf : ¬ y < x → x_W G M rm Qf ex n h cells slots lv st (pc + 3)) : x_W G M rm Qf ex n h cells slots lv (.int y :: .int x :: st) pc :=
  fun p e s m args below meth c F H locs ls hH hS hl => lv_icmp_gt F.1 F.2.1 hd ht (fun z => kt z p e s m args below meth c F H locs ls hH hS hl) (fun z => kf z p e s m args below meth c F H locs ls hH hS hl)
theorem x_if_le {x : Int32} {off : Int} {tgt : Nat} (hd : decode M.2.1 pc = .ok (.ifCond .le off, 3)) (ht : (pc : Int) + off = (tgt : Int)) (kt : x ≤ 0 → x_W G M rm Qf ex n h cells slots lv st tgt) (kf : ¬ x ≤ 0 → x_W G M rm Qf ex n h cells slots lv st (pc + 3)) : x_W G M rm Qf ex n h cells slots lv (.int x :: st) pc :=
  fun p e s m args below meth c F H locs ls hH hS hl => lv_if_le F.1 F.2.1 hd ht (fun z => kt z p e s m args below meth c F H locs ls hH hS hl) (fun z => kf z p e s m args below meth c F H locs ls hH hS hl)
theorem x_icmp_le {x y : Int32} {off : Int} {tgt : Nat} (hd : decode M.2.1 pc = .ok (.if_icmp .le off, 3)) (ht : (pc : Int) + off = (tgt : Int)) (kt : x ≤ y → x_W G M rm Qf ex n h cells slots lv st tgt) (kf : ¬ x ≤ y → x_W G M rm Qf ex n h cells slots lv st (pc + 3)) : x_W G M rm Qf ex n h cells slots lv (.int y :: .int x :: st) pc :=
  fun p e s m args below meth c F H locs ls hH hS hl => lv_icmp_le F.1 F.2.1 hd ht (fun z => kt z p e s m args below meth c F H locs ls hH hS hl) (fun z => kf z p e s m args below meth c F H locs ls hH hS hl)
theorem x_acmp_eq {a b : Nat} {off : Int} {tgt : Nat} (hd : decode M.2.1 pc = .ok (.if_acmp .eq off, 3)) (ht : (pc : Int) + off = (tgt : Int)) (hj : x_ad G a = x_ad G b → a = b) (kt : a = b → x_W G M rm Qf ex n h cells slots lv st tgt) (kf : ¬ a = b → x_W G M rm Qf ex n h cells slots lv st (pc + 3)) : x_W G M rm Qf ex n h cells slots lv (.ref b :: .ref a :: st) pc :=
  fun p e s m args below meth c F H locs ls hH hS hl => lv_acmp_eq (rx := some (x_ad G a)) (ry := some (x_ad G b)) F.1 F.2.1 hd ht (fun z => kt (hj (Option.some.inj z)) p e s m args below meth c F H locs ls hH hS hl) (fun z => kf (fun w => z (by rw [w])) p e s m args below meth c F H locs ls hH hS hl)
theorem x_acmp_ne {a b : Nat} {off : Int} {tgt : Nat} (hd : decode M.2.1 pc = .ok (.if_acmp .ne off, 3)) (ht : (pc : Int) + off = (tgt : Int)) (hj : x_ad G a = x_ad G b → a = b) (kt : ¬ a = b → x_W G M rm Qf ex n h cells slots lv st tgt) (kf : a = b → x_W G M rm Qf ex n h cells slots lv st (pc + 3)) : x_W G M rm Qf ex n h cells slots lv (.ref b :: .ref a :: st) pc :=
  fun p e s m args below meth c F H locs ls hH hS hl => lv_acmp_ne (rx := some (x_ad G a)) (ry := some (x_ad G b)) F.1 F.2.1 hd ht (fun z => kt (fun w => z (by rw [w])) p e s m args below meth c F H locs ls hH hS hl) (fun z => kf (hj (Option.some.inj z)) p e s m args below meth c F H locs ls hH hS hl)
theorem x_iinc {i : Nat} {z : Int} {x v : Int32} {lv2 : List (Nat × Value)} (hd : decode M.2.1 pc = .ok (.iinc i z, 3)) (hx : lv.find? (fun q => q.1 == i) = some (i, .int x)) (hv : x + Int32.ofInt z = v) (hn : i < M.2.2.1) (hq : x_put lv i (.int v) = lv2) (k : x_W G M rm Qf ex n h cells slots lv2 st (pc + 3)) : x_W G M rm Qf ex n h cells slots lv st pc :=
  fun p e s m args below meth c F H locs ls hH hS hl => by
  obtain ⟨j, hj⟩ := List.getElem?_of_mem (List.mem_map.mpr ⟨(i, Value.int x), List.mem_of_find?_eq_some hx, rfl⟩ : ((i, x_v G (.int x)) : Nat × Value) ∈ x_lv G lv)
  exact lv_iinc F.1 F.2.1 hd hl hj hv hn rfl (fun ls hl => k p e s m args below meth c F H locs ls hH hS (x_put_has hl hq rfl))
end XR
end
section
/-! the rows of fields, arrays, ends -/
def x_fl (M : x_M) (index ci k : Nat) (C : String) (T : u_T) (N : Nat) : Prop := (∀ w ∈ u_ws C T N, w ∈ x_tsl) ∧ vwCl[ci]? = some (C, T, N) ∧ k < N ∧ Cond.fieldLink M.1.cls index (T k).1 (T k).2.1 (T k).2.2.1 ∈ x_tsl
def x_tb (T : u_T) (N : Nat) (t0 : Nat → FieldType) : Prop := (∀ k, k < N → parseFieldDescriptor (T k).2.2.1 = some (t0 k)) ∧ ∀ a, a < N → ∀ b, b < N → a ≠ b → (T a).2.1 ≠ (T b).2.1
theorem x_nar {G : x_G} {ty : FieldType} {v : Value} (h : narrow ty v = v) : narrow ty (x_v G v) = x_v G v := by
  cases v <;> first | exact h | (cases ty <;> rfl)
theorem x_fit {G : x_G} {ty : FieldType} {v : Value} (h : fits ty v = true) : fits ty (x_v G v) = true := by
  cases v <;> first | exact h | (cases ty <;> first | rfl | exact h)
section XH
variable {G : x_G} {M : x_M} {rm : Room} {Qf : List Frame → Array Value → State → State → Prop} {ex : Bool} {n : Nat} {h : x_h} {cells slots : Nat} {lv : List (Nat × Value)} {st : List Value} {pc : Nat}
theorem x_getf {index ci k : Nat} {C : String} {T : u_T} {N : Nat} {fs : List Value} {v : Value} {a : Nat} (hd : decode M.2.1 pc = .ok (.getfield index, 3)) (hf : x_fl M index ci k C T N) (ha : a < n) (hc : h a = .inr (ci, fs)) (hv : fs[k]? = some v)
    (kk : x_W G M rm Qf ex n h cells slots lv (v :: st) (pc + 3)) : x_W G M rm Qf ex n h cells slots lv (.ref a :: st) pc := by
  intro p e s m args below meth c F H locs ls hH hS hl
  obtain ⟨f1, f2, f3, f4, f5, f6, f7, f8, hts, hK⟩ := id F
  show W p _ e rm s m args below meth c H locs cells slots _ (F0 m pc ls (.ref (x_ad G a) :: x_st G st))
  rw [x_ad_new (Nat.lt_of_lt_of_le ha hH.1)]
  exact va_get (D := x_D G) f1 f2 hts hf.1 f6 hK.1 (hH.at ha hc) 0 (fs := fs.map (x_v G)) rfl hf.2.1 k hf.2.2.1 (hts _ hf.2.2.2) (fun _ z => z) (v := x_v G v) (by rw [List.getElem?_map, hv]; rfl) hd (kk p e s m args below meth c F H locs ls hH hS hl)
theorem x_putf {index ci k : Nat} {C : String} {T : u_T} {N : Nat} {t0 : Nat → FieldType} {fs : List Value} {v : Value} {a : Nat} (hd : decode M.2.1 pc = .ok (.putfield index, 3)) (hf : x_fl M index ci k C T N) (hb : x_tb T N t0) (hfin : (T k).2.2.2 = false) (ha : a < n) (hc : h a = .inr (ci, fs)) (hlen : k < fs.length) (hn : narrow (t0 k) v = v) (hfit : fits (t0 k) v = true)
    (kk : x_W G M rm Qf ex n (va_up h a (.inr (ci, fs.set k v))) cells slots lv st (pc + 3)) : x_W G M rm Qf ex n h cells slots lv (v :: .ref a :: st) pc := by
  intro p e s m args below meth c F H locs ls hH hS hl
  obtain ⟨f1, f2, f3, f4, f5, f6, f7, f8, hts, hK⟩ := id F
  show W p _ e rm s m args below meth c H locs cells slots _ (F0 m pc ls (x_v G v :: .ref (x_ad G a) :: x_st G st))
  rw [x_ad_new (Nat.lt_of_lt_of_le ha hH.1)]
  have hap := va_apart (own := M.1.cls) hts hf.1 t0 hb.1 hb.2 hK.1 hf.2.1
  obtain ⟨r, h1, cell, q1, q2, q3, q4⟩ := (hH.at ha hc) 0 _ rfl
  have hr : r = (C, T, N) := Option.some.inj (h1.symm.trans hf.2.1)
  subst hr
  obtain ⟨hS1, hfc, kC, hkC, hkind⟩ := hK.1.1 ci _ hf.2.1
  obtain ⟨cf, kf, fi, f, hi, hsl⟩ := hS1 k hf.2.2.1
  have hlay := hts _ (hf.1 _ (u_in_lay hf.2.2.1))
  unfold u_lay at hlay
  rw [if_neg (by rw [hfin]; decide)] at hlay
  have hst := (u_facts hfc hkC (u_lays hts hf.1 hf.2.2.1) hi).1
  have h6 := u_store hfc hkC hkind hlay hi (hb.1 k hf.2.2.1) (x_nar (G := G) hn) (x_fit (G := G) hfit)
  refine W.putK f1 f2 (f := f) ⟨f6, hts _ hf.2.2.2, ⟨_, _, _, hi⟩, hst⟩ (by rw [q2]; exact h6) q1 q3 (by rw [hsl]; exact k2_hasslot (q4 k hf.2.2.1)) rfl rfl hd fun H' e1 e2 e3 => ?_
  rw [hsl] at e1 ⊢
  refine kk p e s m args below meth c F H' _ ls (hH.upd e2 e3 ?_) (x_S.put hS e2 e3) hl
  refine ⟨_, hf.2.1, t_OB.to (V := updV (vp_V (fs.map (x_v G))) k (x_v G v)) ⟨_, e1, q2, q3, t_set q4 hap hf.2.2.1 _⟩ (fun j _ => ?_)⟩
  rw [vp_updV_set (by rw [List.length_map]; exact hlen)]
  show vp_V ((fs.map (x_v G)).set k (x_v G v)) j = vp_V ((fs.set k v).map (x_v G)) j
  rw [List.map_set]
/-- a final field, in the class's own constructor -/
theorem x_putF {index ci k : Nat} {C : String} {T : u_T} {N : Nat} {t0 : Nat → FieldType} {fs : List Value} {v : Value} {a : Nat} (hd : decode M.2.1 pc = .ok (.putfield index, 3)) (hf : x_fl M index ci k C T N) (hb : x_tb T N t0) (hfin : (T k).2.2.2 = true) (hin : M.1.name = "<init>") (hdecl : (T k).1 = M.1.cls) (ha : a < n) (hc : h a = .inr (ci, fs)) (hlen : k < fs.length) (hn : narrow (t0 k) v = v) (hfit : fits (t0 k) v = true)
    (kk : x_W G M rm Qf ex n (va_up h a (.inr (ci, fs.set k v))) cells slots lv st (pc + 3)) : x_W G M rm Qf ex n h cells slots lv (v :: .ref a :: st) pc := by
  intro p e s m args below meth c F H locs ls hH hS hl
  obtain ⟨f1, f2, f3, f4, f5, f6, f7, f8, hts, hK⟩ := id F
  show W p _ e rm s m args below meth c H locs cells slots _ (F0 m pc ls (x_v G v :: .ref (x_ad G a) :: x_st G st))
  rw [x_ad_new (Nat.lt_of_lt_of_le ha hH.1)]
  have hap := va_apart (own := M.1.cls) hts hf.1 t0 hb.1 hb.2 hK.1 hf.2.1
  obtain ⟨r, h1, cell, q1, q2, q3, q4⟩ := (hH.at ha hc) 0 _ rfl
  have hr : r = (C, T, N) := Option.some.inj (h1.symm.trans hf.2.1)
  subst hr
  obtain ⟨hS1, hfc, kC, hkC, hkind⟩ := hK.1.1 ci _ hf.2.1
  obtain ⟨cf, kf, fi, f, hi, hsl⟩ := hS1 k hf.2.2.1
  have hlay := hts _ (hf.1 _ (u_in_lay hf.2.2.1))
  unfold u_lay at hlay
  rw [if_pos hfin] at hlay
  have hst := (u_facts hfc hkC (u_lays hts hf.1 hf.2.2.1) hi).1
  have hcf : m.cls = cf := by
    obtain ⟨_, _, c', _, _, _, -, -, hf', -, -, -, hown2, -⟩ := Cond.laysFinal_spec hlay
    have e1 : c' = cf := by have := hi.symm.trans hf'; simp at this; exact this.1.symm
    rw [hdecl] at hown2
    rw [← e1]; exact Option.some.inj (f6.symm.trans hown2)
  have h6 := u_fits hfc hkC hkind (Or.inr hlay) hi (hb.1 k hf.2.2.1) (x_nar (G := G) hn) (x_fit (G := G) hfit)
  refine W.putFinK f1 f2 f6 (hts _ hf.2.2.2) hi hst hcf (f8.trans hin) (by rw [q2]; exact h6) q1 q3 (by rw [hsl]; exact k2_hasslot (q4 k hf.2.2.1)) rfl rfl hd fun H' e1 e2 e3 => ?_
  rw [hsl] at e1 ⊢
  refine kk p e s m args below meth c F H' _ ls (hH.upd e2 e3 ?_) (x_S.put hS e2 e3) hl
  refine ⟨_, hf.2.1, t_OB.to (V := updV (vp_V (fs.map (x_v G))) k (x_v G v)) ⟨_, e1, q2, q3, t_set q4 hap hf.2.2.1 _⟩ (fun j _ => ?_)⟩
  rw [vp_updV_set (by rw [List.length_map]; exact hlen)]
  show vp_V ((fs.map (x_v G)).set k (x_v G v)) j = vp_V ((fs.set k v).map (x_v G)) j
  rw [List.map_set]
theorem x_iald {t len a : Nat} {f : Nat → Int32} {i : Int32} (hd : decode M.2.1 pc = .ok (.iaload, 1)) (ht : x_tl[t]? = some .int) (ha : a < n) (hc : h a = .inl (t, len, .inl f)) (hin : vp_in i len)
    (kk : x_W G M rm Qf ex n h cells slots lv (.int (f i.toNatClampNeg) :: st) (pc + 1)) : x_W G M rm Qf ex n h cells slots lv (.int i :: .ref a :: st) pc := by
  intro p e s m args below meth c F H locs ls hH hS hl
  have hK := F.2.2.2.2.2.2.2.2.2
  show W p _ e rm s m args below meth c H locs cells slots _ (F0 m pc ls (.int i :: .ref (x_ad G a) :: x_st G st))
  rw [x_ad_new (Nat.lt_of_lt_of_le ha hH.1)]
  exact va_iald F.1 F.2.1 hK.1 (hH.at ha hc) 0 t rfl (x_ty_at ht) hin hd (kk p e s m args below meth c F H locs ls hH hS hl)
theorem x_bald {t len a : Nat} {f : Nat → Int32} {i : Int32} (hd : decode M.2.1 pc = .ok (.baload, 1)) (ht : x_tl[t]? = some .byte) (ha : a < n) (hc : h a = .inl (t, len, .inl f)) (hin : vp_in i len)
    (kk : x_W G M rm Qf ex n h cells slots lv (.int (f i.toNatClampNeg) :: st) (pc + 1)) : x_W G M rm Qf ex n h cells slots lv (.int i :: .ref a :: st) pc := by
  intro p e s m args below meth c F H locs ls hH hS hl
  have hK := F.2.2.2.2.2.2.2.2.2
  show W p _ e rm s m args below meth c H locs cells slots _ (F0 m pc ls (.int i :: .ref (x_ad G a) :: x_st G st))
  rw [x_ad_new (Nat.lt_of_lt_of_le ha hH.1)]
  exact va_bald F.1 F.2.1 hK.1 (hH.at ha hc) 0 t rfl (x_ty_at ht) hin hd (kk p e s m args below meth c F H locs ls hH hS hl)
theorem x_zald {t len a : Nat} {f : Nat → Int32} {i : Int32} (hd : decode M.2.1 pc = .ok (.baload, 1)) (ht : x_tl[t]? = some .boolean) (ha : a < n) (hc : h a = .inl (t, len, .inl f)) (hin : vp_in i len)
    (kk : x_W G M rm Qf ex n h cells slots lv (.int (f i.toNatClampNeg) :: st) (pc + 1)) : x_W G M rm Qf ex n h cells slots lv (.int i :: .ref a :: st) pc := by
  intro p e s m args below meth c F H locs ls hH hS hl
  have hK := F.2.2.2.2.2.2.2.2.2
  show W p _ e rm s m args below meth c H locs cells slots _ (F0 m pc ls (.int i :: .ref (x_ad G a) :: x_st G st))
  rw [x_ad_new (Nat.lt_of_lt_of_le ha hH.1)]
  exact va_zald F.1 F.2.1 hK.1 (hH.at ha hc) 0 t rfl (x_ty_at ht) hin hd (kk p e s m args below meth c F H locs ls hH hS hl)
theorem x_lald {t len a : Nat} {f : Nat → Int64} {i : Int32} (hd : decode M.2.1 pc = .ok (.laload, 1)) (ht : x_tl[t]? = some .long) (ha : a < n) (hc : h a = .inl (t, len, .inr (.inl f))) (hin : vp_in i len)
    (kk : x_W G M rm Qf ex n h cells slots lv (.long (f i.toNatClampNeg) :: st) (pc + 1)) : x_W G M rm Qf ex n h cells slots lv (.int i :: .ref a :: st) pc := by
  intro p e s m args below meth c F H locs ls hH hS hl
  have hK := F.2.2.2.2.2.2.2.2.2
  show W p _ e rm s m args below meth c H locs cells slots _ (F0 m pc ls (.int i :: .ref (x_ad G a) :: x_st G st))
  rw [x_ad_new (Nat.lt_of_lt_of_le ha hH.1)]
  exact va_lald F.1 F.2.1 hK.1 (hH.at ha hc) 0 t rfl (x_ty_at ht) hin hd (kk p e s m args below meth c F H locs ls hH hS hl)
theorem x_iast {t len a : Nat} {f : Nat → Int32} {i : Int32} {x : Int32} (hd : decode M.2.1 pc = .ok (.iastore, 1)) (ht : x_tl[t]? = some .int) (ha : a < n) (hc : h a = .inl (t, len, .inl f)) (hin : vp_in i len)
    (kk : x_W G M rm Qf ex n (va_up h a (.inl (t, len, .inl (upd f i.toNatClampNeg x)))) cells slots lv st (pc + 1)) : x_W G M rm Qf ex n h cells slots lv (.int x :: .int i :: .ref a :: st) pc := by
  intro p e s m args below meth c F H locs ls hH hS hl
  have hK := F.2.2.2.2.2.2.2.2.2
  show W p _ e rm s m args below meth c H locs cells slots _ (F0 m pc ls (.int x :: .int i :: .ref (x_ad G a) :: x_st G st))
  rw [x_ad_new (Nat.lt_of_lt_of_le ha hH.1)]
  refine W.iast F.1 F.2.1 ((hH.at ha hc) 0 _ rfl) ((hK.1.2 t _ (x_ty_at ht)).1 len (fun j => .int (f j))) (fun q => by cases q) (by show ¬ (i < 0 ∨ (arrV _ _ _).slots.size ≤ _); rw [arrV_size]; exact hin) rfl rfl hd fun H1 e1 z oq => ?_
  refine kk p e s m args below meth c F H1 _ ls (hH.upd z oq ?_) (x_S.put hS z oq) hl
  show H1[x_B G + a]? = some (vp_cell _ (len, .inl (upd f i.toNatClampNeg x)))
  rw [e1]
  show some ((arrV _ _ _).setSlot _ _) = _
  rw [vp_cell_i, arrV_store]
  congr 2
  funext q
  by_cases hq : q = i.toNatClampNeg
  · subst hq
    simp [updV, upd, vp_nar]
    try rfl
  · simp [updV, upd, hq]
theorem x_bast {t len a : Nat} {f : Nat → Int32} {i : Int32} {x : Int32} (hd : decode M.2.1 pc = .ok (.bastore, 1)) (ht : x_tl[t]? = some .byte) (ha : a < n) (hc : h a = .inl (t, len, .inl f)) (hin : vp_in i len)
    (kk : x_W G M rm Qf ex n (va_up h a (.inl (t, len, .inl (upd f i.toNatClampNeg (vp_nar .byte x))))) cells slots lv st (pc + 1)) : x_W G M rm Qf ex n h cells slots lv (.int x :: .int i :: .ref a :: st) pc := by
  intro p e s m args below meth c F H locs ls hH hS hl
  have hK := F.2.2.2.2.2.2.2.2.2
  show W p _ e rm s m args below meth c H locs cells slots _ (F0 m pc ls (.int x :: .int i :: .ref (x_ad G a) :: x_st G st))
  rw [x_ad_new (Nat.lt_of_lt_of_le ha hH.1)]
  refine W.bast F.1 F.2.1 ((hH.at ha hc) 0 _ rfl) ((hK.1.2 t _ (x_ty_at ht)).1 len (fun j => .int (f j))) (fun q => by cases q) (by show ¬ (i < 0 ∨ (arrV _ _ _).slots.size ≤ _); rw [arrV_size]; exact hin) rfl rfl hd fun H1 e1 z oq => ?_
  refine kk p e s m args below meth c F H1 _ ls (hH.upd z oq ?_) (x_S.put hS z oq) hl
  show H1[x_B G + a]? = some (vp_cell _ (len, .inl (upd f i.toNatClampNeg (vp_nar .byte x))))
  rw [e1]
  show some ((arrV _ _ _).setSlot _ _) = _
  rw [vp_cell_i, arrV_store]
  congr 2
  funext q
  by_cases hq : q = i.toNatClampNeg
  · subst hq
    simp [updV, upd, vp_nar]
    try rfl
  · simp [updV, upd, hq]
theorem x_zast {t len a : Nat} {f : Nat → Int32} {i : Int32} {x : Int32} (hd : decode M.2.1 pc = .ok (.bastore, 1)) (ht : x_tl[t]? = some .boolean) (ha : a < n) (hc : h a = .inl (t, len, .inl f)) (hin : vp_in i len)
    (kk : x_W G M rm Qf ex n (va_up h a (.inl (t, len, .inl (upd f i.toNatClampNeg (vp_nar .boolean x))))) cells slots lv st (pc + 1)) : x_W G M rm Qf ex n h cells slots lv (.int x :: .int i :: .ref a :: st) pc := by
  intro p e s m args below meth c F H locs ls hH hS hl
  have hK := F.2.2.2.2.2.2.2.2.2
  show W p _ e rm s m args below meth c H locs cells slots _ (F0 m pc ls (.int x :: .int i :: .ref (x_ad G a) :: x_st G st))
  rw [x_ad_new (Nat.lt_of_lt_of_le ha hH.1)]
  refine W.zast F.1 F.2.1 ((hH.at ha hc) 0 _ rfl) ((hK.1.2 t _ (x_ty_at ht)).1 len (fun j => .int (f j))) (fun q => by cases q) (by show ¬ (i < 0 ∨ (arrV _ _ _).slots.size ≤ _); rw [arrV_size]; exact hin) rfl rfl hd fun H1 e1 z oq => ?_
  refine kk p e s m args below meth c F H1 _ ls (hH.upd z oq ?_) (x_S.put hS z oq) hl
  show H1[x_B G + a]? = some (vp_cell _ (len, .inl (upd f i.toNatClampNeg (vp_nar .boolean x))))
  rw [e1]
  show some ((arrV _ _ _).setSlot _ _) = _
  rw [vp_cell_i, arrV_store]
  congr 2
  funext q
  by_cases hq : q = i.toNatClampNeg
  · subst hq
    simp [updV, upd, vp_nar]
    try rfl
  · simp [updV, upd, hq]
theorem x_last {t len a : Nat} {f : Nat → Int64} {i : Int32} {x : Int64} (hd : decode M.2.1 pc = .ok (.lastore, 1)) (ht : x_tl[t]? = some .long) (ha : a < n) (hc : h a = .inl (t, len, .inr (.inl f))) (hin : vp_in i len)
    (kk : x_W G M rm Qf ex n (va_up h a (.inl (t, len, .inr (.inl (vp_updL f i.toNatClampNeg x))))) cells slots lv st (pc + 1)) : x_W G M rm Qf ex n h cells slots lv (.long x :: .int i :: .ref a :: st) pc := by
  intro p e s m args below meth c F H locs ls hH hS hl
  have hK := F.2.2.2.2.2.2.2.2.2
  show W p _ e rm s m args below meth c H locs cells slots _ (F0 m pc ls (.long x :: .int i :: .ref (x_ad G a) :: x_st G st))
  rw [x_ad_new (Nat.lt_of_lt_of_le ha hH.1)]
  refine W.last F.1 F.2.1 ((hH.at ha hc) 0 _ rfl) ((hK.1.2 t _ (x_ty_at ht)).1 len (fun j => .long (f j))) (fun q => by cases q) (by show ¬ (i < 0 ∨ (arrV _ _ _).slots.size ≤ _); rw [arrV_size]; exact hin) rfl rfl hd fun H1 e1 z oq => ?_
  refine kk p e s m args below meth c F H1 _ ls (hH.upd z oq ?_) (x_S.put hS z oq) hl
  show H1[x_B G + a]? = some (vp_cell _ (len, .inr (.inl (vp_updL f i.toNatClampNeg x))))
  rw [e1]
  show some ((arrV _ _ _).setSlot _ _) = _
  rw [vp_cell_l, arrV_store]
  congr 2
  funext q
  by_cases hq : q = i.toNatClampNeg
  · subst hq
    simp [updV, vp_updL, vp_nar]
    try rfl
  · simp [updV, vp_updL, hq]
theorem x_rf {G : x_G} (r : Option Nat) : x_v G (va_rf r) = va_rf (r.map (x_ad G)) := by cases r <;> rfl
theorem x_aald {t len a b : Nat} {C : String} {f : Nat → Option Nat} {i : Int32} (hd : decode M.2.1 pc = .ok (.aaload, 1)) (ht : x_tl[t]? = some (.object C)) (ha : a < n) (hc : h a = .inl (t, len, .inr (.inr (.inr (.inr f))))) (hin : vp_in i len) (hb : f i.toNatClampNeg = some b)
    (kk : x_W G M rm Qf ex n h cells slots lv (.ref b :: st) (pc + 1)) : x_W G M rm Qf ex n h cells slots lv (.int i :: .ref a :: st) pc := by
  intro p e s m args below meth c F H locs ls hH hS hl
  have hK := F.2.2.2.2.2.2.2.2.2
  show W p _ e rm s m args below meth c H locs cells slots _ (F0 m pc ls (.int i :: .ref (x_ad G a) :: x_st G st))
  rw [x_ad_new (Nat.lt_of_lt_of_le ha hH.1)]
  refine va_aldq F.1 F.2.1 hK.1 (hH.at ha hc) 0 t rfl (x_ty_at ht) hin hd ?_
  rw [hb]
  exact kk p e s m args below meth c F H locs ls hH hS hl
theorem x_aaldA {t len a b : Nat} {ty : FieldType} {f : Nat → Option Nat} {i : Int32} (hd : decode M.2.1 pc = .ok (.aaload, 1)) (ht : x_tl[t]? = some (.array ty)) (ha : a < n) (hc : h a = .inl (t, len, .inr (.inr (.inr (.inr f))))) (hin : vp_in i len) (hb : f i.toNatClampNeg = some b)
    (kk : x_W G M rm Qf ex n h cells slots lv (.ref b :: st) (pc + 1)) : x_W G M rm Qf ex n h cells slots lv (.int i :: .ref a :: st) pc := by
  intro p e s m args below meth c F H locs ls hH hS hl
  have hK := F.2.2.2.2.2.2.2.2.2
  show W p _ e rm s m args below meth c H locs cells slots _ (F0 m pc ls (.int i :: .ref (x_ad G a) :: x_st G st))
  rw [x_ad_new (Nat.lt_of_lt_of_le ha hH.1)]
  have hlt : i.toNatClampNeg < len := Nat.not_le.mp fun q => hin (Or.inr q)
  have e0 : (f i.toNatClampNeg).map (x_ad G) = some (x_ad G b) := by rw [hb]; rfl
  exact W.aald (v := .ref (x_ad G b)) (ty := .array ty) F.1 F.2.1 ((hH.at ha hc) 0 _ rfl) ((hK.1.2 t _ (x_ty_at ht)).1 len (fun j => va_rf ((f j).map (x_ad G)))) rfl (fun q => by cases q) (by show ¬ (i < 0 ∨ (arrV _ _ _).slots.size ≤ _); rw [arrV_size]; exact hin) (by show (arrV (x_c G t) len (fun j => va_rf ((f j).map (x_ad G)))).slots[i.toNatClampNeg]? = _; rw [arrV_read _ _ hlt, e0]; rfl) rfl rfl hd (kk p e s m args below meth c F H locs ls hH hS hl)
theorem x_alen {t a : Nat} {x : vp_A} {ty : FieldType} {v : Int32} (hd : decode M.2.1 pc = .ok (.arraylength, 1)) (ht : x_tl[t]? = some ty) (ha : a < n) (hc : h a = .inl (t, x)) (hv : Int32.ofNat x.1 = v)
    (kk : x_W G M rm Qf ex n h cells slots lv (.int v :: st) (pc + 1)) : x_W G M rm Qf ex n h cells slots lv (.ref a :: st) pc := by
  intro p e s m args below meth c F H locs ls hH hS hl
  have hK := F.2.2.2.2.2.2.2.2.2
  show W p _ e rm s m args below meth c H locs cells slots _ (F0 m pc ls (.ref (x_ad G a) :: x_st G st))
  rw [x_ad_new (Nat.lt_of_lt_of_le ha hH.1)]
  exact va_alen F.1 F.2.1 hK.1 (hH.at ha hc) 0 t rfl (x_ty_at ht) (x := x_a G x) hv hd (kk p e s m args below meth c F H locs ls hH hS hl)
end XH
end
section
/-! ends, and calls: the callee's frame is entered and left -/
theorem x_imp {p : Program} {l : Launch} {e : Env} {R : Room} {s : State} {m : MethodId} {args : Array Value} {below : List Frame} {meth : Method} {c : Code} {H : Heap} {locs : List Loc} {cells slots : Nat} {Q Q' : State → Prop} {g : JFrame} (hq : ∀ t, Q t → Q' t) (w : W p l e R s m args below meth c H locs cells slots Q g) : W p l e R s m args below meth c H locs cells slots Q' g := by
  intro T hT X
  obtain ⟨t, a, b⟩ := w T hT X
  exact ⟨t, a, hq t b⟩
theorem x_back {tb : Tables} {e : Env} {mid below : List Frame} {a b : State} (h : Steps tb e (mid ++ below) a b) : Steps tb e below a b := by
  obtain ⟨n, hn, w⟩ := h
  exact ⟨n, hn, fun k hk => (w k hk).weaken⟩
section XE
variable {G : x_G} {M : x_M} {rm : Room} {ex : Bool} {n : Nat} {h : x_h} {cells slots : Nat} {lv : List (Nat × Value)} {st : List Value} {pc : Nat} {Po : x_P}
theorem x_iret {ty : FieldType} {v : Int32} (hd : decode M.2.1 pc = .ok (.ireturn, 1)) (hr : M.2.2.2.1 = some ty) (hn : narrow ty (.int v) = .int v) (hc : cells ≤ rm.cells) (hs : slots ≤ rm.slots) (hp : Po (.inl (some (.int v))) n h) : x_W G M rm (x_Q G rm ex Po) ex n h cells slots lv [.int v] pc := by
  intro p e s m args below meth c F H locs ls hH hS hl
  obtain ⟨f1, f2, f3, f4, f5, f6, f7, f8, hts, hK⟩ := id F
  refine W.widen hc hs ?_
  refine x_imp (fun t q => ?_) (W.zret (Qc := fun _ _ o t => o = .returned (some (.int v)) ∧ t.heap = H) (free := x_A G) f1 f2 (f4.trans hr) hn (fun t ht _ => ⟨rfl, ht⟩) hS.2.2 hd f7)
  obtain ⟨o, q1, q2, ⟨rfl, q4⟩, L, ⟨-, q5, q6⟩, q7⟩ := q
  exact ⟨q1, q5, ⟨L, q6, q7⟩, hS.F q4, Or.inl ⟨some (.int v), n, h, q2, hp, by rw [q4]; exact hH⟩⟩
theorem x_lret {v : Int64} (hd : decode M.2.1 pc = .ok (.lreturn, 1)) (hr : M.2.2.2.1 = some .long) (hc : cells ≤ rm.cells) (hs : slots ≤ rm.slots) (hp : Po (.inl (some (.long v))) n h) : x_W G M rm (x_Q G rm ex Po) ex n h cells slots lv [.long v] pc := by
  intro p e s m args below meth c F H locs ls hH hS hl
  obtain ⟨f1, f2, f3, f4, f5, f6, f7, f8, hts, hK⟩ := id F
  refine W.widen hc hs ?_
  refine x_imp (fun t q => ?_) (W.lret (Qc := fun _ _ o t => o = .returned (some (.long v)) ∧ t.heap = H) (free := x_A G) f1 f2 (f4.trans hr) (fun t ht _ => ⟨rfl, ht⟩) hS.2.2 hd f7)
  obtain ⟨o, q1, q2, ⟨rfl, q4⟩, L, ⟨-, q5, q6⟩, q7⟩ := q
  exact ⟨q1, q5, ⟨L, q6, q7⟩, hS.F q4, Or.inl ⟨some (.long v), n, h, q2, hp, by rw [q4]; exact hH⟩⟩
theorem x_vret (hd : decode M.2.1 pc = .ok (.return_, 1)) (hr : M.2.2.2.1 = none) (hc : cells ≤ rm.cells) (hs : slots ≤ rm.slots) (hp : Po (.inl none) n h) : x_W G M rm (x_Q G rm ex Po) ex n h cells slots lv [] pc := by
  intro p e s m args below meth c F H locs ls hH hS hl
  obtain ⟨f1, f2, f3, f4, f5, f6, f7, f8, hts, hK⟩ := id F
  refine W.widen hc hs ?_
  refine x_imp (fun t q => ?_) (W.vret (Qc := fun _ _ o t => o = .returned none ∧ t.heap = H) (free := x_A G) f1 f2 (f4.trans hr) (fun t ht _ => ⟨rfl, ht⟩) hS.2.2 hd f7)
  obtain ⟨o, q1, q2, ⟨rfl, q4⟩, L, ⟨-, q5, q6⟩, q7⟩ := q
  exact ⟨q1, q5, ⟨L, q6, q7⟩, hS.F q4, Or.inl ⟨none, n, h, q2, hp, by rw [q4]; exact hH⟩⟩
theorem x_aret {rt : FieldType} {k : Nat} (hd : decode M.2.1 pc = .ok (.areturn, 1)) (hr : M.2.2.2.1 = some rt) (hrt : (∃ n, rt = .object n) ∨ ∃ t, rt = .array t) (hc : cells ≤ rm.cells) (hs : slots ≤ rm.slots) (hp : Po (.inl (some (.ref k))) n h) : x_W G M rm (x_Q G rm ex Po) ex n h cells slots lv [.ref k] pc := by
  intro p e s m args below meth c F H locs ls hH hS hl
  obtain ⟨f1, f2, f3, f4, f5, f6, f7, f8, hts, hK⟩ := id F
  refine W.widen hc hs ?_
  refine x_imp (fun t q => ?_) (W.aret (v := .ref (x_ad G k)) (Qc := fun _ _ o t => o = .returned (some (.ref (x_ad G k))) ∧ t.heap = H) (free := x_A G) f1 f2 (f4.trans hr) hrt (Or.inr ⟨_, rfl⟩) (fun t ht _ => ⟨rfl, ht⟩) hS.2.2 hd f7)
  obtain ⟨o, q1, q2, ⟨rfl, q4⟩, L, ⟨-, q5, q6⟩, q7⟩ := q
  exact ⟨q1, q5, ⟨L, q6, q7⟩, hS.F q4, Or.inl ⟨some (.ref k), n, h, q2, hp, by rw [q4]; exact hH⟩⟩
theorem x_sub {Qf : List Frame → Array Value → State → State → Prop} {lv2 : List (Nat × Value)} (hq : ∀ q ∈ lv2, q ∈ lv) (k : x_W G M rm Qf ex n h cells slots lv2 st pc) : x_W G M rm Qf ex n h cells slots lv st pc :=
  fun p e s m args below meth c F H locs ls hH hS hl => k p e s m args below meth c F H locs ls hH hS ⟨hl.1, hl.2.1, fun q h => by
    obtain ⟨r, hr, rfl⟩ := List.mem_map.mp h
    exact hl.2.2 _ (List.mem_map.mpr ⟨r, hq r hr, rfl⟩)⟩
theorem x_wide {Qf : List Frame → Array Value → State → State → Prop} {c1 s1 : Nat} (h1 : cells ≤ c1) (h2 : slots ≤ s1) (k : x_W G M rm Qf ex n h c1 s1 lv st pc) : x_W G M rm Qf ex n h cells slots lv st pc :=
  fun p e s m args below meth c F H locs ls hH hS hl => W.widen h1 h2 (k p e s m args below meth c F H locs ls hH hS hl)
end XE
theorem x_args (G : x_G) : ∀ (As : List Value) (i : Nat), lv_args i (As.map (x_v G)) = x_lv G (lv_args i As)
  | [], _ => rfl
  | v :: r, i => by
    show (i, x_v G v) :: lv_args (if (x_v G v).category = 2 then i + 2 else i + 1) (r.map (x_v G)) = (i, x_v G v) :: x_lv G (lv_args (if v.category = 2 then i + 2 else i + 1) r)
    rw [x_cat, x_args G r]
theorem x_sl (G : x_G) : ∀ (As : List Value), (lg_sl (As.map (x_v G))).length = (lg_sl As).length
  | [] => rfl
  | v :: r => by
    have ih := x_sl G r
    simp only [lg_sl, List.map_cons, List.flatMap_cons, List.length_append] at ih ⊢
    rw [x_cat, ih]
    by_cases hv : v.category = 2 <;> simp [hv]
theorem x_K.next {G : x_G} {s U : State} {locs : List Loc} (hK : x_K G s) (hW : s.WarmedH U.vm) (hS : va_S (x_A G) s.heap U.heap locs) : x_K G U :=
  ⟨va_K.moved hW.alike hK.1, x_Z_next hK.2.1 hW (fun q hq => hS.2.1 q (Nat.lt_of_lt_of_le hq hK.2.2) (Nat.not_le.mpr hq)), Nat.le_trans hK.2.2 hS.1⟩
/-- a callee, entered and left -/
def x_cd (M : x_M) : Prop := plainName M.1.cls = true ∧ ((Cond.code M.1 M.2.1 M.2.2.1 M.2.2.2.1 ∈ x_tsl ∧ M.2.2.2.2 = []) ∨ Cond.codeWith M.1 M.2.1 M.2.2.1 M.2.2.2.1 M.2.2.2.2 ∈ x_tsl)
theorem x_cd.spec {M : x_M} (hM : x_cd M) {args : Array Value} {s : State} (hts : ∀ w ∈ x_tsl, w.before args s = true) : ∃ (mk : MethodId) (methk : Method) (ck : Code), s.methodNamed? M.1 = some mk ∧ s.vm.method? mk = some methk ∧ methk.code = some ck ∧ ck.code = M.2.1 ∧ ck.maxLocals = M.2.2.1 ∧
    ck.exceptionTable.toList.map (fun h => (h.startPc, h.endPc, h.handlerPc, h.catchType)) = M.2.2.2.2 ∧ methk.sig.returnType = M.2.2.2.1 ∧ methk.locks = false ∧ parseMethodDescriptor M.1.desc = some methk.sig := by
  rcases hM.2 with ⟨h, h0⟩ | h
  · have hc := hts _ h
    obtain ⟨mk, hn⟩ := Cond.code_named hc
    obtain ⟨meth, c, h1, h2, h3, h4, h5, h6, h7, h8⟩ := Cond.code_spec hn hc
    refine ⟨mk, meth, c, hn, h1, h2, h3, h4, ?_, h5, h6, h8⟩
    rw [h0]
    have : c.exceptionTable.toList = [] := by simpa using h7
    rw [this]; rfl
  · obtain ⟨mk, meth, c, h1, h2, h3, h4, h5, h6, h7, h8, h9⟩ := Cond.codeWith_spec (hts _ h)
    exact ⟨mk, meth, c, h1, h2, h3, h4, h5, h6, h7, h8, h9⟩
set_option maxHeartbeats 1000000 in
theorem x_enter {G : x_G} {M2 : x_M} {rm rm2 : Room} {ex : Bool} {n : Nat} {h : x_h} {Po : x_P} {As : List Value} (hR : x_R G M2 rm2 ex As n h Po) (hM : x_cd M2)
    {p : Program} {e : Env} {s : State} {m : MethodId} {args : Array Value} {below : List Frame} {meth : Method} {c : Code} {T : State} {locs : List Loc} {cells slots : Nat} (X : Stand p (x_l G) e rm s m args below meth c T locs cells slots)
    (hexec : p.tables.exec = Jvm.exec) (hts : ∀ w ∈ x_tsl, w.before args s = true) (hK : x_K G s) (hH : x_H G ex n h T.heap) (hS : va_S (x_A G) s.heap T.heap locs)
    {g : JFrame} (hg : g.method = m) (hsize : g.locals.size = c.maxLocals) {ig : Instr} {len : Nat} (hdg : decode c.code g.pc = .ok (ig, len)) (hw : 2 * g.monitorRoom + (g.stack.map fun v => v.category).sum ≤ 8)
    {mk : MethodId} (hnk : s.methodNamed? M2.1 = some mk) (hrm : rm2.frames + 1 ≤ rm.frames ∧ 8 + (M2.2.2.1 + 11) + rm2.locals ≤ rm.locals) (hce : cells + rm2.cells ≤ rm.cells) (hsl : slots + rm2.slots ≤ rm.slots) (hal : (lg_sl As).length ≤ M2.2.2.1) :
    ∃ (T' : State) (L : List Loc), Stand p (x_l G) e rm s m args below meth c T' (locs ++ L) (cells + rm2.cells) (slots + rm2.slots) ∧ va_S (x_A G) s.heap T'.heap (locs ++ L) ∧
      ((∃ v n' h', Po (.inl v) n' h' ∧ x_H G ex n' h' T'.heap ∧ ∀ acts, Steps p.tables e below (doInvoke e (T.setTop g) acts mk (As.map (x_v G)).toArray).1 (T'.setTop { g with pc := g.pc + len, stack := (v.map (x_v G)).toList ++ g.stack })) ∨
       (∃ a Y n' h' cell, Po (.inr Y) n' h' ∧ x_H G ex n' h' T'.heap ∧ T'.heap[a]? = some cell ∧ cell.vm = .none ∧ s.vm.findClass Y = some cell.cls ∧ ∀ acts, Steps p.tables e below (doInvoke e (T.setTop g) acts mk (As.map (x_v G)).toArray).1 ((T'.setTop g).pushFrame (.throwing a)))) := by
  obtain ⟨mk', methk, ck, n1, n2, n3, n4, n5, n6, n7, n8, n9⟩ := hM.spec hts
  cases hnk.symm.trans n1
  have hmT : T.vm.method? mk = some methk := by rw [X.warmed.alike.method?]; exact n2
  have hnT : T.methodNamed? M2.1 = some mk := X.named hnk
  obtain ⟨Y, hdo⟩ := X.into hg hsize hdg (As.map (x_v G)).toArray (R' := rm2) hmT n3 n8 (State.plainMethod.of_named (plainFor_of_name hM.1) hnT hmT) hrm.1 (by rw [n5]; omega) hce hsl
  generalize hU : T.calling g mk (As.map (x_v G)).toArray = U at Y
  have hUh : U.heap = T.heap := by rw [← hU]; rfl
  have hUv : U.vm = T.vm := by rw [← hU]; rfl
  have hWU : s.WarmedH U.vm := by rw [hUv]; exact X.warmed
  have hSU : va_S (x_A G) s.heap U.heap locs := by rw [hUh]; exact hS
  have hF : x_F G M2 p U mk (As.map (x_v G)).toArray methk ck :=
    ⟨hexec, n4, n5, n7, n6, by rw [hUv, X.warmed.alike.findClass]; exact findClass_of_methodNamed n1, n8, (name_of_methodNamed n1 n2).1, fun w hw => word_at hWU (x_good w hw) (hts w hw), hK.next hWU hSU⟩
  have hent := lv_entry (As.map (x_v G)) (n := M2.2.2.1) (by rw [x_sl]; exact hal)
  rw [x_args] at hent
  generalize hV : (T.setTop g).pushFrame (.java (entryFrame mk (As.map (x_v G)).toArray ck.maxLocals)) = V at Y hdo
  have hVh : V.heap = U.heap := by rw [← hV, hUh]; rfl
  obtain ⟨t, hst, hq⟩ := hR p e U mk (As.map (x_v G)).toArray (.java g :: below) methk ck hF U.heap [] _ (by rw [hUh]; exact hH) va_S.rf hent V hVh Y
  rw [n5, lg_entry_eq] at hdo
  obtain ⟨q1, q2, ⟨L, q3, q4⟩, q5, q6⟩ := hq
  have hS' : ∀ T' : State, T'.heap = t.heap → va_S (x_A G) s.heap T'.heap (locs ++ L) := fun T' e1 => by
    refine ⟨by rw [e1]; exact Nat.le_trans hSU.1 q5.1, fun q h1 h2 => ?_, fun q hq => ?_⟩
    · rw [e1, q5.2 q (Nat.lt_of_lt_of_le h1 hSU.1) h2]; exact hSU.2.1 q h1 h2
    · rcases List.mem_append.mp hq with z | z
      · exact hS.2.2 q z
      · exact q4 q z
  rcases q6 with ⟨v, n', h', r1, r2, r3⟩ | ⟨a, Y', n', h', cell, r1, r2, r3, r4, r5, r6⟩
  · subst hU
    obtain ⟨T', X', -, -, ht⟩ := X.outOf hg hdg r1 q2 q3
    have hth : T'.heap = t.heap := by rw [ht]; rfl
    refine ⟨T', L, X', hS' T' hth, Or.inl ⟨v, n', h', r2, by rw [hth]; exact r3, fun acts => ?_⟩⟩
    rw [hdo acts, ← ht]
    exact x_back (mid := [.java g]) hst
  · subst hU
    obtain ⟨T', X', -, -, ht⟩ := X.outOfThrown hg r1 q2 q3
    have hth : T'.heap = t.heap := by rw [ht]; rfl
    refine ⟨T', L, X', hS' T' hth, Or.inr ⟨a, Y', n', h', cell, r2, by rw [hth]; exact r3, by rw [hth]; exact r4, r5, by rw [hUv, X.warmed.alike.findClass] at r6; exact r6, fun acts => ?_⟩⟩
    rw [hdo acts, ← ht]
    exact x_back (mid := [.java g]) hst
end
section
/-! calls: static, virtual, constructors; an exception is under way at pc -/
def x_WT (G : x_G) (M : x_M) (rm : Room) (Qf : List Frame → Array Value → State → State → Prop) (ex : Bool) (n : Nat) (h : x_h) (cells slots : Nat) (lv : List (Nat × Value)) (Y : String) (pc : Nat) : Prop :=
  ∀ (p : Program) (e : Env) (s : State) (m : MethodId) (args : Array Value) (below : List Frame) (meth : Method) (c : Code), x_F G M p s m args meth c →
    ∀ (H : Heap) (locs : List Loc) (ls : Array Slot) (st : List Value) (a : Nat) (cell : Cell), x_H G ex n h H → va_S (x_A G) s.heap H locs → lv_has ls M.2.2.1 (x_lv G lv) → H[a]? = some cell → cell.vm = .none → s.vm.findClass Y = some cell.cls →
    ∀ T : State, T.heap = H → Stand p (x_l G) e rm s m args below meth c T locs cells slots → ∃ t, Steps p.tables e below ((T.setTop (F0 m pc ls st)).pushFrame (.throwing a)) t ∧ Qf below args s t
def x_pl (M : x_M) : Prop := M.1.cls ≠ "java/lang/invoke/MethodHandle" ∧ M.1.cls ≠ "java/lang/invoke/VarHandle"
def x_rm (rm rm2 : Room) (M2 : x_M) : Prop := rm2.frames + 1 ≤ rm.frames ∧ 8 + (M2.2.2.1 + 11) + rm2.locals ≤ rm.locals
theorem x_stA {G : x_G} {As st : List Value} : x_st G (As.reverse ++ st) = (As.map (x_v G)).reverse ++ x_st G st := by
  simp [x_st, List.map_append, List.map_reverse]
theorem x_stV {G : x_G} {v : Option Value} {st : List Value} : x_st G (v.toList ++ st) = (v.map (x_v G)).toList ++ x_st G st := by
  cases v <;> rfl
theorem x_stW {G : x_G} {st : List Value} : ((x_st G st).map fun v => v.category).sum = (st.map fun v => v.category).sum := by
  unfold x_st
  rw [List.map_map]
  congr 1
  apply List.map_congr_left
  intro v _
  exact x_cat
section XI
variable {G : x_G} {M : x_M} {rm : Room} {Qf : List Frame → Array Value → State → State → Prop} {ex : Bool} {n : Nat} {h : x_h} {cells slots : Nat} {lv : List (Nat × Value)} {st stk : List Value} {pc : Nat}
variable {M2 : x_M} {rm2 : Room} {As : List Value} {Po : x_P} {index : Nat}
/-- behind the instruction's own step -/
theorem x_goes (hR : x_R G M2 rm2 ex As n h Po) (hM : x_cd M2) (hrm : x_rm rm rm2 M2) (hce : cells + rm2.cells ≤ rm.cells) (hsl : slots + rm2.slots ≤ rm.slots) (hal : (lg_sl As).length ≤ M2.2.2.1) (hw : (st.map fun v => v.category).sum ≤ 8)
    (kr : ∀ v n' h', Po (.inl v) n' h' → x_W G M rm Qf ex n' h' (cells + rm2.cells) (slots + rm2.slots) lv (v.toList ++ st) (pc + 3))
    (kt : ∀ Y n' h', Po (.inr Y) n' h' → x_WT G M rm Qf ex n' h' (cells + rm2.cells) (slots + rm2.slots) lv Y pc)
    {p : Program} {e : Env} {s : State} {m : MethodId} {args : Array Value} {below : List Frame} {meth : Method} {c : Code} (F : x_F G M p s m args meth c) {T : State} {locs : List Loc} {ls : Array Slot} (hH : x_H G ex n h T.heap) (hS : va_S (x_A G) s.heap T.heap locs) (hl : lv_has ls M.2.2.1 (x_lv G lv))
    (X : Stand p (x_l G) e rm s m args below meth c T locs cells slots) {ig : Instr} (hd : decode M.2.1 pc = .ok (ig, 3)) {mk : MethodId} (hnk : s.methodNamed? M2.1 = some mk) :
    ∃ t, (∀ acts, Steps p.tables e below (doInvoke e (T.setTop (F0 m pc ls (x_st G st))) acts mk (As.map (x_v G)).toArray).1 t) ∧ Qf below args s t := by
  obtain ⟨f1, f2, f3, f4, f5, f6, f7, f8, hts, hK⟩ := id F
  obtain ⟨T', L, X', hS', hor⟩ := x_enter hR hM X f1 hts hK hH hS (g := F0 m pc ls (x_st G st)) rfl (hl.1.trans f3.symm) (by rw [f2]; exact hd) (by show 2 * 0 + _ ≤ 8; rw [x_stW]; omega) hnk hrm hce hsl hal
  rcases hor with ⟨v, n', h', r1, r2, r3⟩ | ⟨a, Y, n', h', cell, r1, r2, r3, r4, r5, r6⟩
  · obtain ⟨t, a1, b1⟩ := kr v n' h' r1 p e s m args below meth c F T'.heap (locs ++ L) ls r2 hS' hl T' rfl X'
    rw [x_stV] at a1
    exact ⟨t, fun acts => (r3 acts).trans a1, b1⟩
  · obtain ⟨t, a1, b1⟩ := kt Y n' h' r1 p e s m args below meth c F T'.heap (locs ++ L) ls (x_st G st) a cell r2 hS' hl r3 r4 r5 T' rfl X'
    exact ⟨t, fun acts => (r6 acts).trans a1, b1⟩
theorem x_callS (hd : decode M.2.1 pc = .ok (.invokestatic index, 3)) (hR : x_R G M2 rm2 ex As n h Po) (hM : x_cd M2) (hlk : Cond.methodLink M.1.cls index M2.1 ∈ x_tsl) (hss : Cond.static M2.1 ∈ x_tsl) (hii : Cond.initialized M2.1.cls ∈ x_tsl) (hp : x_pl M2) (hn : (parseMethodDescriptor M2.1.desc).map (fun d => d.parameters.length) = some As.length)
    (hrm : x_rm rm rm2 M2) (hce : cells + rm2.cells ≤ rm.cells) (hsl : slots + rm2.slots ≤ rm.slots) (hal : (lg_sl As).length ≤ M2.2.2.1) (hw : (st.map fun v => v.category).sum ≤ 8) (hst : stk = As.reverse ++ st)
    (kr : ∀ v n' h', Po (.inl v) n' h' → x_W G M rm Qf ex n' h' (cells + rm2.cells) (slots + rm2.slots) lv (v.toList ++ st) (pc + 3))
    (kt : ∀ Y n' h', Po (.inr Y) n' h' → x_WT G M rm Qf ex n' h' (cells + rm2.cells) (slots + rm2.slots) lv Y pc) : x_W G M rm Qf ex n h cells slots lv stk pc := by
  intro p e s m args below meth c F H locs ls hH hS hl T hT X
  subst hT; subst hst
  obtain ⟨f1, f2, f3, f4, f5, f6, f7, f8, hts, hK⟩ := id F
  obtain ⟨mk, methk, ck, n1, n2, n3, n4, n5, n6, n7, n8, n9⟩ := hM.spec hts
  obtain ⟨kP, hkP, -⟩ := className_of_methodNamed n1
  rw [n9] at hn
  obtain ⟨vm₁, X₁, hstep⟩ := X.invokestatic f1 f6 (hts _ hlk) n1 n2 (Cond.static_spec n1 n2 (hts _ hss)) hkP (Cond.initialized_spec (findClass_of_methodNamed n1) hkP (hts _ hii)) hp (g := F0 m pc ls (x_st G (As.reverse ++ st))) rfl (argsL := As.map (x_v G)) (rest := x_st G st) (by rw [List.length_map]; exact (Option.some.inj hn).symm) x_stA (by rw [f2]; exact hd)
  obtain ⟨t, a1, b1⟩ := x_goes hR hM hrm hce hsl hal hw kr kt F (T := T.setVm vm₁) hH hS hl X₁ hd n1
  exact ⟨t, hstep _ a1, b1⟩
theorem x_callV {b ci : Nat} {fs : List Value} {C : String} {Tb : u_T} {N : Nat} (hd : decode M.2.1 pc = .ok (.invokevirtual index, 3)) (hR : x_R G M2 rm2 ex (.ref b :: As) n h Po) (hM : x_cd M2) (hlk : Cond.methodLink M.1.cls index M2.1 ∈ x_tsl) (hii : Cond.instanceMethod M2.1 ∈ x_tsl) (hse : Cond.selects C M2.1 M2.1 ∈ x_tsl) (hp : x_pl M2) (hn : (parseMethodDescriptor M2.1.desc).map (fun d => d.parameters.length) = some As.length)
    (hb : b < n) (hc : h b = .inr (ci, fs)) (hcl : vwCl[ci]? = some (C, Tb, N))
    (hrm : x_rm rm rm2 M2) (hce : cells + rm2.cells ≤ rm.cells) (hsl : slots + rm2.slots ≤ rm.slots) (hal : (lg_sl (.ref b :: As)).length ≤ M2.2.2.1) (hw : (st.map fun v => v.category).sum ≤ 8) (hst : stk = As.reverse ++ .ref b :: st)
    (kr : ∀ v n' h', Po (.inl v) n' h' → x_W G M rm Qf ex n' h' (cells + rm2.cells) (slots + rm2.slots) lv (v.toList ++ st) (pc + 3))
    (kt : ∀ Y n' h', Po (.inr Y) n' h' → x_WT G M rm Qf ex n' h' (cells + rm2.cells) (slots + rm2.slots) lv Y pc) : x_W G M rm Qf ex n h cells slots lv stk pc := by
  intro p e s m args below meth c F H locs ls hH hS hl T hT X
  subst hT; subst hst
  obtain ⟨f1, f2, f3, f4, f5, f6, f7, f8, hts, hK⟩ := id F
  obtain ⟨mk, methk, ck, n1, n2, n3, n4, n5, n6, n7, n8, n9⟩ := hM.spec hts
  obtain ⟨mk', methM, hnamed, hmethM, hstM, habM⟩ := Cond.instanceMethod_spec (hts _ hii)
  cases n1.symm.trans hnamed
  cases n2.symm.trans hmethM
  obtain ⟨cellB, hcB, hoB, hclB⟩ := va_recv hK.1 (hH.at hb hc) (q0 := 0) hcl rfl
  obtain ⟨c2, r2, m2, q1, q2, q3, q4, kP, hkP, hkPi⟩ := Cond.selects_spec (hts _ hse)
  cases hclB.symm.trans q1
  cases (State.methodFound?_of_named hnamed hp).symm.trans q2
  cases hnamed.symm.trans q3
  have hselP : selectMethod e.platform s.vm cellB.cls mk = .method mk := by rw [Launch.admits_selectMethod X.admits]; exact q4
  rw [n9] at hn
  obtain ⟨vm₁, X₁, hstep⟩ := X.invokevirtual f1 f6 (hts _ hlk) hnamed hmethM hstM hkP hkPi hp (a := x_B G + b) (cell := cellB) hcB (fun z h => by rw [h] at hoB; cases hoB) hselP hmethM habM hkP hkPi (g := F0 m pc ls (x_st G (As.reverse ++ .ref b :: st))) rfl (argsL := As.map (x_v G)) (rest := x_st G st) (by rw [List.length_map]; exact (Option.some.inj hn).symm)
    (by show x_st G (As.reverse ++ .ref b :: st) = _; rw [x_stA]; show _ ++ (Value.ref (x_ad G b) :: x_st G st) = _; rw [x_ad_new (Nat.lt_of_lt_of_le hb hH.1)]) (by rw [f2]; exact hd)
  obtain ⟨t, a1, b1⟩ := x_goes hR hM hrm hce hsl hal hw kr kt F (T := T.setVm vm₁) hH hS hl X₁ hd n1
  refine ⟨t, hstep _ (fun acts => ?_), b1⟩
  have e0 : (Value.ref (x_B G + b) :: As.map (x_v G)).toArray = ((Value.ref b :: As).map (x_v G)).toArray := by
    show _ = (Value.ref (x_ad G b) :: As.map (x_v G)).toArray
    rw [x_ad_new (Nat.lt_of_lt_of_le hb hH.1)]
  rw [e0]
  exact a1 acts
theorem x_callI {b : Nat} (hd : decode M.2.1 pc = .ok (.invokespecial index, 3)) (hR : x_R G M2 rm2 ex (.ref b :: As) n h Po) (hM : x_cd M2) (hM0 : Cond.code M2.1 M2.2.1 M2.2.2.1 none ∈ x_tsl) (hnm : M2.1.name = "<init>") (hlk : Cond.methodLink M.1.cls index M2.1 ∈ x_tsl) (hii : Cond.instanceMethod M2.1 ∈ x_tsl) (hp : x_pl M2) (hn : (parseMethodDescriptor M2.1.desc).map (fun d => d.parameters.length) = some As.length)
    (hrm : x_rm rm rm2 M2) (hce : cells + rm2.cells ≤ rm.cells) (hsl : slots + rm2.slots ≤ rm.slots) (hal : (lg_sl (.ref b :: As)).length ≤ M2.2.2.1) (hw : (st.map fun v => v.category).sum ≤ 8) (hst : stk = As.reverse ++ .ref b :: st)
    (kr : ∀ v n' h', Po (.inl v) n' h' → x_W G M rm Qf ex n' h' (cells + rm2.cells) (slots + rm2.slots) lv (v.toList ++ st) (pc + 3))
    (kt : ∀ Y n' h', Po (.inr Y) n' h' → x_WT G M rm Qf ex n' h' (cells + rm2.cells) (slots + rm2.slots) lv Y pc) : x_W G M rm Qf ex n h cells slots lv stk pc := by
  intro p e s m args below meth c F H locs ls hH hS hl T hT X
  subst hT; subst hst
  obtain ⟨f1, f2, f3, f4, f5, f6, f7, f8, hts, hK⟩ := id F
  have hpl : e.platform.magicAccessors = ({} : Platform).magicAccessors := by rw [X.admits.platform]
  obtain ⟨mk, methM, cM, kP, vm₁, hnamed, hmethM, hcodeM, -, hlocalsM, -, hkP, -, hW₁, hstep⟩ := Steps.initColdArgs (e := e) X.here f1 X.warmed hpl f6 hnm hp (hts _ hlk) (hts _ hii) (hts _ hM0) (f := F0 m pc ls (x_st G (As.reverse ++ .ref b :: st))) rfl (a := x_ad G b) (argsL := As.map (x_v G)) (rest := x_st G st)
    (fun sig z => by rw [z] at hn; rw [List.length_map]; exact (Option.some.inj hn).symm) (by show x_st G (As.reverse ++ .ref b :: st) = _; rw [x_stA]; rfl) (by rw [f2]; exact hd)
  obtain ⟨t, a1, b1⟩ := x_goes hR hM hrm hce hsl hal hw kr kt F (T := T.setVm vm₁) hH hS hl (X.noted hW₁) hd hnamed
  exact ⟨t, hstep _ a1, b1⟩
end XI
end
section
/-! exceptions: out of a method, to a handler, thrown anew -/
def x_cov (q : Nat × Nat × Nat × Nat) (pc : Nat) : Bool := decide (q.1 ≤ pc) && decide (pc < q.2.1)
theorem x_cov_eq {x : ExceptionTableEntry} {pc : Nat} : covers x pc = x_cov (x.startPc, x.endPc, x.handlerPc, x.catchType) pc := rfl
section XO
variable {G : x_G} {M : x_M} {rm : Room} {ex : Bool} {n : Nat} {h : x_h} {cells slots : Nat} {lv : List (Nat × Value)} {pc : Nat} {Y : String}
theorem x_out {Po : x_P} (hh : ∀ q ∈ M.2.2.2.2, x_cov q pc = false) (hc : cells ≤ rm.cells) (hs : slots ≤ rm.slots) (hp : Po (.inr Y) n h) : x_WT G M rm (x_Q G rm ex Po) ex n h cells slots lv Y pc := by
  intro p e s m args below meth c F H locs ls st a cell hH hS hl ha hv hY T hT X
  obtain ⟨f1, f2, f3, f4, f5, f6, f7, f8, hts, hK⟩ := id F
  have hout : ∀ x ∈ c.exceptionTable.toList, covers x pc = false := fun x hx => by
    rw [x_cov_eq]
    exact hh _ (by rw [← f5]; exact List.mem_map.mpr ⟨x, hx, rfl⟩)
  have X2 := stand_widen X hc hs
  obtain ⟨q1, q2, q3, q4, q5⟩ := X2.leaveThrown a (g := F0 m pc ls st) rfl rfl rfl hout f7
  have hth : (T.setFrames (.throwing a :: below)).heap = H := hT
  exact ⟨_, q1, q2, q4, ⟨locs, q5, hS.2.2⟩, hS.F hth, Or.inr ⟨a, Y, n, h, cell, q3, hp, by rw [hth]; exact hH, by rw [hth]; exact ha, hv, hY⟩⟩
end XO
def x_FT (e : Env) (s : State) (f : JFrame) (a : Addr) (hd : Handler) (vm' : Vm) : Prop :=
  ∀ (Q : Handler → Pre) (E : CtlPost) (d : Bool) (acts : List Action), wp (findHandler f a) Q E e d acts s ↔ Q hd d acts (s.setVm vm')
theorem x_go_hit {Q : Handler → Pre} {E : CtlPost} {e : Env} {d : Bool} {acts : List Action} {s : State} {f : JFrame} {a : Addr} {x : ExceptionTableEntry} {t : List ExceptionTableEntry} {c : ClassId} {cell : Cell} (hx : covers x f.pc = true) (h0 : x.catchType ≠ 0)
    (hl : s.vm.ClassLinks e.platform f.method.cls x.catchType c) (hcell : s.heap[a]? = some cell) (hobj : ∀ k, cell.vm ≠ .statics k)
    (hk : ∃ k, s.vm.classes[cell.cls]? = some k) (hc : ∃ k, s.vm.classes[c]? = some k) :
    wp (findHandler.go f a (x :: t)) Q E e d acts s ↔ if s.vm.assignable cell.cls c = true then Q (.found x.handlerPc) d acts (s.setVm (s.vm.noted f.method.cls x.catchType (.cls c))) else wp (findHandler.go f a t) Q E e d acts (s.setVm (s.vm.noted f.method.cls x.catchType (.cls c))) := by
  simp only [covers] at hx
  obtain ⟨ha, ht⟩ := (resolveClass_links e.toSetting hl).op (op := VmOp.resolveClass f.method.cls x.catchType) rfl
  have hal : s.vm.Alike (s.vm.noted f.method.cls x.catchType (.cls c)) := (Vm.Alike.refl s.vm).noted _ _ _
  obtain ⟨k1, hk1⟩ := hk
  obtain ⟨k2, hk2⟩ := hc
  obtain ⟨k1', hk1', -⟩ := hal.2.2 _ _ hk1
  obtain ⟨k2', hk2', -⟩ := hal.2.2 _ _ hk2
  have has : (s.vm.noted f.method.cls x.catchType (.cls c)).assignable cell.cls c = s.vm.assignable cell.cls c := by rw [hal.assignable]
  by_cases hfit : s.vm.assignable cell.cls c = true
  · rw [if_pos hfit]
    rw [hfit] at has
    simp [findHandler.go, hx, h0, ha, ht, hcell, hobj, hk1', hk2', has, VmOp.dirties, VmOp.acts]
  · rw [if_neg hfit]
    have hfit2 : s.vm.assignable cell.cls c = false := by simpa using hfit
    rw [hfit2] at has
    simp [findHandler.go, hx, h0, ha, ht, hcell, hobj, hk1', hk2', has, VmOp.dirties, VmOp.acts]
end

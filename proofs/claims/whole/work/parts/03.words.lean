theorem x_l1 {w : Cond} (h : w ∈ tables_1_1) : w ∈ lw_tbl := List.mem_append_right _ (List.mem_append_left _ h)
theorem x_t1 {w : Cond} (h : w ∈ tables_1_1) (hg : goodWord w = true) : w ∈ x_tsl := List.mem_filter.mpr ⟨List.mem_append_right _ (List.mem_append_left _ h), hg⟩
theorem x_l2 {w : Cond} (h : w ∈ tables_1_2) : w ∈ lw_tbl := List.mem_append_right _ (List.mem_append_right _ (List.mem_append_left _ h))
theorem x_t2 {w : Cond} (h : w ∈ tables_1_2) (hg : goodWord w = true) : w ∈ x_tsl := List.mem_filter.mpr ⟨List.mem_append_right _ (List.mem_append_right _ (List.mem_append_left _ h)), hg⟩
theorem x_l3 {w : Cond} (h : w ∈ tables_1_3) : w ∈ lw_tbl := List.mem_append_right _ (List.mem_append_right _ (List.mem_append_right _ (List.mem_append_left _ h)))
theorem x_t3 {w : Cond} (h : w ∈ tables_1_3) (hg : goodWord w = true) : w ∈ x_tsl := List.mem_filter.mpr ⟨List.mem_append_right _ (List.mem_append_right _ (List.mem_append_right _ (List.mem_append_left _ h))), hg⟩
theorem x_l4 {w : Cond} (h : w ∈ tables_1_4) : w ∈ lw_tbl := List.mem_append_right _ (List.mem_append_right _ (List.mem_append_right _ (List.mem_append_right _ (List.mem_append_left _ h))))
theorem x_t4 {w : Cond} (h : w ∈ tables_1_4) (hg : goodWord w = true) : w ∈ x_tsl := List.mem_filter.mpr ⟨List.mem_append_right _ (List.mem_append_right _ (List.mem_append_right _ (List.mem_append_right _ (List.mem_append_left _ h)))), hg⟩
theorem x_l5 {w : Cond} (h : w ∈ tables_1_5) : w ∈ lw_tbl := List.mem_append_right _ (List.mem_append_right _ (List.mem_append_right _ (List.mem_append_right _ (List.mem_append_right _ (List.mem_append_left _ h)))))
theorem x_t5 {w : Cond} (h : w ∈ tables_1_5) (hg : goodWord w = true) : w ∈ x_tsl := List.mem_filter.mpr ⟨List.mem_append_right _ (List.mem_append_right _ (List.mem_append_right _ (List.mem_append_right _ (List.mem_append_right _ (List.mem_append_left _ h))))), hg⟩
theorem x_l6 {w : Cond} (h : w ∈ tables_1_6) : w ∈ lw_tbl := List.mem_append_right _ (List.mem_append_right _ (List.mem_append_right _ (List.mem_append_right _ (List.mem_append_right _ (List.mem_append_right _ (List.mem_append_left _ h))))))
theorem x_t6 {w : Cond} (h : w ∈ tables_1_6) (hg : goodWord w = true) : w ∈ x_tsl := List.mem_filter.mpr ⟨List.mem_append_right _ (List.mem_append_right _ (List.mem_append_right _ (List.mem_append_right _ (List.mem_append_right _ (List.mem_append_right _ (List.mem_append_left _ h)))))), hg⟩
theorem x_l7 {w : Cond} (h : w ∈ tables_1_7) : w ∈ lw_tbl := List.mem_append_right _ (List.mem_append_right _ (List.mem_append_right _ (List.mem_append_right _ (List.mem_append_right _ (List.mem_append_right _ (List.mem_append_right _ (h)))))))
theorem x_t7 {w : Cond} (h : w ∈ tables_1_7) (hg : goodWord w = true) : w ∈ x_tsl := List.mem_filter.mpr ⟨List.mem_append_right _ (List.mem_append_right _ (List.mem_append_right _ (List.mem_append_right _ (List.mem_append_right _ (List.mem_append_right _ (List.mem_append_right _ (h))))))), hg⟩
theorem w_0 : Cond.initialized "QuestionReaderLaw" ∈ x_tsl := x_t1 (List.mem_of_getElem? (i := 0) rfl) rfl
theorem w_1 : Cond.initialized "QuestionReader" ∈ x_tsl := x_t1 (List.mem_of_getElem? (i := 1) rfl) rfl
theorem w_2 : Cond.initialized "QuestionReader$Text" ∈ x_tsl := x_t1 (List.mem_of_getElem? (i := 2) rfl) rfl
theorem w_3 : Cond.initialized "QuestionReader$Lexer" ∈ x_tsl := x_t1 (List.mem_of_getElem? (i := 3) rfl) rfl
theorem w_4 : Cond.initialized "java/lang/Enum" ∈ x_tsl := x_t1 (List.mem_of_getElem? (i := 4) rfl) rfl
theorem w_5 : Cond.initialized "QuestionReader$Kind" ∈ x_tsl := x_t1 (List.mem_of_getElem? (i := 5) rfl) rfl
theorem w_6 : Cond.initialized "QuestionReader$Catalog" ∈ x_tsl := x_t1 (List.mem_of_getElem? (i := 6) rfl) rfl
theorem w_7 : Cond.initialized "QuestionReader$Names" ∈ x_tsl := x_t1 (List.mem_of_getElem? (i := 7) rfl) rfl
theorem w_8 : Cond.initialized "QuestionReader$Dimension" ∈ x_tsl := x_t1 (List.mem_of_getElem? (i := 8) rfl) rfl
theorem w_9 : Cond.initialized "QuestionReader$CatalogGrammar" ∈ x_tsl := x_t1 (List.mem_of_getElem? (i := 9) rfl) rfl
theorem w_10 : Cond.initialized "QuestionReader$QuestionGrammar" ∈ x_tsl := x_t1 (List.mem_of_getElem? (i := 10) rfl) rfl
theorem w_11 : Cond.initialized "QuestionReader$Question" ∈ x_tsl := x_t1 (List.mem_of_getElem? (i := 11) rfl) rfl
theorem w_12 : Cond.initialized "QuestionReader$Condition" ∈ x_tsl := x_t1 (List.mem_of_getElem? (i := 12) rfl) rfl
theorem w_13 : Cond.initialized "QuestionReader$Comparison" ∈ x_tsl := x_t1 (List.mem_of_getElem? (i := 13) rfl) rfl
theorem w_14 : Cond.initialized "QuestionReaderModel" ∈ x_tsl := x_t1 (List.mem_of_getElem? (i := 14) rfl) rfl
theorem w_15 : Cond.initialized "QuestionReaderModel$Question" ∈ x_tsl := x_t1 (List.mem_of_getElem? (i := 15) rfl) rfl
theorem w_16 : Cond.initialized "java/lang/Throwable" ∈ x_tsl := x_t1 (List.mem_of_getElem? (i := 16) rfl) rfl
theorem w_17 : Cond.initialized "java/lang/Exception" ∈ x_tsl := x_t1 (List.mem_of_getElem? (i := 17) rfl) rfl
theorem w_18 : Cond.initialized "java/lang/RuntimeException" ∈ x_tsl := x_t1 (List.mem_of_getElem? (i := 18) rfl) rfl
theorem w_19 : Cond.initialized "java/lang/IllegalStateException" ∈ x_tsl := x_t1 (List.mem_of_getElem? (i := 19) rfl) rfl
theorem w_20 : Cond.initialized "java/lang/IllegalArgumentException" ∈ x_tsl := x_t1 (List.mem_of_getElem? (i := 20) rfl) rfl
theorem w_21 : Cond.initialized "java/lang/System" ∈ x_tsl := x_t1 (List.mem_of_getElem? (i := 21) rfl) rfl
theorem w_22 : Cond.initialized "java/lang/String" ∈ x_tsl := x_t1 (List.mem_of_getElem? (i := 22) rfl) rfl
theorem w_23 : Cond.initialized "java/lang/StringLatin1" ∈ x_tsl := x_t1 (List.mem_of_getElem? (i := 23) rfl) rfl
theorem w_24 : Cond.initialized "jdk/internal/util/Preconditions" ∈ x_tsl := x_t1 (List.mem_of_getElem? (i := 24) rfl) rfl
theorem w_25 : Cond.initialized "java/lang/StringUTF16" ∈ x_tsl := x_t1 (List.mem_of_getElem? (i := 25) rfl) rfl
theorem w_26 : Cond.classLink "QuestionReaderLaw" 8 "QuestionReader" ∈ x_tsl := x_t1 (List.mem_of_getElem? (i := 26) rfl) rfl
theorem w_27 : Cond.instantiable "QuestionReader" 5 ∈ x_tsl := x_t1 (List.mem_of_getElem? (i := 27) rfl) rfl
theorem w_28 : Cond.methodLink "QuestionReaderLaw" 60 ⟨"QuestionReader", "<init>", "()V"⟩ ∈ x_tsl := x_t1 (List.mem_of_getElem? (i := 28) rfl) rfl
theorem w_29 : Cond.instanceMethod ⟨"QuestionReader", "<init>", "()V"⟩ ∈ x_tsl := x_t1 (List.mem_of_getElem? (i := 29) rfl) rfl
theorem w_30 : Cond.code ⟨"QuestionReader", "<init>", "()V"⟩ prog_1_method_1_code 1 none ∈ x_tsl := x_t1 (List.mem_of_getElem? (i := 30) rfl) rfl
theorem w_31 : Cond.methodLink "QuestionReader" 1 ⟨"java/lang/Object", "<init>", "()V"⟩ ∈ x_tsl := x_t1 (List.mem_of_getElem? (i := 31) rfl) rfl
theorem w_32 : Cond.instanceMethod ⟨"java/lang/Object", "<init>", "()V"⟩ ∈ x_tsl := x_t1 (List.mem_of_getElem? (i := 32) rfl) rfl
theorem w_33 : Cond.code ⟨"java/lang/Object", "<init>", "()V"⟩ object_method_1_code 1 none ∈ x_tsl := x_t1 (List.mem_of_getElem? (i := 33) rfl) rfl
theorem w_34 : Cond.classLink "QuestionReader" 7 "QuestionReader$Text" ∈ x_tsl := x_t1 (List.mem_of_getElem? (i := 34) rfl) rfl
theorem w_35 : Cond.instantiable "QuestionReader$Text" 2 ∈ x_tsl := x_t1 (List.mem_of_getElem? (i := 35) rfl) rfl
theorem w_37 : Cond.instanceMethod ⟨"QuestionReader$Text", "<init>", "()V"⟩ ∈ x_tsl := x_t1 (List.mem_of_getElem? (i := 37) rfl) rfl
theorem w_38 : Cond.code ⟨"QuestionReader$Text", "<init>", "()V"⟩ prog_12_method_1_code 1 none ∈ x_tsl := x_t1 (List.mem_of_getElem? (i := 38) rfl) rfl
theorem w_39 : Cond.methodLink "QuestionReader$Text" 1 ⟨"java/lang/Object", "<init>", "()V"⟩ ∈ x_tsl := x_t1 (List.mem_of_getElem? (i := 39) rfl) rfl
theorem w_40 : Cond.constant "QuestionReader$Text" 9 (65536 : Int32) ∈ x_tsl := x_t1 (List.mem_of_getElem? (i := 40) rfl) rfl
theorem w_41 : Cond.fieldLink "QuestionReader$Text" 10 "QuestionReader$Text" "bytes" "[B" ∈ x_tsl := x_t1 (List.mem_of_getElem? (i := 41) rfl) rfl
theorem w_42 : Cond.fieldLink "QuestionReader$Names" 32 "QuestionReader$Text" "bytes" "[B" ∈ x_tsl := x_t1 (List.mem_of_getElem? (i := 42) rfl) rfl
theorem w_43 : Cond.fieldLink "QuestionReader$Lexer" 52 "QuestionReader$Text" "bytes" "[B" ∈ x_tsl := x_t1 (List.mem_of_getElem? (i := 43) rfl) rfl
theorem w_44 : Cond.fieldLink "QuestionReader" 48 "QuestionReader$Text" "length" "I" ∈ x_tsl := x_t1 (List.mem_of_getElem? (i := 44) rfl) rfl
theorem w_45 : Cond.fieldLink "QuestionReader$Text" 14 "QuestionReader$Text" "length" "I" ∈ x_tsl := x_t1 (List.mem_of_getElem? (i := 45) rfl) rfl
theorem w_46 : Cond.fieldLink "QuestionReader$Lexer" 47 "QuestionReader$Text" "length" "I" ∈ x_tsl := x_t1 (List.mem_of_getElem? (i := 46) rfl) rfl
theorem w_47 : Cond.laysFinal "QuestionReader$Text" "QuestionReader$Text" "bytes" "[B" ∈ x_tsl := x_t1 (List.mem_of_getElem? (i := 47) rfl) rfl
theorem w_49 : Cond.lays "QuestionReader$Text" "QuestionReader$Text" "length" "I" ∈ x_tsl := x_t1 (List.mem_of_getElem? (i := 49) rfl) rfl
theorem w_52 : Cond.arrayClass FieldType.byte ∈ x_tsl := x_t1 (List.mem_of_getElem? (i := 52) rfl) rfl
theorem w_53 : Cond.classLink "QuestionReader" 16 "QuestionReader$Lexer" ∈ x_tsl := x_t1 (List.mem_of_getElem? (i := 53) rfl) rfl
theorem w_54 : Cond.instantiable "QuestionReader$Lexer" 9 ∈ x_tsl := x_t1 (List.mem_of_getElem? (i := 54) rfl) rfl
theorem w_55 : Cond.methodLink "QuestionReader" 18 ⟨"QuestionReader$Lexer", "<init>", "(LQuestionReader$Text;)V"⟩ ∈ x_tsl := x_t1 (List.mem_of_getElem? (i := 55) rfl) rfl
theorem w_56 : Cond.instanceMethod ⟨"QuestionReader$Lexer", "<init>", "(LQuestionReader$Text;)V"⟩ ∈ x_tsl := x_t1 (List.mem_of_getElem? (i := 56) rfl) rfl
theorem w_57 : Cond.code ⟨"QuestionReader$Lexer", "<init>", "(LQuestionReader$Text;)V"⟩ prog_8_method_1_code 2 none ∈ x_tsl := x_t1 (List.mem_of_getElem? (i := 57) rfl) rfl
theorem w_58 : Cond.methodLink "QuestionReader$Lexer" 3 ⟨"java/lang/Object", "<init>", "()V"⟩ ∈ x_tsl := x_t1 (List.mem_of_getElem? (i := 58) rfl) rfl
theorem w_59 : Cond.fieldLink "QuestionReader$Lexer" 9 "QuestionReader$Kind" "END" "LQuestionReader$Kind;" ∈ x_tsl := x_t1 (List.mem_of_getElem? (i := 59) rfl) rfl
theorem w_61 : Cond.fieldLink "QuestionReader$Lexer" 24 "QuestionReader$Lexer" "text" "LQuestionReader$Text;" ∈ x_tsl := x_t1 (List.mem_of_getElem? (i := 61) rfl) rfl
theorem w_62 : Cond.fieldLink "QuestionReader$Names" 28 "QuestionReader$Lexer" "text" "LQuestionReader$Text;" ∈ x_tsl := x_t1 (List.mem_of_getElem? (i := 62) rfl) rfl
theorem w_63 : Cond.fieldLink "QuestionReader$Lexer" 15 "QuestionReader$Lexer" "kind" "LQuestionReader$Kind;" ∈ x_tsl := x_t1 (List.mem_of_getElem? (i := 63) rfl) rfl
theorem w_64 : Cond.fieldLink "QuestionReader$CatalogGrammar" 26 "QuestionReader$Lexer" "kind" "LQuestionReader$Kind;" ∈ x_tsl := x_t1 (List.mem_of_getElem? (i := 64) rfl) rfl
theorem w_65 : Cond.fieldLink "QuestionReader$QuestionGrammar" 53 "QuestionReader$Lexer" "kind" "LQuestionReader$Kind;" ∈ x_tsl := x_t1 (List.mem_of_getElem? (i := 65) rfl) rfl
theorem w_66 : Cond.fieldLink "QuestionReader" 83 "QuestionReader$Lexer" "kind" "LQuestionReader$Kind;" ∈ x_tsl := x_t1 (List.mem_of_getElem? (i := 66) rfl) rfl
theorem w_67 : Cond.fieldLink "QuestionReader$Names" 25 "QuestionReader$Lexer" "start" "I" ∈ x_tsl := x_t1 (List.mem_of_getElem? (i := 67) rfl) rfl
theorem w_68 : Cond.fieldLink "QuestionReader$Lexer" 37 "QuestionReader$Lexer" "start" "I" ∈ x_tsl := x_t1 (List.mem_of_getElem? (i := 68) rfl) rfl
theorem w_69 : Cond.fieldLink "QuestionReader$QuestionGrammar" 95 "QuestionReader$Lexer" "start" "I" ∈ x_tsl := x_t1 (List.mem_of_getElem? (i := 69) rfl) rfl
theorem w_70 : Cond.fieldLink "QuestionReader$CatalogGrammar" 145 "QuestionReader$Lexer" "start" "I" ∈ x_tsl := x_t1 (List.mem_of_getElem? (i := 70) rfl) rfl
theorem w_71 : Cond.fieldLink "QuestionReader$Names" 19 "QuestionReader$Lexer" "end" "I" ∈ x_tsl := x_t1 (List.mem_of_getElem? (i := 71) rfl) rfl
theorem w_72 : Cond.fieldLink "QuestionReader$Lexer" 28 "QuestionReader$Lexer" "end" "I" ∈ x_tsl := x_t1 (List.mem_of_getElem? (i := 72) rfl) rfl
theorem w_73 : Cond.fieldLink "QuestionReader$Lexer" 82 "QuestionReader$Lexer" "number" "I" ∈ x_tsl := x_t1 (List.mem_of_getElem? (i := 73) rfl) rfl
theorem w_74 : Cond.fieldLink "QuestionReader$CatalogGrammar" 164 "QuestionReader$Lexer" "number" "I" ∈ x_tsl := x_t1 (List.mem_of_getElem? (i := 74) rfl) rfl
theorem w_75 : Cond.fieldLink "QuestionReader$QuestionGrammar" 245 "QuestionReader$Lexer" "number" "I" ∈ x_tsl := x_t1 (List.mem_of_getElem? (i := 75) rfl) rfl
theorem w_76 : Cond.fieldLink "QuestionReader$Lexer" 31 "QuestionReader$Lexer" "faultKind" "I" ∈ x_tsl := x_t1 (List.mem_of_getElem? (i := 76) rfl) rfl
theorem w_77 : Cond.fieldLink "QuestionReader" 102 "QuestionReader$Lexer" "faultKind" "I" ∈ x_tsl := x_t1 (List.mem_of_getElem? (i := 77) rfl) rfl
theorem w_78 : Cond.fieldLink "QuestionReader$Lexer" 20 "QuestionReader$Lexer" "faultPlace" "I" ∈ x_tsl := x_t1 (List.mem_of_getElem? (i := 78) rfl) rfl
theorem w_79 : Cond.fieldLink "QuestionReader" 105 "QuestionReader$Lexer" "faultPlace" "I" ∈ x_tsl := x_t1 (List.mem_of_getElem? (i := 79) rfl) rfl
theorem w_80 : Cond.fieldLink "QuestionReader$Lexer" 40 "QuestionReader$Lexer" "isWord" "Z" ∈ x_tsl := x_t1 (List.mem_of_getElem? (i := 80) rfl) rfl
theorem w_81 : Cond.fieldLink "QuestionReader$Lexer" 44 "QuestionReader$Lexer" "unfit" "I" ∈ x_tsl := x_t1 (List.mem_of_getElem? (i := 81) rfl) rfl
theorem w_82 : Cond.laysFinal "QuestionReader$Lexer" "QuestionReader$Lexer" "text" "LQuestionReader$Text;" ∈ x_tsl := x_t1 (List.mem_of_getElem? (i := 82) rfl) rfl
theorem w_84 : Cond.lays "QuestionReader$Lexer" "QuestionReader$Lexer" "kind" "LQuestionReader$Kind;" ∈ x_tsl := x_t1 (List.mem_of_getElem? (i := 84) rfl) rfl
theorem w_86 : Cond.lays "QuestionReader$Lexer" "QuestionReader$Lexer" "start" "I" ∈ x_tsl := x_t1 (List.mem_of_getElem? (i := 86) rfl) rfl
theorem w_88 : Cond.lays "QuestionReader$Lexer" "QuestionReader$Lexer" "end" "I" ∈ x_tsl := x_t1 (List.mem_of_getElem? (i := 88) rfl) rfl
theorem w_90 : Cond.lays "QuestionReader$Lexer" "QuestionReader$Lexer" "number" "I" ∈ x_tsl := x_t1 (List.mem_of_getElem? (i := 90) rfl) rfl
theorem w_92 : Cond.lays "QuestionReader$Lexer" "QuestionReader$Lexer" "faultKind" "I" ∈ x_tsl := x_t1 (List.mem_of_getElem? (i := 92) rfl) rfl
theorem w_94 : Cond.lays "QuestionReader$Lexer" "QuestionReader$Lexer" "faultPlace" "I" ∈ x_tsl := x_t1 (List.mem_of_getElem? (i := 94) rfl) rfl
theorem w_96 : Cond.lays "QuestionReader$Lexer" "QuestionReader$Lexer" "isWord" "Z" ∈ x_tsl := x_t1 (List.mem_of_getElem? (i := 96) rfl) rfl
theorem w_98 : Cond.lays "QuestionReader$Lexer" "QuestionReader$Lexer" "unfit" "I" ∈ x_tsl := x_t1 (List.mem_of_getElem? (i := 98) rfl) rfl
theorem w_101 : Cond.classLink "QuestionReader" 25 "QuestionReader$Catalog" ∈ x_tsl := x_t1 (List.mem_of_getElem? (i := 101) rfl) rfl
theorem w_102 : Cond.instantiable "QuestionReader$Catalog" 5 ∈ x_tsl := x_t1 (List.mem_of_getElem? (i := 102) rfl) rfl
theorem w_103 : Cond.methodLink "QuestionReader" 27 ⟨"QuestionReader$Catalog", "<init>", "()V"⟩ ∈ x_tsl := x_t1 (List.mem_of_getElem? (i := 103) rfl) rfl
theorem w_104 : Cond.instanceMethod ⟨"QuestionReader$Catalog", "<init>", "()V"⟩ ∈ x_tsl := x_t1 (List.mem_of_getElem? (i := 104) rfl) rfl
theorem w_105 : Cond.code ⟨"QuestionReader$Catalog", "<init>", "()V"⟩ prog_2_method_1_code 2 none ∈ x_tsl := x_t1 (List.mem_of_getElem? (i := 105) rfl) rfl
theorem w_106 : Cond.methodLink "QuestionReader$Catalog" 3 ⟨"java/lang/Object", "<init>", "()V"⟩ ∈ x_tsl := x_t1 (List.mem_of_getElem? (i := 106) rfl) rfl
theorem w_107 : Cond.classLink "QuestionReader$Catalog" 9 "QuestionReader$Names" ∈ x_tsl := x_t1 (List.mem_of_getElem? (i := 107) rfl) rfl
theorem w_108 : Cond.instantiable "QuestionReader$Names" 2 ∈ x_tsl := x_t1 (List.mem_of_getElem? (i := 108) rfl) rfl
theorem w_110 : Cond.instanceMethod ⟨"QuestionReader$Names", "<init>", "()V"⟩ ∈ x_tsl := x_t1 (List.mem_of_getElem? (i := 110) rfl) rfl
theorem w_111 : Cond.code ⟨"QuestionReader$Names", "<init>", "()V"⟩ prog_9_method_1_code 1 none ∈ x_tsl := x_t1 (List.mem_of_getElem? (i := 111) rfl) rfl
theorem w_112 : Cond.methodLink "QuestionReader$Names" 3 ⟨"java/lang/Object", "<init>", "()V"⟩ ∈ x_tsl := x_t1 (List.mem_of_getElem? (i := 112) rfl) rfl
theorem w_113 : Cond.fieldLink "QuestionReader$Names" 11 "QuestionReader$Names" "letters" "[B" ∈ x_tsl := x_t1 (List.mem_of_getElem? (i := 113) rfl) rfl
theorem w_114 : Cond.fieldLink "QuestionReader$Names" 15 "QuestionReader$Names" "lengths" "[I" ∈ x_tsl := x_t1 (List.mem_of_getElem? (i := 114) rfl) rfl
theorem w_115 : Cond.laysFinal "QuestionReader$Names" "QuestionReader$Names" "letters" "[B" ∈ x_tsl := x_t1 (List.mem_of_getElem? (i := 115) rfl) rfl
theorem w_117 : Cond.laysFinal "QuestionReader$Names" "QuestionReader$Names" "lengths" "[I" ∈ x_tsl := x_t1 (List.mem_of_getElem? (i := 117) rfl) rfl
theorem w_120 : Cond.arrayClass FieldType.int ∈ x_tsl := x_t1 (List.mem_of_getElem? (i := 120) rfl) rfl
theorem w_121 : Cond.classLink "QuestionReader$Catalog" 18 "QuestionReader$Dimension" ∈ x_tsl := x_t1 (List.mem_of_getElem? (i := 121) rfl) rfl
theorem w_123 : Cond.instantiable "QuestionReader$Dimension" 7 ∈ x_tsl := x_t1 (List.mem_of_getElem? (i := 123) rfl) rfl
theorem w_124 : Cond.methodLink "QuestionReader$Catalog" 24 ⟨"QuestionReader$Dimension", "<init>", "()V"⟩ ∈ x_tsl := x_t1 (List.mem_of_getElem? (i := 124) rfl) rfl
theorem w_125 : Cond.instanceMethod ⟨"QuestionReader$Dimension", "<init>", "()V"⟩ ∈ x_tsl := x_t1 (List.mem_of_getElem? (i := 125) rfl) rfl
theorem w_126 : Cond.code ⟨"QuestionReader$Dimension", "<init>", "()V"⟩ prog_6_method_1_code 2 none ∈ x_tsl := x_t1 (List.mem_of_getElem? (i := 126) rfl) rfl
theorem w_127 : Cond.methodLink "QuestionReader$Dimension" 3 ⟨"java/lang/Object", "<init>", "()V"⟩ ∈ x_tsl := x_t1 (List.mem_of_getElem? (i := 127) rfl) rfl
theorem w_128 : Cond.classLink "QuestionReader$Dimension" 11 "[[I" ∈ x_tsl := x_t1 (List.mem_of_getElem? (i := 128) rfl) rfl
theorem w_130 : Cond.fieldLink "QuestionReader$Dimension" 26 "QuestionReader$Dimension" "levelCount" "I" ∈ x_tsl := x_t1 (List.mem_of_getElem? (i := 130) rfl) rfl
theorem w_131 : Cond.fieldLink "QuestionReader$Catalog" 33 "QuestionReader$Dimension" "levelCount" "I" ∈ x_tsl := x_t1 (List.mem_of_getElem? (i := 131) rfl) rfl
theorem w_132 : Cond.fieldLink "QuestionReader$CatalogGrammar" 99 "QuestionReader$Dimension" "levelCount" "I" ∈ x_tsl := x_t1 (List.mem_of_getElem? (i := 132) rfl) rfl
theorem w_133 : Cond.fieldLink "QuestionReader$QuestionGrammar" 153 "QuestionReader$Dimension" "levelCount" "I" ∈ x_tsl := x_t1 (List.mem_of_getElem? (i := 133) rfl) rfl
theorem w_134 : Cond.fieldLink "QuestionReader" 148 "QuestionReader$Dimension" "levelCount" "I" ∈ x_tsl := x_t1 (List.mem_of_getElem? (i := 134) rfl) rfl
theorem w_135 : Cond.fieldLink "QuestionReader$Dimension" 38 "QuestionReader$Dimension" "memberCount" "I" ∈ x_tsl := x_t1 (List.mem_of_getElem? (i := 135) rfl) rfl
theorem w_136 : Cond.fieldLink "QuestionReader$Catalog" 36 "QuestionReader$Dimension" "memberCount" "I" ∈ x_tsl := x_t1 (List.mem_of_getElem? (i := 136) rfl) rfl
theorem w_137 : Cond.fieldLink "QuestionReader$CatalogGrammar" 138 "QuestionReader$Dimension" "memberCount" "I" ∈ x_tsl := x_t1 (List.mem_of_getElem? (i := 137) rfl) rfl
theorem w_138 : Cond.fieldLink "QuestionReader" 153 "QuestionReader$Dimension" "memberCount" "I" ∈ x_tsl := x_t1 (List.mem_of_getElem? (i := 138) rfl) rfl
theorem w_139 : Cond.fieldLink "QuestionReader$Dimension" 48 "QuestionReader$Dimension" "picked" "I" ∈ x_tsl := x_t1 (List.mem_of_getElem? (i := 139) rfl) rfl
theorem w_140 : Cond.fieldLink "QuestionReader$Catalog" 64 "QuestionReader$Dimension" "picked" "I" ∈ x_tsl := x_t1 (List.mem_of_getElem? (i := 140) rfl) rfl
theorem w_141 : Cond.fieldLink "QuestionReader" 205 "QuestionReader$Dimension" "picked" "I" ∈ x_tsl := x_t1 (List.mem_of_getElem? (i := 141) rfl) rfl
theorem w_142 : Cond.fieldLink "QuestionReader$Dimension" 13 "QuestionReader$Dimension" "values" "[[I" ∈ x_tsl := x_t1 (List.mem_of_getElem? (i := 142) rfl) rfl
theorem w_143 : Cond.fieldLink "QuestionReader$Dimension" 16 "QuestionReader$Dimension" "rows" "[I" ∈ x_tsl := x_t1 (List.mem_of_getElem? (i := 143) rfl) rfl
theorem w_144 : Cond.fieldLink "QuestionReader$Dimension" 20 "QuestionReader$Dimension" "sorted" "[[I" ∈ x_tsl := x_t1 (List.mem_of_getElem? (i := 144) rfl) rfl
theorem w_145 : Cond.fieldLink "QuestionReader$Dimension" 23 "QuestionReader$Dimension" "sortedCounts" "[I" ∈ x_tsl := x_t1 (List.mem_of_getElem? (i := 145) rfl) rfl
theorem w_146 : Cond.lays "QuestionReader$Dimension" "QuestionReader$Dimension" "levelCount" "I" ∈ x_tsl := x_t1 (List.mem_of_getElem? (i := 146) rfl) rfl
theorem w_148 : Cond.lays "QuestionReader$Dimension" "QuestionReader$Dimension" "memberCount" "I" ∈ x_tsl := x_t1 (List.mem_of_getElem? (i := 148) rfl) rfl
theorem w_150 : Cond.lays "QuestionReader$Dimension" "QuestionReader$Dimension" "picked" "I" ∈ x_tsl := x_t1 (List.mem_of_getElem? (i := 150) rfl) rfl
theorem w_152 : Cond.laysFinal "QuestionReader$Dimension" "QuestionReader$Dimension" "values" "[[I" ∈ x_tsl := x_t1 (List.mem_of_getElem? (i := 152) rfl) rfl
theorem w_154 : Cond.laysFinal "QuestionReader$Dimension" "QuestionReader$Dimension" "rows" "[I" ∈ x_tsl := x_t1 (List.mem_of_getElem? (i := 154) rfl) rfl
theorem w_156 : Cond.laysFinal "QuestionReader$Dimension" "QuestionReader$Dimension" "sorted" "[[I" ∈ x_tsl := x_t1 (List.mem_of_getElem? (i := 156) rfl) rfl
theorem w_158 : Cond.laysFinal "QuestionReader$Dimension" "QuestionReader$Dimension" "sortedCounts" "[I" ∈ x_tsl := x_t1 (List.mem_of_getElem? (i := 158) rfl) rfl
theorem w_161 : Cond.fieldLink "QuestionReader$Catalog" 12 "QuestionReader$Catalog" "names" "LQuestionReader$Names;" ∈ x_tsl := x_t1 (List.mem_of_getElem? (i := 161) rfl) rfl
theorem w_162 : Cond.fieldLink "QuestionReader$CatalogGrammar" 19 "QuestionReader$Catalog" "names" "LQuestionReader$Names;" ∈ x_tsl := x_t1 (List.mem_of_getElem? (i := 162) rfl) rfl
theorem w_163 : Cond.fieldLink "QuestionReader$QuestionGrammar" 29 "QuestionReader$Catalog" "names" "LQuestionReader$Names;" ∈ x_tsl := x_t1 (List.mem_of_getElem? (i := 163) rfl) rfl
theorem w_164 : Cond.fieldLink "QuestionReader" 183 "QuestionReader$Catalog" "names" "LQuestionReader$Names;" ∈ x_tsl := x_t1 (List.mem_of_getElem? (i := 164) rfl) rfl
theorem w_165 : Cond.fieldLink "QuestionReader$Catalog" 20 "QuestionReader$Catalog" "dimensions" "[LQuestionReader$Dimension;" ∈ x_tsl := x_t1 (List.mem_of_getElem? (i := 165) rfl) rfl
theorem w_166 : Cond.fieldLink "QuestionReader$CatalogGrammar" 95 "QuestionReader$Catalog" "dimensions" "[LQuestionReader$Dimension;" ∈ x_tsl := x_t1 (List.mem_of_getElem? (i := 166) rfl) rfl
theorem w_167 : Cond.fieldLink "QuestionReader$QuestionGrammar" 149 "QuestionReader$Catalog" "dimensions" "[LQuestionReader$Dimension;" ∈ x_tsl := x_t1 (List.mem_of_getElem? (i := 167) rfl) rfl
theorem w_168 : Cond.fieldLink "QuestionReader" 144 "QuestionReader$Catalog" "dimensions" "[LQuestionReader$Dimension;" ∈ x_tsl := x_t1 (List.mem_of_getElem? (i := 168) rfl) rfl
theorem w_169 : Cond.fieldLink "QuestionReader$Catalog" 25 "QuestionReader$Catalog" "dimensionCount" "I" ∈ x_tsl := x_t1 (List.mem_of_getElem? (i := 169) rfl) rfl
theorem w_170 : Cond.fieldLink "QuestionReader$CatalogGrammar" 67 "QuestionReader$Catalog" "dimensionCount" "I" ∈ x_tsl := x_t1 (List.mem_of_getElem? (i := 170) rfl) rfl
theorem w_171 : Cond.fieldLink "QuestionReader$QuestionGrammar" 139 "QuestionReader$Catalog" "dimensionCount" "I" ∈ x_tsl := x_t1 (List.mem_of_getElem? (i := 171) rfl) rfl
theorem w_172 : Cond.fieldLink "QuestionReader" 111 "QuestionReader$Catalog" "dimensionCount" "I" ∈ x_tsl := x_t1 (List.mem_of_getElem? (i := 172) rfl) rfl
theorem w_173 : Cond.fieldLink "QuestionReader$CatalogGrammar" 104 "QuestionReader$Catalog" "measureCount" "I" ∈ x_tsl := x_t1 (List.mem_of_getElem? (i := 173) rfl) rfl
theorem w_174 : Cond.fieldLink "QuestionReader$QuestionGrammar" 132 "QuestionReader$Catalog" "measureCount" "I" ∈ x_tsl := x_t1 (List.mem_of_getElem? (i := 174) rfl) rfl
theorem w_175 : Cond.fieldLink "QuestionReader$Catalog" 50 "QuestionReader$Catalog" "measureCount" "I" ∈ x_tsl := x_t1 (List.mem_of_getElem? (i := 175) rfl) rfl
theorem w_176 : Cond.fieldLink "QuestionReader" 114 "QuestionReader$Catalog" "measureCount" "I" ∈ x_tsl := x_t1 (List.mem_of_getElem? (i := 176) rfl) rfl
theorem w_177 : Cond.fieldLink "QuestionReader$QuestionGrammar" 36 "QuestionReader$Catalog" "isOpen" "Z" ∈ x_tsl := x_t1 (List.mem_of_getElem? (i := 177) rfl) rfl
theorem w_178 : Cond.fieldLink "QuestionReader$CatalogGrammar" 47 "QuestionReader$Catalog" "isOpen" "Z" ∈ x_tsl := x_t1 (List.mem_of_getElem? (i := 178) rfl) rfl
theorem w_179 : Cond.fieldLink "QuestionReader$Catalog" 57 "QuestionReader$Catalog" "isOpen" "Z" ∈ x_tsl := x_t1 (List.mem_of_getElem? (i := 179) rfl) rfl
theorem w_180 : Cond.fieldLink "QuestionReader" 217 "QuestionReader$Catalog" "isOpen" "Z" ∈ x_tsl := x_t1 (List.mem_of_getElem? (i := 180) rfl) rfl
theorem w_181 : Cond.laysFinal "QuestionReader$Catalog" "QuestionReader$Catalog" "names" "LQuestionReader$Names;" ∈ x_tsl := x_t1 (List.mem_of_getElem? (i := 181) rfl) rfl
theorem w_183 : Cond.laysFinal "QuestionReader$Catalog" "QuestionReader$Catalog" "dimensions" "[LQuestionReader$Dimension;" ∈ x_tsl := x_t1 (List.mem_of_getElem? (i := 183) rfl) rfl
theorem w_185 : Cond.lays "QuestionReader$Catalog" "QuestionReader$Catalog" "dimensionCount" "I" ∈ x_tsl := x_t1 (List.mem_of_getElem? (i := 185) rfl) rfl
theorem w_187 : Cond.lays "QuestionReader$Catalog" "QuestionReader$Catalog" "measureCount" "I" ∈ x_tsl := x_t1 (List.mem_of_getElem? (i := 187) rfl) rfl
theorem w_189 : Cond.lays "QuestionReader$Catalog" "QuestionReader$Catalog" "isOpen" "Z" ∈ x_tsl := x_t1 (List.mem_of_getElem? (i := 189) rfl) rfl
theorem w_192 : Cond.classLink "QuestionReader" 32 "QuestionReader$CatalogGrammar" ∈ x_tsl := x_t1 (List.mem_of_getElem? (i := 192) rfl) rfl
theorem w_193 : Cond.instantiable "QuestionReader$CatalogGrammar" 3 ∈ x_tsl := x_t1 (List.mem_of_getElem? (i := 193) rfl) rfl
theorem w_194 : Cond.methodLink "QuestionReader" 34 ⟨"QuestionReader$CatalogGrammar", "<init>", "(LQuestionReader$Lexer;LQuestionReader$Catalog;)V"⟩ ∈ x_tsl := x_t1 (List.mem_of_getElem? (i := 194) rfl) rfl
theorem w_195 : Cond.instanceMethod ⟨"QuestionReader$CatalogGrammar", "<init>", "(LQuestionReader$Lexer;LQuestionReader$Catalog;)V"⟩ ∈ x_tsl := x_t1 (List.mem_of_getElem? (i := 195) rfl) rfl
theorem w_196 : Cond.code ⟨"QuestionReader$CatalogGrammar", "<init>", "(LQuestionReader$Lexer;LQuestionReader$Catalog;)V"⟩ prog_3_method_1_code 3 none ∈ x_tsl := x_t1 (List.mem_of_getElem? (i := 196) rfl) rfl
theorem w_197 : Cond.methodLink "QuestionReader$CatalogGrammar" 3 ⟨"java/lang/Object", "<init>", "()V"⟩ ∈ x_tsl := x_t1 (List.mem_of_getElem? (i := 197) rfl) rfl
theorem w_198 : Cond.fieldLink "QuestionReader$CatalogGrammar" 9 "QuestionReader$CatalogGrammar" "lexer" "LQuestionReader$Lexer;" ∈ x_tsl := x_t1 (List.mem_of_getElem? (i := 198) rfl) rfl
theorem w_199 : Cond.fieldLink "QuestionReader$CatalogGrammar" 15 "QuestionReader$CatalogGrammar" "catalog" "LQuestionReader$Catalog;" ∈ x_tsl := x_t1 (List.mem_of_getElem? (i := 199) rfl) rfl
theorem w_200 : Cond.fieldLink "QuestionReader$CatalogGrammar" 25 "QuestionReader$CatalogGrammar" "names" "LQuestionReader$Names;" ∈ x_tsl := x_t1 (List.mem_of_getElem? (i := 200) rfl) rfl
theorem w_201 : Cond.laysFinal "QuestionReader$CatalogGrammar" "QuestionReader$CatalogGrammar" "lexer" "LQuestionReader$Lexer;" ∈ x_tsl := x_t1 (List.mem_of_getElem? (i := 201) rfl) rfl
theorem w_203 : Cond.laysFinal "QuestionReader$CatalogGrammar" "QuestionReader$CatalogGrammar" "catalog" "LQuestionReader$Catalog;" ∈ x_tsl := x_t1 (List.mem_of_getElem? (i := 203) rfl) rfl
theorem w_205 : Cond.laysFinal "QuestionReader$CatalogGrammar" "QuestionReader$CatalogGrammar" "names" "LQuestionReader$Names;" ∈ x_tsl := x_t1 (List.mem_of_getElem? (i := 205) rfl) rfl
theorem w_208 : Cond.classLink "QuestionReader" 41 "QuestionReader$QuestionGrammar" ∈ x_tsl := x_t1 (List.mem_of_getElem? (i := 208) rfl) rfl
theorem w_209 : Cond.instantiable "QuestionReader$QuestionGrammar" 5 ∈ x_tsl := x_t1 (List.mem_of_getElem? (i := 209) rfl) rfl
theorem w_210 : Cond.methodLink "QuestionReader" 43 ⟨"QuestionReader$QuestionGrammar", "<init>", "(LQuestionReader$Lexer;LQuestionReader$Catalog;)V"⟩ ∈ x_tsl := x_t1 (List.mem_of_getElem? (i := 210) rfl) rfl
theorem w_211 : Cond.instanceMethod ⟨"QuestionReader$QuestionGrammar", "<init>", "(LQuestionReader$Lexer;LQuestionReader$Catalog;)V"⟩ ∈ x_tsl := x_t1 (List.mem_of_getElem? (i := 211) rfl) rfl
theorem w_212 : Cond.code ⟨"QuestionReader$QuestionGrammar", "<init>", "(LQuestionReader$Lexer;LQuestionReader$Catalog;)V"⟩ prog_11_method_1_code 3 none ∈ x_tsl := x_t1 (List.mem_of_getElem? (i := 212) rfl) rfl
theorem w_213 : Cond.methodLink "QuestionReader$QuestionGrammar" 3 ⟨"java/lang/Object", "<init>", "()V"⟩ ∈ x_tsl := x_t1 (List.mem_of_getElem? (i := 213) rfl) rfl
theorem w_214 : Cond.classLink "QuestionReader$QuestionGrammar" 9 "QuestionReader$Question" ∈ x_tsl := x_t1 (List.mem_of_getElem? (i := 214) rfl) rfl
theorem w_215 : Cond.instantiable "QuestionReader$Question" 9 ∈ x_tsl := x_t1 (List.mem_of_getElem? (i := 215) rfl) rfl
theorem w_217 : Cond.instanceMethod ⟨"QuestionReader$Question", "<init>", "()V"⟩ ∈ x_tsl := x_t1 (List.mem_of_getElem? (i := 217) rfl) rfl
theorem w_218 : Cond.code ⟨"QuestionReader$Question", "<init>", "()V"⟩ prog_10_method_1_code 1 none ∈ x_tsl := x_t1 (List.mem_of_getElem? (i := 218) rfl) rfl
theorem w_219 : Cond.methodLink "QuestionReader$Question" 3 ⟨"java/lang/Object", "<init>", "()V"⟩ ∈ x_tsl := x_t1 (List.mem_of_getElem? (i := 219) rfl) rfl
theorem w_220 : Cond.classLink "QuestionReader$Question" 27 "QuestionReader$Condition" ∈ x_tsl := x_t1 (List.mem_of_getElem? (i := 220) rfl) rfl
theorem w_221 : Cond.instantiable "QuestionReader$Condition" 12 ∈ x_tsl := x_t1 (List.mem_of_getElem? (i := 221) rfl) rfl
theorem w_222 : Cond.methodLink "QuestionReader$Question" 29 ⟨"QuestionReader$Condition", "<init>", "()V"⟩ ∈ x_tsl := x_t1 (List.mem_of_getElem? (i := 222) rfl) rfl
theorem w_223 : Cond.instanceMethod ⟨"QuestionReader$Condition", "<init>", "()V"⟩ ∈ x_tsl := x_t1 (List.mem_of_getElem? (i := 223) rfl) rfl
theorem w_224 : Cond.code ⟨"QuestionReader$Condition", "<init>", "()V"⟩ prog_5_method_1_code 2 none ∈ x_tsl := x_t1 (List.mem_of_getElem? (i := 224) rfl) rfl
theorem w_225 : Cond.methodLink "QuestionReader$Condition" 5 ⟨"java/lang/Object", "<init>", "()V"⟩ ∈ x_tsl := x_t1 (List.mem_of_getElem? (i := 225) rfl) rfl
theorem w_226 : Cond.classLink "QuestionReader$Condition" 11 "QuestionReader$Comparison" ∈ x_tsl := x_t1 (List.mem_of_getElem? (i := 226) rfl) rfl
theorem w_228 : Cond.instantiable "QuestionReader$Comparison" 6 ∈ x_tsl := x_t1 (List.mem_of_getElem? (i := 228) rfl) rfl
theorem w_230 : Cond.instanceMethod ⟨"QuestionReader$Comparison", "<init>", "()V"⟩ ∈ x_tsl := x_t1 (List.mem_of_getElem? (i := 230) rfl) rfl
theorem w_231 : Cond.code ⟨"QuestionReader$Comparison", "<init>", "()V"⟩ prog_4_method_1_code 1 none ∈ x_tsl := x_t1 (List.mem_of_getElem? (i := 231) rfl) rfl
theorem w_232 : Cond.methodLink "QuestionReader$Comparison" 1 ⟨"java/lang/Object", "<init>", "()V"⟩ ∈ x_tsl := x_t1 (List.mem_of_getElem? (i := 232) rfl) rfl
theorem w_233 : Cond.fieldLink "QuestionReader$Comparison" 13 "QuestionReader$Comparison" "column" "I" ∈ x_tsl := x_t1 (List.mem_of_getElem? (i := 233) rfl) rfl
theorem w_234 : Cond.fieldLink "QuestionReader$Condition" 65 "QuestionReader$Comparison" "column" "I" ∈ x_tsl := x_t1 (List.mem_of_getElem? (i := 234) rfl) rfl
theorem w_235 : Cond.fieldLink "QuestionReader$Comparison" 17 "QuestionReader$Comparison" "isNegated" "Z" ∈ x_tsl := x_t1 (List.mem_of_getElem? (i := 235) rfl) rfl
theorem w_236 : Cond.fieldLink "QuestionReader$QuestionGrammar" 220 "QuestionReader$Comparison" "isNegated" "Z" ∈ x_tsl := x_t1 (List.mem_of_getElem? (i := 236) rfl) rfl
theorem w_237 : Cond.fieldLink "QuestionReader$Comparison" 24 "QuestionReader$Comparison" "low" "I" ∈ x_tsl := x_t1 (List.mem_of_getElem? (i := 237) rfl) rfl
theorem w_238 : Cond.fieldLink "QuestionReader$Comparison" 27 "QuestionReader$Comparison" "high" "I" ∈ x_tsl := x_t1 (List.mem_of_getElem? (i := 238) rfl) rfl
theorem w_239 : Cond.fieldLink "QuestionReader$Comparison" 21 "QuestionReader$Comparison" "listed" "I" ∈ x_tsl := x_t1 (List.mem_of_getElem? (i := 239) rfl) rfl
theorem w_240 : Cond.fieldLink "QuestionReader$Comparison" 9 "QuestionReader$Comparison" "list" "[I" ∈ x_tsl := x_t2 (List.mem_of_getElem? (i := 0) rfl) rfl
theorem w_241 : Cond.lays "QuestionReader$Comparison" "QuestionReader$Comparison" "column" "I" ∈ x_tsl := x_t2 (List.mem_of_getElem? (i := 1) rfl) rfl
theorem w_243 : Cond.lays "QuestionReader$Comparison" "QuestionReader$Comparison" "isNegated" "Z" ∈ x_tsl := x_t2 (List.mem_of_getElem? (i := 3) rfl) rfl
theorem w_245 : Cond.lays "QuestionReader$Comparison" "QuestionReader$Comparison" "low" "I" ∈ x_tsl := x_t2 (List.mem_of_getElem? (i := 5) rfl) rfl
theorem w_247 : Cond.lays "QuestionReader$Comparison" "QuestionReader$Comparison" "high" "I" ∈ x_tsl := x_t2 (List.mem_of_getElem? (i := 7) rfl) rfl
theorem w_249 : Cond.lays "QuestionReader$Comparison" "QuestionReader$Comparison" "listed" "I" ∈ x_tsl := x_t2 (List.mem_of_getElem? (i := 9) rfl) rfl
theorem w_251 : Cond.laysFinal "QuestionReader$Comparison" "QuestionReader$Comparison" "list" "[I" ∈ x_tsl := x_t2 (List.mem_of_getElem? (i := 11) rfl) rfl
theorem w_254 : Cond.arrayClass FieldType.boolean ∈ x_tsl := x_t2 (List.mem_of_getElem? (i := 14) rfl) rfl
theorem w_255 : Cond.fieldLink "QuestionReader$Condition" 44 "QuestionReader$Condition" "comparisonCount" "I" ∈ x_tsl := x_t2 (List.mem_of_getElem? (i := 15) rfl) rfl
theorem w_256 : Cond.fieldLink "QuestionReader" 130 "QuestionReader$Condition" "comparisonCount" "I" ∈ x_tsl := x_t2 (List.mem_of_getElem? (i := 16) rfl) rfl
theorem w_257 : Cond.fieldLink "QuestionReader$Condition" 51 "QuestionReader$Condition" "depth" "I" ∈ x_tsl := x_t2 (List.mem_of_getElem? (i := 17) rfl) rfl
theorem w_258 : Cond.fieldLink "QuestionReader$QuestionGrammar" 199 "QuestionReader$Condition" "depth" "I" ∈ x_tsl := x_t2 (List.mem_of_getElem? (i := 18) rfl) rfl
theorem w_259 : Cond.fieldLink "QuestionReader$Condition" 13 "QuestionReader$Condition" "comparisons" "[LQuestionReader$Comparison;" ∈ x_tsl := x_t2 (List.mem_of_getElem? (i := 19) rfl) rfl
theorem w_260 : Cond.fieldLink "QuestionReader$Condition" 48 "QuestionReader$Condition" "jointCount" "I" ∈ x_tsl := x_t2 (List.mem_of_getElem? (i := 20) rfl) rfl
theorem w_261 : Cond.fieldLink "QuestionReader$Condition" 17 "QuestionReader$Condition" "lefts" "[I" ∈ x_tsl := x_t2 (List.mem_of_getElem? (i := 21) rfl) rfl
theorem w_262 : Cond.fieldLink "QuestionReader$Condition" 21 "QuestionReader$Condition" "rights" "[I" ∈ x_tsl := x_t2 (List.mem_of_getElem? (i := 22) rfl) rfl
theorem w_263 : Cond.fieldLink "QuestionReader$Condition" 24 "QuestionReader$Condition" "isAnd" "[Z" ∈ x_tsl := x_t2 (List.mem_of_getElem? (i := 23) rfl) rfl
theorem w_264 : Cond.fieldLink "QuestionReader$Condition" 28 "QuestionReader$Condition" "isNegated" "[Z" ∈ x_tsl := x_t2 (List.mem_of_getElem? (i := 24) rfl) rfl
theorem w_265 : Cond.fieldLink "QuestionReader$Condition" 31 "QuestionReader$Condition" "truths" "[Z" ∈ x_tsl := x_t2 (List.mem_of_getElem? (i := 25) rfl) rfl
theorem w_266 : Cond.fieldLink "QuestionReader$Condition" 34 "QuestionReader$Condition" "beforeOr" "[I" ∈ x_tsl := x_t2 (List.mem_of_getElem? (i := 26) rfl) rfl
theorem w_267 : Cond.fieldLink "QuestionReader$Condition" 37 "QuestionReader$Condition" "beforeAnd" "[I" ∈ x_tsl := x_t2 (List.mem_of_getElem? (i := 27) rfl) rfl
theorem w_268 : Cond.fieldLink "QuestionReader$Condition" 40 "QuestionReader$Condition" "isNotAhead" "[Z" ∈ x_tsl := x_t2 (List.mem_of_getElem? (i := 28) rfl) rfl
theorem w_269 : Cond.lays "QuestionReader$Condition" "QuestionReader$Condition" "comparisonCount" "I" ∈ x_tsl := x_t2 (List.mem_of_getElem? (i := 29) rfl) rfl
theorem w_271 : Cond.lays "QuestionReader$Condition" "QuestionReader$Condition" "depth" "I" ∈ x_tsl := x_t2 (List.mem_of_getElem? (i := 31) rfl) rfl
theorem w_273 : Cond.laysFinal "QuestionReader$Condition" "QuestionReader$Condition" "comparisons" "[LQuestionReader$Comparison;" ∈ x_tsl := x_t2 (List.mem_of_getElem? (i := 33) rfl) rfl
theorem w_275 : Cond.lays "QuestionReader$Condition" "QuestionReader$Condition" "jointCount" "I" ∈ x_tsl := x_t2 (List.mem_of_getElem? (i := 35) rfl) rfl
theorem w_277 : Cond.laysFinal "QuestionReader$Condition" "QuestionReader$Condition" "lefts" "[I" ∈ x_tsl := x_t2 (List.mem_of_getElem? (i := 37) rfl) rfl
theorem w_279 : Cond.laysFinal "QuestionReader$Condition" "QuestionReader$Condition" "rights" "[I" ∈ x_tsl := x_t2 (List.mem_of_getElem? (i := 39) rfl) rfl
theorem w_281 : Cond.laysFinal "QuestionReader$Condition" "QuestionReader$Condition" "isAnd" "[Z" ∈ x_tsl := x_t2 (List.mem_of_getElem? (i := 41) rfl) rfl
theorem w_283 : Cond.laysFinal "QuestionReader$Condition" "QuestionReader$Condition" "isNegated" "[Z" ∈ x_tsl := x_t2 (List.mem_of_getElem? (i := 43) rfl) rfl
theorem w_285 : Cond.laysFinal "QuestionReader$Condition" "QuestionReader$Condition" "truths" "[Z" ∈ x_tsl := x_t2 (List.mem_of_getElem? (i := 45) rfl) rfl
theorem w_287 : Cond.laysFinal "QuestionReader$Condition" "QuestionReader$Condition" "beforeOr" "[I" ∈ x_tsl := x_t2 (List.mem_of_getElem? (i := 47) rfl) rfl
theorem w_289 : Cond.laysFinal "QuestionReader$Condition" "QuestionReader$Condition" "beforeAnd" "[I" ∈ x_tsl := x_t2 (List.mem_of_getElem? (i := 49) rfl) rfl
theorem w_291 : Cond.laysFinal "QuestionReader$Condition" "QuestionReader$Condition" "isNotAhead" "[Z" ∈ x_tsl := x_t2 (List.mem_of_getElem? (i := 51) rfl) rfl
theorem w_294 : Cond.fieldLink "QuestionReader$Question" 34 "QuestionReader$Question" "itemCount" "I" ∈ x_tsl := x_t2 (List.mem_of_getElem? (i := 54) rfl) rfl
theorem w_295 : Cond.fieldLink "QuestionReader$QuestionGrammar" 103 "QuestionReader$Question" "itemCount" "I" ∈ x_tsl := x_t2 (List.mem_of_getElem? (i := 55) rfl) rfl
theorem w_296 : Cond.fieldLink "QuestionReader" 117 "QuestionReader$Question" "itemCount" "I" ∈ x_tsl := x_t2 (List.mem_of_getElem? (i := 56) rfl) rfl
theorem w_297 : Cond.fieldLink "QuestionReader$Question" 11 "QuestionReader$Question" "itemTypes" "[I" ∈ x_tsl := x_t2 (List.mem_of_getElem? (i := 57) rfl) rfl
theorem w_298 : Cond.fieldLink "QuestionReader" 192 "QuestionReader$Question" "itemTypes" "[I" ∈ x_tsl := x_t2 (List.mem_of_getElem? (i := 58) rfl) rfl
theorem w_299 : Cond.fieldLink "QuestionReader$Question" 15 "QuestionReader$Question" "itemTargets" "[I" ∈ x_tsl := x_t2 (List.mem_of_getElem? (i := 59) rfl) rfl
theorem w_300 : Cond.fieldLink "QuestionReader" 196 "QuestionReader$Question" "itemTargets" "[I" ∈ x_tsl := x_t2 (List.mem_of_getElem? (i := 60) rfl) rfl
theorem w_301 : Cond.fieldLink "QuestionReader$Question" 18 "QuestionReader$Question" "itemPlaces" "[I" ∈ x_tsl := x_t2 (List.mem_of_getElem? (i := 61) rfl) rfl
theorem w_302 : Cond.fieldLink "QuestionReader$Question" 38 "QuestionReader$Question" "columnCount" "I" ∈ x_tsl := x_t2 (List.mem_of_getElem? (i := 62) rfl) rfl
theorem w_303 : Cond.fieldLink "QuestionReader" 120 "QuestionReader$Question" "columnCount" "I" ∈ x_tsl := x_t2 (List.mem_of_getElem? (i := 63) rfl) rfl
theorem w_304 : Cond.fieldLink "QuestionReader$QuestionGrammar" 275 "QuestionReader$Question" "columnCount" "I" ∈ x_tsl := x_t2 (List.mem_of_getElem? (i := 64) rfl) rfl
theorem w_305 : Cond.fieldLink "QuestionReader$Question" 21 "QuestionReader$Question" "columns" "[I" ∈ x_tsl := x_t2 (List.mem_of_getElem? (i := 65) rfl) rfl
theorem w_306 : Cond.fieldLink "QuestionReader" 199 "QuestionReader$Question" "columns" "[I" ∈ x_tsl := x_t2 (List.mem_of_getElem? (i := 66) rfl) rfl
theorem w_307 : Cond.fieldLink "QuestionReader$Question" 41 "QuestionReader$Question" "setCount" "I" ∈ x_tsl := x_t2 (List.mem_of_getElem? (i := 67) rfl) rfl
theorem w_308 : Cond.fieldLink "QuestionReader" 123 "QuestionReader$Question" "setCount" "I" ∈ x_tsl := x_t2 (List.mem_of_getElem? (i := 68) rfl) rfl
theorem w_309 : Cond.fieldLink "QuestionReader$Question" 24 "QuestionReader$Question" "sets" "[I" ∈ x_tsl := x_t2 (List.mem_of_getElem? (i := 69) rfl) rfl
theorem w_310 : Cond.fieldLink "QuestionReader" 202 "QuestionReader$Question" "sets" "[I" ∈ x_tsl := x_t2 (List.mem_of_getElem? (i := 70) rfl) rfl
theorem w_311 : Cond.fieldLink "QuestionReader$Question" 30 "QuestionReader$Question" "condition" "LQuestionReader$Condition;" ∈ x_tsl := x_t2 (List.mem_of_getElem? (i := 71) rfl) rfl
theorem w_312 : Cond.fieldLink "QuestionReader$QuestionGrammar" 158 "QuestionReader$Question" "condition" "LQuestionReader$Condition;" ∈ x_tsl := x_t2 (List.mem_of_getElem? (i := 72) rfl) rfl
theorem w_313 : Cond.fieldLink "QuestionReader" 126 "QuestionReader$Question" "condition" "LQuestionReader$Condition;" ∈ x_tsl := x_t2 (List.mem_of_getElem? (i := 73) rfl) rfl
theorem w_314 : Cond.lays "QuestionReader$Question" "QuestionReader$Question" "itemCount" "I" ∈ x_tsl := x_t2 (List.mem_of_getElem? (i := 74) rfl) rfl
theorem w_316 : Cond.laysFinal "QuestionReader$Question" "QuestionReader$Question" "itemTypes" "[I" ∈ x_tsl := x_t2 (List.mem_of_getElem? (i := 76) rfl) rfl
theorem w_318 : Cond.laysFinal "QuestionReader$Question" "QuestionReader$Question" "itemTargets" "[I" ∈ x_tsl := x_t2 (List.mem_of_getElem? (i := 78) rfl) rfl
theorem w_320 : Cond.laysFinal "QuestionReader$Question" "QuestionReader$Question" "itemPlaces" "[I" ∈ x_tsl := x_t2 (List.mem_of_getElem? (i := 80) rfl) rfl
theorem w_322 : Cond.lays "QuestionReader$Question" "QuestionReader$Question" "columnCount" "I" ∈ x_tsl := x_t2 (List.mem_of_getElem? (i := 82) rfl) rfl
theorem w_324 : Cond.laysFinal "QuestionReader$Question" "QuestionReader$Question" "columns" "[I" ∈ x_tsl := x_t2 (List.mem_of_getElem? (i := 84) rfl) rfl
theorem w_326 : Cond.lays "QuestionReader$Question" "QuestionReader$Question" "setCount" "I" ∈ x_tsl := x_t2 (List.mem_of_getElem? (i := 86) rfl) rfl
theorem w_328 : Cond.laysFinal "QuestionReader$Question" "QuestionReader$Question" "sets" "[I" ∈ x_tsl := x_t2 (List.mem_of_getElem? (i := 88) rfl) rfl
theorem w_330 : Cond.laysFinal "QuestionReader$Question" "QuestionReader$Question" "condition" "LQuestionReader$Condition;" ∈ x_tsl := x_t2 (List.mem_of_getElem? (i := 90) rfl) rfl
theorem w_333 : Cond.fieldLink "QuestionReader$QuestionGrammar" 21 "QuestionReader$QuestionGrammar" "lexer" "LQuestionReader$Lexer;" ∈ x_tsl := x_t2 (List.mem_of_getElem? (i := 93) rfl) rfl
theorem w_334 : Cond.fieldLink "QuestionReader$QuestionGrammar" 25 "QuestionReader$QuestionGrammar" "catalog" "LQuestionReader$Catalog;" ∈ x_tsl := x_t2 (List.mem_of_getElem? (i := 94) rfl) rfl
theorem w_335 : Cond.fieldLink "QuestionReader$QuestionGrammar" 35 "QuestionReader$QuestionGrammar" "names" "LQuestionReader$Names;" ∈ x_tsl := x_t2 (List.mem_of_getElem? (i := 95) rfl) rfl
theorem w_336 : Cond.fieldLink "QuestionReader$QuestionGrammar" 12 "QuestionReader$QuestionGrammar" "latest" "LQuestionReader$Question;" ∈ x_tsl := x_t2 (List.mem_of_getElem? (i := 96) rfl) rfl
theorem w_337 : Cond.fieldLink "QuestionReader" 71 "QuestionReader$QuestionGrammar" "latest" "LQuestionReader$Question;" ∈ x_tsl := x_t2 (List.mem_of_getElem? (i := 97) rfl) rfl
theorem w_338 : Cond.fieldLink "QuestionReader$QuestionGrammar" 18 "QuestionReader$QuestionGrammar" "draft" "LQuestionReader$Question;" ∈ x_tsl := x_t2 (List.mem_of_getElem? (i := 98) rfl) rfl
theorem w_339 : Cond.laysFinal "QuestionReader$QuestionGrammar" "QuestionReader$QuestionGrammar" "lexer" "LQuestionReader$Lexer;" ∈ x_tsl := x_t2 (List.mem_of_getElem? (i := 99) rfl) rfl
theorem w_341 : Cond.laysFinal "QuestionReader$QuestionGrammar" "QuestionReader$QuestionGrammar" "catalog" "LQuestionReader$Catalog;" ∈ x_tsl := x_t2 (List.mem_of_getElem? (i := 101) rfl) rfl
theorem w_343 : Cond.laysFinal "QuestionReader$QuestionGrammar" "QuestionReader$QuestionGrammar" "names" "LQuestionReader$Names;" ∈ x_tsl := x_t2 (List.mem_of_getElem? (i := 103) rfl) rfl
theorem w_345 : Cond.lays "QuestionReader$QuestionGrammar" "QuestionReader$QuestionGrammar" "latest" "LQuestionReader$Question;" ∈ x_tsl := x_t2 (List.mem_of_getElem? (i := 105) rfl) rfl
theorem w_347 : Cond.lays "QuestionReader$QuestionGrammar" "QuestionReader$QuestionGrammar" "draft" "LQuestionReader$Question;" ∈ x_tsl := x_t2 (List.mem_of_getElem? (i := 107) rfl) rfl
theorem w_350 : Cond.fieldLink "QuestionReader" 10 "QuestionReader" "text" "LQuestionReader$Text;" ∈ x_tsl := x_t2 (List.mem_of_getElem? (i := 110) rfl) rfl
theorem w_351 : Cond.fieldLink "QuestionReader" 21 "QuestionReader" "lexer" "LQuestionReader$Lexer;" ∈ x_tsl := x_t2 (List.mem_of_getElem? (i := 111) rfl) rfl
theorem w_352 : Cond.fieldLink "QuestionReader" 28 "QuestionReader" "catalog" "LQuestionReader$Catalog;" ∈ x_tsl := x_t2 (List.mem_of_getElem? (i := 112) rfl) rfl
theorem w_353 : Cond.fieldLink "QuestionReader" 37 "QuestionReader" "catalogGrammar" "LQuestionReader$CatalogGrammar;" ∈ x_tsl := x_t2 (List.mem_of_getElem? (i := 113) rfl) rfl
theorem w_354 : Cond.fieldLink "QuestionReader" 44 "QuestionReader" "questionGrammar" "LQuestionReader$QuestionGrammar;" ∈ x_tsl := x_t2 (List.mem_of_getElem? (i := 114) rfl) rfl
theorem w_355 : Cond.laysFinal "QuestionReader" "QuestionReader" "text" "LQuestionReader$Text;" ∈ x_tsl := x_t2 (List.mem_of_getElem? (i := 115) rfl) rfl
theorem w_357 : Cond.laysFinal "QuestionReader" "QuestionReader" "lexer" "LQuestionReader$Lexer;" ∈ x_tsl := x_t2 (List.mem_of_getElem? (i := 117) rfl) rfl
theorem w_359 : Cond.laysFinal "QuestionReader" "QuestionReader" "catalog" "LQuestionReader$Catalog;" ∈ x_tsl := x_t2 (List.mem_of_getElem? (i := 119) rfl) rfl
theorem w_361 : Cond.laysFinal "QuestionReader" "QuestionReader" "catalogGrammar" "LQuestionReader$CatalogGrammar;" ∈ x_tsl := x_t2 (List.mem_of_getElem? (i := 121) rfl) rfl
theorem w_363 : Cond.laysFinal "QuestionReader" "QuestionReader" "questionGrammar" "LQuestionReader$QuestionGrammar;" ∈ x_tsl := x_t2 (List.mem_of_getElem? (i := 123) rfl) rfl
theorem w_366 : Cond.methodLink "QuestionReaderLaw" 78 ⟨"QuestionReader", "run", "()I"⟩ ∈ x_tsl := x_t2 (List.mem_of_getElem? (i := 126) rfl) rfl
theorem w_367 : Cond.instanceMethod ⟨"QuestionReader", "run", "()I"⟩ ∈ x_tsl := x_t2 (List.mem_of_getElem? (i := 127) rfl) rfl
theorem w_368 : Cond.selects "QuestionReader" ⟨"QuestionReader", "run", "()I"⟩ ⟨"QuestionReader", "run", "()I"⟩ ∈ x_tsl := x_t2 (List.mem_of_getElem? (i := 128) rfl) rfl
theorem w_369 : Cond.code ⟨"QuestionReader", "run", "()I"⟩ prog_1_method_4_code 4 (Option.some FieldType.int) ∈ x_tsl := x_t2 (List.mem_of_getElem? (i := 129) rfl) rfl
theorem w_370 : Cond.methodLink "QuestionReader" 68 ⟨"QuestionReader$Lexer", "restart", "()V"⟩ ∈ x_tsl := x_t2 (List.mem_of_getElem? (i := 130) rfl) rfl
theorem w_371 : Cond.instanceMethod ⟨"QuestionReader$Lexer", "restart", "()V"⟩ ∈ x_tsl := x_t2 (List.mem_of_getElem? (i := 131) rfl) rfl
theorem w_372 : Cond.selects "QuestionReader$Lexer" ⟨"QuestionReader$Lexer", "restart", "()V"⟩ ⟨"QuestionReader$Lexer", "restart", "()V"⟩ ∈ x_tsl := x_t2 (List.mem_of_getElem? (i := 132) rfl) rfl
theorem w_373 : Cond.code ⟨"QuestionReader$Lexer", "restart", "()V"⟩ prog_8_method_2_code 1 none ∈ x_tsl := x_t2 (List.mem_of_getElem? (i := 133) rfl) rfl
theorem w_374 : Cond.methodLink "QuestionReader" 75 ⟨"QuestionReader$Question", "clear", "()V"⟩ ∈ x_tsl := x_t2 (List.mem_of_getElem? (i := 134) rfl) rfl
theorem w_375 : Cond.instanceMethod ⟨"QuestionReader$Question", "clear", "()V"⟩ ∈ x_tsl := x_t2 (List.mem_of_getElem? (i := 135) rfl) rfl
theorem w_376 : Cond.selects "QuestionReader$Question" ⟨"QuestionReader$Question", "clear", "()V"⟩ ⟨"QuestionReader$Question", "clear", "()V"⟩ ∈ x_tsl := x_t2 (List.mem_of_getElem? (i := 136) rfl) rfl
theorem w_377 : Cond.code ⟨"QuestionReader$Question", "clear", "()V"⟩ prog_10_method_2_code 1 none ∈ x_tsl := x_t2 (List.mem_of_getElem? (i := 137) rfl) rfl
theorem w_378 : Cond.methodLink "QuestionReader$Question" 44 ⟨"QuestionReader$Condition", "clear", "()V"⟩ ∈ x_tsl := x_t2 (List.mem_of_getElem? (i := 138) rfl) rfl
theorem w_379 : Cond.instanceMethod ⟨"QuestionReader$Condition", "clear", "()V"⟩ ∈ x_tsl := x_t2 (List.mem_of_getElem? (i := 139) rfl) rfl
theorem w_380 : Cond.selects "QuestionReader$Condition" ⟨"QuestionReader$Condition", "clear", "()V"⟩ ⟨"QuestionReader$Condition", "clear", "()V"⟩ ∈ x_tsl := x_t2 (List.mem_of_getElem? (i := 140) rfl) rfl
theorem w_381 : Cond.code ⟨"QuestionReader$Condition", "clear", "()V"⟩ prog_5_method_2_code 1 none ∈ x_tsl := x_t2 (List.mem_of_getElem? (i := 141) rfl) rfl
theorem w_382 : Cond.methodLink "QuestionReader$Condition" 54 ⟨"QuestionReader$Condition", "clearLine", "()V"⟩ ∈ x_tsl := x_t2 (List.mem_of_getElem? (i := 142) rfl) rfl
theorem w_384 : Cond.instanceMethod ⟨"QuestionReader$Condition", "clearLine", "()V"⟩ ∈ x_tsl := x_t2 (List.mem_of_getElem? (i := 144) rfl) rfl
theorem w_385 : Cond.code ⟨"QuestionReader$Condition", "clearLine", "()V"⟩ prog_5_method_12_code 1 none ∈ x_tsl := x_t2 (List.mem_of_getElem? (i := 145) rfl) rfl
theorem w_386 : Cond.methodLink "QuestionReader" 80 ⟨"QuestionReader$Lexer", "advance", "()V"⟩ ∈ x_tsl := x_t2 (List.mem_of_getElem? (i := 146) rfl) rfl
theorem w_387 : Cond.instanceMethod ⟨"QuestionReader$Lexer", "advance", "()V"⟩ ∈ x_tsl := x_t2 (List.mem_of_getElem? (i := 147) rfl) rfl
theorem w_388 : Cond.selects "QuestionReader$Lexer" ⟨"QuestionReader$Lexer", "advance", "()V"⟩ ⟨"QuestionReader$Lexer", "advance", "()V"⟩ ∈ x_tsl := x_t2 (List.mem_of_getElem? (i := 148) rfl) rfl
theorem w_389 : Cond.code ⟨"QuestionReader$Lexer", "advance", "()V"⟩ prog_8_method_3_code 3 none ∈ x_tsl := x_t2 (List.mem_of_getElem? (i := 149) rfl) rfl
theorem w_390 : Cond.methodLink "QuestionReader$Lexer" 34 ⟨"QuestionReader$Lexer", "skipBlanks", "()V"⟩ ∈ x_tsl := x_t2 (List.mem_of_getElem? (i := 150) rfl) rfl
theorem w_392 : Cond.instanceMethod ⟨"QuestionReader$Lexer", "skipBlanks", "()V"⟩ ∈ x_tsl := x_t2 (List.mem_of_getElem? (i := 152) rfl) rfl
theorem w_393 : Cond.code ⟨"QuestionReader$Lexer", "skipBlanks", "()V"⟩ prog_8_method_10_code 3 none ∈ x_tsl := x_t2 (List.mem_of_getElem? (i := 153) rfl) rfl
theorem w_394 : Cond.methodLink "QuestionReader$Lexer" 56 ⟨"QuestionReader$Lexer", "isLetter", "(I)Z"⟩ ∈ x_tsl := x_t2 (List.mem_of_getElem? (i := 154) rfl) rfl
theorem w_395 : Cond.static ⟨"QuestionReader$Lexer", "isLetter", "(I)Z"⟩ ∈ x_tsl := x_t2 (List.mem_of_getElem? (i := 155) rfl) rfl
theorem w_396 : Cond.code ⟨"QuestionReader$Lexer", "isLetter", "(I)Z"⟩ prog_8_method_15_code 1 (Option.some FieldType.boolean) ∈ x_tsl := x_t2 (List.mem_of_getElem? (i := 156) rfl) rfl
theorem w_397 : Cond.methodLink "QuestionReader$Lexer" 60 ⟨"QuestionReader$Lexer", "scanWord", "()J"⟩ ∈ x_tsl := x_t2 (List.mem_of_getElem? (i := 157) rfl) rfl
theorem w_399 : Cond.instanceMethod ⟨"QuestionReader$Lexer", "scanWord", "()J"⟩ ∈ x_tsl := x_t2 (List.mem_of_getElem? (i := 159) rfl) rfl
theorem w_400 : Cond.code ⟨"QuestionReader$Lexer", "scanWord", "()J"⟩ prog_8_method_11_code 5 (Option.some FieldType.long) ∈ x_tsl := x_t2 (List.mem_of_getElem? (i := 160) rfl) rfl
theorem w_401 : Cond.fieldLink "QuestionReader$Lexer" 66 "QuestionReader$Kind" "TOO_LONG" "LQuestionReader$Kind;" ∈ x_tsl := x_t2 (List.mem_of_getElem? (i := 161) rfl) rfl
theorem w_403 : Cond.fieldLink "QuestionReader$Lexer" 69 "QuestionReader$Kind" "NAME" "LQuestionReader$Kind;" ∈ x_tsl := x_t2 (List.mem_of_getElem? (i := 163) rfl) rfl
theorem w_405 : Cond.methodLink "QuestionReader$Lexer" 72 ⟨"QuestionReader$Kind", "spelled", "(JLQuestionReader$Kind;)LQuestionReader$Kind;"⟩ ∈ x_tsl := x_t2 (List.mem_of_getElem? (i := 165) rfl) rfl
theorem w_406 : Cond.static ⟨"QuestionReader$Kind", "spelled", "(JLQuestionReader$Kind;)LQuestionReader$Kind;"⟩ ∈ x_tsl := x_t2 (List.mem_of_getElem? (i := 166) rfl) rfl
theorem w_407 : Cond.code ⟨"QuestionReader$Kind", "spelled", "(JLQuestionReader$Kind;)LQuestionReader$Kind;"⟩ prog_7_method_4_code 4 (Option.some (FieldType.object "QuestionReader$Kind")) ∈ x_tsl := x_t2 (List.mem_of_getElem? (i := 167) rfl) rfl
theorem w_408 : Cond.fieldLink "QuestionReader$Kind" 145 "QuestionReader$Kind" "ALL" "[LQuestionReader$Kind;" ∈ x_tsl := x_t2 (List.mem_of_getElem? (i := 168) rfl) rfl
theorem w_410 : Cond.methodLink "QuestionReader$Lexer" 76 ⟨"QuestionReader$Lexer", "isDigit", "(I)Z"⟩ ∈ x_tsl := x_t2 (List.mem_of_getElem? (i := 170) rfl) rfl
theorem w_412 : Cond.instanceMethod ⟨"QuestionReader$Lexer", "isDigit", "(I)Z"⟩ ∈ x_tsl := x_t2 (List.mem_of_getElem? (i := 172) rfl) rfl
theorem w_413 : Cond.code ⟨"QuestionReader$Lexer", "isDigit", "(I)Z"⟩ prog_8_method_14_code 2 (Option.some FieldType.boolean) ∈ x_tsl := x_t2 (List.mem_of_getElem? (i := 173) rfl) rfl
theorem w_414 : Cond.methodLink "QuestionReader$Lexer" 79 ⟨"QuestionReader$Lexer", "scanNumber", "()J"⟩ ∈ x_tsl := x_t2 (List.mem_of_getElem? (i := 174) rfl) rfl
theorem w_416 : Cond.instanceMethod ⟨"QuestionReader$Lexer", "scanNumber", "()J"⟩ ∈ x_tsl := x_t2 (List.mem_of_getElem? (i := 176) rfl) rfl
theorem w_417 : Cond.code ⟨"QuestionReader$Lexer", "scanNumber", "()J"⟩ prog_8_method_12_code 6 (Option.some FieldType.long) ∈ x_tsl := x_t2 (List.mem_of_getElem? (i := 177) rfl) rfl
theorem w_418 : Cond.constantLong "QuestionReader$Lexer" 105 (2147483648 : Int64) ∈ x_tsl := x_t2 (List.mem_of_getElem? (i := 178) rfl) rfl
theorem w_419 : Cond.constantLong "QuestionReader$Lexer" 107 (10 : Int64) ∈ x_tsl := x_t2 (List.mem_of_getElem? (i := 179) rfl) rfl
theorem w_420 : Cond.fieldLink "QuestionReader$Lexer" 85 "QuestionReader$Kind" "NUMBER" "LQuestionReader$Kind;" ∈ x_tsl := x_t2 (List.mem_of_getElem? (i := 180) rfl) rfl
theorem w_422 : Cond.fieldLink "QuestionReader$Lexer" 88 "QuestionReader$Kind" "WRONG" "LQuestionReader$Kind;" ∈ x_tsl := x_t2 (List.mem_of_getElem? (i := 182) rfl) rfl
theorem w_424 : Cond.methodLink "QuestionReader$Lexer" 91 ⟨"QuestionReader$Lexer", "scanSign", "()J"⟩ ∈ x_tsl := x_t2 (List.mem_of_getElem? (i := 184) rfl) rfl
theorem w_426 : Cond.instanceMethod ⟨"QuestionReader$Lexer", "scanSign", "()J"⟩ ∈ x_tsl := x_t2 (List.mem_of_getElem? (i := 186) rfl) rfl
theorem w_427 : Cond.code ⟨"QuestionReader$Lexer", "scanSign", "()J"⟩ prog_8_method_13_code 4 (Option.some FieldType.long) ∈ x_tsl := x_t2 (List.mem_of_getElem? (i := 187) rfl) rfl
theorem w_428 : Cond.fieldLink "QuestionReader" 87 "QuestionReader$Kind" "SELECT" "LQuestionReader$Kind;" ∈ x_tsl := x_t2 (List.mem_of_getElem? (i := 188) rfl) rfl
theorem w_430 : Cond.methodLink "QuestionReader" 92 ⟨"QuestionReader$QuestionGrammar", "readQuestion", "()Z"⟩ ∈ x_tsl := x_t2 (List.mem_of_getElem? (i := 190) rfl) rfl
theorem w_431 : Cond.instanceMethod ⟨"QuestionReader$QuestionGrammar", "readQuestion", "()Z"⟩ ∈ x_tsl := x_t2 (List.mem_of_getElem? (i := 191) rfl) rfl
theorem w_432 : Cond.selects "QuestionReader$QuestionGrammar" ⟨"QuestionReader$QuestionGrammar", "readQuestion", "()Z"⟩ ⟨"QuestionReader$QuestionGrammar", "readQuestion", "()Z"⟩ ∈ x_tsl := x_t2 (List.mem_of_getElem? (i := 192) rfl) rfl
theorem w_433 : Cond.code ⟨"QuestionReader$QuestionGrammar", "readQuestion", "()Z"⟩ prog_11_method_2_code 3 (Option.some FieldType.boolean) ∈ x_tsl := x_t2 (List.mem_of_getElem? (i := 193) rfl) rfl
theorem w_434 : Cond.methodLink "QuestionReader$QuestionGrammar" 42 ⟨"QuestionReader$Lexer", "tellHere", "(I)Z"⟩ ∈ x_tsl := x_t2 (List.mem_of_getElem? (i := 194) rfl) rfl
theorem w_435 : Cond.instanceMethod ⟨"QuestionReader$Lexer", "tellHere", "(I)Z"⟩ ∈ x_tsl := x_t2 (List.mem_of_getElem? (i := 195) rfl) rfl
theorem w_436 : Cond.selects "QuestionReader$Lexer" ⟨"QuestionReader$Lexer", "tellHere", "(I)Z"⟩ ⟨"QuestionReader$Lexer", "tellHere", "(I)Z"⟩ ∈ x_tsl := x_t2 (List.mem_of_getElem? (i := 196) rfl) rfl
theorem w_437 : Cond.code ⟨"QuestionReader$Lexer", "tellHere", "(I)Z"⟩ prog_8_method_8_code 2 (Option.some FieldType.boolean) ∈ x_tsl := x_t2 (List.mem_of_getElem? (i := 197) rfl) rfl
theorem w_438 : Cond.methodLink "QuestionReader$Lexer" 101 ⟨"QuestionReader$Lexer", "tell", "(II)Z"⟩ ∈ x_tsl := x_t2 (List.mem_of_getElem? (i := 198) rfl) rfl
theorem w_439 : Cond.instanceMethod ⟨"QuestionReader$Lexer", "tell", "(II)Z"⟩ ∈ x_tsl := x_t2 (List.mem_of_getElem? (i := 199) rfl) rfl
theorem w_440 : Cond.selects "QuestionReader$Lexer" ⟨"QuestionReader$Lexer", "tell", "(II)Z"⟩ ⟨"QuestionReader$Lexer", "tell", "(II)Z"⟩ ∈ x_tsl := x_t2 (List.mem_of_getElem? (i := 200) rfl) rfl
theorem w_441 : Cond.code ⟨"QuestionReader$Lexer", "tell", "(II)Z"⟩ prog_8_method_9_code 3 (Option.some FieldType.boolean) ∈ x_tsl := x_t2 (List.mem_of_getElem? (i := 201) rfl) rfl
theorem w_442 : Cond.methodLink "QuestionReader$QuestionGrammar" 46 ⟨"QuestionReader$Question", "restart", "()V"⟩ ∈ x_tsl := x_t2 (List.mem_of_getElem? (i := 202) rfl) rfl
theorem w_443 : Cond.instanceMethod ⟨"QuestionReader$Question", "restart", "()V"⟩ ∈ x_tsl := x_t2 (List.mem_of_getElem? (i := 203) rfl) rfl
theorem w_444 : Cond.selects "QuestionReader$Question" ⟨"QuestionReader$Question", "restart", "()V"⟩ ⟨"QuestionReader$Question", "restart", "()V"⟩ ∈ x_tsl := x_t2 (List.mem_of_getElem? (i := 204) rfl) rfl
theorem w_445 : Cond.code ⟨"QuestionReader$Question", "restart", "()V"⟩ prog_10_method_3_code 1 none ∈ x_tsl := x_t2 (List.mem_of_getElem? (i := 205) rfl) rfl
theorem w_446 : Cond.methodLink "QuestionReader$Question" 47 ⟨"QuestionReader$Question", "clear", "()V"⟩ ∈ x_tsl := x_t2 (List.mem_of_getElem? (i := 206) rfl) rfl
theorem w_447 : Cond.methodLink "QuestionReader$QuestionGrammar" 49 ⟨"QuestionReader$QuestionGrammar", "readItems", "()Z"⟩ ∈ x_tsl := x_t2 (List.mem_of_getElem? (i := 207) rfl) rfl
theorem w_449 : Cond.instanceMethod ⟨"QuestionReader$QuestionGrammar", "readItems", "()Z"⟩ ∈ x_tsl := x_t2 (List.mem_of_getElem? (i := 209) rfl) rfl
theorem w_450 : Cond.code ⟨"QuestionReader$QuestionGrammar", "readItems", "()Z"⟩ prog_11_method_3_code 2 (Option.some FieldType.boolean) ∈ x_tsl := x_t2 (List.mem_of_getElem? (i := 210) rfl) rfl
theorem w_451 : Cond.methodLink "QuestionReader$QuestionGrammar" 86 ⟨"QuestionReader$Lexer", "advance", "()V"⟩ ∈ x_tsl := x_t2 (List.mem_of_getElem? (i := 211) rfl) rfl
theorem w_452 : Cond.methodLink "QuestionReader$QuestionGrammar" 89 ⟨"QuestionReader$QuestionGrammar", "readItem", "()Z"⟩ ∈ x_tsl := x_t2 (List.mem_of_getElem? (i := 212) rfl) rfl
theorem w_454 : Cond.instanceMethod ⟨"QuestionReader$QuestionGrammar", "readItem", "()Z"⟩ ∈ x_tsl := x_t2 (List.mem_of_getElem? (i := 214) rfl) rfl
theorem w_455 : Cond.code ⟨"QuestionReader$QuestionGrammar", "readItem", "()Z"⟩ prog_11_method_4_code 5 (Option.some FieldType.boolean) ∈ x_tsl := x_t2 (List.mem_of_getElem? (i := 215) rfl) rfl
theorem w_456 : Cond.methodLink "QuestionReader$QuestionGrammar" 99 ⟨"QuestionReader$QuestionGrammar", "itemType", "(LQuestionReader$Kind;)I"⟩ ∈ x_tsl := x_t2 (List.mem_of_getElem? (i := 216) rfl) rfl
theorem w_457 : Cond.static ⟨"QuestionReader$QuestionGrammar", "itemType", "(LQuestionReader$Kind;)I"⟩ ∈ x_tsl := x_t2 (List.mem_of_getElem? (i := 217) rfl) rfl
theorem w_458 : Cond.code ⟨"QuestionReader$QuestionGrammar", "itemType", "(LQuestionReader$Kind;)I"⟩ prog_11_method_15_code 1 (Option.some FieldType.int) ∈ x_tsl := x_t2 (List.mem_of_getElem? (i := 218) rfl) rfl
theorem w_459 : Cond.fieldLink "QuestionReader$QuestionGrammar" 284 "QuestionReader$Kind" "SUM" "LQuestionReader$Kind;" ∈ x_tsl := x_t2 (List.mem_of_getElem? (i := 219) rfl) rfl
theorem w_461 : Cond.fieldLink "QuestionReader$QuestionGrammar" 287 "QuestionReader$Kind" "MIN" "LQuestionReader$Kind;" ∈ x_tsl := x_t2 (List.mem_of_getElem? (i := 221) rfl) rfl
theorem w_463 : Cond.fieldLink "QuestionReader$QuestionGrammar" 290 "QuestionReader$Kind" "MAX" "LQuestionReader$Kind;" ∈ x_tsl := x_t2 (List.mem_of_getElem? (i := 223) rfl) rfl
theorem w_465 : Cond.fieldLink "QuestionReader$QuestionGrammar" 293 "QuestionReader$Kind" "COUNT" "LQuestionReader$Kind;" ∈ x_tsl := x_t2 (List.mem_of_getElem? (i := 225) rfl) rfl
theorem w_467 : Cond.fieldLink "QuestionReader$QuestionGrammar" 296 "QuestionReader$Kind" "GROUPING" "LQuestionReader$Kind;" ∈ x_tsl := x_t2 (List.mem_of_getElem? (i := 227) rfl) rfl
theorem w_469 : Cond.methodLink "QuestionReader$QuestionGrammar" 106 ⟨"QuestionReader$QuestionGrammar", "readColumn", "(Z)I"⟩ ∈ x_tsl := x_t2 (List.mem_of_getElem? (i := 229) rfl) rfl
theorem w_471 : Cond.instanceMethod ⟨"QuestionReader$QuestionGrammar", "readColumn", "(Z)I"⟩ ∈ x_tsl := x_t2 (List.mem_of_getElem? (i := 231) rfl) rfl
theorem w_472 : Cond.code ⟨"QuestionReader$QuestionGrammar", "readColumn", "(Z)I"⟩ prog_11_method_6_code 5 (Option.some FieldType.int) ∈ x_tsl := x_t2 (List.mem_of_getElem? (i := 232) rfl) rfl
theorem w_473 : Cond.methodLink "QuestionReader$QuestionGrammar" 135 ⟨"QuestionReader$Names", "read", "(IILQuestionReader$Lexer;)I"⟩ ∈ x_tsl := x_t2 (List.mem_of_getElem? (i := 233) rfl) rfl
theorem w_474 : Cond.instanceMethod ⟨"QuestionReader$Names", "read", "(IILQuestionReader$Lexer;)I"⟩ ∈ x_tsl := x_t2 (List.mem_of_getElem? (i := 234) rfl) rfl
theorem w_475 : Cond.selects "QuestionReader$Names" ⟨"QuestionReader$Names", "read", "(IILQuestionReader$Lexer;)I"⟩ ⟨"QuestionReader$Names", "read", "(IILQuestionReader$Lexer;)I"⟩ ∈ x_tsl := x_t2 (List.mem_of_getElem? (i := 235) rfl) rfl
theorem w_476 : Cond.code ⟨"QuestionReader$Names", "read", "(IILQuestionReader$Lexer;)I"⟩ prog_9_method_4_code 5 (Option.some FieldType.int) ∈ x_tsl := x_t2 (List.mem_of_getElem? (i := 236) rfl) rfl
theorem w_477 : Cond.methodLink "QuestionReader$Names" 43 ⟨"QuestionReader$Lexer", "atName", "()Z"⟩ ∈ x_tsl := x_t2 (List.mem_of_getElem? (i := 237) rfl) rfl
theorem w_478 : Cond.instanceMethod ⟨"QuestionReader$Lexer", "atName", "()Z"⟩ ∈ x_tsl := x_t2 (List.mem_of_getElem? (i := 238) rfl) rfl
theorem w_479 : Cond.selects "QuestionReader$Lexer" ⟨"QuestionReader$Lexer", "atName", "()Z"⟩ ⟨"QuestionReader$Lexer", "atName", "()Z"⟩ ∈ x_tsl := x_t2 (List.mem_of_getElem? (i := 239) rfl) rfl
theorem w_480 : Cond.code ⟨"QuestionReader$Lexer", "atName", "()Z"⟩ prog_8_method_6_code 1 (Option.some FieldType.boolean) ∈ x_tsl := x_t3 (List.mem_of_getElem? (i := 0) rfl) rfl
theorem w_481 : Cond.methodLink "QuestionReader$Names" 47 ⟨"QuestionReader$Names", "search", "(IILQuestionReader$Lexer;)I"⟩ ∈ x_tsl := x_t3 (List.mem_of_getElem? (i := 1) rfl) rfl
theorem w_482 : Cond.instanceMethod ⟨"QuestionReader$Names", "search", "(IILQuestionReader$Lexer;)I"⟩ ∈ x_tsl := x_t3 (List.mem_of_getElem? (i := 2) rfl) rfl
theorem w_483 : Cond.selects "QuestionReader$Names" ⟨"QuestionReader$Names", "search", "(IILQuestionReader$Lexer;)I"⟩ ⟨"QuestionReader$Names", "search", "(IILQuestionReader$Lexer;)I"⟩ ∈ x_tsl := x_t3 (List.mem_of_getElem? (i := 3) rfl) rfl
theorem w_484 : Cond.code ⟨"QuestionReader$Names", "search", "(IILQuestionReader$Lexer;)I"⟩ prog_9_method_5_code 5 (Option.some FieldType.int) ∈ x_tsl := x_t3 (List.mem_of_getElem? (i := 4) rfl) rfl
theorem w_485 : Cond.methodLink "QuestionReader$Names" 55 ⟨"QuestionReader$Names", "isSame", "(ILQuestionReader$Lexer;)Z"⟩ ∈ x_tsl := x_t3 (List.mem_of_getElem? (i := 5) rfl) rfl
theorem w_487 : Cond.instanceMethod ⟨"QuestionReader$Names", "isSame", "(ILQuestionReader$Lexer;)Z"⟩ ∈ x_tsl := x_t3 (List.mem_of_getElem? (i := 7) rfl) rfl
theorem w_488 : Cond.code ⟨"QuestionReader$Names", "isSame", "(ILQuestionReader$Lexer;)Z"⟩ prog_9_method_6_code 5 (Option.some FieldType.boolean) ∈ x_tsl := x_t3 (List.mem_of_getElem? (i := 8) rfl) rfl
theorem w_489 : Cond.methodLink "QuestionReader$Names" 51 ⟨"QuestionReader$Lexer", "tellHere", "(I)Z"⟩ ∈ x_tsl := x_t3 (List.mem_of_getElem? (i := 9) rfl) rfl
theorem w_490 : Cond.fieldLink "QuestionReader$QuestionGrammar" 142 "QuestionReader$Kind" "DOT" "LQuestionReader$Kind;" ∈ x_tsl := x_t3 (List.mem_of_getElem? (i := 10) rfl) rfl
theorem w_492 : Cond.methodLink "QuestionReader$QuestionGrammar" 113 ⟨"QuestionReader$Lexer", "next", "(LQuestionReader$Kind;)Z"⟩ ∈ x_tsl := x_t3 (List.mem_of_getElem? (i := 12) rfl) rfl
theorem w_493 : Cond.instanceMethod ⟨"QuestionReader$Lexer", "next", "(LQuestionReader$Kind;)Z"⟩ ∈ x_tsl := x_t3 (List.mem_of_getElem? (i := 13) rfl) rfl
theorem w_494 : Cond.selects "QuestionReader$Lexer" ⟨"QuestionReader$Lexer", "next", "(LQuestionReader$Kind;)Z"⟩ ⟨"QuestionReader$Lexer", "next", "(LQuestionReader$Kind;)Z"⟩ ∈ x_tsl := x_t3 (List.mem_of_getElem? (i := 14) rfl) rfl
theorem w_495 : Cond.code ⟨"QuestionReader$Lexer", "next", "(LQuestionReader$Kind;)Z"⟩ prog_8_method_4_code 2 (Option.some FieldType.boolean) ∈ x_tsl := x_t3 (List.mem_of_getElem? (i := 15) rfl) rfl
theorem w_496 : Cond.methodLink "QuestionReader$Lexer" 94 ⟨"QuestionReader$Lexer", "advance", "()V"⟩ ∈ x_tsl := x_t3 (List.mem_of_getElem? (i := 16) rfl) rfl
theorem w_497 : Cond.methodLink "QuestionReader$Lexer" 97 ⟨"QuestionReader$Lexer", "at", "(LQuestionReader$Kind;)Z"⟩ ∈ x_tsl := x_t3 (List.mem_of_getElem? (i := 17) rfl) rfl
theorem w_498 : Cond.instanceMethod ⟨"QuestionReader$Lexer", "at", "(LQuestionReader$Kind;)Z"⟩ ∈ x_tsl := x_t3 (List.mem_of_getElem? (i := 18) rfl) rfl
theorem w_499 : Cond.selects "QuestionReader$Lexer" ⟨"QuestionReader$Lexer", "at", "(LQuestionReader$Kind;)Z"⟩ ⟨"QuestionReader$Lexer", "at", "(LQuestionReader$Kind;)Z"⟩ ∈ x_tsl := x_t3 (List.mem_of_getElem? (i := 19) rfl) rfl
theorem w_500 : Cond.code ⟨"QuestionReader$Lexer", "at", "(LQuestionReader$Kind;)Z"⟩ prog_8_method_5_code 2 (Option.some FieldType.boolean) ∈ x_tsl := x_t3 (List.mem_of_getElem? (i := 20) rfl) rfl
theorem w_501 : Cond.methodLink "QuestionReader$QuestionGrammar" 145 ⟨"QuestionReader$Catalog", "columnNumber", "(II)I"⟩ ∈ x_tsl := x_t3 (List.mem_of_getElem? (i := 21) rfl) rfl
theorem w_502 : Cond.static ⟨"QuestionReader$Catalog", "columnNumber", "(II)I"⟩ ∈ x_tsl := x_t3 (List.mem_of_getElem? (i := 22) rfl) rfl
theorem w_503 : Cond.code ⟨"QuestionReader$Catalog", "columnNumber", "(II)I"⟩ prog_2_method_9_code 2 (Option.some FieldType.int) ∈ x_tsl := x_t3 (List.mem_of_getElem? (i := 23) rfl) rfl
theorem w_504 : Cond.fieldLink "QuestionReader$QuestionGrammar" 110 "QuestionReader$Kind" "OPENING" "LQuestionReader$Kind;" ∈ x_tsl := x_t3 (List.mem_of_getElem? (i := 24) rfl) rfl
theorem w_506 : Cond.methodLink "QuestionReader$QuestionGrammar" 116 ⟨"QuestionReader$QuestionGrammar", "readSummed", "(I)I"⟩ ∈ x_tsl := x_t3 (List.mem_of_getElem? (i := 26) rfl) rfl
theorem w_508 : Cond.instanceMethod ⟨"QuestionReader$QuestionGrammar", "readSummed", "(I)I"⟩ ∈ x_tsl := x_t3 (List.mem_of_getElem? (i := 28) rfl) rfl
theorem w_509 : Cond.code ⟨"QuestionReader$QuestionGrammar", "readSummed", "(I)I"⟩ prog_11_method_5_code 2 (Option.some FieldType.int) ∈ x_tsl := x_t3 (List.mem_of_getElem? (i := 29) rfl) rfl
theorem w_510 : Cond.fieldLink "QuestionReader$QuestionGrammar" 127 "QuestionReader$Kind" "STAR" "LQuestionReader$Kind;" ∈ x_tsl := x_t3 (List.mem_of_getElem? (i := 30) rfl) rfl
theorem w_512 : Cond.methodLink "QuestionReader$QuestionGrammar" 74 ⟨"QuestionReader$Lexer", "at", "(LQuestionReader$Kind;)Z"⟩ ∈ x_tsl := x_t3 (List.mem_of_getElem? (i := 32) rfl) rfl
theorem w_513 : Cond.fieldLink "QuestionReader$QuestionGrammar" 120 "QuestionReader$Kind" "CLOSING" "LQuestionReader$Kind;" ∈ x_tsl := x_t3 (List.mem_of_getElem? (i := 33) rfl) rfl
theorem w_515 : Cond.methodLink "QuestionReader$QuestionGrammar" 123 ⟨"QuestionReader$Question", "addItem", "(III)V"⟩ ∈ x_tsl := x_t3 (List.mem_of_getElem? (i := 35) rfl) rfl
theorem w_516 : Cond.instanceMethod ⟨"QuestionReader$Question", "addItem", "(III)V"⟩ ∈ x_tsl := x_t3 (List.mem_of_getElem? (i := 36) rfl) rfl
theorem w_517 : Cond.selects "QuestionReader$Question" ⟨"QuestionReader$Question", "addItem", "(III)V"⟩ ⟨"QuestionReader$Question", "addItem", "(III)V"⟩ ∈ x_tsl := x_t3 (List.mem_of_getElem? (i := 37) rfl) rfl
theorem w_518 : Cond.code ⟨"QuestionReader$Question", "addItem", "(III)V"⟩ prog_10_method_5_code 4 none ∈ x_tsl := x_t3 (List.mem_of_getElem? (i := 38) rfl) rfl
theorem w_519 : Cond.fieldLink "QuestionReader$QuestionGrammar" 92 "QuestionReader$Kind" "COMMA" "LQuestionReader$Kind;" ∈ x_tsl := x_t3 (List.mem_of_getElem? (i := 39) rfl) rfl
theorem w_521 : Cond.fieldLink "QuestionReader$QuestionGrammar" 57 "QuestionReader$Kind" "WHERE" "LQuestionReader$Kind;" ∈ x_tsl := x_t3 (List.mem_of_getElem? (i := 41) rfl) rfl
theorem w_523 : Cond.methodLink "QuestionReader$QuestionGrammar" 62 ⟨"QuestionReader$QuestionGrammar", "readWhere", "()Z"⟩ ∈ x_tsl := x_t3 (List.mem_of_getElem? (i := 43) rfl) rfl
theorem w_525 : Cond.instanceMethod ⟨"QuestionReader$QuestionGrammar", "readWhere", "()Z"⟩ ∈ x_tsl := x_t3 (List.mem_of_getElem? (i := 45) rfl) rfl
theorem w_526 : Cond.code ⟨"QuestionReader$QuestionGrammar", "readWhere", "()Z"⟩ prog_11_method_7_code 3 (Option.some FieldType.boolean) ∈ x_tsl := x_t3 (List.mem_of_getElem? (i := 46) rfl) rfl
theorem w_527 : Cond.constant "QuestionReader$QuestionGrammar" 164 (65536 : Int32) ∈ x_tsl := x_t3 (List.mem_of_getElem? (i := 47) rfl) rfl
theorem w_528 : Cond.fieldLink "QuestionReader$QuestionGrammar" 165 "QuestionReader$Kind" "NOT" "LQuestionReader$Kind;" ∈ x_tsl := x_t3 (List.mem_of_getElem? (i := 48) rfl) rfl
theorem w_530 : Cond.methodLink "QuestionReader$QuestionGrammar" 168 ⟨"QuestionReader$Condition", "negateNext", "()V"⟩ ∈ x_tsl := x_t3 (List.mem_of_getElem? (i := 50) rfl) rfl
theorem w_531 : Cond.instanceMethod ⟨"QuestionReader$Condition", "negateNext", "()V"⟩ ∈ x_tsl := x_t3 (List.mem_of_getElem? (i := 51) rfl) rfl
theorem w_532 : Cond.selects "QuestionReader$Condition" ⟨"QuestionReader$Condition", "negateNext", "()V"⟩ ⟨"QuestionReader$Condition", "negateNext", "()V"⟩ ∈ x_tsl := x_t3 (List.mem_of_getElem? (i := 52) rfl) rfl
theorem w_533 : Cond.code ⟨"QuestionReader$Condition", "negateNext", "()V"⟩ prog_5_method_6_code 1 none ∈ x_tsl := x_t3 (List.mem_of_getElem? (i := 53) rfl) rfl
theorem w_534 : Cond.methodLink "QuestionReader$QuestionGrammar" 173 ⟨"QuestionReader$Condition", "openBracket", "()Z"⟩ ∈ x_tsl := x_t3 (List.mem_of_getElem? (i := 54) rfl) rfl
theorem w_535 : Cond.instanceMethod ⟨"QuestionReader$Condition", "openBracket", "()Z"⟩ ∈ x_tsl := x_t3 (List.mem_of_getElem? (i := 55) rfl) rfl
theorem w_536 : Cond.selects "QuestionReader$Condition" ⟨"QuestionReader$Condition", "openBracket", "()Z"⟩ ⟨"QuestionReader$Condition", "openBracket", "()Z"⟩ ∈ x_tsl := x_t3 (List.mem_of_getElem? (i := 56) rfl) rfl
theorem w_537 : Cond.code ⟨"QuestionReader$Condition", "openBracket", "()Z"⟩ prog_5_method_7_code 1 (Option.some FieldType.boolean) ∈ x_tsl := x_t3 (List.mem_of_getElem? (i := 57) rfl) rfl
theorem w_538 : Cond.methodLink "QuestionReader$QuestionGrammar" 176 ⟨"QuestionReader$QuestionGrammar", "readComparison", "(LQuestionReader$Condition;)Z"⟩ ∈ x_tsl := x_t3 (List.mem_of_getElem? (i := 58) rfl) rfl
theorem w_540 : Cond.instanceMethod ⟨"QuestionReader$QuestionGrammar", "readComparison", "(LQuestionReader$Condition;)Z"⟩ ∈ x_tsl := x_t3 (List.mem_of_getElem? (i := 60) rfl) rfl
theorem w_541 : Cond.code ⟨"QuestionReader$QuestionGrammar", "readComparison", "(LQuestionReader$Condition;)Z"⟩ prog_11_method_9_code 5 (Option.some FieldType.boolean) ∈ x_tsl := x_t3 (List.mem_of_getElem? (i := 61) rfl) rfl
theorem w_542 : Cond.methodLink "QuestionReader$QuestionGrammar" 208 ⟨"QuestionReader$Condition", "isFull", "()Z"⟩ ∈ x_tsl := x_t3 (List.mem_of_getElem? (i := 62) rfl) rfl
theorem w_543 : Cond.instanceMethod ⟨"QuestionReader$Condition", "isFull", "()Z"⟩ ∈ x_tsl := x_t3 (List.mem_of_getElem? (i := 63) rfl) rfl
theorem w_544 : Cond.selects "QuestionReader$Condition" ⟨"QuestionReader$Condition", "isFull", "()Z"⟩ ⟨"QuestionReader$Condition", "isFull", "()Z"⟩ ∈ x_tsl := x_t3 (List.mem_of_getElem? (i := 64) rfl) rfl
theorem w_545 : Cond.code ⟨"QuestionReader$Condition", "isFull", "()Z"⟩ prog_5_method_3_code 1 (Option.some FieldType.boolean) ∈ x_tsl := x_t3 (List.mem_of_getElem? (i := 65) rfl) rfl
theorem w_546 : Cond.methodLink "QuestionReader$QuestionGrammar" 211 ⟨"QuestionReader$Condition", "coming", "()LQuestionReader$Comparison;"⟩ ∈ x_tsl := x_t3 (List.mem_of_getElem? (i := 66) rfl) rfl
theorem w_547 : Cond.instanceMethod ⟨"QuestionReader$Condition", "coming", "()LQuestionReader$Comparison;"⟩ ∈ x_tsl := x_t3 (List.mem_of_getElem? (i := 67) rfl) rfl
theorem w_548 : Cond.selects "QuestionReader$Condition" ⟨"QuestionReader$Condition", "coming", "()LQuestionReader$Comparison;"⟩ ⟨"QuestionReader$Condition", "coming", "()LQuestionReader$Comparison;"⟩ ∈ x_tsl := x_t3 (List.mem_of_getElem? (i := 68) rfl) rfl
theorem w_549 : Cond.code ⟨"QuestionReader$Condition", "coming", "()LQuestionReader$Comparison;"⟩ prog_5_method_4_code 1 (Option.some (FieldType.object "QuestionReader$Comparison")) ∈ x_tsl := x_t3 (List.mem_of_getElem? (i := 69) rfl) rfl
theorem w_550 : Cond.methodLink "QuestionReader$QuestionGrammar" 215 ⟨"QuestionReader$Comparison", "restart", "(I)V"⟩ ∈ x_tsl := x_t3 (List.mem_of_getElem? (i := 70) rfl) rfl
theorem w_551 : Cond.instanceMethod ⟨"QuestionReader$Comparison", "restart", "(I)V"⟩ ∈ x_tsl := x_t3 (List.mem_of_getElem? (i := 71) rfl) rfl
theorem w_552 : Cond.selects "QuestionReader$Comparison" ⟨"QuestionReader$Comparison", "restart", "(I)V"⟩ ⟨"QuestionReader$Comparison", "restart", "(I)V"⟩ ∈ x_tsl := x_t3 (List.mem_of_getElem? (i := 72) rfl) rfl
theorem w_553 : Cond.code ⟨"QuestionReader$Comparison", "restart", "(I)V"⟩ prog_4_method_2_code 2 none ∈ x_tsl := x_t3 (List.mem_of_getElem? (i := 73) rfl) rfl
theorem w_554 : Cond.fieldLink "QuestionReader$QuestionGrammar" 223 "QuestionReader$Kind" "IN" "LQuestionReader$Kind;" ∈ x_tsl := x_t3 (List.mem_of_getElem? (i := 74) rfl) rfl
theorem w_556 : Cond.methodLink "QuestionReader$QuestionGrammar" 226 ⟨"QuestionReader$QuestionGrammar", "readList", "(LQuestionReader$Comparison;)Z"⟩ ∈ x_tsl := x_t3 (List.mem_of_getElem? (i := 76) rfl) rfl
theorem w_558 : Cond.instanceMethod ⟨"QuestionReader$QuestionGrammar", "readList", "(LQuestionReader$Comparison;)Z"⟩ ∈ x_tsl := x_t3 (List.mem_of_getElem? (i := 78) rfl) rfl
theorem w_559 : Cond.code ⟨"QuestionReader$QuestionGrammar", "readList", "(LQuestionReader$Comparison;)Z"⟩ prog_11_method_12_code 3 (Option.some FieldType.boolean) ∈ x_tsl := x_t3 (List.mem_of_getElem? (i := 79) rfl) rfl
theorem w_560 : Cond.fieldLink "QuestionReader$QuestionGrammar" 242 "QuestionReader$Kind" "NUMBER" "LQuestionReader$Kind;" ∈ x_tsl := x_t3 (List.mem_of_getElem? (i := 80) rfl) rfl
theorem w_561 : Cond.methodLink "QuestionReader$QuestionGrammar" 256 ⟨"QuestionReader$Comparison", "addToList", "(I)Z"⟩ ∈ x_tsl := x_t3 (List.mem_of_getElem? (i := 81) rfl) rfl
theorem w_562 : Cond.instanceMethod ⟨"QuestionReader$Comparison", "addToList", "(I)Z"⟩ ∈ x_tsl := x_t3 (List.mem_of_getElem? (i := 82) rfl) rfl
theorem w_563 : Cond.selects "QuestionReader$Comparison" ⟨"QuestionReader$Comparison", "addToList", "(I)Z"⟩ ⟨"QuestionReader$Comparison", "addToList", "(I)Z"⟩ ∈ x_tsl := x_t3 (List.mem_of_getElem? (i := 83) rfl) rfl
theorem w_564 : Cond.code ⟨"QuestionReader$Comparison", "addToList", "(I)Z"⟩ prog_4_method_5_code 2 (Option.some FieldType.boolean) ∈ x_tsl := x_t3 (List.mem_of_getElem? (i := 84) rfl) rfl
theorem w_565 : Cond.fieldLink "QuestionReader$QuestionGrammar" 230 "QuestionReader$Kind" "BETWEEN" "LQuestionReader$Kind;" ∈ x_tsl := x_t3 (List.mem_of_getElem? (i := 85) rfl) rfl
theorem w_567 : Cond.methodLink "QuestionReader$QuestionGrammar" 233 ⟨"QuestionReader$QuestionGrammar", "readBetween", "(LQuestionReader$Comparison;)Z"⟩ ∈ x_tsl := x_t3 (List.mem_of_getElem? (i := 87) rfl) rfl
theorem w_569 : Cond.instanceMethod ⟨"QuestionReader$QuestionGrammar", "readBetween", "(LQuestionReader$Comparison;)Z"⟩ ∈ x_tsl := x_t3 (List.mem_of_getElem? (i := 89) rfl) rfl
theorem w_570 : Cond.code ⟨"QuestionReader$QuestionGrammar", "readBetween", "(LQuestionReader$Comparison;)Z"⟩ prog_11_method_11_code 3 (Option.some FieldType.boolean) ∈ x_tsl := x_t3 (List.mem_of_getElem? (i := 90) rfl) rfl
theorem w_571 : Cond.fieldLink "QuestionReader$QuestionGrammar" 193 "QuestionReader$Kind" "AND" "LQuestionReader$Kind;" ∈ x_tsl := x_t3 (List.mem_of_getElem? (i := 91) rfl) rfl
theorem w_573 : Cond.methodLink "QuestionReader$QuestionGrammar" 252 ⟨"QuestionReader$Comparison", "becomeRange", "(II)V"⟩ ∈ x_tsl := x_t3 (List.mem_of_getElem? (i := 93) rfl) rfl
theorem w_574 : Cond.instanceMethod ⟨"QuestionReader$Comparison", "becomeRange", "(II)V"⟩ ∈ x_tsl := x_t3 (List.mem_of_getElem? (i := 94) rfl) rfl
theorem w_575 : Cond.selects "QuestionReader$Comparison" ⟨"QuestionReader$Comparison", "becomeRange", "(II)V"⟩ ⟨"QuestionReader$Comparison", "becomeRange", "(II)V"⟩ ∈ x_tsl := x_t3 (List.mem_of_getElem? (i := 95) rfl) rfl
theorem w_576 : Cond.code ⟨"QuestionReader$Comparison", "becomeRange", "(II)V"⟩ prog_4_method_3_code 3 none ∈ x_tsl := x_t3 (List.mem_of_getElem? (i := 96) rfl) rfl
theorem w_577 : Cond.methodLink "QuestionReader$QuestionGrammar" 236 ⟨"QuestionReader$QuestionGrammar", "readRelation", "(LQuestionReader$Comparison;)Z"⟩ ∈ x_tsl := x_t3 (List.mem_of_getElem? (i := 97) rfl) rfl
theorem w_579 : Cond.instanceMethod ⟨"QuestionReader$QuestionGrammar", "readRelation", "(LQuestionReader$Comparison;)Z"⟩ ∈ x_tsl := x_t3 (List.mem_of_getElem? (i := 99) rfl) rfl
theorem w_580 : Cond.code ⟨"QuestionReader$QuestionGrammar", "readRelation", "(LQuestionReader$Comparison;)Z"⟩ prog_11_method_10_code 3 (Option.some FieldType.boolean) ∈ x_tsl := x_t3 (List.mem_of_getElem? (i := 100) rfl) rfl
theorem w_581 : Cond.methodLink "QuestionReader$QuestionGrammar" 239 ⟨"QuestionReader$QuestionGrammar", "isRelation", "(LQuestionReader$Kind;)Z"⟩ ∈ x_tsl := x_t3 (List.mem_of_getElem? (i := 101) rfl) rfl
theorem w_582 : Cond.static ⟨"QuestionReader$QuestionGrammar", "isRelation", "(LQuestionReader$Kind;)Z"⟩ ∈ x_tsl := x_t3 (List.mem_of_getElem? (i := 102) rfl) rfl
theorem w_583 : Cond.code ⟨"QuestionReader$QuestionGrammar", "isRelation", "(LQuestionReader$Kind;)Z"⟩ prog_11_method_16_code 1 (Option.some FieldType.boolean) ∈ x_tsl := x_t3 (List.mem_of_getElem? (i := 103) rfl) rfl
theorem w_584 : Cond.fieldLink "QuestionReader$QuestionGrammar" 299 "QuestionReader$Kind" "EQUAL" "LQuestionReader$Kind;" ∈ x_tsl := x_t3 (List.mem_of_getElem? (i := 104) rfl) rfl
theorem w_586 : Cond.fieldLink "QuestionReader$QuestionGrammar" 302 "QuestionReader$Kind" "UNEQUAL" "LQuestionReader$Kind;" ∈ x_tsl := x_t3 (List.mem_of_getElem? (i := 106) rfl) rfl
theorem w_588 : Cond.fieldLink "QuestionReader$QuestionGrammar" 305 "QuestionReader$Kind" "LESS" "LQuestionReader$Kind;" ∈ x_tsl := x_t3 (List.mem_of_getElem? (i := 108) rfl) rfl
theorem w_590 : Cond.fieldLink "QuestionReader$QuestionGrammar" 308 "QuestionReader$Kind" "AT_MOST" "LQuestionReader$Kind;" ∈ x_tsl := x_t3 (List.mem_of_getElem? (i := 110) rfl) rfl
theorem w_592 : Cond.fieldLink "QuestionReader$QuestionGrammar" 311 "QuestionReader$Kind" "MORE" "LQuestionReader$Kind;" ∈ x_tsl := x_t3 (List.mem_of_getElem? (i := 112) rfl) rfl
theorem w_594 : Cond.fieldLink "QuestionReader$QuestionGrammar" 314 "QuestionReader$Kind" "AT_LEAST" "LQuestionReader$Kind;" ∈ x_tsl := x_t3 (List.mem_of_getElem? (i := 114) rfl) rfl
theorem w_596 : Cond.methodLink "QuestionReader$QuestionGrammar" 202 ⟨"QuestionReader$Lexer", "tellUnfit", "()Z"⟩ ∈ x_tsl := x_t3 (List.mem_of_getElem? (i := 116) rfl) rfl
theorem w_597 : Cond.instanceMethod ⟨"QuestionReader$Lexer", "tellUnfit", "()Z"⟩ ∈ x_tsl := x_t3 (List.mem_of_getElem? (i := 117) rfl) rfl
theorem w_598 : Cond.selects "QuestionReader$Lexer" ⟨"QuestionReader$Lexer", "tellUnfit", "()Z"⟩ ⟨"QuestionReader$Lexer", "tellUnfit", "()Z"⟩ ∈ x_tsl := x_t3 (List.mem_of_getElem? (i := 118) rfl) rfl
theorem w_599 : Cond.code ⟨"QuestionReader$Lexer", "tellUnfit", "()Z"⟩ prog_8_method_7_code 1 (Option.some FieldType.boolean) ∈ x_tsl := x_t3 (List.mem_of_getElem? (i := 119) rfl) rfl
theorem w_600 : Cond.methodLink "QuestionReader$QuestionGrammar" 248 ⟨"QuestionReader$Comparison", "becomeRelation", "(LQuestionReader$Kind;I)V"⟩ ∈ x_tsl := x_t3 (List.mem_of_getElem? (i := 120) rfl) rfl
theorem w_601 : Cond.instanceMethod ⟨"QuestionReader$Comparison", "becomeRelation", "(LQuestionReader$Kind;I)V"⟩ ∈ x_tsl := x_t3 (List.mem_of_getElem? (i := 121) rfl) rfl
theorem w_602 : Cond.selects "QuestionReader$Comparison" ⟨"QuestionReader$Comparison", "becomeRelation", "(LQuestionReader$Kind;I)V"⟩ ⟨"QuestionReader$Comparison", "becomeRelation", "(LQuestionReader$Kind;I)V"⟩ ∈ x_tsl := x_t3 (List.mem_of_getElem? (i := 122) rfl) rfl
theorem w_603 : Cond.code ⟨"QuestionReader$Comparison", "becomeRelation", "(LQuestionReader$Kind;I)V"⟩ prog_4_method_4_code 5 none ∈ x_tsl := x_t3 (List.mem_of_getElem? (i := 123) rfl) rfl
theorem w_604 : Cond.fieldLink "QuestionReader$Comparison" 30 "QuestionReader$Kind" "UNEQUAL" "LQuestionReader$Kind;" ∈ x_tsl := x_t3 (List.mem_of_getElem? (i := 124) rfl) rfl
theorem w_605 : Cond.fieldLink "QuestionReader$Comparison" 36 "QuestionReader$Kind" "LESS" "LQuestionReader$Kind;" ∈ x_tsl := x_t3 (List.mem_of_getElem? (i := 125) rfl) rfl
theorem w_606 : Cond.fieldLink "QuestionReader$Comparison" 39 "QuestionReader$Kind" "MORE" "LQuestionReader$Kind;" ∈ x_tsl := x_t3 (List.mem_of_getElem? (i := 126) rfl) rfl
theorem w_607 : Cond.fieldLink "QuestionReader$Comparison" 42 "QuestionReader$Kind" "AT_MOST" "LQuestionReader$Kind;" ∈ x_tsl := x_t3 (List.mem_of_getElem? (i := 127) rfl) rfl
theorem w_608 : Cond.fieldLink "QuestionReader$Comparison" 45 "QuestionReader$Kind" "AT_LEAST" "LQuestionReader$Kind;" ∈ x_tsl := x_t3 (List.mem_of_getElem? (i := 128) rfl) rfl
theorem w_609 : Cond.constant "QuestionReader$Comparison" 50 (-2147483648 : Int32) ∈ x_tsl := x_t3 (List.mem_of_getElem? (i := 129) rfl) rfl
theorem w_610 : Cond.constant "QuestionReader$Comparison" 51 (2147483647 : Int32) ∈ x_tsl := x_t3 (List.mem_of_getElem? (i := 130) rfl) rfl
theorem w_611 : Cond.methodLink "QuestionReader$QuestionGrammar" 180 ⟨"QuestionReader$Condition", "addComing", "()V"⟩ ∈ x_tsl := x_t3 (List.mem_of_getElem? (i := 131) rfl) rfl
theorem w_612 : Cond.instanceMethod ⟨"QuestionReader$Condition", "addComing", "()V"⟩ ∈ x_tsl := x_t3 (List.mem_of_getElem? (i := 132) rfl) rfl
theorem w_613 : Cond.selects "QuestionReader$Condition" ⟨"QuestionReader$Condition", "addComing", "()V"⟩ ⟨"QuestionReader$Condition", "addComing", "()V"⟩ ∈ x_tsl := x_t3 (List.mem_of_getElem? (i := 133) rfl) rfl
theorem w_614 : Cond.code ⟨"QuestionReader$Condition", "addComing", "()V"⟩ prog_5_method_5_code 2 none ∈ x_tsl := x_t3 (List.mem_of_getElem? (i := 134) rfl) rfl
theorem w_615 : Cond.methodLink "QuestionReader$Condition" 57 ⟨"QuestionReader$Condition", "attach", "(I)V"⟩ ∈ x_tsl := x_t3 (List.mem_of_getElem? (i := 135) rfl) rfl
theorem w_617 : Cond.instanceMethod ⟨"QuestionReader$Condition", "attach", "(I)V"⟩ ∈ x_tsl := x_t3 (List.mem_of_getElem? (i := 137) rfl) rfl
theorem w_618 : Cond.code ⟨"QuestionReader$Condition", "attach", "(I)V"⟩ prog_5_method_13_code 2 none ∈ x_tsl := x_t3 (List.mem_of_getElem? (i := 138) rfl) rfl
theorem w_619 : Cond.methodLink "QuestionReader$Condition" 78 ⟨"QuestionReader$Condition", "join", "(ZII)I"⟩ ∈ x_tsl := x_t3 (List.mem_of_getElem? (i := 139) rfl) rfl
theorem w_621 : Cond.instanceMethod ⟨"QuestionReader$Condition", "join", "(ZII)I"⟩ ∈ x_tsl := x_t3 (List.mem_of_getElem? (i := 141) rfl) rfl
theorem w_622 : Cond.code ⟨"QuestionReader$Condition", "join", "(ZII)I"⟩ prog_5_method_15_code 5 (Option.some FieldType.int) ∈ x_tsl := x_t3 (List.mem_of_getElem? (i := 142) rfl) rfl
theorem w_623 : Cond.methodLink "QuestionReader$QuestionGrammar" 183 ⟨"QuestionReader$QuestionGrammar", "readClosings", "(LQuestionReader$Condition;)V"⟩ ∈ x_tsl := x_t3 (List.mem_of_getElem? (i := 143) rfl) rfl
theorem w_625 : Cond.instanceMethod ⟨"QuestionReader$QuestionGrammar", "readClosings", "(LQuestionReader$Condition;)V"⟩ ∈ x_tsl := x_t3 (List.mem_of_getElem? (i := 145) rfl) rfl
theorem w_626 : Cond.code ⟨"QuestionReader$QuestionGrammar", "readClosings", "(LQuestionReader$Condition;)V"⟩ prog_11_method_8_code 3 none ∈ x_tsl := x_t3 (List.mem_of_getElem? (i := 146) rfl) rfl
theorem w_627 : Cond.methodLink "QuestionReader$QuestionGrammar" 205 ⟨"QuestionReader$Condition", "closeBracket", "()V"⟩ ∈ x_tsl := x_t3 (List.mem_of_getElem? (i := 147) rfl) rfl
theorem w_628 : Cond.instanceMethod ⟨"QuestionReader$Condition", "closeBracket", "()V"⟩ ∈ x_tsl := x_t3 (List.mem_of_getElem? (i := 148) rfl) rfl
theorem w_629 : Cond.selects "QuestionReader$Condition" ⟨"QuestionReader$Condition", "closeBracket", "()V"⟩ ⟨"QuestionReader$Condition", "closeBracket", "()V"⟩ ∈ x_tsl := x_t3 (List.mem_of_getElem? (i := 149) rfl) rfl
theorem w_630 : Cond.code ⟨"QuestionReader$Condition", "closeBracket", "()V"⟩ prog_5_method_8_code 2 none ∈ x_tsl := x_t3 (List.mem_of_getElem? (i := 150) rfl) rfl
theorem w_631 : Cond.methodLink "QuestionReader$Condition" 61 ⟨"QuestionReader$Condition", "endLine", "()I"⟩ ∈ x_tsl := x_t3 (List.mem_of_getElem? (i := 151) rfl) rfl
theorem w_633 : Cond.instanceMethod ⟨"QuestionReader$Condition", "endLine", "()I"⟩ ∈ x_tsl := x_t3 (List.mem_of_getElem? (i := 153) rfl) rfl
theorem w_634 : Cond.code ⟨"QuestionReader$Condition", "endLine", "()I"⟩ prog_5_method_14_code 1 (Option.some FieldType.int) ∈ x_tsl := x_t3 (List.mem_of_getElem? (i := 154) rfl) rfl
theorem w_635 : Cond.fieldLink "QuestionReader$QuestionGrammar" 187 "QuestionReader$Kind" "OR" "LQuestionReader$Kind;" ∈ x_tsl := x_t3 (List.mem_of_getElem? (i := 155) rfl) rfl
theorem w_637 : Cond.methodLink "QuestionReader$QuestionGrammar" 190 ⟨"QuestionReader$Condition", "startAlternative", "()V"⟩ ∈ x_tsl := x_t3 (List.mem_of_getElem? (i := 157) rfl) rfl
theorem w_638 : Cond.instanceMethod ⟨"QuestionReader$Condition", "startAlternative", "()V"⟩ ∈ x_tsl := x_t3 (List.mem_of_getElem? (i := 158) rfl) rfl
theorem w_639 : Cond.selects "QuestionReader$Condition" ⟨"QuestionReader$Condition", "startAlternative", "()V"⟩ ⟨"QuestionReader$Condition", "startAlternative", "()V"⟩ ∈ x_tsl := x_t3 (List.mem_of_getElem? (i := 159) rfl) rfl
theorem w_640 : Cond.code ⟨"QuestionReader$Condition", "startAlternative", "()V"⟩ prog_5_method_9_code 1 none ∈ x_tsl := x_t3 (List.mem_of_getElem? (i := 160) rfl) rfl
theorem w_641 : Cond.methodLink "QuestionReader$QuestionGrammar" 196 ⟨"QuestionReader$Condition", "finish", "()V"⟩ ∈ x_tsl := x_t3 (List.mem_of_getElem? (i := 161) rfl) rfl
theorem w_642 : Cond.instanceMethod ⟨"QuestionReader$Condition", "finish", "()V"⟩ ∈ x_tsl := x_t3 (List.mem_of_getElem? (i := 162) rfl) rfl
theorem w_643 : Cond.selects "QuestionReader$Condition" ⟨"QuestionReader$Condition", "finish", "()V"⟩ ⟨"QuestionReader$Condition", "finish", "()V"⟩ ∈ x_tsl := x_t3 (List.mem_of_getElem? (i := 163) rfl) rfl
theorem w_644 : Cond.code ⟨"QuestionReader$Condition", "finish", "()V"⟩ prog_5_method_10_code 1 none ∈ x_tsl := x_t3 (List.mem_of_getElem? (i := 164) rfl) rfl
theorem w_645 : Cond.fieldLink "QuestionReader$QuestionGrammar" 65 "QuestionReader$Kind" "GROUP" "LQuestionReader$Kind;" ∈ x_tsl := x_t3 (List.mem_of_getElem? (i := 165) rfl) rfl
theorem w_647 : Cond.methodLink "QuestionReader$QuestionGrammar" 68 ⟨"QuestionReader$QuestionGrammar", "readGroups", "()Z"⟩ ∈ x_tsl := x_t3 (List.mem_of_getElem? (i := 167) rfl) rfl
theorem w_649 : Cond.instanceMethod ⟨"QuestionReader$QuestionGrammar", "readGroups", "()Z"⟩ ∈ x_tsl := x_t3 (List.mem_of_getElem? (i := 169) rfl) rfl
theorem w_650 : Cond.code ⟨"QuestionReader$QuestionGrammar", "readGroups", "()Z"⟩ prog_11_method_13_code 5 (Option.some FieldType.boolean) ∈ x_tsl := x_t3 (List.mem_of_getElem? (i := 170) rfl) rfl
theorem w_651 : Cond.fieldLink "QuestionReader$QuestionGrammar" 259 "QuestionReader$Kind" "BY" "LQuestionReader$Kind;" ∈ x_tsl := x_t3 (List.mem_of_getElem? (i := 171) rfl) rfl
theorem w_653 : Cond.fieldLink "QuestionReader$QuestionGrammar" 262 "QuestionReader$Kind" "ROLLUP" "LQuestionReader$Kind;" ∈ x_tsl := x_t3 (List.mem_of_getElem? (i := 173) rfl) rfl
theorem w_655 : Cond.fieldLink "QuestionReader$QuestionGrammar" 265 "QuestionReader$Kind" "CUBE" "LQuestionReader$Kind;" ∈ x_tsl := x_t3 (List.mem_of_getElem? (i := 175) rfl) rfl
theorem w_657 : Cond.methodLink "QuestionReader$QuestionGrammar" 268 ⟨"QuestionReader$QuestionGrammar", "readGroup", "(Z)I"⟩ ∈ x_tsl := x_t3 (List.mem_of_getElem? (i := 177) rfl) rfl
theorem w_659 : Cond.instanceMethod ⟨"QuestionReader$QuestionGrammar", "readGroup", "(Z)I"⟩ ∈ x_tsl := x_t3 (List.mem_of_getElem? (i := 179) rfl) rfl
theorem w_660 : Cond.code ⟨"QuestionReader$QuestionGrammar", "readGroup", "(Z)I"⟩ prog_11_method_14_code 5 (Option.some FieldType.int) ∈ x_tsl := x_t3 (List.mem_of_getElem? (i := 180) rfl) rfl
theorem w_661 : Cond.methodLink "QuestionReader$QuestionGrammar" 278 ⟨"QuestionReader$Question", "hasColumn", "(I)Z"⟩ ∈ x_tsl := x_t3 (List.mem_of_getElem? (i := 181) rfl) rfl
theorem w_662 : Cond.instanceMethod ⟨"QuestionReader$Question", "hasColumn", "(I)Z"⟩ ∈ x_tsl := x_t3 (List.mem_of_getElem? (i := 182) rfl) rfl
theorem w_663 : Cond.selects "QuestionReader$Question" ⟨"QuestionReader$Question", "hasColumn", "(I)Z"⟩ ⟨"QuestionReader$Question", "hasColumn", "(I)Z"⟩ ∈ x_tsl := x_t3 (List.mem_of_getElem? (i := 183) rfl) rfl
theorem w_664 : Cond.code ⟨"QuestionReader$Question", "hasColumn", "(I)Z"⟩ prog_10_method_7_code 3 (Option.some FieldType.boolean) ∈ x_tsl := x_t3 (List.mem_of_getElem? (i := 184) rfl) rfl
theorem w_665 : Cond.methodLink "QuestionReader$QuestionGrammar" 82 ⟨"QuestionReader$Lexer", "tell", "(II)Z"⟩ ∈ x_tsl := x_t3 (List.mem_of_getElem? (i := 185) rfl) rfl
theorem w_666 : Cond.methodLink "QuestionReader$QuestionGrammar" 281 ⟨"QuestionReader$Question", "addColumn", "(I)V"⟩ ∈ x_tsl := x_t3 (List.mem_of_getElem? (i := 186) rfl) rfl
theorem w_667 : Cond.instanceMethod ⟨"QuestionReader$Question", "addColumn", "(I)V"⟩ ∈ x_tsl := x_t3 (List.mem_of_getElem? (i := 187) rfl) rfl
theorem w_668 : Cond.selects "QuestionReader$Question" ⟨"QuestionReader$Question", "addColumn", "(I)V"⟩ ⟨"QuestionReader$Question", "addColumn", "(I)V"⟩ ∈ x_tsl := x_t3 (List.mem_of_getElem? (i := 188) rfl) rfl
theorem w_669 : Cond.code ⟨"QuestionReader$Question", "addColumn", "(I)V"⟩ prog_10_method_6_code 2 none ∈ x_tsl := x_t3 (List.mem_of_getElem? (i := 189) rfl) rfl
theorem w_670 : Cond.methodLink "QuestionReader$QuestionGrammar" 271 ⟨"QuestionReader$Question", "addGroup", "(LQuestionReader$Kind;I)Z"⟩ ∈ x_tsl := x_t3 (List.mem_of_getElem? (i := 190) rfl) rfl
theorem w_671 : Cond.instanceMethod ⟨"QuestionReader$Question", "addGroup", "(LQuestionReader$Kind;I)Z"⟩ ∈ x_tsl := x_t3 (List.mem_of_getElem? (i := 191) rfl) rfl
theorem w_672 : Cond.selects "QuestionReader$Question" ⟨"QuestionReader$Question", "addGroup", "(LQuestionReader$Kind;I)Z"⟩ ⟨"QuestionReader$Question", "addGroup", "(LQuestionReader$Kind;I)Z"⟩ ∈ x_tsl := x_t3 (List.mem_of_getElem? (i := 192) rfl) rfl
theorem w_673 : Cond.code ⟨"QuestionReader$Question", "addGroup", "(LQuestionReader$Kind;I)Z"⟩ prog_10_method_8_code 8 (Option.some FieldType.boolean) ∈ x_tsl := x_t3 (List.mem_of_getElem? (i := 193) rfl) rfl
theorem w_674 : Cond.fieldLink "QuestionReader$Question" 48 "QuestionReader$Kind" "CUBE" "LQuestionReader$Kind;" ∈ x_tsl := x_t3 (List.mem_of_getElem? (i := 194) rfl) rfl
theorem w_675 : Cond.fieldLink "QuestionReader$Question" 54 "QuestionReader$Kind" "ROLLUP" "LQuestionReader$Kind;" ∈ x_tsl := x_t3 (List.mem_of_getElem? (i := 195) rfl) rfl
theorem w_676 : Cond.methodLink "QuestionReader$Question" 57 ⟨"QuestionReader$Question", "chosenColumns", "(LQuestionReader$Kind;II)I"⟩ ∈ x_tsl := x_t3 (List.mem_of_getElem? (i := 196) rfl) rfl
theorem w_677 : Cond.static ⟨"QuestionReader$Question", "chosenColumns", "(LQuestionReader$Kind;II)I"⟩ ∈ x_tsl := x_t3 (List.mem_of_getElem? (i := 197) rfl) rfl
theorem w_678 : Cond.code ⟨"QuestionReader$Question", "chosenColumns", "(LQuestionReader$Kind;II)I"⟩ prog_10_method_10_code 4 (Option.some FieldType.int) ∈ x_tsl := x_t3 (List.mem_of_getElem? (i := 198) rfl) rfl
theorem w_679 : Cond.fieldLink "QuestionReader$QuestionGrammar" 71 "QuestionReader$Kind" "SEMICOLON" "LQuestionReader$Kind;" ∈ x_tsl := x_t3 (List.mem_of_getElem? (i := 199) rfl) rfl
theorem w_681 : Cond.methodLink "QuestionReader$QuestionGrammar" 78 ⟨"QuestionReader$Question", "firstUngrouped", "()I"⟩ ∈ x_tsl := x_t3 (List.mem_of_getElem? (i := 201) rfl) rfl
theorem w_682 : Cond.instanceMethod ⟨"QuestionReader$Question", "firstUngrouped", "()I"⟩ ∈ x_tsl := x_t3 (List.mem_of_getElem? (i := 202) rfl) rfl
theorem w_683 : Cond.selects "QuestionReader$Question" ⟨"QuestionReader$Question", "firstUngrouped", "()I"⟩ ⟨"QuestionReader$Question", "firstUngrouped", "()I"⟩ ∈ x_tsl := x_t3 (List.mem_of_getElem? (i := 203) rfl) rfl
theorem w_684 : Cond.code ⟨"QuestionReader$Question", "firstUngrouped", "()I"⟩ prog_10_method_9_code 3 (Option.some FieldType.int) ∈ x_tsl := x_t3 (List.mem_of_getElem? (i := 204) rfl) rfl
theorem w_685 : Cond.methodLink "QuestionReader$Question" 61 ⟨"QuestionReader$Question", "hasColumn", "(I)Z"⟩ ∈ x_tsl := x_t3 (List.mem_of_getElem? (i := 205) rfl) rfl
theorem w_686 : Cond.fieldLink "QuestionReader" 96 "QuestionReader$Kind" "END" "LQuestionReader$Kind;" ∈ x_tsl := x_t3 (List.mem_of_getElem? (i := 206) rfl) rfl
theorem w_687 : Cond.methodLink "QuestionReader" 99 ⟨"QuestionReader$CatalogGrammar", "readStatement", "()Z"⟩ ∈ x_tsl := x_t3 (List.mem_of_getElem? (i := 207) rfl) rfl
theorem w_688 : Cond.instanceMethod ⟨"QuestionReader$CatalogGrammar", "readStatement", "()Z"⟩ ∈ x_tsl := x_t3 (List.mem_of_getElem? (i := 208) rfl) rfl
theorem w_689 : Cond.selects "QuestionReader$CatalogGrammar" ⟨"QuestionReader$CatalogGrammar", "readStatement", "()Z"⟩ ⟨"QuestionReader$CatalogGrammar", "readStatement", "()Z"⟩ ∈ x_tsl := x_t3 (List.mem_of_getElem? (i := 209) rfl) rfl
theorem w_690 : Cond.code ⟨"QuestionReader$CatalogGrammar", "readStatement", "()Z"⟩ prog_3_method_2_code 2 (Option.some FieldType.boolean) ∈ x_tsl := x_t3 (List.mem_of_getElem? (i := 210) rfl) rfl
theorem w_691 : Cond.fieldLink "QuestionReader$CatalogGrammar" 32 "QuestionReader$Kind" "DIMENSION" "LQuestionReader$Kind;" ∈ x_tsl := x_t3 (List.mem_of_getElem? (i := 211) rfl) rfl
theorem w_693 : Cond.fieldLink "QuestionReader$CatalogGrammar" 37 "QuestionReader$Kind" "MEASURE" "LQuestionReader$Kind;" ∈ x_tsl := x_t3 (List.mem_of_getElem? (i := 213) rfl) rfl
theorem w_695 : Cond.fieldLink "QuestionReader$CatalogGrammar" 40 "QuestionReader$Kind" "MEMBER" "LQuestionReader$Kind;" ∈ x_tsl := x_t3 (List.mem_of_getElem? (i := 215) rfl) rfl
theorem w_697 : Cond.methodLink "QuestionReader$CatalogGrammar" 43 ⟨"QuestionReader$Lexer", "tellUnfit", "()Z"⟩ ∈ x_tsl := x_t3 (List.mem_of_getElem? (i := 217) rfl) rfl
theorem w_698 : Cond.methodLink "QuestionReader$CatalogGrammar" 51 ⟨"QuestionReader$Lexer", "tellHere", "(I)Z"⟩ ∈ x_tsl := x_t3 (List.mem_of_getElem? (i := 218) rfl) rfl
theorem w_699 : Cond.methodLink "QuestionReader$CatalogGrammar" 55 ⟨"QuestionReader$Lexer", "advance", "()V"⟩ ∈ x_tsl := x_t3 (List.mem_of_getElem? (i := 219) rfl) rfl
theorem w_700 : Cond.methodLink "QuestionReader$CatalogGrammar" 58 ⟨"QuestionReader$CatalogGrammar", "readDimension", "()Z"⟩ ∈ x_tsl := x_t3 (List.mem_of_getElem? (i := 220) rfl) rfl
theorem w_702 : Cond.instanceMethod ⟨"QuestionReader$CatalogGrammar", "readDimension", "()Z"⟩ ∈ x_tsl := x_t3 (List.mem_of_getElem? (i := 222) rfl) rfl
theorem w_703 : Cond.code ⟨"QuestionReader$CatalogGrammar", "readDimension", "()Z"⟩ prog_3_method_3_code 3 (Option.some FieldType.boolean) ∈ x_tsl := x_t3 (List.mem_of_getElem? (i := 223) rfl) rfl
theorem w_704 : Cond.methodLink "QuestionReader$CatalogGrammar" 71 ⟨"QuestionReader$CatalogGrammar", "atNewName", "(Z)Z"⟩ ∈ x_tsl := x_t3 (List.mem_of_getElem? (i := 224) rfl) rfl
theorem w_706 : Cond.instanceMethod ⟨"QuestionReader$CatalogGrammar", "atNewName", "(Z)Z"⟩ ∈ x_tsl := x_t3 (List.mem_of_getElem? (i := 226) rfl) rfl
theorem w_707 : Cond.code ⟨"QuestionReader$CatalogGrammar", "atNewName", "(Z)Z"⟩ prog_3_method_5_code 2 (Option.some FieldType.boolean) ∈ x_tsl := x_t3 (List.mem_of_getElem? (i := 227) rfl) rfl
theorem w_708 : Cond.methodLink "QuestionReader$CatalogGrammar" 107 ⟨"QuestionReader$Lexer", "atName", "()Z"⟩ ∈ x_tsl := x_t3 (List.mem_of_getElem? (i := 228) rfl) rfl
theorem w_709 : Cond.methodLink "QuestionReader$CatalogGrammar" 110 ⟨"QuestionReader$Catalog", "isTaken", "(LQuestionReader$Lexer;)Z"⟩ ∈ x_tsl := x_t3 (List.mem_of_getElem? (i := 229) rfl) rfl
theorem w_710 : Cond.instanceMethod ⟨"QuestionReader$Catalog", "isTaken", "(LQuestionReader$Lexer;)Z"⟩ ∈ x_tsl := x_t3 (List.mem_of_getElem? (i := 230) rfl) rfl
theorem w_711 : Cond.selects "QuestionReader$Catalog" ⟨"QuestionReader$Catalog", "isTaken", "(LQuestionReader$Lexer;)Z"⟩ ⟨"QuestionReader$Catalog", "isTaken", "(LQuestionReader$Lexer;)Z"⟩ ∈ x_tsl := x_t3 (List.mem_of_getElem? (i := 231) rfl) rfl
theorem w_712 : Cond.code ⟨"QuestionReader$Catalog", "isTaken", "(LQuestionReader$Lexer;)Z"⟩ prog_2_method_6_code 2 (Option.some FieldType.boolean) ∈ x_tsl := x_t3 (List.mem_of_getElem? (i := 232) rfl) rfl
theorem w_713 : Cond.methodLink "QuestionReader$Catalog" 53 ⟨"QuestionReader$Names", "search", "(IILQuestionReader$Lexer;)I"⟩ ∈ x_tsl := x_t3 (List.mem_of_getElem? (i := 233) rfl) rfl
theorem w_714 : Cond.methodLink "QuestionReader$CatalogGrammar" 75 ⟨"QuestionReader$Names", "keep", "(ILQuestionReader$Lexer;)V"⟩ ∈ x_tsl := x_t3 (List.mem_of_getElem? (i := 234) rfl) rfl
theorem w_715 : Cond.instanceMethod ⟨"QuestionReader$Names", "keep", "(ILQuestionReader$Lexer;)V"⟩ ∈ x_tsl := x_t3 (List.mem_of_getElem? (i := 235) rfl) rfl
theorem w_716 : Cond.selects "QuestionReader$Names" ⟨"QuestionReader$Names", "keep", "(ILQuestionReader$Lexer;)V"⟩ ⟨"QuestionReader$Names", "keep", "(ILQuestionReader$Lexer;)V"⟩ ∈ x_tsl := x_t3 (List.mem_of_getElem? (i := 236) rfl) rfl
theorem w_717 : Cond.code ⟨"QuestionReader$Names", "keep", "(ILQuestionReader$Lexer;)V"⟩ prog_9_method_2_code 4 none ∈ x_tsl := x_t3 (List.mem_of_getElem? (i := 237) rfl) rfl
theorem w_718 : Cond.methodLink "QuestionReader$Names" 37 ⟨"java/lang/System", "arraycopy", "(Ljava/lang/Object;ILjava/lang/Object;II)V"⟩ ∈ x_tsl := x_t3 (List.mem_of_getElem? (i := 238) rfl) rfl
theorem w_719 : Cond.static ⟨"java/lang/System", "arraycopy", "(Ljava/lang/Object;ILjava/lang/Object;II)V"⟩ ∈ x_tsl := x_t3 (List.mem_of_getElem? (i := 239) rfl) rfl
theorem w_720 : Cond.native ⟨"java/lang/System", "arraycopy", "(Ljava/lang/Object;ILjava/lang/Object;II)V"⟩ ∈ x_tsl := x_t4 (List.mem_of_getElem? (i := 0) rfl) rfl
theorem w_721 : Cond.fieldLink "QuestionReader$CatalogGrammar" 81 "QuestionReader$Kind" "OPENING" "LQuestionReader$Kind;" ∈ x_tsl := x_t4 (List.mem_of_getElem? (i := 1) rfl) rfl
theorem w_722 : Cond.methodLink "QuestionReader$CatalogGrammar" 84 ⟨"QuestionReader$Lexer", "next", "(LQuestionReader$Kind;)Z"⟩ ∈ x_tsl := x_t4 (List.mem_of_getElem? (i := 2) rfl) rfl
theorem w_723 : Cond.methodLink "QuestionReader$CatalogGrammar" 88 ⟨"QuestionReader$CatalogGrammar", "readLevels", "(I)I"⟩ ∈ x_tsl := x_t4 (List.mem_of_getElem? (i := 3) rfl) rfl
theorem w_725 : Cond.instanceMethod ⟨"QuestionReader$CatalogGrammar", "readLevels", "(I)I"⟩ ∈ x_tsl := x_t4 (List.mem_of_getElem? (i := 5) rfl) rfl
theorem w_726 : Cond.code ⟨"QuestionReader$CatalogGrammar", "readLevels", "(I)I"⟩ prog_3_method_6_code 4 (Option.some FieldType.int) ∈ x_tsl := x_t4 (List.mem_of_getElem? (i := 6) rfl) rfl
theorem w_727 : Cond.methodLink "QuestionReader$CatalogGrammar" 114 ⟨"QuestionReader$Catalog", "columnNumber", "(II)I"⟩ ∈ x_tsl := x_t4 (List.mem_of_getElem? (i := 7) rfl) rfl
theorem w_728 : Cond.methodLink "QuestionReader$CatalogGrammar" 118 ⟨"QuestionReader$CatalogGrammar", "atNewLevel", "(II)Z"⟩ ∈ x_tsl := x_t4 (List.mem_of_getElem? (i := 8) rfl) rfl
theorem w_730 : Cond.instanceMethod ⟨"QuestionReader$CatalogGrammar", "atNewLevel", "(II)Z"⟩ ∈ x_tsl := x_t4 (List.mem_of_getElem? (i := 10) rfl) rfl
theorem w_731 : Cond.code ⟨"QuestionReader$CatalogGrammar", "atNewLevel", "(II)Z"⟩ prog_3_method_7_code 3 (Option.some FieldType.boolean) ∈ x_tsl := x_t4 (List.mem_of_getElem? (i := 11) rfl) rfl
theorem w_732 : Cond.methodLink "QuestionReader$CatalogGrammar" 131 ⟨"QuestionReader$Names", "search", "(IILQuestionReader$Lexer;)I"⟩ ∈ x_tsl := x_t4 (List.mem_of_getElem? (i := 12) rfl) rfl
theorem w_733 : Cond.fieldLink "QuestionReader$CatalogGrammar" 122 "QuestionReader$Kind" "CLOSING" "LQuestionReader$Kind;" ∈ x_tsl := x_t4 (List.mem_of_getElem? (i := 13) rfl) rfl
theorem w_734 : Cond.fieldLink "QuestionReader$CatalogGrammar" 125 "QuestionReader$Kind" "COMMA" "LQuestionReader$Kind;" ∈ x_tsl := x_t4 (List.mem_of_getElem? (i := 14) rfl) rfl
theorem w_735 : Cond.methodLink "QuestionReader$CatalogGrammar" 128 ⟨"QuestionReader$Lexer", "at", "(LQuestionReader$Kind;)Z"⟩ ∈ x_tsl := x_t4 (List.mem_of_getElem? (i := 15) rfl) rfl
theorem w_736 : Cond.fieldLink "QuestionReader$CatalogGrammar" 92 "QuestionReader$Kind" "SEMICOLON" "LQuestionReader$Kind;" ∈ x_tsl := x_t4 (List.mem_of_getElem? (i := 16) rfl) rfl
theorem w_737 : Cond.methodLink "QuestionReader$CatalogGrammar" 61 ⟨"QuestionReader$CatalogGrammar", "readMeasure", "()Z"⟩ ∈ x_tsl := x_t4 (List.mem_of_getElem? (i := 17) rfl) rfl
theorem w_739 : Cond.instanceMethod ⟨"QuestionReader$CatalogGrammar", "readMeasure", "()Z"⟩ ∈ x_tsl := x_t4 (List.mem_of_getElem? (i := 19) rfl) rfl
theorem w_740 : Cond.code ⟨"QuestionReader$CatalogGrammar", "readMeasure", "()Z"⟩ prog_3_method_4_code 1 (Option.some FieldType.boolean) ∈ x_tsl := x_t4 (List.mem_of_getElem? (i := 20) rfl) rfl
theorem w_741 : Cond.methodLink "QuestionReader$CatalogGrammar" 64 ⟨"QuestionReader$CatalogGrammar", "readMembers", "()Z"⟩ ∈ x_tsl := x_t4 (List.mem_of_getElem? (i := 21) rfl) rfl
theorem w_743 : Cond.instanceMethod ⟨"QuestionReader$CatalogGrammar", "readMembers", "()Z"⟩ ∈ x_tsl := x_t4 (List.mem_of_getElem? (i := 23) rfl) rfl
theorem w_744 : Cond.code ⟨"QuestionReader$CatalogGrammar", "readMembers", "()Z"⟩ prog_3_method_8_code 4 (Option.some FieldType.boolean) ∈ x_tsl := x_t4 (List.mem_of_getElem? (i := 24) rfl) rfl
theorem w_745 : Cond.methodLink "QuestionReader$CatalogGrammar" 135 ⟨"QuestionReader$Names", "read", "(IILQuestionReader$Lexer;)I"⟩ ∈ x_tsl := x_t4 (List.mem_of_getElem? (i := 25) rfl) rfl
theorem w_746 : Cond.methodLink "QuestionReader$CatalogGrammar" 141 ⟨"QuestionReader$CatalogGrammar", "readMember", "(LQuestionReader$Dimension;I)Z"⟩ ∈ x_tsl := x_t4 (List.mem_of_getElem? (i := 26) rfl) rfl
theorem w_748 : Cond.instanceMethod ⟨"QuestionReader$CatalogGrammar", "readMember", "(LQuestionReader$Dimension;I)Z"⟩ ∈ x_tsl := x_t4 (List.mem_of_getElem? (i := 28) rfl) rfl
theorem w_749 : Cond.code ⟨"QuestionReader$CatalogGrammar", "readMember", "(LQuestionReader$Dimension;I)Z"⟩ prog_3_method_9_code 5 (Option.some FieldType.boolean) ∈ x_tsl := x_t4 (List.mem_of_getElem? (i := 29) rfl) rfl
theorem w_750 : Cond.methodLink "QuestionReader$CatalogGrammar" 148 ⟨"QuestionReader$Lexer", "tell", "(II)Z"⟩ ∈ x_tsl := x_t4 (List.mem_of_getElem? (i := 30) rfl) rfl
theorem w_751 : Cond.methodLink "QuestionReader$CatalogGrammar" 151 ⟨"QuestionReader$CatalogGrammar", "readValues", "(LQuestionReader$Dimension;I)I"⟩ ∈ x_tsl := x_t4 (List.mem_of_getElem? (i := 31) rfl) rfl
theorem w_753 : Cond.instanceMethod ⟨"QuestionReader$CatalogGrammar", "readValues", "(LQuestionReader$Dimension;I)I"⟩ ∈ x_tsl := x_t4 (List.mem_of_getElem? (i := 33) rfl) rfl
theorem w_754 : Cond.code ⟨"QuestionReader$CatalogGrammar", "readValues", "(LQuestionReader$Dimension;I)I"⟩ prog_3_method_10_code 4 (Option.some FieldType.int) ∈ x_tsl := x_t4 (List.mem_of_getElem? (i := 34) rfl) rfl
theorem w_755 : Cond.constant "QuestionReader$CatalogGrammar" 160 (65536 : Int32) ∈ x_tsl := x_t4 (List.mem_of_getElem? (i := 35) rfl) rfl
theorem w_756 : Cond.fieldLink "QuestionReader$CatalogGrammar" 161 "QuestionReader$Kind" "NUMBER" "LQuestionReader$Kind;" ∈ x_tsl := x_t4 (List.mem_of_getElem? (i := 36) rfl) rfl
theorem w_757 : Cond.methodLink "QuestionReader$CatalogGrammar" 167 ⟨"QuestionReader$Dimension", "prepare", "(III)V"⟩ ∈ x_tsl := x_t4 (List.mem_of_getElem? (i := 37) rfl) rfl
theorem w_758 : Cond.instanceMethod ⟨"QuestionReader$Dimension", "prepare", "(III)V"⟩ ∈ x_tsl := x_t4 (List.mem_of_getElem? (i := 38) rfl) rfl
theorem w_759 : Cond.selects "QuestionReader$Dimension" ⟨"QuestionReader$Dimension", "prepare", "(III)V"⟩ ⟨"QuestionReader$Dimension", "prepare", "(III)V"⟩ ∈ x_tsl := x_t4 (List.mem_of_getElem? (i := 39) rfl) rfl
theorem w_760 : Cond.code ⟨"QuestionReader$Dimension", "prepare", "(III)V"⟩ prog_6_method_2_code 4 none ∈ x_tsl := x_t4 (List.mem_of_getElem? (i := 40) rfl) rfl
theorem w_761 : Cond.methodLink "QuestionReader$CatalogGrammar" 155 ⟨"QuestionReader$Dimension", "fits", "(I)Z"⟩ ∈ x_tsl := x_t4 (List.mem_of_getElem? (i := 41) rfl) rfl
theorem w_762 : Cond.instanceMethod ⟨"QuestionReader$Dimension", "fits", "(I)Z"⟩ ∈ x_tsl := x_t4 (List.mem_of_getElem? (i := 42) rfl) rfl
theorem w_763 : Cond.selects "QuestionReader$Dimension" ⟨"QuestionReader$Dimension", "fits", "(I)Z"⟩ ⟨"QuestionReader$Dimension", "fits", "(I)Z"⟩ ∈ x_tsl := x_t4 (List.mem_of_getElem? (i := 43) rfl) rfl
theorem w_764 : Cond.code ⟨"QuestionReader$Dimension", "fits", "(I)Z"⟩ prog_6_method_3_code 4 (Option.some FieldType.boolean) ∈ x_tsl := x_t4 (List.mem_of_getElem? (i := 44) rfl) rfl
theorem w_765 : Cond.methodLink "QuestionReader$Dimension" 30 ⟨"QuestionReader$Dimension", "firstWithSame", "(II)I"⟩ ∈ x_tsl := x_t4 (List.mem_of_getElem? (i := 45) rfl) rfl
theorem w_767 : Cond.instanceMethod ⟨"QuestionReader$Dimension", "firstWithSame", "(II)I"⟩ ∈ x_tsl := x_t4 (List.mem_of_getElem? (i := 47) rfl) rfl
theorem w_768 : Cond.code ⟨"QuestionReader$Dimension", "firstWithSame", "(II)I"⟩ prog_6_method_9_code 4 (Option.some FieldType.int) ∈ x_tsl := x_t4 (List.mem_of_getElem? (i := 48) rfl) rfl
theorem w_769 : Cond.methodLink "QuestionReader$Dimension" 34 ⟨"QuestionReader$Dimension", "agreeAbove", "(III)Z"⟩ ∈ x_tsl := x_t4 (List.mem_of_getElem? (i := 49) rfl) rfl
theorem w_771 : Cond.instanceMethod ⟨"QuestionReader$Dimension", "agreeAbove", "(III)Z"⟩ ∈ x_tsl := x_t4 (List.mem_of_getElem? (i := 51) rfl) rfl
theorem w_772 : Cond.code ⟨"QuestionReader$Dimension", "agreeAbove", "(III)Z"⟩ prog_6_method_10_code 5 (Option.some FieldType.boolean) ∈ x_tsl := x_t4 (List.mem_of_getElem? (i := 52) rfl) rfl
theorem w_773 : Cond.methodLink "QuestionReaderLaw" 85 ⟨"QuestionReader", "open", "()Z"⟩ ∈ x_tsl := x_t4 (List.mem_of_getElem? (i := 53) rfl) rfl
theorem w_774 : Cond.instanceMethod ⟨"QuestionReader", "open", "()Z"⟩ ∈ x_tsl := x_t4 (List.mem_of_getElem? (i := 54) rfl) rfl
theorem w_775 : Cond.selects "QuestionReader" ⟨"QuestionReader", "open", "()Z"⟩ ⟨"QuestionReader", "open", "()Z"⟩ ∈ x_tsl := x_t4 (List.mem_of_getElem? (i := 55) rfl) rfl
theorem w_776 : Cond.code ⟨"QuestionReader", "open", "()Z"⟩ prog_1_method_6_code 1 (Option.some FieldType.boolean) ∈ x_tsl := x_t4 (List.mem_of_getElem? (i := 56) rfl) rfl
theorem w_777 : Cond.methodLink "QuestionReader" 108 ⟨"QuestionReader$Catalog", "becomeOpen", "()Z"⟩ ∈ x_tsl := x_t4 (List.mem_of_getElem? (i := 57) rfl) rfl
theorem w_778 : Cond.instanceMethod ⟨"QuestionReader$Catalog", "becomeOpen", "()Z"⟩ ∈ x_tsl := x_t4 (List.mem_of_getElem? (i := 58) rfl) rfl
theorem w_779 : Cond.selects "QuestionReader$Catalog" ⟨"QuestionReader$Catalog", "becomeOpen", "()Z"⟩ ⟨"QuestionReader$Catalog", "becomeOpen", "()Z"⟩ ∈ x_tsl := x_t4 (List.mem_of_getElem? (i := 59) rfl) rfl
theorem w_780 : Cond.code ⟨"QuestionReader$Catalog", "becomeOpen", "()Z"⟩ prog_2_method_7_code 2 (Option.some FieldType.boolean) ∈ x_tsl := x_t4 (List.mem_of_getElem? (i := 60) rfl) rfl
theorem w_781 : Cond.methodLink "QuestionReader$Catalog" 61 ⟨"QuestionReader$Dimension", "arrange", "()V"⟩ ∈ x_tsl := x_t4 (List.mem_of_getElem? (i := 61) rfl) rfl
theorem w_782 : Cond.instanceMethod ⟨"QuestionReader$Dimension", "arrange", "()V"⟩ ∈ x_tsl := x_t4 (List.mem_of_getElem? (i := 62) rfl) rfl
theorem w_783 : Cond.selects "QuestionReader$Dimension" ⟨"QuestionReader$Dimension", "arrange", "()V"⟩ ⟨"QuestionReader$Dimension", "arrange", "()V"⟩ ∈ x_tsl := x_t4 (List.mem_of_getElem? (i := 63) rfl) rfl
theorem w_784 : Cond.code ⟨"QuestionReader$Dimension", "arrange", "()V"⟩ prog_6_method_4_code 3 none ∈ x_tsl := x_t4 (List.mem_of_getElem? (i := 64) rfl) rfl
theorem w_785 : Cond.methodLink "QuestionReader$Dimension" 41 ⟨"QuestionReader$Dimension", "insert", "(II)V"⟩ ∈ x_tsl := x_t4 (List.mem_of_getElem? (i := 65) rfl) rfl
theorem w_787 : Cond.instanceMethod ⟨"QuestionReader$Dimension", "insert", "(II)V"⟩ ∈ x_tsl := x_t4 (List.mem_of_getElem? (i := 67) rfl) rfl
theorem w_788 : Cond.code ⟨"QuestionReader$Dimension", "insert", "(II)V"⟩ prog_6_method_11_code 7 none ∈ x_tsl := x_t4 (List.mem_of_getElem? (i := 68) rfl) rfl
theorem w_789 : Cond.methodLink "QuestionReader$Dimension" 45 ⟨"QuestionReader$Dimension", "lowerThan", "(II)I"⟩ ∈ x_tsl := x_t4 (List.mem_of_getElem? (i := 69) rfl) rfl
theorem w_790 : Cond.instanceMethod ⟨"QuestionReader$Dimension", "lowerThan", "(II)I"⟩ ∈ x_tsl := x_t4 (List.mem_of_getElem? (i := 70) rfl) rfl
theorem w_791 : Cond.selects "QuestionReader$Dimension" ⟨"QuestionReader$Dimension", "lowerThan", "(II)I"⟩ ⟨"QuestionReader$Dimension", "lowerThan", "(II)I"⟩ ∈ x_tsl := x_t4 (List.mem_of_getElem? (i := 71) rfl) rfl
theorem w_792 : Cond.code ⟨"QuestionReader$Dimension", "lowerThan", "(II)I"⟩ prog_6_method_7_code 7 (Option.some FieldType.int) ∈ x_tsl := x_t4 (List.mem_of_getElem? (i := 72) rfl) rfl
theorem w_793 : Cond.methodLink "QuestionReader$Dimension" 51 ⟨"java/lang/System", "arraycopy", "(Ljava/lang/Object;ILjava/lang/Object;II)V"⟩ ∈ x_tsl := x_t4 (List.mem_of_getElem? (i := 73) rfl) rfl
theorem w_794 : Cond.methodLink "QuestionReaderLaw" 64 ⟨"QuestionReaderLaw", "feed", "(LQuestionReader;IIIII[J)I"⟩ ∈ x_tsl := x_t4 (List.mem_of_getElem? (i := 74) rfl) rfl
theorem w_795 : Cond.static ⟨"QuestionReaderLaw", "feed", "(LQuestionReader;IIIII[J)I"⟩ ∈ x_tsl := x_t4 (List.mem_of_getElem? (i := 75) rfl) rfl
theorem w_796 : Cond.codeWith ⟨"QuestionReaderLaw", "feed", "(LQuestionReader;IIIII[J)I"⟩ method_3_code 8 (Option.some FieldType.int) [(0, 16, 19, 13)] ∈ x_tsl := x_t4 (List.mem_of_getElem? (i := 76) rfl) rfl
theorem w_797 : Cond.classLink "QuestionReaderLaw" 13 "java/lang/IllegalStateException" ∈ x_tsl := x_t4 (List.mem_of_getElem? (i := 77) rfl) rfl
theorem w_798 : Cond.methodLink "QuestionReaderLaw" 7 ⟨"QuestionReader", "feed", "(IIIII)I"⟩ ∈ x_tsl := x_t4 (List.mem_of_getElem? (i := 78) rfl) rfl
theorem w_799 : Cond.instanceMethod ⟨"QuestionReader", "feed", "(IIIII)I"⟩ ∈ x_tsl := x_t4 (List.mem_of_getElem? (i := 79) rfl) rfl
theorem w_800 : Cond.selects "QuestionReader" ⟨"QuestionReader", "feed", "(IIIII)I"⟩ ⟨"QuestionReader", "feed", "(IIIII)I"⟩ ∈ x_tsl := x_t4 (List.mem_of_getElem? (i := 80) rfl) rfl
theorem w_801 : Cond.code ⟨"QuestionReader", "feed", "(IIIII)I"⟩ prog_1_method_2_code 6 (Option.some FieldType.int) ∈ x_tsl := x_t4 (List.mem_of_getElem? (i := 81) rfl) rfl
theorem w_802 : Cond.constant "QuestionReader" 52 (65516 : Int32) ∈ x_tsl := x_t4 (List.mem_of_getElem? (i := 82) rfl) rfl
theorem w_803 : Cond.classLink "QuestionReader" 53 "java/lang/IllegalStateException" ∈ x_tsl := x_t4 (List.mem_of_getElem? (i := 83) rfl) rfl
theorem w_804 : Cond.instantiable "java/lang/IllegalStateException" 6 ∈ x_tsl := x_t4 (List.mem_of_getElem? (i := 84) rfl) rfl
theorem w_812 : Cond.selects "java/lang/IllegalStateException" ⟨"java/lang/Throwable", "fillInStackTrace", "(I)Ljava/lang/Throwable;"⟩ ⟨"java/lang/Throwable", "fillInStackTrace", "(I)Ljava/lang/Throwable;"⟩ ∈ x_tsl := x_t4 (List.mem_of_getElem? (i := 92) rfl) rfl
theorem w_813 : Cond.selects "java/lang/IllegalStateException" ⟨"java/lang/Throwable", "fillInStackTrace", "()Ljava/lang/Throwable;"⟩ ⟨"java/lang/Throwable", "fillInStackTrace", "()Ljava/lang/Throwable;"⟩ ∈ x_tsl := x_t4 (List.mem_of_getElem? (i := 93) rfl) rfl
theorem w_814 : Cond.lays "java/lang/IllegalStateException" "java/lang/Throwable" "cause" "Ljava/lang/Throwable;" ∈ x_tsl := x_t4 (List.mem_of_getElem? (i := 94) rfl) rfl
theorem w_815 : Cond.lays "java/lang/Throwable" "java/lang/Throwable" "cause" "Ljava/lang/Throwable;" ∈ x_tsl := x_t4 (List.mem_of_getElem? (i := 95) rfl) rfl
theorem w_816 : Cond.lays "java/lang/IllegalStateException" "java/lang/Throwable" "stackTrace" "[Ljava/lang/StackTraceElement;" ∈ x_tsl := x_t4 (List.mem_of_getElem? (i := 96) rfl) rfl
theorem w_817 : Cond.lays "java/lang/Throwable" "java/lang/Throwable" "stackTrace" "[Ljava/lang/StackTraceElement;" ∈ x_tsl := x_t4 (List.mem_of_getElem? (i := 97) rfl) rfl
theorem w_818 : Cond.lays "java/lang/IllegalStateException" "java/lang/Throwable" "suppressedExceptions" "Ljava/util/List;" ∈ x_tsl := x_t4 (List.mem_of_getElem? (i := 98) rfl) rfl
theorem w_819 : Cond.lays "java/lang/Throwable" "java/lang/Throwable" "suppressedExceptions" "Ljava/util/List;" ∈ x_tsl := x_t4 (List.mem_of_getElem? (i := 99) rfl) rfl
theorem w_820 : Cond.lays "java/lang/IllegalStateException" "java/lang/Throwable" "detailMessage" "Ljava/lang/String;" ∈ x_tsl := x_t4 (List.mem_of_getElem? (i := 100) rfl) rfl
theorem w_821 : Cond.lays "java/lang/Throwable" "java/lang/Throwable" "detailMessage" "Ljava/lang/String;" ∈ x_tsl := x_t4 (List.mem_of_getElem? (i := 101) rfl) rfl
theorem w_822 : Cond.lays "java/lang/IllegalStateException" "java/lang/Throwable" "backtrace" "Ljava/lang/Object;" ∈ x_tsl := x_t4 (List.mem_of_getElem? (i := 102) rfl) rfl
theorem w_823 : Cond.lays "java/lang/Throwable" "java/lang/Throwable" "backtrace" "Ljava/lang/Object;" ∈ x_tsl := x_t4 (List.mem_of_getElem? (i := 103) rfl) rfl
theorem w_824 : Cond.fieldLink "java/lang/Throwable" 198 "java/lang/Throwable" "backtrace" "Ljava/lang/Object;" ∈ x_tsl := x_t4 (List.mem_of_getElem? (i := 104) rfl) rfl
theorem w_826 : Cond.instanceMethod ⟨"java/lang/Throwable", "<init>", "()V"⟩ ∈ x_tsl := x_t4 (List.mem_of_getElem? (i := 106) rfl) rfl
theorem w_827 : Cond.code ⟨"java/lang/Throwable", "<init>", "()V"⟩ prog_25_method_1_code 1 none ∈ x_tsl := x_t4 (List.mem_of_getElem? (i := 107) rfl) rfl
theorem w_828 : Cond.methodLink "java/lang/Throwable" 1 ⟨"java/lang/Object", "<init>", "()V"⟩ ∈ x_tsl := x_t4 (List.mem_of_getElem? (i := 108) rfl) rfl
theorem w_829 : Cond.fieldLink "java/lang/Throwable" 13 "java/lang/Throwable" "UNASSIGNED_STACK" "[Ljava/lang/StackTraceElement;" ∈ x_tsl := x_t4 (List.mem_of_getElem? (i := 109) rfl) rfl
theorem w_831 : Cond.fieldLink "java/lang/Throwable" 20 "java/lang/Throwable" "SUPPRESSED_SENTINEL" "Ljava/util/List;" ∈ x_tsl := x_t4 (List.mem_of_getElem? (i := 111) rfl) rfl
theorem w_833 : Cond.methodLink "java/lang/Throwable" 27 ⟨"java/lang/Throwable", "fillInStackTrace", "()Ljava/lang/Throwable;"⟩ ∈ x_tsl := x_t4 (List.mem_of_getElem? (i := 113) rfl) rfl
theorem w_834 : Cond.instanceMethod ⟨"java/lang/Throwable", "fillInStackTrace", "()Ljava/lang/Throwable;"⟩ ∈ x_tsl := x_t4 (List.mem_of_getElem? (i := 114) rfl) rfl
theorem w_836 : Cond.selects "java/lang/IllegalArgumentException" ⟨"java/lang/Throwable", "fillInStackTrace", "()Ljava/lang/Throwable;"⟩ ⟨"java/lang/Throwable", "fillInStackTrace", "()Ljava/lang/Throwable;"⟩ ∈ x_tsl := x_t4 (List.mem_of_getElem? (i := 116) rfl) rfl
theorem w_838 : Cond.methodLink "java/lang/Throwable" 202 ⟨"java/lang/Throwable", "fillInStackTrace", "(I)Ljava/lang/Throwable;"⟩ ∈ x_tsl := x_t4 (List.mem_of_getElem? (i := 118) rfl) rfl
theorem w_840 : Cond.instanceMethod ⟨"java/lang/Throwable", "fillInStackTrace", "(I)Ljava/lang/Throwable;"⟩ ∈ x_tsl := x_t4 (List.mem_of_getElem? (i := 120) rfl) rfl
theorem w_841 : Cond.instantiable "java/lang/Throwable" 6 ∈ x_tsl := x_t4 (List.mem_of_getElem? (i := 121) rfl) rfl
theorem w_842 : Cond.native ⟨"java/lang/Throwable", "fillInStackTrace", "(I)Ljava/lang/Throwable;"⟩ ∈ x_tsl := x_t4 (List.mem_of_getElem? (i := 122) rfl) rfl
theorem w_844 : Cond.methodLink "QuestionReader" 57 ⟨"java/lang/IllegalStateException", "<init>", "(Ljava/lang/String;)V"⟩ ∈ x_tsl := x_t4 (List.mem_of_getElem? (i := 124) rfl) rfl
theorem w_845 : Cond.instanceMethod ⟨"java/lang/IllegalStateException", "<init>", "(Ljava/lang/String;)V"⟩ ∈ x_tsl := x_t4 (List.mem_of_getElem? (i := 125) rfl) rfl
theorem w_846 : Cond.code ⟨"java/lang/IllegalStateException", "<init>", "(Ljava/lang/String;)V"⟩ prog_19_method_2_code 2 none ∈ x_tsl := x_t4 (List.mem_of_getElem? (i := 126) rfl) rfl
theorem w_847 : Cond.methodLink "java/lang/IllegalStateException" 7 ⟨"java/lang/RuntimeException", "<init>", "(Ljava/lang/String;)V"⟩ ∈ x_tsl := x_t4 (List.mem_of_getElem? (i := 127) rfl) rfl
theorem w_848 : Cond.instanceMethod ⟨"java/lang/RuntimeException", "<init>", "(Ljava/lang/String;)V"⟩ ∈ x_tsl := x_t4 (List.mem_of_getElem? (i := 128) rfl) rfl
theorem w_849 : Cond.code ⟨"java/lang/RuntimeException", "<init>", "(Ljava/lang/String;)V"⟩ prog_20_method_2_code 2 none ∈ x_tsl := x_t4 (List.mem_of_getElem? (i := 129) rfl) rfl
theorem w_850 : Cond.methodLink "java/lang/RuntimeException" 7 ⟨"java/lang/Exception", "<init>", "(Ljava/lang/String;)V"⟩ ∈ x_tsl := x_t4 (List.mem_of_getElem? (i := 130) rfl) rfl
theorem w_851 : Cond.instanceMethod ⟨"java/lang/Exception", "<init>", "(Ljava/lang/String;)V"⟩ ∈ x_tsl := x_t4 (List.mem_of_getElem? (i := 131) rfl) rfl
theorem w_852 : Cond.code ⟨"java/lang/Exception", "<init>", "(Ljava/lang/String;)V"⟩ prog_17_method_2_code 2 none ∈ x_tsl := x_t4 (List.mem_of_getElem? (i := 132) rfl) rfl
theorem w_853 : Cond.methodLink "java/lang/Exception" 7 ⟨"java/lang/Throwable", "<init>", "(Ljava/lang/String;)V"⟩ ∈ x_tsl := x_t4 (List.mem_of_getElem? (i := 133) rfl) rfl
theorem w_854 : Cond.instanceMethod ⟨"java/lang/Throwable", "<init>", "(Ljava/lang/String;)V"⟩ ∈ x_tsl := x_t4 (List.mem_of_getElem? (i := 134) rfl) rfl
theorem w_855 : Cond.code ⟨"java/lang/Throwable", "<init>", "(Ljava/lang/String;)V"⟩ prog_25_method_2_code 2 none ∈ x_tsl := x_t4 (List.mem_of_getElem? (i := 135) rfl) rfl
theorem w_856 : Cond.fieldLink "java/lang/Throwable" 198 "java/lang/Throwable" "backtrace" "Ljava/lang/Object;" ∈ x_tsl := x_t4 (List.mem_of_getElem? (i := 136) rfl) rfl
theorem w_857 : Cond.fieldLink "java/lang/Throwable" 31 "java/lang/Throwable" "detailMessage" "Ljava/lang/String;" ∈ x_tsl := x_t4 (List.mem_of_getElem? (i := 137) rfl) rfl
theorem w_858 : Cond.fieldLink "java/lang/Throwable" 7 "java/lang/Throwable" "cause" "Ljava/lang/Throwable;" ∈ x_tsl := x_t4 (List.mem_of_getElem? (i := 138) rfl) rfl
theorem w_859 : Cond.fieldLink "java/lang/Throwable" 17 "java/lang/Throwable" "stackTrace" "[Ljava/lang/StackTraceElement;" ∈ x_tsl := x_t4 (List.mem_of_getElem? (i := 139) rfl) rfl
theorem w_860 : Cond.fieldLink "java/lang/Throwable" 24 "java/lang/Throwable" "suppressedExceptions" "Ljava/util/List;" ∈ x_tsl := x_t4 (List.mem_of_getElem? (i := 140) rfl) rfl
theorem w_865 : Cond.lays "java/lang/IllegalStateException" "java/lang/Throwable" "depth" "I" ∈ x_tsl := x_t4 (List.mem_of_getElem? (i := 145) rfl) rfl
theorem w_869 : Cond.methodLink "QuestionReader" 60 ⟨"QuestionReader$Text", "addFour", "(I)V"⟩ ∈ x_tsl := x_t4 (List.mem_of_getElem? (i := 149) rfl) rfl
theorem w_870 : Cond.instanceMethod ⟨"QuestionReader$Text", "addFour", "(I)V"⟩ ∈ x_tsl := x_t4 (List.mem_of_getElem? (i := 150) rfl) rfl
theorem w_871 : Cond.selects "QuestionReader$Text" ⟨"QuestionReader$Text", "addFour", "(I)V"⟩ ⟨"QuestionReader$Text", "addFour", "(I)V"⟩ ∈ x_tsl := x_t4 (List.mem_of_getElem? (i := 151) rfl) rfl
theorem w_872 : Cond.code ⟨"QuestionReader$Text", "addFour", "(I)V"⟩ prog_12_method_2_code 3 none ∈ x_tsl := x_t4 (List.mem_of_getElem? (i := 152) rfl) rfl
theorem w_873 : Cond.methodLink "QuestionReaderLaw" 74 ⟨"QuestionReaderLaw", "trim", "(LQuestionReader;I[J)I"⟩ ∈ x_tsl := x_t4 (List.mem_of_getElem? (i := 153) rfl) rfl
theorem w_874 : Cond.static ⟨"QuestionReaderLaw", "trim", "(LQuestionReader;I[J)I"⟩ ∈ x_tsl := x_t4 (List.mem_of_getElem? (i := 154) rfl) rfl
theorem w_875 : Cond.codeWith ⟨"QuestionReaderLaw", "trim", "(LQuestionReader;I[J)I"⟩ method_4_code 4 (Option.some FieldType.int) [(0, 9, 12, 19)] ∈ x_tsl := x_t4 (List.mem_of_getElem? (i := 155) rfl) rfl
theorem w_876 : Cond.classLink "QuestionReaderLaw" 19 "java/lang/IllegalArgumentException" ∈ x_tsl := x_t4 (List.mem_of_getElem? (i := 156) rfl) rfl
theorem w_877 : Cond.methodLink "QuestionReaderLaw" 15 ⟨"QuestionReader", "trim", "(I)I"⟩ ∈ x_tsl := x_t4 (List.mem_of_getElem? (i := 157) rfl) rfl
theorem w_878 : Cond.instanceMethod ⟨"QuestionReader", "trim", "(I)I"⟩ ∈ x_tsl := x_t4 (List.mem_of_getElem? (i := 158) rfl) rfl
theorem w_879 : Cond.selects "QuestionReader" ⟨"QuestionReader", "trim", "(I)I"⟩ ⟨"QuestionReader", "trim", "(I)I"⟩ ∈ x_tsl := x_t4 (List.mem_of_getElem? (i := 159) rfl) rfl
theorem w_880 : Cond.code ⟨"QuestionReader", "trim", "(I)I"⟩ prog_1_method_3_code 2 (Option.some FieldType.int) ∈ x_tsl := x_t4 (List.mem_of_getElem? (i := 160) rfl) rfl
theorem w_881 : Cond.methodLink "QuestionReader" 64 ⟨"QuestionReader", "demand", "(Z)V"⟩ ∈ x_tsl := x_t4 (List.mem_of_getElem? (i := 161) rfl) rfl
theorem w_882 : Cond.static ⟨"QuestionReader", "demand", "(Z)V"⟩ ∈ x_tsl := x_t4 (List.mem_of_getElem? (i := 162) rfl) rfl
theorem w_883 : Cond.code ⟨"QuestionReader", "demand", "(Z)V"⟩ prog_1_method_19_code 1 none ∈ x_tsl := x_t4 (List.mem_of_getElem? (i := 163) rfl) rfl
theorem w_884 : Cond.classLink "QuestionReader" 135 "java/lang/IllegalArgumentException" ∈ x_tsl := x_t4 (List.mem_of_getElem? (i := 164) rfl) rfl
theorem w_885 : Cond.instantiable "java/lang/IllegalArgumentException" 6 ∈ x_tsl := x_t4 (List.mem_of_getElem? (i := 165) rfl) rfl
theorem w_887 : Cond.selects "java/lang/IllegalArgumentException" ⟨"java/lang/Throwable", "fillInStackTrace", "(I)Ljava/lang/Throwable;"⟩ ⟨"java/lang/Throwable", "fillInStackTrace", "(I)Ljava/lang/Throwable;"⟩ ∈ x_tsl := x_t4 (List.mem_of_getElem? (i := 167) rfl) rfl
theorem w_888 : Cond.lays "java/lang/IllegalArgumentException" "java/lang/Throwable" "cause" "Ljava/lang/Throwable;" ∈ x_tsl := x_t4 (List.mem_of_getElem? (i := 168) rfl) rfl
theorem w_889 : Cond.lays "java/lang/IllegalArgumentException" "java/lang/Throwable" "stackTrace" "[Ljava/lang/StackTraceElement;" ∈ x_tsl := x_t4 (List.mem_of_getElem? (i := 169) rfl) rfl
theorem w_890 : Cond.lays "java/lang/IllegalArgumentException" "java/lang/Throwable" "suppressedExceptions" "Ljava/util/List;" ∈ x_tsl := x_t4 (List.mem_of_getElem? (i := 170) rfl) rfl
theorem w_891 : Cond.lays "java/lang/IllegalArgumentException" "java/lang/Throwable" "detailMessage" "Ljava/lang/String;" ∈ x_tsl := x_t4 (List.mem_of_getElem? (i := 171) rfl) rfl
theorem w_892 : Cond.lays "java/lang/IllegalArgumentException" "java/lang/Throwable" "backtrace" "Ljava/lang/Object;" ∈ x_tsl := x_t4 (List.mem_of_getElem? (i := 172) rfl) rfl
theorem w_894 : Cond.methodLink "QuestionReader" 139 ⟨"java/lang/IllegalArgumentException", "<init>", "(Ljava/lang/String;)V"⟩ ∈ x_tsl := x_t4 (List.mem_of_getElem? (i := 174) rfl) rfl
theorem w_895 : Cond.instanceMethod ⟨"java/lang/IllegalArgumentException", "<init>", "(Ljava/lang/String;)V"⟩ ∈ x_tsl := x_t4 (List.mem_of_getElem? (i := 175) rfl) rfl
theorem w_896 : Cond.code ⟨"java/lang/IllegalArgumentException", "<init>", "(Ljava/lang/String;)V"⟩ prog_18_method_2_code 2 none ∈ x_tsl := x_t4 (List.mem_of_getElem? (i := 176) rfl) rfl
theorem w_897 : Cond.methodLink "java/lang/IllegalArgumentException" 7 ⟨"java/lang/RuntimeException", "<init>", "(Ljava/lang/String;)V"⟩ ∈ x_tsl := x_t4 (List.mem_of_getElem? (i := 177) rfl) rfl
theorem w_898 : Cond.lays "java/lang/IllegalArgumentException" "java/lang/Throwable" "depth" "I" ∈ x_tsl := x_t4 (List.mem_of_getElem? (i := 178) rfl) rfl
theorem w_900 : Cond.methodLink "QuestionReaderLaw" 82 ⟨"QuestionReaderLaw", "fault", "(LQuestionReader;I[J)I"⟩ ∈ x_tsl := x_t4 (List.mem_of_getElem? (i := 180) rfl) rfl
theorem w_901 : Cond.static ⟨"QuestionReaderLaw", "fault", "(LQuestionReader;I[J)I"⟩ ∈ x_tsl := x_t4 (List.mem_of_getElem? (i := 181) rfl) rfl
theorem w_902 : Cond.codeWith ⟨"QuestionReaderLaw", "fault", "(LQuestionReader;I[J)I"⟩ method_5_code 4 (Option.some FieldType.int) [(0, 9, 12, 19)] ∈ x_tsl := x_t4 (List.mem_of_getElem? (i := 182) rfl) rfl
theorem w_903 : Cond.methodLink "QuestionReaderLaw" 21 ⟨"QuestionReader", "fault", "(I)I"⟩ ∈ x_tsl := x_t4 (List.mem_of_getElem? (i := 183) rfl) rfl
theorem w_904 : Cond.instanceMethod ⟨"QuestionReader", "fault", "(I)I"⟩ ∈ x_tsl := x_t4 (List.mem_of_getElem? (i := 184) rfl) rfl
theorem w_905 : Cond.selects "QuestionReader" ⟨"QuestionReader", "fault", "(I)I"⟩ ⟨"QuestionReader", "fault", "(I)I"⟩ ∈ x_tsl := x_t4 (List.mem_of_getElem? (i := 185) rfl) rfl
theorem w_906 : Cond.code ⟨"QuestionReader", "fault", "(I)I"⟩ prog_1_method_5_code 2 (Option.some FieldType.int) ∈ x_tsl := x_t4 (List.mem_of_getElem? (i := 186) rfl) rfl
theorem w_907 : Cond.methodLink "QuestionReaderLaw" 89 ⟨"QuestionReaderLaw", "count", "(LQuestionReader;I[J)I"⟩ ∈ x_tsl := x_t4 (List.mem_of_getElem? (i := 187) rfl) rfl
theorem w_908 : Cond.static ⟨"QuestionReaderLaw", "count", "(LQuestionReader;I[J)I"⟩ ∈ x_tsl := x_t4 (List.mem_of_getElem? (i := 188) rfl) rfl
theorem w_909 : Cond.codeWith ⟨"QuestionReaderLaw", "count", "(LQuestionReader;I[J)I"⟩ method_6_code 4 (Option.some FieldType.int) [(0, 9, 12, 19)] ∈ x_tsl := x_t4 (List.mem_of_getElem? (i := 189) rfl) rfl
theorem w_910 : Cond.methodLink "QuestionReaderLaw" 24 ⟨"QuestionReader", "count", "(I)I"⟩ ∈ x_tsl := x_t4 (List.mem_of_getElem? (i := 190) rfl) rfl
theorem w_911 : Cond.instanceMethod ⟨"QuestionReader", "count", "(I)I"⟩ ∈ x_tsl := x_t4 (List.mem_of_getElem? (i := 191) rfl) rfl
theorem w_912 : Cond.selects "QuestionReader" ⟨"QuestionReader", "count", "(I)I"⟩ ⟨"QuestionReader", "count", "(I)I"⟩ ∈ x_tsl := x_t4 (List.mem_of_getElem? (i := 192) rfl) rfl
theorem w_913 : Cond.code ⟨"QuestionReader", "count", "(I)I"⟩ prog_1_method_7_code 3 (Option.some FieldType.int) ∈ x_tsl := x_t4 (List.mem_of_getElem? (i := 193) rfl) rfl
theorem w_915 : Cond.methodLink "QuestionReaderLaw" 92 ⟨"QuestionReaderLaw", "dimension", "(LQuestionReader;II[J)I"⟩ ∈ x_tsl := x_t4 (List.mem_of_getElem? (i := 195) rfl) rfl
theorem w_916 : Cond.static ⟨"QuestionReaderLaw", "dimension", "(LQuestionReader;II[J)I"⟩ ∈ x_tsl := x_t4 (List.mem_of_getElem? (i := 196) rfl) rfl
theorem w_917 : Cond.codeWith ⟨"QuestionReaderLaw", "dimension", "(LQuestionReader;II[J)I"⟩ method_7_code 5 (Option.some FieldType.int) [(0, 10, 13, 19)] ∈ x_tsl := x_t4 (List.mem_of_getElem? (i := 197) rfl) rfl
theorem w_918 : Cond.methodLink "QuestionReaderLaw" 27 ⟨"QuestionReader", "dimension", "(II)I"⟩ ∈ x_tsl := x_t4 (List.mem_of_getElem? (i := 198) rfl) rfl
theorem w_919 : Cond.instanceMethod ⟨"QuestionReader", "dimension", "(II)I"⟩ ∈ x_tsl := x_t4 (List.mem_of_getElem? (i := 199) rfl) rfl
theorem w_920 : Cond.selects "QuestionReader" ⟨"QuestionReader", "dimension", "(II)I"⟩ ⟨"QuestionReader", "dimension", "(II)I"⟩ ∈ x_tsl := x_t4 (List.mem_of_getElem? (i := 200) rfl) rfl
theorem w_921 : Cond.code ⟨"QuestionReader", "dimension", "(II)I"⟩ prog_1_method_8_code 4 (Option.some FieldType.int) ∈ x_tsl := x_t4 (List.mem_of_getElem? (i := 201) rfl) rfl
theorem w_922 : Cond.methodLink "QuestionReader" 140 ⟨"QuestionReader$Catalog", "hasDimension", "(I)Z"⟩ ∈ x_tsl := x_t4 (List.mem_of_getElem? (i := 202) rfl) rfl
theorem w_923 : Cond.instanceMethod ⟨"QuestionReader$Catalog", "hasDimension", "(I)Z"⟩ ∈ x_tsl := x_t4 (List.mem_of_getElem? (i := 203) rfl) rfl
theorem w_924 : Cond.selects "QuestionReader$Catalog" ⟨"QuestionReader$Catalog", "hasDimension", "(I)Z"⟩ ⟨"QuestionReader$Catalog", "hasDimension", "(I)Z"⟩ ∈ x_tsl := x_t4 (List.mem_of_getElem? (i := 204) rfl) rfl
theorem w_925 : Cond.code ⟨"QuestionReader$Catalog", "hasDimension", "(I)Z"⟩ prog_2_method_2_code 2 (Option.some FieldType.boolean) ∈ x_tsl := x_t4 (List.mem_of_getElem? (i := 205) rfl) rfl
theorem w_926 : Cond.methodLink "QuestionReaderLaw" 96 ⟨"QuestionReaderLaw", "value", "(LQuestionReader;III[J)I"⟩ ∈ x_tsl := x_t4 (List.mem_of_getElem? (i := 206) rfl) rfl
theorem w_927 : Cond.static ⟨"QuestionReaderLaw", "value", "(LQuestionReader;III[J)I"⟩ ∈ x_tsl := x_t4 (List.mem_of_getElem? (i := 207) rfl) rfl
theorem w_928 : Cond.codeWith ⟨"QuestionReaderLaw", "value", "(LQuestionReader;III[J)I"⟩ method_8_code 6 (Option.some FieldType.int) [(0, 12, 15, 19)] ∈ x_tsl := x_t4 (List.mem_of_getElem? (i := 208) rfl) rfl
theorem w_929 : Cond.methodLink "QuestionReaderLaw" 31 ⟨"QuestionReader", "value", "(III)I"⟩ ∈ x_tsl := x_t4 (List.mem_of_getElem? (i := 209) rfl) rfl
theorem w_930 : Cond.instanceMethod ⟨"QuestionReader", "value", "(III)I"⟩ ∈ x_tsl := x_t4 (List.mem_of_getElem? (i := 210) rfl) rfl
theorem w_931 : Cond.selects "QuestionReader" ⟨"QuestionReader", "value", "(III)I"⟩ ⟨"QuestionReader", "value", "(III)I"⟩ ∈ x_tsl := x_t4 (List.mem_of_getElem? (i := 211) rfl) rfl
theorem w_932 : Cond.code ⟨"QuestionReader", "value", "(III)I"⟩ prog_1_method_9_code 4 (Option.some FieldType.int) ∈ x_tsl := x_t4 (List.mem_of_getElem? (i := 212) rfl) rfl
theorem w_933 : Cond.methodLink "QuestionReader" 156 ⟨"QuestionReader$Catalog", "hasLevel", "(II)Z"⟩ ∈ x_tsl := x_t4 (List.mem_of_getElem? (i := 213) rfl) rfl
theorem w_934 : Cond.instanceMethod ⟨"QuestionReader$Catalog", "hasLevel", "(II)Z"⟩ ∈ x_tsl := x_t4 (List.mem_of_getElem? (i := 214) rfl) rfl
theorem w_935 : Cond.selects "QuestionReader$Catalog" ⟨"QuestionReader$Catalog", "hasLevel", "(II)Z"⟩ ⟨"QuestionReader$Catalog", "hasLevel", "(II)Z"⟩ ∈ x_tsl := x_t4 (List.mem_of_getElem? (i := 215) rfl) rfl
theorem w_936 : Cond.code ⟨"QuestionReader$Catalog", "hasLevel", "(II)Z"⟩ prog_2_method_3_code 3 (Option.some FieldType.boolean) ∈ x_tsl := x_t4 (List.mem_of_getElem? (i := 216) rfl) rfl
theorem w_937 : Cond.methodLink "QuestionReader$Catalog" 29 ⟨"QuestionReader$Catalog", "hasDimension", "(I)Z"⟩ ∈ x_tsl := x_t4 (List.mem_of_getElem? (i := 217) rfl) rfl
theorem w_938 : Cond.methodLink "QuestionReader" 160 ⟨"QuestionReader$Catalog", "hasMember", "(II)Z"⟩ ∈ x_tsl := x_t4 (List.mem_of_getElem? (i := 218) rfl) rfl
theorem w_939 : Cond.instanceMethod ⟨"QuestionReader$Catalog", "hasMember", "(II)Z"⟩ ∈ x_tsl := x_t4 (List.mem_of_getElem? (i := 219) rfl) rfl
theorem w_940 : Cond.selects "QuestionReader$Catalog" ⟨"QuestionReader$Catalog", "hasMember", "(II)Z"⟩ ⟨"QuestionReader$Catalog", "hasMember", "(II)Z"⟩ ∈ x_tsl := x_t4 (List.mem_of_getElem? (i := 220) rfl) rfl
theorem w_941 : Cond.code ⟨"QuestionReader$Catalog", "hasMember", "(II)Z"⟩ prog_2_method_4_code 3 (Option.some FieldType.boolean) ∈ x_tsl := x_t4 (List.mem_of_getElem? (i := 221) rfl) rfl
theorem w_942 : Cond.methodLink "QuestionReader" 163 ⟨"QuestionReader$Dimension", "valueAt", "(II)I"⟩ ∈ x_tsl := x_t4 (List.mem_of_getElem? (i := 222) rfl) rfl
theorem w_943 : Cond.instanceMethod ⟨"QuestionReader$Dimension", "valueAt", "(II)I"⟩ ∈ x_tsl := x_t4 (List.mem_of_getElem? (i := 223) rfl) rfl
theorem w_944 : Cond.selects "QuestionReader$Dimension" ⟨"QuestionReader$Dimension", "valueAt", "(II)I"⟩ ⟨"QuestionReader$Dimension", "valueAt", "(II)I"⟩ ∈ x_tsl := x_t4 (List.mem_of_getElem? (i := 224) rfl) rfl
theorem w_945 : Cond.code ⟨"QuestionReader$Dimension", "valueAt", "(II)I"⟩ prog_6_method_5_code 3 (Option.some FieldType.int) ∈ x_tsl := x_t4 (List.mem_of_getElem? (i := 225) rfl) rfl
theorem w_946 : Cond.methodLink "QuestionReaderLaw" 100 ⟨"QuestionReaderLaw", "rank", "(LQuestionReader;III[J)I"⟩ ∈ x_tsl := x_t4 (List.mem_of_getElem? (i := 226) rfl) rfl
theorem w_947 : Cond.static ⟨"QuestionReaderLaw", "rank", "(LQuestionReader;III[J)I"⟩ ∈ x_tsl := x_t4 (List.mem_of_getElem? (i := 227) rfl) rfl
theorem w_948 : Cond.codeWith ⟨"QuestionReaderLaw", "rank", "(LQuestionReader;III[J)I"⟩ method_9_code 6 (Option.some FieldType.int) [(0, 12, 15, 19), (0, 12, 19, 13)] ∈ x_tsl := x_t4 (List.mem_of_getElem? (i := 228) rfl) rfl
theorem w_949 : Cond.methodLink "QuestionReaderLaw" 35 ⟨"QuestionReader", "rank", "(III)I"⟩ ∈ x_tsl := x_t4 (List.mem_of_getElem? (i := 229) rfl) rfl
theorem w_950 : Cond.instanceMethod ⟨"QuestionReader", "rank", "(III)I"⟩ ∈ x_tsl := x_t4 (List.mem_of_getElem? (i := 230) rfl) rfl
theorem w_951 : Cond.selects "QuestionReader" ⟨"QuestionReader", "rank", "(III)I"⟩ ⟨"QuestionReader", "rank", "(III)I"⟩ ∈ x_tsl := x_t4 (List.mem_of_getElem? (i := 231) rfl) rfl
theorem w_952 : Cond.code ⟨"QuestionReader", "rank", "(III)I"⟩ prog_1_method_10_code 5 (Option.some FieldType.int) ∈ x_tsl := x_t4 (List.mem_of_getElem? (i := 232) rfl) rfl
theorem w_953 : Cond.methodLink "QuestionReader" 167 ⟨"QuestionReader", "demandOpen", "()V"⟩ ∈ x_tsl := x_t4 (List.mem_of_getElem? (i := 233) rfl) rfl
theorem w_955 : Cond.instanceMethod ⟨"QuestionReader", "demandOpen", "()V"⟩ ∈ x_tsl := x_t4 (List.mem_of_getElem? (i := 235) rfl) rfl
theorem w_956 : Cond.code ⟨"QuestionReader", "demandOpen", "()V"⟩ prog_1_method_18_code 1 none ∈ x_tsl := x_t4 (List.mem_of_getElem? (i := 236) rfl) rfl
theorem w_958 : Cond.methodLink "QuestionReader" 170 ⟨"QuestionReader$Dimension", "distinctAt", "(I)I"⟩ ∈ x_tsl := x_t4 (List.mem_of_getElem? (i := 238) rfl) rfl
theorem w_959 : Cond.instanceMethod ⟨"QuestionReader$Dimension", "distinctAt", "(I)I"⟩ ∈ x_tsl := x_t4 (List.mem_of_getElem? (i := 239) rfl) rfl
theorem w_960 : Cond.selects "QuestionReader$Dimension" ⟨"QuestionReader$Dimension", "distinctAt", "(I)I"⟩ ⟨"QuestionReader$Dimension", "distinctAt", "(I)I"⟩ ∈ x_tsl := x_t5 (List.mem_of_getElem? (i := 0) rfl) rfl
theorem w_961 : Cond.code ⟨"QuestionReader$Dimension", "distinctAt", "(I)I"⟩ prog_6_method_6_code 2 (Option.some FieldType.int) ∈ x_tsl := x_t5 (List.mem_of_getElem? (i := 1) rfl) rfl
theorem w_962 : Cond.methodLink "QuestionReader" 174 ⟨"QuestionReader$Dimension", "lowerThan", "(II)I"⟩ ∈ x_tsl := x_t5 (List.mem_of_getElem? (i := 2) rfl) rfl
theorem w_963 : Cond.methodLink "QuestionReaderLaw" 103 ⟨"QuestionReaderLaw", "find", "(LQuestionReader;II[J)I"⟩ ∈ x_tsl := x_t5 (List.mem_of_getElem? (i := 3) rfl) rfl
theorem w_964 : Cond.static ⟨"QuestionReaderLaw", "find", "(LQuestionReader;II[J)I"⟩ ∈ x_tsl := x_t5 (List.mem_of_getElem? (i := 4) rfl) rfl
theorem w_965 : Cond.codeWith ⟨"QuestionReaderLaw", "find", "(LQuestionReader;II[J)I"⟩ method_10_code 5 (Option.some FieldType.int) [(0, 10, 13, 19), (0, 10, 17, 13)] ∈ x_tsl := x_t5 (List.mem_of_getElem? (i := 5) rfl) rfl
theorem w_966 : Cond.methodLink "QuestionReaderLaw" 38 ⟨"QuestionReader", "find", "(II)I"⟩ ∈ x_tsl := x_t5 (List.mem_of_getElem? (i := 6) rfl) rfl
theorem w_967 : Cond.instanceMethod ⟨"QuestionReader", "find", "(II)I"⟩ ∈ x_tsl := x_t5 (List.mem_of_getElem? (i := 7) rfl) rfl
theorem w_968 : Cond.selects "QuestionReader" ⟨"QuestionReader", "find", "(II)I"⟩ ⟨"QuestionReader", "find", "(II)I"⟩ ∈ x_tsl := x_t5 (List.mem_of_getElem? (i := 8) rfl) rfl
theorem w_969 : Cond.code ⟨"QuestionReader", "find", "(II)I"⟩ prog_1_method_11_code 3 (Option.some FieldType.int) ∈ x_tsl := x_t5 (List.mem_of_getElem? (i := 9) rfl) rfl
theorem w_970 : Cond.methodLink "QuestionReader" 177 ⟨"QuestionReader$Dimension", "placeOf", "(I)I"⟩ ∈ x_tsl := x_t5 (List.mem_of_getElem? (i := 10) rfl) rfl
theorem w_971 : Cond.instanceMethod ⟨"QuestionReader$Dimension", "placeOf", "(I)I"⟩ ∈ x_tsl := x_t5 (List.mem_of_getElem? (i := 11) rfl) rfl
theorem w_972 : Cond.selects "QuestionReader$Dimension" ⟨"QuestionReader$Dimension", "placeOf", "(I)I"⟩ ⟨"QuestionReader$Dimension", "placeOf", "(I)I"⟩ ∈ x_tsl := x_t5 (List.mem_of_getElem? (i := 12) rfl) rfl
theorem w_973 : Cond.code ⟨"QuestionReader$Dimension", "placeOf", "(I)I"⟩ prog_6_method_8_code 3 (Option.some FieldType.int) ∈ x_tsl := x_t5 (List.mem_of_getElem? (i := 13) rfl) rfl
theorem w_974 : Cond.methodLink "QuestionReaderLaw" 106 ⟨"QuestionReaderLaw", "letter", "(LQuestionReader;II[J)I"⟩ ∈ x_tsl := x_t5 (List.mem_of_getElem? (i := 14) rfl) rfl
theorem w_975 : Cond.static ⟨"QuestionReaderLaw", "letter", "(LQuestionReader;II[J)I"⟩ ∈ x_tsl := x_t5 (List.mem_of_getElem? (i := 15) rfl) rfl
theorem w_976 : Cond.codeWith ⟨"QuestionReaderLaw", "letter", "(LQuestionReader;II[J)I"⟩ method_11_code 5 (Option.some FieldType.int) [(0, 10, 13, 19)] ∈ x_tsl := x_t5 (List.mem_of_getElem? (i := 16) rfl) rfl
theorem w_977 : Cond.methodLink "QuestionReaderLaw" 41 ⟨"QuestionReader", "letter", "(II)I"⟩ ∈ x_tsl := x_t5 (List.mem_of_getElem? (i := 17) rfl) rfl
theorem w_978 : Cond.instanceMethod ⟨"QuestionReader", "letter", "(II)I"⟩ ∈ x_tsl := x_t5 (List.mem_of_getElem? (i := 18) rfl) rfl
theorem w_979 : Cond.selects "QuestionReader" ⟨"QuestionReader", "letter", "(II)I"⟩ ⟨"QuestionReader", "letter", "(II)I"⟩ ∈ x_tsl := x_t5 (List.mem_of_getElem? (i := 19) rfl) rfl
theorem w_980 : Cond.code ⟨"QuestionReader", "letter", "(II)I"⟩ prog_1_method_12_code 3 (Option.some FieldType.int) ∈ x_tsl := x_t5 (List.mem_of_getElem? (i := 20) rfl) rfl
theorem w_981 : Cond.methodLink "QuestionReader" 180 ⟨"QuestionReader$Catalog", "hasName", "(I)Z"⟩ ∈ x_tsl := x_t5 (List.mem_of_getElem? (i := 21) rfl) rfl
theorem w_982 : Cond.instanceMethod ⟨"QuestionReader$Catalog", "hasName", "(I)Z"⟩ ∈ x_tsl := x_t5 (List.mem_of_getElem? (i := 22) rfl) rfl
theorem w_983 : Cond.selects "QuestionReader$Catalog" ⟨"QuestionReader$Catalog", "hasName", "(I)Z"⟩ ⟨"QuestionReader$Catalog", "hasName", "(I)Z"⟩ ∈ x_tsl := x_t5 (List.mem_of_getElem? (i := 23) rfl) rfl
theorem w_984 : Cond.code ⟨"QuestionReader$Catalog", "hasName", "(I)Z"⟩ prog_2_method_5_code 3 (Option.some FieldType.boolean) ∈ x_tsl := x_t5 (List.mem_of_getElem? (i := 24) rfl) rfl
theorem w_985 : Cond.methodLink "QuestionReader$Catalog" 39 ⟨"QuestionReader$Catalog", "dimensionOf", "(I)I"⟩ ∈ x_tsl := x_t5 (List.mem_of_getElem? (i := 25) rfl) rfl
theorem w_986 : Cond.static ⟨"QuestionReader$Catalog", "dimensionOf", "(I)I"⟩ ∈ x_tsl := x_t5 (List.mem_of_getElem? (i := 26) rfl) rfl
theorem w_987 : Cond.code ⟨"QuestionReader$Catalog", "dimensionOf", "(I)I"⟩ prog_2_method_10_code 1 (Option.some FieldType.int) ∈ x_tsl := x_t5 (List.mem_of_getElem? (i := 27) rfl) rfl
theorem w_988 : Cond.methodLink "QuestionReader$Catalog" 43 ⟨"QuestionReader$Catalog", "levelOf", "(I)I"⟩ ∈ x_tsl := x_t5 (List.mem_of_getElem? (i := 28) rfl) rfl
theorem w_989 : Cond.static ⟨"QuestionReader$Catalog", "levelOf", "(I)I"⟩ ∈ x_tsl := x_t5 (List.mem_of_getElem? (i := 29) rfl) rfl
theorem w_990 : Cond.code ⟨"QuestionReader$Catalog", "levelOf", "(I)I"⟩ prog_2_method_11_code 1 (Option.some FieldType.int) ∈ x_tsl := x_t5 (List.mem_of_getElem? (i := 30) rfl) rfl
theorem w_991 : Cond.methodLink "QuestionReader$Catalog" 46 ⟨"QuestionReader$Catalog", "hasLevel", "(II)Z"⟩ ∈ x_tsl := x_t5 (List.mem_of_getElem? (i := 31) rfl) rfl
theorem w_992 : Cond.methodLink "QuestionReader" 187 ⟨"QuestionReader$Names", "letterAt", "(II)I"⟩ ∈ x_tsl := x_t5 (List.mem_of_getElem? (i := 32) rfl) rfl
theorem w_993 : Cond.instanceMethod ⟨"QuestionReader$Names", "letterAt", "(II)I"⟩ ∈ x_tsl := x_t5 (List.mem_of_getElem? (i := 33) rfl) rfl
theorem w_994 : Cond.selects "QuestionReader$Names" ⟨"QuestionReader$Names", "letterAt", "(II)I"⟩ ⟨"QuestionReader$Names", "letterAt", "(II)I"⟩ ∈ x_tsl := x_t5 (List.mem_of_getElem? (i := 34) rfl) rfl
theorem w_995 : Cond.code ⟨"QuestionReader$Names", "letterAt", "(II)I"⟩ prog_9_method_3_code 3 (Option.some FieldType.int) ∈ x_tsl := x_t5 (List.mem_of_getElem? (i := 35) rfl) rfl
theorem w_996 : Cond.methodLink "QuestionReaderLaw" 109 ⟨"QuestionReaderLaw", "item", "(LQuestionReader;II[J)I"⟩ ∈ x_tsl := x_t5 (List.mem_of_getElem? (i := 36) rfl) rfl
theorem w_997 : Cond.static ⟨"QuestionReaderLaw", "item", "(LQuestionReader;II[J)I"⟩ ∈ x_tsl := x_t5 (List.mem_of_getElem? (i := 37) rfl) rfl
theorem w_998 : Cond.codeWith ⟨"QuestionReaderLaw", "item", "(LQuestionReader;II[J)I"⟩ method_12_code 5 (Option.some FieldType.int) [(0, 10, 13, 19)] ∈ x_tsl := x_t5 (List.mem_of_getElem? (i := 38) rfl) rfl
theorem w_999 : Cond.methodLink "QuestionReaderLaw" 44 ⟨"QuestionReader", "item", "(II)I"⟩ ∈ x_tsl := x_t5 (List.mem_of_getElem? (i := 39) rfl) rfl
theorem w_1000 : Cond.instanceMethod ⟨"QuestionReader", "item", "(II)I"⟩ ∈ x_tsl := x_t5 (List.mem_of_getElem? (i := 40) rfl) rfl
theorem w_1001 : Cond.selects "QuestionReader" ⟨"QuestionReader", "item", "(II)I"⟩ ⟨"QuestionReader", "item", "(II)I"⟩ ∈ x_tsl := x_t5 (List.mem_of_getElem? (i := 41) rfl) rfl
theorem w_1002 : Cond.code ⟨"QuestionReader", "item", "(II)I"⟩ prog_1_method_13_code 4 (Option.some FieldType.int) ∈ x_tsl := x_t5 (List.mem_of_getElem? (i := 42) rfl) rfl
theorem w_1003 : Cond.methodLink "QuestionReaderLaw" 112 ⟨"QuestionReaderLaw", "group", "(LQuestionReader;I[J)I"⟩ ∈ x_tsl := x_t5 (List.mem_of_getElem? (i := 43) rfl) rfl
theorem w_1004 : Cond.static ⟨"QuestionReaderLaw", "group", "(LQuestionReader;I[J)I"⟩ ∈ x_tsl := x_t5 (List.mem_of_getElem? (i := 44) rfl) rfl
theorem w_1005 : Cond.codeWith ⟨"QuestionReaderLaw", "group", "(LQuestionReader;I[J)I"⟩ method_13_code 4 (Option.some FieldType.int) [(0, 9, 12, 19)] ∈ x_tsl := x_t5 (List.mem_of_getElem? (i := 45) rfl) rfl
theorem w_1006 : Cond.methodLink "QuestionReaderLaw" 47 ⟨"QuestionReader", "group", "(I)I"⟩ ∈ x_tsl := x_t5 (List.mem_of_getElem? (i := 46) rfl) rfl
theorem w_1007 : Cond.instanceMethod ⟨"QuestionReader", "group", "(I)I"⟩ ∈ x_tsl := x_t5 (List.mem_of_getElem? (i := 47) rfl) rfl
theorem w_1008 : Cond.selects "QuestionReader" ⟨"QuestionReader", "group", "(I)I"⟩ ⟨"QuestionReader", "group", "(I)I"⟩ ∈ x_tsl := x_t5 (List.mem_of_getElem? (i := 48) rfl) rfl
theorem w_1009 : Cond.code ⟨"QuestionReader", "group", "(I)I"⟩ prog_1_method_14_code 3 (Option.some FieldType.int) ∈ x_tsl := x_t5 (List.mem_of_getElem? (i := 49) rfl) rfl
theorem w_1010 : Cond.methodLink "QuestionReaderLaw" 115 ⟨"QuestionReaderLaw", "set", "(LQuestionReader;I[J)I"⟩ ∈ x_tsl := x_t5 (List.mem_of_getElem? (i := 50) rfl) rfl
theorem w_1011 : Cond.static ⟨"QuestionReaderLaw", "set", "(LQuestionReader;I[J)I"⟩ ∈ x_tsl := x_t5 (List.mem_of_getElem? (i := 51) rfl) rfl
theorem w_1012 : Cond.codeWith ⟨"QuestionReaderLaw", "set", "(LQuestionReader;I[J)I"⟩ method_14_code 4 (Option.some FieldType.int) [(0, 9, 12, 19)] ∈ x_tsl := x_t5 (List.mem_of_getElem? (i := 52) rfl) rfl
theorem w_1013 : Cond.methodLink "QuestionReaderLaw" 50 ⟨"QuestionReader", "set", "(I)I"⟩ ∈ x_tsl := x_t5 (List.mem_of_getElem? (i := 53) rfl) rfl
theorem w_1014 : Cond.instanceMethod ⟨"QuestionReader", "set", "(I)I"⟩ ∈ x_tsl := x_t5 (List.mem_of_getElem? (i := 54) rfl) rfl
theorem w_1015 : Cond.selects "QuestionReader" ⟨"QuestionReader", "set", "(I)I"⟩ ⟨"QuestionReader", "set", "(I)I"⟩ ∈ x_tsl := x_t5 (List.mem_of_getElem? (i := 55) rfl) rfl
theorem w_1016 : Cond.code ⟨"QuestionReader", "set", "(I)I"⟩ prog_1_method_15_code 3 (Option.some FieldType.int) ∈ x_tsl := x_t5 (List.mem_of_getElem? (i := 56) rfl) rfl
theorem w_1017 : Cond.methodLink "QuestionReaderLaw" 118 ⟨"QuestionReaderLaw", "pick", "(LQuestionReader;II[J)I"⟩ ∈ x_tsl := x_t5 (List.mem_of_getElem? (i := 57) rfl) rfl
theorem w_1018 : Cond.static ⟨"QuestionReaderLaw", "pick", "(LQuestionReader;II[J)I"⟩ ∈ x_tsl := x_t5 (List.mem_of_getElem? (i := 58) rfl) rfl
theorem w_1019 : Cond.codeWith ⟨"QuestionReaderLaw", "pick", "(LQuestionReader;II[J)I"⟩ method_15_code 5 (Option.some FieldType.int) [(0, 10, 13, 19), (0, 10, 17, 13)] ∈ x_tsl := x_t5 (List.mem_of_getElem? (i := 59) rfl) rfl
theorem w_1020 : Cond.methodLink "QuestionReaderLaw" 53 ⟨"QuestionReader", "pick", "(II)I"⟩ ∈ x_tsl := x_t5 (List.mem_of_getElem? (i := 60) rfl) rfl
theorem w_1021 : Cond.instanceMethod ⟨"QuestionReader", "pick", "(II)I"⟩ ∈ x_tsl := x_t5 (List.mem_of_getElem? (i := 61) rfl) rfl
theorem w_1022 : Cond.selects "QuestionReader" ⟨"QuestionReader", "pick", "(II)I"⟩ ⟨"QuestionReader", "pick", "(II)I"⟩ ∈ x_tsl := x_t5 (List.mem_of_getElem? (i := 62) rfl) rfl
theorem w_1023 : Cond.code ⟨"QuestionReader", "pick", "(II)I"⟩ prog_1_method_16_code 5 (Option.some FieldType.int) ∈ x_tsl := x_t5 (List.mem_of_getElem? (i := 63) rfl) rfl
theorem w_1024 : Cond.methodLink "QuestionReaderLaw" 121 ⟨"QuestionReaderLaw", "holds", "(LQuestionReader;[J)I"⟩ ∈ x_tsl := x_t5 (List.mem_of_getElem? (i := 64) rfl) rfl
theorem w_1025 : Cond.static ⟨"QuestionReaderLaw", "holds", "(LQuestionReader;[J)I"⟩ ∈ x_tsl := x_t5 (List.mem_of_getElem? (i := 65) rfl) rfl
theorem w_1026 : Cond.codeWith ⟨"QuestionReaderLaw", "holds", "(LQuestionReader;[J)I"⟩ method_16_code 3 (Option.some FieldType.int) [(0, 15, 18, 13)] ∈ x_tsl := x_t5 (List.mem_of_getElem? (i := 66) rfl) rfl
theorem w_1027 : Cond.methodLink "QuestionReaderLaw" 56 ⟨"QuestionReader", "holds", "()Z"⟩ ∈ x_tsl := x_t5 (List.mem_of_getElem? (i := 67) rfl) rfl
theorem w_1028 : Cond.instanceMethod ⟨"QuestionReader", "holds", "()Z"⟩ ∈ x_tsl := x_t5 (List.mem_of_getElem? (i := 68) rfl) rfl
theorem w_1029 : Cond.selects "QuestionReader" ⟨"QuestionReader", "holds", "()Z"⟩ ⟨"QuestionReader", "holds", "()Z"⟩ ∈ x_tsl := x_t5 (List.mem_of_getElem? (i := 69) rfl) rfl
theorem w_1030 : Cond.code ⟨"QuestionReader", "holds", "()Z"⟩ prog_1_method_17_code 2 (Option.some FieldType.boolean) ∈ x_tsl := x_t5 (List.mem_of_getElem? (i := 70) rfl) rfl
theorem w_1031 : Cond.methodLink "QuestionReader" 208 ⟨"QuestionReader$Question", "isAsked", "()Z"⟩ ∈ x_tsl := x_t5 (List.mem_of_getElem? (i := 71) rfl) rfl
theorem w_1032 : Cond.instanceMethod ⟨"QuestionReader$Question", "isAsked", "()Z"⟩ ∈ x_tsl := x_t5 (List.mem_of_getElem? (i := 72) rfl) rfl
theorem w_1033 : Cond.selects "QuestionReader$Question" ⟨"QuestionReader$Question", "isAsked", "()Z"⟩ ⟨"QuestionReader$Question", "isAsked", "()Z"⟩ ∈ x_tsl := x_t5 (List.mem_of_getElem? (i := 73) rfl) rfl
theorem w_1034 : Cond.code ⟨"QuestionReader$Question", "isAsked", "()Z"⟩ prog_10_method_4_code 1 (Option.some FieldType.boolean) ∈ x_tsl := x_t5 (List.mem_of_getElem? (i := 74) rfl) rfl
theorem w_1036 : Cond.methodLink "QuestionReader" 213 ⟨"QuestionReader$Condition", "isTrueFor", "(LQuestionReader$Catalog;)Z"⟩ ∈ x_tsl := x_t5 (List.mem_of_getElem? (i := 76) rfl) rfl
theorem w_1037 : Cond.instanceMethod ⟨"QuestionReader$Condition", "isTrueFor", "(LQuestionReader$Catalog;)Z"⟩ ∈ x_tsl := x_t5 (List.mem_of_getElem? (i := 77) rfl) rfl
theorem w_1038 : Cond.selects "QuestionReader$Condition" ⟨"QuestionReader$Condition", "isTrueFor", "(LQuestionReader$Catalog;)Z"⟩ ⟨"QuestionReader$Condition", "isTrueFor", "(LQuestionReader$Catalog;)Z"⟩ ∈ x_tsl := x_t5 (List.mem_of_getElem? (i := 78) rfl) rfl
theorem w_1039 : Cond.code ⟨"QuestionReader$Condition", "isTrueFor", "(LQuestionReader$Catalog;)Z"⟩ prog_5_method_11_code 6 (Option.some FieldType.boolean) ∈ x_tsl := x_t5 (List.mem_of_getElem? (i := 79) rfl) rfl
theorem w_1040 : Cond.methodLink "QuestionReader$Condition" 68 ⟨"QuestionReader$Catalog", "pickedValue", "(I)I"⟩ ∈ x_tsl := x_t5 (List.mem_of_getElem? (i := 80) rfl) rfl
theorem w_1041 : Cond.instanceMethod ⟨"QuestionReader$Catalog", "pickedValue", "(I)I"⟩ ∈ x_tsl := x_t5 (List.mem_of_getElem? (i := 81) rfl) rfl
theorem w_1042 : Cond.selects "QuestionReader$Catalog" ⟨"QuestionReader$Catalog", "pickedValue", "(I)I"⟩ ⟨"QuestionReader$Catalog", "pickedValue", "(I)I"⟩ ∈ x_tsl := x_t5 (List.mem_of_getElem? (i := 82) rfl) rfl
theorem w_1043 : Cond.code ⟨"QuestionReader$Catalog", "pickedValue", "(I)I"⟩ prog_2_method_8_code 3 (Option.some FieldType.int) ∈ x_tsl := x_t5 (List.mem_of_getElem? (i := 83) rfl) rfl
theorem w_1044 : Cond.methodLink "QuestionReader$Catalog" 67 ⟨"QuestionReader$Dimension", "valueAt", "(II)I"⟩ ∈ x_tsl := x_t5 (List.mem_of_getElem? (i := 84) rfl) rfl
theorem w_1045 : Cond.methodLink "QuestionReader$Condition" 74 ⟨"QuestionReader$Comparison", "accepts", "(I)Z"⟩ ∈ x_tsl := x_t5 (List.mem_of_getElem? (i := 85) rfl) rfl
theorem w_1046 : Cond.instanceMethod ⟨"QuestionReader$Comparison", "accepts", "(I)Z"⟩ ∈ x_tsl := x_t5 (List.mem_of_getElem? (i := 86) rfl) rfl
theorem w_1047 : Cond.selects "QuestionReader$Comparison" ⟨"QuestionReader$Comparison", "accepts", "(I)Z"⟩ ⟨"QuestionReader$Comparison", "accepts", "(I)Z"⟩ ∈ x_tsl := x_t5 (List.mem_of_getElem? (i := 87) rfl) rfl
theorem w_1048 : Cond.code ⟨"QuestionReader$Comparison", "accepts", "(I)Z"⟩ prog_4_method_6_code 3 (Option.some FieldType.boolean) ∈ x_tsl := x_t5 (List.mem_of_getElem? (i := 88) rfl) rfl
theorem w_1049 : Cond.methodLink "QuestionReader$Comparison" 52 ⟨"QuestionReader$Comparison", "isListed", "(I)Z"⟩ ∈ x_tsl := x_t5 (List.mem_of_getElem? (i := 89) rfl) rfl
theorem w_1051 : Cond.instanceMethod ⟨"QuestionReader$Comparison", "isListed", "(I)Z"⟩ ∈ x_tsl := x_t5 (List.mem_of_getElem? (i := 91) rfl) rfl
theorem w_1052 : Cond.code ⟨"QuestionReader$Comparison", "isListed", "(I)Z"⟩ prog_4_method_7_code 3 (Option.some FieldType.boolean) ∈ x_tsl := x_t5 (List.mem_of_getElem? (i := 92) rfl) rfl
theorem w_1053 : Cond.classLink "QuestionReaderLaw" 61 "QuestionReaderModel" ∈ x_tsl := x_t5 (List.mem_of_getElem? (i := 93) rfl) rfl
theorem w_1054 : Cond.instantiable "QuestionReaderModel" 27 ∈ x_tsl := x_t5 (List.mem_of_getElem? (i := 94) rfl) rfl
theorem w_1055 : Cond.methodLink "QuestionReaderLaw" 63 ⟨"QuestionReaderModel", "<init>", "()V"⟩ ∈ x_tsl := x_t5 (List.mem_of_getElem? (i := 95) rfl) rfl
theorem w_1056 : Cond.instanceMethod ⟨"QuestionReaderModel", "<init>", "()V"⟩ ∈ x_tsl := x_t5 (List.mem_of_getElem? (i := 96) rfl) rfl
theorem w_1057 : Cond.code ⟨"QuestionReaderModel", "<init>", "()V"⟩ prog_14_method_1_code 1 none ∈ x_tsl := x_t5 (List.mem_of_getElem? (i := 97) rfl) rfl
theorem w_1058 : Cond.methodLink "QuestionReaderModel" 1 ⟨"java/lang/Object", "<init>", "()V"⟩ ∈ x_tsl := x_t5 (List.mem_of_getElem? (i := 98) rfl) rfl
theorem w_1060 : Cond.constant "QuestionReaderModel" 15 (65536 : Int32) ∈ x_tsl := x_t5 (List.mem_of_getElem? (i := 100) rfl) rfl
theorem w_1061 : Cond.classLink "QuestionReaderModel" 43 "QuestionReaderModel$Question" ∈ x_tsl := x_t5 (List.mem_of_getElem? (i := 101) rfl) rfl
theorem w_1062 : Cond.instantiable "QuestionReaderModel$Question" 19 ∈ x_tsl := x_t5 (List.mem_of_getElem? (i := 102) rfl) rfl
theorem w_1064 : Cond.instanceMethod ⟨"QuestionReaderModel$Question", "<init>", "()V"⟩ ∈ x_tsl := x_t5 (List.mem_of_getElem? (i := 104) rfl) rfl
theorem w_1065 : Cond.code ⟨"QuestionReaderModel$Question", "<init>", "()V"⟩ prog_15_method_1_code 1 none ∈ x_tsl := x_t5 (List.mem_of_getElem? (i := 105) rfl) rfl
theorem w_1066 : Cond.methodLink "QuestionReaderModel$Question" 1 ⟨"java/lang/Object", "<init>", "()V"⟩ ∈ x_tsl := x_t5 (List.mem_of_getElem? (i := 106) rfl) rfl
theorem w_1068 : Cond.fieldLink "QuestionReaderModel$Question" 7 "QuestionReaderModel$Question" "kind" "[I" ∈ x_tsl := x_t5 (List.mem_of_getElem? (i := 108) rfl) rfl
theorem w_1070 : Cond.fieldLink "QuestionReaderModel$Question" 13 "QuestionReaderModel$Question" "of" "[I" ∈ x_tsl := x_t5 (List.mem_of_getElem? (i := 110) rfl) rfl
theorem w_1072 : Cond.fieldLink "QuestionReaderModel$Question" 16 "QuestionReaderModel$Question" "begins" "[I" ∈ x_tsl := x_t5 (List.mem_of_getElem? (i := 112) rfl) rfl
theorem w_1075 : Cond.fieldLink "QuestionReaderModel$Question" 19 "QuestionReaderModel$Question" "group" "[I" ∈ x_tsl := x_t5 (List.mem_of_getElem? (i := 115) rfl) rfl
theorem w_1078 : Cond.fieldLink "QuestionReaderModel$Question" 22 "QuestionReaderModel$Question" "partKind" "[I" ∈ x_tsl := x_t5 (List.mem_of_getElem? (i := 118) rfl) rfl
theorem w_1080 : Cond.fieldLink "QuestionReaderModel$Question" 25 "QuestionReaderModel$Question" "partSize" "[I" ∈ x_tsl := x_t5 (List.mem_of_getElem? (i := 120) rfl) rfl
theorem w_1083 : Cond.fieldLink "QuestionReaderModel$Question" 28 "QuestionReaderModel$Question" "set" "[I" ∈ x_tsl := x_t5 (List.mem_of_getElem? (i := 123) rfl) rfl
theorem w_1086 : Cond.fieldLink "QuestionReaderModel$Question" 31 "QuestionReaderModel$Question" "sign" "[I" ∈ x_tsl := x_t5 (List.mem_of_getElem? (i := 126) rfl) rfl
theorem w_1089 : Cond.fieldLink "QuestionReaderModel$Question" 34 "QuestionReaderModel$Question" "column" "[I" ∈ x_tsl := x_t5 (List.mem_of_getElem? (i := 129) rfl) rfl
theorem w_1091 : Cond.fieldLink "QuestionReaderModel$Question" 37 "QuestionReaderModel$Question" "how" "[I" ∈ x_tsl := x_t5 (List.mem_of_getElem? (i := 131) rfl) rfl
theorem w_1093 : Cond.fieldLink "QuestionReaderModel$Question" 40 "QuestionReaderModel$Question" "first" "[I" ∈ x_tsl := x_t5 (List.mem_of_getElem? (i := 133) rfl) rfl
theorem w_1095 : Cond.fieldLink "QuestionReaderModel$Question" 43 "QuestionReaderModel$Question" "second" "[I" ∈ x_tsl := x_t5 (List.mem_of_getElem? (i := 135) rfl) rfl
theorem w_1097 : Cond.fieldLink "QuestionReaderModel$Question" 46 "QuestionReaderModel$Question" "list" "[I" ∈ x_tsl := x_t5 (List.mem_of_getElem? (i := 137) rfl) rfl
theorem w_1099 : Cond.lays "QuestionReaderModel$Question" "QuestionReaderModel$Question" "items" "I" ∈ x_tsl := x_t5 (List.mem_of_getElem? (i := 139) rfl) rfl
theorem w_1101 : Cond.laysFinal "QuestionReaderModel$Question" "QuestionReaderModel$Question" "kind" "[I" ∈ x_tsl := x_t5 (List.mem_of_getElem? (i := 141) rfl) rfl
theorem w_1103 : Cond.laysFinal "QuestionReaderModel$Question" "QuestionReaderModel$Question" "of" "[I" ∈ x_tsl := x_t5 (List.mem_of_getElem? (i := 143) rfl) rfl
theorem w_1105 : Cond.laysFinal "QuestionReaderModel$Question" "QuestionReaderModel$Question" "begins" "[I" ∈ x_tsl := x_t5 (List.mem_of_getElem? (i := 145) rfl) rfl
theorem w_1107 : Cond.lays "QuestionReaderModel$Question" "QuestionReaderModel$Question" "groups" "I" ∈ x_tsl := x_t5 (List.mem_of_getElem? (i := 147) rfl) rfl
theorem w_1109 : Cond.laysFinal "QuestionReaderModel$Question" "QuestionReaderModel$Question" "group" "[I" ∈ x_tsl := x_t5 (List.mem_of_getElem? (i := 149) rfl) rfl
theorem w_1111 : Cond.lays "QuestionReaderModel$Question" "QuestionReaderModel$Question" "parts" "I" ∈ x_tsl := x_t5 (List.mem_of_getElem? (i := 151) rfl) rfl
theorem w_1113 : Cond.laysFinal "QuestionReaderModel$Question" "QuestionReaderModel$Question" "partKind" "[I" ∈ x_tsl := x_t5 (List.mem_of_getElem? (i := 153) rfl) rfl
theorem w_1115 : Cond.laysFinal "QuestionReaderModel$Question" "QuestionReaderModel$Question" "partSize" "[I" ∈ x_tsl := x_t5 (List.mem_of_getElem? (i := 155) rfl) rfl
theorem w_1117 : Cond.lays "QuestionReaderModel$Question" "QuestionReaderModel$Question" "sets" "I" ∈ x_tsl := x_t5 (List.mem_of_getElem? (i := 157) rfl) rfl
theorem w_1119 : Cond.laysFinal "QuestionReaderModel$Question" "QuestionReaderModel$Question" "set" "[I" ∈ x_tsl := x_t5 (List.mem_of_getElem? (i := 159) rfl) rfl
theorem w_1121 : Cond.lays "QuestionReaderModel$Question" "QuestionReaderModel$Question" "signs" "I" ∈ x_tsl := x_t5 (List.mem_of_getElem? (i := 161) rfl) rfl
theorem w_1123 : Cond.laysFinal "QuestionReaderModel$Question" "QuestionReaderModel$Question" "sign" "[I" ∈ x_tsl := x_t5 (List.mem_of_getElem? (i := 163) rfl) rfl
theorem w_1125 : Cond.lays "QuestionReaderModel$Question" "QuestionReaderModel$Question" "comparisons" "I" ∈ x_tsl := x_t5 (List.mem_of_getElem? (i := 165) rfl) rfl
theorem w_1127 : Cond.laysFinal "QuestionReaderModel$Question" "QuestionReaderModel$Question" "column" "[I" ∈ x_tsl := x_t5 (List.mem_of_getElem? (i := 167) rfl) rfl
theorem w_1129 : Cond.laysFinal "QuestionReaderModel$Question" "QuestionReaderModel$Question" "how" "[I" ∈ x_tsl := x_t5 (List.mem_of_getElem? (i := 169) rfl) rfl
theorem w_1131 : Cond.laysFinal "QuestionReaderModel$Question" "QuestionReaderModel$Question" "first" "[I" ∈ x_tsl := x_t5 (List.mem_of_getElem? (i := 171) rfl) rfl
theorem w_1133 : Cond.laysFinal "QuestionReaderModel$Question" "QuestionReaderModel$Question" "second" "[I" ∈ x_tsl := x_t5 (List.mem_of_getElem? (i := 173) rfl) rfl
theorem w_1135 : Cond.laysFinal "QuestionReaderModel$Question" "QuestionReaderModel$Question" "list" "[I" ∈ x_tsl := x_t5 (List.mem_of_getElem? (i := 175) rfl) rfl
theorem w_1138 : Cond.fieldLink "QuestionReaderModel" 9 "QuestionReaderModel" "reserved" "Ljava/lang/String;" ∈ x_tsl := x_t5 (List.mem_of_getElem? (i := 178) rfl) rfl
theorem w_1139 : Cond.fieldLink "QuestionReaderModel" 57 "QuestionReaderModel" "code" "I" ∈ x_tsl := x_t5 (List.mem_of_getElem? (i := 179) rfl) rfl
theorem w_1140 : Cond.fieldLink "QuestionReaderModel" 284 "QuestionReaderModel" "open" "Z" ∈ x_tsl := x_t5 (List.mem_of_getElem? (i := 180) rfl) rfl
theorem w_1141 : Cond.fieldLink "QuestionReaderModel" 16 "QuestionReaderModel" "text" "[B" ∈ x_tsl := x_t5 (List.mem_of_getElem? (i := 181) rfl) rfl
theorem w_1142 : Cond.fieldLink "QuestionReaderModel" 60 "QuestionReaderModel" "size" "I" ∈ x_tsl := x_t5 (List.mem_of_getElem? (i := 182) rfl) rfl
theorem w_1143 : Cond.fieldLink "QuestionReaderModel" 67 "QuestionReaderModel" "fault" "I" ∈ x_tsl := x_t5 (List.mem_of_getElem? (i := 183) rfl) rfl
theorem w_1144 : Cond.fieldLink "QuestionReaderModel" 20 "QuestionReaderModel" "place" "I" ∈ x_tsl := x_t5 (List.mem_of_getElem? (i := 184) rfl) rfl
theorem w_1145 : Cond.fieldLink "QuestionReaderModel" 70 "QuestionReaderModel" "at" "I" ∈ x_tsl := x_t5 (List.mem_of_getElem? (i := 185) rfl) rfl
theorem w_1146 : Cond.fieldLink "QuestionReaderModel" 77 "QuestionReaderModel" "from" "I" ∈ x_tsl := x_t5 (List.mem_of_getElem? (i := 186) rfl) rfl
theorem w_1147 : Cond.fieldLink "QuestionReaderModel" 86 "QuestionReaderModel" "token" "I" ∈ x_tsl := x_t5 (List.mem_of_getElem? (i := 187) rfl) rfl
theorem w_1148 : Cond.fieldLink "QuestionReaderModel" 80 "QuestionReaderModel" "word" "I" ∈ x_tsl := x_t5 (List.mem_of_getElem? (i := 188) rfl) rfl
theorem w_1149 : Cond.fieldLink "QuestionReaderModel" 121 "QuestionReaderModel" "number" "I" ∈ x_tsl := x_t5 (List.mem_of_getElem? (i := 189) rfl) rfl
theorem w_1150 : Cond.fieldLink "QuestionReaderModel" 83 "QuestionReaderModel" "sign" "I" ∈ x_tsl := x_t5 (List.mem_of_getElem? (i := 190) rfl) rfl
theorem w_1151 : Cond.fieldLink "QuestionReaderModel" 150 "QuestionReaderModel" "dimensions" "I" ∈ x_tsl := x_t5 (List.mem_of_getElem? (i := 191) rfl) rfl
theorem w_1152 : Cond.fieldLink "QuestionReaderModel" 24 "QuestionReaderModel" "levels" "[I" ∈ x_tsl := x_t5 (List.mem_of_getElem? (i := 192) rfl) rfl
theorem w_1153 : Cond.fieldLink "QuestionReaderModel" 28 "QuestionReaderModel" "members" "[I" ∈ x_tsl := x_t5 (List.mem_of_getElem? (i := 193) rfl) rfl
theorem w_1154 : Cond.fieldLink "QuestionReaderModel" 31 "QuestionReaderModel" "values" "[I" ∈ x_tsl := x_t5 (List.mem_of_getElem? (i := 194) rfl) rfl
theorem w_1155 : Cond.fieldLink "QuestionReaderModel" 34 "QuestionReaderModel" "picked" "[I" ∈ x_tsl := x_t5 (List.mem_of_getElem? (i := 195) rfl) rfl
theorem w_1156 : Cond.fieldLink "QuestionReaderModel" 157 "QuestionReaderModel" "measures" "I" ∈ x_tsl := x_t5 (List.mem_of_getElem? (i := 196) rfl) rfl
theorem w_1157 : Cond.fieldLink "QuestionReaderModel" 37 "QuestionReaderModel" "letters" "[B" ∈ x_tsl := x_t5 (List.mem_of_getElem? (i := 197) rfl) rfl
theorem w_1158 : Cond.fieldLink "QuestionReaderModel" 40 "QuestionReaderModel" "lengths" "[I" ∈ x_tsl := x_t5 (List.mem_of_getElem? (i := 198) rfl) rfl
theorem w_1159 : Cond.fieldLink "QuestionReaderModel" 46 "QuestionReaderModel" "asked" "LQuestionReaderModel$Question;" ∈ x_tsl := x_t5 (List.mem_of_getElem? (i := 199) rfl) rfl
theorem w_1160 : Cond.fieldLink "QuestionReaderModel" 50 "QuestionReaderModel" "next" "LQuestionReaderModel$Question;" ∈ x_tsl := x_t5 (List.mem_of_getElem? (i := 200) rfl) rfl
theorem w_1161 : Cond.fieldLink "QuestionReaderModel" 280 "QuestionReaderModel" "isAsked" "Z" ∈ x_tsl := x_t5 (List.mem_of_getElem? (i := 201) rfl) rfl
theorem w_1162 : Cond.fieldLink "QuestionReaderModel" 208 "QuestionReaderModel" "brackets" "I" ∈ x_tsl := x_t5 (List.mem_of_getElem? (i := 202) rfl) rfl
theorem w_1163 : Cond.fieldLink "QuestionReaderModel" 258 "QuestionReaderModel" "groupAt" "I" ∈ x_tsl := x_t5 (List.mem_of_getElem? (i := 203) rfl) rfl
theorem w_1164 : Cond.fieldLink "QuestionReaderModel" 53 "QuestionReaderModel" "pile" "[Z" ∈ x_tsl := x_t5 (List.mem_of_getElem? (i := 204) rfl) rfl
theorem w_1165 : Cond.laysFinal "QuestionReaderModel" "QuestionReaderModel" "reserved" "Ljava/lang/String;" ∈ x_tsl := x_t5 (List.mem_of_getElem? (i := 205) rfl) rfl
theorem w_1167 : Cond.lays "QuestionReaderModel" "QuestionReaderModel" "code" "I" ∈ x_tsl := x_t5 (List.mem_of_getElem? (i := 207) rfl) rfl
theorem w_1169 : Cond.lays "QuestionReaderModel" "QuestionReaderModel" "open" "Z" ∈ x_tsl := x_t5 (List.mem_of_getElem? (i := 209) rfl) rfl
theorem w_1171 : Cond.laysFinal "QuestionReaderModel" "QuestionReaderModel" "text" "[B" ∈ x_tsl := x_t5 (List.mem_of_getElem? (i := 211) rfl) rfl
theorem w_1173 : Cond.lays "QuestionReaderModel" "QuestionReaderModel" "size" "I" ∈ x_tsl := x_t5 (List.mem_of_getElem? (i := 213) rfl) rfl
theorem w_1175 : Cond.lays "QuestionReaderModel" "QuestionReaderModel" "fault" "I" ∈ x_tsl := x_t5 (List.mem_of_getElem? (i := 215) rfl) rfl
theorem w_1177 : Cond.lays "QuestionReaderModel" "QuestionReaderModel" "place" "I" ∈ x_tsl := x_t5 (List.mem_of_getElem? (i := 217) rfl) rfl
theorem w_1179 : Cond.lays "QuestionReaderModel" "QuestionReaderModel" "at" "I" ∈ x_tsl := x_t5 (List.mem_of_getElem? (i := 219) rfl) rfl
theorem w_1181 : Cond.lays "QuestionReaderModel" "QuestionReaderModel" "from" "I" ∈ x_tsl := x_t5 (List.mem_of_getElem? (i := 221) rfl) rfl
theorem w_1183 : Cond.lays "QuestionReaderModel" "QuestionReaderModel" "token" "I" ∈ x_tsl := x_t5 (List.mem_of_getElem? (i := 223) rfl) rfl
theorem w_1185 : Cond.lays "QuestionReaderModel" "QuestionReaderModel" "word" "I" ∈ x_tsl := x_t5 (List.mem_of_getElem? (i := 225) rfl) rfl
theorem w_1187 : Cond.lays "QuestionReaderModel" "QuestionReaderModel" "number" "I" ∈ x_tsl := x_t5 (List.mem_of_getElem? (i := 227) rfl) rfl
theorem w_1189 : Cond.lays "QuestionReaderModel" "QuestionReaderModel" "sign" "I" ∈ x_tsl := x_t5 (List.mem_of_getElem? (i := 229) rfl) rfl
theorem w_1191 : Cond.lays "QuestionReaderModel" "QuestionReaderModel" "dimensions" "I" ∈ x_tsl := x_t5 (List.mem_of_getElem? (i := 231) rfl) rfl
theorem w_1193 : Cond.laysFinal "QuestionReaderModel" "QuestionReaderModel" "levels" "[I" ∈ x_tsl := x_t5 (List.mem_of_getElem? (i := 233) rfl) rfl
theorem w_1195 : Cond.laysFinal "QuestionReaderModel" "QuestionReaderModel" "members" "[I" ∈ x_tsl := x_t5 (List.mem_of_getElem? (i := 235) rfl) rfl
theorem w_1197 : Cond.laysFinal "QuestionReaderModel" "QuestionReaderModel" "values" "[I" ∈ x_tsl := x_t5 (List.mem_of_getElem? (i := 237) rfl) rfl
theorem w_1199 : Cond.laysFinal "QuestionReaderModel" "QuestionReaderModel" "picked" "[I" ∈ x_tsl := x_t5 (List.mem_of_getElem? (i := 239) rfl) rfl
theorem w_1201 : Cond.lays "QuestionReaderModel" "QuestionReaderModel" "measures" "I" ∈ x_tsl := x_t6 (List.mem_of_getElem? (i := 1) rfl) rfl
theorem w_1203 : Cond.laysFinal "QuestionReaderModel" "QuestionReaderModel" "letters" "[B" ∈ x_tsl := x_t6 (List.mem_of_getElem? (i := 3) rfl) rfl
theorem w_1205 : Cond.laysFinal "QuestionReaderModel" "QuestionReaderModel" "lengths" "[I" ∈ x_tsl := x_t6 (List.mem_of_getElem? (i := 5) rfl) rfl
theorem w_1207 : Cond.lays "QuestionReaderModel" "QuestionReaderModel" "asked" "LQuestionReaderModel$Question;" ∈ x_tsl := x_t6 (List.mem_of_getElem? (i := 7) rfl) rfl
theorem w_1209 : Cond.lays "QuestionReaderModel" "QuestionReaderModel" "next" "LQuestionReaderModel$Question;" ∈ x_tsl := x_t6 (List.mem_of_getElem? (i := 9) rfl) rfl
theorem w_1211 : Cond.lays "QuestionReaderModel" "QuestionReaderModel" "isAsked" "Z" ∈ x_tsl := x_t6 (List.mem_of_getElem? (i := 11) rfl) rfl
theorem w_1213 : Cond.lays "QuestionReaderModel" "QuestionReaderModel" "brackets" "I" ∈ x_tsl := x_t6 (List.mem_of_getElem? (i := 13) rfl) rfl
theorem w_1215 : Cond.lays "QuestionReaderModel" "QuestionReaderModel" "groupAt" "I" ∈ x_tsl := x_t6 (List.mem_of_getElem? (i := 15) rfl) rfl
theorem w_1217 : Cond.laysFinal "QuestionReaderModel" "QuestionReaderModel" "pile" "[Z" ∈ x_tsl := x_t6 (List.mem_of_getElem? (i := 17) rfl) rfl
theorem w_1220 : Cond.methodLink "QuestionReaderLaw" 70 ⟨"QuestionReaderModel", "thrown", "()I"⟩ ∈ x_tsl := x_t6 (List.mem_of_getElem? (i := 20) rfl) rfl
theorem w_1221 : Cond.instanceMethod ⟨"QuestionReaderModel", "thrown", "()I"⟩ ∈ x_tsl := x_t6 (List.mem_of_getElem? (i := 21) rfl) rfl
theorem w_1222 : Cond.selects "QuestionReaderModel" ⟨"QuestionReaderModel", "thrown", "()I"⟩ ⟨"QuestionReaderModel", "thrown", "()I"⟩ ∈ x_tsl := x_t6 (List.mem_of_getElem? (i := 22) rfl) rfl
theorem w_1223 : Cond.code ⟨"QuestionReaderModel", "thrown", "()I"⟩ prog_14_method_2_code 1 (Option.some FieldType.int) ∈ x_tsl := x_t6 (List.mem_of_getElem? (i := 23) rfl) rfl
theorem w_1224 : Cond.methodLink "QuestionReaderLaw" 69 ⟨"QuestionReaderModel", "feed", "(IIIII)I"⟩ ∈ x_tsl := x_t6 (List.mem_of_getElem? (i := 24) rfl) rfl
theorem w_1225 : Cond.instanceMethod ⟨"QuestionReaderModel", "feed", "(IIIII)I"⟩ ∈ x_tsl := x_t6 (List.mem_of_getElem? (i := 25) rfl) rfl
theorem w_1226 : Cond.selects "QuestionReaderModel" ⟨"QuestionReaderModel", "feed", "(IIIII)I"⟩ ⟨"QuestionReaderModel", "feed", "(IIIII)I"⟩ ∈ x_tsl := x_t6 (List.mem_of_getElem? (i := 26) rfl) rfl
theorem w_1227 : Cond.code ⟨"QuestionReaderModel", "feed", "(IIIII)I"⟩ prog_14_method_4_code 6 (Option.some FieldType.int) ∈ x_tsl := x_t6 (List.mem_of_getElem? (i := 27) rfl) rfl
theorem w_1228 : Cond.methodLink "QuestionReaderModel" 63 ⟨"QuestionReaderModel", "lay", "(I)V"⟩ ∈ x_tsl := x_t6 (List.mem_of_getElem? (i := 28) rfl) rfl
theorem w_1230 : Cond.instanceMethod ⟨"QuestionReaderModel", "lay", "(I)V"⟩ ∈ x_tsl := x_t6 (List.mem_of_getElem? (i := 30) rfl) rfl
theorem w_1231 : Cond.code ⟨"QuestionReaderModel", "lay", "(I)V"⟩ prog_14_method_3_code 2 none ∈ x_tsl := x_t6 (List.mem_of_getElem? (i := 31) rfl) rfl
theorem w_1232 : Cond.methodLink "QuestionReaderLaw" 77 ⟨"QuestionReaderModel", "trim", "(I)I"⟩ ∈ x_tsl := x_t6 (List.mem_of_getElem? (i := 32) rfl) rfl
theorem w_1233 : Cond.instanceMethod ⟨"QuestionReaderModel", "trim", "(I)I"⟩ ∈ x_tsl := x_t6 (List.mem_of_getElem? (i := 33) rfl) rfl
theorem w_1234 : Cond.selects "QuestionReaderModel" ⟨"QuestionReaderModel", "trim", "(I)I"⟩ ⟨"QuestionReaderModel", "trim", "(I)I"⟩ ∈ x_tsl := x_t6 (List.mem_of_getElem? (i := 34) rfl) rfl
theorem w_1235 : Cond.code ⟨"QuestionReaderModel", "trim", "(I)I"⟩ prog_14_method_5_code 2 (Option.some FieldType.int) ∈ x_tsl := x_t6 (List.mem_of_getElem? (i := 35) rfl) rfl
theorem w_1236 : Cond.methodLink "QuestionReaderLaw" 81 ⟨"QuestionReaderModel", "run", "()I"⟩ ∈ x_tsl := x_t6 (List.mem_of_getElem? (i := 36) rfl) rfl
theorem w_1237 : Cond.instanceMethod ⟨"QuestionReaderModel", "run", "()I"⟩ ∈ x_tsl := x_t6 (List.mem_of_getElem? (i := 37) rfl) rfl
theorem w_1238 : Cond.selects "QuestionReaderModel" ⟨"QuestionReaderModel", "run", "()I"⟩ ⟨"QuestionReaderModel", "run", "()I"⟩ ∈ x_tsl := x_t6 (List.mem_of_getElem? (i := 38) rfl) rfl
theorem w_1239 : Cond.code ⟨"QuestionReaderModel", "run", "()I"⟩ prog_14_method_43_code 2 (Option.some FieldType.int) ∈ x_tsl := x_t6 (List.mem_of_getElem? (i := 39) rfl) rfl
theorem w_1240 : Cond.methodLink "QuestionReaderModel" 133 ⟨"QuestionReaderModel", "read", "()V"⟩ ∈ x_tsl := x_t6 (List.mem_of_getElem? (i := 40) rfl) rfl
theorem w_1242 : Cond.instanceMethod ⟨"QuestionReaderModel", "read", "()V"⟩ ∈ x_tsl := x_t6 (List.mem_of_getElem? (i := 42) rfl) rfl
theorem w_1243 : Cond.code ⟨"QuestionReaderModel", "read", "()V"⟩ prog_14_method_10_code 2 none ∈ x_tsl := x_t6 (List.mem_of_getElem? (i := 43) rfl) rfl
theorem w_1244 : Cond.methodLink "QuestionReaderModel" 73 ⟨"QuestionReaderModel", "look", "(I)I"⟩ ∈ x_tsl := x_t6 (List.mem_of_getElem? (i := 44) rfl) rfl
theorem w_1246 : Cond.instanceMethod ⟨"QuestionReaderModel", "look", "(I)I"⟩ ∈ x_tsl := x_t6 (List.mem_of_getElem? (i := 46) rfl) rfl
theorem w_1247 : Cond.code ⟨"QuestionReaderModel", "look", "(I)I"⟩ prog_14_method_9_code 2 (Option.some FieldType.int) ∈ x_tsl := x_t6 (List.mem_of_getElem? (i := 47) rfl) rfl
theorem w_1248 : Cond.methodLink "QuestionReaderModel" 89 ⟨"QuestionReaderModel", "isLetter", "(I)Z"⟩ ∈ x_tsl := x_t6 (List.mem_of_getElem? (i := 48) rfl) rfl
theorem w_1249 : Cond.static ⟨"QuestionReaderModel", "isLetter", "(I)Z"⟩ ∈ x_tsl := x_t6 (List.mem_of_getElem? (i := 49) rfl) rfl
theorem w_1250 : Cond.code ⟨"QuestionReaderModel", "isLetter", "(I)Z"⟩ prog_14_method_7_code 1 (Option.some FieldType.boolean) ∈ x_tsl := x_t6 (List.mem_of_getElem? (i := 50) rfl) rfl
theorem w_1251 : Cond.methodLink "QuestionReaderModel" 93 ⟨"QuestionReaderModel", "isDigit", "(I)Z"⟩ ∈ x_tsl := x_t6 (List.mem_of_getElem? (i := 51) rfl) rfl
theorem w_1252 : Cond.static ⟨"QuestionReaderModel", "isDigit", "(I)Z"⟩ ∈ x_tsl := x_t6 (List.mem_of_getElem? (i := 52) rfl) rfl
theorem w_1253 : Cond.code ⟨"QuestionReaderModel", "isDigit", "(I)Z"⟩ prog_14_method_8_code 1 (Option.some FieldType.boolean) ∈ x_tsl := x_t6 (List.mem_of_getElem? (i := 53) rfl) rfl
theorem w_1254 : Cond.methodLink "QuestionReaderModel" 96 ⟨"QuestionReaderModel", "wordOf", "()I"⟩ ∈ x_tsl := x_t6 (List.mem_of_getElem? (i := 54) rfl) rfl
theorem w_1256 : Cond.instanceMethod ⟨"QuestionReaderModel", "wordOf", "()I"⟩ ∈ x_tsl := x_t6 (List.mem_of_getElem? (i := 56) rfl) rfl
theorem w_1257 : Cond.code ⟨"QuestionReaderModel", "wordOf", "()I"⟩ prog_14_method_13_code 4 (Option.some FieldType.int) ∈ x_tsl := x_t6 (List.mem_of_getElem? (i := 57) rfl) rfl
theorem w_1258 : Cond.methodLink "QuestionReaderModel" 124 ⟨"java/lang/String", "length", "()I"⟩ ∈ x_tsl := x_t6 (List.mem_of_getElem? (i := 58) rfl) rfl
theorem w_1259 : Cond.instanceMethod ⟨"java/lang/String", "length", "()I"⟩ ∈ x_tsl := x_t6 (List.mem_of_getElem? (i := 59) rfl) rfl
theorem w_1260 : Cond.selects "java/lang/String" ⟨"java/lang/String", "length", "()I"⟩ ⟨"java/lang/String", "length", "()I"⟩ ∈ x_tsl := x_t6 (List.mem_of_getElem? (i := 60) rfl) rfl
theorem w_1261 : Cond.code ⟨"java/lang/String", "length", "()I"⟩ prog_21_method_54_code 1 (Option.some FieldType.int) ∈ x_tsl := x_t6 (List.mem_of_getElem? (i := 61) rfl) rfl
theorem w_1262 : Cond.methodLink "java/lang/String" 335 ⟨"java/lang/String", "coder", "()B"⟩ ∈ x_tsl := x_t6 (List.mem_of_getElem? (i := 62) rfl) rfl
theorem w_1263 : Cond.instanceMethod ⟨"java/lang/String", "coder", "()B"⟩ ∈ x_tsl := x_t6 (List.mem_of_getElem? (i := 63) rfl) rfl
theorem w_1264 : Cond.selects "java/lang/String" ⟨"java/lang/String", "coder", "()B"⟩ ⟨"java/lang/String", "coder", "()B"⟩ ∈ x_tsl := x_t6 (List.mem_of_getElem? (i := 64) rfl) rfl
theorem w_1265 : Cond.code ⟨"java/lang/String", "coder", "()B"⟩ prog_21_method_152_code 1 (Option.some FieldType.byte) ∈ x_tsl := x_t6 (List.mem_of_getElem? (i := 65) rfl) rfl
theorem w_1266 : Cond.fieldLink "java/lang/String" 38 "java/lang/String" "COMPACT_STRINGS" "Z" ∈ x_tsl := x_t6 (List.mem_of_getElem? (i := 66) rfl) rfl
theorem w_1268 : Cond.methodLink "QuestionReaderModel" 129 ⟨"java/lang/String", "charAt", "(I)C"⟩ ∈ x_tsl := x_t6 (List.mem_of_getElem? (i := 68) rfl) rfl
theorem w_1269 : Cond.instanceMethod ⟨"java/lang/String", "charAt", "(I)C"⟩ ∈ x_tsl := x_t6 (List.mem_of_getElem? (i := 69) rfl) rfl
theorem w_1270 : Cond.selects "java/lang/String" ⟨"java/lang/String", "charAt", "(I)C"⟩ ⟨"java/lang/String", "charAt", "(I)C"⟩ ∈ x_tsl := x_t6 (List.mem_of_getElem? (i := 70) rfl) rfl
theorem w_1271 : Cond.code ⟨"java/lang/String", "charAt", "(I)C"⟩ prog_21_method_56_code 2 (Option.some FieldType.char) ∈ x_tsl := x_t6 (List.mem_of_getElem? (i := 71) rfl) rfl
theorem w_1272 : Cond.methodLink "java/lang/String" 492 ⟨"java/lang/String", "isLatin1", "()Z"⟩ ∈ x_tsl := x_t6 (List.mem_of_getElem? (i := 72) rfl) rfl
theorem w_1273 : Cond.instanceMethod ⟨"java/lang/String", "isLatin1", "()Z"⟩ ∈ x_tsl := x_t6 (List.mem_of_getElem? (i := 73) rfl) rfl
theorem w_1274 : Cond.selects "java/lang/String" ⟨"java/lang/String", "isLatin1", "()Z"⟩ ⟨"java/lang/String", "isLatin1", "()Z"⟩ ∈ x_tsl := x_t6 (List.mem_of_getElem? (i := 74) rfl) rfl
theorem w_1275 : Cond.code ⟨"java/lang/String", "isLatin1", "()Z"⟩ prog_21_method_154_code 1 (Option.some FieldType.boolean) ∈ x_tsl := x_t6 (List.mem_of_getElem? (i := 75) rfl) rfl
theorem w_1276 : Cond.methodLink "java/lang/String" 495 ⟨"java/lang/StringLatin1", "charAt", "([BI)C"⟩ ∈ x_tsl := x_t6 (List.mem_of_getElem? (i := 76) rfl) rfl
theorem w_1277 : Cond.static ⟨"java/lang/StringLatin1", "charAt", "([BI)C"⟩ ∈ x_tsl := x_t6 (List.mem_of_getElem? (i := 77) rfl) rfl
theorem w_1278 : Cond.code ⟨"java/lang/StringLatin1", "charAt", "([BI)C"⟩ prog_22_method_2_code 2 (Option.some FieldType.char) ∈ x_tsl := x_t6 (List.mem_of_getElem? (i := 78) rfl) rfl
theorem w_1279 : Cond.methodLink "java/lang/StringLatin1" 9 ⟨"java/lang/String", "checkIndex", "(II)V"⟩ ∈ x_tsl := x_t6 (List.mem_of_getElem? (i := 79) rfl) rfl
theorem w_1280 : Cond.static ⟨"java/lang/String", "checkIndex", "(II)V"⟩ ∈ x_tsl := x_t6 (List.mem_of_getElem? (i := 80) rfl) rfl
theorem w_1281 : Cond.code ⟨"java/lang/String", "checkIndex", "(II)V"⟩ prog_21_method_155_code 2 none ∈ x_tsl := x_t6 (List.mem_of_getElem? (i := 81) rfl) rfl
theorem w_1282 : Cond.fieldLink "java/lang/String" 1053 "jdk/internal/util/Preconditions" "SIOOBE_FORMATTER" "Ljava/util/function/BiFunction;" ∈ x_tsl := x_t6 (List.mem_of_getElem? (i := 82) rfl) rfl
theorem w_1284 : Cond.methodLink "java/lang/String" 1059 ⟨"jdk/internal/util/Preconditions", "checkIndex", "(IILjava/util/function/BiFunction;)I"⟩ ∈ x_tsl := x_t6 (List.mem_of_getElem? (i := 84) rfl) rfl
theorem w_1285 : Cond.static ⟨"jdk/internal/util/Preconditions", "checkIndex", "(IILjava/util/function/BiFunction;)I"⟩ ∈ x_tsl := x_t6 (List.mem_of_getElem? (i := 85) rfl) rfl
theorem w_1286 : Cond.code ⟨"jdk/internal/util/Preconditions", "checkIndex", "(IILjava/util/function/BiFunction;)I"⟩ prog_26_method_11_code 3 (Option.some FieldType.int) ∈ x_tsl := x_t6 (List.mem_of_getElem? (i := 86) rfl) rfl
theorem w_1287 : Cond.methodLink "java/lang/String" 498 ⟨"java/lang/StringUTF16", "charAt", "([BI)C"⟩ ∈ x_tsl := x_t6 (List.mem_of_getElem? (i := 87) rfl) rfl
theorem w_1288 : Cond.static ⟨"java/lang/StringUTF16", "charAt", "([BI)C"⟩ ∈ x_tsl := x_t6 (List.mem_of_getElem? (i := 88) rfl) rfl
theorem w_1289 : Cond.code ⟨"java/lang/StringUTF16", "charAt", "([BI)C"⟩ prog_23_method_83_code 2 (Option.some FieldType.char) ∈ x_tsl := x_t6 (List.mem_of_getElem? (i := 89) rfl) rfl
theorem w_1290 : Cond.methodLink "java/lang/StringUTF16" 67 ⟨"java/lang/StringUTF16", "checkIndex", "(I[B)V"⟩ ∈ x_tsl := x_t6 (List.mem_of_getElem? (i := 90) rfl) rfl
theorem w_1291 : Cond.static ⟨"java/lang/StringUTF16", "checkIndex", "(I[B)V"⟩ ∈ x_tsl := x_t6 (List.mem_of_getElem? (i := 91) rfl) rfl
theorem w_1292 : Cond.code ⟨"java/lang/StringUTF16", "checkIndex", "(I[B)V"⟩ prog_23_method_91_code 2 none ∈ x_tsl := x_t6 (List.mem_of_getElem? (i := 92) rfl) rfl
theorem w_1293 : Cond.methodLink "java/lang/StringUTF16" 48 ⟨"java/lang/StringUTF16", "length", "([B)I"⟩ ∈ x_tsl := x_t6 (List.mem_of_getElem? (i := 93) rfl) rfl
theorem w_1294 : Cond.static ⟨"java/lang/StringUTF16", "length", "([B)I"⟩ ∈ x_tsl := x_t6 (List.mem_of_getElem? (i := 94) rfl) rfl
theorem w_1295 : Cond.code ⟨"java/lang/StringUTF16", "length", "([B)I"⟩ prog_23_method_6_code 1 (Option.some FieldType.int) ∈ x_tsl := x_t6 (List.mem_of_getElem? (i := 95) rfl) rfl
theorem w_1296 : Cond.methodLink "java/lang/StringUTF16" 414 ⟨"java/lang/String", "checkIndex", "(II)V"⟩ ∈ x_tsl := x_t6 (List.mem_of_getElem? (i := 96) rfl) rfl
theorem w_1297 : Cond.methodLink "java/lang/StringUTF16" 71 ⟨"java/lang/StringUTF16", "getChar", "([BI)C"⟩ ∈ x_tsl := x_t6 (List.mem_of_getElem? (i := 97) rfl) rfl
theorem w_1298 : Cond.static ⟨"java/lang/StringUTF16", "getChar", "([BI)C"⟩ ∈ x_tsl := x_t6 (List.mem_of_getElem? (i := 98) rfl) rfl
theorem w_1299 : Cond.code ⟨"java/lang/StringUTF16", "getChar", "([BI)C"⟩ prog_23_method_5_code 2 (Option.some FieldType.char) ∈ x_tsl := x_t6 (List.mem_of_getElem? (i := 99) rfl) rfl
theorem w_1300 : Cond.fieldLink "java/lang/StringUTF16" 44 "java/lang/StringUTF16" "$assertionsDisabled" "Z" ∈ x_tsl := x_t6 (List.mem_of_getElem? (i := 100) rfl) rfl
theorem w_1302 : Cond.fieldLink "java/lang/StringUTF16" 59 "java/lang/StringUTF16" "HI_BYTE_SHIFT" "I" ∈ x_tsl := x_t6 (List.mem_of_getElem? (i := 102) rfl) rfl
theorem w_1304 : Cond.fieldLink "java/lang/StringUTF16" 63 "java/lang/StringUTF16" "LO_BYTE_SHIFT" "I" ∈ x_tsl := x_t6 (List.mem_of_getElem? (i := 104) rfl) rfl
theorem w_1306 : Cond.methodLink "QuestionReaderModel" 100 ⟨"QuestionReaderModel", "readNumber", "(Z)V"⟩ ∈ x_tsl := x_t6 (List.mem_of_getElem? (i := 106) rfl) rfl
theorem w_1308 : Cond.instanceMethod ⟨"QuestionReaderModel", "readNumber", "(Z)V"⟩ ∈ x_tsl := x_t6 (List.mem_of_getElem? (i := 108) rfl) rfl
theorem w_1309 : Cond.code ⟨"QuestionReaderModel", "readNumber", "(Z)V"⟩ prog_14_method_11_code 4 none ∈ x_tsl := x_t6 (List.mem_of_getElem? (i := 109) rfl) rfl
theorem w_1310 : Cond.constantLong "QuestionReaderModel" 107 (3000000000 : Int64) ∈ x_tsl := x_t6 (List.mem_of_getElem? (i := 110) rfl) rfl
theorem w_1311 : Cond.constantLong "QuestionReaderModel" 109 (10 : Int64) ∈ x_tsl := x_t6 (List.mem_of_getElem? (i := 111) rfl) rfl
theorem w_1312 : Cond.constantLong "QuestionReaderModel" 111 (48 : Int64) ∈ x_tsl := x_t6 (List.mem_of_getElem? (i := 112) rfl) rfl
theorem w_1313 : Cond.constantLong "QuestionReaderModel" 113 (-2147483648 : Int64) ∈ x_tsl := x_t6 (List.mem_of_getElem? (i := 113) rfl) rfl
theorem w_1314 : Cond.constantLong "QuestionReaderModel" 115 (2147483647 : Int64) ∈ x_tsl := x_t6 (List.mem_of_getElem? (i := 114) rfl) rfl
theorem w_1315 : Cond.methodLink "QuestionReaderModel" 117 ⟨"QuestionReaderModel", "want", "(ZII)Z"⟩ ∈ x_tsl := x_t6 (List.mem_of_getElem? (i := 115) rfl) rfl
theorem w_1317 : Cond.instanceMethod ⟨"QuestionReaderModel", "want", "(ZII)Z"⟩ ∈ x_tsl := x_t6 (List.mem_of_getElem? (i := 117) rfl) rfl
theorem w_1318 : Cond.code ⟨"QuestionReaderModel", "want", "(ZII)Z"⟩ prog_14_method_6_code 4 (Option.some FieldType.boolean) ∈ x_tsl := x_t6 (List.mem_of_getElem? (i := 118) rfl) rfl
theorem w_1319 : Cond.methodLink "QuestionReaderModel" 104 ⟨"QuestionReaderModel", "readSign", "(I)V"⟩ ∈ x_tsl := x_t6 (List.mem_of_getElem? (i := 119) rfl) rfl
theorem w_1321 : Cond.instanceMethod ⟨"QuestionReaderModel", "readSign", "(I)V"⟩ ∈ x_tsl := x_t6 (List.mem_of_getElem? (i := 121) rfl) rfl
theorem w_1322 : Cond.code ⟨"QuestionReaderModel", "readSign", "(I)V"⟩ prog_14_method_12_code 5 none ∈ x_tsl := x_t6 (List.mem_of_getElem? (i := 122) rfl) rfl
theorem w_1323 : Cond.methodLink "QuestionReaderModel" 299 ⟨"QuestionReaderModel", "statement", "()V"⟩ ∈ x_tsl := x_t6 (List.mem_of_getElem? (i := 123) rfl) rfl
theorem w_1325 : Cond.instanceMethod ⟨"QuestionReaderModel", "statement", "()V"⟩ ∈ x_tsl := x_t6 (List.mem_of_getElem? (i := 125) rfl) rfl
theorem w_1326 : Cond.code ⟨"QuestionReaderModel", "statement", "()V"⟩ prog_14_method_42_code 2 none ∈ x_tsl := x_t6 (List.mem_of_getElem? (i := 126) rfl) rfl
theorem w_1327 : Cond.methodLink "QuestionReaderModel" 173 ⟨"QuestionReaderModel", "isWord", "(I)Z"⟩ ∈ x_tsl := x_t6 (List.mem_of_getElem? (i := 127) rfl) rfl
theorem w_1329 : Cond.instanceMethod ⟨"QuestionReaderModel", "isWord", "(I)Z"⟩ ∈ x_tsl := x_t6 (List.mem_of_getElem? (i := 129) rfl) rfl
theorem w_1330 : Cond.code ⟨"QuestionReaderModel", "isWord", "(I)Z"⟩ prog_14_method_16_code 2 (Option.some FieldType.boolean) ∈ x_tsl := x_t6 (List.mem_of_getElem? (i := 130) rfl) rfl
theorem w_1331 : Cond.methodLink "QuestionReaderModel" 139 ⟨"QuestionReaderModel", "must", "(Z)Z"⟩ ∈ x_tsl := x_t6 (List.mem_of_getElem? (i := 131) rfl) rfl
theorem w_1333 : Cond.instanceMethod ⟨"QuestionReaderModel", "must", "(Z)Z"⟩ ∈ x_tsl := x_t6 (List.mem_of_getElem? (i := 133) rfl) rfl
theorem w_1334 : Cond.code ⟨"QuestionReaderModel", "must", "(Z)Z"⟩ prog_14_method_14_code 2 (Option.some FieldType.boolean) ∈ x_tsl := x_t6 (List.mem_of_getElem? (i := 134) rfl) rfl
theorem w_1335 : Cond.methodLink "QuestionReaderModel" 287 ⟨"QuestionReaderModel", "dimension", "()V"⟩ ∈ x_tsl := x_t6 (List.mem_of_getElem? (i := 135) rfl) rfl
theorem w_1337 : Cond.instanceMethod ⟨"QuestionReaderModel", "dimension", "()V"⟩ ∈ x_tsl := x_t6 (List.mem_of_getElem? (i := 137) rfl) rfl
theorem w_1338 : Cond.code ⟨"QuestionReaderModel", "dimension", "()V"⟩ prog_14_method_23_code 4 none ∈ x_tsl := x_t6 (List.mem_of_getElem? (i := 138) rfl) rfl
theorem w_1339 : Cond.methodLink "QuestionReaderModel" 160 ⟨"QuestionReaderModel", "newName", "()Z"⟩ ∈ x_tsl := x_t6 (List.mem_of_getElem? (i := 139) rfl) rfl
theorem w_1341 : Cond.instanceMethod ⟨"QuestionReaderModel", "newName", "()Z"⟩ ∈ x_tsl := x_t6 (List.mem_of_getElem? (i := 141) rfl) rfl
theorem w_1342 : Cond.code ⟨"QuestionReaderModel", "newName", "()Z"⟩ prog_14_method_22_code 1 (Option.some FieldType.boolean) ∈ x_tsl := x_t6 (List.mem_of_getElem? (i := 142) rfl) rfl
theorem w_1343 : Cond.methodLink "QuestionReaderModel" 146 ⟨"QuestionReaderModel", "name", "()Z"⟩ ∈ x_tsl := x_t6 (List.mem_of_getElem? (i := 143) rfl) rfl
theorem w_1345 : Cond.instanceMethod ⟨"QuestionReaderModel", "name", "()Z"⟩ ∈ x_tsl := x_t6 (List.mem_of_getElem? (i := 145) rfl) rfl
theorem w_1346 : Cond.code ⟨"QuestionReaderModel", "name", "()Z"⟩ prog_14_method_18_code 1 (Option.some FieldType.boolean) ∈ x_tsl := x_t6 (List.mem_of_getElem? (i := 146) rfl) rfl
theorem w_1347 : Cond.methodLink "QuestionReaderModel" 153 ⟨"QuestionReaderModel", "among", "(II)I"⟩ ∈ x_tsl := x_t6 (List.mem_of_getElem? (i := 147) rfl) rfl
theorem w_1349 : Cond.instanceMethod ⟨"QuestionReaderModel", "among", "(II)I"⟩ ∈ x_tsl := x_t6 (List.mem_of_getElem? (i := 149) rfl) rfl
theorem w_1350 : Cond.code ⟨"QuestionReaderModel", "among", "(II)I"⟩ prog_14_method_20_code 4 (Option.some FieldType.int) ∈ x_tsl := x_t6 (List.mem_of_getElem? (i := 150) rfl) rfl
theorem w_1351 : Cond.methodLink "QuestionReaderModel" 143 ⟨"QuestionReaderModel", "isName", "(I)Z"⟩ ∈ x_tsl := x_t6 (List.mem_of_getElem? (i := 151) rfl) rfl
theorem w_1353 : Cond.instanceMethod ⟨"QuestionReaderModel", "isName", "(I)Z"⟩ ∈ x_tsl := x_t6 (List.mem_of_getElem? (i := 153) rfl) rfl
theorem w_1354 : Cond.code ⟨"QuestionReaderModel", "isName", "(I)Z"⟩ prog_14_method_19_code 4 (Option.some FieldType.boolean) ∈ x_tsl := x_t6 (List.mem_of_getElem? (i := 154) rfl) rfl
theorem w_1355 : Cond.methodLink "QuestionReaderModel" 163 ⟨"QuestionReaderModel", "keep", "(I)V"⟩ ∈ x_tsl := x_t6 (List.mem_of_getElem? (i := 155) rfl) rfl
theorem w_1357 : Cond.instanceMethod ⟨"QuestionReaderModel", "keep", "(I)V"⟩ ∈ x_tsl := x_t6 (List.mem_of_getElem? (i := 157) rfl) rfl
theorem w_1358 : Cond.code ⟨"QuestionReaderModel", "keep", "(I)V"⟩ prog_14_method_21_code 3 none ∈ x_tsl := x_t6 (List.mem_of_getElem? (i := 158) rfl) rfl
theorem w_1359 : Cond.methodLink "QuestionReaderModel" 166 ⟨"QuestionReaderModel", "needSign", "(I)Z"⟩ ∈ x_tsl := x_t6 (List.mem_of_getElem? (i := 159) rfl) rfl
theorem w_1361 : Cond.instanceMethod ⟨"QuestionReaderModel", "needSign", "(I)Z"⟩ ∈ x_tsl := x_t6 (List.mem_of_getElem? (i := 161) rfl) rfl
theorem w_1362 : Cond.code ⟨"QuestionReaderModel", "needSign", "(I)Z"⟩ prog_14_method_17_code 2 (Option.some FieldType.boolean) ∈ x_tsl := x_t6 (List.mem_of_getElem? (i := 162) rfl) rfl
theorem w_1363 : Cond.methodLink "QuestionReaderModel" 136 ⟨"QuestionReaderModel", "isSign", "(I)Z"⟩ ∈ x_tsl := x_t6 (List.mem_of_getElem? (i := 163) rfl) rfl
theorem w_1365 : Cond.instanceMethod ⟨"QuestionReaderModel", "isSign", "(I)Z"⟩ ∈ x_tsl := x_t6 (List.mem_of_getElem? (i := 165) rfl) rfl
theorem w_1366 : Cond.code ⟨"QuestionReaderModel", "isSign", "(I)Z"⟩ prog_14_method_15_code 2 (Option.some FieldType.boolean) ∈ x_tsl := x_t6 (List.mem_of_getElem? (i := 166) rfl) rfl
theorem w_1367 : Cond.methodLink "QuestionReaderModel" 290 ⟨"QuestionReaderModel", "measure", "()V"⟩ ∈ x_tsl := x_t6 (List.mem_of_getElem? (i := 167) rfl) rfl
theorem w_1369 : Cond.instanceMethod ⟨"QuestionReaderModel", "measure", "()V"⟩ ∈ x_tsl := x_t6 (List.mem_of_getElem? (i := 169) rfl) rfl
theorem w_1370 : Cond.code ⟨"QuestionReaderModel", "measure", "()V"⟩ prog_14_method_24_code 1 none ∈ x_tsl := x_t6 (List.mem_of_getElem? (i := 170) rfl) rfl
theorem w_1371 : Cond.methodLink "QuestionReaderModel" 293 ⟨"QuestionReaderModel", "member", "()V"⟩ ∈ x_tsl := x_t6 (List.mem_of_getElem? (i := 171) rfl) rfl
theorem w_1373 : Cond.instanceMethod ⟨"QuestionReaderModel", "member", "()V"⟩ ∈ x_tsl := x_t6 (List.mem_of_getElem? (i := 173) rfl) rfl
theorem w_1374 : Cond.code ⟨"QuestionReaderModel", "member", "()V"⟩ prog_14_method_26_code 8 none ∈ x_tsl := x_t6 (List.mem_of_getElem? (i := 174) rfl) rfl
theorem w_1375 : Cond.methodLink "QuestionReaderModel" 169 ⟨"QuestionReaderModel", "goes", "(II)Z"⟩ ∈ x_tsl := x_t6 (List.mem_of_getElem? (i := 175) rfl) rfl
theorem w_1377 : Cond.instanceMethod ⟨"QuestionReaderModel", "goes", "(II)Z"⟩ ∈ x_tsl := x_t6 (List.mem_of_getElem? (i := 177) rfl) rfl
theorem w_1378 : Cond.code ⟨"QuestionReaderModel", "goes", "(II)Z"⟩ prog_14_method_25_code 8 (Option.some FieldType.boolean) ∈ x_tsl := x_t6 (List.mem_of_getElem? (i := 178) rfl) rfl
theorem w_1379 : Cond.methodLink "QuestionReaderModel" 296 ⟨"QuestionReaderModel", "question", "()V"⟩ ∈ x_tsl := x_t6 (List.mem_of_getElem? (i := 179) rfl) rfl
theorem w_1381 : Cond.instanceMethod ⟨"QuestionReaderModel", "question", "()V"⟩ ∈ x_tsl := x_t6 (List.mem_of_getElem? (i := 181) rfl) rfl
theorem w_1382 : Cond.code ⟨"QuestionReaderModel", "question", "()V"⟩ prog_14_method_41_code 6 none ∈ x_tsl := x_t6 (List.mem_of_getElem? (i := 182) rfl) rfl
theorem w_1383 : Cond.methodLink "QuestionReaderModel" 270 ⟨"QuestionReaderModel", "item", "()V"⟩ ∈ x_tsl := x_t6 (List.mem_of_getElem? (i := 183) rfl) rfl
theorem w_1385 : Cond.instanceMethod ⟨"QuestionReaderModel", "item", "()V"⟩ ∈ x_tsl := x_t6 (List.mem_of_getElem? (i := 185) rfl) rfl
theorem w_1386 : Cond.code ⟨"QuestionReaderModel", "item", "()V"⟩ prog_14_method_29_code 6 none ∈ x_tsl := x_t6 (List.mem_of_getElem? (i := 186) rfl) rfl
theorem w_1387 : Cond.methodLink "QuestionReaderModel" 176 ⟨"QuestionReaderModel", "columnsDimension", "()I"⟩ ∈ x_tsl := x_t6 (List.mem_of_getElem? (i := 187) rfl) rfl
theorem w_1389 : Cond.instanceMethod ⟨"QuestionReaderModel", "columnsDimension", "()I"⟩ ∈ x_tsl := x_t6 (List.mem_of_getElem? (i := 189) rfl) rfl
theorem w_1390 : Cond.code ⟨"QuestionReaderModel", "columnsDimension", "()I"⟩ prog_14_method_27_code 2 (Option.some FieldType.int) ∈ x_tsl := x_t6 (List.mem_of_getElem? (i := 190) rfl) rfl
theorem w_1391 : Cond.methodLink "QuestionReaderModel" 182 ⟨"QuestionReaderModel", "columnsLevel", "(I)I"⟩ ∈ x_tsl := x_t6 (List.mem_of_getElem? (i := 191) rfl) rfl
theorem w_1393 : Cond.instanceMethod ⟨"QuestionReaderModel", "columnsLevel", "(I)I"⟩ ∈ x_tsl := x_t6 (List.mem_of_getElem? (i := 193) rfl) rfl
theorem w_1394 : Cond.code ⟨"QuestionReaderModel", "columnsLevel", "(I)I"⟩ prog_14_method_28_code 3 (Option.some FieldType.int) ∈ x_tsl := x_t6 (List.mem_of_getElem? (i := 194) rfl) rfl
theorem w_1395 : Cond.methodLink "QuestionReaderModel" 211 ⟨"QuestionReaderModel", "either", "()V"⟩ ∈ x_tsl := x_t6 (List.mem_of_getElem? (i := 195) rfl) rfl
theorem w_1397 : Cond.instanceMethod ⟨"QuestionReaderModel", "either", "()V"⟩ ∈ x_tsl := x_t6 (List.mem_of_getElem? (i := 197) rfl) rfl
theorem w_1398 : Cond.code ⟨"QuestionReaderModel", "either", "()V"⟩ prog_14_method_31_code 1 none ∈ x_tsl := x_t6 (List.mem_of_getElem? (i := 198) rfl) rfl
theorem w_1399 : Cond.methodLink "QuestionReaderModel" 199 ⟨"QuestionReaderModel", "both", "()V"⟩ ∈ x_tsl := x_t6 (List.mem_of_getElem? (i := 199) rfl) rfl
theorem w_1401 : Cond.instanceMethod ⟨"QuestionReaderModel", "both", "()V"⟩ ∈ x_tsl := x_t6 (List.mem_of_getElem? (i := 201) rfl) rfl
theorem w_1402 : Cond.code ⟨"QuestionReaderModel", "both", "()V"⟩ prog_14_method_32_code 1 none ∈ x_tsl := x_t6 (List.mem_of_getElem? (i := 202) rfl) rfl
theorem w_1403 : Cond.methodLink "QuestionReaderModel" 205 ⟨"QuestionReaderModel", "single", "()V"⟩ ∈ x_tsl := x_t6 (List.mem_of_getElem? (i := 203) rfl) rfl
theorem w_1405 : Cond.instanceMethod ⟨"QuestionReaderModel", "single", "()V"⟩ ∈ x_tsl := x_t6 (List.mem_of_getElem? (i := 205) rfl) rfl
theorem w_1406 : Cond.code ⟨"QuestionReaderModel", "single", "()V"⟩ prog_14_method_33_code 3 none ∈ x_tsl := x_t6 (List.mem_of_getElem? (i := 206) rfl) rfl
theorem w_1407 : Cond.methodLink "QuestionReaderModel" 214 ⟨"QuestionReaderModel", "comparison", "()V"⟩ ∈ x_tsl := x_t6 (List.mem_of_getElem? (i := 207) rfl) rfl
theorem w_1409 : Cond.instanceMethod ⟨"QuestionReaderModel", "comparison", "()V"⟩ ∈ x_tsl := x_t6 (List.mem_of_getElem? (i := 209) rfl) rfl
theorem w_1410 : Cond.code ⟨"QuestionReaderModel", "comparison", "()V"⟩ prog_14_method_35_code 6 none ∈ x_tsl := x_t6 (List.mem_of_getElem? (i := 210) rfl) rfl
theorem w_1411 : Cond.methodLink "QuestionReaderModel" 229 ⟨"QuestionReaderModel", "needNumber", "()I"⟩ ∈ x_tsl := x_t6 (List.mem_of_getElem? (i := 211) rfl) rfl
theorem w_1413 : Cond.instanceMethod ⟨"QuestionReaderModel", "needNumber", "()I"⟩ ∈ x_tsl := x_t6 (List.mem_of_getElem? (i := 213) rfl) rfl
theorem w_1414 : Cond.code ⟨"QuestionReaderModel", "needNumber", "()I"⟩ prog_14_method_34_code 1 (Option.some FieldType.int) ∈ x_tsl := x_t6 (List.mem_of_getElem? (i := 214) rfl) rfl
theorem w_1415 : Cond.methodLink "QuestionReaderModel" 232 ⟨"QuestionReaderModel", "list", "(I)V"⟩ ∈ x_tsl := x_t6 (List.mem_of_getElem? (i := 215) rfl) rfl
theorem w_1417 : Cond.instanceMethod ⟨"QuestionReaderModel", "list", "(I)V"⟩ ∈ x_tsl := x_t6 (List.mem_of_getElem? (i := 217) rfl) rfl
theorem w_1418 : Cond.code ⟨"QuestionReaderModel", "list", "(I)V"⟩ prog_14_method_36_code 5 none ∈ x_tsl := x_t6 (List.mem_of_getElem? (i := 218) rfl) rfl
theorem w_1419 : Cond.methodLink "QuestionReaderModel" 202 ⟨"QuestionReaderModel", "say", "(I)V"⟩ ∈ x_tsl := x_t6 (List.mem_of_getElem? (i := 219) rfl) rfl
theorem w_1421 : Cond.instanceMethod ⟨"QuestionReaderModel", "say", "(I)V"⟩ ∈ x_tsl := x_t6 (List.mem_of_getElem? (i := 221) rfl) rfl
theorem w_1422 : Cond.code ⟨"QuestionReaderModel", "say", "(I)V"⟩ prog_14_method_30_code 2 none ∈ x_tsl := x_t6 (List.mem_of_getElem? (i := 222) rfl) rfl
theorem w_1423 : Cond.methodLink "QuestionReaderModel" 273 ⟨"QuestionReaderModel", "grouping", "()V"⟩ ∈ x_tsl := x_t6 (List.mem_of_getElem? (i := 223) rfl) rfl
theorem w_1425 : Cond.instanceMethod ⟨"QuestionReaderModel", "grouping", "()V"⟩ ∈ x_tsl := x_t6 (List.mem_of_getElem? (i := 225) rfl) rfl
theorem w_1426 : Cond.code ⟨"QuestionReaderModel", "grouping", "()V"⟩ prog_14_method_39_code 4 none ∈ x_tsl := x_t6 (List.mem_of_getElem? (i := 226) rfl) rfl
theorem w_1427 : Cond.methodLink "QuestionReaderModel" 261 ⟨"QuestionReaderModel", "groupsOf", "()I"⟩ ∈ x_tsl := x_t6 (List.mem_of_getElem? (i := 227) rfl) rfl
theorem w_1429 : Cond.instanceMethod ⟨"QuestionReaderModel", "groupsOf", "()I"⟩ ∈ x_tsl := x_t6 (List.mem_of_getElem? (i := 229) rfl) rfl
theorem w_1430 : Cond.code ⟨"QuestionReaderModel", "groupsOf", "()I"⟩ prog_14_method_38_code 4 (Option.some FieldType.int) ∈ x_tsl := x_t6 (List.mem_of_getElem? (i := 230) rfl) rfl
theorem w_1431 : Cond.methodLink "QuestionReaderModel" 246 ⟨"QuestionReaderModel", "groupColumn", "()V"⟩ ∈ x_tsl := x_t6 (List.mem_of_getElem? (i := 231) rfl) rfl
theorem w_1433 : Cond.instanceMethod ⟨"QuestionReaderModel", "groupColumn", "()V"⟩ ∈ x_tsl := x_t6 (List.mem_of_getElem? (i := 233) rfl) rfl
theorem w_1434 : Cond.code ⟨"QuestionReaderModel", "groupColumn", "()V"⟩ prog_14_method_37_code 6 none ∈ x_tsl := x_t6 (List.mem_of_getElem? (i := 234) rfl) rfl
theorem w_1435 : Cond.methodLink "QuestionReaderModel" 276 ⟨"QuestionReaderModel", "spread", "(LQuestionReaderModel$Question;)V"⟩ ∈ x_tsl := x_t6 (List.mem_of_getElem? (i := 235) rfl) rfl
theorem w_1437 : Cond.instanceMethod ⟨"QuestionReaderModel", "spread", "(LQuestionReaderModel$Question;)V"⟩ ∈ x_tsl := x_t6 (List.mem_of_getElem? (i := 237) rfl) rfl
theorem w_1438 : Cond.code ⟨"QuestionReaderModel", "spread", "(LQuestionReaderModel$Question;)V"⟩ prog_14_method_40_code 8 none ∈ x_tsl := x_t6 (List.mem_of_getElem? (i := 238) rfl) rfl
theorem w_1439 : Cond.methodLink "QuestionReaderLaw" 84 ⟨"QuestionReaderModel", "fault", "(I)I"⟩ ∈ x_tsl := x_t6 (List.mem_of_getElem? (i := 239) rfl) rfl
theorem w_1440 : Cond.instanceMethod ⟨"QuestionReaderModel", "fault", "(I)I"⟩ ∈ x_tsl := x_t7 (List.mem_of_getElem? (i := 0) rfl) rfl
theorem w_1441 : Cond.selects "QuestionReaderModel" ⟨"QuestionReaderModel", "fault", "(I)I"⟩ ⟨"QuestionReaderModel", "fault", "(I)I"⟩ ∈ x_tsl := x_t7 (List.mem_of_getElem? (i := 1) rfl) rfl
theorem w_1442 : Cond.code ⟨"QuestionReaderModel", "fault", "(I)I"⟩ prog_14_method_44_code 2 (Option.some FieldType.int) ∈ x_tsl := x_t7 (List.mem_of_getElem? (i := 2) rfl) rfl
theorem w_1443 : Cond.methodLink "QuestionReaderLaw" 88 ⟨"QuestionReaderModel", "open", "()Z"⟩ ∈ x_tsl := x_t7 (List.mem_of_getElem? (i := 3) rfl) rfl
theorem w_1444 : Cond.instanceMethod ⟨"QuestionReaderModel", "open", "()Z"⟩ ∈ x_tsl := x_t7 (List.mem_of_getElem? (i := 4) rfl) rfl
theorem w_1445 : Cond.selects "QuestionReaderModel" ⟨"QuestionReaderModel", "open", "()Z"⟩ ⟨"QuestionReaderModel", "open", "()Z"⟩ ∈ x_tsl := x_t7 (List.mem_of_getElem? (i := 5) rfl) rfl
theorem w_1446 : Cond.code ⟨"QuestionReaderModel", "open", "()Z"⟩ prog_14_method_46_code 3 (Option.some FieldType.boolean) ∈ x_tsl := x_t7 (List.mem_of_getElem? (i := 6) rfl) rfl
theorem w_1447 : Cond.methodLink "QuestionReaderModel" 302 ⟨"QuestionReaderModel", "order", "(I)V"⟩ ∈ x_tsl := x_t7 (List.mem_of_getElem? (i := 7) rfl) rfl
theorem w_1449 : Cond.instanceMethod ⟨"QuestionReaderModel", "order", "(I)V"⟩ ∈ x_tsl := x_t7 (List.mem_of_getElem? (i := 9) rfl) rfl
theorem w_1450 : Cond.code ⟨"QuestionReaderModel", "order", "(I)V"⟩ prog_14_method_45_code 8 none ∈ x_tsl := x_t7 (List.mem_of_getElem? (i := 10) rfl) rfl
theorem w_1451 : Cond.methodLink "QuestionReaderLaw" 91 ⟨"QuestionReaderModel", "count", "(I)I"⟩ ∈ x_tsl := x_t7 (List.mem_of_getElem? (i := 11) rfl) rfl
theorem w_1452 : Cond.instanceMethod ⟨"QuestionReaderModel", "count", "(I)I"⟩ ∈ x_tsl := x_t7 (List.mem_of_getElem? (i := 12) rfl) rfl
theorem w_1453 : Cond.selects "QuestionReaderModel" ⟨"QuestionReaderModel", "count", "(I)I"⟩ ⟨"QuestionReaderModel", "count", "(I)I"⟩ ∈ x_tsl := x_t7 (List.mem_of_getElem? (i := 13) rfl) rfl
theorem w_1454 : Cond.code ⟨"QuestionReaderModel", "count", "(I)I"⟩ prog_14_method_47_code 2 (Option.some FieldType.int) ∈ x_tsl := x_t7 (List.mem_of_getElem? (i := 14) rfl) rfl
theorem w_1455 : Cond.methodLink "QuestionReaderLaw" 95 ⟨"QuestionReaderModel", "dimension", "(II)I"⟩ ∈ x_tsl := x_t7 (List.mem_of_getElem? (i := 15) rfl) rfl
theorem w_1456 : Cond.instanceMethod ⟨"QuestionReaderModel", "dimension", "(II)I"⟩ ∈ x_tsl := x_t7 (List.mem_of_getElem? (i := 16) rfl) rfl
theorem w_1457 : Cond.selects "QuestionReaderModel" ⟨"QuestionReaderModel", "dimension", "(II)I"⟩ ⟨"QuestionReaderModel", "dimension", "(II)I"⟩ ∈ x_tsl := x_t7 (List.mem_of_getElem? (i := 17) rfl) rfl
theorem w_1458 : Cond.code ⟨"QuestionReaderModel", "dimension", "(II)I"⟩ prog_14_method_49_code 3 (Option.some FieldType.int) ∈ x_tsl := x_t7 (List.mem_of_getElem? (i := 18) rfl) rfl
theorem w_1459 : Cond.methodLink "QuestionReaderModel" 305 ⟨"QuestionReaderModel", "isDimension", "(I)Z"⟩ ∈ x_tsl := x_t7 (List.mem_of_getElem? (i := 19) rfl) rfl
theorem w_1461 : Cond.instanceMethod ⟨"QuestionReaderModel", "isDimension", "(I)Z"⟩ ∈ x_tsl := x_t7 (List.mem_of_getElem? (i := 21) rfl) rfl
theorem w_1462 : Cond.code ⟨"QuestionReaderModel", "isDimension", "(I)Z"⟩ prog_14_method_48_code 2 (Option.some FieldType.boolean) ∈ x_tsl := x_t7 (List.mem_of_getElem? (i := 22) rfl) rfl
theorem w_1463 : Cond.methodLink "QuestionReaderLaw" 99 ⟨"QuestionReaderModel", "value", "(III)I"⟩ ∈ x_tsl := x_t7 (List.mem_of_getElem? (i := 23) rfl) rfl
theorem w_1464 : Cond.instanceMethod ⟨"QuestionReaderModel", "value", "(III)I"⟩ ∈ x_tsl := x_t7 (List.mem_of_getElem? (i := 24) rfl) rfl
theorem w_1465 : Cond.selects "QuestionReaderModel" ⟨"QuestionReaderModel", "value", "(III)I"⟩ ⟨"QuestionReaderModel", "value", "(III)I"⟩ ∈ x_tsl := x_t7 (List.mem_of_getElem? (i := 25) rfl) rfl
theorem w_1466 : Cond.code ⟨"QuestionReaderModel", "value", "(III)I"⟩ prog_14_method_52_code 4 (Option.some FieldType.int) ∈ x_tsl := x_t7 (List.mem_of_getElem? (i := 26) rfl) rfl
theorem w_1467 : Cond.methodLink "QuestionReaderModel" 308 ⟨"QuestionReaderModel", "isValue", "(III)Z"⟩ ∈ x_tsl := x_t7 (List.mem_of_getElem? (i := 27) rfl) rfl
theorem w_1469 : Cond.instanceMethod ⟨"QuestionReaderModel", "isValue", "(III)Z"⟩ ∈ x_tsl := x_t7 (List.mem_of_getElem? (i := 29) rfl) rfl
theorem w_1470 : Cond.code ⟨"QuestionReaderModel", "isValue", "(III)Z"⟩ prog_14_method_50_code 4 (Option.some FieldType.boolean) ∈ x_tsl := x_t7 (List.mem_of_getElem? (i := 30) rfl) rfl
theorem w_1471 : Cond.methodLink "QuestionReaderModel" 312 ⟨"QuestionReaderModel", "valueOf", "(III)I"⟩ ∈ x_tsl := x_t7 (List.mem_of_getElem? (i := 31) rfl) rfl
theorem w_1473 : Cond.instanceMethod ⟨"QuestionReaderModel", "valueOf", "(III)I"⟩ ∈ x_tsl := x_t7 (List.mem_of_getElem? (i := 33) rfl) rfl
theorem w_1474 : Cond.code ⟨"QuestionReaderModel", "valueOf", "(III)I"⟩ prog_14_method_51_code 4 (Option.some FieldType.int) ∈ x_tsl := x_t7 (List.mem_of_getElem? (i := 34) rfl) rfl
theorem w_1475 : Cond.methodLink "QuestionReaderLaw" 102 ⟨"QuestionReaderModel", "rank", "(III)I"⟩ ∈ x_tsl := x_t7 (List.mem_of_getElem? (i := 35) rfl) rfl
theorem w_1476 : Cond.instanceMethod ⟨"QuestionReaderModel", "rank", "(III)I"⟩ ∈ x_tsl := x_t7 (List.mem_of_getElem? (i := 36) rfl) rfl
theorem w_1477 : Cond.selects "QuestionReaderModel" ⟨"QuestionReaderModel", "rank", "(III)I"⟩ ⟨"QuestionReaderModel", "rank", "(III)I"⟩ ∈ x_tsl := x_t7 (List.mem_of_getElem? (i := 37) rfl) rfl
theorem w_1478 : Cond.code ⟨"QuestionReaderModel", "rank", "(III)I"⟩ prog_14_method_53_code 9 (Option.some FieldType.int) ∈ x_tsl := x_t7 (List.mem_of_getElem? (i := 38) rfl) rfl
theorem w_1479 : Cond.methodLink "QuestionReaderLaw" 105 ⟨"QuestionReaderModel", "find", "(II)I"⟩ ∈ x_tsl := x_t7 (List.mem_of_getElem? (i := 39) rfl) rfl
theorem w_1480 : Cond.instanceMethod ⟨"QuestionReaderModel", "find", "(II)I"⟩ ∈ x_tsl := x_t7 (List.mem_of_getElem? (i := 40) rfl) rfl
theorem w_1481 : Cond.selects "QuestionReaderModel" ⟨"QuestionReaderModel", "find", "(II)I"⟩ ⟨"QuestionReaderModel", "find", "(II)I"⟩ ∈ x_tsl := x_t7 (List.mem_of_getElem? (i := 41) rfl) rfl
theorem w_1482 : Cond.code ⟨"QuestionReaderModel", "find", "(II)I"⟩ prog_14_method_54_code 5 (Option.some FieldType.int) ∈ x_tsl := x_t7 (List.mem_of_getElem? (i := 42) rfl) rfl
theorem w_1483 : Cond.methodLink "QuestionReaderLaw" 108 ⟨"QuestionReaderModel", "letter", "(II)I"⟩ ∈ x_tsl := x_t7 (List.mem_of_getElem? (i := 43) rfl) rfl
theorem w_1484 : Cond.instanceMethod ⟨"QuestionReaderModel", "letter", "(II)I"⟩ ∈ x_tsl := x_t7 (List.mem_of_getElem? (i := 44) rfl) rfl
theorem w_1485 : Cond.selects "QuestionReaderModel" ⟨"QuestionReaderModel", "letter", "(II)I"⟩ ⟨"QuestionReaderModel", "letter", "(II)I"⟩ ∈ x_tsl := x_t7 (List.mem_of_getElem? (i := 45) rfl) rfl
theorem w_1486 : Cond.code ⟨"QuestionReaderModel", "letter", "(II)I"⟩ prog_14_method_56_code 3 (Option.some FieldType.int) ∈ x_tsl := x_t7 (List.mem_of_getElem? (i := 46) rfl) rfl
theorem w_1487 : Cond.methodLink "QuestionReaderModel" 316 ⟨"QuestionReaderModel", "isNamed", "(I)Z"⟩ ∈ x_tsl := x_t7 (List.mem_of_getElem? (i := 47) rfl) rfl
theorem w_1489 : Cond.instanceMethod ⟨"QuestionReaderModel", "isNamed", "(I)Z"⟩ ∈ x_tsl := x_t7 (List.mem_of_getElem? (i := 49) rfl) rfl
theorem w_1490 : Cond.code ⟨"QuestionReaderModel", "isNamed", "(I)Z"⟩ prog_14_method_55_code 2 (Option.some FieldType.boolean) ∈ x_tsl := x_t7 (List.mem_of_getElem? (i := 50) rfl) rfl
theorem w_1491 : Cond.methodLink "QuestionReaderLaw" 111 ⟨"QuestionReaderModel", "item", "(II)I"⟩ ∈ x_tsl := x_t7 (List.mem_of_getElem? (i := 51) rfl) rfl
theorem w_1492 : Cond.instanceMethod ⟨"QuestionReaderModel", "item", "(II)I"⟩ ∈ x_tsl := x_t7 (List.mem_of_getElem? (i := 52) rfl) rfl
theorem w_1493 : Cond.selects "QuestionReaderModel" ⟨"QuestionReaderModel", "item", "(II)I"⟩ ⟨"QuestionReaderModel", "item", "(II)I"⟩ ∈ x_tsl := x_t7 (List.mem_of_getElem? (i := 53) rfl) rfl
theorem w_1494 : Cond.code ⟨"QuestionReaderModel", "item", "(II)I"⟩ prog_14_method_57_code 3 (Option.some FieldType.int) ∈ x_tsl := x_t7 (List.mem_of_getElem? (i := 54) rfl) rfl
theorem w_1495 : Cond.methodLink "QuestionReaderLaw" 114 ⟨"QuestionReaderModel", "group", "(I)I"⟩ ∈ x_tsl := x_t7 (List.mem_of_getElem? (i := 55) rfl) rfl
theorem w_1496 : Cond.instanceMethod ⟨"QuestionReaderModel", "group", "(I)I"⟩ ∈ x_tsl := x_t7 (List.mem_of_getElem? (i := 56) rfl) rfl
theorem w_1497 : Cond.selects "QuestionReaderModel" ⟨"QuestionReaderModel", "group", "(I)I"⟩ ⟨"QuestionReaderModel", "group", "(I)I"⟩ ∈ x_tsl := x_t7 (List.mem_of_getElem? (i := 57) rfl) rfl
theorem w_1498 : Cond.code ⟨"QuestionReaderModel", "group", "(I)I"⟩ prog_14_method_58_code 2 (Option.some FieldType.int) ∈ x_tsl := x_t7 (List.mem_of_getElem? (i := 58) rfl) rfl
theorem w_1499 : Cond.methodLink "QuestionReaderLaw" 117 ⟨"QuestionReaderModel", "set", "(I)I"⟩ ∈ x_tsl := x_t7 (List.mem_of_getElem? (i := 59) rfl) rfl
theorem w_1500 : Cond.instanceMethod ⟨"QuestionReaderModel", "set", "(I)I"⟩ ∈ x_tsl := x_t7 (List.mem_of_getElem? (i := 60) rfl) rfl
theorem w_1501 : Cond.selects "QuestionReaderModel" ⟨"QuestionReaderModel", "set", "(I)I"⟩ ⟨"QuestionReaderModel", "set", "(I)I"⟩ ∈ x_tsl := x_t7 (List.mem_of_getElem? (i := 61) rfl) rfl
theorem w_1502 : Cond.code ⟨"QuestionReaderModel", "set", "(I)I"⟩ prog_14_method_59_code 2 (Option.some FieldType.int) ∈ x_tsl := x_t7 (List.mem_of_getElem? (i := 62) rfl) rfl
theorem w_1503 : Cond.methodLink "QuestionReaderLaw" 120 ⟨"QuestionReaderModel", "pick", "(II)I"⟩ ∈ x_tsl := x_t7 (List.mem_of_getElem? (i := 63) rfl) rfl
theorem w_1504 : Cond.instanceMethod ⟨"QuestionReaderModel", "pick", "(II)I"⟩ ∈ x_tsl := x_t7 (List.mem_of_getElem? (i := 64) rfl) rfl
theorem w_1505 : Cond.selects "QuestionReaderModel" ⟨"QuestionReaderModel", "pick", "(II)I"⟩ ⟨"QuestionReaderModel", "pick", "(II)I"⟩ ∈ x_tsl := x_t7 (List.mem_of_getElem? (i := 65) rfl) rfl
theorem w_1506 : Cond.code ⟨"QuestionReaderModel", "pick", "(II)I"⟩ prog_14_method_60_code 5 (Option.some FieldType.int) ∈ x_tsl := x_t7 (List.mem_of_getElem? (i := 66) rfl) rfl
theorem w_1507 : Cond.methodLink "QuestionReaderLaw" 124 ⟨"QuestionReaderModel", "holds", "()Z"⟩ ∈ x_tsl := x_t7 (List.mem_of_getElem? (i := 67) rfl) rfl
theorem w_1508 : Cond.instanceMethod ⟨"QuestionReaderModel", "holds", "()Z"⟩ ∈ x_tsl := x_t7 (List.mem_of_getElem? (i := 68) rfl) rfl
theorem w_1509 : Cond.selects "QuestionReaderModel" ⟨"QuestionReaderModel", "holds", "()Z"⟩ ⟨"QuestionReaderModel", "holds", "()Z"⟩ ∈ x_tsl := x_t7 (List.mem_of_getElem? (i := 69) rfl) rfl
theorem w_1510 : Cond.code ⟨"QuestionReaderModel", "holds", "()Z"⟩ prog_14_method_62_code 4 (Option.some FieldType.boolean) ∈ x_tsl := x_t7 (List.mem_of_getElem? (i := 70) rfl) rfl
theorem w_1511 : Cond.methodLink "QuestionReaderModel" 319 ⟨"QuestionReaderModel", "compares", "(I)Z"⟩ ∈ x_tsl := x_t7 (List.mem_of_getElem? (i := 71) rfl) rfl
theorem w_1513 : Cond.instanceMethod ⟨"QuestionReaderModel", "compares", "(I)Z"⟩ ∈ x_tsl := x_t7 (List.mem_of_getElem? (i := 73) rfl) rfl
theorem w_1514 : Cond.code ⟨"QuestionReaderModel", "compares", "(I)Z"⟩ prog_14_method_61_code 7 (Option.some FieldType.boolean) ∈ x_tsl := x_t7 (List.mem_of_getElem? (i := 74) rfl) rfl
theorem w_1515 : Cond.arrayClass FieldType.long ∈ x_tsl := x_t7 (List.mem_of_getElem? (i := 75) rfl) rfl
theorem w_1517 : Cond.fieldLink "QuestionReader$Kind" 141 "QuestionReader$Kind" "key" "J" ∈ x_tsl := x_t7 (List.mem_of_getElem? (i := 77) rfl) rfl
theorem w_1518 : Cond.fieldLink "java/lang/String" 9 "java/lang/String" "value" "[B" ∈ x_tsl := x_t7 (List.mem_of_getElem? (i := 78) rfl) rfl
theorem w_1519 : Cond.fieldLink "java/lang/String" 15 "java/lang/String" "coder" "B" ∈ x_tsl := x_t7 (List.mem_of_getElem? (i := 79) rfl) rfl
theorem wl_36 : Cond.methodLinkNest "QuestionReader" 9 ⟨"QuestionReader$Text", "<init>", "()V"⟩ "QuestionReader" ∈ lw_tbl := x_l1 (List.mem_of_getElem? (i := 36) rfl)
theorem wl_60 : Cond.laysStatic "QuestionReader$Kind" "END" "LQuestionReader$Kind;" ∈ lw_tbl := x_l1 (List.mem_of_getElem? (i := 60) rfl)
theorem wl_109 : Cond.methodLinkNest "QuestionReader$Catalog" 11 ⟨"QuestionReader$Names", "<init>", "()V"⟩ "QuestionReader" ∈ lw_tbl := x_l1 (List.mem_of_getElem? (i := 109) rfl)
theorem wl_216 : Cond.methodLinkNest "QuestionReader$QuestionGrammar" 11 ⟨"QuestionReader$Question", "<init>", "()V"⟩ "QuestionReader" ∈ lw_tbl := x_l1 (List.mem_of_getElem? (i := 216) rfl)
theorem wl_229 : Cond.methodLinkNest "QuestionReader$Condition" 43 ⟨"QuestionReader$Comparison", "<init>", "()V"⟩ "QuestionReader" ∈ lw_tbl := x_l1 (List.mem_of_getElem? (i := 229) rfl)
theorem wl_402 : Cond.laysStatic "QuestionReader$Kind" "TOO_LONG" "LQuestionReader$Kind;" ∈ lw_tbl := x_l2 (List.mem_of_getElem? (i := 162) rfl)
theorem wl_404 : Cond.laysStatic "QuestionReader$Kind" "NAME" "LQuestionReader$Kind;" ∈ lw_tbl := x_l2 (List.mem_of_getElem? (i := 164) rfl)
theorem wl_409 : Cond.laysStatic "QuestionReader$Kind" "ALL" "[LQuestionReader$Kind;" ∈ lw_tbl := x_l2 (List.mem_of_getElem? (i := 169) rfl)
theorem wl_421 : Cond.laysStatic "QuestionReader$Kind" "NUMBER" "LQuestionReader$Kind;" ∈ lw_tbl := x_l2 (List.mem_of_getElem? (i := 181) rfl)
theorem wl_423 : Cond.laysStatic "QuestionReader$Kind" "WRONG" "LQuestionReader$Kind;" ∈ lw_tbl := x_l2 (List.mem_of_getElem? (i := 183) rfl)
theorem wl_429 : Cond.laysStatic "QuestionReader$Kind" "SELECT" "LQuestionReader$Kind;" ∈ lw_tbl := x_l2 (List.mem_of_getElem? (i := 189) rfl)
theorem wl_460 : Cond.laysStatic "QuestionReader$Kind" "SUM" "LQuestionReader$Kind;" ∈ lw_tbl := x_l2 (List.mem_of_getElem? (i := 220) rfl)
theorem wl_462 : Cond.laysStatic "QuestionReader$Kind" "MIN" "LQuestionReader$Kind;" ∈ lw_tbl := x_l2 (List.mem_of_getElem? (i := 222) rfl)
theorem wl_464 : Cond.laysStatic "QuestionReader$Kind" "MAX" "LQuestionReader$Kind;" ∈ lw_tbl := x_l2 (List.mem_of_getElem? (i := 224) rfl)
theorem wl_466 : Cond.laysStatic "QuestionReader$Kind" "COUNT" "LQuestionReader$Kind;" ∈ lw_tbl := x_l2 (List.mem_of_getElem? (i := 226) rfl)
theorem wl_468 : Cond.laysStatic "QuestionReader$Kind" "GROUPING" "LQuestionReader$Kind;" ∈ lw_tbl := x_l2 (List.mem_of_getElem? (i := 228) rfl)
theorem wl_491 : Cond.laysStatic "QuestionReader$Kind" "DOT" "LQuestionReader$Kind;" ∈ lw_tbl := x_l3 (List.mem_of_getElem? (i := 11) rfl)
theorem wl_505 : Cond.laysStatic "QuestionReader$Kind" "OPENING" "LQuestionReader$Kind;" ∈ lw_tbl := x_l3 (List.mem_of_getElem? (i := 25) rfl)
theorem wl_511 : Cond.laysStatic "QuestionReader$Kind" "STAR" "LQuestionReader$Kind;" ∈ lw_tbl := x_l3 (List.mem_of_getElem? (i := 31) rfl)
theorem wl_514 : Cond.laysStatic "QuestionReader$Kind" "CLOSING" "LQuestionReader$Kind;" ∈ lw_tbl := x_l3 (List.mem_of_getElem? (i := 34) rfl)
theorem wl_520 : Cond.laysStatic "QuestionReader$Kind" "COMMA" "LQuestionReader$Kind;" ∈ lw_tbl := x_l3 (List.mem_of_getElem? (i := 40) rfl)
theorem wl_522 : Cond.laysStatic "QuestionReader$Kind" "WHERE" "LQuestionReader$Kind;" ∈ lw_tbl := x_l3 (List.mem_of_getElem? (i := 42) rfl)
theorem wl_529 : Cond.laysStatic "QuestionReader$Kind" "NOT" "LQuestionReader$Kind;" ∈ lw_tbl := x_l3 (List.mem_of_getElem? (i := 49) rfl)
theorem wl_555 : Cond.laysStatic "QuestionReader$Kind" "IN" "LQuestionReader$Kind;" ∈ lw_tbl := x_l3 (List.mem_of_getElem? (i := 75) rfl)
theorem wl_566 : Cond.laysStatic "QuestionReader$Kind" "BETWEEN" "LQuestionReader$Kind;" ∈ lw_tbl := x_l3 (List.mem_of_getElem? (i := 86) rfl)
theorem wl_572 : Cond.laysStatic "QuestionReader$Kind" "AND" "LQuestionReader$Kind;" ∈ lw_tbl := x_l3 (List.mem_of_getElem? (i := 92) rfl)
theorem wl_585 : Cond.laysStatic "QuestionReader$Kind" "EQUAL" "LQuestionReader$Kind;" ∈ lw_tbl := x_l3 (List.mem_of_getElem? (i := 105) rfl)
theorem wl_587 : Cond.laysStatic "QuestionReader$Kind" "UNEQUAL" "LQuestionReader$Kind;" ∈ lw_tbl := x_l3 (List.mem_of_getElem? (i := 107) rfl)
theorem wl_589 : Cond.laysStatic "QuestionReader$Kind" "LESS" "LQuestionReader$Kind;" ∈ lw_tbl := x_l3 (List.mem_of_getElem? (i := 109) rfl)
theorem wl_591 : Cond.laysStatic "QuestionReader$Kind" "AT_MOST" "LQuestionReader$Kind;" ∈ lw_tbl := x_l3 (List.mem_of_getElem? (i := 111) rfl)
theorem wl_593 : Cond.laysStatic "QuestionReader$Kind" "MORE" "LQuestionReader$Kind;" ∈ lw_tbl := x_l3 (List.mem_of_getElem? (i := 113) rfl)
theorem wl_595 : Cond.laysStatic "QuestionReader$Kind" "AT_LEAST" "LQuestionReader$Kind;" ∈ lw_tbl := x_l3 (List.mem_of_getElem? (i := 115) rfl)
theorem wl_636 : Cond.laysStatic "QuestionReader$Kind" "OR" "LQuestionReader$Kind;" ∈ lw_tbl := x_l3 (List.mem_of_getElem? (i := 156) rfl)
theorem wl_646 : Cond.laysStatic "QuestionReader$Kind" "GROUP" "LQuestionReader$Kind;" ∈ lw_tbl := x_l3 (List.mem_of_getElem? (i := 166) rfl)
theorem wl_652 : Cond.laysStatic "QuestionReader$Kind" "BY" "LQuestionReader$Kind;" ∈ lw_tbl := x_l3 (List.mem_of_getElem? (i := 172) rfl)
theorem wl_654 : Cond.laysStatic "QuestionReader$Kind" "ROLLUP" "LQuestionReader$Kind;" ∈ lw_tbl := x_l3 (List.mem_of_getElem? (i := 174) rfl)
theorem wl_656 : Cond.laysStatic "QuestionReader$Kind" "CUBE" "LQuestionReader$Kind;" ∈ lw_tbl := x_l3 (List.mem_of_getElem? (i := 176) rfl)
theorem wl_680 : Cond.laysStatic "QuestionReader$Kind" "SEMICOLON" "LQuestionReader$Kind;" ∈ lw_tbl := x_l3 (List.mem_of_getElem? (i := 200) rfl)
theorem wl_692 : Cond.laysStatic "QuestionReader$Kind" "DIMENSION" "LQuestionReader$Kind;" ∈ lw_tbl := x_l3 (List.mem_of_getElem? (i := 212) rfl)
theorem wl_694 : Cond.laysStatic "QuestionReader$Kind" "MEASURE" "LQuestionReader$Kind;" ∈ lw_tbl := x_l3 (List.mem_of_getElem? (i := 214) rfl)
theorem wl_696 : Cond.laysStatic "QuestionReader$Kind" "MEMBER" "LQuestionReader$Kind;" ∈ lw_tbl := x_l3 (List.mem_of_getElem? (i := 216) rfl)
theorem wl_830 : Cond.laysStatic "java/lang/Throwable" "UNASSIGNED_STACK" "[Ljava/lang/StackTraceElement;" ∈ lw_tbl := x_l4 (List.mem_of_getElem? (i := 110) rfl)
theorem wl_832 : Cond.laysStatic "java/lang/Throwable" "SUPPRESSED_SENTINEL" "Ljava/util/List;" ∈ lw_tbl := x_l4 (List.mem_of_getElem? (i := 112) rfl)
theorem wl_843 : Cond.stringRef "QuestionReader" 55 "the text would be too long" ∈ lw_tbl := x_l4 (List.mem_of_getElem? (i := 123) rfl)
theorem wl_893 : Cond.stringRef "QuestionReader" 223 "a number is out of its bounds" ∈ lw_tbl := x_l4 (List.mem_of_getElem? (i := 173) rfl)
theorem wl_914 : Cond.stringRef "QuestionReader" 137 "nothing of this kind is counted" ∈ lw_tbl := x_l4 (List.mem_of_getElem? (i := 194) rfl)
theorem wl_957 : Cond.stringRef "QuestionReader" 221 "the reader is new" ∈ lw_tbl := x_l4 (List.mem_of_getElem? (i := 237) rfl)
theorem wl_1035 : Cond.stringRef "QuestionReader" 211 "there is no question" ∈ lw_tbl := x_l5 (List.mem_of_getElem? (i := 75) rfl)
theorem wl_1059 : Cond.stringRef "QuestionReaderModel" 7 " dimension measure member select where group by rollup cube grouping sum count min max and or not between in " ∈ lw_tbl := x_l5 (List.mem_of_getElem? (i := 99) rfl)
theorem wl_1063 : Cond.methodLinkNest "QuestionReaderModel" 45 ⟨"QuestionReaderModel$Question", "<init>", "()V"⟩ "QuestionReaderModel" ∈ lw_tbl := x_l5 (List.mem_of_getElem? (i := 103) rfl)
theorem wl_1067 : Cond.fieldLinkNest "QuestionReaderModel" 179 "QuestionReaderModel$Question" "items" "I" "QuestionReaderModel" ∈ lw_tbl := x_l5 (List.mem_of_getElem? (i := 107) rfl)
theorem wl_1069 : Cond.fieldLinkNest "QuestionReaderModel" 185 "QuestionReaderModel$Question" "kind" "[I" "QuestionReaderModel" ∈ lw_tbl := x_l5 (List.mem_of_getElem? (i := 109) rfl)
theorem wl_1071 : Cond.fieldLinkNest "QuestionReaderModel" 188 "QuestionReaderModel$Question" "of" "[I" "QuestionReaderModel" ∈ lw_tbl := x_l5 (List.mem_of_getElem? (i := 111) rfl)
theorem wl_1073 : Cond.fieldLinkNest "QuestionReaderModel" 191 "QuestionReaderModel$Question" "begins" "[I" "QuestionReaderModel" ∈ lw_tbl := x_l5 (List.mem_of_getElem? (i := 113) rfl)
theorem wl_1074 : Cond.fieldLinkNest "QuestionReaderModel" 240 "QuestionReaderModel$Question" "groups" "I" "QuestionReaderModel" ∈ lw_tbl := x_l5 (List.mem_of_getElem? (i := 114) rfl)
theorem wl_1076 : Cond.fieldLinkNest "QuestionReaderModel" 243 "QuestionReaderModel$Question" "group" "[I" "QuestionReaderModel" ∈ lw_tbl := x_l5 (List.mem_of_getElem? (i := 116) rfl)
theorem wl_1077 : Cond.fieldLinkNest "QuestionReaderModel" 252 "QuestionReaderModel$Question" "parts" "I" "QuestionReaderModel" ∈ lw_tbl := x_l5 (List.mem_of_getElem? (i := 117) rfl)
theorem wl_1079 : Cond.fieldLinkNest "QuestionReaderModel" 249 "QuestionReaderModel$Question" "partKind" "[I" "QuestionReaderModel" ∈ lw_tbl := x_l5 (List.mem_of_getElem? (i := 119) rfl)
theorem wl_1081 : Cond.fieldLinkNest "QuestionReaderModel" 255 "QuestionReaderModel$Question" "partSize" "[I" "QuestionReaderModel" ∈ lw_tbl := x_l5 (List.mem_of_getElem? (i := 121) rfl)
theorem wl_1082 : Cond.fieldLinkNest "QuestionReaderModel" 264 "QuestionReaderModel$Question" "sets" "I" "QuestionReaderModel" ∈ lw_tbl := x_l5 (List.mem_of_getElem? (i := 122) rfl)
theorem wl_1084 : Cond.fieldLinkNest "QuestionReaderModel" 267 "QuestionReaderModel$Question" "set" "[I" "QuestionReaderModel" ∈ lw_tbl := x_l5 (List.mem_of_getElem? (i := 124) rfl)
theorem wl_1085 : Cond.fieldLinkNest "QuestionReaderModel" 196 "QuestionReaderModel$Question" "signs" "I" "QuestionReaderModel" ∈ lw_tbl := x_l5 (List.mem_of_getElem? (i := 125) rfl)
theorem wl_1087 : Cond.fieldLinkNest "QuestionReaderModel" 194 "QuestionReaderModel$Question" "sign" "[I" "QuestionReaderModel" ∈ lw_tbl := x_l5 (List.mem_of_getElem? (i := 127) rfl)
theorem wl_1088 : Cond.fieldLinkNest "QuestionReaderModel" 217 "QuestionReaderModel$Question" "comparisons" "I" "QuestionReaderModel" ∈ lw_tbl := x_l5 (List.mem_of_getElem? (i := 128) rfl)
theorem wl_1090 : Cond.fieldLinkNest "QuestionReaderModel" 220 "QuestionReaderModel$Question" "column" "[I" "QuestionReaderModel" ∈ lw_tbl := x_l5 (List.mem_of_getElem? (i := 130) rfl)
theorem wl_1092 : Cond.fieldLinkNest "QuestionReaderModel" 223 "QuestionReaderModel$Question" "how" "[I" "QuestionReaderModel" ∈ lw_tbl := x_l5 (List.mem_of_getElem? (i := 132) rfl)
theorem wl_1094 : Cond.fieldLinkNest "QuestionReaderModel" 226 "QuestionReaderModel$Question" "first" "[I" "QuestionReaderModel" ∈ lw_tbl := x_l5 (List.mem_of_getElem? (i := 134) rfl)
theorem wl_1096 : Cond.fieldLinkNest "QuestionReaderModel" 235 "QuestionReaderModel$Question" "second" "[I" "QuestionReaderModel" ∈ lw_tbl := x_l5 (List.mem_of_getElem? (i := 136) rfl)
theorem wl_1098 : Cond.fieldLinkNest "QuestionReaderModel" 238 "QuestionReaderModel$Question" "list" "[I" "QuestionReaderModel" ∈ lw_tbl := x_l5 (List.mem_of_getElem? (i := 138) rfl)
theorem wl_1267 : Cond.laysStatic "java/lang/String" "COMPACT_STRINGS" "Z" ∈ lw_tbl := x_l6 (List.mem_of_getElem? (i := 67) rfl)
theorem wl_1283 : Cond.laysStatic "jdk/internal/util/Preconditions" "SIOOBE_FORMATTER" "Ljava/util/function/BiFunction;" ∈ lw_tbl := x_l6 (List.mem_of_getElem? (i := 83) rfl)
theorem wl_1301 : Cond.laysStatic "java/lang/StringUTF16" "$assertionsDisabled" "Z" ∈ lw_tbl := x_l6 (List.mem_of_getElem? (i := 101) rfl)
theorem wl_1303 : Cond.laysStatic "java/lang/StringUTF16" "HI_BYTE_SHIFT" "I" ∈ lw_tbl := x_l6 (List.mem_of_getElem? (i := 103) rfl)
theorem wl_1305 : Cond.laysStatic "java/lang/StringUTF16" "LO_BYTE_SHIFT" "I" ∈ lw_tbl := x_l6 (List.mem_of_getElem? (i := 105) rfl)
theorem ws_0 : Cond.selects "QuestionReader$Condition" ⟨"QuestionReader$Condition", "clearLine", "()V"⟩ ⟨"QuestionReader$Condition", "clearLine", "()V"⟩ ∈ x_tsl := x_inS (List.mem_of_getElem? (i := 0) rfl) rfl
theorem ws_1 : Cond.selects "QuestionReader$Lexer" ⟨"QuestionReader$Lexer", "skipBlanks", "()V"⟩ ⟨"QuestionReader$Lexer", "skipBlanks", "()V"⟩ ∈ x_tsl := x_inS (List.mem_of_getElem? (i := 1) rfl) rfl
theorem ws_2 : Cond.selects "QuestionReader$Lexer" ⟨"QuestionReader$Lexer", "scanWord", "()J"⟩ ⟨"QuestionReader$Lexer", "scanWord", "()J"⟩ ∈ x_tsl := x_inS (List.mem_of_getElem? (i := 2) rfl) rfl
theorem ws_3 : Cond.selects "QuestionReader$Lexer" ⟨"QuestionReader$Lexer", "isDigit", "(I)Z"⟩ ⟨"QuestionReader$Lexer", "isDigit", "(I)Z"⟩ ∈ x_tsl := x_inS (List.mem_of_getElem? (i := 3) rfl) rfl
theorem ws_4 : Cond.selects "QuestionReader$Lexer" ⟨"QuestionReader$Lexer", "scanNumber", "()J"⟩ ⟨"QuestionReader$Lexer", "scanNumber", "()J"⟩ ∈ x_tsl := x_inS (List.mem_of_getElem? (i := 4) rfl) rfl
theorem ws_5 : Cond.selects "QuestionReader$Lexer" ⟨"QuestionReader$Lexer", "scanSign", "()J"⟩ ⟨"QuestionReader$Lexer", "scanSign", "()J"⟩ ∈ x_tsl := x_inS (List.mem_of_getElem? (i := 5) rfl) rfl
theorem ws_6 : Cond.selects "QuestionReader$QuestionGrammar" ⟨"QuestionReader$QuestionGrammar", "readItems", "()Z"⟩ ⟨"QuestionReader$QuestionGrammar", "readItems", "()Z"⟩ ∈ x_tsl := x_inS (List.mem_of_getElem? (i := 6) rfl) rfl
theorem ws_7 : Cond.selects "QuestionReader$QuestionGrammar" ⟨"QuestionReader$QuestionGrammar", "readItem", "()Z"⟩ ⟨"QuestionReader$QuestionGrammar", "readItem", "()Z"⟩ ∈ x_tsl := x_inS (List.mem_of_getElem? (i := 7) rfl) rfl
theorem ws_8 : Cond.selects "QuestionReader$QuestionGrammar" ⟨"QuestionReader$QuestionGrammar", "readColumn", "(Z)I"⟩ ⟨"QuestionReader$QuestionGrammar", "readColumn", "(Z)I"⟩ ∈ x_tsl := x_inS (List.mem_of_getElem? (i := 8) rfl) rfl
theorem ws_9 : Cond.selects "QuestionReader$Names" ⟨"QuestionReader$Names", "isSame", "(ILQuestionReader$Lexer;)Z"⟩ ⟨"QuestionReader$Names", "isSame", "(ILQuestionReader$Lexer;)Z"⟩ ∈ x_tsl := x_inS (List.mem_of_getElem? (i := 9) rfl) rfl
theorem ws_10 : Cond.selects "QuestionReader$QuestionGrammar" ⟨"QuestionReader$QuestionGrammar", "readSummed", "(I)I"⟩ ⟨"QuestionReader$QuestionGrammar", "readSummed", "(I)I"⟩ ∈ x_tsl := x_inS (List.mem_of_getElem? (i := 10) rfl) rfl
theorem ws_11 : Cond.selects "QuestionReader$QuestionGrammar" ⟨"QuestionReader$QuestionGrammar", "readWhere", "()Z"⟩ ⟨"QuestionReader$QuestionGrammar", "readWhere", "()Z"⟩ ∈ x_tsl := x_inS (List.mem_of_getElem? (i := 11) rfl) rfl
theorem ws_12 : Cond.selects "QuestionReader$QuestionGrammar" ⟨"QuestionReader$QuestionGrammar", "readComparison", "(LQuestionReader$Condition;)Z"⟩ ⟨"QuestionReader$QuestionGrammar", "readComparison", "(LQuestionReader$Condition;)Z"⟩ ∈ x_tsl := x_inS (List.mem_of_getElem? (i := 12) rfl) rfl
theorem ws_13 : Cond.selects "QuestionReader$QuestionGrammar" ⟨"QuestionReader$QuestionGrammar", "readList", "(LQuestionReader$Comparison;)Z"⟩ ⟨"QuestionReader$QuestionGrammar", "readList", "(LQuestionReader$Comparison;)Z"⟩ ∈ x_tsl := x_inS (List.mem_of_getElem? (i := 13) rfl) rfl
theorem ws_14 : Cond.selects "QuestionReader$QuestionGrammar" ⟨"QuestionReader$QuestionGrammar", "readBetween", "(LQuestionReader$Comparison;)Z"⟩ ⟨"QuestionReader$QuestionGrammar", "readBetween", "(LQuestionReader$Comparison;)Z"⟩ ∈ x_tsl := x_inS (List.mem_of_getElem? (i := 14) rfl) rfl
theorem ws_15 : Cond.selects "QuestionReader$QuestionGrammar" ⟨"QuestionReader$QuestionGrammar", "readRelation", "(LQuestionReader$Comparison;)Z"⟩ ⟨"QuestionReader$QuestionGrammar", "readRelation", "(LQuestionReader$Comparison;)Z"⟩ ∈ x_tsl := x_inS (List.mem_of_getElem? (i := 15) rfl) rfl
theorem ws_16 : Cond.selects "QuestionReader$Condition" ⟨"QuestionReader$Condition", "attach", "(I)V"⟩ ⟨"QuestionReader$Condition", "attach", "(I)V"⟩ ∈ x_tsl := x_inS (List.mem_of_getElem? (i := 16) rfl) rfl
theorem ws_17 : Cond.selects "QuestionReader$Condition" ⟨"QuestionReader$Condition", "join", "(ZII)I"⟩ ⟨"QuestionReader$Condition", "join", "(ZII)I"⟩ ∈ x_tsl := x_inS (List.mem_of_getElem? (i := 17) rfl) rfl
theorem ws_18 : Cond.selects "QuestionReader$QuestionGrammar" ⟨"QuestionReader$QuestionGrammar", "readClosings", "(LQuestionReader$Condition;)V"⟩ ⟨"QuestionReader$QuestionGrammar", "readClosings", "(LQuestionReader$Condition;)V"⟩ ∈ x_tsl := x_inS (List.mem_of_getElem? (i := 18) rfl) rfl
theorem ws_19 : Cond.selects "QuestionReader$Condition" ⟨"QuestionReader$Condition", "endLine", "()I"⟩ ⟨"QuestionReader$Condition", "endLine", "()I"⟩ ∈ x_tsl := x_inS (List.mem_of_getElem? (i := 19) rfl) rfl
theorem ws_20 : Cond.selects "QuestionReader$QuestionGrammar" ⟨"QuestionReader$QuestionGrammar", "readGroups", "()Z"⟩ ⟨"QuestionReader$QuestionGrammar", "readGroups", "()Z"⟩ ∈ x_tsl := x_inS (List.mem_of_getElem? (i := 20) rfl) rfl
theorem ws_21 : Cond.selects "QuestionReader$QuestionGrammar" ⟨"QuestionReader$QuestionGrammar", "readGroup", "(Z)I"⟩ ⟨"QuestionReader$QuestionGrammar", "readGroup", "(Z)I"⟩ ∈ x_tsl := x_inS (List.mem_of_getElem? (i := 21) rfl) rfl
theorem ws_22 : Cond.selects "QuestionReader$CatalogGrammar" ⟨"QuestionReader$CatalogGrammar", "readDimension", "()Z"⟩ ⟨"QuestionReader$CatalogGrammar", "readDimension", "()Z"⟩ ∈ x_tsl := x_inS (List.mem_of_getElem? (i := 22) rfl) rfl
theorem ws_23 : Cond.selects "QuestionReader$CatalogGrammar" ⟨"QuestionReader$CatalogGrammar", "atNewName", "(Z)Z"⟩ ⟨"QuestionReader$CatalogGrammar", "atNewName", "(Z)Z"⟩ ∈ x_tsl := x_inS (List.mem_of_getElem? (i := 23) rfl) rfl
theorem ws_24 : Cond.selects "QuestionReader$CatalogGrammar" ⟨"QuestionReader$CatalogGrammar", "readLevels", "(I)I"⟩ ⟨"QuestionReader$CatalogGrammar", "readLevels", "(I)I"⟩ ∈ x_tsl := x_inS (List.mem_of_getElem? (i := 24) rfl) rfl
theorem ws_25 : Cond.selects "QuestionReader$CatalogGrammar" ⟨"QuestionReader$CatalogGrammar", "atNewLevel", "(II)Z"⟩ ⟨"QuestionReader$CatalogGrammar", "atNewLevel", "(II)Z"⟩ ∈ x_tsl := x_inS (List.mem_of_getElem? (i := 25) rfl) rfl
theorem ws_26 : Cond.selects "QuestionReader$CatalogGrammar" ⟨"QuestionReader$CatalogGrammar", "readMeasure", "()Z"⟩ ⟨"QuestionReader$CatalogGrammar", "readMeasure", "()Z"⟩ ∈ x_tsl := x_inS (List.mem_of_getElem? (i := 26) rfl) rfl
theorem ws_27 : Cond.selects "QuestionReader$CatalogGrammar" ⟨"QuestionReader$CatalogGrammar", "readMembers", "()Z"⟩ ⟨"QuestionReader$CatalogGrammar", "readMembers", "()Z"⟩ ∈ x_tsl := x_inS (List.mem_of_getElem? (i := 27) rfl) rfl
theorem ws_28 : Cond.selects "QuestionReader$CatalogGrammar" ⟨"QuestionReader$CatalogGrammar", "readMember", "(LQuestionReader$Dimension;I)Z"⟩ ⟨"QuestionReader$CatalogGrammar", "readMember", "(LQuestionReader$Dimension;I)Z"⟩ ∈ x_tsl := x_inS (List.mem_of_getElem? (i := 28) rfl) rfl
theorem ws_29 : Cond.selects "QuestionReader$CatalogGrammar" ⟨"QuestionReader$CatalogGrammar", "readValues", "(LQuestionReader$Dimension;I)I"⟩ ⟨"QuestionReader$CatalogGrammar", "readValues", "(LQuestionReader$Dimension;I)I"⟩ ∈ x_tsl := x_inS (List.mem_of_getElem? (i := 29) rfl) rfl
theorem ws_30 : Cond.selects "QuestionReader$Dimension" ⟨"QuestionReader$Dimension", "firstWithSame", "(II)I"⟩ ⟨"QuestionReader$Dimension", "firstWithSame", "(II)I"⟩ ∈ x_tsl := x_inS (List.mem_of_getElem? (i := 30) rfl) rfl
theorem ws_31 : Cond.selects "QuestionReader$Dimension" ⟨"QuestionReader$Dimension", "agreeAbove", "(III)Z"⟩ ⟨"QuestionReader$Dimension", "agreeAbove", "(III)Z"⟩ ∈ x_tsl := x_inS (List.mem_of_getElem? (i := 31) rfl) rfl
theorem ws_32 : Cond.selects "QuestionReader$Dimension" ⟨"QuestionReader$Dimension", "insert", "(II)V"⟩ ⟨"QuestionReader$Dimension", "insert", "(II)V"⟩ ∈ x_tsl := x_inS (List.mem_of_getElem? (i := 32) rfl) rfl
theorem ws_33 : Cond.selects "java/lang/Throwable" ⟨"java/lang/Throwable", "fillInStackTrace", "(I)Ljava/lang/Throwable;"⟩ ⟨"java/lang/Throwable", "fillInStackTrace", "(I)Ljava/lang/Throwable;"⟩ ∈ x_tsl := x_inS (List.mem_of_getElem? (i := 33) rfl) rfl
theorem ws_34 : Cond.selects "QuestionReader" ⟨"QuestionReader", "demandOpen", "()V"⟩ ⟨"QuestionReader", "demandOpen", "()V"⟩ ∈ x_tsl := x_inS (List.mem_of_getElem? (i := 34) rfl) rfl
theorem ws_35 : Cond.selects "QuestionReader$Comparison" ⟨"QuestionReader$Comparison", "isListed", "(I)Z"⟩ ⟨"QuestionReader$Comparison", "isListed", "(I)Z"⟩ ∈ x_tsl := x_inS (List.mem_of_getElem? (i := 35) rfl) rfl
theorem ws_36 : Cond.selects "QuestionReaderModel" ⟨"QuestionReaderModel", "lay", "(I)V"⟩ ⟨"QuestionReaderModel", "lay", "(I)V"⟩ ∈ x_tsl := x_inS (List.mem_of_getElem? (i := 36) rfl) rfl
theorem ws_37 : Cond.selects "QuestionReaderModel" ⟨"QuestionReaderModel", "read", "()V"⟩ ⟨"QuestionReaderModel", "read", "()V"⟩ ∈ x_tsl := x_inS (List.mem_of_getElem? (i := 37) rfl) rfl
theorem ws_38 : Cond.selects "QuestionReaderModel" ⟨"QuestionReaderModel", "look", "(I)I"⟩ ⟨"QuestionReaderModel", "look", "(I)I"⟩ ∈ x_tsl := x_inS (List.mem_of_getElem? (i := 38) rfl) rfl
theorem ws_39 : Cond.selects "QuestionReaderModel" ⟨"QuestionReaderModel", "wordOf", "()I"⟩ ⟨"QuestionReaderModel", "wordOf", "()I"⟩ ∈ x_tsl := x_inS (List.mem_of_getElem? (i := 39) rfl) rfl
theorem ws_40 : Cond.selects "QuestionReaderModel" ⟨"QuestionReaderModel", "readNumber", "(Z)V"⟩ ⟨"QuestionReaderModel", "readNumber", "(Z)V"⟩ ∈ x_tsl := x_inS (List.mem_of_getElem? (i := 40) rfl) rfl
theorem ws_41 : Cond.selects "QuestionReaderModel" ⟨"QuestionReaderModel", "want", "(ZII)Z"⟩ ⟨"QuestionReaderModel", "want", "(ZII)Z"⟩ ∈ x_tsl := x_inS (List.mem_of_getElem? (i := 41) rfl) rfl
theorem ws_42 : Cond.selects "QuestionReaderModel" ⟨"QuestionReaderModel", "readSign", "(I)V"⟩ ⟨"QuestionReaderModel", "readSign", "(I)V"⟩ ∈ x_tsl := x_inS (List.mem_of_getElem? (i := 42) rfl) rfl
theorem ws_43 : Cond.selects "QuestionReaderModel" ⟨"QuestionReaderModel", "statement", "()V"⟩ ⟨"QuestionReaderModel", "statement", "()V"⟩ ∈ x_tsl := x_inS (List.mem_of_getElem? (i := 43) rfl) rfl
theorem ws_44 : Cond.selects "QuestionReaderModel" ⟨"QuestionReaderModel", "isWord", "(I)Z"⟩ ⟨"QuestionReaderModel", "isWord", "(I)Z"⟩ ∈ x_tsl := x_inS (List.mem_of_getElem? (i := 44) rfl) rfl
theorem ws_45 : Cond.selects "QuestionReaderModel" ⟨"QuestionReaderModel", "must", "(Z)Z"⟩ ⟨"QuestionReaderModel", "must", "(Z)Z"⟩ ∈ x_tsl := x_inS (List.mem_of_getElem? (i := 45) rfl) rfl
theorem ws_46 : Cond.selects "QuestionReaderModel" ⟨"QuestionReaderModel", "dimension", "()V"⟩ ⟨"QuestionReaderModel", "dimension", "()V"⟩ ∈ x_tsl := x_inS (List.mem_of_getElem? (i := 46) rfl) rfl
theorem ws_47 : Cond.selects "QuestionReaderModel" ⟨"QuestionReaderModel", "newName", "()Z"⟩ ⟨"QuestionReaderModel", "newName", "()Z"⟩ ∈ x_tsl := x_inS (List.mem_of_getElem? (i := 47) rfl) rfl
theorem ws_48 : Cond.selects "QuestionReaderModel" ⟨"QuestionReaderModel", "name", "()Z"⟩ ⟨"QuestionReaderModel", "name", "()Z"⟩ ∈ x_tsl := x_inS (List.mem_of_getElem? (i := 48) rfl) rfl
theorem ws_49 : Cond.selects "QuestionReaderModel" ⟨"QuestionReaderModel", "among", "(II)I"⟩ ⟨"QuestionReaderModel", "among", "(II)I"⟩ ∈ x_tsl := x_inS (List.mem_of_getElem? (i := 49) rfl) rfl
theorem ws_50 : Cond.selects "QuestionReaderModel" ⟨"QuestionReaderModel", "isName", "(I)Z"⟩ ⟨"QuestionReaderModel", "isName", "(I)Z"⟩ ∈ x_tsl := x_inS (List.mem_of_getElem? (i := 50) rfl) rfl
theorem ws_51 : Cond.selects "QuestionReaderModel" ⟨"QuestionReaderModel", "keep", "(I)V"⟩ ⟨"QuestionReaderModel", "keep", "(I)V"⟩ ∈ x_tsl := x_inS (List.mem_of_getElem? (i := 51) rfl) rfl
theorem ws_52 : Cond.selects "QuestionReaderModel" ⟨"QuestionReaderModel", "needSign", "(I)Z"⟩ ⟨"QuestionReaderModel", "needSign", "(I)Z"⟩ ∈ x_tsl := x_inS (List.mem_of_getElem? (i := 52) rfl) rfl
theorem ws_53 : Cond.selects "QuestionReaderModel" ⟨"QuestionReaderModel", "isSign", "(I)Z"⟩ ⟨"QuestionReaderModel", "isSign", "(I)Z"⟩ ∈ x_tsl := x_inS (List.mem_of_getElem? (i := 53) rfl) rfl
theorem ws_54 : Cond.selects "QuestionReaderModel" ⟨"QuestionReaderModel", "measure", "()V"⟩ ⟨"QuestionReaderModel", "measure", "()V"⟩ ∈ x_tsl := x_inS (List.mem_of_getElem? (i := 54) rfl) rfl
theorem ws_55 : Cond.selects "QuestionReaderModel" ⟨"QuestionReaderModel", "member", "()V"⟩ ⟨"QuestionReaderModel", "member", "()V"⟩ ∈ x_tsl := x_inS (List.mem_of_getElem? (i := 55) rfl) rfl
theorem ws_56 : Cond.selects "QuestionReaderModel" ⟨"QuestionReaderModel", "goes", "(II)Z"⟩ ⟨"QuestionReaderModel", "goes", "(II)Z"⟩ ∈ x_tsl := x_inS (List.mem_of_getElem? (i := 56) rfl) rfl
theorem ws_57 : Cond.selects "QuestionReaderModel" ⟨"QuestionReaderModel", "question", "()V"⟩ ⟨"QuestionReaderModel", "question", "()V"⟩ ∈ x_tsl := x_inS (List.mem_of_getElem? (i := 57) rfl) rfl
theorem ws_58 : Cond.selects "QuestionReaderModel" ⟨"QuestionReaderModel", "item", "()V"⟩ ⟨"QuestionReaderModel", "item", "()V"⟩ ∈ x_tsl := x_inS (List.mem_of_getElem? (i := 58) rfl) rfl
theorem ws_59 : Cond.selects "QuestionReaderModel" ⟨"QuestionReaderModel", "columnsDimension", "()I"⟩ ⟨"QuestionReaderModel", "columnsDimension", "()I"⟩ ∈ x_tsl := x_inS (List.mem_of_getElem? (i := 59) rfl) rfl
theorem ws_60 : Cond.selects "QuestionReaderModel" ⟨"QuestionReaderModel", "columnsLevel", "(I)I"⟩ ⟨"QuestionReaderModel", "columnsLevel", "(I)I"⟩ ∈ x_tsl := x_inS (List.mem_of_getElem? (i := 60) rfl) rfl
theorem ws_61 : Cond.selects "QuestionReaderModel" ⟨"QuestionReaderModel", "either", "()V"⟩ ⟨"QuestionReaderModel", "either", "()V"⟩ ∈ x_tsl := x_inS (List.mem_of_getElem? (i := 61) rfl) rfl
theorem ws_62 : Cond.selects "QuestionReaderModel" ⟨"QuestionReaderModel", "both", "()V"⟩ ⟨"QuestionReaderModel", "both", "()V"⟩ ∈ x_tsl := x_inS (List.mem_of_getElem? (i := 62) rfl) rfl
theorem ws_63 : Cond.selects "QuestionReaderModel" ⟨"QuestionReaderModel", "single", "()V"⟩ ⟨"QuestionReaderModel", "single", "()V"⟩ ∈ x_tsl := x_inS (List.mem_of_getElem? (i := 63) rfl) rfl
theorem ws_64 : Cond.selects "QuestionReaderModel" ⟨"QuestionReaderModel", "comparison", "()V"⟩ ⟨"QuestionReaderModel", "comparison", "()V"⟩ ∈ x_tsl := x_inS (List.mem_of_getElem? (i := 64) rfl) rfl
theorem ws_65 : Cond.selects "QuestionReaderModel" ⟨"QuestionReaderModel", "needNumber", "()I"⟩ ⟨"QuestionReaderModel", "needNumber", "()I"⟩ ∈ x_tsl := x_inS (List.mem_of_getElem? (i := 65) rfl) rfl
theorem ws_66 : Cond.selects "QuestionReaderModel" ⟨"QuestionReaderModel", "list", "(I)V"⟩ ⟨"QuestionReaderModel", "list", "(I)V"⟩ ∈ x_tsl := x_inS (List.mem_of_getElem? (i := 66) rfl) rfl
theorem ws_67 : Cond.selects "QuestionReaderModel" ⟨"QuestionReaderModel", "say", "(I)V"⟩ ⟨"QuestionReaderModel", "say", "(I)V"⟩ ∈ x_tsl := x_inS (List.mem_of_getElem? (i := 67) rfl) rfl
theorem ws_68 : Cond.selects "QuestionReaderModel" ⟨"QuestionReaderModel", "grouping", "()V"⟩ ⟨"QuestionReaderModel", "grouping", "()V"⟩ ∈ x_tsl := x_inS (List.mem_of_getElem? (i := 68) rfl) rfl
theorem ws_69 : Cond.selects "QuestionReaderModel" ⟨"QuestionReaderModel", "groupsOf", "()I"⟩ ⟨"QuestionReaderModel", "groupsOf", "()I"⟩ ∈ x_tsl := x_inS (List.mem_of_getElem? (i := 69) rfl) rfl
theorem ws_70 : Cond.selects "QuestionReaderModel" ⟨"QuestionReaderModel", "groupColumn", "()V"⟩ ⟨"QuestionReaderModel", "groupColumn", "()V"⟩ ∈ x_tsl := x_inS (List.mem_of_getElem? (i := 70) rfl) rfl
theorem ws_71 : Cond.selects "QuestionReaderModel" ⟨"QuestionReaderModel", "spread", "(LQuestionReaderModel$Question;)V"⟩ ⟨"QuestionReaderModel", "spread", "(LQuestionReaderModel$Question;)V"⟩ ∈ x_tsl := x_inS (List.mem_of_getElem? (i := 71) rfl) rfl
theorem ws_72 : Cond.selects "QuestionReaderModel" ⟨"QuestionReaderModel", "order", "(I)V"⟩ ⟨"QuestionReaderModel", "order", "(I)V"⟩ ∈ x_tsl := x_inS (List.mem_of_getElem? (i := 72) rfl) rfl
theorem ws_73 : Cond.selects "QuestionReaderModel" ⟨"QuestionReaderModel", "isDimension", "(I)Z"⟩ ⟨"QuestionReaderModel", "isDimension", "(I)Z"⟩ ∈ x_tsl := x_inS (List.mem_of_getElem? (i := 73) rfl) rfl
theorem ws_74 : Cond.selects "QuestionReaderModel" ⟨"QuestionReaderModel", "isValue", "(III)Z"⟩ ⟨"QuestionReaderModel", "isValue", "(III)Z"⟩ ∈ x_tsl := x_inS (List.mem_of_getElem? (i := 74) rfl) rfl
theorem ws_75 : Cond.selects "QuestionReaderModel" ⟨"QuestionReaderModel", "valueOf", "(III)I"⟩ ⟨"QuestionReaderModel", "valueOf", "(III)I"⟩ ∈ x_tsl := x_inS (List.mem_of_getElem? (i := 75) rfl) rfl
theorem ws_76 : Cond.selects "QuestionReaderModel" ⟨"QuestionReaderModel", "isNamed", "(I)Z"⟩ ⟨"QuestionReaderModel", "isNamed", "(I)Z"⟩ ∈ x_tsl := x_inS (List.mem_of_getElem? (i := 76) rfl) rfl
theorem ws_77 : Cond.selects "QuestionReaderModel" ⟨"QuestionReaderModel", "compares", "(I)Z"⟩ ⟨"QuestionReaderModel", "compares", "(I)Z"⟩ ∈ x_tsl := x_inS (List.mem_of_getElem? (i := 77) rfl) rfl
theorem wu_QR : ∀ w ∈ u_ws R_QR F_QR 5, w ∈ x_tsl := List.forall_mem_cons.mpr ⟨w_355, List.forall_mem_cons.mpr ⟨w_357, List.forall_mem_cons.mpr ⟨w_359, List.forall_mem_cons.mpr ⟨w_361, List.forall_mem_cons.mpr ⟨w_363, fun _ h => absurd h List.not_mem_nil⟩⟩⟩⟩⟩
theorem wu_TX : ∀ w ∈ u_ws R_TX F_TX 2, w ∈ x_tsl := List.forall_mem_cons.mpr ⟨w_47, List.forall_mem_cons.mpr ⟨w_49, fun _ h => absurd h List.not_mem_nil⟩⟩
theorem wu_LX : ∀ w ∈ u_ws R_LX F_LX 9, w ∈ x_tsl := List.forall_mem_cons.mpr ⟨w_82, List.forall_mem_cons.mpr ⟨w_84, List.forall_mem_cons.mpr ⟨w_86, List.forall_mem_cons.mpr ⟨w_88, List.forall_mem_cons.mpr ⟨w_90, List.forall_mem_cons.mpr ⟨w_92, List.forall_mem_cons.mpr ⟨w_94, List.forall_mem_cons.mpr ⟨w_96, List.forall_mem_cons.mpr ⟨w_98, fun _ h => absurd h List.not_mem_nil⟩⟩⟩⟩⟩⟩⟩⟩⟩
theorem wu_CT : ∀ w ∈ u_ws R_CT F_CT 5, w ∈ x_tsl := List.forall_mem_cons.mpr ⟨w_181, List.forall_mem_cons.mpr ⟨w_183, List.forall_mem_cons.mpr ⟨w_185, List.forall_mem_cons.mpr ⟨w_187, List.forall_mem_cons.mpr ⟨w_189, fun _ h => absurd h List.not_mem_nil⟩⟩⟩⟩⟩
theorem wu_NM : ∀ w ∈ u_ws R_NM F_NM 2, w ∈ x_tsl := List.forall_mem_cons.mpr ⟨w_115, List.forall_mem_cons.mpr ⟨w_117, fun _ h => absurd h List.not_mem_nil⟩⟩
theorem wu_DM : ∀ w ∈ u_ws R_DM F_DM 7, w ∈ x_tsl := List.forall_mem_cons.mpr ⟨w_146, List.forall_mem_cons.mpr ⟨w_148, List.forall_mem_cons.mpr ⟨w_150, List.forall_mem_cons.mpr ⟨w_152, List.forall_mem_cons.mpr ⟨w_154, List.forall_mem_cons.mpr ⟨w_156, List.forall_mem_cons.mpr ⟨w_158, fun _ h => absurd h List.not_mem_nil⟩⟩⟩⟩⟩⟩⟩
theorem wu_CG : ∀ w ∈ u_ws R_CG F_CG 3, w ∈ x_tsl := List.forall_mem_cons.mpr ⟨w_201, List.forall_mem_cons.mpr ⟨w_203, List.forall_mem_cons.mpr ⟨w_205, fun _ h => absurd h List.not_mem_nil⟩⟩⟩
theorem wu_QG : ∀ w ∈ u_ws R_QG F_QG 5, w ∈ x_tsl := List.forall_mem_cons.mpr ⟨w_339, List.forall_mem_cons.mpr ⟨w_341, List.forall_mem_cons.mpr ⟨w_343, List.forall_mem_cons.mpr ⟨w_345, List.forall_mem_cons.mpr ⟨w_347, fun _ h => absurd h List.not_mem_nil⟩⟩⟩⟩⟩
theorem wu_QU : ∀ w ∈ u_ws R_QU F_QU 9, w ∈ x_tsl := List.forall_mem_cons.mpr ⟨w_314, List.forall_mem_cons.mpr ⟨w_316, List.forall_mem_cons.mpr ⟨w_318, List.forall_mem_cons.mpr ⟨w_320, List.forall_mem_cons.mpr ⟨w_322, List.forall_mem_cons.mpr ⟨w_324, List.forall_mem_cons.mpr ⟨w_326, List.forall_mem_cons.mpr ⟨w_328, List.forall_mem_cons.mpr ⟨w_330, fun _ h => absurd h List.not_mem_nil⟩⟩⟩⟩⟩⟩⟩⟩⟩
theorem wu_CN : ∀ w ∈ u_ws R_CN F_CN 12, w ∈ x_tsl := List.forall_mem_cons.mpr ⟨w_269, List.forall_mem_cons.mpr ⟨w_271, List.forall_mem_cons.mpr ⟨w_273, List.forall_mem_cons.mpr ⟨w_275, List.forall_mem_cons.mpr ⟨w_277, List.forall_mem_cons.mpr ⟨w_279, List.forall_mem_cons.mpr ⟨w_281, List.forall_mem_cons.mpr ⟨w_283, List.forall_mem_cons.mpr ⟨w_285, List.forall_mem_cons.mpr ⟨w_287, List.forall_mem_cons.mpr ⟨w_289, List.forall_mem_cons.mpr ⟨w_291, fun _ h => absurd h List.not_mem_nil⟩⟩⟩⟩⟩⟩⟩⟩⟩⟩⟩⟩
theorem wu_CP : ∀ w ∈ u_ws R_CP F_CP 6, w ∈ x_tsl := List.forall_mem_cons.mpr ⟨w_241, List.forall_mem_cons.mpr ⟨w_243, List.forall_mem_cons.mpr ⟨w_245, List.forall_mem_cons.mpr ⟨w_247, List.forall_mem_cons.mpr ⟨w_249, List.forall_mem_cons.mpr ⟨w_251, fun _ h => absurd h List.not_mem_nil⟩⟩⟩⟩⟩⟩
theorem wu_MD : ∀ w ∈ u_ws R_MD F_MD 27, w ∈ x_tsl := List.forall_mem_cons.mpr ⟨w_1165, List.forall_mem_cons.mpr ⟨w_1167, List.forall_mem_cons.mpr ⟨w_1169, List.forall_mem_cons.mpr ⟨w_1171, List.forall_mem_cons.mpr ⟨w_1173, List.forall_mem_cons.mpr ⟨w_1175, List.forall_mem_cons.mpr ⟨w_1177, List.forall_mem_cons.mpr ⟨w_1179, List.forall_mem_cons.mpr ⟨w_1181, List.forall_mem_cons.mpr ⟨w_1183, List.forall_mem_cons.mpr ⟨w_1185, List.forall_mem_cons.mpr ⟨w_1187, List.forall_mem_cons.mpr ⟨w_1189, List.forall_mem_cons.mpr ⟨w_1191, List.forall_mem_cons.mpr ⟨w_1193, List.forall_mem_cons.mpr ⟨w_1195, List.forall_mem_cons.mpr ⟨w_1197, List.forall_mem_cons.mpr ⟨w_1199, List.forall_mem_cons.mpr ⟨w_1201, List.forall_mem_cons.mpr ⟨w_1203, List.forall_mem_cons.mpr ⟨w_1205, List.forall_mem_cons.mpr ⟨w_1207, List.forall_mem_cons.mpr ⟨w_1209, List.forall_mem_cons.mpr ⟨w_1211, List.forall_mem_cons.mpr ⟨w_1213, List.forall_mem_cons.mpr ⟨w_1215, List.forall_mem_cons.mpr ⟨w_1217, fun _ h => absurd h List.not_mem_nil⟩⟩⟩⟩⟩⟩⟩⟩⟩⟩⟩⟩⟩⟩⟩⟩⟩⟩⟩⟩⟩⟩⟩⟩⟩⟩⟩
theorem wu_MQ : ∀ w ∈ u_ws R_MQ F_MQ 19, w ∈ x_tsl := List.forall_mem_cons.mpr ⟨w_1099, List.forall_mem_cons.mpr ⟨w_1101, List.forall_mem_cons.mpr ⟨w_1103, List.forall_mem_cons.mpr ⟨w_1105, List.forall_mem_cons.mpr ⟨w_1107, List.forall_mem_cons.mpr ⟨w_1109, List.forall_mem_cons.mpr ⟨w_1111, List.forall_mem_cons.mpr ⟨w_1113, List.forall_mem_cons.mpr ⟨w_1115, List.forall_mem_cons.mpr ⟨w_1117, List.forall_mem_cons.mpr ⟨w_1119, List.forall_mem_cons.mpr ⟨w_1121, List.forall_mem_cons.mpr ⟨w_1123, List.forall_mem_cons.mpr ⟨w_1125, List.forall_mem_cons.mpr ⟨w_1127, List.forall_mem_cons.mpr ⟨w_1129, List.forall_mem_cons.mpr ⟨w_1131, List.forall_mem_cons.mpr ⟨w_1133, List.forall_mem_cons.mpr ⟨w_1135, fun _ h => absurd h List.not_mem_nil⟩⟩⟩⟩⟩⟩⟩⟩⟩⟩⟩⟩⟩⟩⟩⟩⟩⟩⟩

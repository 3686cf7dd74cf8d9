abbrev R_QR : String := "QuestionReader"
def F_QR : u_T := fun k => match k with
  | 0 => ("QuestionReader", "text", "LQuestionReader$Text;", true)
  | 1 => ("QuestionReader", "lexer", "LQuestionReader$Lexer;", true)
  | 2 => ("QuestionReader", "catalog", "LQuestionReader$Catalog;", true)
  | 3 => ("QuestionReader", "catalogGrammar", "LQuestionReader$CatalogGrammar;", true)
  | _ => ("QuestionReader", "questionGrammar", "LQuestionReader$QuestionGrammar;", true)
def t_QR : Nat → FieldType := fun k => match k with
  | 0 => .object "QuestionReader$Text"
  | 1 => .object "QuestionReader$Lexer"
  | 2 => .object "QuestionReader$Catalog"
  | 3 => .object "QuestionReader$CatalogGrammar"
  | _ => .object "QuestionReader$QuestionGrammar"
abbrev R_TX : String := "QuestionReader$Text"
def F_TX : u_T := fun k => match k with
  | 0 => ("QuestionReader$Text", "bytes", "[B", true)
  | _ => ("QuestionReader$Text", "length", "I", false)
def t_TX : Nat → FieldType := fun k => match k with
  | 0 => .array .byte
  | _ => .int
abbrev R_LX : String := "QuestionReader$Lexer"
def F_LX : u_T := fun k => match k with
  | 0 => ("QuestionReader$Lexer", "text", "LQuestionReader$Text;", true)
  | 1 => ("QuestionReader$Lexer", "kind", "LQuestionReader$Kind;", false)
  | 2 => ("QuestionReader$Lexer", "start", "I", false)
  | 3 => ("QuestionReader$Lexer", "end", "I", false)
  | 4 => ("QuestionReader$Lexer", "number", "I", false)
  | 5 => ("QuestionReader$Lexer", "faultKind", "I", false)
  | 6 => ("QuestionReader$Lexer", "faultPlace", "I", false)
  | 7 => ("QuestionReader$Lexer", "isWord", "Z", false)
  | _ => ("QuestionReader$Lexer", "unfit", "I", false)
def t_LX : Nat → FieldType := fun k => match k with
  | 0 => .object "QuestionReader$Text"
  | 1 => .object "QuestionReader$Kind"
  | 2 => .int
  | 3 => .int
  | 4 => .int
  | 5 => .int
  | 6 => .int
  | 7 => .boolean
  | _ => .int
abbrev R_CT : String := "QuestionReader$Catalog"
def F_CT : u_T := fun k => match k with
  | 0 => ("QuestionReader$Catalog", "names", "LQuestionReader$Names;", true)
  | 1 => ("QuestionReader$Catalog", "dimensions", "[LQuestionReader$Dimension;", true)
  | 2 => ("QuestionReader$Catalog", "dimensionCount", "I", false)
  | 3 => ("QuestionReader$Catalog", "measureCount", "I", false)
  | _ => ("QuestionReader$Catalog", "isOpen", "Z", false)
def t_CT : Nat → FieldType := fun k => match k with
  | 0 => .object "QuestionReader$Names"
  | 1 => .array (.object "QuestionReader$Dimension")
  | 2 => .int
  | 3 => .int
  | _ => .boolean
abbrev R_NM : String := "QuestionReader$Names"
def F_NM : u_T := fun k => match k with
  | 0 => ("QuestionReader$Names", "letters", "[B", true)
  | _ => ("QuestionReader$Names", "lengths", "[I", true)
def t_NM : Nat → FieldType := fun k => match k with
  | 0 => .array .byte
  | _ => .array .int
abbrev R_DM : String := "QuestionReader$Dimension"
def F_DM : u_T := fun k => match k with
  | 0 => ("QuestionReader$Dimension", "levelCount", "I", false)
  | 1 => ("QuestionReader$Dimension", "memberCount", "I", false)
  | 2 => ("QuestionReader$Dimension", "picked", "I", false)
  | 3 => ("QuestionReader$Dimension", "values", "[[I", true)
  | 4 => ("QuestionReader$Dimension", "rows", "[I", true)
  | 5 => ("QuestionReader$Dimension", "sorted", "[[I", true)
  | _ => ("QuestionReader$Dimension", "sortedCounts", "[I", true)
def t_DM : Nat → FieldType := fun k => match k with
  | 0 => .int
  | 1 => .int
  | 2 => .int
  | 3 => .array (.array .int)
  | 4 => .array .int
  | 5 => .array (.array .int)
  | _ => .array .int
abbrev R_CG : String := "QuestionReader$CatalogGrammar"
def F_CG : u_T := fun k => match k with
  | 0 => ("QuestionReader$CatalogGrammar", "lexer", "LQuestionReader$Lexer;", true)
  | 1 => ("QuestionReader$CatalogGrammar", "catalog", "LQuestionReader$Catalog;", true)
  | _ => ("QuestionReader$CatalogGrammar", "names", "LQuestionReader$Names;", true)
def t_CG : Nat → FieldType := fun k => match k with
  | 0 => .object "QuestionReader$Lexer"
  | 1 => .object "QuestionReader$Catalog"
  | _ => .object "QuestionReader$Names"
abbrev R_QG : String := "QuestionReader$QuestionGrammar"
def F_QG : u_T := fun k => match k with
  | 0 => ("QuestionReader$QuestionGrammar", "lexer", "LQuestionReader$Lexer;", true)
  | 1 => ("QuestionReader$QuestionGrammar", "catalog", "LQuestionReader$Catalog;", true)
  | 2 => ("QuestionReader$QuestionGrammar", "names", "LQuestionReader$Names;", true)
  | 3 => ("QuestionReader$QuestionGrammar", "latest", "LQuestionReader$Question;", false)
  | _ => ("QuestionReader$QuestionGrammar", "draft", "LQuestionReader$Question;", false)
def t_QG : Nat → FieldType := fun k => match k with
  | 0 => .object "QuestionReader$Lexer"
  | 1 => .object "QuestionReader$Catalog"
  | 2 => .object "QuestionReader$Names"
  | 3 => .object "QuestionReader$Question"
  | _ => .object "QuestionReader$Question"
abbrev R_QU : String := "QuestionReader$Question"
def F_QU : u_T := fun k => match k with
  | 0 => ("QuestionReader$Question", "itemCount", "I", false)
  | 1 => ("QuestionReader$Question", "itemTypes", "[I", true)
  | 2 => ("QuestionReader$Question", "itemTargets", "[I", true)
  | 3 => ("QuestionReader$Question", "itemPlaces", "[I", true)
  | 4 => ("QuestionReader$Question", "columnCount", "I", false)
  | 5 => ("QuestionReader$Question", "columns", "[I", true)
  | 6 => ("QuestionReader$Question", "setCount", "I", false)
  | 7 => ("QuestionReader$Question", "sets", "[I", true)
  | _ => ("QuestionReader$Question", "condition", "LQuestionReader$Condition;", true)
def t_QU : Nat → FieldType := fun k => match k with
  | 0 => .int
  | 1 => .array .int
  | 2 => .array .int
  | 3 => .array .int
  | 4 => .int
  | 5 => .array .int
  | 6 => .int
  | 7 => .array .int
  | _ => .object "QuestionReader$Condition"
abbrev R_CN : String := "QuestionReader$Condition"
def F_CN : u_T := fun k => match k with
  | 0 => ("QuestionReader$Condition", "comparisonCount", "I", false)
  | 1 => ("QuestionReader$Condition", "depth", "I", false)
  | 2 => ("QuestionReader$Condition", "comparisons", "[LQuestionReader$Comparison;", true)
  | 3 => ("QuestionReader$Condition", "jointCount", "I", false)
  | 4 => ("QuestionReader$Condition", "lefts", "[I", true)
  | 5 => ("QuestionReader$Condition", "rights", "[I", true)
  | 6 => ("QuestionReader$Condition", "isAnd", "[Z", true)
  | 7 => ("QuestionReader$Condition", "isNegated", "[Z", true)
  | 8 => ("QuestionReader$Condition", "truths", "[Z", true)
  | 9 => ("QuestionReader$Condition", "beforeOr", "[I", true)
  | 10 => ("QuestionReader$Condition", "beforeAnd", "[I", true)
  | _ => ("QuestionReader$Condition", "isNotAhead", "[Z", true)
def t_CN : Nat → FieldType := fun k => match k with
  | 0 => .int
  | 1 => .int
  | 2 => .array (.object "QuestionReader$Comparison")
  | 3 => .int
  | 4 => .array .int
  | 5 => .array .int
  | 6 => .array .boolean
  | 7 => .array .boolean
  | 8 => .array .boolean
  | 9 => .array .int
  | 10 => .array .int
  | _ => .array .boolean
abbrev R_CP : String := "QuestionReader$Comparison"
def F_CP : u_T := fun k => match k with
  | 0 => ("QuestionReader$Comparison", "column", "I", false)
  | 1 => ("QuestionReader$Comparison", "isNegated", "Z", false)
  | 2 => ("QuestionReader$Comparison", "low", "I", false)
  | 3 => ("QuestionReader$Comparison", "high", "I", false)
  | 4 => ("QuestionReader$Comparison", "listed", "I", false)
  | _ => ("QuestionReader$Comparison", "list", "[I", true)
def t_CP : Nat → FieldType := fun k => match k with
  | 0 => .int
  | 1 => .boolean
  | 2 => .int
  | 3 => .int
  | 4 => .int
  | _ => .array .int
abbrev R_MD : String := "QuestionReaderModel"
def F_MD : u_T := fun k => match k with
  | 0 => ("QuestionReaderModel", "reserved", "Ljava/lang/String;", true)
  | 1 => ("QuestionReaderModel", "code", "I", false)
  | 2 => ("QuestionReaderModel", "open", "Z", false)
  | 3 => ("QuestionReaderModel", "text", "[B", true)
  | 4 => ("QuestionReaderModel", "size", "I", false)
  | 5 => ("QuestionReaderModel", "fault", "I", false)
  | 6 => ("QuestionReaderModel", "place", "I", false)
  | 7 => ("QuestionReaderModel", "at", "I", false)
  | 8 => ("QuestionReaderModel", "from", "I", false)
  | 9 => ("QuestionReaderModel", "token", "I", false)
  | 10 => ("QuestionReaderModel", "word", "I", false)
  | 11 => ("QuestionReaderModel", "number", "I", false)
  | 12 => ("QuestionReaderModel", "sign", "I", false)
  | 13 => ("QuestionReaderModel", "dimensions", "I", false)
  | 14 => ("QuestionReaderModel", "levels", "[I", true)
  | 15 => ("QuestionReaderModel", "members", "[I", true)
  | 16 => ("QuestionReaderModel", "values", "[I", true)
  | 17 => ("QuestionReaderModel", "picked", "[I", true)
  | 18 => ("QuestionReaderModel", "measures", "I", false)
  | 19 => ("QuestionReaderModel", "letters", "[B", true)
  | 20 => ("QuestionReaderModel", "lengths", "[I", true)
  | 21 => ("QuestionReaderModel", "asked", "LQuestionReaderModel$Question;", false)
  | 22 => ("QuestionReaderModel", "next", "LQuestionReaderModel$Question;", false)
  | 23 => ("QuestionReaderModel", "isAsked", "Z", false)
  | 24 => ("QuestionReaderModel", "brackets", "I", false)
  | 25 => ("QuestionReaderModel", "groupAt", "I", false)
  | _ => ("QuestionReaderModel", "pile", "[Z", true)
def t_MD : Nat → FieldType := fun k => match k with
  | 0 => .object "java/lang/String"
  | 1 => .int
  | 2 => .boolean
  | 3 => .array .byte
  | 4 => .int
  | 5 => .int
  | 6 => .int
  | 7 => .int
  | 8 => .int
  | 9 => .int
  | 10 => .int
  | 11 => .int
  | 12 => .int
  | 13 => .int
  | 14 => .array .int
  | 15 => .array .int
  | 16 => .array .int
  | 17 => .array .int
  | 18 => .int
  | 19 => .array .byte
  | 20 => .array .int
  | 21 => .object "QuestionReaderModel$Question"
  | 22 => .object "QuestionReaderModel$Question"
  | 23 => .boolean
  | 24 => .int
  | 25 => .int
  | _ => .array .boolean
abbrev R_MQ : String := "QuestionReaderModel$Question"
def F_MQ : u_T := fun k => match k with
  | 0 => ("QuestionReaderModel$Question", "items", "I", false)
  | 1 => ("QuestionReaderModel$Question", "kind", "[I", true)
  | 2 => ("QuestionReaderModel$Question", "of", "[I", true)
  | 3 => ("QuestionReaderModel$Question", "begins", "[I", true)
  | 4 => ("QuestionReaderModel$Question", "groups", "I", false)
  | 5 => ("QuestionReaderModel$Question", "group", "[I", true)
  | 6 => ("QuestionReaderModel$Question", "parts", "I", false)
  | 7 => ("QuestionReaderModel$Question", "partKind", "[I", true)
  | 8 => ("QuestionReaderModel$Question", "partSize", "[I", true)
  | 9 => ("QuestionReaderModel$Question", "sets", "I", false)
  | 10 => ("QuestionReaderModel$Question", "set", "[I", true)
  | 11 => ("QuestionReaderModel$Question", "signs", "I", false)
  | 12 => ("QuestionReaderModel$Question", "sign", "[I", true)
  | 13 => ("QuestionReaderModel$Question", "comparisons", "I", false)
  | 14 => ("QuestionReaderModel$Question", "column", "[I", true)
  | 15 => ("QuestionReaderModel$Question", "how", "[I", true)
  | 16 => ("QuestionReaderModel$Question", "first", "[I", true)
  | 17 => ("QuestionReaderModel$Question", "second", "[I", true)
  | _ => ("QuestionReaderModel$Question", "list", "[I", true)
def t_MQ : Nat → FieldType := fun k => match k with
  | 0 => .int
  | 1 => .array .int
  | 2 => .array .int
  | 3 => .array .int
  | 4 => .int
  | 5 => .array .int
  | 6 => .int
  | 7 => .array .int
  | 8 => .array .int
  | 9 => .int
  | 10 => .array .int
  | 11 => .int
  | 12 => .array .int
  | 13 => .int
  | 14 => .array .int
  | 15 => .array .int
  | 16 => .array .int
  | 17 => .array .int
  | _ => .array .int
/-- the classes whose objects the worlds hold -/
abbrev vwCl : List vw_C := [(R_QR, F_QR, 5), (R_TX, F_TX, 2), (R_LX, F_LX, 9), (R_CT, F_CT, 5), (R_NM, F_NM, 2), (R_DM, F_DM, 7), (R_CG, F_CG, 3), (R_QG, F_QG, 5), (R_QU, F_QU, 9), (R_CN, F_CN, 12), (R_CP, F_CP, 6), (R_MD, F_MD, 27), (R_MQ, F_MQ, 19)]
/-- the types of the elements of arrays -/
abbrev x_tl : List FieldType := [.int, .byte, .boolean, .long, .object "QuestionReader$Dimension", .object "QuestionReader$Comparison", .array .int]
/-- the words that last -/
def x_tsl : List Cond := lw_tbl.filter goodWord
theorem x_good : ∀ w ∈ x_tsl, (w.onTables && w.keeps) = true ∨ ∃ ty, w = .arrayClass ty := fun w h => good_of_word (List.mem_filter.mp h).2
theorem x_in {w : Cond} (i : Nat) (h : tables_1[i]? = some w) (hg : goodWord w = true) : w ∈ x_tsl := List.mem_filter.mpr ⟨List.mem_append_right _ (List.mem_of_getElem? h), hg⟩
theorem x_inS {w : Cond} (h : w ∈ k2_sels lw_privs) (hg : goodWord w = true) : w ∈ x_tsl := List.mem_filter.mpr ⟨List.mem_append_left _ h, hg⟩
/-- launch; classes' numbers and slots; array classes' numbers; the start's state and the script's address; the constants' addresses -/
abbrev x_G : Type := Launch × va_G × (Nat → ClassId) × (State × Nat) × (Nat → Nat)
abbrev x_s0 (G : x_G) : State := G.2.2.2.1.1
/-- the enum's constants, by their ordinals -/
def x_kn : List String := ["END", "WRONG", "NUMBER", "NAME", "TOO_LONG", "OPENING", "CLOSING", "COMMA", "SEMICOLON", "DOT", "STAR", "EQUAL", "UNEQUAL", "LESS", "AT_MOST", "MORE", "AT_LEAST", "DIMENSION", "MEASURE", "MEMBER", "SELECT", "WHERE", "GROUP", "BY", "ROLLUP", "CUBE", "GROUPING", "SUM", "COUNT", "MIN", "MAX", "AND", "OR", "NOT", "BETWEEN", "IN"]
/-- the keys of the enum's constants; the bytes of the reference's text -/
def x_kk : List Int64 := [0, 0, 0, 0, 0, 40, 41, 44, 59, 46, 42, 61, 7742, 60, 7741, 62, 7997, 7265352036076124142, 482883684628837, 3772553671410, 3978710053364, 32163592549, 27889761008, 12665, 3947034786544, 209547621, 58489068079183719, 1899245, 26809825140, 1799406, 1798392, 1603428, 14322, 1816564, 434510281405166, 13550]
def x_rs : List Int32 := [32, 100, 105, 109, 101, 110, 115, 105, 111, 110, 32, 109, 101, 97, 115, 117, 114, 101, 32, 109, 101, 109, 98, 101, 114, 32, 115, 101, 108, 101, 99, 116, 32, 119, 104, 101, 114, 101, 32, 103, 114, 111, 117, 112, 32, 98, 121, 32, 114, 111, 108, 108, 117, 112, 32, 99, 117, 98, 101, 32, 103, 114, 111, 117, 112, 105, 110, 103, 32, 115, 117, 109, 32, 99, 111, 117, 110, 116, 32, 109, 105, 110, 32, 109, 97, 120, 32, 97, 110, 100, 32, 111, 114, 32, 110, 111, 116, 32, 98, 101, 116, 119, 101, 101, 110, 32, 105, 110, 32]
def x_A0 (G : x_G) : Nat → Prop := fun q => (x_s0 G).heap.size ≤ q
/-- the address behind an abstract reference: k < x_N the k-th new cell, x_N + i the i-th constant -/
def x_N : Nat := 1000000000
def x_ad (G : x_G) (k : Nat) : Nat := if k < x_N then (x_s0 G).heap.size + k else G.2.2.2.2 (k - x_N)
def x_v0 (G : x_G) : Value → Value
  | .ref k => .ref (x_ad G k)
  | v => v
/-- the constants: the enum's 36, its row of them, the reference's text and its bytes, the texts of the exceptions -/
def x_cs (G : x_G) : Prop := (∀ i, i < 36 → va_Z "QuestionReader$Kind" (x_kn.getD i "") "LQuestionReader$Kind;" (.ref (G.2.2.2.2 i)) (x_A0 G) (x_s0 G) (x_s0 G).heap ∧ va_OF "QuestionReader$Kind" "key" "J" (.long (x_kk.getD i 0)) (G.2.2.2.2 i) (x_A0 G) (x_s0 G) (x_s0 G).heap) ∧
  (∀ i j, i < 36 → j < 36 → G.2.2.2.2 i = G.2.2.2.2 j → i = j) ∧
  (va_Z "QuestionReader$Kind" "ALL" "[LQuestionReader$Kind;" (.ref (G.2.2.2.2 36)) (x_A0 G) (x_s0 G) (x_s0 G).heap ∧ va_T (.object "QuestionReader$Kind") (G.2.2.2.2 36) 36 (fun j => .ref (G.2.2.2.2 j)) (x_A0 G) (x_s0 G) (x_s0 G).heap) ∧
  (va_O "java/lang/String" (G.2.2.2.2 37) (x_A0 G) (x_s0 G) (x_s0 G).heap ∧ va_OF "java/lang/String" "coder" "B" (.int 0) (G.2.2.2.2 37) (x_A0 G) (x_s0 G) (x_s0 G).heap ∧ va_OF "java/lang/String" "value" "[B" (.ref (G.2.2.2.2 38)) (G.2.2.2.2 37) (x_A0 G) (x_s0 G) (x_s0 G).heap ∧ va_T .byte (G.2.2.2.2 38) 109 (fun j => .int (x_rs.getD j 0)) (x_A0 G) (x_s0 G) (x_s0 G).heap) ∧
  vk_R "QuestionReaderModel" 7 " dimension measure member select where group by rollup cube grouping sum count min max and or not between in " (G.2.2.2.2 37) (x_s0 G) ∧
  (vk_R "QuestionReader" 55 "the text would be too long" (G.2.2.2.2 40) (x_s0 G) ∧ vk_R "QuestionReader" 223 "a number is out of its bounds" (G.2.2.2.2 41) (x_s0 G) ∧ vk_R "QuestionReader" 137 "nothing of this kind is counted" (G.2.2.2.2 42) (x_s0 G) ∧ vk_R "QuestionReader" 221 "the reader is new" (G.2.2.2.2 43) (x_s0 G) ∧ vk_R "QuestionReader" 211 "there is no question" (G.2.2.2.2 44) (x_s0 G)) ∧
  va_Z "java/lang/String" "COMPACT_STRINGS" "Z" (.int 1) (x_A0 G) (x_s0 G) (x_s0 G).heap ∧
  (∃ v : Value, (v = .null ∨ ∃ k, v = .ref k) ∧ va_Z "jdk/internal/util/Preconditions" "SIOOBE_FORMATTER" "Ljava/util/function/BiFunction;" (x_v0 G v) (x_A0 G) (x_s0 G) (x_s0 G).heap)
/-- what is known of the start -/
def x_0 (G : x_G) : Prop := x_cs G ∧ G.1.flags = flags0 ∧ (∀ w ∈ lw_tbl, w.before #[Value.ref G.2.2.2.1.2] (x_s0 G) = true) ∧ (Jvm.Cond.and given_1 narrow_1).before #[Value.ref G.2.2.2.1.2] (x_s0 G) = true ∧ G.2.2.2.1.2 < (x_s0 G).heap.size
/-- a state behind the start: warmer tables, the old cells as they were -/
def x_Z (G : x_G) (s : State) : Prop := x_0 G ∧ (x_s0 G).WarmedH s.vm ∧ ∀ q : Nat, q < (x_s0 G).heap.size → s.heap[q]? = (x_s0 G).heap[q]?
theorem x_Z_next {G : x_G} {s U : State} (hZ : x_Z G s) (hW : s.WarmedH U.vm) (hq : ∀ q : Nat, q < (x_s0 G).heap.size → U.heap[q]? = s.heap[q]?) : x_Z G U :=
  ⟨hZ.1, State.WarmedH.trans (vm' := U.vm) hZ.2.1 hW, fun q h => (hq q h).trans (hZ.2.2 q h)⟩

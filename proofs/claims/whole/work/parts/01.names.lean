/-! ===== BEGIN words of one list among another's, by their places ===== -/
theorem goodIn_r {big : List Cond} (ws : List Cond) (ps : List Nat) (hp : ws = ps.filterMap (fun i => big[i]?)) (h : ws.all goodWord = true) : GoodIn big ws := by
  intro w hw
  have h1 := List.all_eq_true.mp h w hw
  rw [hp] at hw
  obtain ⟨i, -, hi⟩ := List.mem_filterMap.mp hw
  have hm : w ∈ big := by first | exact List.mem_of_getElem? hi | exact List.getElem?_mem hi
  exact ⟨hm, good_of_word h1⟩
theorem goodIn_app {big a b : List Cond} (ha : GoodIn big a) (hb : GoodIn big b) : GoodIn big (a ++ b) := fun w h => (List.mem_append.mp h).elim (ha w) (hb w)
theorem goodIn_ca {big a b : List Cond} {c : Cond} (ha : GoodIn big (c :: a)) (hb : GoodIn big b) : GoodIn big (c :: (a ++ b)) := fun w h => (List.mem_cons.mp h).elim (fun e => ha w (List.mem_cons.mpr (Or.inl e))) (fun h => (List.mem_append.mp h).elim (fun h => ha w (List.mem_cons.mpr (Or.inr h))) (hb w))
theorem goodIn_sub {big ws : List Cond} (hm : ∀ w ∈ ws, w ∈ big) (h : ws.all goodWord = true) : GoodIn big ws := fun w hw => ⟨hm w hw, good_of_word (List.all_eq_true.mp h w hw)⟩
/-! ===== END ===== -/
/-! ===== BEGIN printed: names, fields, word lists, decode rows ===== -/
def RX0 : String := "FilingOrder$Entry"
def TX0 : u_T := fun k => match k with
  | 0 => ("FilingOrder$Entry", "number", "I", true)
  | 1 => ("FilingOrder$Entry", "rank", "I", true)
  | _ => ("FilingOrder$Entry", "key", "LFilingOrder$KeyRow;", true)
def tyX0 : Nat → FieldType := fun k => match k with
  | 0 => .int
  | 1 => .int
  | _ => .object "FilingOrder$KeyRow"
abbrev wsX00 : List Cond := u_ws RX0 TX0 3
theorem nmX0 : ∀ a, a < 3 → ∀ b, b < 3 → a ≠ b → (TX0 a).2.1 ≠ (TX0 b).2.1 := by decide +kernel
theorem tyX0_ok : ∀ k, k < 3 → parseFieldDescriptor (TX0 k).2.2.1 = some (tyX0 k) := by decide +kernel
abbrev cX0_init : ByteArray := prog_2_method_1_code
def yX0_init : MethodName := ⟨RX0, "<init>", "(IILFilingOrder$KeyRow;)V"⟩
abbrev cX0_isBefore : ByteArray := prog_2_method_2_code
def yX0_isBefore : MethodName := ⟨RX0, "isBefore", "(LFilingOrder$Entry;)Z"⟩
def RX1 : String := "FilingOrder$KeyRow"
def TX1 : u_T := fun k => match k with
  | 0 => ("FilingOrder$KeyRow", "bytes", "[B", true)
  | _ => ("FilingOrder$KeyRow", "length", "I", false)
def tyX1 : Nat → FieldType := fun k => match k with
  | 0 => .array .byte
  | _ => .int
abbrev wsX10 : List Cond := u_ws RX1 TX1 2
theorem nmX1 : ∀ a, a < 2 → ∀ b, b < 2 → a ≠ b → (TX1 a).2.1 ≠ (TX1 b).2.1 := by decide +kernel
theorem tyX1_ok : ∀ k, k < 2 → parseFieldDescriptor (TX1 k).2.2.1 = some (tyX1 k) := by decide +kernel
abbrev cX1_init : ByteArray := prog_3_method_1_code
def yX1_init : MethodName := ⟨RX1, "<init>", "([BI)V"⟩
abbrev cX1_clear : ByteArray := prog_3_method_2_code
def yX1_clear : MethodName := ⟨RX1, "clear", "()V"⟩
abbrev cX1_put : ByteArray := prog_3_method_3_code
def yX1_put : MethodName := ⟨RX1, "put", "(I)V"⟩
abbrev cX1_byteAt : ByteArray := prog_3_method_4_code
def yX1_byteAt : MethodName := ⟨RX1, "byteAt", "(I)I"⟩
abbrev cX1_copy : ByteArray := prog_3_method_5_code
def yX1_copy : MethodName := ⟨RX1, "copy", "()LFilingOrder$KeyRow;"⟩
abbrev cX1_order : ByteArray := prog_3_method_6_code
def yX1_order : MethodName := ⟨RX1, "order", "(LFilingOrder$KeyRow;)I"⟩
def RX2 : String := "FilingOrder$Marks"
def TX2 : u_T := fun k => match k with
  | _ => ("FilingOrder$Marks", "spaces", "[Z", true)
def tyX2 : Nat → FieldType := fun k => match k with
  | _ => .array .boolean
abbrev wsX20 : List Cond := u_ws RX2 TX2 1
theorem nmX2 : ∀ a, a < 1 → ∀ b, b < 1 → a ≠ b → (TX2 a).2.1 ≠ (TX2 b).2.1 := by decide +kernel
theorem tyX2_ok : ∀ k, k < 1 → parseFieldDescriptor (TX2 k).2.2.1 = some (tyX2 k) := by decide +kernel
abbrev cX2_init : ByteArray := prog_4_method_1_code
def yX2_init : MethodName := ⟨RX2, "<init>", "()V"⟩
abbrev cX2_isSpace : ByteArray := prog_4_method_2_code
def yX2_isSpace : MethodName := ⟨RX2, "isSpace", "(I)Z"⟩
abbrev cX2_take : ByteArray := prog_4_method_3_code
def yX2_take : MethodName := ⟨RX2, "take", "(IZ)V"⟩
def RX3 : String := "FilingOrder$Numbers"
def TX3 : u_T := fun k => match k with
  | 0 => ("FilingOrder$Numbers", "digits", "[I", true)
  | 1 => ("FilingOrder$Numbers", "romans", "[Z", true)
  | 2 => ("FilingOrder$Numbers", "tails", "[I", true)
  | _ => ("FilingOrder$Numbers", "count", "I", false)
def tyX3 : Nat → FieldType := fun k => match k with
  | 0 => .array .int
  | 1 => .array .boolean
  | 2 => .array .int
  | _ => .int
abbrev wsX30 : List Cond := u_ws RX3 TX3 4
theorem nmX3 : ∀ a, a < 4 → ∀ b, b < 4 → a ≠ b → (TX3 a).2.1 ≠ (TX3 b).2.1 := by decide +kernel
theorem tyX3_ok : ∀ k, k < 4 → parseFieldDescriptor (TX3 k).2.2.1 = some (tyX3 k) := by decide +kernel
abbrev cX3_init : ByteArray := prog_5_method_1_code
def yX3_init : MethodName := ⟨RX3, "<init>", "()V"⟩
abbrev cX3_clear : ByteArray := prog_5_method_2_code
def yX3_clear : MethodName := ⟨RX3, "clear", "()V"⟩
abbrev cX3_note : ByteArray := prog_5_method_3_code
def yX3_note : MethodName := ⟨RX3, "note", "(IZI)V"⟩
abbrev cX3_tell : ByteArray := prog_5_method_4_code
def yX3_tell : MethodName := ⟨RX3, "tell", "(II)I"⟩
def RX4 : String := "FilingOrder$RomanReader"
def TX4 : u_T := fun k => match k with
  | 0 => ("FilingOrder$RomanReader", "words", "LFilingOrder$Words;", true)
  | 1 => ("FilingOrder$RomanReader", "next", "I", false)
  | _ => ("FilingOrder$RomanReader", "end", "I", false)
def tyX4 : Nat → FieldType := fun k => match k with
  | 0 => .object "FilingOrder$Words"
  | 1 => .int
  | _ => .int
abbrev wsX40 : List Cond := u_ws RX4 TX4 3
theorem nmX4 : ∀ a, a < 3 → ∀ b, b < 3 → a ≠ b → (TX4 a).2.1 ≠ (TX4 b).2.1 := by decide +kernel
theorem tyX4_ok : ∀ k, k < 3 → parseFieldDescriptor (TX4 k).2.2.1 = some (tyX4 k) := by decide +kernel
abbrev cX4_init : ByteArray := prog_6_method_1_code
def yX4_init : MethodName := ⟨RX4, "<init>", "(LFilingOrder$Words;)V"⟩
abbrev cX4_read : ByteArray := prog_6_method_2_code
def yX4_read : MethodName := ⟨RX4, "read", "(I)I"⟩
abbrev cX4_readPlace : ByteArray := prog_6_method_3_code
def yX4_readPlace : MethodName := ⟨RX4, "readPlace", "(III)I"⟩
abbrev cX4_isNext : ByteArray := prog_6_method_4_code
def yX4_isNext : MethodName := ⟨RX4, "isNext", "(II)Z"⟩
def RX5 : String := "FilingOrder$Title"
def TX5 : u_T := fun k => match k with
  | 0 => ("FilingOrder$Title", "signs", "[C", true)
  | 1 => ("FilingOrder$Title", "length", "I", false)
  | _ => ("FilingOrder$Title", "leftOut", "I", false)
def tyX5 : Nat → FieldType := fun k => match k with
  | 0 => .array .char
  | 1 => .int
  | _ => .int
abbrev wsX50 : List Cond := u_ws RX5 TX5 3
theorem nmX5 : ∀ a, a < 3 → ∀ b, b < 3 → a ≠ b → (TX5 a).2.1 ≠ (TX5 b).2.1 := by decide +kernel
theorem tyX5_ok : ∀ k, k < 3 → parseFieldDescriptor (TX5 k).2.2.1 = some (tyX5 k) := by decide +kernel
abbrev cX5_init : ByteArray := prog_7_method_1_code
def yX5_init : MethodName := ⟨RX5, "<init>", "()V"⟩
abbrev cX5_collect : ByteArray := prog_7_method_2_code
def yX5_collect : MethodName := ⟨RX5, "collect", "(I)V"⟩
abbrev cX5_leaveOut : ByteArray := prog_7_method_3_code
def yX5_leaveOut : MethodName := ⟨RX5, "leaveOut", "(I)Z"⟩
abbrev cX5_isLeftOutTold : ByteArray := prog_7_method_4_code
def yX5_isLeftOutTold : MethodName := ⟨RX5, "isLeftOutTold", "()Z"⟩
abbrev cX5_signAt : ByteArray := prog_7_method_5_code
def yX5_signAt : MethodName := ⟨RX5, "signAt", "(I)I"⟩
abbrev cX5_clear : ByteArray := prog_7_method_6_code
def yX5_clear : MethodName := ⟨RX5, "clear", "()V"⟩
def RX6 : String := "FilingOrder$Words"
def TX6 : u_T := fun k => match k with
  | 0 => ("FilingOrder$Words", "signs", "[C", true)
  | 1 => ("FilingOrder$Words", "ends", "[I", true)
  | 2 => ("FilingOrder$Words", "length", "I", false)
  | _ => ("FilingOrder$Words", "count", "I", false)
def tyX6 : Nat → FieldType := fun k => match k with
  | 0 => .array .char
  | 1 => .array .int
  | 2 => .int
  | _ => .int
abbrev wsX60 : List Cond := u_ws RX6 TX6 4
theorem nmX6 : ∀ a, a < 4 → ∀ b, b < 4 → a ≠ b → (TX6 a).2.1 ≠ (TX6 b).2.1 := by decide +kernel
theorem tyX6_ok : ∀ k, k < 4 → parseFieldDescriptor (TX6 k).2.2.1 = some (tyX6 k) := by decide +kernel
abbrev cX6_init : ByteArray := prog_8_method_1_code
def yX6_init : MethodName := ⟨RX6, "<init>", "()V"⟩
abbrev cX6_read : ByteArray := prog_8_method_2_code
def yX6_read : MethodName := ⟨RX6, "read", "(LFilingOrder$Title;LFilingOrder$Marks;)V"⟩
abbrev cX6_put : ByteArray := prog_8_method_3_code
def yX6_put : MethodName := ⟨RX6, "put", "(I)V"⟩
abbrev cX6_endWord : ByteArray := prog_8_method_4_code
def yX6_endWord : MethodName := ⟨RX6, "endWord", "()V"⟩
abbrev cX6_start : ByteArray := prog_8_method_5_code
def yX6_start : MethodName := ⟨RX6, "start", "(I)I"⟩
abbrev cX6_end : ByteArray := prog_8_method_6_code
def yX6_end : MethodName := ⟨RX6, "end", "(I)I"⟩
abbrev cX6_signAt : ByteArray := prog_8_method_7_code
def yX6_signAt : MethodName := ⟨RX6, "signAt", "(I)I"⟩
abbrev cX6_reads : ByteArray := prog_8_method_8_code
def yX6_reads : MethodName := ⟨RX6, "reads", "(ILjava/lang/String;)Z"⟩
abbrev cX6_isDigits : ByteArray := prog_8_method_9_code
def yX6_isDigits : MethodName := ⟨RX6, "isDigits", "(I)Z"⟩
def RX7 : String := "FilingOrder"
def TX7 : u_T := fun k => match k with
  | 0 => ("FilingOrder", "collected", "LFilingOrder$Title;", true)
  | 1 => ("FilingOrder", "marks", "LFilingOrder$Marks;", true)
  | 2 => ("FilingOrder", "words", "LFilingOrder$Words;", true)
  | 3 => ("FilingOrder", "romanReader", "LFilingOrder$RomanReader;", true)
  | 4 => ("FilingOrder", "latest", "LFilingOrder$KeyRow;", true)
  | 5 => ("FilingOrder", "numbers", "LFilingOrder$Numbers;", true)
  | 6 => ("FilingOrder", "records", "Ljava/util/ArrayList;", true)
  | 7 => ("FilingOrder", "filed", "Ljava/util/ArrayList;", true)
  | 8 => ("FilingOrder", "languageNow", "I", false)
  | _ => ("FilingOrder", "romanOn", "Z", false)
def tyX7 : Nat → FieldType := fun k => match k with
  | 0 => .object "FilingOrder$Title"
  | 1 => .object "FilingOrder$Marks"
  | 2 => .object "FilingOrder$Words"
  | 3 => .object "FilingOrder$RomanReader"
  | 4 => .object "FilingOrder$KeyRow"
  | 5 => .object "FilingOrder$Numbers"
  | 6 => .object "java/util/ArrayList"
  | 7 => .object "java/util/ArrayList"
  | 8 => .int
  | _ => .boolean
abbrev wsX70 : List Cond := u_ws RX7 TX7 10
theorem nmX7 : ∀ a, a < 10 → ∀ b, b < 10 → a ≠ b → (TX7 a).2.1 ≠ (TX7 b).2.1 := by decide +kernel
theorem tyX7_ok : ∀ k, k < 10 → parseFieldDescriptor (TX7 k).2.2.1 = some (tyX7 k) := by decide +kernel
abbrev cX7_init : ByteArray := prog_1_method_1_code
def yX7_init : MethodName := ⟨RX7, "<init>", "()V"⟩
abbrev cX7_title : ByteArray := prog_1_method_2_code
def yX7_title : MethodName := ⟨RX7, "title", "(I)V"⟩
abbrev cX7_language : ByteArray := prog_1_method_3_code
def yX7_language : MethodName := ⟨RX7, "language", "(I)I"⟩
abbrev cX7_roman : ByteArray := prog_1_method_4_code
def yX7_roman : MethodName := ⟨RX7, "roman", "(Z)Z"⟩
abbrev cX7_mark : ByteArray := prog_1_method_5_code
def yX7_mark : MethodName := ⟨RX7, "mark", "(II)I"⟩
abbrev cX7_skip : ByteArray := prog_1_method_6_code
def yX7_skip : MethodName := ⟨RX7, "skip", "(I)Z"⟩
abbrev cX7_key : ByteArray := prog_1_method_7_code
def yX7_key : MethodName := ⟨RX7, "key", "()I"⟩
abbrev cX7_at : ByteArray := prog_1_method_8_code
def yX7_at : MethodName := ⟨RX7, "at", "(I)I"⟩
abbrev cX7_number : ByteArray := prog_1_method_9_code
def yX7_number : MethodName := ⟨RX7, "number", "(II)I"⟩
abbrev cX7_add : ByteArray := prog_1_method_10_code
def yX7_add : MethodName := ⟨RX7, "add", "(I)I"⟩
abbrev cX7_file : ByteArray := prog_1_method_11_code
def yX7_file : MethodName := ⟨RX7, "file", "()I"⟩
abbrev cX7_browse : ByteArray := prog_1_method_12_code
def yX7_browse : MethodName := ⟨RX7, "browse", "(II)I"⟩
abbrev cX7_seek : ByteArray := prog_1_method_13_code
def yX7_seek : MethodName := ⟨RX7, "seek", "()I"⟩
abbrev cX7_compare : ByteArray := prog_1_method_14_code
def yX7_compare : MethodName := ⟨RX7, "compare", "(II)I"⟩
abbrev cX7_equal : ByteArray := prog_1_method_15_code
def yX7_equal : MethodName := ⟨RX7, "equal", "(II)I"⟩
abbrev cX7_isLetter : ByteArray := prog_1_method_16_code
def yX7_isLetter : MethodName := ⟨RX7, "isLetter", "(I)Z"⟩
abbrev cX7_isDigit : ByteArray := prog_1_method_17_code
def yX7_isDigit : MethodName := ⟨RX7, "isDigit", "(I)Z"⟩
abbrev cX7_isMark : ByteArray := prog_1_method_18_code
def yX7_isMark : MethodName := ⟨RX7, "isMark", "(I)Z"⟩
abbrev cX7_small : ByteArray := prog_1_method_19_code
def yX7_small : MethodName := ⟨RX7, "small", "(I)I"⟩
abbrev cX7_isArticle : ByteArray := prog_1_method_20_code
def yX7_isArticle : MethodName := ⟨RX7, "isArticle", "(I)Z"⟩
abbrev cX7_putIntoKey : ByteArray := prog_1_method_21_code
def yX7_putIntoKey : MethodName := ⟨RX7, "putIntoKey", "(I)V"⟩
abbrev cX7_putDigits : ByteArray := prog_1_method_22_code
def yX7_putDigits : MethodName := ⟨RX7, "putDigits", "(I)V"⟩
abbrev cX7_putRoman : ByteArray := prog_1_method_23_code
def yX7_putRoman : MethodName := ⟨RX7, "putRoman", "(I)V"⟩
abbrev cX7_putWord : ByteArray := prog_1_method_24_code
def yX7_putWord : MethodName := ⟨RX7, "putWord", "(I)V"⟩
abbrev cX7_isRecord : ByteArray := prog_1_method_25_code
def yX7_isRecord : MethodName := ⟨RX7, "isRecord", "(I)Z"⟩
abbrev cX7_placeFor : ByteArray := prog_1_method_26_code
def yX7_placeFor : MethodName := ⟨RX7, "placeFor", "(LFilingOrder$Entry;)I"⟩
abbrev cX7_placeOf : ByteArray := prog_1_method_27_code
def yX7_placeOf : MethodName := ⟨RX7, "placeOf", "(I)I"⟩
def RX8 : String := "FilingOrderModel"
def TX8 : u_T := fun k => match k with
  | 0 => ("FilingOrderModel", "thrown", "I", false)
  | 1 => ("FilingOrderModel", "said", "[B", true)
  | 2 => ("FilingOrderModel", "size", "I", false)
  | 3 => ("FilingOrderModel", "left", "I", false)
  | 4 => ("FilingOrderModel", "language", "I", false)
  | 5 => ("FilingOrderModel", "roman", "Z", false)
  | 6 => ("FilingOrderModel", "spaces", "[Z", true)
  | 7 => ("FilingOrderModel", "letters", "[B", true)
  | 8 => ("FilingOrderModel", "begins", "[I", true)
  | 9 => ("FilingOrderModel", "words", "I", false)
  | 10 => ("FilingOrderModel", "key", "[B", true)
  | 11 => ("FilingOrderModel", "keySize", "I", false)
  | 12 => ("FilingOrderModel", "numberSize", "[I", true)
  | 13 => ("FilingOrderModel", "numberRoman", "[I", true)
  | 14 => ("FilingOrderModel", "numberLast", "[I", true)
  | 15 => ("FilingOrderModel", "numbers", "I", false)
  | 16 => ("FilingOrderModel", "records", "I", false)
  | 17 => ("FilingOrderModel", "keys", "[B", true)
  | 18 => ("FilingOrderModel", "sizes", "[I", true)
  | 19 => ("FilingOrderModel", "ranks", "[I", true)
  | 20 => ("FilingOrderModel", "list", "[I", true)
  | 21 => ("FilingOrderModel", "filed", "I", false)
  | _ => ("FilingOrderModel", "found", "I", false)
def tyX8 : Nat → FieldType := fun k => match k with
  | 0 => .int
  | 1 => .array .byte
  | 2 => .int
  | 3 => .int
  | 4 => .int
  | 5 => .boolean
  | 6 => .array .boolean
  | 7 => .array .byte
  | 8 => .array .int
  | 9 => .int
  | 10 => .array .byte
  | 11 => .int
  | 12 => .array .int
  | 13 => .array .int
  | 14 => .array .int
  | 15 => .int
  | 16 => .int
  | 17 => .array .byte
  | 18 => .array .int
  | 19 => .array .int
  | 20 => .array .int
  | 21 => .int
  | _ => .int
abbrev wsX80 : List Cond := u_ws RX8 TX8 23
theorem nmX8 : ∀ a, a < 23 → ∀ b, b < 23 → a ≠ b → (TX8 a).2.1 ≠ (TX8 b).2.1 := by decide +kernel
theorem tyX8_ok : ∀ k, k < 23 → parseFieldDescriptor (TX8 k).2.2.1 = some (tyX8 k) := by decide +kernel
abbrev cX8_init : ByteArray := prog_10_method_1_code
def yX8_init : MethodName := ⟨RX8, "<init>", "()V"⟩
abbrev cX8_thrown : ByteArray := prog_10_method_2_code
def yX8_thrown : MethodName := ⟨RX8, "thrown", "()I"⟩
abbrev cX8_title : ByteArray := prog_10_method_3_code
def yX8_title : MethodName := ⟨RX8, "title", "(I)V"⟩
abbrev cX8_language : ByteArray := prog_10_method_4_code
def yX8_language : MethodName := ⟨RX8, "language", "(I)I"⟩
abbrev cX8_roman : ByteArray := prog_10_method_5_code
def yX8_roman : MethodName := ⟨RX8, "roman", "(Z)Z"⟩
abbrev cX8_small : ByteArray := prog_10_method_6_code
def yX8_small : MethodName := ⟨RX8, "small", "(I)I"⟩
abbrev cX8_isDigit : ByteArray := prog_10_method_7_code
def yX8_isDigit : MethodName := ⟨RX8, "isDigit", "(I)Z"⟩
abbrev cX8_isWord : ByteArray := prog_10_method_8_code
def yX8_isWord : MethodName := ⟨RX8, "isWord", "(I)Z"⟩
abbrev cX8_mark : ByteArray := prog_10_method_9_code
def yX8_mark : MethodName := ⟨RX8, "mark", "(II)I"⟩
abbrev cX8_skip : ByteArray := prog_10_method_10_code
def yX8_skip : MethodName := ⟨RX8, "skip", "(I)Z"⟩
abbrev cX8_split : ByteArray := prog_10_method_11_code
def yX8_split : MethodName := ⟨RX8, "split", "()V"⟩
abbrev cX8_is : ByteArray := prog_10_method_12_code
def yX8_is : MethodName := ⟨RX8, "is", "(IIII)Z"⟩
abbrev cX8_isArticle : ByteArray := prog_10_method_13_code
def yX8_isArticle : MethodName := ⟨RX8, "isArticle", "()Z"⟩
abbrev cX8_put : ByteArray := prog_10_method_14_code
def yX8_put : MethodName := ⟨RX8, "put", "(I)V"⟩
abbrev cX8_isNumber : ByteArray := prog_10_method_15_code
def yX8_isNumber : MethodName := ⟨RX8, "isNumber", "(I)Z"⟩
abbrev cX8_putDigits : ByteArray := prog_10_method_16_code
def yX8_putDigits : MethodName := ⟨RX8, "putDigits", "(I)V"⟩
abbrev cX8_note : ByteArray := prog_10_method_17_code
def yX8_note : MethodName := ⟨RX8, "note", "(III)V"⟩
abbrev cX8_signAt : ByteArray := prog_10_method_18_code
def yX8_signAt : MethodName := ⟨RX8, "signAt", "(II)I"⟩
abbrev cX8_count : ByteArray := prog_10_method_19_code
def yX8_count : MethodName := ⟨RX8, "count", "(III)I"⟩
abbrev cX8_form : ByteArray := prog_10_method_20_code
def yX8_form : MethodName := ⟨RX8, "form", "(IIIII)I"⟩
abbrev cX8_romanOf : ByteArray := prog_10_method_21_code
def yX8_romanOf : MethodName := ⟨RX8, "romanOf", "(I)I"⟩
abbrev cX8_putRoman : ByteArray := prog_10_method_22_code
def yX8_putRoman : MethodName := ⟨RX8, "putRoman", "(I)V"⟩
abbrev cX8_key : ByteArray := prog_10_method_23_code
def yX8_key : MethodName := ⟨RX8, "key", "()I"⟩
abbrev cX8_at : ByteArray := prog_10_method_24_code
def yX8_at : MethodName := ⟨RX8, "at", "(I)I"⟩
abbrev cX8_number : ByteArray := prog_10_method_25_code
def yX8_number : MethodName := ⟨RX8, "number", "(II)I"⟩
abbrev cX8_add : ByteArray := prog_10_method_26_code
def yX8_add : MethodName := ⟨RX8, "add", "(I)I"⟩
abbrev cX8_order : ByteArray := prog_10_method_27_code
def yX8_order : MethodName := ⟨RX8, "order", "(II)I"⟩
abbrev cX8_isBehind : ByteArray := prog_10_method_28_code
def yX8_isBehind : MethodName := ⟨RX8, "isBehind", "(II)Z"⟩
abbrev cX8_file : ByteArray := prog_10_method_29_code
def yX8_file : MethodName := ⟨RX8, "file", "()I"⟩
abbrev cX8_browse : ByteArray := prog_10_method_30_code
def yX8_browse : MethodName := ⟨RX8, "browse", "(II)I"⟩
abbrev cX8_seek : ByteArray := prog_10_method_31_code
def yX8_seek : MethodName := ⟨RX8, "seek", "()I"⟩
abbrev cX8_isRecord : ByteArray := prog_10_method_32_code
def yX8_isRecord : MethodName := ⟨RX8, "isRecord", "(I)Z"⟩
abbrev cX8_compare : ByteArray := prog_10_method_33_code
def yX8_compare : MethodName := ⟨RX8, "compare", "(II)I"⟩
abbrev cX8_equal : ByteArray := prog_10_method_34_code
def yX8_equal : MethodName := ⟨RX8, "equal", "(II)I"⟩
def RJx145de : String := "java/io/Serializable"
def TJx145de : u_T := fun k => match k with
  | _ => ("", "", "", false)
def tyJx145de : Nat → FieldType := fun k => match k with
  | _ => .int
abbrev wsJx145de0 : List Cond := u_ws RJx145de TJx145de 0
theorem nmJx145de : ∀ a, a < 0 → ∀ b, b < 0 → a ≠ b → (TJx145de a).2.1 ≠ (TJx145de b).2.1 := by decide +kernel
theorem tyJx145de_ok : ∀ k, k < 0 → parseFieldDescriptor (TJx145de k).2.2.1 = some (tyJx145de k) := by decide +kernel
def RJx00060 : String := "java/lang/ArrayIndexOutOfBoundsException"
def TJx00060 : u_T := fun k => match k with
  | 0 => ("java/lang/Throwable", "backtrace", "Ljava/lang/Object;", false)
  | 1 => ("java/lang/Throwable", "detailMessage", "Ljava/lang/String;", false)
  | 2 => ("java/lang/Throwable", "cause", "Ljava/lang/Throwable;", false)
  | 3 => ("java/lang/Throwable", "stackTrace", "[Ljava/lang/StackTraceElement;", false)
  | 4 => ("java/lang/Throwable", "depth", "I", false)
  | _ => ("java/lang/Throwable", "suppressedExceptions", "Ljava/util/List;", false)
def tyJx00060 : Nat → FieldType := fun k => match k with
  | 0 => .object "java/lang/Object"
  | 1 => .object "java/lang/String"
  | 2 => .object "java/lang/Throwable"
  | 3 => .array (.object "java/lang/StackTraceElement")
  | 4 => .int
  | _ => .object "java/util/List"
abbrev wsJx000600 : List Cond := u_ws RJx00060 TJx00060 6
theorem nmJx00060 : ∀ a, a < 6 → ∀ b, b < 6 → a ≠ b → (TJx00060 a).2.1 ≠ (TJx00060 b).2.1 := by decide +kernel
theorem tyJx00060_ok : ∀ k, k < 6 → parseFieldDescriptor (TJx00060 k).2.2.1 = some (tyJx00060 k) := by decide +kernel
abbrev cJx00060_init_a7421 : ByteArray := prog_12_method_2_code
def yJx00060_init_a7421 : MethodName := ⟨RJx00060, "<init>", "(Ljava/lang/String;)V"⟩
def RJx8e188 : String := "java/lang/Cloneable"
def TJx8e188 : u_T := fun k => match k with
  | _ => ("", "", "", false)
def tyJx8e188 : Nat → FieldType := fun k => match k with
  | _ => .int
abbrev wsJx8e1880 : List Cond := u_ws RJx8e188 TJx8e188 0
theorem nmJx8e188 : ∀ a, a < 0 → ∀ b, b < 0 → a ≠ b → (TJx8e188 a).2.1 ≠ (TJx8e188 b).2.1 := by decide +kernel
theorem tyJx8e188_ok : ∀ k, k < 0 → parseFieldDescriptor (TJx8e188 k).2.2.1 = some (tyJx8e188 k) := by decide +kernel
def RJxab1ab : String := "java/lang/Iterable"
def TJxab1ab : u_T := fun k => match k with
  | _ => ("", "", "", false)
def tyJxab1ab : Nat → FieldType := fun k => match k with
  | _ => .int
abbrev wsJxab1ab0 : List Cond := u_ws RJxab1ab TJxab1ab 0
theorem nmJxab1ab : ∀ a, a < 0 → ∀ b, b < 0 → a ≠ b → (TJxab1ab a).2.1 ≠ (TJxab1ab b).2.1 := by decide +kernel
theorem tyJxab1ab_ok : ∀ k, k < 0 → parseFieldDescriptor (TJxab1ab k).2.2.1 = some (tyJxab1ab k) := by decide +kernel
def RJ9 : String := "java/lang/Math"
def TJ9 : u_T := fun k => match k with
  | _ => ("", "", "", false)
def tyJ9 : Nat → FieldType := fun k => match k with
  | _ => .int
abbrev wsJ90 : List Cond := u_ws RJ9 TJ9 0
theorem nmJ9 : ∀ a, a < 0 → ∀ b, b < 0 → a ≠ b → (TJ9 a).2.1 ≠ (TJ9 b).2.1 := by decide +kernel
theorem tyJ9_ok : ∀ k, k < 0 → parseFieldDescriptor (TJ9 k).2.2.1 = some (tyJ9 k) := by decide +kernel
abbrev cJ9_max_7cf53 : ByteArray := prog_17_method_65_code
def yJ9_max_7cf53 : MethodName := ⟨RJ9, "max", "(II)I"⟩
abbrev cJ9_min_7cf53 : ByteArray := prog_17_method_69_code
def yJ9_min_7cf53 : MethodName := ⟨RJ9, "min", "(II)I"⟩
def RJ0 : String := "java/lang/String"
def TJ0 : u_T := fun k => match k with
  | 0 => ("java/lang/String", "value", "[B", true)
  | _ => ("java/lang/String", "coder", "B", true)
def tyJ0 : Nat → FieldType := fun k => match k with
  | 0 => .array .byte
  | _ => .byte
abbrev wsJ00 : List Cond := u_ws RJ0 TJ0 2
theorem nmJ0 : ∀ a, a < 2 → ∀ b, b < 2 → a ≠ b → (TJ0 a).2.1 ≠ (TJ0 b).2.1 := by decide +kernel
theorem tyJ0_ok : ∀ k, k < 2 → parseFieldDescriptor (TJ0 k).2.2.1 = some (tyJ0 k) := by decide +kernel
abbrev cJ0_length_8abf5 : ByteArray := prog_19_method_54_code
def yJ0_length_8abf5 : MethodName := ⟨RJ0, "length", "()I"⟩
abbrev cJ0_charAt_5068e : ByteArray := prog_19_method_56_code
def yJ0_charAt_5068e : MethodName := ⟨RJ0, "charAt", "(I)C"⟩
abbrev cJ0_coder_7d493 : ByteArray := prog_19_method_152_code
def yJ0_coder_7d493 : MethodName := ⟨RJ0, "coder", "()B"⟩
abbrev cJ0_isLatin1_aae02 : ByteArray := prog_19_method_154_code
def yJ0_isLatin1_aae02 : MethodName := ⟨RJ0, "isLatin1", "()Z"⟩
abbrev cJ0_checkIndex_df160 : ByteArray := prog_19_method_155_code
def yJ0_checkIndex_df160 : MethodName := ⟨RJ0, "checkIndex", "(II)V"⟩
def RJ1 : String := "java/lang/StringLatin1"
def TJ1 : u_T := fun k => match k with
  | _ => ("", "", "", false)
def tyJ1 : Nat → FieldType := fun k => match k with
  | _ => .int
abbrev wsJ10 : List Cond := u_ws RJ1 TJ1 0
theorem nmJ1 : ∀ a, a < 0 → ∀ b, b < 0 → a ≠ b → (TJ1 a).2.1 ≠ (TJ1 b).2.1 := by decide +kernel
theorem tyJ1_ok : ∀ k, k < 0 → parseFieldDescriptor (TJ1 k).2.2.1 = some (tyJ1 k) := by decide +kernel
abbrev cJ1_charAt_3b067 : ByteArray := prog_20_method_2_code
def yJ1_charAt_3b067 : MethodName := ⟨RJ1, "charAt", "([BI)C"⟩
def RJ2 : String := "java/lang/StringUTF16"
def TJ2 : u_T := fun k => match k with
  | _ => ("", "", "", false)
def tyJ2 : Nat → FieldType := fun k => match k with
  | _ => .int
abbrev wsJ20 : List Cond := u_ws RJ2 TJ2 0
theorem nmJ2 : ∀ a, a < 0 → ∀ b, b < 0 → a ≠ b → (TJ2 a).2.1 ≠ (TJ2 b).2.1 := by decide +kernel
theorem tyJ2_ok : ∀ k, k < 0 → parseFieldDescriptor (TJ2 k).2.2.1 = some (tyJ2 k) := by decide +kernel
abbrev cJ2_getChar_3b067 : ByteArray := prog_21_method_5_code
def yJ2_getChar_3b067 : MethodName := ⟨RJ2, "getChar", "([BI)C"⟩
abbrev cJ2_length_9d52b : ByteArray := prog_21_method_6_code
def yJ2_length_9d52b : MethodName := ⟨RJ2, "length", "([B)I"⟩
abbrev cJ2_charAt_3b067 : ByteArray := prog_21_method_83_code
def yJ2_charAt_3b067 : MethodName := ⟨RJ2, "charAt", "([BI)C"⟩
abbrev cJ2_checkIndex_2214a : ByteArray := prog_21_method_91_code
def yJ2_checkIndex_2214a : MethodName := ⟨RJ2, "checkIndex", "(I[B)V"⟩
def RJ10 : String := "java/lang/System"
def TJ10 : u_T := fun k => match k with
  | _ => ("", "", "", false)
def tyJ10 : Nat → FieldType := fun k => match k with
  | _ => .int
abbrev wsJ100 : List Cond := u_ws RJ10 TJ10 0
theorem nmJ10 : ∀ a, a < 0 → ∀ b, b < 0 → a ≠ b → (TJ10 a).2.1 ≠ (TJ10 b).2.1 := by decide +kernel
theorem tyJ10_ok : ∀ k, k < 0 → parseFieldDescriptor (TJ10 k).2.2.1 = some (tyJ10 k) := by decide +kernel
def RJxa1e45 : String := "java/util/AbstractCollection"
def TJxa1e45 : u_T := fun k => match k with
  | _ => ("", "", "", false)
def tyJxa1e45 : Nat → FieldType := fun k => match k with
  | _ => .int
abbrev wsJxa1e450 : List Cond := u_ws RJxa1e45 TJxa1e45 0
theorem nmJxa1e45 : ∀ a, a < 0 → ∀ b, b < 0 → a ≠ b → (TJxa1e45 a).2.1 ≠ (TJxa1e45 b).2.1 := by decide +kernel
theorem tyJxa1e45_ok : ∀ k, k < 0 → parseFieldDescriptor (TJxa1e45 k).2.2.1 = some (tyJxa1e45 k) := by decide +kernel
abbrev cJxa1e45_init_da8c8 : ByteArray := prog_24_method_1_code
def yJxa1e45_init_da8c8 : MethodName := ⟨RJxa1e45, "<init>", "()V"⟩
def RJxc12de : String := "java/util/AbstractList"
def TJxc12de : u_T := fun k => match k with
  | _ => ("", "", "", false)
def tyJxc12de : Nat → FieldType := fun k => match k with
  | _ => .int
abbrev wsJxc12de0 : List Cond := u_ws RJxc12de TJxc12de 0
theorem nmJxc12de : ∀ a, a < 0 → ∀ b, b < 0 → a ≠ b → (TJxc12de a).2.1 ≠ (TJxc12de b).2.1 := by decide +kernel
theorem tyJxc12de_ok : ∀ k, k < 0 → parseFieldDescriptor (TJxc12de k).2.2.1 = some (tyJxc12de k) := by decide +kernel
abbrev cJxc12de_init_da8c8 : ByteArray := prog_25_method_1_code
def yJxc12de_init_da8c8 : MethodName := ⟨RJxc12de, "<init>", "()V"⟩
def RJx4a65c : String := "java/util/ArrayList"
def TJx4a65c : u_T := fun k => match k with
  | 0 => ("java/util/AbstractList", "modCount", "I", false)
  | 1 => ("java/util/ArrayList", "elementData", "[Ljava/lang/Object;", false)
  | _ => ("java/util/ArrayList", "size", "I", false)
def tyJx4a65c : Nat → FieldType := fun k => match k with
  | 0 => .int
  | 1 => .array (.object "java/lang/Object")
  | _ => .int
abbrev wsJx4a65c0 : List Cond := u_ws RJx4a65c TJx4a65c 3
theorem nmJx4a65c : ∀ a, a < 3 → ∀ b, b < 3 → a ≠ b → (TJx4a65c a).2.1 ≠ (TJx4a65c b).2.1 := by decide +kernel
theorem tyJx4a65c_ok : ∀ k, k < 3 → parseFieldDescriptor (TJx4a65c k).2.2.1 = some (tyJx4a65c k) := by decide +kernel
abbrev cJx4a65c_init_da8c8 : ByteArray := prog_26_method_2_code
def yJx4a65c_init_da8c8 : MethodName := ⟨RJx4a65c, "<init>", "()V"⟩
abbrev cJx4a65c_grow_92f84 : ByteArray := prog_26_method_6_code
def yJx4a65c_grow_92f84 : MethodName := ⟨RJx4a65c, "grow", "(I)[Ljava/lang/Object;"⟩
abbrev cJx4a65c_grow_d5877 : ByteArray := prog_26_method_7_code
def yJx4a65c_grow_d5877 : MethodName := ⟨RJx4a65c, "grow", "()[Ljava/lang/Object;"⟩
abbrev cJx4a65c_size_8abf5 : ByteArray := prog_26_method_8_code
def yJx4a65c_size_8abf5 : MethodName := ⟨RJx4a65c, "size", "()I"⟩
abbrev cJx4a65c_elementData_915e3 : ByteArray := prog_26_method_18_code
def yJx4a65c_elementData_915e3 : MethodName := ⟨RJx4a65c, "elementData", "(I)Ljava/lang/Object;"⟩
abbrev cJx4a65c_get_915e3 : ByteArray := prog_26_method_20_code
def yJx4a65c_get_915e3 : MethodName := ⟨RJx4a65c, "get", "(I)Ljava/lang/Object;"⟩
abbrev cJx4a65c_add_72be8 : ByteArray := prog_26_method_24_code
def yJx4a65c_add_72be8 : MethodName := ⟨RJx4a65c, "add", "(Ljava/lang/Object;[Ljava/lang/Object;I)V"⟩
abbrev cJx4a65c_add_9ea2d : ByteArray := prog_26_method_25_code
def yJx4a65c_add_9ea2d : MethodName := ⟨RJx4a65c, "add", "(Ljava/lang/Object;)Z"⟩
abbrev cJx4a65c_add_7a177 : ByteArray := prog_26_method_26_code
def yJx4a65c_add_7a177 : MethodName := ⟨RJx4a65c, "add", "(ILjava/lang/Object;)V"⟩
abbrev cJx4a65c_rangeCheckForAdd_d00df : ByteArray := prog_26_method_45_code
def yJx4a65c_rangeCheckForAdd_d00df : MethodName := ⟨RJx4a65c, "rangeCheckForAdd", "(I)V"⟩
def RJ7 : String := "java/util/Arrays"
def TJ7 : u_T := fun k => match k with
  | _ => ("", "", "", false)
def tyJ7 : Nat → FieldType := fun k => match k with
  | _ => .int
abbrev wsJ70 : List Cond := u_ws RJ7 TJ7 0
theorem nmJ7 : ∀ a, a < 0 → ∀ b, b < 0 → a ≠ b → (TJ7 a).2.1 ≠ (TJ7 b).2.1 := by decide +kernel
theorem tyJ7_ok : ∀ k, k < 0 → parseFieldDescriptor (TJ7 k).2.2.1 = some (tyJ7 k) := by decide +kernel
abbrev cJ7_copyOf_1904c : ByteArray := prog_27_method_119_code
def yJ7_copyOf_1904c : MethodName := ⟨RJ7, "copyOf", "([Ljava/lang/Object;I)[Ljava/lang/Object;"⟩
abbrev cJ7_copyOf_6403c : ByteArray := prog_27_method_120_code
def yJ7_copyOf_6403c : MethodName := ⟨RJ7, "copyOf", "([Ljava/lang/Object;ILjava/lang/Class;)[Ljava/lang/Object;"⟩
abbrev cJ7_copyOf_9075b : ByteArray := prog_27_method_121_code
def yJ7_copyOf_9075b : MethodName := ⟨RJ7, "copyOf", "([BI)[B"⟩
def RJx5ef63 : String := "java/util/Collection"
def TJx5ef63 : u_T := fun k => match k with
  | _ => ("", "", "", false)
def tyJx5ef63 : Nat → FieldType := fun k => match k with
  | _ => .int
abbrev wsJx5ef630 : List Cond := u_ws RJx5ef63 TJx5ef63 0
theorem nmJx5ef63 : ∀ a, a < 0 → ∀ b, b < 0 → a ≠ b → (TJx5ef63 a).2.1 ≠ (TJx5ef63 b).2.1 := by decide +kernel
theorem tyJx5ef63_ok : ∀ k, k < 0 → parseFieldDescriptor (TJx5ef63 k).2.2.1 = some (tyJx5ef63 k) := by decide +kernel
def RJxbd725 : String := "java/util/List"
def TJxbd725 : u_T := fun k => match k with
  | _ => ("", "", "", false)
def tyJxbd725 : Nat → FieldType := fun k => match k with
  | _ => .int
abbrev wsJxbd7250 : List Cond := u_ws RJxbd725 TJxbd725 0
theorem nmJxbd725 : ∀ a, a < 0 → ∀ b, b < 0 → a ≠ b → (TJxbd725 a).2.1 ≠ (TJxbd725 b).2.1 := by decide +kernel
theorem tyJxbd725_ok : ∀ k, k < 0 → parseFieldDescriptor (TJxbd725 k).2.2.1 = some (tyJxbd725 k) := by decide +kernel
def RJ15 : String := "java/util/Objects"
def TJ15 : u_T := fun k => match k with
  | _ => ("", "", "", false)
def tyJ15 : Nat → FieldType := fun k => match k with
  | _ => .int
abbrev wsJ150 : List Cond := u_ws RJ15 TJ15 0
theorem nmJ15 : ∀ a, a < 0 → ∀ b, b < 0 → a ≠ b → (TJ15 a).2.1 ≠ (TJ15 b).2.1 := by decide +kernel
theorem tyJ15_ok : ∀ k, k < 0 → parseFieldDescriptor (TJ15 k).2.2.1 = some (tyJ15 k) := by decide +kernel
abbrev cJ15_checkIndex_7cf53 : ByteArray := prog_30_method_17_code
def yJ15_checkIndex_7cf53 : MethodName := ⟨RJ15, "checkIndex", "(II)I"⟩
def RJxf0a74 : String := "java/util/RandomAccess"
def TJxf0a74 : u_T := fun k => match k with
  | _ => ("", "", "", false)
def tyJxf0a74 : Nat → FieldType := fun k => match k with
  | _ => .int
abbrev wsJxf0a740 : List Cond := u_ws RJxf0a74 TJxf0a74 0
theorem nmJxf0a74 : ∀ a, a < 0 → ∀ b, b < 0 → a ≠ b → (TJxf0a74 a).2.1 ≠ (TJxf0a74 b).2.1 := by decide +kernel
theorem tyJxf0a74_ok : ∀ k, k < 0 → parseFieldDescriptor (TJxf0a74 k).2.2.1 = some (tyJxf0a74 k) := by decide +kernel
def RJxa66e6 : String := "java/util/SequencedCollection"
def TJxa66e6 : u_T := fun k => match k with
  | _ => ("", "", "", false)
def tyJxa66e6 : Nat → FieldType := fun k => match k with
  | _ => .int
abbrev wsJxa66e60 : List Cond := u_ws RJxa66e6 TJxa66e6 0
theorem nmJxa66e6 : ∀ a, a < 0 → ∀ b, b < 0 → a ≠ b → (TJxa66e6 a).2.1 ≠ (TJxa66e6 b).2.1 := by decide +kernel
theorem tyJxa66e6_ok : ∀ k, k < 0 → parseFieldDescriptor (TJxa66e6 k).2.2.1 = some (tyJxa66e6 k) := by decide +kernel
def RJ8 : String := "jdk/internal/util/ArraysSupport"
def TJ8 : u_T := fun k => match k with
  | _ => ("", "", "", false)
def tyJ8 : Nat → FieldType := fun k => match k with
  | _ => .int
abbrev wsJ80 : List Cond := u_ws RJ8 TJ8 0
theorem nmJ8 : ∀ a, a < 0 → ∀ b, b < 0 → a ≠ b → (TJ8 a).2.1 ≠ (TJ8 b).2.1 := by decide +kernel
theorem tyJ8_ok : ∀ k, k < 0 → parseFieldDescriptor (TJ8 k).2.2.1 = some (tyJ8 k) := by decide +kernel
abbrev cJ8_newLength_cabcc : ByteArray := prog_33_method_27_code
def yJ8_newLength_cabcc : MethodName := ⟨RJ8, "newLength", "(III)I"⟩
abbrev cJ8_hugeLength_7cf53 : ByteArray := prog_33_method_28_code
def yJ8_hugeLength_7cf53 : MethodName := ⟨RJ8, "hugeLength", "(II)I"⟩
def RJ3 : String := "jdk/internal/util/Preconditions"
def TJ3 : u_T := fun k => match k with
  | _ => ("", "", "", false)
def tyJ3 : Nat → FieldType := fun k => match k with
  | _ => .int
abbrev wsJ30 : List Cond := u_ws RJ3 TJ3 0
theorem nmJ3 : ∀ a, a < 0 → ∀ b, b < 0 → a ≠ b → (TJ3 a).2.1 ≠ (TJ3 b).2.1 := by decide +kernel
theorem tyJ3_ok : ∀ k, k < 0 → parseFieldDescriptor (TJ3 k).2.2.1 = some (tyJ3 k) := by decide +kernel
abbrev cJ3_checkIndex_8e157 : ByteArray := prog_34_method_11_code
def yJ3_checkIndex_8e157 : MethodName := ⟨RJ3, "checkIndex", "(IILjava/util/function/BiFunction;)I"⟩
def RL : String := "FilingOrderLaw"
abbrev cL_at : ByteArray := method_3_code
def yL_at : MethodName := ⟨RL, "at", "(LFilingOrder;I[J)I"⟩
abbrev cL_law : ByteArray := code
def yL_law : MethodName := ⟨RL, "law", "([I)Z"⟩
abbrev vwCl : List vw_C := [(RJ0, TJ0, 2), (RJx00060, TJx00060, 6), (RJx4a65c, TJx4a65c, 3), (RX0, TX0, 3), (RX1, TX1, 2), (RX2, TX2, 1), (RX3, TX3, 4), (RX4, TX4, 3), (RX5, TX5, 3), (RX6, TX6, 4), (RX7, TX7, 10), (RX8, TX8, 23)]

-- ===== PART A: goes FIRST, ahead of the names: the tables' words, and 'selects' of the private methods out of them =====
/-- a private method of a class that the tables say can be made, by its rows of tables_1 -/
def lw_okq (q : MethodName × Nat) : Prop := (q.1.cls ≠ "java/lang/invoke/MethodHandle" ∧ q.1.cls ≠ "java/lang/invoke/VarHandle") ∧ Cond.instantiable q.1.cls q.2 ∈ tables_1 ∧ Cond.privateMethod q.1 ∈ tables_1 ∧ Cond.instanceMethod q.1 ∈ tables_1
theorem lw_p0 : lw_okq (⟨"PhraseMoods$FrameReader", "skipBlanks", "(LPhraseMoods$Letters;)V"⟩, 2) := ⟨⟨by decide +kernel, by decide +kernel⟩, List.mem_of_getElem? (i := 184) (by decide +kernel), List.mem_of_getElem? (i := 415) (by decide +kernel), List.mem_of_getElem? (i := 416) (by decide +kernel)⟩
theorem lw_p1 : lw_okq (⟨"PhraseMoods$FrameReader", "readHole", "(LPhraseMoods$Book;LPhraseMoods$Letters;)Z"⟩, 2) := ⟨⟨by decide +kernel, by decide +kernel⟩, List.mem_of_getElem? (i := 184) (by decide +kernel), List.mem_of_getElem? (i := 420) (by decide +kernel), List.mem_of_getElem? (i := 421) (by decide +kernel)⟩
theorem lw_p2 : lw_okq (⟨"PhraseMoods$FrameReader", "readPlain", "(LPhraseMoods$Book;LPhraseMoods$Letters;)Z"⟩, 2) := ⟨⟨by decide +kernel, by decide +kernel⟩, List.mem_of_getElem? (i := 184) (by decide +kernel), List.mem_of_getElem? (i := 427) (by decide +kernel), List.mem_of_getElem? (i := 428) (by decide +kernel)⟩
theorem lw_p3 : lw_okq (⟨"PhraseMoods$FrameReader", "readGrouped", "(ILPhraseMoods$Letters;)Z"⟩, 2) := ⟨⟨by decide +kernel, by decide +kernel⟩, List.mem_of_getElem? (i := 184) (by decide +kernel), List.mem_of_getElem? (i := 444) (by decide +kernel), List.mem_of_getElem? (i := 445) (by decide +kernel)⟩
theorem lw_p4 : lw_okq (⟨"PhraseMoods", "trayAt", "(I)LPhraseMoods$Tray;"⟩, 11) := ⟨⟨by decide +kernel, by decide +kernel⟩, List.mem_of_getElem? (i := 24) (by decide +kernel), List.mem_of_getElem? (i := 555) (by decide +kernel), List.mem_of_getElem? (i := 556) (by decide +kernel)⟩
theorem lw_p5 : lw_okq (⟨"PhraseMoods", "sheetAt", "(I)LPhraseMoods$Sheet;"⟩, 11) := ⟨⟨by decide +kernel, by decide +kernel⟩, List.mem_of_getElem? (i := 24) (by decide +kernel), List.mem_of_getElem? (i := 602) (by decide +kernel), List.mem_of_getElem? (i := 603) (by decide +kernel)⟩
theorem lw_p6 : lw_okq (⟨"PhraseMoods", "sayDesk", "()Z"⟩, 11) := ⟨⟨by decide +kernel, by decide +kernel⟩, List.mem_of_getElem? (i := 24) (by decide +kernel), List.mem_of_getElem? (i := 610) (by decide +kernel), List.mem_of_getElem? (i := 611) (by decide +kernel)⟩
theorem lw_p7 : lw_okq (⟨"PhraseMoods$Speaker", "addSpelled", "()V"⟩, 4) := ⟨⟨by decide +kernel, by decide +kernel⟩, List.mem_of_getElem? (i := 200) (by decide +kernel), List.mem_of_getElem? (i := 636) (by decide +kernel), List.mem_of_getElem? (i := 637) (by decide +kernel)⟩
theorem lw_p8 : lw_okq (⟨"PhraseMoods", "firstOtherwise", "(LPhraseMoods$Sheet;)I"⟩, 11) := ⟨⟨by decide +kernel, by decide +kernel⟩, List.mem_of_getElem? (i := 24) (by decide +kernel), List.mem_of_getElem? (i := 642) (by decide +kernel), List.mem_of_getElem? (i := 643) (by decide +kernel)⟩
theorem lw_p9 : lw_okq (⟨"PhraseMoods", "moodsTold", "(LPhraseMoods$Sheet;)I"⟩, 11) := ⟨⟨by decide +kernel, by decide +kernel⟩, List.mem_of_getElem? (i := 24) (by decide +kernel), List.mem_of_getElem? (i := 660) (by decide +kernel), List.mem_of_getElem? (i := 661) (by decide +kernel)⟩
theorem lw_p10 : lw_okq (⟨"PhraseMoods", "numbersTold", "(LPhraseMoods$Sheet;)I"⟩, 11) := ⟨⟨by decide +kernel, by decide +kernel⟩, List.mem_of_getElem? (i := 24) (by decide +kernel), List.mem_of_getElem? (i := 664) (by decide +kernel), List.mem_of_getElem? (i := 665) (by decide +kernel)⟩
def lw_privs_1 : List (MethodName × Nat) := [(⟨"PhraseMoods$FrameReader", "skipBlanks", "(LPhraseMoods$Letters;)V"⟩, 2), (⟨"PhraseMoods$FrameReader", "readHole", "(LPhraseMoods$Book;LPhraseMoods$Letters;)Z"⟩, 2), (⟨"PhraseMoods$FrameReader", "readPlain", "(LPhraseMoods$Book;LPhraseMoods$Letters;)Z"⟩, 2), (⟨"PhraseMoods$FrameReader", "readGrouped", "(ILPhraseMoods$Letters;)Z"⟩, 2), (⟨"PhraseMoods", "trayAt", "(I)LPhraseMoods$Tray;"⟩, 11), (⟨"PhraseMoods", "sheetAt", "(I)LPhraseMoods$Sheet;"⟩, 11), (⟨"PhraseMoods", "sayDesk", "()Z"⟩, 11), (⟨"PhraseMoods$Speaker", "addSpelled", "()V"⟩, 4), (⟨"PhraseMoods", "firstOtherwise", "(LPhraseMoods$Sheet;)I"⟩, 11), (⟨"PhraseMoods", "moodsTold", "(LPhraseMoods$Sheet;)I"⟩, 11), (⟨"PhraseMoods", "numbersTold", "(LPhraseMoods$Sheet;)I"⟩, 11)]
theorem lw_r1 : ∀ q ∈ lw_privs_1, lw_okq q := List.forall_mem_cons.mpr ⟨lw_p0, List.forall_mem_cons.mpr ⟨lw_p1, List.forall_mem_cons.mpr ⟨lw_p2, List.forall_mem_cons.mpr ⟨lw_p3, List.forall_mem_cons.mpr ⟨lw_p4, List.forall_mem_cons.mpr ⟨lw_p5, List.forall_mem_cons.mpr ⟨lw_p6, List.forall_mem_cons.mpr ⟨lw_p7, List.forall_mem_cons.mpr ⟨lw_p8, List.forall_mem_cons.mpr ⟨lw_p9, List.forall_mem_cons.mpr ⟨lw_p10, fun _ h => absurd h List.not_mem_nil⟩⟩⟩⟩⟩⟩⟩⟩⟩⟩⟩
def lw_privs : List (MethodName × Nat) := lw_privs_1
def lw_tbl : List Cond := k2_sels lw_privs ++ tables_1
theorem lw_privs_ok : ∀ q ∈ lw_privs, lw_okq q := lw_r1

def RX0 : String := "PhraseMoods$Book"
def TX0 : u_T := fun k => match k with
  | 0 => ("PhraseMoods$Book", "words", "[LPhraseMoods$Word;", true)
  | 1 => ("PhraseMoods$Book", "wordCount", "I", false)
  | 2 => ("PhraseMoods$Book", "endings", "[LPhraseMoods$Letters;", true)
  | 3 => ("PhraseMoods$Book", "genderEnds", "[LPhraseMoods$Letters;", true)
  | 4 => ("PhraseMoods$Book", "frames", "[LPhraseMoods$Frame;", true)
  | 5 => ("PhraseMoods$Book", "frameCount", "I", false)
  | 6 => ("PhraseMoods$Book", "text", "LPhraseMoods$Letters;", true)
  | _ => ("PhraseMoods$Book", "desk", "LPhraseMoods$Filling;", true)
def tyX0 : Nat → FieldType := fun k => match k with
  | 0 => .array (.object "PhraseMoods$Word")
  | 1 => .int
  | 2 => .array (.object "PhraseMoods$Letters")
  | 3 => .array (.object "PhraseMoods$Letters")
  | 4 => .array (.object "PhraseMoods$Frame")
  | 5 => .int
  | 6 => .object "PhraseMoods$Letters"
  | _ => .object "PhraseMoods$Filling"
theorem nmX0 : ∀ a, a < 8 → ∀ b, b < 8 → a ≠ b → (TX0 a).2.1 ≠ (TX0 b).2.1 := by decide +kernel
theorem tyX0_ok : ∀ k, k < 8 → parseFieldDescriptor (TX0 k).2.2.1 = some (tyX0 k) := by decide +kernel
abbrev cX0_init : ByteArray := prog_2_method_1_code
def yX0_init : MethodName := ⟨RX0, "<init>", "()V"⟩
abbrev cX0_become : ByteArray := prog_2_method_2_code
def yX0_become : MethodName := ⟨RX0, "become", "(LPhraseMoods$Book;)V"⟩
abbrev cX0_wordAt : ByteArray := prog_2_method_3_code
def yX0_wordAt : MethodName := ⟨RX0, "wordAt", "(I)LPhraseMoods$Word;"⟩
abbrev cX0_frameAt : ByteArray := prog_2_method_4_code
def yX0_frameAt : MethodName := ⟨RX0, "frameAt", "(I)LPhraseMoods$Frame;"⟩
abbrev cX0_endingAt : ByteArray := prog_2_method_5_code
def yX0_endingAt : MethodName := ⟨RX0, "endingAt", "(III)LPhraseMoods$Letters;"⟩
abbrev cX0_addWord : ByteArray := prog_2_method_6_code
def yX0_addWord : MethodName := ⟨RX0, "addWord", "(LPhraseMoods$Letters;III)I"⟩
abbrev cX0_addFrame : ByteArray := prog_2_method_7_code
def yX0_addFrame : MethodName := ⟨RX0, "addFrame", "(LPhraseMoods$Frame;)I"⟩
abbrev cX0_wordFor : ByteArray := prog_2_method_9_code
def yX0_wordFor : MethodName := ⟨RX0, "wordFor", "(LPhraseMoods$Frame;II)I"⟩
abbrev cX0_spell : ByteArray := prog_2_method_10_code
def yX0_spell : MethodName := ⟨RX0, "spell", "(LPhraseMoods$Word;ILPhraseMoods$Letters;)V"⟩
def RX1 : String := "PhraseMoods$Drawer"
def TX1 : u_T := fun k => match k with
  | 0 => ("PhraseMoods$Drawer", "filling", "LPhraseMoods$Filling;", true)
  | _ => ("PhraseMoods$Drawer", "z", "I", false)
def tyX1 : Nat → FieldType := fun k => match k with
  | 0 => .object "PhraseMoods$Filling"
  | _ => .int
theorem nmX1 : ∀ a, a < 2 → ∀ b, b < 2 → a ≠ b → (TX1 a).2.1 ≠ (TX1 b).2.1 := by decide +kernel
theorem tyX1_ok : ∀ k, k < 2 → parseFieldDescriptor (TX1 k).2.2.1 = some (tyX1 k) := by decide +kernel
abbrev cX1_init : ByteArray := prog_3_method_1_code
def yX1_init : MethodName := ⟨RX1, "<init>", "()V"⟩
def RX2 : String := "PhraseMoods$Filling"
def TX2 : u_T := fun k => match k with
  | 0 => ("PhraseMoods$Filling", "frame", "I", false)
  | 1 => ("PhraseMoods$Filling", "mood", "I", false)
  | 2 => ("PhraseMoods$Filling", "numbers", "I", false)
  | _ => ("PhraseMoods$Filling", "words", "[I", true)
def tyX2 : Nat → FieldType := fun k => match k with
  | 0 => .int
  | 1 => .int
  | 2 => .int
  | _ => .array .int
theorem nmX2 : ∀ a, a < 4 → ∀ b, b < 4 → a ≠ b → (TX2 a).2.1 ≠ (TX2 b).2.1 := by decide +kernel
theorem tyX2_ok : ∀ k, k < 4 → parseFieldDescriptor (TX2 k).2.2.1 = some (tyX2 k) := by decide +kernel
abbrev cX2_init : ByteArray := prog_4_method_1_code
def yX2_init : MethodName := ⟨RX2, "<init>", "()V"⟩
abbrev cX2_begin : ByteArray := prog_4_method_2_code
def yX2_begin : MethodName := ⟨RX2, "begin", "(II)V"⟩
abbrev cX2_become : ByteArray := prog_4_method_3_code
def yX2_become : MethodName := ⟨RX2, "become", "(LPhraseMoods$Filling;)V"⟩
abbrev cX2_fill : ByteArray := prog_4_method_4_code
def yX2_fill : MethodName := ⟨RX2, "fill", "(II)V"⟩
abbrev cX2_wordIn : ByteArray := prog_4_method_5_code
def yX2_wordIn : MethodName := ⟨RX2, "wordIn", "(I)I"⟩
def RX3 : String := "PhraseMoods$Frame"
def TX3 : u_T := fun k => match k with
  | 0 => ("PhraseMoods$Frame", "size", "I", false)
  | 1 => ("PhraseMoods$Frame", "sorts", "[I", true)
  | 2 => ("PhraseMoods$Frame", "groups", "[I", true)
  | 3 => ("PhraseMoods$Frame", "cases", "[I", true)
  | 4 => ("PhraseMoods$Frame", "plains", "[I", true)
  | _ => ("PhraseMoods$Frame", "nouns", "[I", true)
def tyX3 : Nat → FieldType := fun k => match k with
  | 0 => .int
  | 1 => .array .int
  | 2 => .array .int
  | 3 => .array .int
  | 4 => .array .int
  | _ => .array .int
theorem nmX3 : ∀ a, a < 6 → ∀ b, b < 6 → a ≠ b → (TX3 a).2.1 ≠ (TX3 b).2.1 := by decide +kernel
theorem tyX3_ok : ∀ k, k < 6 → parseFieldDescriptor (TX3 k).2.2.1 = some (tyX3 k) := by decide +kernel
abbrev cX3_init : ByteArray := prog_5_method_1_code
def yX3_init : MethodName := ⟨RX3, "<init>", "()V"⟩
abbrev cX3_clear : ByteArray := prog_5_method_2_code
def yX3_clear : MethodName := ⟨RX3, "clear", "()V"⟩
abbrev cX3_add : ByteArray := prog_5_method_3_code
def yX3_add : MethodName := ⟨RX3, "add", "(IIII)V"⟩
abbrev cX3_become : ByteArray := prog_5_method_4_code
def yX3_become : MethodName := ⟨RX3, "become", "(LPhraseMoods$Frame;)V"⟩
abbrev cX3_has : ByteArray := prog_5_method_5_code
def yX3_has : MethodName := ⟨RX3, "has", "(I)Z"⟩
abbrev cX3_groupOf : ByteArray := prog_5_method_7_code
def yX3_groupOf : MethodName := ⟨RX3, "groupOf", "(I)I"⟩
abbrev cX3_caseOf : ByteArray := prog_5_method_8_code
def yX3_caseOf : MethodName := ⟨RX3, "caseOf", "(I)I"⟩
abbrev cX3_nounOf : ByteArray := prog_5_method_10_code
def yX3_nounOf : MethodName := ⟨RX3, "nounOf", "(I)I"⟩
abbrev cX3_isWhole : ByteArray := prog_5_method_11_code
def yX3_isWhole : MethodName := ⟨RX3, "isWhole", "()Z"⟩
abbrev cX3_takes : ByteArray := prog_5_method_12_code
def yX3_takes : MethodName := ⟨RX3, "takes", "(ILPhraseMoods$Word;)Z"⟩
def RX4 : String := "PhraseMoods$FrameReader"
def TX4 : u_T := fun k => match k with
  | 0 => ("PhraseMoods$FrameReader", "frame", "LPhraseMoods$Frame;", true)
  | _ => ("PhraseMoods$FrameReader", "place", "I", false)
def tyX4 : Nat → FieldType := fun k => match k with
  | 0 => .object "PhraseMoods$Frame"
  | _ => .int
theorem nmX4 : ∀ a, a < 2 → ∀ b, b < 2 → a ≠ b → (TX4 a).2.1 ≠ (TX4 b).2.1 := by decide +kernel
theorem tyX4_ok : ∀ k, k < 2 → parseFieldDescriptor (TX4 k).2.2.1 = some (tyX4 k) := by decide +kernel
abbrev cX4_init : ByteArray := prog_6_method_1_code
def yX4_init : MethodName := ⟨RX4, "<init>", "()V"⟩
abbrev cX4_read : ByteArray := prog_6_method_2_code
def yX4_read : MethodName := ⟨RX4, "read", "(LPhraseMoods$Book;LPhraseMoods$Letters;)I"⟩
abbrev cX4_skipBlanks : ByteArray := prog_6_method_3_code
def yX4_skipBlanks : MethodName := ⟨RX4, "skipBlanks", "(LPhraseMoods$Letters;)V"⟩
abbrev cX4_readHole : ByteArray := prog_6_method_4_code
def yX4_readHole : MethodName := ⟨RX4, "readHole", "(LPhraseMoods$Book;LPhraseMoods$Letters;)Z"⟩
abbrev cX4_readGrouped : ByteArray := prog_6_method_5_code
def yX4_readGrouped : MethodName := ⟨RX4, "readGrouped", "(ILPhraseMoods$Letters;)Z"⟩
abbrev cX4_readPlain : ByteArray := prog_6_method_6_code
def yX4_readPlain : MethodName := ⟨RX4, "readPlain", "(LPhraseMoods$Book;LPhraseMoods$Letters;)Z"⟩
abbrev cX4_sortBy : ByteArray := prog_6_method_7_code
def yX4_sortBy : MethodName := ⟨RX4, "sortBy", "(I)I"⟩
abbrev cX4_digit : ByteArray := prog_6_method_8_code
def yX4_digit : MethodName := ⟨RX4, "digit", "(LPhraseMoods$Letters;II)I"⟩
def RX5 : String := "PhraseMoods$Letters"
def TX5 : u_T := fun k => match k with
  | 0 => ("PhraseMoods$Letters", "bytes", "[B", true)
  | _ => ("PhraseMoods$Letters", "size", "I", false)
def tyX5 : Nat → FieldType := fun k => match k with
  | 0 => .array .byte
  | _ => .int
theorem nmX5 : ∀ a, a < 2 → ∀ b, b < 2 → a ≠ b → (TX5 a).2.1 ≠ (TX5 b).2.1 := by decide +kernel
theorem tyX5_ok : ∀ k, k < 2 → parseFieldDescriptor (TX5 k).2.2.1 = some (tyX5 k) := by decide +kernel
abbrev cX5_init : ByteArray := prog_7_method_1_code
def yX5_init : MethodName := ⟨RX5, "<init>", "(I)V"⟩
abbrev cX5_isLetter : ByteArray := prog_7_method_2_code
def yX5_isLetter : MethodName := ⟨RX5, "isLetter", "(I)Z"⟩
abbrev cX5_isVowel : ByteArray := prog_7_method_3_code
def yX5_isVowel : MethodName := ⟨RX5, "isVowel", "(I)Z"⟩
abbrev cX5_at : ByteArray := prog_7_method_4_code
def yX5_at : MethodName := ⟨RX5, "at", "(I)I"⟩
abbrev cX5_clear : ByteArray := prog_7_method_5_code
def yX5_clear : MethodName := ⟨RX5, "clear", "()V"⟩
abbrev cX5_add : ByteArray := prog_7_method_6_code
def yX5_add : MethodName := ⟨RX5, "add", "(I)V"⟩
abbrev cX5_become : ByteArray := prog_7_method_7_code
def yX5_become : MethodName := ⟨RX5, "become", "(LPhraseMoods$Letters;)V"⟩
abbrev cX5_join : ByteArray := prog_7_method_8_code
def yX5_join : MethodName := ⟨RX5, "join", "(LPhraseMoods$Letters;)V"⟩
abbrev cX5_isAllLetters : ByteArray := prog_7_method_9_code
def yX5_isAllLetters : MethodName := ⟨RX5, "isAllLetters", "()Z"⟩
abbrev cX5_isAllWords : ByteArray := prog_7_method_10_code
def yX5_isAllWords : MethodName := ⟨RX5, "isAllWords", "()Z"⟩
abbrev cX5_words : ByteArray := prog_7_method_11_code
def yX5_words : MethodName := ⟨RX5, "words", "()I"⟩
def RX6 : String := "PhraseMoods$Reader"
def TX6 : u_T := fun k => match k with
  | 0 => ("PhraseMoods$Reader", "spelled", "LPhraseMoods$Letters;", true)
  | 1 => ("PhraseMoods$Reader", "starts", "[I", true)
  | 2 => ("PhraseMoods$Reader", "lengths", "[I", true)
  | 3 => ("PhraseMoods$Reader", "words", "I", false)
  | 4 => ("PhraseMoods$Reader", "row", "[I", true)
  | 5 => ("PhraseMoods$Reader", "readings", "I", false)
  | 6 => ("PhraseMoods$Reader", "firstFrame", "I", false)
  | 7 => ("PhraseMoods$Reader", "firstMood", "I", false)
  | 8 => ("PhraseMoods$Reader", "least", "I", false)
  | _ => ("PhraseMoods$Reader", "leastFrame", "I", false)
def tyX6 : Nat → FieldType := fun k => match k with
  | 0 => .object "PhraseMoods$Letters"
  | 1 => .array .int
  | 2 => .array .int
  | 3 => .int
  | 4 => .array .int
  | 5 => .int
  | 6 => .int
  | 7 => .int
  | 8 => .int
  | _ => .int
theorem nmX6 : ∀ a, a < 10 → ∀ b, b < 10 → a ≠ b → (TX6 a).2.1 ≠ (TX6 b).2.1 := by decide +kernel
theorem tyX6_ok : ∀ k, k < 10 → parseFieldDescriptor (TX6 k).2.2.1 = some (tyX6 k) := by decide +kernel
abbrev cX6_init : ByteArray := prog_8_method_1_code
def yX6_init : MethodName := ⟨RX6, "<init>", "()V"⟩
def RX7 : String := "PhraseMoods$Sheet"
def TX7 : u_T := fun k => match k with
  | 0 => ("PhraseMoods$Sheet", "sort", "I", false)
  | 1 => ("PhraseMoods$Sheet", "size", "I", false)
  | _ => ("PhraseMoods$Sheet", "items", "[I", true)
def tyX7 : Nat → FieldType := fun k => match k with
  | 0 => .int
  | 1 => .int
  | _ => .array .int
theorem nmX7 : ∀ a, a < 3 → ∀ b, b < 3 → a ≠ b → (TX7 a).2.1 ≠ (TX7 b).2.1 := by decide +kernel
theorem tyX7_ok : ∀ k, k < 3 → parseFieldDescriptor (TX7 k).2.2.1 = some (tyX7 k) := by decide +kernel
abbrev cX7_init : ByteArray := prog_9_method_1_code
def yX7_init : MethodName := ⟨RX7, "<init>", "()V"⟩
abbrev cX7_begin : ByteArray := prog_9_method_2_code
def yX7_begin : MethodName := ⟨RX7, "begin", "(II)V"⟩
abbrev cX7_isMissing : ByteArray := prog_9_method_3_code
def yX7_isMissing : MethodName := ⟨RX7, "isMissing", "()Z"⟩
abbrev cX7_hasRun : ByteArray := prog_9_method_4_code
def yX7_hasRun : MethodName := ⟨RX7, "hasRun", "(II)Z"⟩
abbrev cX7_at : ByteArray := prog_9_method_5_code
def yX7_at : MethodName := ⟨RX7, "at", "(I)I"⟩
abbrev cX7_set : ByteArray := prog_9_method_6_code
def yX7_set : MethodName := ⟨RX7, "set", "(II)V"⟩
abbrev cX7_take : ByteArray := prog_9_method_7_code
def yX7_take : MethodName := ⟨RX7, "take", "(ILPhraseMoods$Sheet;II)V"⟩
def RX8 : String := "PhraseMoods$Speaker"
def TX8 : u_T := fun k => match k with
  | 0 => ("PhraseMoods$Speaker", "spelled", "LPhraseMoods$Letters;", true)
  | 1 => ("PhraseMoods$Speaker", "line", "LPhraseMoods$Letters;", true)
  | 2 => ("PhraseMoods$Speaker", "lengths", "[I", true)
  | _ => ("PhraseMoods$Speaker", "words", "I", false)
def tyX8 : Nat → FieldType := fun k => match k with
  | 0 => .object "PhraseMoods$Letters"
  | 1 => .object "PhraseMoods$Letters"
  | 2 => .array .int
  | _ => .int
theorem nmX8 : ∀ a, a < 4 → ∀ b, b < 4 → a ≠ b → (TX8 a).2.1 ≠ (TX8 b).2.1 := by decide +kernel
theorem tyX8_ok : ∀ k, k < 4 → parseFieldDescriptor (TX8 k).2.2.1 = some (tyX8 k) := by decide +kernel
abbrev cX8_init : ByteArray := prog_10_method_1_code
def yX8_init : MethodName := ⟨RX8, "<init>", "()V"⟩
abbrev cX8_say : ByteArray := prog_10_method_2_code
def yX8_say : MethodName := ⟨RX8, "say", "(LPhraseMoods$Book;LPhraseMoods$Filling;II)Z"⟩
abbrev cX8_lengthOf : ByteArray := prog_10_method_3_code
def yX8_lengthOf : MethodName := ⟨RX8, "lengthOf", "(I)I"⟩
abbrev cX8_addSpelled : ByteArray := prog_10_method_5_code
def yX8_addSpelled : MethodName := ⟨RX8, "addSpelled", "()V"⟩
abbrev cX8_agreement : ByteArray := prog_10_method_6_code
def yX8_agreement : MethodName := ⟨RX8, "agreement", "(LPhraseMoods$Book;LPhraseMoods$Filling;II)I"⟩
def RX9 : String := "PhraseMoods$Tray"
def TX9 : u_T := fun k => match k with
  | 0 => ("PhraseMoods$Tray", "kind", "I", false)
  | 1 => ("PhraseMoods$Tray", "size", "I", false)
  | _ => ("PhraseMoods$Tray", "words", "[I", true)
def tyX9 : Nat → FieldType := fun k => match k with
  | 0 => .int
  | 1 => .int
  | _ => .array .int
theorem nmX9 : ∀ a, a < 3 → ∀ b, b < 3 → a ≠ b → (TX9 a).2.1 ≠ (TX9 b).2.1 := by decide +kernel
theorem tyX9_ok : ∀ k, k < 3 → parseFieldDescriptor (TX9 k).2.2.1 = some (tyX9 k) := by decide +kernel
abbrev cX9_init : ByteArray := prog_11_method_1_code
def yX9_init : MethodName := ⟨RX9, "<init>", "()V"⟩
abbrev cX9_begin : ByteArray := prog_11_method_2_code
def yX9_begin : MethodName := ⟨RX9, "begin", "(II)V"⟩
abbrev cX9_become : ByteArray := prog_11_method_3_code
def yX9_become : MethodName := ⟨RX9, "become", "(LPhraseMoods$Tray;)V"⟩
abbrev cX9_isMissing : ByteArray := prog_11_method_4_code
def yX9_isMissing : MethodName := ⟨RX9, "isMissing", "()Z"⟩
abbrev cX9_has : ByteArray := prog_11_method_5_code
def yX9_has : MethodName := ⟨RX9, "has", "(I)Z"⟩
abbrev cX9_wordAt : ByteArray := prog_11_method_6_code
def yX9_wordAt : MethodName := ⟨RX9, "wordAt", "(I)I"⟩
abbrev cX9_lay : ByteArray := prog_11_method_7_code
def yX9_lay : MethodName := ⟨RX9, "lay", "(II)V"⟩
def RX10 : String := "PhraseMoods$Word"
def TX10 : u_T := fun k => match k with
  | 0 => ("PhraseMoods$Word", "number", "I", true)
  | 1 => ("PhraseMoods$Word", "stem", "LPhraseMoods$Letters;", true)
  | 2 => ("PhraseMoods$Word", "kind", "I", false)
  | 3 => ("PhraseMoods$Word", "table", "I", false)
  | _ => ("PhraseMoods$Word", "gender", "I", false)
def tyX10 : Nat → FieldType := fun k => match k with
  | 0 => .int
  | 1 => .object "PhraseMoods$Letters"
  | 2 => .int
  | 3 => .int
  | _ => .int
theorem nmX10 : ∀ a, a < 5 → ∀ b, b < 5 → a ≠ b → (TX10 a).2.1 ≠ (TX10 b).2.1 := by decide +kernel
theorem tyX10_ok : ∀ k, k < 5 → parseFieldDescriptor (TX10 k).2.2.1 = some (tyX10 k) := by decide +kernel
abbrev cX10_init : ByteArray := prog_12_method_1_code
def yX10_init : MethodName := ⟨RX10, "<init>", "(I)V"⟩
abbrev cX10_become : ByteArray := prog_12_method_2_code
def yX10_become : MethodName := ⟨RX10, "become", "(LPhraseMoods$Word;)V"⟩
abbrev cX10_begin : ByteArray := prog_12_method_3_code
def yX10_begin : MethodName := ⟨RX10, "begin", "(LPhraseMoods$Letters;III)V"⟩
abbrev cX10_isOf : ByteArray := prog_12_method_4_code
def yX10_isOf : MethodName := ⟨RX10, "isOf", "(I)Z"⟩
def RX11 : String := "PhraseMoods"
def TX11 : u_T := fun k => match k with
  | 0 => ("PhraseMoods", "tape", "LPhraseMoods$Letters;", true)
  | 1 => ("PhraseMoods", "book", "LPhraseMoods$Book;", true)
  | 2 => ("PhraseMoods", "kept", "LPhraseMoods$Book;", true)
  | 3 => ("PhraseMoods", "isKept", "Z", false)
  | 4 => ("PhraseMoods", "frameReader", "LPhraseMoods$FrameReader;", true)
  | 5 => ("PhraseMoods", "spelled", "LPhraseMoods$Letters;", true)
  | 6 => ("PhraseMoods", "speaker", "LPhraseMoods$Speaker;", true)
  | 7 => ("PhraseMoods", "drawer", "LPhraseMoods$Drawer;", true)
  | 8 => ("PhraseMoods", "reader", "LPhraseMoods$Reader;", true)
  | 9 => ("PhraseMoods", "sheets", "[LPhraseMoods$Sheet;", true)
  | _ => ("PhraseMoods", "trays", "[LPhraseMoods$Tray;", true)
def tyX11 : Nat → FieldType := fun k => match k with
  | 0 => .object "PhraseMoods$Letters"
  | 1 => .object "PhraseMoods$Book"
  | 2 => .object "PhraseMoods$Book"
  | 3 => .boolean
  | 4 => .object "PhraseMoods$FrameReader"
  | 5 => .object "PhraseMoods$Letters"
  | 6 => .object "PhraseMoods$Speaker"
  | 7 => .object "PhraseMoods$Drawer"
  | 8 => .object "PhraseMoods$Reader"
  | 9 => .array (.object "PhraseMoods$Sheet")
  | _ => .array (.object "PhraseMoods$Tray")
theorem nmX11 : ∀ a, a < 11 → ∀ b, b < 11 → a ≠ b → (TX11 a).2.1 ≠ (TX11 b).2.1 := by decide +kernel
theorem tyX11_ok : ∀ k, k < 11 → parseFieldDescriptor (TX11 k).2.2.1 = some (tyX11 k) := by decide +kernel
abbrev cX11_init : ByteArray := prog_1_method_1_code
def yX11_init : MethodName := ⟨RX11, "<init>", "()V"⟩
abbrev cX11_feed : ByteArray := prog_1_method_2_code
def yX11_feed : MethodName := ⟨RX11, "feed", "(IIIIII)I"⟩
abbrev cX11_word : ByteArray := prog_1_method_3_code
def yX11_word : MethodName := ⟨RX11, "word", "(III)I"⟩
abbrev cX11_ending : ByteArray := prog_1_method_4_code
def yX11_ending : MethodName := ⟨RX11, "ending", "(III)I"⟩
abbrev cX11_frame : ByteArray := prog_1_method_5_code
def yX11_frame : MethodName := ⟨RX11, "frame", "()I"⟩
abbrev cX11_told : ByteArray := prog_1_method_6_code
def yX11_told : MethodName := ⟨RX11, "told", "(II)I"⟩
abbrev cX11_taken : ByteArray := prog_1_method_7_code
def yX11_taken : MethodName := ⟨RX11, "taken", "(II)I"⟩
abbrev cX11_form : ByteArray := prog_1_method_8_code
def yX11_form : MethodName := ⟨RX11, "form", "(III)I"⟩
abbrev cX11_desk : ByteArray := prog_1_method_10_code
def yX11_desk : MethodName := ⟨RX11, "desk", "(II)I"⟩
abbrev cX11_said : ByteArray := prog_1_method_13_code
def yX11_said : MethodName := ⟨RX11, "said", "(I)I"⟩
abbrev cX11_text : ByteArray := prog_1_method_15_code
def yX11_text : MethodName := ⟨RX11, "text", "()I"⟩
abbrev cX11_tray : ByteArray := prog_1_method_20_code
def yX11_tray : MethodName := ⟨RX11, "tray", "(III)I"⟩
abbrev cX11_lays : ByteArray := prog_1_method_21_code
def yX11_lays : MethodName := ⟨RX11, "lays", "(III)I"⟩
abbrev cX11_laid : ByteArray := prog_1_method_22_code
def yX11_laid : MethodName := ⟨RX11, "laid", "(II)I"⟩
abbrev cX11_like : ByteArray := prog_1_method_23_code
def yX11_like : MethodName := ⟨RX11, "like", "(II)I"⟩
abbrev cX11_tells : ByteArray := prog_1_method_24_code
def yX11_tells : MethodName := ⟨RX11, "tells", "(II)I"⟩
abbrev cX11_image : ByteArray := prog_1_method_25_code
def yX11_image : MethodName := ⟨RX11, "image", "()I"⟩
abbrev cX11_back : ByteArray := prog_1_method_26_code
def yX11_back : MethodName := ⟨RX11, "back", "()I"⟩
abbrev cX11_count : ByteArray := prog_1_method_27_code
def yX11_count : MethodName := ⟨RX11, "count", "(I)I"⟩
abbrev cX11_sheet : ByteArray := prog_1_method_28_code
def yX11_sheet : MethodName := ⟨RX11, "sheet", "(III)I"⟩
abbrev cX11_put : ByteArray := prog_1_method_29_code
def yX11_put : MethodName := ⟨RX11, "put", "(III)I"⟩
abbrev cX11_copy : ByteArray := prog_1_method_30_code
def yX11_copy : MethodName := ⟨RX11, "copy", "(IIIII)I"⟩
abbrev cX11_isBelow : ByteArray := prog_1_method_31_code
def yX11_isBelow : MethodName := ⟨RX11, "isBelow", "(II)Z"⟩
abbrev cX11_areBytes : ByteArray := prog_1_method_32_code
def yX11_areBytes : MethodName := ⟨RX11, "areBytes", "(IIIII)Z"⟩
abbrev cX11_sizeOrLetter : ByteArray := prog_1_method_33_code
def yX11_sizeOrLetter : MethodName := ⟨RX11, "sizeOrLetter", "(LPhraseMoods$Letters;I)I"⟩
abbrev cX11_sayDesk : ByteArray := prog_1_method_36_code
def yX11_sayDesk : MethodName := ⟨RX11, "sayDesk", "()Z"⟩
abbrev cX11_sheetAt : ByteArray := prog_1_method_38_code
def yX11_sheetAt : MethodName := ⟨RX11, "sheetAt", "(I)LPhraseMoods$Sheet;"⟩
abbrev cX11_trayAt : ByteArray := prog_1_method_39_code
def yX11_trayAt : MethodName := ⟨RX11, "trayAt", "(I)LPhraseMoods$Tray;"⟩
abbrev cX11_firstOtherwise : ByteArray := prog_1_method_40_code
def yX11_firstOtherwise : MethodName := ⟨RX11, "firstOtherwise", "(LPhraseMoods$Sheet;)I"⟩
abbrev cX11_moodsTold : ByteArray := prog_1_method_41_code
def yX11_moodsTold : MethodName := ⟨RX11, "moodsTold", "(LPhraseMoods$Sheet;)I"⟩
abbrev cX11_numbersTold : ByteArray := prog_1_method_42_code
def yX11_numbersTold : MethodName := ⟨RX11, "numbersTold", "(LPhraseMoods$Sheet;)I"⟩
def RX12 : String := "PhraseMoodsModel"
def TX12 : u_T := fun k => match k with
  | _ => ("", "", "", false)
def tyX12 : Nat → FieldType := fun k => match k with
  | _ => .int
theorem nmX12 : ∀ a, a < 0 → ∀ b, b < 0 → a ≠ b → (TX12 a).2.1 ≠ (TX12 b).2.1 := by decide +kernel
theorem tyX12_ok : ∀ k, k < 0 → parseFieldDescriptor (TX12 k).2.2.1 = some (tyX12 k) := by decide +kernel
def RJ5 : String := "java/lang/AbstractStringBuilder"
def TJ5 : u_T := fun k => match k with
  | _ => ("", "", "", false)
def tyJ5 : Nat → FieldType := fun k => match k with
  | _ => .int
theorem nmJ5 : ∀ a, a < 0 → ∀ b, b < 0 → a ≠ b → (TJ5 a).2.1 ≠ (TJ5 b).2.1 := by decide +kernel
theorem tyJ5_ok : ∀ k, k < 0 → parseFieldDescriptor (TJ5 k).2.2.1 = some (tyJ5 k) := by decide +kernel
abbrev cJ5_init_d00df : ByteArray := prog_15_method_2_code
def yJ5_init_d00df : MethodName := ⟨RJ5, "<init>", "(I)V"⟩
abbrev cJ5_length_8abf5 : ByteArray := prog_15_method_6_code
def yJ5_length_8abf5 : MethodName := ⟨RJ5, "length", "()I"⟩
abbrev cJ5_ensureCapacityInternal_d00df : ByteArray := prog_15_method_9_code
def yJ5_ensureCapacityInternal_d00df : MethodName := ⟨RJ5, "ensureCapacityInternal", "(I)V"⟩
abbrev cJ5_newCapacity_0f7a4 : ByteArray := prog_15_method_10_code
def yJ5_newCapacity_0f7a4 : MethodName := ⟨RJ5, "newCapacity", "(I)I"⟩
abbrev cJ5_inflate_da8c8 : ByteArray := prog_15_method_11_code
def yJ5_inflate_da8c8 : MethodName := ⟨RJ5, "inflate", "()V"⟩
abbrev cJ5_append_cf1ce : ByteArray := prog_15_method_22_code
def yJ5_append_cf1ce : MethodName := ⟨RJ5, "append", "(Ljava/lang/String;)Ljava/lang/AbstractStringBuilder;"⟩
abbrev cJ5_appendNull_278bc : ByteArray := prog_15_method_26_code
def yJ5_appendNull_278bc : MethodName := ⟨RJ5, "appendNull", "()Ljava/lang/AbstractStringBuilder;"⟩
abbrev cJ5_append_3fe6f : ByteArray := prog_15_method_31_code
def yJ5_append_3fe6f : MethodName := ⟨RJ5, "append", "(C)Ljava/lang/AbstractStringBuilder;"⟩
abbrev cJ5_getValue_6d5f1 : ByteArray := prog_15_method_64_code
def yJ5_getValue_6d5f1 : MethodName := ⟨RJ5, "getValue", "()[B"⟩
abbrev cJ5_isLatin1_aae02 : ByteArray := prog_15_method_68_code
def yJ5_isLatin1_aae02 : MethodName := ⟨RJ5, "isLatin1", "()Z"⟩
abbrev cJ5_inflateIfNeededFor_a7421 : ByteArray := prog_15_method_71_code
def yJ5_inflateIfNeededFor_a7421 : MethodName := ⟨RJ5, "inflateIfNeededFor", "(Ljava/lang/String;)V"⟩
abbrev cJ5_putStringAt_47b60 : ByteArray := prog_15_method_73_code
def yJ5_putStringAt_47b60 : MethodName := ⟨RJ5, "putStringAt", "(ILjava/lang/String;)V"⟩
def RJ9 : String := "java/lang/Math"
def TJ9 : u_T := fun k => match k with
  | _ => ("", "", "", false)
def tyJ9 : Nat → FieldType := fun k => match k with
  | _ => .int
theorem nmJ9 : ∀ a, a < 0 → ∀ b, b < 0 → a ≠ b → (TJ9 a).2.1 ≠ (TJ9 b).2.1 := by decide +kernel
theorem tyJ9_ok : ∀ k, k < 0 → parseFieldDescriptor (TJ9 k).2.2.1 = some (tyJ9 k) := by decide +kernel
abbrev cJ9_max_7cf53 : ByteArray := prog_17_method_65_code
def yJ9_max_7cf53 : MethodName := ⟨RJ9, "max", "(II)I"⟩
abbrev cJ9_min_7cf53 : ByteArray := prog_17_method_69_code
def yJ9_min_7cf53 : MethodName := ⟨RJ9, "min", "(II)I"⟩
def RJ0 : String := "java/lang/String"
def TJ0 : u_T := fun k => match k with
  | 0 => ("java/lang/String", "value", "[B", true)
  | 1 => ("java/lang/String", "coder", "B", true)
  | 2 => ("java/lang/String", "hash", "I", false)
  | _ => ("java/lang/String", "hashIsZero", "Z", false)
def tyJ0 : Nat → FieldType := fun k => match k with
  | 0 => .array .byte
  | 1 => .byte
  | 2 => .int
  | _ => .boolean
theorem nmJ0 : ∀ a, a < 4 → ∀ b, b < 4 → a ≠ b → (TJ0 a).2.1 ≠ (TJ0 b).2.1 := by decide +kernel
theorem tyJ0_ok : ∀ k, k < 4 → parseFieldDescriptor (TJ0 k).2.2.1 = some (tyJ0 k) := by decide +kernel
abbrev cJ0_init_81219 : ByteArray := prog_18_method_53_code
def yJ0_init_81219 : MethodName := ⟨RJ0, "<init>", "(Ljava/lang/StringBuilder;)V"⟩
abbrev cJ0_length_8abf5 : ByteArray := prog_18_method_54_code
def yJ0_length_8abf5 : MethodName := ⟨RJ0, "length", "()I"⟩
abbrev cJ0_charAt_5068e : ByteArray := prog_18_method_56_code
def yJ0_charAt_5068e : MethodName := ⟨RJ0, "charAt", "(I)C"⟩
abbrev cJ0_getBytes_840e7 : ByteArray := prog_18_method_147_code
def yJ0_getBytes_840e7 : MethodName := ⟨RJ0, "getBytes", "([BIB)V"⟩
abbrev cJ0_init_db425 : ByteArray := prog_18_method_150_code
def yJ0_init_db425 : MethodName := ⟨RJ0, "<init>", "(Ljava/lang/AbstractStringBuilder;Ljava/lang/Void;)V"⟩
abbrev cJ0_coder_7d493 : ByteArray := prog_18_method_152_code
def yJ0_coder_7d493 : MethodName := ⟨RJ0, "coder", "()B"⟩
abbrev cJ0_isLatin1_aae02 : ByteArray := prog_18_method_154_code
def yJ0_isLatin1_aae02 : MethodName := ⟨RJ0, "isLatin1", "()Z"⟩
abbrev cJ0_checkIndex_df160 : ByteArray := prog_18_method_155_code
def yJ0_checkIndex_df160 : MethodName := ⟨RJ0, "checkIndex", "(II)V"⟩
abbrev cJ0_checkBoundsOffCount_cabcc : ByteArray := prog_18_method_157_code
def yJ0_checkBoundsOffCount_cabcc : MethodName := ⟨RJ0, "checkBoundsOffCount", "(III)I"⟩
abbrev cJ0_checkBoundsBeginEnd_23922 : ByteArray := prog_18_method_158_code
def yJ0_checkBoundsBeginEnd_23922 : MethodName := ⟨RJ0, "checkBoundsBeginEnd", "(III)V"⟩
def RJ4 : String := "java/lang/StringBuilder"
def TJ4 : u_T := fun k => match k with
  | 0 => ("java/lang/AbstractStringBuilder", "value", "[B", false)
  | 1 => ("java/lang/AbstractStringBuilder", "coder", "B", false)
  | 2 => ("java/lang/AbstractStringBuilder", "maybeLatin1", "Z", false)
  | _ => ("java/lang/AbstractStringBuilder", "count", "I", false)
def tyJ4 : Nat → FieldType := fun k => match k with
  | 0 => .array .byte
  | 1 => .byte
  | 2 => .boolean
  | _ => .int
theorem nmJ4 : ∀ a, a < 4 → ∀ b, b < 4 → a ≠ b → (TJ4 a).2.1 ≠ (TJ4 b).2.1 := by decide +kernel
theorem tyJ4_ok : ∀ k, k < 4 → parseFieldDescriptor (TJ4 k).2.2.1 = some (tyJ4 k) := by decide +kernel
abbrev cJ4_init_da8c8 : ByteArray := prog_19_method_1_code
def yJ4_init_da8c8 : MethodName := ⟨RJ4, "<init>", "()V"⟩
abbrev cJ4_append_15ec4 : ByteArray := prog_19_method_7_code
def yJ4_append_15ec4 : MethodName := ⟨RJ4, "append", "(Ljava/lang/String;)Ljava/lang/StringBuilder;"⟩
abbrev cJ4_append_cf468 : ByteArray := prog_19_method_14_code
def yJ4_append_cf468 : MethodName := ⟨RJ4, "append", "(C)Ljava/lang/StringBuilder;"⟩
abbrev cJ4_toString_0e30d : ByteArray := prog_19_method_42_code
def yJ4_toString_0e30d : MethodName := ⟨RJ4, "toString", "()Ljava/lang/String;"⟩
abbrev cJ4_length_8abf5 : ByteArray := prog_19_method_93_code
def yJ4_length_8abf5 : MethodName := ⟨RJ4, "length", "()I"⟩
def RJ1 : String := "java/lang/StringLatin1"
def TJ1 : u_T := fun k => match k with
  | _ => ("", "", "", false)
def tyJ1 : Nat → FieldType := fun k => match k with
  | _ => .int
theorem nmJ1 : ∀ a, a < 0 → ∀ b, b < 0 → a ≠ b → (TJ1 a).2.1 ≠ (TJ1 b).2.1 := by decide +kernel
theorem tyJ1_ok : ∀ k, k < 0 → parseFieldDescriptor (TJ1 k).2.2.1 = some (tyJ1 k) := by decide +kernel
abbrev cJ1_charAt_3b067 : ByteArray := prog_20_method_2_code
def yJ1_charAt_3b067 : MethodName := ⟨RJ1, "charAt", "([BI)C"⟩
abbrev cJ1_canEncode_fc78d : ByteArray := prog_20_method_3_code
def yJ1_canEncode_fc78d : MethodName := ⟨RJ1, "canEncode", "(C)Z"⟩
abbrev cJ1_inflate_0e8fd : ByteArray := prog_20_method_50_code
def yJ1_inflate_0e8fd : MethodName := ⟨RJ1, "inflate", "([BI[BII)V"⟩
def RJ2 : String := "java/lang/StringUTF16"
def TJ2 : u_T := fun k => match k with
  | _ => ("", "", "", false)
def tyJ2 : Nat → FieldType := fun k => match k with
  | _ => .int
theorem nmJ2 : ∀ a, a < 0 → ∀ b, b < 0 → a ≠ b → (TJ2 a).2.1 ≠ (TJ2 b).2.1 := by decide +kernel
theorem tyJ2_ok : ∀ k, k < 0 → parseFieldDescriptor (TJ2 k).2.2.1 = some (tyJ2 k) := by decide +kernel
abbrev cJ2_newBytesFor_77867 : ByteArray := prog_21_method_2_code
def yJ2_newBytesFor_77867 : MethodName := ⟨RJ2, "newBytesFor", "(I)[B"⟩
abbrev cJ2_newBytesLength_0f7a4 : ByteArray := prog_21_method_3_code
def yJ2_newBytesLength_0f7a4 : MethodName := ⟨RJ2, "newBytesLength", "(I)I"⟩
abbrev cJ2_putChar_b72d1 : ByteArray := prog_21_method_4_code
def yJ2_putChar_b72d1 : MethodName := ⟨RJ2, "putChar", "([BII)V"⟩
abbrev cJ2_getChar_3b067 : ByteArray := prog_21_method_5_code
def yJ2_getChar_3b067 : MethodName := ⟨RJ2, "getChar", "([BI)C"⟩
abbrev cJ2_length_9d52b : ByteArray := prog_21_method_6_code
def yJ2_length_9d52b : MethodName := ⟨RJ2, "length", "([B)I"⟩
abbrev cJ2_coderFromArrayLen_85cad : ByteArray := prog_21_method_15_code
def yJ2_coderFromArrayLen_85cad : MethodName := ⟨RJ2, "coderFromArrayLen", "([BI)B"⟩
abbrev cJ2_compress_39247 : ByteArray := prog_21_method_17_code
def yJ2_compress_39247 : MethodName := ⟨RJ2, "compress", "([BII)[B"⟩
abbrev cJ2_compress_5af95 : ByteArray := prog_21_method_22_code
def yJ2_compress_5af95 : MethodName := ⟨RJ2, "compress", "([BI[BII)I"⟩
abbrev cJ2_putCharSB_b72d1 : ByteArray := prog_21_method_71_code
def yJ2_putCharSB_b72d1 : MethodName := ⟨RJ2, "putCharSB", "([BII)V"⟩
abbrev cJ2_putCharsAt_cd4e5 : ByteArray := prog_21_method_81_code
def yJ2_putCharsAt_cd4e5 : MethodName := ⟨RJ2, "putCharsAt", "([BICCCC)I"⟩
abbrev cJ2_charAt_3b067 : ByteArray := prog_21_method_83_code
def yJ2_charAt_3b067 : MethodName := ⟨RJ2, "charAt", "([BI)C"⟩
abbrev cJ2_inflate_0e8fd : ByteArray := prog_21_method_86_code
def yJ2_inflate_0e8fd : MethodName := ⟨RJ2, "inflate", "([BI[BII)V"⟩
abbrev cJ2_checkIndex_2214a : ByteArray := prog_21_method_91_code
def yJ2_checkIndex_2214a : MethodName := ⟨RJ2, "checkIndex", "(I[B)V"⟩
abbrev cJ2_checkBoundsBeginEnd_d044e : ByteArray := prog_21_method_93_code
def yJ2_checkBoundsBeginEnd_d044e : MethodName := ⟨RJ2, "checkBoundsBeginEnd", "(II[B)V"⟩
abbrev cJ2_checkBoundsOffCount_d044e : ByteArray := prog_21_method_94_code
def yJ2_checkBoundsOffCount_d044e : MethodName := ⟨RJ2, "checkBoundsOffCount", "(II[B)V"⟩
def RJ10 : String := "java/lang/System"
def TJ10 : u_T := fun k => match k with
  | _ => ("", "", "", false)
def tyJ10 : Nat → FieldType := fun k => match k with
  | _ => .int
theorem nmJ10 : ∀ a, a < 0 → ∀ b, b < 0 → a ≠ b → (TJ10 a).2.1 ≠ (TJ10 b).2.1 := by decide +kernel
theorem tyJ10_ok : ∀ k, k < 0 → parseFieldDescriptor (TJ10 k).2.2.1 = some (tyJ10 k) := by decide +kernel
def RJ7 : String := "java/util/Arrays"
def TJ7 : u_T := fun k => match k with
  | _ => ("", "", "", false)
def tyJ7 : Nat → FieldType := fun k => match k with
  | _ => .int
theorem nmJ7 : ∀ a, a < 0 → ∀ b, b < 0 → a ≠ b → (TJ7 a).2.1 ≠ (TJ7 b).2.1 := by decide +kernel
theorem tyJ7_ok : ∀ k, k < 0 → parseFieldDescriptor (TJ7 k).2.2.1 = some (tyJ7 k) := by decide +kernel
abbrev cJ7_fill_53178 : ByteArray := prog_23_method_103_code
def yJ7_fill_53178 : MethodName := ⟨RJ7, "fill", "([II)V"⟩
abbrev cJ7_copyOf_9075b : ByteArray := prog_23_method_121_code
def yJ7_copyOf_9075b : MethodName := ⟨RJ7, "copyOf", "([BI)[B"⟩
abbrev cJ7_checkLength_df160 : ByteArray := prog_23_method_131_code
def yJ7_checkLength_df160 : MethodName := ⟨RJ7, "checkLength", "(II)V"⟩
abbrev cJ7_copyOfRange_39247 : ByteArray := prog_23_method_132_code
def yJ7_copyOfRange_39247 : MethodName := ⟨RJ7, "copyOfRange", "([BII)[B"⟩
abbrev cJ7_copyOfRangeByte_39247 : ByteArray := prog_23_method_133_code
def yJ7_copyOfRangeByte_39247 : MethodName := ⟨RJ7, "copyOfRangeByte", "([BII)[B"⟩
def RJ8 : String := "jdk/internal/util/ArraysSupport"
def TJ8 : u_T := fun k => match k with
  | _ => ("", "", "", false)
def tyJ8 : Nat → FieldType := fun k => match k with
  | _ => .int
theorem nmJ8 : ∀ a, a < 0 → ∀ b, b < 0 → a ≠ b → (TJ8 a).2.1 ≠ (TJ8 b).2.1 := by decide +kernel
theorem tyJ8_ok : ∀ k, k < 0 → parseFieldDescriptor (TJ8 k).2.2.1 = some (tyJ8 k) := by decide +kernel
abbrev cJ8_newLength_cabcc : ByteArray := prog_24_method_27_code
def yJ8_newLength_cabcc : MethodName := ⟨RJ8, "newLength", "(III)I"⟩
abbrev cJ8_hugeLength_7cf53 : ByteArray := prog_24_method_28_code
def yJ8_hugeLength_7cf53 : MethodName := ⟨RJ8, "hugeLength", "(II)I"⟩
def RJ3 : String := "jdk/internal/util/Preconditions"
def TJ3 : u_T := fun k => match k with
  | _ => ("", "", "", false)
def tyJ3 : Nat → FieldType := fun k => match k with
  | _ => .int
theorem nmJ3 : ∀ a, a < 0 → ∀ b, b < 0 → a ≠ b → (TJ3 a).2.1 ≠ (TJ3 b).2.1 := by decide +kernel
theorem tyJ3_ok : ∀ k, k < 0 → parseFieldDescriptor (TJ3 k).2.2.1 = some (tyJ3 k) := by decide +kernel
abbrev cJ3_checkIndex_8e157 : ByteArray := prog_25_method_11_code
def yJ3_checkIndex_8e157 : MethodName := ⟨RJ3, "checkIndex", "(IILjava/util/function/BiFunction;)I"⟩
abbrev cJ3_checkFromToIndex_8c36e : ByteArray := prog_25_method_12_code
def yJ3_checkFromToIndex_8c36e : MethodName := ⟨RJ3, "checkFromToIndex", "(IIILjava/util/function/BiFunction;)I"⟩
abbrev cJ3_checkFromIndexSize_8c36e : ByteArray := prog_25_method_13_code
def yJ3_checkFromIndexSize_8c36e : MethodName := ⟨RJ3, "checkFromIndexSize", "(IIILjava/util/function/BiFunction;)I"⟩
def RL : String := "PhraseMoodsLaw"
abbrev cL_cell : ByteArray := method_2_code
def yL_cell : MethodName := ⟨RL, "cell", "([II)I"⟩
abbrev cL_types : ByteArray := method_3_code
def yL_types : MethodName := ⟨RL, "types", "(LPhraseMoods;Ljava/lang/String;)Z"⟩
abbrev cL_some : ByteArray := method_4_code
def yL_some : MethodName := ⟨RL, "some", "(II)Ljava/lang/String;"⟩
abbrev cL_said : ByteArray := method_5_code
def yL_said : MethodName := ⟨RL, "said", "(LPhraseMoods;)Ljava/lang/String;"⟩
abbrev cL_law : ByteArray := code
def yL_law : MethodName := ⟨RL, "law", "([I)Z"⟩

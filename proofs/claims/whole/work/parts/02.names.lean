/-! ===== BEGIN words of one list among another's, by their places ===== -/
theorem goodIn_r {big : List Cond} (ws : List Cond) (ps : List Nat) (hp : ws = ps.filterMap (fun i => big[i]?)) (h : ws.all goodWord = true) : GoodIn big ws := by
  intro w hw
  have h1 := List.all_eq_true.mp h w hw
  rw [hp] at hw
  obtain ⟨i, -, hi⟩ := List.mem_filterMap.mp hw
  have hm : w ∈ big := by first | exact List.mem_of_getElem? hi | exact List.getElem?_mem hi
  exact ⟨hm, good_of_word h1⟩
theorem goodIn_app {big a b : List Cond} (ha : GoodIn big a) (hb : GoodIn big b) : GoodIn big (a ++ b) := fun w h => (List.mem_append.mp h).elim (ha w) (hb w)
theorem goodIn_ca {big a b : List Cond} {c : Cond} (ha : GoodIn big (c :: a)) (hb : GoodIn big b) : GoodIn big (c :: (a ++ b)) := fun w h => (List.mem_cons.mp h).elim (fun e => ha w (List.mem_cons.mpr (Or.inl e))) (fun h => (List.mem_append.mp h).elim (fun h => ha w (List.mem_cons.mpr (Or.inr h))) (hb w))
theorem goodIn_sub {big ws : List Cond} (hm : ∀ w ∈ ws, w ∈ big) (h : ws.all goodWord = true) : GoodIn big ws := fun w hw => ⟨hm w hw, good_of_word (List.all_eq_true.mp h w hw)⟩
/-! ===== END ===== -/

/-! ===== BEGIN printed: names, fields, word lists, decode rows ===== -/
def RX0 : String := "StoryColumns$Articles"
def TX0 : u_T := fun k => match k with
  | 0 => ("StoryColumns$Articles", "blocks", "LStoryColumns$Blocks;", true)
  | 1 => ("StoryColumns$Articles", "marks", "LStoryColumns$Marks;", true)
  | 2 => ("StoryColumns$Articles", "stories", "LStoryColumns$Stories;", true)
  | 3 => ("StoryColumns$Articles", "count", "I", false)
  | 4 => ("StoryColumns$Articles", "onward", "[I", true)
  | 5 => ("StoryColumns$Articles", "next", "[I", true)
  | 6 => ("StoryColumns$Articles", "previous", "[I", true)
  | 7 => ("StoryColumns$Articles", "articleOf", "[I", true)
  | 8 => ("StoryColumns$Articles", "first", "[I", true)
  | 9 => ("StoryColumns$Articles", "last", "[I", true)
  | _ => ("StoryColumns$Articles", "length", "[I", true)
def tyX0 : Nat → FieldType := fun k => match k with
  | 0 => .object "StoryColumns$Blocks"
  | 1 => .object "StoryColumns$Marks"
  | 2 => .object "StoryColumns$Stories"
  | 3 => .int
  | 4 => .array .int
  | 5 => .array .int
  | 6 => .array .int
  | 7 => .array .int
  | 8 => .array .int
  | 9 => .array .int
  | _ => .array .int
abbrev wsX00 : List Cond := u_ws RX0 TX0 11
theorem nmX0 : ∀ a, a < 11 → ∀ b, b < 11 → a ≠ b → (TX0 a).2.1 ≠ (TX0 b).2.1 := by decide +kernel
theorem tyX0_ok : ∀ k, k < 11 → parseFieldDescriptor (TX0 k).2.2.1 = some (tyX0 k) := by decide +kernel
abbrev cX0_init : ByteArray := prog_2_method_1_code
def yX0_init : MethodName := ⟨RX0, "<init>", "(LStoryColumns$Blocks;LStoryColumns$Marks;LStoryColumns$Stories;)V"⟩
abbrev cX0_build : ByteArray := prog_2_method_2_code
def yX0_build : MethodName := ⟨RX0, "build", "()V"⟩
abbrev cX0_lastOnward : ByteArray := prog_2_method_3_code
def yX0_lastOnward : MethodName := ⟨RX0, "lastOnward", "(I)I"⟩
abbrev cX0_linkToAim : ByteArray := prog_2_method_4_code
def yX0_linkToAim : MethodName := ⟨RX0, "linkToAim", "(I)V"⟩
abbrev cX0_aimOf : ByteArray := prog_2_method_5_code
def yX0_aimOf : MethodName := ⟨RX0, "aimOf", "(I)I"⟩
abbrev cX0_addFrom : ByteArray := prog_2_method_6_code
def yX0_addFrom : MethodName := ⟨RX0, "addFrom", "(I)V"⟩
abbrev cX0_has : ByteArray := prog_2_method_7_code
def yX0_has : MethodName := ⟨RX0, "has", "(I)Z"⟩
abbrev cX0_isBroken : ByteArray := prog_2_method_8_code
def yX0_isBroken : MethodName := ⟨RX0, "isBroken", "(I)Z"⟩
abbrev cX0_isRing : ByteArray := prog_2_method_9_code
def yX0_isRing : MethodName := ⟨RX0, "isRing", "(I)Z"⟩
abbrev cX0_isReadIn : ByteArray := prog_2_method_10_code
def yX0_isReadIn : MethodName := ⟨RX0, "isReadIn", "(II)Z"⟩
abbrev cX0_textsOf : ByteArray := prog_2_method_11_code
def yX0_textsOf : MethodName := ⟨RX0, "textsOf", "(I)I"⟩
abbrev cX0_wordsOf : ByteArray := prog_2_method_12_code
def yX0_wordsOf : MethodName := ⟨RX0, "wordsOf", "(I)I"⟩
abbrev cX0_pagesOf : ByteArray := prog_2_method_13_code
def yX0_pagesOf : MethodName := ⟨RX0, "pagesOf", "(I)I"⟩
abbrev cX0_blockAt : ByteArray := prog_2_method_14_code
def yX0_blockAt : MethodName := ⟨RX0, "blockAt", "(II)I"⟩
abbrev cX0_manyRings : ByteArray := prog_2_method_15_code
def yX0_manyRings : MethodName := ⟨RX0, "manyRings", "()I"⟩
abbrev cX0_manyBroken : ByteArray := prog_2_method_16_code
def yX0_manyBroken : MethodName := ⟨RX0, "manyBroken", "()I"⟩
abbrev cX0_manyIdleFrom : ByteArray := prog_2_method_17_code
def yX0_manyIdleFrom : MethodName := ⟨RX0, "manyIdleFrom", "()I"⟩
def RX1 : String := "StoryColumns$Blocks"
def TX1 : u_T := fun k => match k with
  | 0 => ("StoryColumns$Blocks", "count", "I", false)
  | 1 => ("StoryColumns$Blocks", "page", "[I", true)
  | 2 => ("StoryColumns$Blocks", "kind", "[I", true)
  | 3 => ("StoryColumns$Blocks", "left", "[I", true)
  | 4 => ("StoryColumns$Blocks", "right", "[I", true)
  | 5 => ("StoryColumns$Blocks", "top", "[I", true)
  | 6 => ("StoryColumns$Blocks", "bottom", "[I", true)
  | _ => ("StoryColumns$Blocks", "words", "[I", true)
def tyX1 : Nat → FieldType := fun k => match k with
  | 0 => .int
  | 1 => .array .int
  | 2 => .array .int
  | 3 => .array .int
  | 4 => .array .int
  | 5 => .array .int
  | 6 => .array .int
  | _ => .array .int
abbrev wsX10 : List Cond := u_ws RX1 TX1 8
theorem nmX1 : ∀ a, a < 8 → ∀ b, b < 8 → a ≠ b → (TX1 a).2.1 ≠ (TX1 b).2.1 := by decide +kernel
theorem tyX1_ok : ∀ k, k < 8 → parseFieldDescriptor (TX1 k).2.2.1 = some (tyX1 k) := by decide +kernel
abbrev cX1_init : ByteArray := prog_3_method_1_code
def yX1_init : MethodName := ⟨RX1, "<init>", "()V"⟩
abbrev cX1_has : ByteArray := prog_3_method_2_code
def yX1_has : MethodName := ⟨RX1, "has", "(I)Z"⟩
abbrev cX1_add : ByteArray := prog_3_method_3_code
def yX1_add : MethodName := ⟨RX1, "add", "(IIIIII)I"⟩
abbrev cX1_meets : ByteArray := prog_3_method_4_code
def yX1_meets : MethodName := ⟨RX1, "meets", "(IIIII)Z"⟩
abbrev cX1_firstIn : ByteArray := prog_3_method_5_code
def yX1_firstIn : MethodName := ⟨RX1, "firstIn", "(IIIII)I"⟩
abbrev cX1_turnAbout : ByteArray := prog_3_method_6_code
def yX1_turnAbout : MethodName := ⟨RX1, "turnAbout", "()I"⟩
abbrev cX1_manyOf : ByteArray := prog_3_method_7_code
def yX1_manyOf : MethodName := ⟨RX1, "manyOf", "(I)I"⟩
abbrev cX1_headBelow : ByteArray := prog_3_method_8_code
def yX1_headBelow : MethodName := ⟨RX1, "headBelow", "(III)I"⟩
abbrev cX1_isAhead : ByteArray := prog_3_method_9_code
def yX1_isAhead : MethodName := ⟨RX1, "isAhead", "(II)Z"⟩
def RX2 : String := "StoryColumns$Lines"
def TX2 : u_T := fun k => match k with
  | 0 => ("StoryColumns$Lines", "count", "I", false)
  | 1 => ("StoryColumns$Lines", "page", "[I", true)
  | 2 => ("StoryColumns$Lines", "how", "[I", true)
  | 3 => ("StoryColumns$Lines", "place", "[I", true)
  | 4 => ("StoryColumns$Lines", "from", "[I", true)
  | _ => ("StoryColumns$Lines", "until", "[I", true)
def tyX2 : Nat → FieldType := fun k => match k with
  | 0 => .int
  | 1 => .array .int
  | 2 => .array .int
  | 3 => .array .int
  | 4 => .array .int
  | _ => .array .int
abbrev wsX20 : List Cond := u_ws RX2 TX2 6
theorem nmX2 : ∀ a, a < 6 → ∀ b, b < 6 → a ≠ b → (TX2 a).2.1 ≠ (TX2 b).2.1 := by decide +kernel
theorem tyX2_ok : ∀ k, k < 6 → parseFieldDescriptor (TX2 k).2.2.1 = some (tyX2 k) := by decide +kernel
abbrev cX2_init : ByteArray := prog_4_method_1_code
def yX2_init : MethodName := ⟨RX2, "<init>", "()V"⟩
abbrev cX2_has : ByteArray := prog_4_method_2_code
def yX2_has : MethodName := ⟨RX2, "has", "(I)Z"⟩
abbrev cX2_add : ByteArray := prog_4_method_3_code
def yX2_add : MethodName := ⟨RX2, "add", "(IIIII)I"⟩
abbrev cX2_turnAbout : ByteArray := prog_4_method_4_code
def yX2_turnAbout : MethodName := ⟨RX2, "turnAbout", "()V"⟩
abbrev cX2_hasUpright : ByteArray := prog_4_method_5_code
def yX2_hasUpright : MethodName := ⟨RX2, "hasUpright", "(IIII)Z"⟩
abbrev cX2_flatBelow : ByteArray := prog_4_method_6_code
def yX2_flatBelow : MethodName := ⟨RX2, "flatBelow", "(III)I"⟩
def RX3 : String := "StoryColumns$Marks"
def TX3 : u_T := fun k => match k with
  | 0 => ("StoryColumns$Marks", "page", "[I", true)
  | _ => ("StoryColumns$Marks", "word", "[I", true)
def tyX3 : Nat → FieldType := fun k => match k with
  | 0 => .array .int
  | _ => .array .int
abbrev wsX30 : List Cond := u_ws RX3 TX3 2
theorem nmX3 : ∀ a, a < 2 → ∀ b, b < 2 → a ≠ b → (TX3 a).2.1 ≠ (TX3 b).2.1 := by decide +kernel
theorem tyX3_ok : ∀ k, k < 2 → parseFieldDescriptor (TX3 k).2.2.1 = some (tyX3 k) := by decide +kernel
abbrev cX3_init : ByteArray := prog_5_method_1_code
def yX3_init : MethodName := ⟨RX3, "<init>", "()V"⟩
abbrev cX3_has : ByteArray := prog_5_method_2_code
def yX3_has : MethodName := ⟨RX3, "has", "(II)Z"⟩
abbrev cX3_pageOf : ByteArray := prog_5_method_3_code
def yX3_pageOf : MethodName := ⟨RX3, "pageOf", "(II)I"⟩
abbrev cX3_wordOf : ByteArray := prog_5_method_4_code
def yX3_wordOf : MethodName := ⟨RX3, "wordOf", "(II)I"⟩
abbrev cX3_put : ByteArray := prog_5_method_5_code
def yX3_put : MethodName := ⟨RX3, "put", "(IIII)V"⟩
abbrev cX3_forget : ByteArray := prog_5_method_6_code
def yX3_forget : MethodName := ⟨RX3, "forget", "(II)V"⟩
abbrev cX3_forgetAllOf : ByteArray := prog_5_method_7_code
def yX3_forgetAllOf : MethodName := ⟨RX3, "forgetAllOf", "(I)V"⟩
def RX4 : String := "StoryColumns$Reaches"
def TX4 : u_T := fun k => match k with
  | 0 => ("StoryColumns$Reaches", "blocks", "LStoryColumns$Blocks;", true)
  | _ => ("StoryColumns$Reaches", "lines", "LStoryColumns$Lines;", true)
def tyX4 : Nat → FieldType := fun k => match k with
  | 0 => .object "StoryColumns$Blocks"
  | _ => .object "StoryColumns$Lines"
abbrev wsX40 : List Cond := u_ws RX4 TX4 2
theorem nmX4 : ∀ a, a < 2 → ∀ b, b < 2 → a ≠ b → (TX4 a).2.1 ≠ (TX4 b).2.1 := by decide +kernel
theorem tyX4_ok : ∀ k, k < 2 → parseFieldDescriptor (TX4 k).2.2.1 = some (tyX4 k) := by decide +kernel
abbrev cX4_init : ByteArray := prog_6_method_1_code
def yX4_init : MethodName := ⟨RX4, "<init>", "(LStoryColumns$Blocks;LStoryColumns$Lines;)V"⟩
abbrev cX4_lastColumn : ByteArray := prog_6_method_2_code
def yX4_lastColumn : MethodName := ⟨RX4, "lastColumn", "(I)I"⟩
abbrev cX4_lastRow : ByteArray := prog_6_method_3_code
def yX4_lastRow : MethodName := ⟨RX4, "lastRow", "(II)I"⟩
abbrev cX4_headOver : ByteArray := prog_6_method_4_code
def yX4_headOver : MethodName := ⟨RX4, "headOver", "(I)I"⟩
def RX5 : String := "StoryColumns$Stories"
def TX5 : u_T := fun k => match k with
  | 0 => ("StoryColumns$Stories", "blocks", "LStoryColumns$Blocks;", true)
  | 1 => ("StoryColumns$Stories", "lines", "LStoryColumns$Lines;", true)
  | 2 => ("StoryColumns$Stories", "reaches", "LStoryColumns$Reaches;", true)
  | 3 => ("StoryColumns$Stories", "count", "I", false)
  | 4 => ("StoryColumns$Stories", "over", "[I", true)
  | 5 => ("StoryColumns$Stories", "taker", "[I", true)
  | 6 => ("StoryColumns$Stories", "root", "[I", true)
  | 7 => ("StoryColumns$Stories", "storyOf", "[I", true)
  | 8 => ("StoryColumns$Stories", "rootOf", "[I", true)
  | 9 => ("StoryColumns$Stories", "sequence", "[I", true)
  | _ => ("StoryColumns$Stories", "texts", "I", false)
def tyX5 : Nat → FieldType := fun k => match k with
  | 0 => .object "StoryColumns$Blocks"
  | 1 => .object "StoryColumns$Lines"
  | 2 => .object "StoryColumns$Reaches"
  | 3 => .int
  | 4 => .array .int
  | 5 => .array .int
  | 6 => .array .int
  | 7 => .array .int
  | 8 => .array .int
  | 9 => .array .int
  | _ => .int
abbrev wsX50 : List Cond := u_ws RX5 TX5 11
theorem nmX5 : ∀ a, a < 11 → ∀ b, b < 11 → a ≠ b → (TX5 a).2.1 ≠ (TX5 b).2.1 := by decide +kernel
theorem tyX5_ok : ∀ k, k < 11 → parseFieldDescriptor (TX5 k).2.2.1 = some (tyX5 k) := by decide +kernel
abbrev cX5_init : ByteArray := prog_7_method_1_code
def yX5_init : MethodName := ⟨RX5, "<init>", "(LStoryColumns$Blocks;LStoryColumns$Lines;LStoryColumns$Reaches;)V"⟩
abbrev cX5_build : ByteArray := prog_7_method_2_code
def yX5_build : MethodName := ⟨RX5, "build", "()V"⟩
abbrev cX5_putUnderHead : ByteArray := prog_7_method_3_code
def yX5_putUnderHead : MethodName := ⟨RX5, "putUnderHead", "(I)V"⟩
abbrev cX5_insert : ByteArray := prog_7_method_4_code
def yX5_insert : MethodName := ⟨RX5, "insert", "(I)V"⟩
abbrev cX5_append : ByteArray := prog_7_method_5_code
def yX5_append : MethodName := ⟨RX5, "append", "(I)V"⟩
abbrev cX5_isWithoutStory : ByteArray := prog_7_method_6_code
def yX5_isWithoutStory : MethodName := ⟨RX5, "isWithoutStory", "(I)Z"⟩
abbrev cX5_joinNext : ByteArray := prog_7_method_7_code
def yX5_joinNext : MethodName := ⟨RX5, "joinNext", "()Z"⟩
abbrev cX5_takerFor : ByteArray := prog_7_method_8_code
def yX5_takerFor : MethodName := ⟨RX5, "takerFor", "(I)I"⟩
abbrev cX5_takes : ByteArray := prog_7_method_9_code
def yX5_takes : MethodName := ⟨RX5, "takes", "(II)Z"⟩
abbrev cX5_giveNumbers : ByteArray := prog_7_method_10_code
def yX5_giveNumbers : MethodName := ⟨RX5, "giveNumbers", "()V"⟩
abbrev cX5_has : ByteArray := prog_7_method_11_code
def yX5_has : MethodName := ⟨RX5, "has", "(I)Z"⟩
abbrev cX5_headOf : ByteArray := prog_7_method_12_code
def yX5_headOf : MethodName := ⟨RX5, "headOf", "(I)I"⟩
abbrev cX5_textsOf : ByteArray := prog_7_method_13_code
def yX5_textsOf : MethodName := ⟨RX5, "textsOf", "(I)I"⟩
abbrev cX5_wordsOf : ByteArray := prog_7_method_14_code
def yX5_wordsOf : MethodName := ⟨RX5, "wordsOf", "(I)I"⟩
abbrev cX5_picturesOf : ByteArray := prog_7_method_15_code
def yX5_picturesOf : MethodName := ⟨RX5, "picturesOf", "(I)I"⟩
abbrev cX5_joinedOf : ByteArray := prog_7_method_16_code
def yX5_joinedOf : MethodName := ⟨RX5, "joinedOf", "(I)I"⟩
abbrev cX5_textAt : ByteArray := prog_7_method_17_code
def yX5_textAt : MethodName := ⟨RX5, "textAt", "(II)I"⟩
abbrev cX5_manyJoined : ByteArray := prog_7_method_18_code
def yX5_manyJoined : MethodName := ⟨RX5, "manyJoined", "()I"⟩
abbrev cX5_manyLeftOver : ByteArray := prog_7_method_19_code
def yX5_manyLeftOver : MethodName := ⟨RX5, "manyLeftOver", "()I"⟩
abbrev cX5_manyLoosePictures : ByteArray := prog_7_method_20_code
def yX5_manyLoosePictures : MethodName := ⟨RX5, "manyLoosePictures", "()I"⟩
def RX6 : String := "StoryColumns"
def TX6 : u_T := fun k => match k with
  | 0 => ("StoryColumns", "blocks", "LStoryColumns$Blocks;", true)
  | 1 => ("StoryColumns", "marks", "LStoryColumns$Marks;", true)
  | 2 => ("StoryColumns", "lines", "LStoryColumns$Lines;", true)
  | 3 => ("StoryColumns", "reaches", "LStoryColumns$Reaches;", true)
  | 4 => ("StoryColumns", "stories", "LStoryColumns$Stories;", true)
  | 5 => ("StoryColumns", "articles", "LStoryColumns$Articles;", true)
  | _ => ("StoryColumns", "stale", "Z", false)
def tyX6 : Nat → FieldType := fun k => match k with
  | 0 => .object "StoryColumns$Blocks"
  | 1 => .object "StoryColumns$Marks"
  | 2 => .object "StoryColumns$Lines"
  | 3 => .object "StoryColumns$Reaches"
  | 4 => .object "StoryColumns$Stories"
  | 5 => .object "StoryColumns$Articles"
  | _ => .boolean
abbrev wsX60 : List Cond := u_ws RX6 TX6 7
theorem nmX6 : ∀ a, a < 7 → ∀ b, b < 7 → a ≠ b → (TX6 a).2.1 ≠ (TX6 b).2.1 := by decide +kernel
theorem tyX6_ok : ∀ k, k < 7 → parseFieldDescriptor (TX6 k).2.2.1 = some (tyX6 k) := by decide +kernel
abbrev cX6_init : ByteArray := prog_1_method_1_code
def yX6_init : MethodName := ⟨RX6, "<init>", "()V"⟩
abbrev cX6_block : ByteArray := prog_1_method_2_code
def yX6_block : MethodName := ⟨RX6, "block", "(IIIIII)I"⟩
abbrev cX6_words : ByteArray := prog_1_method_3_code
def yX6_words : MethodName := ⟨RX6, "words", "(II)I"⟩
abbrev cX6_line : ByteArray := prog_1_method_4_code
def yX6_line : MethodName := ⟨RX6, "line", "(IIIII)I"⟩
abbrev cX6_back : ByteArray := prog_1_method_5_code
def yX6_back : MethodName := ⟨RX6, "back", "()I"⟩
abbrev cX6_erase : ByteArray := prog_1_method_6_code
def yX6_erase : MethodName := ⟨RX6, "erase", "()I"⟩
abbrev cX6_clear : ByteArray := prog_1_method_7_code
def yX6_clear : MethodName := ⟨RX6, "clear", "()I"⟩
abbrev cX6_turn : ByteArray := prog_1_method_8_code
def yX6_turn : MethodName := ⟨RX6, "turn", "()I"⟩
abbrev cX6_ofBlock : ByteArray := prog_1_method_9_code
def yX6_ofBlock : MethodName := ⟨RX6, "ofBlock", "(II)I"⟩
abbrev cX6_ofLine : ByteArray := prog_1_method_10_code
def yX6_ofLine : MethodName := ⟨RX6, "ofLine", "(II)I"⟩
abbrev cX6_at : ByteArray := prog_1_method_11_code
def yX6_at : MethodName := ⟨RX6, "at", "(III)I"⟩
abbrev cX6_reach : ByteArray := prog_1_method_12_code
def yX6_reach : MethodName := ⟨RX6, "reach", "(II)I"⟩
abbrev cX6_under : ByteArray := prog_1_method_13_code
def yX6_under : MethodName := ⟨RX6, "under", "(I)I"⟩
abbrev cX6_story : ByteArray := prog_1_method_14_code
def yX6_story : MethodName := ⟨RX6, "story", "(I)I"⟩
abbrev cX6_takenBy : ByteArray := prog_1_method_15_code
def yX6_takenBy : MethodName := ⟨RX6, "takenBy", "(I)I"⟩
abbrev cX6_ofStory : ByteArray := prog_1_method_16_code
def yX6_ofStory : MethodName := ⟨RX6, "ofStory", "(II)I"⟩
abbrev cX6_text : ByteArray := prog_1_method_17_code
def yX6_text : MethodName := ⟨RX6, "text", "(II)I"⟩
abbrev cX6_mark : ByteArray := prog_1_method_18_code
def yX6_mark : MethodName := ⟨RX6, "mark", "(IIII)I"⟩
abbrev cX6_unmark : ByteArray := prog_1_method_19_code
def yX6_unmark : MethodName := ⟨RX6, "unmark", "(II)I"⟩
abbrev cX6_ofMark : ByteArray := prog_1_method_20_code
def yX6_ofMark : MethodName := ⟨RX6, "ofMark", "(III)I"⟩
abbrev cX6_ofArticle : ByteArray := prog_1_method_21_code
def yX6_ofArticle : MethodName := ⟨RX6, "ofArticle", "(II)I"⟩
abbrev cX6_read : ByteArray := prog_1_method_22_code
def yX6_read : MethodName := ⟨RX6, "read", "(II)I"⟩
abbrev cX6_many : ByteArray := prog_1_method_23_code
def yX6_many : MethodName := ⟨RX6, "many", "(I)I"⟩
abbrev cX6_isBelow : ByteArray := prog_1_method_24_code
def yX6_isBelow : MethodName := ⟨RX6, "isBelow", "(II)Z"⟩
abbrev cX6_isSpan : ByteArray := prog_1_method_25_code
def yX6_isSpan : MethodName := ⟨RX6, "isSpan", "(III)Z"⟩
abbrev cX6_refresh : ByteArray := prog_1_method_26_code
def yX6_refresh : MethodName := ⟨RX6, "refresh", "()V"⟩
def RX7 : String := "StoryColumnsModel"
def TX7 : u_T := fun k => match k with
  | 0 => ("StoryColumnsModel", "blocks", "I", false)
  | 1 => ("StoryColumnsModel", "pageOf", "[I", true)
  | 2 => ("StoryColumnsModel", "kindOf", "[I", true)
  | 3 => ("StoryColumnsModel", "left", "[I", true)
  | 4 => ("StoryColumnsModel", "right", "[I", true)
  | 5 => ("StoryColumnsModel", "top", "[I", true)
  | 6 => ("StoryColumnsModel", "bottom", "[I", true)
  | 7 => ("StoryColumnsModel", "wordsOf", "[I", true)
  | 8 => ("StoryColumnsModel", "markPage", "[I", true)
  | 9 => ("StoryColumnsModel", "markWord", "[I", true)
  | 10 => ("StoryColumnsModel", "lines", "I", false)
  | 11 => ("StoryColumnsModel", "linePage", "[I", true)
  | 12 => ("StoryColumnsModel", "lineHow", "[I", true)
  | 13 => ("StoryColumnsModel", "lineAt", "[I", true)
  | 14 => ("StoryColumnsModel", "lineFrom", "[I", true)
  | 15 => ("StoryColumnsModel", "lineTo", "[I", true)
  | 16 => ("StoryColumnsModel", "underOf", "[I", true)
  | 17 => ("StoryColumnsModel", "headOf", "[I", true)
  | 18 => ("StoryColumnsModel", "takerOf", "[I", true)
  | 19 => ("StoryColumnsModel", "textsOf", "[I", true)
  | 20 => ("StoryColumnsModel", "textAt", "[I", true)
  | 21 => ("StoryColumnsModel", "stories", "I", false)
  | 22 => ("StoryColumnsModel", "storyBlock", "[I", true)
  | 23 => ("StoryColumnsModel", "storyOf", "[I", true)
  | 24 => ("StoryColumnsModel", "goesOn", "[Z", true)
  | 25 => ("StoryColumnsModel", "aimOf", "[I", true)
  | 26 => ("StoryColumnsModel", "linkedTo", "[I", true)
  | 27 => ("StoryColumnsModel", "linkedFrom", "[I", true)
  | 28 => ("StoryColumnsModel", "articles", "I", false)
  | 29 => ("StoryColumnsModel", "articleAt", "[I", true)
  | 30 => ("StoryColumnsModel", "isRing", "[Z", true)
  | 31 => ("StoryColumnsModel", "inRow", "[I", true)
  | 32 => ("StoryColumnsModel", "articleOf", "[I", true)
  | _ => ("StoryColumnsModel", "laid", "I", false)
def tyX7 : Nat → FieldType := fun k => match k with
  | 0 => .int
  | 1 => .array .int
  | 2 => .array .int
  | 3 => .array .int
  | 4 => .array .int
  | 5 => .array .int
  | 6 => .array .int
  | 7 => .array .int
  | 8 => .array .int
  | 9 => .array .int
  | 10 => .int
  | 11 => .array .int
  | 12 => .array .int
  | 13 => .array .int
  | 14 => .array .int
  | 15 => .array .int
  | 16 => .array .int
  | 17 => .array .int
  | 18 => .array .int
  | 19 => .array .int
  | 20 => .array .int
  | 21 => .int
  | 22 => .array .int
  | 23 => .array .int
  | 24 => .array .boolean
  | 25 => .array .int
  | 26 => .array .int
  | 27 => .array .int
  | 28 => .int
  | 29 => .array .int
  | 30 => .array .boolean
  | 31 => .array .int
  | 32 => .array .int
  | _ => .int
abbrev wsX70 : List Cond := u_ws RX7 TX7 34
theorem nmX7 : ∀ a, a < 34 → ∀ b, b < 34 → a ≠ b → (TX7 a).2.1 ≠ (TX7 b).2.1 := by decide +kernel
theorem tyX7_ok : ∀ k, k < 34 → parseFieldDescriptor (TX7 k).2.2.1 = some (tyX7 k) := by decide +kernel
abbrev cX7_init : ByteArray := prog_9_method_1_code
def yX7_init : MethodName := ⟨RX7, "<init>", "()V"⟩
abbrev cX7_within : ByteArray := prog_9_method_2_code
def yX7_within : MethodName := ⟨RX7, "within", "(III)Z"⟩
abbrev cX7_isBlock : ByteArray := prog_9_method_3_code
def yX7_isBlock : MethodName := ⟨RX7, "isBlock", "(I)Z"⟩
abbrev cX7_isMeeting : ByteArray := prog_9_method_4_code
def yX7_isMeeting : MethodName := ⟨RX7, "isMeeting", "(IIIII)Z"⟩
abbrev cX7_block : ByteArray := prog_9_method_5_code
def yX7_block : MethodName := ⟨RX7, "block", "(IIIIII)I"⟩
abbrev cX7_words : ByteArray := prog_9_method_6_code
def yX7_words : MethodName := ⟨RX7, "words", "(II)I"⟩
abbrev cX7_line : ByteArray := prog_9_method_7_code
def yX7_line : MethodName := ⟨RX7, "line", "(IIIII)I"⟩
abbrev cX7_back : ByteArray := prog_9_method_8_code
def yX7_back : MethodName := ⟨RX7, "back", "()I"⟩
abbrev cX7_erase : ByteArray := prog_9_method_9_code
def yX7_erase : MethodName := ⟨RX7, "erase", "()I"⟩
abbrev cX7_clear : ByteArray := prog_9_method_10_code
def yX7_clear : MethodName := ⟨RX7, "clear", "()I"⟩
abbrev cX7_turn : ByteArray := prog_9_method_11_code
def yX7_turn : MethodName := ⟨RX7, "turn", "()I"⟩
abbrev cX7_ofBlock : ByteArray := prog_9_method_12_code
def yX7_ofBlock : MethodName := ⟨RX7, "ofBlock", "(II)I"⟩
abbrev cX7_ofLine : ByteArray := prog_9_method_13_code
def yX7_ofLine : MethodName := ⟨RX7, "ofLine", "(II)I"⟩
abbrev cX7_at : ByteArray := prog_9_method_14_code
def yX7_at : MethodName := ⟨RX7, "at", "(III)I"⟩
abbrev cX7_isHead : ByteArray := prog_9_method_15_code
def yX7_isHead : MethodName := ⟨RX7, "isHead", "(I)Z"⟩
abbrev cX7_isUpright : ByteArray := prog_9_method_16_code
def yX7_isUpright : MethodName := ⟨RX7, "isUpright", "(IIII)Z"⟩
abbrev cX7_reachesAcross : ByteArray := prog_9_method_17_code
def yX7_reachesAcross : MethodName := ⟨RX7, "reachesAcross", "(II)Z"⟩
abbrev cX7_lastRow : ByteArray := prog_9_method_18_code
def yX7_lastRow : MethodName := ⟨RX7, "lastRow", "(II)I"⟩
abbrev cX7_headOver : ByteArray := prog_9_method_19_code
def yX7_headOver : MethodName := ⟨RX7, "headOver", "(I)I"⟩
abbrev cX7_comesBehind : ByteArray := prog_9_method_20_code
def yX7_comesBehind : MethodName := ⟨RX7, "comesBehind", "(II)V"⟩
abbrev cX7_isAhead : ByteArray := prog_9_method_21_code
def yX7_isAhead : MethodName := ⟨RX7, "isAhead", "(II)Z"⟩
abbrev cX7_comesUnder : ByteArray := prog_9_method_22_code
def yX7_comesUnder : MethodName := ⟨RX7, "comesUnder", "(II)V"⟩
abbrev cX7_takes : ByteArray := prog_9_method_23_code
def yX7_takes : MethodName := ⟨RX7, "takes", "(II)Z"⟩
abbrev cX7_takerNow : ByteArray := prog_9_method_24_code
def yX7_takerNow : MethodName := ⟨RX7, "takerNow", "(I)I"⟩
abbrev cX7_joins : ByteArray := prog_9_method_25_code
def yX7_joins : MethodName := ⟨RX7, "joins", "()Z"⟩
abbrev cX7_findStories : ByteArray := prog_9_method_26_code
def yX7_findStories : MethodName := ⟨RX7, "findStories", "()V"⟩
abbrev cX7_reach : ByteArray := prog_9_method_27_code
def yX7_reach : MethodName := ⟨RX7, "reach", "(II)I"⟩
abbrev cX7_under : ByteArray := prog_9_method_28_code
def yX7_under : MethodName := ⟨RX7, "under", "(I)I"⟩
abbrev cX7_story : ByteArray := prog_9_method_29_code
def yX7_story : MethodName := ⟨RX7, "story", "(I)I"⟩
abbrev cX7_takenBy : ByteArray := prog_9_method_30_code
def yX7_takenBy : MethodName := ⟨RX7, "takenBy", "(I)I"⟩
abbrev cX7_mark : ByteArray := prog_9_method_31_code
def yX7_mark : MethodName := ⟨RX7, "mark", "(IIII)I"⟩
abbrev cX7_unmark : ByteArray := prog_9_method_32_code
def yX7_unmark : MethodName := ⟨RX7, "unmark", "(II)I"⟩
abbrev cX7_ofMark : ByteArray := prog_9_method_33_code
def yX7_ofMark : MethodName := ⟨RX7, "ofMark", "(III)I"⟩
abbrev cX7_onwardOf : ByteArray := prog_9_method_34_code
def yX7_onwardOf : MethodName := ⟨RX7, "onwardOf", "(I)I"⟩
abbrev cX7_aimBy : ByteArray := prog_9_method_35_code
def yX7_aimBy : MethodName := ⟨RX7, "aimBy", "(I)I"⟩
abbrev cX7_lays : ByteArray := prog_9_method_36_code
def yX7_lays : MethodName := ⟨RX7, "lays", "(IZ)V"⟩
abbrev cX7_findArticles : ByteArray := prog_9_method_37_code
def yX7_findArticles : MethodName := ⟨RX7, "findArticles", "()V"⟩
abbrev cX7_isBroken : ByteArray := prog_9_method_38_code
def yX7_isBroken : MethodName := ⟨RX7, "isBroken", "(I)Z"⟩
abbrev cX7_wordsIn : ByteArray := prog_9_method_39_code
def yX7_wordsIn : MethodName := ⟨RX7, "wordsIn", "(I)I"⟩
abbrev cX7_manyIn : ByteArray := prog_9_method_40_code
def yX7_manyIn : MethodName := ⟨RX7, "manyIn", "(IZ)I"⟩
abbrev cX7_isStory : ByteArray := prog_9_method_41_code
def yX7_isStory : MethodName := ⟨RX7, "isStory", "(I)Z"⟩
abbrev cX7_ofStory : ByteArray := prog_9_method_42_code
def yX7_ofStory : MethodName := ⟨RX7, "ofStory", "(II)I"⟩
abbrev cX7_text : ByteArray := prog_9_method_43_code
def yX7_text : MethodName := ⟨RX7, "text", "(II)I"⟩
abbrev cX7_isArticle : ByteArray := prog_9_method_44_code
def yX7_isArticle : MethodName := ⟨RX7, "isArticle", "(I)Z"⟩
abbrev cX7_sumOf : ByteArray := prog_9_method_45_code
def yX7_sumOf : MethodName := ⟨RX7, "sumOf", "(IZ)I"⟩
abbrev cX7_pagesOf : ByteArray := prog_9_method_46_code
def yX7_pagesOf : MethodName := ⟨RX7, "pagesOf", "(I)I"⟩
abbrev cX7_ofArticle : ByteArray := prog_9_method_47_code
def yX7_ofArticle : MethodName := ⟨RX7, "ofArticle", "(II)I"⟩
abbrev cX7_read : ByteArray := prog_9_method_48_code
def yX7_read : MethodName := ⟨RX7, "read", "(II)I"⟩
abbrev cX7_manyOfKind : ByteArray := prog_9_method_49_code
def yX7_manyOfKind : MethodName := ⟨RX7, "manyOfKind", "(I)I"⟩
abbrev cX7_manyTexts : ByteArray := prog_9_method_50_code
def yX7_manyTexts : MethodName := ⟨RX7, "manyTexts", "(Z)I"⟩
abbrev cX7_manyRings : ByteArray := prog_9_method_51_code
def yX7_manyRings : MethodName := ⟨RX7, "manyRings", "()I"⟩
abbrev cX7_manyBroken : ByteArray := prog_9_method_52_code
def yX7_manyBroken : MethodName := ⟨RX7, "manyBroken", "()I"⟩
abbrev cX7_manyIdle : ByteArray := prog_9_method_53_code
def yX7_manyIdle : MethodName := ⟨RX7, "manyIdle", "()I"⟩
abbrev cX7_manyLost : ByteArray := prog_9_method_54_code
def yX7_manyLost : MethodName := ⟨RX7, "manyLost", "()I"⟩
abbrev cX7_many : ByteArray := prog_9_method_55_code
def yX7_many : MethodName := ⟨RX7, "many", "(I)I"⟩
def RJ9 : String := "java/lang/Math"
def TJ9 : u_T := fun k => match k with
  | _ => ("", "", "", false)
def tyJ9 : Nat → FieldType := fun k => match k with
  | _ => .int
abbrev wsJ90 : List Cond := u_ws RJ9 TJ9 0
theorem nmJ9 : ∀ a, a < 0 → ∀ b, b < 0 → a ≠ b → (TJ9 a).2.1 ≠ (TJ9 b).2.1 := by decide +kernel
theorem tyJ9_ok : ∀ k, k < 0 → parseFieldDescriptor (TJ9 k).2.2.1 = some (tyJ9 k) := by decide +kernel
abbrev cJ9_max_7cf53 : ByteArray := prog_10_method_65_code
def yJ9_max_7cf53 : MethodName := ⟨RJ9, "max", "(II)I"⟩
abbrev cJ9_min_7cf53 : ByteArray := prog_10_method_69_code
def yJ9_min_7cf53 : MethodName := ⟨RJ9, "min", "(II)I"⟩
def RL : String := "StoryColumnsLaw"
abbrev cL_law : ByteArray := code
def yL_law : MethodName := ⟨RL, "law", "([I)Z"⟩
def wsL_law_r1 : List Cond := [Cond.classLink RL 7 RX6, Cond.instantiable RX6 7, Cond.initialized RX6, Cond.classLink RL 10 RX7, Cond.instantiable RX7 34, Cond.initialized RX7, Cond.methodLink RL 9 yX6_init, Cond.instanceMethod yX6_init, Cond.code yX6_init cX6_init 1 none, Cond.methodLink RX6 1 objectInit, Cond.instanceMethod objectInit, Cond.code objectInit ⟨#[0xb1]⟩ 1 none, Cond.classLink RX6 7 RX1, Cond.instantiable RX1 8, Cond.initialized RX1, Cond.fieldLink RX6 10 "StoryColumns" "blocks" "LStoryColumns$Blocks;", Cond.classLink RX6 16 RX3, Cond.instantiable RX3 2, Cond.initialized RX3, Cond.fieldLink RX6 19 "StoryColumns" "marks" "LStoryColumns$Marks;", Cond.classLink RX6 23 RX2, Cond.instantiable RX2 6, Cond.initialized RX2, Cond.fieldLink RX6 26 "StoryColumns" "lines" "LStoryColumns$Lines;"]
def wsL_law_r2 : List Cond := [Cond.classLink RX6 30 RX4, Cond.instantiable RX4 2, Cond.initialized RX4, Cond.fieldLink RX6 35 "StoryColumns" "reaches" "LStoryColumns$Reaches;", Cond.classLink RX6 39 RX5, Cond.instantiable RX5 11, Cond.initialized RX5, Cond.fieldLink RX6 44 "StoryColumns" "stories" "LStoryColumns$Stories;", Cond.classLink RX6 48 RX0, Cond.instantiable RX0 11, Cond.initialized RX0, Cond.fieldLink RX6 53 "StoryColumns" "articles" "LStoryColumns$Articles;", Cond.fieldLink RX6 57 "StoryColumns" "stale" "Z", Cond.instanceMethod yX1_init, Cond.code yX1_init cX1_init 1 none, Cond.methodLink RX1 3 objectInit, Cond.arrayClass .int, Cond.fieldLink RX1 9 "StoryColumns$Blocks" "page" "[I", Cond.fieldLink RX1 15 "StoryColumns$Blocks" "kind" "[I", Cond.fieldLink RX1 18 "StoryColumns$Blocks" "left" "[I", Cond.fieldLink RX1 21 "StoryColumns$Blocks" "right" "[I", Cond.fieldLink RX1 24 "StoryColumns$Blocks" "top" "[I", Cond.fieldLink RX1 27 "StoryColumns$Blocks" "bottom" "[I", Cond.fieldLink RX1 30 "StoryColumns$Blocks" "words" "[I"]
def wsL_law_r3 : List Cond := [Cond.instanceMethod yX3_init, Cond.code yX3_init cX3_init 1 none, Cond.methodLink RX3 3 objectInit, Cond.fieldLink RX3 9 "StoryColumns$Marks" "page" "[I", Cond.fieldLink RX3 15 "StoryColumns$Marks" "word" "[I", Cond.instanceMethod yX2_init, Cond.code yX2_init cX2_init 1 none, Cond.methodLink RX2 3 objectInit, Cond.fieldLink RX2 9 "StoryColumns$Lines" "page" "[I", Cond.fieldLink RX2 15 "StoryColumns$Lines" "how" "[I", Cond.fieldLink RX2 18 "StoryColumns$Lines" "place" "[I", Cond.fieldLink RX2 21 "StoryColumns$Lines" "from" "[I", Cond.fieldLink RX2 24 "StoryColumns$Lines" "until" "[I", Cond.methodLink RX6 32 yX4_init, Cond.instanceMethod yX4_init, Cond.code yX4_init cX4_init 3 none, Cond.methodLink RX4 3 objectInit, Cond.fieldLink RX4 9 "StoryColumns$Reaches" "blocks" "LStoryColumns$Blocks;", Cond.fieldLink RX4 15 "StoryColumns$Reaches" "lines" "LStoryColumns$Lines;", Cond.methodLink RX6 41 yX5_init, Cond.instanceMethod yX5_init, Cond.code yX5_init cX5_init 4 none, Cond.methodLink RX5 3 objectInit, Cond.fieldLink RX5 9 "StoryColumns$Stories" "over" "[I"]
def wsL_law_r4 : List Cond := [Cond.fieldLink RX5 15 "StoryColumns$Stories" "taker" "[I", Cond.fieldLink RX5 18 "StoryColumns$Stories" "root" "[I", Cond.fieldLink RX5 21 "StoryColumns$Stories" "storyOf" "[I", Cond.fieldLink RX5 24 "StoryColumns$Stories" "rootOf" "[I", Cond.fieldLink RX5 27 "StoryColumns$Stories" "sequence" "[I", Cond.fieldLink RX5 30 "StoryColumns$Stories" "blocks" "LStoryColumns$Blocks;", Cond.fieldLink RX5 34 "StoryColumns$Stories" "lines" "LStoryColumns$Lines;", Cond.fieldLink RX5 38 "StoryColumns$Stories" "reaches" "LStoryColumns$Reaches;", Cond.methodLink RX6 50 yX0_init, Cond.instanceMethod yX0_init, Cond.code yX0_init cX0_init 4 none, Cond.methodLink RX0 3 objectInit, Cond.fieldLink RX0 9 "StoryColumns$Articles" "onward" "[I", Cond.fieldLink RX0 15 "StoryColumns$Articles" "next" "[I", Cond.fieldLink RX0 18 "StoryColumns$Articles" "previous" "[I", Cond.fieldLink RX0 21 "StoryColumns$Articles" "articleOf" "[I", Cond.fieldLink RX0 24 "StoryColumns$Articles" "first" "[I", Cond.fieldLink RX0 27 "StoryColumns$Articles" "last" "[I", Cond.fieldLink RX0 30 "StoryColumns$Articles" "length" "[I", Cond.fieldLink RX0 33 "StoryColumns$Articles" "blocks" "LStoryColumns$Blocks;", Cond.fieldLink RX0 37 "StoryColumns$Articles" "marks" "LStoryColumns$Marks;", Cond.fieldLink RX0 41 "StoryColumns$Articles" "stories" "LStoryColumns$Stories;", Cond.methodLink RL 12 yX7_init, Cond.instanceMethod yX7_init]
def wsL_law_r5 : List Cond := [Cond.code yX7_init cX7_init 1 none, Cond.methodLink RX7 1 objectInit, Cond.fieldLink RX7 7 "StoryColumnsModel" "pageOf" "[I", Cond.fieldLink RX7 13 "StoryColumnsModel" "kindOf" "[I", Cond.fieldLink RX7 16 "StoryColumnsModel" "left" "[I", Cond.fieldLink RX7 19 "StoryColumnsModel" "right" "[I", Cond.fieldLink RX7 22 "StoryColumnsModel" "top" "[I", Cond.fieldLink RX7 25 "StoryColumnsModel" "bottom" "[I", Cond.fieldLink RX7 28 "StoryColumnsModel" "wordsOf" "[I", Cond.fieldLink RX7 31 "StoryColumnsModel" "markPage" "[I", Cond.fieldLink RX7 34 "StoryColumnsModel" "markWord" "[I", Cond.fieldLink RX7 37 "StoryColumnsModel" "linePage" "[I", Cond.fieldLink RX7 40 "StoryColumnsModel" "lineHow" "[I", Cond.fieldLink RX7 43 "StoryColumnsModel" "lineAt" "[I", Cond.fieldLink RX7 46 "StoryColumnsModel" "lineFrom" "[I", Cond.fieldLink RX7 49 "StoryColumnsModel" "lineTo" "[I", Cond.fieldLink RX7 52 "StoryColumnsModel" "underOf" "[I", Cond.fieldLink RX7 55 "StoryColumnsModel" "headOf" "[I", Cond.fieldLink RX7 58 "StoryColumnsModel" "takerOf" "[I", Cond.fieldLink RX7 61 "StoryColumnsModel" "textsOf" "[I", Cond.fieldLink RX7 64 "StoryColumnsModel" "textAt" "[I", Cond.fieldLink RX7 67 "StoryColumnsModel" "storyBlock" "[I", Cond.fieldLink RX7 70 "StoryColumnsModel" "storyOf" "[I", Cond.arrayClass .boolean]
def wsL_law_r6 : List Cond := [Cond.fieldLink RX7 73 "StoryColumnsModel" "goesOn" "[Z", Cond.fieldLink RX7 77 "StoryColumnsModel" "aimOf" "[I", Cond.fieldLink RX7 80 "StoryColumnsModel" "linkedTo" "[I", Cond.fieldLink RX7 83 "StoryColumnsModel" "linkedFrom" "[I", Cond.fieldLink RX7 86 "StoryColumnsModel" "articleAt" "[I", Cond.fieldLink RX7 89 "StoryColumnsModel" "isRing" "[Z", Cond.fieldLink RX7 92 "StoryColumnsModel" "inRow" "[I", Cond.fieldLink RX7 95 "StoryColumnsModel" "articleOf" "[I", Cond.methodLink RL 13 yX6_block, Cond.instanceMethod yX6_block, Cond.selects RX6 yX6_block yX6_block, Cond.code yX6_block cX6_block 7 (some .int), Cond.fieldLink RX6 73 "StoryColumns$Blocks" "count" "I", Cond.methodLink RX6 61 yX6_isBelow, Cond.static yX6_isBelow, Cond.code yX6_isBelow cX6_isBelow 2 (some .boolean), Cond.methodLink RX6 65 yX6_isSpan, Cond.static yX6_isSpan, Cond.code yX6_isSpan cX6_isSpan 3 (some .boolean), Cond.methodLink RX6 69 yX1_meets, Cond.instanceMethod yX1_meets, Cond.selects RX1 yX1_meets yX1_meets, Cond.code yX1_meets cX1_meets 6 (some .boolean), Cond.methodLink RX1 37 yX1_firstIn]
def wsL_law_r7 : List Cond := [Cond.instanceMethod yX1_firstIn, Cond.selects RX1 yX1_firstIn yX1_firstIn, Cond.code yX1_firstIn cX1_firstIn 9 (some .int), Cond.fieldLink RX1 33 "StoryColumns$Blocks" "count" "I", Cond.methodLink RX6 77 yX3_forgetAllOf, Cond.instanceMethod yX3_forgetAllOf, Cond.selects RX3 yX3_forgetAllOf yX3_forgetAllOf, Cond.code yX3_forgetAllOf cX3_forgetAllOf 2 none, Cond.methodLink RX3 26 yX3_forget, Cond.instanceMethod yX3_forget, Cond.selects RX3 yX3_forget yX3_forget, Cond.code yX3_forget cX3_forget 3 none, Cond.methodLink RX3 22 yX3_put, Cond.instanceMethod yX3_put, Cond.selects RX3 yX3_put yX3_put, Cond.code yX3_put cX3_put 5 none, Cond.methodLink RX6 81 yX1_add, Cond.instanceMethod yX1_add, Cond.selects RX1 yX1_add yX1_add, Cond.code yX1_add cX1_add 8 (some .int), Cond.methodLink RL 17 yX7_block, Cond.instanceMethod yX7_block, Cond.selects RX7 yX7_block yX7_block, Cond.code yX7_block cX7_block 9 (some .int)]
def wsL_law_r8 : List Cond := [Cond.fieldLink RX7 98 "StoryColumnsModel" "blocks" "I", Cond.methodLink RX7 102 yX7_within, Cond.static yX7_within, Cond.code yX7_within cX7_within 3 (some .boolean), Cond.methodLink RX7 106 yX7_isMeeting, Cond.instanceMethod yX7_isMeeting, Cond.selects RX7 yX7_isMeeting yX7_isMeeting, Cond.code yX7_isMeeting cX7_isMeeting 6 (some .boolean), Cond.methodLink RL 18 yX6_words, Cond.instanceMethod yX6_words, Cond.selects RX6 yX6_words yX6_words, Cond.code yX6_words cX6_words 4 (some .int), Cond.fieldLink RX6 89 "StoryColumns$Blocks" "kind" "[I", Cond.fieldLink RX6 93 "StoryColumns$Blocks" "words" "[I", Cond.methodLink RX6 85 yX1_has, Cond.instanceMethod yX1_has, Cond.selects RX1 yX1_has yX1_has, Cond.code yX1_has cX1_has 2 (some .boolean), Cond.methodLink RL 22 yX7_words, Cond.instanceMethod yX7_words, Cond.selects RX7 yX7_words yX7_words, Cond.code yX7_words cX7_words 4 (some .int), Cond.methodLink RX7 110 yX7_isBlock, Cond.instanceMethod yX7_isBlock]
def wsL_law_r9 : List Cond := [Cond.selects RX7 yX7_isBlock yX7_isBlock, Cond.code yX7_isBlock cX7_isBlock 2 (some .boolean), Cond.methodLink RL 23 yX6_line, Cond.instanceMethod yX6_line, Cond.selects RX6 yX6_line yX6_line, Cond.code yX6_line cX6_line 8 (some .int), Cond.fieldLink RX6 96 "StoryColumns$Lines" "count" "I", Cond.methodLink RX6 97 yX2_add, Cond.instanceMethod yX2_add, Cond.selects RX2 yX2_add yX2_add, Cond.code yX2_add cX2_add 7 (some .int), Cond.fieldLink RX2 27 "StoryColumns$Lines" "count" "I", Cond.methodLink RL 27 yX7_line, Cond.instanceMethod yX7_line, Cond.selects RX7 yX7_line yX7_line, Cond.code yX7_line cX7_line 8 (some .int), Cond.fieldLink RX7 114 "StoryColumnsModel" "lines" "I", Cond.methodLink RL 28 yX6_back, Cond.instanceMethod yX6_back, Cond.selects RX6 yX6_back yX6_back, Cond.code yX6_back cX6_back 1 (some .int), Cond.methodLink RL 32 yX7_back, Cond.instanceMethod yX7_back, Cond.selects RX7 yX7_back yX7_back]
def wsL_law_r10 : List Cond := [Cond.code yX7_back cX7_back 1 (some .int), Cond.methodLink RL 33 yX6_erase, Cond.instanceMethod yX6_erase, Cond.selects RX6 yX6_erase yX6_erase, Cond.code yX6_erase cX6_erase 1 (some .int), Cond.methodLink RL 36 yX7_erase, Cond.instanceMethod yX7_erase, Cond.selects RX7 yX7_erase yX7_erase, Cond.code yX7_erase cX7_erase 1 (some .int), Cond.methodLink RL 37 yX6_clear, Cond.instanceMethod yX6_clear, Cond.selects RX6 yX6_clear yX6_clear, Cond.code yX6_clear cX6_clear 2 (some .int), Cond.methodLink RL 40 yX7_clear, Cond.instanceMethod yX7_clear, Cond.selects RX7 yX7_clear yX7_clear, Cond.code yX7_clear cX7_clear 2 (some .int), Cond.methodLink RL 41 yX6_turn, Cond.instanceMethod yX6_turn, Cond.selects RX6 yX6_turn yX6_turn, Cond.code yX6_turn cX6_turn 1 (some .int), Cond.methodLink RX6 100 yX2_turnAbout, Cond.instanceMethod yX2_turnAbout, Cond.selects RX2 yX2_turnAbout yX2_turnAbout]
def wsL_law_r11 : List Cond := [Cond.code yX2_turnAbout cX2_turnAbout 3 none, Cond.methodLink RX6 103 yX1_turnAbout, Cond.instanceMethod yX1_turnAbout, Cond.selects RX1 yX1_turnAbout yX1_turnAbout, Cond.code yX1_turnAbout cX1_turnAbout 5 (some .int), Cond.methodLink RL 44 yX7_turn, Cond.instanceMethod yX7_turn, Cond.selects RX7 yX7_turn yX7_turn, Cond.code yX7_turn cX7_turn 4 (some .int), Cond.methodLink RL 45 yX6_ofBlock, Cond.instanceMethod yX6_ofBlock, Cond.selects RX6 yX6_ofBlock yX6_ofBlock, Cond.code yX6_ofBlock cX6_ofBlock 3 (some .int), Cond.fieldLink RX6 106 "StoryColumns$Blocks" "page" "[I", Cond.fieldLink RX6 109 "StoryColumns$Blocks" "left" "[I", Cond.fieldLink RX6 112 "StoryColumns$Blocks" "right" "[I", Cond.fieldLink RX6 115 "StoryColumns$Blocks" "top" "[I", Cond.fieldLink RX6 118 "StoryColumns$Blocks" "bottom" "[I", Cond.methodLink RL 48 yX7_ofBlock, Cond.instanceMethod yX7_ofBlock, Cond.selects RX7 yX7_ofBlock yX7_ofBlock, Cond.code yX7_ofBlock cX7_ofBlock 3 (some .int), Cond.methodLink RL 49 yX6_ofLine, Cond.instanceMethod yX6_ofLine]
def wsL_law_r12 : List Cond := [Cond.selects RX6 yX6_ofLine yX6_ofLine, Cond.code yX6_ofLine cX6_ofLine 3 (some .int), Cond.fieldLink RX6 122 "StoryColumns$Lines" "page" "[I", Cond.fieldLink RX6 123 "StoryColumns$Lines" "how" "[I", Cond.fieldLink RX6 126 "StoryColumns$Lines" "place" "[I", Cond.fieldLink RX6 129 "StoryColumns$Lines" "from" "[I", Cond.fieldLink RX6 132 "StoryColumns$Lines" "until" "[I", Cond.methodLink RX6 121 yX2_has, Cond.instanceMethod yX2_has, Cond.selects RX2 yX2_has yX2_has, Cond.code yX2_has cX2_has 2 (some .boolean), Cond.methodLink RL 52 yX7_ofLine, Cond.instanceMethod yX7_ofLine, Cond.selects RX7 yX7_ofLine yX7_ofLine, Cond.code yX7_ofLine cX7_ofLine 3 (some .int), Cond.methodLink RL 53 yX6_at, Cond.instanceMethod yX6_at, Cond.selects RX6 yX6_at yX6_at, Cond.code yX6_at cX6_at 4 (some .int), Cond.methodLink RX6 135 yX1_firstIn, Cond.methodLink RL 57 yX7_at, Cond.instanceMethod yX7_at, Cond.selects RX7 yX7_at yX7_at, Cond.code yX7_at cX7_at 5 (some .int)]
def wsL_law_r13 : List Cond := [Cond.methodLink RL 58 yX6_reach, Cond.instanceMethod yX6_reach, Cond.selects RX6 yX6_reach yX6_reach, Cond.code yX6_reach cX6_reach 3 (some .int), Cond.methodLink RX6 138 yX4_lastRow, Cond.instanceMethod yX4_lastRow, Cond.selects RX4 yX4_lastRow yX4_lastRow, Cond.code yX4_lastRow cX4_lastRow 6 (some .int), Cond.fieldLink RX4 25 "StoryColumns$Blocks" "left" "[I", Cond.fieldLink RX4 31 "StoryColumns$Blocks" "page" "[I", Cond.fieldLink RX4 19 "StoryColumns$Blocks" "bottom" "[I", Cond.methodLink RX4 51 Lib.Math.min.name, Cond.static Lib.Math.min.name, Cond.initialized "java/lang/Math", Cond.code Lib.Math.min.name Lib.Math.min.code 2 (some .int), Cond.methodLink RX4 40 yX4_lastColumn, Cond.instanceMethod yX4_lastColumn, Cond.selects RX4 yX4_lastColumn yX4_lastColumn, Cond.code yX4_lastColumn cX4_lastColumn 4 (some .int), Cond.fieldLink RX4 28 "StoryColumns$Blocks" "right" "[I", Cond.methodLink RX4 34 yX2_hasUpright, Cond.instanceMethod yX2_hasUpright, Cond.selects RX2 yX2_hasUpright yX2_hasUpright, Cond.code yX2_hasUpright cX2_hasUpright 7 (some .boolean)]
def wsL_law_r14 : List Cond := [Cond.methodLink RX4 44 yX1_headBelow, Cond.instanceMethod yX1_headBelow, Cond.selects RX1 yX1_headBelow yX1_headBelow, Cond.code yX1_headBelow cX1_headBelow 7 (some .int), Cond.methodLink RX1 41 Lib.Math.min.name, Cond.methodLink RX4 48 yX2_flatBelow, Cond.instanceMethod yX2_flatBelow, Cond.selects RX2 yX2_flatBelow yX2_flatBelow, Cond.code yX2_flatBelow cX2_flatBelow 7 (some .int), Cond.methodLink RX2 31 Lib.Math.min.name, Cond.methodLink RL 61 yX7_reach, Cond.instanceMethod yX7_reach, Cond.selects RX7 yX7_reach yX7_reach, Cond.code yX7_reach cX7_reach 3 (some .int), Cond.methodLink RX7 156 yX7_isHead, Cond.instanceMethod yX7_isHead, Cond.selects RX7 yX7_isHead yX7_isHead, Cond.code yX7_isHead cX7_isHead 2 (some .boolean), Cond.methodLink RX7 125 yX7_lastRow, Cond.instanceMethod yX7_lastRow, Cond.selects RX7 yX7_lastRow yX7_lastRow, Cond.code yX7_lastRow cX7_lastRow 7 (some .int), Cond.methodLink RX7 121 yX7_reachesAcross, Cond.instanceMethod yX7_reachesAcross]
def wsL_law_r15 : List Cond := [Cond.selects RX7 yX7_reachesAcross yX7_reachesAcross, Cond.code yX7_reachesAcross cX7_reachesAcross 4 (some .boolean), Cond.methodLink RX7 117 yX7_isUpright, Cond.instanceMethod yX7_isUpright, Cond.selects RX7 yX7_isUpright yX7_isUpright, Cond.code yX7_isUpright cX7_isUpright 6 (some .boolean), Cond.methodLink RL 62 yX6_under, Cond.instanceMethod yX6_under, Cond.selects RX6 yX6_under yX6_under, Cond.code yX6_under cX6_under 2 (some .int), Cond.fieldLink RX6 145 "StoryColumns$Stories" "over" "[I", Cond.methodLink RX6 142 yX6_refresh, Cond.instanceMethod yX6_refresh, Cond.selects RX6 yX6_refresh yX6_refresh, Cond.code yX6_refresh cX6_refresh 1 none, Cond.methodLink RX6 246 yX5_build, Cond.instanceMethod yX5_build, Cond.selects RX5 yX5_build yX5_build, Cond.code yX5_build cX5_build 3 none, Cond.fieldLink RX5 42 "StoryColumns$Stories" "texts" "I", Cond.fieldLink RX5 46 "StoryColumns$Blocks" "count" "I", Cond.fieldLink RX5 51 "StoryColumns$Blocks" "kind" "[I", Cond.methodLink RX5 54 yX4_headOver, Cond.instanceMethod yX4_headOver]
def wsL_law_r16 : List Cond := [Cond.selects RX4 yX4_headOver yX4_headOver, Cond.code yX4_headOver cX4_headOver 4 (some .int), Cond.fieldLink RX4 57 "StoryColumns$Blocks" "count" "I", Cond.fieldLink RX4 61 "StoryColumns$Blocks" "top" "[I", Cond.fieldLink RX4 64 "StoryColumns$Blocks" "kind" "[I", Cond.methodLink RX4 67 yX4_lastRow, Cond.methodLink RX5 60 yX5_putUnderHead, Cond.instanceMethod yX5_putUnderHead, Cond.selects RX5 yX5_putUnderHead yX5_putUnderHead, Cond.code yX5_putUnderHead cX5_putUnderHead 2 none, Cond.methodLink RX5 78 yX5_insert, Cond.instanceMethod yX5_insert, Cond.selects RX5 yX5_insert yX5_insert, Cond.code yX5_insert cX5_insert 3 none, Cond.methodLink RX5 81 yX1_isAhead, Cond.instanceMethod yX1_isAhead, Cond.selects RX1 yX1_isAhead yX1_isAhead, Cond.code yX1_isAhead cX1_isAhead 3 (some .boolean), Cond.methodLink RX5 64 yX5_joinNext, Cond.instanceMethod yX5_joinNext, Cond.selects RX5 yX5_joinNext yX5_joinNext, Cond.code yX5_joinNext cX5_joinNext 3 (some .boolean), Cond.methodLink RX5 68 yX5_isWithoutStory, Cond.instanceMethod yX5_isWithoutStory]
def wsL_law_r17 : List Cond := [Cond.selects RX5 yX5_isWithoutStory yX5_isWithoutStory, Cond.code yX5_isWithoutStory cX5_isWithoutStory 2 (some .boolean), Cond.methodLink RX5 85 yX5_takerFor, Cond.instanceMethod yX5_takerFor, Cond.selects RX5 yX5_takerFor yX5_takerFor, Cond.code yX5_takerFor cX5_takerFor 4 (some .int), Cond.fieldLink RX5 91 "StoryColumns$Blocks" "top" "[I", Cond.methodLink RX5 88 yX5_takes, Cond.instanceMethod yX5_takes, Cond.selects RX5 yX5_takes yX5_takes, Cond.code yX5_takes cX5_takes 7 (some .boolean), Cond.fieldLink RX5 94 "StoryColumns$Blocks" "page" "[I", Cond.fieldLink RX5 97 "StoryColumns$Blocks" "right" "[I", Cond.fieldLink RX5 100 "StoryColumns$Blocks" "left" "[I", Cond.methodLink RX5 103 Lib.Math.max.name, Cond.static Lib.Math.max.name, Cond.code Lib.Math.max.name Lib.Math.max.code 2 (some .int), Cond.fieldLink RX5 109 "StoryColumns$Blocks" "bottom" "[I", Cond.methodLink RX5 112 Lib.Math.min.name, Cond.methodLink RX5 115 yX2_hasUpright, Cond.methodLink RX5 72 yX5_append, Cond.instanceMethod yX5_append, Cond.selects RX5 yX5_append yX5_append, Cond.code yX5_append cX5_append 2 none]
def wsL_law_r18 : List Cond := [Cond.methodLink RX5 75 yX5_giveNumbers, Cond.instanceMethod yX5_giveNumbers, Cond.selects RX5 yX5_giveNumbers yX5_giveNumbers, Cond.code yX5_giveNumbers cX5_giveNumbers 2 none, Cond.fieldLink RX5 121 "StoryColumns$Stories" "count" "I", Cond.methodLink RX6 249 yX0_build, Cond.instanceMethod yX0_build, Cond.selects RX0 yX0_build yX0_build, Cond.code yX0_build cX0_build 2 none, Cond.fieldLink RX0 45 "StoryColumns$Articles" "count" "I", Cond.fieldLink RX0 49 "StoryColumns$Stories" "count" "I", Cond.methodLink RX0 52 yX0_lastOnward, Cond.instanceMethod yX0_lastOnward, Cond.selects RX0 yX0_lastOnward yX0_lastOnward, Cond.code yX0_lastOnward cX0_lastOnward 5 (some .int), Cond.fieldLink RX0 63 "StoryColumns$Stories" "texts" "I", Cond.fieldLink RX0 66 "StoryColumns$Stories" "sequence" "[I", Cond.fieldLink RX0 69 "StoryColumns$Stories" "storyOf" "[I", Cond.methodLink RX0 72 yX3_has, Cond.instanceMethod yX3_has, Cond.selects RX3 yX3_has yX3_has, Cond.code yX3_has cX3_has 3 (some .boolean), Cond.methodLink RX3 18 yX3_pageOf, Cond.instanceMethod yX3_pageOf]
def wsL_law_r19 : List Cond := [Cond.selects RX3 yX3_pageOf yX3_pageOf, Cond.code yX3_pageOf cX3_pageOf 3 (some .int), Cond.methodLink RX0 56 yX0_linkToAim, Cond.instanceMethod yX0_linkToAim, Cond.selects RX0 yX0_linkToAim yX0_linkToAim, Cond.code yX0_linkToAim cX0_linkToAim 3 none, Cond.methodLink RX0 78 yX0_aimOf, Cond.instanceMethod yX0_aimOf, Cond.selects RX0 yX0_aimOf yX0_aimOf, Cond.code yX0_aimOf cX0_aimOf 6 (some .int), Cond.fieldLink RX0 88 "StoryColumns$Blocks" "count" "I", Cond.fieldLink RX0 91 "StoryColumns$Blocks" "page" "[I", Cond.methodLink RX0 81 yX3_pageOf, Cond.methodLink RX0 85 yX3_wordOf, Cond.instanceMethod yX3_wordOf, Cond.selects RX3 yX3_wordOf yX3_wordOf, Cond.code yX3_wordOf cX3_wordOf 3 (some .int), Cond.methodLink RX0 60 yX0_addFrom, Cond.instanceMethod yX0_addFrom, Cond.selects RX0 yX0_addFrom yX0_addFrom, Cond.code yX0_addFrom cX0_addFrom 5 none, Cond.methodLink RL 66 yX7_under, Cond.instanceMethod yX7_under, Cond.selects RX7 yX7_under yX7_under]
def wsL_law_r20 : List Cond := [Cond.code yX7_under cX7_under 2 (some .int), Cond.methodLink RX7 143 yX7_headOver, Cond.instanceMethod yX7_headOver, Cond.selects RX7 yX7_headOver yX7_headOver, Cond.code yX7_headOver cX7_headOver 4 (some .int), Cond.methodLink RL 67 yX6_story, Cond.instanceMethod yX6_story, Cond.selects RX6 yX6_story yX6_story, Cond.code yX6_story cX6_story 2 (some .int), Cond.fieldLink RX6 148 "StoryColumns$Stories" "storyOf" "[I", Cond.methodLink RL 70 yX7_story, Cond.instanceMethod yX7_story, Cond.selects RX7 yX7_story yX7_story, Cond.code yX7_story cX7_story 2 (some .int), Cond.methodLink RX7 159 yX7_findStories, Cond.instanceMethod yX7_findStories, Cond.selects RX7 yX7_findStories yX7_findStories, Cond.code yX7_findStories cX7_findStories 4 none, Cond.fieldLink RX7 153 "StoryColumnsModel" "stories" "I", Cond.methodLink RX7 146 yX7_comesUnder, Cond.instanceMethod yX7_comesUnder, Cond.selects RX7 yX7_comesUnder yX7_comesUnder, Cond.code yX7_comesUnder cX7_comesUnder 4 none, Cond.methodLink RX7 129 yX7_comesBehind]
def wsL_law_r21 : List Cond := [Cond.instanceMethod yX7_comesBehind, Cond.selects RX7 yX7_comesBehind yX7_comesBehind, Cond.code yX7_comesBehind cX7_comesBehind 3 none, Cond.methodLink RX7 133 yX7_isAhead, Cond.instanceMethod yX7_isAhead, Cond.selects RX7 yX7_isAhead yX7_isAhead, Cond.code yX7_isAhead cX7_isAhead 3 (some .boolean), Cond.methodLink RX7 149 yX7_joins, Cond.instanceMethod yX7_joins, Cond.selects RX7 yX7_joins yX7_joins, Cond.code yX7_joins cX7_joins 3 (some .boolean), Cond.methodLink RX7 139 yX7_takerNow, Cond.instanceMethod yX7_takerNow, Cond.selects RX7 yX7_takerNow yX7_takerNow, Cond.code yX7_takerNow cX7_takerNow 4 (some .int), Cond.methodLink RX7 136 yX7_takes, Cond.instanceMethod yX7_takes, Cond.selects RX7 yX7_takes yX7_takes, Cond.code yX7_takes cX7_takes 5 (some .boolean), Cond.methodLink RL 71 yX6_takenBy, Cond.instanceMethod yX6_takenBy, Cond.selects RX6 yX6_takenBy yX6_takenBy, Cond.code yX6_takenBy cX6_takenBy 2 (some .int), Cond.fieldLink RX6 151 "StoryColumns$Stories" "taker" "[I"]
def wsL_law_r22 : List Cond := [Cond.methodLink RL 74 yX7_takenBy, Cond.instanceMethod yX7_takenBy, Cond.selects RX7 yX7_takenBy yX7_takenBy, Cond.code yX7_takenBy cX7_takenBy 2 (some .int), Cond.methodLink RL 75 yX6_ofStory, Cond.instanceMethod yX6_ofStory, Cond.selects RX6 yX6_ofStory yX6_ofStory, Cond.code yX6_ofStory cX6_ofStory 3 (some .int), Cond.fieldLink RX6 171 "StoryColumns$Articles" "next" "[I", Cond.fieldLink RX6 174 "StoryColumns$Articles" "previous" "[I", Cond.fieldLink RX6 177 "StoryColumns$Articles" "articleOf" "[I", Cond.methodLink RX6 154 yX5_has, Cond.instanceMethod yX5_has, Cond.selects RX5 yX5_has yX5_has, Cond.code yX5_has cX5_has 2 (some .boolean), Cond.methodLink RX6 155 yX5_headOf, Cond.instanceMethod yX5_headOf, Cond.selects RX5 yX5_headOf yX5_headOf, Cond.code yX5_headOf cX5_headOf 2 (some .int), Cond.methodLink RX6 159 yX5_textsOf, Cond.instanceMethod yX5_textsOf, Cond.selects RX5 yX5_textsOf yX5_textsOf, Cond.code yX5_textsOf cX5_textsOf 4 (some .int), Cond.methodLink RX6 162 yX5_wordsOf]
def wsL_law_r23 : List Cond := [Cond.instanceMethod yX5_wordsOf, Cond.selects RX5 yX5_wordsOf yX5_wordsOf, Cond.code yX5_wordsOf cX5_wordsOf 4 (some .int), Cond.fieldLink RX5 122 "StoryColumns$Blocks" "words" "[I", Cond.methodLink RX6 165 yX5_picturesOf, Cond.instanceMethod yX5_picturesOf, Cond.selects RX5 yX5_picturesOf yX5_picturesOf, Cond.code yX5_picturesOf cX5_picturesOf 4 (some .int), Cond.methodLink RX6 168 yX5_joinedOf, Cond.instanceMethod yX5_joinedOf, Cond.selects RX5 yX5_joinedOf yX5_joinedOf, Cond.code yX5_joinedOf cX5_joinedOf 4 (some .int), Cond.methodLink RX6 180 yX0_isBroken, Cond.instanceMethod yX0_isBroken, Cond.selects RX0 yX0_isBroken yX0_isBroken, Cond.code yX0_isBroken cX0_isBroken 2 (some .boolean), Cond.methodLink RL 78 yX7_ofStory, Cond.instanceMethod yX7_ofStory, Cond.selects RX7 yX7_ofStory yX7_ofStory, Cond.code yX7_ofStory cX7_ofStory 4 (some .int), Cond.methodLink RX7 181 yX7_isStory, Cond.instanceMethod yX7_isStory, Cond.selects RX7 yX7_isStory yX7_isStory, Cond.code yX7_isStory cX7_isStory 2 (some .boolean)]
def wsL_law_r24 : List Cond := [Cond.methodLink RX7 178 yX7_findArticles, Cond.instanceMethod yX7_findArticles, Cond.selects RX7 yX7_findArticles yX7_findArticles, Cond.code yX7_findArticles cX7_findArticles 3 none, Cond.fieldLink RX7 162 "StoryColumnsModel" "articles" "I", Cond.fieldLink RX7 165 "StoryColumnsModel" "laid" "I", Cond.methodLink RX7 168 yX7_onwardOf, Cond.instanceMethod yX7_onwardOf, Cond.selects RX7 yX7_onwardOf yX7_onwardOf, Cond.code yX7_onwardOf cX7_onwardOf 6 (some .int), Cond.methodLink RX7 171 yX7_aimBy, Cond.instanceMethod yX7_aimBy, Cond.selects RX7 yX7_aimBy yX7_aimBy, Cond.code yX7_aimBy cX7_aimBy 4 (some .int), Cond.methodLink RX7 174 yX7_lays, Cond.instanceMethod yX7_lays, Cond.selects RX7 yX7_lays yX7_lays, Cond.code yX7_lays cX7_lays 4 none, Cond.methodLink RX7 184 yX7_wordsIn, Cond.instanceMethod yX7_wordsIn, Cond.selects RX7 yX7_wordsIn yX7_wordsIn, Cond.code yX7_wordsIn cX7_wordsIn 5 (some .int), Cond.methodLink RX7 187 yX7_manyIn, Cond.instanceMethod yX7_manyIn]
def wsL_law_r25 : List Cond := [Cond.selects RX7 yX7_manyIn yX7_manyIn, Cond.code yX7_manyIn cX7_manyIn 6 (some .int), Cond.methodLink RX7 191 yX7_isBroken, Cond.instanceMethod yX7_isBroken, Cond.selects RX7 yX7_isBroken yX7_isBroken, Cond.code yX7_isBroken cX7_isBroken 2 (some .boolean), Cond.methodLink RL 79 yX6_text, Cond.instanceMethod yX6_text, Cond.selects RX6 yX6_text yX6_text, Cond.code yX6_text cX6_text 3 (some .int), Cond.methodLink RX6 183 yX5_textAt, Cond.instanceMethod yX5_textAt, Cond.selects RX5 yX5_textAt yX5_textAt, Cond.code yX5_textAt cX5_textAt 5 (some .int), Cond.methodLink RL 82 yX7_text, Cond.instanceMethod yX7_text, Cond.selects RX7 yX7_text yX7_text, Cond.code yX7_text cX7_text 4 (some .int), Cond.methodLink RL 83 yX6_mark, Cond.instanceMethod yX6_mark, Cond.selects RX6 yX6_mark yX6_mark, Cond.code yX6_mark cX6_mark 6 (some .int), Cond.methodLink RX6 186 yX3_has, Cond.methodLink RX6 188 yX3_put]
def wsL_law_r26 : List Cond := [Cond.methodLink RL 87 yX7_mark, Cond.instanceMethod yX7_mark, Cond.selects RX7 yX7_mark yX7_mark, Cond.code yX7_mark cX7_mark 6 (some .int), Cond.methodLink RL 88 yX6_unmark, Cond.instanceMethod yX6_unmark, Cond.selects RX6 yX6_unmark yX6_unmark, Cond.code yX6_unmark cX6_unmark 4 (some .int), Cond.methodLink RX6 192 yX3_forget, Cond.methodLink RL 91 yX7_unmark, Cond.instanceMethod yX7_unmark, Cond.selects RX7 yX7_unmark yX7_unmark, Cond.code yX7_unmark cX7_unmark 4 (some .int), Cond.methodLink RL 92 yX6_ofMark, Cond.instanceMethod yX6_ofMark, Cond.selects RX6 yX6_ofMark yX6_ofMark, Cond.code yX6_ofMark cX6_ofMark 4 (some .int), Cond.methodLink RX6 196 yX3_pageOf, Cond.methodLink RX6 199 yX3_wordOf, Cond.methodLink RL 95 yX7_ofMark, Cond.instanceMethod yX7_ofMark, Cond.selects RX7 yX7_ofMark yX7_ofMark, Cond.code yX7_ofMark cX7_ofMark 5 (some .int), Cond.methodLink RL 96 yX6_ofArticle]
def wsL_law_r27 : List Cond := [Cond.instanceMethod yX6_ofArticle, Cond.selects RX6 yX6_ofArticle yX6_ofArticle, Cond.code yX6_ofArticle cX6_ofArticle 3 (some .int), Cond.fieldLink RX6 203 "StoryColumns$Articles" "first" "[I", Cond.fieldLink RX6 206 "StoryColumns$Articles" "length" "[I", Cond.fieldLink RX6 217 "StoryColumns$Articles" "last" "[I", Cond.methodLink RX6 202 yX0_has, Cond.instanceMethod yX0_has, Cond.selects RX0 yX0_has yX0_has, Cond.code yX0_has cX0_has 2 (some .boolean), Cond.methodLink RX6 209 yX0_textsOf, Cond.instanceMethod yX0_textsOf, Cond.selects RX0 yX0_textsOf yX0_textsOf, Cond.code yX0_textsOf cX0_textsOf 4 (some .int), Cond.fieldLink RX0 94 "StoryColumns$Blocks" "kind" "[I", Cond.methodLink RX0 97 yX0_isReadIn, Cond.instanceMethod yX0_isReadIn, Cond.selects RX0 yX0_isReadIn yX0_isReadIn, Cond.code yX0_isReadIn cX0_isReadIn 4 (some .boolean), Cond.methodLink RX6 210 yX0_wordsOf, Cond.instanceMethod yX0_wordsOf, Cond.selects RX0 yX0_wordsOf yX0_wordsOf, Cond.code yX0_wordsOf cX0_wordsOf 4 (some .int), Cond.fieldLink RX0 100 "StoryColumns$Blocks" "words" "[I"]
def wsL_law_r28 : List Cond := [Cond.methodLink RX6 211 yX0_pagesOf, Cond.instanceMethod yX0_pagesOf, Cond.selects RX0 yX0_pagesOf yX0_pagesOf, Cond.code yX0_pagesOf cX0_pagesOf 4 (some .int), Cond.methodLink RX6 214 yX0_isRing, Cond.instanceMethod yX0_isRing, Cond.selects RX0 yX0_isRing yX0_isRing, Cond.code yX0_isRing cX0_isRing 2 (some .boolean), Cond.methodLink RL 99 yX7_ofArticle, Cond.instanceMethod yX7_ofArticle, Cond.selects RX7 yX7_ofArticle yX7_ofArticle, Cond.code yX7_ofArticle cX7_ofArticle 3 (some .int), Cond.methodLink RX7 194 yX7_isArticle, Cond.instanceMethod yX7_isArticle, Cond.selects RX7 yX7_isArticle yX7_isArticle, Cond.code yX7_isArticle cX7_isArticle 2 (some .boolean), Cond.methodLink RX7 197 yX7_sumOf, Cond.instanceMethod yX7_sumOf, Cond.selects RX7 yX7_sumOf yX7_sumOf, Cond.code yX7_sumOf cX7_sumOf 5 (some .int), Cond.methodLink RX7 200 yX7_pagesOf, Cond.instanceMethod yX7_pagesOf, Cond.selects RX7 yX7_pagesOf yX7_pagesOf, Cond.code yX7_pagesOf cX7_pagesOf 5 (some .int)]
def wsL_law_r29 : List Cond := [Cond.methodLink RL 100 yX6_read, Cond.instanceMethod yX6_read, Cond.selects RX6 yX6_read yX6_read, Cond.code yX6_read cX6_read 3 (some .int), Cond.methodLink RX6 220 yX0_blockAt, Cond.instanceMethod yX0_blockAt, Cond.selects RX0 yX0_blockAt yX0_blockAt, Cond.code yX0_blockAt cX0_blockAt 8 (some .int), Cond.methodLink RX0 103 yX5_headOf, Cond.methodLink RX0 106 yX5_textAt, Cond.methodLink RX0 109 yX5_textsOf, Cond.methodLink RL 103 yX7_read, Cond.instanceMethod yX7_read, Cond.selects RX7 yX7_read yX7_read, Cond.code yX7_read cX7_read 7 (some .int), Cond.methodLink RL 104 yX6_many, Cond.instanceMethod yX6_many, Cond.selects RX6 yX6_many yX6_many, Cond.code yX6_many cX6_many 2 (some .int), Cond.fieldLink RX6 226 "StoryColumns$Stories" "count" "I", Cond.fieldLink RX6 233 "StoryColumns$Articles" "count" "I", Cond.methodLink RX6 223 yX1_manyOf, Cond.instanceMethod yX1_manyOf, Cond.selects RX1 yX1_manyOf yX1_manyOf]
def wsL_law_r30 : List Cond := [Cond.code yX1_manyOf cX1_manyOf 4 (some .int), Cond.methodLink RX6 227 yX5_manyJoined, Cond.instanceMethod yX5_manyJoined, Cond.selects RX5 yX5_manyJoined yX5_manyJoined, Cond.code yX5_manyJoined cX5_manyJoined 3 (some .int), Cond.methodLink RX6 230 yX5_manyLeftOver, Cond.instanceMethod yX5_manyLeftOver, Cond.selects RX5 yX5_manyLeftOver yX5_manyLeftOver, Cond.code yX5_manyLeftOver cX5_manyLeftOver 1 (some .int), Cond.methodLink RX5 125 yX1_manyOf, Cond.methodLink RX6 234 yX0_manyRings, Cond.instanceMethod yX0_manyRings, Cond.selects RX0 yX0_manyRings yX0_manyRings, Cond.code yX0_manyRings cX0_manyRings 3 (some .int), Cond.methodLink RX0 112 yX0_isRing, Cond.methodLink RX6 237 yX0_manyBroken, Cond.instanceMethod yX0_manyBroken, Cond.selects RX0 yX0_manyBroken yX0_manyBroken, Cond.code yX0_manyBroken cX0_manyBroken 3 (some .int), Cond.methodLink RX0 116 yX0_isBroken, Cond.methodLink RX6 240 yX0_manyIdleFrom, Cond.instanceMethod yX0_manyIdleFrom, Cond.selects RX0 yX0_manyIdleFrom yX0_manyIdleFrom, Cond.code yX0_manyIdleFrom cX0_manyIdleFrom 4 (some .int)]
def wsL_law_r31 : List Cond := [Cond.methodLink RX6 243 yX5_manyLoosePictures, Cond.instanceMethod yX5_manyLoosePictures, Cond.selects RX5 yX5_manyLoosePictures yX5_manyLoosePictures, Cond.code yX5_manyLoosePictures cX5_manyLoosePictures 3 (some .int), Cond.methodLink RL 107 yX7_many, Cond.instanceMethod yX7_many, Cond.selects RX7 yX7_many yX7_many, Cond.code yX7_many cX7_many 2 (some .int), Cond.methodLink RX7 203 yX7_manyOfKind, Cond.instanceMethod yX7_manyOfKind, Cond.selects RX7 yX7_manyOfKind yX7_manyOfKind, Cond.code yX7_manyOfKind cX7_manyOfKind 4 (some .int), Cond.methodLink RX7 206 yX7_manyTexts, Cond.instanceMethod yX7_manyTexts, Cond.selects RX7 yX7_manyTexts yX7_manyTexts, Cond.code yX7_manyTexts cX7_manyTexts 5 (some .int), Cond.methodLink RX7 210 yX7_manyRings, Cond.instanceMethod yX7_manyRings, Cond.selects RX7 yX7_manyRings yX7_manyRings, Cond.code yX7_manyRings cX7_manyRings 3 (some .int), Cond.methodLink RX7 214 yX7_manyBroken, Cond.instanceMethod yX7_manyBroken, Cond.selects RX7 yX7_manyBroken yX7_manyBroken, Cond.code yX7_manyBroken cX7_manyBroken 3 (some .int)]
def wsL_law_r32 : List Cond := [Cond.methodLink RX7 217 yX7_manyIdle, Cond.instanceMethod yX7_manyIdle, Cond.selects RX7 yX7_manyIdle yX7_manyIdle, Cond.code yX7_manyIdle cX7_manyIdle 4 (some .int), Cond.methodLink RX7 220 yX7_manyLost, Cond.instanceMethod yX7_manyLost, Cond.selects RX7 yX7_manyLost yX7_manyLost, Cond.code yX7_manyLost cX7_manyLost 3 (some .int)]
def wsL_law : List Cond := (wsL_law_r1 ++ (wsL_law_r2 ++ (wsL_law_r3 ++ (wsL_law_r4 ++ (wsL_law_r5 ++ (wsL_law_r6 ++ (wsL_law_r7 ++ (wsL_law_r8 ++ (wsL_law_r9 ++ (wsL_law_r10 ++ (wsL_law_r11 ++ (wsL_law_r12 ++ (wsL_law_r13 ++ (wsL_law_r14 ++ (wsL_law_r15 ++ (wsL_law_r16 ++ (wsL_law_r17 ++ (wsL_law_r18 ++ (wsL_law_r19 ++ (wsL_law_r20 ++ (wsL_law_r21 ++ (wsL_law_r22 ++ (wsL_law_r23 ++ (wsL_law_r24 ++ (wsL_law_r25 ++ (wsL_law_r26 ++ (wsL_law_r27 ++ (wsL_law_r28 ++ (wsL_law_r29 ++ (wsL_law_r30 ++ (wsL_law_r31 ++ wsL_law_r32))))))))))))))))))))))))))))))) ++ wsX60 ++ wsX70 ++ wsX10 ++ wsX30 ++ wsX20 ++ wsX40 ++ wsX50 ++ wsX00 ++ ([] : List Cond)
set_option maxRecDepth 20000 in
theorem in_r (ws : List Cond) (ps : List Nat) (hp : ws = ps.filterMap (fun i => lw_tbl[i]?)) : ∀ w ∈ ws, w ∈ lw_tbl := by
  intro w hw
  rw [hp] at hw
  obtain ⟨i, -, hi⟩ := List.mem_filterMap.mp hw
  exact List.mem_of_getElem? hi
theorem in_a {a b : List Cond} (ha : ∀ w ∈ a, w ∈ lw_tbl) (hb : ∀ w ∈ b, w ∈ lw_tbl) : ∀ w ∈ a ++ b, w ∈ lw_tbl := fun w h => (List.mem_append.mp h).elim (ha w) (hb w)
theorem wsL_in_r1 : ∀ w ∈ wsL_law_r1, w ∈ lw_tbl := in_r _ [55, 56, 46, 646, 647, 53, 57, 58, 59, 60, 61, 62, 63, 64, 47, 274, 122, 123, 48, 275, 135, 136, 49, 276] (by decide +kernel)
theorem wsL_in_r2 : ∀ w ∈ wsL_law_r2, w ∈ lw_tbl := in_r _ [166, 167, 50, 277, 179, 180, 51, 278, 227, 228, 52, 279, 280, 66, 67, 68, 121, 74, 79, 84, 88, 92, 96, 100] (by decide +kernel)
theorem wsL_in_r3 : ∀ w ∈ wsL_law_r3, w ∈ lw_tbl := in_r _ [125, 126, 127, 128, 129, 138, 139, 140, 143, 145, 147, 149, 151, 168, 169, 170, 171, 172, 173, 181, 182, 183, 184, 191] (by decide +kernel)
theorem wsL_in_r4 : ∀ w ∈ wsL_law_r4, w ∈ lw_tbl := in_r _ [193, 195, 196, 199, 200, 185, 186, 187, 229, 230, 231, 232, 238, 239, 241, 243, 245, 247, 249, 233, 234, 235, 648, 649] (by decide +kernel)
theorem wsL_in_r5 : ∀ w ∈ wsL_law_r5, w ∈ lw_tbl := in_r _ [650, 651, 653, 654, 655, 656, 657, 658, 659, 660, 661, 663, 664, 665, 666, 667, 668, 669, 670, 671, 672, 674, 675, 755] (by decide +kernel)
theorem wsL_in_r6 : ∀ w ∈ wsL_law_r6, w ∈ lw_tbl := in_r _ [676, 677, 678, 679, 681, 682, 683, 684, 296, 297, 298, 299, 71, 300, 301, 302, 303, 304, 305, 306, 307, 308, 309, 310] (by decide +kernel)
theorem wsL_in_r7 : ∀ w ∈ wsL_law_r7, w ∈ lw_tbl := in_r _ [311, 312, 313, 69, 314, 315, 316, 317, 318, 319, 320, 321, 322, 323, 324, 325, 326, 327, 328, 329, 756, 757, 758, 759] (by decide +kernel)
theorem wsL_in_r8 : ∀ w ∈ wsL_law_r8, w ∈ lw_tbl := in_r _ [652, 760, 761, 762, 763, 765, 14, 766, 330, 331, 332, 333, 81, 101, 334, 335, 336, 337, 767, 768, 769, 770, 771, 773] (by decide +kernel)
theorem wsL_in_r9 : ∀ w ∈ wsL_law_r9, w ∈ lw_tbl := in_r _ [15, 774, 338, 339, 340, 341, 142, 342, 343, 344, 345, 141, 775, 776, 777, 778, 662, 346, 347, 348, 349, 779, 780, 781] (by decide +kernel)
theorem wsL_in_r10 : ∀ w ∈ wsL_law_r10, w ∈ lw_tbl := in_r _ [782, 350, 351, 352, 353, 783, 784, 785, 786, 354, 355, 356, 357, 787, 788, 789, 790, 358, 359, 360, 361, 362, 363, 364] (by decide +kernel)
theorem wsL_in_r11 : ∀ w ∈ wsL_law_r11, w ∈ lw_tbl := in_r _ [365, 366, 367, 368, 369, 791, 792, 793, 794, 370, 371, 372, 373, 78, 87, 91, 95, 98, 795, 796, 797, 798, 374, 375] (by decide +kernel)
theorem wsL_in_r12 : ∀ w ∈ wsL_law_r12, w ∈ lw_tbl := in_r _ [376, 377, 144, 146, 148, 150, 152, 378, 379, 380, 381, 799, 800, 801, 802, 382, 383, 384, 385, 386, 803, 804, 805, 806] (by decide +kernel)
theorem wsL_in_r13 : ∀ w ∈ wsL_law_r13, w ∈ lw_tbl := in_r _ [387, 388, 389, 390, 391, 392, 393, 394, 85, 75, 97, 415, 408, 54, 409, 395, 396, 397, 398, 89, 399, 400, 401, 402] (by decide +kernel)
theorem wsL_in_r14 : ∀ w ∈ wsL_law_r14, w ∈ lw_tbl := in_r _ [403, 404, 405, 406, 407, 410, 411, 412, 413, 414, 807, 808, 809, 810, 811, 813, 16, 814, 815, 817, 17, 818, 819, 821] (by decide +kernel)
theorem wsL_in_r15 : ∀ w ∈ wsL_law_r15, w ∈ lw_tbl := in_r _ [18, 822, 823, 825, 19, 826, 416, 417, 418, 419, 192, 420, 422, 0, 423, 424, 425, 426, 427, 202, 70, 80, 428, 429] (by decide +kernel)
theorem wsL_in_r16 : ∀ w ∈ wsL_law_r16, w ∈ lw_tbl := in_r _ [430, 431, 72, 93, 82, 432, 433, 435, 1, 436, 437, 439, 2, 440, 441, 442, 443, 444, 445, 447, 3, 448, 449, 451] (by decide +kernel)
theorem wsL_in_r17 : ∀ w ∈ wsL_law_r17, w ∈ lw_tbl := in_r _ [4, 452, 453, 455, 5, 456, 94, 457, 459, 6, 460, 77, 90, 86, 461, 462, 463, 99, 464, 465, 466, 468, 7, 469] (by decide +kernel)
theorem wsL_in_r18 : ∀ w ∈ wsL_law_r18, w ∈ lw_tbl := in_r _ [470, 472, 8, 473, 189, 474, 475, 476, 477, 236, 188, 478, 480, 9, 481, 203, 201, 197, 482, 483, 484, 485, 486, 487] (by decide +kernel)
theorem wsL_in_r19 : ∀ w ∈ wsL_law_r19, w ∈ lw_tbl := in_r _ [488, 489, 490, 492, 10, 493, 494, 496, 11, 497, 73, 76, 498, 499, 500, 501, 502, 503, 505, 12, 506, 827, 828, 829] (by decide +kernel)
theorem wsL_in_r20 : ∀ w ∈ wsL_law_r20, w ∈ lw_tbl := in_r _ [830, 831, 833, 20, 834, 507, 508, 509, 510, 198, 835, 836, 837, 838, 839, 841, 21, 842, 673, 843, 845, 22, 846, 847] (by decide +kernel)
theorem wsL_in_r21 : ∀ w ∈ wsL_law_r21, w ∈ lw_tbl := in_r _ [849, 23, 850, 851, 853, 24, 854, 855, 857, 25, 858, 859, 861, 26, 862, 863, 865, 27, 866, 511, 512, 513, 514, 194] (by decide +kernel)
theorem wsL_in_r22 : ∀ w ∈ wsL_law_r22, w ∈ lw_tbl := in_r _ [867, 868, 869, 870, 515, 516, 517, 518, 240, 242, 244, 519, 520, 521, 522, 523, 524, 525, 526, 527, 528, 529, 530, 531] (by decide +kernel)
theorem wsL_in_r23 : ∀ w ∈ wsL_law_r23, w ∈ lw_tbl := in_r _ [532, 533, 534, 103, 535, 536, 537, 538, 539, 540, 541, 542, 543, 544, 545, 546, 883, 884, 885, 886, 887, 889, 28, 890] (by decide +kernel)
theorem wsL_in_r24 : ∀ w ∈ wsL_law_r24, w ∈ lw_tbl := in_r _ [891, 893, 29, 894, 680, 685, 895, 897, 30, 898, 899, 901, 31, 902, 903, 905, 32, 906, 907, 909, 33, 910, 911, 913] (by decide +kernel)
theorem wsL_in_r25 : ∀ w ∈ wsL_law_r25, w ∈ lw_tbl := in_r _ [34, 914, 915, 917, 35, 918, 547, 548, 549, 550, 551, 552, 553, 554, 919, 920, 921, 922, 555, 556, 557, 558, 559, 560] (by decide +kernel)
theorem wsL_in_r26 : ∀ w ∈ wsL_law_r26, w ∈ lw_tbl := in_r _ [871, 872, 873, 874, 561, 562, 563, 564, 565, 875, 876, 877, 878, 566, 567, 568, 569, 570, 571, 879, 880, 881, 882, 572] (by decide +kernel)
theorem wsL_in_r27 : ∀ w ∈ wsL_law_r27, w ∈ lw_tbl := in_r _ [573, 574, 575, 246, 250, 248, 576, 577, 578, 579, 580, 581, 582, 583, 83, 584, 586, 13, 587, 588, 589, 590, 591, 102] (by decide +kernel)
theorem wsL_in_r28 : ∀ w ∈ wsL_law_r28, w ∈ lw_tbl := in_r _ [592, 593, 594, 595, 596, 597, 598, 599, 923, 924, 925, 926, 927, 929, 36, 930, 931, 933, 37, 934, 935, 937, 38, 938] (by decide +kernel)
theorem wsL_in_r29 : ∀ w ∈ wsL_law_r29, w ∈ lw_tbl := in_r _ [600, 601, 602, 603, 604, 605, 606, 607, 608, 609, 610, 939, 940, 941, 942, 611, 612, 613, 614, 190, 237, 615, 616, 617] (by decide +kernel)
theorem wsL_in_r30 : ∀ w ∈ wsL_law_r30, w ∈ lw_tbl := in_r _ [618, 619, 620, 621, 622, 623, 624, 625, 626, 627, 628, 629, 630, 631, 632, 633, 634, 635, 636, 637, 638, 639, 640, 641] (by decide +kernel)
theorem wsL_in_r31 : ∀ w ∈ wsL_law_r31, w ∈ lw_tbl := in_r _ [642, 643, 644, 645, 943, 944, 945, 946, 947, 949, 39, 950, 951, 953, 40, 954, 955, 957, 41, 958, 959, 961, 42, 962] (by decide +kernel)
theorem wsL_in_r32 : ∀ w ∈ wsL_law_r32, w ∈ lw_tbl := in_r _ [963, 965, 43, 966, 967, 969, 44, 970] (by decide +kernel)
theorem wsL_in_x6 : ∀ w ∈ wsX60, w ∈ lw_tbl := in_r _ [281, 283, 285, 287, 289, 291, 293] (by decide +kernel)
theorem wsL_in_x7 : ∀ w ∈ wsX70, w ∈ lw_tbl := in_r _ [686, 688, 690, 692, 694, 696, 698, 700, 702, 704, 706, 708, 710, 712, 714, 716, 718, 720, 722, 724, 726, 728, 730, 732, 734, 736, 738, 740, 742, 744, 746, 748, 750, 752] (by decide +kernel)
theorem wsL_in_x1 : ∀ w ∈ wsX10, w ∈ lw_tbl := in_r _ [104, 106, 108, 110, 112, 114, 116, 118] (by decide +kernel)
theorem wsL_in_x3 : ∀ w ∈ wsX30, w ∈ lw_tbl := in_r _ [130, 132] (by decide +kernel)
theorem wsL_in_x2 : ∀ w ∈ wsX20, w ∈ lw_tbl := in_r _ [153, 155, 157, 159, 161, 163] (by decide +kernel)
theorem wsL_in_x4 : ∀ w ∈ wsX40, w ∈ lw_tbl := in_r _ [174, 176] (by decide +kernel)
theorem wsL_in_x5 : ∀ w ∈ wsX50, w ∈ lw_tbl := in_r _ [204, 206, 208, 210, 212, 214, 216, 218, 220, 222, 224] (by decide +kernel)
theorem wsL_in_x0 : ∀ w ∈ wsX00, w ∈ lw_tbl := in_r _ [251, 253, 255, 257, 259, 261, 263, 265, 267, 269, 271] (by decide +kernel)
theorem wsL_law_in : ∀ w ∈ wsL_law, w ∈ lw_tbl := (in_a (in_a (in_a (in_a (in_a (in_a (in_a (in_a (in_a (in_a wsL_in_r1 (in_a wsL_in_r2 (in_a wsL_in_r3 (in_a wsL_in_r4 (in_a wsL_in_r5 (in_a wsL_in_r6 (in_a wsL_in_r7 (in_a wsL_in_r8 (in_a wsL_in_r9 (in_a wsL_in_r10 (in_a wsL_in_r11 (in_a wsL_in_r12 (in_a wsL_in_r13 (in_a wsL_in_r14 (in_a wsL_in_r15 (in_a wsL_in_r16 (in_a wsL_in_r17 (in_a wsL_in_r18 (in_a wsL_in_r19 (in_a wsL_in_r20 (in_a wsL_in_r21 (in_a wsL_in_r22 (in_a wsL_in_r23 (in_a wsL_in_r24 (in_a wsL_in_r25 (in_a wsL_in_r26 (in_a wsL_in_r27 (in_a wsL_in_r28 (in_a wsL_in_r29 (in_a wsL_in_r30 (in_a wsL_in_r31 wsL_in_r32))))))))))))))))))))))))))))))) wsL_in_x6) wsL_in_x7) wsL_in_x1) wsL_in_x3) wsL_in_x2) wsL_in_x4) wsL_in_x5) wsL_in_x0) (fun _ h => absurd h List.not_mem_nil))
theorem wsL_good : wsL_law.all goodWord = true := by decide +kernel
theorem inlX0 : ∀ w ∈ wsX00, w ∈ wsL_law := fun _ h => List.mem_append_left _ (List.mem_append_right _ h)
theorem inX0 : ∀ w ∈ wsX00, w ∈ lw_tbl := fun w h => wsL_law_in w (inlX0 w h)
theorem inlX1 : ∀ w ∈ wsX10, w ∈ wsL_law := fun _ h => List.mem_append_left _ (List.mem_append_left _ (List.mem_append_left _ (List.mem_append_left _ (List.mem_append_left _ (List.mem_append_left _ (List.mem_append_right _ h))))))
theorem inX1 : ∀ w ∈ wsX10, w ∈ lw_tbl := fun w h => wsL_law_in w (inlX1 w h)
theorem inlX2 : ∀ w ∈ wsX20, w ∈ wsL_law := fun _ h => List.mem_append_left _ (List.mem_append_left _ (List.mem_append_left _ (List.mem_append_left _ (List.mem_append_right _ h))))
theorem inX2 : ∀ w ∈ wsX20, w ∈ lw_tbl := fun w h => wsL_law_in w (inlX2 w h)
theorem inlX3 : ∀ w ∈ wsX30, w ∈ wsL_law := fun _ h => List.mem_append_left _ (List.mem_append_left _ (List.mem_append_left _ (List.mem_append_left _ (List.mem_append_left _ (List.mem_append_right _ h)))))
theorem inX3 : ∀ w ∈ wsX30, w ∈ lw_tbl := fun w h => wsL_law_in w (inlX3 w h)
theorem inlX4 : ∀ w ∈ wsX40, w ∈ wsL_law := fun _ h => List.mem_append_left _ (List.mem_append_left _ (List.mem_append_left _ (List.mem_append_right _ h)))
theorem inX4 : ∀ w ∈ wsX40, w ∈ lw_tbl := fun w h => wsL_law_in w (inlX4 w h)
theorem inlX5 : ∀ w ∈ wsX50, w ∈ wsL_law := fun _ h => List.mem_append_left _ (List.mem_append_left _ (List.mem_append_right _ h))
theorem inX5 : ∀ w ∈ wsX50, w ∈ lw_tbl := fun w h => wsL_law_in w (inlX5 w h)
theorem inlX6 : ∀ w ∈ wsX60, w ∈ wsL_law := fun _ h => List.mem_append_left _ (List.mem_append_left _ (List.mem_append_left _ (List.mem_append_left _ (List.mem_append_left _ (List.mem_append_left _ (List.mem_append_left _ (List.mem_append_left _ (List.mem_append_right _ h))))))))
theorem inX6 : ∀ w ∈ wsX60, w ∈ lw_tbl := fun w h => wsL_law_in w (inlX6 w h)
theorem inlX7 : ∀ w ∈ wsX70, w ∈ wsL_law := fun _ h => List.mem_append_left _ (List.mem_append_left _ (List.mem_append_left _ (List.mem_append_left _ (List.mem_append_left _ (List.mem_append_left _ (List.mem_append_left _ (List.mem_append_right _ h)))))))
theorem inX7 : ∀ w ∈ wsX70, w ∈ lw_tbl := fun w h => wsL_law_in w (inlX7 w h)
theorem inJ9 : ∀ w ∈ wsJ90, w ∈ lw_tbl := by decide +kernel

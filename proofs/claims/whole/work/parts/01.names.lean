/-! ===== BEGIN words of one list among another's, by their places ===== -/
theorem goodIn_r {big : List Cond} (ws : List Cond) (ps : List Nat) (hp : ws = ps.filterMap (fun i => big[i]?)) (h : ws.all goodWord = true) : GoodIn big ws := by
  intro w hw
  have h1 := List.all_eq_true.mp h w hw
  rw [hp] at hw
  obtain ⟨i, -, hi⟩ := List.mem_filterMap.mp hw
  have hm : w ∈ big := by first | exact List.mem_of_getElem? hi | exact List.getElem?_mem hi
  exact ⟨hm, good_of_word h1⟩
theorem goodIn_app {big a b : List Cond} (ha : GoodIn big a) (hb : GoodIn big b) : GoodIn big (a ++ b) := fun w h => (List.mem_append.mp h).elim (ha w) (hb w)
theorem goodIn_ca {big a b : List Cond} {c : Cond} (ha : GoodIn big (c :: a)) (hb : GoodIn big b) : GoodIn big (c :: (a ++ b)) := fun w h => (List.mem_cons.mp h).elim (fun e => ha w (List.mem_cons.mpr (Or.inl e))) (fun h => (List.mem_append.mp h).elim (fun h => ha w (List.mem_cons.mpr (Or.inr h))) (hb w))
theorem goodIn_sub {big ws : List Cond} (hm : ∀ w ∈ ws, w ∈ big) (h : ws.all goodWord = true) : GoodIn big ws := fun w hw => ⟨hm w hw, good_of_word (List.all_eq_true.mp h w hw)⟩
/-! ===== END ===== -/

/-! ===== BEGIN printed: names, fields, word lists, decode rows ===== -/
def RX0 : String := "OneSentence$Day"
def TX0 : u_T := fun k => match k with
  | 0 => ("OneSentence$Day", "talk", "LOneSentence$Talk;", true)
  | 1 => ("OneSentence$Day", "at", "I", false)
  | 2 => ("OneSentence$Day", "hour", "I", false)
  | _ => ("OneSentence$Day", "sentence", "[I", true)
def tyX0 : Nat → FieldType := fun k => match k with
  | 0 => .object "OneSentence$Talk"
  | 1 => .int
  | 2 => .int
  | _ => .array .int
abbrev wsX00 : List Cond := u_ws RX0 TX0 4
theorem nmX0 : ∀ a, a < 4 → ∀ b, b < 4 → a ≠ b → (TX0 a).2.1 ≠ (TX0 b).2.1 := by decide +kernel
theorem tyX0_ok : ∀ k, k < 4 → parseFieldDescriptor (TX0 k).2.2.1 = some (tyX0 k) := by decide +kernel
abbrev cX0_init : ByteArray := prog_2_method_1_code
def yX0_init : MethodName := ⟨RX0, "<init>", "()V"⟩
abbrev cX0_begin : ByteArray := prog_2_method_2_code
def yX0_begin : MethodName := ⟨RX0, "begin", "()V"⟩
abbrev cX0_become : ByteArray := prog_2_method_3_code
def yX0_become : MethodName := ⟨RX0, "become", "(LOneSentence$Day;)V"⟩
def RX1 : String := "OneSentence$Rows"
def TX1 : u_T := fun k => match k with
  | 0 => ("OneSentence$Rows", "who", "[I", true)
  | _ => ("OneSentence$Rows", "size", "I", false)
def tyX1 : Nat → FieldType := fun k => match k with
  | 0 => .array .int
  | _ => .int
abbrev wsX10 : List Cond := u_ws RX1 TX1 2
theorem nmX1 : ∀ a, a < 2 → ∀ b, b < 2 → a ≠ b → (TX1 a).2.1 ≠ (TX1 b).2.1 := by decide +kernel
theorem tyX1_ok : ∀ k, k < 2 → parseFieldDescriptor (TX1 k).2.2.1 = some (tyX1 k) := by decide +kernel
abbrev cX1_init : ByteArray := prog_3_method_1_code
def yX1_init : MethodName := ⟨RX1, "<init>", "()V"⟩
abbrev cX1_by : ByteArray := prog_3_method_2_code
def yX1_by : MethodName := ⟨RX1, "by", "(I)V"⟩
abbrev cX1_many : ByteArray := prog_3_method_3_code
def yX1_many : MethodName := ⟨RX1, "many", "(I)I"⟩
abbrev cX1_told : ByteArray := prog_3_method_4_code
def yX1_told : MethodName := ⟨RX1, "told", "(II)I"⟩
def RX2 : String := "OneSentence$Talk"
def TX2 : u_T := fun k => match k with
  | 0 => ("OneSentence$Talk", "sense", "I", false)
  | 1 => ("OneSentence$Talk", "last", "I", false)
  | 2 => ("OneSentence$Talk", "lastNoEcho", "I", false)
  | _ => ("OneSentence$Talk", "times", "[I", true)
def tyX2 : Nat → FieldType := fun k => match k with
  | 0 => .int
  | 1 => .int
  | 2 => .int
  | _ => .array .int
abbrev wsX20 : List Cond := u_ws RX2 TX2 4
theorem nmX2 : ∀ a, a < 4 → ∀ b, b < 4 → a ≠ b → (TX2 a).2.1 ≠ (TX2 b).2.1 := by decide +kernel
theorem tyX2_ok : ∀ k, k < 4 → parseFieldDescriptor (TX2 k).2.2.1 = some (tyX2 k) := by decide +kernel
abbrev cX2_init : ByteArray := prog_4_method_1_code
def yX2_init : MethodName := ⟨RX2, "<init>", "()V"⟩
abbrev cX2_begin : ByteArray := prog_4_method_2_code
def yX2_begin : MethodName := ⟨RX2, "begin", "()V"⟩
abbrev cX2_become : ByteArray := prog_4_method_3_code
def yX2_become : MethodName := ⟨RX2, "become", "(LOneSentence$Talk;)V"⟩
abbrev cX2_utter : ByteArray := prog_4_method_4_code
def yX2_utter : MethodName := ⟨RX2, "utter", "(III)V"⟩
abbrev cX2_made : ByteArray := prog_4_method_5_code
def yX2_made : MethodName := ⟨RX2, "made", "(II)I"⟩
def RX3 : String := "OneSentence"
def TX3 : u_T := fun k => match k with
  | 0 => ("OneSentence", "text", "[C", true)
  | 1 => ("OneSentence", "letters", "I", false)
  | 2 => ("OneSentence", "market", "I", false)
  | 3 => ("OneSentence", "people", "I", false)
  | 4 => ("OneSentence", "home", "[I", true)
  | 5 => ("OneSentence", "kind", "[I", true)
  | 6 => ("OneSentence", "today", "LOneSentence$Day;", true)
  | 7 => ("OneSentence", "past", "[LOneSentence$Day;", true)
  | 8 => ("OneSentence", "firstAct", "I", false)
  | 9 => ("OneSentence", "acts", "I", false)
  | 10 => ("OneSentence", "slots", "[LOneSentence$Day;", true)
  | 11 => ("OneSentence", "isKept", "[Z", true)
  | 12 => ("OneSentence", "theSeed", "J", false)
  | 13 => ("OneSentence", "trial", "LOneSentence$Talk;", true)
  | 14 => ("OneSentence", "rows", "LOneSentence$Rows;", true)
  | 15 => ("OneSentence", "oneMoreSentence", "I", false)
  | 16 => ("OneSentence", "seenBehind", "[I", true)
  | _ => ("OneSentence", "outcomes", "[I", true)
def tyX3 : Nat → FieldType := fun k => match k with
  | 0 => .array .char
  | 1 => .int
  | 2 => .int
  | 3 => .int
  | 4 => .array .int
  | 5 => .array .int
  | 6 => .object "OneSentence$Day"
  | 7 => .array (.object "OneSentence$Day")
  | 8 => .int
  | 9 => .int
  | 10 => .array (.object "OneSentence$Day")
  | 11 => .array .boolean
  | 12 => .long
  | 13 => .object "OneSentence$Talk"
  | 14 => .object "OneSentence$Rows"
  | 15 => .int
  | 16 => .array .int
  | _ => .array .int
abbrev wsX30 : List Cond := u_ws RX3 TX3 18
theorem nmX3 : ∀ a, a < 18 → ∀ b, b < 18 → a ≠ b → (TX3 a).2.1 ≠ (TX3 b).2.1 := by decide +kernel
theorem tyX3_ok : ∀ k, k < 18 → parseFieldDescriptor (TX3 k).2.2.1 = some (tyX3 k) := by decide +kernel
abbrev cX3_init : ByteArray := prog_1_method_1_code
def yX3_init : MethodName := ⟨RX3, "<init>", "()V"⟩
abbrev cX3_write : ByteArray := prog_1_method_2_code
def yX3_write : MethodName := ⟨RX3, "write", "(I)I"⟩
abbrev cX3_wipe : ByteArray := prog_1_method_3_code
def yX3_wipe : MethodName := ⟨RX3, "wipe", "()I"⟩
abbrev cX3_fault : ByteArray := prog_1_method_4_code
def yX3_fault : MethodName := ⟨RX3, "fault", "()I"⟩
abbrev cX3_island : ByteArray := prog_1_method_5_code
def yX3_island : MethodName := ⟨RX3, "island", "()I"⟩
abbrev cX3_person : ByteArray := prog_1_method_6_code
def yX3_person : MethodName := ⟨RX3, "person", "(II)I"⟩
abbrev cX3_fetch : ByteArray := prog_1_method_7_code
def yX3_fetch : MethodName := ⟨RX3, "fetch", "(I)I"⟩
abbrev cX3_send : ByteArray := prog_1_method_8_code
def yX3_send : MethodName := ⟨RX3, "send", "(I)I"⟩
abbrev cX3_say : ByteArray := prog_1_method_9_code
def yX3_say : MethodName := ⟨RX3, "say", "(I)I"⟩
abbrev cX3_name : ByteArray := prog_1_method_10_code
def yX3_name : MethodName := ⟨RX3, "name", "(III)I"⟩
abbrev cX3_undo : ByteArray := prog_1_method_11_code
def yX3_undo : MethodName := ⟨RX3, "undo", "()I"⟩
abbrev cX3_comesTo : ByteArray := prog_1_method_12_code
def yX3_comesTo : MethodName := ⟨RX3, "comesTo", "(III)I"⟩
abbrev cX3_fewest : ByteArray := prog_1_method_13_code
def yX3_fewest : MethodName := ⟨RX3, "fewest", "(IZ)I"⟩
abbrev cX3_can : ByteArray := prog_1_method_14_code
def yX3_can : MethodName := ⟨RX3, "can", "(I)I"⟩
abbrev cX3_toFetch : ByteArray := prog_1_method_15_code
def yX3_toFetch : MethodName := ⟨RX3, "toFetch", "(IZ)I"⟩
abbrev cX3_needed : ByteArray := prog_1_method_16_code
def yX3_needed : MethodName := ⟨RX3, "needed", "()I"⟩
abbrev cX3_naming : ByteArray := prog_1_method_17_code
def yX3_naming : MethodName := ⟨RX3, "naming", "(IZ)I"⟩
abbrev cX3_spoken : ByteArray := prog_1_method_18_code
def yX3_spoken : MethodName := ⟨RX3, "spoken", "(III)I"⟩
abbrev cX3_quarrel : ByteArray := prog_1_method_19_code
def yX3_quarrel : MethodName := ⟨RX3, "quarrel", "(IIZ)I"⟩
abbrev cX3_share : ByteArray := prog_1_method_20_code
def yX3_share : MethodName := ⟨RX3, "share", "(IIZ)I"⟩
abbrev cX3_rests : ByteArray := prog_1_method_21_code
def yX3_rests : MethodName := ⟨RX3, "rests", "(IIIII)I"⟩
abbrev cX3_chance : ByteArray := prog_1_method_22_code
def yX3_chance : MethodName := ⟨RX3, "chance", "(IIZ)I"⟩
abbrev cX3_seed : ByteArray := prog_1_method_23_code
def yX3_seed : MethodName := ⟨RX3, "seed", "(J)J"⟩
abbrev cX3_nights : ByteArray := prog_1_method_24_code
def yX3_nights : MethodName := ⟨RX3, "nights", "(I)I"⟩
abbrev cX3_keep : ByteArray := prog_1_method_25_code
def yX3_keep : MethodName := ⟨RX3, "keep", "(I)I"⟩
abbrev cX3_again : ByteArray := prog_1_method_26_code
def yX3_again : MethodName := ⟨RX3, "again", "(I)I"⟩
abbrev cX3_count : ByteArray := prog_1_method_27_code
def yX3_count : MethodName := ⟨RX3, "count", "(I)I"⟩
abbrev cX3_firstFault : ByteArray := prog_1_method_28_code
def yX3_firstFault : MethodName := ⟨RX3, "firstFault", "()I"⟩
abbrev cX3_fits : ByteArray := prog_1_method_29_code
def yX3_fits : MethodName := ⟨RX3, "fits", "(IC)Z"⟩
abbrev cX3_isFigure : ByteArray := prog_1_method_30_code
def yX3_isFigure : MethodName := ⟨RX3, "isFigure", "(CI)Z"⟩
abbrev cX3_figureIn : ByteArray := prog_1_method_31_code
def yX3_figureIn : MethodName := ⟨RX3, "figureIn", "(I)I"⟩
abbrev cX3_settle : ByteArray := prog_1_method_32_code
def yX3_settle : MethodName := ⟨RX3, "settle", "(II)V"⟩
abbrev cX3_isThere : ByteArray := prog_1_method_33_code
def yX3_isThere : MethodName := ⟨RX3, "isThere", "(I)Z"⟩
abbrev cX3_everybody : ByteArray := prog_1_method_34_code
def yX3_everybody : MethodName := ⟨RX3, "everybody", "()I"⟩
abbrev cX3_has : ByteArray := prog_1_method_35_code
def yX3_has : MethodName := ⟨RX3, "has", "(II)Z"⟩
abbrev cX3_isSense : ByteArray := prog_1_method_36_code
def yX3_isSense : MethodName := ⟨RX3, "isSense", "(I)Z"⟩
abbrev cX3_maySpeak : ByteArray := prog_1_method_37_code
def yX3_maySpeak : MethodName := ⟨RX3, "maySpeak", "(LOneSentence$Talk;II)Z"⟩
abbrev cX3_whoMay : ByteArray := prog_1_method_38_code
def yX3_whoMay : MethodName := ⟨RX3, "whoMay", "()I"⟩
abbrev cX3_sentenceOf : ByteArray := prog_1_method_39_code
def yX3_sentenceOf : MethodName := ⟨RX3, "sentenceOf", "(I)I"⟩
abbrev cX3_speak : ByteArray := prog_1_method_40_code
def yX3_speak : MethodName := ⟨RX3, "speak", "(LOneSentence$Talk;I)V"⟩
abbrev cX3_hoursFrom : ByteArray := prog_1_method_41_code
def yX3_hoursFrom : MethodName := ⟨RX3, "hoursFrom", "(I)I"⟩
abbrev cX3_hoursFor : ByteArray := prog_1_method_42_code
def yX3_hoursFor : MethodName := ⟨RX3, "hoursFor", "(I)I"⟩
abbrev cX3_remember : ByteArray := prog_1_method_43_code
def yX3_remember : MethodName := ⟨RX3, "remember", "()V"⟩
abbrev cX3_forgetActs : ByteArray := prog_1_method_44_code
def yX3_forgetActs : MethodName := ⟨RX3, "forgetActs", "()V"⟩
abbrev cX3_play : ByteArray := prog_1_method_45_code
def yX3_play : MethodName := ⟨RX3, "play", "(III)I"⟩
abbrev cX3_playWhoMay : ByteArray := prog_1_method_46_code
def yX3_playWhoMay : MethodName := ⟨RX3, "playWhoMay", "(II)V"⟩
abbrev cX3_isTold : ByteArray := prog_1_method_47_code
def yX3_isTold : MethodName := ⟨RX3, "isTold", "(IIII)Z"⟩
abbrev cX3_personIn : ByteArray := prog_1_method_48_code
def yX3_personIn : MethodName := ⟨RX3, "personIn", "(III)I"⟩
abbrev cX3_speakersIn : ByteArray := prog_1_method_49_code
def yX3_speakersIn : MethodName := ⟨RX3, "speakersIn", "(II)I"⟩
abbrev cX3_leastRow : ByteArray := prog_1_method_50_code
def yX3_leastRow : MethodName := ⟨RX3, "leastRow", "(II)I"⟩
abbrev cX3_sensesBy : ByteArray := prog_1_method_51_code
def yX3_sensesBy : MethodName := ⟨RX3, "sensesBy", "(II)I"⟩
abbrev cX3_bestFetch : ByteArray := prog_1_method_52_code
def yX3_bestFetch : MethodName := ⟨RX3, "bestFetch", "(III)I"⟩
abbrev cX3_isCheaper : ByteArray := prog_1_method_53_code
def yX3_isCheaper : MethodName := ⟨RX3, "isCheaper", "(II)Z"⟩
abbrev cX3_gain : ByteArray := prog_1_method_54_code
def yX3_gain : MethodName := ⟨RX3, "gain", "(III)I"⟩
abbrev cX3_orders : ByteArray := prog_1_method_55_code
def yX3_orders : MethodName := ⟨RX3, "orders", "(I)I"⟩
abbrev cX3_playOutcomes : ByteArray := prog_1_method_56_code
def yX3_playOutcomes : MethodName := ⟨RX3, "playOutcomes", "(II)V"⟩
abbrev cX3_isRest : ByteArray := prog_1_method_57_code
def yX3_isRest : MethodName := ⟨RX3, "isRest", "(IIII)Z"⟩
abbrev cX3_apart : ByteArray := prog_1_method_58_code
def yX3_apart : MethodName := ⟨RX3, "apart", "(III)I"⟩
abbrev cX3_fraction : ByteArray := prog_1_method_59_code
def yX3_fraction : MethodName := ⟨RX3, "fraction", "(IIZ)I"⟩
abbrev cX3_common : ByteArray := prog_1_method_60_code
def yX3_common : MethodName := ⟨RX3, "common", "(II)I"⟩
abbrev cX3_power : ByteArray := prog_1_method_61_code
def yX3_power : MethodName := ⟨RX3, "power", "(II)I"⟩
def RX4 : String := "OneSentenceModel"
def TX4 : u_T := fun k => match k with
  | 0 => ("OneSentenceModel", "people", "I", false)
  | 1 => ("OneSentenceModel", "market", "I", false)
  | 2 => ("OneSentenceModel", "home", "[I", true)
  | 3 => ("OneSentenceModel", "kind", "[I", true)
  | 4 => ("OneSentenceModel", "now", "[I", true)
  | 5 => ("OneSentenceModel", "readOf", "[I", true)
  | 6 => ("OneSentenceModel", "readPeople", "I", false)
  | 7 => ("OneSentenceModel", "readMarket", "I", false)
  | 8 => ("OneSentenceModel", "text", "[I", true)
  | 9 => ("OneSentenceModel", "length", "I", false)
  | 10 => ("OneSentenceModel", "at", "I", false)
  | 11 => ("OneSentenceModel", "faultAt", "I", false)
  | 12 => ("OneSentenceModel", "acts", "I", false)
  | 13 => ("OneSentenceModel", "next", "I", false)
  | 14 => ("OneSentenceModel", "row", "[I", true)
  | 15 => ("OneSentenceModel", "newSort", "I", false)
  | 16 => ("OneSentenceModel", "newFigure", "I", false)
  | 17 => ("OneSentenceModel", "fewRow", "I", false)
  | 18 => ("OneSentenceModel", "metAt", "[I", true)
  | 19 => ("OneSentenceModel", "manys", "[I", true)
  | 20 => ("OneSentenceModel", "senses", "[I", true)
  | 21 => ("OneSentenceModel", "seed", "J", false)
  | 22 => ("OneSentenceModel", "isKept", "[Z", true)
  | _ => ("OneSentenceModel", "kept", "[I", true)
def tyX4 : Nat → FieldType := fun k => match k with
  | 0 => .int
  | 1 => .int
  | 2 => .array .int
  | 3 => .array .int
  | 4 => .array .int
  | 5 => .array .int
  | 6 => .int
  | 7 => .int
  | 8 => .array .int
  | 9 => .int
  | 10 => .int
  | 11 => .int
  | 12 => .int
  | 13 => .int
  | 14 => .array .int
  | 15 => .int
  | 16 => .int
  | 17 => .int
  | 18 => .array .int
  | 19 => .array .int
  | 20 => .array .int
  | 21 => .long
  | 22 => .array .boolean
  | _ => .array .int
abbrev wsX40 : List Cond := u_ws RX4 TX4 24
theorem nmX4 : ∀ a, a < 24 → ∀ b, b < 24 → a ≠ b → (TX4 a).2.1 ≠ (TX4 b).2.1 := by decide +kernel
theorem tyX4_ok : ∀ k, k < 24 → parseFieldDescriptor (TX4 k).2.2.1 = some (tyX4 k) := by decide +kernel
abbrev cX4_init : ByteArray := prog_6_method_1_code
def yX4_init : MethodName := ⟨RX4, "<init>", "()V"⟩
abbrev cX4_in : ByteArray := prog_6_method_3_code
def yX4_in : MethodName := ⟨RX4, "in", "(JJJ)Z"⟩
abbrev cX4_has : ByteArray := prog_6_method_4_code
def yX4_has : MethodName := ⟨RX4, "has", "(II)Z"⟩
abbrev cX4_ones : ByteArray := prog_6_method_5_code
def yX4_ones : MethodName := ⟨RX4, "ones", "(I)I"⟩
abbrev cX4_write : ByteArray := prog_6_method_6_code
def yX4_write : MethodName := ⟨RX4, "write", "(I)I"⟩
abbrev cX4_wipe : ByteArray := prog_6_method_7_code
def yX4_wipe : MethodName := ⟨RX4, "wipe", "()I"⟩
abbrev cX4_figure : ByteArray := prog_6_method_8_code
def yX4_figure : MethodName := ⟨RX4, "figure", "(I)I"⟩
abbrev cX4_readText : ByteArray := prog_6_method_9_code
def yX4_readText : MethodName := ⟨RX4, "readText", "()I"⟩
abbrev cX4_fault : ByteArray := prog_6_method_10_code
def yX4_fault : MethodName := ⟨RX4, "fault", "()I"⟩
abbrev cX4_island : ByteArray := prog_6_method_11_code
def yX4_island : MethodName := ⟨RX4, "island", "()I"⟩
abbrev cX4_isPerson : ByteArray := prog_6_method_12_code
def yX4_isPerson : MethodName := ⟨RX4, "isPerson", "(I)Z"⟩
abbrev cX4_may : ByteArray := prog_6_method_13_code
def yX4_may : MethodName := ⟨RX4, "may", "(II)Z"⟩
abbrev cX4_made : ByteArray := prog_6_method_14_code
def yX4_made : MethodName := ⟨RX4, "made", "(III)I"⟩
abbrev cX4_speakOn : ByteArray := prog_6_method_15_code
def yX4_speakOn : MethodName := ⟨RX4, "speakOn", "(II)V"⟩
abbrev cX4_sayOn : ByteArray := prog_6_method_16_code
def yX4_sayOn : MethodName := ⟨RX4, "sayOn", "(II)V"⟩
abbrev cX4_person : ByteArray := prog_6_method_17_code
def yX4_person : MethodName := ⟨RX4, "person", "(II)I"⟩
abbrev cX4_keepAct : ByteArray := prog_6_method_18_code
def yX4_keepAct : MethodName := ⟨RX4, "keepAct", "()V"⟩
abbrev cX4_far : ByteArray := prog_6_method_19_code
def yX4_far : MethodName := ⟨RX4, "far", "(I)I"⟩
abbrev cX4_fetch : ByteArray := prog_6_method_20_code
def yX4_fetch : MethodName := ⟨RX4, "fetch", "(I)I"⟩
abbrev cX4_send : ByteArray := prog_6_method_21_code
def yX4_send : MethodName := ⟨RX4, "send", "(I)I"⟩
abbrev cX4_say : ByteArray := prog_6_method_22_code
def yX4_say : MethodName := ⟨RX4, "say", "(I)I"⟩
abbrev cX4_name : ByteArray := prog_6_method_23_code
def yX4_name : MethodName := ⟨RX4, "name", "(III)I"⟩
abbrev cX4_undo : ByteArray := prog_6_method_24_code
def yX4_undo : MethodName := ⟨RX4, "undo", "()I"⟩
abbrev cX4_layTrial : ByteArray := prog_6_method_25_code
def yX4_layTrial : MethodName := ⟨RX4, "layTrial", "(I)V"⟩
abbrev cX4_tenTo : ByteArray := prog_6_method_26_code
def yX4_tenTo : MethodName := ⟨RX4, "tenTo", "(I)I"⟩
abbrev cX4_sayRow : ByteArray := prog_6_method_27_code
def yX4_sayRow : MethodName := ⟨RX4, "sayRow", "(III)I"⟩
abbrev cX4_comesTo : ByteArray := prog_6_method_28_code
def yX4_comesTo : MethodName := ⟨RX4, "comesTo", "(III)I"⟩
abbrev cX4_rowOf : ByteArray := prog_6_method_29_code
def yX4_rowOf : MethodName := ⟨RX4, "rowOf", "(II)I"⟩
abbrev cX4_sevens : ByteArray := prog_6_method_30_code
def yX4_sevens : MethodName := ⟨RX4, "sevens", "(I)I"⟩
abbrev cX4_layFewest : ByteArray := prog_6_method_31_code
def yX4_layFewest : MethodName := ⟨RX4, "layFewest", "(II)I"⟩
abbrev cX4_fewest : ByteArray := prog_6_method_32_code
def yX4_fewest : MethodName := ⟨RX4, "fewest", "(IZ)I"⟩
abbrev cX4_canBy : ByteArray := prog_6_method_33_code
def yX4_canBy : MethodName := ⟨RX4, "canBy", "(II)I"⟩
abbrev cX4_can : ByteArray := prog_6_method_34_code
def yX4_can : MethodName := ⟨RX4, "can", "(I)I"⟩
abbrev cX4_hoursOf : ByteArray := prog_6_method_35_code
def yX4_hoursOf : MethodName := ⟨RX4, "hoursOf", "(I)I"⟩
abbrev cX4_toFetch : ByteArray := prog_6_method_36_code
def yX4_toFetch : MethodName := ⟨RX4, "toFetch", "(IZ)I"⟩
abbrev cX4_needed : ByteArray := prog_6_method_37_code
def yX4_needed : MethodName := ⟨RX4, "needed", "()I"⟩
abbrev cX4_naming : ByteArray := prog_6_method_38_code
def yX4_naming : MethodName := ⟨RX4, "naming", "(IZ)I"⟩
abbrev cX4_whoIn : ByteArray := prog_6_method_39_code
def yX4_whoIn : MethodName := ⟨RX4, "whoIn", "(I)I"⟩
abbrev cX4_spoken : ByteArray := prog_6_method_40_code
def yX4_spoken : MethodName := ⟨RX4, "spoken", "(III)I"⟩
abbrev cX4_quarrel : ByteArray := prog_6_method_41_code
def yX4_quarrel : MethodName := ⟨RX4, "quarrel", "(IIZ)I"⟩
abbrev cX4_factorial : ByteArray := prog_6_method_42_code
def yX4_factorial : MethodName := ⟨RX4, "factorial", "(I)I"⟩
abbrev cX4_common : ByteArray := prog_6_method_43_code
def yX4_common : MethodName := ⟨RX4, "common", "(II)I"⟩
abbrev cX4_share : ByteArray := prog_6_method_44_code
def yX4_share : MethodName := ⟨RX4, "share", "(IIZ)I"⟩
abbrev cX4_apart : ByteArray := prog_6_method_45_code
def yX4_apart : MethodName := ⟨RX4, "apart", "(II)I"⟩
abbrev cX4_isRest : ByteArray := prog_6_method_46_code
def yX4_isRest : MethodName := ⟨RX4, "isRest", "(III)Z"⟩
abbrev cX4_laySenses : ByteArray := prog_6_method_47_code
def yX4_laySenses : MethodName := ⟨RX4, "laySenses", "(II)V"⟩
abbrev cX4_rests : ByteArray := prog_6_method_48_code
def yX4_rests : MethodName := ⟨RX4, "rests", "(IIIII)I"⟩
abbrev cX4_chance : ByteArray := prog_6_method_49_code
def yX4_chance : MethodName := ⟨RX4, "chance", "(IIZ)I"⟩
abbrev cX4_seed : ByteArray := prog_6_method_50_code
def yX4_seed : MethodName := ⟨RX4, "seed", "(J)J"⟩
abbrev cX4_nights : ByteArray := prog_6_method_51_code
def yX4_nights : MethodName := ⟨RX4, "nights", "(I)I"⟩
abbrev cX4_keep : ByteArray := prog_6_method_52_code
def yX4_keep : MethodName := ⟨RX4, "keep", "(I)I"⟩
abbrev cX4_again : ByteArray := prog_6_method_53_code
def yX4_again : MethodName := ⟨RX4, "again", "(I)I"⟩
abbrev cX4_count : ByteArray := prog_6_method_54_code
def yX4_count : MethodName := ⟨RX4, "count", "(I)I"⟩
def RJ6 : String := "java/lang/Integer"
def TJ6 : u_T := fun k => match k with
  | _ => ("", "", "", false)
def tyJ6 : Nat → FieldType := fun k => match k with
  | _ => .int
abbrev wsJ60 : List Cond := u_ws RJ6 TJ6 0
theorem nmJ6 : ∀ a, a < 0 → ∀ b, b < 0 → a ≠ b → (TJ6 a).2.1 ≠ (TJ6 b).2.1 := by decide +kernel
theorem tyJ6_ok : ∀ k, k < 0 → parseFieldDescriptor (TJ6 k).2.2.1 = some (tyJ6 k) := by decide +kernel
abbrev cJ6_compare_7cf53 : ByteArray := prog_7_method_40_code
def yJ6_compare_7cf53 : MethodName := ⟨RJ6, "compare", "(II)I"⟩
abbrev cJ6_bitCount_0f7a4 : ByteArray := prog_7_method_49_code
def yJ6_bitCount_0f7a4 : MethodName := ⟨RJ6, "bitCount", "(I)I"⟩
def RJ9 : String := "java/lang/Math"
def TJ9 : u_T := fun k => match k with
  | _ => ("", "", "", false)
def tyJ9 : Nat → FieldType := fun k => match k with
  | _ => .int
abbrev wsJ90 : List Cond := u_ws RJ9 TJ9 0
theorem nmJ9 : ∀ a, a < 0 → ∀ b, b < 0 → a ≠ b → (TJ9 a).2.1 ≠ (TJ9 b).2.1 := by decide +kernel
theorem tyJ9_ok : ∀ k, k < 0 → parseFieldDescriptor (TJ9 k).2.2.1 = some (tyJ9 k) := by decide +kernel
abbrev cJ9_abs_0f7a4 : ByteArray := prog_8_method_59_code
def yJ9_abs_0f7a4 : MethodName := ⟨RJ9, "abs", "(I)I"⟩
def RL : String := "OneSentenceLaw"
abbrev cL_law : ByteArray := code
def yL_law : MethodName := ⟨RL, "law", "([I)Z"⟩
def wsX2_init : List Cond := .code yX2_init cX2_init 1 none :: ([.methodLink RX2 3 objectInit, .instanceMethod objectInit, .code objectInit ⟨#[0xb1]⟩ 1 none, .fieldLink RX2 9 "OneSentence$Talk" "last" "I", .fieldLink RX2 15 "OneSentence$Talk" "lastNoEcho" "I", .arrayClass .int, .fieldLink RX2 18 "OneSentence$Talk" "times" "[I"] ++ wsX20)
def wsX0_init : List Cond := .code yX0_init cX0_init 1 none :: ([.methodLink RX0 3 objectInit, .instanceMethod objectInit, .code objectInit ⟨#[0xb1]⟩ 1 none, .classLink RX0 9 RX2, .instantiable RX2 4, .initialized RX2, .fieldLink RX0 12 "OneSentence$Day" "talk" "LOneSentence$Talk;", .arrayClass .int, .fieldLink RX0 18 "OneSentence$Day" "sentence" "[I", .instanceMethod yX2_init, .code yX2_init cX2_init 1 none, .methodLink RX2 3 objectInit, .fieldLink RX2 9 "OneSentence$Talk" "last" "I", .fieldLink RX2 15 "OneSentence$Talk" "lastNoEcho" "I", .fieldLink RX2 18 "OneSentence$Talk" "times" "[I"] ++ wsX20 ++ wsX00)
def wsX2_begin : List Cond := .code yX2_begin cX2_begin 2 none :: ([.fieldLink RX2 22 "OneSentence$Talk" "sense" "I", .fieldLink RX2 9 "OneSentence$Talk" "last" "I", .fieldLink RX2 15 "OneSentence$Talk" "lastNoEcho" "I", .fieldLink RX2 18 "OneSentence$Talk" "times" "[I"] ++ wsX20)
def wsX0_begin : List Cond := .code yX0_begin cX0_begin 1 none :: ([.fieldLink RX0 12 "OneSentence$Day" "talk" "LOneSentence$Talk;", .fieldLink RX0 25 "OneSentence$Day" "at" "I", .fieldLink RX0 29 "OneSentence$Day" "hour" "I", .instanceMethod yX2_begin, .initialized RX2, .selects RX2 yX2_begin yX2_begin, .code yX2_begin cX2_begin 2 none, .fieldLink RX2 22 "OneSentence$Talk" "sense" "I", .fieldLink RX2 9 "OneSentence$Talk" "last" "I", .fieldLink RX2 15 "OneSentence$Talk" "lastNoEcho" "I", .fieldLink RX2 18 "OneSentence$Talk" "times" "[I"] ++ wsX00 ++ wsX20)
def wsX2_become : List Cond := .code yX2_become cX2_become 3 none :: ([.fieldLink RX2 22 "OneSentence$Talk" "sense" "I", .fieldLink RX2 9 "OneSentence$Talk" "last" "I", .fieldLink RX2 15 "OneSentence$Talk" "lastNoEcho" "I", .fieldLink RX2 18 "OneSentence$Talk" "times" "[I"] ++ wsX20)
def wsX0_become : List Cond := .code yX0_become cX0_become 3 none :: ([.fieldLink RX0 12 "OneSentence$Day" "talk" "LOneSentence$Talk;", .fieldLink RX0 25 "OneSentence$Day" "at" "I", .fieldLink RX0 29 "OneSentence$Day" "hour" "I", .fieldLink RX0 18 "OneSentence$Day" "sentence" "[I", .instanceMethod yX2_become, .initialized RX2, .selects RX2 yX2_become yX2_become, .code yX2_become cX2_become 3 none, .fieldLink RX2 22 "OneSentence$Talk" "sense" "I", .fieldLink RX2 9 "OneSentence$Talk" "last" "I", .fieldLink RX2 15 "OneSentence$Talk" "lastNoEcho" "I", .fieldLink RX2 18 "OneSentence$Talk" "times" "[I"] ++ wsX00 ++ wsX20)
def wsX1_init : List Cond := .code yX1_init cX1_init 1 none :: ([.methodLink RX1 3 objectInit, .instanceMethod objectInit, .code objectInit ⟨#[0xb1]⟩ 1 none, .arrayClass .int, .fieldLink RX1 9 "OneSentence$Rows" "who" "[I"] ++ wsX10)
def wsX3_has : List Cond := .code yX3_has cX3_has 2 (some .boolean) :: ([])
def wsX1_by : List Cond := .code yX1_by cX1_by 3 none :: ([.fieldLink RX1 15 "OneSentence$Rows" "size" "I", .fieldLink RX1 9 "OneSentence$Rows" "who" "[I", .static yX3_has, .initialized RX3, .code yX3_has cX3_has 2 (some .boolean)] ++ wsX10)
def wsX3_power : List Cond := .code yX3_power cX3_power 4 (some .int) :: ([])
def wsX1_many : List Cond := .code yX1_many cX1_many 2 (some .int) :: ([.fieldLink RX1 15 "OneSentence$Rows" "size" "I", .static yX3_power, .initialized RX3, .code yX3_power cX3_power 4 (some .int)] ++ wsX10)
def wsX1_told : List Cond := .code yX1_told cX1_told 7 (some .int) :: ([.fieldLink RX1 15 "OneSentence$Rows" "size" "I", .fieldLink RX1 9 "OneSentence$Rows" "who" "[I"] ++ wsX10)
def wsX2_made : List Cond := .code yX2_made cX2_made 3 (some .int) :: ([])
def wsX2_utter : List Cond := .code yX2_utter cX2_utter 5 none :: ([.fieldLink RX2 15 "OneSentence$Talk" "lastNoEcho" "I", .fieldLink RX2 22 "OneSentence$Talk" "sense" "I", .fieldLink RX2 9 "OneSentence$Talk" "last" "I", .fieldLink RX2 18 "OneSentence$Talk" "times" "[I", .methodLink RX2 25 yX2_made, .static yX2_made, .initialized RX2, .code yX2_made cX2_made 3 (some .int)] ++ wsX20)
def wsX3_init_r1 : List Cond := [Cond.methodLink RX3 1 objectInit, Cond.instanceMethod objectInit, Cond.code objectInit ⟨#[0xb1]⟩ 1 none, Cond.arrayClass .char, Cond.fieldLink RX3 9 "OneSentence" "text" "[C", Cond.arrayClass .int, Cond.fieldLink RX3 13 "OneSentence" "home" "[I", Cond.fieldLink RX3 17 "OneSentence" "kind" "[I", Cond.classLink RX3 20 RX0, Cond.instantiable RX0 4, Cond.initialized RX0, Cond.fieldLink RX3 23 "OneSentence" "today" "LOneSentence$Day;", Cond.fieldLink RX3 27 "OneSentence" "past" "[LOneSentence$Day;", Cond.fieldLink RX3 31 "OneSentence" "slots" "[LOneSentence$Day;", Cond.arrayClass .boolean, Cond.fieldLink RX3 34 "OneSentence" "isKept" "[Z", Cond.classLink RX3 38 RX2, Cond.instantiable RX2 4, Cond.initialized RX2, Cond.fieldLink RX3 41 "OneSentence" "trial" "LOneSentence$Talk;", Cond.classLink RX3 45 RX1, Cond.instantiable RX1 2, Cond.initialized RX1, Cond.fieldLink RX3 48 "OneSentence" "rows" "LOneSentence$Rows;"]
def wsX3_init_r2 : List Cond := [Cond.fieldLink RX3 52 "OneSentence" "seenBehind" "[I", Cond.fieldLink RX3 55 "OneSentence" "outcomes" "[I", Cond.instanceMethod yX0_init, Cond.code yX0_init cX0_init 1 none, Cond.methodLink RX0 3 objectInit, Cond.classLink RX0 9 RX2, Cond.fieldLink RX0 12 "OneSentence$Day" "talk" "LOneSentence$Talk;", Cond.fieldLink RX0 18 "OneSentence$Day" "sentence" "[I", Cond.instanceMethod yX2_init, Cond.code yX2_init cX2_init 1 none, Cond.methodLink RX2 3 objectInit, Cond.fieldLink RX2 9 "OneSentence$Talk" "last" "I", Cond.fieldLink RX2 15 "OneSentence$Talk" "lastNoEcho" "I", Cond.fieldLink RX2 18 "OneSentence$Talk" "times" "[I", Cond.instanceMethod yX1_init, Cond.code yX1_init cX1_init 1 none, Cond.methodLink RX1 3 objectInit, Cond.fieldLink RX1 9 "OneSentence$Rows" "who" "[I"]
def wsX3_init : List Cond := .code yX3_init cX3_init 2 none :: ((wsX3_init_r1 ++ wsX3_init_r2) ++ wsX30 ++ wsX00 ++ wsX20 ++ wsX10)
def wsX3_write : List Cond := .code yX3_write cX3_write 2 (some .int) :: ([.fieldLink RX3 58 "OneSentence" "letters" "I", .fieldLink RX3 9 "OneSentence" "text" "[C"] ++ wsX30)
def wsX3_wipe : List Cond := .code yX3_wipe cX3_wipe 2 (some .int) :: ([.fieldLink RX3 58 "OneSentence" "letters" "I"] ++ wsX30)
def wsX3_isFigure : List Cond := .code yX3_isFigure cX3_isFigure 2 (some .boolean) :: ([])
def wsX3_fits : List Cond := .code yX3_fits cX3_fits 2 (some .boolean) :: ([.methodLink RX3 236 yX3_isFigure, .static yX3_isFigure, .initialized RX3, .code yX3_isFigure cX3_isFigure 2 (some .boolean)])
def wsX3_firstFault : List Cond := .code yX3_firstFault cX3_firstFault 2 (some .int) :: ([.fieldLink RX3 58 "OneSentence" "letters" "I", .fieldLink RX3 9 "OneSentence" "text" "[C", .methodLink RX3 232 yX3_fits, .static yX3_fits, .initialized RX3, .code yX3_fits cX3_fits 2 (some .boolean), .methodLink RX3 236 yX3_isFigure, .static yX3_isFigure, .code yX3_isFigure cX3_isFigure 2 (some .boolean)] ++ wsX30)
def wsX3_fault : List Cond := .code yX3_fault cX3_fault 1 (some .int) :: ([.methodLink RX3 62 yX3_firstFault, .instanceMethod yX3_firstFault, .selects RX3 yX3_firstFault yX3_firstFault, .initialized RX3, .code yX3_firstFault cX3_firstFault 2 (some .int), .fieldLink RX3 58 "OneSentence" "letters" "I", .fieldLink RX3 9 "OneSentence" "text" "[C", .methodLink RX3 232 yX3_fits, .static yX3_fits, .code yX3_fits cX3_fits 2 (some .boolean), .methodLink RX3 236 yX3_isFigure, .static yX3_isFigure, .code yX3_isFigure cX3_isFigure 2 (some .boolean)] ++ wsX30)
def wsX3_figureIn : List Cond := .code yX3_figureIn cX3_figureIn 2 (some .int) :: ([.fieldLink RX3 9 "OneSentence" "text" "[C"] ++ wsX30)
def wsX3_settle : List Cond := .code yX3_settle cX3_settle 3 none :: ([.fieldLink RX3 13 "OneSentence" "home" "[I", .fieldLink RX3 23 "OneSentence" "today" "LOneSentence$Day;", .fieldLink RX3 17 "OneSentence" "kind" "[I", .fieldLink RX3 70 "OneSentence" "market" "I", .methodLink RX3 66 yX3_figureIn, .instanceMethod yX3_figureIn, .selects RX3 yX3_figureIn yX3_figureIn, .initialized RX3, .code yX3_figureIn cX3_figureIn 2 (some .int), .fieldLink RX3 9 "OneSentence" "text" "[C"] ++ wsX30 ++ wsX00)
def wsX3_forgetActs : List Cond := .code yX3_forgetActs cX3_forgetActs 1 none :: ([.fieldLink RX3 134 "OneSentence" "firstAct" "I", .fieldLink RX3 131 "OneSentence" "acts" "I"] ++ wsX30)
def wsX3_island_r1 : List Cond := [Cond.fieldLink RX3 70 "OneSentence" "market" "I", Cond.fieldLink RX3 58 "OneSentence" "letters" "I", Cond.fieldLink RX3 73 "OneSentence" "people" "I", Cond.fieldLink RX3 23 "OneSentence" "today" "LOneSentence$Day;", Cond.fieldLink RX3 34 "OneSentence" "isKept" "[Z", Cond.methodLink RX3 62 yX3_firstFault, Cond.instanceMethod yX3_firstFault, Cond.selects RX3 yX3_firstFault yX3_firstFault, Cond.initialized RX3, Cond.code yX3_firstFault cX3_firstFault 2 (some .int), Cond.fieldLink RX3 9 "OneSentence" "text" "[C", Cond.methodLink RX3 232 yX3_fits, Cond.static yX3_fits, Cond.code yX3_fits cX3_fits 2 (some .boolean), Cond.methodLink RX3 236 yX3_isFigure, Cond.static yX3_isFigure, Cond.code yX3_isFigure cX3_isFigure 2 (some .boolean), Cond.methodLink RX3 66 yX3_figureIn, Cond.instanceMethod yX3_figureIn, Cond.selects RX3 yX3_figureIn yX3_figureIn, Cond.code yX3_figureIn cX3_figureIn 2 (some .int), Cond.instanceMethod yX0_begin, Cond.initialized RX0, Cond.selects RX0 yX0_begin yX0_begin]
def wsX3_island_r2 : List Cond := [Cond.code yX0_begin cX0_begin 1 none, Cond.fieldLink RX0 12 "OneSentence$Day" "talk" "LOneSentence$Talk;", Cond.fieldLink RX0 25 "OneSentence$Day" "at" "I", Cond.fieldLink RX0 29 "OneSentence$Day" "hour" "I", Cond.instanceMethod yX2_begin, Cond.initialized RX2, Cond.selects RX2 yX2_begin yX2_begin, Cond.code yX2_begin cX2_begin 2 none, Cond.fieldLink RX2 22 "OneSentence$Talk" "sense" "I", Cond.fieldLink RX2 9 "OneSentence$Talk" "last" "I", Cond.fieldLink RX2 15 "OneSentence$Talk" "lastNoEcho" "I", Cond.fieldLink RX2 18 "OneSentence$Talk" "times" "[I", Cond.methodLink RX3 79 yX3_settle, Cond.instanceMethod yX3_settle, Cond.selects RX3 yX3_settle yX3_settle, Cond.code yX3_settle cX3_settle 3 none, Cond.fieldLink RX3 13 "OneSentence" "home" "[I", Cond.fieldLink RX3 17 "OneSentence" "kind" "[I", Cond.methodLink RX3 83 yX3_forgetActs, Cond.instanceMethod yX3_forgetActs, Cond.selects RX3 yX3_forgetActs yX3_forgetActs, Cond.code yX3_forgetActs cX3_forgetActs 1 none, Cond.fieldLink RX3 134 "OneSentence" "firstAct" "I", Cond.fieldLink RX3 131 "OneSentence" "acts" "I"]
def wsX3_island : List Cond := .code yX3_island cX3_island 2 (some .int) :: ((wsX3_island_r1 ++ wsX3_island_r2) ++ wsX30 ++ wsX00 ++ wsX20)
def wsX3_isThere : List Cond := .code yX3_isThere cX3_isThere 2 (some .boolean) :: ([.fieldLink RX3 73 "OneSentence" "people" "I"] ++ wsX30)
def wsX3_maySpeak : List Cond := .code yX3_maySpeak cX3_maySpeak 4 (some .boolean) :: ([.fieldLink RX3 17 "OneSentence" "kind" "[I", .methodLink RX3 96 yX3_has, .static yX3_has, .initialized RX3, .code yX3_has cX3_has 2 (some .boolean)] ++ wsX30 ++ wsX20)
def wsX3_person : List Cond := .code yX3_person cX3_person 3 (some .int) :: ([.fieldLink RX3 13 "OneSentence" "home" "[I", .fieldLink RX3 23 "OneSentence" "today" "LOneSentence$Day;", .fieldLink RX3 17 "OneSentence" "kind" "[I", .methodLink RX3 86 yX3_isThere, .instanceMethod yX3_isThere, .selects RX3 yX3_isThere yX3_isThere, .initialized RX3, .code yX3_isThere cX3_isThere 2 (some .boolean), .fieldLink RX3 73 "OneSentence" "people" "I", .methodLink RX3 96 yX3_has, .static yX3_has, .code yX3_has cX3_has 2 (some .boolean), .methodLink RX3 103 yX3_maySpeak, .instanceMethod yX3_maySpeak, .selects RX3 yX3_maySpeak yX3_maySpeak, .code yX3_maySpeak cX3_maySpeak 4 (some .boolean)] ++ wsX30 ++ wsX00 ++ wsX20)
def wsX3_remember : List Cond := .code yX3_remember cX3_remember 2 none :: ([.fieldLink RX3 134 "OneSentence" "firstAct" "I", .fieldLink RX3 131 "OneSentence" "acts" "I", .fieldLink RX3 27 "OneSentence" "past" "[LOneSentence$Day;", .fieldLink RX3 23 "OneSentence" "today" "LOneSentence$Day;", .instanceMethod yX0_become, .initialized RX0, .selects RX0 yX0_become yX0_become, .code yX0_become cX0_become 3 none, .fieldLink RX0 12 "OneSentence$Day" "talk" "LOneSentence$Talk;", .fieldLink RX0 25 "OneSentence$Day" "at" "I", .fieldLink RX0 29 "OneSentence$Day" "hour" "I", .fieldLink RX0 18 "OneSentence$Day" "sentence" "[I", .instanceMethod yX2_become, .initialized RX2, .selects RX2 yX2_become yX2_become, .code yX2_become cX2_become 3 none, .fieldLink RX2 22 "OneSentence$Talk" "sense" "I", .fieldLink RX2 9 "OneSentence$Talk" "last" "I", .fieldLink RX2 15 "OneSentence$Talk" "lastNoEcho" "I", .fieldLink RX2 18 "OneSentence$Talk" "times" "[I"] ++ wsX30 ++ wsX00 ++ wsX20)
def wsX3_hoursFrom : List Cond := .code yX3_hoursFrom cX3_hoursFrom 2 (some .int) :: ([.fieldLink RX3 13 "OneSentence" "home" "[I", .fieldLink RX3 70 "OneSentence" "market" "I", .methodLink RX3 240 Lib.Math.abs.name, .static Lib.Math.abs.name, .initialized "java/lang/Math", .code Lib.Math.abs.name Lib.Math.abs.code 1 (some .int), .methodLink RX3 86 yX3_isThere, .instanceMethod yX3_isThere, .selects RX3 yX3_isThere yX3_isThere, .initialized RX3, .code yX3_isThere cX3_isThere 2 (some .boolean), .fieldLink RX3 73 "OneSentence" "people" "I"] ++ wsX30)
def wsX3_fetch_r1 : List Cond := [Cond.fieldLink RX3 23 "OneSentence" "today" "LOneSentence$Day;", Cond.methodLink RX3 86 yX3_isThere, Cond.instanceMethod yX3_isThere, Cond.selects RX3 yX3_isThere yX3_isThere, Cond.initialized RX3, Cond.code yX3_isThere cX3_isThere 2 (some .boolean), Cond.fieldLink RX3 73 "OneSentence" "people" "I", Cond.methodLink RX3 96 yX3_has, Cond.static yX3_has, Cond.code yX3_has cX3_has 2 (some .boolean), Cond.methodLink RX3 110 yX3_remember, Cond.instanceMethod yX3_remember, Cond.selects RX3 yX3_remember yX3_remember, Cond.code yX3_remember cX3_remember 2 none, Cond.fieldLink RX3 134 "OneSentence" "firstAct" "I", Cond.fieldLink RX3 131 "OneSentence" "acts" "I", Cond.fieldLink RX3 27 "OneSentence" "past" "[LOneSentence$Day;", Cond.instanceMethod yX0_become, Cond.initialized RX0, Cond.selects RX0 yX0_become yX0_become, Cond.code yX0_become cX0_become 3 none, Cond.fieldLink RX0 12 "OneSentence$Day" "talk" "LOneSentence$Talk;", Cond.fieldLink RX0 25 "OneSentence$Day" "at" "I", Cond.fieldLink RX0 29 "OneSentence$Day" "hour" "I"]
def wsX3_fetch_r2 : List Cond := [Cond.fieldLink RX0 18 "OneSentence$Day" "sentence" "[I", Cond.instanceMethod yX2_become, Cond.initialized RX2, Cond.selects RX2 yX2_become yX2_become, Cond.code yX2_become cX2_become 3 none, Cond.fieldLink RX2 22 "OneSentence$Talk" "sense" "I", Cond.fieldLink RX2 9 "OneSentence$Talk" "last" "I", Cond.fieldLink RX2 15 "OneSentence$Talk" "lastNoEcho" "I", Cond.fieldLink RX2 18 "OneSentence$Talk" "times" "[I", Cond.methodLink RX3 116 yX3_hoursFrom, Cond.instanceMethod yX3_hoursFrom, Cond.selects RX3 yX3_hoursFrom yX3_hoursFrom, Cond.code yX3_hoursFrom cX3_hoursFrom 2 (some .int), Cond.fieldLink RX3 13 "OneSentence" "home" "[I", Cond.fieldLink RX3 70 "OneSentence" "market" "I", Cond.methodLink RX3 240 Lib.Math.abs.name, Cond.static Lib.Math.abs.name, Cond.initialized "java/lang/Math", Cond.code Lib.Math.abs.name Lib.Math.abs.code 1 (some .int)]
def wsX3_fetch : List Cond := .code yX3_fetch cX3_fetch 2 (some .int) :: ((wsX3_fetch_r1 ++ wsX3_fetch_r2) ++ wsX30 ++ wsX00 ++ wsX20)
def wsJ6_bitCount_0f7a4 : List Cond := .code yJ6_bitCount_0f7a4 cJ6_bitCount_0f7a4 1 (some .int) :: ([.constant RJ6 265 (1431655765), .constant RJ6 266 (858993459), .constant RJ6 267 (252645135)])
def wsX3_send_r1 : List Cond := [Cond.fieldLink RX3 23 "OneSentence" "today" "LOneSentence$Day;", Cond.fieldLink RX3 13 "OneSentence" "home" "[I", Cond.fieldLink RX3 70 "OneSentence" "market" "I", Cond.methodLink RX3 86 yX3_isThere, Cond.instanceMethod yX3_isThere, Cond.selects RX3 yX3_isThere yX3_isThere, Cond.initialized RX3, Cond.code yX3_isThere cX3_isThere 2 (some .boolean), Cond.fieldLink RX3 73 "OneSentence" "people" "I", Cond.methodLink RX3 96 yX3_has, Cond.static yX3_has, Cond.code yX3_has cX3_has 2 (some .boolean), Cond.methodLink RX3 110 yX3_remember, Cond.instanceMethod yX3_remember, Cond.selects RX3 yX3_remember yX3_remember, Cond.code yX3_remember cX3_remember 2 none, Cond.fieldLink RX3 134 "OneSentence" "firstAct" "I", Cond.fieldLink RX3 131 "OneSentence" "acts" "I", Cond.fieldLink RX3 27 "OneSentence" "past" "[LOneSentence$Day;", Cond.instanceMethod yX0_become, Cond.initialized RX0, Cond.selects RX0 yX0_become yX0_become, Cond.code yX0_become cX0_become 3 none, Cond.fieldLink RX0 12 "OneSentence$Day" "talk" "LOneSentence$Talk;"]
def wsX3_send_r2 : List Cond := [Cond.fieldLink RX0 25 "OneSentence$Day" "at" "I", Cond.fieldLink RX0 29 "OneSentence$Day" "hour" "I", Cond.fieldLink RX0 18 "OneSentence$Day" "sentence" "[I", Cond.instanceMethod yX2_become, Cond.initialized RX2, Cond.selects RX2 yX2_become yX2_become, Cond.code yX2_become cX2_become 3 none, Cond.fieldLink RX2 22 "OneSentence$Talk" "sense" "I", Cond.fieldLink RX2 9 "OneSentence$Talk" "last" "I", Cond.fieldLink RX2 15 "OneSentence$Talk" "lastNoEcho" "I", Cond.fieldLink RX2 18 "OneSentence$Talk" "times" "[I", Cond.methodLink RX3 119 yJ6_bitCount_0f7a4, Cond.static yJ6_bitCount_0f7a4, Cond.initialized RJ6, Cond.code yJ6_bitCount_0f7a4 cJ6_bitCount_0f7a4 1 (some .int), Cond.constant RJ6 265 (1431655765), Cond.constant RJ6 266 (858993459), Cond.constant RJ6 267 (252645135)]
def wsX3_send : List Cond := .code yX3_send cX3_send 2 (some .int) :: ((wsX3_send_r1 ++ wsX3_send_r2) ++ wsX30 ++ wsX00 ++ wsX20)
def wsX3_sentenceOf : List Cond := .code yX3_sentenceOf cX3_sentenceOf 2 (some .int) :: ([.fieldLink RX3 171 "OneSentence" "oneMoreSentence" "I", .fieldLink RX3 23 "OneSentence" "today" "LOneSentence$Day;"] ++ wsX30 ++ wsX00)
def wsX3_speak : List Cond := .code yX3_speak cX3_speak 4 none :: ([.fieldLink RX3 17 "OneSentence" "kind" "[I", .methodLink RX3 190 yX3_sentenceOf, .instanceMethod yX3_sentenceOf, .selects RX3 yX3_sentenceOf yX3_sentenceOf, .initialized RX3, .code yX3_sentenceOf cX3_sentenceOf 2 (some .int), .fieldLink RX3 171 "OneSentence" "oneMoreSentence" "I", .fieldLink RX3 23 "OneSentence" "today" "LOneSentence$Day;", .instanceMethod yX2_utter, .initialized RX2, .selects RX2 yX2_utter yX2_utter, .code yX2_utter cX2_utter 5 none, .fieldLink RX2 15 "OneSentence$Talk" "lastNoEcho" "I", .fieldLink RX2 22 "OneSentence$Talk" "sense" "I", .fieldLink RX2 9 "OneSentence$Talk" "last" "I", .fieldLink RX2 18 "OneSentence$Talk" "times" "[I", .methodLink RX2 25 yX2_made, .static yX2_made, .code yX2_made cX2_made 3 (some .int)] ++ wsX30 ++ wsX00 ++ wsX20)
def wsX3_say_r1 : List Cond := [Cond.fieldLink RX3 23 "OneSentence" "today" "LOneSentence$Day;", Cond.methodLink RX3 86 yX3_isThere, Cond.instanceMethod yX3_isThere, Cond.selects RX3 yX3_isThere yX3_isThere, Cond.initialized RX3, Cond.code yX3_isThere cX3_isThere 2 (some .boolean), Cond.fieldLink RX3 73 "OneSentence" "people" "I", Cond.methodLink RX3 103 yX3_maySpeak, Cond.instanceMethod yX3_maySpeak, Cond.selects RX3 yX3_maySpeak yX3_maySpeak, Cond.code yX3_maySpeak cX3_maySpeak 4 (some .boolean), Cond.fieldLink RX3 17 "OneSentence" "kind" "[I", Cond.methodLink RX3 96 yX3_has, Cond.static yX3_has, Cond.code yX3_has cX3_has 2 (some .boolean), Cond.methodLink RX3 110 yX3_remember, Cond.instanceMethod yX3_remember, Cond.selects RX3 yX3_remember yX3_remember, Cond.code yX3_remember cX3_remember 2 none, Cond.fieldLink RX3 134 "OneSentence" "firstAct" "I", Cond.fieldLink RX3 131 "OneSentence" "acts" "I", Cond.fieldLink RX3 27 "OneSentence" "past" "[LOneSentence$Day;", Cond.instanceMethod yX0_become, Cond.initialized RX0]
def wsX3_say_r2 : List Cond := [Cond.selects RX0 yX0_become yX0_become, Cond.code yX0_become cX0_become 3 none, Cond.fieldLink RX0 12 "OneSentence$Day" "talk" "LOneSentence$Talk;", Cond.fieldLink RX0 25 "OneSentence$Day" "at" "I", Cond.fieldLink RX0 29 "OneSentence$Day" "hour" "I", Cond.fieldLink RX0 18 "OneSentence$Day" "sentence" "[I", Cond.instanceMethod yX2_become, Cond.initialized RX2, Cond.selects RX2 yX2_become yX2_become, Cond.code yX2_become cX2_become 3 none, Cond.fieldLink RX2 22 "OneSentence$Talk" "sense" "I", Cond.fieldLink RX2 9 "OneSentence$Talk" "last" "I", Cond.fieldLink RX2 15 "OneSentence$Talk" "lastNoEcho" "I", Cond.fieldLink RX2 18 "OneSentence$Talk" "times" "[I", Cond.methodLink RX3 124 yX3_speak, Cond.instanceMethod yX3_speak, Cond.selects RX3 yX3_speak yX3_speak, Cond.code yX3_speak cX3_speak 4 none, Cond.methodLink RX3 190 yX3_sentenceOf, Cond.instanceMethod yX3_sentenceOf, Cond.selects RX3 yX3_sentenceOf yX3_sentenceOf, Cond.code yX3_sentenceOf cX3_sentenceOf 2 (some .int), Cond.fieldLink RX3 171 "OneSentence" "oneMoreSentence" "I", Cond.instanceMethod yX2_utter]
def wsX3_say_r3 : List Cond := [Cond.selects RX2 yX2_utter yX2_utter, Cond.code yX2_utter cX2_utter 5 none, Cond.methodLink RX2 25 yX2_made, Cond.static yX2_made, Cond.code yX2_made cX2_made 3 (some .int)]
def wsX3_say : List Cond := .code yX3_say cX3_say 2 (some .int) :: ((wsX3_say_r1 ++ (wsX3_say_r2 ++ wsX3_say_r3)) ++ wsX30 ++ wsX00 ++ wsX20)
def wsX3_name_r1 : List Cond := [Cond.fieldLink RX3 23 "OneSentence" "today" "LOneSentence$Day;", Cond.methodLink RX3 86 yX3_isThere, Cond.instanceMethod yX3_isThere, Cond.selects RX3 yX3_isThere yX3_isThere, Cond.initialized RX3, Cond.code yX3_isThere cX3_isThere 2 (some .boolean), Cond.fieldLink RX3 73 "OneSentence" "people" "I", Cond.methodLink RX3 110 yX3_remember, Cond.instanceMethod yX3_remember, Cond.selects RX3 yX3_remember yX3_remember, Cond.code yX3_remember cX3_remember 2 none, Cond.fieldLink RX3 134 "OneSentence" "firstAct" "I", Cond.fieldLink RX3 131 "OneSentence" "acts" "I", Cond.fieldLink RX3 27 "OneSentence" "past" "[LOneSentence$Day;", Cond.instanceMethod yX0_become, Cond.initialized RX0, Cond.selects RX0 yX0_become yX0_become, Cond.code yX0_become cX0_become 3 none, Cond.fieldLink RX0 12 "OneSentence$Day" "talk" "LOneSentence$Talk;", Cond.fieldLink RX0 25 "OneSentence$Day" "at" "I", Cond.fieldLink RX0 29 "OneSentence$Day" "hour" "I", Cond.fieldLink RX0 18 "OneSentence$Day" "sentence" "[I", Cond.instanceMethod yX2_become, Cond.initialized RX2]
def wsX3_name_r2 : List Cond := [Cond.selects RX2 yX2_become yX2_become, Cond.code yX2_become cX2_become 3 none, Cond.fieldLink RX2 22 "OneSentence$Talk" "sense" "I", Cond.fieldLink RX2 9 "OneSentence$Talk" "last" "I", Cond.fieldLink RX2 15 "OneSentence$Talk" "lastNoEcho" "I", Cond.fieldLink RX2 18 "OneSentence$Talk" "times" "[I"]
def wsX3_name : List Cond := .code yX3_name cX3_name 5 (some .int) :: ((wsX3_name_r1 ++ wsX3_name_r2) ++ wsX30 ++ wsX00 ++ wsX20)
def wsX3_undo : List Cond := .code yX3_undo cX3_undo 2 (some .int) :: ([.fieldLink RX3 131 "OneSentence" "acts" "I", .fieldLink RX3 134 "OneSentence" "firstAct" "I", .fieldLink RX3 27 "OneSentence" "past" "[LOneSentence$Day;", .fieldLink RX3 23 "OneSentence" "today" "LOneSentence$Day;", .instanceMethod yX0_become, .initialized RX0, .selects RX0 yX0_become yX0_become, .code yX0_become cX0_become 3 none, .fieldLink RX0 12 "OneSentence$Day" "talk" "LOneSentence$Talk;", .fieldLink RX0 25 "OneSentence$Day" "at" "I", .fieldLink RX0 29 "OneSentence$Day" "hour" "I", .fieldLink RX0 18 "OneSentence$Day" "sentence" "[I", .instanceMethod yX2_become, .initialized RX2, .selects RX2 yX2_become yX2_become, .code yX2_become cX2_become 3 none, .fieldLink RX2 22 "OneSentence$Talk" "sense" "I", .fieldLink RX2 9 "OneSentence$Talk" "last" "I", .fieldLink RX2 15 "OneSentence$Talk" "lastNoEcho" "I", .fieldLink RX2 18 "OneSentence$Talk" "times" "[I"] ++ wsX30 ++ wsX00 ++ wsX20)
def wsX3_personIn : List Cond := .code yX3_personIn cX3_personIn 5 (some .int) :: ([])
def wsX3_play_r1 : List Cond := [Cond.fieldLink RX3 41 "OneSentence" "trial" "LOneSentence$Talk;", Cond.fieldLink RX3 23 "OneSentence" "today" "LOneSentence$Day;", Cond.instanceMethod yX2_become, Cond.initialized RX2, Cond.selects RX2 yX2_become yX2_become, Cond.code yX2_become cX2_become 3 none, Cond.fieldLink RX2 22 "OneSentence$Talk" "sense" "I", Cond.fieldLink RX2 9 "OneSentence$Talk" "last" "I", Cond.fieldLink RX2 15 "OneSentence$Talk" "lastNoEcho" "I", Cond.fieldLink RX2 18 "OneSentence$Talk" "times" "[I", Cond.methodLink RX3 245 yX3_personIn, Cond.static yX3_personIn, Cond.initialized RX3, Cond.code yX3_personIn cX3_personIn 5 (some .int), Cond.methodLink RX3 103 yX3_maySpeak, Cond.instanceMethod yX3_maySpeak, Cond.selects RX3 yX3_maySpeak yX3_maySpeak, Cond.code yX3_maySpeak cX3_maySpeak 4 (some .boolean), Cond.fieldLink RX3 17 "OneSentence" "kind" "[I", Cond.methodLink RX3 96 yX3_has, Cond.static yX3_has, Cond.code yX3_has cX3_has 2 (some .boolean), Cond.methodLink RX3 124 yX3_speak, Cond.instanceMethod yX3_speak]
def wsX3_play_r2 : List Cond := [Cond.selects RX3 yX3_speak yX3_speak, Cond.code yX3_speak cX3_speak 4 none, Cond.methodLink RX3 190 yX3_sentenceOf, Cond.instanceMethod yX3_sentenceOf, Cond.selects RX3 yX3_sentenceOf yX3_sentenceOf, Cond.code yX3_sentenceOf cX3_sentenceOf 2 (some .int), Cond.fieldLink RX3 171 "OneSentence" "oneMoreSentence" "I", Cond.instanceMethod yX2_utter, Cond.selects RX2 yX2_utter yX2_utter, Cond.code yX2_utter cX2_utter 5 none, Cond.methodLink RX2 25 yX2_made, Cond.static yX2_made, Cond.code yX2_made cX2_made 3 (some .int)]
def wsX3_play : List Cond := .code yX3_play cX3_play 6 (some .int) :: ((wsX3_play_r1 ++ wsX3_play_r2) ++ wsX30 ++ wsX00 ++ wsX20)
def wsX3_comesTo_r1 : List Cond := [Cond.fieldLink RX3 23 "OneSentence" "today" "LOneSentence$Day;", Cond.fieldLink RX3 41 "OneSentence" "trial" "LOneSentence$Talk;", Cond.methodLink RX3 141 yX3_power, Cond.static yX3_power, Cond.initialized RX3, Cond.code yX3_power cX3_power 4 (some .int), Cond.methodLink RX3 145 yX3_play, Cond.instanceMethod yX3_play, Cond.selects RX3 yX3_play yX3_play, Cond.code yX3_play cX3_play 6 (some .int), Cond.instanceMethod yX2_become, Cond.initialized RX2, Cond.selects RX2 yX2_become yX2_become, Cond.code yX2_become cX2_become 3 none, Cond.fieldLink RX2 22 "OneSentence$Talk" "sense" "I", Cond.fieldLink RX2 9 "OneSentence$Talk" "last" "I", Cond.fieldLink RX2 15 "OneSentence$Talk" "lastNoEcho" "I", Cond.fieldLink RX2 18 "OneSentence$Talk" "times" "[I", Cond.methodLink RX3 245 yX3_personIn, Cond.static yX3_personIn, Cond.code yX3_personIn cX3_personIn 5 (some .int), Cond.methodLink RX3 103 yX3_maySpeak, Cond.instanceMethod yX3_maySpeak, Cond.selects RX3 yX3_maySpeak yX3_maySpeak]
def wsX3_comesTo_r2 : List Cond := [Cond.code yX3_maySpeak cX3_maySpeak 4 (some .boolean), Cond.fieldLink RX3 17 "OneSentence" "kind" "[I", Cond.methodLink RX3 96 yX3_has, Cond.static yX3_has, Cond.code yX3_has cX3_has 2 (some .boolean), Cond.methodLink RX3 124 yX3_speak, Cond.instanceMethod yX3_speak, Cond.selects RX3 yX3_speak yX3_speak, Cond.code yX3_speak cX3_speak 4 none, Cond.methodLink RX3 190 yX3_sentenceOf, Cond.instanceMethod yX3_sentenceOf, Cond.selects RX3 yX3_sentenceOf yX3_sentenceOf, Cond.code yX3_sentenceOf cX3_sentenceOf 2 (some .int), Cond.fieldLink RX3 171 "OneSentence" "oneMoreSentence" "I", Cond.instanceMethod yX2_utter, Cond.selects RX2 yX2_utter yX2_utter, Cond.code yX2_utter cX2_utter 5 none, Cond.methodLink RX2 25 yX2_made, Cond.static yX2_made, Cond.code yX2_made cX2_made 3 (some .int)]
def wsX3_comesTo : List Cond := .code yX3_comesTo cX3_comesTo 5 (some .int) :: ((wsX3_comesTo_r1 ++ wsX3_comesTo_r2) ++ wsX30 ++ wsX00 ++ wsX20)
def wsX3_isSense : List Cond := .code yX3_isSense cX3_isSense 1 (some .boolean) :: ([])
def wsX3_isTold_r1 : List Cond := [Cond.fieldLink RX3 41 "OneSentence" "trial" "LOneSentence$Talk;", Cond.methodLink RX3 145 yX3_play, Cond.instanceMethod yX3_play, Cond.selects RX3 yX3_play yX3_play, Cond.initialized RX3, Cond.code yX3_play cX3_play 6 (some .int), Cond.fieldLink RX3 23 "OneSentence" "today" "LOneSentence$Day;", Cond.instanceMethod yX2_become, Cond.initialized RX2, Cond.selects RX2 yX2_become yX2_become, Cond.code yX2_become cX2_become 3 none, Cond.fieldLink RX2 22 "OneSentence$Talk" "sense" "I", Cond.fieldLink RX2 9 "OneSentence$Talk" "last" "I", Cond.fieldLink RX2 15 "OneSentence$Talk" "lastNoEcho" "I", Cond.fieldLink RX2 18 "OneSentence$Talk" "times" "[I", Cond.methodLink RX3 245 yX3_personIn, Cond.static yX3_personIn, Cond.code yX3_personIn cX3_personIn 5 (some .int), Cond.methodLink RX3 103 yX3_maySpeak, Cond.instanceMethod yX3_maySpeak, Cond.selects RX3 yX3_maySpeak yX3_maySpeak, Cond.code yX3_maySpeak cX3_maySpeak 4 (some .boolean), Cond.fieldLink RX3 17 "OneSentence" "kind" "[I", Cond.methodLink RX3 96 yX3_has]
def wsX3_isTold_r2 : List Cond := [Cond.static yX3_has, Cond.code yX3_has cX3_has 2 (some .boolean), Cond.methodLink RX3 124 yX3_speak, Cond.instanceMethod yX3_speak, Cond.selects RX3 yX3_speak yX3_speak, Cond.code yX3_speak cX3_speak 4 none, Cond.methodLink RX3 190 yX3_sentenceOf, Cond.instanceMethod yX3_sentenceOf, Cond.selects RX3 yX3_sentenceOf yX3_sentenceOf, Cond.code yX3_sentenceOf cX3_sentenceOf 2 (some .int), Cond.fieldLink RX3 171 "OneSentence" "oneMoreSentence" "I", Cond.instanceMethod yX2_utter, Cond.selects RX2 yX2_utter yX2_utter, Cond.code yX2_utter cX2_utter 5 none, Cond.methodLink RX2 25 yX2_made, Cond.static yX2_made, Cond.code yX2_made cX2_made 3 (some .int)]
def wsX3_isTold : List Cond := .code yX3_isTold cX3_isTold 5 (some .boolean) :: ((wsX3_isTold_r1 ++ wsX3_isTold_r2) ++ wsX30 ++ wsX20 ++ wsX00)
def wsX3_leastRow_r1 : List Cond := [Cond.fieldLink RX3 48 "OneSentence" "rows" "LOneSentence$Rows;", Cond.fieldLink RX3 23 "OneSentence" "today" "LOneSentence$Day;", Cond.instanceMethod yX1_many, Cond.initialized RX1, Cond.selects RX1 yX1_many yX1_many, Cond.code yX1_many cX1_many 2 (some .int), Cond.fieldLink RX1 15 "OneSentence$Rows" "size" "I", Cond.static yX3_power, Cond.initialized RX3, Cond.code yX3_power cX3_power 4 (some .int), Cond.instanceMethod yX1_told, Cond.selects RX1 yX1_told yX1_told, Cond.code yX1_told cX1_told 7 (some .int), Cond.fieldLink RX1 9 "OneSentence$Rows" "who" "[I", Cond.methodLink RX3 180 yX3_isTold, Cond.instanceMethod yX3_isTold, Cond.selects RX3 yX3_isTold yX3_isTold, Cond.code yX3_isTold cX3_isTold 5 (some .boolean), Cond.fieldLink RX3 41 "OneSentence" "trial" "LOneSentence$Talk;", Cond.methodLink RX3 145 yX3_play, Cond.instanceMethod yX3_play, Cond.selects RX3 yX3_play yX3_play, Cond.code yX3_play cX3_play 6 (some .int), Cond.instanceMethod yX2_become]
def wsX3_leastRow_r2 : List Cond := [Cond.initialized RX2, Cond.selects RX2 yX2_become yX2_become, Cond.code yX2_become cX2_become 3 none, Cond.fieldLink RX2 22 "OneSentence$Talk" "sense" "I", Cond.fieldLink RX2 9 "OneSentence$Talk" "last" "I", Cond.fieldLink RX2 15 "OneSentence$Talk" "lastNoEcho" "I", Cond.fieldLink RX2 18 "OneSentence$Talk" "times" "[I", Cond.methodLink RX3 245 yX3_personIn, Cond.static yX3_personIn, Cond.code yX3_personIn cX3_personIn 5 (some .int), Cond.methodLink RX3 103 yX3_maySpeak, Cond.instanceMethod yX3_maySpeak, Cond.selects RX3 yX3_maySpeak yX3_maySpeak, Cond.code yX3_maySpeak cX3_maySpeak 4 (some .boolean), Cond.fieldLink RX3 17 "OneSentence" "kind" "[I", Cond.methodLink RX3 96 yX3_has, Cond.static yX3_has, Cond.code yX3_has cX3_has 2 (some .boolean), Cond.methodLink RX3 124 yX3_speak, Cond.instanceMethod yX3_speak, Cond.selects RX3 yX3_speak yX3_speak, Cond.code yX3_speak cX3_speak 4 none, Cond.methodLink RX3 190 yX3_sentenceOf, Cond.instanceMethod yX3_sentenceOf]
def wsX3_leastRow_r3 : List Cond := [Cond.selects RX3 yX3_sentenceOf yX3_sentenceOf, Cond.code yX3_sentenceOf cX3_sentenceOf 2 (some .int), Cond.fieldLink RX3 171 "OneSentence" "oneMoreSentence" "I", Cond.instanceMethod yX2_utter, Cond.selects RX2 yX2_utter yX2_utter, Cond.code yX2_utter cX2_utter 5 none, Cond.methodLink RX2 25 yX2_made, Cond.static yX2_made, Cond.code yX2_made cX2_made 3 (some .int)]
def wsX3_leastRow : List Cond := .code yX3_leastRow cX3_leastRow 6 (some .int) :: ((wsX3_leastRow_r1 ++ (wsX3_leastRow_r2 ++ wsX3_leastRow_r3)) ++ wsX30 ++ wsX00 ++ wsX10 ++ wsX20)
def wsX3_fewest_r1 : List Cond := [Cond.fieldLink RX3 48 "OneSentence" "rows" "LOneSentence$Rows;", Cond.fieldLink RX3 23 "OneSentence" "today" "LOneSentence$Day;", Cond.methodLink RX3 149 yX3_isSense, Cond.static yX3_isSense, Cond.initialized RX3, Cond.code yX3_isSense cX3_isSense 1 (some .boolean), Cond.instanceMethod yX1_by, Cond.initialized RX1, Cond.selects RX1 yX1_by yX1_by, Cond.code yX1_by cX1_by 3 none, Cond.fieldLink RX1 15 "OneSentence$Rows" "size" "I", Cond.fieldLink RX1 9 "OneSentence$Rows" "who" "[I", Cond.static yX3_has, Cond.code yX3_has cX3_has 2 (some .boolean), Cond.methodLink RX3 156 yX3_leastRow, Cond.instanceMethod yX3_leastRow, Cond.selects RX3 yX3_leastRow yX3_leastRow, Cond.code yX3_leastRow cX3_leastRow 6 (some .int), Cond.instanceMethod yX1_many, Cond.selects RX1 yX1_many yX1_many, Cond.code yX1_many cX1_many 2 (some .int), Cond.static yX3_power, Cond.code yX3_power cX3_power 4 (some .int), Cond.instanceMethod yX1_told]
def wsX3_fewest_r2 : List Cond := [Cond.selects RX1 yX1_told yX1_told, Cond.code yX1_told cX1_told 7 (some .int), Cond.methodLink RX3 180 yX3_isTold, Cond.instanceMethod yX3_isTold, Cond.selects RX3 yX3_isTold yX3_isTold, Cond.code yX3_isTold cX3_isTold 5 (some .boolean), Cond.fieldLink RX3 41 "OneSentence" "trial" "LOneSentence$Talk;", Cond.methodLink RX3 145 yX3_play, Cond.instanceMethod yX3_play, Cond.selects RX3 yX3_play yX3_play, Cond.code yX3_play cX3_play 6 (some .int), Cond.instanceMethod yX2_become, Cond.initialized RX2, Cond.selects RX2 yX2_become yX2_become, Cond.code yX2_become cX2_become 3 none, Cond.fieldLink RX2 22 "OneSentence$Talk" "sense" "I", Cond.fieldLink RX2 9 "OneSentence$Talk" "last" "I", Cond.fieldLink RX2 15 "OneSentence$Talk" "lastNoEcho" "I", Cond.fieldLink RX2 18 "OneSentence$Talk" "times" "[I", Cond.methodLink RX3 245 yX3_personIn, Cond.static yX3_personIn, Cond.code yX3_personIn cX3_personIn 5 (some .int), Cond.methodLink RX3 103 yX3_maySpeak, Cond.instanceMethod yX3_maySpeak]
def wsX3_fewest_r3 : List Cond := [Cond.selects RX3 yX3_maySpeak yX3_maySpeak, Cond.code yX3_maySpeak cX3_maySpeak 4 (some .boolean), Cond.fieldLink RX3 17 "OneSentence" "kind" "[I", Cond.methodLink RX3 96 yX3_has, Cond.methodLink RX3 124 yX3_speak, Cond.instanceMethod yX3_speak, Cond.selects RX3 yX3_speak yX3_speak, Cond.code yX3_speak cX3_speak 4 none, Cond.methodLink RX3 190 yX3_sentenceOf, Cond.instanceMethod yX3_sentenceOf, Cond.selects RX3 yX3_sentenceOf yX3_sentenceOf, Cond.code yX3_sentenceOf cX3_sentenceOf 2 (some .int), Cond.fieldLink RX3 171 "OneSentence" "oneMoreSentence" "I", Cond.instanceMethod yX2_utter, Cond.selects RX2 yX2_utter yX2_utter, Cond.code yX2_utter cX2_utter 5 none, Cond.methodLink RX2 25 yX2_made, Cond.static yX2_made, Cond.code yX2_made cX2_made 3 (some .int)]
def wsX3_fewest : List Cond := .code yX3_fewest cX3_fewest 5 (some .int) :: ((wsX3_fewest_r1 ++ (wsX3_fewest_r2 ++ wsX3_fewest_r3)) ++ wsX30 ++ wsX00 ++ wsX10 ++ wsX20)
def wsX3_sensesBy_r1 : List Cond := [Cond.fieldLink RX3 48 "OneSentence" "rows" "LOneSentence$Rows;", Cond.fieldLink RX3 41 "OneSentence" "trial" "LOneSentence$Talk;", Cond.instanceMethod yX1_by, Cond.initialized RX1, Cond.selects RX1 yX1_by yX1_by, Cond.code yX1_by cX1_by 3 none, Cond.fieldLink RX1 15 "OneSentence$Rows" "size" "I", Cond.fieldLink RX1 9 "OneSentence$Rows" "who" "[I", Cond.static yX3_has, Cond.initialized RX3, Cond.code yX3_has cX3_has 2 (some .boolean), Cond.instanceMethod yX1_many, Cond.selects RX1 yX1_many yX1_many, Cond.code yX1_many cX1_many 2 (some .int), Cond.static yX3_power, Cond.code yX3_power cX3_power 4 (some .int), Cond.instanceMethod yX1_told, Cond.selects RX1 yX1_told yX1_told, Cond.code yX1_told cX1_told 7 (some .int), Cond.methodLink RX3 145 yX3_play, Cond.instanceMethod yX3_play, Cond.selects RX3 yX3_play yX3_play, Cond.code yX3_play cX3_play 6 (some .int), Cond.fieldLink RX3 23 "OneSentence" "today" "LOneSentence$Day;"]
def wsX3_sensesBy_r2 : List Cond := [Cond.instanceMethod yX2_become, Cond.initialized RX2, Cond.selects RX2 yX2_become yX2_become, Cond.code yX2_become cX2_become 3 none, Cond.fieldLink RX2 22 "OneSentence$Talk" "sense" "I", Cond.fieldLink RX2 9 "OneSentence$Talk" "last" "I", Cond.fieldLink RX2 15 "OneSentence$Talk" "lastNoEcho" "I", Cond.fieldLink RX2 18 "OneSentence$Talk" "times" "[I", Cond.methodLink RX3 245 yX3_personIn, Cond.static yX3_personIn, Cond.code yX3_personIn cX3_personIn 5 (some .int), Cond.methodLink RX3 103 yX3_maySpeak, Cond.instanceMethod yX3_maySpeak, Cond.selects RX3 yX3_maySpeak yX3_maySpeak, Cond.code yX3_maySpeak cX3_maySpeak 4 (some .boolean), Cond.fieldLink RX3 17 "OneSentence" "kind" "[I", Cond.methodLink RX3 96 yX3_has, Cond.methodLink RX3 124 yX3_speak, Cond.instanceMethod yX3_speak, Cond.selects RX3 yX3_speak yX3_speak, Cond.code yX3_speak cX3_speak 4 none, Cond.methodLink RX3 190 yX3_sentenceOf, Cond.instanceMethod yX3_sentenceOf, Cond.selects RX3 yX3_sentenceOf yX3_sentenceOf]
def wsX3_sensesBy_r3 : List Cond := [Cond.code yX3_sentenceOf cX3_sentenceOf 2 (some .int), Cond.fieldLink RX3 171 "OneSentence" "oneMoreSentence" "I", Cond.instanceMethod yX2_utter, Cond.selects RX2 yX2_utter yX2_utter, Cond.code yX2_utter cX2_utter 5 none, Cond.methodLink RX2 25 yX2_made, Cond.static yX2_made, Cond.code yX2_made cX2_made 3 (some .int)]
def wsX3_sensesBy : List Cond := .code yX3_sensesBy cX3_sensesBy 7 (some .int) :: ((wsX3_sensesBy_r1 ++ (wsX3_sensesBy_r2 ++ wsX3_sensesBy_r3)) ++ wsX30 ++ wsX20 ++ wsX10 ++ wsX00)
def wsX3_can_r1 : List Cond := [Cond.fieldLink RX3 23 "OneSentence" "today" "LOneSentence$Day;", Cond.methodLink RX3 159 yX3_sensesBy, Cond.instanceMethod yX3_sensesBy, Cond.selects RX3 yX3_sensesBy yX3_sensesBy, Cond.initialized RX3, Cond.code yX3_sensesBy cX3_sensesBy 7 (some .int), Cond.fieldLink RX3 48 "OneSentence" "rows" "LOneSentence$Rows;", Cond.fieldLink RX3 41 "OneSentence" "trial" "LOneSentence$Talk;", Cond.instanceMethod yX1_by, Cond.initialized RX1, Cond.selects RX1 yX1_by yX1_by, Cond.code yX1_by cX1_by 3 none, Cond.fieldLink RX1 15 "OneSentence$Rows" "size" "I", Cond.fieldLink RX1 9 "OneSentence$Rows" "who" "[I", Cond.static yX3_has, Cond.code yX3_has cX3_has 2 (some .boolean), Cond.instanceMethod yX1_many, Cond.selects RX1 yX1_many yX1_many, Cond.code yX1_many cX1_many 2 (some .int), Cond.static yX3_power, Cond.code yX3_power cX3_power 4 (some .int), Cond.instanceMethod yX1_told, Cond.selects RX1 yX1_told yX1_told, Cond.code yX1_told cX1_told 7 (some .int)]
def wsX3_can_r2 : List Cond := [Cond.methodLink RX3 145 yX3_play, Cond.instanceMethod yX3_play, Cond.selects RX3 yX3_play yX3_play, Cond.code yX3_play cX3_play 6 (some .int), Cond.instanceMethod yX2_become, Cond.initialized RX2, Cond.selects RX2 yX2_become yX2_become, Cond.code yX2_become cX2_become 3 none, Cond.fieldLink RX2 22 "OneSentence$Talk" "sense" "I", Cond.fieldLink RX2 9 "OneSentence$Talk" "last" "I", Cond.fieldLink RX2 15 "OneSentence$Talk" "lastNoEcho" "I", Cond.fieldLink RX2 18 "OneSentence$Talk" "times" "[I", Cond.methodLink RX3 245 yX3_personIn, Cond.static yX3_personIn, Cond.code yX3_personIn cX3_personIn 5 (some .int), Cond.methodLink RX3 103 yX3_maySpeak, Cond.instanceMethod yX3_maySpeak, Cond.selects RX3 yX3_maySpeak yX3_maySpeak, Cond.code yX3_maySpeak cX3_maySpeak 4 (some .boolean), Cond.fieldLink RX3 17 "OneSentence" "kind" "[I", Cond.methodLink RX3 96 yX3_has, Cond.methodLink RX3 124 yX3_speak, Cond.instanceMethod yX3_speak, Cond.selects RX3 yX3_speak yX3_speak]
def wsX3_can_r3 : List Cond := [Cond.code yX3_speak cX3_speak 4 none, Cond.methodLink RX3 190 yX3_sentenceOf, Cond.instanceMethod yX3_sentenceOf, Cond.selects RX3 yX3_sentenceOf yX3_sentenceOf, Cond.code yX3_sentenceOf cX3_sentenceOf 2 (some .int), Cond.fieldLink RX3 171 "OneSentence" "oneMoreSentence" "I", Cond.instanceMethod yX2_utter, Cond.selects RX2 yX2_utter yX2_utter, Cond.code yX2_utter cX2_utter 5 none, Cond.methodLink RX2 25 yX2_made, Cond.static yX2_made, Cond.code yX2_made cX2_made 3 (some .int)]
def wsX3_can : List Cond := .code yX3_can cX3_can 2 (some .int) :: ((wsX3_can_r1 ++ (wsX3_can_r2 ++ wsX3_can_r3)) ++ wsX30 ++ wsX00 ++ wsX20 ++ wsX10)
def wsX3_everybody : List Cond := .code yX3_everybody cX3_everybody 1 (some .int) :: ([.fieldLink RX3 73 "OneSentence" "people" "I"] ++ wsX30)
def wsX3_speakersIn : List Cond := .code yX3_speakersIn cX3_speakersIn 4 (some .int) :: ([.methodLink RX3 245 yX3_personIn, .static yX3_personIn, .initialized RX3, .code yX3_personIn cX3_personIn 5 (some .int)])
def wsX3_hoursFor : List Cond := .code yX3_hoursFor cX3_hoursFor 4 (some .int) :: ([.fieldLink RX3 73 "OneSentence" "people" "I", .methodLink RX3 96 yX3_has, .static yX3_has, .initialized RX3, .code yX3_has cX3_has 2 (some .boolean), .methodLink RX3 116 yX3_hoursFrom, .instanceMethod yX3_hoursFrom, .selects RX3 yX3_hoursFrom yX3_hoursFrom, .code yX3_hoursFrom cX3_hoursFrom 2 (some .int), .fieldLink RX3 13 "OneSentence" "home" "[I", .fieldLink RX3 70 "OneSentence" "market" "I", .methodLink RX3 240 Lib.Math.abs.name, .static Lib.Math.abs.name, .initialized "java/lang/Math", .code Lib.Math.abs.name Lib.Math.abs.code 1 (some .int), .methodLink RX3 86 yX3_isThere, .instanceMethod yX3_isThere, .selects RX3 yX3_isThere yX3_isThere, .code yX3_isThere cX3_isThere 2 (some .boolean)] ++ wsX30)
def wsJ6_compare_7cf53 : List Cond := .code yJ6_compare_7cf53 cJ6_compare_7cf53 2 (some .int) :: ([])
def wsX3_isCheaper_r1 : List Cond := [Cond.methodLink RX3 168 yX3_hoursFor, Cond.instanceMethod yX3_hoursFor, Cond.selects RX3 yX3_hoursFor yX3_hoursFor, Cond.initialized RX3, Cond.code yX3_hoursFor cX3_hoursFor 4 (some .int), Cond.fieldLink RX3 73 "OneSentence" "people" "I", Cond.methodLink RX3 96 yX3_has, Cond.static yX3_has, Cond.code yX3_has cX3_has 2 (some .boolean), Cond.methodLink RX3 116 yX3_hoursFrom, Cond.instanceMethod yX3_hoursFrom, Cond.selects RX3 yX3_hoursFrom yX3_hoursFrom, Cond.code yX3_hoursFrom cX3_hoursFrom 2 (some .int), Cond.fieldLink RX3 13 "OneSentence" "home" "[I", Cond.fieldLink RX3 70 "OneSentence" "market" "I", Cond.methodLink RX3 240 Lib.Math.abs.name, Cond.static Lib.Math.abs.name, Cond.initialized "java/lang/Math", Cond.code Lib.Math.abs.name Lib.Math.abs.code 1 (some .int), Cond.methodLink RX3 86 yX3_isThere, Cond.instanceMethod yX3_isThere, Cond.selects RX3 yX3_isThere yX3_isThere, Cond.code yX3_isThere cX3_isThere 2 (some .boolean), Cond.methodLink RX3 251 yJ6_compare_7cf53]
def wsX3_isCheaper_r2 : List Cond := [Cond.static yJ6_compare_7cf53, Cond.initialized RJ6, Cond.code yJ6_compare_7cf53 cJ6_compare_7cf53 2 (some .int), Cond.methodLink RX3 119 yJ6_bitCount_0f7a4, Cond.static yJ6_bitCount_0f7a4, Cond.code yJ6_bitCount_0f7a4 cJ6_bitCount_0f7a4 1 (some .int), Cond.constant RJ6 265 (1431655765), Cond.constant RJ6 266 (858993459), Cond.constant RJ6 267 (252645135)]
def wsX3_isCheaper : List Cond := .code yX3_isCheaper cX3_isCheaper 5 (some .boolean) :: ((wsX3_isCheaper_r1 ++ wsX3_isCheaper_r2) ++ wsX30)
def wsX3_bestFetch_r1 : List Cond := [Cond.fieldLink RX3 48 "OneSentence" "rows" "LOneSentence$Rows;", Cond.fieldLink RX3 23 "OneSentence" "today" "LOneSentence$Day;", Cond.instanceMethod yX1_many, Cond.initialized RX1, Cond.selects RX1 yX1_many yX1_many, Cond.code yX1_many cX1_many 2 (some .int), Cond.fieldLink RX1 15 "OneSentence$Rows" "size" "I", Cond.static yX3_power, Cond.initialized RX3, Cond.code yX3_power cX3_power 4 (some .int), Cond.instanceMethod yX1_told, Cond.selects RX1 yX1_told yX1_told, Cond.code yX1_told cX1_told 7 (some .int), Cond.fieldLink RX1 9 "OneSentence$Rows" "who" "[I", Cond.methodLink RX3 162 yX3_everybody, Cond.instanceMethod yX3_everybody, Cond.selects RX3 yX3_everybody yX3_everybody, Cond.code yX3_everybody cX3_everybody 1 (some .int), Cond.fieldLink RX3 73 "OneSentence" "people" "I", Cond.methodLink RX3 180 yX3_isTold, Cond.instanceMethod yX3_isTold, Cond.selects RX3 yX3_isTold yX3_isTold, Cond.code yX3_isTold cX3_isTold 5 (some .boolean), Cond.fieldLink RX3 41 "OneSentence" "trial" "LOneSentence$Talk;"]
def wsX3_bestFetch_r2 : List Cond := [Cond.methodLink RX3 145 yX3_play, Cond.instanceMethod yX3_play, Cond.selects RX3 yX3_play yX3_play, Cond.code yX3_play cX3_play 6 (some .int), Cond.instanceMethod yX2_become, Cond.initialized RX2, Cond.selects RX2 yX2_become yX2_become, Cond.code yX2_become cX2_become 3 none, Cond.fieldLink RX2 22 "OneSentence$Talk" "sense" "I", Cond.fieldLink RX2 9 "OneSentence$Talk" "last" "I", Cond.fieldLink RX2 15 "OneSentence$Talk" "lastNoEcho" "I", Cond.fieldLink RX2 18 "OneSentence$Talk" "times" "[I", Cond.methodLink RX3 245 yX3_personIn, Cond.static yX3_personIn, Cond.code yX3_personIn cX3_personIn 5 (some .int), Cond.methodLink RX3 103 yX3_maySpeak, Cond.instanceMethod yX3_maySpeak, Cond.selects RX3 yX3_maySpeak yX3_maySpeak, Cond.code yX3_maySpeak cX3_maySpeak 4 (some .boolean), Cond.fieldLink RX3 17 "OneSentence" "kind" "[I", Cond.methodLink RX3 96 yX3_has, Cond.static yX3_has, Cond.code yX3_has cX3_has 2 (some .boolean), Cond.methodLink RX3 124 yX3_speak]
def wsX3_bestFetch_r3 : List Cond := [Cond.instanceMethod yX3_speak, Cond.selects RX3 yX3_speak yX3_speak, Cond.code yX3_speak cX3_speak 4 none, Cond.methodLink RX3 190 yX3_sentenceOf, Cond.instanceMethod yX3_sentenceOf, Cond.selects RX3 yX3_sentenceOf yX3_sentenceOf, Cond.code yX3_sentenceOf cX3_sentenceOf 2 (some .int), Cond.fieldLink RX3 171 "OneSentence" "oneMoreSentence" "I", Cond.instanceMethod yX2_utter, Cond.selects RX2 yX2_utter yX2_utter, Cond.code yX2_utter cX2_utter 5 none, Cond.methodLink RX2 25 yX2_made, Cond.static yX2_made, Cond.code yX2_made cX2_made 3 (some .int), Cond.methodLink RX3 184 yX3_speakersIn, Cond.static yX3_speakersIn, Cond.code yX3_speakersIn cX3_speakersIn 4 (some .int), Cond.methodLink RX3 248 yX3_isCheaper, Cond.instanceMethod yX3_isCheaper, Cond.selects RX3 yX3_isCheaper yX3_isCheaper, Cond.code yX3_isCheaper cX3_isCheaper 5 (some .boolean), Cond.methodLink RX3 168 yX3_hoursFor, Cond.instanceMethod yX3_hoursFor, Cond.selects RX3 yX3_hoursFor yX3_hoursFor]
def wsX3_bestFetch_r4 : List Cond := [Cond.code yX3_hoursFor cX3_hoursFor 4 (some .int), Cond.methodLink RX3 116 yX3_hoursFrom, Cond.instanceMethod yX3_hoursFrom, Cond.selects RX3 yX3_hoursFrom yX3_hoursFrom, Cond.code yX3_hoursFrom cX3_hoursFrom 2 (some .int), Cond.fieldLink RX3 13 "OneSentence" "home" "[I", Cond.fieldLink RX3 70 "OneSentence" "market" "I", Cond.methodLink RX3 240 Lib.Math.abs.name, Cond.static Lib.Math.abs.name, Cond.initialized "java/lang/Math", Cond.code Lib.Math.abs.name Lib.Math.abs.code 1 (some .int), Cond.methodLink RX3 86 yX3_isThere, Cond.instanceMethod yX3_isThere, Cond.selects RX3 yX3_isThere yX3_isThere, Cond.code yX3_isThere cX3_isThere 2 (some .boolean), Cond.methodLink RX3 251 yJ6_compare_7cf53, Cond.static yJ6_compare_7cf53, Cond.initialized RJ6, Cond.code yJ6_compare_7cf53 cJ6_compare_7cf53 2 (some .int), Cond.methodLink RX3 119 yJ6_bitCount_0f7a4, Cond.static yJ6_bitCount_0f7a4, Cond.code yJ6_bitCount_0f7a4 cJ6_bitCount_0f7a4 1 (some .int), Cond.constant RJ6 265 (1431655765), Cond.constant RJ6 266 (858993459)]
def wsX3_bestFetch_r5 : List Cond := [Cond.constant RJ6 267 (252645135)]
def wsX3_bestFetch : List Cond := .code yX3_bestFetch cX3_bestFetch 9 (some .int) :: ((wsX3_bestFetch_r1 ++ (wsX3_bestFetch_r2 ++ (wsX3_bestFetch_r3 ++ (wsX3_bestFetch_r4 ++ wsX3_bestFetch_r5)))) ++ wsX30 ++ wsX00 ++ wsX10 ++ wsX20)
def wsX3_toFetch_r1 : List Cond := [Cond.fieldLink RX3 48 "OneSentence" "rows" "LOneSentence$Rows;", Cond.methodLink RX3 149 yX3_isSense, Cond.static yX3_isSense, Cond.initialized RX3, Cond.code yX3_isSense cX3_isSense 1 (some .boolean), Cond.methodLink RX3 162 yX3_everybody, Cond.instanceMethod yX3_everybody, Cond.selects RX3 yX3_everybody yX3_everybody, Cond.code yX3_everybody cX3_everybody 1 (some .int), Cond.fieldLink RX3 73 "OneSentence" "people" "I", Cond.instanceMethod yX1_by, Cond.initialized RX1, Cond.selects RX1 yX1_by yX1_by, Cond.code yX1_by cX1_by 3 none, Cond.fieldLink RX1 15 "OneSentence$Rows" "size" "I", Cond.fieldLink RX1 9 "OneSentence$Rows" "who" "[I", Cond.static yX3_has, Cond.code yX3_has cX3_has 2 (some .boolean), Cond.methodLink RX3 165 yX3_bestFetch, Cond.instanceMethod yX3_bestFetch, Cond.selects RX3 yX3_bestFetch yX3_bestFetch, Cond.code yX3_bestFetch cX3_bestFetch 9 (some .int), Cond.fieldLink RX3 23 "OneSentence" "today" "LOneSentence$Day;", Cond.instanceMethod yX1_many]
def wsX3_toFetch_r2 : List Cond := [Cond.selects RX1 yX1_many yX1_many, Cond.code yX1_many cX1_many 2 (some .int), Cond.static yX3_power, Cond.code yX3_power cX3_power 4 (some .int), Cond.instanceMethod yX1_told, Cond.selects RX1 yX1_told yX1_told, Cond.code yX1_told cX1_told 7 (some .int), Cond.methodLink RX3 180 yX3_isTold, Cond.instanceMethod yX3_isTold, Cond.selects RX3 yX3_isTold yX3_isTold, Cond.code yX3_isTold cX3_isTold 5 (some .boolean), Cond.fieldLink RX3 41 "OneSentence" "trial" "LOneSentence$Talk;", Cond.methodLink RX3 145 yX3_play, Cond.instanceMethod yX3_play, Cond.selects RX3 yX3_play yX3_play, Cond.code yX3_play cX3_play 6 (some .int), Cond.instanceMethod yX2_become, Cond.initialized RX2, Cond.selects RX2 yX2_become yX2_become, Cond.code yX2_become cX2_become 3 none, Cond.fieldLink RX2 22 "OneSentence$Talk" "sense" "I", Cond.fieldLink RX2 9 "OneSentence$Talk" "last" "I", Cond.fieldLink RX2 15 "OneSentence$Talk" "lastNoEcho" "I", Cond.fieldLink RX2 18 "OneSentence$Talk" "times" "[I"]
def wsX3_toFetch_r3 : List Cond := [Cond.methodLink RX3 245 yX3_personIn, Cond.static yX3_personIn, Cond.code yX3_personIn cX3_personIn 5 (some .int), Cond.methodLink RX3 103 yX3_maySpeak, Cond.instanceMethod yX3_maySpeak, Cond.selects RX3 yX3_maySpeak yX3_maySpeak, Cond.code yX3_maySpeak cX3_maySpeak 4 (some .boolean), Cond.fieldLink RX3 17 "OneSentence" "kind" "[I", Cond.methodLink RX3 96 yX3_has, Cond.methodLink RX3 124 yX3_speak, Cond.instanceMethod yX3_speak, Cond.selects RX3 yX3_speak yX3_speak, Cond.code yX3_speak cX3_speak 4 none, Cond.methodLink RX3 190 yX3_sentenceOf, Cond.instanceMethod yX3_sentenceOf, Cond.selects RX3 yX3_sentenceOf yX3_sentenceOf, Cond.code yX3_sentenceOf cX3_sentenceOf 2 (some .int), Cond.fieldLink RX3 171 "OneSentence" "oneMoreSentence" "I", Cond.instanceMethod yX2_utter, Cond.selects RX2 yX2_utter yX2_utter, Cond.code yX2_utter cX2_utter 5 none, Cond.methodLink RX2 25 yX2_made, Cond.static yX2_made, Cond.code yX2_made cX2_made 3 (some .int)]
def wsX3_toFetch_r4 : List Cond := [Cond.methodLink RX3 184 yX3_speakersIn, Cond.static yX3_speakersIn, Cond.code yX3_speakersIn cX3_speakersIn 4 (some .int), Cond.methodLink RX3 248 yX3_isCheaper, Cond.instanceMethod yX3_isCheaper, Cond.selects RX3 yX3_isCheaper yX3_isCheaper, Cond.code yX3_isCheaper cX3_isCheaper 5 (some .boolean), Cond.methodLink RX3 168 yX3_hoursFor, Cond.instanceMethod yX3_hoursFor, Cond.selects RX3 yX3_hoursFor yX3_hoursFor, Cond.code yX3_hoursFor cX3_hoursFor 4 (some .int), Cond.methodLink RX3 116 yX3_hoursFrom, Cond.instanceMethod yX3_hoursFrom, Cond.selects RX3 yX3_hoursFrom yX3_hoursFrom, Cond.code yX3_hoursFrom cX3_hoursFrom 2 (some .int), Cond.fieldLink RX3 13 "OneSentence" "home" "[I", Cond.fieldLink RX3 70 "OneSentence" "market" "I", Cond.methodLink RX3 240 Lib.Math.abs.name, Cond.static Lib.Math.abs.name, Cond.initialized "java/lang/Math", Cond.code Lib.Math.abs.name Lib.Math.abs.code 1 (some .int), Cond.methodLink RX3 86 yX3_isThere, Cond.instanceMethod yX3_isThere, Cond.selects RX3 yX3_isThere yX3_isThere]
def wsX3_toFetch_r5 : List Cond := [Cond.code yX3_isThere cX3_isThere 2 (some .boolean), Cond.methodLink RX3 251 yJ6_compare_7cf53, Cond.static yJ6_compare_7cf53, Cond.initialized RJ6, Cond.code yJ6_compare_7cf53 cJ6_compare_7cf53 2 (some .int), Cond.methodLink RX3 119 yJ6_bitCount_0f7a4, Cond.static yJ6_bitCount_0f7a4, Cond.code yJ6_bitCount_0f7a4 cJ6_bitCount_0f7a4 1 (some .int), Cond.constant RJ6 265 (1431655765), Cond.constant RJ6 266 (858993459), Cond.constant RJ6 267 (252645135)]
def wsX3_toFetch : List Cond := .code yX3_toFetch cX3_toFetch 5 (some .int) :: ((wsX3_toFetch_r1 ++ (wsX3_toFetch_r2 ++ (wsX3_toFetch_r3 ++ (wsX3_toFetch_r4 ++ wsX3_toFetch_r5)))) ++ wsX30 ++ wsX10 ++ wsX00 ++ wsX20)
def wsX3_needed_r1 : List Cond := [Cond.fieldLink RX3 23 "OneSentence" "today" "LOneSentence$Day;", Cond.methodLink RX3 159 yX3_sensesBy, Cond.instanceMethod yX3_sensesBy, Cond.selects RX3 yX3_sensesBy yX3_sensesBy, Cond.initialized RX3, Cond.code yX3_sensesBy cX3_sensesBy 7 (some .int), Cond.fieldLink RX3 48 "OneSentence" "rows" "LOneSentence$Rows;", Cond.fieldLink RX3 41 "OneSentence" "trial" "LOneSentence$Talk;", Cond.instanceMethod yX1_by, Cond.initialized RX1, Cond.selects RX1 yX1_by yX1_by, Cond.code yX1_by cX1_by 3 none, Cond.fieldLink RX1 15 "OneSentence$Rows" "size" "I", Cond.fieldLink RX1 9 "OneSentence$Rows" "who" "[I", Cond.static yX3_has, Cond.code yX3_has cX3_has 2 (some .boolean), Cond.instanceMethod yX1_many, Cond.selects RX1 yX1_many yX1_many, Cond.code yX1_many cX1_many 2 (some .int), Cond.static yX3_power, Cond.code yX3_power cX3_power 4 (some .int), Cond.instanceMethod yX1_told, Cond.selects RX1 yX1_told yX1_told, Cond.code yX1_told cX1_told 7 (some .int)]
def wsX3_needed_r2 : List Cond := [Cond.methodLink RX3 145 yX3_play, Cond.instanceMethod yX3_play, Cond.selects RX3 yX3_play yX3_play, Cond.code yX3_play cX3_play 6 (some .int), Cond.instanceMethod yX2_become, Cond.initialized RX2, Cond.selects RX2 yX2_become yX2_become, Cond.code yX2_become cX2_become 3 none, Cond.fieldLink RX2 22 "OneSentence$Talk" "sense" "I", Cond.fieldLink RX2 9 "OneSentence$Talk" "last" "I", Cond.fieldLink RX2 15 "OneSentence$Talk" "lastNoEcho" "I", Cond.fieldLink RX2 18 "OneSentence$Talk" "times" "[I", Cond.methodLink RX3 245 yX3_personIn, Cond.static yX3_personIn, Cond.code yX3_personIn cX3_personIn 5 (some .int), Cond.methodLink RX3 103 yX3_maySpeak, Cond.instanceMethod yX3_maySpeak, Cond.selects RX3 yX3_maySpeak yX3_maySpeak, Cond.code yX3_maySpeak cX3_maySpeak 4 (some .boolean), Cond.fieldLink RX3 17 "OneSentence" "kind" "[I", Cond.methodLink RX3 96 yX3_has, Cond.methodLink RX3 124 yX3_speak, Cond.instanceMethod yX3_speak, Cond.selects RX3 yX3_speak yX3_speak]
def wsX3_needed_r3 : List Cond := [Cond.code yX3_speak cX3_speak 4 none, Cond.methodLink RX3 190 yX3_sentenceOf, Cond.instanceMethod yX3_sentenceOf, Cond.selects RX3 yX3_sentenceOf yX3_sentenceOf, Cond.code yX3_sentenceOf cX3_sentenceOf 2 (some .int), Cond.fieldLink RX3 171 "OneSentence" "oneMoreSentence" "I", Cond.instanceMethod yX2_utter, Cond.selects RX2 yX2_utter yX2_utter, Cond.code yX2_utter cX2_utter 5 none, Cond.methodLink RX2 25 yX2_made, Cond.static yX2_made, Cond.code yX2_made cX2_made 3 (some .int), Cond.methodLink RX3 119 yJ6_bitCount_0f7a4, Cond.static yJ6_bitCount_0f7a4, Cond.initialized RJ6, Cond.code yJ6_bitCount_0f7a4 cJ6_bitCount_0f7a4 1 (some .int), Cond.constant RJ6 265 (1431655765), Cond.constant RJ6 266 (858993459), Cond.constant RJ6 267 (252645135)]
def wsX3_needed : List Cond := .code yX3_needed cX3_needed 5 (some .int) :: ((wsX3_needed_r1 ++ (wsX3_needed_r2 ++ wsX3_needed_r3)) ++ wsX30 ++ wsX00 ++ wsX20 ++ wsX10)
def wsX3_naming_r1 : List Cond := [Cond.fieldLink RX3 171 "OneSentence" "oneMoreSentence" "I", Cond.fieldLink RX3 23 "OneSentence" "today" "LOneSentence$Day;", Cond.methodLink RX3 159 yX3_sensesBy, Cond.instanceMethod yX3_sensesBy, Cond.selects RX3 yX3_sensesBy yX3_sensesBy, Cond.initialized RX3, Cond.code yX3_sensesBy cX3_sensesBy 7 (some .int), Cond.fieldLink RX3 48 "OneSentence" "rows" "LOneSentence$Rows;", Cond.fieldLink RX3 41 "OneSentence" "trial" "LOneSentence$Talk;", Cond.instanceMethod yX1_by, Cond.initialized RX1, Cond.selects RX1 yX1_by yX1_by, Cond.code yX1_by cX1_by 3 none, Cond.fieldLink RX1 15 "OneSentence$Rows" "size" "I", Cond.fieldLink RX1 9 "OneSentence$Rows" "who" "[I", Cond.static yX3_has, Cond.code yX3_has cX3_has 2 (some .boolean), Cond.instanceMethod yX1_many, Cond.selects RX1 yX1_many yX1_many, Cond.code yX1_many cX1_many 2 (some .int), Cond.static yX3_power, Cond.code yX3_power cX3_power 4 (some .int), Cond.instanceMethod yX1_told, Cond.selects RX1 yX1_told yX1_told]
def wsX3_naming_r2 : List Cond := [Cond.code yX1_told cX1_told 7 (some .int), Cond.methodLink RX3 145 yX3_play, Cond.instanceMethod yX3_play, Cond.selects RX3 yX3_play yX3_play, Cond.code yX3_play cX3_play 6 (some .int), Cond.instanceMethod yX2_become, Cond.initialized RX2, Cond.selects RX2 yX2_become yX2_become, Cond.code yX2_become cX2_become 3 none, Cond.fieldLink RX2 22 "OneSentence$Talk" "sense" "I", Cond.fieldLink RX2 9 "OneSentence$Talk" "last" "I", Cond.fieldLink RX2 15 "OneSentence$Talk" "lastNoEcho" "I", Cond.fieldLink RX2 18 "OneSentence$Talk" "times" "[I", Cond.methodLink RX3 245 yX3_personIn, Cond.static yX3_personIn, Cond.code yX3_personIn cX3_personIn 5 (some .int), Cond.methodLink RX3 103 yX3_maySpeak, Cond.instanceMethod yX3_maySpeak, Cond.selects RX3 yX3_maySpeak yX3_maySpeak, Cond.code yX3_maySpeak cX3_maySpeak 4 (some .boolean), Cond.fieldLink RX3 17 "OneSentence" "kind" "[I", Cond.methodLink RX3 96 yX3_has, Cond.methodLink RX3 124 yX3_speak, Cond.instanceMethod yX3_speak]
def wsX3_naming_r3 : List Cond := [Cond.selects RX3 yX3_speak yX3_speak, Cond.code yX3_speak cX3_speak 4 none, Cond.methodLink RX3 190 yX3_sentenceOf, Cond.instanceMethod yX3_sentenceOf, Cond.selects RX3 yX3_sentenceOf yX3_sentenceOf, Cond.code yX3_sentenceOf cX3_sentenceOf 2 (some .int), Cond.instanceMethod yX2_utter, Cond.selects RX2 yX2_utter yX2_utter, Cond.code yX2_utter cX2_utter 5 none, Cond.methodLink RX2 25 yX2_made, Cond.static yX2_made, Cond.code yX2_made cX2_made 3 (some .int), Cond.methodLink RX3 119 yJ6_bitCount_0f7a4, Cond.static yJ6_bitCount_0f7a4, Cond.initialized RJ6, Cond.code yJ6_bitCount_0f7a4 cJ6_bitCount_0f7a4 1 (some .int), Cond.constant RJ6 265 (1431655765), Cond.constant RJ6 266 (858993459), Cond.constant RJ6 267 (252645135)]
def wsX3_naming : List Cond := .code yX3_naming cX3_naming 7 (some .int) :: ((wsX3_naming_r1 ++ (wsX3_naming_r2 ++ wsX3_naming_r3)) ++ wsX30 ++ wsX00 ++ wsX20 ++ wsX10)
def wsX3_spoken_r1 : List Cond := [Cond.fieldLink RX3 48 "OneSentence" "rows" "LOneSentence$Rows;", Cond.fieldLink RX3 23 "OneSentence" "today" "LOneSentence$Day;", Cond.methodLink RX3 149 yX3_isSense, Cond.static yX3_isSense, Cond.initialized RX3, Cond.code yX3_isSense cX3_isSense 1 (some .boolean), Cond.instanceMethod yX1_by, Cond.initialized RX1, Cond.selects RX1 yX1_by yX1_by, Cond.code yX1_by cX1_by 3 none, Cond.fieldLink RX1 15 "OneSentence$Rows" "size" "I", Cond.fieldLink RX1 9 "OneSentence$Rows" "who" "[I", Cond.static yX3_has, Cond.code yX3_has cX3_has 2 (some .boolean), Cond.instanceMethod yX1_many, Cond.selects RX1 yX1_many yX1_many, Cond.code yX1_many cX1_many 2 (some .int), Cond.static yX3_power, Cond.code yX3_power cX3_power 4 (some .int), Cond.instanceMethod yX1_told, Cond.selects RX1 yX1_told yX1_told, Cond.code yX1_told cX1_told 7 (some .int), Cond.methodLink RX3 180 yX3_isTold, Cond.instanceMethod yX3_isTold]
def wsX3_spoken_r2 : List Cond := [Cond.selects RX3 yX3_isTold yX3_isTold, Cond.code yX3_isTold cX3_isTold 5 (some .boolean), Cond.fieldLink RX3 41 "OneSentence" "trial" "LOneSentence$Talk;", Cond.methodLink RX3 145 yX3_play, Cond.instanceMethod yX3_play, Cond.selects RX3 yX3_play yX3_play, Cond.code yX3_play cX3_play 6 (some .int), Cond.instanceMethod yX2_become, Cond.initialized RX2, Cond.selects RX2 yX2_become yX2_become, Cond.code yX2_become cX2_become 3 none, Cond.fieldLink RX2 22 "OneSentence$Talk" "sense" "I", Cond.fieldLink RX2 9 "OneSentence$Talk" "last" "I", Cond.fieldLink RX2 15 "OneSentence$Talk" "lastNoEcho" "I", Cond.fieldLink RX2 18 "OneSentence$Talk" "times" "[I", Cond.methodLink RX3 245 yX3_personIn, Cond.static yX3_personIn, Cond.code yX3_personIn cX3_personIn 5 (some .int), Cond.methodLink RX3 103 yX3_maySpeak, Cond.instanceMethod yX3_maySpeak, Cond.selects RX3 yX3_maySpeak yX3_maySpeak, Cond.code yX3_maySpeak cX3_maySpeak 4 (some .boolean), Cond.fieldLink RX3 17 "OneSentence" "kind" "[I", Cond.methodLink RX3 96 yX3_has]
def wsX3_spoken_r3 : List Cond := [Cond.methodLink RX3 124 yX3_speak, Cond.instanceMethod yX3_speak, Cond.selects RX3 yX3_speak yX3_speak, Cond.code yX3_speak cX3_speak 4 none, Cond.methodLink RX3 190 yX3_sentenceOf, Cond.instanceMethod yX3_sentenceOf, Cond.selects RX3 yX3_sentenceOf yX3_sentenceOf, Cond.code yX3_sentenceOf cX3_sentenceOf 2 (some .int), Cond.fieldLink RX3 171 "OneSentence" "oneMoreSentence" "I", Cond.instanceMethod yX2_utter, Cond.selects RX2 yX2_utter yX2_utter, Cond.code yX2_utter cX2_utter 5 none, Cond.methodLink RX2 25 yX2_made, Cond.static yX2_made, Cond.code yX2_made cX2_made 3 (some .int), Cond.methodLink RX3 184 yX3_speakersIn, Cond.static yX3_speakersIn, Cond.code yX3_speakersIn cX3_speakersIn 4 (some .int)]
def wsX3_spoken : List Cond := .code yX3_spoken cX3_spoken 10 (some .int) :: ((wsX3_spoken_r1 ++ (wsX3_spoken_r2 ++ wsX3_spoken_r3)) ++ wsX30 ++ wsX00 ++ wsX10 ++ wsX20)
def wsX3_quarrel_r1 : List Cond := [Cond.fieldLink RX3 41 "OneSentence" "trial" "LOneSentence$Talk;", Cond.fieldLink RX3 23 "OneSentence" "today" "LOneSentence$Day;", Cond.fieldLink RX3 52 "OneSentence" "seenBehind" "[I", Cond.methodLink RX3 86 yX3_isThere, Cond.instanceMethod yX3_isThere, Cond.selects RX3 yX3_isThere yX3_isThere, Cond.initialized RX3, Cond.code yX3_isThere cX3_isThere 2 (some .boolean), Cond.fieldLink RX3 73 "OneSentence" "people" "I", Cond.instanceMethod yX2_become, Cond.initialized RX2, Cond.selects RX2 yX2_become yX2_become, Cond.code yX2_become cX2_become 3 none, Cond.fieldLink RX2 22 "OneSentence$Talk" "sense" "I", Cond.fieldLink RX2 9 "OneSentence$Talk" "last" "I", Cond.fieldLink RX2 15 "OneSentence$Talk" "lastNoEcho" "I", Cond.fieldLink RX2 18 "OneSentence$Talk" "times" "[I", Cond.methodLink RX3 149 yX3_isSense, Cond.static yX3_isSense, Cond.code yX3_isSense cX3_isSense 1 (some .boolean), Cond.methodLink RX3 190 yX3_sentenceOf, Cond.instanceMethod yX3_sentenceOf, Cond.selects RX3 yX3_sentenceOf yX3_sentenceOf, Cond.code yX3_sentenceOf cX3_sentenceOf 2 (some .int)]
def wsX3_quarrel_r2 : List Cond := [Cond.fieldLink RX3 171 "OneSentence" "oneMoreSentence" "I", Cond.instanceMethod yX2_utter, Cond.selects RX2 yX2_utter yX2_utter, Cond.code yX2_utter cX2_utter 5 none, Cond.methodLink RX2 25 yX2_made, Cond.static yX2_made, Cond.code yX2_made cX2_made 3 (some .int)]
def wsX3_quarrel : List Cond := .code yX3_quarrel cX3_quarrel 6 (some .int) :: ((wsX3_quarrel_r1 ++ wsX3_quarrel_r2) ++ wsX30 ++ wsX00 ++ wsX20)
def wsX3_common : List Cond := .code yX3_common cX3_common 6 (some .int) :: ([])
def wsX3_fraction : List Cond := .code yX3_fraction cX3_fraction 4 (some .int) :: ([.methodLink RX3 260 yX3_common, .static yX3_common, .initialized RX3, .code yX3_common cX3_common 6 (some .int)])
def wsX3_orders : List Cond := .code yX3_orders cX3_orders 1 (some .int) :: ([.fieldLink RX3 254 "OneSentence" "ORDERS" "[I"])
def wsX3_gain_r1 : List Cond := [Cond.methodLink RX3 159 yX3_sensesBy, Cond.instanceMethod yX3_sensesBy, Cond.selects RX3 yX3_sensesBy yX3_sensesBy, Cond.initialized RX3, Cond.code yX3_sensesBy cX3_sensesBy 7 (some .int), Cond.fieldLink RX3 48 "OneSentence" "rows" "LOneSentence$Rows;", Cond.fieldLink RX3 41 "OneSentence" "trial" "LOneSentence$Talk;", Cond.instanceMethod yX1_by, Cond.initialized RX1, Cond.selects RX1 yX1_by yX1_by, Cond.code yX1_by cX1_by 3 none, Cond.fieldLink RX1 15 "OneSentence$Rows" "size" "I", Cond.fieldLink RX1 9 "OneSentence$Rows" "who" "[I", Cond.static yX3_has, Cond.code yX3_has cX3_has 2 (some .boolean), Cond.instanceMethod yX1_many, Cond.selects RX1 yX1_many yX1_many, Cond.code yX1_many cX1_many 2 (some .int), Cond.static yX3_power, Cond.code yX3_power cX3_power 4 (some .int), Cond.instanceMethod yX1_told, Cond.selects RX1 yX1_told yX1_told, Cond.code yX1_told cX1_told 7 (some .int), Cond.methodLink RX3 145 yX3_play]
def wsX3_gain_r2 : List Cond := [Cond.instanceMethod yX3_play, Cond.selects RX3 yX3_play yX3_play, Cond.code yX3_play cX3_play 6 (some .int), Cond.fieldLink RX3 23 "OneSentence" "today" "LOneSentence$Day;", Cond.instanceMethod yX2_become, Cond.initialized RX2, Cond.selects RX2 yX2_become yX2_become, Cond.code yX2_become cX2_become 3 none, Cond.fieldLink RX2 22 "OneSentence$Talk" "sense" "I", Cond.fieldLink RX2 9 "OneSentence$Talk" "last" "I", Cond.fieldLink RX2 15 "OneSentence$Talk" "lastNoEcho" "I", Cond.fieldLink RX2 18 "OneSentence$Talk" "times" "[I", Cond.methodLink RX3 245 yX3_personIn, Cond.static yX3_personIn, Cond.code yX3_personIn cX3_personIn 5 (some .int), Cond.methodLink RX3 103 yX3_maySpeak, Cond.instanceMethod yX3_maySpeak, Cond.selects RX3 yX3_maySpeak yX3_maySpeak, Cond.code yX3_maySpeak cX3_maySpeak 4 (some .boolean), Cond.fieldLink RX3 17 "OneSentence" "kind" "[I", Cond.methodLink RX3 96 yX3_has, Cond.methodLink RX3 124 yX3_speak, Cond.instanceMethod yX3_speak, Cond.selects RX3 yX3_speak yX3_speak]
def wsX3_gain_r3 : List Cond := [Cond.code yX3_speak cX3_speak 4 none, Cond.methodLink RX3 190 yX3_sentenceOf, Cond.instanceMethod yX3_sentenceOf, Cond.selects RX3 yX3_sentenceOf yX3_sentenceOf, Cond.code yX3_sentenceOf cX3_sentenceOf 2 (some .int), Cond.fieldLink RX3 171 "OneSentence" "oneMoreSentence" "I", Cond.instanceMethod yX2_utter, Cond.selects RX2 yX2_utter yX2_utter, Cond.code yX2_utter cX2_utter 5 none, Cond.methodLink RX2 25 yX2_made, Cond.static yX2_made, Cond.code yX2_made cX2_made 3 (some .int), Cond.methodLink RX3 119 yJ6_bitCount_0f7a4, Cond.static yJ6_bitCount_0f7a4, Cond.initialized RJ6, Cond.code yJ6_bitCount_0f7a4 cJ6_bitCount_0f7a4 1 (some .int), Cond.constant RJ6 265 (1431655765), Cond.constant RJ6 266 (858993459), Cond.constant RJ6 267 (252645135)]
def wsX3_gain : List Cond := .code yX3_gain cX3_gain 5 (some .int) :: ((wsX3_gain_r1 ++ (wsX3_gain_r2 ++ wsX3_gain_r3)) ++ wsX30 ++ wsX20 ++ wsX10 ++ wsX00)
def wsX3_share_r1 : List Cond := [Cond.fieldLink RX3 23 "OneSentence" "today" "LOneSentence$Day;", Cond.methodLink RX3 86 yX3_isThere, Cond.instanceMethod yX3_isThere, Cond.selects RX3 yX3_isThere yX3_isThere, Cond.initialized RX3, Cond.code yX3_isThere cX3_isThere 2 (some .boolean), Cond.fieldLink RX3 73 "OneSentence" "people" "I", Cond.methodLink RX3 96 yX3_has, Cond.static yX3_has, Cond.code yX3_has cX3_has 2 (some .boolean), Cond.methodLink RX3 197 yX3_fraction, Cond.static yX3_fraction, Cond.code yX3_fraction cX3_fraction 4 (some .int), Cond.methodLink RX3 260 yX3_common, Cond.static yX3_common, Cond.code yX3_common cX3_common 6 (some .int), Cond.methodLink RX3 119 yJ6_bitCount_0f7a4, Cond.static yJ6_bitCount_0f7a4, Cond.initialized RJ6, Cond.code yJ6_bitCount_0f7a4 cJ6_bitCount_0f7a4 1 (some .int), Cond.constant RJ6 265 (1431655765), Cond.constant RJ6 266 (858993459), Cond.constant RJ6 267 (252645135), Cond.methodLink RX3 201 yX3_orders]
def wsX3_share_r2 : List Cond := [Cond.static yX3_orders, Cond.code yX3_orders cX3_orders 1 (some .int), Cond.fieldLink RX3 254 "OneSentence" "ORDERS" "[I", Cond.methodLink RX3 204 yX3_gain, Cond.instanceMethod yX3_gain, Cond.selects RX3 yX3_gain yX3_gain, Cond.code yX3_gain cX3_gain 5 (some .int), Cond.methodLink RX3 159 yX3_sensesBy, Cond.instanceMethod yX3_sensesBy, Cond.selects RX3 yX3_sensesBy yX3_sensesBy, Cond.code yX3_sensesBy cX3_sensesBy 7 (some .int), Cond.fieldLink RX3 48 "OneSentence" "rows" "LOneSentence$Rows;", Cond.fieldLink RX3 41 "OneSentence" "trial" "LOneSentence$Talk;", Cond.instanceMethod yX1_by, Cond.initialized RX1, Cond.selects RX1 yX1_by yX1_by, Cond.code yX1_by cX1_by 3 none, Cond.fieldLink RX1 15 "OneSentence$Rows" "size" "I", Cond.fieldLink RX1 9 "OneSentence$Rows" "who" "[I", Cond.instanceMethod yX1_many, Cond.selects RX1 yX1_many yX1_many, Cond.code yX1_many cX1_many 2 (some .int), Cond.static yX3_power, Cond.code yX3_power cX3_power 4 (some .int)]
def wsX3_share_r3 : List Cond := [Cond.instanceMethod yX1_told, Cond.selects RX1 yX1_told yX1_told, Cond.code yX1_told cX1_told 7 (some .int), Cond.methodLink RX3 145 yX3_play, Cond.instanceMethod yX3_play, Cond.selects RX3 yX3_play yX3_play, Cond.code yX3_play cX3_play 6 (some .int), Cond.instanceMethod yX2_become, Cond.initialized RX2, Cond.selects RX2 yX2_become yX2_become, Cond.code yX2_become cX2_become 3 none, Cond.fieldLink RX2 22 "OneSentence$Talk" "sense" "I", Cond.fieldLink RX2 9 "OneSentence$Talk" "last" "I", Cond.fieldLink RX2 15 "OneSentence$Talk" "lastNoEcho" "I", Cond.fieldLink RX2 18 "OneSentence$Talk" "times" "[I", Cond.methodLink RX3 245 yX3_personIn, Cond.static yX3_personIn, Cond.code yX3_personIn cX3_personIn 5 (some .int), Cond.methodLink RX3 103 yX3_maySpeak, Cond.instanceMethod yX3_maySpeak, Cond.selects RX3 yX3_maySpeak yX3_maySpeak, Cond.code yX3_maySpeak cX3_maySpeak 4 (some .boolean), Cond.fieldLink RX3 17 "OneSentence" "kind" "[I", Cond.methodLink RX3 124 yX3_speak]
def wsX3_share_r4 : List Cond := [Cond.instanceMethod yX3_speak, Cond.selects RX3 yX3_speak yX3_speak, Cond.code yX3_speak cX3_speak 4 none, Cond.methodLink RX3 190 yX3_sentenceOf, Cond.instanceMethod yX3_sentenceOf, Cond.selects RX3 yX3_sentenceOf yX3_sentenceOf, Cond.code yX3_sentenceOf cX3_sentenceOf 2 (some .int), Cond.fieldLink RX3 171 "OneSentence" "oneMoreSentence" "I", Cond.instanceMethod yX2_utter, Cond.selects RX2 yX2_utter yX2_utter, Cond.code yX2_utter cX2_utter 5 none, Cond.methodLink RX2 25 yX2_made, Cond.static yX2_made, Cond.code yX2_made cX2_made 3 (some .int)]
def wsX3_share : List Cond := .code yX3_share cX3_share 9 (some .int) :: ((wsX3_share_r1 ++ (wsX3_share_r2 ++ (wsX3_share_r3 ++ wsX3_share_r4))) ++ wsX30 ++ wsX00 ++ wsX20 ++ wsX10)
def wsX3_playOutcomes : List Cond := .code yX3_playOutcomes cX3_playOutcomes 5 none :: ([.fieldLink RX3 55 "OneSentence" "outcomes" "[I", .fieldLink RX3 41 "OneSentence" "trial" "LOneSentence$Talk;", .fieldLink RX3 23 "OneSentence" "today" "LOneSentence$Day;", .instanceMethod yX2_become, .initialized RX2, .selects RX2 yX2_become yX2_become, .code yX2_become cX2_become 3 none, .fieldLink RX2 22 "OneSentence$Talk" "sense" "I", .fieldLink RX2 9 "OneSentence$Talk" "last" "I", .fieldLink RX2 15 "OneSentence$Talk" "lastNoEcho" "I", .fieldLink RX2 18 "OneSentence$Talk" "times" "[I", .methodLink RX3 190 yX3_sentenceOf, .instanceMethod yX3_sentenceOf, .selects RX3 yX3_sentenceOf yX3_sentenceOf, .initialized RX3, .code yX3_sentenceOf cX3_sentenceOf 2 (some .int), .fieldLink RX3 171 "OneSentence" "oneMoreSentence" "I", .instanceMethod yX2_utter, .selects RX2 yX2_utter yX2_utter, .code yX2_utter cX2_utter 5 none, .methodLink RX2 25 yX2_made, .static yX2_made, .code yX2_made cX2_made 3 (some .int)] ++ wsX30 ++ wsX00 ++ wsX20)
def wsX3_apart : List Cond := .code yX3_apart cX3_apart 5 (some .int) :: ([.fieldLink RX3 55 "OneSentence" "outcomes" "[I", .methodLink RX3 240 Lib.Math.abs.name, .static Lib.Math.abs.name, .initialized "java/lang/Math", .code Lib.Math.abs.name Lib.Math.abs.code 1 (some .int)] ++ wsX30)
def wsX3_isRest : List Cond := .code yX3_isRest cX3_isRest 6 (some .boolean) :: ([.methodLink RX3 257 yX3_apart, .instanceMethod yX3_apart, .selects RX3 yX3_apart yX3_apart, .initialized RX3, .code yX3_apart cX3_apart 5 (some .int), .fieldLink RX3 55 "OneSentence" "outcomes" "[I", .methodLink RX3 240 Lib.Math.abs.name, .static Lib.Math.abs.name, .initialized "java/lang/Math", .code Lib.Math.abs.name Lib.Math.abs.code 1 (some .int)] ++ wsX30)
def wsX3_rests_r1 : List Cond := [Cond.methodLink RX3 86 yX3_isThere, Cond.instanceMethod yX3_isThere, Cond.selects RX3 yX3_isThere yX3_isThere, Cond.initialized RX3, Cond.code yX3_isThere cX3_isThere 2 (some .boolean), Cond.fieldLink RX3 73 "OneSentence" "people" "I", Cond.methodLink RX3 149 yX3_isSense, Cond.static yX3_isSense, Cond.code yX3_isSense cX3_isSense 1 (some .boolean), Cond.methodLink RX3 207 yX3_playOutcomes, Cond.instanceMethod yX3_playOutcomes, Cond.selects RX3 yX3_playOutcomes yX3_playOutcomes, Cond.code yX3_playOutcomes cX3_playOutcomes 5 none, Cond.fieldLink RX3 55 "OneSentence" "outcomes" "[I", Cond.fieldLink RX3 41 "OneSentence" "trial" "LOneSentence$Talk;", Cond.fieldLink RX3 23 "OneSentence" "today" "LOneSentence$Day;", Cond.instanceMethod yX2_become, Cond.initialized RX2, Cond.selects RX2 yX2_become yX2_become, Cond.code yX2_become cX2_become 3 none, Cond.fieldLink RX2 22 "OneSentence$Talk" "sense" "I", Cond.fieldLink RX2 9 "OneSentence$Talk" "last" "I", Cond.fieldLink RX2 15 "OneSentence$Talk" "lastNoEcho" "I", Cond.fieldLink RX2 18 "OneSentence$Talk" "times" "[I"]
def wsX3_rests_r2 : List Cond := [Cond.methodLink RX3 190 yX3_sentenceOf, Cond.instanceMethod yX3_sentenceOf, Cond.selects RX3 yX3_sentenceOf yX3_sentenceOf, Cond.code yX3_sentenceOf cX3_sentenceOf 2 (some .int), Cond.fieldLink RX3 171 "OneSentence" "oneMoreSentence" "I", Cond.instanceMethod yX2_utter, Cond.selects RX2 yX2_utter yX2_utter, Cond.code yX2_utter cX2_utter 5 none, Cond.methodLink RX2 25 yX2_made, Cond.static yX2_made, Cond.code yX2_made cX2_made 3 (some .int), Cond.methodLink RX3 210 yX3_isRest, Cond.instanceMethod yX3_isRest, Cond.selects RX3 yX3_isRest yX3_isRest, Cond.code yX3_isRest cX3_isRest 6 (some .boolean), Cond.methodLink RX3 257 yX3_apart, Cond.instanceMethod yX3_apart, Cond.selects RX3 yX3_apart yX3_apart, Cond.code yX3_apart cX3_apart 5 (some .int), Cond.methodLink RX3 240 Lib.Math.abs.name, Cond.static Lib.Math.abs.name, Cond.initialized "java/lang/Math", Cond.code Lib.Math.abs.name Lib.Math.abs.code 1 (some .int)]
def wsX3_rests : List Cond := .code yX3_rests cX3_rests 10 (some .int) :: ((wsX3_rests_r1 ++ wsX3_rests_r2) ++ wsX30 ++ wsX00 ++ wsX20)
def wsX3_playWhoMay_r1 : List Cond := [Cond.fieldLink RX3 41 "OneSentence" "trial" "LOneSentence$Talk;", Cond.fieldLink RX3 23 "OneSentence" "today" "LOneSentence$Day;", Cond.instanceMethod yX2_become, Cond.initialized RX2, Cond.selects RX2 yX2_become yX2_become, Cond.code yX2_become cX2_become 3 none, Cond.fieldLink RX2 22 "OneSentence$Talk" "sense" "I", Cond.fieldLink RX2 9 "OneSentence$Talk" "last" "I", Cond.fieldLink RX2 15 "OneSentence$Talk" "lastNoEcho" "I", Cond.fieldLink RX2 18 "OneSentence$Talk" "times" "[I", Cond.methodLink RX3 245 yX3_personIn, Cond.static yX3_personIn, Cond.initialized RX3, Cond.code yX3_personIn cX3_personIn 5 (some .int), Cond.methodLink RX3 103 yX3_maySpeak, Cond.instanceMethod yX3_maySpeak, Cond.selects RX3 yX3_maySpeak yX3_maySpeak, Cond.code yX3_maySpeak cX3_maySpeak 4 (some .boolean), Cond.fieldLink RX3 17 "OneSentence" "kind" "[I", Cond.methodLink RX3 96 yX3_has, Cond.static yX3_has, Cond.code yX3_has cX3_has 2 (some .boolean), Cond.methodLink RX3 124 yX3_speak, Cond.instanceMethod yX3_speak]
def wsX3_playWhoMay_r2 : List Cond := [Cond.selects RX3 yX3_speak yX3_speak, Cond.code yX3_speak cX3_speak 4 none, Cond.methodLink RX3 190 yX3_sentenceOf, Cond.instanceMethod yX3_sentenceOf, Cond.selects RX3 yX3_sentenceOf yX3_sentenceOf, Cond.code yX3_sentenceOf cX3_sentenceOf 2 (some .int), Cond.fieldLink RX3 171 "OneSentence" "oneMoreSentence" "I", Cond.instanceMethod yX2_utter, Cond.selects RX2 yX2_utter yX2_utter, Cond.code yX2_utter cX2_utter 5 none, Cond.methodLink RX2 25 yX2_made, Cond.static yX2_made, Cond.code yX2_made cX2_made 3 (some .int)]
def wsX3_playWhoMay : List Cond := .code yX3_playWhoMay cX3_playWhoMay 5 none :: ((wsX3_playWhoMay_r1 ++ wsX3_playWhoMay_r2) ++ wsX30 ++ wsX00 ++ wsX20)
def wsX3_chance_r1 : List Cond := [Cond.fieldLink RX3 23 "OneSentence" "today" "LOneSentence$Day;", Cond.fieldLink RX3 48 "OneSentence" "rows" "LOneSentence$Rows;", Cond.fieldLink RX3 41 "OneSentence" "trial" "LOneSentence$Talk;", Cond.methodLink RX3 149 yX3_isSense, Cond.static yX3_isSense, Cond.initialized RX3, Cond.code yX3_isSense cX3_isSense 1 (some .boolean), Cond.methodLink RX3 197 yX3_fraction, Cond.static yX3_fraction, Cond.code yX3_fraction cX3_fraction 4 (some .int), Cond.methodLink RX3 260 yX3_common, Cond.static yX3_common, Cond.code yX3_common cX3_common 6 (some .int), Cond.instanceMethod yX1_by, Cond.initialized RX1, Cond.selects RX1 yX1_by yX1_by, Cond.code yX1_by cX1_by 3 none, Cond.fieldLink RX1 15 "OneSentence$Rows" "size" "I", Cond.fieldLink RX1 9 "OneSentence$Rows" "who" "[I", Cond.static yX3_has, Cond.code yX3_has cX3_has 2 (some .boolean), Cond.instanceMethod yX1_many, Cond.selects RX1 yX1_many yX1_many, Cond.code yX1_many cX1_many 2 (some .int)]
def wsX3_chance_r2 : List Cond := [Cond.static yX3_power, Cond.code yX3_power cX3_power 4 (some .int), Cond.instanceMethod yX1_told, Cond.selects RX1 yX1_told yX1_told, Cond.code yX1_told cX1_told 7 (some .int), Cond.methodLink RX3 213 yX3_playWhoMay, Cond.instanceMethod yX3_playWhoMay, Cond.selects RX3 yX3_playWhoMay yX3_playWhoMay, Cond.code yX3_playWhoMay cX3_playWhoMay 5 none, Cond.instanceMethod yX2_become, Cond.initialized RX2, Cond.selects RX2 yX2_become yX2_become, Cond.code yX2_become cX2_become 3 none, Cond.fieldLink RX2 22 "OneSentence$Talk" "sense" "I", Cond.fieldLink RX2 9 "OneSentence$Talk" "last" "I", Cond.fieldLink RX2 15 "OneSentence$Talk" "lastNoEcho" "I", Cond.fieldLink RX2 18 "OneSentence$Talk" "times" "[I", Cond.methodLink RX3 245 yX3_personIn, Cond.static yX3_personIn, Cond.code yX3_personIn cX3_personIn 5 (some .int), Cond.methodLink RX3 103 yX3_maySpeak, Cond.instanceMethod yX3_maySpeak, Cond.selects RX3 yX3_maySpeak yX3_maySpeak, Cond.code yX3_maySpeak cX3_maySpeak 4 (some .boolean)]
def wsX3_chance_r3 : List Cond := [Cond.fieldLink RX3 17 "OneSentence" "kind" "[I", Cond.methodLink RX3 96 yX3_has, Cond.methodLink RX3 124 yX3_speak, Cond.instanceMethod yX3_speak, Cond.selects RX3 yX3_speak yX3_speak, Cond.code yX3_speak cX3_speak 4 none, Cond.methodLink RX3 190 yX3_sentenceOf, Cond.instanceMethod yX3_sentenceOf, Cond.selects RX3 yX3_sentenceOf yX3_sentenceOf, Cond.code yX3_sentenceOf cX3_sentenceOf 2 (some .int), Cond.fieldLink RX3 171 "OneSentence" "oneMoreSentence" "I", Cond.instanceMethod yX2_utter, Cond.selects RX2 yX2_utter yX2_utter, Cond.code yX2_utter cX2_utter 5 none, Cond.methodLink RX2 25 yX2_made, Cond.static yX2_made, Cond.code yX2_made cX2_made 3 (some .int)]
def wsX3_chance : List Cond := .code yX3_chance cX3_chance 7 (some .int) :: ((wsX3_chance_r1 ++ (wsX3_chance_r2 ++ wsX3_chance_r3)) ++ wsX30 ++ wsX00 ++ wsX20 ++ wsX10)
def wsX3_seed : List Cond := .code yX3_seed cX3_seed 5 (some .long) :: ([.fieldLink RX3 216 "OneSentence" "theSeed" "J"] ++ wsX30)
def wsX3_nights_r1 : List Cond := [Cond.fieldLink RX3 41 "OneSentence" "trial" "LOneSentence$Talk;", Cond.fieldLink RX3 23 "OneSentence" "today" "LOneSentence$Day;", Cond.fieldLink RX3 216 "OneSentence" "theSeed" "J", Cond.constantLong RX3 220 (6364136223846793005), Cond.constantLong RX3 222 (1442695040888963407), Cond.constantLong RX3 224 (6), Cond.instanceMethod yX2_become, Cond.initialized RX2, Cond.selects RX2 yX2_become yX2_become, Cond.code yX2_become cX2_become 3 none, Cond.fieldLink RX2 22 "OneSentence$Talk" "sense" "I", Cond.fieldLink RX2 9 "OneSentence$Talk" "last" "I", Cond.fieldLink RX2 15 "OneSentence$Talk" "lastNoEcho" "I", Cond.fieldLink RX2 18 "OneSentence$Talk" "times" "[I", Cond.methodLink RX3 103 yX3_maySpeak, Cond.instanceMethod yX3_maySpeak, Cond.selects RX3 yX3_maySpeak yX3_maySpeak, Cond.initialized RX3, Cond.code yX3_maySpeak cX3_maySpeak 4 (some .boolean), Cond.fieldLink RX3 17 "OneSentence" "kind" "[I", Cond.methodLink RX3 96 yX3_has, Cond.static yX3_has, Cond.code yX3_has cX3_has 2 (some .boolean), Cond.methodLink RX3 124 yX3_speak]
def wsX3_nights_r2 : List Cond := [Cond.instanceMethod yX3_speak, Cond.selects RX3 yX3_speak yX3_speak, Cond.code yX3_speak cX3_speak 4 none, Cond.methodLink RX3 190 yX3_sentenceOf, Cond.instanceMethod yX3_sentenceOf, Cond.selects RX3 yX3_sentenceOf yX3_sentenceOf, Cond.code yX3_sentenceOf cX3_sentenceOf 2 (some .int), Cond.fieldLink RX3 171 "OneSentence" "oneMoreSentence" "I", Cond.instanceMethod yX2_utter, Cond.selects RX2 yX2_utter yX2_utter, Cond.code yX2_utter cX2_utter 5 none, Cond.methodLink RX2 25 yX2_made, Cond.static yX2_made, Cond.code yX2_made cX2_made 3 (some .int)]
def wsX3_nights : List Cond := .code yX3_nights cX3_nights 5 (some .int) :: ((wsX3_nights_r1 ++ wsX3_nights_r2) ++ wsX30 ++ wsX00 ++ wsX20)
def wsX3_keep : List Cond := .code yX3_keep cX3_keep 2 (some .int) :: ([.fieldLink RX3 31 "OneSentence" "slots" "[LOneSentence$Day;", .fieldLink RX3 23 "OneSentence" "today" "LOneSentence$Day;", .fieldLink RX3 34 "OneSentence" "isKept" "[Z", .instanceMethod yX0_become, .initialized RX0, .selects RX0 yX0_become yX0_become, .code yX0_become cX0_become 3 none, .fieldLink RX0 12 "OneSentence$Day" "talk" "LOneSentence$Talk;", .fieldLink RX0 25 "OneSentence$Day" "at" "I", .fieldLink RX0 29 "OneSentence$Day" "hour" "I", .fieldLink RX0 18 "OneSentence$Day" "sentence" "[I", .instanceMethod yX2_become, .initialized RX2, .selects RX2 yX2_become yX2_become, .code yX2_become cX2_become 3 none, .fieldLink RX2 22 "OneSentence$Talk" "sense" "I", .fieldLink RX2 9 "OneSentence$Talk" "last" "I", .fieldLink RX2 15 "OneSentence$Talk" "lastNoEcho" "I", .fieldLink RX2 18 "OneSentence$Talk" "times" "[I"] ++ wsX30 ++ wsX00 ++ wsX20)
def wsX3_again_r1 : List Cond := [Cond.fieldLink RX3 34 "OneSentence" "isKept" "[Z", Cond.fieldLink RX3 23 "OneSentence" "today" "LOneSentence$Day;", Cond.fieldLink RX3 31 "OneSentence" "slots" "[LOneSentence$Day;", Cond.instanceMethod yX0_become, Cond.initialized RX0, Cond.selects RX0 yX0_become yX0_become, Cond.code yX0_become cX0_become 3 none, Cond.fieldLink RX0 12 "OneSentence$Day" "talk" "LOneSentence$Talk;", Cond.fieldLink RX0 25 "OneSentence$Day" "at" "I", Cond.fieldLink RX0 29 "OneSentence$Day" "hour" "I", Cond.fieldLink RX0 18 "OneSentence$Day" "sentence" "[I", Cond.instanceMethod yX2_become, Cond.initialized RX2, Cond.selects RX2 yX2_become yX2_become, Cond.code yX2_become cX2_become 3 none, Cond.fieldLink RX2 22 "OneSentence$Talk" "sense" "I", Cond.fieldLink RX2 9 "OneSentence$Talk" "last" "I", Cond.fieldLink RX2 15 "OneSentence$Talk" "lastNoEcho" "I", Cond.fieldLink RX2 18 "OneSentence$Talk" "times" "[I", Cond.methodLink RX3 83 yX3_forgetActs, Cond.instanceMethod yX3_forgetActs, Cond.selects RX3 yX3_forgetActs yX3_forgetActs, Cond.initialized RX3, Cond.code yX3_forgetActs cX3_forgetActs 1 none]
def wsX3_again_r2 : List Cond := [Cond.fieldLink RX3 134 "OneSentence" "firstAct" "I", Cond.fieldLink RX3 131 "OneSentence" "acts" "I"]
def wsX3_again : List Cond := .code yX3_again cX3_again 2 (some .int) :: ((wsX3_again_r1 ++ wsX3_again_r2) ++ wsX30 ++ wsX00 ++ wsX20)
def wsX3_whoMay : List Cond := .code yX3_whoMay cX3_whoMay 3 (some .int) :: ([.fieldLink RX3 73 "OneSentence" "people" "I", .fieldLink RX3 23 "OneSentence" "today" "LOneSentence$Day;", .methodLink RX3 103 yX3_maySpeak, .instanceMethod yX3_maySpeak, .selects RX3 yX3_maySpeak yX3_maySpeak, .initialized RX3, .code yX3_maySpeak cX3_maySpeak 4 (some .boolean), .fieldLink RX3 17 "OneSentence" "kind" "[I", .methodLink RX3 96 yX3_has, .static yX3_has, .code yX3_has cX3_has 2 (some .boolean)] ++ wsX30 ++ wsX00 ++ wsX20)
def wsX3_count : List Cond := .code yX3_count cX3_count 2 (some .int) :: ([.fieldLink RX3 58 "OneSentence" "letters" "I", .fieldLink RX3 73 "OneSentence" "people" "I", .fieldLink RX3 70 "OneSentence" "market" "I", .fieldLink RX3 23 "OneSentence" "today" "LOneSentence$Day;", .fieldLink RX3 131 "OneSentence" "acts" "I", .methodLink RX3 226 yX3_whoMay, .instanceMethod yX3_whoMay, .selects RX3 yX3_whoMay yX3_whoMay, .initialized RX3, .code yX3_whoMay cX3_whoMay 3 (some .int), .methodLink RX3 103 yX3_maySpeak, .instanceMethod yX3_maySpeak, .selects RX3 yX3_maySpeak yX3_maySpeak, .code yX3_maySpeak cX3_maySpeak 4 (some .boolean), .fieldLink RX3 17 "OneSentence" "kind" "[I", .methodLink RX3 96 yX3_has, .static yX3_has, .code yX3_has cX3_has 2 (some .boolean)] ++ wsX30 ++ wsX00 ++ wsX20)
def wsX4_init : List Cond := .code yX4_init cX4_init 1 none :: ([.methodLink RX4 1 objectInit, .instanceMethod objectInit, .code objectInit ⟨#[0xb1]⟩ 1 none, .arrayClass .int, .fieldLink RX4 7 "OneSentenceModel" "home" "[I", .fieldLink RX4 13 "OneSentenceModel" "kind" "[I", .fieldLink RX4 16 "OneSentenceModel" "now" "[I", .fieldLink RX4 19 "OneSentenceModel" "readOf" "[I", .fieldLink RX4 22 "OneSentenceModel" "text" "[I", .fieldLink RX4 25 "OneSentenceModel" "row" "[I", .fieldLink RX4 28 "OneSentenceModel" "metAt" "[I", .fieldLink RX4 31 "OneSentenceModel" "manys" "[I", .fieldLink RX4 34 "OneSentenceModel" "senses" "[I", .arrayClass .boolean, .fieldLink RX4 37 "OneSentenceModel" "isKept" "[Z", .fieldLink RX4 41 "OneSentenceModel" "kept" "[I"] ++ wsX40)
def wsX4_in : List Cond := .code yX4_in cX4_in 6 (some .boolean) :: ([])
def wsX4_has : List Cond := .code yX4_has cX4_has 2 (some .boolean) :: ([])
def wsX4_ones : List Cond := .code yX4_ones cX4_ones 3 (some .int) :: ([])
def wsX4_write : List Cond := .code yX4_write cX4_write 2 (some .int) :: ([.constantLong RX4 44 (255), .fieldLink RX4 50 "OneSentenceModel" "length" "I", .fieldLink RX4 22 "OneSentenceModel" "text" "[I", .methodLink RX4 46 yX4_in, .static yX4_in, .initialized RX4, .code yX4_in cX4_in 6 (some .boolean)] ++ wsX40)
def wsX4_wipe : List Cond := .code yX4_wipe cX4_wipe 2 (some .int) :: ([.fieldLink RX4 50 "OneSentenceModel" "length" "I"] ++ wsX40)
def wsX4_figure : List Cond := .code yX4_figure cX4_figure 3 (some .int) :: ([.fieldLink RX4 54 "OneSentenceModel" "faultAt" "I", .fieldLink RX4 57 "OneSentenceModel" "at" "I", .fieldLink RX4 50 "OneSentenceModel" "length" "I", .fieldLink RX4 22 "OneSentenceModel" "text" "[I", .methodLink RX4 46 yX4_in, .static yX4_in, .initialized RX4, .code yX4_in cX4_in 6 (some .boolean)] ++ wsX40)
def wsX4_readText : List Cond := .code yX4_readText cX4_readText 1 (some .int) :: ([.fieldLink RX4 57 "OneSentenceModel" "at" "I", .fieldLink RX4 54 "OneSentenceModel" "faultAt" "I", .fieldLink RX4 60 "OneSentenceModel" "readPeople" "I", .fieldLink RX4 50 "OneSentenceModel" "length" "I", .fieldLink RX4 22 "OneSentenceModel" "text" "[I", .fieldLink RX4 67 "OneSentenceModel" "readMarket" "I", .fieldLink RX4 19 "OneSentenceModel" "readOf" "[I", .methodLink RX4 63 yX4_figure, .instanceMethod yX4_figure, .selects RX4 yX4_figure yX4_figure, .initialized RX4, .code yX4_figure cX4_figure 3 (some .int), .methodLink RX4 46 yX4_in, .static yX4_in, .code yX4_in cX4_in 6 (some .boolean)] ++ wsX40)
def wsX4_fault : List Cond := .code yX4_fault cX4_fault 1 (some .int) :: ([.methodLink RX4 70 yX4_readText, .instanceMethod yX4_readText, .selects RX4 yX4_readText yX4_readText, .initialized RX4, .code yX4_readText cX4_readText 1 (some .int), .fieldLink RX4 57 "OneSentenceModel" "at" "I", .fieldLink RX4 54 "OneSentenceModel" "faultAt" "I", .fieldLink RX4 60 "OneSentenceModel" "readPeople" "I", .fieldLink RX4 50 "OneSentenceModel" "length" "I", .fieldLink RX4 22 "OneSentenceModel" "text" "[I", .fieldLink RX4 67 "OneSentenceModel" "readMarket" "I", .fieldLink RX4 19 "OneSentenceModel" "readOf" "[I", .methodLink RX4 63 yX4_figure, .instanceMethod yX4_figure, .selects RX4 yX4_figure yX4_figure, .code yX4_figure cX4_figure 3 (some .int), .methodLink RX4 46 yX4_in, .static yX4_in, .code yX4_in cX4_in 6 (some .boolean)] ++ wsX40)
def wsX4_island_r1 : List Cond := [Cond.fieldLink RX4 60 "OneSentenceModel" "readPeople" "I", Cond.fieldLink RX4 74 "OneSentenceModel" "people" "I", Cond.fieldLink RX4 67 "OneSentenceModel" "readMarket" "I", Cond.fieldLink RX4 77 "OneSentenceModel" "market" "I", Cond.fieldLink RX4 16 "OneSentenceModel" "now" "[I", Cond.fieldLink RX4 7 "OneSentenceModel" "home" "[I", Cond.fieldLink RX4 19 "OneSentenceModel" "readOf" "[I", Cond.fieldLink RX4 13 "OneSentenceModel" "kind" "[I", Cond.fieldLink RX4 80 "OneSentenceModel" "acts" "I", Cond.fieldLink RX4 37 "OneSentenceModel" "isKept" "[Z", Cond.methodLink RX4 70 yX4_readText, Cond.instanceMethod yX4_readText, Cond.selects RX4 yX4_readText yX4_readText, Cond.initialized RX4, Cond.code yX4_readText cX4_readText 1 (some .int), Cond.fieldLink RX4 57 "OneSentenceModel" "at" "I", Cond.fieldLink RX4 54 "OneSentenceModel" "faultAt" "I", Cond.fieldLink RX4 50 "OneSentenceModel" "length" "I", Cond.fieldLink RX4 22 "OneSentenceModel" "text" "[I", Cond.methodLink RX4 63 yX4_figure, Cond.instanceMethod yX4_figure, Cond.selects RX4 yX4_figure yX4_figure, Cond.code yX4_figure cX4_figure 3 (some .int), Cond.methodLink RX4 46 yX4_in]
def wsX4_island_r2 : List Cond := [Cond.static yX4_in, Cond.code yX4_in cX4_in 6 (some .boolean)]
def wsX4_island : List Cond := .code yX4_island cX4_island 2 (some .int) :: ((wsX4_island_r1 ++ wsX4_island_r2) ++ wsX40)
def wsX4_isPerson : List Cond := .code yX4_isPerson cX4_isPerson 2 (some .boolean) :: ([.fieldLink RX4 74 "OneSentenceModel" "people" "I", .methodLink RX4 46 yX4_in, .static yX4_in, .initialized RX4, .code yX4_in cX4_in 6 (some .boolean)] ++ wsX40)
def wsX4_may : List Cond := .code yX4_may cX4_may 5 (some .boolean) :: ([.fieldLink RX4 16 "OneSentenceModel" "now" "[I", .fieldLink RX4 13 "OneSentenceModel" "kind" "[I", .methodLink RX4 83 yX4_has, .static yX4_has, .initialized RX4, .code yX4_has cX4_has 2 (some .boolean)] ++ wsX40)
def wsX4_made : List Cond := .code yX4_made cX4_made 3 (some .int) :: ([])
def wsX4_speakOn : List Cond := .code yX4_speakOn cX4_speakOn 4 none :: ([.fieldLink RX4 16 "OneSentenceModel" "now" "[I", .methodLink RX4 87 yX4_made, .static yX4_made, .initialized RX4, .code yX4_made cX4_made 3 (some .int)] ++ wsX40)
def wsX4_sayOn : List Cond := .code yX4_sayOn cX4_sayOn 3 none :: ([.fieldLink RX4 13 "OneSentenceModel" "kind" "[I", .fieldLink RX4 16 "OneSentenceModel" "now" "[I", .methodLink RX4 91 yX4_speakOn, .instanceMethod yX4_speakOn, .selects RX4 yX4_speakOn yX4_speakOn, .initialized RX4, .code yX4_speakOn cX4_speakOn 4 none, .methodLink RX4 87 yX4_made, .static yX4_made, .code yX4_made cX4_made 3 (some .int)] ++ wsX40)
def wsX4_person : List Cond := .code yX4_person cX4_person 3 (some .int) :: ([.fieldLink RX4 7 "OneSentenceModel" "home" "[I", .fieldLink RX4 16 "OneSentenceModel" "now" "[I", .fieldLink RX4 13 "OneSentenceModel" "kind" "[I", .methodLink RX4 95 yX4_isPerson, .instanceMethod yX4_isPerson, .selects RX4 yX4_isPerson yX4_isPerson, .initialized RX4, .code yX4_isPerson cX4_isPerson 2 (some .boolean), .fieldLink RX4 74 "OneSentenceModel" "people" "I", .methodLink RX4 46 yX4_in, .static yX4_in, .code yX4_in cX4_in 6 (some .boolean), .methodLink RX4 99 yX4_may, .instanceMethod yX4_may, .selects RX4 yX4_may yX4_may, .code yX4_may cX4_may 5 (some .boolean), .methodLink RX4 83 yX4_has, .static yX4_has, .code yX4_has cX4_has 2 (some .boolean)] ++ wsX40)
def wsX4_keepAct : List Cond := .code yX4_keepAct cX4_keepAct 2 none :: ([.fieldLink RX4 25 "OneSentenceModel" "row" "[I", .fieldLink RX4 102 "OneSentenceModel" "next" "I", .fieldLink RX4 16 "OneSentenceModel" "now" "[I", .fieldLink RX4 80 "OneSentenceModel" "acts" "I"] ++ wsX40)
def wsX4_far : List Cond := .code yX4_far cX4_far 2 (some .int) :: ([.fieldLink RX4 7 "OneSentenceModel" "home" "[I", .fieldLink RX4 77 "OneSentenceModel" "market" "I"] ++ wsX40)
def wsX4_fetch_r1 : List Cond := [Cond.fieldLink RX4 16 "OneSentenceModel" "now" "[I", Cond.methodLink RX4 95 yX4_isPerson, Cond.instanceMethod yX4_isPerson, Cond.selects RX4 yX4_isPerson yX4_isPerson, Cond.initialized RX4, Cond.code yX4_isPerson cX4_isPerson 2 (some .boolean), Cond.fieldLink RX4 74 "OneSentenceModel" "people" "I", Cond.methodLink RX4 46 yX4_in, Cond.static yX4_in, Cond.code yX4_in cX4_in 6 (some .boolean), Cond.methodLink RX4 83 yX4_has, Cond.static yX4_has, Cond.code yX4_has cX4_has 2 (some .boolean), Cond.methodLink RX4 105 yX4_keepAct, Cond.instanceMethod yX4_keepAct, Cond.selects RX4 yX4_keepAct yX4_keepAct, Cond.code yX4_keepAct cX4_keepAct 2 none, Cond.fieldLink RX4 25 "OneSentenceModel" "row" "[I", Cond.fieldLink RX4 102 "OneSentenceModel" "next" "I", Cond.fieldLink RX4 80 "OneSentenceModel" "acts" "I", Cond.methodLink RX4 108 yX4_far, Cond.instanceMethod yX4_far, Cond.selects RX4 yX4_far yX4_far, Cond.code yX4_far cX4_far 2 (some .int)]
def wsX4_fetch_r2 : List Cond := [Cond.fieldLink RX4 7 "OneSentenceModel" "home" "[I", Cond.fieldLink RX4 77 "OneSentenceModel" "market" "I"]
def wsX4_fetch : List Cond := .code yX4_fetch cX4_fetch 2 (some .int) :: ((wsX4_fetch_r1 ++ wsX4_fetch_r2) ++ wsX40)
def wsX4_send_r1 : List Cond := [Cond.fieldLink RX4 16 "OneSentenceModel" "now" "[I", Cond.fieldLink RX4 7 "OneSentenceModel" "home" "[I", Cond.fieldLink RX4 77 "OneSentenceModel" "market" "I", Cond.methodLink RX4 95 yX4_isPerson, Cond.instanceMethod yX4_isPerson, Cond.selects RX4 yX4_isPerson yX4_isPerson, Cond.initialized RX4, Cond.code yX4_isPerson cX4_isPerson 2 (some .boolean), Cond.fieldLink RX4 74 "OneSentenceModel" "people" "I", Cond.methodLink RX4 46 yX4_in, Cond.static yX4_in, Cond.code yX4_in cX4_in 6 (some .boolean), Cond.methodLink RX4 83 yX4_has, Cond.static yX4_has, Cond.code yX4_has cX4_has 2 (some .boolean), Cond.methodLink RX4 105 yX4_keepAct, Cond.instanceMethod yX4_keepAct, Cond.selects RX4 yX4_keepAct yX4_keepAct, Cond.code yX4_keepAct cX4_keepAct 2 none, Cond.fieldLink RX4 25 "OneSentenceModel" "row" "[I", Cond.fieldLink RX4 102 "OneSentenceModel" "next" "I", Cond.fieldLink RX4 80 "OneSentenceModel" "acts" "I", Cond.methodLink RX4 111 yX4_ones, Cond.static yX4_ones]
def wsX4_send_r2 : List Cond := [Cond.code yX4_ones cX4_ones 3 (some .int)]
def wsX4_send : List Cond := .code yX4_send cX4_send 2 (some .int) :: ((wsX4_send_r1 ++ wsX4_send_r2) ++ wsX40)
def wsX4_say_r1 : List Cond := [Cond.fieldLink RX4 16 "OneSentenceModel" "now" "[I", Cond.methodLink RX4 95 yX4_isPerson, Cond.instanceMethod yX4_isPerson, Cond.selects RX4 yX4_isPerson yX4_isPerson, Cond.initialized RX4, Cond.code yX4_isPerson cX4_isPerson 2 (some .boolean), Cond.fieldLink RX4 74 "OneSentenceModel" "people" "I", Cond.methodLink RX4 46 yX4_in, Cond.static yX4_in, Cond.code yX4_in cX4_in 6 (some .boolean), Cond.methodLink RX4 99 yX4_may, Cond.instanceMethod yX4_may, Cond.selects RX4 yX4_may yX4_may, Cond.code yX4_may cX4_may 5 (some .boolean), Cond.fieldLink RX4 13 "OneSentenceModel" "kind" "[I", Cond.methodLink RX4 83 yX4_has, Cond.static yX4_has, Cond.code yX4_has cX4_has 2 (some .boolean), Cond.methodLink RX4 105 yX4_keepAct, Cond.instanceMethod yX4_keepAct, Cond.selects RX4 yX4_keepAct yX4_keepAct, Cond.code yX4_keepAct cX4_keepAct 2 none, Cond.fieldLink RX4 25 "OneSentenceModel" "row" "[I", Cond.fieldLink RX4 102 "OneSentenceModel" "next" "I"]
def wsX4_say_r2 : List Cond := [Cond.fieldLink RX4 80 "OneSentenceModel" "acts" "I", Cond.methodLink RX4 114 yX4_sayOn, Cond.instanceMethod yX4_sayOn, Cond.selects RX4 yX4_sayOn yX4_sayOn, Cond.code yX4_sayOn cX4_sayOn 3 none, Cond.methodLink RX4 91 yX4_speakOn, Cond.instanceMethod yX4_speakOn, Cond.selects RX4 yX4_speakOn yX4_speakOn, Cond.code yX4_speakOn cX4_speakOn 4 none, Cond.methodLink RX4 87 yX4_made, Cond.static yX4_made, Cond.code yX4_made cX4_made 3 (some .int)]
def wsX4_say : List Cond := .code yX4_say cX4_say 2 (some .int) :: ((wsX4_say_r1 ++ wsX4_say_r2) ++ wsX40)
def wsX4_name : List Cond := .code yX4_name cX4_name 5 (some .int) :: ([.constantLong RX4 117 (3), .constantLong RX4 119 (9), .fieldLink RX4 16 "OneSentenceModel" "now" "[I", .methodLink RX4 95 yX4_isPerson, .instanceMethod yX4_isPerson, .selects RX4 yX4_isPerson yX4_isPerson, .initialized RX4, .code yX4_isPerson cX4_isPerson 2 (some .boolean), .fieldLink RX4 74 "OneSentenceModel" "people" "I", .methodLink RX4 46 yX4_in, .static yX4_in, .code yX4_in cX4_in 6 (some .boolean), .methodLink RX4 105 yX4_keepAct, .instanceMethod yX4_keepAct, .selects RX4 yX4_keepAct yX4_keepAct, .code yX4_keepAct cX4_keepAct 2 none, .fieldLink RX4 25 "OneSentenceModel" "row" "[I", .fieldLink RX4 102 "OneSentenceModel" "next" "I", .fieldLink RX4 80 "OneSentenceModel" "acts" "I"] ++ wsX40)
def wsX4_undo : List Cond := .code yX4_undo cX4_undo 2 (some .int) :: ([.fieldLink RX4 80 "OneSentenceModel" "acts" "I", .fieldLink RX4 102 "OneSentenceModel" "next" "I", .fieldLink RX4 16 "OneSentenceModel" "now" "[I", .fieldLink RX4 25 "OneSentenceModel" "row" "[I"] ++ wsX40)
def wsX4_layTrial : List Cond := .code yX4_layTrial cX4_layTrial 3 none :: ([.fieldLink RX4 16 "OneSentenceModel" "now" "[I", .fieldLink RX4 121 "OneSentenceModel" "newSort" "I", .fieldLink RX4 124 "OneSentenceModel" "newFigure" "I"] ++ wsX40)
def wsX4_tenTo : List Cond := .code yX4_tenTo cX4_tenTo 3 (some .int) :: ([])
def wsX4_sayRow_r1 : List Cond := [Cond.constantLong RX4 134 (6), Cond.methodLink RX4 127 yX4_layTrial, Cond.instanceMethod yX4_layTrial, Cond.selects RX4 yX4_layTrial yX4_layTrial, Cond.initialized RX4, Cond.code yX4_layTrial cX4_layTrial 3 none, Cond.fieldLink RX4 16 "OneSentenceModel" "now" "[I", Cond.fieldLink RX4 121 "OneSentenceModel" "newSort" "I", Cond.fieldLink RX4 124 "OneSentenceModel" "newFigure" "I", Cond.methodLink RX4 131 yX4_tenTo, Cond.static yX4_tenTo, Cond.code yX4_tenTo cX4_tenTo 3 (some .int), Cond.methodLink RX4 46 yX4_in, Cond.static yX4_in, Cond.code yX4_in cX4_in 6 (some .boolean), Cond.methodLink RX4 99 yX4_may, Cond.instanceMethod yX4_may, Cond.selects RX4 yX4_may yX4_may, Cond.code yX4_may cX4_may 5 (some .boolean), Cond.fieldLink RX4 13 "OneSentenceModel" "kind" "[I", Cond.methodLink RX4 83 yX4_has, Cond.static yX4_has, Cond.code yX4_has cX4_has 2 (some .boolean), Cond.methodLink RX4 114 yX4_sayOn]
def wsX4_sayRow_r2 : List Cond := [Cond.instanceMethod yX4_sayOn, Cond.selects RX4 yX4_sayOn yX4_sayOn, Cond.code yX4_sayOn cX4_sayOn 3 none, Cond.methodLink RX4 91 yX4_speakOn, Cond.instanceMethod yX4_speakOn, Cond.selects RX4 yX4_speakOn yX4_speakOn, Cond.code yX4_speakOn cX4_speakOn 4 none, Cond.methodLink RX4 87 yX4_made, Cond.static yX4_made, Cond.code yX4_made cX4_made 3 (some .int)]
def wsX4_sayRow : List Cond := .code yX4_sayRow cX4_sayRow 6 (some .int) :: ((wsX4_sayRow_r1 ++ wsX4_sayRow_r2) ++ wsX40)
def wsX4_comesTo_r1 : List Cond := [Cond.constantLong RX4 136 (5), Cond.fieldLink RX4 16 "OneSentenceModel" "now" "[I", Cond.methodLink RX4 46 yX4_in, Cond.static yX4_in, Cond.initialized RX4, Cond.code yX4_in cX4_in 6 (some .boolean), Cond.methodLink RX4 131 yX4_tenTo, Cond.static yX4_tenTo, Cond.code yX4_tenTo cX4_tenTo 3 (some .int), Cond.methodLink RX4 138 yX4_sayRow, Cond.instanceMethod yX4_sayRow, Cond.selects RX4 yX4_sayRow yX4_sayRow, Cond.code yX4_sayRow cX4_sayRow 6 (some .int), Cond.constantLong RX4 134 (6), Cond.methodLink RX4 127 yX4_layTrial, Cond.instanceMethod yX4_layTrial, Cond.selects RX4 yX4_layTrial yX4_layTrial, Cond.code yX4_layTrial cX4_layTrial 3 none, Cond.fieldLink RX4 121 "OneSentenceModel" "newSort" "I", Cond.fieldLink RX4 124 "OneSentenceModel" "newFigure" "I", Cond.methodLink RX4 99 yX4_may, Cond.instanceMethod yX4_may, Cond.selects RX4 yX4_may yX4_may, Cond.code yX4_may cX4_may 5 (some .boolean)]
def wsX4_comesTo_r2 : List Cond := [Cond.fieldLink RX4 13 "OneSentenceModel" "kind" "[I", Cond.methodLink RX4 83 yX4_has, Cond.static yX4_has, Cond.code yX4_has cX4_has 2 (some .boolean), Cond.methodLink RX4 114 yX4_sayOn, Cond.instanceMethod yX4_sayOn, Cond.selects RX4 yX4_sayOn yX4_sayOn, Cond.code yX4_sayOn cX4_sayOn 3 none, Cond.methodLink RX4 91 yX4_speakOn, Cond.instanceMethod yX4_speakOn, Cond.selects RX4 yX4_speakOn yX4_speakOn, Cond.code yX4_speakOn cX4_speakOn 4 none, Cond.methodLink RX4 87 yX4_made, Cond.static yX4_made, Cond.code yX4_made cX4_made 3 (some .int)]
def wsX4_comesTo : List Cond := .code yX4_comesTo cX4_comesTo 5 (some .int) :: ((wsX4_comesTo_r1 ++ wsX4_comesTo_r2) ++ wsX40)
def wsX4_rowOf : List Cond := .code yX4_rowOf cX4_rowOf 6 (some .int) :: ([])
def wsX4_sevens : List Cond := .code yX4_sevens cX4_sevens 3 (some .int) :: ([])
def wsX4_layFewest_r1 : List Cond := [Cond.fieldLink RX4 148 "OneSentenceModel" "fewRow" "I", Cond.fieldLink RX4 16 "OneSentenceModel" "now" "[I", Cond.methodLink RX4 141 yX4_sevens, Cond.static yX4_sevens, Cond.initialized RX4, Cond.code yX4_sevens cX4_sevens 3 (some .int), Cond.methodLink RX4 144 yX4_rowOf, Cond.static yX4_rowOf, Cond.code yX4_rowOf cX4_rowOf 6 (some .int), Cond.methodLink RX4 138 yX4_sayRow, Cond.instanceMethod yX4_sayRow, Cond.selects RX4 yX4_sayRow yX4_sayRow, Cond.code yX4_sayRow cX4_sayRow 6 (some .int), Cond.constantLong RX4 134 (6), Cond.methodLink RX4 127 yX4_layTrial, Cond.instanceMethod yX4_layTrial, Cond.selects RX4 yX4_layTrial yX4_layTrial, Cond.code yX4_layTrial cX4_layTrial 3 none, Cond.fieldLink RX4 121 "OneSentenceModel" "newSort" "I", Cond.fieldLink RX4 124 "OneSentenceModel" "newFigure" "I", Cond.methodLink RX4 131 yX4_tenTo, Cond.static yX4_tenTo, Cond.code yX4_tenTo cX4_tenTo 3 (some .int), Cond.methodLink RX4 46 yX4_in]
def wsX4_layFewest_r2 : List Cond := [Cond.static yX4_in, Cond.code yX4_in cX4_in 6 (some .boolean), Cond.methodLink RX4 99 yX4_may, Cond.instanceMethod yX4_may, Cond.selects RX4 yX4_may yX4_may, Cond.code yX4_may cX4_may 5 (some .boolean), Cond.fieldLink RX4 13 "OneSentenceModel" "kind" "[I", Cond.methodLink RX4 83 yX4_has, Cond.static yX4_has, Cond.code yX4_has cX4_has 2 (some .boolean), Cond.methodLink RX4 114 yX4_sayOn, Cond.instanceMethod yX4_sayOn, Cond.selects RX4 yX4_sayOn yX4_sayOn, Cond.code yX4_sayOn cX4_sayOn 3 none, Cond.methodLink RX4 91 yX4_speakOn, Cond.instanceMethod yX4_speakOn, Cond.selects RX4 yX4_speakOn yX4_speakOn, Cond.code yX4_speakOn cX4_speakOn 4 none, Cond.methodLink RX4 87 yX4_made, Cond.static yX4_made, Cond.code yX4_made cX4_made 3 (some .int)]
def wsX4_layFewest : List Cond := .code yX4_layFewest cX4_layFewest 5 (some .int) :: ((wsX4_layFewest_r1 ++ wsX4_layFewest_r2) ++ wsX40)
def wsX4_fewest_r1 : List Cond := [Cond.constantLong RX4 119 (9), Cond.fieldLink RX4 16 "OneSentenceModel" "now" "[I", Cond.fieldLink RX4 148 "OneSentenceModel" "fewRow" "I", Cond.methodLink RX4 46 yX4_in, Cond.static yX4_in, Cond.initialized RX4, Cond.code yX4_in cX4_in 6 (some .boolean), Cond.methodLink RX4 151 yX4_layFewest, Cond.instanceMethod yX4_layFewest, Cond.selects RX4 yX4_layFewest yX4_layFewest, Cond.code yX4_layFewest cX4_layFewest 5 (some .int), Cond.methodLink RX4 141 yX4_sevens, Cond.static yX4_sevens, Cond.code yX4_sevens cX4_sevens 3 (some .int), Cond.methodLink RX4 144 yX4_rowOf, Cond.static yX4_rowOf, Cond.code yX4_rowOf cX4_rowOf 6 (some .int), Cond.methodLink RX4 138 yX4_sayRow, Cond.instanceMethod yX4_sayRow, Cond.selects RX4 yX4_sayRow yX4_sayRow, Cond.code yX4_sayRow cX4_sayRow 6 (some .int), Cond.constantLong RX4 134 (6), Cond.methodLink RX4 127 yX4_layTrial, Cond.instanceMethod yX4_layTrial]
def wsX4_fewest_r2 : List Cond := [Cond.selects RX4 yX4_layTrial yX4_layTrial, Cond.code yX4_layTrial cX4_layTrial 3 none, Cond.fieldLink RX4 121 "OneSentenceModel" "newSort" "I", Cond.fieldLink RX4 124 "OneSentenceModel" "newFigure" "I", Cond.methodLink RX4 131 yX4_tenTo, Cond.static yX4_tenTo, Cond.code yX4_tenTo cX4_tenTo 3 (some .int), Cond.methodLink RX4 99 yX4_may, Cond.instanceMethod yX4_may, Cond.selects RX4 yX4_may yX4_may, Cond.code yX4_may cX4_may 5 (some .boolean), Cond.fieldLink RX4 13 "OneSentenceModel" "kind" "[I", Cond.methodLink RX4 83 yX4_has, Cond.static yX4_has, Cond.code yX4_has cX4_has 2 (some .boolean), Cond.methodLink RX4 114 yX4_sayOn, Cond.instanceMethod yX4_sayOn, Cond.selects RX4 yX4_sayOn yX4_sayOn, Cond.code yX4_sayOn cX4_sayOn 3 none, Cond.methodLink RX4 91 yX4_speakOn, Cond.instanceMethod yX4_speakOn, Cond.selects RX4 yX4_speakOn yX4_speakOn, Cond.code yX4_speakOn cX4_speakOn 4 none, Cond.methodLink RX4 87 yX4_made]
def wsX4_fewest_r3 : List Cond := [Cond.static yX4_made, Cond.code yX4_made cX4_made 3 (some .int)]
def wsX4_fewest : List Cond := .code yX4_fewest cX4_fewest 4 (some .int) :: ((wsX4_fewest_r1 ++ (wsX4_fewest_r2 ++ wsX4_fewest_r3)) ++ wsX40)
def wsX4_canBy_r1 : List Cond := [Cond.fieldLink RX4 16 "OneSentenceModel" "now" "[I", Cond.methodLink RX4 141 yX4_sevens, Cond.static yX4_sevens, Cond.initialized RX4, Cond.code yX4_sevens cX4_sevens 3 (some .int), Cond.methodLink RX4 144 yX4_rowOf, Cond.static yX4_rowOf, Cond.code yX4_rowOf cX4_rowOf 6 (some .int), Cond.methodLink RX4 138 yX4_sayRow, Cond.instanceMethod yX4_sayRow, Cond.selects RX4 yX4_sayRow yX4_sayRow, Cond.code yX4_sayRow cX4_sayRow 6 (some .int), Cond.constantLong RX4 134 (6), Cond.methodLink RX4 127 yX4_layTrial, Cond.instanceMethod yX4_layTrial, Cond.selects RX4 yX4_layTrial yX4_layTrial, Cond.code yX4_layTrial cX4_layTrial 3 none, Cond.fieldLink RX4 121 "OneSentenceModel" "newSort" "I", Cond.fieldLink RX4 124 "OneSentenceModel" "newFigure" "I", Cond.methodLink RX4 131 yX4_tenTo, Cond.static yX4_tenTo, Cond.code yX4_tenTo cX4_tenTo 3 (some .int), Cond.methodLink RX4 46 yX4_in, Cond.static yX4_in]
def wsX4_canBy_r2 : List Cond := [Cond.code yX4_in cX4_in 6 (some .boolean), Cond.methodLink RX4 99 yX4_may, Cond.instanceMethod yX4_may, Cond.selects RX4 yX4_may yX4_may, Cond.code yX4_may cX4_may 5 (some .boolean), Cond.fieldLink RX4 13 "OneSentenceModel" "kind" "[I", Cond.methodLink RX4 83 yX4_has, Cond.static yX4_has, Cond.code yX4_has cX4_has 2 (some .boolean), Cond.methodLink RX4 114 yX4_sayOn, Cond.instanceMethod yX4_sayOn, Cond.selects RX4 yX4_sayOn yX4_sayOn, Cond.code yX4_sayOn cX4_sayOn 3 none, Cond.methodLink RX4 91 yX4_speakOn, Cond.instanceMethod yX4_speakOn, Cond.selects RX4 yX4_speakOn yX4_speakOn, Cond.code yX4_speakOn cX4_speakOn 4 none, Cond.methodLink RX4 87 yX4_made, Cond.static yX4_made, Cond.code yX4_made cX4_made 3 (some .int)]
def wsX4_canBy : List Cond := .code yX4_canBy cX4_canBy 6 (some .int) :: ((wsX4_canBy_r1 ++ wsX4_canBy_r2) ++ wsX40)
def wsX4_can_r1 : List Cond := [Cond.constantLong RX4 117 (3), Cond.fieldLink RX4 16 "OneSentenceModel" "now" "[I", Cond.methodLink RX4 46 yX4_in, Cond.static yX4_in, Cond.initialized RX4, Cond.code yX4_in cX4_in 6 (some .boolean), Cond.methodLink RX4 154 yX4_canBy, Cond.instanceMethod yX4_canBy, Cond.selects RX4 yX4_canBy yX4_canBy, Cond.code yX4_canBy cX4_canBy 6 (some .int), Cond.methodLink RX4 141 yX4_sevens, Cond.static yX4_sevens, Cond.code yX4_sevens cX4_sevens 3 (some .int), Cond.methodLink RX4 144 yX4_rowOf, Cond.static yX4_rowOf, Cond.code yX4_rowOf cX4_rowOf 6 (some .int), Cond.methodLink RX4 138 yX4_sayRow, Cond.instanceMethod yX4_sayRow, Cond.selects RX4 yX4_sayRow yX4_sayRow, Cond.code yX4_sayRow cX4_sayRow 6 (some .int), Cond.constantLong RX4 134 (6), Cond.methodLink RX4 127 yX4_layTrial, Cond.instanceMethod yX4_layTrial, Cond.selects RX4 yX4_layTrial yX4_layTrial]
def wsX4_can_r2 : List Cond := [Cond.code yX4_layTrial cX4_layTrial 3 none, Cond.fieldLink RX4 121 "OneSentenceModel" "newSort" "I", Cond.fieldLink RX4 124 "OneSentenceModel" "newFigure" "I", Cond.methodLink RX4 131 yX4_tenTo, Cond.static yX4_tenTo, Cond.code yX4_tenTo cX4_tenTo 3 (some .int), Cond.methodLink RX4 99 yX4_may, Cond.instanceMethod yX4_may, Cond.selects RX4 yX4_may yX4_may, Cond.code yX4_may cX4_may 5 (some .boolean), Cond.fieldLink RX4 13 "OneSentenceModel" "kind" "[I", Cond.methodLink RX4 83 yX4_has, Cond.static yX4_has, Cond.code yX4_has cX4_has 2 (some .boolean), Cond.methodLink RX4 114 yX4_sayOn, Cond.instanceMethod yX4_sayOn, Cond.selects RX4 yX4_sayOn yX4_sayOn, Cond.code yX4_sayOn cX4_sayOn 3 none, Cond.methodLink RX4 91 yX4_speakOn, Cond.instanceMethod yX4_speakOn, Cond.selects RX4 yX4_speakOn yX4_speakOn, Cond.code yX4_speakOn cX4_speakOn 4 none, Cond.methodLink RX4 87 yX4_made, Cond.static yX4_made]
def wsX4_can_r3 : List Cond := [Cond.code yX4_made cX4_made 3 (some .int)]
def wsX4_can : List Cond := .code yX4_can cX4_can 2 (some .int) :: ((wsX4_can_r1 ++ (wsX4_can_r2 ++ wsX4_can_r3)) ++ wsX40)
def wsX4_hoursOf : List Cond := .code yX4_hoursOf cX4_hoursOf 4 (some .int) :: ([.fieldLink RX4 74 "OneSentenceModel" "people" "I", .methodLink RX4 83 yX4_has, .static yX4_has, .initialized RX4, .code yX4_has cX4_has 2 (some .boolean), .methodLink RX4 108 yX4_far, .instanceMethod yX4_far, .selects RX4 yX4_far yX4_far, .code yX4_far cX4_far 2 (some .int), .fieldLink RX4 7 "OneSentenceModel" "home" "[I", .fieldLink RX4 77 "OneSentenceModel" "market" "I"] ++ wsX40)
def wsX4_toFetch_r1 : List Cond := [Cond.constantLong RX4 119 (9), Cond.fieldLink RX4 74 "OneSentenceModel" "people" "I", Cond.fieldLink RX4 16 "OneSentenceModel" "now" "[I", Cond.methodLink RX4 46 yX4_in, Cond.static yX4_in, Cond.initialized RX4, Cond.code yX4_in cX4_in 6 (some .boolean), Cond.methodLink RX4 157 yX4_hoursOf, Cond.instanceMethod yX4_hoursOf, Cond.selects RX4 yX4_hoursOf yX4_hoursOf, Cond.code yX4_hoursOf cX4_hoursOf 4 (some .int), Cond.methodLink RX4 83 yX4_has, Cond.static yX4_has, Cond.code yX4_has cX4_has 2 (some .boolean), Cond.methodLink RX4 108 yX4_far, Cond.instanceMethod yX4_far, Cond.selects RX4 yX4_far yX4_far, Cond.code yX4_far cX4_far 2 (some .int), Cond.fieldLink RX4 7 "OneSentenceModel" "home" "[I", Cond.fieldLink RX4 77 "OneSentenceModel" "market" "I", Cond.methodLink RX4 111 yX4_ones, Cond.static yX4_ones, Cond.code yX4_ones cX4_ones 3 (some .int), Cond.methodLink RX4 151 yX4_layFewest]
def wsX4_toFetch_r2 : List Cond := [Cond.instanceMethod yX4_layFewest, Cond.selects RX4 yX4_layFewest yX4_layFewest, Cond.code yX4_layFewest cX4_layFewest 5 (some .int), Cond.fieldLink RX4 148 "OneSentenceModel" "fewRow" "I", Cond.methodLink RX4 141 yX4_sevens, Cond.static yX4_sevens, Cond.code yX4_sevens cX4_sevens 3 (some .int), Cond.methodLink RX4 144 yX4_rowOf, Cond.static yX4_rowOf, Cond.code yX4_rowOf cX4_rowOf 6 (some .int), Cond.methodLink RX4 138 yX4_sayRow, Cond.instanceMethod yX4_sayRow, Cond.selects RX4 yX4_sayRow yX4_sayRow, Cond.code yX4_sayRow cX4_sayRow 6 (some .int), Cond.constantLong RX4 134 (6), Cond.methodLink RX4 127 yX4_layTrial, Cond.instanceMethod yX4_layTrial, Cond.selects RX4 yX4_layTrial yX4_layTrial, Cond.code yX4_layTrial cX4_layTrial 3 none, Cond.fieldLink RX4 121 "OneSentenceModel" "newSort" "I", Cond.fieldLink RX4 124 "OneSentenceModel" "newFigure" "I", Cond.methodLink RX4 131 yX4_tenTo, Cond.static yX4_tenTo, Cond.code yX4_tenTo cX4_tenTo 3 (some .int)]
def wsX4_toFetch_r3 : List Cond := [Cond.methodLink RX4 99 yX4_may, Cond.instanceMethod yX4_may, Cond.selects RX4 yX4_may yX4_may, Cond.code yX4_may cX4_may 5 (some .boolean), Cond.fieldLink RX4 13 "OneSentenceModel" "kind" "[I", Cond.methodLink RX4 114 yX4_sayOn, Cond.instanceMethod yX4_sayOn, Cond.selects RX4 yX4_sayOn yX4_sayOn, Cond.code yX4_sayOn cX4_sayOn 3 none, Cond.methodLink RX4 91 yX4_speakOn, Cond.instanceMethod yX4_speakOn, Cond.selects RX4 yX4_speakOn yX4_speakOn, Cond.code yX4_speakOn cX4_speakOn 4 none, Cond.methodLink RX4 87 yX4_made, Cond.static yX4_made, Cond.code yX4_made cX4_made 3 (some .int)]
def wsX4_toFetch : List Cond := .code yX4_toFetch cX4_toFetch 8 (some .int) :: ((wsX4_toFetch_r1 ++ (wsX4_toFetch_r2 ++ wsX4_toFetch_r3)) ++ wsX40)
def wsX4_needed_r1 : List Cond := [Cond.fieldLink RX4 16 "OneSentenceModel" "now" "[I", Cond.fieldLink RX4 74 "OneSentenceModel" "people" "I", Cond.methodLink RX4 154 yX4_canBy, Cond.instanceMethod yX4_canBy, Cond.selects RX4 yX4_canBy yX4_canBy, Cond.initialized RX4, Cond.code yX4_canBy cX4_canBy 6 (some .int), Cond.methodLink RX4 141 yX4_sevens, Cond.static yX4_sevens, Cond.code yX4_sevens cX4_sevens 3 (some .int), Cond.methodLink RX4 144 yX4_rowOf, Cond.static yX4_rowOf, Cond.code yX4_rowOf cX4_rowOf 6 (some .int), Cond.methodLink RX4 138 yX4_sayRow, Cond.instanceMethod yX4_sayRow, Cond.selects RX4 yX4_sayRow yX4_sayRow, Cond.code yX4_sayRow cX4_sayRow 6 (some .int), Cond.constantLong RX4 134 (6), Cond.methodLink RX4 127 yX4_layTrial, Cond.instanceMethod yX4_layTrial, Cond.selects RX4 yX4_layTrial yX4_layTrial, Cond.code yX4_layTrial cX4_layTrial 3 none, Cond.fieldLink RX4 121 "OneSentenceModel" "newSort" "I", Cond.fieldLink RX4 124 "OneSentenceModel" "newFigure" "I"]
def wsX4_needed_r2 : List Cond := [Cond.methodLink RX4 131 yX4_tenTo, Cond.static yX4_tenTo, Cond.code yX4_tenTo cX4_tenTo 3 (some .int), Cond.methodLink RX4 46 yX4_in, Cond.static yX4_in, Cond.code yX4_in cX4_in 6 (some .boolean), Cond.methodLink RX4 99 yX4_may, Cond.instanceMethod yX4_may, Cond.selects RX4 yX4_may yX4_may, Cond.code yX4_may cX4_may 5 (some .boolean), Cond.fieldLink RX4 13 "OneSentenceModel" "kind" "[I", Cond.methodLink RX4 83 yX4_has, Cond.static yX4_has, Cond.code yX4_has cX4_has 2 (some .boolean), Cond.methodLink RX4 114 yX4_sayOn, Cond.instanceMethod yX4_sayOn, Cond.selects RX4 yX4_sayOn yX4_sayOn, Cond.code yX4_sayOn cX4_sayOn 3 none, Cond.methodLink RX4 91 yX4_speakOn, Cond.instanceMethod yX4_speakOn, Cond.selects RX4 yX4_speakOn yX4_speakOn, Cond.code yX4_speakOn cX4_speakOn 4 none, Cond.methodLink RX4 87 yX4_made, Cond.static yX4_made]
def wsX4_needed_r3 : List Cond := [Cond.code yX4_made cX4_made 3 (some .int), Cond.methodLink RX4 111 yX4_ones, Cond.static yX4_ones, Cond.code yX4_ones cX4_ones 3 (some .int)]
def wsX4_needed : List Cond := .code yX4_needed cX4_needed 5 (some .int) :: ((wsX4_needed_r1 ++ (wsX4_needed_r2 ++ wsX4_needed_r3)) ++ wsX40)
def wsX4_naming_r1 : List Cond := [Cond.constantLong RX4 117 (3), Cond.fieldLink RX4 121 "OneSentenceModel" "newSort" "I", Cond.fieldLink RX4 124 "OneSentenceModel" "newFigure" "I", Cond.fieldLink RX4 16 "OneSentenceModel" "now" "[I", Cond.methodLink RX4 46 yX4_in, Cond.static yX4_in, Cond.initialized RX4, Cond.code yX4_in cX4_in 6 (some .boolean), Cond.methodLink RX4 154 yX4_canBy, Cond.instanceMethod yX4_canBy, Cond.selects RX4 yX4_canBy yX4_canBy, Cond.code yX4_canBy cX4_canBy 6 (some .int), Cond.methodLink RX4 141 yX4_sevens, Cond.static yX4_sevens, Cond.code yX4_sevens cX4_sevens 3 (some .int), Cond.methodLink RX4 144 yX4_rowOf, Cond.static yX4_rowOf, Cond.code yX4_rowOf cX4_rowOf 6 (some .int), Cond.methodLink RX4 138 yX4_sayRow, Cond.instanceMethod yX4_sayRow, Cond.selects RX4 yX4_sayRow yX4_sayRow, Cond.code yX4_sayRow cX4_sayRow 6 (some .int), Cond.constantLong RX4 134 (6), Cond.methodLink RX4 127 yX4_layTrial]
def wsX4_naming_r2 : List Cond := [Cond.instanceMethod yX4_layTrial, Cond.selects RX4 yX4_layTrial yX4_layTrial, Cond.code yX4_layTrial cX4_layTrial 3 none, Cond.methodLink RX4 131 yX4_tenTo, Cond.static yX4_tenTo, Cond.code yX4_tenTo cX4_tenTo 3 (some .int), Cond.methodLink RX4 99 yX4_may, Cond.instanceMethod yX4_may, Cond.selects RX4 yX4_may yX4_may, Cond.code yX4_may cX4_may 5 (some .boolean), Cond.fieldLink RX4 13 "OneSentenceModel" "kind" "[I", Cond.methodLink RX4 83 yX4_has, Cond.static yX4_has, Cond.code yX4_has cX4_has 2 (some .boolean), Cond.methodLink RX4 114 yX4_sayOn, Cond.instanceMethod yX4_sayOn, Cond.selects RX4 yX4_sayOn yX4_sayOn, Cond.code yX4_sayOn cX4_sayOn 3 none, Cond.methodLink RX4 91 yX4_speakOn, Cond.instanceMethod yX4_speakOn, Cond.selects RX4 yX4_speakOn yX4_speakOn, Cond.code yX4_speakOn cX4_speakOn 4 none, Cond.methodLink RX4 87 yX4_made, Cond.static yX4_made]
def wsX4_naming_r3 : List Cond := [Cond.code yX4_made cX4_made 3 (some .int), Cond.methodLink RX4 111 yX4_ones, Cond.static yX4_ones, Cond.code yX4_ones cX4_ones 3 (some .int)]
def wsX4_naming : List Cond := .code yX4_naming cX4_naming 7 (some .int) :: ((wsX4_naming_r1 ++ (wsX4_naming_r2 ++ wsX4_naming_r3)) ++ wsX40)
def wsX4_whoIn : List Cond := .code yX4_whoIn cX4_whoIn 3 (some .int) :: ([])
def wsX4_spoken_r1 : List Cond := [Cond.constantLong RX4 160 (4), Cond.constantLong RX4 119 (9), Cond.constantLong RX4 162 (2), Cond.fieldLink RX4 16 "OneSentenceModel" "now" "[I", Cond.methodLink RX4 46 yX4_in, Cond.static yX4_in, Cond.initialized RX4, Cond.code yX4_in cX4_in 6 (some .boolean), Cond.methodLink RX4 141 yX4_sevens, Cond.static yX4_sevens, Cond.code yX4_sevens cX4_sevens 3 (some .int), Cond.methodLink RX4 144 yX4_rowOf, Cond.static yX4_rowOf, Cond.code yX4_rowOf cX4_rowOf 6 (some .int), Cond.methodLink RX4 138 yX4_sayRow, Cond.instanceMethod yX4_sayRow, Cond.selects RX4 yX4_sayRow yX4_sayRow, Cond.code yX4_sayRow cX4_sayRow 6 (some .int), Cond.constantLong RX4 134 (6), Cond.methodLink RX4 127 yX4_layTrial, Cond.instanceMethod yX4_layTrial, Cond.selects RX4 yX4_layTrial yX4_layTrial, Cond.code yX4_layTrial cX4_layTrial 3 none, Cond.fieldLink RX4 121 "OneSentenceModel" "newSort" "I"]
def wsX4_spoken_r2 : List Cond := [Cond.fieldLink RX4 124 "OneSentenceModel" "newFigure" "I", Cond.methodLink RX4 131 yX4_tenTo, Cond.static yX4_tenTo, Cond.code yX4_tenTo cX4_tenTo 3 (some .int), Cond.methodLink RX4 99 yX4_may, Cond.instanceMethod yX4_may, Cond.selects RX4 yX4_may yX4_may, Cond.code yX4_may cX4_may 5 (some .boolean), Cond.fieldLink RX4 13 "OneSentenceModel" "kind" "[I", Cond.methodLink RX4 83 yX4_has, Cond.static yX4_has, Cond.code yX4_has cX4_has 2 (some .boolean), Cond.methodLink RX4 114 yX4_sayOn, Cond.instanceMethod yX4_sayOn, Cond.selects RX4 yX4_sayOn yX4_sayOn, Cond.code yX4_sayOn cX4_sayOn 3 none, Cond.methodLink RX4 91 yX4_speakOn, Cond.instanceMethod yX4_speakOn, Cond.selects RX4 yX4_speakOn yX4_speakOn, Cond.code yX4_speakOn cX4_speakOn 4 none, Cond.methodLink RX4 87 yX4_made, Cond.static yX4_made, Cond.code yX4_made cX4_made 3 (some .int), Cond.methodLink RX4 164 yX4_whoIn]
def wsX4_spoken_r3 : List Cond := [Cond.static yX4_whoIn, Cond.code yX4_whoIn cX4_whoIn 3 (some .int)]
def wsX4_spoken : List Cond := .code yX4_spoken cX4_spoken 9 (some .int) :: ((wsX4_spoken_r1 ++ (wsX4_spoken_r2 ++ wsX4_spoken_r3)) ++ wsX40)
def wsX4_quarrel : List Cond := .code yX4_quarrel cX4_quarrel 5 (some .int) :: ([.fieldLink RX4 28 "OneSentenceModel" "metAt" "[I", .fieldLink RX4 16 "OneSentenceModel" "now" "[I", .methodLink RX4 95 yX4_isPerson, .instanceMethod yX4_isPerson, .selects RX4 yX4_isPerson yX4_isPerson, .initialized RX4, .code yX4_isPerson cX4_isPerson 2 (some .boolean), .fieldLink RX4 74 "OneSentenceModel" "people" "I", .methodLink RX4 46 yX4_in, .static yX4_in, .code yX4_in cX4_in 6 (some .boolean), .methodLink RX4 127 yX4_layTrial, .instanceMethod yX4_layTrial, .selects RX4 yX4_layTrial yX4_layTrial, .code yX4_layTrial cX4_layTrial 3 none, .fieldLink RX4 121 "OneSentenceModel" "newSort" "I", .fieldLink RX4 124 "OneSentenceModel" "newFigure" "I", .methodLink RX4 91 yX4_speakOn, .instanceMethod yX4_speakOn, .selects RX4 yX4_speakOn yX4_speakOn, .code yX4_speakOn cX4_speakOn 4 none, .methodLink RX4 87 yX4_made, .static yX4_made, .code yX4_made cX4_made 3 (some .int)] ++ wsX40)
def wsX4_factorial : List Cond := .code yX4_factorial cX4_factorial 3 (some .int) :: ([])
def wsX4_common : List Cond := .code yX4_common cX4_common 5 (some .int) :: ([])
def wsX4_share_r1 : List Cond := [Cond.constantLong RX4 117 (3), Cond.fieldLink RX4 16 "OneSentenceModel" "now" "[I", Cond.fieldLink RX4 31 "OneSentenceModel" "manys" "[I", Cond.methodLink RX4 95 yX4_isPerson, Cond.instanceMethod yX4_isPerson, Cond.selects RX4 yX4_isPerson yX4_isPerson, Cond.initialized RX4, Cond.code yX4_isPerson cX4_isPerson 2 (some .boolean), Cond.fieldLink RX4 74 "OneSentenceModel" "people" "I", Cond.methodLink RX4 46 yX4_in, Cond.static yX4_in, Cond.code yX4_in cX4_in 6 (some .boolean), Cond.methodLink RX4 83 yX4_has, Cond.static yX4_has, Cond.code yX4_has cX4_has 2 (some .boolean), Cond.methodLink RX4 154 yX4_canBy, Cond.instanceMethod yX4_canBy, Cond.selects RX4 yX4_canBy yX4_canBy, Cond.code yX4_canBy cX4_canBy 6 (some .int), Cond.methodLink RX4 141 yX4_sevens, Cond.static yX4_sevens, Cond.code yX4_sevens cX4_sevens 3 (some .int), Cond.methodLink RX4 144 yX4_rowOf, Cond.static yX4_rowOf]
def wsX4_share_r2 : List Cond := [Cond.code yX4_rowOf cX4_rowOf 6 (some .int), Cond.methodLink RX4 138 yX4_sayRow, Cond.instanceMethod yX4_sayRow, Cond.selects RX4 yX4_sayRow yX4_sayRow, Cond.code yX4_sayRow cX4_sayRow 6 (some .int), Cond.constantLong RX4 134 (6), Cond.methodLink RX4 127 yX4_layTrial, Cond.instanceMethod yX4_layTrial, Cond.selects RX4 yX4_layTrial yX4_layTrial, Cond.code yX4_layTrial cX4_layTrial 3 none, Cond.fieldLink RX4 121 "OneSentenceModel" "newSort" "I", Cond.fieldLink RX4 124 "OneSentenceModel" "newFigure" "I", Cond.methodLink RX4 131 yX4_tenTo, Cond.static yX4_tenTo, Cond.code yX4_tenTo cX4_tenTo 3 (some .int), Cond.methodLink RX4 99 yX4_may, Cond.instanceMethod yX4_may, Cond.selects RX4 yX4_may yX4_may, Cond.code yX4_may cX4_may 5 (some .boolean), Cond.fieldLink RX4 13 "OneSentenceModel" "kind" "[I", Cond.methodLink RX4 114 yX4_sayOn, Cond.instanceMethod yX4_sayOn, Cond.selects RX4 yX4_sayOn yX4_sayOn, Cond.code yX4_sayOn cX4_sayOn 3 none]
def wsX4_share_r3 : List Cond := [Cond.methodLink RX4 91 yX4_speakOn, Cond.instanceMethod yX4_speakOn, Cond.selects RX4 yX4_speakOn yX4_speakOn, Cond.code yX4_speakOn cX4_speakOn 4 none, Cond.methodLink RX4 87 yX4_made, Cond.static yX4_made, Cond.code yX4_made cX4_made 3 (some .int), Cond.methodLink RX4 111 yX4_ones, Cond.static yX4_ones, Cond.code yX4_ones cX4_ones 3 (some .int), Cond.methodLink RX4 167 yX4_factorial, Cond.static yX4_factorial, Cond.code yX4_factorial cX4_factorial 3 (some .int), Cond.methodLink RX4 170 yX4_common, Cond.static yX4_common, Cond.code yX4_common cX4_common 5 (some .int)]
def wsX4_share : List Cond := .code yX4_share cX4_share 8 (some .int) :: ((wsX4_share_r1 ++ (wsX4_share_r2 ++ wsX4_share_r3)) ++ wsX40)
def wsX4_apart : List Cond := .code yX4_apart cX4_apart 2 (some .int) :: ([])
def wsX4_isRest : List Cond := .code yX4_isRest cX4_isRest 6 (some .boolean) :: ([.fieldLink RX4 34 "OneSentenceModel" "senses" "[I", .methodLink RX4 173 yX4_apart, .static yX4_apart, .initialized RX4, .code yX4_apart cX4_apart 2 (some .int)] ++ wsX40)
def wsX4_laySenses : List Cond := .code yX4_laySenses cX4_laySenses 5 none :: ([.fieldLink RX4 16 "OneSentenceModel" "now" "[I", .fieldLink RX4 34 "OneSentenceModel" "senses" "[I", .methodLink RX4 127 yX4_layTrial, .instanceMethod yX4_layTrial, .selects RX4 yX4_layTrial yX4_layTrial, .initialized RX4, .code yX4_layTrial cX4_layTrial 3 none, .fieldLink RX4 121 "OneSentenceModel" "newSort" "I", .fieldLink RX4 124 "OneSentenceModel" "newFigure" "I", .methodLink RX4 91 yX4_speakOn, .instanceMethod yX4_speakOn, .selects RX4 yX4_speakOn yX4_speakOn, .code yX4_speakOn cX4_speakOn 4 none, .methodLink RX4 87 yX4_made, .static yX4_made, .code yX4_made cX4_made 3 (some .int)] ++ wsX40)
def wsX4_rests_r1 : List Cond := [Cond.constantLong RX4 119 (9), Cond.methodLink RX4 95 yX4_isPerson, Cond.instanceMethod yX4_isPerson, Cond.selects RX4 yX4_isPerson yX4_isPerson, Cond.initialized RX4, Cond.code yX4_isPerson cX4_isPerson 2 (some .boolean), Cond.fieldLink RX4 74 "OneSentenceModel" "people" "I", Cond.methodLink RX4 46 yX4_in, Cond.static yX4_in, Cond.code yX4_in cX4_in 6 (some .boolean), Cond.methodLink RX4 176 yX4_laySenses, Cond.instanceMethod yX4_laySenses, Cond.selects RX4 yX4_laySenses yX4_laySenses, Cond.code yX4_laySenses cX4_laySenses 5 none, Cond.fieldLink RX4 16 "OneSentenceModel" "now" "[I", Cond.fieldLink RX4 34 "OneSentenceModel" "senses" "[I", Cond.methodLink RX4 127 yX4_layTrial, Cond.instanceMethod yX4_layTrial, Cond.selects RX4 yX4_layTrial yX4_layTrial, Cond.code yX4_layTrial cX4_layTrial 3 none, Cond.fieldLink RX4 121 "OneSentenceModel" "newSort" "I", Cond.fieldLink RX4 124 "OneSentenceModel" "newFigure" "I", Cond.methodLink RX4 91 yX4_speakOn, Cond.instanceMethod yX4_speakOn]
def wsX4_rests_r2 : List Cond := [Cond.selects RX4 yX4_speakOn yX4_speakOn, Cond.code yX4_speakOn cX4_speakOn 4 none, Cond.methodLink RX4 87 yX4_made, Cond.static yX4_made, Cond.code yX4_made cX4_made 3 (some .int), Cond.methodLink RX4 179 yX4_isRest, Cond.instanceMethod yX4_isRest, Cond.selects RX4 yX4_isRest yX4_isRest, Cond.code yX4_isRest cX4_isRest 6 (some .boolean), Cond.methodLink RX4 173 yX4_apart, Cond.static yX4_apart, Cond.code yX4_apart cX4_apart 2 (some .int)]
def wsX4_rests : List Cond := .code yX4_rests cX4_rests 9 (some .int) :: ((wsX4_rests_r1 ++ wsX4_rests_r2) ++ wsX40)
def wsX4_chance_r1 : List Cond := [Cond.constantLong RX4 160 (4), Cond.constantLong RX4 119 (9), Cond.fieldLink RX4 16 "OneSentenceModel" "now" "[I", Cond.methodLink RX4 46 yX4_in, Cond.static yX4_in, Cond.initialized RX4, Cond.code yX4_in cX4_in 6 (some .boolean), Cond.methodLink RX4 141 yX4_sevens, Cond.static yX4_sevens, Cond.code yX4_sevens cX4_sevens 3 (some .int), Cond.methodLink RX4 144 yX4_rowOf, Cond.static yX4_rowOf, Cond.code yX4_rowOf cX4_rowOf 6 (some .int), Cond.methodLink RX4 164 yX4_whoIn, Cond.static yX4_whoIn, Cond.code yX4_whoIn cX4_whoIn 3 (some .int), Cond.methodLink RX4 127 yX4_layTrial, Cond.instanceMethod yX4_layTrial, Cond.selects RX4 yX4_layTrial yX4_layTrial, Cond.code yX4_layTrial cX4_layTrial 3 none, Cond.fieldLink RX4 121 "OneSentenceModel" "newSort" "I", Cond.fieldLink RX4 124 "OneSentenceModel" "newFigure" "I", Cond.methodLink RX4 131 yX4_tenTo, Cond.static yX4_tenTo]
def wsX4_chance_r2 : List Cond := [Cond.code yX4_tenTo cX4_tenTo 3 (some .int), Cond.methodLink RX4 99 yX4_may, Cond.instanceMethod yX4_may, Cond.selects RX4 yX4_may yX4_may, Cond.code yX4_may cX4_may 5 (some .boolean), Cond.fieldLink RX4 13 "OneSentenceModel" "kind" "[I", Cond.methodLink RX4 83 yX4_has, Cond.static yX4_has, Cond.code yX4_has cX4_has 2 (some .boolean), Cond.methodLink RX4 114 yX4_sayOn, Cond.instanceMethod yX4_sayOn, Cond.selects RX4 yX4_sayOn yX4_sayOn, Cond.code yX4_sayOn cX4_sayOn 3 none, Cond.methodLink RX4 91 yX4_speakOn, Cond.instanceMethod yX4_speakOn, Cond.selects RX4 yX4_speakOn yX4_speakOn, Cond.code yX4_speakOn cX4_speakOn 4 none, Cond.methodLink RX4 87 yX4_made, Cond.static yX4_made, Cond.code yX4_made cX4_made 3 (some .int), Cond.methodLink RX4 170 yX4_common, Cond.static yX4_common, Cond.code yX4_common cX4_common 5 (some .int)]
def wsX4_chance : List Cond := .code yX4_chance cX4_chance 10 (some .int) :: ((wsX4_chance_r1 ++ wsX4_chance_r2) ++ wsX40)
def wsX4_seed : List Cond := .code yX4_seed cX4_seed 5 (some .long) :: ([.fieldLink RX4 183 "OneSentenceModel" "seed" "J"] ++ wsX40)
def wsX4_nights_r1 : List Cond := [Cond.constantLong RX4 187 (30), Cond.fieldLink RX4 16 "OneSentenceModel" "now" "[I", Cond.fieldLink RX4 183 "OneSentenceModel" "seed" "J", Cond.constantLong RX4 189 (6364136223846793005), Cond.constantLong RX4 191 (1442695040888963407), Cond.constantLong RX4 134 (6), Cond.methodLink RX4 46 yX4_in, Cond.static yX4_in, Cond.initialized RX4, Cond.code yX4_in cX4_in 6 (some .boolean), Cond.methodLink RX4 127 yX4_layTrial, Cond.instanceMethod yX4_layTrial, Cond.selects RX4 yX4_layTrial yX4_layTrial, Cond.code yX4_layTrial cX4_layTrial 3 none, Cond.fieldLink RX4 121 "OneSentenceModel" "newSort" "I", Cond.fieldLink RX4 124 "OneSentenceModel" "newFigure" "I", Cond.methodLink RX4 95 yX4_isPerson, Cond.instanceMethod yX4_isPerson, Cond.selects RX4 yX4_isPerson yX4_isPerson, Cond.code yX4_isPerson cX4_isPerson 2 (some .boolean), Cond.fieldLink RX4 74 "OneSentenceModel" "people" "I", Cond.methodLink RX4 99 yX4_may, Cond.instanceMethod yX4_may, Cond.selects RX4 yX4_may yX4_may]
def wsX4_nights_r2 : List Cond := [Cond.code yX4_may cX4_may 5 (some .boolean), Cond.fieldLink RX4 13 "OneSentenceModel" "kind" "[I", Cond.methodLink RX4 83 yX4_has, Cond.static yX4_has, Cond.code yX4_has cX4_has 2 (some .boolean), Cond.methodLink RX4 114 yX4_sayOn, Cond.instanceMethod yX4_sayOn, Cond.selects RX4 yX4_sayOn yX4_sayOn, Cond.code yX4_sayOn cX4_sayOn 3 none, Cond.methodLink RX4 91 yX4_speakOn, Cond.instanceMethod yX4_speakOn, Cond.selects RX4 yX4_speakOn yX4_speakOn, Cond.code yX4_speakOn cX4_speakOn 4 none, Cond.methodLink RX4 87 yX4_made, Cond.static yX4_made, Cond.code yX4_made cX4_made 3 (some .int)]
def wsX4_nights : List Cond := .code yX4_nights cX4_nights 5 (some .int) :: ((wsX4_nights_r1 ++ wsX4_nights_r2) ++ wsX40)
def wsX4_keep : List Cond := .code yX4_keep cX4_keep 3 (some .int) :: ([.fieldLink RX4 37 "OneSentenceModel" "isKept" "[Z", .fieldLink RX4 41 "OneSentenceModel" "kept" "[I", .fieldLink RX4 16 "OneSentenceModel" "now" "[I", .methodLink RX4 46 yX4_in, .static yX4_in, .initialized RX4, .code yX4_in cX4_in 6 (some .boolean)] ++ wsX40)
def wsX4_again : List Cond := .code yX4_again cX4_again 3 (some .int) :: ([.fieldLink RX4 37 "OneSentenceModel" "isKept" "[Z", .fieldLink RX4 16 "OneSentenceModel" "now" "[I", .fieldLink RX4 41 "OneSentenceModel" "kept" "[I", .fieldLink RX4 80 "OneSentenceModel" "acts" "I", .methodLink RX4 46 yX4_in, .static yX4_in, .initialized RX4, .code yX4_in cX4_in 6 (some .boolean)] ++ wsX40)
def wsX4_count : List Cond := .code yX4_count cX4_count 4 (some .int) :: ([.fieldLink RX4 74 "OneSentenceModel" "people" "I", .fieldLink RX4 50 "OneSentenceModel" "length" "I", .fieldLink RX4 77 "OneSentenceModel" "market" "I", .fieldLink RX4 16 "OneSentenceModel" "now" "[I", .fieldLink RX4 80 "OneSentenceModel" "acts" "I", .methodLink RX4 99 yX4_may, .instanceMethod yX4_may, .selects RX4 yX4_may yX4_may, .initialized RX4, .code yX4_may cX4_may 5 (some .boolean), .fieldLink RX4 13 "OneSentenceModel" "kind" "[I", .methodLink RX4 83 yX4_has, .static yX4_has, .code yX4_has cX4_has 2 (some .boolean)] ++ wsX40)
def wsJ9_abs_0f7a4 : List Cond := .code yJ9_abs_0f7a4 cJ9_abs_0f7a4 1 (some .int) :: ([])
def wsL_law_r1 : List Cond := [Cond.classLink RL 7 RX3, Cond.instantiable RX3 18, Cond.initialized RX3, Cond.classLink RL 10 RX4, Cond.instantiable RX4 24, Cond.initialized RX4, Cond.constantLong RL 104 (4294967295), Cond.methodLink RL 9 yX3_init, Cond.instanceMethod yX3_init, Cond.code yX3_init cX3_init 2 none, Cond.methodLink RX3 1 objectInit, Cond.instanceMethod objectInit, Cond.code objectInit ⟨#[0xb1]⟩ 1 none, Cond.arrayClass .char, Cond.fieldLink RX3 9 "OneSentence" "text" "[C", Cond.arrayClass .int, Cond.fieldLink RX3 13 "OneSentence" "home" "[I", Cond.fieldLink RX3 17 "OneSentence" "kind" "[I", Cond.classLink RX3 20 RX0, Cond.instantiable RX0 4, Cond.initialized RX0, Cond.fieldLink RX3 23 "OneSentence" "today" "LOneSentence$Day;", Cond.fieldLink RX3 27 "OneSentence" "past" "[LOneSentence$Day;", Cond.fieldLink RX3 31 "OneSentence" "slots" "[LOneSentence$Day;"]
def wsL_law_r2 : List Cond := [Cond.arrayClass .boolean, Cond.fieldLink RX3 34 "OneSentence" "isKept" "[Z", Cond.classLink RX3 38 RX2, Cond.instantiable RX2 4, Cond.initialized RX2, Cond.fieldLink RX3 41 "OneSentence" "trial" "LOneSentence$Talk;", Cond.classLink RX3 45 RX1, Cond.instantiable RX1 2, Cond.initialized RX1, Cond.fieldLink RX3 48 "OneSentence" "rows" "LOneSentence$Rows;", Cond.fieldLink RX3 52 "OneSentence" "seenBehind" "[I", Cond.fieldLink RX3 55 "OneSentence" "outcomes" "[I", Cond.instanceMethod yX0_init, Cond.code yX0_init cX0_init 1 none, Cond.methodLink RX0 3 objectInit, Cond.classLink RX0 9 RX2, Cond.fieldLink RX0 12 "OneSentence$Day" "talk" "LOneSentence$Talk;", Cond.fieldLink RX0 18 "OneSentence$Day" "sentence" "[I", Cond.instanceMethod yX2_init, Cond.code yX2_init cX2_init 1 none, Cond.methodLink RX2 3 objectInit, Cond.fieldLink RX2 9 "OneSentence$Talk" "last" "I", Cond.fieldLink RX2 15 "OneSentence$Talk" "lastNoEcho" "I", Cond.fieldLink RX2 18 "OneSentence$Talk" "times" "[I"]
def wsL_law_r3 : List Cond := [Cond.instanceMethod yX1_init, Cond.code yX1_init cX1_init 1 none, Cond.methodLink RX1 3 objectInit, Cond.fieldLink RX1 9 "OneSentence$Rows" "who" "[I", Cond.methodLink RL 12 yX4_init, Cond.instanceMethod yX4_init, Cond.code yX4_init cX4_init 1 none, Cond.methodLink RX4 1 objectInit, Cond.fieldLink RX4 7 "OneSentenceModel" "home" "[I", Cond.fieldLink RX4 13 "OneSentenceModel" "kind" "[I", Cond.fieldLink RX4 16 "OneSentenceModel" "now" "[I", Cond.fieldLink RX4 19 "OneSentenceModel" "readOf" "[I", Cond.fieldLink RX4 22 "OneSentenceModel" "text" "[I", Cond.fieldLink RX4 25 "OneSentenceModel" "row" "[I", Cond.fieldLink RX4 28 "OneSentenceModel" "metAt" "[I", Cond.fieldLink RX4 31 "OneSentenceModel" "manys" "[I", Cond.fieldLink RX4 34 "OneSentenceModel" "senses" "[I", Cond.fieldLink RX4 37 "OneSentenceModel" "isKept" "[Z", Cond.fieldLink RX4 41 "OneSentenceModel" "kept" "[I", Cond.methodLink RL 13 yX3_write, Cond.instanceMethod yX3_write, Cond.selects RX3 yX3_write yX3_write, Cond.code yX3_write cX3_write 2 (some .int), Cond.fieldLink RX3 58 "OneSentence" "letters" "I"]
def wsL_law_r4 : List Cond := [Cond.methodLink RL 17 yX4_write, Cond.instanceMethod yX4_write, Cond.selects RX4 yX4_write yX4_write, Cond.code yX4_write cX4_write 2 (some .int), Cond.constantLong RX4 44 (255), Cond.fieldLink RX4 50 "OneSentenceModel" "length" "I", Cond.methodLink RX4 46 yX4_in, Cond.static yX4_in, Cond.code yX4_in cX4_in 6 (some .boolean), Cond.methodLink RL 18 yX3_wipe, Cond.instanceMethod yX3_wipe, Cond.selects RX3 yX3_wipe yX3_wipe, Cond.code yX3_wipe cX3_wipe 2 (some .int), Cond.methodLink RL 22 yX4_wipe, Cond.instanceMethod yX4_wipe, Cond.selects RX4 yX4_wipe yX4_wipe, Cond.code yX4_wipe cX4_wipe 2 (some .int), Cond.methodLink RL 23 yX3_fault, Cond.instanceMethod yX3_fault, Cond.selects RX3 yX3_fault yX3_fault, Cond.code yX3_fault cX3_fault 1 (some .int), Cond.methodLink RX3 62 yX3_firstFault, Cond.instanceMethod yX3_firstFault, Cond.selects RX3 yX3_firstFault yX3_firstFault]
def wsL_law_r5 : List Cond := [Cond.code yX3_firstFault cX3_firstFault 2 (some .int), Cond.methodLink RX3 232 yX3_fits, Cond.static yX3_fits, Cond.code yX3_fits cX3_fits 2 (some .boolean), Cond.methodLink RX3 236 yX3_isFigure, Cond.static yX3_isFigure, Cond.code yX3_isFigure cX3_isFigure 2 (some .boolean), Cond.methodLink RL 26 yX4_fault, Cond.instanceMethod yX4_fault, Cond.selects RX4 yX4_fault yX4_fault, Cond.code yX4_fault cX4_fault 1 (some .int), Cond.methodLink RX4 70 yX4_readText, Cond.instanceMethod yX4_readText, Cond.selects RX4 yX4_readText yX4_readText, Cond.code yX4_readText cX4_readText 1 (some .int), Cond.fieldLink RX4 57 "OneSentenceModel" "at" "I", Cond.fieldLink RX4 54 "OneSentenceModel" "faultAt" "I", Cond.fieldLink RX4 60 "OneSentenceModel" "readPeople" "I", Cond.fieldLink RX4 67 "OneSentenceModel" "readMarket" "I", Cond.methodLink RX4 63 yX4_figure, Cond.instanceMethod yX4_figure, Cond.selects RX4 yX4_figure yX4_figure, Cond.code yX4_figure cX4_figure 3 (some .int), Cond.methodLink RL 27 yX3_island]
def wsL_law_r6 : List Cond := [Cond.instanceMethod yX3_island, Cond.selects RX3 yX3_island yX3_island, Cond.code yX3_island cX3_island 2 (some .int), Cond.fieldLink RX3 70 "OneSentence" "market" "I", Cond.fieldLink RX3 73 "OneSentence" "people" "I", Cond.methodLink RX3 66 yX3_figureIn, Cond.instanceMethod yX3_figureIn, Cond.selects RX3 yX3_figureIn yX3_figureIn, Cond.code yX3_figureIn cX3_figureIn 2 (some .int), Cond.instanceMethod yX0_begin, Cond.selects RX0 yX0_begin yX0_begin, Cond.code yX0_begin cX0_begin 1 none, Cond.fieldLink RX0 25 "OneSentence$Day" "at" "I", Cond.fieldLink RX0 29 "OneSentence$Day" "hour" "I", Cond.instanceMethod yX2_begin, Cond.selects RX2 yX2_begin yX2_begin, Cond.code yX2_begin cX2_begin 2 none, Cond.fieldLink RX2 22 "OneSentence$Talk" "sense" "I", Cond.methodLink RX3 79 yX3_settle, Cond.instanceMethod yX3_settle, Cond.selects RX3 yX3_settle yX3_settle, Cond.code yX3_settle cX3_settle 3 none, Cond.methodLink RX3 83 yX3_forgetActs, Cond.instanceMethod yX3_forgetActs]
def wsL_law_r7 : List Cond := [Cond.selects RX3 yX3_forgetActs yX3_forgetActs, Cond.code yX3_forgetActs cX3_forgetActs 1 none, Cond.fieldLink RX3 134 "OneSentence" "firstAct" "I", Cond.fieldLink RX3 131 "OneSentence" "acts" "I", Cond.methodLink RL 30 yX4_island, Cond.instanceMethod yX4_island, Cond.selects RX4 yX4_island yX4_island, Cond.code yX4_island cX4_island 2 (some .int), Cond.fieldLink RX4 74 "OneSentenceModel" "people" "I", Cond.fieldLink RX4 77 "OneSentenceModel" "market" "I", Cond.fieldLink RX4 80 "OneSentenceModel" "acts" "I", Cond.methodLink RL 31 yX3_person, Cond.instanceMethod yX3_person, Cond.selects RX3 yX3_person yX3_person, Cond.code yX3_person cX3_person 3 (some .int), Cond.methodLink RX3 86 yX3_isThere, Cond.instanceMethod yX3_isThere, Cond.selects RX3 yX3_isThere yX3_isThere, Cond.code yX3_isThere cX3_isThere 2 (some .boolean), Cond.methodLink RX3 96 yX3_has, Cond.static yX3_has, Cond.code yX3_has cX3_has 2 (some .boolean), Cond.methodLink RX3 103 yX3_maySpeak, Cond.instanceMethod yX3_maySpeak]
def wsL_law_r8 : List Cond := [Cond.selects RX3 yX3_maySpeak yX3_maySpeak, Cond.code yX3_maySpeak cX3_maySpeak 4 (some .boolean), Cond.methodLink RL 35 yX4_person, Cond.instanceMethod yX4_person, Cond.selects RX4 yX4_person yX4_person, Cond.code yX4_person cX4_person 3 (some .int), Cond.methodLink RX4 95 yX4_isPerson, Cond.instanceMethod yX4_isPerson, Cond.selects RX4 yX4_isPerson yX4_isPerson, Cond.code yX4_isPerson cX4_isPerson 2 (some .boolean), Cond.methodLink RX4 99 yX4_may, Cond.instanceMethod yX4_may, Cond.selects RX4 yX4_may yX4_may, Cond.code yX4_may cX4_may 5 (some .boolean), Cond.methodLink RX4 83 yX4_has, Cond.static yX4_has, Cond.code yX4_has cX4_has 2 (some .boolean), Cond.methodLink RL 36 yX3_fetch, Cond.instanceMethod yX3_fetch, Cond.selects RX3 yX3_fetch yX3_fetch, Cond.code yX3_fetch cX3_fetch 2 (some .int), Cond.methodLink RX3 110 yX3_remember, Cond.instanceMethod yX3_remember, Cond.selects RX3 yX3_remember yX3_remember]
def wsL_law_r9 : List Cond := [Cond.code yX3_remember cX3_remember 2 none, Cond.instanceMethod yX0_become, Cond.selects RX0 yX0_become yX0_become, Cond.code yX0_become cX0_become 3 none, Cond.instanceMethod yX2_become, Cond.selects RX2 yX2_become yX2_become, Cond.code yX2_become cX2_become 3 none, Cond.methodLink RX3 116 yX3_hoursFrom, Cond.instanceMethod yX3_hoursFrom, Cond.selects RX3 yX3_hoursFrom yX3_hoursFrom, Cond.code yX3_hoursFrom cX3_hoursFrom 2 (some .int), Cond.methodLink RX3 240 Lib.Math.abs.name, Cond.static Lib.Math.abs.name, Cond.initialized "java/lang/Math", Cond.code Lib.Math.abs.name Lib.Math.abs.code 1 (some .int), Cond.methodLink RL 39 yX4_fetch, Cond.instanceMethod yX4_fetch, Cond.selects RX4 yX4_fetch yX4_fetch, Cond.code yX4_fetch cX4_fetch 2 (some .int), Cond.methodLink RX4 105 yX4_keepAct, Cond.instanceMethod yX4_keepAct, Cond.selects RX4 yX4_keepAct yX4_keepAct, Cond.code yX4_keepAct cX4_keepAct 2 none, Cond.fieldLink RX4 102 "OneSentenceModel" "next" "I"]
def wsL_law_r10 : List Cond := [Cond.methodLink RX4 108 yX4_far, Cond.instanceMethod yX4_far, Cond.selects RX4 yX4_far yX4_far, Cond.code yX4_far cX4_far 2 (some .int), Cond.methodLink RL 40 yX3_send, Cond.instanceMethod yX3_send, Cond.selects RX3 yX3_send yX3_send, Cond.code yX3_send cX3_send 2 (some .int), Cond.methodLink RX3 119 yJ6_bitCount_0f7a4, Cond.static yJ6_bitCount_0f7a4, Cond.initialized RJ6, Cond.code yJ6_bitCount_0f7a4 cJ6_bitCount_0f7a4 1 (some .int), Cond.constant RJ6 265 (1431655765), Cond.constant RJ6 266 (858993459), Cond.constant RJ6 267 (252645135), Cond.methodLink RL 43 yX4_send, Cond.instanceMethod yX4_send, Cond.selects RX4 yX4_send yX4_send, Cond.code yX4_send cX4_send 2 (some .int), Cond.methodLink RX4 111 yX4_ones, Cond.static yX4_ones, Cond.code yX4_ones cX4_ones 3 (some .int), Cond.methodLink RL 44 yX3_say, Cond.instanceMethod yX3_say]
def wsL_law_r11 : List Cond := [Cond.selects RX3 yX3_say yX3_say, Cond.code yX3_say cX3_say 2 (some .int), Cond.methodLink RX3 124 yX3_speak, Cond.instanceMethod yX3_speak, Cond.selects RX3 yX3_speak yX3_speak, Cond.code yX3_speak cX3_speak 4 none, Cond.methodLink RX3 190 yX3_sentenceOf, Cond.instanceMethod yX3_sentenceOf, Cond.selects RX3 yX3_sentenceOf yX3_sentenceOf, Cond.code yX3_sentenceOf cX3_sentenceOf 2 (some .int), Cond.fieldLink RX3 171 "OneSentence" "oneMoreSentence" "I", Cond.instanceMethod yX2_utter, Cond.selects RX2 yX2_utter yX2_utter, Cond.code yX2_utter cX2_utter 5 none, Cond.methodLink RX2 25 yX2_made, Cond.static yX2_made, Cond.code yX2_made cX2_made 3 (some .int), Cond.methodLink RL 47 yX4_say, Cond.instanceMethod yX4_say, Cond.selects RX4 yX4_say yX4_say, Cond.code yX4_say cX4_say 2 (some .int), Cond.methodLink RX4 114 yX4_sayOn, Cond.instanceMethod yX4_sayOn, Cond.selects RX4 yX4_sayOn yX4_sayOn]
def wsL_law_r12 : List Cond := [Cond.code yX4_sayOn cX4_sayOn 3 none, Cond.methodLink RX4 91 yX4_speakOn, Cond.instanceMethod yX4_speakOn, Cond.selects RX4 yX4_speakOn yX4_speakOn, Cond.code yX4_speakOn cX4_speakOn 4 none, Cond.methodLink RX4 87 yX4_made, Cond.static yX4_made, Cond.code yX4_made cX4_made 3 (some .int), Cond.methodLink RL 48 yX3_name, Cond.instanceMethod yX3_name, Cond.selects RX3 yX3_name yX3_name, Cond.code yX3_name cX3_name 5 (some .int), Cond.methodLink RL 52 yX4_name, Cond.instanceMethod yX4_name, Cond.selects RX4 yX4_name yX4_name, Cond.code yX4_name cX4_name 5 (some .int), Cond.constantLong RX4 117 (3), Cond.constantLong RX4 119 (9), Cond.methodLink RL 53 yX3_undo, Cond.instanceMethod yX3_undo, Cond.selects RX3 yX3_undo yX3_undo, Cond.code yX3_undo cX3_undo 2 (some .int), Cond.methodLink RL 56 yX4_undo, Cond.instanceMethod yX4_undo]
def wsL_law_r13 : List Cond := [Cond.selects RX4 yX4_undo yX4_undo, Cond.code yX4_undo cX4_undo 2 (some .int), Cond.methodLink RL 57 yX3_comesTo, Cond.instanceMethod yX3_comesTo, Cond.selects RX3 yX3_comesTo yX3_comesTo, Cond.code yX3_comesTo cX3_comesTo 5 (some .int), Cond.methodLink RX3 141 yX3_power, Cond.static yX3_power, Cond.code yX3_power cX3_power 4 (some .int), Cond.methodLink RX3 145 yX3_play, Cond.instanceMethod yX3_play, Cond.selects RX3 yX3_play yX3_play, Cond.code yX3_play cX3_play 6 (some .int), Cond.methodLink RX3 245 yX3_personIn, Cond.static yX3_personIn, Cond.code yX3_personIn cX3_personIn 5 (some .int), Cond.methodLink RL 60 yX4_comesTo, Cond.instanceMethod yX4_comesTo, Cond.selects RX4 yX4_comesTo yX4_comesTo, Cond.code yX4_comesTo cX4_comesTo 5 (some .int), Cond.constantLong RX4 136 (5), Cond.methodLink RX4 131 yX4_tenTo, Cond.static yX4_tenTo, Cond.code yX4_tenTo cX4_tenTo 3 (some .int)]
def wsL_law_r14 : List Cond := [Cond.methodLink RX4 138 yX4_sayRow, Cond.instanceMethod yX4_sayRow, Cond.selects RX4 yX4_sayRow yX4_sayRow, Cond.code yX4_sayRow cX4_sayRow 6 (some .int), Cond.constantLong RX4 134 (6), Cond.methodLink RX4 127 yX4_layTrial, Cond.instanceMethod yX4_layTrial, Cond.selects RX4 yX4_layTrial yX4_layTrial, Cond.code yX4_layTrial cX4_layTrial 3 none, Cond.fieldLink RX4 121 "OneSentenceModel" "newSort" "I", Cond.fieldLink RX4 124 "OneSentenceModel" "newFigure" "I", Cond.methodLink RL 61 yX3_fewest, Cond.instanceMethod yX3_fewest, Cond.selects RX3 yX3_fewest yX3_fewest, Cond.code yX3_fewest cX3_fewest 5 (some .int), Cond.methodLink RX3 149 yX3_isSense, Cond.static yX3_isSense, Cond.code yX3_isSense cX3_isSense 1 (some .boolean), Cond.instanceMethod yX1_by, Cond.selects RX1 yX1_by yX1_by, Cond.code yX1_by cX1_by 3 none, Cond.fieldLink RX1 15 "OneSentence$Rows" "size" "I", Cond.methodLink RX3 156 yX3_leastRow, Cond.instanceMethod yX3_leastRow]
def wsL_law_r15 : List Cond := [Cond.selects RX3 yX3_leastRow yX3_leastRow, Cond.code yX3_leastRow cX3_leastRow 6 (some .int), Cond.instanceMethod yX1_many, Cond.selects RX1 yX1_many yX1_many, Cond.code yX1_many cX1_many 2 (some .int), Cond.instanceMethod yX1_told, Cond.selects RX1 yX1_told yX1_told, Cond.code yX1_told cX1_told 7 (some .int), Cond.methodLink RX3 180 yX3_isTold, Cond.instanceMethod yX3_isTold, Cond.selects RX3 yX3_isTold yX3_isTold, Cond.code yX3_isTold cX3_isTold 5 (some .boolean), Cond.methodLink RL 65 yX4_fewest, Cond.instanceMethod yX4_fewest, Cond.selects RX4 yX4_fewest yX4_fewest, Cond.code yX4_fewest cX4_fewest 4 (some .int), Cond.fieldLink RX4 148 "OneSentenceModel" "fewRow" "I", Cond.methodLink RX4 151 yX4_layFewest, Cond.instanceMethod yX4_layFewest, Cond.selects RX4 yX4_layFewest yX4_layFewest, Cond.code yX4_layFewest cX4_layFewest 5 (some .int), Cond.methodLink RX4 141 yX4_sevens, Cond.static yX4_sevens, Cond.code yX4_sevens cX4_sevens 3 (some .int)]
def wsL_law_r16 : List Cond := [Cond.methodLink RX4 144 yX4_rowOf, Cond.static yX4_rowOf, Cond.code yX4_rowOf cX4_rowOf 6 (some .int), Cond.methodLink RL 66 yX3_can, Cond.instanceMethod yX3_can, Cond.selects RX3 yX3_can yX3_can, Cond.code yX3_can cX3_can 2 (some .int), Cond.methodLink RX3 159 yX3_sensesBy, Cond.instanceMethod yX3_sensesBy, Cond.selects RX3 yX3_sensesBy yX3_sensesBy, Cond.code yX3_sensesBy cX3_sensesBy 7 (some .int), Cond.methodLink RL 69 yX4_can, Cond.instanceMethod yX4_can, Cond.selects RX4 yX4_can yX4_can, Cond.code yX4_can cX4_can 2 (some .int), Cond.methodLink RX4 154 yX4_canBy, Cond.instanceMethod yX4_canBy, Cond.selects RX4 yX4_canBy yX4_canBy, Cond.code yX4_canBy cX4_canBy 6 (some .int), Cond.methodLink RL 70 yX3_toFetch, Cond.instanceMethod yX3_toFetch, Cond.selects RX3 yX3_toFetch yX3_toFetch, Cond.code yX3_toFetch cX3_toFetch 5 (some .int), Cond.methodLink RX3 162 yX3_everybody]
def wsL_law_r17 : List Cond := [Cond.instanceMethod yX3_everybody, Cond.selects RX3 yX3_everybody yX3_everybody, Cond.code yX3_everybody cX3_everybody 1 (some .int), Cond.methodLink RX3 165 yX3_bestFetch, Cond.instanceMethod yX3_bestFetch, Cond.selects RX3 yX3_bestFetch yX3_bestFetch, Cond.code yX3_bestFetch cX3_bestFetch 9 (some .int), Cond.methodLink RX3 184 yX3_speakersIn, Cond.static yX3_speakersIn, Cond.code yX3_speakersIn cX3_speakersIn 4 (some .int), Cond.methodLink RX3 248 yX3_isCheaper, Cond.instanceMethod yX3_isCheaper, Cond.selects RX3 yX3_isCheaper yX3_isCheaper, Cond.code yX3_isCheaper cX3_isCheaper 5 (some .boolean), Cond.methodLink RX3 168 yX3_hoursFor, Cond.instanceMethod yX3_hoursFor, Cond.selects RX3 yX3_hoursFor yX3_hoursFor, Cond.code yX3_hoursFor cX3_hoursFor 4 (some .int), Cond.methodLink RX3 251 yJ6_compare_7cf53, Cond.static yJ6_compare_7cf53, Cond.code yJ6_compare_7cf53 cJ6_compare_7cf53 2 (some .int), Cond.methodLink RL 73 yX4_toFetch, Cond.instanceMethod yX4_toFetch, Cond.selects RX4 yX4_toFetch yX4_toFetch]
def wsL_law_r18 : List Cond := [Cond.code yX4_toFetch cX4_toFetch 8 (some .int), Cond.methodLink RX4 157 yX4_hoursOf, Cond.instanceMethod yX4_hoursOf, Cond.selects RX4 yX4_hoursOf yX4_hoursOf, Cond.code yX4_hoursOf cX4_hoursOf 4 (some .int), Cond.methodLink RL 74 yX3_needed, Cond.instanceMethod yX3_needed, Cond.selects RX3 yX3_needed yX3_needed, Cond.code yX3_needed cX3_needed 5 (some .int), Cond.methodLink RL 77 yX4_needed, Cond.instanceMethod yX4_needed, Cond.selects RX4 yX4_needed yX4_needed, Cond.code yX4_needed cX4_needed 5 (some .int), Cond.methodLink RL 78 yX3_naming, Cond.instanceMethod yX3_naming, Cond.selects RX3 yX3_naming yX3_naming, Cond.code yX3_naming cX3_naming 7 (some .int), Cond.methodLink RL 81 yX4_naming, Cond.instanceMethod yX4_naming, Cond.selects RX4 yX4_naming yX4_naming, Cond.code yX4_naming cX4_naming 7 (some .int), Cond.methodLink RL 82 yX3_spoken, Cond.instanceMethod yX3_spoken, Cond.selects RX3 yX3_spoken yX3_spoken]
def wsL_law_r19 : List Cond := [Cond.code yX3_spoken cX3_spoken 10 (some .int), Cond.methodLink RL 85 yX4_spoken, Cond.instanceMethod yX4_spoken, Cond.selects RX4 yX4_spoken yX4_spoken, Cond.code yX4_spoken cX4_spoken 9 (some .int), Cond.constantLong RX4 160 (4), Cond.constantLong RX4 162 (2), Cond.methodLink RX4 164 yX4_whoIn, Cond.static yX4_whoIn, Cond.code yX4_whoIn cX4_whoIn 3 (some .int), Cond.methodLink RL 86 yX3_quarrel, Cond.instanceMethod yX3_quarrel, Cond.selects RX3 yX3_quarrel yX3_quarrel, Cond.code yX3_quarrel cX3_quarrel 6 (some .int), Cond.methodLink RL 90 yX4_quarrel, Cond.instanceMethod yX4_quarrel, Cond.selects RX4 yX4_quarrel yX4_quarrel, Cond.code yX4_quarrel cX4_quarrel 5 (some .int), Cond.methodLink RL 91 yX3_share, Cond.instanceMethod yX3_share, Cond.selects RX3 yX3_share yX3_share, Cond.code yX3_share cX3_share 9 (some .int), Cond.methodLink RX3 197 yX3_fraction, Cond.static yX3_fraction]
def wsL_law_r20 : List Cond := [Cond.code yX3_fraction cX3_fraction 4 (some .int), Cond.methodLink RX3 260 yX3_common, Cond.static yX3_common, Cond.code yX3_common cX3_common 6 (some .int), Cond.methodLink RX3 201 yX3_orders, Cond.static yX3_orders, Cond.code yX3_orders cX3_orders 1 (some .int), Cond.fieldLink RX3 254 "OneSentence" "ORDERS" "[I", Cond.methodLink RX3 204 yX3_gain, Cond.instanceMethod yX3_gain, Cond.selects RX3 yX3_gain yX3_gain, Cond.code yX3_gain cX3_gain 5 (some .int), Cond.methodLink RL 94 yX4_share, Cond.instanceMethod yX4_share, Cond.selects RX4 yX4_share yX4_share, Cond.code yX4_share cX4_share 8 (some .int), Cond.methodLink RX4 167 yX4_factorial, Cond.static yX4_factorial, Cond.code yX4_factorial cX4_factorial 3 (some .int), Cond.methodLink RX4 170 yX4_common, Cond.static yX4_common, Cond.code yX4_common cX4_common 5 (some .int), Cond.methodLink RL 95 yX3_rests, Cond.instanceMethod yX3_rests]
def wsL_law_r21 : List Cond := [Cond.selects RX3 yX3_rests yX3_rests, Cond.code yX3_rests cX3_rests 10 (some .int), Cond.methodLink RX3 207 yX3_playOutcomes, Cond.instanceMethod yX3_playOutcomes, Cond.selects RX3 yX3_playOutcomes yX3_playOutcomes, Cond.code yX3_playOutcomes cX3_playOutcomes 5 none, Cond.methodLink RX3 210 yX3_isRest, Cond.instanceMethod yX3_isRest, Cond.selects RX3 yX3_isRest yX3_isRest, Cond.code yX3_isRest cX3_isRest 6 (some .boolean), Cond.methodLink RX3 257 yX3_apart, Cond.instanceMethod yX3_apart, Cond.selects RX3 yX3_apart yX3_apart, Cond.code yX3_apart cX3_apart 5 (some .int), Cond.methodLink RL 99 yX4_rests, Cond.instanceMethod yX4_rests, Cond.selects RX4 yX4_rests yX4_rests, Cond.code yX4_rests cX4_rests 9 (some .int), Cond.methodLink RX4 176 yX4_laySenses, Cond.instanceMethod yX4_laySenses, Cond.selects RX4 yX4_laySenses yX4_laySenses, Cond.code yX4_laySenses cX4_laySenses 5 none, Cond.methodLink RX4 179 yX4_isRest, Cond.instanceMethod yX4_isRest]
def wsL_law_r22 : List Cond := [Cond.selects RX4 yX4_isRest yX4_isRest, Cond.code yX4_isRest cX4_isRest 6 (some .boolean), Cond.methodLink RX4 173 yX4_apart, Cond.static yX4_apart, Cond.code yX4_apart cX4_apart 2 (some .int), Cond.methodLink RL 100 yX3_chance, Cond.instanceMethod yX3_chance, Cond.selects RX3 yX3_chance yX3_chance, Cond.code yX3_chance cX3_chance 7 (some .int), Cond.methodLink RX3 213 yX3_playWhoMay, Cond.instanceMethod yX3_playWhoMay, Cond.selects RX3 yX3_playWhoMay yX3_playWhoMay, Cond.code yX3_playWhoMay cX3_playWhoMay 5 none, Cond.methodLink RL 103 yX4_chance, Cond.instanceMethod yX4_chance, Cond.selects RX4 yX4_chance yX4_chance, Cond.code yX4_chance cX4_chance 10 (some .int), Cond.methodLink RL 106 yX3_seed, Cond.instanceMethod yX3_seed, Cond.selects RX3 yX3_seed yX3_seed, Cond.code yX3_seed cX3_seed 5 (some .long), Cond.fieldLink RX3 216 "OneSentence" "theSeed" "J", Cond.methodLink RL 110 yX4_seed, Cond.instanceMethod yX4_seed]
def wsL_law_r23 : List Cond := [Cond.selects RX4 yX4_seed yX4_seed, Cond.code yX4_seed cX4_seed 5 (some .long), Cond.fieldLink RX4 183 "OneSentenceModel" "seed" "J", Cond.methodLink RL 111 yX3_nights, Cond.instanceMethod yX3_nights, Cond.selects RX3 yX3_nights yX3_nights, Cond.code yX3_nights cX3_nights 5 (some .int), Cond.constantLong RX3 220 (6364136223846793005), Cond.constantLong RX3 222 (1442695040888963407), Cond.constantLong RX3 224 (6), Cond.methodLink RL 114 yX4_nights, Cond.instanceMethod yX4_nights, Cond.selects RX4 yX4_nights yX4_nights, Cond.code yX4_nights cX4_nights 5 (some .int), Cond.constantLong RX4 187 (30), Cond.constantLong RX4 189 (6364136223846793005), Cond.constantLong RX4 191 (1442695040888963407), Cond.methodLink RL 115 yX3_keep, Cond.instanceMethod yX3_keep, Cond.selects RX3 yX3_keep yX3_keep, Cond.code yX3_keep cX3_keep 2 (some .int), Cond.methodLink RL 118 yX4_keep, Cond.instanceMethod yX4_keep, Cond.selects RX4 yX4_keep yX4_keep]
def wsL_law_r24 : List Cond := [Cond.code yX4_keep cX4_keep 3 (some .int), Cond.methodLink RL 119 yX3_again, Cond.instanceMethod yX3_again, Cond.selects RX3 yX3_again yX3_again, Cond.code yX3_again cX3_again 2 (some .int), Cond.methodLink RL 122 yX4_again, Cond.instanceMethod yX4_again, Cond.selects RX4 yX4_again yX4_again, Cond.code yX4_again cX4_again 3 (some .int), Cond.methodLink RL 123 yX3_count, Cond.instanceMethod yX3_count, Cond.selects RX3 yX3_count yX3_count, Cond.code yX3_count cX3_count 2 (some .int), Cond.methodLink RX3 226 yX3_whoMay, Cond.instanceMethod yX3_whoMay, Cond.selects RX3 yX3_whoMay yX3_whoMay, Cond.code yX3_whoMay cX3_whoMay 3 (some .int), Cond.methodLink RL 126 yX4_count, Cond.instanceMethod yX4_count, Cond.selects RX4 yX4_count yX4_count, Cond.code yX4_count cX4_count 4 (some .int)]
def wsL_law : List Cond := (wsL_law_r1 ++ (wsL_law_r2 ++ (wsL_law_r3 ++ (wsL_law_r4 ++ (wsL_law_r5 ++ (wsL_law_r6 ++ (wsL_law_r7 ++ (wsL_law_r8 ++ (wsL_law_r9 ++ (wsL_law_r10 ++ (wsL_law_r11 ++ (wsL_law_r12 ++ (wsL_law_r13 ++ (wsL_law_r14 ++ (wsL_law_r15 ++ (wsL_law_r16 ++ (wsL_law_r17 ++ (wsL_law_r18 ++ (wsL_law_r19 ++ (wsL_law_r20 ++ (wsL_law_r21 ++ (wsL_law_r22 ++ (wsL_law_r23 ++ wsL_law_r24))))))))))))))))))))))) ++ wsX30 ++ wsX40 ++ wsX00 ++ wsX20 ++ wsX10 ++ ([] : List Cond)
set_option maxRecDepth 20000 in
theorem wsL_law_in : ∀ w ∈ wsL_law, w ∈ lw_tbl := fun w h => (goodIn_p wsL_law [59, 62, 67, 73, 117, 471, 185, 549, 553, 189, 557, 193, 197, 200, 203, 561, 565, 569, 207, 211, 215, 219, 223, 227, 573, 231, 235, 238, 242, 577, 581, 585, 588, 246, 250, 254, 258, 262, 265, 592, 596, 600, 269, 272, 604, 607, 279, 283, 287, 291, 294, 611, 615, 619, 622, 298, 626, 302, 632, 306, 309, 313, 317, 636, 640, 644, 648, 321, 324, 328, 333, 337, 342, 346, 653, 657, 660, 663, 350, 354, 667, 671, 358, 362, 366, 369, 373, 377, 380, 675, 679, 384, 683, 388, 687, 392, 691, 696, 396, 700, 400, 403, 406, 409, 415, 704, 707, 710, 419, 423, 427, 431, 714, 718, 722, 725, 435, 439, 729, 443, 733, 447, 737, 454, 744, 458, 748, 462, 466, 752] (by decide +kernel) (by decide +kernel) w h).1
theorem inlX0 : ∀ w ∈ wsX00, w ∈ wsL_law := fun _ h => List.mem_append_left _ (List.mem_append_left _ (List.mem_append_left _ (List.mem_append_right _ h)))
theorem inX0 : ∀ w ∈ wsX00, w ∈ lw_tbl := fun w h => wsL_law_in w (inlX0 w h)
theorem inlX1 : ∀ w ∈ wsX10, w ∈ wsL_law := fun _ h => List.mem_append_left _ (List.mem_append_right _ h)
theorem inX1 : ∀ w ∈ wsX10, w ∈ lw_tbl := fun w h => wsL_law_in w (inlX1 w h)
theorem inlX2 : ∀ w ∈ wsX20, w ∈ wsL_law := fun _ h => List.mem_append_left _ (List.mem_append_left _ (List.mem_append_right _ h))
theorem inX2 : ∀ w ∈ wsX20, w ∈ lw_tbl := fun w h => wsL_law_in w (inlX2 w h)
theorem inlX3 : ∀ w ∈ wsX30, w ∈ wsL_law := fun _ h => List.mem_append_left _ (List.mem_append_left _ (List.mem_append_left _ (List.mem_append_left _ (List.mem_append_left _ (List.mem_append_right _ h)))))
theorem inX3 : ∀ w ∈ wsX30, w ∈ lw_tbl := fun w h => wsL_law_in w (inlX3 w h)
theorem inlX4 : ∀ w ∈ wsX40, w ∈ wsL_law := fun _ h => List.mem_append_left _ (List.mem_append_left _ (List.mem_append_left _ (List.mem_append_left _ (List.mem_append_right _ h))))
theorem inX4 : ∀ w ∈ wsX40, w ∈ lw_tbl := fun w h => wsL_law_in w (inlX4 w h)
theorem inJ6 : ∀ w ∈ wsJ60, w ∈ lw_tbl := by decide +kernel
theorem inJ9 : ∀ w ∈ wsJ90, w ∈ lw_tbl := by decide +kernel
set_option maxRecDepth 20000 in
theorem ggX0_init_X2_init : GoodIn wsX0_init wsX2_init := goodIn_r _ [11, 12, 2, 3, 13, 14, 8, 15, 16, 17, 18, 19] (by decide +kernel) (by decide +kernel)
set_option maxRecDepth 20000 in
theorem gX0_init_X2_init_n11 : GoodIn wsX0_init (wsX2_init) := ggX0_init_X2_init
theorem dX0_init_0 : decode cX0_init 0 = .ok (.aload_n 0, 1) := by decide +kernel
theorem dX0_init_1 : decode cX0_init 1 = .ok (.invokespecial 3, 3) := by decide +kernel
theorem dX0_init_4 : decode cX0_init 4 = .ok (.aload_n 0, 1) := by decide +kernel
theorem dX0_init_5 : decode cX0_init 5 = .ok (.new 9, 3) := by decide +kernel
theorem dX0_init_8 : decode cX0_init 8 = .ok (.dup, 1) := by decide +kernel
theorem dX0_init_9 : decode cX0_init 9 = .ok (.invokespecial 11, 3) := by decide +kernel
theorem dX0_init_12 : decode cX0_init 12 = .ok (.putfield 12, 3) := by decide +kernel
theorem dX0_init_15 : decode cX0_init 15 = .ok (.aload_n 0, 1) := by decide +kernel
theorem dX0_init_16 : decode cX0_init 16 = .ok (.bipush 6, 2) := by decide +kernel
theorem dX0_init_18 : decode cX0_init 18 = .ok (.newarray .int, 2) := by decide +kernel
theorem dX0_init_20 : decode cX0_init 20 = .ok (.putfield 18, 3) := by decide +kernel
theorem dX0_init_23 : decode cX0_init 23 = .ok (.return_, 1) := by decide +kernel
set_option maxRecDepth 20000 in
theorem ggX0_begin_X2_begin : GoodIn wsX0_begin wsX2_begin := goodIn_r _ [7, 8, 9, 10, 11, 16, 17, 18, 19] (by decide +kernel) (by decide +kernel)
set_option maxRecDepth 20000 in
theorem gX0_begin_X2_begin_n22 : GoodIn wsX0_begin (wsX2_begin) := ggX0_begin_X2_begin
theorem dX0_begin_0 : decode cX0_begin 0 = .ok (.aload_n 0, 1) := by decide +kernel
theorem dX0_begin_1 : decode cX0_begin 1 = .ok (.getfield 12, 3) := by decide +kernel
theorem dX0_begin_4 : decode cX0_begin 4 = .ok (.invokevirtual 22, 3) := by decide +kernel
theorem dX0_begin_7 : decode cX0_begin 7 = .ok (.aload_n 0, 1) := by decide +kernel
theorem dX0_begin_8 : decode cX0_begin 8 = .ok (.iconst 0, 1) := by decide +kernel
theorem dX0_begin_9 : decode cX0_begin 9 = .ok (.putfield 25, 3) := by decide +kernel
theorem dX0_begin_12 : decode cX0_begin 12 = .ok (.aload_n 0, 1) := by decide +kernel
theorem dX0_begin_13 : decode cX0_begin 13 = .ok (.iconst 0, 1) := by decide +kernel
theorem dX0_begin_14 : decode cX0_begin 14 = .ok (.putfield 29, 3) := by decide +kernel
theorem dX0_begin_17 : decode cX0_begin 17 = .ok (.return_, 1) := by decide +kernel
set_option maxRecDepth 20000 in
theorem ggX0_become_X2_become : GoodIn wsX0_become wsX2_become := goodIn_r _ [8, 9, 10, 11, 12, 17, 18, 19, 20] (by decide +kernel) (by decide +kernel)
set_option maxRecDepth 20000 in
theorem gX0_become_X2_become_n32 : GoodIn wsX0_become (wsX2_become) := ggX0_become_X2_become
theorem dX0_become_0 : decode cX0_become 0 = .ok (.aload_n 0, 1) := by decide +kernel
theorem dX0_become_1 : decode cX0_become 1 = .ok (.getfield 12, 3) := by decide +kernel
theorem dX0_become_4 : decode cX0_become 4 = .ok (.aload_n 1, 1) := by decide +kernel
theorem dX0_become_5 : decode cX0_become 5 = .ok (.getfield 12, 3) := by decide +kernel
theorem dX0_become_8 : decode cX0_become 8 = .ok (.invokevirtual 32, 3) := by decide +kernel
theorem dX0_become_11 : decode cX0_become 11 = .ok (.aload_n 0, 1) := by decide +kernel
theorem dX0_become_12 : decode cX0_become 12 = .ok (.aload_n 1, 1) := by decide +kernel
theorem dX0_become_13 : decode cX0_become 13 = .ok (.getfield 25, 3) := by decide +kernel
theorem dX0_become_16 : decode cX0_become 16 = .ok (.putfield 25, 3) := by decide +kernel
theorem dX0_become_19 : decode cX0_become 19 = .ok (.aload_n 0, 1) := by decide +kernel
theorem dX0_become_20 : decode cX0_become 20 = .ok (.aload_n 1, 1) := by decide +kernel
theorem dX0_become_21 : decode cX0_become 21 = .ok (.getfield 29, 3) := by decide +kernel
theorem dX0_become_24 : decode cX0_become 24 = .ok (.putfield 29, 3) := by decide +kernel
theorem dX0_become_27 : decode cX0_become 27 = .ok (.iconst 0, 1) := by decide +kernel
theorem dX0_become_28 : decode cX0_become 28 = .ok (.istore_n 2, 1) := by decide +kernel
theorem dX0_become_29 : decode cX0_become 29 = .ok (.iload_n 2, 1) := by decide +kernel
theorem dX0_become_30 : decode cX0_become 30 = .ok (.aload_n 0, 1) := by decide +kernel
theorem dX0_become_31 : decode cX0_become 31 = .ok (.getfield 18, 3) := by decide +kernel
theorem dX0_become_34 : decode cX0_become 34 = .ok (.arraylength, 1) := by decide +kernel
theorem dX0_become_35 : decode cX0_become 35 = .ok (.if_icmp .ge 30, 3) := by decide +kernel
theorem dX0_become_38 : decode cX0_become 38 = .ok (.iload_n 2, 1) := by decide +kernel
theorem dX0_become_39 : decode cX0_become 39 = .ok (.aload_n 1, 1) := by decide +kernel
theorem dX0_become_40 : decode cX0_become 40 = .ok (.getfield 18, 3) := by decide +kernel
theorem dX0_become_43 : decode cX0_become 43 = .ok (.arraylength, 1) := by decide +kernel
theorem dX0_become_44 : decode cX0_become 44 = .ok (.if_icmp .ge 21, 3) := by decide +kernel
theorem dX0_become_47 : decode cX0_become 47 = .ok (.aload_n 0, 1) := by decide +kernel
theorem dX0_become_48 : decode cX0_become 48 = .ok (.getfield 18, 3) := by decide +kernel
theorem dX0_become_51 : decode cX0_become 51 = .ok (.iload_n 2, 1) := by decide +kernel
theorem dX0_become_52 : decode cX0_become 52 = .ok (.aload_n 1, 1) := by decide +kernel
theorem dX0_become_53 : decode cX0_become 53 = .ok (.getfield 18, 3) := by decide +kernel
theorem dX0_become_56 : decode cX0_become 56 = .ok (.iload_n 2, 1) := by decide +kernel
theorem dX0_become_57 : decode cX0_become 57 = .ok (.iaload, 1) := by decide +kernel
theorem dX0_become_58 : decode cX0_become 58 = .ok (.iastore, 1) := by decide +kernel
theorem dX0_become_59 : decode cX0_become 59 = .ok (.iinc 2 1, 3) := by decide +kernel
theorem dX0_become_62 : decode cX0_become 62 = .ok (.goto (-33), 3) := by decide +kernel
theorem dX0_become_65 : decode cX0_become 65 = .ok (.return_, 1) := by decide +kernel
theorem dX1_init_0 : decode cX1_init 0 = .ok (.aload_n 0, 1) := by decide +kernel
theorem dX1_init_1 : decode cX1_init 1 = .ok (.invokespecial 3, 3) := by decide +kernel
theorem dX1_init_4 : decode cX1_init 4 = .ok (.aload_n 0, 1) := by decide +kernel
theorem dX1_init_5 : decode cX1_init 5 = .ok (.bipush 7, 2) := by decide +kernel
theorem dX1_init_7 : decode cX1_init 7 = .ok (.newarray .int, 2) := by decide +kernel
theorem dX1_init_9 : decode cX1_init 9 = .ok (.putfield 9, 3) := by decide +kernel
theorem dX1_init_12 : decode cX1_init 12 = .ok (.return_, 1) := by decide +kernel
set_option maxRecDepth 20000 in
theorem ggX1_by_X3_has : GoodIn wsX1_by wsX3_has := goodIn_r _ [5] (by decide +kernel) (by decide +kernel)
set_option maxRecDepth 20000 in
theorem gX1_by_X3_has_n19 : GoodIn wsX1_by (wsX3_has) := ggX1_by_X3_has
theorem dX1_by_0 : decode cX1_by 0 = .ok (.aload_n 0, 1) := by decide +kernel
theorem dX1_by_1 : decode cX1_by 1 = .ok (.iconst 0, 1) := by decide +kernel
theorem dX1_by_2 : decode cX1_by 2 = .ok (.putfield 15, 3) := by decide +kernel
theorem dX1_by_5 : decode cX1_by 5 = .ok (.iconst 0, 1) := by decide +kernel
theorem dX1_by_6 : decode cX1_by 6 = .ok (.istore_n 2, 1) := by decide +kernel
theorem dX1_by_7 : decode cX1_by 7 = .ok (.iload_n 2, 1) := by decide +kernel
theorem dX1_by_8 : decode cX1_by 8 = .ok (.bipush 7, 2) := by decide +kernel
theorem dX1_by_10 : decode cX1_by 10 = .ok (.if_icmp .ge 49, 3) := by decide +kernel
theorem dX1_by_13 : decode cX1_by 13 = .ok (.iload_n 1, 1) := by decide +kernel
theorem dX1_by_14 : decode cX1_by 14 = .ok (.iload_n 2, 1) := by decide +kernel
theorem dX1_by_15 : decode cX1_by 15 = .ok (.invokestatic 19, 3) := by decide +kernel
theorem dX1_by_18 : decode cX1_by 18 = .ok (.ifCond .eq 35, 3) := by decide +kernel
theorem dX1_by_21 : decode cX1_by 21 = .ok (.aload_n 0, 1) := by decide +kernel
theorem dX1_by_22 : decode cX1_by 22 = .ok (.getfield 15, 3) := by decide +kernel
theorem dX1_by_25 : decode cX1_by 25 = .ok (.aload_n 0, 1) := by decide +kernel
theorem dX1_by_26 : decode cX1_by 26 = .ok (.getfield 9, 3) := by decide +kernel
theorem dX1_by_29 : decode cX1_by 29 = .ok (.arraylength, 1) := by decide +kernel
theorem dX1_by_30 : decode cX1_by 30 = .ok (.if_icmp .ge 23, 3) := by decide +kernel
theorem dX1_by_33 : decode cX1_by 33 = .ok (.aload_n 0, 1) := by decide +kernel
theorem dX1_by_34 : decode cX1_by 34 = .ok (.getfield 9, 3) := by decide +kernel
theorem dX1_by_37 : decode cX1_by 37 = .ok (.aload_n 0, 1) := by decide +kernel
theorem dX1_by_38 : decode cX1_by 38 = .ok (.getfield 15, 3) := by decide +kernel
theorem dX1_by_41 : decode cX1_by 41 = .ok (.iload_n 2, 1) := by decide +kernel
theorem dX1_by_42 : decode cX1_by 42 = .ok (.iastore, 1) := by decide +kernel
theorem dX1_by_43 : decode cX1_by 43 = .ok (.aload_n 0, 1) := by decide +kernel
theorem dX1_by_44 : decode cX1_by 44 = .ok (.dup, 1) := by decide +kernel
theorem dX1_by_45 : decode cX1_by 45 = .ok (.getfield 15, 3) := by decide +kernel
theorem dX1_by_48 : decode cX1_by 48 = .ok (.iconst 1, 1) := by decide +kernel
theorem dX1_by_49 : decode cX1_by 49 = .ok (.iadd, 1) := by decide +kernel
theorem dX1_by_50 : decode cX1_by 50 = .ok (.putfield 15, 3) := by decide +kernel
theorem dX1_by_53 : decode cX1_by 53 = .ok (.iinc 2 1, 3) := by decide +kernel
theorem dX1_by_56 : decode cX1_by 56 = .ok (.goto (-49), 3) := by decide +kernel
theorem dX1_by_59 : decode cX1_by 59 = .ok (.return_, 1) := by decide +kernel
set_option maxRecDepth 20000 in
theorem ggX1_many_X3_power : GoodIn wsX1_many wsX3_power := goodIn_r _ [4] (by decide +kernel) (by decide +kernel)
set_option maxRecDepth 20000 in
theorem gX1_many_X3_power_n23 : GoodIn wsX1_many (wsX3_power) := ggX1_many_X3_power
theorem dX1_many_0 : decode cX1_many 0 = .ok (.aload_n 0, 1) := by decide +kernel
theorem dX1_many_1 : decode cX1_many 1 = .ok (.getfield 15, 3) := by decide +kernel
theorem dX1_many_4 : decode cX1_many 4 = .ok (.iload_n 1, 1) := by decide +kernel
theorem dX1_many_5 : decode cX1_many 5 = .ok (.invokestatic 23, 3) := by decide +kernel
theorem dX1_many_8 : decode cX1_many 8 = .ok (.ireturn, 1) := by decide +kernel
theorem dX1_told_0 : decode cX1_told 0 = .ok (.aload_n 0, 1) := by decide +kernel
theorem dX1_told_1 : decode cX1_told 1 = .ok (.getfield 15, 3) := by decide +kernel
theorem dX1_told_4 : decode cX1_told 4 = .ok (.ifCond .le 7, 3) := by decide +kernel
theorem dX1_told_7 : decode cX1_told 7 = .ok (.iload_n 1, 1) := by decide +kernel
theorem dX1_told_8 : decode cX1_told 8 = .ok (.ifCond .ge 5, 3) := by decide +kernel
theorem dX1_told_11 : decode cX1_told 11 = .ok (.iconst 0, 1) := by decide +kernel
theorem dX1_told_12 : decode cX1_told 12 = .ok (.ireturn, 1) := by decide +kernel
theorem dX1_told_13 : decode cX1_told 13 = .ok (.iconst 0, 1) := by decide +kernel
theorem dX1_told_14 : decode cX1_told 14 = .ok (.istore_n 3, 1) := by decide +kernel
theorem dX1_told_15 : decode cX1_told 15 = .ok (.iload_n 1, 1) := by decide +kernel
theorem dX1_told_16 : decode cX1_told 16 = .ok (.istore 4, 2) := by decide +kernel
theorem dX1_told_18 : decode cX1_told 18 = .ok (.iconst 1, 1) := by decide +kernel
theorem dX1_told_19 : decode cX1_told 19 = .ok (.istore 5, 2) := by decide +kernel
theorem dX1_told_21 : decode cX1_told 21 = .ok (.iconst 0, 1) := by decide +kernel
theorem dX1_told_22 : decode cX1_told 22 = .ok (.istore 6, 2) := by decide +kernel
theorem dX1_told_24 : decode cX1_told 24 = .ok (.iload 6, 2) := by decide +kernel
theorem dX1_told_26 : decode cX1_told 26 = .ok (.iload_n 2, 1) := by decide +kernel
theorem dX1_told_27 : decode cX1_told 27 = .ok (.if_icmp .ge 45, 3) := by decide +kernel
theorem dX1_told_30 : decode cX1_told 30 = .ok (.iload_n 3, 1) := by decide +kernel
theorem dX1_told_31 : decode cX1_told 31 = .ok (.iload 5, 2) := by decide +kernel
theorem dX1_told_33 : decode cX1_told 33 = .ok (.aload_n 0, 1) := by decide +kernel
theorem dX1_told_34 : decode cX1_told 34 = .ok (.getfield 9, 3) := by decide +kernel
theorem dX1_told_37 : decode cX1_told 37 = .ok (.iload 4, 2) := by decide +kernel
theorem dX1_told_39 : decode cX1_told 39 = .ok (.aload_n 0, 1) := by decide +kernel
theorem dX1_told_40 : decode cX1_told 40 = .ok (.getfield 15, 3) := by decide +kernel
theorem dX1_told_43 : decode cX1_told 43 = .ok (.irem, 1) := by decide +kernel
theorem dX1_told_44 : decode cX1_told 44 = .ok (.iaload, 1) := by decide +kernel
theorem dX1_told_45 : decode cX1_told 45 = .ok (.iconst 1, 1) := by decide +kernel
theorem dX1_told_46 : decode cX1_told 46 = .ok (.iadd, 1) := by decide +kernel
theorem dX1_told_47 : decode cX1_told 47 = .ok (.imul, 1) := by decide +kernel
theorem dX1_told_48 : decode cX1_told 48 = .ok (.iadd, 1) := by decide +kernel
theorem dX1_told_49 : decode cX1_told 49 = .ok (.istore_n 3, 1) := by decide +kernel
theorem dX1_told_50 : decode cX1_told 50 = .ok (.iload 4, 2) := by decide +kernel
theorem dX1_told_52 : decode cX1_told 52 = .ok (.aload_n 0, 1) := by decide +kernel
theorem dX1_told_53 : decode cX1_told 53 = .ok (.getfield 15, 3) := by decide +kernel
theorem dX1_told_56 : decode cX1_told 56 = .ok (.idiv, 1) := by decide +kernel
theorem dX1_told_57 : decode cX1_told 57 = .ok (.istore 4, 2) := by decide +kernel
theorem dX1_told_59 : decode cX1_told 59 = .ok (.iload 5, 2) := by decide +kernel
theorem dX1_told_61 : decode cX1_told 61 = .ok (.bipush 10, 2) := by decide +kernel
theorem dX1_told_63 : decode cX1_told 63 = .ok (.imul, 1) := by decide +kernel
theorem dX1_told_64 : decode cX1_told 64 = .ok (.istore 5, 2) := by decide +kernel
theorem dX1_told_66 : decode cX1_told 66 = .ok (.iinc 6 1, 3) := by decide +kernel
theorem dX1_told_69 : decode cX1_told 69 = .ok (.goto (-45), 3) := by decide +kernel
theorem dX1_told_72 : decode cX1_told 72 = .ok (.iload_n 3, 1) := by decide +kernel
theorem dX1_told_73 : decode cX1_told 73 = .ok (.ireturn, 1) := by decide +kernel
theorem dX2_init_0 : decode cX2_init 0 = .ok (.aload_n 0, 1) := by decide +kernel
theorem dX2_init_1 : decode cX2_init 1 = .ok (.invokespecial 3, 3) := by decide +kernel
theorem dX2_init_4 : decode cX2_init 4 = .ok (.aload_n 0, 1) := by decide +kernel
theorem dX2_init_5 : decode cX2_init 5 = .ok (.bipush (-9), 2) := by decide +kernel
theorem dX2_init_7 : decode cX2_init 7 = .ok (.putfield 9, 3) := by decide +kernel
theorem dX2_init_10 : decode cX2_init 10 = .ok (.aload_n 0, 1) := by decide +kernel
theorem dX2_init_11 : decode cX2_init 11 = .ok (.bipush (-9), 2) := by decide +kernel
theorem dX2_init_13 : decode cX2_init 13 = .ok (.putfield 15, 3) := by decide +kernel
theorem dX2_init_16 : decode cX2_init 16 = .ok (.aload_n 0, 1) := by decide +kernel
theorem dX2_init_17 : decode cX2_init 17 = .ok (.bipush 7, 2) := by decide +kernel
theorem dX2_init_19 : decode cX2_init 19 = .ok (.newarray .int, 2) := by decide +kernel
theorem dX2_init_21 : decode cX2_init 21 = .ok (.putfield 18, 3) := by decide +kernel
theorem dX2_init_24 : decode cX2_init 24 = .ok (.return_, 1) := by decide +kernel
theorem dX2_begin_0 : decode cX2_begin 0 = .ok (.aload_n 0, 1) := by decide +kernel
theorem dX2_begin_1 : decode cX2_begin 1 = .ok (.iconst 0, 1) := by decide +kernel
theorem dX2_begin_2 : decode cX2_begin 2 = .ok (.putfield 22, 3) := by decide +kernel
theorem dX2_begin_5 : decode cX2_begin 5 = .ok (.aload_n 0, 1) := by decide +kernel
theorem dX2_begin_6 : decode cX2_begin 6 = .ok (.bipush (-9), 2) := by decide +kernel
theorem dX2_begin_8 : decode cX2_begin 8 = .ok (.putfield 9, 3) := by decide +kernel
theorem dX2_begin_11 : decode cX2_begin 11 = .ok (.aload_n 0, 1) := by decide +kernel
theorem dX2_begin_12 : decode cX2_begin 12 = .ok (.bipush (-9), 2) := by decide +kernel
theorem dX2_begin_14 : decode cX2_begin 14 = .ok (.putfield 15, 3) := by decide +kernel
theorem dX2_begin_17 : decode cX2_begin 17 = .ok (.iconst 0, 1) := by decide +kernel
theorem dX2_begin_18 : decode cX2_begin 18 = .ok (.istore_n 1, 1) := by decide +kernel
theorem dX2_begin_19 : decode cX2_begin 19 = .ok (.iload_n 1, 1) := by decide +kernel
theorem dX2_begin_20 : decode cX2_begin 20 = .ok (.aload_n 0, 1) := by decide +kernel
theorem dX2_begin_21 : decode cX2_begin 21 = .ok (.getfield 18, 3) := by decide +kernel
theorem dX2_begin_24 : decode cX2_begin 24 = .ok (.arraylength, 1) := by decide +kernel
theorem dX2_begin_25 : decode cX2_begin 25 = .ok (.if_icmp .ge 16, 3) := by decide +kernel
theorem dX2_begin_28 : decode cX2_begin 28 = .ok (.aload_n 0, 1) := by decide +kernel
theorem dX2_begin_29 : decode cX2_begin 29 = .ok (.getfield 18, 3) := by decide +kernel
theorem dX2_begin_32 : decode cX2_begin 32 = .ok (.iload_n 1, 1) := by decide +kernel
theorem dX2_begin_33 : decode cX2_begin 33 = .ok (.iconst 0, 1) := by decide +kernel
theorem dX2_begin_34 : decode cX2_begin 34 = .ok (.iastore, 1) := by decide +kernel
theorem dX2_begin_35 : decode cX2_begin 35 = .ok (.iinc 1 1, 3) := by decide +kernel
theorem dX2_begin_38 : decode cX2_begin 38 = .ok (.goto (-19), 3) := by decide +kernel
theorem dX2_begin_41 : decode cX2_begin 41 = .ok (.return_, 1) := by decide +kernel
theorem dX2_become_0 : decode cX2_become 0 = .ok (.aload_n 0, 1) := by decide +kernel
theorem dX2_become_1 : decode cX2_become 1 = .ok (.aload_n 1, 1) := by decide +kernel
theorem dX2_become_2 : decode cX2_become 2 = .ok (.getfield 22, 3) := by decide +kernel
theorem dX2_become_5 : decode cX2_become 5 = .ok (.putfield 22, 3) := by decide +kernel
theorem dX2_become_8 : decode cX2_become 8 = .ok (.aload_n 0, 1) := by decide +kernel
theorem dX2_become_9 : decode cX2_become 9 = .ok (.aload_n 1, 1) := by decide +kernel
theorem dX2_become_10 : decode cX2_become 10 = .ok (.getfield 9, 3) := by decide +kernel
theorem dX2_become_13 : decode cX2_become 13 = .ok (.putfield 9, 3) := by decide +kernel
theorem dX2_become_16 : decode cX2_become 16 = .ok (.aload_n 0, 1) := by decide +kernel
theorem dX2_become_17 : decode cX2_become 17 = .ok (.aload_n 1, 1) := by decide +kernel
theorem dX2_become_18 : decode cX2_become 18 = .ok (.getfield 15, 3) := by decide +kernel
theorem dX2_become_21 : decode cX2_become 21 = .ok (.putfield 15, 3) := by decide +kernel
theorem dX2_become_24 : decode cX2_become 24 = .ok (.iconst 0, 1) := by decide +kernel
theorem dX2_become_25 : decode cX2_become 25 = .ok (.istore_n 2, 1) := by decide +kernel
theorem dX2_become_26 : decode cX2_become 26 = .ok (.iload_n 2, 1) := by decide +kernel
theorem dX2_become_27 : decode cX2_become 27 = .ok (.aload_n 0, 1) := by decide +kernel
theorem dX2_become_28 : decode cX2_become 28 = .ok (.getfield 18, 3) := by decide +kernel
theorem dX2_become_31 : decode cX2_become 31 = .ok (.arraylength, 1) := by decide +kernel
theorem dX2_become_32 : decode cX2_become 32 = .ok (.if_icmp .ge 30, 3) := by decide +kernel
theorem dX2_become_35 : decode cX2_become 35 = .ok (.iload_n 2, 1) := by decide +kernel
theorem dX2_become_36 : decode cX2_become 36 = .ok (.aload_n 1, 1) := by decide +kernel
theorem dX2_become_37 : decode cX2_become 37 = .ok (.getfield 18, 3) := by decide +kernel
theorem dX2_become_40 : decode cX2_become 40 = .ok (.arraylength, 1) := by decide +kernel
theorem dX2_become_41 : decode cX2_become 41 = .ok (.if_icmp .ge 21, 3) := by decide +kernel
theorem dX2_become_44 : decode cX2_become 44 = .ok (.aload_n 0, 1) := by decide +kernel
theorem dX2_become_45 : decode cX2_become 45 = .ok (.getfield 18, 3) := by decide +kernel
theorem dX2_become_48 : decode cX2_become 48 = .ok (.iload_n 2, 1) := by decide +kernel
theorem dX2_become_49 : decode cX2_become 49 = .ok (.aload_n 1, 1) := by decide +kernel
theorem dX2_become_50 : decode cX2_become 50 = .ok (.getfield 18, 3) := by decide +kernel
theorem dX2_become_53 : decode cX2_become 53 = .ok (.iload_n 2, 1) := by decide +kernel
theorem dX2_become_54 : decode cX2_become 54 = .ok (.iaload, 1) := by decide +kernel
theorem dX2_become_55 : decode cX2_become 55 = .ok (.iastore, 1) := by decide +kernel
theorem dX2_become_56 : decode cX2_become 56 = .ok (.iinc 2 1, 3) := by decide +kernel
theorem dX2_become_59 : decode cX2_become 59 = .ok (.goto (-33), 3) := by decide +kernel
theorem dX2_become_62 : decode cX2_become 62 = .ok (.return_, 1) := by decide +kernel
set_option maxRecDepth 20000 in
theorem ggX2_utter_X2_made : GoodIn wsX2_utter wsX2_made := goodIn_r _ [8] (by decide +kernel) (by decide +kernel)
set_option maxRecDepth 20000 in
theorem gX2_utter_X2_made : GoodIn wsX2_utter (va_wsS RX2 25 yX2_made wsX2_made) := goodIn_app (goodIn_of _ (by decide +kernel)) ggX2_utter_X2_made
theorem dX2_utter_0 : decode cX2_utter 0 = .ok (.iload_n 2, 1) := by decide +kernel
theorem dX2_utter_1 : decode cX2_utter 1 = .ok (.bipush 10, 2) := by decide +kernel
theorem dX2_utter_3 : decode cX2_utter 3 = .ok (.idiv, 1) := by decide +kernel
theorem dX2_utter_4 : decode cX2_utter 4 = .ok (.iconst 3, 1) := by decide +kernel
theorem dX2_utter_5 : decode cX2_utter 5 = .ok (.if_icmp .eq 8, 3) := by decide +kernel
theorem dX2_utter_8 : decode cX2_utter 8 = .ok (.aload_n 0, 1) := by decide +kernel
theorem dX2_utter_9 : decode cX2_utter 9 = .ok (.iload_n 2, 1) := by decide +kernel
theorem dX2_utter_10 : decode cX2_utter 10 = .ok (.putfield 15, 3) := by decide +kernel
theorem dX2_utter_13 : decode cX2_utter 13 = .ok (.iconst 0, 1) := by decide +kernel
theorem dX2_utter_14 : decode cX2_utter 14 = .ok (.istore 4, 2) := by decide +kernel
theorem dX2_utter_16 : decode cX2_utter 16 = .ok (.iload 4, 2) := by decide +kernel
theorem dX2_utter_18 : decode cX2_utter 18 = .ok (.iload_n 3, 1) := by decide +kernel
theorem dX2_utter_19 : decode cX2_utter 19 = .ok (.if_icmp .ge 24, 3) := by decide +kernel
theorem dX2_utter_22 : decode cX2_utter 22 = .ok (.aload_n 0, 1) := by decide +kernel
theorem dX2_utter_23 : decode cX2_utter 23 = .ok (.aload_n 0, 1) := by decide +kernel
theorem dX2_utter_24 : decode cX2_utter 24 = .ok (.getfield 22, 3) := by decide +kernel
theorem dX2_utter_27 : decode cX2_utter 27 = .ok (.aload_n 0, 1) := by decide +kernel
theorem dX2_utter_28 : decode cX2_utter 28 = .ok (.getfield 15, 3) := by decide +kernel
theorem dX2_utter_31 : decode cX2_utter 31 = .ok (.invokestatic 25, 3) := by decide +kernel
theorem dX2_utter_34 : decode cX2_utter 34 = .ok (.putfield 22, 3) := by decide +kernel
theorem dX2_utter_37 : decode cX2_utter 37 = .ok (.iinc 4 1, 3) := by decide +kernel
theorem dX2_utter_40 : decode cX2_utter 40 = .ok (.goto (-24), 3) := by decide +kernel
theorem dX2_utter_43 : decode cX2_utter 43 = .ok (.aload_n 0, 1) := by decide +kernel
theorem dX2_utter_44 : decode cX2_utter 44 = .ok (.iload_n 1, 1) := by decide +kernel
theorem dX2_utter_45 : decode cX2_utter 45 = .ok (.putfield 9, 3) := by decide +kernel
theorem dX2_utter_48 : decode cX2_utter 48 = .ok (.iload_n 1, 1) := by decide +kernel
theorem dX2_utter_49 : decode cX2_utter 49 = .ok (.ifCond .lt 22, 3) := by decide +kernel
theorem dX2_utter_52 : decode cX2_utter 52 = .ok (.iload_n 1, 1) := by decide +kernel
theorem dX2_utter_53 : decode cX2_utter 53 = .ok (.aload_n 0, 1) := by decide +kernel
theorem dX2_utter_54 : decode cX2_utter 54 = .ok (.getfield 18, 3) := by decide +kernel
theorem dX2_utter_57 : decode cX2_utter 57 = .ok (.arraylength, 1) := by decide +kernel
theorem dX2_utter_58 : decode cX2_utter 58 = .ok (.if_icmp .ge 13, 3) := by decide +kernel
theorem dX2_utter_61 : decode cX2_utter 61 = .ok (.aload_n 0, 1) := by decide +kernel
theorem dX2_utter_62 : decode cX2_utter 62 = .ok (.getfield 18, 3) := by decide +kernel
theorem dX2_utter_65 : decode cX2_utter 65 = .ok (.iload_n 1, 1) := by decide +kernel
theorem dX2_utter_66 : decode cX2_utter 66 = .ok (.dup2, 1) := by decide +kernel
theorem dX2_utter_67 : decode cX2_utter 67 = .ok (.iaload, 1) := by decide +kernel
theorem dX2_utter_68 : decode cX2_utter 68 = .ok (.iconst 1, 1) := by decide +kernel
theorem dX2_utter_69 : decode cX2_utter 69 = .ok (.iadd, 1) := by decide +kernel
theorem dX2_utter_70 : decode cX2_utter 70 = .ok (.iastore, 1) := by decide +kernel
theorem dX2_utter_71 : decode cX2_utter 71 = .ok (.return_, 1) := by decide +kernel
theorem dX2_made_0 : decode cX2_made 0 = .ok (.iload_n 1, 1) := by decide +kernel
theorem dX2_made_1 : decode cX2_made 1 = .ok (.bipush (-9), 2) := by decide +kernel
theorem dX2_made_3 : decode cX2_made 3 = .ok (.if_icmp .ne 5, 3) := by decide +kernel
theorem dX2_made_6 : decode cX2_made 6 = .ok (.iload_n 0, 1) := by decide +kernel
theorem dX2_made_7 : decode cX2_made 7 = .ok (.ireturn, 1) := by decide +kernel
theorem dX2_made_8 : decode cX2_made 8 = .ok (.iload_n 1, 1) := by decide +kernel
theorem dX2_made_9 : decode cX2_made 9 = .ok (.bipush 10, 2) := by decide +kernel
theorem dX2_made_11 : decode cX2_made 11 = .ok (.irem, 1) := by decide +kernel
theorem dX2_made_12 : decode cX2_made 12 = .ok (.istore_n 2, 1) := by decide +kernel
theorem dX2_made_13 : decode cX2_made 13 = .ok (.iload_n 1, 1) := by decide +kernel
theorem dX2_made_14 : decode cX2_made 14 = .ok (.bipush 10, 2) := by decide +kernel
theorem dX2_made_16 : decode cX2_made 16 = .ok (.idiv, 1) := by decide +kernel
theorem dX2_made_17 : decode cX2_made 17 = .ok (.tableswitch 41 0 2 #[27, 29, 36], 27) := by decide +kernel
theorem dX2_made_44 : decode cX2_made 44 = .ok (.iload_n 2, 1) := by decide +kernel
theorem dX2_made_45 : decode cX2_made 45 = .ok (.ireturn, 1) := by decide +kernel
theorem dX2_made_46 : decode cX2_made 46 = .ok (.iload_n 0, 1) := by decide +kernel
theorem dX2_made_47 : decode cX2_made 47 = .ok (.iload_n 2, 1) := by decide +kernel
theorem dX2_made_48 : decode cX2_made 48 = .ok (.iadd, 1) := by decide +kernel
theorem dX2_made_49 : decode cX2_made 49 = .ok (.bipush 10, 2) := by decide +kernel
theorem dX2_made_51 : decode cX2_made 51 = .ok (.irem, 1) := by decide +kernel
theorem dX2_made_52 : decode cX2_made 52 = .ok (.ireturn, 1) := by decide +kernel
theorem dX2_made_53 : decode cX2_made 53 = .ok (.bipush 9, 2) := by decide +kernel
theorem dX2_made_55 : decode cX2_made 55 = .ok (.iload_n 0, 1) := by decide +kernel
theorem dX2_made_56 : decode cX2_made 56 = .ok (.isub, 1) := by decide +kernel
theorem dX2_made_57 : decode cX2_made 57 = .ok (.ireturn, 1) := by decide +kernel
theorem dX2_made_58 : decode cX2_made 58 = .ok (.iload_n 0, 1) := by decide +kernel
theorem dX2_made_59 : decode cX2_made 59 = .ok (.ireturn, 1) := by decide +kernel
set_option maxRecDepth 20000 in
theorem ggX3_init_X0_init : GoodIn wsX3_init wsX0_init := goodIn_r _ [28, 29, 2, 3, 30, 18, 19, 31, 6, 32, 33, 34, 35, 36, 37, 38, 65, 66, 67, 68, 61, 62, 63, 64] (by decide +kernel) (by decide +kernel)
set_option maxRecDepth 20000 in
theorem gX3_init_X0_init_n22 : GoodIn wsX3_init (wsX0_init) := ggX3_init_X0_init
set_option maxRecDepth 20000 in
theorem ggX3_init_X2_init : GoodIn wsX3_init wsX2_init := goodIn_r _ [34, 35, 2, 3, 36, 37, 6, 38, 65, 66, 67, 68] (by decide +kernel) (by decide +kernel)
set_option maxRecDepth 20000 in
theorem gX3_init_X2_init_n40 : GoodIn wsX3_init (wsX2_init) := ggX3_init_X2_init
set_option maxRecDepth 20000 in
theorem ggX3_init_X1_init : GoodIn wsX3_init wsX1_init := goodIn_r _ [40, 41, 2, 3, 6, 42, 69, 70] (by decide +kernel) (by decide +kernel)
set_option maxRecDepth 20000 in
theorem gX3_init_X1_init_n47 : GoodIn wsX3_init (wsX1_init) := ggX3_init_X1_init
theorem dX3_init_0 : decode cX3_init 0 = .ok (.aload_n 0, 1) := by decide +kernel
theorem dX3_init_1 : decode cX3_init 1 = .ok (.invokespecial 1, 3) := by decide +kernel
theorem dX3_init_4 : decode cX3_init 4 = .ok (.aload_n 0, 1) := by decide +kernel
theorem dX3_init_5 : decode cX3_init 5 = .ok (.bipush 40, 2) := by decide +kernel
theorem dX3_init_7 : decode cX3_init 7 = .ok (.newarray .char, 2) := by decide +kernel
theorem dX3_init_9 : decode cX3_init 9 = .ok (.putfield 9, 3) := by decide +kernel
theorem dX3_init_12 : decode cX3_init 12 = .ok (.aload_n 0, 1) := by decide +kernel
theorem dX3_init_13 : decode cX3_init 13 = .ok (.bipush 7, 2) := by decide +kernel
theorem dX3_init_15 : decode cX3_init 15 = .ok (.newarray .int, 2) := by decide +kernel
theorem dX3_init_17 : decode cX3_init 17 = .ok (.putfield 13, 3) := by decide +kernel
theorem dX3_init_20 : decode cX3_init 20 = .ok (.aload_n 0, 1) := by decide +kernel
theorem dX3_init_21 : decode cX3_init 21 = .ok (.bipush 7, 2) := by decide +kernel
theorem dX3_init_23 : decode cX3_init 23 = .ok (.newarray .int, 2) := by decide +kernel
theorem dX3_init_25 : decode cX3_init 25 = .ok (.putfield 17, 3) := by decide +kernel
theorem dX3_init_28 : decode cX3_init 28 = .ok (.aload_n 0, 1) := by decide +kernel
theorem dX3_init_29 : decode cX3_init 29 = .ok (.new 20, 3) := by decide +kernel
theorem dX3_init_32 : decode cX3_init 32 = .ok (.dup, 1) := by decide +kernel
theorem dX3_init_33 : decode cX3_init 33 = .ok (.invokespecial 22, 3) := by decide +kernel
theorem dX3_init_36 : decode cX3_init 36 = .ok (.putfield 23, 3) := by decide +kernel
theorem dX3_init_39 : decode cX3_init 39 = .ok (.aload_n 0, 1) := by decide +kernel
theorem dX3_init_40 : decode cX3_init 40 = .ok (.bipush 14, 2) := by decide +kernel
theorem dX3_init_42 : decode cX3_init 42 = .ok (.anewarray 20, 3) := by decide +kernel
theorem dX3_init_45 : decode cX3_init 45 = .ok (.putfield 27, 3) := by decide +kernel
theorem dX3_init_48 : decode cX3_init 48 = .ok (.aload_n 0, 1) := by decide +kernel
theorem dX3_init_49 : decode cX3_init 49 = .ok (.iconst 2, 1) := by decide +kernel
theorem dX3_init_50 : decode cX3_init 50 = .ok (.anewarray 20, 3) := by decide +kernel
theorem dX3_init_53 : decode cX3_init 53 = .ok (.putfield 31, 3) := by decide +kernel
theorem dX3_init_56 : decode cX3_init 56 = .ok (.aload_n 0, 1) := by decide +kernel
theorem dX3_init_57 : decode cX3_init 57 = .ok (.iconst 2, 1) := by decide +kernel
theorem dX3_init_58 : decode cX3_init 58 = .ok (.newarray .boolean, 2) := by decide +kernel
theorem dX3_init_60 : decode cX3_init 60 = .ok (.putfield 34, 3) := by decide +kernel
theorem dX3_init_63 : decode cX3_init 63 = .ok (.aload_n 0, 1) := by decide +kernel
theorem dX3_init_64 : decode cX3_init 64 = .ok (.new 38, 3) := by decide +kernel
theorem dX3_init_67 : decode cX3_init 67 = .ok (.dup, 1) := by decide +kernel
theorem dX3_init_68 : decode cX3_init 68 = .ok (.invokespecial 40, 3) := by decide +kernel
theorem dX3_init_71 : decode cX3_init 71 = .ok (.putfield 41, 3) := by decide +kernel
theorem dX3_init_74 : decode cX3_init 74 = .ok (.aload_n 0, 1) := by decide +kernel
theorem dX3_init_75 : decode cX3_init 75 = .ok (.new 45, 3) := by decide +kernel
theorem dX3_init_78 : decode cX3_init 78 = .ok (.dup, 1) := by decide +kernel
theorem dX3_init_79 : decode cX3_init 79 = .ok (.invokespecial 47, 3) := by decide +kernel
theorem dX3_init_82 : decode cX3_init 82 = .ok (.putfield 48, 3) := by decide +kernel
theorem dX3_init_85 : decode cX3_init 85 = .ok (.aload_n 0, 1) := by decide +kernel
theorem dX3_init_86 : decode cX3_init 86 = .ok (.bipush 10, 2) := by decide +kernel
theorem dX3_init_88 : decode cX3_init 88 = .ok (.newarray .int, 2) := by decide +kernel
theorem dX3_init_90 : decode cX3_init 90 = .ok (.putfield 52, 3) := by decide +kernel
theorem dX3_init_93 : decode cX3_init 93 = .ok (.aload_n 0, 1) := by decide +kernel
theorem dX3_init_94 : decode cX3_init 94 = .ok (.bipush 16, 2) := by decide +kernel
theorem dX3_init_96 : decode cX3_init 96 = .ok (.newarray .int, 2) := by decide +kernel
theorem dX3_init_98 : decode cX3_init 98 = .ok (.putfield 55, 3) := by decide +kernel
theorem dX3_init_101 : decode cX3_init 101 = .ok (.iconst 0, 1) := by decide +kernel
theorem dX3_init_102 : decode cX3_init 102 = .ok (.istore_n 1, 1) := by decide +kernel
theorem dX3_init_103 : decode cX3_init 103 = .ok (.iload_n 1, 1) := by decide +kernel
theorem dX3_init_104 : decode cX3_init 104 = .ok (.aload_n 0, 1) := by decide +kernel
theorem dX3_init_105 : decode cX3_init 105 = .ok (.getfield 27, 3) := by decide +kernel
theorem dX3_init_108 : decode cX3_init 108 = .ok (.arraylength, 1) := by decide +kernel
theorem dX3_init_109 : decode cX3_init 109 = .ok (.if_icmp .ge 22, 3) := by decide +kernel
theorem dX3_init_112 : decode cX3_init 112 = .ok (.aload_n 0, 1) := by decide +kernel
theorem dX3_init_113 : decode cX3_init 113 = .ok (.getfield 27, 3) := by decide +kernel
theorem dX3_init_116 : decode cX3_init 116 = .ok (.iload_n 1, 1) := by decide +kernel
theorem dX3_init_117 : decode cX3_init 117 = .ok (.new 20, 3) := by decide +kernel
theorem dX3_init_120 : decode cX3_init 120 = .ok (.dup, 1) := by decide +kernel
theorem dX3_init_121 : decode cX3_init 121 = .ok (.invokespecial 22, 3) := by decide +kernel
theorem dX3_init_124 : decode cX3_init 124 = .ok (.aastore, 1) := by decide +kernel
theorem dX3_init_125 : decode cX3_init 125 = .ok (.iinc 1 1, 3) := by decide +kernel
theorem dX3_init_128 : decode cX3_init 128 = .ok (.goto (-25), 3) := by decide +kernel
theorem dX3_init_131 : decode cX3_init 131 = .ok (.iconst 0, 1) := by decide +kernel
theorem dX3_init_132 : decode cX3_init 132 = .ok (.istore_n 1, 1) := by decide +kernel
theorem dX3_init_133 : decode cX3_init 133 = .ok (.iload_n 1, 1) := by decide +kernel
theorem dX3_init_134 : decode cX3_init 134 = .ok (.aload_n 0, 1) := by decide +kernel
theorem dX3_init_135 : decode cX3_init 135 = .ok (.getfield 31, 3) := by decide +kernel
theorem dX3_init_138 : decode cX3_init 138 = .ok (.arraylength, 1) := by decide +kernel
theorem dX3_init_139 : decode cX3_init 139 = .ok (.if_icmp .ge 22, 3) := by decide +kernel
theorem dX3_init_142 : decode cX3_init 142 = .ok (.aload_n 0, 1) := by decide +kernel
theorem dX3_init_143 : decode cX3_init 143 = .ok (.getfield 31, 3) := by decide +kernel
theorem dX3_init_146 : decode cX3_init 146 = .ok (.iload_n 1, 1) := by decide +kernel
theorem dX3_init_147 : decode cX3_init 147 = .ok (.new 20, 3) := by decide +kernel
theorem dX3_init_150 : decode cX3_init 150 = .ok (.dup, 1) := by decide +kernel
theorem dX3_init_151 : decode cX3_init 151 = .ok (.invokespecial 22, 3) := by decide +kernel
theorem dX3_init_154 : decode cX3_init 154 = .ok (.aastore, 1) := by decide +kernel
theorem dX3_init_155 : decode cX3_init 155 = .ok (.iinc 1 1, 3) := by decide +kernel
theorem dX3_init_158 : decode cX3_init 158 = .ok (.goto (-25), 3) := by decide +kernel
theorem dX3_init_161 : decode cX3_init 161 = .ok (.return_, 1) := by decide +kernel
theorem dX3_write_0 : decode cX3_write 0 = .ok (.iload_n 1, 1) := by decide +kernel
theorem dX3_write_1 : decode cX3_write 1 = .ok (.ifCond .lt 10, 3) := by decide +kernel
theorem dX3_write_4 : decode cX3_write 4 = .ok (.iload_n 1, 1) := by decide +kernel
theorem dX3_write_5 : decode cX3_write 5 = .ok (.sipush 255, 3) := by decide +kernel
theorem dX3_write_8 : decode cX3_write 8 = .ok (.if_icmp .le 6, 3) := by decide +kernel
theorem dX3_write_11 : decode cX3_write 11 = .ok (.bipush (-2), 2) := by decide +kernel
theorem dX3_write_13 : decode cX3_write 13 = .ok (.ireturn, 1) := by decide +kernel
theorem dX3_write_14 : decode cX3_write 14 = .ok (.aload_n 0, 1) := by decide +kernel
theorem dX3_write_15 : decode cX3_write 15 = .ok (.getfield 58, 3) := by decide +kernel
theorem dX3_write_18 : decode cX3_write 18 = .ok (.ifCond .lt 15, 3) := by decide +kernel
theorem dX3_write_21 : decode cX3_write 21 = .ok (.aload_n 0, 1) := by decide +kernel
theorem dX3_write_22 : decode cX3_write 22 = .ok (.getfield 58, 3) := by decide +kernel
theorem dX3_write_25 : decode cX3_write 25 = .ok (.aload_n 0, 1) := by decide +kernel
theorem dX3_write_26 : decode cX3_write 26 = .ok (.getfield 9, 3) := by decide +kernel
theorem dX3_write_29 : decode cX3_write 29 = .ok (.arraylength, 1) := by decide +kernel
theorem dX3_write_30 : decode cX3_write 30 = .ok (.if_icmp .lt 6, 3) := by decide +kernel
theorem dX3_write_33 : decode cX3_write 33 = .ok (.bipush (-4), 2) := by decide +kernel
theorem dX3_write_35 : decode cX3_write 35 = .ok (.ireturn, 1) := by decide +kernel
theorem dX3_write_36 : decode cX3_write 36 = .ok (.aload_n 0, 1) := by decide +kernel
theorem dX3_write_37 : decode cX3_write 37 = .ok (.getfield 9, 3) := by decide +kernel
theorem dX3_write_40 : decode cX3_write 40 = .ok (.aload_n 0, 1) := by decide +kernel
theorem dX3_write_41 : decode cX3_write 41 = .ok (.getfield 58, 3) := by decide +kernel
theorem dX3_write_44 : decode cX3_write 44 = .ok (.iload_n 1, 1) := by decide +kernel
theorem dX3_write_45 : decode cX3_write 45 = .ok (.i2c, 1) := by decide +kernel
theorem dX3_write_46 : decode cX3_write 46 = .ok (.castore, 1) := by decide +kernel
theorem dX3_write_47 : decode cX3_write 47 = .ok (.aload_n 0, 1) := by decide +kernel
theorem dX3_write_48 : decode cX3_write 48 = .ok (.dup, 1) := by decide +kernel
theorem dX3_write_49 : decode cX3_write 49 = .ok (.getfield 58, 3) := by decide +kernel
theorem dX3_write_52 : decode cX3_write 52 = .ok (.iconst 1, 1) := by decide +kernel
theorem dX3_write_53 : decode cX3_write 53 = .ok (.iadd, 1) := by decide +kernel
theorem dX3_write_54 : decode cX3_write 54 = .ok (.putfield 58, 3) := by decide +kernel
theorem dX3_write_57 : decode cX3_write 57 = .ok (.aload_n 0, 1) := by decide +kernel
theorem dX3_write_58 : decode cX3_write 58 = .ok (.getfield 58, 3) := by decide +kernel
theorem dX3_write_61 : decode cX3_write 61 = .ok (.ireturn, 1) := by decide +kernel
theorem dX3_wipe_0 : decode cX3_wipe 0 = .ok (.aload_n 0, 1) := by decide +kernel
theorem dX3_wipe_1 : decode cX3_wipe 1 = .ok (.getfield 58, 3) := by decide +kernel
theorem dX3_wipe_4 : decode cX3_wipe 4 = .ok (.istore_n 1, 1) := by decide +kernel
theorem dX3_wipe_5 : decode cX3_wipe 5 = .ok (.aload_n 0, 1) := by decide +kernel
theorem dX3_wipe_6 : decode cX3_wipe 6 = .ok (.iconst 0, 1) := by decide +kernel
theorem dX3_wipe_7 : decode cX3_wipe 7 = .ok (.putfield 58, 3) := by decide +kernel
theorem dX3_wipe_10 : decode cX3_wipe 10 = .ok (.iload_n 1, 1) := by decide +kernel
theorem dX3_wipe_11 : decode cX3_wipe 11 = .ok (.ireturn, 1) := by decide +kernel
set_option maxRecDepth 20000 in
theorem ggX3_fault_X3_firstFault : GoodIn wsX3_fault wsX3_firstFault := goodIn_r _ [5, 6, 7, 8, 9, 4, 10, 11, 12, 13, 14, 15, 16, 17, 18, 19, 20, 21, 22, 23, 24, 25, 26, 27, 28, 29, 30, 31] (by decide +kernel) (by decide +kernel)
set_option maxRecDepth 20000 in
theorem gX3_fault_X3_firstFault : GoodIn wsX3_fault (wsV RX3 62 RX3 yX3_firstFault wsX3_firstFault) := goodIn_app (goodIn_of _ (by decide +kernel)) ggX3_fault_X3_firstFault
theorem dX3_fault_0 : decode cX3_fault 0 = .ok (.aload_n 0, 1) := by decide +kernel
theorem dX3_fault_1 : decode cX3_fault 1 = .ok (.invokevirtual 62, 3) := by decide +kernel
theorem dX3_fault_4 : decode cX3_fault 4 = .ok (.ireturn, 1) := by decide +kernel
set_option maxRecDepth 20000 in
theorem ggX3_island_X3_firstFault : GoodIn wsX3_island wsX3_firstFault := goodIn_r _ [10, 2, 11, 12, 13, 9, 14, 15, 16, 17, 49, 50, 51, 52, 53, 54, 55, 56, 57, 58, 59, 60, 61, 62, 63, 64, 65, 66] (by decide +kernel) (by decide +kernel)
set_option maxRecDepth 20000 in
theorem gX3_island_X3_firstFault : GoodIn wsX3_island (wsV RX3 62 RX3 yX3_firstFault wsX3_firstFault) := goodIn_app (goodIn_of _ (by decide +kernel)) ggX3_island_X3_firstFault
set_option maxRecDepth 20000 in
theorem ggX3_island_X3_figureIn : GoodIn wsX3_island wsX3_figureIn := goodIn_r _ [21, 11, 49, 50, 51, 52, 53, 54, 55, 56, 57, 58, 59, 60, 61, 62, 63, 64, 65, 66] (by decide +kernel) (by decide +kernel)
set_option maxRecDepth 20000 in
theorem gX3_island_X3_figureIn : GoodIn wsX3_island (wsV RX3 66 RX3 yX3_figureIn wsX3_figureIn) := goodIn_app (goodIn_of _ (by decide +kernel)) ggX3_island_X3_figureIn
set_option maxRecDepth 20000 in
theorem ggX3_island_X0_begin : GoodIn wsX3_island wsX0_begin := goodIn_r _ [25, 26, 27, 28, 29, 30, 31, 32, 33, 34, 35, 36, 67, 68, 69, 70, 71, 72, 73, 74] (by decide +kernel) (by decide +kernel)
set_option maxRecDepth 20000 in
theorem gX3_island_X0_begin_n76 : GoodIn wsX3_island (wsX0_begin) := ggX3_island_X0_begin
set_option maxRecDepth 20000 in
theorem ggX3_island_X3_settle : GoodIn wsX3_island wsX3_settle := goodIn_r _ [40, 41, 4, 42, 1, 18, 19, 20, 9, 21, 11, 49, 50, 51, 52, 53, 54, 55, 56, 57, 58, 59, 60, 61, 62, 63, 64, 65, 66, 67, 68, 69, 70] (by decide +kernel) (by decide +kernel)
set_option maxRecDepth 20000 in
theorem gX3_island_X3_settle : GoodIn wsX3_island (wsV RX3 79 RX3 yX3_settle wsX3_settle) := goodIn_app (goodIn_of _ (by decide +kernel)) ggX3_island_X3_settle
set_option maxRecDepth 20000 in
theorem ggX3_island_X3_forgetActs : GoodIn wsX3_island wsX3_forgetActs := goodIn_r _ [46, 47, 48, 49, 50, 51, 52, 53, 54, 55, 56, 57, 58, 59, 60, 61, 62, 63, 64, 65, 66] (by decide +kernel) (by decide +kernel)
set_option maxRecDepth 20000 in
theorem gX3_island_X3_forgetActs : GoodIn wsX3_island (wsV RX3 83 RX3 yX3_forgetActs wsX3_forgetActs) := goodIn_app (goodIn_of _ (by decide +kernel)) ggX3_island_X3_forgetActs
theorem dX3_island_0 : decode cX3_island 0 = .ok (.aload_n 0, 1) := by decide +kernel
theorem dX3_island_1 : decode cX3_island 1 = .ok (.invokevirtual 62, 3) := by decide +kernel
theorem dX3_island_4 : decode cX3_island 4 = .ok (.bipush (-9), 2) := by decide +kernel
theorem dX3_island_6 : decode cX3_island 6 = .ok (.if_icmp .eq 6, 3) := by decide +kernel
theorem dX3_island_9 : decode cX3_island 9 = .ok (.bipush (-3), 2) := by decide +kernel
theorem dX3_island_11 : decode cX3_island 11 = .ok (.ireturn, 1) := by decide +kernel
theorem dX3_island_12 : decode cX3_island 12 = .ok (.aload_n 0, 1) := by decide +kernel
theorem dX3_island_13 : decode cX3_island 13 = .ok (.aload_n 0, 1) := by decide +kernel
theorem dX3_island_14 : decode cX3_island 14 = .ok (.iconst 1, 1) := by decide +kernel
theorem dX3_island_15 : decode cX3_island 15 = .ok (.invokevirtual 66, 3) := by decide +kernel
theorem dX3_island_18 : decode cX3_island 18 = .ok (.putfield 70, 3) := by decide +kernel
theorem dX3_island_21 : decode cX3_island 21 = .ok (.aload_n 0, 1) := by decide +kernel
theorem dX3_island_22 : decode cX3_island 22 = .ok (.aload_n 0, 1) := by decide +kernel
theorem dX3_island_23 : decode cX3_island 23 = .ok (.getfield 58, 3) := by decide +kernel
theorem dX3_island_26 : decode cX3_island 26 = .ok (.iconst 2, 1) := by decide +kernel
theorem dX3_island_27 : decode cX3_island 27 = .ok (.isub, 1) := by decide +kernel
theorem dX3_island_28 : decode cX3_island 28 = .ok (.iconst 5, 1) := by decide +kernel
theorem dX3_island_29 : decode cX3_island 29 = .ok (.idiv, 1) := by decide +kernel
theorem dX3_island_30 : decode cX3_island 30 = .ok (.putfield 73, 3) := by decide +kernel
theorem dX3_island_33 : decode cX3_island 33 = .ok (.aload_n 0, 1) := by decide +kernel
theorem dX3_island_34 : decode cX3_island 34 = .ok (.getfield 23, 3) := by decide +kernel
theorem dX3_island_37 : decode cX3_island 37 = .ok (.invokevirtual 76, 3) := by decide +kernel
theorem dX3_island_40 : decode cX3_island 40 = .ok (.iconst 0, 1) := by decide +kernel
theorem dX3_island_41 : decode cX3_island 41 = .ok (.istore_n 1, 1) := by decide +kernel
theorem dX3_island_42 : decode cX3_island 42 = .ok (.iload_n 1, 1) := by decide +kernel
theorem dX3_island_43 : decode cX3_island 43 = .ok (.aload_n 0, 1) := by decide +kernel
theorem dX3_island_44 : decode cX3_island 44 = .ok (.getfield 73, 3) := by decide +kernel
theorem dX3_island_47 : decode cX3_island 47 = .ok (.if_icmp .ge 19, 3) := by decide +kernel
theorem dX3_island_50 : decode cX3_island 50 = .ok (.aload_n 0, 1) := by decide +kernel
theorem dX3_island_51 : decode cX3_island 51 = .ok (.iload_n 1, 1) := by decide +kernel
theorem dX3_island_52 : decode cX3_island 52 = .ok (.iconst 2, 1) := by decide +kernel
theorem dX3_island_53 : decode cX3_island 53 = .ok (.iconst 5, 1) := by decide +kernel
theorem dX3_island_54 : decode cX3_island 54 = .ok (.iload_n 1, 1) := by decide +kernel
theorem dX3_island_55 : decode cX3_island 55 = .ok (.imul, 1) := by decide +kernel
theorem dX3_island_56 : decode cX3_island 56 = .ok (.iadd, 1) := by decide +kernel
theorem dX3_island_57 : decode cX3_island 57 = .ok (.invokevirtual 79, 3) := by decide +kernel
theorem dX3_island_60 : decode cX3_island 60 = .ok (.iinc 1 1, 3) := by decide +kernel
theorem dX3_island_63 : decode cX3_island 63 = .ok (.goto (-21), 3) := by decide +kernel
theorem dX3_island_66 : decode cX3_island 66 = .ok (.aload_n 0, 1) := by decide +kernel
theorem dX3_island_67 : decode cX3_island 67 = .ok (.invokevirtual 83, 3) := by decide +kernel
theorem dX3_island_70 : decode cX3_island 70 = .ok (.iconst 0, 1) := by decide +kernel
theorem dX3_island_71 : decode cX3_island 71 = .ok (.istore_n 1, 1) := by decide +kernel
theorem dX3_island_72 : decode cX3_island 72 = .ok (.iload_n 1, 1) := by decide +kernel
theorem dX3_island_73 : decode cX3_island 73 = .ok (.aload_n 0, 1) := by decide +kernel
theorem dX3_island_74 : decode cX3_island 74 = .ok (.getfield 34, 3) := by decide +kernel
theorem dX3_island_77 : decode cX3_island 77 = .ok (.arraylength, 1) := by decide +kernel
theorem dX3_island_78 : decode cX3_island 78 = .ok (.if_icmp .ge 16, 3) := by decide +kernel
theorem dX3_island_81 : decode cX3_island 81 = .ok (.aload_n 0, 1) := by decide +kernel
theorem dX3_island_82 : decode cX3_island 82 = .ok (.getfield 34, 3) := by decide +kernel
theorem dX3_island_85 : decode cX3_island 85 = .ok (.iload_n 1, 1) := by decide +kernel
theorem dX3_island_86 : decode cX3_island 86 = .ok (.iconst 0, 1) := by decide +kernel
theorem dX3_island_87 : decode cX3_island 87 = .ok (.bastore, 1) := by decide +kernel
theorem dX3_island_88 : decode cX3_island 88 = .ok (.iinc 1 1, 3) := by decide +kernel
theorem dX3_island_91 : decode cX3_island 91 = .ok (.goto (-19), 3) := by decide +kernel
theorem dX3_island_94 : decode cX3_island 94 = .ok (.aload_n 0, 1) := by decide +kernel
theorem dX3_island_95 : decode cX3_island 95 = .ok (.getfield 73, 3) := by decide +kernel
theorem dX3_island_98 : decode cX3_island 98 = .ok (.ireturn, 1) := by decide +kernel
set_option maxRecDepth 20000 in
theorem ggX3_person_X3_isThere : GoodIn wsX3_person wsX3_isThere := goodIn_r _ [8, 9, 17, 18, 19, 20, 21, 22, 23, 24, 25, 26, 27, 28, 29, 30, 31, 32, 33, 34] (by decide +kernel) (by decide +kernel)
set_option maxRecDepth 20000 in
theorem gX3_person_X3_isThere : GoodIn wsX3_person (wsV RX3 86 RX3 yX3_isThere wsX3_isThere) := goodIn_app (goodIn_of _ (by decide +kernel)) ggX3_person_X3_isThere
set_option maxRecDepth 20000 in
theorem ggX3_person_X3_has : GoodIn wsX3_person wsX3_has := goodIn_r _ [12] (by decide +kernel) (by decide +kernel)
set_option maxRecDepth 20000 in
theorem gX3_person_X3_has : GoodIn wsX3_person (va_wsS RX3 96 yX3_has wsX3_has) := goodIn_app (goodIn_of _ (by decide +kernel)) ggX3_person_X3_has
set_option maxRecDepth 20000 in
theorem ggX3_person_X3_maySpeak : GoodIn wsX3_person wsX3_maySpeak := goodIn_r _ [16, 3, 10, 11, 7, 12, 17, 18, 19, 20, 21, 22, 23, 24, 25, 26, 27, 28, 29, 30, 31, 32, 33, 34, 39, 40, 41, 42] (by decide +kernel) (by decide +kernel)
set_option maxRecDepth 20000 in
theorem gX3_person_X3_maySpeak : GoodIn wsX3_person (wsV RX3 103 RX3 yX3_maySpeak wsX3_maySpeak) := goodIn_app (goodIn_of _ (by decide +kernel)) ggX3_person_X3_maySpeak
theorem dX3_person_0 : decode cX3_person 0 = .ok (.aload_n 0, 1) := by decide +kernel
theorem dX3_person_1 : decode cX3_person 1 = .ok (.iload_n 1, 1) := by decide +kernel
theorem dX3_person_2 : decode cX3_person 2 = .ok (.invokevirtual 86, 3) := by decide +kernel
theorem dX3_person_5 : decode cX3_person 5 = .ok (.ifCond .ne 5, 3) := by decide +kernel
theorem dX3_person_8 : decode cX3_person 8 = .ok (.iconst (-1), 1) := by decide +kernel
theorem dX3_person_9 : decode cX3_person 9 = .ok (.ireturn, 1) := by decide +kernel
theorem dX3_person_10 : decode cX3_person 10 = .ok (.iload_n 2, 1) := by decide +kernel
theorem dX3_person_11 : decode cX3_person 11 = .ok (.tableswitch 142 0 6 #[41, 48, 61, 74, 81, 101, 129], 41) := by decide +kernel
theorem dX3_person_52 : decode cX3_person 52 = .ok (.aload_n 0, 1) := by decide +kernel
theorem dX3_person_53 : decode cX3_person 53 = .ok (.getfield 13, 3) := by decide +kernel
theorem dX3_person_56 : decode cX3_person 56 = .ok (.iload_n 1, 1) := by decide +kernel
theorem dX3_person_57 : decode cX3_person 57 = .ok (.iaload, 1) := by decide +kernel
theorem dX3_person_58 : decode cX3_person 58 = .ok (.ireturn, 1) := by decide +kernel
theorem dX3_person_59 : decode cX3_person 59 = .ok (.aload_n 0, 1) := by decide +kernel
theorem dX3_person_60 : decode cX3_person 60 = .ok (.getfield 23, 3) := by decide +kernel
theorem dX3_person_63 : decode cX3_person 63 = .ok (.getfield 90, 3) := by decide +kernel
theorem dX3_person_66 : decode cX3_person 66 = .ok (.iload_n 1, 1) := by decide +kernel
theorem dX3_person_67 : decode cX3_person 67 = .ok (.iaload, 1) := by decide +kernel
theorem dX3_person_68 : decode cX3_person 68 = .ok (.bipush 10, 2) := by decide +kernel
theorem dX3_person_70 : decode cX3_person 70 = .ok (.idiv, 1) := by decide +kernel
theorem dX3_person_71 : decode cX3_person 71 = .ok (.ireturn, 1) := by decide +kernel
theorem dX3_person_72 : decode cX3_person 72 = .ok (.aload_n 0, 1) := by decide +kernel
theorem dX3_person_73 : decode cX3_person 73 = .ok (.getfield 23, 3) := by decide +kernel
theorem dX3_person_76 : decode cX3_person 76 = .ok (.getfield 90, 3) := by decide +kernel
theorem dX3_person_79 : decode cX3_person 79 = .ok (.iload_n 1, 1) := by decide +kernel
theorem dX3_person_80 : decode cX3_person 80 = .ok (.iaload, 1) := by decide +kernel
theorem dX3_person_81 : decode cX3_person 81 = .ok (.bipush 10, 2) := by decide +kernel
theorem dX3_person_83 : decode cX3_person 83 = .ok (.irem, 1) := by decide +kernel
theorem dX3_person_84 : decode cX3_person 84 = .ok (.ireturn, 1) := by decide +kernel
theorem dX3_person_85 : decode cX3_person 85 = .ok (.aload_n 0, 1) := by decide +kernel
theorem dX3_person_86 : decode cX3_person 86 = .ok (.getfield 17, 3) := by decide +kernel
theorem dX3_person_89 : decode cX3_person 89 = .ok (.iload_n 1, 1) := by decide +kernel
theorem dX3_person_90 : decode cX3_person 90 = .ok (.iaload, 1) := by decide +kernel
theorem dX3_person_91 : decode cX3_person 91 = .ok (.ireturn, 1) := by decide +kernel
theorem dX3_person_92 : decode cX3_person 92 = .ok (.aload_n 0, 1) := by decide +kernel
theorem dX3_person_93 : decode cX3_person 93 = .ok (.getfield 23, 3) := by decide +kernel
theorem dX3_person_96 : decode cX3_person 96 = .ok (.getfield 93, 3) := by decide +kernel
theorem dX3_person_99 : decode cX3_person 99 = .ok (.iload_n 1, 1) := by decide +kernel
theorem dX3_person_100 : decode cX3_person 100 = .ok (.invokestatic 96, 3) := by decide +kernel
theorem dX3_person_103 : decode cX3_person 103 = .ok (.ifCond .eq 7, 3) := by decide +kernel
theorem dX3_person_106 : decode cX3_person 106 = .ok (.iconst 1, 1) := by decide +kernel
theorem dX3_person_107 : decode cX3_person 107 = .ok (.goto 4, 3) := by decide +kernel
theorem dX3_person_110 : decode cX3_person 110 = .ok (.iconst 0, 1) := by decide +kernel
theorem dX3_person_111 : decode cX3_person 111 = .ok (.ireturn, 1) := by decide +kernel
theorem dX3_person_112 : decode cX3_person 112 = .ok (.aload_n 0, 1) := by decide +kernel
theorem dX3_person_113 : decode cX3_person 113 = .ok (.aload_n 0, 1) := by decide +kernel
theorem dX3_person_114 : decode cX3_person 114 = .ok (.getfield 23, 3) := by decide +kernel
theorem dX3_person_117 : decode cX3_person 117 = .ok (.getfield 100, 3) := by decide +kernel
theorem dX3_person_120 : decode cX3_person 120 = .ok (.aload_n 0, 1) := by decide +kernel
theorem dX3_person_121 : decode cX3_person 121 = .ok (.getfield 23, 3) := by decide +kernel
theorem dX3_person_124 : decode cX3_person 124 = .ok (.getfield 93, 3) := by decide +kernel
theorem dX3_person_127 : decode cX3_person 127 = .ok (.iload_n 1, 1) := by decide +kernel
theorem dX3_person_128 : decode cX3_person 128 = .ok (.invokevirtual 103, 3) := by decide +kernel
theorem dX3_person_131 : decode cX3_person 131 = .ok (.ifCond .eq 7, 3) := by decide +kernel
theorem dX3_person_134 : decode cX3_person 134 = .ok (.iconst 1, 1) := by decide +kernel
theorem dX3_person_135 : decode cX3_person 135 = .ok (.goto 4, 3) := by decide +kernel
theorem dX3_person_138 : decode cX3_person 138 = .ok (.iconst 0, 1) := by decide +kernel
theorem dX3_person_139 : decode cX3_person 139 = .ok (.ireturn, 1) := by decide +kernel
theorem dX3_person_140 : decode cX3_person 140 = .ok (.aload_n 0, 1) := by decide +kernel
theorem dX3_person_141 : decode cX3_person 141 = .ok (.getfield 23, 3) := by decide +kernel
theorem dX3_person_144 : decode cX3_person 144 = .ok (.getfield 100, 3) := by decide +kernel
theorem dX3_person_147 : decode cX3_person 147 = .ok (.getfield 107, 3) := by decide +kernel
theorem dX3_person_150 : decode cX3_person 150 = .ok (.iload_n 1, 1) := by decide +kernel
theorem dX3_person_151 : decode cX3_person 151 = .ok (.iaload, 1) := by decide +kernel
theorem dX3_person_152 : decode cX3_person 152 = .ok (.ireturn, 1) := by decide +kernel
theorem dX3_person_153 : decode cX3_person 153 = .ok (.bipush (-2), 2) := by decide +kernel
theorem dX3_person_155 : decode cX3_person 155 = .ok (.ireturn, 1) := by decide +kernel
set_option maxRecDepth 20000 in
theorem ggX3_fetch_X3_isThere : GoodIn wsX3_fetch wsX3_isThere := goodIn_r _ [6, 7, 44, 45, 46, 47, 48, 49, 50, 51, 52, 53, 54, 55, 56, 57, 58, 59, 60, 61] (by decide +kernel) (by decide +kernel)
set_option maxRecDepth 20000 in
theorem gX3_fetch_X3_isThere : GoodIn wsX3_fetch (wsV RX3 86 RX3 yX3_isThere wsX3_isThere) := goodIn_app (goodIn_of _ (by decide +kernel)) ggX3_fetch_X3_isThere
set_option maxRecDepth 20000 in
theorem ggX3_fetch_X3_has : GoodIn wsX3_fetch wsX3_has := goodIn_r _ [10] (by decide +kernel) (by decide +kernel)
set_option maxRecDepth 20000 in
theorem gX3_fetch_X3_has : GoodIn wsX3_fetch (va_wsS RX3 96 yX3_has wsX3_has) := goodIn_app (goodIn_of _ (by decide +kernel)) ggX3_fetch_X3_has
set_option maxRecDepth 20000 in
theorem ggX3_fetch_X3_remember : GoodIn wsX3_fetch wsX3_remember := goodIn_r _ [14, 15, 16, 17, 1, 18, 19, 20, 21, 22, 23, 24, 25, 26, 27, 28, 29, 30, 31, 32, 33, 44, 45, 46, 47, 48, 49, 50, 51, 52, 53, 54, 55, 56, 57, 58, 59, 60, 61, 62, 63, 64, 65, 66, 67, 68, 69] (by decide +kernel) (by decide +kernel)
set_option maxRecDepth 20000 in
theorem gX3_fetch_X3_remember : GoodIn wsX3_fetch (wsV RX3 110 RX3 yX3_remember wsX3_remember) := goodIn_app (goodIn_of _ (by decide +kernel)) ggX3_fetch_X3_remember
set_option maxRecDepth 20000 in
theorem ggX3_fetch_X3_hoursFrom : GoodIn wsX3_fetch wsX3_hoursFrom := goodIn_r _ [37, 38, 39, 40, 41, 42, 43, 2, 3, 4, 5, 6, 7, 44, 45, 46, 47, 48, 49, 50, 51, 52, 53, 54, 55, 56, 57, 58, 59, 60, 61] (by decide +kernel) (by decide +kernel)
set_option maxRecDepth 20000 in
theorem gX3_fetch_X3_hoursFrom : GoodIn wsX3_fetch (wsV RX3 116 RX3 yX3_hoursFrom wsX3_hoursFrom) := goodIn_app (goodIn_of _ (by decide +kernel)) ggX3_fetch_X3_hoursFrom
theorem dX3_fetch_0 : decode cX3_fetch 0 = .ok (.aload_n 0, 1) := by decide +kernel
theorem dX3_fetch_1 : decode cX3_fetch 1 = .ok (.iload_n 1, 1) := by decide +kernel
theorem dX3_fetch_2 : decode cX3_fetch 2 = .ok (.invokevirtual 86, 3) := by decide +kernel
theorem dX3_fetch_5 : decode cX3_fetch 5 = .ok (.ifCond .ne 5, 3) := by decide +kernel
theorem dX3_fetch_8 : decode cX3_fetch 8 = .ok (.iconst (-1), 1) := by decide +kernel
theorem dX3_fetch_9 : decode cX3_fetch 9 = .ok (.ireturn, 1) := by decide +kernel
theorem dX3_fetch_10 : decode cX3_fetch 10 = .ok (.aload_n 0, 1) := by decide +kernel
theorem dX3_fetch_11 : decode cX3_fetch 11 = .ok (.getfield 23, 3) := by decide +kernel
theorem dX3_fetch_14 : decode cX3_fetch 14 = .ok (.getfield 93, 3) := by decide +kernel
theorem dX3_fetch_17 : decode cX3_fetch 17 = .ok (.iload_n 1, 1) := by decide +kernel
theorem dX3_fetch_18 : decode cX3_fetch 18 = .ok (.invokestatic 96, 3) := by decide +kernel
theorem dX3_fetch_21 : decode cX3_fetch 21 = .ok (.ifCond .eq 6, 3) := by decide +kernel
theorem dX3_fetch_24 : decode cX3_fetch 24 = .ok (.bipush (-3), 2) := by decide +kernel
theorem dX3_fetch_26 : decode cX3_fetch 26 = .ok (.ireturn, 1) := by decide +kernel
theorem dX3_fetch_27 : decode cX3_fetch 27 = .ok (.aload_n 0, 1) := by decide +kernel
theorem dX3_fetch_28 : decode cX3_fetch 28 = .ok (.invokevirtual 110, 3) := by decide +kernel
theorem dX3_fetch_31 : decode cX3_fetch 31 = .ok (.aload_n 0, 1) := by decide +kernel
theorem dX3_fetch_32 : decode cX3_fetch 32 = .ok (.getfield 23, 3) := by decide +kernel
theorem dX3_fetch_35 : decode cX3_fetch 35 = .ok (.dup, 1) := by decide +kernel
theorem dX3_fetch_36 : decode cX3_fetch 36 = .ok (.getfield 93, 3) := by decide +kernel
theorem dX3_fetch_39 : decode cX3_fetch 39 = .ok (.iconst 1, 1) := by decide +kernel
theorem dX3_fetch_40 : decode cX3_fetch 40 = .ok (.iload_n 1, 1) := by decide +kernel
theorem dX3_fetch_41 : decode cX3_fetch 41 = .ok (.ishl, 1) := by decide +kernel
theorem dX3_fetch_42 : decode cX3_fetch 42 = .ok (.ior, 1) := by decide +kernel
theorem dX3_fetch_43 : decode cX3_fetch 43 = .ok (.putfield 93, 3) := by decide +kernel
theorem dX3_fetch_46 : decode cX3_fetch 46 = .ok (.aload_n 0, 1) := by decide +kernel
theorem dX3_fetch_47 : decode cX3_fetch 47 = .ok (.getfield 23, 3) := by decide +kernel
theorem dX3_fetch_50 : decode cX3_fetch 50 = .ok (.dup, 1) := by decide +kernel
theorem dX3_fetch_51 : decode cX3_fetch 51 = .ok (.getfield 113, 3) := by decide +kernel
theorem dX3_fetch_54 : decode cX3_fetch 54 = .ok (.aload_n 0, 1) := by decide +kernel
theorem dX3_fetch_55 : decode cX3_fetch 55 = .ok (.iload_n 1, 1) := by decide +kernel
theorem dX3_fetch_56 : decode cX3_fetch 56 = .ok (.invokevirtual 116, 3) := by decide +kernel
theorem dX3_fetch_59 : decode cX3_fetch 59 = .ok (.iadd, 1) := by decide +kernel
theorem dX3_fetch_60 : decode cX3_fetch 60 = .ok (.putfield 113, 3) := by decide +kernel
theorem dX3_fetch_63 : decode cX3_fetch 63 = .ok (.aload_n 0, 1) := by decide +kernel
theorem dX3_fetch_64 : decode cX3_fetch 64 = .ok (.getfield 23, 3) := by decide +kernel
theorem dX3_fetch_67 : decode cX3_fetch 67 = .ok (.getfield 113, 3) := by decide +kernel
theorem dX3_fetch_70 : decode cX3_fetch 70 = .ok (.ireturn, 1) := by decide +kernel
set_option maxRecDepth 20000 in
theorem ggX3_send_X3_isThere : GoodIn wsX3_send wsX3_isThere := goodIn_r _ [8, 9, 43, 44, 45, 46, 47, 48, 49, 50, 51, 52, 53, 54, 55, 56, 57, 58, 59, 60] (by decide +kernel) (by decide +kernel)
set_option maxRecDepth 20000 in
theorem gX3_send_X3_isThere : GoodIn wsX3_send (wsV RX3 86 RX3 yX3_isThere wsX3_isThere) := goodIn_app (goodIn_of _ (by decide +kernel)) ggX3_send_X3_isThere
set_option maxRecDepth 20000 in
theorem ggX3_send_X3_has : GoodIn wsX3_send wsX3_has := goodIn_r _ [12] (by decide +kernel) (by decide +kernel)
set_option maxRecDepth 20000 in
theorem gX3_send_X3_has : GoodIn wsX3_send (va_wsS RX3 96 yX3_has wsX3_has) := goodIn_app (goodIn_of _ (by decide +kernel)) ggX3_send_X3_has
set_option maxRecDepth 20000 in
theorem ggX3_send_X3_remember : GoodIn wsX3_send wsX3_remember := goodIn_r _ [16, 17, 18, 19, 1, 20, 21, 22, 23, 24, 25, 26, 27, 28, 29, 30, 31, 32, 33, 34, 35, 43, 44, 45, 46, 47, 48, 49, 50, 51, 52, 53, 54, 55, 56, 57, 58, 59, 60, 61, 62, 63, 64, 65, 66, 67, 68] (by decide +kernel) (by decide +kernel)
set_option maxRecDepth 20000 in
theorem gX3_send_X3_remember : GoodIn wsX3_send (wsV RX3 110 RX3 yX3_remember wsX3_remember) := goodIn_app (goodIn_of _ (by decide +kernel)) ggX3_send_X3_remember
set_option maxRecDepth 20000 in
theorem ggX3_send_J6_bitCount_0f7a4 : GoodIn wsX3_send wsJ6_bitCount_0f7a4 := goodIn_r _ [39, 40, 41, 42] (by decide +kernel) (by decide +kernel)
set_option maxRecDepth 20000 in
theorem gX3_send_J6_bitCount_0f7a4 : GoodIn wsX3_send (va_wsS RX3 119 yJ6_bitCount_0f7a4 wsJ6_bitCount_0f7a4) := goodIn_app (goodIn_of _ (by decide +kernel)) ggX3_send_J6_bitCount_0f7a4
theorem dX3_send_0 : decode cX3_send 0 = .ok (.aload_n 0, 1) := by decide +kernel
theorem dX3_send_1 : decode cX3_send 1 = .ok (.iload_n 1, 1) := by decide +kernel
theorem dX3_send_2 : decode cX3_send 2 = .ok (.invokevirtual 86, 3) := by decide +kernel
theorem dX3_send_5 : decode cX3_send 5 = .ok (.ifCond .ne 5, 3) := by decide +kernel
theorem dX3_send_8 : decode cX3_send 8 = .ok (.iconst (-1), 1) := by decide +kernel
theorem dX3_send_9 : decode cX3_send 9 = .ok (.ireturn, 1) := by decide +kernel
theorem dX3_send_10 : decode cX3_send 10 = .ok (.aload_n 0, 1) := by decide +kernel
theorem dX3_send_11 : decode cX3_send 11 = .ok (.getfield 23, 3) := by decide +kernel
theorem dX3_send_14 : decode cX3_send 14 = .ok (.getfield 93, 3) := by decide +kernel
theorem dX3_send_17 : decode cX3_send 17 = .ok (.iload_n 1, 1) := by decide +kernel
theorem dX3_send_18 : decode cX3_send 18 = .ok (.invokestatic 96, 3) := by decide +kernel
theorem dX3_send_21 : decode cX3_send 21 = .ok (.ifCond .eq 16, 3) := by decide +kernel
theorem dX3_send_24 : decode cX3_send 24 = .ok (.aload_n 0, 1) := by decide +kernel
theorem dX3_send_25 : decode cX3_send 25 = .ok (.getfield 13, 3) := by decide +kernel
theorem dX3_send_28 : decode cX3_send 28 = .ok (.iload_n 1, 1) := by decide +kernel
theorem dX3_send_29 : decode cX3_send 29 = .ok (.iaload, 1) := by decide +kernel
theorem dX3_send_30 : decode cX3_send 30 = .ok (.aload_n 0, 1) := by decide +kernel
theorem dX3_send_31 : decode cX3_send 31 = .ok (.getfield 70, 3) := by decide +kernel
theorem dX3_send_34 : decode cX3_send 34 = .ok (.if_icmp .ne 6, 3) := by decide +kernel
theorem dX3_send_37 : decode cX3_send 37 = .ok (.bipush (-3), 2) := by decide +kernel
theorem dX3_send_39 : decode cX3_send 39 = .ok (.ireturn, 1) := by decide +kernel
theorem dX3_send_40 : decode cX3_send 40 = .ok (.aload_n 0, 1) := by decide +kernel
theorem dX3_send_41 : decode cX3_send 41 = .ok (.invokevirtual 110, 3) := by decide +kernel
theorem dX3_send_44 : decode cX3_send 44 = .ok (.aload_n 0, 1) := by decide +kernel
theorem dX3_send_45 : decode cX3_send 45 = .ok (.getfield 23, 3) := by decide +kernel
theorem dX3_send_48 : decode cX3_send 48 = .ok (.dup, 1) := by decide +kernel
theorem dX3_send_49 : decode cX3_send 49 = .ok (.getfield 93, 3) := by decide +kernel
theorem dX3_send_52 : decode cX3_send 52 = .ok (.iconst 1, 1) := by decide +kernel
theorem dX3_send_53 : decode cX3_send 53 = .ok (.iload_n 1, 1) := by decide +kernel
theorem dX3_send_54 : decode cX3_send 54 = .ok (.ishl, 1) := by decide +kernel
theorem dX3_send_55 : decode cX3_send 55 = .ok (.iconst (-1), 1) := by decide +kernel
theorem dX3_send_56 : decode cX3_send 56 = .ok (.ixor, 1) := by decide +kernel
theorem dX3_send_57 : decode cX3_send 57 = .ok (.iand, 1) := by decide +kernel
theorem dX3_send_58 : decode cX3_send 58 = .ok (.putfield 93, 3) := by decide +kernel
theorem dX3_send_61 : decode cX3_send 61 = .ok (.aload_n 0, 1) := by decide +kernel
theorem dX3_send_62 : decode cX3_send 62 = .ok (.getfield 23, 3) := by decide +kernel
theorem dX3_send_65 : decode cX3_send 65 = .ok (.getfield 93, 3) := by decide +kernel
theorem dX3_send_68 : decode cX3_send 68 = .ok (.invokestatic 119, 3) := by decide +kernel
theorem dX3_send_71 : decode cX3_send 71 = .ok (.ireturn, 1) := by decide +kernel
set_option maxRecDepth 20000 in
theorem ggX3_say_X3_isThere : GoodIn wsX3_say wsX3_isThere := goodIn_r _ [6, 7, 54, 55, 56, 57, 58, 59, 60, 61, 62, 63, 64, 65, 66, 67, 68, 69, 70, 71] (by decide +kernel) (by decide +kernel)
set_option maxRecDepth 20000 in
theorem gX3_say_X3_isThere : GoodIn wsX3_say (wsV RX3 86 RX3 yX3_isThere wsX3_isThere) := goodIn_app (goodIn_of _ (by decide +kernel)) ggX3_say_X3_isThere
set_option maxRecDepth 20000 in
theorem ggX3_say_X3_maySpeak : GoodIn wsX3_say wsX3_maySpeak := goodIn_r _ [11, 12, 13, 14, 5, 15, 54, 55, 56, 57, 58, 59, 60, 61, 62, 63, 64, 65, 66, 67, 68, 69, 70, 71, 76, 77, 78, 79] (by decide +kernel) (by decide +kernel)
set_option maxRecDepth 20000 in
theorem gX3_say_X3_maySpeak : GoodIn wsX3_say (wsV RX3 103 RX3 yX3_maySpeak wsX3_maySpeak) := goodIn_app (goodIn_of _ (by decide +kernel)) ggX3_say_X3_maySpeak
set_option maxRecDepth 20000 in
theorem ggX3_say_X3_remember : GoodIn wsX3_say wsX3_remember := goodIn_r _ [19, 20, 21, 22, 1, 23, 24, 25, 26, 27, 28, 29, 30, 31, 32, 33, 34, 35, 36, 37, 38, 54, 55, 56, 57, 58, 59, 60, 61, 62, 63, 64, 65, 66, 67, 68, 69, 70, 71, 72, 73, 74, 75, 76, 77, 78, 79] (by decide +kernel) (by decide +kernel)
set_option maxRecDepth 20000 in
theorem gX3_say_X3_remember : GoodIn wsX3_say (wsV RX3 110 RX3 yX3_remember wsX3_remember) := goodIn_app (goodIn_of _ (by decide +kernel)) ggX3_say_X3_remember
set_option maxRecDepth 20000 in
theorem ggX3_say_X3_speak : GoodIn wsX3_say wsX3_speak := goodIn_r _ [42, 12, 43, 44, 45, 5, 46, 47, 1, 48, 32, 49, 50, 37, 35, 36, 38, 51, 52, 53, 54, 55, 56, 57, 58, 59, 60, 61, 62, 63, 64, 65, 66, 67, 68, 69, 70, 71, 72, 73, 74, 75, 76, 77, 78, 79] (by decide +kernel) (by decide +kernel)
set_option maxRecDepth 20000 in
theorem gX3_say_X3_speak : GoodIn wsX3_say (wsV RX3 124 RX3 yX3_speak wsX3_speak) := goodIn_app (goodIn_of _ (by decide +kernel)) ggX3_say_X3_speak
theorem dX3_say_0 : decode cX3_say 0 = .ok (.aload_n 0, 1) := by decide +kernel
theorem dX3_say_1 : decode cX3_say 1 = .ok (.iload_n 1, 1) := by decide +kernel
theorem dX3_say_2 : decode cX3_say 2 = .ok (.invokevirtual 86, 3) := by decide +kernel
theorem dX3_say_5 : decode cX3_say 5 = .ok (.ifCond .ne 5, 3) := by decide +kernel
theorem dX3_say_8 : decode cX3_say 8 = .ok (.iconst (-1), 1) := by decide +kernel
theorem dX3_say_9 : decode cX3_say 9 = .ok (.ireturn, 1) := by decide +kernel
theorem dX3_say_10 : decode cX3_say 10 = .ok (.aload_n 0, 1) := by decide +kernel
theorem dX3_say_11 : decode cX3_say 11 = .ok (.aload_n 0, 1) := by decide +kernel
theorem dX3_say_12 : decode cX3_say 12 = .ok (.getfield 23, 3) := by decide +kernel
theorem dX3_say_15 : decode cX3_say 15 = .ok (.getfield 100, 3) := by decide +kernel
theorem dX3_say_18 : decode cX3_say 18 = .ok (.aload_n 0, 1) := by decide +kernel
theorem dX3_say_19 : decode cX3_say 19 = .ok (.getfield 23, 3) := by decide +kernel
theorem dX3_say_22 : decode cX3_say 22 = .ok (.getfield 93, 3) := by decide +kernel
theorem dX3_say_25 : decode cX3_say 25 = .ok (.iload_n 1, 1) := by decide +kernel
theorem dX3_say_26 : decode cX3_say 26 = .ok (.invokevirtual 103, 3) := by decide +kernel
theorem dX3_say_29 : decode cX3_say 29 = .ok (.ifCond .ne 6, 3) := by decide +kernel
theorem dX3_say_32 : decode cX3_say 32 = .ok (.bipush (-3), 2) := by decide +kernel
theorem dX3_say_34 : decode cX3_say 34 = .ok (.ireturn, 1) := by decide +kernel
theorem dX3_say_35 : decode cX3_say 35 = .ok (.aload_n 0, 1) := by decide +kernel
theorem dX3_say_36 : decode cX3_say 36 = .ok (.invokevirtual 110, 3) := by decide +kernel
theorem dX3_say_39 : decode cX3_say 39 = .ok (.aload_n 0, 1) := by decide +kernel
theorem dX3_say_40 : decode cX3_say 40 = .ok (.aload_n 0, 1) := by decide +kernel
theorem dX3_say_41 : decode cX3_say 41 = .ok (.getfield 23, 3) := by decide +kernel
theorem dX3_say_44 : decode cX3_say 44 = .ok (.getfield 100, 3) := by decide +kernel
theorem dX3_say_47 : decode cX3_say 47 = .ok (.iload_n 1, 1) := by decide +kernel
theorem dX3_say_48 : decode cX3_say 48 = .ok (.invokevirtual 124, 3) := by decide +kernel
theorem dX3_say_51 : decode cX3_say 51 = .ok (.aload_n 0, 1) := by decide +kernel
theorem dX3_say_52 : decode cX3_say 52 = .ok (.getfield 23, 3) := by decide +kernel
theorem dX3_say_55 : decode cX3_say 55 = .ok (.dup, 1) := by decide +kernel
theorem dX3_say_56 : decode cX3_say 56 = .ok (.getfield 113, 3) := by decide +kernel
theorem dX3_say_59 : decode cX3_say 59 = .ok (.iconst 1, 1) := by decide +kernel
theorem dX3_say_60 : decode cX3_say 60 = .ok (.iadd, 1) := by decide +kernel
theorem dX3_say_61 : decode cX3_say 61 = .ok (.putfield 113, 3) := by decide +kernel
theorem dX3_say_64 : decode cX3_say 64 = .ok (.aload_n 0, 1) := by decide +kernel
theorem dX3_say_65 : decode cX3_say 65 = .ok (.getfield 23, 3) := by decide +kernel
theorem dX3_say_68 : decode cX3_say 68 = .ok (.getfield 100, 3) := by decide +kernel
theorem dX3_say_71 : decode cX3_say 71 = .ok (.getfield 128, 3) := by decide +kernel
theorem dX3_say_74 : decode cX3_say 74 = .ok (.ireturn, 1) := by decide +kernel
set_option maxRecDepth 20000 in
theorem ggX3_name_X3_isThere : GoodIn wsX3_name wsX3_isThere := goodIn_r _ [6, 7, 31, 32, 33, 34, 35, 36, 37, 38, 39, 40, 41, 42, 43, 44, 45, 46, 47, 48] (by decide +kernel) (by decide +kernel)
set_option maxRecDepth 20000 in
theorem gX3_name_X3_isThere : GoodIn wsX3_name (wsV RX3 86 RX3 yX3_isThere wsX3_isThere) := goodIn_app (goodIn_of _ (by decide +kernel)) ggX3_name_X3_isThere
set_option maxRecDepth 20000 in
theorem ggX3_name_X3_remember : GoodIn wsX3_name wsX3_remember := goodIn_r _ [11, 12, 13, 14, 1, 15, 16, 17, 18, 19, 20, 21, 22, 23, 24, 25, 26, 27, 28, 29, 30, 31, 32, 33, 34, 35, 36, 37, 38, 39, 40, 41, 42, 43, 44, 45, 46, 47, 48, 49, 50, 51, 52, 53, 54, 55, 56] (by decide +kernel) (by decide +kernel)
set_option maxRecDepth 20000 in
theorem gX3_name_X3_remember : GoodIn wsX3_name (wsV RX3 110 RX3 yX3_remember wsX3_remember) := goodIn_app (goodIn_of _ (by decide +kernel)) ggX3_name_X3_remember
theorem dX3_name_0 : decode cX3_name 0 = .ok (.aload_n 0, 1) := by decide +kernel
theorem dX3_name_1 : decode cX3_name 1 = .ok (.iload_n 1, 1) := by decide +kernel
theorem dX3_name_2 : decode cX3_name 2 = .ok (.invokevirtual 86, 3) := by decide +kernel
theorem dX3_name_5 : decode cX3_name 5 = .ok (.ifCond .ne 5, 3) := by decide +kernel
theorem dX3_name_8 : decode cX3_name 8 = .ok (.iconst (-1), 1) := by decide +kernel
theorem dX3_name_9 : decode cX3_name 9 = .ok (.ireturn, 1) := by decide +kernel
theorem dX3_name_10 : decode cX3_name 10 = .ok (.iload_n 2, 1) := by decide +kernel
theorem dX3_name_11 : decode cX3_name 11 = .ok (.ifCond .lt 18, 3) := by decide +kernel
theorem dX3_name_14 : decode cX3_name 14 = .ok (.iload_n 2, 1) := by decide +kernel
theorem dX3_name_15 : decode cX3_name 15 = .ok (.iconst 3, 1) := by decide +kernel
theorem dX3_name_16 : decode cX3_name 16 = .ok (.if_icmp .gt 13, 3) := by decide +kernel
theorem dX3_name_19 : decode cX3_name 19 = .ok (.iload_n 3, 1) := by decide +kernel
theorem dX3_name_20 : decode cX3_name 20 = .ok (.ifCond .lt 9, 3) := by decide +kernel
theorem dX3_name_23 : decode cX3_name 23 = .ok (.iload_n 3, 1) := by decide +kernel
theorem dX3_name_24 : decode cX3_name 24 = .ok (.bipush 9, 2) := by decide +kernel
theorem dX3_name_26 : decode cX3_name 26 = .ok (.if_icmp .le 6, 3) := by decide +kernel
theorem dX3_name_29 : decode cX3_name 29 = .ok (.bipush (-2), 2) := by decide +kernel
theorem dX3_name_31 : decode cX3_name 31 = .ok (.ireturn, 1) := by decide +kernel
theorem dX3_name_32 : decode cX3_name 32 = .ok (.aload_n 0, 1) := by decide +kernel
theorem dX3_name_33 : decode cX3_name 33 = .ok (.getfield 23, 3) := by decide +kernel
theorem dX3_name_36 : decode cX3_name 36 = .ok (.getfield 90, 3) := by decide +kernel
theorem dX3_name_39 : decode cX3_name 39 = .ok (.iload_n 1, 1) := by decide +kernel
theorem dX3_name_40 : decode cX3_name 40 = .ok (.iaload, 1) := by decide +kernel
theorem dX3_name_41 : decode cX3_name 41 = .ok (.istore 4, 2) := by decide +kernel
theorem dX3_name_43 : decode cX3_name 43 = .ok (.iload 4, 2) := by decide +kernel
theorem dX3_name_45 : decode cX3_name 45 = .ok (.bipush 10, 2) := by decide +kernel
theorem dX3_name_47 : decode cX3_name 47 = .ok (.iload_n 2, 1) := by decide +kernel
theorem dX3_name_48 : decode cX3_name 48 = .ok (.imul, 1) := by decide +kernel
theorem dX3_name_49 : decode cX3_name 49 = .ok (.iload_n 3, 1) := by decide +kernel
theorem dX3_name_50 : decode cX3_name 50 = .ok (.iadd, 1) := by decide +kernel
theorem dX3_name_51 : decode cX3_name 51 = .ok (.if_icmp .ne 6, 3) := by decide +kernel
theorem dX3_name_54 : decode cX3_name 54 = .ok (.bipush (-3), 2) := by decide +kernel
theorem dX3_name_56 : decode cX3_name 56 = .ok (.ireturn, 1) := by decide +kernel
theorem dX3_name_57 : decode cX3_name 57 = .ok (.aload_n 0, 1) := by decide +kernel
theorem dX3_name_58 : decode cX3_name 58 = .ok (.invokevirtual 110, 3) := by decide +kernel
theorem dX3_name_61 : decode cX3_name 61 = .ok (.aload_n 0, 1) := by decide +kernel
theorem dX3_name_62 : decode cX3_name 62 = .ok (.getfield 23, 3) := by decide +kernel
theorem dX3_name_65 : decode cX3_name 65 = .ok (.getfield 90, 3) := by decide +kernel
theorem dX3_name_68 : decode cX3_name 68 = .ok (.iload_n 1, 1) := by decide +kernel
theorem dX3_name_69 : decode cX3_name 69 = .ok (.bipush 10, 2) := by decide +kernel
theorem dX3_name_71 : decode cX3_name 71 = .ok (.iload_n 2, 1) := by decide +kernel
theorem dX3_name_72 : decode cX3_name 72 = .ok (.imul, 1) := by decide +kernel
theorem dX3_name_73 : decode cX3_name 73 = .ok (.iload_n 3, 1) := by decide +kernel
theorem dX3_name_74 : decode cX3_name 74 = .ok (.iadd, 1) := by decide +kernel
theorem dX3_name_75 : decode cX3_name 75 = .ok (.iastore, 1) := by decide +kernel
theorem dX3_name_76 : decode cX3_name 76 = .ok (.iload 4, 2) := by decide +kernel
theorem dX3_name_78 : decode cX3_name 78 = .ok (.ireturn, 1) := by decide +kernel
set_option maxRecDepth 20000 in
theorem ggX3_undo_X0_become : GoodIn wsX3_undo wsX0_become := goodIn_r _ [8, 9, 10, 11, 12, 13, 14, 15, 16, 17, 18, 19, 20, 39, 40, 41, 42, 43, 44, 45, 46] (by decide +kernel) (by decide +kernel)
set_option maxRecDepth 20000 in
theorem gX3_undo_X0_become_n137 : GoodIn wsX3_undo (wsX0_become) := ggX3_undo_X0_become
theorem dX3_undo_0 : decode cX3_undo 0 = .ok (.aload_n 0, 1) := by decide +kernel
theorem dX3_undo_1 : decode cX3_undo 1 = .ok (.getfield 131, 3) := by decide +kernel
theorem dX3_undo_4 : decode cX3_undo 4 = .ok (.ifCond .gt 6, 3) := by decide +kernel
theorem dX3_undo_7 : decode cX3_undo 7 = .ok (.bipush (-3), 2) := by decide +kernel
theorem dX3_undo_9 : decode cX3_undo 9 = .ok (.ireturn, 1) := by decide +kernel
theorem dX3_undo_10 : decode cX3_undo 10 = .ok (.aload_n 0, 1) := by decide +kernel
theorem dX3_undo_11 : decode cX3_undo 11 = .ok (.dup, 1) := by decide +kernel
theorem dX3_undo_12 : decode cX3_undo 12 = .ok (.getfield 131, 3) := by decide +kernel
theorem dX3_undo_15 : decode cX3_undo 15 = .ok (.iconst 1, 1) := by decide +kernel
theorem dX3_undo_16 : decode cX3_undo 16 = .ok (.isub, 1) := by decide +kernel
theorem dX3_undo_17 : decode cX3_undo 17 = .ok (.putfield 131, 3) := by decide +kernel
theorem dX3_undo_20 : decode cX3_undo 20 = .ok (.aload_n 0, 1) := by decide +kernel
theorem dX3_undo_21 : decode cX3_undo 21 = .ok (.getfield 134, 3) := by decide +kernel
theorem dX3_undo_24 : decode cX3_undo 24 = .ok (.aload_n 0, 1) := by decide +kernel
theorem dX3_undo_25 : decode cX3_undo 25 = .ok (.getfield 131, 3) := by decide +kernel
theorem dX3_undo_28 : decode cX3_undo 28 = .ok (.iadd, 1) := by decide +kernel
theorem dX3_undo_29 : decode cX3_undo 29 = .ok (.bipush 14, 2) := by decide +kernel
theorem dX3_undo_31 : decode cX3_undo 31 = .ok (.irem, 1) := by decide +kernel
theorem dX3_undo_32 : decode cX3_undo 32 = .ok (.istore_n 1, 1) := by decide +kernel
theorem dX3_undo_33 : decode cX3_undo 33 = .ok (.iload_n 1, 1) := by decide +kernel
theorem dX3_undo_34 : decode cX3_undo 34 = .ok (.ifCond .lt 25, 3) := by decide +kernel
theorem dX3_undo_37 : decode cX3_undo 37 = .ok (.iload_n 1, 1) := by decide +kernel
theorem dX3_undo_38 : decode cX3_undo 38 = .ok (.aload_n 0, 1) := by decide +kernel
theorem dX3_undo_39 : decode cX3_undo 39 = .ok (.getfield 27, 3) := by decide +kernel
theorem dX3_undo_42 : decode cX3_undo 42 = .ok (.arraylength, 1) := by decide +kernel
theorem dX3_undo_43 : decode cX3_undo 43 = .ok (.if_icmp .ge 16, 3) := by decide +kernel
theorem dX3_undo_46 : decode cX3_undo 46 = .ok (.aload_n 0, 1) := by decide +kernel
theorem dX3_undo_47 : decode cX3_undo 47 = .ok (.getfield 23, 3) := by decide +kernel
theorem dX3_undo_50 : decode cX3_undo 50 = .ok (.aload_n 0, 1) := by decide +kernel
theorem dX3_undo_51 : decode cX3_undo 51 = .ok (.getfield 27, 3) := by decide +kernel
theorem dX3_undo_54 : decode cX3_undo 54 = .ok (.iload_n 1, 1) := by decide +kernel
theorem dX3_undo_55 : decode cX3_undo 55 = .ok (.aaload, 1) := by decide +kernel
theorem dX3_undo_56 : decode cX3_undo 56 = .ok (.invokevirtual 137, 3) := by decide +kernel
theorem dX3_undo_59 : decode cX3_undo 59 = .ok (.aload_n 0, 1) := by decide +kernel
theorem dX3_undo_60 : decode cX3_undo 60 = .ok (.getfield 131, 3) := by decide +kernel
theorem dX3_undo_63 : decode cX3_undo 63 = .ok (.ireturn, 1) := by decide +kernel
set_option maxRecDepth 20000 in
theorem ggX3_comesTo_X3_power : GoodIn wsX3_comesTo wsX3_power := goodIn_r _ [6] (by decide +kernel) (by decide +kernel)
set_option maxRecDepth 20000 in
theorem gX3_comesTo_X3_power : GoodIn wsX3_comesTo (va_wsS RX3 141 yX3_power wsX3_power) := goodIn_app (goodIn_of _ (by decide +kernel)) ggX3_comesTo_X3_power
set_option maxRecDepth 20000 in
theorem ggX3_comesTo_X3_play : GoodIn wsX3_comesTo wsX3_play := goodIn_r _ [10, 2, 1, 11, 12, 13, 14, 15, 16, 17, 18, 19, 20, 5, 21, 22, 23, 24, 25, 26, 27, 28, 29, 30, 31, 32, 33, 34, 35, 36, 37, 38, 39, 40, 41, 42, 43, 44, 45, 46, 47, 48, 49, 50, 51, 52, 53, 54, 55, 56, 57, 58, 59, 60, 61, 62, 63, 64, 65, 66, 67, 68, 69, 70] (by decide +kernel) (by decide +kernel)
set_option maxRecDepth 20000 in
theorem gX3_comesTo_X3_play : GoodIn wsX3_comesTo (wsV RX3 145 RX3 yX3_play wsX3_play) := goodIn_app (goodIn_of _ (by decide +kernel)) ggX3_comesTo_X3_play
theorem dX3_comesTo_0 : decode cX3_comesTo 0 = .ok (.iload_n 1, 1) := by decide +kernel
theorem dX3_comesTo_1 : decode cX3_comesTo 1 = .ok (.iconst 1, 1) := by decide +kernel
theorem dX3_comesTo_2 : decode cX3_comesTo 2 = .ok (.if_icmp .lt 31, 3) := by decide +kernel
theorem dX3_comesTo_5 : decode cX3_comesTo 5 = .ok (.iload_n 1, 1) := by decide +kernel
theorem dX3_comesTo_6 : decode cX3_comesTo 6 = .ok (.iconst 5, 1) := by decide +kernel
theorem dX3_comesTo_7 : decode cX3_comesTo 7 = .ok (.if_icmp .gt 26, 3) := by decide +kernel
theorem dX3_comesTo_10 : decode cX3_comesTo 10 = .ok (.iload_n 2, 1) := by decide +kernel
theorem dX3_comesTo_11 : decode cX3_comesTo 11 = .ok (.ifCond .lt 22, 3) := by decide +kernel
theorem dX3_comesTo_14 : decode cX3_comesTo 14 = .ok (.iload_n 2, 1) := by decide +kernel
theorem dX3_comesTo_15 : decode cX3_comesTo 15 = .ok (.bipush 10, 2) := by decide +kernel
theorem dX3_comesTo_17 : decode cX3_comesTo 17 = .ok (.iload_n 1, 1) := by decide +kernel
theorem dX3_comesTo_18 : decode cX3_comesTo 18 = .ok (.invokestatic 141, 3) := by decide +kernel
theorem dX3_comesTo_21 : decode cX3_comesTo 21 = .ok (.if_icmp .ge 12, 3) := by decide +kernel
theorem dX3_comesTo_24 : decode cX3_comesTo 24 = .ok (.iload_n 3, 1) := by decide +kernel
theorem dX3_comesTo_25 : decode cX3_comesTo 25 = .ok (.ifCond .lt 8, 3) := by decide +kernel
theorem dX3_comesTo_28 : decode cX3_comesTo 28 = .ok (.iload_n 3, 1) := by decide +kernel
theorem dX3_comesTo_29 : decode cX3_comesTo 29 = .ok (.iconst 1, 1) := by decide +kernel
theorem dX3_comesTo_30 : decode cX3_comesTo 30 = .ok (.if_icmp .le 6, 3) := by decide +kernel
theorem dX3_comesTo_33 : decode cX3_comesTo 33 = .ok (.bipush (-2), 2) := by decide +kernel
theorem dX3_comesTo_35 : decode cX3_comesTo 35 = .ok (.ireturn, 1) := by decide +kernel
theorem dX3_comesTo_36 : decode cX3_comesTo 36 = .ok (.aload_n 0, 1) := by decide +kernel
theorem dX3_comesTo_37 : decode cX3_comesTo 37 = .ok (.iload_n 1, 1) := by decide +kernel
theorem dX3_comesTo_38 : decode cX3_comesTo 38 = .ok (.iload_n 2, 1) := by decide +kernel
theorem dX3_comesTo_39 : decode cX3_comesTo 39 = .ok (.aload_n 0, 1) := by decide +kernel
theorem dX3_comesTo_40 : decode cX3_comesTo 40 = .ok (.getfield 23, 3) := by decide +kernel
theorem dX3_comesTo_43 : decode cX3_comesTo 43 = .ok (.getfield 93, 3) := by decide +kernel
theorem dX3_comesTo_46 : decode cX3_comesTo 46 = .ok (.invokevirtual 145, 3) := by decide +kernel
theorem dX3_comesTo_49 : decode cX3_comesTo 49 = .ok (.istore 4, 2) := by decide +kernel
theorem dX3_comesTo_51 : decode cX3_comesTo 51 = .ok (.iload_n 3, 1) := by decide +kernel
theorem dX3_comesTo_52 : decode cX3_comesTo 52 = .ok (.iconst 1, 1) := by decide +kernel
theorem dX3_comesTo_53 : decode cX3_comesTo 53 = .ok (.if_icmp .ne 6, 3) := by decide +kernel
theorem dX3_comesTo_56 : decode cX3_comesTo 56 = .ok (.iload 4, 2) := by decide +kernel
theorem dX3_comesTo_58 : decode cX3_comesTo 58 = .ok (.ireturn, 1) := by decide +kernel
theorem dX3_comesTo_59 : decode cX3_comesTo 59 = .ok (.iload 4, 2) := by decide +kernel
theorem dX3_comesTo_61 : decode cX3_comesTo 61 = .ok (.bipush (-9), 2) := by decide +kernel
theorem dX3_comesTo_63 : decode cX3_comesTo 63 = .ok (.if_icmp .ne 13, 3) := by decide +kernel
theorem dX3_comesTo_66 : decode cX3_comesTo 66 = .ok (.aload_n 0, 1) := by decide +kernel
theorem dX3_comesTo_67 : decode cX3_comesTo 67 = .ok (.getfield 41, 3) := by decide +kernel
theorem dX3_comesTo_70 : decode cX3_comesTo 70 = .ok (.getfield 128, 3) := by decide +kernel
theorem dX3_comesTo_73 : decode cX3_comesTo 73 = .ok (.goto 5, 3) := by decide +kernel
theorem dX3_comesTo_76 : decode cX3_comesTo 76 = .ok (.bipush (-3), 2) := by decide +kernel
theorem dX3_comesTo_78 : decode cX3_comesTo 78 = .ok (.ireturn, 1) := by decide +kernel
set_option maxRecDepth 20000 in
theorem ggX3_fewest_X3_isSense : GoodIn wsX3_fewest wsX3_isSense := goodIn_r _ [6] (by decide +kernel) (by decide +kernel)
set_option maxRecDepth 20000 in
theorem gX3_fewest_X3_isSense : GoodIn wsX3_fewest (va_wsS RX3 149 yX3_isSense wsX3_isSense) := goodIn_app (goodIn_of _ (by decide +kernel)) ggX3_fewest_X3_isSense
set_option maxRecDepth 20000 in
theorem ggX3_fewest_X1_by : GoodIn wsX3_fewest wsX1_by := goodIn_r _ [10, 11, 12, 13, 5, 14, 90, 91] (by decide +kernel) (by decide +kernel)
set_option maxRecDepth 20000 in
theorem gX3_fewest_X1_by_n152 : GoodIn wsX3_fewest (wsX1_by) := ggX3_fewest_X1_by
set_option maxRecDepth 20000 in
theorem ggX3_fewest_X3_leastRow : GoodIn wsX3_fewest wsX3_leastRow := goodIn_r _ [18, 1, 2, 19, 8, 20, 21, 11, 22, 5, 23, 24, 25, 26, 12, 27, 28, 29, 30, 31, 32, 33, 34, 35, 36, 37, 38, 39, 40, 41, 42, 43, 44, 45, 46, 47, 48, 49, 50, 51, 52, 13, 14, 53, 54, 55, 56, 57, 58, 59, 60, 61, 62, 63, 64, 65, 66, 67, 68, 69, 70, 71, 72, 73, 74, 75, 76, 77, 78, 79, 80, 81, 82, 83, 84, 85, 86, 87, 88, 89, 90, 91, 92, 93, 94, 95] (by decide +kernel) (by decide +kernel)
set_option maxRecDepth 20000 in
theorem gX3_fewest_X3_leastRow : GoodIn wsX3_fewest (wsV RX3 156 RX3 yX3_leastRow wsX3_leastRow) := goodIn_app (goodIn_of _ (by decide +kernel)) ggX3_fewest_X3_leastRow
theorem dX3_fewest_0 : decode cX3_fewest 0 = .ok (.iload_n 1, 1) := by decide +kernel
theorem dX3_fewest_1 : decode cX3_fewest 1 = .ok (.invokestatic 149, 3) := by decide +kernel
theorem dX3_fewest_4 : decode cX3_fewest 4 = .ok (.ifCond .ne 6, 3) := by decide +kernel
theorem dX3_fewest_7 : decode cX3_fewest 7 = .ok (.bipush (-2), 2) := by decide +kernel
theorem dX3_fewest_9 : decode cX3_fewest 9 = .ok (.ireturn, 1) := by decide +kernel
theorem dX3_fewest_10 : decode cX3_fewest 10 = .ok (.aload_n 0, 1) := by decide +kernel
theorem dX3_fewest_11 : decode cX3_fewest 11 = .ok (.getfield 48, 3) := by decide +kernel
theorem dX3_fewest_14 : decode cX3_fewest 14 = .ok (.aload_n 0, 1) := by decide +kernel
theorem dX3_fewest_15 : decode cX3_fewest 15 = .ok (.getfield 23, 3) := by decide +kernel
theorem dX3_fewest_18 : decode cX3_fewest 18 = .ok (.getfield 93, 3) := by decide +kernel
theorem dX3_fewest_21 : decode cX3_fewest 21 = .ok (.invokevirtual 152, 3) := by decide +kernel
theorem dX3_fewest_24 : decode cX3_fewest 24 = .ok (.iconst 0, 1) := by decide +kernel
theorem dX3_fewest_25 : decode cX3_fewest 25 = .ok (.istore_n 3, 1) := by decide +kernel
theorem dX3_fewest_26 : decode cX3_fewest 26 = .ok (.iload_n 3, 1) := by decide +kernel
theorem dX3_fewest_27 : decode cX3_fewest 27 = .ok (.iconst 4, 1) := by decide +kernel
theorem dX3_fewest_28 : decode cX3_fewest 28 = .ok (.if_icmp .gt 35, 3) := by decide +kernel
theorem dX3_fewest_31 : decode cX3_fewest 31 = .ok (.aload_n 0, 1) := by decide +kernel
theorem dX3_fewest_32 : decode cX3_fewest 32 = .ok (.iload_n 3, 1) := by decide +kernel
theorem dX3_fewest_33 : decode cX3_fewest 33 = .ok (.iload_n 1, 1) := by decide +kernel
theorem dX3_fewest_34 : decode cX3_fewest 34 = .ok (.invokevirtual 156, 3) := by decide +kernel
theorem dX3_fewest_37 : decode cX3_fewest 37 = .ok (.istore 4, 2) := by decide +kernel
theorem dX3_fewest_39 : decode cX3_fewest 39 = .ok (.iload 4, 2) := by decide +kernel
theorem dX3_fewest_41 : decode cX3_fewest 41 = .ok (.bipush (-9), 2) := by decide +kernel
theorem dX3_fewest_43 : decode cX3_fewest 43 = .ok (.if_icmp .eq 14, 3) := by decide +kernel
theorem dX3_fewest_46 : decode cX3_fewest 46 = .ok (.iload_n 2, 1) := by decide +kernel
theorem dX3_fewest_47 : decode cX3_fewest 47 = .ok (.ifCond .eq 8, 3) := by decide +kernel
theorem dX3_fewest_50 : decode cX3_fewest 50 = .ok (.iload 4, 2) := by decide +kernel
theorem dX3_fewest_52 : decode cX3_fewest 52 = .ok (.goto 4, 3) := by decide +kernel
theorem dX3_fewest_55 : decode cX3_fewest 55 = .ok (.iload_n 3, 1) := by decide +kernel
theorem dX3_fewest_56 : decode cX3_fewest 56 = .ok (.ireturn, 1) := by decide +kernel
theorem dX3_fewest_57 : decode cX3_fewest 57 = .ok (.iinc 3 1, 3) := by decide +kernel
theorem dX3_fewest_60 : decode cX3_fewest 60 = .ok (.goto (-34), 3) := by decide +kernel
theorem dX3_fewest_63 : decode cX3_fewest 63 = .ok (.bipush (-9), 2) := by decide +kernel
theorem dX3_fewest_65 : decode cX3_fewest 65 = .ok (.ireturn, 1) := by decide +kernel
set_option maxRecDepth 20000 in
theorem ggX3_can_X3_sensesBy : GoodIn wsX3_can wsX3_sensesBy := goodIn_r _ [6, 7, 8, 9, 10, 11, 12, 13, 14, 15, 5, 16, 17, 18, 19, 20, 21, 22, 23, 24, 25, 26, 27, 28, 1, 29, 30, 31, 32, 33, 34, 35, 36, 37, 38, 39, 40, 41, 42, 43, 44, 45, 46, 47, 48, 49, 50, 51, 52, 53, 54, 55, 56, 57, 58, 59, 60, 61, 62, 63, 64, 65, 66, 67, 68, 69, 70, 71, 72, 73, 74, 75, 76, 77, 78, 83, 84, 85, 86, 87, 88, 79, 80, 81, 82] (by decide +kernel) (by decide +kernel)
set_option maxRecDepth 20000 in
theorem gX3_can_X3_sensesBy : GoodIn wsX3_can (wsV RX3 159 RX3 yX3_sensesBy wsX3_sensesBy) := goodIn_app (goodIn_of _ (by decide +kernel)) ggX3_can_X3_sensesBy
theorem dX3_can_0 : decode cX3_can 0 = .ok (.iload_n 1, 1) := by decide +kernel
theorem dX3_can_1 : decode cX3_can 1 = .ok (.ifCond .lt 8, 3) := by decide +kernel
theorem dX3_can_4 : decode cX3_can 4 = .ok (.iload_n 1, 1) := by decide +kernel
theorem dX3_can_5 : decode cX3_can 5 = .ok (.iconst 3, 1) := by decide +kernel
theorem dX3_can_6 : decode cX3_can 6 = .ok (.if_icmp .le 6, 3) := by decide +kernel
theorem dX3_can_9 : decode cX3_can 9 = .ok (.bipush (-2), 2) := by decide +kernel
theorem dX3_can_11 : decode cX3_can 11 = .ok (.ireturn, 1) := by decide +kernel
theorem dX3_can_12 : decode cX3_can 12 = .ok (.aload_n 0, 1) := by decide +kernel
theorem dX3_can_13 : decode cX3_can 13 = .ok (.aload_n 0, 1) := by decide +kernel
theorem dX3_can_14 : decode cX3_can 14 = .ok (.getfield 23, 3) := by decide +kernel
theorem dX3_can_17 : decode cX3_can 17 = .ok (.getfield 93, 3) := by decide +kernel
theorem dX3_can_20 : decode cX3_can 20 = .ok (.iload_n 1, 1) := by decide +kernel
theorem dX3_can_21 : decode cX3_can 21 = .ok (.invokevirtual 159, 3) := by decide +kernel
theorem dX3_can_24 : decode cX3_can 24 = .ok (.ireturn, 1) := by decide +kernel
set_option maxRecDepth 20000 in
theorem ggX3_toFetch_X3_isSense : GoodIn wsX3_toFetch wsX3_isSense := goodIn_r _ [5] (by decide +kernel) (by decide +kernel)
set_option maxRecDepth 20000 in
theorem gX3_toFetch_X3_isSense : GoodIn wsX3_toFetch (va_wsS RX3 149 yX3_isSense wsX3_isSense) := goodIn_app (goodIn_of _ (by decide +kernel)) ggX3_toFetch_X3_isSense
set_option maxRecDepth 20000 in
theorem ggX3_toFetch_X3_everybody : GoodIn wsX3_toFetch wsX3_everybody := goodIn_r _ [9, 10, 108, 109, 110, 111, 112, 113, 114, 115, 116, 117, 118, 119, 120, 121, 122, 123, 124, 125] (by decide +kernel) (by decide +kernel)
set_option maxRecDepth 20000 in
theorem gX3_toFetch_X3_everybody : GoodIn wsX3_toFetch (wsV RX3 162 RX3 yX3_everybody wsX3_everybody) := goodIn_app (goodIn_of _ (by decide +kernel)) ggX3_toFetch_X3_everybody
set_option maxRecDepth 20000 in
theorem ggX3_toFetch_X1_by : GoodIn wsX3_toFetch wsX1_by := goodIn_r _ [14, 15, 16, 17, 4, 18, 126, 127] (by decide +kernel) (by decide +kernel)
set_option maxRecDepth 20000 in
theorem gX3_toFetch_X1_by_n152 : GoodIn wsX3_toFetch (wsX1_by) := ggX3_toFetch_X1_by
set_option maxRecDepth 20000 in
theorem ggX3_toFetch_X3_bestFetch : GoodIn wsX3_toFetch wsX3_bestFetch := goodIn_r _ [22, 1, 23, 24, 12, 25, 26, 15, 27, 4, 28, 29, 30, 31, 16, 6, 7, 8, 9, 10, 32, 33, 34, 35, 36, 37, 38, 39, 40, 41, 42, 43, 44, 45, 46, 47, 48, 49, 50, 51, 52, 53, 54, 55, 56, 57, 17, 18, 58, 59, 60, 61, 62, 63, 64, 65, 66, 67, 68, 69, 70, 71, 72, 73, 74, 75, 76, 77, 78, 79, 80, 81, 82, 83, 84, 85, 86, 87, 88, 89, 90, 91, 92, 93, 94, 95, 96, 97, 98, 99, 100, 101, 102, 103, 104, 105, 106, 107, 108, 109, 110, 111, 112, 113, 114, 115, 116, 117, 118, 119, 120, 121, 122, 123, 124, 125, 128, 129, 130, 131, 126, 127, 132, 133, 134, 135] (by decide +kernel) (by decide +kernel)
set_option maxRecDepth 20000 in
theorem gX3_toFetch_X3_bestFetch : GoodIn wsX3_toFetch (wsV RX3 165 RX3 yX3_bestFetch wsX3_bestFetch) := goodIn_app (goodIn_of _ (by decide +kernel)) ggX3_toFetch_X3_bestFetch
set_option maxRecDepth 20000 in
theorem ggX3_toFetch_X3_hoursFor : GoodIn wsX3_toFetch wsX3_hoursFor := goodIn_r _ [83, 10, 57, 17, 4, 18, 84, 85, 86, 87, 88, 89, 90, 91, 92, 93, 94, 95, 96, 97, 108, 109, 110, 111, 112, 113, 114, 115, 116, 117, 118, 119, 120, 121, 122, 123, 124, 125] (by decide +kernel) (by decide +kernel)
set_option maxRecDepth 20000 in
theorem gX3_toFetch_X3_hoursFor : GoodIn wsX3_toFetch (wsV RX3 168 RX3 yX3_hoursFor wsX3_hoursFor) := goodIn_app (goodIn_of _ (by decide +kernel)) ggX3_toFetch_X3_hoursFor
theorem dX3_toFetch_0 : decode cX3_toFetch 0 = .ok (.iload_n 1, 1) := by decide +kernel
theorem dX3_toFetch_1 : decode cX3_toFetch 1 = .ok (.invokestatic 149, 3) := by decide +kernel
theorem dX3_toFetch_4 : decode cX3_toFetch 4 = .ok (.ifCond .ne 6, 3) := by decide +kernel
theorem dX3_toFetch_7 : decode cX3_toFetch 7 = .ok (.bipush (-2), 2) := by decide +kernel
theorem dX3_toFetch_9 : decode cX3_toFetch 9 = .ok (.ireturn, 1) := by decide +kernel
theorem dX3_toFetch_10 : decode cX3_toFetch 10 = .ok (.aload_n 0, 1) := by decide +kernel
theorem dX3_toFetch_11 : decode cX3_toFetch 11 = .ok (.getfield 48, 3) := by decide +kernel
theorem dX3_toFetch_14 : decode cX3_toFetch 14 = .ok (.aload_n 0, 1) := by decide +kernel
theorem dX3_toFetch_15 : decode cX3_toFetch 15 = .ok (.invokevirtual 162, 3) := by decide +kernel
theorem dX3_toFetch_18 : decode cX3_toFetch 18 = .ok (.invokevirtual 152, 3) := by decide +kernel
theorem dX3_toFetch_21 : decode cX3_toFetch 21 = .ok (.bipush (-9), 2) := by decide +kernel
theorem dX3_toFetch_23 : decode cX3_toFetch 23 = .ok (.istore_n 3, 1) := by decide +kernel
theorem dX3_toFetch_24 : decode cX3_toFetch 24 = .ok (.iconst 0, 1) := by decide +kernel
theorem dX3_toFetch_25 : decode cX3_toFetch 25 = .ok (.istore 4, 2) := by decide +kernel
theorem dX3_toFetch_27 : decode cX3_toFetch 27 = .ok (.iload 4, 2) := by decide +kernel
theorem dX3_toFetch_29 : decode cX3_toFetch 29 = .ok (.iconst 4, 1) := by decide +kernel
theorem dX3_toFetch_30 : decode cX3_toFetch 30 = .ok (.if_icmp .gt 18, 3) := by decide +kernel
theorem dX3_toFetch_33 : decode cX3_toFetch 33 = .ok (.aload_n 0, 1) := by decide +kernel
theorem dX3_toFetch_34 : decode cX3_toFetch 34 = .ok (.iload 4, 2) := by decide +kernel
theorem dX3_toFetch_36 : decode cX3_toFetch 36 = .ok (.iload_n 1, 1) := by decide +kernel
theorem dX3_toFetch_37 : decode cX3_toFetch 37 = .ok (.iload_n 3, 1) := by decide +kernel
theorem dX3_toFetch_38 : decode cX3_toFetch 38 = .ok (.invokevirtual 165, 3) := by decide +kernel
theorem dX3_toFetch_41 : decode cX3_toFetch 41 = .ok (.istore_n 3, 1) := by decide +kernel
theorem dX3_toFetch_42 : decode cX3_toFetch 42 = .ok (.iinc 4 1, 3) := by decide +kernel
theorem dX3_toFetch_45 : decode cX3_toFetch 45 = .ok (.goto (-18), 3) := by decide +kernel
theorem dX3_toFetch_48 : decode cX3_toFetch 48 = .ok (.iload_n 3, 1) := by decide +kernel
theorem dX3_toFetch_49 : decode cX3_toFetch 49 = .ok (.bipush (-9), 2) := by decide +kernel
theorem dX3_toFetch_51 : decode cX3_toFetch 51 = .ok (.if_icmp .ne 6, 3) := by decide +kernel
theorem dX3_toFetch_54 : decode cX3_toFetch 54 = .ok (.bipush (-9), 2) := by decide +kernel
theorem dX3_toFetch_56 : decode cX3_toFetch 56 = .ok (.ireturn, 1) := by decide +kernel
theorem dX3_toFetch_57 : decode cX3_toFetch 57 = .ok (.iload_n 2, 1) := by decide +kernel
theorem dX3_toFetch_58 : decode cX3_toFetch 58 = .ok (.ifCond .eq 11, 3) := by decide +kernel
theorem dX3_toFetch_61 : decode cX3_toFetch 61 = .ok (.aload_n 0, 1) := by decide +kernel
theorem dX3_toFetch_62 : decode cX3_toFetch 62 = .ok (.iload_n 3, 1) := by decide +kernel
theorem dX3_toFetch_63 : decode cX3_toFetch 63 = .ok (.invokevirtual 168, 3) := by decide +kernel
theorem dX3_toFetch_66 : decode cX3_toFetch 66 = .ok (.goto 4, 3) := by decide +kernel
theorem dX3_toFetch_69 : decode cX3_toFetch 69 = .ok (.iload_n 3, 1) := by decide +kernel
theorem dX3_toFetch_70 : decode cX3_toFetch 70 = .ok (.ireturn, 1) := by decide +kernel
set_option maxRecDepth 20000 in
theorem ggX3_needed_X3_sensesBy : GoodIn wsX3_needed wsX3_sensesBy := goodIn_r _ [6, 7, 8, 9, 10, 11, 12, 13, 14, 15, 5, 16, 17, 18, 19, 20, 21, 22, 23, 24, 25, 26, 27, 28, 1, 29, 30, 31, 32, 33, 34, 35, 36, 37, 38, 39, 40, 41, 42, 43, 44, 45, 46, 47, 48, 49, 50, 51, 52, 53, 54, 55, 56, 57, 58, 59, 60, 68, 69, 70, 71, 72, 73, 74, 75, 76, 77, 78, 79, 80, 81, 82, 83, 84, 85, 90, 91, 92, 93, 94, 95, 86, 87, 88, 89] (by decide +kernel) (by decide +kernel)
set_option maxRecDepth 20000 in
theorem gX3_needed_X3_sensesBy : GoodIn wsX3_needed (wsV RX3 159 RX3 yX3_sensesBy wsX3_sensesBy) := goodIn_app (goodIn_of _ (by decide +kernel)) ggX3_needed_X3_sensesBy
set_option maxRecDepth 20000 in
theorem ggX3_needed_J6_bitCount_0f7a4 : GoodIn wsX3_needed wsJ6_bitCount_0f7a4 := goodIn_r _ [64, 65, 66, 67] (by decide +kernel) (by decide +kernel)
set_option maxRecDepth 20000 in
theorem gX3_needed_J6_bitCount_0f7a4 : GoodIn wsX3_needed (va_wsS RX3 119 yJ6_bitCount_0f7a4 wsJ6_bitCount_0f7a4) := goodIn_app (goodIn_of _ (by decide +kernel)) ggX3_needed_J6_bitCount_0f7a4
theorem dX3_needed_0 : decode cX3_needed 0 = .ok (.aload_n 0, 1) := by decide +kernel
theorem dX3_needed_1 : decode cX3_needed 1 = .ok (.getfield 23, 3) := by decide +kernel
theorem dX3_needed_4 : decode cX3_needed 4 = .ok (.getfield 93, 3) := by decide +kernel
theorem dX3_needed_7 : decode cX3_needed 7 = .ok (.istore_n 1, 1) := by decide +kernel
theorem dX3_needed_8 : decode cX3_needed 8 = .ok (.aload_n 0, 1) := by decide +kernel
theorem dX3_needed_9 : decode cX3_needed 9 = .ok (.iload_n 1, 1) := by decide +kernel
theorem dX3_needed_10 : decode cX3_needed 10 = .ok (.iconst 3, 1) := by decide +kernel
theorem dX3_needed_11 : decode cX3_needed 11 = .ok (.invokevirtual 159, 3) := by decide +kernel
theorem dX3_needed_14 : decode cX3_needed 14 = .ok (.istore_n 2, 1) := by decide +kernel
theorem dX3_needed_15 : decode cX3_needed 15 = .ok (.iload_n 1, 1) := by decide +kernel
theorem dX3_needed_16 : decode cX3_needed 16 = .ok (.istore_n 3, 1) := by decide +kernel
theorem dX3_needed_17 : decode cX3_needed 17 = .ok (.iconst 0, 1) := by decide +kernel
theorem dX3_needed_18 : decode cX3_needed 18 = .ok (.istore 4, 2) := by decide +kernel
theorem dX3_needed_20 : decode cX3_needed 20 = .ok (.iload 4, 2) := by decide +kernel
theorem dX3_needed_22 : decode cX3_needed 22 = .ok (.iload_n 1, 1) := by decide +kernel
theorem dX3_needed_23 : decode cX3_needed 23 = .ok (.if_icmp .gt 44, 3) := by decide +kernel
theorem dX3_needed_26 : decode cX3_needed 26 = .ok (.iload 4, 2) := by decide +kernel
theorem dX3_needed_28 : decode cX3_needed 28 = .ok (.iload_n 1, 1) := by decide +kernel
theorem dX3_needed_29 : decode cX3_needed 29 = .ok (.iconst (-1), 1) := by decide +kernel
theorem dX3_needed_30 : decode cX3_needed 30 = .ok (.ixor, 1) := by decide +kernel
theorem dX3_needed_31 : decode cX3_needed 31 = .ok (.iand, 1) := by decide +kernel
theorem dX3_needed_32 : decode cX3_needed 32 = .ok (.ifCond .ne 29, 3) := by decide +kernel
theorem dX3_needed_35 : decode cX3_needed 35 = .ok (.iload 4, 2) := by decide +kernel
theorem dX3_needed_37 : decode cX3_needed 37 = .ok (.invokestatic 119, 3) := by decide +kernel
theorem dX3_needed_40 : decode cX3_needed 40 = .ok (.iload_n 3, 1) := by decide +kernel
theorem dX3_needed_41 : decode cX3_needed 41 = .ok (.invokestatic 119, 3) := by decide +kernel
theorem dX3_needed_44 : decode cX3_needed 44 = .ok (.if_icmp .ge 17, 3) := by decide +kernel
theorem dX3_needed_47 : decode cX3_needed 47 = .ok (.aload_n 0, 1) := by decide +kernel
theorem dX3_needed_48 : decode cX3_needed 48 = .ok (.iload 4, 2) := by decide +kernel
theorem dX3_needed_50 : decode cX3_needed 50 = .ok (.iconst 3, 1) := by decide +kernel
theorem dX3_needed_51 : decode cX3_needed 51 = .ok (.invokevirtual 159, 3) := by decide +kernel
theorem dX3_needed_54 : decode cX3_needed 54 = .ok (.iload_n 2, 1) := by decide +kernel
theorem dX3_needed_55 : decode cX3_needed 55 = .ok (.if_icmp .ne 6, 3) := by decide +kernel
theorem dX3_needed_58 : decode cX3_needed 58 = .ok (.iload 4, 2) := by decide +kernel
theorem dX3_needed_60 : decode cX3_needed 60 = .ok (.istore_n 3, 1) := by decide +kernel
theorem dX3_needed_61 : decode cX3_needed 61 = .ok (.iinc 4 1, 3) := by decide +kernel
theorem dX3_needed_64 : decode cX3_needed 64 = .ok (.goto (-44), 3) := by decide +kernel
theorem dX3_needed_67 : decode cX3_needed 67 = .ok (.iload_n 3, 1) := by decide +kernel
theorem dX3_needed_68 : decode cX3_needed 68 = .ok (.ireturn, 1) := by decide +kernel
set_option maxRecDepth 20000 in
theorem ggX3_naming_X3_sensesBy : GoodIn wsX3_naming wsX3_sensesBy := goodIn_r _ [7, 8, 9, 10, 11, 12, 13, 14, 15, 16, 6, 17, 18, 19, 20, 21, 22, 23, 24, 25, 26, 27, 28, 29, 2, 30, 31, 32, 33, 34, 35, 36, 37, 38, 39, 40, 41, 42, 43, 44, 45, 46, 47, 48, 49, 50, 51, 52, 53, 54, 1, 55, 56, 57, 58, 59, 60, 68, 69, 70, 71, 72, 73, 74, 75, 76, 77, 78, 79, 80, 81, 82, 83, 84, 85, 90, 91, 92, 93, 94, 95, 86, 87, 88, 89] (by decide +kernel) (by decide +kernel)
set_option maxRecDepth 20000 in
theorem gX3_naming_X3_sensesBy : GoodIn wsX3_naming (wsV RX3 159 RX3 yX3_sensesBy wsX3_sensesBy) := goodIn_app (goodIn_of _ (by decide +kernel)) ggX3_naming_X3_sensesBy
set_option maxRecDepth 20000 in
theorem ggX3_naming_J6_bitCount_0f7a4 : GoodIn wsX3_naming wsJ6_bitCount_0f7a4 := goodIn_r _ [64, 65, 66, 67] (by decide +kernel) (by decide +kernel)
set_option maxRecDepth 20000 in
theorem gX3_naming_J6_bitCount_0f7a4 : GoodIn wsX3_naming (va_wsS RX3 119 yJ6_bitCount_0f7a4 wsJ6_bitCount_0f7a4) := goodIn_app (goodIn_of _ (by decide +kernel)) ggX3_naming_J6_bitCount_0f7a4
theorem dX3_naming_0 : decode cX3_naming 0 = .ok (.iload_n 1, 1) := by decide +kernel
theorem dX3_naming_1 : decode cX3_naming 1 = .ok (.iconst 1, 1) := by decide +kernel
theorem dX3_naming_2 : decode cX3_naming 2 = .ok (.if_icmp .lt 8, 3) := by decide +kernel
theorem dX3_naming_5 : decode cX3_naming 5 = .ok (.iload_n 1, 1) := by decide +kernel
theorem dX3_naming_6 : decode cX3_naming 6 = .ok (.iconst 3, 1) := by decide +kernel
theorem dX3_naming_7 : decode cX3_naming 7 = .ok (.if_icmp .le 6, 3) := by decide +kernel
theorem dX3_naming_10 : decode cX3_naming 10 = .ok (.bipush (-2), 2) := by decide +kernel
theorem dX3_naming_12 : decode cX3_naming 12 = .ok (.ireturn, 1) := by decide +kernel
theorem dX3_naming_13 : decode cX3_naming 13 = .ok (.iconst 0, 1) := by decide +kernel
theorem dX3_naming_14 : decode cX3_naming 14 = .ok (.istore_n 3, 1) := by decide +kernel
theorem dX3_naming_15 : decode cX3_naming 15 = .ok (.iconst 0, 1) := by decide +kernel
theorem dX3_naming_16 : decode cX3_naming 16 = .ok (.istore 4, 2) := by decide +kernel
theorem dX3_naming_18 : decode cX3_naming 18 = .ok (.iconst 0, 1) := by decide +kernel
theorem dX3_naming_19 : decode cX3_naming 19 = .ok (.istore 5, 2) := by decide +kernel
theorem dX3_naming_21 : decode cX3_naming 21 = .ok (.iload 5, 2) := by decide +kernel
theorem dX3_naming_23 : decode cX3_naming 23 = .ok (.bipush 40, 2) := by decide +kernel
theorem dX3_naming_25 : decode cX3_naming 25 = .ok (.if_icmp .ge 49, 3) := by decide +kernel
theorem dX3_naming_28 : decode cX3_naming 28 = .ok (.aload_n 0, 1) := by decide +kernel
theorem dX3_naming_29 : decode cX3_naming 29 = .ok (.iload 5, 2) := by decide +kernel
theorem dX3_naming_31 : decode cX3_naming 31 = .ok (.putfield 171, 3) := by decide +kernel
theorem dX3_naming_34 : decode cX3_naming 34 = .ok (.aload_n 0, 1) := by decide +kernel
theorem dX3_naming_35 : decode cX3_naming 35 = .ok (.aload_n 0, 1) := by decide +kernel
theorem dX3_naming_36 : decode cX3_naming 36 = .ok (.getfield 23, 3) := by decide +kernel
theorem dX3_naming_39 : decode cX3_naming 39 = .ok (.getfield 93, 3) := by decide +kernel
theorem dX3_naming_42 : decode cX3_naming 42 = .ok (.bipush 64, 2) := by decide +kernel
theorem dX3_naming_44 : decode cX3_naming 44 = .ok (.ior, 1) := by decide +kernel
theorem dX3_naming_45 : decode cX3_naming 45 = .ok (.iload_n 1, 1) := by decide +kernel
theorem dX3_naming_46 : decode cX3_naming 46 = .ok (.invokevirtual 159, 3) := by decide +kernel
theorem dX3_naming_49 : decode cX3_naming 49 = .ok (.invokestatic 119, 3) := by decide +kernel
theorem dX3_naming_52 : decode cX3_naming 52 = .ok (.istore 6, 2) := by decide +kernel
theorem dX3_naming_54 : decode cX3_naming 54 = .ok (.iload 6, 2) := by decide +kernel
theorem dX3_naming_56 : decode cX3_naming 56 = .ok (.iload 4, 2) := by decide +kernel
theorem dX3_naming_58 : decode cX3_naming 58 = .ok (.if_icmp .le 10, 3) := by decide +kernel
theorem dX3_naming_61 : decode cX3_naming 61 = .ok (.iload 6, 2) := by decide +kernel
theorem dX3_naming_63 : decode cX3_naming 63 = .ok (.istore 4, 2) := by decide +kernel
theorem dX3_naming_65 : decode cX3_naming 65 = .ok (.iload 5, 2) := by decide +kernel
theorem dX3_naming_67 : decode cX3_naming 67 = .ok (.istore_n 3, 1) := by decide +kernel
theorem dX3_naming_68 : decode cX3_naming 68 = .ok (.iinc 5 1, 3) := by decide +kernel
theorem dX3_naming_71 : decode cX3_naming 71 = .ok (.goto (-50), 3) := by decide +kernel
theorem dX3_naming_74 : decode cX3_naming 74 = .ok (.iload_n 2, 1) := by decide +kernel
theorem dX3_naming_75 : decode cX3_naming 75 = .ok (.ifCond .eq 8, 3) := by decide +kernel
theorem dX3_naming_78 : decode cX3_naming 78 = .ok (.iload 4, 2) := by decide +kernel
theorem dX3_naming_80 : decode cX3_naming 80 = .ok (.goto 4, 3) := by decide +kernel
theorem dX3_naming_83 : decode cX3_naming 83 = .ok (.iload_n 3, 1) := by decide +kernel
theorem dX3_naming_84 : decode cX3_naming 84 = .ok (.ireturn, 1) := by decide +kernel
set_option maxRecDepth 20000 in
theorem ggX3_spoken_X3_isSense : GoodIn wsX3_spoken wsX3_isSense := goodIn_r _ [6] (by decide +kernel) (by decide +kernel)
set_option maxRecDepth 20000 in
theorem gX3_spoken_X3_isSense : GoodIn wsX3_spoken (va_wsS RX3 149 yX3_isSense wsX3_isSense) := goodIn_app (goodIn_of _ (by decide +kernel)) ggX3_spoken_X3_isSense
set_option maxRecDepth 20000 in
theorem ggX3_spoken_X1_by : GoodIn wsX3_spoken wsX1_by := goodIn_r _ [10, 11, 12, 13, 5, 14, 89, 90] (by decide +kernel) (by decide +kernel)
set_option maxRecDepth 20000 in
theorem gX3_spoken_X1_by_n152 : GoodIn wsX3_spoken (wsX1_by) := ggX3_spoken_X1_by
set_option maxRecDepth 20000 in
theorem ggX3_spoken_X1_many : GoodIn wsX3_spoken wsX1_many := goodIn_r _ [17, 11, 18, 5, 19, 89, 90] (by decide +kernel) (by decide +kernel)
set_option maxRecDepth 20000 in
theorem gX3_spoken_X1_many_n174 : GoodIn wsX3_spoken (wsX1_many) := ggX3_spoken_X1_many
set_option maxRecDepth 20000 in
theorem ggX3_spoken_X1_told : GoodIn wsX3_spoken wsX1_told := goodIn_r _ [22, 11, 12, 89, 90] (by decide +kernel) (by decide +kernel)
set_option maxRecDepth 20000 in
theorem gX3_spoken_X1_told_n177 : GoodIn wsX3_spoken (wsX1_told) := ggX3_spoken_X1_told
set_option maxRecDepth 20000 in
theorem ggX3_spoken_X3_isTold : GoodIn wsX3_spoken wsX3_isTold := goodIn_r _ [26, 27, 28, 29, 30, 5, 31, 2, 32, 33, 34, 35, 36, 37, 38, 39, 40, 41, 42, 43, 44, 45, 46, 47, 48, 13, 14, 49, 50, 51, 52, 53, 54, 55, 56, 57, 58, 59, 60, 61, 62, 63, 67, 68, 69, 70, 71, 72, 73, 74, 75, 76, 77, 78, 79, 80, 81, 82, 83, 84, 91, 92, 93, 94, 85, 86, 87, 88] (by decide +kernel) (by decide +kernel)
set_option maxRecDepth 20000 in
theorem gX3_spoken_X3_isTold : GoodIn wsX3_spoken (wsV RX3 180 RX3 yX3_isTold wsX3_isTold) := goodIn_app (goodIn_of _ (by decide +kernel)) ggX3_spoken_X3_isTold
set_option maxRecDepth 20000 in
theorem ggX3_spoken_X3_speakersIn : GoodIn wsX3_spoken wsX3_speakersIn := goodIn_r _ [66, 40, 41, 5, 42] (by decide +kernel) (by decide +kernel)
set_option maxRecDepth 20000 in
theorem gX3_spoken_X3_speakersIn : GoodIn wsX3_spoken (va_wsS RX3 184 yX3_speakersIn wsX3_speakersIn) := goodIn_app (goodIn_of _ (by decide +kernel)) ggX3_spoken_X3_speakersIn
theorem dX3_spoken_0 : decode cX3_spoken 0 = .ok (.iload_n 1, 1) := by decide +kernel
theorem dX3_spoken_1 : decode cX3_spoken 1 = .ok (.iconst 1, 1) := by decide +kernel
theorem dX3_spoken_2 : decode cX3_spoken 2 = .ok (.if_icmp .lt 24, 3) := by decide +kernel
theorem dX3_spoken_5 : decode cX3_spoken 5 = .ok (.iload_n 1, 1) := by decide +kernel
theorem dX3_spoken_6 : decode cX3_spoken 6 = .ok (.iconst 4, 1) := by decide +kernel
theorem dX3_spoken_7 : decode cX3_spoken 7 = .ok (.if_icmp .gt 19, 3) := by decide +kernel
theorem dX3_spoken_10 : decode cX3_spoken 10 = .ok (.iload_n 2, 1) := by decide +kernel
theorem dX3_spoken_11 : decode cX3_spoken 11 = .ok (.invokestatic 149, 3) := by decide +kernel
theorem dX3_spoken_14 : decode cX3_spoken 14 = .ok (.ifCond .eq 12, 3) := by decide +kernel
theorem dX3_spoken_17 : decode cX3_spoken 17 = .ok (.iload_n 3, 1) := by decide +kernel
theorem dX3_spoken_18 : decode cX3_spoken 18 = .ok (.ifCond .lt 8, 3) := by decide +kernel
theorem dX3_spoken_21 : decode cX3_spoken 21 = .ok (.iload_n 3, 1) := by decide +kernel
theorem dX3_spoken_22 : decode cX3_spoken 22 = .ok (.iconst 2, 1) := by decide +kernel
theorem dX3_spoken_23 : decode cX3_spoken 23 = .ok (.if_icmp .le 6, 3) := by decide +kernel
theorem dX3_spoken_26 : decode cX3_spoken 26 = .ok (.bipush (-2), 2) := by decide +kernel
theorem dX3_spoken_28 : decode cX3_spoken 28 = .ok (.ireturn, 1) := by decide +kernel
theorem dX3_spoken_29 : decode cX3_spoken 29 = .ok (.aload_n 0, 1) := by decide +kernel
theorem dX3_spoken_30 : decode cX3_spoken 30 = .ok (.getfield 48, 3) := by decide +kernel
theorem dX3_spoken_33 : decode cX3_spoken 33 = .ok (.aload_n 0, 1) := by decide +kernel
theorem dX3_spoken_34 : decode cX3_spoken 34 = .ok (.getfield 23, 3) := by decide +kernel
theorem dX3_spoken_37 : decode cX3_spoken 37 = .ok (.getfield 93, 3) := by decide +kernel
theorem dX3_spoken_40 : decode cX3_spoken 40 = .ok (.invokevirtual 152, 3) := by decide +kernel
theorem dX3_spoken_43 : decode cX3_spoken 43 = .ok (.iconst 0, 1) := by decide +kernel
theorem dX3_spoken_44 : decode cX3_spoken 44 = .ok (.istore 4, 2) := by decide +kernel
theorem dX3_spoken_46 : decode cX3_spoken 46 = .ok (.aload_n 0, 1) := by decide +kernel
theorem dX3_spoken_47 : decode cX3_spoken 47 = .ok (.getfield 23, 3) := by decide +kernel
theorem dX3_spoken_50 : decode cX3_spoken 50 = .ok (.getfield 93, 3) := by decide +kernel
theorem dX3_spoken_53 : decode cX3_spoken 53 = .ok (.istore 5, 2) := by decide +kernel
theorem dX3_spoken_55 : decode cX3_spoken 55 = .ok (.aload_n 0, 1) := by decide +kernel
theorem dX3_spoken_56 : decode cX3_spoken 56 = .ok (.getfield 23, 3) := by decide +kernel
theorem dX3_spoken_59 : decode cX3_spoken 59 = .ok (.getfield 93, 3) := by decide +kernel
theorem dX3_spoken_62 : decode cX3_spoken 62 = .ok (.istore 6, 2) := by decide +kernel
theorem dX3_spoken_64 : decode cX3_spoken 64 = .ok (.aload_n 0, 1) := by decide +kernel
theorem dX3_spoken_65 : decode cX3_spoken 65 = .ok (.getfield 48, 3) := by decide +kernel
theorem dX3_spoken_68 : decode cX3_spoken 68 = .ok (.iload_n 1, 1) := by decide +kernel
theorem dX3_spoken_69 : decode cX3_spoken 69 = .ok (.invokevirtual 174, 3) := by decide +kernel
theorem dX3_spoken_72 : decode cX3_spoken 72 = .ok (.istore 7, 2) := by decide +kernel
theorem dX3_spoken_74 : decode cX3_spoken 74 = .ok (.iconst 0, 1) := by decide +kernel
theorem dX3_spoken_75 : decode cX3_spoken 75 = .ok (.istore 8, 2) := by decide +kernel
theorem dX3_spoken_77 : decode cX3_spoken 77 = .ok (.iload 8, 2) := by decide +kernel
theorem dX3_spoken_79 : decode cX3_spoken 79 = .ok (.iload 7, 2) := by decide +kernel
theorem dX3_spoken_81 : decode cX3_spoken 81 = .ok (.if_icmp .ge 66, 3) := by decide +kernel
theorem dX3_spoken_84 : decode cX3_spoken 84 = .ok (.aload_n 0, 1) := by decide +kernel
theorem dX3_spoken_85 : decode cX3_spoken 85 = .ok (.getfield 48, 3) := by decide +kernel
theorem dX3_spoken_88 : decode cX3_spoken 88 = .ok (.iload 8, 2) := by decide +kernel
theorem dX3_spoken_90 : decode cX3_spoken 90 = .ok (.iload_n 1, 1) := by decide +kernel
theorem dX3_spoken_91 : decode cX3_spoken 91 = .ok (.invokevirtual 177, 3) := by decide +kernel
theorem dX3_spoken_94 : decode cX3_spoken 94 = .ok (.istore 9, 2) := by decide +kernel
theorem dX3_spoken_96 : decode cX3_spoken 96 = .ok (.aload_n 0, 1) := by decide +kernel
theorem dX3_spoken_97 : decode cX3_spoken 97 = .ok (.iload_n 1, 1) := by decide +kernel
theorem dX3_spoken_98 : decode cX3_spoken 98 = .ok (.iload 9, 2) := by decide +kernel
theorem dX3_spoken_100 : decode cX3_spoken 100 = .ok (.aload_n 0, 1) := by decide +kernel
theorem dX3_spoken_101 : decode cX3_spoken 101 = .ok (.getfield 23, 3) := by decide +kernel
theorem dX3_spoken_104 : decode cX3_spoken 104 = .ok (.getfield 93, 3) := by decide +kernel
theorem dX3_spoken_107 : decode cX3_spoken 107 = .ok (.iload_n 2, 1) := by decide +kernel
theorem dX3_spoken_108 : decode cX3_spoken 108 = .ok (.invokevirtual 180, 3) := by decide +kernel
theorem dX3_spoken_111 : decode cX3_spoken 111 = .ok (.ifCond .eq 30, 3) := by decide +kernel
theorem dX3_spoken_114 : decode cX3_spoken 114 = .ok (.iinc 4 1, 3) := by decide +kernel
theorem dX3_spoken_117 : decode cX3_spoken 117 = .ok (.iload 5, 2) := by decide +kernel
theorem dX3_spoken_119 : decode cX3_spoken 119 = .ok (.iload_n 1, 1) := by decide +kernel
theorem dX3_spoken_120 : decode cX3_spoken 120 = .ok (.iload 9, 2) := by decide +kernel
theorem dX3_spoken_122 : decode cX3_spoken 122 = .ok (.invokestatic 184, 3) := by decide +kernel
theorem dX3_spoken_125 : decode cX3_spoken 125 = .ok (.iand, 1) := by decide +kernel
theorem dX3_spoken_126 : decode cX3_spoken 126 = .ok (.istore 5, 2) := by decide +kernel
theorem dX3_spoken_128 : decode cX3_spoken 128 = .ok (.iload 6, 2) := by decide +kernel
theorem dX3_spoken_130 : decode cX3_spoken 130 = .ok (.iload_n 1, 1) := by decide +kernel
theorem dX3_spoken_131 : decode cX3_spoken 131 = .ok (.iload 9, 2) := by decide +kernel
theorem dX3_spoken_133 : decode cX3_spoken 133 = .ok (.invokestatic 184, 3) := by decide +kernel
theorem dX3_spoken_136 : decode cX3_spoken 136 = .ok (.iconst (-1), 1) := by decide +kernel
theorem dX3_spoken_137 : decode cX3_spoken 137 = .ok (.ixor, 1) := by decide +kernel
theorem dX3_spoken_138 : decode cX3_spoken 138 = .ok (.iand, 1) := by decide +kernel
theorem dX3_spoken_139 : decode cX3_spoken 139 = .ok (.istore 6, 2) := by decide +kernel
theorem dX3_spoken_141 : decode cX3_spoken 141 = .ok (.iinc 8 1, 3) := by decide +kernel
theorem dX3_spoken_144 : decode cX3_spoken 144 = .ok (.goto (-67), 3) := by decide +kernel
theorem dX3_spoken_147 : decode cX3_spoken 147 = .ok (.iload_n 3, 1) := by decide +kernel
theorem dX3_spoken_148 : decode cX3_spoken 148 = .ok (.ifCond .ne 6, 3) := by decide +kernel
theorem dX3_spoken_151 : decode cX3_spoken 151 = .ok (.iload 4, 2) := by decide +kernel
theorem dX3_spoken_153 : decode cX3_spoken 153 = .ok (.ireturn, 1) := by decide +kernel
theorem dX3_spoken_154 : decode cX3_spoken 154 = .ok (.iload 4, 2) := by decide +kernel
theorem dX3_spoken_156 : decode cX3_spoken 156 = .ok (.ifCond .ne 6, 3) := by decide +kernel
theorem dX3_spoken_159 : decode cX3_spoken 159 = .ok (.bipush (-9), 2) := by decide +kernel
theorem dX3_spoken_161 : decode cX3_spoken 161 = .ok (.ireturn, 1) := by decide +kernel
theorem dX3_spoken_162 : decode cX3_spoken 162 = .ok (.iload_n 3, 1) := by decide +kernel
theorem dX3_spoken_163 : decode cX3_spoken 163 = .ok (.iconst 1, 1) := by decide +kernel
theorem dX3_spoken_164 : decode cX3_spoken 164 = .ok (.if_icmp .ne 8, 3) := by decide +kernel
theorem dX3_spoken_167 : decode cX3_spoken 167 = .ok (.iload 5, 2) := by decide +kernel
theorem dX3_spoken_169 : decode cX3_spoken 169 = .ok (.goto 5, 3) := by decide +kernel
theorem dX3_spoken_172 : decode cX3_spoken 172 = .ok (.iload 6, 2) := by decide +kernel
theorem dX3_spoken_174 : decode cX3_spoken 174 = .ok (.ireturn, 1) := by decide +kernel
set_option maxRecDepth 20000 in
theorem ggX3_quarrel_X3_isThere : GoodIn wsX3_quarrel wsX3_isThere := goodIn_r _ [8, 9, 32, 33, 34, 35, 36, 37, 38, 39, 40, 41, 42, 43, 44, 45, 46, 47, 48, 49] (by decide +kernel) (by decide +kernel)
set_option maxRecDepth 20000 in
theorem gX3_quarrel_X3_isThere : GoodIn wsX3_quarrel (wsV RX3 86 RX3 yX3_isThere wsX3_isThere) := goodIn_app (goodIn_of _ (by decide +kernel)) ggX3_quarrel_X3_isThere
set_option maxRecDepth 20000 in
theorem ggX3_quarrel_X2_become : GoodIn wsX3_quarrel wsX2_become := goodIn_r _ [13, 14, 15, 16, 17, 54, 55, 56, 57] (by decide +kernel) (by decide +kernel)
set_option maxRecDepth 20000 in
theorem gX3_quarrel_X2_become_n187 : GoodIn wsX3_quarrel (wsX2_become) := ggX3_quarrel_X2_become
set_option maxRecDepth 20000 in
theorem ggX3_quarrel_X3_isSense : GoodIn wsX3_quarrel wsX3_isSense := goodIn_r _ [20] (by decide +kernel) (by decide +kernel)
set_option maxRecDepth 20000 in
theorem gX3_quarrel_X3_isSense : GoodIn wsX3_quarrel (va_wsS RX3 149 yX3_isSense wsX3_isSense) := goodIn_app (goodIn_of _ (by decide +kernel)) ggX3_quarrel_X3_isSense
set_option maxRecDepth 20000 in
theorem ggX3_quarrel_X3_sentenceOf : GoodIn wsX3_quarrel wsX3_sentenceOf := goodIn_r _ [24, 25, 2, 32, 33, 34, 35, 36, 37, 38, 39, 40, 41, 42, 43, 44, 45, 46, 47, 48, 49, 50, 51, 52, 53] (by decide +kernel) (by decide +kernel)
set_option maxRecDepth 20000 in
theorem gX3_quarrel_X3_sentenceOf : GoodIn wsX3_quarrel (wsV RX3 190 RX3 yX3_sentenceOf wsX3_sentenceOf) := goodIn_app (goodIn_of _ (by decide +kernel)) ggX3_quarrel_X3_sentenceOf
set_option maxRecDepth 20000 in
theorem ggX3_quarrel_X2_utter : GoodIn wsX3_quarrel wsX2_utter := goodIn_r _ [28, 16, 14, 15, 17, 29, 30, 11, 31, 54, 55, 56, 57] (by decide +kernel) (by decide +kernel)
set_option maxRecDepth 20000 in
theorem gX3_quarrel_X2_utter_n193 : GoodIn wsX3_quarrel (wsX2_utter) := ggX3_quarrel_X2_utter
theorem dX3_quarrel_0 : decode cX3_quarrel 0 = .ok (.aload_n 0, 1) := by decide +kernel
theorem dX3_quarrel_1 : decode cX3_quarrel 1 = .ok (.iload_n 1, 1) := by decide +kernel
theorem dX3_quarrel_2 : decode cX3_quarrel 2 = .ok (.invokevirtual 86, 3) := by decide +kernel
theorem dX3_quarrel_5 : decode cX3_quarrel 5 = .ok (.ifCond .eq 11, 3) := by decide +kernel
theorem dX3_quarrel_8 : decode cX3_quarrel 8 = .ok (.aload_n 0, 1) := by decide +kernel
theorem dX3_quarrel_9 : decode cX3_quarrel 9 = .ok (.iload_n 2, 1) := by decide +kernel
theorem dX3_quarrel_10 : decode cX3_quarrel 10 = .ok (.invokevirtual 86, 3) := by decide +kernel
theorem dX3_quarrel_13 : decode cX3_quarrel 13 = .ok (.ifCond .ne 5, 3) := by decide +kernel
theorem dX3_quarrel_16 : decode cX3_quarrel 16 = .ok (.iconst (-1), 1) := by decide +kernel
theorem dX3_quarrel_17 : decode cX3_quarrel 17 = .ok (.ireturn, 1) := by decide +kernel
theorem dX3_quarrel_18 : decode cX3_quarrel 18 = .ok (.iload_n 1, 1) := by decide +kernel
theorem dX3_quarrel_19 : decode cX3_quarrel 19 = .ok (.iload_n 2, 1) := by decide +kernel
theorem dX3_quarrel_20 : decode cX3_quarrel 20 = .ok (.if_icmp .ne 6, 3) := by decide +kernel
theorem dX3_quarrel_23 : decode cX3_quarrel 23 = .ok (.bipush (-2), 2) := by decide +kernel
theorem dX3_quarrel_25 : decode cX3_quarrel 25 = .ok (.ireturn, 1) := by decide +kernel
theorem dX3_quarrel_26 : decode cX3_quarrel 26 = .ok (.aload_n 0, 1) := by decide +kernel
theorem dX3_quarrel_27 : decode cX3_quarrel 27 = .ok (.getfield 41, 3) := by decide +kernel
theorem dX3_quarrel_30 : decode cX3_quarrel 30 = .ok (.aload_n 0, 1) := by decide +kernel
theorem dX3_quarrel_31 : decode cX3_quarrel 31 = .ok (.getfield 23, 3) := by decide +kernel
theorem dX3_quarrel_34 : decode cX3_quarrel 34 = .ok (.getfield 100, 3) := by decide +kernel
theorem dX3_quarrel_37 : decode cX3_quarrel 37 = .ok (.invokevirtual 187, 3) := by decide +kernel
theorem dX3_quarrel_40 : decode cX3_quarrel 40 = .ok (.iconst 0, 1) := by decide +kernel
theorem dX3_quarrel_41 : decode cX3_quarrel 41 = .ok (.istore 4, 2) := by decide +kernel
theorem dX3_quarrel_43 : decode cX3_quarrel 43 = .ok (.iload 4, 2) := by decide +kernel
theorem dX3_quarrel_45 : decode cX3_quarrel 45 = .ok (.aload_n 0, 1) := by decide +kernel
theorem dX3_quarrel_46 : decode cX3_quarrel 46 = .ok (.getfield 52, 3) := by decide +kernel
theorem dX3_quarrel_49 : decode cX3_quarrel 49 = .ok (.arraylength, 1) := by decide +kernel
theorem dX3_quarrel_50 : decode cX3_quarrel 50 = .ok (.if_icmp .ge 18, 3) := by decide +kernel
theorem dX3_quarrel_53 : decode cX3_quarrel 53 = .ok (.aload_n 0, 1) := by decide +kernel
theorem dX3_quarrel_54 : decode cX3_quarrel 54 = .ok (.getfield 52, 3) := by decide +kernel
theorem dX3_quarrel_57 : decode cX3_quarrel 57 = .ok (.iload 4, 2) := by decide +kernel
theorem dX3_quarrel_59 : decode cX3_quarrel 59 = .ok (.bipush (-9), 2) := by decide +kernel
theorem dX3_quarrel_61 : decode cX3_quarrel 61 = .ok (.iastore, 1) := by decide +kernel
theorem dX3_quarrel_62 : decode cX3_quarrel 62 = .ok (.iinc 4 1, 3) := by decide +kernel
theorem dX3_quarrel_65 : decode cX3_quarrel 65 = .ok (.goto (-22), 3) := by decide +kernel
theorem dX3_quarrel_68 : decode cX3_quarrel 68 = .ok (.iconst 0, 1) := by decide +kernel
theorem dX3_quarrel_69 : decode cX3_quarrel 69 = .ok (.istore 4, 2) := by decide +kernel
theorem dX3_quarrel_71 : decode cX3_quarrel 71 = .ok (.iload 4, 2) := by decide +kernel
theorem dX3_quarrel_73 : decode cX3_quarrel 73 = .ok (.bipush 10, 2) := by decide +kernel
theorem dX3_quarrel_75 : decode cX3_quarrel 75 = .ok (.if_icmp .gt 95, 3) := by decide +kernel
theorem dX3_quarrel_78 : decode cX3_quarrel 78 = .ok (.aload_n 0, 1) := by decide +kernel
theorem dX3_quarrel_79 : decode cX3_quarrel 79 = .ok (.getfield 41, 3) := by decide +kernel
theorem dX3_quarrel_82 : decode cX3_quarrel 82 = .ok (.getfield 128, 3) := by decide +kernel
theorem dX3_quarrel_85 : decode cX3_quarrel 85 = .ok (.istore 5, 2) := by decide +kernel
theorem dX3_quarrel_87 : decode cX3_quarrel 87 = .ok (.iload 5, 2) := by decide +kernel
theorem dX3_quarrel_89 : decode cX3_quarrel 89 = .ok (.invokestatic 149, 3) := by decide +kernel
theorem dX3_quarrel_92 : decode cX3_quarrel 92 = .ok (.ifCond .ne 6, 3) := by decide +kernel
theorem dX3_quarrel_95 : decode cX3_quarrel 95 = .ok (.bipush (-9), 2) := by decide +kernel
theorem dX3_quarrel_97 : decode cX3_quarrel 97 = .ok (.ireturn, 1) := by decide +kernel
theorem dX3_quarrel_98 : decode cX3_quarrel 98 = .ok (.aload_n 0, 1) := by decide +kernel
theorem dX3_quarrel_99 : decode cX3_quarrel 99 = .ok (.getfield 52, 3) := by decide +kernel
theorem dX3_quarrel_102 : decode cX3_quarrel 102 = .ok (.iload 5, 2) := by decide +kernel
theorem dX3_quarrel_104 : decode cX3_quarrel 104 = .ok (.iaload, 1) := by decide +kernel
theorem dX3_quarrel_105 : decode cX3_quarrel 105 = .ok (.bipush (-9), 2) := by decide +kernel
theorem dX3_quarrel_107 : decode cX3_quarrel 107 = .ok (.if_icmp .eq 20, 3) := by decide +kernel
theorem dX3_quarrel_110 : decode cX3_quarrel 110 = .ok (.iload_n 3, 1) := by decide +kernel
theorem dX3_quarrel_111 : decode cX3_quarrel 111 = .ok (.ifCond .eq 13, 3) := by decide +kernel
theorem dX3_quarrel_114 : decode cX3_quarrel 114 = .ok (.aload_n 0, 1) := by decide +kernel
theorem dX3_quarrel_115 : decode cX3_quarrel 115 = .ok (.getfield 52, 3) := by decide +kernel
theorem dX3_quarrel_118 : decode cX3_quarrel 118 = .ok (.iload 5, 2) := by decide +kernel
theorem dX3_quarrel_120 : decode cX3_quarrel 120 = .ok (.iaload, 1) := by decide +kernel
theorem dX3_quarrel_121 : decode cX3_quarrel 121 = .ok (.goto 5, 3) := by decide +kernel
theorem dX3_quarrel_124 : decode cX3_quarrel 124 = .ok (.iload 4, 2) := by decide +kernel
theorem dX3_quarrel_126 : decode cX3_quarrel 126 = .ok (.ireturn, 1) := by decide +kernel
theorem dX3_quarrel_127 : decode cX3_quarrel 127 = .ok (.aload_n 0, 1) := by decide +kernel
theorem dX3_quarrel_128 : decode cX3_quarrel 128 = .ok (.getfield 52, 3) := by decide +kernel
theorem dX3_quarrel_131 : decode cX3_quarrel 131 = .ok (.iload 5, 2) := by decide +kernel
theorem dX3_quarrel_133 : decode cX3_quarrel 133 = .ok (.iload 4, 2) := by decide +kernel
theorem dX3_quarrel_135 : decode cX3_quarrel 135 = .ok (.iastore, 1) := by decide +kernel
theorem dX3_quarrel_136 : decode cX3_quarrel 136 = .ok (.aload_n 0, 1) := by decide +kernel
theorem dX3_quarrel_137 : decode cX3_quarrel 137 = .ok (.getfield 41, 3) := by decide +kernel
theorem dX3_quarrel_140 : decode cX3_quarrel 140 = .ok (.iload_n 1, 1) := by decide +kernel
theorem dX3_quarrel_141 : decode cX3_quarrel 141 = .ok (.aload_n 0, 1) := by decide +kernel
theorem dX3_quarrel_142 : decode cX3_quarrel 142 = .ok (.iload_n 1, 1) := by decide +kernel
theorem dX3_quarrel_143 : decode cX3_quarrel 143 = .ok (.invokevirtual 190, 3) := by decide +kernel
theorem dX3_quarrel_146 : decode cX3_quarrel 146 = .ok (.iconst 1, 1) := by decide +kernel
theorem dX3_quarrel_147 : decode cX3_quarrel 147 = .ok (.invokevirtual 193, 3) := by decide +kernel
theorem dX3_quarrel_150 : decode cX3_quarrel 150 = .ok (.aload_n 0, 1) := by decide +kernel
theorem dX3_quarrel_151 : decode cX3_quarrel 151 = .ok (.getfield 41, 3) := by decide +kernel
theorem dX3_quarrel_154 : decode cX3_quarrel 154 = .ok (.iload_n 2, 1) := by decide +kernel
theorem dX3_quarrel_155 : decode cX3_quarrel 155 = .ok (.aload_n 0, 1) := by decide +kernel
theorem dX3_quarrel_156 : decode cX3_quarrel 156 = .ok (.iload_n 2, 1) := by decide +kernel
theorem dX3_quarrel_157 : decode cX3_quarrel 157 = .ok (.invokevirtual 190, 3) := by decide +kernel
theorem dX3_quarrel_160 : decode cX3_quarrel 160 = .ok (.iconst 1, 1) := by decide +kernel
theorem dX3_quarrel_161 : decode cX3_quarrel 161 = .ok (.invokevirtual 193, 3) := by decide +kernel
theorem dX3_quarrel_164 : decode cX3_quarrel 164 = .ok (.iinc 4 1, 3) := by decide +kernel
theorem dX3_quarrel_167 : decode cX3_quarrel 167 = .ok (.goto (-96), 3) := by decide +kernel
theorem dX3_quarrel_170 : decode cX3_quarrel 170 = .ok (.bipush (-9), 2) := by decide +kernel
theorem dX3_quarrel_172 : decode cX3_quarrel 172 = .ok (.ireturn, 1) := by decide +kernel
set_option maxRecDepth 20000 in
theorem ggX3_share_X3_isThere : GoodIn wsX3_share wsX3_isThere := goodIn_r _ [6, 7, 87, 88, 89, 90, 91, 92, 93, 94, 95, 96, 97, 98, 99, 100, 101, 102, 103, 104] (by decide +kernel) (by decide +kernel)
set_option maxRecDepth 20000 in
theorem gX3_share_X3_isThere : GoodIn wsX3_share (wsV RX3 86 RX3 yX3_isThere wsX3_isThere) := goodIn_app (goodIn_of _ (by decide +kernel)) ggX3_share_X3_isThere
set_option maxRecDepth 20000 in
theorem ggX3_share_X3_has : GoodIn wsX3_share wsX3_has := goodIn_r _ [10] (by decide +kernel) (by decide +kernel)
set_option maxRecDepth 20000 in
theorem gX3_share_X3_has : GoodIn wsX3_share (va_wsS RX3 96 yX3_has wsX3_has) := goodIn_app (goodIn_of _ (by decide +kernel)) ggX3_share_X3_has
set_option maxRecDepth 20000 in
theorem ggX3_share_X3_fraction : GoodIn wsX3_share wsX3_fraction := goodIn_r _ [13, 14, 15, 5, 16] (by decide +kernel) (by decide +kernel)
set_option maxRecDepth 20000 in
theorem gX3_share_X3_fraction : GoodIn wsX3_share (va_wsS RX3 197 yX3_fraction wsX3_fraction) := goodIn_app (goodIn_of _ (by decide +kernel)) ggX3_share_X3_fraction
set_option maxRecDepth 20000 in
theorem ggX3_share_J6_bitCount_0f7a4 : GoodIn wsX3_share wsJ6_bitCount_0f7a4 := goodIn_r _ [20, 21, 22, 23] (by decide +kernel) (by decide +kernel)
set_option maxRecDepth 20000 in
theorem gX3_share_J6_bitCount_0f7a4 : GoodIn wsX3_share (va_wsS RX3 119 yJ6_bitCount_0f7a4 wsJ6_bitCount_0f7a4) := goodIn_app (goodIn_of _ (by decide +kernel)) ggX3_share_J6_bitCount_0f7a4
set_option maxRecDepth 20000 in
theorem ggX3_share_X3_orders : GoodIn wsX3_share wsX3_orders := goodIn_r _ [26, 27] (by decide +kernel) (by decide +kernel)
set_option maxRecDepth 20000 in
theorem gX3_share_X3_orders : GoodIn wsX3_share (va_wsS RX3 201 yX3_orders wsX3_orders) := goodIn_app (goodIn_of _ (by decide +kernel)) ggX3_share_X3_orders
set_option maxRecDepth 20000 in
theorem ggX3_share_X3_gain : GoodIn wsX3_share wsX3_gain := goodIn_r _ [31, 32, 33, 34, 5, 35, 36, 37, 38, 39, 40, 41, 42, 43, 9, 10, 44, 45, 46, 47, 48, 49, 50, 51, 52, 53, 54, 55, 1, 56, 57, 58, 59, 60, 61, 62, 63, 64, 65, 66, 67, 68, 69, 70, 71, 8, 72, 73, 74, 75, 76, 77, 78, 79, 80, 81, 82, 83, 84, 85, 86, 17, 18, 19, 20, 21, 22, 23, 87, 88, 89, 90, 91, 92, 93, 94, 95, 96, 97, 98, 99, 100, 101, 102, 103, 104, 109, 110, 111, 112, 113, 114, 105, 106, 107, 108] (by decide +kernel) (by decide +kernel)
set_option maxRecDepth 20000 in
theorem gX3_share_X3_gain : GoodIn wsX3_share (wsV RX3 204 RX3 yX3_gain wsX3_gain) := goodIn_app (goodIn_of _ (by decide +kernel)) ggX3_share_X3_gain
theorem dX3_share_0 : decode cX3_share 0 = .ok (.aload_n 0, 1) := by decide +kernel
theorem dX3_share_1 : decode cX3_share 1 = .ok (.iload_n 1, 1) := by decide +kernel
theorem dX3_share_2 : decode cX3_share 2 = .ok (.invokevirtual 86, 3) := by decide +kernel
theorem dX3_share_5 : decode cX3_share 5 = .ok (.ifCond .ne 5, 3) := by decide +kernel
theorem dX3_share_8 : decode cX3_share 8 = .ok (.iconst (-1), 1) := by decide +kernel
theorem dX3_share_9 : decode cX3_share 9 = .ok (.ireturn, 1) := by decide +kernel
theorem dX3_share_10 : decode cX3_share 10 = .ok (.iload_n 2, 1) := by decide +kernel
theorem dX3_share_11 : decode cX3_share 11 = .ok (.iconst 1, 1) := by decide +kernel
theorem dX3_share_12 : decode cX3_share 12 = .ok (.if_icmp .lt 8, 3) := by decide +kernel
theorem dX3_share_15 : decode cX3_share 15 = .ok (.iload_n 2, 1) := by decide +kernel
theorem dX3_share_16 : decode cX3_share 16 = .ok (.iconst 3, 1) := by decide +kernel
theorem dX3_share_17 : decode cX3_share 17 = .ok (.if_icmp .le 6, 3) := by decide +kernel
theorem dX3_share_20 : decode cX3_share 20 = .ok (.bipush (-2), 2) := by decide +kernel
theorem dX3_share_22 : decode cX3_share 22 = .ok (.ireturn, 1) := by decide +kernel
theorem dX3_share_23 : decode cX3_share 23 = .ok (.aload_n 0, 1) := by decide +kernel
theorem dX3_share_24 : decode cX3_share 24 = .ok (.getfield 23, 3) := by decide +kernel
theorem dX3_share_27 : decode cX3_share 27 = .ok (.getfield 93, 3) := by decide +kernel
theorem dX3_share_30 : decode cX3_share 30 = .ok (.iload_n 1, 1) := by decide +kernel
theorem dX3_share_31 : decode cX3_share 31 = .ok (.invokestatic 96, 3) := by decide +kernel
theorem dX3_share_34 : decode cX3_share 34 = .ok (.ifCond .ne 10, 3) := by decide +kernel
theorem dX3_share_37 : decode cX3_share 37 = .ok (.iconst 0, 1) := by decide +kernel
theorem dX3_share_38 : decode cX3_share 38 = .ok (.iconst 1, 1) := by decide +kernel
theorem dX3_share_39 : decode cX3_share 39 = .ok (.iload_n 3, 1) := by decide +kernel
theorem dX3_share_40 : decode cX3_share 40 = .ok (.invokestatic 197, 3) := by decide +kernel
theorem dX3_share_43 : decode cX3_share 43 = .ok (.ireturn, 1) := by decide +kernel
theorem dX3_share_44 : decode cX3_share 44 = .ok (.aload_n 0, 1) := by decide +kernel
theorem dX3_share_45 : decode cX3_share 45 = .ok (.getfield 23, 3) := by decide +kernel
theorem dX3_share_48 : decode cX3_share 48 = .ok (.getfield 93, 3) := by decide +kernel
theorem dX3_share_51 : decode cX3_share 51 = .ok (.iconst 1, 1) := by decide +kernel
theorem dX3_share_52 : decode cX3_share 52 = .ok (.iload_n 1, 1) := by decide +kernel
theorem dX3_share_53 : decode cX3_share 53 = .ok (.ishl, 1) := by decide +kernel
theorem dX3_share_54 : decode cX3_share 54 = .ok (.iconst (-1), 1) := by decide +kernel
theorem dX3_share_55 : decode cX3_share 55 = .ok (.ixor, 1) := by decide +kernel
theorem dX3_share_56 : decode cX3_share 56 = .ok (.iand, 1) := by decide +kernel
theorem dX3_share_57 : decode cX3_share 57 = .ok (.istore 4, 2) := by decide +kernel
theorem dX3_share_59 : decode cX3_share 59 = .ok (.iload 4, 2) := by decide +kernel
theorem dX3_share_61 : decode cX3_share 61 = .ok (.invokestatic 119, 3) := by decide +kernel
theorem dX3_share_64 : decode cX3_share 64 = .ok (.istore 5, 2) := by decide +kernel
theorem dX3_share_66 : decode cX3_share 66 = .ok (.iconst 0, 1) := by decide +kernel
theorem dX3_share_67 : decode cX3_share 67 = .ok (.istore 6, 2) := by decide +kernel
theorem dX3_share_69 : decode cX3_share 69 = .ok (.iconst 0, 1) := by decide +kernel
theorem dX3_share_70 : decode cX3_share 70 = .ok (.istore 7, 2) := by decide +kernel
theorem dX3_share_72 : decode cX3_share 72 = .ok (.iload 7, 2) := by decide +kernel
theorem dX3_share_74 : decode cX3_share 74 = .ok (.iload 4, 2) := by decide +kernel
theorem dX3_share_76 : decode cX3_share 76 = .ok (.if_icmp .gt 54, 3) := by decide +kernel
theorem dX3_share_79 : decode cX3_share 79 = .ok (.iload 7, 2) := by decide +kernel
theorem dX3_share_81 : decode cX3_share 81 = .ok (.iload 4, 2) := by decide +kernel
theorem dX3_share_83 : decode cX3_share 83 = .ok (.iconst (-1), 1) := by decide +kernel
theorem dX3_share_84 : decode cX3_share 84 = .ok (.ixor, 1) := by decide +kernel
theorem dX3_share_85 : decode cX3_share 85 = .ok (.iand, 1) := by decide +kernel
theorem dX3_share_86 : decode cX3_share 86 = .ok (.ifCond .ne 38, 3) := by decide +kernel
theorem dX3_share_89 : decode cX3_share 89 = .ok (.iload 7, 2) := by decide +kernel
theorem dX3_share_91 : decode cX3_share 91 = .ok (.invokestatic 119, 3) := by decide +kernel
theorem dX3_share_94 : decode cX3_share 94 = .ok (.istore 8, 2) := by decide +kernel
theorem dX3_share_96 : decode cX3_share 96 = .ok (.iload 6, 2) := by decide +kernel
theorem dX3_share_98 : decode cX3_share 98 = .ok (.iload 8, 2) := by decide +kernel
theorem dX3_share_100 : decode cX3_share 100 = .ok (.invokestatic 201, 3) := by decide +kernel
theorem dX3_share_103 : decode cX3_share 103 = .ok (.iload 5, 2) := by decide +kernel
theorem dX3_share_105 : decode cX3_share 105 = .ok (.iload 8, 2) := by decide +kernel
theorem dX3_share_107 : decode cX3_share 107 = .ok (.isub, 1) := by decide +kernel
theorem dX3_share_108 : decode cX3_share 108 = .ok (.invokestatic 201, 3) := by decide +kernel
theorem dX3_share_111 : decode cX3_share 111 = .ok (.imul, 1) := by decide +kernel
theorem dX3_share_112 : decode cX3_share 112 = .ok (.aload_n 0, 1) := by decide +kernel
theorem dX3_share_113 : decode cX3_share 113 = .ok (.iload 7, 2) := by decide +kernel
theorem dX3_share_115 : decode cX3_share 115 = .ok (.iload_n 1, 1) := by decide +kernel
theorem dX3_share_116 : decode cX3_share 116 = .ok (.iload_n 2, 1) := by decide +kernel
theorem dX3_share_117 : decode cX3_share 117 = .ok (.invokevirtual 204, 3) := by decide +kernel
theorem dX3_share_120 : decode cX3_share 120 = .ok (.imul, 1) := by decide +kernel
theorem dX3_share_121 : decode cX3_share 121 = .ok (.iadd, 1) := by decide +kernel
theorem dX3_share_122 : decode cX3_share 122 = .ok (.istore 6, 2) := by decide +kernel
theorem dX3_share_124 : decode cX3_share 124 = .ok (.iinc 7 1, 3) := by decide +kernel
theorem dX3_share_127 : decode cX3_share 127 = .ok (.goto (-55), 3) := by decide +kernel
theorem dX3_share_130 : decode cX3_share 130 = .ok (.iload 6, 2) := by decide +kernel
theorem dX3_share_132 : decode cX3_share 132 = .ok (.iload 5, 2) := by decide +kernel
theorem dX3_share_134 : decode cX3_share 134 = .ok (.iconst 1, 1) := by decide +kernel
theorem dX3_share_135 : decode cX3_share 135 = .ok (.iadd, 1) := by decide +kernel
theorem dX3_share_136 : decode cX3_share 136 = .ok (.invokestatic 201, 3) := by decide +kernel
theorem dX3_share_139 : decode cX3_share 139 = .ok (.iload_n 3, 1) := by decide +kernel
theorem dX3_share_140 : decode cX3_share 140 = .ok (.invokestatic 197, 3) := by decide +kernel
theorem dX3_share_143 : decode cX3_share 143 = .ok (.ireturn, 1) := by decide +kernel
set_option maxRecDepth 20000 in
theorem ggX3_rests_X3_isThere : GoodIn wsX3_rests wsX3_isThere := goodIn_r _ [5, 6, 48, 49, 50, 51, 52, 53, 54, 55, 56, 57, 58, 59, 60, 61, 62, 63, 64, 65] (by decide +kernel) (by decide +kernel)
set_option maxRecDepth 20000 in
theorem gX3_rests_X3_isThere : GoodIn wsX3_rests (wsV RX3 86 RX3 yX3_isThere wsX3_isThere) := goodIn_app (goodIn_of _ (by decide +kernel)) ggX3_rests_X3_isThere
set_option maxRecDepth 20000 in
theorem ggX3_rests_X3_isSense : GoodIn wsX3_rests wsX3_isSense := goodIn_r _ [9] (by decide +kernel) (by decide +kernel)
set_option maxRecDepth 20000 in
theorem gX3_rests_X3_isSense : GoodIn wsX3_rests (va_wsS RX3 149 yX3_isSense wsX3_isSense) := goodIn_app (goodIn_of _ (by decide +kernel)) ggX3_rests_X3_isSense
set_option maxRecDepth 20000 in
theorem ggX3_rests_X3_playOutcomes : GoodIn wsX3_rests wsX3_playOutcomes := goodIn_r _ [13, 14, 15, 16, 17, 18, 19, 20, 21, 22, 23, 24, 25, 26, 27, 4, 28, 29, 30, 31, 32, 33, 34, 35, 48, 49, 50, 51, 52, 53, 54, 55, 56, 57, 58, 59, 60, 61, 62, 63, 64, 65, 66, 67, 68, 69, 70, 71, 72, 73] (by decide +kernel) (by decide +kernel)
set_option maxRecDepth 20000 in
theorem gX3_rests_X3_playOutcomes : GoodIn wsX3_rests (wsV RX3 207 RX3 yX3_playOutcomes wsX3_playOutcomes) := goodIn_app (goodIn_of _ (by decide +kernel)) ggX3_rests_X3_playOutcomes
set_option maxRecDepth 20000 in
theorem ggX3_rests_X3_isRest : GoodIn wsX3_rests wsX3_isRest := goodIn_r _ [39, 40, 41, 42, 4, 43, 14, 44, 45, 46, 47, 48, 49, 50, 51, 52, 53, 54, 55, 56, 57, 58, 59, 60, 61, 62, 63, 64, 65] (by decide +kernel) (by decide +kernel)
set_option maxRecDepth 20000 in
theorem gX3_rests_X3_isRest : GoodIn wsX3_rests (wsV RX3 210 RX3 yX3_isRest wsX3_isRest) := goodIn_app (goodIn_of _ (by decide +kernel)) ggX3_rests_X3_isRest
theorem dX3_rests_0 : decode cX3_rests 0 = .ok (.aload_n 0, 1) := by decide +kernel
theorem dX3_rests_1 : decode cX3_rests 1 = .ok (.iload_n 1, 1) := by decide +kernel
theorem dX3_rests_2 : decode cX3_rests 2 = .ok (.invokevirtual 86, 3) := by decide +kernel
theorem dX3_rests_5 : decode cX3_rests 5 = .ok (.ifCond .eq 11, 3) := by decide +kernel
theorem dX3_rests_8 : decode cX3_rests 8 = .ok (.aload_n 0, 1) := by decide +kernel
theorem dX3_rests_9 : decode cX3_rests 9 = .ok (.iload_n 2, 1) := by decide +kernel
theorem dX3_rests_10 : decode cX3_rests 10 = .ok (.invokevirtual 86, 3) := by decide +kernel
theorem dX3_rests_13 : decode cX3_rests 13 = .ok (.ifCond .ne 5, 3) := by decide +kernel
theorem dX3_rests_16 : decode cX3_rests 16 = .ok (.iconst (-1), 1) := by decide +kernel
theorem dX3_rests_17 : decode cX3_rests 17 = .ok (.ireturn, 1) := by decide +kernel
theorem dX3_rests_18 : decode cX3_rests 18 = .ok (.iload_n 1, 1) := by decide +kernel
theorem dX3_rests_19 : decode cX3_rests 19 = .ok (.iload_n 2, 1) := by decide +kernel
theorem dX3_rests_20 : decode cX3_rests 20 = .ok (.if_icmp .eq 29, 3) := by decide +kernel
theorem dX3_rests_23 : decode cX3_rests 23 = .ok (.iload_n 3, 1) := by decide +kernel
theorem dX3_rests_24 : decode cX3_rests 24 = .ok (.invokestatic 149, 3) := by decide +kernel
theorem dX3_rests_27 : decode cX3_rests 27 = .ok (.ifCond .eq 22, 3) := by decide +kernel
theorem dX3_rests_30 : decode cX3_rests 30 = .ok (.iload 4, 2) := by decide +kernel
theorem dX3_rests_32 : decode cX3_rests 32 = .ok (.invokestatic 149, 3) := by decide +kernel
theorem dX3_rests_35 : decode cX3_rests 35 = .ok (.ifCond .eq 14, 3) := by decide +kernel
theorem dX3_rests_38 : decode cX3_rests 38 = .ok (.iload 5, 2) := by decide +kernel
theorem dX3_rests_40 : decode cX3_rests 40 = .ok (.ifCond .lt 9, 3) := by decide +kernel
theorem dX3_rests_43 : decode cX3_rests 43 = .ok (.iload 5, 2) := by decide +kernel
theorem dX3_rests_45 : decode cX3_rests 45 = .ok (.iconst 1, 1) := by decide +kernel
theorem dX3_rests_46 : decode cX3_rests 46 = .ok (.if_icmp .le 6, 3) := by decide +kernel
theorem dX3_rests_49 : decode cX3_rests 49 = .ok (.bipush (-2), 2) := by decide +kernel
theorem dX3_rests_51 : decode cX3_rests 51 = .ok (.ireturn, 1) := by decide +kernel
theorem dX3_rests_52 : decode cX3_rests 52 = .ok (.aload_n 0, 1) := by decide +kernel
theorem dX3_rests_53 : decode cX3_rests 53 = .ok (.iload_n 1, 1) := by decide +kernel
theorem dX3_rests_54 : decode cX3_rests 54 = .ok (.iload_n 2, 1) := by decide +kernel
theorem dX3_rests_55 : decode cX3_rests 55 = .ok (.invokevirtual 207, 3) := by decide +kernel
theorem dX3_rests_58 : decode cX3_rests 58 = .ok (.iconst 0, 1) := by decide +kernel
theorem dX3_rests_59 : decode cX3_rests 59 = .ok (.istore 6, 2) := by decide +kernel
theorem dX3_rests_61 : decode cX3_rests 61 = .ok (.bipush (-9), 2) := by decide +kernel
theorem dX3_rests_63 : decode cX3_rests 63 = .ok (.istore 7, 2) := by decide +kernel
theorem dX3_rests_65 : decode cX3_rests 65 = .ok (.iconst 0, 1) := by decide +kernel
theorem dX3_rests_66 : decode cX3_rests 66 = .ok (.istore 8, 2) := by decide +kernel
theorem dX3_rests_68 : decode cX3_rests 68 = .ok (.iload 8, 2) := by decide +kernel
theorem dX3_rests_70 : decode cX3_rests 70 = .ok (.iconst 4, 1) := by decide +kernel
theorem dX3_rests_71 : decode cX3_rests 71 = .ok (.if_icmp .ge 61, 3) := by decide +kernel
theorem dX3_rests_74 : decode cX3_rests 74 = .ok (.iconst 0, 1) := by decide +kernel
theorem dX3_rests_75 : decode cX3_rests 75 = .ok (.istore 9, 2) := by decide +kernel
theorem dX3_rests_77 : decode cX3_rests 77 = .ok (.iload 9, 2) := by decide +kernel
theorem dX3_rests_79 : decode cX3_rests 79 = .ok (.iconst 4, 1) := by decide +kernel
theorem dX3_rests_80 : decode cX3_rests 80 = .ok (.if_icmp .ge 46, 3) := by decide +kernel
theorem dX3_rests_83 : decode cX3_rests 83 = .ok (.aload_n 0, 1) := by decide +kernel
theorem dX3_rests_84 : decode cX3_rests 84 = .ok (.iload 8, 2) := by decide +kernel
theorem dX3_rests_86 : decode cX3_rests 86 = .ok (.iload 9, 2) := by decide +kernel
theorem dX3_rests_88 : decode cX3_rests 88 = .ok (.iload_n 3, 1) := by decide +kernel
theorem dX3_rests_89 : decode cX3_rests 89 = .ok (.iload 4, 2) := by decide +kernel
theorem dX3_rests_91 : decode cX3_rests 91 = .ok (.invokevirtual 210, 3) := by decide +kernel
theorem dX3_rests_94 : decode cX3_rests 94 = .ok (.ifCond .eq 26, 3) := by decide +kernel
theorem dX3_rests_97 : decode cX3_rests 97 = .ok (.iload 6, 2) := by decide +kernel
theorem dX3_rests_99 : decode cX3_rests 99 = .ok (.ifCond .ne 14, 3) := by decide +kernel
theorem dX3_rests_102 : decode cX3_rests 102 = .ok (.bipush 10, 2) := by decide +kernel
theorem dX3_rests_104 : decode cX3_rests 104 = .ok (.iload 8, 2) := by decide +kernel
theorem dX3_rests_106 : decode cX3_rests 106 = .ok (.imul, 1) := by decide +kernel
theorem dX3_rests_107 : decode cX3_rests 107 = .ok (.iload 9, 2) := by decide +kernel
theorem dX3_rests_109 : decode cX3_rests 109 = .ok (.iadd, 1) := by decide +kernel
theorem dX3_rests_110 : decode cX3_rests 110 = .ok (.goto 5, 3) := by decide +kernel
theorem dX3_rests_113 : decode cX3_rests 113 = .ok (.iload 7, 2) := by decide +kernel
theorem dX3_rests_115 : decode cX3_rests 115 = .ok (.istore 7, 2) := by decide +kernel
theorem dX3_rests_117 : decode cX3_rests 117 = .ok (.iinc 6 1, 3) := by decide +kernel
theorem dX3_rests_120 : decode cX3_rests 120 = .ok (.iinc 9 1, 3) := by decide +kernel
theorem dX3_rests_123 : decode cX3_rests 123 = .ok (.goto (-46), 3) := by decide +kernel
theorem dX3_rests_126 : decode cX3_rests 126 = .ok (.iinc 8 1, 3) := by decide +kernel
theorem dX3_rests_129 : decode cX3_rests 129 = .ok (.goto (-61), 3) := by decide +kernel
theorem dX3_rests_132 : decode cX3_rests 132 = .ok (.iload 5, 2) := by decide +kernel
theorem dX3_rests_134 : decode cX3_rests 134 = .ok (.ifCond .ne 8, 3) := by decide +kernel
theorem dX3_rests_137 : decode cX3_rests 137 = .ok (.iload 6, 2) := by decide +kernel
theorem dX3_rests_139 : decode cX3_rests 139 = .ok (.goto 5, 3) := by decide +kernel
theorem dX3_rests_142 : decode cX3_rests 142 = .ok (.iload 7, 2) := by decide +kernel
theorem dX3_rests_144 : decode cX3_rests 144 = .ok (.ireturn, 1) := by decide +kernel
set_option maxRecDepth 20000 in
theorem ggX3_chance_X3_isSense : GoodIn wsX3_chance wsX3_isSense := goodIn_r _ [7] (by decide +kernel) (by decide +kernel)
set_option maxRecDepth 20000 in
theorem gX3_chance_X3_isSense : GoodIn wsX3_chance (va_wsS RX3 149 yX3_isSense wsX3_isSense) := goodIn_app (goodIn_of _ (by decide +kernel)) ggX3_chance_X3_isSense
set_option maxRecDepth 20000 in
theorem ggX3_chance_X3_fraction : GoodIn wsX3_chance wsX3_fraction := goodIn_r _ [10, 11, 12, 6, 13] (by decide +kernel) (by decide +kernel)
set_option maxRecDepth 20000 in
theorem gX3_chance_X3_fraction : GoodIn wsX3_chance (va_wsS RX3 197 yX3_fraction wsX3_fraction) := goodIn_app (goodIn_of _ (by decide +kernel)) ggX3_chance_X3_fraction
set_option maxRecDepth 20000 in
theorem ggX3_chance_X1_by : GoodIn wsX3_chance wsX1_by := goodIn_r _ [17, 18, 19, 20, 6, 21, 92, 93] (by decide +kernel) (by decide +kernel)
set_option maxRecDepth 20000 in
theorem gX3_chance_X1_by_n152 : GoodIn wsX3_chance (wsX1_by) := ggX3_chance_X1_by
set_option maxRecDepth 20000 in
theorem ggX3_chance_X1_many : GoodIn wsX3_chance wsX1_many := goodIn_r _ [24, 18, 25, 6, 26, 92, 93] (by decide +kernel) (by decide +kernel)
set_option maxRecDepth 20000 in
theorem gX3_chance_X1_many_n174 : GoodIn wsX3_chance (wsX1_many) := ggX3_chance_X1_many
set_option maxRecDepth 20000 in
theorem ggX3_chance_X1_told : GoodIn wsX3_chance wsX1_told := goodIn_r _ [29, 18, 19, 92, 93] (by decide +kernel) (by decide +kernel)
set_option maxRecDepth 20000 in
theorem gX3_chance_X1_told_n177 : GoodIn wsX3_chance (wsX1_told) := ggX3_chance_X1_told
set_option maxRecDepth 20000 in
theorem ggX3_chance_X3_playWhoMay : GoodIn wsX3_chance wsX3_playWhoMay := goodIn_r _ [33, 3, 1, 34, 35, 36, 37, 38, 39, 40, 41, 42, 43, 6, 44, 45, 46, 47, 48, 49, 50, 20, 21, 51, 52, 53, 54, 55, 56, 57, 58, 59, 60, 61, 62, 63, 64, 65, 66, 67, 68, 69, 70, 71, 72, 73, 74, 75, 76, 77, 78, 79, 80, 81, 82, 83, 84, 85, 86, 87, 88, 89, 90, 91] (by decide +kernel) (by decide +kernel)
set_option maxRecDepth 20000 in
theorem gX3_chance_X3_playWhoMay : GoodIn wsX3_chance (wsV RX3 213 RX3 yX3_playWhoMay wsX3_playWhoMay) := goodIn_app (goodIn_of _ (by decide +kernel)) ggX3_chance_X3_playWhoMay
theorem dX3_chance_0 : decode cX3_chance 0 = .ok (.iload_n 1, 1) := by decide +kernel
theorem dX3_chance_1 : decode cX3_chance 1 = .ok (.iconst 1, 1) := by decide +kernel
theorem dX3_chance_2 : decode cX3_chance 2 = .ok (.if_icmp .lt 15, 3) := by decide +kernel
theorem dX3_chance_5 : decode cX3_chance 5 = .ok (.iload_n 1, 1) := by decide +kernel
theorem dX3_chance_6 : decode cX3_chance 6 = .ok (.iconst 4, 1) := by decide +kernel
theorem dX3_chance_7 : decode cX3_chance 7 = .ok (.if_icmp .gt 10, 3) := by decide +kernel
theorem dX3_chance_10 : decode cX3_chance 10 = .ok (.iload_n 2, 1) := by decide +kernel
theorem dX3_chance_11 : decode cX3_chance 11 = .ok (.invokestatic 149, 3) := by decide +kernel
theorem dX3_chance_14 : decode cX3_chance 14 = .ok (.ifCond .ne 6, 3) := by decide +kernel
theorem dX3_chance_17 : decode cX3_chance 17 = .ok (.bipush (-2), 2) := by decide +kernel
theorem dX3_chance_19 : decode cX3_chance 19 = .ok (.ireturn, 1) := by decide +kernel
theorem dX3_chance_20 : decode cX3_chance 20 = .ok (.aload_n 0, 1) := by decide +kernel
theorem dX3_chance_21 : decode cX3_chance 21 = .ok (.getfield 23, 3) := by decide +kernel
theorem dX3_chance_24 : decode cX3_chance 24 = .ok (.getfield 93, 3) := by decide +kernel
theorem dX3_chance_27 : decode cX3_chance 27 = .ok (.ifCond .ne 28, 3) := by decide +kernel
theorem dX3_chance_30 : decode cX3_chance 30 = .ok (.aload_n 0, 1) := by decide +kernel
theorem dX3_chance_31 : decode cX3_chance 31 = .ok (.getfield 23, 3) := by decide +kernel
theorem dX3_chance_34 : decode cX3_chance 34 = .ok (.getfield 100, 3) := by decide +kernel
theorem dX3_chance_37 : decode cX3_chance 37 = .ok (.getfield 128, 3) := by decide +kernel
theorem dX3_chance_40 : decode cX3_chance 40 = .ok (.iload_n 2, 1) := by decide +kernel
theorem dX3_chance_41 : decode cX3_chance 41 = .ok (.if_icmp .ne 7, 3) := by decide +kernel
theorem dX3_chance_44 : decode cX3_chance 44 = .ok (.iconst 1, 1) := by decide +kernel
theorem dX3_chance_45 : decode cX3_chance 45 = .ok (.goto 4, 3) := by decide +kernel
theorem dX3_chance_48 : decode cX3_chance 48 = .ok (.iconst 0, 1) := by decide +kernel
theorem dX3_chance_49 : decode cX3_chance 49 = .ok (.iconst 1, 1) := by decide +kernel
theorem dX3_chance_50 : decode cX3_chance 50 = .ok (.iload_n 3, 1) := by decide +kernel
theorem dX3_chance_51 : decode cX3_chance 51 = .ok (.invokestatic 197, 3) := by decide +kernel
theorem dX3_chance_54 : decode cX3_chance 54 = .ok (.ireturn, 1) := by decide +kernel
theorem dX3_chance_55 : decode cX3_chance 55 = .ok (.aload_n 0, 1) := by decide +kernel
theorem dX3_chance_56 : decode cX3_chance 56 = .ok (.getfield 48, 3) := by decide +kernel
theorem dX3_chance_59 : decode cX3_chance 59 = .ok (.aload_n 0, 1) := by decide +kernel
theorem dX3_chance_60 : decode cX3_chance 60 = .ok (.getfield 23, 3) := by decide +kernel
theorem dX3_chance_63 : decode cX3_chance 63 = .ok (.getfield 93, 3) := by decide +kernel
theorem dX3_chance_66 : decode cX3_chance 66 = .ok (.invokevirtual 152, 3) := by decide +kernel
theorem dX3_chance_69 : decode cX3_chance 69 = .ok (.iconst 0, 1) := by decide +kernel
theorem dX3_chance_70 : decode cX3_chance 70 = .ok (.istore 4, 2) := by decide +kernel
theorem dX3_chance_72 : decode cX3_chance 72 = .ok (.aload_n 0, 1) := by decide +kernel
theorem dX3_chance_73 : decode cX3_chance 73 = .ok (.getfield 48, 3) := by decide +kernel
theorem dX3_chance_76 : decode cX3_chance 76 = .ok (.iload_n 1, 1) := by decide +kernel
theorem dX3_chance_77 : decode cX3_chance 77 = .ok (.invokevirtual 174, 3) := by decide +kernel
theorem dX3_chance_80 : decode cX3_chance 80 = .ok (.istore 5, 2) := by decide +kernel
theorem dX3_chance_82 : decode cX3_chance 82 = .ok (.iconst 0, 1) := by decide +kernel
theorem dX3_chance_83 : decode cX3_chance 83 = .ok (.istore 6, 2) := by decide +kernel
theorem dX3_chance_85 : decode cX3_chance 85 = .ok (.iload 6, 2) := by decide +kernel
theorem dX3_chance_87 : decode cX3_chance 87 = .ok (.iload 5, 2) := by decide +kernel
theorem dX3_chance_89 : decode cX3_chance 89 = .ok (.if_icmp .ge 38, 3) := by decide +kernel
theorem dX3_chance_92 : decode cX3_chance 92 = .ok (.aload_n 0, 1) := by decide +kernel
theorem dX3_chance_93 : decode cX3_chance 93 = .ok (.iload_n 1, 1) := by decide +kernel
theorem dX3_chance_94 : decode cX3_chance 94 = .ok (.aload_n 0, 1) := by decide +kernel
theorem dX3_chance_95 : decode cX3_chance 95 = .ok (.getfield 48, 3) := by decide +kernel
theorem dX3_chance_98 : decode cX3_chance 98 = .ok (.iload 6, 2) := by decide +kernel
theorem dX3_chance_100 : decode cX3_chance 100 = .ok (.iload_n 1, 1) := by decide +kernel
theorem dX3_chance_101 : decode cX3_chance 101 = .ok (.invokevirtual 177, 3) := by decide +kernel
theorem dX3_chance_104 : decode cX3_chance 104 = .ok (.invokevirtual 213, 3) := by decide +kernel
theorem dX3_chance_107 : decode cX3_chance 107 = .ok (.aload_n 0, 1) := by decide +kernel
theorem dX3_chance_108 : decode cX3_chance 108 = .ok (.getfield 41, 3) := by decide +kernel
theorem dX3_chance_111 : decode cX3_chance 111 = .ok (.getfield 128, 3) := by decide +kernel
theorem dX3_chance_114 : decode cX3_chance 114 = .ok (.iload_n 2, 1) := by decide +kernel
theorem dX3_chance_115 : decode cX3_chance 115 = .ok (.if_icmp .ne 6, 3) := by decide +kernel
theorem dX3_chance_118 : decode cX3_chance 118 = .ok (.iinc 4 1, 3) := by decide +kernel
theorem dX3_chance_121 : decode cX3_chance 121 = .ok (.iinc 6 1, 3) := by decide +kernel
theorem dX3_chance_124 : decode cX3_chance 124 = .ok (.goto (-39), 3) := by decide +kernel
theorem dX3_chance_127 : decode cX3_chance 127 = .ok (.iload 4, 2) := by decide +kernel
theorem dX3_chance_129 : decode cX3_chance 129 = .ok (.iload 5, 2) := by decide +kernel
theorem dX3_chance_131 : decode cX3_chance 131 = .ok (.iload_n 3, 1) := by decide +kernel
theorem dX3_chance_132 : decode cX3_chance 132 = .ok (.invokestatic 197, 3) := by decide +kernel
theorem dX3_chance_135 : decode cX3_chance 135 = .ok (.ireturn, 1) := by decide +kernel
theorem dX3_seed_0 : decode cX3_seed 0 = .ok (.aload_n 0, 1) := by decide +kernel
theorem dX3_seed_1 : decode cX3_seed 1 = .ok (.getfield 216, 3) := by decide +kernel
theorem dX3_seed_4 : decode cX3_seed 4 = .ok (.lstore_n 3, 1) := by decide +kernel
theorem dX3_seed_5 : decode cX3_seed 5 = .ok (.aload_n 0, 1) := by decide +kernel
theorem dX3_seed_6 : decode cX3_seed 6 = .ok (.lload_n 1, 1) := by decide +kernel
theorem dX3_seed_7 : decode cX3_seed 7 = .ok (.putfield 216, 3) := by decide +kernel
theorem dX3_seed_10 : decode cX3_seed 10 = .ok (.lload_n 3, 1) := by decide +kernel
theorem dX3_seed_11 : decode cX3_seed 11 = .ok (.lreturn, 1) := by decide +kernel
set_option maxRecDepth 20000 in
theorem ggX3_nights_X2_become : GoodIn wsX3_nights wsX2_become := goodIn_r _ [10, 11, 12, 13, 14, 61, 62, 63, 64] (by decide +kernel) (by decide +kernel)
set_option maxRecDepth 20000 in
theorem gX3_nights_X2_become_n187 : GoodIn wsX3_nights (wsX2_become) := ggX3_nights_X2_become
set_option maxRecDepth 20000 in
theorem ggX3_nights_X3_maySpeak : GoodIn wsX3_nights wsX3_maySpeak := goodIn_r _ [19, 20, 21, 22, 18, 23, 39, 40, 41, 42, 43, 44, 45, 46, 47, 48, 49, 50, 51, 52, 53, 54, 55, 56, 61, 62, 63, 64] (by decide +kernel) (by decide +kernel)
set_option maxRecDepth 20000 in
theorem gX3_nights_X3_maySpeak : GoodIn wsX3_nights (wsV RX3 103 RX3 yX3_maySpeak wsX3_maySpeak) := goodIn_app (goodIn_of _ (by decide +kernel)) ggX3_nights_X3_maySpeak
set_option maxRecDepth 20000 in
theorem ggX3_nights_X3_speak : GoodIn wsX3_nights wsX3_speak := goodIn_r _ [27, 20, 28, 29, 30, 18, 31, 32, 2, 33, 8, 34, 35, 13, 11, 12, 14, 36, 37, 38, 39, 40, 41, 42, 43, 44, 45, 46, 47, 48, 49, 50, 51, 52, 53, 54, 55, 56, 57, 58, 59, 60, 61, 62, 63, 64] (by decide +kernel) (by decide +kernel)
set_option maxRecDepth 20000 in
theorem gX3_nights_X3_speak : GoodIn wsX3_nights (wsV RX3 124 RX3 yX3_speak wsX3_speak) := goodIn_app (goodIn_of _ (by decide +kernel)) ggX3_nights_X3_speak
theorem dX3_nights_0 : decode cX3_nights 0 = .ok (.iload_n 1, 1) := by decide +kernel
theorem dX3_nights_1 : decode cX3_nights 1 = .ok (.iconst 1, 1) := by decide +kernel
theorem dX3_nights_2 : decode cX3_nights 2 = .ok (.if_icmp .lt 9, 3) := by decide +kernel
theorem dX3_nights_5 : decode cX3_nights 5 = .ok (.iload_n 1, 1) := by decide +kernel
theorem dX3_nights_6 : decode cX3_nights 6 = .ok (.bipush 30, 2) := by decide +kernel
theorem dX3_nights_8 : decode cX3_nights 8 = .ok (.if_icmp .le 6, 3) := by decide +kernel
theorem dX3_nights_11 : decode cX3_nights 11 = .ok (.bipush (-2), 2) := by decide +kernel
theorem dX3_nights_13 : decode cX3_nights 13 = .ok (.ireturn, 1) := by decide +kernel
theorem dX3_nights_14 : decode cX3_nights 14 = .ok (.aload_n 0, 1) := by decide +kernel
theorem dX3_nights_15 : decode cX3_nights 15 = .ok (.getfield 41, 3) := by decide +kernel
theorem dX3_nights_18 : decode cX3_nights 18 = .ok (.aload_n 0, 1) := by decide +kernel
theorem dX3_nights_19 : decode cX3_nights 19 = .ok (.getfield 23, 3) := by decide +kernel
theorem dX3_nights_22 : decode cX3_nights 22 = .ok (.getfield 100, 3) := by decide +kernel
theorem dX3_nights_25 : decode cX3_nights 25 = .ok (.invokevirtual 187, 3) := by decide +kernel
theorem dX3_nights_28 : decode cX3_nights 28 = .ok (.iconst 0, 1) := by decide +kernel
theorem dX3_nights_29 : decode cX3_nights 29 = .ok (.istore_n 2, 1) := by decide +kernel
theorem dX3_nights_30 : decode cX3_nights 30 = .ok (.iconst 0, 1) := by decide +kernel
theorem dX3_nights_31 : decode cX3_nights 31 = .ok (.istore_n 3, 1) := by decide +kernel
theorem dX3_nights_32 : decode cX3_nights 32 = .ok (.iload_n 3, 1) := by decide +kernel
theorem dX3_nights_33 : decode cX3_nights 33 = .ok (.iload_n 1, 1) := by decide +kernel
theorem dX3_nights_34 : decode cX3_nights 34 = .ok (.if_icmp .ge 79, 3) := by decide +kernel
theorem dX3_nights_37 : decode cX3_nights 37 = .ok (.aload_n 0, 1) := by decide +kernel
theorem dX3_nights_38 : decode cX3_nights 38 = .ok (.aload_n 0, 1) := by decide +kernel
theorem dX3_nights_39 : decode cX3_nights 39 = .ok (.getfield 216, 3) := by decide +kernel
theorem dX3_nights_42 : decode cX3_nights 42 = .ok (.ldc2_w 220, 3) := by decide +kernel
theorem dX3_nights_45 : decode cX3_nights 45 = .ok (.lmul, 1) := by decide +kernel
theorem dX3_nights_46 : decode cX3_nights 46 = .ok (.ldc2_w 222, 3) := by decide +kernel
theorem dX3_nights_49 : decode cX3_nights 49 = .ok (.ladd, 1) := by decide +kernel
theorem dX3_nights_50 : decode cX3_nights 50 = .ok (.putfield 216, 3) := by decide +kernel
theorem dX3_nights_53 : decode cX3_nights 53 = .ok (.aload_n 0, 1) := by decide +kernel
theorem dX3_nights_54 : decode cX3_nights 54 = .ok (.getfield 216, 3) := by decide +kernel
theorem dX3_nights_57 : decode cX3_nights 57 = .ok (.bipush 33, 2) := by decide +kernel
theorem dX3_nights_59 : decode cX3_nights 59 = .ok (.lushr, 1) := by decide +kernel
theorem dX3_nights_60 : decode cX3_nights 60 = .ok (.ldc2_w 224, 3) := by decide +kernel
theorem dX3_nights_63 : decode cX3_nights 63 = .ok (.lrem, 1) := by decide +kernel
theorem dX3_nights_64 : decode cX3_nights 64 = .ok (.l2i, 1) := by decide +kernel
theorem dX3_nights_65 : decode cX3_nights 65 = .ok (.istore 4, 2) := by decide +kernel
theorem dX3_nights_67 : decode cX3_nights 67 = .ok (.aload_n 0, 1) := by decide +kernel
theorem dX3_nights_68 : decode cX3_nights 68 = .ok (.aload_n 0, 1) := by decide +kernel
theorem dX3_nights_69 : decode cX3_nights 69 = .ok (.getfield 41, 3) := by decide +kernel
theorem dX3_nights_72 : decode cX3_nights 72 = .ok (.aload_n 0, 1) := by decide +kernel
theorem dX3_nights_73 : decode cX3_nights 73 = .ok (.getfield 23, 3) := by decide +kernel
theorem dX3_nights_76 : decode cX3_nights 76 = .ok (.getfield 93, 3) := by decide +kernel
theorem dX3_nights_79 : decode cX3_nights 79 = .ok (.iload 4, 2) := by decide +kernel
theorem dX3_nights_81 : decode cX3_nights 81 = .ok (.invokevirtual 103, 3) := by decide +kernel
theorem dX3_nights_84 : decode cX3_nights 84 = .ok (.ifCond .eq 13, 3) := by decide +kernel
theorem dX3_nights_87 : decode cX3_nights 87 = .ok (.aload_n 0, 1) := by decide +kernel
theorem dX3_nights_88 : decode cX3_nights 88 = .ok (.aload_n 0, 1) := by decide +kernel
theorem dX3_nights_89 : decode cX3_nights 89 = .ok (.getfield 41, 3) := by decide +kernel
theorem dX3_nights_92 : decode cX3_nights 92 = .ok (.iload 4, 2) := by decide +kernel
theorem dX3_nights_94 : decode cX3_nights 94 = .ok (.invokevirtual 124, 3) := by decide +kernel
theorem dX3_nights_97 : decode cX3_nights 97 = .ok (.iload_n 2, 1) := by decide +kernel
theorem dX3_nights_98 : decode cX3_nights 98 = .ok (.aload_n 0, 1) := by decide +kernel
theorem dX3_nights_99 : decode cX3_nights 99 = .ok (.getfield 41, 3) := by decide +kernel
theorem dX3_nights_102 : decode cX3_nights 102 = .ok (.getfield 128, 3) := by decide +kernel
theorem dX3_nights_105 : decode cX3_nights 105 = .ok (.iadd, 1) := by decide +kernel
theorem dX3_nights_106 : decode cX3_nights 106 = .ok (.istore_n 2, 1) := by decide +kernel
theorem dX3_nights_107 : decode cX3_nights 107 = .ok (.iinc 3 1, 3) := by decide +kernel
theorem dX3_nights_110 : decode cX3_nights 110 = .ok (.goto (-78), 3) := by decide +kernel
theorem dX3_nights_113 : decode cX3_nights 113 = .ok (.iload_n 2, 1) := by decide +kernel
theorem dX3_nights_114 : decode cX3_nights 114 = .ok (.ireturn, 1) := by decide +kernel
set_option maxRecDepth 20000 in
theorem ggX3_keep_X0_become : GoodIn wsX3_keep wsX0_become := goodIn_r _ [7, 8, 9, 10, 11, 12, 13, 14, 15, 16, 17, 18, 19, 38, 39, 40, 41, 42, 43, 44, 45] (by decide +kernel) (by decide +kernel)
set_option maxRecDepth 20000 in
theorem gX3_keep_X0_become_n137 : GoodIn wsX3_keep (wsX0_become) := ggX3_keep_X0_become
theorem dX3_keep_0 : decode cX3_keep 0 = .ok (.iload_n 1, 1) := by decide +kernel
theorem dX3_keep_1 : decode cX3_keep 1 = .ok (.ifCond .lt 8, 3) := by decide +kernel
theorem dX3_keep_4 : decode cX3_keep 4 = .ok (.iload_n 1, 1) := by decide +kernel
theorem dX3_keep_5 : decode cX3_keep 5 = .ok (.iconst 2, 1) := by decide +kernel
theorem dX3_keep_6 : decode cX3_keep 6 = .ok (.if_icmp .lt 5, 3) := by decide +kernel
theorem dX3_keep_9 : decode cX3_keep 9 = .ok (.iconst (-1), 1) := by decide +kernel
theorem dX3_keep_10 : decode cX3_keep 10 = .ok (.ireturn, 1) := by decide +kernel
theorem dX3_keep_11 : decode cX3_keep 11 = .ok (.aload_n 0, 1) := by decide +kernel
theorem dX3_keep_12 : decode cX3_keep 12 = .ok (.getfield 31, 3) := by decide +kernel
theorem dX3_keep_15 : decode cX3_keep 15 = .ok (.iload_n 1, 1) := by decide +kernel
theorem dX3_keep_16 : decode cX3_keep 16 = .ok (.aaload, 1) := by decide +kernel
theorem dX3_keep_17 : decode cX3_keep 17 = .ok (.aload_n 0, 1) := by decide +kernel
theorem dX3_keep_18 : decode cX3_keep 18 = .ok (.getfield 23, 3) := by decide +kernel
theorem dX3_keep_21 : decode cX3_keep 21 = .ok (.invokevirtual 137, 3) := by decide +kernel
theorem dX3_keep_24 : decode cX3_keep 24 = .ok (.aload_n 0, 1) := by decide +kernel
theorem dX3_keep_25 : decode cX3_keep 25 = .ok (.getfield 34, 3) := by decide +kernel
theorem dX3_keep_28 : decode cX3_keep 28 = .ok (.iload_n 1, 1) := by decide +kernel
theorem dX3_keep_29 : decode cX3_keep 29 = .ok (.iconst 1, 1) := by decide +kernel
theorem dX3_keep_30 : decode cX3_keep 30 = .ok (.bastore, 1) := by decide +kernel
theorem dX3_keep_31 : decode cX3_keep 31 = .ok (.aload_n 0, 1) := by decide +kernel
theorem dX3_keep_32 : decode cX3_keep 32 = .ok (.getfield 23, 3) := by decide +kernel
theorem dX3_keep_35 : decode cX3_keep 35 = .ok (.getfield 113, 3) := by decide +kernel
theorem dX3_keep_38 : decode cX3_keep 38 = .ok (.ireturn, 1) := by decide +kernel
set_option maxRecDepth 20000 in
theorem ggX3_again_X0_become : GoodIn wsX3_again wsX0_become := goodIn_r _ [7, 8, 9, 10, 11, 12, 13, 14, 15, 16, 17, 18, 19, 45, 46, 47, 48, 49, 50, 51, 52] (by decide +kernel) (by decide +kernel)
set_option maxRecDepth 20000 in
theorem gX3_again_X0_become_n137 : GoodIn wsX3_again (wsX0_become) := ggX3_again_X0_become
set_option maxRecDepth 20000 in
theorem ggX3_again_X3_forgetActs : GoodIn wsX3_again wsX3_forgetActs := goodIn_r _ [24, 25, 26, 27, 28, 29, 30, 31, 32, 33, 34, 35, 36, 37, 38, 39, 40, 41, 42, 43, 44] (by decide +kernel) (by decide +kernel)
set_option maxRecDepth 20000 in
theorem gX3_again_X3_forgetActs : GoodIn wsX3_again (wsV RX3 83 RX3 yX3_forgetActs wsX3_forgetActs) := goodIn_app (goodIn_of _ (by decide +kernel)) ggX3_again_X3_forgetActs
theorem dX3_again_0 : decode cX3_again 0 = .ok (.iload_n 1, 1) := by decide +kernel
theorem dX3_again_1 : decode cX3_again 1 = .ok (.ifCond .lt 8, 3) := by decide +kernel
theorem dX3_again_4 : decode cX3_again 4 = .ok (.iload_n 1, 1) := by decide +kernel
theorem dX3_again_5 : decode cX3_again 5 = .ok (.iconst 2, 1) := by decide +kernel
theorem dX3_again_6 : decode cX3_again 6 = .ok (.if_icmp .lt 5, 3) := by decide +kernel
theorem dX3_again_9 : decode cX3_again 9 = .ok (.iconst (-1), 1) := by decide +kernel
theorem dX3_again_10 : decode cX3_again 10 = .ok (.ireturn, 1) := by decide +kernel
theorem dX3_again_11 : decode cX3_again 11 = .ok (.aload_n 0, 1) := by decide +kernel
theorem dX3_again_12 : decode cX3_again 12 = .ok (.getfield 34, 3) := by decide +kernel
theorem dX3_again_15 : decode cX3_again 15 = .ok (.iload_n 1, 1) := by decide +kernel
theorem dX3_again_16 : decode cX3_again 16 = .ok (.baload, 1) := by decide +kernel
theorem dX3_again_17 : decode cX3_again 17 = .ok (.ifCond .ne 6, 3) := by decide +kernel
theorem dX3_again_20 : decode cX3_again 20 = .ok (.bipush (-3), 2) := by decide +kernel
theorem dX3_again_22 : decode cX3_again 22 = .ok (.ireturn, 1) := by decide +kernel
theorem dX3_again_23 : decode cX3_again 23 = .ok (.aload_n 0, 1) := by decide +kernel
theorem dX3_again_24 : decode cX3_again 24 = .ok (.getfield 23, 3) := by decide +kernel
theorem dX3_again_27 : decode cX3_again 27 = .ok (.aload_n 0, 1) := by decide +kernel
theorem dX3_again_28 : decode cX3_again 28 = .ok (.getfield 31, 3) := by decide +kernel
theorem dX3_again_31 : decode cX3_again 31 = .ok (.iload_n 1, 1) := by decide +kernel
theorem dX3_again_32 : decode cX3_again 32 = .ok (.aaload, 1) := by decide +kernel
theorem dX3_again_33 : decode cX3_again 33 = .ok (.invokevirtual 137, 3) := by decide +kernel
theorem dX3_again_36 : decode cX3_again 36 = .ok (.aload_n 0, 1) := by decide +kernel
theorem dX3_again_37 : decode cX3_again 37 = .ok (.invokevirtual 83, 3) := by decide +kernel
theorem dX3_again_40 : decode cX3_again 40 = .ok (.aload_n 0, 1) := by decide +kernel
theorem dX3_again_41 : decode cX3_again 41 = .ok (.getfield 23, 3) := by decide +kernel
theorem dX3_again_44 : decode cX3_again 44 = .ok (.getfield 113, 3) := by decide +kernel
theorem dX3_again_47 : decode cX3_again 47 = .ok (.ireturn, 1) := by decide +kernel
set_option maxRecDepth 20000 in
theorem ggX3_count_X3_whoMay : GoodIn wsX3_count wsX3_whoMay := goodIn_r _ [10, 2, 4, 11, 12, 13, 9, 14, 15, 16, 17, 18, 19, 20, 21, 22, 23, 24, 25, 26, 27, 28, 29, 30, 31, 32, 33, 34, 35, 36, 37, 38, 39, 40, 41, 42, 43, 44] (by decide +kernel) (by decide +kernel)
set_option maxRecDepth 20000 in
theorem gX3_count_X3_whoMay : GoodIn wsX3_count (wsV RX3 226 RX3 yX3_whoMay wsX3_whoMay) := goodIn_app (goodIn_of _ (by decide +kernel)) ggX3_count_X3_whoMay
theorem dX3_count_0 : decode cX3_count 0 = .ok (.iload_n 1, 1) := by decide +kernel
theorem dX3_count_1 : decode cX3_count 1 = .ok (.tableswitch 114 0 8 #[51, 56, 61, 66, 77, 85, 93, 98, 109], 51) := by decide +kernel
theorem dX3_count_52 : decode cX3_count 52 = .ok (.aload_n 0, 1) := by decide +kernel
theorem dX3_count_53 : decode cX3_count 53 = .ok (.getfield 58, 3) := by decide +kernel
theorem dX3_count_56 : decode cX3_count 56 = .ok (.ireturn, 1) := by decide +kernel
theorem dX3_count_57 : decode cX3_count 57 = .ok (.aload_n 0, 1) := by decide +kernel
theorem dX3_count_58 : decode cX3_count 58 = .ok (.getfield 73, 3) := by decide +kernel
theorem dX3_count_61 : decode cX3_count 61 = .ok (.ireturn, 1) := by decide +kernel
theorem dX3_count_62 : decode cX3_count 62 = .ok (.aload_n 0, 1) := by decide +kernel
theorem dX3_count_63 : decode cX3_count 63 = .ok (.getfield 70, 3) := by decide +kernel
theorem dX3_count_66 : decode cX3_count 66 = .ok (.ireturn, 1) := by decide +kernel
theorem dX3_count_67 : decode cX3_count 67 = .ok (.aload_n 0, 1) := by decide +kernel
theorem dX3_count_68 : decode cX3_count 68 = .ok (.getfield 23, 3) := by decide +kernel
theorem dX3_count_71 : decode cX3_count 71 = .ok (.getfield 100, 3) := by decide +kernel
theorem dX3_count_74 : decode cX3_count 74 = .ok (.getfield 128, 3) := by decide +kernel
theorem dX3_count_77 : decode cX3_count 77 = .ok (.ireturn, 1) := by decide +kernel
theorem dX3_count_78 : decode cX3_count 78 = .ok (.aload_n 0, 1) := by decide +kernel
theorem dX3_count_79 : decode cX3_count 79 = .ok (.getfield 23, 3) := by decide +kernel
theorem dX3_count_82 : decode cX3_count 82 = .ok (.getfield 113, 3) := by decide +kernel
theorem dX3_count_85 : decode cX3_count 85 = .ok (.ireturn, 1) := by decide +kernel
theorem dX3_count_86 : decode cX3_count 86 = .ok (.aload_n 0, 1) := by decide +kernel
theorem dX3_count_87 : decode cX3_count 87 = .ok (.getfield 23, 3) := by decide +kernel
theorem dX3_count_90 : decode cX3_count 90 = .ok (.getfield 93, 3) := by decide +kernel
theorem dX3_count_93 : decode cX3_count 93 = .ok (.ireturn, 1) := by decide +kernel
theorem dX3_count_94 : decode cX3_count 94 = .ok (.aload_n 0, 1) := by decide +kernel
theorem dX3_count_95 : decode cX3_count 95 = .ok (.invokevirtual 226, 3) := by decide +kernel
theorem dX3_count_98 : decode cX3_count 98 = .ok (.ireturn, 1) := by decide +kernel
theorem dX3_count_99 : decode cX3_count 99 = .ok (.aload_n 0, 1) := by decide +kernel
theorem dX3_count_100 : decode cX3_count 100 = .ok (.getfield 23, 3) := by decide +kernel
theorem dX3_count_103 : decode cX3_count 103 = .ok (.getfield 100, 3) := by decide +kernel
theorem dX3_count_106 : decode cX3_count 106 = .ok (.getfield 229, 3) := by decide +kernel
theorem dX3_count_109 : decode cX3_count 109 = .ok (.ireturn, 1) := by decide +kernel
theorem dX3_count_110 : decode cX3_count 110 = .ok (.aload_n 0, 1) := by decide +kernel
theorem dX3_count_111 : decode cX3_count 111 = .ok (.getfield 131, 3) := by decide +kernel
theorem dX3_count_114 : decode cX3_count 114 = .ok (.ireturn, 1) := by decide +kernel
theorem dX3_count_115 : decode cX3_count 115 = .ok (.bipush (-2), 2) := by decide +kernel
theorem dX3_count_117 : decode cX3_count 117 = .ok (.ireturn, 1) := by decide +kernel
set_option maxRecDepth 20000 in
theorem ggX3_firstFault_X3_fits : GoodIn wsX3_firstFault wsX3_fits := goodIn_r _ [6, 7, 8, 5, 9] (by decide +kernel) (by decide +kernel)
set_option maxRecDepth 20000 in
theorem gX3_firstFault_X3_fits : GoodIn wsX3_firstFault (va_wsS RX3 232 yX3_fits wsX3_fits) := goodIn_app (goodIn_of _ (by decide +kernel)) ggX3_firstFault_X3_fits
theorem dX3_firstFault_0 : decode cX3_firstFault 0 = .ok (.iconst 0, 1) := by decide +kernel
theorem dX3_firstFault_1 : decode cX3_firstFault 1 = .ok (.istore_n 1, 1) := by decide +kernel
theorem dX3_firstFault_2 : decode cX3_firstFault 2 = .ok (.iload_n 1, 1) := by decide +kernel
theorem dX3_firstFault_3 : decode cX3_firstFault 3 = .ok (.aload_n 0, 1) := by decide +kernel
theorem dX3_firstFault_4 : decode cX3_firstFault 4 = .ok (.getfield 58, 3) := by decide +kernel
theorem dX3_firstFault_7 : decode cX3_firstFault 7 = .ok (.if_icmp .ge 33, 3) := by decide +kernel
theorem dX3_firstFault_10 : decode cX3_firstFault 10 = .ok (.iload_n 1, 1) := by decide +kernel
theorem dX3_firstFault_11 : decode cX3_firstFault 11 = .ok (.aload_n 0, 1) := by decide +kernel
theorem dX3_firstFault_12 : decode cX3_firstFault 12 = .ok (.getfield 9, 3) := by decide +kernel
theorem dX3_firstFault_15 : decode cX3_firstFault 15 = .ok (.arraylength, 1) := by decide +kernel
theorem dX3_firstFault_16 : decode cX3_firstFault 16 = .ok (.if_icmp .ge 24, 3) := by decide +kernel
theorem dX3_firstFault_19 : decode cX3_firstFault 19 = .ok (.iload_n 1, 1) := by decide +kernel
theorem dX3_firstFault_20 : decode cX3_firstFault 20 = .ok (.aload_n 0, 1) := by decide +kernel
theorem dX3_firstFault_21 : decode cX3_firstFault 21 = .ok (.getfield 9, 3) := by decide +kernel
theorem dX3_firstFault_24 : decode cX3_firstFault 24 = .ok (.iload_n 1, 1) := by decide +kernel
theorem dX3_firstFault_25 : decode cX3_firstFault 25 = .ok (.caload, 1) := by decide +kernel
theorem dX3_firstFault_26 : decode cX3_firstFault 26 = .ok (.invokestatic 232, 3) := by decide +kernel
theorem dX3_firstFault_29 : decode cX3_firstFault 29 = .ok (.ifCond .ne 5, 3) := by decide +kernel
theorem dX3_firstFault_32 : decode cX3_firstFault 32 = .ok (.iload_n 1, 1) := by decide +kernel
theorem dX3_firstFault_33 : decode cX3_firstFault 33 = .ok (.ireturn, 1) := by decide +kernel
theorem dX3_firstFault_34 : decode cX3_firstFault 34 = .ok (.iinc 1 1, 3) := by decide +kernel
theorem dX3_firstFault_37 : decode cX3_firstFault 37 = .ok (.goto (-35), 3) := by decide +kernel
theorem dX3_firstFault_40 : decode cX3_firstFault 40 = .ok (.aload_n 0, 1) := by decide +kernel
theorem dX3_firstFault_41 : decode cX3_firstFault 41 = .ok (.getfield 58, 3) := by decide +kernel
theorem dX3_firstFault_44 : decode cX3_firstFault 44 = .ok (.iconst 2, 1) := by decide +kernel
theorem dX3_firstFault_45 : decode cX3_firstFault 45 = .ok (.if_icmp .lt 18, 3) := by decide +kernel
theorem dX3_firstFault_48 : decode cX3_firstFault 48 = .ok (.aload_n 0, 1) := by decide +kernel
theorem dX3_firstFault_49 : decode cX3_firstFault 49 = .ok (.getfield 58, 3) := by decide +kernel
theorem dX3_firstFault_52 : decode cX3_firstFault 52 = .ok (.iconst 2, 1) := by decide +kernel
theorem dX3_firstFault_53 : decode cX3_firstFault 53 = .ok (.isub, 1) := by decide +kernel
theorem dX3_firstFault_54 : decode cX3_firstFault 54 = .ok (.iconst 5, 1) := by decide +kernel
theorem dX3_firstFault_55 : decode cX3_firstFault 55 = .ok (.irem, 1) := by decide +kernel
theorem dX3_firstFault_56 : decode cX3_firstFault 56 = .ok (.ifCond .ne 7, 3) := by decide +kernel
theorem dX3_firstFault_59 : decode cX3_firstFault 59 = .ok (.iconst 1, 1) := by decide +kernel
theorem dX3_firstFault_60 : decode cX3_firstFault 60 = .ok (.goto 4, 3) := by decide +kernel
theorem dX3_firstFault_63 : decode cX3_firstFault 63 = .ok (.iconst 0, 1) := by decide +kernel
theorem dX3_firstFault_64 : decode cX3_firstFault 64 = .ok (.istore_n 1, 1) := by decide +kernel
theorem dX3_firstFault_65 : decode cX3_firstFault 65 = .ok (.iload_n 1, 1) := by decide +kernel
theorem dX3_firstFault_66 : decode cX3_firstFault 66 = .ok (.ifCond .eq 8, 3) := by decide +kernel
theorem dX3_firstFault_69 : decode cX3_firstFault 69 = .ok (.bipush (-9), 2) := by decide +kernel
theorem dX3_firstFault_71 : decode cX3_firstFault 71 = .ok (.goto 7, 3) := by decide +kernel
theorem dX3_firstFault_74 : decode cX3_firstFault 74 = .ok (.aload_n 0, 1) := by decide +kernel
theorem dX3_firstFault_75 : decode cX3_firstFault 75 = .ok (.getfield 58, 3) := by decide +kernel
theorem dX3_firstFault_78 : decode cX3_firstFault 78 = .ok (.ireturn, 1) := by decide +kernel
set_option maxRecDepth 20000 in
theorem ggX3_fits_X3_isFigure : GoodIn wsX3_fits wsX3_isFigure := goodIn_r _ [4] (by decide +kernel) (by decide +kernel)
set_option maxRecDepth 20000 in
theorem gX3_fits_X3_isFigure : GoodIn wsX3_fits (va_wsS RX3 236 yX3_isFigure wsX3_isFigure) := goodIn_app (goodIn_of _ (by decide +kernel)) ggX3_fits_X3_isFigure
theorem dX3_fits_0 : decode cX3_fits 0 = .ok (.iload_n 0, 1) := by decide +kernel
theorem dX3_fits_1 : decode cX3_fits 1 = .ok (.ifCond .ne 15, 3) := by decide +kernel
theorem dX3_fits_4 : decode cX3_fits 4 = .ok (.iload_n 1, 1) := by decide +kernel
theorem dX3_fits_5 : decode cX3_fits 5 = .ok (.bipush 73, 2) := by decide +kernel
theorem dX3_fits_7 : decode cX3_fits 7 = .ok (.if_icmp .ne 7, 3) := by decide +kernel
theorem dX3_fits_10 : decode cX3_fits 10 = .ok (.iconst 1, 1) := by decide +kernel
theorem dX3_fits_11 : decode cX3_fits 11 = .ok (.goto 4, 3) := by decide +kernel
theorem dX3_fits_14 : decode cX3_fits 14 = .ok (.iconst 0, 1) := by decide +kernel
theorem dX3_fits_15 : decode cX3_fits 15 = .ok (.ireturn, 1) := by decide +kernel
theorem dX3_fits_16 : decode cX3_fits 16 = .ok (.iload_n 0, 1) := by decide +kernel
theorem dX3_fits_17 : decode cX3_fits 17 = .ok (.iconst 1, 1) := by decide +kernel
theorem dX3_fits_18 : decode cX3_fits 18 = .ok (.if_icmp .ne 10, 3) := by decide +kernel
theorem dX3_fits_21 : decode cX3_fits 21 = .ok (.iload_n 1, 1) := by decide +kernel
theorem dX3_fits_22 : decode cX3_fits 22 = .ok (.bipush 9, 2) := by decide +kernel
theorem dX3_fits_24 : decode cX3_fits 24 = .ok (.invokestatic 236, 3) := by decide +kernel
theorem dX3_fits_27 : decode cX3_fits 27 = .ok (.ireturn, 1) := by decide +kernel
theorem dX3_fits_28 : decode cX3_fits 28 = .ok (.iload_n 0, 1) := by decide +kernel
theorem dX3_fits_29 : decode cX3_fits 29 = .ok (.bipush 32, 2) := by decide +kernel
theorem dX3_fits_31 : decode cX3_fits 31 = .ok (.if_icmp .lt 5, 3) := by decide +kernel
theorem dX3_fits_34 : decode cX3_fits 34 = .ok (.iconst 0, 1) := by decide +kernel
theorem dX3_fits_35 : decode cX3_fits 35 = .ok (.ireturn, 1) := by decide +kernel
theorem dX3_fits_36 : decode cX3_fits 36 = .ok (.iload_n 0, 1) := by decide +kernel
theorem dX3_fits_37 : decode cX3_fits 37 = .ok (.iconst 2, 1) := by decide +kernel
theorem dX3_fits_38 : decode cX3_fits 38 = .ok (.isub, 1) := by decide +kernel
theorem dX3_fits_39 : decode cX3_fits 39 = .ok (.iconst 5, 1) := by decide +kernel
theorem dX3_fits_40 : decode cX3_fits 40 = .ok (.irem, 1) := by decide +kernel
theorem dX3_fits_41 : decode cX3_fits 41 = .ok (.tableswitch 59 0 4 #[35, 59, 47, 59, 53], 35) := by decide +kernel
theorem dX3_fits_76 : decode cX3_fits 76 = .ok (.iload_n 1, 1) := by decide +kernel
theorem dX3_fits_77 : decode cX3_fits 77 = .ok (.bipush 80, 2) := by decide +kernel
theorem dX3_fits_79 : decode cX3_fits 79 = .ok (.if_icmp .ne 7, 3) := by decide +kernel
theorem dX3_fits_82 : decode cX3_fits 82 = .ok (.iconst 1, 1) := by decide +kernel
theorem dX3_fits_83 : decode cX3_fits 83 = .ok (.goto 4, 3) := by decide +kernel
theorem dX3_fits_86 : decode cX3_fits 86 = .ok (.iconst 0, 1) := by decide +kernel
theorem dX3_fits_87 : decode cX3_fits 87 = .ok (.ireturn, 1) := by decide +kernel
theorem dX3_fits_88 : decode cX3_fits 88 = .ok (.iload_n 1, 1) := by decide +kernel
theorem dX3_fits_89 : decode cX3_fits 89 = .ok (.iconst 3, 1) := by decide +kernel
theorem dX3_fits_90 : decode cX3_fits 90 = .ok (.invokestatic 236, 3) := by decide +kernel
theorem dX3_fits_93 : decode cX3_fits 93 = .ok (.ireturn, 1) := by decide +kernel
theorem dX3_fits_94 : decode cX3_fits 94 = .ok (.iload_n 1, 1) := by decide +kernel
theorem dX3_fits_95 : decode cX3_fits 95 = .ok (.iconst 3, 1) := by decide +kernel
theorem dX3_fits_96 : decode cX3_fits 96 = .ok (.invokestatic 236, 3) := by decide +kernel
theorem dX3_fits_99 : decode cX3_fits 99 = .ok (.ireturn, 1) := by decide +kernel
theorem dX3_fits_100 : decode cX3_fits 100 = .ok (.iload_n 1, 1) := by decide +kernel
theorem dX3_fits_101 : decode cX3_fits 101 = .ok (.bipush 9, 2) := by decide +kernel
theorem dX3_fits_103 : decode cX3_fits 103 = .ok (.invokestatic 236, 3) := by decide +kernel
theorem dX3_fits_106 : decode cX3_fits 106 = .ok (.ireturn, 1) := by decide +kernel
theorem dX3_isFigure_0 : decode cX3_isFigure 0 = .ok (.iload_n 0, 1) := by decide +kernel
theorem dX3_isFigure_1 : decode cX3_isFigure 1 = .ok (.bipush 48, 2) := by decide +kernel
theorem dX3_isFigure_3 : decode cX3_isFigure 3 = .ok (.if_icmp .lt 15, 3) := by decide +kernel
theorem dX3_isFigure_6 : decode cX3_isFigure 6 = .ok (.iload_n 0, 1) := by decide +kernel
theorem dX3_isFigure_7 : decode cX3_isFigure 7 = .ok (.bipush 48, 2) := by decide +kernel
theorem dX3_isFigure_9 : decode cX3_isFigure 9 = .ok (.iload_n 1, 1) := by decide +kernel
theorem dX3_isFigure_10 : decode cX3_isFigure 10 = .ok (.iadd, 1) := by decide +kernel
theorem dX3_isFigure_11 : decode cX3_isFigure 11 = .ok (.if_icmp .gt 7, 3) := by decide +kernel
theorem dX3_isFigure_14 : decode cX3_isFigure 14 = .ok (.iconst 1, 1) := by decide +kernel
theorem dX3_isFigure_15 : decode cX3_isFigure 15 = .ok (.goto 4, 3) := by decide +kernel
theorem dX3_isFigure_18 : decode cX3_isFigure 18 = .ok (.iconst 0, 1) := by decide +kernel
theorem dX3_isFigure_19 : decode cX3_isFigure 19 = .ok (.ireturn, 1) := by decide +kernel
theorem dX3_figureIn_0 : decode cX3_figureIn 0 = .ok (.iload_n 1, 1) := by decide +kernel
theorem dX3_figureIn_1 : decode cX3_figureIn 1 = .ok (.ifCond .lt 24, 3) := by decide +kernel
theorem dX3_figureIn_4 : decode cX3_figureIn 4 = .ok (.iload_n 1, 1) := by decide +kernel
theorem dX3_figureIn_5 : decode cX3_figureIn 5 = .ok (.aload_n 0, 1) := by decide +kernel
theorem dX3_figureIn_6 : decode cX3_figureIn 6 = .ok (.getfield 9, 3) := by decide +kernel
theorem dX3_figureIn_9 : decode cX3_figureIn 9 = .ok (.arraylength, 1) := by decide +kernel
theorem dX3_figureIn_10 : decode cX3_figureIn 10 = .ok (.if_icmp .ge 15, 3) := by decide +kernel
theorem dX3_figureIn_13 : decode cX3_figureIn 13 = .ok (.aload_n 0, 1) := by decide +kernel
theorem dX3_figureIn_14 : decode cX3_figureIn 14 = .ok (.getfield 9, 3) := by decide +kernel
theorem dX3_figureIn_17 : decode cX3_figureIn 17 = .ok (.iload_n 1, 1) := by decide +kernel
theorem dX3_figureIn_18 : decode cX3_figureIn 18 = .ok (.caload, 1) := by decide +kernel
theorem dX3_figureIn_19 : decode cX3_figureIn 19 = .ok (.bipush 48, 2) := by decide +kernel
theorem dX3_figureIn_21 : decode cX3_figureIn 21 = .ok (.isub, 1) := by decide +kernel
theorem dX3_figureIn_22 : decode cX3_figureIn 22 = .ok (.goto 4, 3) := by decide +kernel
theorem dX3_figureIn_25 : decode cX3_figureIn 25 = .ok (.iconst 0, 1) := by decide +kernel
theorem dX3_figureIn_26 : decode cX3_figureIn 26 = .ok (.ireturn, 1) := by decide +kernel
set_option maxRecDepth 20000 in
theorem ggX3_settle_X3_figureIn : GoodIn wsX3_settle wsX3_figureIn := goodIn_r _ [9, 10, 11, 12, 13, 14, 15, 16, 17, 18, 19, 20, 21, 22, 23, 24, 25, 26, 27, 28] (by decide +kernel) (by decide +kernel)
set_option maxRecDepth 20000 in
theorem gX3_settle_X3_figureIn : GoodIn wsX3_settle (wsV RX3 66 RX3 yX3_figureIn wsX3_figureIn) := goodIn_app (goodIn_of _ (by decide +kernel)) ggX3_settle_X3_figureIn
theorem dX3_settle_0 : decode cX3_settle 0 = .ok (.iload_n 1, 1) := by decide +kernel
theorem dX3_settle_1 : decode cX3_settle 1 = .ok (.ifCond .lt 9, 3) := by decide +kernel
theorem dX3_settle_4 : decode cX3_settle 4 = .ok (.iload_n 1, 1) := by decide +kernel
theorem dX3_settle_5 : decode cX3_settle 5 = .ok (.bipush 6, 2) := by decide +kernel
theorem dX3_settle_7 : decode cX3_settle 7 = .ok (.if_icmp .lt 4, 3) := by decide +kernel
theorem dX3_settle_10 : decode cX3_settle 10 = .ok (.return_, 1) := by decide +kernel
theorem dX3_settle_11 : decode cX3_settle 11 = .ok (.aload_n 0, 1) := by decide +kernel
theorem dX3_settle_12 : decode cX3_settle 12 = .ok (.getfield 13, 3) := by decide +kernel
theorem dX3_settle_15 : decode cX3_settle 15 = .ok (.iload_n 1, 1) := by decide +kernel
theorem dX3_settle_16 : decode cX3_settle 16 = .ok (.aload_n 0, 1) := by decide +kernel
theorem dX3_settle_17 : decode cX3_settle 17 = .ok (.iload_n 2, 1) := by decide +kernel
theorem dX3_settle_18 : decode cX3_settle 18 = .ok (.iconst 1, 1) := by decide +kernel
theorem dX3_settle_19 : decode cX3_settle 19 = .ok (.iadd, 1) := by decide +kernel
theorem dX3_settle_20 : decode cX3_settle 20 = .ok (.invokevirtual 66, 3) := by decide +kernel
theorem dX3_settle_23 : decode cX3_settle 23 = .ok (.iastore, 1) := by decide +kernel
theorem dX3_settle_24 : decode cX3_settle 24 = .ok (.aload_n 0, 1) := by decide +kernel
theorem dX3_settle_25 : decode cX3_settle 25 = .ok (.getfield 23, 3) := by decide +kernel
theorem dX3_settle_28 : decode cX3_settle 28 = .ok (.getfield 90, 3) := by decide +kernel
theorem dX3_settle_31 : decode cX3_settle 31 = .ok (.iload_n 1, 1) := by decide +kernel
theorem dX3_settle_32 : decode cX3_settle 32 = .ok (.bipush 10, 2) := by decide +kernel
theorem dX3_settle_34 : decode cX3_settle 34 = .ok (.aload_n 0, 1) := by decide +kernel
theorem dX3_settle_35 : decode cX3_settle 35 = .ok (.iload_n 2, 1) := by decide +kernel
theorem dX3_settle_36 : decode cX3_settle 36 = .ok (.iconst 2, 1) := by decide +kernel
theorem dX3_settle_37 : decode cX3_settle 37 = .ok (.iadd, 1) := by decide +kernel
theorem dX3_settle_38 : decode cX3_settle 38 = .ok (.invokevirtual 66, 3) := by decide +kernel
theorem dX3_settle_41 : decode cX3_settle 41 = .ok (.imul, 1) := by decide +kernel
theorem dX3_settle_42 : decode cX3_settle 42 = .ok (.aload_n 0, 1) := by decide +kernel
theorem dX3_settle_43 : decode cX3_settle 43 = .ok (.iload_n 2, 1) := by decide +kernel
theorem dX3_settle_44 : decode cX3_settle 44 = .ok (.iconst 3, 1) := by decide +kernel
theorem dX3_settle_45 : decode cX3_settle 45 = .ok (.iadd, 1) := by decide +kernel
theorem dX3_settle_46 : decode cX3_settle 46 = .ok (.invokevirtual 66, 3) := by decide +kernel
theorem dX3_settle_49 : decode cX3_settle 49 = .ok (.iadd, 1) := by decide +kernel
theorem dX3_settle_50 : decode cX3_settle 50 = .ok (.iastore, 1) := by decide +kernel
theorem dX3_settle_51 : decode cX3_settle 51 = .ok (.aload_n 0, 1) := by decide +kernel
theorem dX3_settle_52 : decode cX3_settle 52 = .ok (.getfield 17, 3) := by decide +kernel
theorem dX3_settle_55 : decode cX3_settle 55 = .ok (.iload_n 1, 1) := by decide +kernel
theorem dX3_settle_56 : decode cX3_settle 56 = .ok (.aload_n 0, 1) := by decide +kernel
theorem dX3_settle_57 : decode cX3_settle 57 = .ok (.iload_n 2, 1) := by decide +kernel
theorem dX3_settle_58 : decode cX3_settle 58 = .ok (.iconst 4, 1) := by decide +kernel
theorem dX3_settle_59 : decode cX3_settle 59 = .ok (.iadd, 1) := by decide +kernel
theorem dX3_settle_60 : decode cX3_settle 60 = .ok (.invokevirtual 66, 3) := by decide +kernel
theorem dX3_settle_63 : decode cX3_settle 63 = .ok (.iastore, 1) := by decide +kernel
theorem dX3_settle_64 : decode cX3_settle 64 = .ok (.aload_n 0, 1) := by decide +kernel
theorem dX3_settle_65 : decode cX3_settle 65 = .ok (.getfield 13, 3) := by decide +kernel
theorem dX3_settle_68 : decode cX3_settle 68 = .ok (.iload_n 1, 1) := by decide +kernel
theorem dX3_settle_69 : decode cX3_settle 69 = .ok (.iaload, 1) := by decide +kernel
theorem dX3_settle_70 : decode cX3_settle 70 = .ok (.aload_n 0, 1) := by decide +kernel
theorem dX3_settle_71 : decode cX3_settle 71 = .ok (.getfield 70, 3) := by decide +kernel
theorem dX3_settle_74 : decode cX3_settle 74 = .ok (.if_icmp .ne 18, 3) := by decide +kernel
theorem dX3_settle_77 : decode cX3_settle 77 = .ok (.aload_n 0, 1) := by decide +kernel
theorem dX3_settle_78 : decode cX3_settle 78 = .ok (.getfield 23, 3) := by decide +kernel
theorem dX3_settle_81 : decode cX3_settle 81 = .ok (.dup, 1) := by decide +kernel
theorem dX3_settle_82 : decode cX3_settle 82 = .ok (.getfield 93, 3) := by decide +kernel
theorem dX3_settle_85 : decode cX3_settle 85 = .ok (.iconst 1, 1) := by decide +kernel
theorem dX3_settle_86 : decode cX3_settle 86 = .ok (.iload_n 1, 1) := by decide +kernel
theorem dX3_settle_87 : decode cX3_settle 87 = .ok (.ishl, 1) := by decide +kernel
theorem dX3_settle_88 : decode cX3_settle 88 = .ok (.ior, 1) := by decide +kernel
theorem dX3_settle_89 : decode cX3_settle 89 = .ok (.putfield 93, 3) := by decide +kernel
theorem dX3_settle_92 : decode cX3_settle 92 = .ok (.return_, 1) := by decide +kernel
theorem dX3_isThere_0 : decode cX3_isThere 0 = .ok (.iload_n 1, 1) := by decide +kernel
theorem dX3_isThere_1 : decode cX3_isThere 1 = .ok (.ifCond .lt 21, 3) := by decide +kernel
theorem dX3_isThere_4 : decode cX3_isThere 4 = .ok (.iload_n 1, 1) := by decide +kernel
theorem dX3_isThere_5 : decode cX3_isThere 5 = .ok (.aload_n 0, 1) := by decide +kernel
theorem dX3_isThere_6 : decode cX3_isThere 6 = .ok (.getfield 73, 3) := by decide +kernel
theorem dX3_isThere_9 : decode cX3_isThere 9 = .ok (.if_icmp .ge 13, 3) := by decide +kernel
theorem dX3_isThere_12 : decode cX3_isThere 12 = .ok (.iload_n 1, 1) := by decide +kernel
theorem dX3_isThere_13 : decode cX3_isThere 13 = .ok (.bipush 6, 2) := by decide +kernel
theorem dX3_isThere_15 : decode cX3_isThere 15 = .ok (.if_icmp .ge 7, 3) := by decide +kernel
theorem dX3_isThere_18 : decode cX3_isThere 18 = .ok (.iconst 1, 1) := by decide +kernel
theorem dX3_isThere_19 : decode cX3_isThere 19 = .ok (.goto 4, 3) := by decide +kernel
theorem dX3_isThere_22 : decode cX3_isThere 22 = .ok (.iconst 0, 1) := by decide +kernel
theorem dX3_isThere_23 : decode cX3_isThere 23 = .ok (.ireturn, 1) := by decide +kernel
theorem dX3_everybody_0 : decode cX3_everybody 0 = .ok (.iconst 1, 1) := by decide +kernel
theorem dX3_everybody_1 : decode cX3_everybody 1 = .ok (.aload_n 0, 1) := by decide +kernel
theorem dX3_everybody_2 : decode cX3_everybody 2 = .ok (.getfield 73, 3) := by decide +kernel
theorem dX3_everybody_5 : decode cX3_everybody 5 = .ok (.ishl, 1) := by decide +kernel
theorem dX3_everybody_6 : decode cX3_everybody 6 = .ok (.iconst 1, 1) := by decide +kernel
theorem dX3_everybody_7 : decode cX3_everybody 7 = .ok (.isub, 1) := by decide +kernel
theorem dX3_everybody_8 : decode cX3_everybody 8 = .ok (.ireturn, 1) := by decide +kernel
theorem dX3_has_0 : decode cX3_has 0 = .ok (.iload_n 0, 1) := by decide +kernel
theorem dX3_has_1 : decode cX3_has 1 = .ok (.iload_n 1, 1) := by decide +kernel
theorem dX3_has_2 : decode cX3_has 2 = .ok (.ishr, 1) := by decide +kernel
theorem dX3_has_3 : decode cX3_has 3 = .ok (.iconst 1, 1) := by decide +kernel
theorem dX3_has_4 : decode cX3_has 4 = .ok (.iand, 1) := by decide +kernel
theorem dX3_has_5 : decode cX3_has 5 = .ok (.iconst 1, 1) := by decide +kernel
theorem dX3_has_6 : decode cX3_has 6 = .ok (.if_icmp .ne 7, 3) := by decide +kernel
theorem dX3_has_9 : decode cX3_has 9 = .ok (.iconst 1, 1) := by decide +kernel
theorem dX3_has_10 : decode cX3_has 10 = .ok (.goto 4, 3) := by decide +kernel
theorem dX3_has_13 : decode cX3_has 13 = .ok (.iconst 0, 1) := by decide +kernel
theorem dX3_has_14 : decode cX3_has 14 = .ok (.ireturn, 1) := by decide +kernel
theorem dX3_isSense_0 : decode cX3_isSense 0 = .ok (.iload_n 0, 1) := by decide +kernel
theorem dX3_isSense_1 : decode cX3_isSense 1 = .ok (.ifCond .lt 13, 3) := by decide +kernel
theorem dX3_isSense_4 : decode cX3_isSense 4 = .ok (.iload_n 0, 1) := by decide +kernel
theorem dX3_isSense_5 : decode cX3_isSense 5 = .ok (.bipush 10, 2) := by decide +kernel
theorem dX3_isSense_7 : decode cX3_isSense 7 = .ok (.if_icmp .ge 7, 3) := by decide +kernel
theorem dX3_isSense_10 : decode cX3_isSense 10 = .ok (.iconst 1, 1) := by decide +kernel
theorem dX3_isSense_11 : decode cX3_isSense 11 = .ok (.goto 4, 3) := by decide +kernel
theorem dX3_isSense_14 : decode cX3_isSense 14 = .ok (.iconst 0, 1) := by decide +kernel
theorem dX3_isSense_15 : decode cX3_isSense 15 = .ok (.ireturn, 1) := by decide +kernel
set_option maxRecDepth 20000 in
theorem ggX3_maySpeak_X3_has : GoodIn wsX3_maySpeak wsX3_has := goodIn_r _ [5] (by decide +kernel) (by decide +kernel)
set_option maxRecDepth 20000 in
theorem gX3_maySpeak_X3_has : GoodIn wsX3_maySpeak (va_wsS RX3 96 yX3_has wsX3_has) := goodIn_app (goodIn_of _ (by decide +kernel)) ggX3_maySpeak_X3_has
theorem dX3_maySpeak_0 : decode cX3_maySpeak 0 = .ok (.iload_n 3, 1) := by decide +kernel
theorem dX3_maySpeak_1 : decode cX3_maySpeak 1 = .ok (.ifCond .lt 17, 3) := by decide +kernel
theorem dX3_maySpeak_4 : decode cX3_maySpeak 4 = .ok (.iload_n 3, 1) := by decide +kernel
theorem dX3_maySpeak_5 : decode cX3_maySpeak 5 = .ok (.bipush 7, 2) := by decide +kernel
theorem dX3_maySpeak_7 : decode cX3_maySpeak 7 = .ok (.if_icmp .ge 11, 3) := by decide +kernel
theorem dX3_maySpeak_10 : decode cX3_maySpeak 10 = .ok (.iload_n 2, 1) := by decide +kernel
theorem dX3_maySpeak_11 : decode cX3_maySpeak 11 = .ok (.iload_n 3, 1) := by decide +kernel
theorem dX3_maySpeak_12 : decode cX3_maySpeak 12 = .ok (.invokestatic 96, 3) := by decide +kernel
theorem dX3_maySpeak_15 : decode cX3_maySpeak 15 = .ok (.ifCond .ne 5, 3) := by decide +kernel
theorem dX3_maySpeak_18 : decode cX3_maySpeak 18 = .ok (.iconst 0, 1) := by decide +kernel
theorem dX3_maySpeak_19 : decode cX3_maySpeak 19 = .ok (.ireturn, 1) := by decide +kernel
theorem dX3_maySpeak_20 : decode cX3_maySpeak 20 = .ok (.aload_n 0, 1) := by decide +kernel
theorem dX3_maySpeak_21 : decode cX3_maySpeak 21 = .ok (.getfield 17, 3) := by decide +kernel
theorem dX3_maySpeak_24 : decode cX3_maySpeak 24 = .ok (.iload_n 3, 1) := by decide +kernel
theorem dX3_maySpeak_25 : decode cX3_maySpeak 25 = .ok (.iaload, 1) := by decide +kernel
theorem dX3_maySpeak_26 : decode cX3_maySpeak 26 = .ok (.iconst 1, 1) := by decide +kernel
theorem dX3_maySpeak_27 : decode cX3_maySpeak 27 = .ok (.if_icmp .ne 26, 3) := by decide +kernel
theorem dX3_maySpeak_30 : decode cX3_maySpeak 30 = .ok (.aload_n 1, 1) := by decide +kernel
theorem dX3_maySpeak_31 : decode cX3_maySpeak 31 = .ok (.getfield 229, 3) := by decide +kernel
theorem dX3_maySpeak_34 : decode cX3_maySpeak 34 = .ok (.bipush (-9), 2) := by decide +kernel
theorem dX3_maySpeak_36 : decode cX3_maySpeak 36 = .ok (.if_icmp .eq 15, 3) := by decide +kernel
theorem dX3_maySpeak_39 : decode cX3_maySpeak 39 = .ok (.aload_n 1, 1) := by decide +kernel
theorem dX3_maySpeak_40 : decode cX3_maySpeak 40 = .ok (.getfield 229, 3) := by decide +kernel
theorem dX3_maySpeak_43 : decode cX3_maySpeak 43 = .ok (.iload_n 3, 1) := by decide +kernel
theorem dX3_maySpeak_44 : decode cX3_maySpeak 44 = .ok (.if_icmp .eq 7, 3) := by decide +kernel
theorem dX3_maySpeak_47 : decode cX3_maySpeak 47 = .ok (.iconst 1, 1) := by decide +kernel
theorem dX3_maySpeak_48 : decode cX3_maySpeak 48 = .ok (.goto 4, 3) := by decide +kernel
theorem dX3_maySpeak_51 : decode cX3_maySpeak 51 = .ok (.iconst 0, 1) := by decide +kernel
theorem dX3_maySpeak_52 : decode cX3_maySpeak 52 = .ok (.ireturn, 1) := by decide +kernel
theorem dX3_maySpeak_53 : decode cX3_maySpeak 53 = .ok (.aload_n 0, 1) := by decide +kernel
theorem dX3_maySpeak_54 : decode cX3_maySpeak 54 = .ok (.getfield 17, 3) := by decide +kernel
theorem dX3_maySpeak_57 : decode cX3_maySpeak 57 = .ok (.iload_n 3, 1) := by decide +kernel
theorem dX3_maySpeak_58 : decode cX3_maySpeak 58 = .ok (.iaload, 1) := by decide +kernel
theorem dX3_maySpeak_59 : decode cX3_maySpeak 59 = .ok (.iconst 3, 1) := by decide +kernel
theorem dX3_maySpeak_60 : decode cX3_maySpeak 60 = .ok (.if_icmp .ne 12, 3) := by decide +kernel
theorem dX3_maySpeak_63 : decode cX3_maySpeak 63 = .ok (.aload_n 1, 1) := by decide +kernel
theorem dX3_maySpeak_64 : decode cX3_maySpeak 64 = .ok (.getfield 107, 3) := by decide +kernel
theorem dX3_maySpeak_67 : decode cX3_maySpeak 67 = .ok (.iload_n 3, 1) := by decide +kernel
theorem dX3_maySpeak_68 : decode cX3_maySpeak 68 = .ok (.iaload, 1) := by decide +kernel
theorem dX3_maySpeak_69 : decode cX3_maySpeak 69 = .ok (.ifCond .ne 7, 3) := by decide +kernel
theorem dX3_maySpeak_72 : decode cX3_maySpeak 72 = .ok (.iconst 1, 1) := by decide +kernel
theorem dX3_maySpeak_73 : decode cX3_maySpeak 73 = .ok (.goto 4, 3) := by decide +kernel
theorem dX3_maySpeak_76 : decode cX3_maySpeak 76 = .ok (.iconst 0, 1) := by decide +kernel
theorem dX3_maySpeak_77 : decode cX3_maySpeak 77 = .ok (.ireturn, 1) := by decide +kernel
set_option maxRecDepth 20000 in
theorem ggX3_whoMay_X3_maySpeak : GoodIn wsX3_whoMay wsX3_maySpeak := goodIn_r _ [7, 8, 9, 10, 6, 11, 12, 13, 14, 15, 16, 17, 18, 19, 20, 21, 22, 23, 24, 25, 26, 27, 28, 29, 34, 35, 36, 37] (by decide +kernel) (by decide +kernel)
set_option maxRecDepth 20000 in
theorem gX3_whoMay_X3_maySpeak : GoodIn wsX3_whoMay (wsV RX3 103 RX3 yX3_maySpeak wsX3_maySpeak) := goodIn_app (goodIn_of _ (by decide +kernel)) ggX3_whoMay_X3_maySpeak
theorem dX3_whoMay_0 : decode cX3_whoMay 0 = .ok (.iconst 0, 1) := by decide +kernel
theorem dX3_whoMay_1 : decode cX3_whoMay 1 = .ok (.istore_n 1, 1) := by decide +kernel
theorem dX3_whoMay_2 : decode cX3_whoMay 2 = .ok (.iconst 0, 1) := by decide +kernel
theorem dX3_whoMay_3 : decode cX3_whoMay 3 = .ok (.istore_n 2, 1) := by decide +kernel
theorem dX3_whoMay_4 : decode cX3_whoMay 4 = .ok (.iload_n 2, 1) := by decide +kernel
theorem dX3_whoMay_5 : decode cX3_whoMay 5 = .ok (.aload_n 0, 1) := by decide +kernel
theorem dX3_whoMay_6 : decode cX3_whoMay 6 = .ok (.getfield 73, 3) := by decide +kernel
theorem dX3_whoMay_9 : decode cX3_whoMay 9 = .ok (.if_icmp .ge 37, 3) := by decide +kernel
theorem dX3_whoMay_12 : decode cX3_whoMay 12 = .ok (.aload_n 0, 1) := by decide +kernel
theorem dX3_whoMay_13 : decode cX3_whoMay 13 = .ok (.aload_n 0, 1) := by decide +kernel
theorem dX3_whoMay_14 : decode cX3_whoMay 14 = .ok (.getfield 23, 3) := by decide +kernel
theorem dX3_whoMay_17 : decode cX3_whoMay 17 = .ok (.getfield 100, 3) := by decide +kernel
theorem dX3_whoMay_20 : decode cX3_whoMay 20 = .ok (.aload_n 0, 1) := by decide +kernel
theorem dX3_whoMay_21 : decode cX3_whoMay 21 = .ok (.getfield 23, 3) := by decide +kernel
theorem dX3_whoMay_24 : decode cX3_whoMay 24 = .ok (.getfield 93, 3) := by decide +kernel
theorem dX3_whoMay_27 : decode cX3_whoMay 27 = .ok (.iload_n 2, 1) := by decide +kernel
theorem dX3_whoMay_28 : decode cX3_whoMay 28 = .ok (.invokevirtual 103, 3) := by decide +kernel
theorem dX3_whoMay_31 : decode cX3_whoMay 31 = .ok (.ifCond .eq 9, 3) := by decide +kernel
theorem dX3_whoMay_34 : decode cX3_whoMay 34 = .ok (.iload_n 1, 1) := by decide +kernel
theorem dX3_whoMay_35 : decode cX3_whoMay 35 = .ok (.iconst 1, 1) := by decide +kernel
theorem dX3_whoMay_36 : decode cX3_whoMay 36 = .ok (.iload_n 2, 1) := by decide +kernel
theorem dX3_whoMay_37 : decode cX3_whoMay 37 = .ok (.ishl, 1) := by decide +kernel
theorem dX3_whoMay_38 : decode cX3_whoMay 38 = .ok (.ior, 1) := by decide +kernel
theorem dX3_whoMay_39 : decode cX3_whoMay 39 = .ok (.istore_n 1, 1) := by decide +kernel
theorem dX3_whoMay_40 : decode cX3_whoMay 40 = .ok (.iinc 2 1, 3) := by decide +kernel
theorem dX3_whoMay_43 : decode cX3_whoMay 43 = .ok (.goto (-39), 3) := by decide +kernel
theorem dX3_whoMay_46 : decode cX3_whoMay 46 = .ok (.iload_n 1, 1) := by decide +kernel
theorem dX3_whoMay_47 : decode cX3_whoMay 47 = .ok (.ireturn, 1) := by decide +kernel
theorem dX3_sentenceOf_0 : decode cX3_sentenceOf 0 = .ok (.iload_n 1, 1) := by decide +kernel
theorem dX3_sentenceOf_1 : decode cX3_sentenceOf 1 = .ok (.bipush 6, 2) := by decide +kernel
theorem dX3_sentenceOf_3 : decode cX3_sentenceOf 3 = .ok (.if_icmp .ne 8, 3) := by decide +kernel
theorem dX3_sentenceOf_6 : decode cX3_sentenceOf 6 = .ok (.aload_n 0, 1) := by decide +kernel
theorem dX3_sentenceOf_7 : decode cX3_sentenceOf 7 = .ok (.getfield 171, 3) := by decide +kernel
theorem dX3_sentenceOf_10 : decode cX3_sentenceOf 10 = .ok (.ireturn, 1) := by decide +kernel
theorem dX3_sentenceOf_11 : decode cX3_sentenceOf 11 = .ok (.iload_n 1, 1) := by decide +kernel
theorem dX3_sentenceOf_12 : decode cX3_sentenceOf 12 = .ok (.ifCond .lt 21, 3) := by decide +kernel
theorem dX3_sentenceOf_15 : decode cX3_sentenceOf 15 = .ok (.iload_n 1, 1) := by decide +kernel
theorem dX3_sentenceOf_16 : decode cX3_sentenceOf 16 = .ok (.bipush 6, 2) := by decide +kernel
theorem dX3_sentenceOf_18 : decode cX3_sentenceOf 18 = .ok (.if_icmp .ge 15, 3) := by decide +kernel
theorem dX3_sentenceOf_21 : decode cX3_sentenceOf 21 = .ok (.aload_n 0, 1) := by decide +kernel
theorem dX3_sentenceOf_22 : decode cX3_sentenceOf 22 = .ok (.getfield 23, 3) := by decide +kernel
theorem dX3_sentenceOf_25 : decode cX3_sentenceOf 25 = .ok (.getfield 90, 3) := by decide +kernel
theorem dX3_sentenceOf_28 : decode cX3_sentenceOf 28 = .ok (.iload_n 1, 1) := by decide +kernel
theorem dX3_sentenceOf_29 : decode cX3_sentenceOf 29 = .ok (.iaload, 1) := by decide +kernel
theorem dX3_sentenceOf_30 : decode cX3_sentenceOf 30 = .ok (.goto 5, 3) := by decide +kernel
theorem dX3_sentenceOf_33 : decode cX3_sentenceOf 33 = .ok (.bipush (-9), 2) := by decide +kernel
theorem dX3_sentenceOf_35 : decode cX3_sentenceOf 35 = .ok (.ireturn, 1) := by decide +kernel
set_option maxRecDepth 20000 in
theorem ggX3_speak_X3_sentenceOf : GoodIn wsX3_speak wsX3_sentenceOf := goodIn_r _ [6, 7, 8, 20, 21, 22, 23, 24, 25, 26, 27, 28, 29, 30, 31, 32, 33, 34, 35, 36, 37, 38, 39, 40, 41] (by decide +kernel) (by decide +kernel)
set_option maxRecDepth 20000 in
theorem gX3_speak_X3_sentenceOf : GoodIn wsX3_speak (wsV RX3 190 RX3 yX3_sentenceOf wsX3_sentenceOf) := goodIn_app (goodIn_of _ (by decide +kernel)) ggX3_speak_X3_sentenceOf
set_option maxRecDepth 20000 in
theorem ggX3_speak_X2_utter : GoodIn wsX3_speak wsX2_utter := goodIn_r _ [12, 13, 14, 15, 16, 17, 18, 10, 19, 42, 43, 44, 45] (by decide +kernel) (by decide +kernel)
set_option maxRecDepth 20000 in
theorem gX3_speak_X2_utter_n193 : GoodIn wsX3_speak (wsX2_utter) := ggX3_speak_X2_utter
theorem dX3_speak_0 : decode cX3_speak 0 = .ok (.iload_n 2, 1) := by decide +kernel
theorem dX3_speak_1 : decode cX3_speak 1 = .ok (.ifCond .lt 23, 3) := by decide +kernel
theorem dX3_speak_4 : decode cX3_speak 4 = .ok (.iload_n 2, 1) := by decide +kernel
theorem dX3_speak_5 : decode cX3_speak 5 = .ok (.bipush 7, 2) := by decide +kernel
theorem dX3_speak_7 : decode cX3_speak 7 = .ok (.if_icmp .ge 17, 3) := by decide +kernel
theorem dX3_speak_10 : decode cX3_speak 10 = .ok (.aload_n 0, 1) := by decide +kernel
theorem dX3_speak_11 : decode cX3_speak 11 = .ok (.getfield 17, 3) := by decide +kernel
theorem dX3_speak_14 : decode cX3_speak 14 = .ok (.iload_n 2, 1) := by decide +kernel
theorem dX3_speak_15 : decode cX3_speak 15 = .ok (.iaload, 1) := by decide +kernel
theorem dX3_speak_16 : decode cX3_speak 16 = .ok (.iconst 2, 1) := by decide +kernel
theorem dX3_speak_17 : decode cX3_speak 17 = .ok (.if_icmp .ne 7, 3) := by decide +kernel
theorem dX3_speak_20 : decode cX3_speak 20 = .ok (.iconst 1, 1) := by decide +kernel
theorem dX3_speak_21 : decode cX3_speak 21 = .ok (.goto 4, 3) := by decide +kernel
theorem dX3_speak_24 : decode cX3_speak 24 = .ok (.iconst 0, 1) := by decide +kernel
theorem dX3_speak_25 : decode cX3_speak 25 = .ok (.istore_n 3, 1) := by decide +kernel
theorem dX3_speak_26 : decode cX3_speak 26 = .ok (.aload_n 1, 1) := by decide +kernel
theorem dX3_speak_27 : decode cX3_speak 27 = .ok (.iload_n 2, 1) := by decide +kernel
theorem dX3_speak_28 : decode cX3_speak 28 = .ok (.aload_n 0, 1) := by decide +kernel
theorem dX3_speak_29 : decode cX3_speak 29 = .ok (.iload_n 2, 1) := by decide +kernel
theorem dX3_speak_30 : decode cX3_speak 30 = .ok (.invokevirtual 190, 3) := by decide +kernel
theorem dX3_speak_33 : decode cX3_speak 33 = .ok (.iload_n 3, 1) := by decide +kernel
theorem dX3_speak_34 : decode cX3_speak 34 = .ok (.ifCond .eq 7, 3) := by decide +kernel
theorem dX3_speak_37 : decode cX3_speak 37 = .ok (.iconst 2, 1) := by decide +kernel
theorem dX3_speak_38 : decode cX3_speak 38 = .ok (.goto 4, 3) := by decide +kernel
theorem dX3_speak_41 : decode cX3_speak 41 = .ok (.iconst 1, 1) := by decide +kernel
theorem dX3_speak_42 : decode cX3_speak 42 = .ok (.invokevirtual 193, 3) := by decide +kernel
theorem dX3_speak_45 : decode cX3_speak 45 = .ok (.return_, 1) := by decide +kernel
set_option maxRecDepth 20000 in
theorem ggX3_hoursFrom_X3_isThere : GoodIn wsX3_hoursFrom wsX3_isThere := goodIn_r _ [11, 12, 13, 14, 15, 16, 17, 18, 19, 20, 21, 22, 23, 24, 25, 26, 27, 28, 29, 30] (by decide +kernel) (by decide +kernel)
set_option maxRecDepth 20000 in
theorem gX3_hoursFrom_X3_isThere : GoodIn wsX3_hoursFrom (wsV RX3 86 RX3 yX3_isThere wsX3_isThere) := goodIn_app (goodIn_of _ (by decide +kernel)) ggX3_hoursFrom_X3_isThere
theorem dX3_hoursFrom_0 : decode cX3_hoursFrom 0 = .ok (.aload_n 0, 1) := by decide +kernel
theorem dX3_hoursFrom_1 : decode cX3_hoursFrom 1 = .ok (.iload_n 1, 1) := by decide +kernel
theorem dX3_hoursFrom_2 : decode cX3_hoursFrom 2 = .ok (.invokevirtual 86, 3) := by decide +kernel
theorem dX3_hoursFrom_5 : decode cX3_hoursFrom 5 = .ok (.ifCond .eq 20, 3) := by decide +kernel
theorem dX3_hoursFrom_8 : decode cX3_hoursFrom 8 = .ok (.aload_n 0, 1) := by decide +kernel
theorem dX3_hoursFrom_9 : decode cX3_hoursFrom 9 = .ok (.getfield 13, 3) := by decide +kernel
theorem dX3_hoursFrom_12 : decode cX3_hoursFrom 12 = .ok (.iload_n 1, 1) := by decide +kernel
theorem dX3_hoursFrom_13 : decode cX3_hoursFrom 13 = .ok (.iaload, 1) := by decide +kernel
theorem dX3_hoursFrom_14 : decode cX3_hoursFrom 14 = .ok (.aload_n 0, 1) := by decide +kernel
theorem dX3_hoursFrom_15 : decode cX3_hoursFrom 15 = .ok (.getfield 70, 3) := by decide +kernel
theorem dX3_hoursFrom_18 : decode cX3_hoursFrom 18 = .ok (.isub, 1) := by decide +kernel
theorem dX3_hoursFrom_19 : decode cX3_hoursFrom 19 = .ok (.invokestatic 240, 3) := by decide +kernel
theorem dX3_hoursFrom_22 : decode cX3_hoursFrom 22 = .ok (.goto 4, 3) := by decide +kernel
theorem dX3_hoursFrom_25 : decode cX3_hoursFrom 25 = .ok (.iconst 0, 1) := by decide +kernel
theorem dX3_hoursFrom_26 : decode cX3_hoursFrom 26 = .ok (.ireturn, 1) := by decide +kernel
set_option maxRecDepth 20000 in
theorem ggX3_hoursFor_X3_has : GoodIn wsX3_hoursFor wsX3_has := goodIn_r _ [5] (by decide +kernel) (by decide +kernel)
set_option maxRecDepth 20000 in
theorem gX3_hoursFor_X3_has : GoodIn wsX3_hoursFor (va_wsS RX3 96 yX3_has wsX3_has) := goodIn_app (goodIn_of _ (by decide +kernel)) ggX3_hoursFor_X3_has
set_option maxRecDepth 20000 in
theorem ggX3_hoursFor_X3_hoursFrom : GoodIn wsX3_hoursFor wsX3_hoursFrom := goodIn_r _ [9, 10, 11, 12, 13, 14, 15, 16, 17, 18, 4, 19, 1, 20, 21, 22, 23, 24, 25, 26, 27, 28, 29, 30, 31, 32, 33, 34, 35, 36, 37] (by decide +kernel) (by decide +kernel)
set_option maxRecDepth 20000 in
theorem gX3_hoursFor_X3_hoursFrom : GoodIn wsX3_hoursFor (wsV RX3 116 RX3 yX3_hoursFrom wsX3_hoursFrom) := goodIn_app (goodIn_of _ (by decide +kernel)) ggX3_hoursFor_X3_hoursFrom
theorem dX3_hoursFor_0 : decode cX3_hoursFor 0 = .ok (.iconst 0, 1) := by decide +kernel
theorem dX3_hoursFor_1 : decode cX3_hoursFor 1 = .ok (.istore_n 2, 1) := by decide +kernel
theorem dX3_hoursFor_2 : decode cX3_hoursFor 2 = .ok (.iconst 0, 1) := by decide +kernel
theorem dX3_hoursFor_3 : decode cX3_hoursFor 3 = .ok (.istore_n 3, 1) := by decide +kernel
theorem dX3_hoursFor_4 : decode cX3_hoursFor 4 = .ok (.iload_n 3, 1) := by decide +kernel
theorem dX3_hoursFor_5 : decode cX3_hoursFor 5 = .ok (.aload_n 0, 1) := by decide +kernel
theorem dX3_hoursFor_6 : decode cX3_hoursFor 6 = .ok (.getfield 73, 3) := by decide +kernel
theorem dX3_hoursFor_9 : decode cX3_hoursFor 9 = .ok (.if_icmp .ge 25, 3) := by decide +kernel
theorem dX3_hoursFor_12 : decode cX3_hoursFor 12 = .ok (.iload_n 1, 1) := by decide +kernel
theorem dX3_hoursFor_13 : decode cX3_hoursFor 13 = .ok (.iload_n 3, 1) := by decide +kernel
theorem dX3_hoursFor_14 : decode cX3_hoursFor 14 = .ok (.invokestatic 96, 3) := by decide +kernel
theorem dX3_hoursFor_17 : decode cX3_hoursFor 17 = .ok (.ifCond .eq 11, 3) := by decide +kernel
theorem dX3_hoursFor_20 : decode cX3_hoursFor 20 = .ok (.iload_n 2, 1) := by decide +kernel
theorem dX3_hoursFor_21 : decode cX3_hoursFor 21 = .ok (.aload_n 0, 1) := by decide +kernel
theorem dX3_hoursFor_22 : decode cX3_hoursFor 22 = .ok (.iload_n 3, 1) := by decide +kernel
theorem dX3_hoursFor_23 : decode cX3_hoursFor 23 = .ok (.invokevirtual 116, 3) := by decide +kernel
theorem dX3_hoursFor_26 : decode cX3_hoursFor 26 = .ok (.iadd, 1) := by decide +kernel
theorem dX3_hoursFor_27 : decode cX3_hoursFor 27 = .ok (.istore_n 2, 1) := by decide +kernel
theorem dX3_hoursFor_28 : decode cX3_hoursFor 28 = .ok (.iinc 3 1, 3) := by decide +kernel
theorem dX3_hoursFor_31 : decode cX3_hoursFor 31 = .ok (.goto (-27), 3) := by decide +kernel
theorem dX3_hoursFor_34 : decode cX3_hoursFor 34 = .ok (.iload_n 2, 1) := by decide +kernel
theorem dX3_hoursFor_35 : decode cX3_hoursFor 35 = .ok (.ireturn, 1) := by decide +kernel
set_option maxRecDepth 20000 in
theorem ggX3_remember_X0_become : GoodIn wsX3_remember wsX0_become := goodIn_r _ [8, 9, 10, 11, 12, 13, 14, 15, 16, 17, 18, 19, 20, 39, 40, 41, 42, 43, 44, 45, 46] (by decide +kernel) (by decide +kernel)
set_option maxRecDepth 20000 in
theorem gX3_remember_X0_become_n137 : GoodIn wsX3_remember (wsX0_become) := ggX3_remember_X0_become
theorem dX3_remember_0 : decode cX3_remember 0 = .ok (.aload_n 0, 1) := by decide +kernel
theorem dX3_remember_1 : decode cX3_remember 1 = .ok (.getfield 134, 3) := by decide +kernel
theorem dX3_remember_4 : decode cX3_remember 4 = .ok (.aload_n 0, 1) := by decide +kernel
theorem dX3_remember_5 : decode cX3_remember 5 = .ok (.getfield 131, 3) := by decide +kernel
theorem dX3_remember_8 : decode cX3_remember 8 = .ok (.iadd, 1) := by decide +kernel
theorem dX3_remember_9 : decode cX3_remember 9 = .ok (.bipush 14, 2) := by decide +kernel
theorem dX3_remember_11 : decode cX3_remember 11 = .ok (.irem, 1) := by decide +kernel
theorem dX3_remember_12 : decode cX3_remember 12 = .ok (.istore_n 1, 1) := by decide +kernel
theorem dX3_remember_13 : decode cX3_remember 13 = .ok (.iload_n 1, 1) := by decide +kernel
theorem dX3_remember_14 : decode cX3_remember 14 = .ok (.ifCond .lt 25, 3) := by decide +kernel
theorem dX3_remember_17 : decode cX3_remember 17 = .ok (.iload_n 1, 1) := by decide +kernel
theorem dX3_remember_18 : decode cX3_remember 18 = .ok (.aload_n 0, 1) := by decide +kernel
theorem dX3_remember_19 : decode cX3_remember 19 = .ok (.getfield 27, 3) := by decide +kernel
theorem dX3_remember_22 : decode cX3_remember 22 = .ok (.arraylength, 1) := by decide +kernel
theorem dX3_remember_23 : decode cX3_remember 23 = .ok (.if_icmp .ge 16, 3) := by decide +kernel
theorem dX3_remember_26 : decode cX3_remember 26 = .ok (.aload_n 0, 1) := by decide +kernel
theorem dX3_remember_27 : decode cX3_remember 27 = .ok (.getfield 27, 3) := by decide +kernel
theorem dX3_remember_30 : decode cX3_remember 30 = .ok (.iload_n 1, 1) := by decide +kernel
theorem dX3_remember_31 : decode cX3_remember 31 = .ok (.aaload, 1) := by decide +kernel
theorem dX3_remember_32 : decode cX3_remember 32 = .ok (.aload_n 0, 1) := by decide +kernel
theorem dX3_remember_33 : decode cX3_remember 33 = .ok (.getfield 23, 3) := by decide +kernel
theorem dX3_remember_36 : decode cX3_remember 36 = .ok (.invokevirtual 137, 3) := by decide +kernel
theorem dX3_remember_39 : decode cX3_remember 39 = .ok (.aload_n 0, 1) := by decide +kernel
theorem dX3_remember_40 : decode cX3_remember 40 = .ok (.getfield 131, 3) := by decide +kernel
theorem dX3_remember_43 : decode cX3_remember 43 = .ok (.bipush 14, 2) := by decide +kernel
theorem dX3_remember_45 : decode cX3_remember 45 = .ok (.if_icmp .ge 16, 3) := by decide +kernel
theorem dX3_remember_48 : decode cX3_remember 48 = .ok (.aload_n 0, 1) := by decide +kernel
theorem dX3_remember_49 : decode cX3_remember 49 = .ok (.dup, 1) := by decide +kernel
theorem dX3_remember_50 : decode cX3_remember 50 = .ok (.getfield 131, 3) := by decide +kernel
theorem dX3_remember_53 : decode cX3_remember 53 = .ok (.iconst 1, 1) := by decide +kernel
theorem dX3_remember_54 : decode cX3_remember 54 = .ok (.iadd, 1) := by decide +kernel
theorem dX3_remember_55 : decode cX3_remember 55 = .ok (.putfield 131, 3) := by decide +kernel
theorem dX3_remember_58 : decode cX3_remember 58 = .ok (.goto 16, 3) := by decide +kernel
theorem dX3_remember_61 : decode cX3_remember 61 = .ok (.aload_n 0, 1) := by decide +kernel
theorem dX3_remember_62 : decode cX3_remember 62 = .ok (.aload_n 0, 1) := by decide +kernel
theorem dX3_remember_63 : decode cX3_remember 63 = .ok (.getfield 134, 3) := by decide +kernel
theorem dX3_remember_66 : decode cX3_remember 66 = .ok (.iconst 1, 1) := by decide +kernel
theorem dX3_remember_67 : decode cX3_remember 67 = .ok (.iadd, 1) := by decide +kernel
theorem dX3_remember_68 : decode cX3_remember 68 = .ok (.bipush 14, 2) := by decide +kernel
theorem dX3_remember_70 : decode cX3_remember 70 = .ok (.irem, 1) := by decide +kernel
theorem dX3_remember_71 : decode cX3_remember 71 = .ok (.putfield 134, 3) := by decide +kernel
theorem dX3_remember_74 : decode cX3_remember 74 = .ok (.return_, 1) := by decide +kernel
theorem dX3_forgetActs_0 : decode cX3_forgetActs 0 = .ok (.aload_n 0, 1) := by decide +kernel
theorem dX3_forgetActs_1 : decode cX3_forgetActs 1 = .ok (.iconst 0, 1) := by decide +kernel
theorem dX3_forgetActs_2 : decode cX3_forgetActs 2 = .ok (.putfield 134, 3) := by decide +kernel
theorem dX3_forgetActs_5 : decode cX3_forgetActs 5 = .ok (.aload_n 0, 1) := by decide +kernel
theorem dX3_forgetActs_6 : decode cX3_forgetActs 6 = .ok (.iconst 0, 1) := by decide +kernel
theorem dX3_forgetActs_7 : decode cX3_forgetActs 7 = .ok (.putfield 131, 3) := by decide +kernel
theorem dX3_forgetActs_10 : decode cX3_forgetActs 10 = .ok (.return_, 1) := by decide +kernel
set_option maxRecDepth 20000 in
theorem ggX3_play_X2_become : GoodIn wsX3_play wsX2_become := goodIn_r _ [6, 7, 8, 9, 10, 60, 61, 62, 63] (by decide +kernel) (by decide +kernel)
set_option maxRecDepth 20000 in
theorem gX3_play_X2_become_n187 : GoodIn wsX3_play (wsX2_become) := ggX3_play_X2_become
set_option maxRecDepth 20000 in
theorem ggX3_play_X3_personIn : GoodIn wsX3_play wsX3_personIn := goodIn_r _ [14] (by decide +kernel) (by decide +kernel)
set_option maxRecDepth 20000 in
theorem gX3_play_X3_personIn : GoodIn wsX3_play (va_wsS RX3 245 yX3_personIn wsX3_personIn) := goodIn_app (goodIn_of _ (by decide +kernel)) ggX3_play_X3_personIn
set_option maxRecDepth 20000 in
theorem ggX3_play_X3_maySpeak : GoodIn wsX3_play wsX3_maySpeak := goodIn_r _ [18, 19, 20, 21, 13, 22, 38, 39, 40, 41, 42, 43, 44, 45, 46, 47, 48, 49, 50, 51, 52, 53, 54, 55, 60, 61, 62, 63] (by decide +kernel) (by decide +kernel)
set_option maxRecDepth 20000 in
theorem gX3_play_X3_maySpeak : GoodIn wsX3_play (wsV RX3 103 RX3 yX3_maySpeak wsX3_maySpeak) := goodIn_app (goodIn_of _ (by decide +kernel)) ggX3_play_X3_maySpeak
set_option maxRecDepth 20000 in
theorem ggX3_play_X3_speak : GoodIn wsX3_play wsX3_speak := goodIn_r _ [26, 19, 27, 28, 29, 13, 30, 31, 2, 32, 4, 33, 34, 9, 7, 8, 10, 35, 36, 37, 38, 39, 40, 41, 42, 43, 44, 45, 46, 47, 48, 49, 50, 51, 52, 53, 54, 55, 56, 57, 58, 59, 60, 61, 62, 63] (by decide +kernel) (by decide +kernel)
set_option maxRecDepth 20000 in
theorem gX3_play_X3_speak : GoodIn wsX3_play (wsV RX3 124 RX3 yX3_speak wsX3_speak) := goodIn_app (goodIn_of _ (by decide +kernel)) ggX3_play_X3_speak
theorem dX3_play_0 : decode cX3_play 0 = .ok (.aload_n 0, 1) := by decide +kernel
theorem dX3_play_1 : decode cX3_play 1 = .ok (.getfield 41, 3) := by decide +kernel
theorem dX3_play_4 : decode cX3_play 4 = .ok (.aload_n 0, 1) := by decide +kernel
theorem dX3_play_5 : decode cX3_play 5 = .ok (.getfield 23, 3) := by decide +kernel
theorem dX3_play_8 : decode cX3_play 8 = .ok (.getfield 100, 3) := by decide +kernel
theorem dX3_play_11 : decode cX3_play 11 = .ok (.invokevirtual 187, 3) := by decide +kernel
theorem dX3_play_14 : decode cX3_play 14 = .ok (.iconst 0, 1) := by decide +kernel
theorem dX3_play_15 : decode cX3_play 15 = .ok (.istore 4, 2) := by decide +kernel
theorem dX3_play_17 : decode cX3_play 17 = .ok (.iload 4, 2) := by decide +kernel
theorem dX3_play_19 : decode cX3_play 19 = .ok (.iload_n 1, 1) := by decide +kernel
theorem dX3_play_20 : decode cX3_play 20 = .ok (.if_icmp .ge 45, 3) := by decide +kernel
theorem dX3_play_23 : decode cX3_play 23 = .ok (.iload_n 1, 1) := by decide +kernel
theorem dX3_play_24 : decode cX3_play 24 = .ok (.iload_n 2, 1) := by decide +kernel
theorem dX3_play_25 : decode cX3_play 25 = .ok (.iload 4, 2) := by decide +kernel
theorem dX3_play_27 : decode cX3_play 27 = .ok (.invokestatic 245, 3) := by decide +kernel
theorem dX3_play_30 : decode cX3_play 30 = .ok (.istore 5, 2) := by decide +kernel
theorem dX3_play_32 : decode cX3_play 32 = .ok (.aload_n 0, 1) := by decide +kernel
theorem dX3_play_33 : decode cX3_play 33 = .ok (.aload_n 0, 1) := by decide +kernel
theorem dX3_play_34 : decode cX3_play 34 = .ok (.getfield 41, 3) := by decide +kernel
theorem dX3_play_37 : decode cX3_play 37 = .ok (.iload_n 3, 1) := by decide +kernel
theorem dX3_play_38 : decode cX3_play 38 = .ok (.iload 5, 2) := by decide +kernel
theorem dX3_play_40 : decode cX3_play 40 = .ok (.invokevirtual 103, 3) := by decide +kernel
theorem dX3_play_43 : decode cX3_play 43 = .ok (.ifCond .ne 6, 3) := by decide +kernel
theorem dX3_play_46 : decode cX3_play 46 = .ok (.iload 4, 2) := by decide +kernel
theorem dX3_play_48 : decode cX3_play 48 = .ok (.ireturn, 1) := by decide +kernel
theorem dX3_play_49 : decode cX3_play 49 = .ok (.aload_n 0, 1) := by decide +kernel
theorem dX3_play_50 : decode cX3_play 50 = .ok (.aload_n 0, 1) := by decide +kernel
theorem dX3_play_51 : decode cX3_play 51 = .ok (.getfield 41, 3) := by decide +kernel
theorem dX3_play_54 : decode cX3_play 54 = .ok (.iload 5, 2) := by decide +kernel
theorem dX3_play_56 : decode cX3_play 56 = .ok (.invokevirtual 124, 3) := by decide +kernel
theorem dX3_play_59 : decode cX3_play 59 = .ok (.iinc 4 1, 3) := by decide +kernel
theorem dX3_play_62 : decode cX3_play 62 = .ok (.goto (-45), 3) := by decide +kernel
theorem dX3_play_65 : decode cX3_play 65 = .ok (.bipush (-9), 2) := by decide +kernel
theorem dX3_play_67 : decode cX3_play 67 = .ok (.ireturn, 1) := by decide +kernel
set_option maxRecDepth 20000 in
theorem ggX3_playWhoMay_X2_become : GoodIn wsX3_playWhoMay wsX2_become := goodIn_r _ [6, 7, 8, 9, 10, 60, 61, 62, 63] (by decide +kernel) (by decide +kernel)
set_option maxRecDepth 20000 in
theorem gX3_playWhoMay_X2_become_n187 : GoodIn wsX3_playWhoMay (wsX2_become) := ggX3_playWhoMay_X2_become
set_option maxRecDepth 20000 in
theorem ggX3_playWhoMay_X3_personIn : GoodIn wsX3_playWhoMay wsX3_personIn := goodIn_r _ [14] (by decide +kernel) (by decide +kernel)
set_option maxRecDepth 20000 in
theorem gX3_playWhoMay_X3_personIn : GoodIn wsX3_playWhoMay (va_wsS RX3 245 yX3_personIn wsX3_personIn) := goodIn_app (goodIn_of _ (by decide +kernel)) ggX3_playWhoMay_X3_personIn
set_option maxRecDepth 20000 in
theorem ggX3_playWhoMay_X3_maySpeak : GoodIn wsX3_playWhoMay wsX3_maySpeak := goodIn_r _ [18, 19, 20, 21, 13, 22, 38, 39, 40, 41, 42, 43, 44, 45, 46, 47, 48, 49, 50, 51, 52, 53, 54, 55, 60, 61, 62, 63] (by decide +kernel) (by decide +kernel)
set_option maxRecDepth 20000 in
theorem gX3_playWhoMay_X3_maySpeak : GoodIn wsX3_playWhoMay (wsV RX3 103 RX3 yX3_maySpeak wsX3_maySpeak) := goodIn_app (goodIn_of _ (by decide +kernel)) ggX3_playWhoMay_X3_maySpeak
set_option maxRecDepth 20000 in
theorem ggX3_playWhoMay_X3_speak : GoodIn wsX3_playWhoMay wsX3_speak := goodIn_r _ [26, 19, 27, 28, 29, 13, 30, 31, 2, 32, 4, 33, 34, 9, 7, 8, 10, 35, 36, 37, 38, 39, 40, 41, 42, 43, 44, 45, 46, 47, 48, 49, 50, 51, 52, 53, 54, 55, 56, 57, 58, 59, 60, 61, 62, 63] (by decide +kernel) (by decide +kernel)
set_option maxRecDepth 20000 in
theorem gX3_playWhoMay_X3_speak : GoodIn wsX3_playWhoMay (wsV RX3 124 RX3 yX3_speak wsX3_speak) := goodIn_app (goodIn_of _ (by decide +kernel)) ggX3_playWhoMay_X3_speak
theorem dX3_playWhoMay_0 : decode cX3_playWhoMay 0 = .ok (.aload_n 0, 1) := by decide +kernel
theorem dX3_playWhoMay_1 : decode cX3_playWhoMay 1 = .ok (.getfield 41, 3) := by decide +kernel
theorem dX3_playWhoMay_4 : decode cX3_playWhoMay 4 = .ok (.aload_n 0, 1) := by decide +kernel
theorem dX3_playWhoMay_5 : decode cX3_playWhoMay 5 = .ok (.getfield 23, 3) := by decide +kernel
theorem dX3_playWhoMay_8 : decode cX3_playWhoMay 8 = .ok (.getfield 100, 3) := by decide +kernel
theorem dX3_playWhoMay_11 : decode cX3_playWhoMay 11 = .ok (.invokevirtual 187, 3) := by decide +kernel
theorem dX3_playWhoMay_14 : decode cX3_playWhoMay 14 = .ok (.iconst 0, 1) := by decide +kernel
theorem dX3_playWhoMay_15 : decode cX3_playWhoMay 15 = .ok (.istore_n 3, 1) := by decide +kernel
theorem dX3_playWhoMay_16 : decode cX3_playWhoMay 16 = .ok (.iload_n 3, 1) := by decide +kernel
theorem dX3_playWhoMay_17 : decode cX3_playWhoMay 17 = .ok (.iload_n 1, 1) := by decide +kernel
theorem dX3_playWhoMay_18 : decode cX3_playWhoMay 18 = .ok (.if_icmp .ge 47, 3) := by decide +kernel
theorem dX3_playWhoMay_21 : decode cX3_playWhoMay 21 = .ok (.iload_n 1, 1) := by decide +kernel
theorem dX3_playWhoMay_22 : decode cX3_playWhoMay 22 = .ok (.iload_n 2, 1) := by decide +kernel
theorem dX3_playWhoMay_23 : decode cX3_playWhoMay 23 = .ok (.iload_n 3, 1) := by decide +kernel
theorem dX3_playWhoMay_24 : decode cX3_playWhoMay 24 = .ok (.invokestatic 245, 3) := by decide +kernel
theorem dX3_playWhoMay_27 : decode cX3_playWhoMay 27 = .ok (.istore 4, 2) := by decide +kernel
theorem dX3_playWhoMay_29 : decode cX3_playWhoMay 29 = .ok (.aload_n 0, 1) := by decide +kernel
theorem dX3_playWhoMay_30 : decode cX3_playWhoMay 30 = .ok (.aload_n 0, 1) := by decide +kernel
theorem dX3_playWhoMay_31 : decode cX3_playWhoMay 31 = .ok (.getfield 41, 3) := by decide +kernel
theorem dX3_playWhoMay_34 : decode cX3_playWhoMay 34 = .ok (.aload_n 0, 1) := by decide +kernel
theorem dX3_playWhoMay_35 : decode cX3_playWhoMay 35 = .ok (.getfield 23, 3) := by decide +kernel
theorem dX3_playWhoMay_38 : decode cX3_playWhoMay 38 = .ok (.getfield 93, 3) := by decide +kernel
theorem dX3_playWhoMay_41 : decode cX3_playWhoMay 41 = .ok (.iload 4, 2) := by decide +kernel
theorem dX3_playWhoMay_43 : decode cX3_playWhoMay 43 = .ok (.invokevirtual 103, 3) := by decide +kernel
theorem dX3_playWhoMay_46 : decode cX3_playWhoMay 46 = .ok (.ifCond .eq 13, 3) := by decide +kernel
theorem dX3_playWhoMay_49 : decode cX3_playWhoMay 49 = .ok (.aload_n 0, 1) := by decide +kernel
theorem dX3_playWhoMay_50 : decode cX3_playWhoMay 50 = .ok (.aload_n 0, 1) := by decide +kernel
theorem dX3_playWhoMay_51 : decode cX3_playWhoMay 51 = .ok (.getfield 41, 3) := by decide +kernel
theorem dX3_playWhoMay_54 : decode cX3_playWhoMay 54 = .ok (.iload 4, 2) := by decide +kernel
theorem dX3_playWhoMay_56 : decode cX3_playWhoMay 56 = .ok (.invokevirtual 124, 3) := by decide +kernel
theorem dX3_playWhoMay_59 : decode cX3_playWhoMay 59 = .ok (.iinc 3 1, 3) := by decide +kernel
theorem dX3_playWhoMay_62 : decode cX3_playWhoMay 62 = .ok (.goto (-46), 3) := by decide +kernel
theorem dX3_playWhoMay_65 : decode cX3_playWhoMay 65 = .ok (.return_, 1) := by decide +kernel
set_option maxRecDepth 20000 in
theorem ggX3_isTold_X3_play : GoodIn wsX3_isTold wsX3_play := goodIn_r _ [6, 1, 7, 8, 9, 10, 11, 12, 13, 14, 15, 16, 17, 5, 18, 19, 20, 21, 22, 23, 24, 25, 26, 27, 28, 29, 30, 31, 32, 33, 34, 35, 36, 37, 38, 39, 40, 41, 42, 43, 44, 45, 46, 47, 48, 49, 50, 51, 52, 53, 54, 55, 56, 57, 58, 59, 64, 65, 66, 67, 60, 61, 62, 63] (by decide +kernel) (by decide +kernel)
set_option maxRecDepth 20000 in
theorem gX3_isTold_X3_play : GoodIn wsX3_isTold (wsV RX3 145 RX3 yX3_play wsX3_play) := goodIn_app (goodIn_of _ (by decide +kernel)) ggX3_isTold_X3_play
theorem dX3_isTold_0 : decode cX3_isTold 0 = .ok (.aload_n 0, 1) := by decide +kernel
theorem dX3_isTold_1 : decode cX3_isTold 1 = .ok (.iload_n 1, 1) := by decide +kernel
theorem dX3_isTold_2 : decode cX3_isTold 2 = .ok (.iload_n 2, 1) := by decide +kernel
theorem dX3_isTold_3 : decode cX3_isTold 3 = .ok (.iload_n 3, 1) := by decide +kernel
theorem dX3_isTold_4 : decode cX3_isTold 4 = .ok (.invokevirtual 145, 3) := by decide +kernel
theorem dX3_isTold_7 : decode cX3_isTold 7 = .ok (.bipush (-9), 2) := by decide +kernel
theorem dX3_isTold_9 : decode cX3_isTold 9 = .ok (.if_icmp .ne 19, 3) := by decide +kernel
theorem dX3_isTold_12 : decode cX3_isTold 12 = .ok (.aload_n 0, 1) := by decide +kernel
theorem dX3_isTold_13 : decode cX3_isTold 13 = .ok (.getfield 41, 3) := by decide +kernel
theorem dX3_isTold_16 : decode cX3_isTold 16 = .ok (.getfield 128, 3) := by decide +kernel
theorem dX3_isTold_19 : decode cX3_isTold 19 = .ok (.iload 4, 2) := by decide +kernel
theorem dX3_isTold_21 : decode cX3_isTold 21 = .ok (.if_icmp .ne 7, 3) := by decide +kernel
theorem dX3_isTold_24 : decode cX3_isTold 24 = .ok (.iconst 1, 1) := by decide +kernel
theorem dX3_isTold_25 : decode cX3_isTold 25 = .ok (.goto 4, 3) := by decide +kernel
theorem dX3_isTold_28 : decode cX3_isTold 28 = .ok (.iconst 0, 1) := by decide +kernel
theorem dX3_isTold_29 : decode cX3_isTold 29 = .ok (.ireturn, 1) := by decide +kernel
theorem dX3_personIn_0 : decode cX3_personIn 0 = .ok (.iload_n 1, 1) := by decide +kernel
theorem dX3_personIn_1 : decode cX3_personIn 1 = .ok (.istore_n 3, 1) := by decide +kernel
theorem dX3_personIn_2 : decode cX3_personIn 2 = .ok (.iload_n 0, 1) := by decide +kernel
theorem dX3_personIn_3 : decode cX3_personIn 3 = .ok (.iconst 1, 1) := by decide +kernel
theorem dX3_personIn_4 : decode cX3_personIn 4 = .ok (.isub, 1) := by decide +kernel
theorem dX3_personIn_5 : decode cX3_personIn 5 = .ok (.istore 4, 2) := by decide +kernel
theorem dX3_personIn_7 : decode cX3_personIn 7 = .ok (.iload 4, 2) := by decide +kernel
theorem dX3_personIn_9 : decode cX3_personIn 9 = .ok (.iload_n 2, 1) := by decide +kernel
theorem dX3_personIn_10 : decode cX3_personIn 10 = .ok (.if_icmp .le 14, 3) := by decide +kernel
theorem dX3_personIn_13 : decode cX3_personIn 13 = .ok (.iload_n 3, 1) := by decide +kernel
theorem dX3_personIn_14 : decode cX3_personIn 14 = .ok (.bipush 10, 2) := by decide +kernel
theorem dX3_personIn_16 : decode cX3_personIn 16 = .ok (.idiv, 1) := by decide +kernel
theorem dX3_personIn_17 : decode cX3_personIn 17 = .ok (.istore_n 3, 1) := by decide +kernel
theorem dX3_personIn_18 : decode cX3_personIn 18 = .ok (.iinc 4 (-1), 3) := by decide +kernel
theorem dX3_personIn_21 : decode cX3_personIn 21 = .ok (.goto (-14), 3) := by decide +kernel
theorem dX3_personIn_24 : decode cX3_personIn 24 = .ok (.iload_n 3, 1) := by decide +kernel
theorem dX3_personIn_25 : decode cX3_personIn 25 = .ok (.bipush 10, 2) := by decide +kernel
theorem dX3_personIn_27 : decode cX3_personIn 27 = .ok (.irem, 1) := by decide +kernel
theorem dX3_personIn_28 : decode cX3_personIn 28 = .ok (.iconst 1, 1) := by decide +kernel
theorem dX3_personIn_29 : decode cX3_personIn 29 = .ok (.isub, 1) := by decide +kernel
theorem dX3_personIn_30 : decode cX3_personIn 30 = .ok (.ireturn, 1) := by decide +kernel
set_option maxRecDepth 20000 in
theorem ggX3_speakersIn_X3_personIn : GoodIn wsX3_speakersIn wsX3_personIn := goodIn_r _ [4] (by decide +kernel) (by decide +kernel)
set_option maxRecDepth 20000 in
theorem gX3_speakersIn_X3_personIn : GoodIn wsX3_speakersIn (va_wsS RX3 245 yX3_personIn wsX3_personIn) := goodIn_app (goodIn_of _ (by decide +kernel)) ggX3_speakersIn_X3_personIn
theorem dX3_speakersIn_0 : decode cX3_speakersIn 0 = .ok (.iconst 0, 1) := by decide +kernel
theorem dX3_speakersIn_1 : decode cX3_speakersIn 1 = .ok (.istore_n 2, 1) := by decide +kernel
theorem dX3_speakersIn_2 : decode cX3_speakersIn 2 = .ok (.iconst 0, 1) := by decide +kernel
theorem dX3_speakersIn_3 : decode cX3_speakersIn 3 = .ok (.istore_n 3, 1) := by decide +kernel
theorem dX3_speakersIn_4 : decode cX3_speakersIn 4 = .ok (.iload_n 3, 1) := by decide +kernel
theorem dX3_speakersIn_5 : decode cX3_speakersIn 5 = .ok (.iload_n 0, 1) := by decide +kernel
theorem dX3_speakersIn_6 : decode cX3_speakersIn 6 = .ok (.if_icmp .ge 20, 3) := by decide +kernel
theorem dX3_speakersIn_9 : decode cX3_speakersIn 9 = .ok (.iload_n 2, 1) := by decide +kernel
theorem dX3_speakersIn_10 : decode cX3_speakersIn 10 = .ok (.iconst 1, 1) := by decide +kernel
theorem dX3_speakersIn_11 : decode cX3_speakersIn 11 = .ok (.iload_n 0, 1) := by decide +kernel
theorem dX3_speakersIn_12 : decode cX3_speakersIn 12 = .ok (.iload_n 1, 1) := by decide +kernel
theorem dX3_speakersIn_13 : decode cX3_speakersIn 13 = .ok (.iload_n 3, 1) := by decide +kernel
theorem dX3_speakersIn_14 : decode cX3_speakersIn 14 = .ok (.invokestatic 245, 3) := by decide +kernel
theorem dX3_speakersIn_17 : decode cX3_speakersIn 17 = .ok (.ishl, 1) := by decide +kernel
theorem dX3_speakersIn_18 : decode cX3_speakersIn 18 = .ok (.ior, 1) := by decide +kernel
theorem dX3_speakersIn_19 : decode cX3_speakersIn 19 = .ok (.istore_n 2, 1) := by decide +kernel
theorem dX3_speakersIn_20 : decode cX3_speakersIn 20 = .ok (.iinc 3 1, 3) := by decide +kernel
theorem dX3_speakersIn_23 : decode cX3_speakersIn 23 = .ok (.goto (-19), 3) := by decide +kernel
theorem dX3_speakersIn_26 : decode cX3_speakersIn 26 = .ok (.iload_n 2, 1) := by decide +kernel
theorem dX3_speakersIn_27 : decode cX3_speakersIn 27 = .ok (.ireturn, 1) := by decide +kernel
set_option maxRecDepth 20000 in
theorem ggX3_leastRow_X1_many : GoodIn wsX3_leastRow wsX1_many := goodIn_r _ [6, 7, 8, 9, 10, 80, 81] (by decide +kernel) (by decide +kernel)
set_option maxRecDepth 20000 in
theorem gX3_leastRow_X1_many_n174 : GoodIn wsX3_leastRow (wsX1_many) := ggX3_leastRow_X1_many
set_option maxRecDepth 20000 in
theorem ggX3_leastRow_X1_told : GoodIn wsX3_leastRow wsX1_told := goodIn_r _ [13, 7, 14, 80, 81] (by decide +kernel) (by decide +kernel)
set_option maxRecDepth 20000 in
theorem gX3_leastRow_X1_told_n177 : GoodIn wsX3_leastRow (wsX1_told) := ggX3_leastRow_X1_told
set_option maxRecDepth 20000 in
theorem ggX3_leastRow_X3_isTold : GoodIn wsX3_leastRow wsX3_isTold := goodIn_r _ [18, 19, 20, 21, 22, 9, 23, 2, 24, 25, 26, 27, 28, 29, 30, 31, 32, 33, 34, 35, 36, 37, 38, 39, 40, 41, 42, 43, 44, 45, 46, 47, 48, 49, 50, 51, 52, 53, 54, 55, 56, 57, 58, 59, 60, 61, 62, 63, 64, 65, 66, 67, 68, 69, 70, 71, 72, 73, 74, 75, 82, 83, 84, 85, 76, 77, 78, 79] (by decide +kernel) (by decide +kernel)
set_option maxRecDepth 20000 in
theorem gX3_leastRow_X3_isTold : GoodIn wsX3_leastRow (wsV RX3 180 RX3 yX3_isTold wsX3_isTold) := goodIn_app (goodIn_of _ (by decide +kernel)) ggX3_leastRow_X3_isTold
theorem dX3_leastRow_0 : decode cX3_leastRow 0 = .ok (.aload_n 0, 1) := by decide +kernel
theorem dX3_leastRow_1 : decode cX3_leastRow 1 = .ok (.getfield 48, 3) := by decide +kernel
theorem dX3_leastRow_4 : decode cX3_leastRow 4 = .ok (.iload_n 1, 1) := by decide +kernel
theorem dX3_leastRow_5 : decode cX3_leastRow 5 = .ok (.invokevirtual 174, 3) := by decide +kernel
theorem dX3_leastRow_8 : decode cX3_leastRow 8 = .ok (.istore_n 3, 1) := by decide +kernel
theorem dX3_leastRow_9 : decode cX3_leastRow 9 = .ok (.iconst 0, 1) := by decide +kernel
theorem dX3_leastRow_10 : decode cX3_leastRow 10 = .ok (.istore 4, 2) := by decide +kernel
theorem dX3_leastRow_12 : decode cX3_leastRow 12 = .ok (.iload 4, 2) := by decide +kernel
theorem dX3_leastRow_14 : decode cX3_leastRow 14 = .ok (.iload_n 3, 1) := by decide +kernel
theorem dX3_leastRow_15 : decode cX3_leastRow 15 = .ok (.if_icmp .ge 42, 3) := by decide +kernel
theorem dX3_leastRow_18 : decode cX3_leastRow 18 = .ok (.aload_n 0, 1) := by decide +kernel
theorem dX3_leastRow_19 : decode cX3_leastRow 19 = .ok (.getfield 48, 3) := by decide +kernel
theorem dX3_leastRow_22 : decode cX3_leastRow 22 = .ok (.iload 4, 2) := by decide +kernel
theorem dX3_leastRow_24 : decode cX3_leastRow 24 = .ok (.iload_n 1, 1) := by decide +kernel
theorem dX3_leastRow_25 : decode cX3_leastRow 25 = .ok (.invokevirtual 177, 3) := by decide +kernel
theorem dX3_leastRow_28 : decode cX3_leastRow 28 = .ok (.istore 5, 2) := by decide +kernel
theorem dX3_leastRow_30 : decode cX3_leastRow 30 = .ok (.aload_n 0, 1) := by decide +kernel
theorem dX3_leastRow_31 : decode cX3_leastRow 31 = .ok (.iload_n 1, 1) := by decide +kernel
theorem dX3_leastRow_32 : decode cX3_leastRow 32 = .ok (.iload 5, 2) := by decide +kernel
theorem dX3_leastRow_34 : decode cX3_leastRow 34 = .ok (.aload_n 0, 1) := by decide +kernel
theorem dX3_leastRow_35 : decode cX3_leastRow 35 = .ok (.getfield 23, 3) := by decide +kernel
theorem dX3_leastRow_38 : decode cX3_leastRow 38 = .ok (.getfield 93, 3) := by decide +kernel
theorem dX3_leastRow_41 : decode cX3_leastRow 41 = .ok (.iload_n 2, 1) := by decide +kernel
theorem dX3_leastRow_42 : decode cX3_leastRow 42 = .ok (.invokevirtual 180, 3) := by decide +kernel
theorem dX3_leastRow_45 : decode cX3_leastRow 45 = .ok (.ifCond .eq 6, 3) := by decide +kernel
theorem dX3_leastRow_48 : decode cX3_leastRow 48 = .ok (.iload 5, 2) := by decide +kernel
theorem dX3_leastRow_50 : decode cX3_leastRow 50 = .ok (.ireturn, 1) := by decide +kernel
theorem dX3_leastRow_51 : decode cX3_leastRow 51 = .ok (.iinc 4 1, 3) := by decide +kernel
theorem dX3_leastRow_54 : decode cX3_leastRow 54 = .ok (.goto (-42), 3) := by decide +kernel
theorem dX3_leastRow_57 : decode cX3_leastRow 57 = .ok (.bipush (-9), 2) := by decide +kernel
theorem dX3_leastRow_59 : decode cX3_leastRow 59 = .ok (.ireturn, 1) := by decide +kernel
set_option maxRecDepth 20000 in
theorem ggX3_sensesBy_X1_by : GoodIn wsX3_sensesBy wsX1_by := goodIn_r _ [6, 7, 8, 9, 10, 11, 79, 80] (by decide +kernel) (by decide +kernel)
set_option maxRecDepth 20000 in
theorem gX3_sensesBy_X1_by_n152 : GoodIn wsX3_sensesBy (wsX1_by) := ggX3_sensesBy_X1_by
set_option maxRecDepth 20000 in
theorem ggX3_sensesBy_X1_many : GoodIn wsX3_sensesBy wsX1_many := goodIn_r _ [14, 7, 15, 10, 16, 79, 80] (by decide +kernel) (by decide +kernel)
set_option maxRecDepth 20000 in
theorem gX3_sensesBy_X1_many_n174 : GoodIn wsX3_sensesBy (wsX1_many) := ggX3_sensesBy_X1_many
set_option maxRecDepth 20000 in
theorem ggX3_sensesBy_X1_told : GoodIn wsX3_sensesBy wsX1_told := goodIn_r _ [19, 7, 8, 79, 80] (by decide +kernel) (by decide +kernel)
set_option maxRecDepth 20000 in
theorem gX3_sensesBy_X1_told_n177 : GoodIn wsX3_sensesBy (wsX1_told) := ggX3_sensesBy_X1_told
set_option maxRecDepth 20000 in
theorem ggX3_sensesBy_X3_play : GoodIn wsX3_sensesBy wsX3_play := goodIn_r _ [23, 2, 24, 25, 26, 27, 28, 29, 30, 31, 32, 33, 34, 10, 35, 36, 37, 38, 39, 40, 41, 9, 11, 42, 43, 44, 45, 46, 47, 48, 49, 50, 51, 52, 53, 54, 55, 56, 57, 58, 59, 60, 61, 62, 63, 64, 65, 66, 67, 68, 69, 70, 71, 72, 73, 74, 81, 82, 83, 84, 75, 76, 77, 78] (by decide +kernel) (by decide +kernel)
set_option maxRecDepth 20000 in
theorem gX3_sensesBy_X3_play : GoodIn wsX3_sensesBy (wsV RX3 145 RX3 yX3_play wsX3_play) := goodIn_app (goodIn_of _ (by decide +kernel)) ggX3_sensesBy_X3_play
theorem dX3_sensesBy_0 : decode cX3_sensesBy 0 = .ok (.aload_n 0, 1) := by decide +kernel
theorem dX3_sensesBy_1 : decode cX3_sensesBy 1 = .ok (.getfield 48, 3) := by decide +kernel
theorem dX3_sensesBy_4 : decode cX3_sensesBy 4 = .ok (.iload_n 1, 1) := by decide +kernel
theorem dX3_sensesBy_5 : decode cX3_sensesBy 5 = .ok (.invokevirtual 152, 3) := by decide +kernel
theorem dX3_sensesBy_8 : decode cX3_sensesBy 8 = .ok (.iconst 0, 1) := by decide +kernel
theorem dX3_sensesBy_9 : decode cX3_sensesBy 9 = .ok (.istore_n 3, 1) := by decide +kernel
theorem dX3_sensesBy_10 : decode cX3_sensesBy 10 = .ok (.iconst 0, 1) := by decide +kernel
theorem dX3_sensesBy_11 : decode cX3_sensesBy 11 = .ok (.istore 4, 2) := by decide +kernel
theorem dX3_sensesBy_13 : decode cX3_sensesBy 13 = .ok (.iload 4, 2) := by decide +kernel
theorem dX3_sensesBy_15 : decode cX3_sensesBy 15 = .ok (.iload_n 2, 1) := by decide +kernel
theorem dX3_sensesBy_16 : decode cX3_sensesBy 16 = .ok (.if_icmp .gt 71, 3) := by decide +kernel
theorem dX3_sensesBy_19 : decode cX3_sensesBy 19 = .ok (.aload_n 0, 1) := by decide +kernel
theorem dX3_sensesBy_20 : decode cX3_sensesBy 20 = .ok (.getfield 48, 3) := by decide +kernel
theorem dX3_sensesBy_23 : decode cX3_sensesBy 23 = .ok (.iload 4, 2) := by decide +kernel
theorem dX3_sensesBy_25 : decode cX3_sensesBy 25 = .ok (.invokevirtual 174, 3) := by decide +kernel
theorem dX3_sensesBy_28 : decode cX3_sensesBy 28 = .ok (.istore 5, 2) := by decide +kernel
theorem dX3_sensesBy_30 : decode cX3_sensesBy 30 = .ok (.iconst 0, 1) := by decide +kernel
theorem dX3_sensesBy_31 : decode cX3_sensesBy 31 = .ok (.istore 6, 2) := by decide +kernel
theorem dX3_sensesBy_33 : decode cX3_sensesBy 33 = .ok (.iload 6, 2) := by decide +kernel
theorem dX3_sensesBy_35 : decode cX3_sensesBy 35 = .ok (.iload 5, 2) := by decide +kernel
theorem dX3_sensesBy_37 : decode cX3_sensesBy 37 = .ok (.if_icmp .ge 44, 3) := by decide +kernel
theorem dX3_sensesBy_40 : decode cX3_sensesBy 40 = .ok (.aload_n 0, 1) := by decide +kernel
theorem dX3_sensesBy_41 : decode cX3_sensesBy 41 = .ok (.iload 4, 2) := by decide +kernel
theorem dX3_sensesBy_43 : decode cX3_sensesBy 43 = .ok (.aload_n 0, 1) := by decide +kernel
theorem dX3_sensesBy_44 : decode cX3_sensesBy 44 = .ok (.getfield 48, 3) := by decide +kernel
theorem dX3_sensesBy_47 : decode cX3_sensesBy 47 = .ok (.iload 6, 2) := by decide +kernel
theorem dX3_sensesBy_49 : decode cX3_sensesBy 49 = .ok (.iload 4, 2) := by decide +kernel
theorem dX3_sensesBy_51 : decode cX3_sensesBy 51 = .ok (.invokevirtual 177, 3) := by decide +kernel
theorem dX3_sensesBy_54 : decode cX3_sensesBy 54 = .ok (.iload_n 1, 1) := by decide +kernel
theorem dX3_sensesBy_55 : decode cX3_sensesBy 55 = .ok (.invokevirtual 145, 3) := by decide +kernel
theorem dX3_sensesBy_58 : decode cX3_sensesBy 58 = .ok (.bipush (-9), 2) := by decide +kernel
theorem dX3_sensesBy_60 : decode cX3_sensesBy 60 = .ok (.if_icmp .ne 15, 3) := by decide +kernel
theorem dX3_sensesBy_63 : decode cX3_sensesBy 63 = .ok (.iload_n 3, 1) := by decide +kernel
theorem dX3_sensesBy_64 : decode cX3_sensesBy 64 = .ok (.iconst 1, 1) := by decide +kernel
theorem dX3_sensesBy_65 : decode cX3_sensesBy 65 = .ok (.aload_n 0, 1) := by decide +kernel
theorem dX3_sensesBy_66 : decode cX3_sensesBy 66 = .ok (.getfield 41, 3) := by decide +kernel
theorem dX3_sensesBy_69 : decode cX3_sensesBy 69 = .ok (.getfield 128, 3) := by decide +kernel
theorem dX3_sensesBy_72 : decode cX3_sensesBy 72 = .ok (.ishl, 1) := by decide +kernel
theorem dX3_sensesBy_73 : decode cX3_sensesBy 73 = .ok (.ior, 1) := by decide +kernel
theorem dX3_sensesBy_74 : decode cX3_sensesBy 74 = .ok (.istore_n 3, 1) := by decide +kernel
theorem dX3_sensesBy_75 : decode cX3_sensesBy 75 = .ok (.iinc 6 1, 3) := by decide +kernel
theorem dX3_sensesBy_78 : decode cX3_sensesBy 78 = .ok (.goto (-45), 3) := by decide +kernel
theorem dX3_sensesBy_81 : decode cX3_sensesBy 81 = .ok (.iinc 4 1, 3) := by decide +kernel
theorem dX3_sensesBy_84 : decode cX3_sensesBy 84 = .ok (.goto (-71), 3) := by decide +kernel
theorem dX3_sensesBy_87 : decode cX3_sensesBy 87 = .ok (.iload_n 3, 1) := by decide +kernel
theorem dX3_sensesBy_88 : decode cX3_sensesBy 88 = .ok (.ireturn, 1) := by decide +kernel
set_option maxRecDepth 20000 in
theorem ggX3_bestFetch_X1_many : GoodIn wsX3_bestFetch wsX1_many := goodIn_r _ [6, 7, 8, 9, 10, 120, 121] (by decide +kernel) (by decide +kernel)
set_option maxRecDepth 20000 in
theorem gX3_bestFetch_X1_many_n174 : GoodIn wsX3_bestFetch (wsX1_many) := ggX3_bestFetch_X1_many
set_option maxRecDepth 20000 in
theorem ggX3_bestFetch_X1_told : GoodIn wsX3_bestFetch wsX1_told := goodIn_r _ [13, 7, 14, 120, 121] (by decide +kernel) (by decide +kernel)
set_option maxRecDepth 20000 in
theorem gX3_bestFetch_X1_told_n177 : GoodIn wsX3_bestFetch (wsX1_told) := ggX3_bestFetch_X1_told
set_option maxRecDepth 20000 in
theorem ggX3_bestFetch_X3_everybody : GoodIn wsX3_bestFetch wsX3_everybody := goodIn_r _ [18, 19, 98, 99, 100, 101, 102, 103, 104, 105, 106, 107, 108, 109, 110, 111, 112, 113, 114, 115] (by decide +kernel) (by decide +kernel)
set_option maxRecDepth 20000 in
theorem gX3_bestFetch_X3_everybody : GoodIn wsX3_bestFetch (wsV RX3 162 RX3 yX3_everybody wsX3_everybody) := goodIn_app (goodIn_of _ (by decide +kernel)) ggX3_bestFetch_X3_everybody
set_option maxRecDepth 20000 in
theorem ggX3_bestFetch_X3_isTold : GoodIn wsX3_bestFetch wsX3_isTold := goodIn_r _ [23, 24, 25, 26, 27, 9, 28, 2, 29, 30, 31, 32, 33, 34, 35, 36, 37, 38, 39, 40, 41, 42, 43, 44, 45, 46, 47, 48, 49, 50, 51, 52, 53, 54, 55, 56, 57, 58, 59, 60, 61, 62, 98, 99, 100, 101, 102, 103, 104, 105, 106, 107, 108, 109, 110, 111, 112, 113, 114, 115, 122, 123, 124, 125, 116, 117, 118, 119] (by decide +kernel) (by decide +kernel)
set_option maxRecDepth 20000 in
theorem gX3_bestFetch_X3_isTold : GoodIn wsX3_bestFetch (wsV RX3 180 RX3 yX3_isTold wsX3_isTold) := goodIn_app (goodIn_of _ (by decide +kernel)) ggX3_bestFetch_X3_isTold
set_option maxRecDepth 20000 in
theorem ggX3_bestFetch_X3_speakersIn : GoodIn wsX3_bestFetch wsX3_speakersIn := goodIn_r _ [65, 37, 38, 9, 39] (by decide +kernel) (by decide +kernel)
set_option maxRecDepth 20000 in
theorem gX3_bestFetch_X3_speakersIn : GoodIn wsX3_bestFetch (va_wsS RX3 184 yX3_speakersIn wsX3_speakersIn) := goodIn_app (goodIn_of _ (by decide +kernel)) ggX3_bestFetch_X3_speakersIn
set_option maxRecDepth 20000 in
theorem ggX3_bestFetch_X3_isCheaper : GoodIn wsX3_bestFetch wsX3_isCheaper := goodIn_r _ [69, 70, 71, 72, 9, 73, 19, 45, 46, 47, 74, 75, 76, 77, 78, 79, 80, 81, 82, 83, 84, 85, 86, 87, 88, 89, 90, 91, 92, 93, 94, 95, 96, 97, 98, 99, 100, 101, 102, 103, 104, 105, 106, 107, 108, 109, 110, 111, 112, 113, 114, 115] (by decide +kernel) (by decide +kernel)
set_option maxRecDepth 20000 in
theorem gX3_bestFetch_X3_isCheaper : GoodIn wsX3_bestFetch (wsV RX3 248 RX3 yX3_isCheaper wsX3_isCheaper) := goodIn_app (goodIn_of _ (by decide +kernel)) ggX3_bestFetch_X3_isCheaper
theorem dX3_bestFetch_0 : decode cX3_bestFetch 0 = .ok (.iload_n 3, 1) := by decide +kernel
theorem dX3_bestFetch_1 : decode cX3_bestFetch 1 = .ok (.istore 4, 2) := by decide +kernel
theorem dX3_bestFetch_3 : decode cX3_bestFetch 3 = .ok (.aload_n 0, 1) := by decide +kernel
theorem dX3_bestFetch_4 : decode cX3_bestFetch 4 = .ok (.getfield 48, 3) := by decide +kernel
theorem dX3_bestFetch_7 : decode cX3_bestFetch 7 = .ok (.iload_n 1, 1) := by decide +kernel
theorem dX3_bestFetch_8 : decode cX3_bestFetch 8 = .ok (.invokevirtual 174, 3) := by decide +kernel
theorem dX3_bestFetch_11 : decode cX3_bestFetch 11 = .ok (.istore 5, 2) := by decide +kernel
theorem dX3_bestFetch_13 : decode cX3_bestFetch 13 = .ok (.iconst 0, 1) := by decide +kernel
theorem dX3_bestFetch_14 : decode cX3_bestFetch 14 = .ok (.istore 6, 2) := by decide +kernel
theorem dX3_bestFetch_16 : decode cX3_bestFetch 16 = .ok (.iload 6, 2) := by decide +kernel
theorem dX3_bestFetch_18 : decode cX3_bestFetch 18 = .ok (.iload 5, 2) := by decide +kernel
theorem dX3_bestFetch_20 : decode cX3_bestFetch 20 = .ok (.if_icmp .ge 76, 3) := by decide +kernel
theorem dX3_bestFetch_23 : decode cX3_bestFetch 23 = .ok (.aload_n 0, 1) := by decide +kernel
theorem dX3_bestFetch_24 : decode cX3_bestFetch 24 = .ok (.getfield 48, 3) := by decide +kernel
theorem dX3_bestFetch_27 : decode cX3_bestFetch 27 = .ok (.iload 6, 2) := by decide +kernel
theorem dX3_bestFetch_29 : decode cX3_bestFetch 29 = .ok (.iload_n 1, 1) := by decide +kernel
theorem dX3_bestFetch_30 : decode cX3_bestFetch 30 = .ok (.invokevirtual 177, 3) := by decide +kernel
theorem dX3_bestFetch_33 : decode cX3_bestFetch 33 = .ok (.istore 7, 2) := by decide +kernel
theorem dX3_bestFetch_35 : decode cX3_bestFetch 35 = .ok (.aload_n 0, 1) := by decide +kernel
theorem dX3_bestFetch_36 : decode cX3_bestFetch 36 = .ok (.iload_n 1, 1) := by decide +kernel
theorem dX3_bestFetch_37 : decode cX3_bestFetch 37 = .ok (.iload 7, 2) := by decide +kernel
theorem dX3_bestFetch_39 : decode cX3_bestFetch 39 = .ok (.aload_n 0, 1) := by decide +kernel
theorem dX3_bestFetch_40 : decode cX3_bestFetch 40 = .ok (.invokevirtual 162, 3) := by decide +kernel
theorem dX3_bestFetch_43 : decode cX3_bestFetch 43 = .ok (.iload_n 2, 1) := by decide +kernel
theorem dX3_bestFetch_44 : decode cX3_bestFetch 44 = .ok (.invokevirtual 180, 3) := by decide +kernel
theorem dX3_bestFetch_47 : decode cX3_bestFetch 47 = .ok (.ifCond .eq 43, 3) := by decide +kernel
theorem dX3_bestFetch_50 : decode cX3_bestFetch 50 = .ok (.iload_n 1, 1) := by decide +kernel
theorem dX3_bestFetch_51 : decode cX3_bestFetch 51 = .ok (.iload 7, 2) := by decide +kernel
theorem dX3_bestFetch_53 : decode cX3_bestFetch 53 = .ok (.invokestatic 184, 3) := by decide +kernel
theorem dX3_bestFetch_56 : decode cX3_bestFetch 56 = .ok (.aload_n 0, 1) := by decide +kernel
theorem dX3_bestFetch_57 : decode cX3_bestFetch 57 = .ok (.getfield 23, 3) := by decide +kernel
theorem dX3_bestFetch_60 : decode cX3_bestFetch 60 = .ok (.getfield 93, 3) := by decide +kernel
theorem dX3_bestFetch_63 : decode cX3_bestFetch 63 = .ok (.iconst (-1), 1) := by decide +kernel
theorem dX3_bestFetch_64 : decode cX3_bestFetch 64 = .ok (.ixor, 1) := by decide +kernel
theorem dX3_bestFetch_65 : decode cX3_bestFetch 65 = .ok (.iand, 1) := by decide +kernel
theorem dX3_bestFetch_66 : decode cX3_bestFetch 66 = .ok (.istore 8, 2) := by decide +kernel
theorem dX3_bestFetch_68 : decode cX3_bestFetch 68 = .ok (.iload 4, 2) := by decide +kernel
theorem dX3_bestFetch_70 : decode cX3_bestFetch 70 = .ok (.bipush (-9), 2) := by decide +kernel
theorem dX3_bestFetch_72 : decode cX3_bestFetch 72 = .ok (.if_icmp .eq 14, 3) := by decide +kernel
theorem dX3_bestFetch_75 : decode cX3_bestFetch 75 = .ok (.aload_n 0, 1) := by decide +kernel
theorem dX3_bestFetch_76 : decode cX3_bestFetch 76 = .ok (.iload 8, 2) := by decide +kernel
theorem dX3_bestFetch_78 : decode cX3_bestFetch 78 = .ok (.iload 4, 2) := by decide +kernel
theorem dX3_bestFetch_80 : decode cX3_bestFetch 80 = .ok (.invokevirtual 248, 3) := by decide +kernel
theorem dX3_bestFetch_83 : decode cX3_bestFetch 83 = .ok (.ifCond .eq 7, 3) := by decide +kernel
theorem dX3_bestFetch_86 : decode cX3_bestFetch 86 = .ok (.iload 8, 2) := by decide +kernel
theorem dX3_bestFetch_88 : decode cX3_bestFetch 88 = .ok (.istore 4, 2) := by decide +kernel
theorem dX3_bestFetch_90 : decode cX3_bestFetch 90 = .ok (.iinc 6 1, 3) := by decide +kernel
theorem dX3_bestFetch_93 : decode cX3_bestFetch 93 = .ok (.goto (-77), 3) := by decide +kernel
theorem dX3_bestFetch_96 : decode cX3_bestFetch 96 = .ok (.iload 4, 2) := by decide +kernel
theorem dX3_bestFetch_98 : decode cX3_bestFetch 98 = .ok (.ireturn, 1) := by decide +kernel
set_option maxRecDepth 20000 in
theorem ggX3_isCheaper_X3_hoursFor : GoodIn wsX3_isCheaper wsX3_hoursFor := goodIn_r _ [5, 6, 7, 8, 4, 9, 10, 11, 12, 13, 14, 15, 16, 17, 18, 19, 20, 21, 22, 23, 34, 35, 36, 37, 38, 39, 40, 41, 42, 43, 44, 45, 46, 47, 48, 49, 50, 51] (by decide +kernel) (by decide +kernel)
set_option maxRecDepth 20000 in
theorem gX3_isCheaper_X3_hoursFor : GoodIn wsX3_isCheaper (wsV RX3 168 RX3 yX3_hoursFor wsX3_hoursFor) := goodIn_app (goodIn_of _ (by decide +kernel)) ggX3_isCheaper_X3_hoursFor
set_option maxRecDepth 20000 in
theorem ggX3_isCheaper_J6_compare_7cf53 : GoodIn wsX3_isCheaper wsJ6_compare_7cf53 := goodIn_r _ [27] (by decide +kernel) (by decide +kernel)
set_option maxRecDepth 20000 in
theorem gX3_isCheaper_J6_compare_7cf53 : GoodIn wsX3_isCheaper (va_wsS RX3 251 yJ6_compare_7cf53 wsJ6_compare_7cf53) := goodIn_app (goodIn_of _ (by decide +kernel)) ggX3_isCheaper_J6_compare_7cf53
set_option maxRecDepth 20000 in
theorem ggX3_isCheaper_J6_bitCount_0f7a4 : GoodIn wsX3_isCheaper wsJ6_bitCount_0f7a4 := goodIn_r _ [30, 31, 32, 33] (by decide +kernel) (by decide +kernel)
set_option maxRecDepth 20000 in
theorem gX3_isCheaper_J6_bitCount_0f7a4 : GoodIn wsX3_isCheaper (va_wsS RX3 119 yJ6_bitCount_0f7a4 wsJ6_bitCount_0f7a4) := goodIn_app (goodIn_of _ (by decide +kernel)) ggX3_isCheaper_J6_bitCount_0f7a4
theorem dX3_isCheaper_0 : decode cX3_isCheaper 0 = .ok (.aload_n 0, 1) := by decide +kernel
theorem dX3_isCheaper_1 : decode cX3_isCheaper 1 = .ok (.iload_n 1, 1) := by decide +kernel
theorem dX3_isCheaper_2 : decode cX3_isCheaper 2 = .ok (.invokevirtual 168, 3) := by decide +kernel
theorem dX3_isCheaper_5 : decode cX3_isCheaper 5 = .ok (.aload_n 0, 1) := by decide +kernel
theorem dX3_isCheaper_6 : decode cX3_isCheaper 6 = .ok (.iload_n 2, 1) := by decide +kernel
theorem dX3_isCheaper_7 : decode cX3_isCheaper 7 = .ok (.invokevirtual 168, 3) := by decide +kernel
theorem dX3_isCheaper_10 : decode cX3_isCheaper 10 = .ok (.invokestatic 251, 3) := by decide +kernel
theorem dX3_isCheaper_13 : decode cX3_isCheaper 13 = .ok (.istore_n 3, 1) := by decide +kernel
theorem dX3_isCheaper_14 : decode cX3_isCheaper 14 = .ok (.iload_n 3, 1) := by decide +kernel
theorem dX3_isCheaper_15 : decode cX3_isCheaper 15 = .ok (.ifCond .eq 13, 3) := by decide +kernel
theorem dX3_isCheaper_18 : decode cX3_isCheaper 18 = .ok (.iload_n 3, 1) := by decide +kernel
theorem dX3_isCheaper_19 : decode cX3_isCheaper 19 = .ok (.ifCond .ge 7, 3) := by decide +kernel
theorem dX3_isCheaper_22 : decode cX3_isCheaper 22 = .ok (.iconst 1, 1) := by decide +kernel
theorem dX3_isCheaper_23 : decode cX3_isCheaper 23 = .ok (.goto 4, 3) := by decide +kernel
theorem dX3_isCheaper_26 : decode cX3_isCheaper 26 = .ok (.iconst 0, 1) := by decide +kernel
theorem dX3_isCheaper_27 : decode cX3_isCheaper 27 = .ok (.ireturn, 1) := by decide +kernel
theorem dX3_isCheaper_28 : decode cX3_isCheaper 28 = .ok (.iload_n 1, 1) := by decide +kernel
theorem dX3_isCheaper_29 : decode cX3_isCheaper 29 = .ok (.invokestatic 119, 3) := by decide +kernel
theorem dX3_isCheaper_32 : decode cX3_isCheaper 32 = .ok (.iload_n 2, 1) := by decide +kernel
theorem dX3_isCheaper_33 : decode cX3_isCheaper 33 = .ok (.invokestatic 119, 3) := by decide +kernel
theorem dX3_isCheaper_36 : decode cX3_isCheaper 36 = .ok (.invokestatic 251, 3) := by decide +kernel
theorem dX3_isCheaper_39 : decode cX3_isCheaper 39 = .ok (.istore 4, 2) := by decide +kernel
theorem dX3_isCheaper_41 : decode cX3_isCheaper 41 = .ok (.iload 4, 2) := by decide +kernel
theorem dX3_isCheaper_43 : decode cX3_isCheaper 43 = .ok (.ifCond .eq 16, 3) := by decide +kernel
theorem dX3_isCheaper_46 : decode cX3_isCheaper 46 = .ok (.iload 4, 2) := by decide +kernel
theorem dX3_isCheaper_48 : decode cX3_isCheaper 48 = .ok (.ifCond .ge 7, 3) := by decide +kernel
theorem dX3_isCheaper_51 : decode cX3_isCheaper 51 = .ok (.iconst 1, 1) := by decide +kernel
theorem dX3_isCheaper_52 : decode cX3_isCheaper 52 = .ok (.goto 17, 3) := by decide +kernel
theorem dX3_isCheaper_55 : decode cX3_isCheaper 55 = .ok (.iconst 0, 1) := by decide +kernel
theorem dX3_isCheaper_56 : decode cX3_isCheaper 56 = .ok (.goto 13, 3) := by decide +kernel
theorem dX3_isCheaper_59 : decode cX3_isCheaper 59 = .ok (.iload_n 1, 1) := by decide +kernel
theorem dX3_isCheaper_60 : decode cX3_isCheaper 60 = .ok (.iload_n 2, 1) := by decide +kernel
theorem dX3_isCheaper_61 : decode cX3_isCheaper 61 = .ok (.if_icmp .ge 7, 3) := by decide +kernel
theorem dX3_isCheaper_64 : decode cX3_isCheaper 64 = .ok (.iconst 1, 1) := by decide +kernel
theorem dX3_isCheaper_65 : decode cX3_isCheaper 65 = .ok (.goto 4, 3) := by decide +kernel
theorem dX3_isCheaper_68 : decode cX3_isCheaper 68 = .ok (.iconst 0, 1) := by decide +kernel
theorem dX3_isCheaper_69 : decode cX3_isCheaper 69 = .ok (.ireturn, 1) := by decide +kernel
set_option maxRecDepth 20000 in
theorem ggX3_gain_X3_sensesBy : GoodIn wsX3_gain wsX3_sensesBy := goodIn_r _ [5, 6, 7, 8, 9, 10, 11, 12, 13, 14, 4, 15, 16, 17, 18, 19, 20, 21, 22, 23, 24, 25, 26, 27, 28, 29, 30, 31, 32, 33, 34, 35, 36, 37, 38, 39, 40, 41, 42, 43, 44, 45, 46, 47, 48, 49, 50, 51, 52, 53, 54, 55, 56, 57, 58, 59, 60, 68, 69, 70, 71, 72, 73, 74, 75, 76, 77, 78, 79, 80, 81, 82, 83, 84, 85, 86, 87, 88, 89, 90, 91, 92, 93, 94, 95] (by decide +kernel) (by decide +kernel)
set_option maxRecDepth 20000 in
theorem gX3_gain_X3_sensesBy : GoodIn wsX3_gain (wsV RX3 159 RX3 yX3_sensesBy wsX3_sensesBy) := goodIn_app (goodIn_of _ (by decide +kernel)) ggX3_gain_X3_sensesBy
set_option maxRecDepth 20000 in
theorem ggX3_gain_J6_bitCount_0f7a4 : GoodIn wsX3_gain wsJ6_bitCount_0f7a4 := goodIn_r _ [64, 65, 66, 67] (by decide +kernel) (by decide +kernel)
set_option maxRecDepth 20000 in
theorem gX3_gain_J6_bitCount_0f7a4 : GoodIn wsX3_gain (va_wsS RX3 119 yJ6_bitCount_0f7a4 wsJ6_bitCount_0f7a4) := goodIn_app (goodIn_of _ (by decide +kernel)) ggX3_gain_J6_bitCount_0f7a4
theorem dX3_gain_0 : decode cX3_gain 0 = .ok (.aload_n 0, 1) := by decide +kernel
theorem dX3_gain_1 : decode cX3_gain 1 = .ok (.iload_n 1, 1) := by decide +kernel
theorem dX3_gain_2 : decode cX3_gain 2 = .ok (.iconst 1, 1) := by decide +kernel
theorem dX3_gain_3 : decode cX3_gain 3 = .ok (.iload_n 2, 1) := by decide +kernel
theorem dX3_gain_4 : decode cX3_gain 4 = .ok (.ishl, 1) := by decide +kernel
theorem dX3_gain_5 : decode cX3_gain 5 = .ok (.ior, 1) := by decide +kernel
theorem dX3_gain_6 : decode cX3_gain 6 = .ok (.iload_n 3, 1) := by decide +kernel
theorem dX3_gain_7 : decode cX3_gain 7 = .ok (.invokevirtual 159, 3) := by decide +kernel
theorem dX3_gain_10 : decode cX3_gain 10 = .ok (.invokestatic 119, 3) := by decide +kernel
theorem dX3_gain_13 : decode cX3_gain 13 = .ok (.istore 4, 2) := by decide +kernel
theorem dX3_gain_15 : decode cX3_gain 15 = .ok (.iload 4, 2) := by decide +kernel
theorem dX3_gain_17 : decode cX3_gain 17 = .ok (.aload_n 0, 1) := by decide +kernel
theorem dX3_gain_18 : decode cX3_gain 18 = .ok (.iload_n 1, 1) := by decide +kernel
theorem dX3_gain_19 : decode cX3_gain 19 = .ok (.iload_n 3, 1) := by decide +kernel
theorem dX3_gain_20 : decode cX3_gain 20 = .ok (.invokevirtual 159, 3) := by decide +kernel
theorem dX3_gain_23 : decode cX3_gain 23 = .ok (.invokestatic 119, 3) := by decide +kernel
theorem dX3_gain_26 : decode cX3_gain 26 = .ok (.isub, 1) := by decide +kernel
theorem dX3_gain_27 : decode cX3_gain 27 = .ok (.ireturn, 1) := by decide +kernel
theorem dX3_orders_0 : decode cX3_orders 0 = .ok (.iload_n 0, 1) := by decide +kernel
theorem dX3_orders_1 : decode cX3_orders 1 = .ok (.ifCond .lt 19, 3) := by decide +kernel
theorem dX3_orders_4 : decode cX3_orders 4 = .ok (.iload_n 0, 1) := by decide +kernel
theorem dX3_orders_5 : decode cX3_orders 5 = .ok (.getstatic 254, 3) := by decide +kernel
theorem dX3_orders_8 : decode cX3_orders 8 = .ok (.arraylength, 1) := by decide +kernel
theorem dX3_orders_9 : decode cX3_orders 9 = .ok (.if_icmp .ge 11, 3) := by decide +kernel
theorem dX3_orders_12 : decode cX3_orders 12 = .ok (.getstatic 254, 3) := by decide +kernel
theorem dX3_orders_15 : decode cX3_orders 15 = .ok (.iload_n 0, 1) := by decide +kernel
theorem dX3_orders_16 : decode cX3_orders 16 = .ok (.iaload, 1) := by decide +kernel
theorem dX3_orders_17 : decode cX3_orders 17 = .ok (.goto 4, 3) := by decide +kernel
theorem dX3_orders_20 : decode cX3_orders 20 = .ok (.iconst 1, 1) := by decide +kernel
theorem dX3_orders_21 : decode cX3_orders 21 = .ok (.ireturn, 1) := by decide +kernel
set_option maxRecDepth 20000 in
theorem ggX3_playOutcomes_X2_become : GoodIn wsX3_playOutcomes wsX2_become := goodIn_r _ [7, 8, 9, 10, 11, 46, 47, 48, 49] (by decide +kernel) (by decide +kernel)
set_option maxRecDepth 20000 in
theorem gX3_playOutcomes_X2_become_n187 : GoodIn wsX3_playOutcomes (wsX2_become) := ggX3_playOutcomes_X2_become
set_option maxRecDepth 20000 in
theorem ggX3_playOutcomes_X3_sentenceOf : GoodIn wsX3_playOutcomes wsX3_sentenceOf := goodIn_r _ [16, 17, 3, 24, 25, 26, 27, 28, 29, 30, 31, 32, 33, 34, 35, 36, 37, 38, 39, 40, 41, 42, 43, 44, 45] (by decide +kernel) (by decide +kernel)
set_option maxRecDepth 20000 in
theorem gX3_playOutcomes_X3_sentenceOf : GoodIn wsX3_playOutcomes (wsV RX3 190 RX3 yX3_sentenceOf wsX3_sentenceOf) := goodIn_app (goodIn_of _ (by decide +kernel)) ggX3_playOutcomes_X3_sentenceOf
set_option maxRecDepth 20000 in
theorem ggX3_playOutcomes_X2_utter : GoodIn wsX3_playOutcomes wsX2_utter := goodIn_r _ [20, 10, 8, 9, 11, 21, 22, 5, 23, 46, 47, 48, 49] (by decide +kernel) (by decide +kernel)
set_option maxRecDepth 20000 in
theorem gX3_playOutcomes_X2_utter_n193 : GoodIn wsX3_playOutcomes (wsX2_utter) := ggX3_playOutcomes_X2_utter
theorem dX3_playOutcomes_0 : decode cX3_playOutcomes 0 = .ok (.iconst 0, 1) := by decide +kernel
theorem dX3_playOutcomes_1 : decode cX3_playOutcomes 1 = .ok (.istore_n 3, 1) := by decide +kernel
theorem dX3_playOutcomes_2 : decode cX3_playOutcomes 2 = .ok (.iload_n 3, 1) := by decide +kernel
theorem dX3_playOutcomes_3 : decode cX3_playOutcomes 3 = .ok (.aload_n 0, 1) := by decide +kernel
theorem dX3_playOutcomes_4 : decode cX3_playOutcomes 4 = .ok (.getfield 55, 3) := by decide +kernel
theorem dX3_playOutcomes_7 : decode cX3_playOutcomes 7 = .ok (.arraylength, 1) := by decide +kernel
theorem dX3_playOutcomes_8 : decode cX3_playOutcomes 8 = .ok (.if_icmp .ge 98, 3) := by decide +kernel
theorem dX3_playOutcomes_11 : decode cX3_playOutcomes 11 = .ok (.aload_n 0, 1) := by decide +kernel
theorem dX3_playOutcomes_12 : decode cX3_playOutcomes 12 = .ok (.getfield 41, 3) := by decide +kernel
theorem dX3_playOutcomes_15 : decode cX3_playOutcomes 15 = .ok (.aload_n 0, 1) := by decide +kernel
theorem dX3_playOutcomes_16 : decode cX3_playOutcomes 16 = .ok (.getfield 23, 3) := by decide +kernel
theorem dX3_playOutcomes_19 : decode cX3_playOutcomes 19 = .ok (.getfield 100, 3) := by decide +kernel
theorem dX3_playOutcomes_22 : decode cX3_playOutcomes 22 = .ok (.invokevirtual 187, 3) := by decide +kernel
theorem dX3_playOutcomes_25 : decode cX3_playOutcomes 25 = .ok (.iconst 0, 1) := by decide +kernel
theorem dX3_playOutcomes_26 : decode cX3_playOutcomes 26 = .ok (.istore 4, 2) := by decide +kernel
theorem dX3_playOutcomes_28 : decode cX3_playOutcomes 28 = .ok (.iload 4, 2) := by decide +kernel
theorem dX3_playOutcomes_30 : decode cX3_playOutcomes 30 = .ok (.iload_n 3, 1) := by decide +kernel
theorem dX3_playOutcomes_31 : decode cX3_playOutcomes 31 = .ok (.iconst 4, 1) := by decide +kernel
theorem dX3_playOutcomes_32 : decode cX3_playOutcomes 32 = .ok (.idiv, 1) := by decide +kernel
theorem dX3_playOutcomes_33 : decode cX3_playOutcomes 33 = .ok (.if_icmp .ge 23, 3) := by decide +kernel
theorem dX3_playOutcomes_36 : decode cX3_playOutcomes 36 = .ok (.aload_n 0, 1) := by decide +kernel
theorem dX3_playOutcomes_37 : decode cX3_playOutcomes 37 = .ok (.getfield 41, 3) := by decide +kernel
theorem dX3_playOutcomes_40 : decode cX3_playOutcomes 40 = .ok (.iload_n 1, 1) := by decide +kernel
theorem dX3_playOutcomes_41 : decode cX3_playOutcomes 41 = .ok (.aload_n 0, 1) := by decide +kernel
theorem dX3_playOutcomes_42 : decode cX3_playOutcomes 42 = .ok (.iload_n 1, 1) := by decide +kernel
theorem dX3_playOutcomes_43 : decode cX3_playOutcomes 43 = .ok (.invokevirtual 190, 3) := by decide +kernel
theorem dX3_playOutcomes_46 : decode cX3_playOutcomes 46 = .ok (.iconst 1, 1) := by decide +kernel
theorem dX3_playOutcomes_47 : decode cX3_playOutcomes 47 = .ok (.invokevirtual 193, 3) := by decide +kernel
theorem dX3_playOutcomes_50 : decode cX3_playOutcomes 50 = .ok (.iinc 4 1, 3) := by decide +kernel
theorem dX3_playOutcomes_53 : decode cX3_playOutcomes 53 = .ok (.goto (-25), 3) := by decide +kernel
theorem dX3_playOutcomes_56 : decode cX3_playOutcomes 56 = .ok (.iconst 0, 1) := by decide +kernel
theorem dX3_playOutcomes_57 : decode cX3_playOutcomes 57 = .ok (.istore 4, 2) := by decide +kernel
theorem dX3_playOutcomes_59 : decode cX3_playOutcomes 59 = .ok (.iload 4, 2) := by decide +kernel
theorem dX3_playOutcomes_61 : decode cX3_playOutcomes 61 = .ok (.iload_n 3, 1) := by decide +kernel
theorem dX3_playOutcomes_62 : decode cX3_playOutcomes 62 = .ok (.iconst 4, 1) := by decide +kernel
theorem dX3_playOutcomes_63 : decode cX3_playOutcomes 63 = .ok (.irem, 1) := by decide +kernel
theorem dX3_playOutcomes_64 : decode cX3_playOutcomes 64 = .ok (.if_icmp .ge 23, 3) := by decide +kernel
theorem dX3_playOutcomes_67 : decode cX3_playOutcomes 67 = .ok (.aload_n 0, 1) := by decide +kernel
theorem dX3_playOutcomes_68 : decode cX3_playOutcomes 68 = .ok (.getfield 41, 3) := by decide +kernel
theorem dX3_playOutcomes_71 : decode cX3_playOutcomes 71 = .ok (.iload_n 2, 1) := by decide +kernel
theorem dX3_playOutcomes_72 : decode cX3_playOutcomes 72 = .ok (.aload_n 0, 1) := by decide +kernel
theorem dX3_playOutcomes_73 : decode cX3_playOutcomes 73 = .ok (.iload_n 2, 1) := by decide +kernel
theorem dX3_playOutcomes_74 : decode cX3_playOutcomes 74 = .ok (.invokevirtual 190, 3) := by decide +kernel
theorem dX3_playOutcomes_77 : decode cX3_playOutcomes 77 = .ok (.iconst 1, 1) := by decide +kernel
theorem dX3_playOutcomes_78 : decode cX3_playOutcomes 78 = .ok (.invokevirtual 193, 3) := by decide +kernel
theorem dX3_playOutcomes_81 : decode cX3_playOutcomes 81 = .ok (.iinc 4 1, 3) := by decide +kernel
theorem dX3_playOutcomes_84 : decode cX3_playOutcomes 84 = .ok (.goto (-25), 3) := by decide +kernel
theorem dX3_playOutcomes_87 : decode cX3_playOutcomes 87 = .ok (.aload_n 0, 1) := by decide +kernel
theorem dX3_playOutcomes_88 : decode cX3_playOutcomes 88 = .ok (.getfield 55, 3) := by decide +kernel
theorem dX3_playOutcomes_91 : decode cX3_playOutcomes 91 = .ok (.iload_n 3, 1) := by decide +kernel
theorem dX3_playOutcomes_92 : decode cX3_playOutcomes 92 = .ok (.aload_n 0, 1) := by decide +kernel
theorem dX3_playOutcomes_93 : decode cX3_playOutcomes 93 = .ok (.getfield 41, 3) := by decide +kernel
theorem dX3_playOutcomes_96 : decode cX3_playOutcomes 96 = .ok (.getfield 128, 3) := by decide +kernel
theorem dX3_playOutcomes_99 : decode cX3_playOutcomes 99 = .ok (.iastore, 1) := by decide +kernel
theorem dX3_playOutcomes_100 : decode cX3_playOutcomes 100 = .ok (.iinc 3 1, 3) := by decide +kernel
theorem dX3_playOutcomes_103 : decode cX3_playOutcomes 103 = .ok (.goto (-101), 3) := by decide +kernel
theorem dX3_playOutcomes_106 : decode cX3_playOutcomes 106 = .ok (.return_, 1) := by decide +kernel
set_option maxRecDepth 20000 in
theorem ggX3_isRest_X3_apart : GoodIn wsX3_isRest wsX3_apart := goodIn_r _ [5, 6, 7, 8, 9, 10, 11, 12, 13, 14, 15, 16, 17, 18, 19, 20, 21, 22, 23, 24, 25, 26, 27, 28] (by decide +kernel) (by decide +kernel)
set_option maxRecDepth 20000 in
theorem gX3_isRest_X3_apart : GoodIn wsX3_isRest (wsV RX3 257 RX3 yX3_apart wsX3_apart) := goodIn_app (goodIn_of _ (by decide +kernel)) ggX3_isRest_X3_apart
theorem dX3_isRest_0 : decode cX3_isRest 0 = .ok (.iconst 0, 1) := by decide +kernel
theorem dX3_isRest_1 : decode cX3_isRest 1 = .ok (.istore 5, 2) := by decide +kernel
theorem dX3_isRest_3 : decode cX3_isRest 3 = .ok (.iload 5, 2) := by decide +kernel
theorem dX3_isRest_5 : decode cX3_isRest 5 = .ok (.iconst 4, 1) := by decide +kernel
theorem dX3_isRest_6 : decode cX3_isRest 6 = .ok (.if_icmp .ge 59, 3) := by decide +kernel
theorem dX3_isRest_9 : decode cX3_isRest 9 = .ok (.aload_n 0, 1) := by decide +kernel
theorem dX3_isRest_10 : decode cX3_isRest 10 = .ok (.iload 5, 2) := by decide +kernel
theorem dX3_isRest_12 : decode cX3_isRest 12 = .ok (.iload_n 2, 1) := by decide +kernel
theorem dX3_isRest_13 : decode cX3_isRest 13 = .ok (.iload_n 3, 1) := by decide +kernel
theorem dX3_isRest_14 : decode cX3_isRest 14 = .ok (.invokevirtual 257, 3) := by decide +kernel
theorem dX3_isRest_17 : decode cX3_isRest 17 = .ok (.iload 5, 2) := by decide +kernel
theorem dX3_isRest_19 : decode cX3_isRest 19 = .ok (.iadd, 1) := by decide +kernel
theorem dX3_isRest_20 : decode cX3_isRest 20 = .ok (.aload_n 0, 1) := by decide +kernel
theorem dX3_isRest_21 : decode cX3_isRest 21 = .ok (.iload_n 1, 1) := by decide +kernel
theorem dX3_isRest_22 : decode cX3_isRest 22 = .ok (.iload_n 2, 1) := by decide +kernel
theorem dX3_isRest_23 : decode cX3_isRest 23 = .ok (.iload_n 3, 1) := by decide +kernel
theorem dX3_isRest_24 : decode cX3_isRest 24 = .ok (.invokevirtual 257, 3) := by decide +kernel
theorem dX3_isRest_27 : decode cX3_isRest 27 = .ok (.iload_n 1, 1) := by decide +kernel
theorem dX3_isRest_28 : decode cX3_isRest 28 = .ok (.iadd, 1) := by decide +kernel
theorem dX3_isRest_29 : decode cX3_isRest 29 = .ok (.if_icmp .lt 28, 3) := by decide +kernel
theorem dX3_isRest_32 : decode cX3_isRest 32 = .ok (.aload_n 0, 1) := by decide +kernel
theorem dX3_isRest_33 : decode cX3_isRest 33 = .ok (.iload_n 1, 1) := by decide +kernel
theorem dX3_isRest_34 : decode cX3_isRest 34 = .ok (.iload 5, 2) := by decide +kernel
theorem dX3_isRest_36 : decode cX3_isRest 36 = .ok (.iload 4, 2) := by decide +kernel
theorem dX3_isRest_38 : decode cX3_isRest 38 = .ok (.invokevirtual 257, 3) := by decide +kernel
theorem dX3_isRest_41 : decode cX3_isRest 41 = .ok (.iload 5, 2) := by decide +kernel
theorem dX3_isRest_43 : decode cX3_isRest 43 = .ok (.iadd, 1) := by decide +kernel
theorem dX3_isRest_44 : decode cX3_isRest 44 = .ok (.aload_n 0, 1) := by decide +kernel
theorem dX3_isRest_45 : decode cX3_isRest 45 = .ok (.iload_n 1, 1) := by decide +kernel
theorem dX3_isRest_46 : decode cX3_isRest 46 = .ok (.iload_n 2, 1) := by decide +kernel
theorem dX3_isRest_47 : decode cX3_isRest 47 = .ok (.iload 4, 2) := by decide +kernel
theorem dX3_isRest_49 : decode cX3_isRest 49 = .ok (.invokevirtual 257, 3) := by decide +kernel
theorem dX3_isRest_52 : decode cX3_isRest 52 = .ok (.iload_n 2, 1) := by decide +kernel
theorem dX3_isRest_53 : decode cX3_isRest 53 = .ok (.iadd, 1) := by decide +kernel
theorem dX3_isRest_54 : decode cX3_isRest 54 = .ok (.if_icmp .ge 5, 3) := by decide +kernel
theorem dX3_isRest_57 : decode cX3_isRest 57 = .ok (.iconst 0, 1) := by decide +kernel
theorem dX3_isRest_58 : decode cX3_isRest 58 = .ok (.ireturn, 1) := by decide +kernel
theorem dX3_isRest_59 : decode cX3_isRest 59 = .ok (.iinc 5 1, 3) := by decide +kernel
theorem dX3_isRest_62 : decode cX3_isRest 62 = .ok (.goto (-59), 3) := by decide +kernel
theorem dX3_isRest_65 : decode cX3_isRest 65 = .ok (.iconst 1, 1) := by decide +kernel
theorem dX3_isRest_66 : decode cX3_isRest 66 = .ok (.ireturn, 1) := by decide +kernel
theorem dX3_apart_0 : decode cX3_apart 0 = .ok (.iload_n 1, 1) := by decide +kernel
theorem dX3_apart_1 : decode cX3_apart 1 = .ok (.iconst 4, 1) := by decide +kernel
theorem dX3_apart_2 : decode cX3_apart 2 = .ok (.imul, 1) := by decide +kernel
theorem dX3_apart_3 : decode cX3_apart 3 = .ok (.iload_n 2, 1) := by decide +kernel
theorem dX3_apart_4 : decode cX3_apart 4 = .ok (.iadd, 1) := by decide +kernel
theorem dX3_apart_5 : decode cX3_apart 5 = .ok (.istore 4, 2) := by decide +kernel
theorem dX3_apart_7 : decode cX3_apart 7 = .ok (.iload 4, 2) := by decide +kernel
theorem dX3_apart_9 : decode cX3_apart 9 = .ok (.ifCond .lt 28, 3) := by decide +kernel
theorem dX3_apart_12 : decode cX3_apart 12 = .ok (.iload 4, 2) := by decide +kernel
theorem dX3_apart_14 : decode cX3_apart 14 = .ok (.aload_n 0, 1) := by decide +kernel
theorem dX3_apart_15 : decode cX3_apart 15 = .ok (.getfield 55, 3) := by decide +kernel
theorem dX3_apart_18 : decode cX3_apart 18 = .ok (.arraylength, 1) := by decide +kernel
theorem dX3_apart_19 : decode cX3_apart 19 = .ok (.if_icmp .ge 18, 3) := by decide +kernel
theorem dX3_apart_22 : decode cX3_apart 22 = .ok (.aload_n 0, 1) := by decide +kernel
theorem dX3_apart_23 : decode cX3_apart 23 = .ok (.getfield 55, 3) := by decide +kernel
theorem dX3_apart_26 : decode cX3_apart 26 = .ok (.iload 4, 2) := by decide +kernel
theorem dX3_apart_28 : decode cX3_apart 28 = .ok (.iaload, 1) := by decide +kernel
theorem dX3_apart_29 : decode cX3_apart 29 = .ok (.iload_n 3, 1) := by decide +kernel
theorem dX3_apart_30 : decode cX3_apart 30 = .ok (.isub, 1) := by decide +kernel
theorem dX3_apart_31 : decode cX3_apart 31 = .ok (.invokestatic 240, 3) := by decide +kernel
theorem dX3_apart_34 : decode cX3_apart 34 = .ok (.goto 4, 3) := by decide +kernel
theorem dX3_apart_37 : decode cX3_apart 37 = .ok (.iconst 0, 1) := by decide +kernel
theorem dX3_apart_38 : decode cX3_apart 38 = .ok (.ireturn, 1) := by decide +kernel
set_option maxRecDepth 20000 in
theorem ggX3_fraction_X3_common : GoodIn wsX3_fraction wsX3_common := goodIn_r _ [4] (by decide +kernel) (by decide +kernel)
set_option maxRecDepth 20000 in
theorem gX3_fraction_X3_common : GoodIn wsX3_fraction (va_wsS RX3 260 yX3_common wsX3_common) := goodIn_app (goodIn_of _ (by decide +kernel)) ggX3_fraction_X3_common
theorem dX3_fraction_0 : decode cX3_fraction 0 = .ok (.iload_n 0, 1) := by decide +kernel
theorem dX3_fraction_1 : decode cX3_fraction 1 = .ok (.iload_n 1, 1) := by decide +kernel
theorem dX3_fraction_2 : decode cX3_fraction 2 = .ok (.invokestatic 260, 3) := by decide +kernel
theorem dX3_fraction_5 : decode cX3_fraction 5 = .ok (.istore_n 3, 1) := by decide +kernel
theorem dX3_fraction_6 : decode cX3_fraction 6 = .ok (.iload_n 3, 1) := by decide +kernel
theorem dX3_fraction_7 : decode cX3_fraction 7 = .ok (.ifCond .gt 13, 3) := by decide +kernel
theorem dX3_fraction_10 : decode cX3_fraction 10 = .ok (.iload_n 2, 1) := by decide +kernel
theorem dX3_fraction_11 : decode cX3_fraction 11 = .ok (.ifCond .eq 7, 3) := by decide +kernel
theorem dX3_fraction_14 : decode cX3_fraction 14 = .ok (.iload_n 0, 1) := by decide +kernel
theorem dX3_fraction_15 : decode cX3_fraction 15 = .ok (.goto 4, 3) := by decide +kernel
theorem dX3_fraction_18 : decode cX3_fraction 18 = .ok (.iload_n 1, 1) := by decide +kernel
theorem dX3_fraction_19 : decode cX3_fraction 19 = .ok (.ireturn, 1) := by decide +kernel
theorem dX3_fraction_20 : decode cX3_fraction 20 = .ok (.iload_n 2, 1) := by decide +kernel
theorem dX3_fraction_21 : decode cX3_fraction 21 = .ok (.ifCond .eq 9, 3) := by decide +kernel
theorem dX3_fraction_24 : decode cX3_fraction 24 = .ok (.iload_n 0, 1) := by decide +kernel
theorem dX3_fraction_25 : decode cX3_fraction 25 = .ok (.iload_n 3, 1) := by decide +kernel
theorem dX3_fraction_26 : decode cX3_fraction 26 = .ok (.idiv, 1) := by decide +kernel
theorem dX3_fraction_27 : decode cX3_fraction 27 = .ok (.goto 6, 3) := by decide +kernel
theorem dX3_fraction_30 : decode cX3_fraction 30 = .ok (.iload_n 1, 1) := by decide +kernel
theorem dX3_fraction_31 : decode cX3_fraction 31 = .ok (.iload_n 3, 1) := by decide +kernel
theorem dX3_fraction_32 : decode cX3_fraction 32 = .ok (.idiv, 1) := by decide +kernel
theorem dX3_fraction_33 : decode cX3_fraction 33 = .ok (.ireturn, 1) := by decide +kernel
theorem dX3_common_0 : decode cX3_common 0 = .ok (.iload_n 0, 1) := by decide +kernel
theorem dX3_common_1 : decode cX3_common 1 = .ok (.istore_n 2, 1) := by decide +kernel
theorem dX3_common_2 : decode cX3_common 2 = .ok (.iload_n 1, 1) := by decide +kernel
theorem dX3_common_3 : decode cX3_common 3 = .ok (.istore_n 3, 1) := by decide +kernel
theorem dX3_common_4 : decode cX3_common 4 = .ok (.iconst 0, 1) := by decide +kernel
theorem dX3_common_5 : decode cX3_common 5 = .ok (.istore 4, 2) := by decide +kernel
theorem dX3_common_7 : decode cX3_common 7 = .ok (.iload 4, 2) := by decide +kernel
theorem dX3_common_9 : decode cX3_common 9 = .ok (.bipush 50, 2) := by decide +kernel
theorem dX3_common_11 : decode cX3_common 11 = .ok (.if_icmp .ge 23, 3) := by decide +kernel
theorem dX3_common_14 : decode cX3_common 14 = .ok (.iload_n 3, 1) := by decide +kernel
theorem dX3_common_15 : decode cX3_common 15 = .ok (.ifCond .eq 19, 3) := by decide +kernel
theorem dX3_common_18 : decode cX3_common 18 = .ok (.iload_n 2, 1) := by decide +kernel
theorem dX3_common_19 : decode cX3_common 19 = .ok (.iload_n 3, 1) := by decide +kernel
theorem dX3_common_20 : decode cX3_common 20 = .ok (.irem, 1) := by decide +kernel
theorem dX3_common_21 : decode cX3_common 21 = .ok (.istore 5, 2) := by decide +kernel
theorem dX3_common_23 : decode cX3_common 23 = .ok (.iload_n 3, 1) := by decide +kernel
theorem dX3_common_24 : decode cX3_common 24 = .ok (.istore_n 2, 1) := by decide +kernel
theorem dX3_common_25 : decode cX3_common 25 = .ok (.iload 5, 2) := by decide +kernel
theorem dX3_common_27 : decode cX3_common 27 = .ok (.istore_n 3, 1) := by decide +kernel
theorem dX3_common_28 : decode cX3_common 28 = .ok (.iinc 4 1, 3) := by decide +kernel
theorem dX3_common_31 : decode cX3_common 31 = .ok (.goto (-24), 3) := by decide +kernel
theorem dX3_common_34 : decode cX3_common 34 = .ok (.iload_n 2, 1) := by decide +kernel
theorem dX3_common_35 : decode cX3_common 35 = .ok (.ireturn, 1) := by decide +kernel
theorem dX3_power_0 : decode cX3_power 0 = .ok (.iconst 1, 1) := by decide +kernel
theorem dX3_power_1 : decode cX3_power 1 = .ok (.istore_n 2, 1) := by decide +kernel
theorem dX3_power_2 : decode cX3_power 2 = .ok (.iconst 0, 1) := by decide +kernel
theorem dX3_power_3 : decode cX3_power 3 = .ok (.istore_n 3, 1) := by decide +kernel
theorem dX3_power_4 : decode cX3_power 4 = .ok (.iload_n 3, 1) := by decide +kernel
theorem dX3_power_5 : decode cX3_power 5 = .ok (.iload_n 1, 1) := by decide +kernel
theorem dX3_power_6 : decode cX3_power 6 = .ok (.if_icmp .ge 13, 3) := by decide +kernel
theorem dX3_power_9 : decode cX3_power 9 = .ok (.iload_n 2, 1) := by decide +kernel
theorem dX3_power_10 : decode cX3_power 10 = .ok (.iload_n 0, 1) := by decide +kernel
theorem dX3_power_11 : decode cX3_power 11 = .ok (.imul, 1) := by decide +kernel
theorem dX3_power_12 : decode cX3_power 12 = .ok (.istore_n 2, 1) := by decide +kernel
theorem dX3_power_13 : decode cX3_power 13 = .ok (.iinc 3 1, 3) := by decide +kernel
theorem dX3_power_16 : decode cX3_power 16 = .ok (.goto (-12), 3) := by decide +kernel
theorem dX3_power_19 : decode cX3_power 19 = .ok (.iload_n 2, 1) := by decide +kernel
theorem dX3_power_20 : decode cX3_power 20 = .ok (.ireturn, 1) := by decide +kernel
theorem dX4_init_0 : decode cX4_init 0 = .ok (.aload_n 0, 1) := by decide +kernel
theorem dX4_init_1 : decode cX4_init 1 = .ok (.invokespecial 1, 3) := by decide +kernel
theorem dX4_init_4 : decode cX4_init 4 = .ok (.aload_n 0, 1) := by decide +kernel
theorem dX4_init_5 : decode cX4_init 5 = .ok (.bipush 6, 2) := by decide +kernel
theorem dX4_init_7 : decode cX4_init 7 = .ok (.newarray .int, 2) := by decide +kernel
theorem dX4_init_9 : decode cX4_init 9 = .ok (.putfield 7, 3) := by decide +kernel
theorem dX4_init_12 : decode cX4_init 12 = .ok (.aload_n 0, 1) := by decide +kernel
theorem dX4_init_13 : decode cX4_init 13 = .ok (.bipush 7, 2) := by decide +kernel
theorem dX4_init_15 : decode cX4_init 15 = .ok (.newarray .int, 2) := by decide +kernel
theorem dX4_init_17 : decode cX4_init 17 = .ok (.putfield 13, 3) := by decide +kernel
theorem dX4_init_20 : decode cX4_init 20 = .ok (.aload_n 0, 1) := by decide +kernel
theorem dX4_init_21 : decode cX4_init 21 = .ok (.bipush 54, 2) := by decide +kernel
theorem dX4_init_23 : decode cX4_init 23 = .ok (.newarray .int, 2) := by decide +kernel
theorem dX4_init_25 : decode cX4_init 25 = .ok (.putfield 16, 3) := by decide +kernel
theorem dX4_init_28 : decode cX4_init 28 = .ok (.aload_n 0, 1) := by decide +kernel
theorem dX4_init_29 : decode cX4_init 29 = .ok (.bipush 24, 2) := by decide +kernel
theorem dX4_init_31 : decode cX4_init 31 = .ok (.newarray .int, 2) := by decide +kernel
theorem dX4_init_33 : decode cX4_init 33 = .ok (.putfield 19, 3) := by decide +kernel
theorem dX4_init_36 : decode cX4_init 36 = .ok (.aload_n 0, 1) := by decide +kernel
theorem dX4_init_37 : decode cX4_init 37 = .ok (.bipush 40, 2) := by decide +kernel
theorem dX4_init_39 : decode cX4_init 39 = .ok (.newarray .int, 2) := by decide +kernel
theorem dX4_init_41 : decode cX4_init 41 = .ok (.putfield 22, 3) := by decide +kernel
theorem dX4_init_44 : decode cX4_init 44 = .ok (.aload_n 0, 1) := by decide +kernel
theorem dX4_init_45 : decode cX4_init 45 = .ok (.sipush 378, 3) := by decide +kernel
theorem dX4_init_48 : decode cX4_init 48 = .ok (.newarray .int, 2) := by decide +kernel
theorem dX4_init_50 : decode cX4_init 50 = .ok (.putfield 25, 3) := by decide +kernel
theorem dX4_init_53 : decode cX4_init 53 = .ok (.aload_n 0, 1) := by decide +kernel
theorem dX4_init_54 : decode cX4_init 54 = .ok (.bipush 10, 2) := by decide +kernel
theorem dX4_init_56 : decode cX4_init 56 = .ok (.newarray .int, 2) := by decide +kernel
theorem dX4_init_58 : decode cX4_init 58 = .ok (.putfield 28, 3) := by decide +kernel
theorem dX4_init_61 : decode cX4_init 61 = .ok (.aload_n 0, 1) := by decide +kernel
theorem dX4_init_62 : decode cX4_init 62 = .ok (.bipush 64, 2) := by decide +kernel
theorem dX4_init_64 : decode cX4_init 64 = .ok (.newarray .int, 2) := by decide +kernel
theorem dX4_init_66 : decode cX4_init 66 = .ok (.putfield 31, 3) := by decide +kernel
theorem dX4_init_69 : decode cX4_init 69 = .ok (.aload_n 0, 1) := by decide +kernel
theorem dX4_init_70 : decode cX4_init 70 = .ok (.bipush 16, 2) := by decide +kernel
theorem dX4_init_72 : decode cX4_init 72 = .ok (.newarray .int, 2) := by decide +kernel
theorem dX4_init_74 : decode cX4_init 74 = .ok (.putfield 34, 3) := by decide +kernel
theorem dX4_init_77 : decode cX4_init 77 = .ok (.aload_n 0, 1) := by decide +kernel
theorem dX4_init_78 : decode cX4_init 78 = .ok (.iconst 2, 1) := by decide +kernel
theorem dX4_init_79 : decode cX4_init 79 = .ok (.newarray .boolean, 2) := by decide +kernel
theorem dX4_init_81 : decode cX4_init 81 = .ok (.putfield 37, 3) := by decide +kernel
theorem dX4_init_84 : decode cX4_init 84 = .ok (.aload_n 0, 1) := by decide +kernel
theorem dX4_init_85 : decode cX4_init 85 = .ok (.bipush 54, 2) := by decide +kernel
theorem dX4_init_87 : decode cX4_init 87 = .ok (.newarray .int, 2) := by decide +kernel
theorem dX4_init_89 : decode cX4_init 89 = .ok (.putfield 41, 3) := by decide +kernel
theorem dX4_init_92 : decode cX4_init 92 = .ok (.aload_n 0, 1) := by decide +kernel
theorem dX4_init_93 : decode cX4_init 93 = .ok (.getfield 16, 3) := by decide +kernel
theorem dX4_init_96 : decode cX4_init 96 = .ok (.bipush 23, 2) := by decide +kernel
theorem dX4_init_98 : decode cX4_init 98 = .ok (.bipush (-9), 2) := by decide +kernel
theorem dX4_init_100 : decode cX4_init 100 = .ok (.iastore, 1) := by decide +kernel
theorem dX4_init_101 : decode cX4_init 101 = .ok (.aload_n 0, 1) := by decide +kernel
theorem dX4_init_102 : decode cX4_init 102 = .ok (.getfield 16, 3) := by decide +kernel
theorem dX4_init_105 : decode cX4_init 105 = .ok (.bipush 24, 2) := by decide +kernel
theorem dX4_init_107 : decode cX4_init 107 = .ok (.bipush (-9), 2) := by decide +kernel
theorem dX4_init_109 : decode cX4_init 109 = .ok (.iastore, 1) := by decide +kernel
theorem dX4_init_110 : decode cX4_init 110 = .ok (.return_, 1) := by decide +kernel
theorem dX4_in_0 : decode cX4_in 0 = .ok (.lload_n 0, 1) := by decide +kernel
theorem dX4_in_1 : decode cX4_in 1 = .ok (.lload_n 2, 1) := by decide +kernel
theorem dX4_in_2 : decode cX4_in 2 = .ok (.lcmp, 1) := by decide +kernel
theorem dX4_in_3 : decode cX4_in 3 = .ok (.ifCond .lt 14, 3) := by decide +kernel
theorem dX4_in_6 : decode cX4_in 6 = .ok (.lload_n 0, 1) := by decide +kernel
theorem dX4_in_7 : decode cX4_in 7 = .ok (.lload 4, 2) := by decide +kernel
theorem dX4_in_9 : decode cX4_in 9 = .ok (.lcmp, 1) := by decide +kernel
theorem dX4_in_10 : decode cX4_in 10 = .ok (.ifCond .gt 7, 3) := by decide +kernel
theorem dX4_in_13 : decode cX4_in 13 = .ok (.iconst 1, 1) := by decide +kernel
theorem dX4_in_14 : decode cX4_in 14 = .ok (.goto 4, 3) := by decide +kernel
theorem dX4_in_17 : decode cX4_in 17 = .ok (.iconst 0, 1) := by decide +kernel
theorem dX4_in_18 : decode cX4_in 18 = .ok (.ireturn, 1) := by decide +kernel
theorem dX4_has_0 : decode cX4_has 0 = .ok (.iload_n 0, 1) := by decide +kernel
theorem dX4_has_1 : decode cX4_has 1 = .ok (.iload_n 1, 1) := by decide +kernel
theorem dX4_has_2 : decode cX4_has 2 = .ok (.ishr, 1) := by decide +kernel
theorem dX4_has_3 : decode cX4_has 3 = .ok (.iconst 1, 1) := by decide +kernel
theorem dX4_has_4 : decode cX4_has 4 = .ok (.iand, 1) := by decide +kernel
theorem dX4_has_5 : decode cX4_has 5 = .ok (.iconst 1, 1) := by decide +kernel
theorem dX4_has_6 : decode cX4_has 6 = .ok (.if_icmp .ne 7, 3) := by decide +kernel
theorem dX4_has_9 : decode cX4_has 9 = .ok (.iconst 1, 1) := by decide +kernel
theorem dX4_has_10 : decode cX4_has 10 = .ok (.goto 4, 3) := by decide +kernel
theorem dX4_has_13 : decode cX4_has 13 = .ok (.iconst 0, 1) := by decide +kernel
theorem dX4_has_14 : decode cX4_has 14 = .ok (.ireturn, 1) := by decide +kernel
theorem dX4_ones_0 : decode cX4_ones 0 = .ok (.iconst 0, 1) := by decide +kernel
theorem dX4_ones_1 : decode cX4_ones 1 = .ok (.istore_n 1, 1) := by decide +kernel
theorem dX4_ones_2 : decode cX4_ones 2 = .ok (.iconst 0, 1) := by decide +kernel
theorem dX4_ones_3 : decode cX4_ones 3 = .ok (.istore_n 2, 1) := by decide +kernel
theorem dX4_ones_4 : decode cX4_ones 4 = .ok (.iload_n 2, 1) := by decide +kernel
theorem dX4_ones_5 : decode cX4_ones 5 = .ok (.bipush 10, 2) := by decide +kernel
theorem dX4_ones_7 : decode cX4_ones 7 = .ok (.if_icmp .ge 17, 3) := by decide +kernel
theorem dX4_ones_10 : decode cX4_ones 10 = .ok (.iload_n 1, 1) := by decide +kernel
theorem dX4_ones_11 : decode cX4_ones 11 = .ok (.iload_n 0, 1) := by decide +kernel
theorem dX4_ones_12 : decode cX4_ones 12 = .ok (.iload_n 2, 1) := by decide +kernel
theorem dX4_ones_13 : decode cX4_ones 13 = .ok (.ishr, 1) := by decide +kernel
theorem dX4_ones_14 : decode cX4_ones 14 = .ok (.iconst 1, 1) := by decide +kernel
theorem dX4_ones_15 : decode cX4_ones 15 = .ok (.iand, 1) := by decide +kernel
theorem dX4_ones_16 : decode cX4_ones 16 = .ok (.iadd, 1) := by decide +kernel
theorem dX4_ones_17 : decode cX4_ones 17 = .ok (.istore_n 1, 1) := by decide +kernel
theorem dX4_ones_18 : decode cX4_ones 18 = .ok (.iinc 2 1, 3) := by decide +kernel
theorem dX4_ones_21 : decode cX4_ones 21 = .ok (.goto (-17), 3) := by decide +kernel
theorem dX4_ones_24 : decode cX4_ones 24 = .ok (.iload_n 1, 1) := by decide +kernel
theorem dX4_ones_25 : decode cX4_ones 25 = .ok (.ireturn, 1) := by decide +kernel
set_option maxRecDepth 20000 in
theorem ggX4_write_X4_in : GoodIn wsX4_write wsX4_in := goodIn_r _ [7] (by decide +kernel) (by decide +kernel)
set_option maxRecDepth 20000 in
theorem gX4_write_X4_in : GoodIn wsX4_write (va_wsS RX4 46 yX4_in wsX4_in) := goodIn_app (goodIn_of _ (by decide +kernel)) ggX4_write_X4_in
theorem dX4_write_0 : decode cX4_write 0 = .ok (.iload_n 1, 1) := by decide +kernel
theorem dX4_write_1 : decode cX4_write 1 = .ok (.i2l, 1) := by decide +kernel
theorem dX4_write_2 : decode cX4_write 2 = .ok (.lconst 0, 1) := by decide +kernel
theorem dX4_write_3 : decode cX4_write 3 = .ok (.ldc2_w 44, 3) := by decide +kernel
theorem dX4_write_6 : decode cX4_write 6 = .ok (.invokestatic 46, 3) := by decide +kernel
theorem dX4_write_9 : decode cX4_write 9 = .ok (.ifCond .ne 6, 3) := by decide +kernel
theorem dX4_write_12 : decode cX4_write 12 = .ok (.bipush (-2), 2) := by decide +kernel
theorem dX4_write_14 : decode cX4_write 14 = .ok (.ireturn, 1) := by decide +kernel
theorem dX4_write_15 : decode cX4_write 15 = .ok (.aload_n 0, 1) := by decide +kernel
theorem dX4_write_16 : decode cX4_write 16 = .ok (.getfield 50, 3) := by decide +kernel
theorem dX4_write_19 : decode cX4_write 19 = .ok (.bipush 40, 2) := by decide +kernel
theorem dX4_write_21 : decode cX4_write 21 = .ok (.if_icmp .ne 6, 3) := by decide +kernel
theorem dX4_write_24 : decode cX4_write 24 = .ok (.bipush (-4), 2) := by decide +kernel
theorem dX4_write_26 : decode cX4_write 26 = .ok (.ireturn, 1) := by decide +kernel
theorem dX4_write_27 : decode cX4_write 27 = .ok (.aload_n 0, 1) := by decide +kernel
theorem dX4_write_28 : decode cX4_write 28 = .ok (.getfield 22, 3) := by decide +kernel
theorem dX4_write_31 : decode cX4_write 31 = .ok (.aload_n 0, 1) := by decide +kernel
theorem dX4_write_32 : decode cX4_write 32 = .ok (.getfield 50, 3) := by decide +kernel
theorem dX4_write_35 : decode cX4_write 35 = .ok (.iload_n 1, 1) := by decide +kernel
theorem dX4_write_36 : decode cX4_write 36 = .ok (.iastore, 1) := by decide +kernel
theorem dX4_write_37 : decode cX4_write 37 = .ok (.aload_n 0, 1) := by decide +kernel
theorem dX4_write_38 : decode cX4_write 38 = .ok (.dup, 1) := by decide +kernel
theorem dX4_write_39 : decode cX4_write 39 = .ok (.getfield 50, 3) := by decide +kernel
theorem dX4_write_42 : decode cX4_write 42 = .ok (.iconst 1, 1) := by decide +kernel
theorem dX4_write_43 : decode cX4_write 43 = .ok (.iadd, 1) := by decide +kernel
theorem dX4_write_44 : decode cX4_write 44 = .ok (.putfield 50, 3) := by decide +kernel
theorem dX4_write_47 : decode cX4_write 47 = .ok (.aload_n 0, 1) := by decide +kernel
theorem dX4_write_48 : decode cX4_write 48 = .ok (.getfield 50, 3) := by decide +kernel
theorem dX4_write_51 : decode cX4_write 51 = .ok (.ireturn, 1) := by decide +kernel
theorem dX4_wipe_0 : decode cX4_wipe 0 = .ok (.aload_n 0, 1) := by decide +kernel
theorem dX4_wipe_1 : decode cX4_wipe 1 = .ok (.getfield 50, 3) := by decide +kernel
theorem dX4_wipe_4 : decode cX4_wipe 4 = .ok (.istore_n 1, 1) := by decide +kernel
theorem dX4_wipe_5 : decode cX4_wipe 5 = .ok (.aload_n 0, 1) := by decide +kernel
theorem dX4_wipe_6 : decode cX4_wipe 6 = .ok (.iconst 0, 1) := by decide +kernel
theorem dX4_wipe_7 : decode cX4_wipe 7 = .ok (.putfield 50, 3) := by decide +kernel
theorem dX4_wipe_10 : decode cX4_wipe 10 = .ok (.iload_n 1, 1) := by decide +kernel
theorem dX4_wipe_11 : decode cX4_wipe 11 = .ok (.ireturn, 1) := by decide +kernel
set_option maxRecDepth 20000 in
theorem ggX4_figure_X4_in : GoodIn wsX4_figure wsX4_in := goodIn_r _ [8] (by decide +kernel) (by decide +kernel)
set_option maxRecDepth 20000 in
theorem gX4_figure_X4_in : GoodIn wsX4_figure (va_wsS RX4 46 yX4_in wsX4_in) := goodIn_app (goodIn_of _ (by decide +kernel)) ggX4_figure_X4_in
theorem dX4_figure_0 : decode cX4_figure 0 = .ok (.aload_n 0, 1) := by decide +kernel
theorem dX4_figure_1 : decode cX4_figure 1 = .ok (.getfield 54, 3) := by decide +kernel
theorem dX4_figure_4 : decode cX4_figure 4 = .ok (.bipush (-9), 2) := by decide +kernel
theorem dX4_figure_6 : decode cX4_figure 6 = .ok (.if_icmp .ne 29, 3) := by decide +kernel
theorem dX4_figure_9 : decode cX4_figure 9 = .ok (.aload_n 0, 1) := by decide +kernel
theorem dX4_figure_10 : decode cX4_figure 10 = .ok (.getfield 57, 3) := by decide +kernel
theorem dX4_figure_13 : decode cX4_figure 13 = .ok (.aload_n 0, 1) := by decide +kernel
theorem dX4_figure_14 : decode cX4_figure 14 = .ok (.getfield 50, 3) := by decide +kernel
theorem dX4_figure_17 : decode cX4_figure 17 = .ok (.if_icmp .ge 18, 3) := by decide +kernel
theorem dX4_figure_20 : decode cX4_figure 20 = .ok (.aload_n 0, 1) := by decide +kernel
theorem dX4_figure_21 : decode cX4_figure 21 = .ok (.getfield 22, 3) := by decide +kernel
theorem dX4_figure_24 : decode cX4_figure 24 = .ok (.aload_n 0, 1) := by decide +kernel
theorem dX4_figure_25 : decode cX4_figure 25 = .ok (.getfield 57, 3) := by decide +kernel
theorem dX4_figure_28 : decode cX4_figure 28 = .ok (.iaload, 1) := by decide +kernel
theorem dX4_figure_29 : decode cX4_figure 29 = .ok (.bipush 48, 2) := by decide +kernel
theorem dX4_figure_31 : decode cX4_figure 31 = .ok (.isub, 1) := by decide +kernel
theorem dX4_figure_32 : decode cX4_figure 32 = .ok (.goto 5, 3) := by decide +kernel
theorem dX4_figure_35 : decode cX4_figure 35 = .ok (.bipush (-9), 2) := by decide +kernel
theorem dX4_figure_37 : decode cX4_figure 37 = .ok (.istore_n 2, 1) := by decide +kernel
theorem dX4_figure_38 : decode cX4_figure 38 = .ok (.iload_n 2, 1) := by decide +kernel
theorem dX4_figure_39 : decode cX4_figure 39 = .ok (.i2l, 1) := by decide +kernel
theorem dX4_figure_40 : decode cX4_figure 40 = .ok (.lconst 0, 1) := by decide +kernel
theorem dX4_figure_41 : decode cX4_figure 41 = .ok (.iload_n 1, 1) := by decide +kernel
theorem dX4_figure_42 : decode cX4_figure 42 = .ok (.i2l, 1) := by decide +kernel
theorem dX4_figure_43 : decode cX4_figure 43 = .ok (.invokestatic 46, 3) := by decide +kernel
theorem dX4_figure_46 : decode cX4_figure 46 = .ok (.ifCond .ne 29, 3) := by decide +kernel
theorem dX4_figure_49 : decode cX4_figure 49 = .ok (.aload_n 0, 1) := by decide +kernel
theorem dX4_figure_50 : decode cX4_figure 50 = .ok (.aload_n 0, 1) := by decide +kernel
theorem dX4_figure_51 : decode cX4_figure 51 = .ok (.getfield 54, 3) := by decide +kernel
theorem dX4_figure_54 : decode cX4_figure 54 = .ok (.bipush (-9), 2) := by decide +kernel
theorem dX4_figure_56 : decode cX4_figure 56 = .ok (.if_icmp .ne 10, 3) := by decide +kernel
theorem dX4_figure_59 : decode cX4_figure 59 = .ok (.aload_n 0, 1) := by decide +kernel
theorem dX4_figure_60 : decode cX4_figure 60 = .ok (.getfield 57, 3) := by decide +kernel
theorem dX4_figure_63 : decode cX4_figure 63 = .ok (.goto 7, 3) := by decide +kernel
theorem dX4_figure_66 : decode cX4_figure 66 = .ok (.aload_n 0, 1) := by decide +kernel
theorem dX4_figure_67 : decode cX4_figure 67 = .ok (.getfield 54, 3) := by decide +kernel
theorem dX4_figure_70 : decode cX4_figure 70 = .ok (.putfield 54, 3) := by decide +kernel
theorem dX4_figure_73 : decode cX4_figure 73 = .ok (.iconst 0, 1) := by decide +kernel
theorem dX4_figure_74 : decode cX4_figure 74 = .ok (.ireturn, 1) := by decide +kernel
theorem dX4_figure_75 : decode cX4_figure 75 = .ok (.aload_n 0, 1) := by decide +kernel
theorem dX4_figure_76 : decode cX4_figure 76 = .ok (.dup, 1) := by decide +kernel
theorem dX4_figure_77 : decode cX4_figure 77 = .ok (.getfield 57, 3) := by decide +kernel
theorem dX4_figure_80 : decode cX4_figure 80 = .ok (.iconst 1, 1) := by decide +kernel
theorem dX4_figure_81 : decode cX4_figure 81 = .ok (.iadd, 1) := by decide +kernel
theorem dX4_figure_82 : decode cX4_figure 82 = .ok (.putfield 57, 3) := by decide +kernel
theorem dX4_figure_85 : decode cX4_figure 85 = .ok (.iload_n 2, 1) := by decide +kernel
theorem dX4_figure_86 : decode cX4_figure 86 = .ok (.ireturn, 1) := by decide +kernel
set_option maxRecDepth 20000 in
theorem ggX4_readText_X4_figure : GoodIn wsX4_readText wsX4_figure := goodIn_r _ [12, 2, 1, 4, 5, 13, 14, 11, 15, 16, 17, 18, 19, 20, 21, 22, 23, 24, 25, 26, 27, 28, 29, 30, 31, 32, 33, 34, 35, 36, 37, 38, 39] (by decide +kernel) (by decide +kernel)
set_option maxRecDepth 20000 in
theorem gX4_readText_X4_figure : GoodIn wsX4_readText (wsV RX4 63 RX4 yX4_figure wsX4_figure) := goodIn_app (goodIn_of _ (by decide +kernel)) ggX4_readText_X4_figure
theorem dX4_readText_0 : decode cX4_readText 0 = .ok (.aload_n 0, 1) := by decide +kernel
theorem dX4_readText_1 : decode cX4_readText 1 = .ok (.iconst 0, 1) := by decide +kernel
theorem dX4_readText_2 : decode cX4_readText 2 = .ok (.putfield 57, 3) := by decide +kernel
theorem dX4_readText_5 : decode cX4_readText 5 = .ok (.aload_n 0, 1) := by decide +kernel
theorem dX4_readText_6 : decode cX4_readText 6 = .ok (.bipush (-9), 2) := by decide +kernel
theorem dX4_readText_8 : decode cX4_readText 8 = .ok (.putfield 54, 3) := by decide +kernel
theorem dX4_readText_11 : decode cX4_readText 11 = .ok (.aload_n 0, 1) := by decide +kernel
theorem dX4_readText_12 : decode cX4_readText 12 = .ok (.iconst 0, 1) := by decide +kernel
theorem dX4_readText_13 : decode cX4_readText 13 = .ok (.putfield 60, 3) := by decide +kernel
theorem dX4_readText_16 : decode cX4_readText 16 = .ok (.aload_n 0, 1) := by decide +kernel
theorem dX4_readText_17 : decode cX4_readText 17 = .ok (.getfield 50, 3) := by decide +kernel
theorem dX4_readText_20 : decode cX4_readText 20 = .ok (.ifCond .eq 14, 3) := by decide +kernel
theorem dX4_readText_23 : decode cX4_readText 23 = .ok (.aload_n 0, 1) := by decide +kernel
theorem dX4_readText_24 : decode cX4_readText 24 = .ok (.getfield 22, 3) := by decide +kernel
theorem dX4_readText_27 : decode cX4_readText 27 = .ok (.iconst 0, 1) := by decide +kernel
theorem dX4_readText_28 : decode cX4_readText 28 = .ok (.iaload, 1) := by decide +kernel
theorem dX4_readText_29 : decode cX4_readText 29 = .ok (.bipush 73, 2) := by decide +kernel
theorem dX4_readText_31 : decode cX4_readText 31 = .ok (.if_icmp .eq 5, 3) := by decide +kernel
theorem dX4_readText_34 : decode cX4_readText 34 = .ok (.iconst 0, 1) := by decide +kernel
theorem dX4_readText_35 : decode cX4_readText 35 = .ok (.ireturn, 1) := by decide +kernel
theorem dX4_readText_36 : decode cX4_readText 36 = .ok (.aload_n 0, 1) := by decide +kernel
theorem dX4_readText_37 : decode cX4_readText 37 = .ok (.iconst 1, 1) := by decide +kernel
theorem dX4_readText_38 : decode cX4_readText 38 = .ok (.putfield 57, 3) := by decide +kernel
theorem dX4_readText_41 : decode cX4_readText 41 = .ok (.aload_n 0, 1) := by decide +kernel
theorem dX4_readText_42 : decode cX4_readText 42 = .ok (.aload_n 0, 1) := by decide +kernel
theorem dX4_readText_43 : decode cX4_readText 43 = .ok (.bipush 9, 2) := by decide +kernel
theorem dX4_readText_45 : decode cX4_readText 45 = .ok (.invokevirtual 63, 3) := by decide +kernel
theorem dX4_readText_48 : decode cX4_readText 48 = .ok (.putfield 67, 3) := by decide +kernel
theorem dX4_readText_51 : decode cX4_readText 51 = .ok (.aload_n 0, 1) := by decide +kernel
theorem dX4_readText_52 : decode cX4_readText 52 = .ok (.getfield 54, 3) := by decide +kernel
theorem dX4_readText_55 : decode cX4_readText 55 = .ok (.bipush (-9), 2) := by decide +kernel
theorem dX4_readText_57 : decode cX4_readText 57 = .ok (.if_icmp .ne 143, 3) := by decide +kernel
theorem dX4_readText_60 : decode cX4_readText 60 = .ok (.aload_n 0, 1) := by decide +kernel
theorem dX4_readText_61 : decode cX4_readText 61 = .ok (.getfield 57, 3) := by decide +kernel
theorem dX4_readText_64 : decode cX4_readText 64 = .ok (.aload_n 0, 1) := by decide +kernel
theorem dX4_readText_65 : decode cX4_readText 65 = .ok (.getfield 50, 3) := by decide +kernel
theorem dX4_readText_68 : decode cX4_readText 68 = .ok (.if_icmp .ge 132, 3) := by decide +kernel
theorem dX4_readText_71 : decode cX4_readText 71 = .ok (.aload_n 0, 1) := by decide +kernel
theorem dX4_readText_72 : decode cX4_readText 72 = .ok (.getfield 22, 3) := by decide +kernel
theorem dX4_readText_75 : decode cX4_readText 75 = .ok (.aload_n 0, 1) := by decide +kernel
theorem dX4_readText_76 : decode cX4_readText 76 = .ok (.getfield 57, 3) := by decide +kernel
theorem dX4_readText_79 : decode cX4_readText 79 = .ok (.iaload, 1) := by decide +kernel
theorem dX4_readText_80 : decode cX4_readText 80 = .ok (.bipush 80, 2) := by decide +kernel
theorem dX4_readText_82 : decode cX4_readText 82 = .ok (.if_icmp .ne 107, 3) := by decide +kernel
theorem dX4_readText_85 : decode cX4_readText 85 = .ok (.aload_n 0, 1) := by decide +kernel
theorem dX4_readText_86 : decode cX4_readText 86 = .ok (.getfield 60, 3) := by decide +kernel
theorem dX4_readText_89 : decode cX4_readText 89 = .ok (.bipush 6, 2) := by decide +kernel
theorem dX4_readText_91 : decode cX4_readText 91 = .ok (.if_icmp .ge 98, 3) := by decide +kernel
theorem dX4_readText_94 : decode cX4_readText 94 = .ok (.aload_n 0, 1) := by decide +kernel
theorem dX4_readText_95 : decode cX4_readText 95 = .ok (.dup, 1) := by decide +kernel
theorem dX4_readText_96 : decode cX4_readText 96 = .ok (.getfield 57, 3) := by decide +kernel
theorem dX4_readText_99 : decode cX4_readText 99 = .ok (.iconst 1, 1) := by decide +kernel
theorem dX4_readText_100 : decode cX4_readText 100 = .ok (.iadd, 1) := by decide +kernel
theorem dX4_readText_101 : decode cX4_readText 101 = .ok (.putfield 57, 3) := by decide +kernel
theorem dX4_readText_104 : decode cX4_readText 104 = .ok (.aload_n 0, 1) := by decide +kernel
theorem dX4_readText_105 : decode cX4_readText 105 = .ok (.getfield 19, 3) := by decide +kernel
theorem dX4_readText_108 : decode cX4_readText 108 = .ok (.iconst 4, 1) := by decide +kernel
theorem dX4_readText_109 : decode cX4_readText 109 = .ok (.aload_n 0, 1) := by decide +kernel
theorem dX4_readText_110 : decode cX4_readText 110 = .ok (.getfield 60, 3) := by decide +kernel
theorem dX4_readText_113 : decode cX4_readText 113 = .ok (.imul, 1) := by decide +kernel
theorem dX4_readText_114 : decode cX4_readText 114 = .ok (.aload_n 0, 1) := by decide +kernel
theorem dX4_readText_115 : decode cX4_readText 115 = .ok (.bipush 9, 2) := by decide +kernel
theorem dX4_readText_117 : decode cX4_readText 117 = .ok (.invokevirtual 63, 3) := by decide +kernel
theorem dX4_readText_120 : decode cX4_readText 120 = .ok (.iastore, 1) := by decide +kernel
theorem dX4_readText_121 : decode cX4_readText 121 = .ok (.aload_n 0, 1) := by decide +kernel
theorem dX4_readText_122 : decode cX4_readText 122 = .ok (.getfield 19, 3) := by decide +kernel
theorem dX4_readText_125 : decode cX4_readText 125 = .ok (.iconst 4, 1) := by decide +kernel
theorem dX4_readText_126 : decode cX4_readText 126 = .ok (.aload_n 0, 1) := by decide +kernel
theorem dX4_readText_127 : decode cX4_readText 127 = .ok (.getfield 60, 3) := by decide +kernel
theorem dX4_readText_130 : decode cX4_readText 130 = .ok (.imul, 1) := by decide +kernel
theorem dX4_readText_131 : decode cX4_readText 131 = .ok (.iconst 1, 1) := by decide +kernel
theorem dX4_readText_132 : decode cX4_readText 132 = .ok (.iadd, 1) := by decide +kernel
theorem dX4_readText_133 : decode cX4_readText 133 = .ok (.aload_n 0, 1) := by decide +kernel
theorem dX4_readText_134 : decode cX4_readText 134 = .ok (.iconst 3, 1) := by decide +kernel
theorem dX4_readText_135 : decode cX4_readText 135 = .ok (.invokevirtual 63, 3) := by decide +kernel
theorem dX4_readText_138 : decode cX4_readText 138 = .ok (.iastore, 1) := by decide +kernel
theorem dX4_readText_139 : decode cX4_readText 139 = .ok (.aload_n 0, 1) := by decide +kernel
theorem dX4_readText_140 : decode cX4_readText 140 = .ok (.getfield 19, 3) := by decide +kernel
theorem dX4_readText_143 : decode cX4_readText 143 = .ok (.iconst 4, 1) := by decide +kernel
theorem dX4_readText_144 : decode cX4_readText 144 = .ok (.aload_n 0, 1) := by decide +kernel
theorem dX4_readText_145 : decode cX4_readText 145 = .ok (.getfield 60, 3) := by decide +kernel
theorem dX4_readText_148 : decode cX4_readText 148 = .ok (.imul, 1) := by decide +kernel
theorem dX4_readText_149 : decode cX4_readText 149 = .ok (.iconst 2, 1) := by decide +kernel
theorem dX4_readText_150 : decode cX4_readText 150 = .ok (.iadd, 1) := by decide +kernel
theorem dX4_readText_151 : decode cX4_readText 151 = .ok (.aload_n 0, 1) := by decide +kernel
theorem dX4_readText_152 : decode cX4_readText 152 = .ok (.bipush 9, 2) := by decide +kernel
theorem dX4_readText_154 : decode cX4_readText 154 = .ok (.invokevirtual 63, 3) := by decide +kernel
theorem dX4_readText_157 : decode cX4_readText 157 = .ok (.iastore, 1) := by decide +kernel
theorem dX4_readText_158 : decode cX4_readText 158 = .ok (.aload_n 0, 1) := by decide +kernel
theorem dX4_readText_159 : decode cX4_readText 159 = .ok (.getfield 19, 3) := by decide +kernel
theorem dX4_readText_162 : decode cX4_readText 162 = .ok (.iconst 4, 1) := by decide +kernel
theorem dX4_readText_163 : decode cX4_readText 163 = .ok (.aload_n 0, 1) := by decide +kernel
theorem dX4_readText_164 : decode cX4_readText 164 = .ok (.getfield 60, 3) := by decide +kernel
theorem dX4_readText_167 : decode cX4_readText 167 = .ok (.imul, 1) := by decide +kernel
theorem dX4_readText_168 : decode cX4_readText 168 = .ok (.iconst 3, 1) := by decide +kernel
theorem dX4_readText_169 : decode cX4_readText 169 = .ok (.iadd, 1) := by decide +kernel
theorem dX4_readText_170 : decode cX4_readText 170 = .ok (.aload_n 0, 1) := by decide +kernel
theorem dX4_readText_171 : decode cX4_readText 171 = .ok (.iconst 3, 1) := by decide +kernel
theorem dX4_readText_172 : decode cX4_readText 172 = .ok (.invokevirtual 63, 3) := by decide +kernel
theorem dX4_readText_175 : decode cX4_readText 175 = .ok (.iastore, 1) := by decide +kernel
theorem dX4_readText_176 : decode cX4_readText 176 = .ok (.aload_n 0, 1) := by decide +kernel
theorem dX4_readText_177 : decode cX4_readText 177 = .ok (.dup, 1) := by decide +kernel
theorem dX4_readText_178 : decode cX4_readText 178 = .ok (.getfield 60, 3) := by decide +kernel
theorem dX4_readText_181 : decode cX4_readText 181 = .ok (.iconst 1, 1) := by decide +kernel
theorem dX4_readText_182 : decode cX4_readText 182 = .ok (.iadd, 1) := by decide +kernel
theorem dX4_readText_183 : decode cX4_readText 183 = .ok (.putfield 60, 3) := by decide +kernel
theorem dX4_readText_186 : decode cX4_readText 186 = .ok (.goto (-135), 3) := by decide +kernel
theorem dX4_readText_189 : decode cX4_readText 189 = .ok (.aload_n 0, 1) := by decide +kernel
theorem dX4_readText_190 : decode cX4_readText 190 = .ok (.aload_n 0, 1) := by decide +kernel
theorem dX4_readText_191 : decode cX4_readText 191 = .ok (.getfield 57, 3) := by decide +kernel
theorem dX4_readText_194 : decode cX4_readText 194 = .ok (.putfield 54, 3) := by decide +kernel
theorem dX4_readText_197 : decode cX4_readText 197 = .ok (.goto (-146), 3) := by decide +kernel
theorem dX4_readText_200 : decode cX4_readText 200 = .ok (.aload_n 0, 1) := by decide +kernel
theorem dX4_readText_201 : decode cX4_readText 201 = .ok (.getfield 54, 3) := by decide +kernel
theorem dX4_readText_204 : decode cX4_readText 204 = .ok (.ireturn, 1) := by decide +kernel
set_option maxRecDepth 20000 in
theorem ggX4_fault_X4_readText : GoodIn wsX4_fault wsX4_readText := goodIn_r _ [5, 6, 7, 8, 9, 10, 11, 12, 13, 14, 15, 4, 16, 17, 18, 19, 20, 21, 22, 23, 24, 25, 26, 27, 28, 29, 30, 31, 32, 33, 34, 35, 36, 37, 38, 39, 40, 41, 42, 43] (by decide +kernel) (by decide +kernel)
set_option maxRecDepth 20000 in
theorem gX4_fault_X4_readText : GoodIn wsX4_fault (wsV RX4 70 RX4 yX4_readText wsX4_readText) := goodIn_app (goodIn_of _ (by decide +kernel)) ggX4_fault_X4_readText
theorem dX4_fault_0 : decode cX4_fault 0 = .ok (.aload_n 0, 1) := by decide +kernel
theorem dX4_fault_1 : decode cX4_fault 1 = .ok (.invokevirtual 70, 3) := by decide +kernel
theorem dX4_fault_4 : decode cX4_fault 4 = .ok (.ireturn, 1) := by decide +kernel
set_option maxRecDepth 20000 in
theorem ggX4_island_X4_readText : GoodIn wsX4_island wsX4_readText := goodIn_r _ [15, 16, 17, 1, 18, 19, 3, 7, 20, 21, 22, 14, 23, 24, 25, 26, 27, 28, 29, 30, 31, 32, 33, 34, 35, 36, 37, 38, 39, 40, 41, 42, 43, 44, 45, 46, 47, 48, 49, 50] (by decide +kernel) (by decide +kernel)
set_option maxRecDepth 20000 in
theorem gX4_island_X4_readText : GoodIn wsX4_island (wsV RX4 70 RX4 yX4_readText wsX4_readText) := goodIn_app (goodIn_of _ (by decide +kernel)) ggX4_island_X4_readText
theorem dX4_island_0 : decode cX4_island 0 = .ok (.aload_n 0, 1) := by decide +kernel
theorem dX4_island_1 : decode cX4_island 1 = .ok (.invokevirtual 70, 3) := by decide +kernel
theorem dX4_island_4 : decode cX4_island 4 = .ok (.bipush (-9), 2) := by decide +kernel
theorem dX4_island_6 : decode cX4_island 6 = .ok (.if_icmp .eq 6, 3) := by decide +kernel
theorem dX4_island_9 : decode cX4_island 9 = .ok (.bipush (-3), 2) := by decide +kernel
theorem dX4_island_11 : decode cX4_island 11 = .ok (.ireturn, 1) := by decide +kernel
theorem dX4_island_12 : decode cX4_island 12 = .ok (.aload_n 0, 1) := by decide +kernel
theorem dX4_island_13 : decode cX4_island 13 = .ok (.aload_n 0, 1) := by decide +kernel
theorem dX4_island_14 : decode cX4_island 14 = .ok (.getfield 60, 3) := by decide +kernel
theorem dX4_island_17 : decode cX4_island 17 = .ok (.putfield 74, 3) := by decide +kernel
theorem dX4_island_20 : decode cX4_island 20 = .ok (.aload_n 0, 1) := by decide +kernel
theorem dX4_island_21 : decode cX4_island 21 = .ok (.aload_n 0, 1) := by decide +kernel
theorem dX4_island_22 : decode cX4_island 22 = .ok (.getfield 67, 3) := by decide +kernel
theorem dX4_island_25 : decode cX4_island 25 = .ok (.putfield 77, 3) := by decide +kernel
theorem dX4_island_28 : decode cX4_island 28 = .ok (.iconst 0, 1) := by decide +kernel
theorem dX4_island_29 : decode cX4_island 29 = .ok (.istore_n 1, 1) := by decide +kernel
theorem dX4_island_30 : decode cX4_island 30 = .ok (.iload_n 1, 1) := by decide +kernel
theorem dX4_island_31 : decode cX4_island 31 = .ok (.bipush 27, 2) := by decide +kernel
theorem dX4_island_33 : decode cX4_island 33 = .ok (.if_icmp .ge 16, 3) := by decide +kernel
theorem dX4_island_36 : decode cX4_island 36 = .ok (.aload_n 0, 1) := by decide +kernel
theorem dX4_island_37 : decode cX4_island 37 = .ok (.getfield 16, 3) := by decide +kernel
theorem dX4_island_40 : decode cX4_island 40 = .ok (.iload_n 1, 1) := by decide +kernel
theorem dX4_island_41 : decode cX4_island 41 = .ok (.iconst 0, 1) := by decide +kernel
theorem dX4_island_42 : decode cX4_island 42 = .ok (.iastore, 1) := by decide +kernel
theorem dX4_island_43 : decode cX4_island 43 = .ok (.iinc 1 1, 3) := by decide +kernel
theorem dX4_island_46 : decode cX4_island 46 = .ok (.goto (-16), 3) := by decide +kernel
theorem dX4_island_49 : decode cX4_island 49 = .ok (.aload_n 0, 1) := by decide +kernel
theorem dX4_island_50 : decode cX4_island 50 = .ok (.getfield 16, 3) := by decide +kernel
theorem dX4_island_53 : decode cX4_island 53 = .ok (.bipush 23, 2) := by decide +kernel
theorem dX4_island_55 : decode cX4_island 55 = .ok (.bipush (-9), 2) := by decide +kernel
theorem dX4_island_57 : decode cX4_island 57 = .ok (.iastore, 1) := by decide +kernel
theorem dX4_island_58 : decode cX4_island 58 = .ok (.aload_n 0, 1) := by decide +kernel
theorem dX4_island_59 : decode cX4_island 59 = .ok (.getfield 16, 3) := by decide +kernel
theorem dX4_island_62 : decode cX4_island 62 = .ok (.bipush 24, 2) := by decide +kernel
theorem dX4_island_64 : decode cX4_island 64 = .ok (.bipush (-9), 2) := by decide +kernel
theorem dX4_island_66 : decode cX4_island 66 = .ok (.iastore, 1) := by decide +kernel
theorem dX4_island_67 : decode cX4_island 67 = .ok (.iconst 0, 1) := by decide +kernel
theorem dX4_island_68 : decode cX4_island 68 = .ok (.istore_n 1, 1) := by decide +kernel
theorem dX4_island_69 : decode cX4_island 69 = .ok (.iload_n 1, 1) := by decide +kernel
theorem dX4_island_70 : decode cX4_island 70 = .ok (.aload_n 0, 1) := by decide +kernel
theorem dX4_island_71 : decode cX4_island 71 = .ok (.getfield 74, 3) := by decide +kernel
theorem dX4_island_74 : decode cX4_island 74 = .ok (.if_icmp .ge 105, 3) := by decide +kernel
theorem dX4_island_77 : decode cX4_island 77 = .ok (.aload_n 0, 1) := by decide +kernel
theorem dX4_island_78 : decode cX4_island 78 = .ok (.getfield 7, 3) := by decide +kernel
theorem dX4_island_81 : decode cX4_island 81 = .ok (.iload_n 1, 1) := by decide +kernel
theorem dX4_island_82 : decode cX4_island 82 = .ok (.aload_n 0, 1) := by decide +kernel
theorem dX4_island_83 : decode cX4_island 83 = .ok (.getfield 19, 3) := by decide +kernel
theorem dX4_island_86 : decode cX4_island 86 = .ok (.iconst 4, 1) := by decide +kernel
theorem dX4_island_87 : decode cX4_island 87 = .ok (.iload_n 1, 1) := by decide +kernel
theorem dX4_island_88 : decode cX4_island 88 = .ok (.imul, 1) := by decide +kernel
theorem dX4_island_89 : decode cX4_island 89 = .ok (.iaload, 1) := by decide +kernel
theorem dX4_island_90 : decode cX4_island 90 = .ok (.iastore, 1) := by decide +kernel
theorem dX4_island_91 : decode cX4_island 91 = .ok (.aload_n 0, 1) := by decide +kernel
theorem dX4_island_92 : decode cX4_island 92 = .ok (.getfield 16, 3) := by decide +kernel
theorem dX4_island_95 : decode cX4_island 95 = .ok (.iconst 1, 1) := by decide +kernel
theorem dX4_island_96 : decode cX4_island 96 = .ok (.iload_n 1, 1) := by decide +kernel
theorem dX4_island_97 : decode cX4_island 97 = .ok (.iadd, 1) := by decide +kernel
theorem dX4_island_98 : decode cX4_island 98 = .ok (.aload_n 0, 1) := by decide +kernel
theorem dX4_island_99 : decode cX4_island 99 = .ok (.getfield 19, 3) := by decide +kernel
theorem dX4_island_102 : decode cX4_island 102 = .ok (.iconst 4, 1) := by decide +kernel
theorem dX4_island_103 : decode cX4_island 103 = .ok (.iload_n 1, 1) := by decide +kernel
theorem dX4_island_104 : decode cX4_island 104 = .ok (.imul, 1) := by decide +kernel
theorem dX4_island_105 : decode cX4_island 105 = .ok (.iconst 1, 1) := by decide +kernel
theorem dX4_island_106 : decode cX4_island 106 = .ok (.iadd, 1) := by decide +kernel
theorem dX4_island_107 : decode cX4_island 107 = .ok (.iaload, 1) := by decide +kernel
theorem dX4_island_108 : decode cX4_island 108 = .ok (.iastore, 1) := by decide +kernel
theorem dX4_island_109 : decode cX4_island 109 = .ok (.aload_n 0, 1) := by decide +kernel
theorem dX4_island_110 : decode cX4_island 110 = .ok (.getfield 16, 3) := by decide +kernel
theorem dX4_island_113 : decode cX4_island 113 = .ok (.bipush 8, 2) := by decide +kernel
theorem dX4_island_115 : decode cX4_island 115 = .ok (.iload_n 1, 1) := by decide +kernel
theorem dX4_island_116 : decode cX4_island 116 = .ok (.iadd, 1) := by decide +kernel
theorem dX4_island_117 : decode cX4_island 117 = .ok (.aload_n 0, 1) := by decide +kernel
theorem dX4_island_118 : decode cX4_island 118 = .ok (.getfield 19, 3) := by decide +kernel
theorem dX4_island_121 : decode cX4_island 121 = .ok (.iconst 4, 1) := by decide +kernel
theorem dX4_island_122 : decode cX4_island 122 = .ok (.iload_n 1, 1) := by decide +kernel
theorem dX4_island_123 : decode cX4_island 123 = .ok (.imul, 1) := by decide +kernel
theorem dX4_island_124 : decode cX4_island 124 = .ok (.iconst 2, 1) := by decide +kernel
theorem dX4_island_125 : decode cX4_island 125 = .ok (.iadd, 1) := by decide +kernel
theorem dX4_island_126 : decode cX4_island 126 = .ok (.iaload, 1) := by decide +kernel
theorem dX4_island_127 : decode cX4_island 127 = .ok (.iastore, 1) := by decide +kernel
theorem dX4_island_128 : decode cX4_island 128 = .ok (.aload_n 0, 1) := by decide +kernel
theorem dX4_island_129 : decode cX4_island 129 = .ok (.getfield 13, 3) := by decide +kernel
theorem dX4_island_132 : decode cX4_island 132 = .ok (.iload_n 1, 1) := by decide +kernel
theorem dX4_island_133 : decode cX4_island 133 = .ok (.aload_n 0, 1) := by decide +kernel
theorem dX4_island_134 : decode cX4_island 134 = .ok (.getfield 19, 3) := by decide +kernel
theorem dX4_island_137 : decode cX4_island 137 = .ok (.iconst 4, 1) := by decide +kernel
theorem dX4_island_138 : decode cX4_island 138 = .ok (.iload_n 1, 1) := by decide +kernel
theorem dX4_island_139 : decode cX4_island 139 = .ok (.imul, 1) := by decide +kernel
theorem dX4_island_140 : decode cX4_island 140 = .ok (.iconst 3, 1) := by decide +kernel
theorem dX4_island_141 : decode cX4_island 141 = .ok (.iadd, 1) := by decide +kernel
theorem dX4_island_142 : decode cX4_island 142 = .ok (.iaload, 1) := by decide +kernel
theorem dX4_island_143 : decode cX4_island 143 = .ok (.iastore, 1) := by decide +kernel
theorem dX4_island_144 : decode cX4_island 144 = .ok (.aload_n 0, 1) := by decide +kernel
theorem dX4_island_145 : decode cX4_island 145 = .ok (.getfield 16, 3) := by decide +kernel
theorem dX4_island_148 : decode cX4_island 148 = .ok (.iconst 0, 1) := by decide +kernel
theorem dX4_island_149 : decode cX4_island 149 = .ok (.dup2, 1) := by decide +kernel
theorem dX4_island_150 : decode cX4_island 150 = .ok (.iaload, 1) := by decide +kernel
theorem dX4_island_151 : decode cX4_island 151 = .ok (.aload_n 0, 1) := by decide +kernel
theorem dX4_island_152 : decode cX4_island 152 = .ok (.getfield 7, 3) := by decide +kernel
theorem dX4_island_155 : decode cX4_island 155 = .ok (.iload_n 1, 1) := by decide +kernel
theorem dX4_island_156 : decode cX4_island 156 = .ok (.iaload, 1) := by decide +kernel
theorem dX4_island_157 : decode cX4_island 157 = .ok (.aload_n 0, 1) := by decide +kernel
theorem dX4_island_158 : decode cX4_island 158 = .ok (.getfield 77, 3) := by decide +kernel
theorem dX4_island_161 : decode cX4_island 161 = .ok (.if_icmp .ne 9, 3) := by decide +kernel
theorem dX4_island_164 : decode cX4_island 164 = .ok (.iconst 1, 1) := by decide +kernel
theorem dX4_island_165 : decode cX4_island 165 = .ok (.iload_n 1, 1) := by decide +kernel
theorem dX4_island_166 : decode cX4_island 166 = .ok (.ishl, 1) := by decide +kernel
theorem dX4_island_167 : decode cX4_island 167 = .ok (.goto 4, 3) := by decide +kernel
theorem dX4_island_170 : decode cX4_island 170 = .ok (.iconst 0, 1) := by decide +kernel
theorem dX4_island_171 : decode cX4_island 171 = .ok (.ior, 1) := by decide +kernel
theorem dX4_island_172 : decode cX4_island 172 = .ok (.iastore, 1) := by decide +kernel
theorem dX4_island_173 : decode cX4_island 173 = .ok (.iinc 1 1, 3) := by decide +kernel
theorem dX4_island_176 : decode cX4_island 176 = .ok (.goto (-107), 3) := by decide +kernel
theorem dX4_island_179 : decode cX4_island 179 = .ok (.aload_n 0, 1) := by decide +kernel
theorem dX4_island_180 : decode cX4_island 180 = .ok (.iconst 0, 1) := by decide +kernel
theorem dX4_island_181 : decode cX4_island 181 = .ok (.putfield 80, 3) := by decide +kernel
theorem dX4_island_184 : decode cX4_island 184 = .ok (.aload_n 0, 1) := by decide +kernel
theorem dX4_island_185 : decode cX4_island 185 = .ok (.getfield 37, 3) := by decide +kernel
theorem dX4_island_188 : decode cX4_island 188 = .ok (.iconst 0, 1) := by decide +kernel
theorem dX4_island_189 : decode cX4_island 189 = .ok (.iconst 0, 1) := by decide +kernel
theorem dX4_island_190 : decode cX4_island 190 = .ok (.bastore, 1) := by decide +kernel
theorem dX4_island_191 : decode cX4_island 191 = .ok (.aload_n 0, 1) := by decide +kernel
theorem dX4_island_192 : decode cX4_island 192 = .ok (.getfield 37, 3) := by decide +kernel
theorem dX4_island_195 : decode cX4_island 195 = .ok (.iconst 1, 1) := by decide +kernel
theorem dX4_island_196 : decode cX4_island 196 = .ok (.iconst 0, 1) := by decide +kernel
theorem dX4_island_197 : decode cX4_island 197 = .ok (.bastore, 1) := by decide +kernel
theorem dX4_island_198 : decode cX4_island 198 = .ok (.aload_n 0, 1) := by decide +kernel
theorem dX4_island_199 : decode cX4_island 199 = .ok (.getfield 74, 3) := by decide +kernel
theorem dX4_island_202 : decode cX4_island 202 = .ok (.ireturn, 1) := by decide +kernel
set_option maxRecDepth 20000 in
theorem ggX4_isPerson_X4_in : GoodIn wsX4_isPerson wsX4_in := goodIn_r _ [5] (by decide +kernel) (by decide +kernel)
set_option maxRecDepth 20000 in
theorem gX4_isPerson_X4_in : GoodIn wsX4_isPerson (va_wsS RX4 46 yX4_in wsX4_in) := goodIn_app (goodIn_of _ (by decide +kernel)) ggX4_isPerson_X4_in
theorem dX4_isPerson_0 : decode cX4_isPerson 0 = .ok (.iload_n 1, 1) := by decide +kernel
theorem dX4_isPerson_1 : decode cX4_isPerson 1 = .ok (.i2l, 1) := by decide +kernel
theorem dX4_isPerson_2 : decode cX4_isPerson 2 = .ok (.lconst 0, 1) := by decide +kernel
theorem dX4_isPerson_3 : decode cX4_isPerson 3 = .ok (.aload_n 0, 1) := by decide +kernel
theorem dX4_isPerson_4 : decode cX4_isPerson 4 = .ok (.getfield 74, 3) := by decide +kernel
theorem dX4_isPerson_7 : decode cX4_isPerson 7 = .ok (.iconst 1, 1) := by decide +kernel
theorem dX4_isPerson_8 : decode cX4_isPerson 8 = .ok (.isub, 1) := by decide +kernel
theorem dX4_isPerson_9 : decode cX4_isPerson 9 = .ok (.i2l, 1) := by decide +kernel
theorem dX4_isPerson_10 : decode cX4_isPerson 10 = .ok (.invokestatic 46, 3) := by decide +kernel
theorem dX4_isPerson_13 : decode cX4_isPerson 13 = .ok (.ireturn, 1) := by decide +kernel
set_option maxRecDepth 20000 in
theorem ggX4_may_X4_has : GoodIn wsX4_may wsX4_has := goodIn_r _ [6] (by decide +kernel) (by decide +kernel)
set_option maxRecDepth 20000 in
theorem gX4_may_X4_has : GoodIn wsX4_may (va_wsS RX4 83 yX4_has wsX4_has) := goodIn_app (goodIn_of _ (by decide +kernel)) ggX4_may_X4_has
theorem dX4_may_0 : decode cX4_may 0 = .ok (.bipush 27, 2) := by decide +kernel
theorem dX4_may_2 : decode cX4_may 2 = .ok (.iload_n 1, 1) := by decide +kernel
theorem dX4_may_3 : decode cX4_may 3 = .ok (.imul, 1) := by decide +kernel
theorem dX4_may_4 : decode cX4_may 4 = .ok (.istore_n 3, 1) := by decide +kernel
theorem dX4_may_5 : decode cX4_may 5 = .ok (.aload_n 0, 1) := by decide +kernel
theorem dX4_may_6 : decode cX4_may 6 = .ok (.getfield 16, 3) := by decide +kernel
theorem dX4_may_9 : decode cX4_may 9 = .ok (.iload_n 3, 1) := by decide +kernel
theorem dX4_may_10 : decode cX4_may 10 = .ok (.iaload, 1) := by decide +kernel
theorem dX4_may_11 : decode cX4_may 11 = .ok (.iload_n 2, 1) := by decide +kernel
theorem dX4_may_12 : decode cX4_may 12 = .ok (.invokestatic 83, 3) := by decide +kernel
theorem dX4_may_15 : decode cX4_may 15 = .ok (.ifCond .ne 5, 3) := by decide +kernel
theorem dX4_may_18 : decode cX4_may 18 = .ok (.iconst 0, 1) := by decide +kernel
theorem dX4_may_19 : decode cX4_may 19 = .ok (.ireturn, 1) := by decide +kernel
theorem dX4_may_20 : decode cX4_may 20 = .ok (.aload_n 0, 1) := by decide +kernel
theorem dX4_may_21 : decode cX4_may 21 = .ok (.getfield 16, 3) := by decide +kernel
theorem dX4_may_24 : decode cX4_may 24 = .ok (.iload_n 3, 1) := by decide +kernel
theorem dX4_may_25 : decode cX4_may 25 = .ok (.bipush 23, 2) := by decide +kernel
theorem dX4_may_27 : decode cX4_may 27 = .ok (.iadd, 1) := by decide +kernel
theorem dX4_may_28 : decode cX4_may 28 = .ok (.iaload, 1) := by decide +kernel
theorem dX4_may_29 : decode cX4_may 29 = .ok (.bipush (-9), 2) := by decide +kernel
theorem dX4_may_31 : decode cX4_may 31 = .ok (.if_icmp .eq 20, 3) := by decide +kernel
theorem dX4_may_34 : decode cX4_may 34 = .ok (.aload_n 0, 1) := by decide +kernel
theorem dX4_may_35 : decode cX4_may 35 = .ok (.getfield 16, 3) := by decide +kernel
theorem dX4_may_38 : decode cX4_may 38 = .ok (.iload_n 3, 1) := by decide +kernel
theorem dX4_may_39 : decode cX4_may 39 = .ok (.bipush 23, 2) := by decide +kernel
theorem dX4_may_41 : decode cX4_may 41 = .ok (.iadd, 1) := by decide +kernel
theorem dX4_may_42 : decode cX4_may 42 = .ok (.iaload, 1) := by decide +kernel
theorem dX4_may_43 : decode cX4_may 43 = .ok (.iload_n 2, 1) := by decide +kernel
theorem dX4_may_44 : decode cX4_may 44 = .ok (.if_icmp .eq 7, 3) := by decide +kernel
theorem dX4_may_47 : decode cX4_may 47 = .ok (.iconst 1, 1) := by decide +kernel
theorem dX4_may_48 : decode cX4_may 48 = .ok (.goto 4, 3) := by decide +kernel
theorem dX4_may_51 : decode cX4_may 51 = .ok (.iconst 0, 1) := by decide +kernel
theorem dX4_may_52 : decode cX4_may 52 = .ok (.istore 4, 2) := by decide +kernel
theorem dX4_may_54 : decode cX4_may 54 = .ok (.aload_n 0, 1) := by decide +kernel
theorem dX4_may_55 : decode cX4_may 55 = .ok (.getfield 13, 3) := by decide +kernel
theorem dX4_may_58 : decode cX4_may 58 = .ok (.iload_n 2, 1) := by decide +kernel
theorem dX4_may_59 : decode cX4_may 59 = .ok (.iaload, 1) := by decide +kernel
theorem dX4_may_60 : decode cX4_may 60 = .ok (.iconst 1, 1) := by decide +kernel
theorem dX4_may_61 : decode cX4_may 61 = .ok (.if_icmp .ne 8, 3) := by decide +kernel
theorem dX4_may_64 : decode cX4_may 64 = .ok (.iload 4, 2) := by decide +kernel
theorem dX4_may_66 : decode cX4_may 66 = .ok (.goto 32, 3) := by decide +kernel
theorem dX4_may_69 : decode cX4_may 69 = .ok (.aload_n 0, 1) := by decide +kernel
theorem dX4_may_70 : decode cX4_may 70 = .ok (.getfield 13, 3) := by decide +kernel
theorem dX4_may_73 : decode cX4_may 73 = .ok (.iload_n 2, 1) := by decide +kernel
theorem dX4_may_74 : decode cX4_may 74 = .ok (.iaload, 1) := by decide +kernel
theorem dX4_may_75 : decode cX4_may 75 = .ok (.iconst 3, 1) := by decide +kernel
theorem dX4_may_76 : decode cX4_may 76 = .ok (.if_icmp .ne 17, 3) := by decide +kernel
theorem dX4_may_79 : decode cX4_may 79 = .ok (.aload_n 0, 1) := by decide +kernel
theorem dX4_may_80 : decode cX4_may 80 = .ok (.getfield 16, 3) := by decide +kernel
theorem dX4_may_83 : decode cX4_may 83 = .ok (.iload_n 3, 1) := by decide +kernel
theorem dX4_may_84 : decode cX4_may 84 = .ok (.bipush 15, 2) := by decide +kernel
theorem dX4_may_86 : decode cX4_may 86 = .ok (.iadd, 1) := by decide +kernel
theorem dX4_may_87 : decode cX4_may 87 = .ok (.iload_n 2, 1) := by decide +kernel
theorem dX4_may_88 : decode cX4_may 88 = .ok (.iadd, 1) := by decide +kernel
theorem dX4_may_89 : decode cX4_may 89 = .ok (.iaload, 1) := by decide +kernel
theorem dX4_may_90 : decode cX4_may 90 = .ok (.ifCond .ne 7, 3) := by decide +kernel
theorem dX4_may_93 : decode cX4_may 93 = .ok (.iconst 1, 1) := by decide +kernel
theorem dX4_may_94 : decode cX4_may 94 = .ok (.goto 4, 3) := by decide +kernel
theorem dX4_may_97 : decode cX4_may 97 = .ok (.iconst 0, 1) := by decide +kernel
theorem dX4_may_98 : decode cX4_may 98 = .ok (.ireturn, 1) := by decide +kernel
theorem dX4_made_0 : decode cX4_made 0 = .ok (.iload_n 1, 1) := by decide +kernel
theorem dX4_made_1 : decode cX4_made 1 = .ok (.ifCond .ne 7, 3) := by decide +kernel
theorem dX4_made_4 : decode cX4_made 4 = .ok (.iload_n 2, 1) := by decide +kernel
theorem dX4_made_5 : decode cX4_made 5 = .ok (.goto 30, 3) := by decide +kernel
theorem dX4_made_8 : decode cX4_made 8 = .ok (.iload_n 1, 1) := by decide +kernel
theorem dX4_made_9 : decode cX4_made 9 = .ok (.iconst 1, 1) := by decide +kernel
theorem dX4_made_10 : decode cX4_made 10 = .ok (.if_icmp .ne 12, 3) := by decide +kernel
theorem dX4_made_13 : decode cX4_made 13 = .ok (.iload_n 0, 1) := by decide +kernel
theorem dX4_made_14 : decode cX4_made 14 = .ok (.iload_n 2, 1) := by decide +kernel
theorem dX4_made_15 : decode cX4_made 15 = .ok (.iadd, 1) := by decide +kernel
theorem dX4_made_16 : decode cX4_made 16 = .ok (.bipush 10, 2) := by decide +kernel
theorem dX4_made_18 : decode cX4_made 18 = .ok (.irem, 1) := by decide +kernel
theorem dX4_made_19 : decode cX4_made 19 = .ok (.goto 16, 3) := by decide +kernel
theorem dX4_made_22 : decode cX4_made 22 = .ok (.iload_n 1, 1) := by decide +kernel
theorem dX4_made_23 : decode cX4_made 23 = .ok (.iconst 2, 1) := by decide +kernel
theorem dX4_made_24 : decode cX4_made 24 = .ok (.if_icmp .ne 10, 3) := by decide +kernel
theorem dX4_made_27 : decode cX4_made 27 = .ok (.bipush 9, 2) := by decide +kernel
theorem dX4_made_29 : decode cX4_made 29 = .ok (.iload_n 0, 1) := by decide +kernel
theorem dX4_made_30 : decode cX4_made 30 = .ok (.isub, 1) := by decide +kernel
theorem dX4_made_31 : decode cX4_made 31 = .ok (.goto 4, 3) := by decide +kernel
theorem dX4_made_34 : decode cX4_made 34 = .ok (.iload_n 0, 1) := by decide +kernel
theorem dX4_made_35 : decode cX4_made 35 = .ok (.ireturn, 1) := by decide +kernel
set_option maxRecDepth 20000 in
theorem ggX4_speakOn_X4_made : GoodIn wsX4_speakOn wsX4_made := goodIn_r _ [5] (by decide +kernel) (by decide +kernel)
set_option maxRecDepth 20000 in
theorem gX4_speakOn_X4_made : GoodIn wsX4_speakOn (va_wsS RX4 87 yX4_made wsX4_made) := goodIn_app (goodIn_of _ (by decide +kernel)) ggX4_speakOn_X4_made
theorem dX4_speakOn_0 : decode cX4_speakOn 0 = .ok (.bipush 27, 2) := by decide +kernel
theorem dX4_speakOn_2 : decode cX4_speakOn 2 = .ok (.iload_n 1, 1) := by decide +kernel
theorem dX4_speakOn_3 : decode cX4_speakOn 3 = .ok (.imul, 1) := by decide +kernel
theorem dX4_speakOn_4 : decode cX4_speakOn 4 = .ok (.istore_n 3, 1) := by decide +kernel
theorem dX4_speakOn_5 : decode cX4_speakOn 5 = .ok (.aload_n 0, 1) := by decide +kernel
theorem dX4_speakOn_6 : decode cX4_speakOn 6 = .ok (.getfield 16, 3) := by decide +kernel
theorem dX4_speakOn_9 : decode cX4_speakOn 9 = .ok (.iload_n 3, 1) := by decide +kernel
theorem dX4_speakOn_10 : decode cX4_speakOn 10 = .ok (.iconst 1, 1) := by decide +kernel
theorem dX4_speakOn_11 : decode cX4_speakOn 11 = .ok (.iadd, 1) := by decide +kernel
theorem dX4_speakOn_12 : decode cX4_speakOn 12 = .ok (.iload_n 2, 1) := by decide +kernel
theorem dX4_speakOn_13 : decode cX4_speakOn 13 = .ok (.iadd, 1) := by decide +kernel
theorem dX4_speakOn_14 : decode cX4_speakOn 14 = .ok (.iaload, 1) := by decide +kernel
theorem dX4_speakOn_15 : decode cX4_speakOn 15 = .ok (.iconst 3, 1) := by decide +kernel
theorem dX4_speakOn_16 : decode cX4_speakOn 16 = .ok (.if_icmp .eq 42, 3) := by decide +kernel
theorem dX4_speakOn_19 : decode cX4_speakOn 19 = .ok (.aload_n 0, 1) := by decide +kernel
theorem dX4_speakOn_20 : decode cX4_speakOn 20 = .ok (.getfield 16, 3) := by decide +kernel
theorem dX4_speakOn_23 : decode cX4_speakOn 23 = .ok (.iload_n 3, 1) := by decide +kernel
theorem dX4_speakOn_24 : decode cX4_speakOn 24 = .ok (.bipush 24, 2) := by decide +kernel
theorem dX4_speakOn_26 : decode cX4_speakOn 26 = .ok (.iadd, 1) := by decide +kernel
theorem dX4_speakOn_27 : decode cX4_speakOn 27 = .ok (.aload_n 0, 1) := by decide +kernel
theorem dX4_speakOn_28 : decode cX4_speakOn 28 = .ok (.getfield 16, 3) := by decide +kernel
theorem dX4_speakOn_31 : decode cX4_speakOn 31 = .ok (.iload_n 3, 1) := by decide +kernel
theorem dX4_speakOn_32 : decode cX4_speakOn 32 = .ok (.iconst 1, 1) := by decide +kernel
theorem dX4_speakOn_33 : decode cX4_speakOn 33 = .ok (.iadd, 1) := by decide +kernel
theorem dX4_speakOn_34 : decode cX4_speakOn 34 = .ok (.iload_n 2, 1) := by decide +kernel
theorem dX4_speakOn_35 : decode cX4_speakOn 35 = .ok (.iadd, 1) := by decide +kernel
theorem dX4_speakOn_36 : decode cX4_speakOn 36 = .ok (.iaload, 1) := by decide +kernel
theorem dX4_speakOn_37 : decode cX4_speakOn 37 = .ok (.iastore, 1) := by decide +kernel
theorem dX4_speakOn_38 : decode cX4_speakOn 38 = .ok (.aload_n 0, 1) := by decide +kernel
theorem dX4_speakOn_39 : decode cX4_speakOn 39 = .ok (.getfield 16, 3) := by decide +kernel
theorem dX4_speakOn_42 : decode cX4_speakOn 42 = .ok (.iload_n 3, 1) := by decide +kernel
theorem dX4_speakOn_43 : decode cX4_speakOn 43 = .ok (.bipush 25, 2) := by decide +kernel
theorem dX4_speakOn_45 : decode cX4_speakOn 45 = .ok (.iadd, 1) := by decide +kernel
theorem dX4_speakOn_46 : decode cX4_speakOn 46 = .ok (.aload_n 0, 1) := by decide +kernel
theorem dX4_speakOn_47 : decode cX4_speakOn 47 = .ok (.getfield 16, 3) := by decide +kernel
theorem dX4_speakOn_50 : decode cX4_speakOn 50 = .ok (.iload_n 3, 1) := by decide +kernel
theorem dX4_speakOn_51 : decode cX4_speakOn 51 = .ok (.bipush 8, 2) := by decide +kernel
theorem dX4_speakOn_53 : decode cX4_speakOn 53 = .ok (.iadd, 1) := by decide +kernel
theorem dX4_speakOn_54 : decode cX4_speakOn 54 = .ok (.iload_n 2, 1) := by decide +kernel
theorem dX4_speakOn_55 : decode cX4_speakOn 55 = .ok (.iadd, 1) := by decide +kernel
theorem dX4_speakOn_56 : decode cX4_speakOn 56 = .ok (.iaload, 1) := by decide +kernel
theorem dX4_speakOn_57 : decode cX4_speakOn 57 = .ok (.iastore, 1) := by decide +kernel
theorem dX4_speakOn_58 : decode cX4_speakOn 58 = .ok (.aload_n 0, 1) := by decide +kernel
theorem dX4_speakOn_59 : decode cX4_speakOn 59 = .ok (.getfield 16, 3) := by decide +kernel
theorem dX4_speakOn_62 : decode cX4_speakOn 62 = .ok (.iload_n 3, 1) := by decide +kernel
theorem dX4_speakOn_63 : decode cX4_speakOn 63 = .ok (.bipush 24, 2) := by decide +kernel
theorem dX4_speakOn_65 : decode cX4_speakOn 65 = .ok (.iadd, 1) := by decide +kernel
theorem dX4_speakOn_66 : decode cX4_speakOn 66 = .ok (.iaload, 1) := by decide +kernel
theorem dX4_speakOn_67 : decode cX4_speakOn 67 = .ok (.bipush (-9), 2) := by decide +kernel
theorem dX4_speakOn_69 : decode cX4_speakOn 69 = .ok (.if_icmp .eq 42, 3) := by decide +kernel
theorem dX4_speakOn_72 : decode cX4_speakOn 72 = .ok (.aload_n 0, 1) := by decide +kernel
theorem dX4_speakOn_73 : decode cX4_speakOn 73 = .ok (.getfield 16, 3) := by decide +kernel
theorem dX4_speakOn_76 : decode cX4_speakOn 76 = .ok (.iload_n 3, 1) := by decide +kernel
theorem dX4_speakOn_77 : decode cX4_speakOn 77 = .ok (.bipush 22, 2) := by decide +kernel
theorem dX4_speakOn_79 : decode cX4_speakOn 79 = .ok (.iadd, 1) := by decide +kernel
theorem dX4_speakOn_80 : decode cX4_speakOn 80 = .ok (.aload_n 0, 1) := by decide +kernel
theorem dX4_speakOn_81 : decode cX4_speakOn 81 = .ok (.getfield 16, 3) := by decide +kernel
theorem dX4_speakOn_84 : decode cX4_speakOn 84 = .ok (.iload_n 3, 1) := by decide +kernel
theorem dX4_speakOn_85 : decode cX4_speakOn 85 = .ok (.bipush 22, 2) := by decide +kernel
theorem dX4_speakOn_87 : decode cX4_speakOn 87 = .ok (.iadd, 1) := by decide +kernel
theorem dX4_speakOn_88 : decode cX4_speakOn 88 = .ok (.iaload, 1) := by decide +kernel
theorem dX4_speakOn_89 : decode cX4_speakOn 89 = .ok (.aload_n 0, 1) := by decide +kernel
theorem dX4_speakOn_90 : decode cX4_speakOn 90 = .ok (.getfield 16, 3) := by decide +kernel
theorem dX4_speakOn_93 : decode cX4_speakOn 93 = .ok (.iload_n 3, 1) := by decide +kernel
theorem dX4_speakOn_94 : decode cX4_speakOn 94 = .ok (.bipush 24, 2) := by decide +kernel
theorem dX4_speakOn_96 : decode cX4_speakOn 96 = .ok (.iadd, 1) := by decide +kernel
theorem dX4_speakOn_97 : decode cX4_speakOn 97 = .ok (.iaload, 1) := by decide +kernel
theorem dX4_speakOn_98 : decode cX4_speakOn 98 = .ok (.aload_n 0, 1) := by decide +kernel
theorem dX4_speakOn_99 : decode cX4_speakOn 99 = .ok (.getfield 16, 3) := by decide +kernel
theorem dX4_speakOn_102 : decode cX4_speakOn 102 = .ok (.iload_n 3, 1) := by decide +kernel
theorem dX4_speakOn_103 : decode cX4_speakOn 103 = .ok (.bipush 25, 2) := by decide +kernel
theorem dX4_speakOn_105 : decode cX4_speakOn 105 = .ok (.iadd, 1) := by decide +kernel
theorem dX4_speakOn_106 : decode cX4_speakOn 106 = .ok (.iaload, 1) := by decide +kernel
theorem dX4_speakOn_107 : decode cX4_speakOn 107 = .ok (.invokestatic 87, 3) := by decide +kernel
theorem dX4_speakOn_110 : decode cX4_speakOn 110 = .ok (.iastore, 1) := by decide +kernel
theorem dX4_speakOn_111 : decode cX4_speakOn 111 = .ok (.return_, 1) := by decide +kernel
set_option maxRecDepth 20000 in
theorem ggX4_sayOn_X4_speakOn : GoodIn wsX4_sayOn wsX4_speakOn := goodIn_r _ [7, 2, 8, 9, 6, 10, 11, 12, 13, 14, 15, 16, 17, 18, 19, 20, 21, 22, 23, 24, 25, 26, 27, 28, 29, 30, 31, 32, 33, 34] (by decide +kernel) (by decide +kernel)
set_option maxRecDepth 20000 in
theorem gX4_sayOn_X4_speakOn : GoodIn wsX4_sayOn (wsV RX4 91 RX4 yX4_speakOn wsX4_speakOn) := goodIn_app (goodIn_of _ (by decide +kernel)) ggX4_sayOn_X4_speakOn
theorem dX4_sayOn_0 : decode cX4_sayOn 0 = .ok (.aload_n 0, 1) := by decide +kernel
theorem dX4_sayOn_1 : decode cX4_sayOn 1 = .ok (.iload_n 1, 1) := by decide +kernel
theorem dX4_sayOn_2 : decode cX4_sayOn 2 = .ok (.iload_n 2, 1) := by decide +kernel
theorem dX4_sayOn_3 : decode cX4_sayOn 3 = .ok (.invokevirtual 91, 3) := by decide +kernel
theorem dX4_sayOn_6 : decode cX4_sayOn 6 = .ok (.aload_n 0, 1) := by decide +kernel
theorem dX4_sayOn_7 : decode cX4_sayOn 7 = .ok (.getfield 13, 3) := by decide +kernel
theorem dX4_sayOn_10 : decode cX4_sayOn 10 = .ok (.iload_n 2, 1) := by decide +kernel
theorem dX4_sayOn_11 : decode cX4_sayOn 11 = .ok (.iaload, 1) := by decide +kernel
theorem dX4_sayOn_12 : decode cX4_sayOn 12 = .ok (.iconst 2, 1) := by decide +kernel
theorem dX4_sayOn_13 : decode cX4_sayOn 13 = .ok (.if_icmp .ne 9, 3) := by decide +kernel
theorem dX4_sayOn_16 : decode cX4_sayOn 16 = .ok (.aload_n 0, 1) := by decide +kernel
theorem dX4_sayOn_17 : decode cX4_sayOn 17 = .ok (.iload_n 1, 1) := by decide +kernel
theorem dX4_sayOn_18 : decode cX4_sayOn 18 = .ok (.iload_n 2, 1) := by decide +kernel
theorem dX4_sayOn_19 : decode cX4_sayOn 19 = .ok (.invokevirtual 91, 3) := by decide +kernel
theorem dX4_sayOn_22 : decode cX4_sayOn 22 = .ok (.aload_n 0, 1) := by decide +kernel
theorem dX4_sayOn_23 : decode cX4_sayOn 23 = .ok (.getfield 16, 3) := by decide +kernel
theorem dX4_sayOn_26 : decode cX4_sayOn 26 = .ok (.bipush 27, 2) := by decide +kernel
theorem dX4_sayOn_28 : decode cX4_sayOn 28 = .ok (.iload_n 1, 1) := by decide +kernel
theorem dX4_sayOn_29 : decode cX4_sayOn 29 = .ok (.imul, 1) := by decide +kernel
theorem dX4_sayOn_30 : decode cX4_sayOn 30 = .ok (.bipush 15, 2) := by decide +kernel
theorem dX4_sayOn_32 : decode cX4_sayOn 32 = .ok (.iadd, 1) := by decide +kernel
theorem dX4_sayOn_33 : decode cX4_sayOn 33 = .ok (.iload_n 2, 1) := by decide +kernel
theorem dX4_sayOn_34 : decode cX4_sayOn 34 = .ok (.iadd, 1) := by decide +kernel
theorem dX4_sayOn_35 : decode cX4_sayOn 35 = .ok (.dup2, 1) := by decide +kernel
theorem dX4_sayOn_36 : decode cX4_sayOn 36 = .ok (.iaload, 1) := by decide +kernel
theorem dX4_sayOn_37 : decode cX4_sayOn 37 = .ok (.iconst 1, 1) := by decide +kernel
theorem dX4_sayOn_38 : decode cX4_sayOn 38 = .ok (.iadd, 1) := by decide +kernel
theorem dX4_sayOn_39 : decode cX4_sayOn 39 = .ok (.iastore, 1) := by decide +kernel
theorem dX4_sayOn_40 : decode cX4_sayOn 40 = .ok (.aload_n 0, 1) := by decide +kernel
theorem dX4_sayOn_41 : decode cX4_sayOn 41 = .ok (.getfield 16, 3) := by decide +kernel
theorem dX4_sayOn_44 : decode cX4_sayOn 44 = .ok (.bipush 27, 2) := by decide +kernel
theorem dX4_sayOn_46 : decode cX4_sayOn 46 = .ok (.iload_n 1, 1) := by decide +kernel
theorem dX4_sayOn_47 : decode cX4_sayOn 47 = .ok (.imul, 1) := by decide +kernel
theorem dX4_sayOn_48 : decode cX4_sayOn 48 = .ok (.bipush 23, 2) := by decide +kernel
theorem dX4_sayOn_50 : decode cX4_sayOn 50 = .ok (.iadd, 1) := by decide +kernel
theorem dX4_sayOn_51 : decode cX4_sayOn 51 = .ok (.iload_n 2, 1) := by decide +kernel
theorem dX4_sayOn_52 : decode cX4_sayOn 52 = .ok (.iastore, 1) := by decide +kernel
theorem dX4_sayOn_53 : decode cX4_sayOn 53 = .ok (.return_, 1) := by decide +kernel
set_option maxRecDepth 20000 in
theorem ggX4_person_X4_isPerson : GoodIn wsX4_person wsX4_isPerson := goodIn_r _ [8, 9, 10, 11, 7, 12, 20, 21, 22, 23, 24, 25, 26, 27, 28, 29, 30, 31, 32, 33, 34, 35, 36, 37, 38, 39, 40, 41, 42, 43] (by decide +kernel) (by decide +kernel)
set_option maxRecDepth 20000 in
theorem gX4_person_X4_isPerson : GoodIn wsX4_person (wsV RX4 95 RX4 yX4_isPerson wsX4_isPerson) := goodIn_app (goodIn_of _ (by decide +kernel)) ggX4_person_X4_isPerson
set_option maxRecDepth 20000 in
theorem ggX4_person_X4_may : GoodIn wsX4_person wsX4_may := goodIn_r _ [16, 2, 3, 17, 18, 7, 19, 20, 21, 22, 23, 24, 25, 26, 27, 28, 29, 30, 31, 32, 33, 34, 35, 36, 37, 38, 39, 40, 41, 42, 43] (by decide +kernel) (by decide +kernel)
set_option maxRecDepth 20000 in
theorem gX4_person_X4_may : GoodIn wsX4_person (wsV RX4 99 RX4 yX4_may wsX4_may) := goodIn_app (goodIn_of _ (by decide +kernel)) ggX4_person_X4_may
theorem dX4_person_0 : decode cX4_person 0 = .ok (.aload_n 0, 1) := by decide +kernel
theorem dX4_person_1 : decode cX4_person 1 = .ok (.iload_n 1, 1) := by decide +kernel
theorem dX4_person_2 : decode cX4_person 2 = .ok (.invokevirtual 95, 3) := by decide +kernel
theorem dX4_person_5 : decode cX4_person 5 = .ok (.ifCond .ne 5, 3) := by decide +kernel
theorem dX4_person_8 : decode cX4_person 8 = .ok (.iconst (-1), 1) := by decide +kernel
theorem dX4_person_9 : decode cX4_person 9 = .ok (.ireturn, 1) := by decide +kernel
theorem dX4_person_10 : decode cX4_person 10 = .ok (.iload_n 2, 1) := by decide +kernel
theorem dX4_person_11 : decode cX4_person 11 = .ok (.tableswitch 110 0 6 #[41, 48, 57, 67, 74, 85, 100], 41) := by decide +kernel
theorem dX4_person_52 : decode cX4_person 52 = .ok (.aload_n 0, 1) := by decide +kernel
theorem dX4_person_53 : decode cX4_person 53 = .ok (.getfield 7, 3) := by decide +kernel
theorem dX4_person_56 : decode cX4_person 56 = .ok (.iload_n 1, 1) := by decide +kernel
theorem dX4_person_57 : decode cX4_person 57 = .ok (.iaload, 1) := by decide +kernel
theorem dX4_person_58 : decode cX4_person 58 = .ok (.ireturn, 1) := by decide +kernel
theorem dX4_person_59 : decode cX4_person 59 = .ok (.aload_n 0, 1) := by decide +kernel
theorem dX4_person_60 : decode cX4_person 60 = .ok (.getfield 16, 3) := by decide +kernel
theorem dX4_person_63 : decode cX4_person 63 = .ok (.iconst 1, 1) := by decide +kernel
theorem dX4_person_64 : decode cX4_person 64 = .ok (.iload_n 1, 1) := by decide +kernel
theorem dX4_person_65 : decode cX4_person 65 = .ok (.iadd, 1) := by decide +kernel
theorem dX4_person_66 : decode cX4_person 66 = .ok (.iaload, 1) := by decide +kernel
theorem dX4_person_67 : decode cX4_person 67 = .ok (.ireturn, 1) := by decide +kernel
theorem dX4_person_68 : decode cX4_person 68 = .ok (.aload_n 0, 1) := by decide +kernel
theorem dX4_person_69 : decode cX4_person 69 = .ok (.getfield 16, 3) := by decide +kernel
theorem dX4_person_72 : decode cX4_person 72 = .ok (.bipush 8, 2) := by decide +kernel
theorem dX4_person_74 : decode cX4_person 74 = .ok (.iload_n 1, 1) := by decide +kernel
theorem dX4_person_75 : decode cX4_person 75 = .ok (.iadd, 1) := by decide +kernel
theorem dX4_person_76 : decode cX4_person 76 = .ok (.iaload, 1) := by decide +kernel
theorem dX4_person_77 : decode cX4_person 77 = .ok (.ireturn, 1) := by decide +kernel
theorem dX4_person_78 : decode cX4_person 78 = .ok (.aload_n 0, 1) := by decide +kernel
theorem dX4_person_79 : decode cX4_person 79 = .ok (.getfield 13, 3) := by decide +kernel
theorem dX4_person_82 : decode cX4_person 82 = .ok (.iload_n 1, 1) := by decide +kernel
theorem dX4_person_83 : decode cX4_person 83 = .ok (.iaload, 1) := by decide +kernel
theorem dX4_person_84 : decode cX4_person 84 = .ok (.ireturn, 1) := by decide +kernel
theorem dX4_person_85 : decode cX4_person 85 = .ok (.aload_n 0, 1) := by decide +kernel
theorem dX4_person_86 : decode cX4_person 86 = .ok (.getfield 16, 3) := by decide +kernel
theorem dX4_person_89 : decode cX4_person 89 = .ok (.iconst 0, 1) := by decide +kernel
theorem dX4_person_90 : decode cX4_person 90 = .ok (.iaload, 1) := by decide +kernel
theorem dX4_person_91 : decode cX4_person 91 = .ok (.iload_n 1, 1) := by decide +kernel
theorem dX4_person_92 : decode cX4_person 92 = .ok (.ishr, 1) := by decide +kernel
theorem dX4_person_93 : decode cX4_person 93 = .ok (.iconst 1, 1) := by decide +kernel
theorem dX4_person_94 : decode cX4_person 94 = .ok (.iand, 1) := by decide +kernel
theorem dX4_person_95 : decode cX4_person 95 = .ok (.ireturn, 1) := by decide +kernel
theorem dX4_person_96 : decode cX4_person 96 = .ok (.aload_n 0, 1) := by decide +kernel
theorem dX4_person_97 : decode cX4_person 97 = .ok (.iconst 0, 1) := by decide +kernel
theorem dX4_person_98 : decode cX4_person 98 = .ok (.iload_n 1, 1) := by decide +kernel
theorem dX4_person_99 : decode cX4_person 99 = .ok (.invokevirtual 99, 3) := by decide +kernel
theorem dX4_person_102 : decode cX4_person 102 = .ok (.ifCond .eq 7, 3) := by decide +kernel
theorem dX4_person_105 : decode cX4_person 105 = .ok (.iconst 1, 1) := by decide +kernel
theorem dX4_person_106 : decode cX4_person 106 = .ok (.goto 4, 3) := by decide +kernel
theorem dX4_person_109 : decode cX4_person 109 = .ok (.iconst 0, 1) := by decide +kernel
theorem dX4_person_110 : decode cX4_person 110 = .ok (.ireturn, 1) := by decide +kernel
theorem dX4_person_111 : decode cX4_person 111 = .ok (.aload_n 0, 1) := by decide +kernel
theorem dX4_person_112 : decode cX4_person 112 = .ok (.getfield 16, 3) := by decide +kernel
theorem dX4_person_115 : decode cX4_person 115 = .ok (.bipush 15, 2) := by decide +kernel
theorem dX4_person_117 : decode cX4_person 117 = .ok (.iload_n 1, 1) := by decide +kernel
theorem dX4_person_118 : decode cX4_person 118 = .ok (.iadd, 1) := by decide +kernel
theorem dX4_person_119 : decode cX4_person 119 = .ok (.iaload, 1) := by decide +kernel
theorem dX4_person_120 : decode cX4_person 120 = .ok (.ireturn, 1) := by decide +kernel
theorem dX4_person_121 : decode cX4_person 121 = .ok (.bipush (-2), 2) := by decide +kernel
theorem dX4_person_123 : decode cX4_person 123 = .ok (.ireturn, 1) := by decide +kernel
theorem dX4_keepAct_0 : decode cX4_keepAct 0 = .ok (.iconst 0, 1) := by decide +kernel
theorem dX4_keepAct_1 : decode cX4_keepAct 1 = .ok (.istore_n 1, 1) := by decide +kernel
theorem dX4_keepAct_2 : decode cX4_keepAct 2 = .ok (.iload_n 1, 1) := by decide +kernel
theorem dX4_keepAct_3 : decode cX4_keepAct 3 = .ok (.bipush 27, 2) := by decide +kernel
theorem dX4_keepAct_5 : decode cX4_keepAct 5 = .ok (.if_icmp .ge 29, 3) := by decide +kernel
theorem dX4_keepAct_8 : decode cX4_keepAct 8 = .ok (.aload_n 0, 1) := by decide +kernel
theorem dX4_keepAct_9 : decode cX4_keepAct 9 = .ok (.getfield 25, 3) := by decide +kernel
theorem dX4_keepAct_12 : decode cX4_keepAct 12 = .ok (.bipush 27, 2) := by decide +kernel
theorem dX4_keepAct_14 : decode cX4_keepAct 14 = .ok (.aload_n 0, 1) := by decide +kernel
theorem dX4_keepAct_15 : decode cX4_keepAct 15 = .ok (.getfield 102, 3) := by decide +kernel
theorem dX4_keepAct_18 : decode cX4_keepAct 18 = .ok (.imul, 1) := by decide +kernel
theorem dX4_keepAct_19 : decode cX4_keepAct 19 = .ok (.iload_n 1, 1) := by decide +kernel
theorem dX4_keepAct_20 : decode cX4_keepAct 20 = .ok (.iadd, 1) := by decide +kernel
theorem dX4_keepAct_21 : decode cX4_keepAct 21 = .ok (.aload_n 0, 1) := by decide +kernel
theorem dX4_keepAct_22 : decode cX4_keepAct 22 = .ok (.getfield 16, 3) := by decide +kernel
theorem dX4_keepAct_25 : decode cX4_keepAct 25 = .ok (.iload_n 1, 1) := by decide +kernel
theorem dX4_keepAct_26 : decode cX4_keepAct 26 = .ok (.iaload, 1) := by decide +kernel
theorem dX4_keepAct_27 : decode cX4_keepAct 27 = .ok (.iastore, 1) := by decide +kernel
theorem dX4_keepAct_28 : decode cX4_keepAct 28 = .ok (.iinc 1 1, 3) := by decide +kernel
theorem dX4_keepAct_31 : decode cX4_keepAct 31 = .ok (.goto (-29), 3) := by decide +kernel
theorem dX4_keepAct_34 : decode cX4_keepAct 34 = .ok (.aload_n 0, 1) := by decide +kernel
theorem dX4_keepAct_35 : decode cX4_keepAct 35 = .ok (.aload_n 0, 1) := by decide +kernel
theorem dX4_keepAct_36 : decode cX4_keepAct 36 = .ok (.getfield 102, 3) := by decide +kernel
theorem dX4_keepAct_39 : decode cX4_keepAct 39 = .ok (.iconst 1, 1) := by decide +kernel
theorem dX4_keepAct_40 : decode cX4_keepAct 40 = .ok (.iadd, 1) := by decide +kernel
theorem dX4_keepAct_41 : decode cX4_keepAct 41 = .ok (.bipush 14, 2) := by decide +kernel
theorem dX4_keepAct_43 : decode cX4_keepAct 43 = .ok (.irem, 1) := by decide +kernel
theorem dX4_keepAct_44 : decode cX4_keepAct 44 = .ok (.putfield 102, 3) := by decide +kernel
theorem dX4_keepAct_47 : decode cX4_keepAct 47 = .ok (.aload_n 0, 1) := by decide +kernel
theorem dX4_keepAct_48 : decode cX4_keepAct 48 = .ok (.aload_n 0, 1) := by decide +kernel
theorem dX4_keepAct_49 : decode cX4_keepAct 49 = .ok (.getfield 80, 3) := by decide +kernel
theorem dX4_keepAct_52 : decode cX4_keepAct 52 = .ok (.bipush 14, 2) := by decide +kernel
theorem dX4_keepAct_54 : decode cX4_keepAct 54 = .ok (.if_icmp .ge 12, 3) := by decide +kernel
theorem dX4_keepAct_57 : decode cX4_keepAct 57 = .ok (.aload_n 0, 1) := by decide +kernel
theorem dX4_keepAct_58 : decode cX4_keepAct 58 = .ok (.getfield 80, 3) := by decide +kernel
theorem dX4_keepAct_61 : decode cX4_keepAct 61 = .ok (.iconst 1, 1) := by decide +kernel
theorem dX4_keepAct_62 : decode cX4_keepAct 62 = .ok (.iadd, 1) := by decide +kernel
theorem dX4_keepAct_63 : decode cX4_keepAct 63 = .ok (.goto 5, 3) := by decide +kernel
theorem dX4_keepAct_66 : decode cX4_keepAct 66 = .ok (.bipush 14, 2) := by decide +kernel
theorem dX4_keepAct_68 : decode cX4_keepAct 68 = .ok (.putfield 80, 3) := by decide +kernel
theorem dX4_keepAct_71 : decode cX4_keepAct 71 = .ok (.return_, 1) := by decide +kernel
theorem dX4_far_0 : decode cX4_far 0 = .ok (.aload_n 0, 1) := by decide +kernel
theorem dX4_far_1 : decode cX4_far 1 = .ok (.getfield 7, 3) := by decide +kernel
theorem dX4_far_4 : decode cX4_far 4 = .ok (.iload_n 1, 1) := by decide +kernel
theorem dX4_far_5 : decode cX4_far 5 = .ok (.iaload, 1) := by decide +kernel
theorem dX4_far_6 : decode cX4_far 6 = .ok (.aload_n 0, 1) := by decide +kernel
theorem dX4_far_7 : decode cX4_far 7 = .ok (.getfield 77, 3) := by decide +kernel
theorem dX4_far_10 : decode cX4_far 10 = .ok (.if_icmp .ge 17, 3) := by decide +kernel
theorem dX4_far_13 : decode cX4_far 13 = .ok (.aload_n 0, 1) := by decide +kernel
theorem dX4_far_14 : decode cX4_far 14 = .ok (.getfield 77, 3) := by decide +kernel
theorem dX4_far_17 : decode cX4_far 17 = .ok (.aload_n 0, 1) := by decide +kernel
theorem dX4_far_18 : decode cX4_far 18 = .ok (.getfield 7, 3) := by decide +kernel
theorem dX4_far_21 : decode cX4_far 21 = .ok (.iload_n 1, 1) := by decide +kernel
theorem dX4_far_22 : decode cX4_far 22 = .ok (.iaload, 1) := by decide +kernel
theorem dX4_far_23 : decode cX4_far 23 = .ok (.isub, 1) := by decide +kernel
theorem dX4_far_24 : decode cX4_far 24 = .ok (.goto 14, 3) := by decide +kernel
theorem dX4_far_27 : decode cX4_far 27 = .ok (.aload_n 0, 1) := by decide +kernel
theorem dX4_far_28 : decode cX4_far 28 = .ok (.getfield 7, 3) := by decide +kernel
theorem dX4_far_31 : decode cX4_far 31 = .ok (.iload_n 1, 1) := by decide +kernel
theorem dX4_far_32 : decode cX4_far 32 = .ok (.iaload, 1) := by decide +kernel
theorem dX4_far_33 : decode cX4_far 33 = .ok (.aload_n 0, 1) := by decide +kernel
theorem dX4_far_34 : decode cX4_far 34 = .ok (.getfield 77, 3) := by decide +kernel
theorem dX4_far_37 : decode cX4_far 37 = .ok (.isub, 1) := by decide +kernel
theorem dX4_far_38 : decode cX4_far 38 = .ok (.ireturn, 1) := by decide +kernel
set_option maxRecDepth 20000 in
theorem ggX4_fetch_X4_isPerson : GoodIn wsX4_fetch wsX4_isPerson := goodIn_r _ [6, 7, 8, 9, 5, 10, 27, 28, 29, 30, 31, 32, 33, 34, 35, 36, 37, 38, 39, 40, 41, 42, 43, 44, 45, 46, 47, 48, 49, 50] (by decide +kernel) (by decide +kernel)
set_option maxRecDepth 20000 in
theorem gX4_fetch_X4_isPerson : GoodIn wsX4_fetch (wsV RX4 95 RX4 yX4_isPerson wsX4_isPerson) := goodIn_app (goodIn_of _ (by decide +kernel)) ggX4_fetch_X4_isPerson
set_option maxRecDepth 20000 in
theorem ggX4_fetch_X4_has : GoodIn wsX4_fetch wsX4_has := goodIn_r _ [13] (by decide +kernel) (by decide +kernel)
set_option maxRecDepth 20000 in
theorem gX4_fetch_X4_has : GoodIn wsX4_fetch (va_wsS RX4 83 yX4_has wsX4_has) := goodIn_app (goodIn_of _ (by decide +kernel)) ggX4_fetch_X4_has
set_option maxRecDepth 20000 in
theorem ggX4_fetch_X4_keepAct : GoodIn wsX4_fetch wsX4_keepAct := goodIn_r _ [17, 18, 19, 1, 20, 27, 28, 29, 30, 31, 32, 33, 34, 35, 36, 37, 38, 39, 40, 41, 42, 43, 44, 45, 46, 47, 48, 49, 50] (by decide +kernel) (by decide +kernel)
set_option maxRecDepth 20000 in
theorem gX4_fetch_X4_keepAct : GoodIn wsX4_fetch (wsV RX4 105 RX4 yX4_keepAct wsX4_keepAct) := goodIn_app (goodIn_of _ (by decide +kernel)) ggX4_fetch_X4_keepAct
set_option maxRecDepth 20000 in
theorem ggX4_fetch_X4_far : GoodIn wsX4_fetch wsX4_far := goodIn_r _ [24, 25, 26, 27, 28, 29, 30, 31, 32, 33, 34, 35, 36, 37, 38, 39, 40, 41, 42, 43, 44, 45, 46, 47, 48, 49, 50] (by decide +kernel) (by decide +kernel)
set_option maxRecDepth 20000 in
theorem gX4_fetch_X4_far : GoodIn wsX4_fetch (wsV RX4 108 RX4 yX4_far wsX4_far) := goodIn_app (goodIn_of _ (by decide +kernel)) ggX4_fetch_X4_far
theorem dX4_fetch_0 : decode cX4_fetch 0 = .ok (.aload_n 0, 1) := by decide +kernel
theorem dX4_fetch_1 : decode cX4_fetch 1 = .ok (.iload_n 1, 1) := by decide +kernel
theorem dX4_fetch_2 : decode cX4_fetch 2 = .ok (.invokevirtual 95, 3) := by decide +kernel
theorem dX4_fetch_5 : decode cX4_fetch 5 = .ok (.ifCond .ne 5, 3) := by decide +kernel
theorem dX4_fetch_8 : decode cX4_fetch 8 = .ok (.iconst (-1), 1) := by decide +kernel
theorem dX4_fetch_9 : decode cX4_fetch 9 = .ok (.ireturn, 1) := by decide +kernel
theorem dX4_fetch_10 : decode cX4_fetch 10 = .ok (.aload_n 0, 1) := by decide +kernel
theorem dX4_fetch_11 : decode cX4_fetch 11 = .ok (.getfield 16, 3) := by decide +kernel
theorem dX4_fetch_14 : decode cX4_fetch 14 = .ok (.iconst 0, 1) := by decide +kernel
theorem dX4_fetch_15 : decode cX4_fetch 15 = .ok (.iaload, 1) := by decide +kernel
theorem dX4_fetch_16 : decode cX4_fetch 16 = .ok (.iload_n 1, 1) := by decide +kernel
theorem dX4_fetch_17 : decode cX4_fetch 17 = .ok (.invokestatic 83, 3) := by decide +kernel
theorem dX4_fetch_20 : decode cX4_fetch 20 = .ok (.ifCond .eq 6, 3) := by decide +kernel
theorem dX4_fetch_23 : decode cX4_fetch 23 = .ok (.bipush (-3), 2) := by decide +kernel
theorem dX4_fetch_25 : decode cX4_fetch 25 = .ok (.ireturn, 1) := by decide +kernel
theorem dX4_fetch_26 : decode cX4_fetch 26 = .ok (.aload_n 0, 1) := by decide +kernel
theorem dX4_fetch_27 : decode cX4_fetch 27 = .ok (.invokevirtual 105, 3) := by decide +kernel
theorem dX4_fetch_30 : decode cX4_fetch 30 = .ok (.aload_n 0, 1) := by decide +kernel
theorem dX4_fetch_31 : decode cX4_fetch 31 = .ok (.getfield 16, 3) := by decide +kernel
theorem dX4_fetch_34 : decode cX4_fetch 34 = .ok (.iconst 0, 1) := by decide +kernel
theorem dX4_fetch_35 : decode cX4_fetch 35 = .ok (.dup2, 1) := by decide +kernel
theorem dX4_fetch_36 : decode cX4_fetch 36 = .ok (.iaload, 1) := by decide +kernel
theorem dX4_fetch_37 : decode cX4_fetch 37 = .ok (.iconst 1, 1) := by decide +kernel
theorem dX4_fetch_38 : decode cX4_fetch 38 = .ok (.iload_n 1, 1) := by decide +kernel
theorem dX4_fetch_39 : decode cX4_fetch 39 = .ok (.ishl, 1) := by decide +kernel
theorem dX4_fetch_40 : decode cX4_fetch 40 = .ok (.ior, 1) := by decide +kernel
theorem dX4_fetch_41 : decode cX4_fetch 41 = .ok (.iastore, 1) := by decide +kernel
theorem dX4_fetch_42 : decode cX4_fetch 42 = .ok (.aload_n 0, 1) := by decide +kernel
theorem dX4_fetch_43 : decode cX4_fetch 43 = .ok (.getfield 16, 3) := by decide +kernel
theorem dX4_fetch_46 : decode cX4_fetch 46 = .ok (.bipush 26, 2) := by decide +kernel
theorem dX4_fetch_48 : decode cX4_fetch 48 = .ok (.dup2, 1) := by decide +kernel
theorem dX4_fetch_49 : decode cX4_fetch 49 = .ok (.iaload, 1) := by decide +kernel
theorem dX4_fetch_50 : decode cX4_fetch 50 = .ok (.aload_n 0, 1) := by decide +kernel
theorem dX4_fetch_51 : decode cX4_fetch 51 = .ok (.iload_n 1, 1) := by decide +kernel
theorem dX4_fetch_52 : decode cX4_fetch 52 = .ok (.invokevirtual 108, 3) := by decide +kernel
theorem dX4_fetch_55 : decode cX4_fetch 55 = .ok (.iadd, 1) := by decide +kernel
theorem dX4_fetch_56 : decode cX4_fetch 56 = .ok (.iastore, 1) := by decide +kernel
theorem dX4_fetch_57 : decode cX4_fetch 57 = .ok (.aload_n 0, 1) := by decide +kernel
theorem dX4_fetch_58 : decode cX4_fetch 58 = .ok (.getfield 16, 3) := by decide +kernel
theorem dX4_fetch_61 : decode cX4_fetch 61 = .ok (.bipush 26, 2) := by decide +kernel
theorem dX4_fetch_63 : decode cX4_fetch 63 = .ok (.iaload, 1) := by decide +kernel
theorem dX4_fetch_64 : decode cX4_fetch 64 = .ok (.ireturn, 1) := by decide +kernel
set_option maxRecDepth 20000 in
theorem ggX4_send_X4_isPerson : GoodIn wsX4_send wsX4_isPerson := goodIn_r _ [8, 9, 10, 11, 7, 12, 26, 27, 28, 29, 30, 31, 32, 33, 34, 35, 36, 37, 38, 39, 40, 41, 42, 43, 44, 45, 46, 47, 48, 49] (by decide +kernel) (by decide +kernel)
set_option maxRecDepth 20000 in
theorem gX4_send_X4_isPerson : GoodIn wsX4_send (wsV RX4 95 RX4 yX4_isPerson wsX4_isPerson) := goodIn_app (goodIn_of _ (by decide +kernel)) ggX4_send_X4_isPerson
set_option maxRecDepth 20000 in
theorem ggX4_send_X4_has : GoodIn wsX4_send wsX4_has := goodIn_r _ [15] (by decide +kernel) (by decide +kernel)
set_option maxRecDepth 20000 in
theorem gX4_send_X4_has : GoodIn wsX4_send (va_wsS RX4 83 yX4_has wsX4_has) := goodIn_app (goodIn_of _ (by decide +kernel)) ggX4_send_X4_has
set_option maxRecDepth 20000 in
theorem ggX4_send_X4_keepAct : GoodIn wsX4_send wsX4_keepAct := goodIn_r _ [19, 20, 21, 1, 22, 26, 27, 28, 29, 30, 31, 32, 33, 34, 35, 36, 37, 38, 39, 40, 41, 42, 43, 44, 45, 46, 47, 48, 49] (by decide +kernel) (by decide +kernel)
set_option maxRecDepth 20000 in
theorem gX4_send_X4_keepAct : GoodIn wsX4_send (wsV RX4 105 RX4 yX4_keepAct wsX4_keepAct) := goodIn_app (goodIn_of _ (by decide +kernel)) ggX4_send_X4_keepAct
set_option maxRecDepth 20000 in
theorem ggX4_send_X4_ones : GoodIn wsX4_send wsX4_ones := goodIn_r _ [25] (by decide +kernel) (by decide +kernel)
set_option maxRecDepth 20000 in
theorem gX4_send_X4_ones : GoodIn wsX4_send (va_wsS RX4 111 yX4_ones wsX4_ones) := goodIn_app (goodIn_of _ (by decide +kernel)) ggX4_send_X4_ones
theorem dX4_send_0 : decode cX4_send 0 = .ok (.aload_n 0, 1) := by decide +kernel
theorem dX4_send_1 : decode cX4_send 1 = .ok (.iload_n 1, 1) := by decide +kernel
theorem dX4_send_2 : decode cX4_send 2 = .ok (.invokevirtual 95, 3) := by decide +kernel
theorem dX4_send_5 : decode cX4_send 5 = .ok (.ifCond .ne 5, 3) := by decide +kernel
theorem dX4_send_8 : decode cX4_send 8 = .ok (.iconst (-1), 1) := by decide +kernel
theorem dX4_send_9 : decode cX4_send 9 = .ok (.ireturn, 1) := by decide +kernel
theorem dX4_send_10 : decode cX4_send 10 = .ok (.aload_n 0, 1) := by decide +kernel
theorem dX4_send_11 : decode cX4_send 11 = .ok (.getfield 16, 3) := by decide +kernel
theorem dX4_send_14 : decode cX4_send 14 = .ok (.iconst 0, 1) := by decide +kernel
theorem dX4_send_15 : decode cX4_send 15 = .ok (.iaload, 1) := by decide +kernel
theorem dX4_send_16 : decode cX4_send 16 = .ok (.iload_n 1, 1) := by decide +kernel
theorem dX4_send_17 : decode cX4_send 17 = .ok (.invokestatic 83, 3) := by decide +kernel
theorem dX4_send_20 : decode cX4_send 20 = .ok (.ifCond .eq 16, 3) := by decide +kernel
theorem dX4_send_23 : decode cX4_send 23 = .ok (.aload_n 0, 1) := by decide +kernel
theorem dX4_send_24 : decode cX4_send 24 = .ok (.getfield 7, 3) := by decide +kernel
theorem dX4_send_27 : decode cX4_send 27 = .ok (.iload_n 1, 1) := by decide +kernel
theorem dX4_send_28 : decode cX4_send 28 = .ok (.iaload, 1) := by decide +kernel
theorem dX4_send_29 : decode cX4_send 29 = .ok (.aload_n 0, 1) := by decide +kernel
theorem dX4_send_30 : decode cX4_send 30 = .ok (.getfield 77, 3) := by decide +kernel
theorem dX4_send_33 : decode cX4_send 33 = .ok (.if_icmp .ne 6, 3) := by decide +kernel
theorem dX4_send_36 : decode cX4_send 36 = .ok (.bipush (-3), 2) := by decide +kernel
theorem dX4_send_38 : decode cX4_send 38 = .ok (.ireturn, 1) := by decide +kernel
theorem dX4_send_39 : decode cX4_send 39 = .ok (.aload_n 0, 1) := by decide +kernel
theorem dX4_send_40 : decode cX4_send 40 = .ok (.invokevirtual 105, 3) := by decide +kernel
theorem dX4_send_43 : decode cX4_send 43 = .ok (.aload_n 0, 1) := by decide +kernel
theorem dX4_send_44 : decode cX4_send 44 = .ok (.getfield 16, 3) := by decide +kernel
theorem dX4_send_47 : decode cX4_send 47 = .ok (.iconst 0, 1) := by decide +kernel
theorem dX4_send_48 : decode cX4_send 48 = .ok (.dup2, 1) := by decide +kernel
theorem dX4_send_49 : decode cX4_send 49 = .ok (.iaload, 1) := by decide +kernel
theorem dX4_send_50 : decode cX4_send 50 = .ok (.iconst 1, 1) := by decide +kernel
theorem dX4_send_51 : decode cX4_send 51 = .ok (.iload_n 1, 1) := by decide +kernel
theorem dX4_send_52 : decode cX4_send 52 = .ok (.ishl, 1) := by decide +kernel
theorem dX4_send_53 : decode cX4_send 53 = .ok (.iconst (-1), 1) := by decide +kernel
theorem dX4_send_54 : decode cX4_send 54 = .ok (.ixor, 1) := by decide +kernel
theorem dX4_send_55 : decode cX4_send 55 = .ok (.iand, 1) := by decide +kernel
theorem dX4_send_56 : decode cX4_send 56 = .ok (.iastore, 1) := by decide +kernel
theorem dX4_send_57 : decode cX4_send 57 = .ok (.aload_n 0, 1) := by decide +kernel
theorem dX4_send_58 : decode cX4_send 58 = .ok (.getfield 16, 3) := by decide +kernel
theorem dX4_send_61 : decode cX4_send 61 = .ok (.iconst 0, 1) := by decide +kernel
theorem dX4_send_62 : decode cX4_send 62 = .ok (.iaload, 1) := by decide +kernel
theorem dX4_send_63 : decode cX4_send 63 = .ok (.invokestatic 111, 3) := by decide +kernel
theorem dX4_send_66 : decode cX4_send 66 = .ok (.ireturn, 1) := by decide +kernel
set_option maxRecDepth 20000 in
theorem ggX4_say_X4_isPerson : GoodIn wsX4_say wsX4_isPerson := goodIn_r _ [6, 7, 8, 9, 5, 10, 37, 38, 39, 40, 41, 42, 43, 44, 45, 46, 47, 48, 49, 50, 51, 52, 53, 54, 55, 56, 57, 58, 59, 60] (by decide +kernel) (by decide +kernel)
set_option maxRecDepth 20000 in
theorem gX4_say_X4_isPerson : GoodIn wsX4_say (wsV RX4 95 RX4 yX4_isPerson wsX4_isPerson) := goodIn_app (goodIn_of _ (by decide +kernel)) ggX4_say_X4_isPerson
set_option maxRecDepth 20000 in
theorem ggX4_say_X4_may : GoodIn wsX4_say wsX4_may := goodIn_r _ [14, 1, 15, 16, 17, 5, 18, 37, 38, 39, 40, 41, 42, 43, 44, 45, 46, 47, 48, 49, 50, 51, 52, 53, 54, 55, 56, 57, 58, 59, 60] (by decide +kernel) (by decide +kernel)
set_option maxRecDepth 20000 in
theorem gX4_say_X4_may : GoodIn wsX4_say (wsV RX4 99 RX4 yX4_may wsX4_may) := goodIn_app (goodIn_of _ (by decide +kernel)) ggX4_say_X4_may
set_option maxRecDepth 20000 in
theorem ggX4_say_X4_keepAct : GoodIn wsX4_say wsX4_keepAct := goodIn_r _ [22, 23, 24, 1, 25, 37, 38, 39, 40, 41, 42, 43, 44, 45, 46, 47, 48, 49, 50, 51, 52, 53, 54, 55, 56, 57, 58, 59, 60] (by decide +kernel) (by decide +kernel)
set_option maxRecDepth 20000 in
theorem gX4_say_X4_keepAct : GoodIn wsX4_say (wsV RX4 105 RX4 yX4_keepAct wsX4_keepAct) := goodIn_app (goodIn_of _ (by decide +kernel)) ggX4_say_X4_keepAct
set_option maxRecDepth 20000 in
theorem ggX4_say_X4_sayOn : GoodIn wsX4_say wsX4_sayOn := goodIn_r _ [29, 15, 1, 30, 31, 32, 5, 33, 34, 35, 36, 37, 38, 39, 40, 41, 42, 43, 44, 45, 46, 47, 48, 49, 50, 51, 52, 53, 54, 55, 56, 57, 58, 59, 60] (by decide +kernel) (by decide +kernel)
set_option maxRecDepth 20000 in
theorem gX4_say_X4_sayOn : GoodIn wsX4_say (wsV RX4 114 RX4 yX4_sayOn wsX4_sayOn) := goodIn_app (goodIn_of _ (by decide +kernel)) ggX4_say_X4_sayOn
theorem dX4_say_0 : decode cX4_say 0 = .ok (.aload_n 0, 1) := by decide +kernel
theorem dX4_say_1 : decode cX4_say 1 = .ok (.iload_n 1, 1) := by decide +kernel
theorem dX4_say_2 : decode cX4_say 2 = .ok (.invokevirtual 95, 3) := by decide +kernel
theorem dX4_say_5 : decode cX4_say 5 = .ok (.ifCond .ne 5, 3) := by decide +kernel
theorem dX4_say_8 : decode cX4_say 8 = .ok (.iconst (-1), 1) := by decide +kernel
theorem dX4_say_9 : decode cX4_say 9 = .ok (.ireturn, 1) := by decide +kernel
theorem dX4_say_10 : decode cX4_say 10 = .ok (.aload_n 0, 1) := by decide +kernel
theorem dX4_say_11 : decode cX4_say 11 = .ok (.iconst 0, 1) := by decide +kernel
theorem dX4_say_12 : decode cX4_say 12 = .ok (.iload_n 1, 1) := by decide +kernel
theorem dX4_say_13 : decode cX4_say 13 = .ok (.invokevirtual 99, 3) := by decide +kernel
theorem dX4_say_16 : decode cX4_say 16 = .ok (.ifCond .ne 6, 3) := by decide +kernel
theorem dX4_say_19 : decode cX4_say 19 = .ok (.bipush (-3), 2) := by decide +kernel
theorem dX4_say_21 : decode cX4_say 21 = .ok (.ireturn, 1) := by decide +kernel
theorem dX4_say_22 : decode cX4_say 22 = .ok (.aload_n 0, 1) := by decide +kernel
theorem dX4_say_23 : decode cX4_say 23 = .ok (.invokevirtual 105, 3) := by decide +kernel
theorem dX4_say_26 : decode cX4_say 26 = .ok (.aload_n 0, 1) := by decide +kernel
theorem dX4_say_27 : decode cX4_say 27 = .ok (.iconst 0, 1) := by decide +kernel
theorem dX4_say_28 : decode cX4_say 28 = .ok (.iload_n 1, 1) := by decide +kernel
theorem dX4_say_29 : decode cX4_say 29 = .ok (.invokevirtual 114, 3) := by decide +kernel
theorem dX4_say_32 : decode cX4_say 32 = .ok (.aload_n 0, 1) := by decide +kernel
theorem dX4_say_33 : decode cX4_say 33 = .ok (.getfield 16, 3) := by decide +kernel
theorem dX4_say_36 : decode cX4_say 36 = .ok (.bipush 26, 2) := by decide +kernel
theorem dX4_say_38 : decode cX4_say 38 = .ok (.dup2, 1) := by decide +kernel
theorem dX4_say_39 : decode cX4_say 39 = .ok (.iaload, 1) := by decide +kernel
theorem dX4_say_40 : decode cX4_say 40 = .ok (.iconst 1, 1) := by decide +kernel
theorem dX4_say_41 : decode cX4_say 41 = .ok (.iadd, 1) := by decide +kernel
theorem dX4_say_42 : decode cX4_say 42 = .ok (.iastore, 1) := by decide +kernel
theorem dX4_say_43 : decode cX4_say 43 = .ok (.aload_n 0, 1) := by decide +kernel
theorem dX4_say_44 : decode cX4_say 44 = .ok (.getfield 16, 3) := by decide +kernel
theorem dX4_say_47 : decode cX4_say 47 = .ok (.bipush 22, 2) := by decide +kernel
theorem dX4_say_49 : decode cX4_say 49 = .ok (.iaload, 1) := by decide +kernel
theorem dX4_say_50 : decode cX4_say 50 = .ok (.ireturn, 1) := by decide +kernel
set_option maxRecDepth 20000 in
theorem ggX4_name_X4_isPerson : GoodIn wsX4_name wsX4_isPerson := goodIn_r _ [8, 9, 10, 11, 7, 12, 20, 21, 22, 23, 24, 25, 26, 27, 28, 29, 30, 31, 32, 33, 34, 35, 36, 37, 38, 39, 40, 41, 42, 43] (by decide +kernel) (by decide +kernel)
set_option maxRecDepth 20000 in
theorem gX4_name_X4_isPerson : GoodIn wsX4_name (wsV RX4 95 RX4 yX4_isPerson wsX4_isPerson) := goodIn_app (goodIn_of _ (by decide +kernel)) ggX4_name_X4_isPerson
set_option maxRecDepth 20000 in
theorem ggX4_name_X4_in : GoodIn wsX4_name wsX4_in := goodIn_r _ [12] (by decide +kernel) (by decide +kernel)
set_option maxRecDepth 20000 in
theorem gX4_name_X4_in : GoodIn wsX4_name (va_wsS RX4 46 yX4_in wsX4_in) := goodIn_app (goodIn_of _ (by decide +kernel)) ggX4_name_X4_in
set_option maxRecDepth 20000 in
theorem ggX4_name_X4_keepAct : GoodIn wsX4_name wsX4_keepAct := goodIn_r _ [16, 17, 18, 3, 19, 20, 21, 22, 23, 24, 25, 26, 27, 28, 29, 30, 31, 32, 33, 34, 35, 36, 37, 38, 39, 40, 41, 42, 43] (by decide +kernel) (by decide +kernel)
set_option maxRecDepth 20000 in
theorem gX4_name_X4_keepAct : GoodIn wsX4_name (wsV RX4 105 RX4 yX4_keepAct wsX4_keepAct) := goodIn_app (goodIn_of _ (by decide +kernel)) ggX4_name_X4_keepAct
theorem dX4_name_0 : decode cX4_name 0 = .ok (.aload_n 0, 1) := by decide +kernel
theorem dX4_name_1 : decode cX4_name 1 = .ok (.iload_n 1, 1) := by decide +kernel
theorem dX4_name_2 : decode cX4_name 2 = .ok (.invokevirtual 95, 3) := by decide +kernel
theorem dX4_name_5 : decode cX4_name 5 = .ok (.ifCond .ne 5, 3) := by decide +kernel
theorem dX4_name_8 : decode cX4_name 8 = .ok (.iconst (-1), 1) := by decide +kernel
theorem dX4_name_9 : decode cX4_name 9 = .ok (.ireturn, 1) := by decide +kernel
theorem dX4_name_10 : decode cX4_name 10 = .ok (.iload_n 2, 1) := by decide +kernel
theorem dX4_name_11 : decode cX4_name 11 = .ok (.i2l, 1) := by decide +kernel
theorem dX4_name_12 : decode cX4_name 12 = .ok (.lconst 0, 1) := by decide +kernel
theorem dX4_name_13 : decode cX4_name 13 = .ok (.ldc2_w 117, 3) := by decide +kernel
theorem dX4_name_16 : decode cX4_name 16 = .ok (.invokestatic 46, 3) := by decide +kernel
theorem dX4_name_19 : decode cX4_name 19 = .ok (.ifCond .eq 15, 3) := by decide +kernel
theorem dX4_name_22 : decode cX4_name 22 = .ok (.iload_n 3, 1) := by decide +kernel
theorem dX4_name_23 : decode cX4_name 23 = .ok (.i2l, 1) := by decide +kernel
theorem dX4_name_24 : decode cX4_name 24 = .ok (.lconst 0, 1) := by decide +kernel
theorem dX4_name_25 : decode cX4_name 25 = .ok (.ldc2_w 119, 3) := by decide +kernel
theorem dX4_name_28 : decode cX4_name 28 = .ok (.invokestatic 46, 3) := by decide +kernel
theorem dX4_name_31 : decode cX4_name 31 = .ok (.ifCond .ne 6, 3) := by decide +kernel
theorem dX4_name_34 : decode cX4_name 34 = .ok (.bipush (-2), 2) := by decide +kernel
theorem dX4_name_36 : decode cX4_name 36 = .ok (.ireturn, 1) := by decide +kernel
theorem dX4_name_37 : decode cX4_name 37 = .ok (.bipush 10, 2) := by decide +kernel
theorem dX4_name_39 : decode cX4_name 39 = .ok (.aload_n 0, 1) := by decide +kernel
theorem dX4_name_40 : decode cX4_name 40 = .ok (.getfield 16, 3) := by decide +kernel
theorem dX4_name_43 : decode cX4_name 43 = .ok (.iconst 1, 1) := by decide +kernel
theorem dX4_name_44 : decode cX4_name 44 = .ok (.iload_n 1, 1) := by decide +kernel
theorem dX4_name_45 : decode cX4_name 45 = .ok (.iadd, 1) := by decide +kernel
theorem dX4_name_46 : decode cX4_name 46 = .ok (.iaload, 1) := by decide +kernel
theorem dX4_name_47 : decode cX4_name 47 = .ok (.imul, 1) := by decide +kernel
theorem dX4_name_48 : decode cX4_name 48 = .ok (.aload_n 0, 1) := by decide +kernel
theorem dX4_name_49 : decode cX4_name 49 = .ok (.getfield 16, 3) := by decide +kernel
theorem dX4_name_52 : decode cX4_name 52 = .ok (.bipush 8, 2) := by decide +kernel
theorem dX4_name_54 : decode cX4_name 54 = .ok (.iload_n 1, 1) := by decide +kernel
theorem dX4_name_55 : decode cX4_name 55 = .ok (.iadd, 1) := by decide +kernel
theorem dX4_name_56 : decode cX4_name 56 = .ok (.iaload, 1) := by decide +kernel
theorem dX4_name_57 : decode cX4_name 57 = .ok (.iadd, 1) := by decide +kernel
theorem dX4_name_58 : decode cX4_name 58 = .ok (.istore 4, 2) := by decide +kernel
theorem dX4_name_60 : decode cX4_name 60 = .ok (.iload 4, 2) := by decide +kernel
theorem dX4_name_62 : decode cX4_name 62 = .ok (.bipush 10, 2) := by decide +kernel
theorem dX4_name_64 : decode cX4_name 64 = .ok (.iload_n 2, 1) := by decide +kernel
theorem dX4_name_65 : decode cX4_name 65 = .ok (.imul, 1) := by decide +kernel
theorem dX4_name_66 : decode cX4_name 66 = .ok (.iload_n 3, 1) := by decide +kernel
theorem dX4_name_67 : decode cX4_name 67 = .ok (.iadd, 1) := by decide +kernel
theorem dX4_name_68 : decode cX4_name 68 = .ok (.if_icmp .ne 6, 3) := by decide +kernel
theorem dX4_name_71 : decode cX4_name 71 = .ok (.bipush (-3), 2) := by decide +kernel
theorem dX4_name_73 : decode cX4_name 73 = .ok (.ireturn, 1) := by decide +kernel
theorem dX4_name_74 : decode cX4_name 74 = .ok (.aload_n 0, 1) := by decide +kernel
theorem dX4_name_75 : decode cX4_name 75 = .ok (.invokevirtual 105, 3) := by decide +kernel
theorem dX4_name_78 : decode cX4_name 78 = .ok (.aload_n 0, 1) := by decide +kernel
theorem dX4_name_79 : decode cX4_name 79 = .ok (.getfield 16, 3) := by decide +kernel
theorem dX4_name_82 : decode cX4_name 82 = .ok (.iconst 1, 1) := by decide +kernel
theorem dX4_name_83 : decode cX4_name 83 = .ok (.iload_n 1, 1) := by decide +kernel
theorem dX4_name_84 : decode cX4_name 84 = .ok (.iadd, 1) := by decide +kernel
theorem dX4_name_85 : decode cX4_name 85 = .ok (.iload_n 2, 1) := by decide +kernel
theorem dX4_name_86 : decode cX4_name 86 = .ok (.iastore, 1) := by decide +kernel
theorem dX4_name_87 : decode cX4_name 87 = .ok (.aload_n 0, 1) := by decide +kernel
theorem dX4_name_88 : decode cX4_name 88 = .ok (.getfield 16, 3) := by decide +kernel
theorem dX4_name_91 : decode cX4_name 91 = .ok (.bipush 8, 2) := by decide +kernel
theorem dX4_name_93 : decode cX4_name 93 = .ok (.iload_n 1, 1) := by decide +kernel
theorem dX4_name_94 : decode cX4_name 94 = .ok (.iadd, 1) := by decide +kernel
theorem dX4_name_95 : decode cX4_name 95 = .ok (.iload_n 3, 1) := by decide +kernel
theorem dX4_name_96 : decode cX4_name 96 = .ok (.iastore, 1) := by decide +kernel
theorem dX4_name_97 : decode cX4_name 97 = .ok (.iload 4, 2) := by decide +kernel
theorem dX4_name_99 : decode cX4_name 99 = .ok (.ireturn, 1) := by decide +kernel
theorem dX4_undo_0 : decode cX4_undo 0 = .ok (.aload_n 0, 1) := by decide +kernel
theorem dX4_undo_1 : decode cX4_undo 1 = .ok (.getfield 80, 3) := by decide +kernel
theorem dX4_undo_4 : decode cX4_undo 4 = .ok (.ifCond .ne 6, 3) := by decide +kernel
theorem dX4_undo_7 : decode cX4_undo 7 = .ok (.bipush (-3), 2) := by decide +kernel
theorem dX4_undo_9 : decode cX4_undo 9 = .ok (.ireturn, 1) := by decide +kernel
theorem dX4_undo_10 : decode cX4_undo 10 = .ok (.aload_n 0, 1) := by decide +kernel
theorem dX4_undo_11 : decode cX4_undo 11 = .ok (.dup, 1) := by decide +kernel
theorem dX4_undo_12 : decode cX4_undo 12 = .ok (.getfield 80, 3) := by decide +kernel
theorem dX4_undo_15 : decode cX4_undo 15 = .ok (.iconst 1, 1) := by decide +kernel
theorem dX4_undo_16 : decode cX4_undo 16 = .ok (.isub, 1) := by decide +kernel
theorem dX4_undo_17 : decode cX4_undo 17 = .ok (.putfield 80, 3) := by decide +kernel
theorem dX4_undo_20 : decode cX4_undo 20 = .ok (.aload_n 0, 1) := by decide +kernel
theorem dX4_undo_21 : decode cX4_undo 21 = .ok (.aload_n 0, 1) := by decide +kernel
theorem dX4_undo_22 : decode cX4_undo 22 = .ok (.getfield 102, 3) := by decide +kernel
theorem dX4_undo_25 : decode cX4_undo 25 = .ok (.bipush 13, 2) := by decide +kernel
theorem dX4_undo_27 : decode cX4_undo 27 = .ok (.iadd, 1) := by decide +kernel
theorem dX4_undo_28 : decode cX4_undo 28 = .ok (.bipush 14, 2) := by decide +kernel
theorem dX4_undo_30 : decode cX4_undo 30 = .ok (.irem, 1) := by decide +kernel
theorem dX4_undo_31 : decode cX4_undo 31 = .ok (.putfield 102, 3) := by decide +kernel
theorem dX4_undo_34 : decode cX4_undo 34 = .ok (.iconst 0, 1) := by decide +kernel
theorem dX4_undo_35 : decode cX4_undo 35 = .ok (.istore_n 1, 1) := by decide +kernel
theorem dX4_undo_36 : decode cX4_undo 36 = .ok (.iload_n 1, 1) := by decide +kernel
theorem dX4_undo_37 : decode cX4_undo 37 = .ok (.bipush 27, 2) := by decide +kernel
theorem dX4_undo_39 : decode cX4_undo 39 = .ok (.if_icmp .ge 29, 3) := by decide +kernel
theorem dX4_undo_42 : decode cX4_undo 42 = .ok (.aload_n 0, 1) := by decide +kernel
theorem dX4_undo_43 : decode cX4_undo 43 = .ok (.getfield 16, 3) := by decide +kernel
theorem dX4_undo_46 : decode cX4_undo 46 = .ok (.iload_n 1, 1) := by decide +kernel
theorem dX4_undo_47 : decode cX4_undo 47 = .ok (.aload_n 0, 1) := by decide +kernel
theorem dX4_undo_48 : decode cX4_undo 48 = .ok (.getfield 25, 3) := by decide +kernel
theorem dX4_undo_51 : decode cX4_undo 51 = .ok (.bipush 27, 2) := by decide +kernel
theorem dX4_undo_53 : decode cX4_undo 53 = .ok (.aload_n 0, 1) := by decide +kernel
theorem dX4_undo_54 : decode cX4_undo 54 = .ok (.getfield 102, 3) := by decide +kernel
theorem dX4_undo_57 : decode cX4_undo 57 = .ok (.imul, 1) := by decide +kernel
theorem dX4_undo_58 : decode cX4_undo 58 = .ok (.iload_n 1, 1) := by decide +kernel
theorem dX4_undo_59 : decode cX4_undo 59 = .ok (.iadd, 1) := by decide +kernel
theorem dX4_undo_60 : decode cX4_undo 60 = .ok (.iaload, 1) := by decide +kernel
theorem dX4_undo_61 : decode cX4_undo 61 = .ok (.iastore, 1) := by decide +kernel
theorem dX4_undo_62 : decode cX4_undo 62 = .ok (.iinc 1 1, 3) := by decide +kernel
theorem dX4_undo_65 : decode cX4_undo 65 = .ok (.goto (-29), 3) := by decide +kernel
theorem dX4_undo_68 : decode cX4_undo 68 = .ok (.aload_n 0, 1) := by decide +kernel
theorem dX4_undo_69 : decode cX4_undo 69 = .ok (.getfield 80, 3) := by decide +kernel
theorem dX4_undo_72 : decode cX4_undo 72 = .ok (.ireturn, 1) := by decide +kernel
theorem dX4_layTrial_0 : decode cX4_layTrial 0 = .ok (.iconst 0, 1) := by decide +kernel
theorem dX4_layTrial_1 : decode cX4_layTrial 1 = .ok (.istore_n 2, 1) := by decide +kernel
theorem dX4_layTrial_2 : decode cX4_layTrial 2 = .ok (.iload_n 2, 1) := by decide +kernel
theorem dX4_layTrial_3 : decode cX4_layTrial 3 = .ok (.bipush 27, 2) := by decide +kernel
theorem dX4_layTrial_5 : decode cX4_layTrial 5 = .ok (.if_icmp .ge 24, 3) := by decide +kernel
theorem dX4_layTrial_8 : decode cX4_layTrial 8 = .ok (.aload_n 0, 1) := by decide +kernel
theorem dX4_layTrial_9 : decode cX4_layTrial 9 = .ok (.getfield 16, 3) := by decide +kernel
theorem dX4_layTrial_12 : decode cX4_layTrial 12 = .ok (.bipush 27, 2) := by decide +kernel
theorem dX4_layTrial_14 : decode cX4_layTrial 14 = .ok (.iload_n 2, 1) := by decide +kernel
theorem dX4_layTrial_15 : decode cX4_layTrial 15 = .ok (.iadd, 1) := by decide +kernel
theorem dX4_layTrial_16 : decode cX4_layTrial 16 = .ok (.aload_n 0, 1) := by decide +kernel
theorem dX4_layTrial_17 : decode cX4_layTrial 17 = .ok (.getfield 16, 3) := by decide +kernel
theorem dX4_layTrial_20 : decode cX4_layTrial 20 = .ok (.iload_n 2, 1) := by decide +kernel
theorem dX4_layTrial_21 : decode cX4_layTrial 21 = .ok (.iaload, 1) := by decide +kernel
theorem dX4_layTrial_22 : decode cX4_layTrial 22 = .ok (.iastore, 1) := by decide +kernel
theorem dX4_layTrial_23 : decode cX4_layTrial 23 = .ok (.iinc 2 1, 3) := by decide +kernel
theorem dX4_layTrial_26 : decode cX4_layTrial 26 = .ok (.goto (-24), 3) := by decide +kernel
theorem dX4_layTrial_29 : decode cX4_layTrial 29 = .ok (.aload_n 0, 1) := by decide +kernel
theorem dX4_layTrial_30 : decode cX4_layTrial 30 = .ok (.getfield 16, 3) := by decide +kernel
theorem dX4_layTrial_33 : decode cX4_layTrial 33 = .ok (.bipush 27, 2) := by decide +kernel
theorem dX4_layTrial_35 : decode cX4_layTrial 35 = .ok (.iload_n 1, 1) := by decide +kernel
theorem dX4_layTrial_36 : decode cX4_layTrial 36 = .ok (.iastore, 1) := by decide +kernel
theorem dX4_layTrial_37 : decode cX4_layTrial 37 = .ok (.aload_n 0, 1) := by decide +kernel
theorem dX4_layTrial_38 : decode cX4_layTrial 38 = .ok (.getfield 16, 3) := by decide +kernel
theorem dX4_layTrial_41 : decode cX4_layTrial 41 = .ok (.bipush 34, 2) := by decide +kernel
theorem dX4_layTrial_43 : decode cX4_layTrial 43 = .ok (.aload_n 0, 1) := by decide +kernel
theorem dX4_layTrial_44 : decode cX4_layTrial 44 = .ok (.getfield 121, 3) := by decide +kernel
theorem dX4_layTrial_47 : decode cX4_layTrial 47 = .ok (.iastore, 1) := by decide +kernel
theorem dX4_layTrial_48 : decode cX4_layTrial 48 = .ok (.aload_n 0, 1) := by decide +kernel
theorem dX4_layTrial_49 : decode cX4_layTrial 49 = .ok (.getfield 16, 3) := by decide +kernel
theorem dX4_layTrial_52 : decode cX4_layTrial 52 = .ok (.bipush 41, 2) := by decide +kernel
theorem dX4_layTrial_54 : decode cX4_layTrial 54 = .ok (.aload_n 0, 1) := by decide +kernel
theorem dX4_layTrial_55 : decode cX4_layTrial 55 = .ok (.getfield 124, 3) := by decide +kernel
theorem dX4_layTrial_58 : decode cX4_layTrial 58 = .ok (.iastore, 1) := by decide +kernel
theorem dX4_layTrial_59 : decode cX4_layTrial 59 = .ok (.aload_n 0, 1) := by decide +kernel
theorem dX4_layTrial_60 : decode cX4_layTrial 60 = .ok (.getfield 16, 3) := by decide +kernel
theorem dX4_layTrial_63 : decode cX4_layTrial 63 = .ok (.bipush 48, 2) := by decide +kernel
theorem dX4_layTrial_65 : decode cX4_layTrial 65 = .ok (.iconst 0, 1) := by decide +kernel
theorem dX4_layTrial_66 : decode cX4_layTrial 66 = .ok (.iastore, 1) := by decide +kernel
theorem dX4_layTrial_67 : decode cX4_layTrial 67 = .ok (.return_, 1) := by decide +kernel
theorem dX4_tenTo_0 : decode cX4_tenTo 0 = .ok (.iconst 1, 1) := by decide +kernel
theorem dX4_tenTo_1 : decode cX4_tenTo 1 = .ok (.istore_n 1, 1) := by decide +kernel
theorem dX4_tenTo_2 : decode cX4_tenTo 2 = .ok (.iconst 0, 1) := by decide +kernel
theorem dX4_tenTo_3 : decode cX4_tenTo 3 = .ok (.istore_n 2, 1) := by decide +kernel
theorem dX4_tenTo_4 : decode cX4_tenTo 4 = .ok (.iload_n 2, 1) := by decide +kernel
theorem dX4_tenTo_5 : decode cX4_tenTo 5 = .ok (.iload_n 0, 1) := by decide +kernel
theorem dX4_tenTo_6 : decode cX4_tenTo 6 = .ok (.if_icmp .ge 14, 3) := by decide +kernel
theorem dX4_tenTo_9 : decode cX4_tenTo 9 = .ok (.iload_n 1, 1) := by decide +kernel
theorem dX4_tenTo_10 : decode cX4_tenTo 10 = .ok (.bipush 10, 2) := by decide +kernel
theorem dX4_tenTo_12 : decode cX4_tenTo 12 = .ok (.imul, 1) := by decide +kernel
theorem dX4_tenTo_13 : decode cX4_tenTo 13 = .ok (.istore_n 1, 1) := by decide +kernel
theorem dX4_tenTo_14 : decode cX4_tenTo 14 = .ok (.iinc 2 1, 3) := by decide +kernel
theorem dX4_tenTo_17 : decode cX4_tenTo 17 = .ok (.goto (-13), 3) := by decide +kernel
theorem dX4_tenTo_20 : decode cX4_tenTo 20 = .ok (.iload_n 1, 1) := by decide +kernel
theorem dX4_tenTo_21 : decode cX4_tenTo 21 = .ok (.ireturn, 1) := by decide +kernel
set_option maxRecDepth 20000 in
theorem ggX4_sayRow_X4_layTrial : GoodIn wsX4_sayRow wsX4_layTrial := goodIn_r _ [6, 7, 8, 9, 35, 36, 37, 38, 39, 40, 41, 42, 43, 44, 45, 46, 47, 48, 49, 50, 51, 52, 53, 54, 55, 56, 57, 58] (by decide +kernel) (by decide +kernel)
set_option maxRecDepth 20000 in
theorem gX4_sayRow_X4_layTrial : GoodIn wsX4_sayRow (wsV RX4 127 RX4 yX4_layTrial wsX4_layTrial) := goodIn_app (goodIn_of _ (by decide +kernel)) ggX4_sayRow_X4_layTrial
set_option maxRecDepth 20000 in
theorem ggX4_sayRow_X4_tenTo : GoodIn wsX4_sayRow wsX4_tenTo := goodIn_r _ [12] (by decide +kernel) (by decide +kernel)
set_option maxRecDepth 20000 in
theorem gX4_sayRow_X4_tenTo : GoodIn wsX4_sayRow (va_wsS RX4 131 yX4_tenTo wsX4_tenTo) := goodIn_app (goodIn_of _ (by decide +kernel)) ggX4_sayRow_X4_tenTo
set_option maxRecDepth 20000 in
theorem ggX4_sayRow_X4_in : GoodIn wsX4_sayRow wsX4_in := goodIn_r _ [15] (by decide +kernel) (by decide +kernel)
set_option maxRecDepth 20000 in
theorem gX4_sayRow_X4_in : GoodIn wsX4_sayRow (va_wsS RX4 46 yX4_in wsX4_in) := goodIn_app (goodIn_of _ (by decide +kernel)) ggX4_sayRow_X4_in
set_option maxRecDepth 20000 in
theorem ggX4_sayRow_X4_may : GoodIn wsX4_sayRow wsX4_may := goodIn_r _ [19, 7, 20, 21, 22, 5, 23, 35, 36, 37, 38, 39, 40, 41, 42, 43, 44, 45, 46, 47, 48, 49, 50, 51, 52, 53, 54, 55, 56, 57, 58] (by decide +kernel) (by decide +kernel)
set_option maxRecDepth 20000 in
theorem gX4_sayRow_X4_may : GoodIn wsX4_sayRow (wsV RX4 99 RX4 yX4_may wsX4_may) := goodIn_app (goodIn_of _ (by decide +kernel)) ggX4_sayRow_X4_may
set_option maxRecDepth 20000 in
theorem ggX4_sayRow_X4_sayOn : GoodIn wsX4_sayRow wsX4_sayOn := goodIn_r _ [27, 20, 7, 28, 29, 30, 5, 31, 32, 33, 34, 35, 36, 37, 38, 39, 40, 41, 42, 43, 44, 45, 46, 47, 48, 49, 50, 51, 52, 53, 54, 55, 56, 57, 58] (by decide +kernel) (by decide +kernel)
set_option maxRecDepth 20000 in
theorem gX4_sayRow_X4_sayOn : GoodIn wsX4_sayRow (wsV RX4 114 RX4 yX4_sayOn wsX4_sayOn) := goodIn_app (goodIn_of _ (by decide +kernel)) ggX4_sayRow_X4_sayOn
theorem dX4_sayRow_0 : decode cX4_sayRow 0 = .ok (.aload_n 0, 1) := by decide +kernel
theorem dX4_sayRow_1 : decode cX4_sayRow 1 = .ok (.iload_n 1, 1) := by decide +kernel
theorem dX4_sayRow_2 : decode cX4_sayRow 2 = .ok (.invokevirtual 127, 3) := by decide +kernel
theorem dX4_sayRow_5 : decode cX4_sayRow 5 = .ok (.iconst 0, 1) := by decide +kernel
theorem dX4_sayRow_6 : decode cX4_sayRow 6 = .ok (.istore 4, 2) := by decide +kernel
theorem dX4_sayRow_8 : decode cX4_sayRow 8 = .ok (.iload 4, 2) := by decide +kernel
theorem dX4_sayRow_10 : decode cX4_sayRow 10 = .ok (.iload_n 2, 1) := by decide +kernel
theorem dX4_sayRow_11 : decode cX4_sayRow 11 = .ok (.if_icmp .ge 60, 3) := by decide +kernel
theorem dX4_sayRow_14 : decode cX4_sayRow 14 = .ok (.iload_n 3, 1) := by decide +kernel
theorem dX4_sayRow_15 : decode cX4_sayRow 15 = .ok (.iload_n 2, 1) := by decide +kernel
theorem dX4_sayRow_16 : decode cX4_sayRow 16 = .ok (.iconst 1, 1) := by decide +kernel
theorem dX4_sayRow_17 : decode cX4_sayRow 17 = .ok (.isub, 1) := by decide +kernel
theorem dX4_sayRow_18 : decode cX4_sayRow 18 = .ok (.iload 4, 2) := by decide +kernel
theorem dX4_sayRow_20 : decode cX4_sayRow 20 = .ok (.isub, 1) := by decide +kernel
theorem dX4_sayRow_21 : decode cX4_sayRow 21 = .ok (.invokestatic 131, 3) := by decide +kernel
theorem dX4_sayRow_24 : decode cX4_sayRow 24 = .ok (.idiv, 1) := by decide +kernel
theorem dX4_sayRow_25 : decode cX4_sayRow 25 = .ok (.bipush 10, 2) := by decide +kernel
theorem dX4_sayRow_27 : decode cX4_sayRow 27 = .ok (.irem, 1) := by decide +kernel
theorem dX4_sayRow_28 : decode cX4_sayRow 28 = .ok (.iconst 1, 1) := by decide +kernel
theorem dX4_sayRow_29 : decode cX4_sayRow 29 = .ok (.isub, 1) := by decide +kernel
theorem dX4_sayRow_30 : decode cX4_sayRow 30 = .ok (.istore 5, 2) := by decide +kernel
theorem dX4_sayRow_32 : decode cX4_sayRow 32 = .ok (.iload 5, 2) := by decide +kernel
theorem dX4_sayRow_34 : decode cX4_sayRow 34 = .ok (.i2l, 1) := by decide +kernel
theorem dX4_sayRow_35 : decode cX4_sayRow 35 = .ok (.lconst 0, 1) := by decide +kernel
theorem dX4_sayRow_36 : decode cX4_sayRow 36 = .ok (.ldc2_w 134, 3) := by decide +kernel
theorem dX4_sayRow_39 : decode cX4_sayRow 39 = .ok (.invokestatic 46, 3) := by decide +kernel
theorem dX4_sayRow_42 : decode cX4_sayRow 42 = .ok (.ifCond .eq 13, 3) := by decide +kernel
theorem dX4_sayRow_45 : decode cX4_sayRow 45 = .ok (.aload_n 0, 1) := by decide +kernel
theorem dX4_sayRow_46 : decode cX4_sayRow 46 = .ok (.iconst 1, 1) := by decide +kernel
theorem dX4_sayRow_47 : decode cX4_sayRow 47 = .ok (.iload 5, 2) := by decide +kernel
theorem dX4_sayRow_49 : decode cX4_sayRow 49 = .ok (.invokevirtual 99, 3) := by decide +kernel
theorem dX4_sayRow_52 : decode cX4_sayRow 52 = .ok (.ifCond .ne 6, 3) := by decide +kernel
theorem dX4_sayRow_55 : decode cX4_sayRow 55 = .ok (.iload 4, 2) := by decide +kernel
theorem dX4_sayRow_57 : decode cX4_sayRow 57 = .ok (.ireturn, 1) := by decide +kernel
theorem dX4_sayRow_58 : decode cX4_sayRow 58 = .ok (.aload_n 0, 1) := by decide +kernel
theorem dX4_sayRow_59 : decode cX4_sayRow 59 = .ok (.iconst 1, 1) := by decide +kernel
theorem dX4_sayRow_60 : decode cX4_sayRow 60 = .ok (.iload 5, 2) := by decide +kernel
theorem dX4_sayRow_62 : decode cX4_sayRow 62 = .ok (.invokevirtual 114, 3) := by decide +kernel
theorem dX4_sayRow_65 : decode cX4_sayRow 65 = .ok (.iinc 4 1, 3) := by decide +kernel
theorem dX4_sayRow_68 : decode cX4_sayRow 68 = .ok (.goto (-60), 3) := by decide +kernel
theorem dX4_sayRow_71 : decode cX4_sayRow 71 = .ok (.bipush (-9), 2) := by decide +kernel
theorem dX4_sayRow_73 : decode cX4_sayRow 73 = .ok (.ireturn, 1) := by decide +kernel
set_option maxRecDepth 20000 in
theorem ggX4_comesTo_X4_in : GoodIn wsX4_comesTo wsX4_in := goodIn_r _ [6] (by decide +kernel) (by decide +kernel)
set_option maxRecDepth 20000 in
theorem gX4_comesTo_X4_in : GoodIn wsX4_comesTo (va_wsS RX4 46 yX4_in wsX4_in) := goodIn_app (goodIn_of _ (by decide +kernel)) ggX4_comesTo_X4_in
set_option maxRecDepth 20000 in
theorem ggX4_comesTo_X4_tenTo : GoodIn wsX4_comesTo wsX4_tenTo := goodIn_r _ [9] (by decide +kernel) (by decide +kernel)
set_option maxRecDepth 20000 in
theorem gX4_comesTo_X4_tenTo : GoodIn wsX4_comesTo (va_wsS RX4 131 yX4_tenTo wsX4_tenTo) := goodIn_app (goodIn_of _ (by decide +kernel)) ggX4_comesTo_X4_tenTo
set_option maxRecDepth 20000 in
theorem ggX4_comesTo_X4_sayRow : GoodIn wsX4_comesTo wsX4_sayRow := goodIn_r _ [13, 14, 15, 16, 17, 5, 18, 2, 19, 20, 7, 8, 9, 3, 4, 6, 21, 22, 23, 24, 25, 26, 27, 28, 29, 30, 31, 32, 33, 34, 35, 36, 37, 38, 39, 40, 41, 42, 43, 44, 45, 46, 47, 48, 49, 50, 51, 52, 53, 54, 55, 56, 57, 58, 59, 60, 61, 62, 63] (by decide +kernel) (by decide +kernel)
set_option maxRecDepth 20000 in
theorem gX4_comesTo_X4_sayRow : GoodIn wsX4_comesTo (wsV RX4 138 RX4 yX4_sayRow wsX4_sayRow) := goodIn_app (goodIn_of _ (by decide +kernel)) ggX4_comesTo_X4_sayRow
theorem dX4_comesTo_0 : decode cX4_comesTo 0 = .ok (.iload_n 1, 1) := by decide +kernel
theorem dX4_comesTo_1 : decode cX4_comesTo 1 = .ok (.i2l, 1) := by decide +kernel
theorem dX4_comesTo_2 : decode cX4_comesTo 2 = .ok (.lconst 1, 1) := by decide +kernel
theorem dX4_comesTo_3 : decode cX4_comesTo 3 = .ok (.ldc2_w 136, 3) := by decide +kernel
theorem dX4_comesTo_6 : decode cX4_comesTo 6 = .ok (.invokestatic 46, 3) := by decide +kernel
theorem dX4_comesTo_9 : decode cX4_comesTo 9 = .ok (.ifCond .eq 29, 3) := by decide +kernel
theorem dX4_comesTo_12 : decode cX4_comesTo 12 = .ok (.iload_n 2, 1) := by decide +kernel
theorem dX4_comesTo_13 : decode cX4_comesTo 13 = .ok (.i2l, 1) := by decide +kernel
theorem dX4_comesTo_14 : decode cX4_comesTo 14 = .ok (.lconst 0, 1) := by decide +kernel
theorem dX4_comesTo_15 : decode cX4_comesTo 15 = .ok (.iload_n 1, 1) := by decide +kernel
theorem dX4_comesTo_16 : decode cX4_comesTo 16 = .ok (.invokestatic 131, 3) := by decide +kernel
theorem dX4_comesTo_19 : decode cX4_comesTo 19 = .ok (.iconst 1, 1) := by decide +kernel
theorem dX4_comesTo_20 : decode cX4_comesTo 20 = .ok (.isub, 1) := by decide +kernel
theorem dX4_comesTo_21 : decode cX4_comesTo 21 = .ok (.i2l, 1) := by decide +kernel
theorem dX4_comesTo_22 : decode cX4_comesTo 22 = .ok (.invokestatic 46, 3) := by decide +kernel
theorem dX4_comesTo_25 : decode cX4_comesTo 25 = .ok (.ifCond .eq 13, 3) := by decide +kernel
theorem dX4_comesTo_28 : decode cX4_comesTo 28 = .ok (.iload_n 3, 1) := by decide +kernel
theorem dX4_comesTo_29 : decode cX4_comesTo 29 = .ok (.i2l, 1) := by decide +kernel
theorem dX4_comesTo_30 : decode cX4_comesTo 30 = .ok (.lconst 0, 1) := by decide +kernel
theorem dX4_comesTo_31 : decode cX4_comesTo 31 = .ok (.lconst 1, 1) := by decide +kernel
theorem dX4_comesTo_32 : decode cX4_comesTo 32 = .ok (.invokestatic 46, 3) := by decide +kernel
theorem dX4_comesTo_35 : decode cX4_comesTo 35 = .ok (.ifCond .ne 6, 3) := by decide +kernel
theorem dX4_comesTo_38 : decode cX4_comesTo 38 = .ok (.bipush (-2), 2) := by decide +kernel
theorem dX4_comesTo_40 : decode cX4_comesTo 40 = .ok (.ireturn, 1) := by decide +kernel
theorem dX4_comesTo_41 : decode cX4_comesTo 41 = .ok (.aload_n 0, 1) := by decide +kernel
theorem dX4_comesTo_42 : decode cX4_comesTo 42 = .ok (.aload_n 0, 1) := by decide +kernel
theorem dX4_comesTo_43 : decode cX4_comesTo 43 = .ok (.getfield 16, 3) := by decide +kernel
theorem dX4_comesTo_46 : decode cX4_comesTo 46 = .ok (.iconst 0, 1) := by decide +kernel
theorem dX4_comesTo_47 : decode cX4_comesTo 47 = .ok (.iaload, 1) := by decide +kernel
theorem dX4_comesTo_48 : decode cX4_comesTo 48 = .ok (.iload_n 1, 1) := by decide +kernel
theorem dX4_comesTo_49 : decode cX4_comesTo 49 = .ok (.iload_n 2, 1) := by decide +kernel
theorem dX4_comesTo_50 : decode cX4_comesTo 50 = .ok (.invokevirtual 138, 3) := by decide +kernel
theorem dX4_comesTo_53 : decode cX4_comesTo 53 = .ok (.istore 4, 2) := by decide +kernel
theorem dX4_comesTo_55 : decode cX4_comesTo 55 = .ok (.iload_n 3, 1) := by decide +kernel
theorem dX4_comesTo_56 : decode cX4_comesTo 56 = .ok (.iconst 1, 1) := by decide +kernel
theorem dX4_comesTo_57 : decode cX4_comesTo 57 = .ok (.if_icmp .ne 8, 3) := by decide +kernel
theorem dX4_comesTo_60 : decode cX4_comesTo 60 = .ok (.iload 4, 2) := by decide +kernel
theorem dX4_comesTo_62 : decode cX4_comesTo 62 = .ok (.goto 22, 3) := by decide +kernel
theorem dX4_comesTo_65 : decode cX4_comesTo 65 = .ok (.iload 4, 2) := by decide +kernel
theorem dX4_comesTo_67 : decode cX4_comesTo 67 = .ok (.bipush (-9), 2) := by decide +kernel
theorem dX4_comesTo_69 : decode cX4_comesTo 69 = .ok (.if_icmp .ne 13, 3) := by decide +kernel
theorem dX4_comesTo_72 : decode cX4_comesTo 72 = .ok (.aload_n 0, 1) := by decide +kernel
theorem dX4_comesTo_73 : decode cX4_comesTo 73 = .ok (.getfield 16, 3) := by decide +kernel
theorem dX4_comesTo_76 : decode cX4_comesTo 76 = .ok (.bipush 49, 2) := by decide +kernel
theorem dX4_comesTo_78 : decode cX4_comesTo 78 = .ok (.iaload, 1) := by decide +kernel
theorem dX4_comesTo_79 : decode cX4_comesTo 79 = .ok (.goto 5, 3) := by decide +kernel
theorem dX4_comesTo_82 : decode cX4_comesTo 82 = .ok (.bipush (-3), 2) := by decide +kernel
theorem dX4_comesTo_84 : decode cX4_comesTo 84 = .ok (.ireturn, 1) := by decide +kernel
theorem dX4_rowOf_0 : decode cX4_rowOf 0 = .ok (.iload_n 0, 1) := by decide +kernel
theorem dX4_rowOf_1 : decode cX4_rowOf 1 = .ok (.istore_n 2, 1) := by decide +kernel
theorem dX4_rowOf_2 : decode cX4_rowOf 2 = .ok (.iconst 0, 1) := by decide +kernel
theorem dX4_rowOf_3 : decode cX4_rowOf 3 = .ok (.istore_n 3, 1) := by decide +kernel
theorem dX4_rowOf_4 : decode cX4_rowOf 4 = .ok (.iconst 1, 1) := by decide +kernel
theorem dX4_rowOf_5 : decode cX4_rowOf 5 = .ok (.istore 4, 2) := by decide +kernel
theorem dX4_rowOf_7 : decode cX4_rowOf 7 = .ok (.iconst 0, 1) := by decide +kernel
theorem dX4_rowOf_8 : decode cX4_rowOf 8 = .ok (.istore 5, 2) := by decide +kernel
theorem dX4_rowOf_10 : decode cX4_rowOf 10 = .ok (.iload 5, 2) := by decide +kernel
theorem dX4_rowOf_12 : decode cX4_rowOf 12 = .ok (.iload_n 1, 1) := by decide +kernel
theorem dX4_rowOf_13 : decode cX4_rowOf 13 = .ok (.if_icmp .ge 33, 3) := by decide +kernel
theorem dX4_rowOf_16 : decode cX4_rowOf 16 = .ok (.iload_n 3, 1) := by decide +kernel
theorem dX4_rowOf_17 : decode cX4_rowOf 17 = .ok (.iload 4, 2) := by decide +kernel
theorem dX4_rowOf_19 : decode cX4_rowOf 19 = .ok (.iload_n 2, 1) := by decide +kernel
theorem dX4_rowOf_20 : decode cX4_rowOf 20 = .ok (.bipush 7, 2) := by decide +kernel
theorem dX4_rowOf_22 : decode cX4_rowOf 22 = .ok (.irem, 1) := by decide +kernel
theorem dX4_rowOf_23 : decode cX4_rowOf 23 = .ok (.iconst 1, 1) := by decide +kernel
theorem dX4_rowOf_24 : decode cX4_rowOf 24 = .ok (.iadd, 1) := by decide +kernel
theorem dX4_rowOf_25 : decode cX4_rowOf 25 = .ok (.imul, 1) := by decide +kernel
theorem dX4_rowOf_26 : decode cX4_rowOf 26 = .ok (.iadd, 1) := by decide +kernel
theorem dX4_rowOf_27 : decode cX4_rowOf 27 = .ok (.istore_n 3, 1) := by decide +kernel
theorem dX4_rowOf_28 : decode cX4_rowOf 28 = .ok (.iload_n 2, 1) := by decide +kernel
theorem dX4_rowOf_29 : decode cX4_rowOf 29 = .ok (.bipush 7, 2) := by decide +kernel
theorem dX4_rowOf_31 : decode cX4_rowOf 31 = .ok (.idiv, 1) := by decide +kernel
theorem dX4_rowOf_32 : decode cX4_rowOf 32 = .ok (.istore_n 2, 1) := by decide +kernel
theorem dX4_rowOf_33 : decode cX4_rowOf 33 = .ok (.iload 4, 2) := by decide +kernel
theorem dX4_rowOf_35 : decode cX4_rowOf 35 = .ok (.bipush 10, 2) := by decide +kernel
theorem dX4_rowOf_37 : decode cX4_rowOf 37 = .ok (.imul, 1) := by decide +kernel
theorem dX4_rowOf_38 : decode cX4_rowOf 38 = .ok (.istore 4, 2) := by decide +kernel
theorem dX4_rowOf_40 : decode cX4_rowOf 40 = .ok (.iinc 5 1, 3) := by decide +kernel
theorem dX4_rowOf_43 : decode cX4_rowOf 43 = .ok (.goto (-33), 3) := by decide +kernel
theorem dX4_rowOf_46 : decode cX4_rowOf 46 = .ok (.iload_n 3, 1) := by decide +kernel
theorem dX4_rowOf_47 : decode cX4_rowOf 47 = .ok (.ireturn, 1) := by decide +kernel
theorem dX4_sevens_0 : decode cX4_sevens 0 = .ok (.iconst 1, 1) := by decide +kernel
theorem dX4_sevens_1 : decode cX4_sevens 1 = .ok (.istore_n 1, 1) := by decide +kernel
theorem dX4_sevens_2 : decode cX4_sevens 2 = .ok (.iconst 0, 1) := by decide +kernel
theorem dX4_sevens_3 : decode cX4_sevens 3 = .ok (.istore_n 2, 1) := by decide +kernel
theorem dX4_sevens_4 : decode cX4_sevens 4 = .ok (.iload_n 2, 1) := by decide +kernel
theorem dX4_sevens_5 : decode cX4_sevens 5 = .ok (.iload_n 0, 1) := by decide +kernel
theorem dX4_sevens_6 : decode cX4_sevens 6 = .ok (.if_icmp .ge 14, 3) := by decide +kernel
theorem dX4_sevens_9 : decode cX4_sevens 9 = .ok (.iload_n 1, 1) := by decide +kernel
theorem dX4_sevens_10 : decode cX4_sevens 10 = .ok (.bipush 7, 2) := by decide +kernel
theorem dX4_sevens_12 : decode cX4_sevens 12 = .ok (.imul, 1) := by decide +kernel
theorem dX4_sevens_13 : decode cX4_sevens 13 = .ok (.istore_n 1, 1) := by decide +kernel
theorem dX4_sevens_14 : decode cX4_sevens 14 = .ok (.iinc 2 1, 3) := by decide +kernel
theorem dX4_sevens_17 : decode cX4_sevens 17 = .ok (.goto (-13), 3) := by decide +kernel
theorem dX4_sevens_20 : decode cX4_sevens 20 = .ok (.iload_n 1, 1) := by decide +kernel
theorem dX4_sevens_21 : decode cX4_sevens 21 = .ok (.ireturn, 1) := by decide +kernel
set_option maxRecDepth 20000 in
theorem ggX4_layFewest_X4_sevens : GoodIn wsX4_layFewest wsX4_sevens := goodIn_r _ [6] (by decide +kernel) (by decide +kernel)
set_option maxRecDepth 20000 in
theorem gX4_layFewest_X4_sevens : GoodIn wsX4_layFewest (va_wsS RX4 141 yX4_sevens wsX4_sevens) := goodIn_app (goodIn_of _ (by decide +kernel)) ggX4_layFewest_X4_sevens
set_option maxRecDepth 20000 in
theorem ggX4_layFewest_X4_rowOf : GoodIn wsX4_layFewest wsX4_rowOf := goodIn_r _ [9] (by decide +kernel) (by decide +kernel)
set_option maxRecDepth 20000 in
theorem gX4_layFewest_X4_rowOf : GoodIn wsX4_layFewest (va_wsS RX4 144 yX4_rowOf wsX4_rowOf) := goodIn_app (goodIn_of _ (by decide +kernel)) ggX4_layFewest_X4_rowOf
set_option maxRecDepth 20000 in
theorem ggX4_layFewest_X4_sayRow : GoodIn wsX4_layFewest wsX4_sayRow := goodIn_r _ [13, 14, 15, 16, 17, 5, 18, 2, 19, 20, 21, 22, 23, 24, 25, 26, 27, 28, 29, 30, 31, 32, 33, 34, 35, 36, 37, 38, 39, 40, 41, 42, 43, 44, 45, 46, 47, 48, 49, 50, 51, 52, 53, 54, 55, 56, 57, 58, 59, 60, 61, 62, 63, 64, 65, 66, 67, 68, 69] (by decide +kernel) (by decide +kernel)
set_option maxRecDepth 20000 in
theorem gX4_layFewest_X4_sayRow : GoodIn wsX4_layFewest (wsV RX4 138 RX4 yX4_sayRow wsX4_sayRow) := goodIn_app (goodIn_of _ (by decide +kernel)) ggX4_layFewest_X4_sayRow
theorem dX4_layFewest_0 : decode cX4_layFewest 0 = .ok (.iconst 0, 1) := by decide +kernel
theorem dX4_layFewest_1 : decode cX4_layFewest 1 = .ok (.istore_n 3, 1) := by decide +kernel
theorem dX4_layFewest_2 : decode cX4_layFewest 2 = .ok (.iload_n 3, 1) := by decide +kernel
theorem dX4_layFewest_3 : decode cX4_layFewest 3 = .ok (.iconst 5, 1) := by decide +kernel
theorem dX4_layFewest_4 : decode cX4_layFewest 4 = .ok (.if_icmp .ge 65, 3) := by decide +kernel
theorem dX4_layFewest_7 : decode cX4_layFewest 7 = .ok (.iconst 0, 1) := by decide +kernel
theorem dX4_layFewest_8 : decode cX4_layFewest 8 = .ok (.istore 4, 2) := by decide +kernel
theorem dX4_layFewest_10 : decode cX4_layFewest 10 = .ok (.iload 4, 2) := by decide +kernel
theorem dX4_layFewest_12 : decode cX4_layFewest 12 = .ok (.iload_n 3, 1) := by decide +kernel
theorem dX4_layFewest_13 : decode cX4_layFewest 13 = .ok (.invokestatic 141, 3) := by decide +kernel
theorem dX4_layFewest_16 : decode cX4_layFewest 16 = .ok (.if_icmp .ge 47, 3) := by decide +kernel
theorem dX4_layFewest_19 : decode cX4_layFewest 19 = .ok (.aload_n 0, 1) := by decide +kernel
theorem dX4_layFewest_20 : decode cX4_layFewest 20 = .ok (.iload 4, 2) := by decide +kernel
theorem dX4_layFewest_22 : decode cX4_layFewest 22 = .ok (.iload_n 3, 1) := by decide +kernel
theorem dX4_layFewest_23 : decode cX4_layFewest 23 = .ok (.invokestatic 144, 3) := by decide +kernel
theorem dX4_layFewest_26 : decode cX4_layFewest 26 = .ok (.putfield 148, 3) := by decide +kernel
theorem dX4_layFewest_29 : decode cX4_layFewest 29 = .ok (.aload_n 0, 1) := by decide +kernel
theorem dX4_layFewest_30 : decode cX4_layFewest 30 = .ok (.iload_n 1, 1) := by decide +kernel
theorem dX4_layFewest_31 : decode cX4_layFewest 31 = .ok (.iload_n 3, 1) := by decide +kernel
theorem dX4_layFewest_32 : decode cX4_layFewest 32 = .ok (.aload_n 0, 1) := by decide +kernel
theorem dX4_layFewest_33 : decode cX4_layFewest 33 = .ok (.getfield 148, 3) := by decide +kernel
theorem dX4_layFewest_36 : decode cX4_layFewest 36 = .ok (.invokevirtual 138, 3) := by decide +kernel
theorem dX4_layFewest_39 : decode cX4_layFewest 39 = .ok (.bipush (-9), 2) := by decide +kernel
theorem dX4_layFewest_41 : decode cX4_layFewest 41 = .ok (.if_icmp .ne 16, 3) := by decide +kernel
theorem dX4_layFewest_44 : decode cX4_layFewest 44 = .ok (.aload_n 0, 1) := by decide +kernel
theorem dX4_layFewest_45 : decode cX4_layFewest 45 = .ok (.getfield 16, 3) := by decide +kernel
theorem dX4_layFewest_48 : decode cX4_layFewest 48 = .ok (.bipush 49, 2) := by decide +kernel
theorem dX4_layFewest_50 : decode cX4_layFewest 50 = .ok (.iaload, 1) := by decide +kernel
theorem dX4_layFewest_51 : decode cX4_layFewest 51 = .ok (.iload_n 2, 1) := by decide +kernel
theorem dX4_layFewest_52 : decode cX4_layFewest 52 = .ok (.if_icmp .ne 5, 3) := by decide +kernel
theorem dX4_layFewest_55 : decode cX4_layFewest 55 = .ok (.iload_n 3, 1) := by decide +kernel
theorem dX4_layFewest_56 : decode cX4_layFewest 56 = .ok (.ireturn, 1) := by decide +kernel
theorem dX4_layFewest_57 : decode cX4_layFewest 57 = .ok (.iinc 4 1, 3) := by decide +kernel
theorem dX4_layFewest_60 : decode cX4_layFewest 60 = .ok (.goto (-50), 3) := by decide +kernel
theorem dX4_layFewest_63 : decode cX4_layFewest 63 = .ok (.iinc 3 1, 3) := by decide +kernel
theorem dX4_layFewest_66 : decode cX4_layFewest 66 = .ok (.goto (-64), 3) := by decide +kernel
theorem dX4_layFewest_69 : decode cX4_layFewest 69 = .ok (.aload_n 0, 1) := by decide +kernel
theorem dX4_layFewest_70 : decode cX4_layFewest 70 = .ok (.bipush (-9), 2) := by decide +kernel
theorem dX4_layFewest_72 : decode cX4_layFewest 72 = .ok (.putfield 148, 3) := by decide +kernel
theorem dX4_layFewest_75 : decode cX4_layFewest 75 = .ok (.bipush (-9), 2) := by decide +kernel
theorem dX4_layFewest_77 : decode cX4_layFewest 77 = .ok (.ireturn, 1) := by decide +kernel
set_option maxRecDepth 20000 in
theorem ggX4_fewest_X4_in : GoodIn wsX4_fewest wsX4_in := goodIn_r _ [7] (by decide +kernel) (by decide +kernel)
set_option maxRecDepth 20000 in
theorem gX4_fewest_X4_in : GoodIn wsX4_fewest (va_wsS RX4 46 yX4_in wsX4_in) := goodIn_app (goodIn_of _ (by decide +kernel)) ggX4_fewest_X4_in
set_option maxRecDepth 20000 in
theorem ggX4_fewest_X4_layFewest : GoodIn wsX4_fewest wsX4_layFewest := goodIn_r _ [11, 3, 2, 12, 13, 6, 14, 15, 16, 17, 18, 19, 20, 21, 22, 23, 24, 25, 26, 27, 28, 29, 30, 31, 4, 5, 7, 32, 33, 34, 35, 36, 37, 38, 39, 40, 41, 42, 43, 44, 45, 46, 47, 48, 49, 50, 51, 52, 53, 54, 55, 56, 57, 58, 59, 60, 61, 62, 63, 64, 65, 66, 67, 68, 69, 70, 71, 72, 73, 74] (by decide +kernel) (by decide +kernel)
set_option maxRecDepth 20000 in
theorem gX4_fewest_X4_layFewest : GoodIn wsX4_fewest (wsV RX4 151 RX4 yX4_layFewest wsX4_layFewest) := goodIn_app (goodIn_of _ (by decide +kernel)) ggX4_fewest_X4_layFewest
theorem dX4_fewest_0 : decode cX4_fewest 0 = .ok (.iload_n 1, 1) := by decide +kernel
theorem dX4_fewest_1 : decode cX4_fewest 1 = .ok (.i2l, 1) := by decide +kernel
theorem dX4_fewest_2 : decode cX4_fewest 2 = .ok (.lconst 0, 1) := by decide +kernel
theorem dX4_fewest_3 : decode cX4_fewest 3 = .ok (.ldc2_w 119, 3) := by decide +kernel
theorem dX4_fewest_6 : decode cX4_fewest 6 = .ok (.invokestatic 46, 3) := by decide +kernel
theorem dX4_fewest_9 : decode cX4_fewest 9 = .ok (.ifCond .ne 6, 3) := by decide +kernel
theorem dX4_fewest_12 : decode cX4_fewest 12 = .ok (.bipush (-2), 2) := by decide +kernel
theorem dX4_fewest_14 : decode cX4_fewest 14 = .ok (.ireturn, 1) := by decide +kernel
theorem dX4_fewest_15 : decode cX4_fewest 15 = .ok (.aload_n 0, 1) := by decide +kernel
theorem dX4_fewest_16 : decode cX4_fewest 16 = .ok (.aload_n 0, 1) := by decide +kernel
theorem dX4_fewest_17 : decode cX4_fewest 17 = .ok (.getfield 16, 3) := by decide +kernel
theorem dX4_fewest_20 : decode cX4_fewest 20 = .ok (.iconst 0, 1) := by decide +kernel
theorem dX4_fewest_21 : decode cX4_fewest 21 = .ok (.iaload, 1) := by decide +kernel
theorem dX4_fewest_22 : decode cX4_fewest 22 = .ok (.iload_n 1, 1) := by decide +kernel
theorem dX4_fewest_23 : decode cX4_fewest 23 = .ok (.invokevirtual 151, 3) := by decide +kernel
theorem dX4_fewest_26 : decode cX4_fewest 26 = .ok (.istore_n 3, 1) := by decide +kernel
theorem dX4_fewest_27 : decode cX4_fewest 27 = .ok (.iload_n 2, 1) := by decide +kernel
theorem dX4_fewest_28 : decode cX4_fewest 28 = .ok (.ifCond .eq 10, 3) := by decide +kernel
theorem dX4_fewest_31 : decode cX4_fewest 31 = .ok (.aload_n 0, 1) := by decide +kernel
theorem dX4_fewest_32 : decode cX4_fewest 32 = .ok (.getfield 148, 3) := by decide +kernel
theorem dX4_fewest_35 : decode cX4_fewest 35 = .ok (.goto 4, 3) := by decide +kernel
theorem dX4_fewest_38 : decode cX4_fewest 38 = .ok (.iload_n 3, 1) := by decide +kernel
theorem dX4_fewest_39 : decode cX4_fewest 39 = .ok (.ireturn, 1) := by decide +kernel
set_option maxRecDepth 20000 in
theorem ggX4_canBy_X4_sevens : GoodIn wsX4_canBy wsX4_sevens := goodIn_r _ [5] (by decide +kernel) (by decide +kernel)
set_option maxRecDepth 20000 in
theorem gX4_canBy_X4_sevens : GoodIn wsX4_canBy (va_wsS RX4 141 yX4_sevens wsX4_sevens) := goodIn_app (goodIn_of _ (by decide +kernel)) ggX4_canBy_X4_sevens
set_option maxRecDepth 20000 in
theorem ggX4_canBy_X4_rowOf : GoodIn wsX4_canBy wsX4_rowOf := goodIn_r _ [8] (by decide +kernel) (by decide +kernel)
set_option maxRecDepth 20000 in
theorem gX4_canBy_X4_rowOf : GoodIn wsX4_canBy (va_wsS RX4 144 yX4_rowOf wsX4_rowOf) := goodIn_app (goodIn_of _ (by decide +kernel)) ggX4_canBy_X4_rowOf
set_option maxRecDepth 20000 in
theorem ggX4_canBy_X4_sayRow : GoodIn wsX4_canBy wsX4_sayRow := goodIn_r _ [12, 13, 14, 15, 16, 4, 17, 1, 18, 19, 20, 21, 22, 23, 24, 25, 26, 27, 28, 29, 30, 31, 32, 33, 34, 35, 36, 37, 38, 39, 40, 41, 42, 43, 44, 45, 46, 47, 48, 49, 50, 51, 52, 53, 54, 55, 56, 57, 58, 59, 60, 61, 62, 63, 64, 65, 66, 67, 68] (by decide +kernel) (by decide +kernel)
set_option maxRecDepth 20000 in
theorem gX4_canBy_X4_sayRow : GoodIn wsX4_canBy (wsV RX4 138 RX4 yX4_sayRow wsX4_sayRow) := goodIn_app (goodIn_of _ (by decide +kernel)) ggX4_canBy_X4_sayRow
theorem dX4_canBy_0 : decode cX4_canBy 0 = .ok (.iconst 0, 1) := by decide +kernel
theorem dX4_canBy_1 : decode cX4_canBy 1 = .ok (.istore_n 3, 1) := by decide +kernel
theorem dX4_canBy_2 : decode cX4_canBy 2 = .ok (.iconst 0, 1) := by decide +kernel
theorem dX4_canBy_3 : decode cX4_canBy 3 = .ok (.istore 4, 2) := by decide +kernel
theorem dX4_canBy_5 : decode cX4_canBy 5 = .ok (.iload 4, 2) := by decide +kernel
theorem dX4_canBy_7 : decode cX4_canBy 7 = .ok (.iload_n 2, 1) := by decide +kernel
theorem dX4_canBy_8 : decode cX4_canBy 8 = .ok (.if_icmp .gt 63, 3) := by decide +kernel
theorem dX4_canBy_11 : decode cX4_canBy 11 = .ok (.iconst 0, 1) := by decide +kernel
theorem dX4_canBy_12 : decode cX4_canBy 12 = .ok (.istore 5, 2) := by decide +kernel
theorem dX4_canBy_14 : decode cX4_canBy 14 = .ok (.iload 5, 2) := by decide +kernel
theorem dX4_canBy_16 : decode cX4_canBy 16 = .ok (.iload 4, 2) := by decide +kernel
theorem dX4_canBy_18 : decode cX4_canBy 18 = .ok (.invokestatic 141, 3) := by decide +kernel
theorem dX4_canBy_21 : decode cX4_canBy 21 = .ok (.if_icmp .ge 44, 3) := by decide +kernel
theorem dX4_canBy_24 : decode cX4_canBy 24 = .ok (.iload_n 3, 1) := by decide +kernel
theorem dX4_canBy_25 : decode cX4_canBy 25 = .ok (.aload_n 0, 1) := by decide +kernel
theorem dX4_canBy_26 : decode cX4_canBy 26 = .ok (.iload_n 1, 1) := by decide +kernel
theorem dX4_canBy_27 : decode cX4_canBy 27 = .ok (.iload 4, 2) := by decide +kernel
theorem dX4_canBy_29 : decode cX4_canBy 29 = .ok (.iload 5, 2) := by decide +kernel
theorem dX4_canBy_31 : decode cX4_canBy 31 = .ok (.iload 4, 2) := by decide +kernel
theorem dX4_canBy_33 : decode cX4_canBy 33 = .ok (.invokestatic 144, 3) := by decide +kernel
theorem dX4_canBy_36 : decode cX4_canBy 36 = .ok (.invokevirtual 138, 3) := by decide +kernel
theorem dX4_canBy_39 : decode cX4_canBy 39 = .ok (.bipush (-9), 2) := by decide +kernel
theorem dX4_canBy_41 : decode cX4_canBy 41 = .ok (.if_icmp .ne 15, 3) := by decide +kernel
theorem dX4_canBy_44 : decode cX4_canBy 44 = .ok (.iconst 1, 1) := by decide +kernel
theorem dX4_canBy_45 : decode cX4_canBy 45 = .ok (.aload_n 0, 1) := by decide +kernel
theorem dX4_canBy_46 : decode cX4_canBy 46 = .ok (.getfield 16, 3) := by decide +kernel
theorem dX4_canBy_49 : decode cX4_canBy 49 = .ok (.bipush 49, 2) := by decide +kernel
theorem dX4_canBy_51 : decode cX4_canBy 51 = .ok (.iaload, 1) := by decide +kernel
theorem dX4_canBy_52 : decode cX4_canBy 52 = .ok (.ishl, 1) := by decide +kernel
theorem dX4_canBy_53 : decode cX4_canBy 53 = .ok (.goto 4, 3) := by decide +kernel
theorem dX4_canBy_56 : decode cX4_canBy 56 = .ok (.iconst 0, 1) := by decide +kernel
theorem dX4_canBy_57 : decode cX4_canBy 57 = .ok (.ior, 1) := by decide +kernel
theorem dX4_canBy_58 : decode cX4_canBy 58 = .ok (.istore_n 3, 1) := by decide +kernel
theorem dX4_canBy_59 : decode cX4_canBy 59 = .ok (.iinc 5 1, 3) := by decide +kernel
theorem dX4_canBy_62 : decode cX4_canBy 62 = .ok (.goto (-48), 3) := by decide +kernel
theorem dX4_canBy_65 : decode cX4_canBy 65 = .ok (.iinc 4 1, 3) := by decide +kernel
theorem dX4_canBy_68 : decode cX4_canBy 68 = .ok (.goto (-63), 3) := by decide +kernel
theorem dX4_canBy_71 : decode cX4_canBy 71 = .ok (.iload_n 3, 1) := by decide +kernel
theorem dX4_canBy_72 : decode cX4_canBy 72 = .ok (.ireturn, 1) := by decide +kernel
set_option maxRecDepth 20000 in
theorem ggX4_can_X4_in : GoodIn wsX4_can wsX4_in := goodIn_r _ [6] (by decide +kernel) (by decide +kernel)
set_option maxRecDepth 20000 in
theorem gX4_can_X4_in : GoodIn wsX4_can (va_wsS RX4 46 yX4_in wsX4_in) := goodIn_app (goodIn_of _ (by decide +kernel)) ggX4_can_X4_in
set_option maxRecDepth 20000 in
theorem ggX4_can_X4_canBy : GoodIn wsX4_can wsX4_canBy := goodIn_r _ [10, 2, 11, 12, 5, 13, 14, 15, 16, 17, 18, 19, 20, 21, 22, 23, 24, 25, 26, 27, 28, 29, 30, 3, 4, 6, 31, 32, 33, 34, 35, 36, 37, 38, 39, 40, 41, 42, 43, 44, 45, 46, 47, 48, 49, 50, 51, 52, 53, 54, 55, 56, 57, 58, 59, 60, 61, 62, 63, 64, 65, 66, 67, 68, 69, 70, 71, 72, 73] (by decide +kernel) (by decide +kernel)
set_option maxRecDepth 20000 in
theorem gX4_can_X4_canBy : GoodIn wsX4_can (wsV RX4 154 RX4 yX4_canBy wsX4_canBy) := goodIn_app (goodIn_of _ (by decide +kernel)) ggX4_can_X4_canBy
theorem dX4_can_0 : decode cX4_can 0 = .ok (.iload_n 1, 1) := by decide +kernel
theorem dX4_can_1 : decode cX4_can 1 = .ok (.i2l, 1) := by decide +kernel
theorem dX4_can_2 : decode cX4_can 2 = .ok (.lconst 0, 1) := by decide +kernel
theorem dX4_can_3 : decode cX4_can 3 = .ok (.ldc2_w 117, 3) := by decide +kernel
theorem dX4_can_6 : decode cX4_can 6 = .ok (.invokestatic 46, 3) := by decide +kernel
theorem dX4_can_9 : decode cX4_can 9 = .ok (.ifCond .eq 17, 3) := by decide +kernel
theorem dX4_can_12 : decode cX4_can 12 = .ok (.aload_n 0, 1) := by decide +kernel
theorem dX4_can_13 : decode cX4_can 13 = .ok (.aload_n 0, 1) := by decide +kernel
theorem dX4_can_14 : decode cX4_can 14 = .ok (.getfield 16, 3) := by decide +kernel
theorem dX4_can_17 : decode cX4_can 17 = .ok (.iconst 0, 1) := by decide +kernel
theorem dX4_can_18 : decode cX4_can 18 = .ok (.iaload, 1) := by decide +kernel
theorem dX4_can_19 : decode cX4_can 19 = .ok (.iload_n 1, 1) := by decide +kernel
theorem dX4_can_20 : decode cX4_can 20 = .ok (.invokevirtual 154, 3) := by decide +kernel
theorem dX4_can_23 : decode cX4_can 23 = .ok (.goto 5, 3) := by decide +kernel
theorem dX4_can_26 : decode cX4_can 26 = .ok (.bipush (-2), 2) := by decide +kernel
theorem dX4_can_28 : decode cX4_can 28 = .ok (.ireturn, 1) := by decide +kernel
set_option maxRecDepth 20000 in
theorem ggX4_hoursOf_X4_has : GoodIn wsX4_hoursOf wsX4_has := goodIn_r _ [5] (by decide +kernel) (by decide +kernel)
set_option maxRecDepth 20000 in
theorem gX4_hoursOf_X4_has : GoodIn wsX4_hoursOf (va_wsS RX4 83 yX4_has wsX4_has) := goodIn_app (goodIn_of _ (by decide +kernel)) ggX4_hoursOf_X4_has
set_option maxRecDepth 20000 in
theorem ggX4_hoursOf_X4_far : GoodIn wsX4_hoursOf wsX4_far := goodIn_r _ [9, 10, 11, 12, 13, 14, 15, 16, 17, 18, 19, 20, 21, 22, 23, 24, 25, 26, 27, 28, 29, 30, 31, 32, 33, 34, 35] (by decide +kernel) (by decide +kernel)
set_option maxRecDepth 20000 in
theorem gX4_hoursOf_X4_far : GoodIn wsX4_hoursOf (wsV RX4 108 RX4 yX4_far wsX4_far) := goodIn_app (goodIn_of _ (by decide +kernel)) ggX4_hoursOf_X4_far
theorem dX4_hoursOf_0 : decode cX4_hoursOf 0 = .ok (.iconst 0, 1) := by decide +kernel
theorem dX4_hoursOf_1 : decode cX4_hoursOf 1 = .ok (.istore_n 2, 1) := by decide +kernel
theorem dX4_hoursOf_2 : decode cX4_hoursOf 2 = .ok (.iconst 0, 1) := by decide +kernel
theorem dX4_hoursOf_3 : decode cX4_hoursOf 3 = .ok (.istore_n 3, 1) := by decide +kernel
theorem dX4_hoursOf_4 : decode cX4_hoursOf 4 = .ok (.iload_n 3, 1) := by decide +kernel
theorem dX4_hoursOf_5 : decode cX4_hoursOf 5 = .ok (.aload_n 0, 1) := by decide +kernel
theorem dX4_hoursOf_6 : decode cX4_hoursOf 6 = .ok (.getfield 74, 3) := by decide +kernel
theorem dX4_hoursOf_9 : decode cX4_hoursOf 9 = .ok (.if_icmp .ge 29, 3) := by decide +kernel
theorem dX4_hoursOf_12 : decode cX4_hoursOf 12 = .ok (.iload_n 2, 1) := by decide +kernel
theorem dX4_hoursOf_13 : decode cX4_hoursOf 13 = .ok (.iload_n 1, 1) := by decide +kernel
theorem dX4_hoursOf_14 : decode cX4_hoursOf 14 = .ok (.iload_n 3, 1) := by decide +kernel
theorem dX4_hoursOf_15 : decode cX4_hoursOf 15 = .ok (.invokestatic 83, 3) := by decide +kernel
theorem dX4_hoursOf_18 : decode cX4_hoursOf 18 = .ok (.ifCond .eq 11, 3) := by decide +kernel
theorem dX4_hoursOf_21 : decode cX4_hoursOf 21 = .ok (.aload_n 0, 1) := by decide +kernel
theorem dX4_hoursOf_22 : decode cX4_hoursOf 22 = .ok (.iload_n 3, 1) := by decide +kernel
theorem dX4_hoursOf_23 : decode cX4_hoursOf 23 = .ok (.invokevirtual 108, 3) := by decide +kernel
theorem dX4_hoursOf_26 : decode cX4_hoursOf 26 = .ok (.goto 4, 3) := by decide +kernel
theorem dX4_hoursOf_29 : decode cX4_hoursOf 29 = .ok (.iconst 0, 1) := by decide +kernel
theorem dX4_hoursOf_30 : decode cX4_hoursOf 30 = .ok (.iadd, 1) := by decide +kernel
theorem dX4_hoursOf_31 : decode cX4_hoursOf 31 = .ok (.istore_n 2, 1) := by decide +kernel
theorem dX4_hoursOf_32 : decode cX4_hoursOf 32 = .ok (.iinc 3 1, 3) := by decide +kernel
theorem dX4_hoursOf_35 : decode cX4_hoursOf 35 = .ok (.goto (-31), 3) := by decide +kernel
theorem dX4_hoursOf_38 : decode cX4_hoursOf 38 = .ok (.iload_n 2, 1) := by decide +kernel
theorem dX4_hoursOf_39 : decode cX4_hoursOf 39 = .ok (.ireturn, 1) := by decide +kernel
set_option maxRecDepth 20000 in
theorem ggX4_toFetch_X4_in : GoodIn wsX4_toFetch wsX4_in := goodIn_r _ [7] (by decide +kernel) (by decide +kernel)
set_option maxRecDepth 20000 in
theorem gX4_toFetch_X4_in : GoodIn wsX4_toFetch (va_wsS RX4 46 yX4_in wsX4_in) := goodIn_app (goodIn_of _ (by decide +kernel)) ggX4_toFetch_X4_in
set_option maxRecDepth 20000 in
theorem ggX4_toFetch_X4_hoursOf : GoodIn wsX4_toFetch wsX4_hoursOf := goodIn_r _ [11, 2, 12, 13, 6, 14, 15, 16, 17, 18, 19, 20, 65, 66, 67, 68, 69, 70, 71, 72, 73, 74, 75, 76, 77, 78, 79, 80, 81, 82, 83, 84, 85, 86, 87, 88] (by decide +kernel) (by decide +kernel)
set_option maxRecDepth 20000 in
theorem gX4_toFetch_X4_hoursOf : GoodIn wsX4_toFetch (wsV RX4 157 RX4 yX4_hoursOf wsX4_hoursOf) := goodIn_app (goodIn_of _ (by decide +kernel)) ggX4_toFetch_X4_hoursOf
set_option maxRecDepth 20000 in
theorem ggX4_toFetch_X4_ones : GoodIn wsX4_toFetch wsX4_ones := goodIn_r _ [23] (by decide +kernel) (by decide +kernel)
set_option maxRecDepth 20000 in
theorem gX4_toFetch_X4_ones : GoodIn wsX4_toFetch (va_wsS RX4 111 yX4_ones wsX4_ones) := goodIn_app (goodIn_of _ (by decide +kernel)) ggX4_toFetch_X4_ones
set_option maxRecDepth 20000 in
theorem ggX4_toFetch_X4_layFewest : GoodIn wsX4_toFetch wsX4_layFewest := goodIn_r _ [27, 28, 3, 29, 30, 6, 31, 32, 33, 34, 35, 36, 37, 38, 39, 40, 41, 42, 43, 44, 45, 46, 47, 48, 4, 5, 7, 49, 50, 51, 52, 53, 12, 13, 14, 54, 55, 56, 57, 58, 59, 60, 61, 62, 63, 64, 65, 66, 67, 68, 69, 70, 71, 72, 73, 74, 75, 76, 77, 78, 79, 80, 81, 82, 83, 84, 85, 86, 87, 88] (by decide +kernel) (by decide +kernel)
set_option maxRecDepth 20000 in
theorem gX4_toFetch_X4_layFewest : GoodIn wsX4_toFetch (wsV RX4 151 RX4 yX4_layFewest wsX4_layFewest) := goodIn_app (goodIn_of _ (by decide +kernel)) ggX4_toFetch_X4_layFewest
theorem dX4_toFetch_0 : decode cX4_toFetch 0 = .ok (.iload_n 1, 1) := by decide +kernel
theorem dX4_toFetch_1 : decode cX4_toFetch 1 = .ok (.i2l, 1) := by decide +kernel
theorem dX4_toFetch_2 : decode cX4_toFetch 2 = .ok (.lconst 0, 1) := by decide +kernel
theorem dX4_toFetch_3 : decode cX4_toFetch 3 = .ok (.ldc2_w 119, 3) := by decide +kernel
theorem dX4_toFetch_6 : decode cX4_toFetch 6 = .ok (.invokestatic 46, 3) := by decide +kernel
theorem dX4_toFetch_9 : decode cX4_toFetch 9 = .ok (.ifCond .ne 6, 3) := by decide +kernel
theorem dX4_toFetch_12 : decode cX4_toFetch 12 = .ok (.bipush (-2), 2) := by decide +kernel
theorem dX4_toFetch_14 : decode cX4_toFetch 14 = .ok (.ireturn, 1) := by decide +kernel
theorem dX4_toFetch_15 : decode cX4_toFetch 15 = .ok (.bipush (-9), 2) := by decide +kernel
theorem dX4_toFetch_17 : decode cX4_toFetch 17 = .ok (.istore_n 3, 1) := by decide +kernel
theorem dX4_toFetch_18 : decode cX4_toFetch 18 = .ok (.iconst 0, 1) := by decide +kernel
theorem dX4_toFetch_19 : decode cX4_toFetch 19 = .ok (.istore 4, 2) := by decide +kernel
theorem dX4_toFetch_21 : decode cX4_toFetch 21 = .ok (.iload 4, 2) := by decide +kernel
theorem dX4_toFetch_23 : decode cX4_toFetch 23 = .ok (.iconst 1, 1) := by decide +kernel
theorem dX4_toFetch_24 : decode cX4_toFetch 24 = .ok (.aload_n 0, 1) := by decide +kernel
theorem dX4_toFetch_25 : decode cX4_toFetch 25 = .ok (.getfield 74, 3) := by decide +kernel
theorem dX4_toFetch_28 : decode cX4_toFetch 28 = .ok (.ishl, 1) := by decide +kernel
theorem dX4_toFetch_29 : decode cX4_toFetch 29 = .ok (.if_icmp .ge 117, 3) := by decide +kernel
theorem dX4_toFetch_32 : decode cX4_toFetch 32 = .ok (.iload 4, 2) := by decide +kernel
theorem dX4_toFetch_34 : decode cX4_toFetch 34 = .ok (.aload_n 0, 1) := by decide +kernel
theorem dX4_toFetch_35 : decode cX4_toFetch 35 = .ok (.getfield 16, 3) := by decide +kernel
theorem dX4_toFetch_38 : decode cX4_toFetch 38 = .ok (.iconst 0, 1) := by decide +kernel
theorem dX4_toFetch_39 : decode cX4_toFetch 39 = .ok (.iaload, 1) := by decide +kernel
theorem dX4_toFetch_40 : decode cX4_toFetch 40 = .ok (.iand, 1) := by decide +kernel
theorem dX4_toFetch_41 : decode cX4_toFetch 41 = .ok (.ifCond .ne 7, 3) := by decide +kernel
theorem dX4_toFetch_44 : decode cX4_toFetch 44 = .ok (.iconst 1, 1) := by decide +kernel
theorem dX4_toFetch_45 : decode cX4_toFetch 45 = .ok (.goto 4, 3) := by decide +kernel
theorem dX4_toFetch_48 : decode cX4_toFetch 48 = .ok (.iconst 0, 1) := by decide +kernel
theorem dX4_toFetch_49 : decode cX4_toFetch 49 = .ok (.istore 5, 2) := by decide +kernel
theorem dX4_toFetch_51 : decode cX4_toFetch 51 = .ok (.iload_n 3, 1) := by decide +kernel
theorem dX4_toFetch_52 : decode cX4_toFetch 52 = .ok (.bipush (-9), 2) := by decide +kernel
theorem dX4_toFetch_54 : decode cX4_toFetch 54 = .ok (.if_icmp .ne 7, 3) := by decide +kernel
theorem dX4_toFetch_57 : decode cX4_toFetch 57 = .ok (.iconst 1, 1) := by decide +kernel
theorem dX4_toFetch_58 : decode cX4_toFetch 58 = .ok (.goto 15, 3) := by decide +kernel
theorem dX4_toFetch_61 : decode cX4_toFetch 61 = .ok (.aload_n 0, 1) := by decide +kernel
theorem dX4_toFetch_62 : decode cX4_toFetch 62 = .ok (.iload_n 3, 1) := by decide +kernel
theorem dX4_toFetch_63 : decode cX4_toFetch 63 = .ok (.invokevirtual 157, 3) := by decide +kernel
theorem dX4_toFetch_66 : decode cX4_toFetch 66 = .ok (.aload_n 0, 1) := by decide +kernel
theorem dX4_toFetch_67 : decode cX4_toFetch 67 = .ok (.iload 4, 2) := by decide +kernel
theorem dX4_toFetch_69 : decode cX4_toFetch 69 = .ok (.invokevirtual 157, 3) := by decide +kernel
theorem dX4_toFetch_72 : decode cX4_toFetch 72 = .ok (.isub, 1) := by decide +kernel
theorem dX4_toFetch_73 : decode cX4_toFetch 73 = .ok (.istore 6, 2) := by decide +kernel
theorem dX4_toFetch_75 : decode cX4_toFetch 75 = .ok (.iload 5, 2) := by decide +kernel
theorem dX4_toFetch_77 : decode cX4_toFetch 77 = .ok (.ifCond .eq 29, 3) := by decide +kernel
theorem dX4_toFetch_80 : decode cX4_toFetch 80 = .ok (.iload 6, 2) := by decide +kernel
theorem dX4_toFetch_82 : decode cX4_toFetch 82 = .ok (.ifCond .gt 20, 3) := by decide +kernel
theorem dX4_toFetch_85 : decode cX4_toFetch 85 = .ok (.iload 6, 2) := by decide +kernel
theorem dX4_toFetch_87 : decode cX4_toFetch 87 = .ok (.ifCond .ne 19, 3) := by decide +kernel
theorem dX4_toFetch_90 : decode cX4_toFetch 90 = .ok (.iload 4, 2) := by decide +kernel
theorem dX4_toFetch_92 : decode cX4_toFetch 92 = .ok (.invokestatic 111, 3) := by decide +kernel
theorem dX4_toFetch_95 : decode cX4_toFetch 95 = .ok (.iload_n 3, 1) := by decide +kernel
theorem dX4_toFetch_96 : decode cX4_toFetch 96 = .ok (.invokestatic 111, 3) := by decide +kernel
theorem dX4_toFetch_99 : decode cX4_toFetch 99 = .ok (.if_icmp .ge 7, 3) := by decide +kernel
theorem dX4_toFetch_102 : decode cX4_toFetch 102 = .ok (.iconst 1, 1) := by decide +kernel
theorem dX4_toFetch_103 : decode cX4_toFetch 103 = .ok (.goto 4, 3) := by decide +kernel
theorem dX4_toFetch_106 : decode cX4_toFetch 106 = .ok (.iconst 0, 1) := by decide +kernel
theorem dX4_toFetch_107 : decode cX4_toFetch 107 = .ok (.istore 7, 2) := by decide +kernel
theorem dX4_toFetch_109 : decode cX4_toFetch 109 = .ok (.iload 7, 2) := by decide +kernel
theorem dX4_toFetch_111 : decode cX4_toFetch 111 = .ok (.ifCond .eq 27, 3) := by decide +kernel
theorem dX4_toFetch_114 : decode cX4_toFetch 114 = .ok (.aload_n 0, 1) := by decide +kernel
theorem dX4_toFetch_115 : decode cX4_toFetch 115 = .ok (.aload_n 0, 1) := by decide +kernel
theorem dX4_toFetch_116 : decode cX4_toFetch 116 = .ok (.getfield 16, 3) := by decide +kernel
theorem dX4_toFetch_119 : decode cX4_toFetch 119 = .ok (.iconst 0, 1) := by decide +kernel
theorem dX4_toFetch_120 : decode cX4_toFetch 120 = .ok (.iaload, 1) := by decide +kernel
theorem dX4_toFetch_121 : decode cX4_toFetch 121 = .ok (.iload 4, 2) := by decide +kernel
theorem dX4_toFetch_123 : decode cX4_toFetch 123 = .ok (.ior, 1) := by decide +kernel
theorem dX4_toFetch_124 : decode cX4_toFetch 124 = .ok (.iload_n 1, 1) := by decide +kernel
theorem dX4_toFetch_125 : decode cX4_toFetch 125 = .ok (.invokevirtual 151, 3) := by decide +kernel
theorem dX4_toFetch_128 : decode cX4_toFetch 128 = .ok (.bipush (-9), 2) := by decide +kernel
theorem dX4_toFetch_130 : decode cX4_toFetch 130 = .ok (.if_icmp .eq 8, 3) := by decide +kernel
theorem dX4_toFetch_133 : decode cX4_toFetch 133 = .ok (.iload 4, 2) := by decide +kernel
theorem dX4_toFetch_135 : decode cX4_toFetch 135 = .ok (.goto 4, 3) := by decide +kernel
theorem dX4_toFetch_138 : decode cX4_toFetch 138 = .ok (.iload_n 3, 1) := by decide +kernel
theorem dX4_toFetch_139 : decode cX4_toFetch 139 = .ok (.istore_n 3, 1) := by decide +kernel
theorem dX4_toFetch_140 : decode cX4_toFetch 140 = .ok (.iinc 4 1, 3) := by decide +kernel
theorem dX4_toFetch_143 : decode cX4_toFetch 143 = .ok (.goto (-122), 3) := by decide +kernel
theorem dX4_toFetch_146 : decode cX4_toFetch 146 = .ok (.iload_n 3, 1) := by decide +kernel
theorem dX4_toFetch_147 : decode cX4_toFetch 147 = .ok (.bipush (-9), 2) := by decide +kernel
theorem dX4_toFetch_149 : decode cX4_toFetch 149 = .ok (.if_icmp .eq 7, 3) := by decide +kernel
theorem dX4_toFetch_152 : decode cX4_toFetch 152 = .ok (.iload_n 2, 1) := by decide +kernel
theorem dX4_toFetch_153 : decode cX4_toFetch 153 = .ok (.ifCond .ne 7, 3) := by decide +kernel
theorem dX4_toFetch_156 : decode cX4_toFetch 156 = .ok (.iload_n 3, 1) := by decide +kernel
theorem dX4_toFetch_157 : decode cX4_toFetch 157 = .ok (.goto 8, 3) := by decide +kernel
theorem dX4_toFetch_160 : decode cX4_toFetch 160 = .ok (.aload_n 0, 1) := by decide +kernel
theorem dX4_toFetch_161 : decode cX4_toFetch 161 = .ok (.iload_n 3, 1) := by decide +kernel
theorem dX4_toFetch_162 : decode cX4_toFetch 162 = .ok (.invokevirtual 157, 3) := by decide +kernel
theorem dX4_toFetch_165 : decode cX4_toFetch 165 = .ok (.ireturn, 1) := by decide +kernel
set_option maxRecDepth 20000 in
theorem ggX4_needed_X4_canBy : GoodIn wsX4_needed wsX4_canBy := goodIn_r _ [7, 1, 8, 9, 6, 10, 11, 12, 13, 14, 15, 16, 17, 18, 19, 20, 21, 22, 23, 24, 25, 26, 27, 28, 29, 30, 31, 32, 33, 34, 35, 36, 37, 38, 39, 40, 41, 42, 43, 44, 45, 46, 47, 48, 49, 53, 54, 55, 56, 57, 58, 59, 60, 61, 62, 63, 64, 65, 66, 67, 68, 69, 70, 71, 72, 73, 74, 75, 76] (by decide +kernel) (by decide +kernel)
set_option maxRecDepth 20000 in
theorem gX4_needed_X4_canBy : GoodIn wsX4_needed (wsV RX4 154 RX4 yX4_canBy wsX4_canBy) := goodIn_app (goodIn_of _ (by decide +kernel)) ggX4_needed_X4_canBy
set_option maxRecDepth 20000 in
theorem ggX4_needed_X4_ones : GoodIn wsX4_needed wsX4_ones := goodIn_r _ [52] (by decide +kernel) (by decide +kernel)
set_option maxRecDepth 20000 in
theorem gX4_needed_X4_ones : GoodIn wsX4_needed (va_wsS RX4 111 yX4_ones wsX4_ones) := goodIn_app (goodIn_of _ (by decide +kernel)) ggX4_needed_X4_ones
theorem dX4_needed_0 : decode cX4_needed 0 = .ok (.aload_n 0, 1) := by decide +kernel
theorem dX4_needed_1 : decode cX4_needed 1 = .ok (.aload_n 0, 1) := by decide +kernel
theorem dX4_needed_2 : decode cX4_needed 2 = .ok (.getfield 16, 3) := by decide +kernel
theorem dX4_needed_5 : decode cX4_needed 5 = .ok (.iconst 0, 1) := by decide +kernel
theorem dX4_needed_6 : decode cX4_needed 6 = .ok (.iaload, 1) := by decide +kernel
theorem dX4_needed_7 : decode cX4_needed 7 = .ok (.iconst 3, 1) := by decide +kernel
theorem dX4_needed_8 : decode cX4_needed 8 = .ok (.invokevirtual 154, 3) := by decide +kernel
theorem dX4_needed_11 : decode cX4_needed 11 = .ok (.istore_n 1, 1) := by decide +kernel
theorem dX4_needed_12 : decode cX4_needed 12 = .ok (.aload_n 0, 1) := by decide +kernel
theorem dX4_needed_13 : decode cX4_needed 13 = .ok (.getfield 16, 3) := by decide +kernel
theorem dX4_needed_16 : decode cX4_needed 16 = .ok (.iconst 0, 1) := by decide +kernel
theorem dX4_needed_17 : decode cX4_needed 17 = .ok (.iaload, 1) := by decide +kernel
theorem dX4_needed_18 : decode cX4_needed 18 = .ok (.istore_n 2, 1) := by decide +kernel
theorem dX4_needed_19 : decode cX4_needed 19 = .ok (.iconst 0, 1) := by decide +kernel
theorem dX4_needed_20 : decode cX4_needed 20 = .ok (.istore_n 3, 1) := by decide +kernel
theorem dX4_needed_21 : decode cX4_needed 21 = .ok (.iload_n 3, 1) := by decide +kernel
theorem dX4_needed_22 : decode cX4_needed 22 = .ok (.iconst 1, 1) := by decide +kernel
theorem dX4_needed_23 : decode cX4_needed 23 = .ok (.aload_n 0, 1) := by decide +kernel
theorem dX4_needed_24 : decode cX4_needed 24 = .ok (.getfield 74, 3) := by decide +kernel
theorem dX4_needed_27 : decode cX4_needed 27 = .ok (.ishl, 1) := by decide +kernel
theorem dX4_needed_28 : decode cX4_needed 28 = .ok (.if_icmp .ge 61, 3) := by decide +kernel
theorem dX4_needed_31 : decode cX4_needed 31 = .ok (.iload_n 3, 1) := by decide +kernel
theorem dX4_needed_32 : decode cX4_needed 32 = .ok (.aload_n 0, 1) := by decide +kernel
theorem dX4_needed_33 : decode cX4_needed 33 = .ok (.getfield 16, 3) := by decide +kernel
theorem dX4_needed_36 : decode cX4_needed 36 = .ok (.iconst 0, 1) := by decide +kernel
theorem dX4_needed_37 : decode cX4_needed 37 = .ok (.iaload, 1) := by decide +kernel
theorem dX4_needed_38 : decode cX4_needed 38 = .ok (.iconst (-1), 1) := by decide +kernel
theorem dX4_needed_39 : decode cX4_needed 39 = .ok (.ixor, 1) := by decide +kernel
theorem dX4_needed_40 : decode cX4_needed 40 = .ok (.iand, 1) := by decide +kernel
theorem dX4_needed_41 : decode cX4_needed 41 = .ok (.ifCond .ne 18, 3) := by decide +kernel
theorem dX4_needed_44 : decode cX4_needed 44 = .ok (.iload_n 3, 1) := by decide +kernel
theorem dX4_needed_45 : decode cX4_needed 45 = .ok (.invokestatic 111, 3) := by decide +kernel
theorem dX4_needed_48 : decode cX4_needed 48 = .ok (.iload_n 2, 1) := by decide +kernel
theorem dX4_needed_49 : decode cX4_needed 49 = .ok (.invokestatic 111, 3) := by decide +kernel
theorem dX4_needed_52 : decode cX4_needed 52 = .ok (.if_icmp .ge 7, 3) := by decide +kernel
theorem dX4_needed_55 : decode cX4_needed 55 = .ok (.iconst 1, 1) := by decide +kernel
theorem dX4_needed_56 : decode cX4_needed 56 = .ok (.goto 4, 3) := by decide +kernel
theorem dX4_needed_59 : decode cX4_needed 59 = .ok (.iconst 0, 1) := by decide +kernel
theorem dX4_needed_60 : decode cX4_needed 60 = .ok (.istore 4, 2) := by decide +kernel
theorem dX4_needed_62 : decode cX4_needed 62 = .ok (.iload 4, 2) := by decide +kernel
theorem dX4_needed_64 : decode cX4_needed 64 = .ok (.ifCond .eq 17, 3) := by decide +kernel
theorem dX4_needed_67 : decode cX4_needed 67 = .ok (.aload_n 0, 1) := by decide +kernel
theorem dX4_needed_68 : decode cX4_needed 68 = .ok (.iload_n 3, 1) := by decide +kernel
theorem dX4_needed_69 : decode cX4_needed 69 = .ok (.iconst 3, 1) := by decide +kernel
theorem dX4_needed_70 : decode cX4_needed 70 = .ok (.invokevirtual 154, 3) := by decide +kernel
theorem dX4_needed_73 : decode cX4_needed 73 = .ok (.iload_n 1, 1) := by decide +kernel
theorem dX4_needed_74 : decode cX4_needed 74 = .ok (.if_icmp .ne 7, 3) := by decide +kernel
theorem dX4_needed_77 : decode cX4_needed 77 = .ok (.iload_n 3, 1) := by decide +kernel
theorem dX4_needed_78 : decode cX4_needed 78 = .ok (.goto 4, 3) := by decide +kernel
theorem dX4_needed_81 : decode cX4_needed 81 = .ok (.iload_n 2, 1) := by decide +kernel
theorem dX4_needed_82 : decode cX4_needed 82 = .ok (.istore_n 2, 1) := by decide +kernel
theorem dX4_needed_83 : decode cX4_needed 83 = .ok (.iinc 3 1, 3) := by decide +kernel
theorem dX4_needed_86 : decode cX4_needed 86 = .ok (.goto (-65), 3) := by decide +kernel
theorem dX4_needed_89 : decode cX4_needed 89 = .ok (.iload_n 2, 1) := by decide +kernel
theorem dX4_needed_90 : decode cX4_needed 90 = .ok (.ireturn, 1) := by decide +kernel
set_option maxRecDepth 20000 in
theorem ggX4_naming_X4_in : GoodIn wsX4_naming wsX4_in := goodIn_r _ [8] (by decide +kernel) (by decide +kernel)
set_option maxRecDepth 20000 in
theorem gX4_naming_X4_in : GoodIn wsX4_naming (va_wsS RX4 46 yX4_in wsX4_in) := goodIn_app (goodIn_of _ (by decide +kernel)) ggX4_naming_X4_in
set_option maxRecDepth 20000 in
theorem ggX4_naming_X4_canBy : GoodIn wsX4_naming wsX4_canBy := goodIn_r _ [12, 4, 13, 14, 7, 15, 16, 17, 18, 19, 20, 21, 22, 23, 24, 25, 26, 27, 2, 3, 28, 29, 30, 5, 6, 8, 31, 32, 33, 34, 35, 36, 37, 38, 39, 40, 41, 42, 43, 44, 45, 46, 47, 48, 49, 53, 54, 55, 56, 57, 58, 59, 60, 61, 62, 63, 64, 65, 66, 67, 68, 69, 70, 71, 72, 73, 74, 75, 76] (by decide +kernel) (by decide +kernel)
set_option maxRecDepth 20000 in
theorem gX4_naming_X4_canBy : GoodIn wsX4_naming (wsV RX4 154 RX4 yX4_canBy wsX4_canBy) := goodIn_app (goodIn_of _ (by decide +kernel)) ggX4_naming_X4_canBy
set_option maxRecDepth 20000 in
theorem ggX4_naming_X4_ones : GoodIn wsX4_naming wsX4_ones := goodIn_r _ [52] (by decide +kernel) (by decide +kernel)
set_option maxRecDepth 20000 in
theorem gX4_naming_X4_ones : GoodIn wsX4_naming (va_wsS RX4 111 yX4_ones wsX4_ones) := goodIn_app (goodIn_of _ (by decide +kernel)) ggX4_naming_X4_ones
theorem dX4_naming_0 : decode cX4_naming 0 = .ok (.iload_n 1, 1) := by decide +kernel
theorem dX4_naming_1 : decode cX4_naming 1 = .ok (.i2l, 1) := by decide +kernel
theorem dX4_naming_2 : decode cX4_naming 2 = .ok (.lconst 1, 1) := by decide +kernel
theorem dX4_naming_3 : decode cX4_naming 3 = .ok (.ldc2_w 117, 3) := by decide +kernel
theorem dX4_naming_6 : decode cX4_naming 6 = .ok (.invokestatic 46, 3) := by decide +kernel
theorem dX4_naming_9 : decode cX4_naming 9 = .ok (.ifCond .ne 6, 3) := by decide +kernel
theorem dX4_naming_12 : decode cX4_naming 12 = .ok (.bipush (-2), 2) := by decide +kernel
theorem dX4_naming_14 : decode cX4_naming 14 = .ok (.ireturn, 1) := by decide +kernel
theorem dX4_naming_15 : decode cX4_naming 15 = .ok (.iconst 0, 1) := by decide +kernel
theorem dX4_naming_16 : decode cX4_naming 16 = .ok (.istore_n 3, 1) := by decide +kernel
theorem dX4_naming_17 : decode cX4_naming 17 = .ok (.iconst 0, 1) := by decide +kernel
theorem dX4_naming_18 : decode cX4_naming 18 = .ok (.istore 4, 2) := by decide +kernel
theorem dX4_naming_20 : decode cX4_naming 20 = .ok (.iconst 0, 1) := by decide +kernel
theorem dX4_naming_21 : decode cX4_naming 21 = .ok (.istore 5, 2) := by decide +kernel
theorem dX4_naming_23 : decode cX4_naming 23 = .ok (.iload 5, 2) := by decide +kernel
theorem dX4_naming_25 : decode cX4_naming 25 = .ok (.bipush 40, 2) := by decide +kernel
theorem dX4_naming_27 : decode cX4_naming 27 = .ok (.if_icmp .ge 76, 3) := by decide +kernel
theorem dX4_naming_30 : decode cX4_naming 30 = .ok (.aload_n 0, 1) := by decide +kernel
theorem dX4_naming_31 : decode cX4_naming 31 = .ok (.iload 5, 2) := by decide +kernel
theorem dX4_naming_33 : decode cX4_naming 33 = .ok (.bipush 10, 2) := by decide +kernel
theorem dX4_naming_35 : decode cX4_naming 35 = .ok (.idiv, 1) := by decide +kernel
theorem dX4_naming_36 : decode cX4_naming 36 = .ok (.putfield 121, 3) := by decide +kernel
theorem dX4_naming_39 : decode cX4_naming 39 = .ok (.aload_n 0, 1) := by decide +kernel
theorem dX4_naming_40 : decode cX4_naming 40 = .ok (.iload 5, 2) := by decide +kernel
theorem dX4_naming_42 : decode cX4_naming 42 = .ok (.bipush 10, 2) := by decide +kernel
theorem dX4_naming_44 : decode cX4_naming 44 = .ok (.irem, 1) := by decide +kernel
theorem dX4_naming_45 : decode cX4_naming 45 = .ok (.putfield 124, 3) := by decide +kernel
theorem dX4_naming_48 : decode cX4_naming 48 = .ok (.aload_n 0, 1) := by decide +kernel
theorem dX4_naming_49 : decode cX4_naming 49 = .ok (.aload_n 0, 1) := by decide +kernel
theorem dX4_naming_50 : decode cX4_naming 50 = .ok (.getfield 16, 3) := by decide +kernel
theorem dX4_naming_53 : decode cX4_naming 53 = .ok (.iconst 0, 1) := by decide +kernel
theorem dX4_naming_54 : decode cX4_naming 54 = .ok (.iaload, 1) := by decide +kernel
theorem dX4_naming_55 : decode cX4_naming 55 = .ok (.bipush 64, 2) := by decide +kernel
theorem dX4_naming_57 : decode cX4_naming 57 = .ok (.ior, 1) := by decide +kernel
theorem dX4_naming_58 : decode cX4_naming 58 = .ok (.iload_n 1, 1) := by decide +kernel
theorem dX4_naming_59 : decode cX4_naming 59 = .ok (.invokevirtual 154, 3) := by decide +kernel
theorem dX4_naming_62 : decode cX4_naming 62 = .ok (.invokestatic 111, 3) := by decide +kernel
theorem dX4_naming_65 : decode cX4_naming 65 = .ok (.istore 6, 2) := by decide +kernel
theorem dX4_naming_67 : decode cX4_naming 67 = .ok (.iload 6, 2) := by decide +kernel
theorem dX4_naming_69 : decode cX4_naming 69 = .ok (.iload 4, 2) := by decide +kernel
theorem dX4_naming_71 : decode cX4_naming 71 = .ok (.if_icmp .le 8, 3) := by decide +kernel
theorem dX4_naming_74 : decode cX4_naming 74 = .ok (.iload 5, 2) := by decide +kernel
theorem dX4_naming_76 : decode cX4_naming 76 = .ok (.goto 4, 3) := by decide +kernel
theorem dX4_naming_79 : decode cX4_naming 79 = .ok (.iload_n 3, 1) := by decide +kernel
theorem dX4_naming_80 : decode cX4_naming 80 = .ok (.istore_n 3, 1) := by decide +kernel
theorem dX4_naming_81 : decode cX4_naming 81 = .ok (.iload 6, 2) := by decide +kernel
theorem dX4_naming_83 : decode cX4_naming 83 = .ok (.iload 4, 2) := by decide +kernel
theorem dX4_naming_85 : decode cX4_naming 85 = .ok (.if_icmp .le 8, 3) := by decide +kernel
theorem dX4_naming_88 : decode cX4_naming 88 = .ok (.iload 6, 2) := by decide +kernel
theorem dX4_naming_90 : decode cX4_naming 90 = .ok (.goto 5, 3) := by decide +kernel
theorem dX4_naming_93 : decode cX4_naming 93 = .ok (.iload 4, 2) := by decide +kernel
theorem dX4_naming_95 : decode cX4_naming 95 = .ok (.istore 4, 2) := by decide +kernel
theorem dX4_naming_97 : decode cX4_naming 97 = .ok (.iinc 5 1, 3) := by decide +kernel
theorem dX4_naming_100 : decode cX4_naming 100 = .ok (.goto (-77), 3) := by decide +kernel
theorem dX4_naming_103 : decode cX4_naming 103 = .ok (.iload_n 2, 1) := by decide +kernel
theorem dX4_naming_104 : decode cX4_naming 104 = .ok (.ifCond .eq 8, 3) := by decide +kernel
theorem dX4_naming_107 : decode cX4_naming 107 = .ok (.iload 4, 2) := by decide +kernel
theorem dX4_naming_109 : decode cX4_naming 109 = .ok (.goto 4, 3) := by decide +kernel
theorem dX4_naming_112 : decode cX4_naming 112 = .ok (.iload_n 3, 1) := by decide +kernel
theorem dX4_naming_113 : decode cX4_naming 113 = .ok (.ireturn, 1) := by decide +kernel
theorem dX4_whoIn_0 : decode cX4_whoIn 0 = .ok (.iconst 0, 1) := by decide +kernel
theorem dX4_whoIn_1 : decode cX4_whoIn 1 = .ok (.istore_n 1, 1) := by decide +kernel
theorem dX4_whoIn_2 : decode cX4_whoIn 2 = .ok (.iload_n 0, 1) := by decide +kernel
theorem dX4_whoIn_3 : decode cX4_whoIn 3 = .ok (.istore_n 2, 1) := by decide +kernel
theorem dX4_whoIn_4 : decode cX4_whoIn 4 = .ok (.iload_n 2, 1) := by decide +kernel
theorem dX4_whoIn_5 : decode cX4_whoIn 5 = .ok (.ifCond .le 22, 3) := by decide +kernel
theorem dX4_whoIn_8 : decode cX4_whoIn 8 = .ok (.iload_n 1, 1) := by decide +kernel
theorem dX4_whoIn_9 : decode cX4_whoIn 9 = .ok (.iconst 1, 1) := by decide +kernel
theorem dX4_whoIn_10 : decode cX4_whoIn 10 = .ok (.iload_n 2, 1) := by decide +kernel
theorem dX4_whoIn_11 : decode cX4_whoIn 11 = .ok (.bipush 10, 2) := by decide +kernel
theorem dX4_whoIn_13 : decode cX4_whoIn 13 = .ok (.irem, 1) := by decide +kernel
theorem dX4_whoIn_14 : decode cX4_whoIn 14 = .ok (.iconst 1, 1) := by decide +kernel
theorem dX4_whoIn_15 : decode cX4_whoIn 15 = .ok (.isub, 1) := by decide +kernel
theorem dX4_whoIn_16 : decode cX4_whoIn 16 = .ok (.ishl, 1) := by decide +kernel
theorem dX4_whoIn_17 : decode cX4_whoIn 17 = .ok (.ior, 1) := by decide +kernel
theorem dX4_whoIn_18 : decode cX4_whoIn 18 = .ok (.istore_n 1, 1) := by decide +kernel
theorem dX4_whoIn_19 : decode cX4_whoIn 19 = .ok (.iload_n 2, 1) := by decide +kernel
theorem dX4_whoIn_20 : decode cX4_whoIn 20 = .ok (.bipush 10, 2) := by decide +kernel
theorem dX4_whoIn_22 : decode cX4_whoIn 22 = .ok (.idiv, 1) := by decide +kernel
theorem dX4_whoIn_23 : decode cX4_whoIn 23 = .ok (.istore_n 2, 1) := by decide +kernel
theorem dX4_whoIn_24 : decode cX4_whoIn 24 = .ok (.goto (-20), 3) := by decide +kernel
theorem dX4_whoIn_27 : decode cX4_whoIn 27 = .ok (.iload_n 1, 1) := by decide +kernel
theorem dX4_whoIn_28 : decode cX4_whoIn 28 = .ok (.ireturn, 1) := by decide +kernel
set_option maxRecDepth 20000 in
theorem ggX4_spoken_X4_in : GoodIn wsX4_spoken wsX4_in := goodIn_r _ [8] (by decide +kernel) (by decide +kernel)
set_option maxRecDepth 20000 in
theorem gX4_spoken_X4_in : GoodIn wsX4_spoken (va_wsS RX4 46 yX4_in wsX4_in) := goodIn_app (goodIn_of _ (by decide +kernel)) ggX4_spoken_X4_in
set_option maxRecDepth 20000 in
theorem ggX4_spoken_X4_sevens : GoodIn wsX4_spoken wsX4_sevens := goodIn_r _ [11] (by decide +kernel) (by decide +kernel)
set_option maxRecDepth 20000 in
theorem gX4_spoken_X4_sevens : GoodIn wsX4_spoken (va_wsS RX4 141 yX4_sevens wsX4_sevens) := goodIn_app (goodIn_of _ (by decide +kernel)) ggX4_spoken_X4_sevens
set_option maxRecDepth 20000 in
theorem ggX4_spoken_X4_rowOf : GoodIn wsX4_spoken wsX4_rowOf := goodIn_r _ [14] (by decide +kernel) (by decide +kernel)
set_option maxRecDepth 20000 in
theorem gX4_spoken_X4_rowOf : GoodIn wsX4_spoken (va_wsS RX4 144 yX4_rowOf wsX4_rowOf) := goodIn_app (goodIn_of _ (by decide +kernel)) ggX4_spoken_X4_rowOf
set_option maxRecDepth 20000 in
theorem ggX4_spoken_X4_sayRow : GoodIn wsX4_spoken wsX4_sayRow := goodIn_r _ [18, 19, 20, 21, 22, 7, 23, 4, 24, 25, 26, 27, 28, 5, 6, 8, 29, 30, 31, 32, 33, 34, 35, 36, 37, 38, 39, 40, 41, 42, 43, 44, 45, 46, 47, 51, 52, 53, 54, 55, 56, 57, 58, 59, 60, 61, 62, 63, 64, 65, 66, 67, 68, 69, 70, 71, 72, 73, 74] (by decide +kernel) (by decide +kernel)
set_option maxRecDepth 20000 in
theorem gX4_spoken_X4_sayRow : GoodIn wsX4_spoken (wsV RX4 138 RX4 yX4_sayRow wsX4_sayRow) := goodIn_app (goodIn_of _ (by decide +kernel)) ggX4_spoken_X4_sayRow
set_option maxRecDepth 20000 in
theorem ggX4_spoken_X4_whoIn : GoodIn wsX4_spoken wsX4_whoIn := goodIn_r _ [50] (by decide +kernel) (by decide +kernel)
set_option maxRecDepth 20000 in
theorem gX4_spoken_X4_whoIn : GoodIn wsX4_spoken (va_wsS RX4 164 yX4_whoIn wsX4_whoIn) := goodIn_app (goodIn_of _ (by decide +kernel)) ggX4_spoken_X4_whoIn
theorem dX4_spoken_0 : decode cX4_spoken 0 = .ok (.iload_n 1, 1) := by decide +kernel
theorem dX4_spoken_1 : decode cX4_spoken 1 = .ok (.i2l, 1) := by decide +kernel
theorem dX4_spoken_2 : decode cX4_spoken 2 = .ok (.lconst 1, 1) := by decide +kernel
theorem dX4_spoken_3 : decode cX4_spoken 3 = .ok (.ldc2_w 160, 3) := by decide +kernel
theorem dX4_spoken_6 : decode cX4_spoken 6 = .ok (.invokestatic 46, 3) := by decide +kernel
theorem dX4_spoken_9 : decode cX4_spoken 9 = .ok (.ifCond .eq 27, 3) := by decide +kernel
theorem dX4_spoken_12 : decode cX4_spoken 12 = .ok (.iload_n 2, 1) := by decide +kernel
theorem dX4_spoken_13 : decode cX4_spoken 13 = .ok (.i2l, 1) := by decide +kernel
theorem dX4_spoken_14 : decode cX4_spoken 14 = .ok (.lconst 0, 1) := by decide +kernel
theorem dX4_spoken_15 : decode cX4_spoken 15 = .ok (.ldc2_w 119, 3) := by decide +kernel
theorem dX4_spoken_18 : decode cX4_spoken 18 = .ok (.invokestatic 46, 3) := by decide +kernel
theorem dX4_spoken_21 : decode cX4_spoken 21 = .ok (.ifCond .eq 15, 3) := by decide +kernel
theorem dX4_spoken_24 : decode cX4_spoken 24 = .ok (.iload_n 3, 1) := by decide +kernel
theorem dX4_spoken_25 : decode cX4_spoken 25 = .ok (.i2l, 1) := by decide +kernel
theorem dX4_spoken_26 : decode cX4_spoken 26 = .ok (.lconst 0, 1) := by decide +kernel
theorem dX4_spoken_27 : decode cX4_spoken 27 = .ok (.ldc2_w 162, 3) := by decide +kernel
theorem dX4_spoken_30 : decode cX4_spoken 30 = .ok (.invokestatic 46, 3) := by decide +kernel
theorem dX4_spoken_33 : decode cX4_spoken 33 = .ok (.ifCond .ne 6, 3) := by decide +kernel
theorem dX4_spoken_36 : decode cX4_spoken 36 = .ok (.bipush (-2), 2) := by decide +kernel
theorem dX4_spoken_38 : decode cX4_spoken 38 = .ok (.ireturn, 1) := by decide +kernel
theorem dX4_spoken_39 : decode cX4_spoken 39 = .ok (.iconst 0, 1) := by decide +kernel
theorem dX4_spoken_40 : decode cX4_spoken 40 = .ok (.istore 4, 2) := by decide +kernel
theorem dX4_spoken_42 : decode cX4_spoken 42 = .ok (.aload_n 0, 1) := by decide +kernel
theorem dX4_spoken_43 : decode cX4_spoken 43 = .ok (.getfield 16, 3) := by decide +kernel
theorem dX4_spoken_46 : decode cX4_spoken 46 = .ok (.iconst 0, 1) := by decide +kernel
theorem dX4_spoken_47 : decode cX4_spoken 47 = .ok (.iaload, 1) := by decide +kernel
theorem dX4_spoken_48 : decode cX4_spoken 48 = .ok (.istore 5, 2) := by decide +kernel
theorem dX4_spoken_50 : decode cX4_spoken 50 = .ok (.iconst 0, 1) := by decide +kernel
theorem dX4_spoken_51 : decode cX4_spoken 51 = .ok (.istore 6, 2) := by decide +kernel
theorem dX4_spoken_53 : decode cX4_spoken 53 = .ok (.iconst 0, 1) := by decide +kernel
theorem dX4_spoken_54 : decode cX4_spoken 54 = .ok (.istore 7, 2) := by decide +kernel
theorem dX4_spoken_56 : decode cX4_spoken 56 = .ok (.iload 7, 2) := by decide +kernel
theorem dX4_spoken_58 : decode cX4_spoken 58 = .ok (.iload_n 1, 1) := by decide +kernel
theorem dX4_spoken_59 : decode cX4_spoken 59 = .ok (.invokestatic 141, 3) := by decide +kernel
theorem dX4_spoken_62 : decode cX4_spoken 62 = .ok (.if_icmp .ge 69, 3) := by decide +kernel
theorem dX4_spoken_65 : decode cX4_spoken 65 = .ok (.iload 7, 2) := by decide +kernel
theorem dX4_spoken_67 : decode cX4_spoken 67 = .ok (.iload_n 1, 1) := by decide +kernel
theorem dX4_spoken_68 : decode cX4_spoken 68 = .ok (.invokestatic 144, 3) := by decide +kernel
theorem dX4_spoken_71 : decode cX4_spoken 71 = .ok (.istore 8, 2) := by decide +kernel
theorem dX4_spoken_73 : decode cX4_spoken 73 = .ok (.aload_n 0, 1) := by decide +kernel
theorem dX4_spoken_74 : decode cX4_spoken 74 = .ok (.aload_n 0, 1) := by decide +kernel
theorem dX4_spoken_75 : decode cX4_spoken 75 = .ok (.getfield 16, 3) := by decide +kernel
theorem dX4_spoken_78 : decode cX4_spoken 78 = .ok (.iconst 0, 1) := by decide +kernel
theorem dX4_spoken_79 : decode cX4_spoken 79 = .ok (.iaload, 1) := by decide +kernel
theorem dX4_spoken_80 : decode cX4_spoken 80 = .ok (.iload_n 1, 1) := by decide +kernel
theorem dX4_spoken_81 : decode cX4_spoken 81 = .ok (.iload 8, 2) := by decide +kernel
theorem dX4_spoken_83 : decode cX4_spoken 83 = .ok (.invokevirtual 138, 3) := by decide +kernel
theorem dX4_spoken_86 : decode cX4_spoken 86 = .ok (.bipush (-9), 2) := by decide +kernel
theorem dX4_spoken_88 : decode cX4_spoken 88 = .ok (.if_icmp .ne 37, 3) := by decide +kernel
theorem dX4_spoken_91 : decode cX4_spoken 91 = .ok (.aload_n 0, 1) := by decide +kernel
theorem dX4_spoken_92 : decode cX4_spoken 92 = .ok (.getfield 16, 3) := by decide +kernel
theorem dX4_spoken_95 : decode cX4_spoken 95 = .ok (.bipush 49, 2) := by decide +kernel
theorem dX4_spoken_97 : decode cX4_spoken 97 = .ok (.iaload, 1) := by decide +kernel
theorem dX4_spoken_98 : decode cX4_spoken 98 = .ok (.iload_n 2, 1) := by decide +kernel
theorem dX4_spoken_99 : decode cX4_spoken 99 = .ok (.if_icmp .ne 26, 3) := by decide +kernel
theorem dX4_spoken_102 : decode cX4_spoken 102 = .ok (.iinc 4 1, 3) := by decide +kernel
theorem dX4_spoken_105 : decode cX4_spoken 105 = .ok (.iload 5, 2) := by decide +kernel
theorem dX4_spoken_107 : decode cX4_spoken 107 = .ok (.iload 8, 2) := by decide +kernel
theorem dX4_spoken_109 : decode cX4_spoken 109 = .ok (.invokestatic 164, 3) := by decide +kernel
theorem dX4_spoken_112 : decode cX4_spoken 112 = .ok (.iand, 1) := by decide +kernel
theorem dX4_spoken_113 : decode cX4_spoken 113 = .ok (.istore 5, 2) := by decide +kernel
theorem dX4_spoken_115 : decode cX4_spoken 115 = .ok (.iload 6, 2) := by decide +kernel
theorem dX4_spoken_117 : decode cX4_spoken 117 = .ok (.iload 8, 2) := by decide +kernel
theorem dX4_spoken_119 : decode cX4_spoken 119 = .ok (.invokestatic 164, 3) := by decide +kernel
theorem dX4_spoken_122 : decode cX4_spoken 122 = .ok (.ior, 1) := by decide +kernel
theorem dX4_spoken_123 : decode cX4_spoken 123 = .ok (.istore 6, 2) := by decide +kernel
theorem dX4_spoken_125 : decode cX4_spoken 125 = .ok (.iinc 7 1, 3) := by decide +kernel
theorem dX4_spoken_128 : decode cX4_spoken 128 = .ok (.goto (-72), 3) := by decide +kernel
theorem dX4_spoken_131 : decode cX4_spoken 131 = .ok (.iload_n 3, 1) := by decide +kernel
theorem dX4_spoken_132 : decode cX4_spoken 132 = .ok (.ifCond .ne 8, 3) := by decide +kernel
theorem dX4_spoken_135 : decode cX4_spoken 135 = .ok (.iload 4, 2) := by decide +kernel
theorem dX4_spoken_137 : decode cX4_spoken 137 = .ok (.goto 34, 3) := by decide +kernel
theorem dX4_spoken_140 : decode cX4_spoken 140 = .ok (.iload 4, 2) := by decide +kernel
theorem dX4_spoken_142 : decode cX4_spoken 142 = .ok (.ifCond .ne 8, 3) := by decide +kernel
theorem dX4_spoken_145 : decode cX4_spoken 145 = .ok (.bipush (-9), 2) := by decide +kernel
theorem dX4_spoken_147 : decode cX4_spoken 147 = .ok (.goto 24, 3) := by decide +kernel
theorem dX4_spoken_150 : decode cX4_spoken 150 = .ok (.iload_n 3, 1) := by decide +kernel
theorem dX4_spoken_151 : decode cX4_spoken 151 = .ok (.iconst 1, 1) := by decide +kernel
theorem dX4_spoken_152 : decode cX4_spoken 152 = .ok (.if_icmp .ne 8, 3) := by decide +kernel
theorem dX4_spoken_155 : decode cX4_spoken 155 = .ok (.iload 5, 2) := by decide +kernel
theorem dX4_spoken_157 : decode cX4_spoken 157 = .ok (.goto 14, 3) := by decide +kernel
theorem dX4_spoken_160 : decode cX4_spoken 160 = .ok (.aload_n 0, 1) := by decide +kernel
theorem dX4_spoken_161 : decode cX4_spoken 161 = .ok (.getfield 16, 3) := by decide +kernel
theorem dX4_spoken_164 : decode cX4_spoken 164 = .ok (.iconst 0, 1) := by decide +kernel
theorem dX4_spoken_165 : decode cX4_spoken 165 = .ok (.iaload, 1) := by decide +kernel
theorem dX4_spoken_166 : decode cX4_spoken 166 = .ok (.iload 6, 2) := by decide +kernel
theorem dX4_spoken_168 : decode cX4_spoken 168 = .ok (.iconst (-1), 1) := by decide +kernel
theorem dX4_spoken_169 : decode cX4_spoken 169 = .ok (.ixor, 1) := by decide +kernel
theorem dX4_spoken_170 : decode cX4_spoken 170 = .ok (.iand, 1) := by decide +kernel
theorem dX4_spoken_171 : decode cX4_spoken 171 = .ok (.ireturn, 1) := by decide +kernel
set_option maxRecDepth 20000 in
theorem ggX4_quarrel_X4_isPerson : GoodIn wsX4_quarrel wsX4_isPerson := goodIn_r _ [7, 8, 9, 10, 6, 11, 25, 26, 27, 28, 29, 30, 31, 32, 33, 34, 35, 36, 37, 38, 39, 40, 41, 42, 43, 44, 45, 46, 47, 48] (by decide +kernel) (by decide +kernel)
set_option maxRecDepth 20000 in
theorem gX4_quarrel_X4_isPerson : GoodIn wsX4_quarrel (wsV RX4 95 RX4 yX4_isPerson wsX4_isPerson) := goodIn_app (goodIn_of _ (by decide +kernel)) ggX4_quarrel_X4_isPerson
set_option maxRecDepth 20000 in
theorem ggX4_quarrel_X4_layTrial : GoodIn wsX4_quarrel wsX4_layTrial := goodIn_r _ [15, 2, 16, 17, 25, 26, 27, 28, 29, 30, 31, 32, 33, 34, 35, 36, 37, 38, 39, 40, 41, 42, 43, 44, 45, 46, 47, 48] (by decide +kernel) (by decide +kernel)
set_option maxRecDepth 20000 in
theorem gX4_quarrel_X4_layTrial : GoodIn wsX4_quarrel (wsV RX4 127 RX4 yX4_layTrial wsX4_layTrial) := goodIn_app (goodIn_of _ (by decide +kernel)) ggX4_quarrel_X4_layTrial
set_option maxRecDepth 20000 in
theorem ggX4_quarrel_X4_speakOn : GoodIn wsX4_quarrel wsX4_speakOn := goodIn_r _ [21, 2, 22, 23, 6, 24, 25, 26, 27, 28, 29, 30, 31, 32, 33, 34, 35, 36, 37, 38, 39, 40, 41, 42, 43, 44, 45, 46, 47, 48] (by decide +kernel) (by decide +kernel)
set_option maxRecDepth 20000 in
theorem gX4_quarrel_X4_speakOn : GoodIn wsX4_quarrel (wsV RX4 91 RX4 yX4_speakOn wsX4_speakOn) := goodIn_app (goodIn_of _ (by decide +kernel)) ggX4_quarrel_X4_speakOn
theorem dX4_quarrel_0 : decode cX4_quarrel 0 = .ok (.aload_n 0, 1) := by decide +kernel
theorem dX4_quarrel_1 : decode cX4_quarrel 1 = .ok (.iload_n 1, 1) := by decide +kernel
theorem dX4_quarrel_2 : decode cX4_quarrel 2 = .ok (.invokevirtual 95, 3) := by decide +kernel
theorem dX4_quarrel_5 : decode cX4_quarrel 5 = .ok (.ifCond .eq 11, 3) := by decide +kernel
theorem dX4_quarrel_8 : decode cX4_quarrel 8 = .ok (.aload_n 0, 1) := by decide +kernel
theorem dX4_quarrel_9 : decode cX4_quarrel 9 = .ok (.iload_n 2, 1) := by decide +kernel
theorem dX4_quarrel_10 : decode cX4_quarrel 10 = .ok (.invokevirtual 95, 3) := by decide +kernel
theorem dX4_quarrel_13 : decode cX4_quarrel 13 = .ok (.ifCond .ne 5, 3) := by decide +kernel
theorem dX4_quarrel_16 : decode cX4_quarrel 16 = .ok (.iconst (-1), 1) := by decide +kernel
theorem dX4_quarrel_17 : decode cX4_quarrel 17 = .ok (.ireturn, 1) := by decide +kernel
theorem dX4_quarrel_18 : decode cX4_quarrel 18 = .ok (.iload_n 1, 1) := by decide +kernel
theorem dX4_quarrel_19 : decode cX4_quarrel 19 = .ok (.iload_n 2, 1) := by decide +kernel
theorem dX4_quarrel_20 : decode cX4_quarrel 20 = .ok (.if_icmp .ne 6, 3) := by decide +kernel
theorem dX4_quarrel_23 : decode cX4_quarrel 23 = .ok (.bipush (-2), 2) := by decide +kernel
theorem dX4_quarrel_25 : decode cX4_quarrel 25 = .ok (.ireturn, 1) := by decide +kernel
theorem dX4_quarrel_26 : decode cX4_quarrel 26 = .ok (.iconst 0, 1) := by decide +kernel
theorem dX4_quarrel_27 : decode cX4_quarrel 27 = .ok (.istore 4, 2) := by decide +kernel
theorem dX4_quarrel_29 : decode cX4_quarrel 29 = .ok (.iload 4, 2) := by decide +kernel
theorem dX4_quarrel_31 : decode cX4_quarrel 31 = .ok (.bipush 10, 2) := by decide +kernel
theorem dX4_quarrel_33 : decode cX4_quarrel 33 = .ok (.if_icmp .ge 18, 3) := by decide +kernel
theorem dX4_quarrel_36 : decode cX4_quarrel 36 = .ok (.aload_n 0, 1) := by decide +kernel
theorem dX4_quarrel_37 : decode cX4_quarrel 37 = .ok (.getfield 28, 3) := by decide +kernel
theorem dX4_quarrel_40 : decode cX4_quarrel 40 = .ok (.iload 4, 2) := by decide +kernel
theorem dX4_quarrel_42 : decode cX4_quarrel 42 = .ok (.bipush (-9), 2) := by decide +kernel
theorem dX4_quarrel_44 : decode cX4_quarrel 44 = .ok (.iastore, 1) := by decide +kernel
theorem dX4_quarrel_45 : decode cX4_quarrel 45 = .ok (.iinc 4 1, 3) := by decide +kernel
theorem dX4_quarrel_48 : decode cX4_quarrel 48 = .ok (.goto (-19), 3) := by decide +kernel
theorem dX4_quarrel_51 : decode cX4_quarrel 51 = .ok (.aload_n 0, 1) := by decide +kernel
theorem dX4_quarrel_52 : decode cX4_quarrel 52 = .ok (.aload_n 0, 1) := by decide +kernel
theorem dX4_quarrel_53 : decode cX4_quarrel 53 = .ok (.getfield 16, 3) := by decide +kernel
theorem dX4_quarrel_56 : decode cX4_quarrel 56 = .ok (.iconst 0, 1) := by decide +kernel
theorem dX4_quarrel_57 : decode cX4_quarrel 57 = .ok (.iaload, 1) := by decide +kernel
theorem dX4_quarrel_58 : decode cX4_quarrel 58 = .ok (.invokevirtual 127, 3) := by decide +kernel
theorem dX4_quarrel_61 : decode cX4_quarrel 61 = .ok (.iconst 0, 1) := by decide +kernel
theorem dX4_quarrel_62 : decode cX4_quarrel 62 = .ok (.istore 4, 2) := by decide +kernel
theorem dX4_quarrel_64 : decode cX4_quarrel 64 = .ok (.aload_n 0, 1) := by decide +kernel
theorem dX4_quarrel_65 : decode cX4_quarrel 65 = .ok (.getfield 28, 3) := by decide +kernel
theorem dX4_quarrel_68 : decode cX4_quarrel 68 = .ok (.aload_n 0, 1) := by decide +kernel
theorem dX4_quarrel_69 : decode cX4_quarrel 69 = .ok (.getfield 16, 3) := by decide +kernel
theorem dX4_quarrel_72 : decode cX4_quarrel 72 = .ok (.bipush 49, 2) := by decide +kernel
theorem dX4_quarrel_74 : decode cX4_quarrel 74 = .ok (.iaload, 1) := by decide +kernel
theorem dX4_quarrel_75 : decode cX4_quarrel 75 = .ok (.iaload, 1) := by decide +kernel
theorem dX4_quarrel_76 : decode cX4_quarrel 76 = .ok (.bipush (-9), 2) := by decide +kernel
theorem dX4_quarrel_78 : decode cX4_quarrel 78 = .ok (.if_icmp .ne 35, 3) := by decide +kernel
theorem dX4_quarrel_81 : decode cX4_quarrel 81 = .ok (.aload_n 0, 1) := by decide +kernel
theorem dX4_quarrel_82 : decode cX4_quarrel 82 = .ok (.getfield 28, 3) := by decide +kernel
theorem dX4_quarrel_85 : decode cX4_quarrel 85 = .ok (.aload_n 0, 1) := by decide +kernel
theorem dX4_quarrel_86 : decode cX4_quarrel 86 = .ok (.getfield 16, 3) := by decide +kernel
theorem dX4_quarrel_89 : decode cX4_quarrel 89 = .ok (.bipush 49, 2) := by decide +kernel
theorem dX4_quarrel_91 : decode cX4_quarrel 91 = .ok (.iaload, 1) := by decide +kernel
theorem dX4_quarrel_92 : decode cX4_quarrel 92 = .ok (.iload 4, 2) := by decide +kernel
theorem dX4_quarrel_94 : decode cX4_quarrel 94 = .ok (.iastore, 1) := by decide +kernel
theorem dX4_quarrel_95 : decode cX4_quarrel 95 = .ok (.aload_n 0, 1) := by decide +kernel
theorem dX4_quarrel_96 : decode cX4_quarrel 96 = .ok (.iconst 1, 1) := by decide +kernel
theorem dX4_quarrel_97 : decode cX4_quarrel 97 = .ok (.iload_n 1, 1) := by decide +kernel
theorem dX4_quarrel_98 : decode cX4_quarrel 98 = .ok (.invokevirtual 91, 3) := by decide +kernel
theorem dX4_quarrel_101 : decode cX4_quarrel 101 = .ok (.aload_n 0, 1) := by decide +kernel
theorem dX4_quarrel_102 : decode cX4_quarrel 102 = .ok (.iconst 1, 1) := by decide +kernel
theorem dX4_quarrel_103 : decode cX4_quarrel 103 = .ok (.iload_n 2, 1) := by decide +kernel
theorem dX4_quarrel_104 : decode cX4_quarrel 104 = .ok (.invokevirtual 91, 3) := by decide +kernel
theorem dX4_quarrel_107 : decode cX4_quarrel 107 = .ok (.iinc 4 1, 3) := by decide +kernel
theorem dX4_quarrel_110 : decode cX4_quarrel 110 = .ok (.goto (-46), 3) := by decide +kernel
theorem dX4_quarrel_113 : decode cX4_quarrel 113 = .ok (.iload_n 3, 1) := by decide +kernel
theorem dX4_quarrel_114 : decode cX4_quarrel 114 = .ok (.ifCond .eq 18, 3) := by decide +kernel
theorem dX4_quarrel_117 : decode cX4_quarrel 117 = .ok (.aload_n 0, 1) := by decide +kernel
theorem dX4_quarrel_118 : decode cX4_quarrel 118 = .ok (.getfield 28, 3) := by decide +kernel
theorem dX4_quarrel_121 : decode cX4_quarrel 121 = .ok (.aload_n 0, 1) := by decide +kernel
theorem dX4_quarrel_122 : decode cX4_quarrel 122 = .ok (.getfield 16, 3) := by decide +kernel
theorem dX4_quarrel_125 : decode cX4_quarrel 125 = .ok (.bipush 49, 2) := by decide +kernel
theorem dX4_quarrel_127 : decode cX4_quarrel 127 = .ok (.iaload, 1) := by decide +kernel
theorem dX4_quarrel_128 : decode cX4_quarrel 128 = .ok (.iaload, 1) := by decide +kernel
theorem dX4_quarrel_129 : decode cX4_quarrel 129 = .ok (.goto 5, 3) := by decide +kernel
theorem dX4_quarrel_132 : decode cX4_quarrel 132 = .ok (.iload 4, 2) := by decide +kernel
theorem dX4_quarrel_134 : decode cX4_quarrel 134 = .ok (.ireturn, 1) := by decide +kernel
theorem dX4_factorial_0 : decode cX4_factorial 0 = .ok (.iconst 1, 1) := by decide +kernel
theorem dX4_factorial_1 : decode cX4_factorial 1 = .ok (.istore_n 1, 1) := by decide +kernel
theorem dX4_factorial_2 : decode cX4_factorial 2 = .ok (.iconst 2, 1) := by decide +kernel
theorem dX4_factorial_3 : decode cX4_factorial 3 = .ok (.istore_n 2, 1) := by decide +kernel
theorem dX4_factorial_4 : decode cX4_factorial 4 = .ok (.iload_n 2, 1) := by decide +kernel
theorem dX4_factorial_5 : decode cX4_factorial 5 = .ok (.iload_n 0, 1) := by decide +kernel
theorem dX4_factorial_6 : decode cX4_factorial 6 = .ok (.if_icmp .gt 13, 3) := by decide +kernel
theorem dX4_factorial_9 : decode cX4_factorial 9 = .ok (.iload_n 1, 1) := by decide +kernel
theorem dX4_factorial_10 : decode cX4_factorial 10 = .ok (.iload_n 2, 1) := by decide +kernel
theorem dX4_factorial_11 : decode cX4_factorial 11 = .ok (.imul, 1) := by decide +kernel
theorem dX4_factorial_12 : decode cX4_factorial 12 = .ok (.istore_n 1, 1) := by decide +kernel
theorem dX4_factorial_13 : decode cX4_factorial 13 = .ok (.iinc 2 1, 3) := by decide +kernel
theorem dX4_factorial_16 : decode cX4_factorial 16 = .ok (.goto (-12), 3) := by decide +kernel
theorem dX4_factorial_19 : decode cX4_factorial 19 = .ok (.iload_n 1, 1) := by decide +kernel
theorem dX4_factorial_20 : decode cX4_factorial 20 = .ok (.ireturn, 1) := by decide +kernel
theorem dX4_common_0 : decode cX4_common 0 = .ok (.iload_n 0, 1) := by decide +kernel
theorem dX4_common_1 : decode cX4_common 1 = .ok (.ifCond .ge 8, 3) := by decide +kernel
theorem dX4_common_4 : decode cX4_common 4 = .ok (.iload_n 0, 1) := by decide +kernel
theorem dX4_common_5 : decode cX4_common 5 = .ok (.ineg, 1) := by decide +kernel
theorem dX4_common_6 : decode cX4_common 6 = .ok (.goto 4, 3) := by decide +kernel
theorem dX4_common_9 : decode cX4_common 9 = .ok (.iload_n 0, 1) := by decide +kernel
theorem dX4_common_10 : decode cX4_common 10 = .ok (.istore_n 2, 1) := by decide +kernel
theorem dX4_common_11 : decode cX4_common 11 = .ok (.iload_n 1, 1) := by decide +kernel
theorem dX4_common_12 : decode cX4_common 12 = .ok (.istore_n 3, 1) := by decide +kernel
theorem dX4_common_13 : decode cX4_common 13 = .ok (.iload_n 3, 1) := by decide +kernel
theorem dX4_common_14 : decode cX4_common 14 = .ok (.ifCond .eq 16, 3) := by decide +kernel
theorem dX4_common_17 : decode cX4_common 17 = .ok (.iload_n 2, 1) := by decide +kernel
theorem dX4_common_18 : decode cX4_common 18 = .ok (.iload_n 3, 1) := by decide +kernel
theorem dX4_common_19 : decode cX4_common 19 = .ok (.irem, 1) := by decide +kernel
theorem dX4_common_20 : decode cX4_common 20 = .ok (.istore 4, 2) := by decide +kernel
theorem dX4_common_22 : decode cX4_common 22 = .ok (.iload_n 3, 1) := by decide +kernel
theorem dX4_common_23 : decode cX4_common 23 = .ok (.istore_n 2, 1) := by decide +kernel
theorem dX4_common_24 : decode cX4_common 24 = .ok (.iload 4, 2) := by decide +kernel
theorem dX4_common_26 : decode cX4_common 26 = .ok (.istore_n 3, 1) := by decide +kernel
theorem dX4_common_27 : decode cX4_common 27 = .ok (.goto (-14), 3) := by decide +kernel
theorem dX4_common_30 : decode cX4_common 30 = .ok (.iload_n 2, 1) := by decide +kernel
theorem dX4_common_31 : decode cX4_common 31 = .ok (.ireturn, 1) := by decide +kernel
set_option maxRecDepth 20000 in
theorem ggX4_share_X4_isPerson : GoodIn wsX4_share wsX4_isPerson := goodIn_r _ [8, 9, 10, 11, 7, 12, 65, 66, 67, 68, 69, 70, 71, 72, 73, 74, 75, 76, 77, 78, 79, 80, 81, 82, 83, 84, 85, 86, 87, 88] (by decide +kernel) (by decide +kernel)
set_option maxRecDepth 20000 in
theorem gX4_share_X4_isPerson : GoodIn wsX4_share (wsV RX4 95 RX4 yX4_isPerson wsX4_isPerson) := goodIn_app (goodIn_of _ (by decide +kernel)) ggX4_share_X4_isPerson
set_option maxRecDepth 20000 in
theorem ggX4_share_X4_in : GoodIn wsX4_share wsX4_in := goodIn_r _ [12] (by decide +kernel) (by decide +kernel)
set_option maxRecDepth 20000 in
theorem gX4_share_X4_in : GoodIn wsX4_share (va_wsS RX4 46 yX4_in wsX4_in) := goodIn_app (goodIn_of _ (by decide +kernel)) ggX4_share_X4_in
set_option maxRecDepth 20000 in
theorem ggX4_share_X4_has : GoodIn wsX4_share wsX4_has := goodIn_r _ [15] (by decide +kernel) (by decide +kernel)
set_option maxRecDepth 20000 in
theorem gX4_share_X4_has : GoodIn wsX4_share (va_wsS RX4 83 yX4_has wsX4_has) := goodIn_app (goodIn_of _ (by decide +kernel)) ggX4_share_X4_has
set_option maxRecDepth 20000 in
theorem ggX4_share_X4_canBy : GoodIn wsX4_share wsX4_canBy := goodIn_r _ [19, 2, 20, 21, 7, 22, 23, 24, 25, 26, 27, 28, 29, 30, 31, 32, 33, 34, 35, 36, 37, 38, 39, 10, 11, 12, 40, 41, 42, 43, 44, 13, 14, 15, 45, 46, 47, 48, 49, 50, 51, 52, 53, 54, 55, 65, 66, 67, 68, 69, 70, 71, 72, 73, 74, 75, 76, 77, 78, 79, 80, 81, 82, 83, 84, 85, 86, 87, 88] (by decide +kernel) (by decide +kernel)
set_option maxRecDepth 20000 in
theorem gX4_share_X4_canBy : GoodIn wsX4_share (wsV RX4 154 RX4 yX4_canBy wsX4_canBy) := goodIn_app (goodIn_of _ (by decide +kernel)) ggX4_share_X4_canBy
set_option maxRecDepth 20000 in
theorem ggX4_share_X4_ones : GoodIn wsX4_share wsX4_ones := goodIn_r _ [58] (by decide +kernel) (by decide +kernel)
set_option maxRecDepth 20000 in
theorem gX4_share_X4_ones : GoodIn wsX4_share (va_wsS RX4 111 yX4_ones wsX4_ones) := goodIn_app (goodIn_of _ (by decide +kernel)) ggX4_share_X4_ones
set_option maxRecDepth 20000 in
theorem ggX4_share_X4_factorial : GoodIn wsX4_share wsX4_factorial := goodIn_r _ [61] (by decide +kernel) (by decide +kernel)
set_option maxRecDepth 20000 in
theorem gX4_share_X4_factorial : GoodIn wsX4_share (va_wsS RX4 167 yX4_factorial wsX4_factorial) := goodIn_app (goodIn_of _ (by decide +kernel)) ggX4_share_X4_factorial
set_option maxRecDepth 20000 in
theorem ggX4_share_X4_common : GoodIn wsX4_share wsX4_common := goodIn_r _ [64] (by decide +kernel) (by decide +kernel)
set_option maxRecDepth 20000 in
theorem gX4_share_X4_common : GoodIn wsX4_share (va_wsS RX4 170 yX4_common wsX4_common) := goodIn_app (goodIn_of _ (by decide +kernel)) ggX4_share_X4_common
theorem dX4_share_0 : decode cX4_share 0 = .ok (.aload_n 0, 1) := by decide +kernel
theorem dX4_share_1 : decode cX4_share 1 = .ok (.iload_n 1, 1) := by decide +kernel
theorem dX4_share_2 : decode cX4_share 2 = .ok (.invokevirtual 95, 3) := by decide +kernel
theorem dX4_share_5 : decode cX4_share 5 = .ok (.ifCond .ne 5, 3) := by decide +kernel
theorem dX4_share_8 : decode cX4_share 8 = .ok (.iconst (-1), 1) := by decide +kernel
theorem dX4_share_9 : decode cX4_share 9 = .ok (.ireturn, 1) := by decide +kernel
theorem dX4_share_10 : decode cX4_share 10 = .ok (.iload_n 2, 1) := by decide +kernel
theorem dX4_share_11 : decode cX4_share 11 = .ok (.i2l, 1) := by decide +kernel
theorem dX4_share_12 : decode cX4_share 12 = .ok (.lconst 1, 1) := by decide +kernel
theorem dX4_share_13 : decode cX4_share 13 = .ok (.ldc2_w 117, 3) := by decide +kernel
theorem dX4_share_16 : decode cX4_share 16 = .ok (.invokestatic 46, 3) := by decide +kernel
theorem dX4_share_19 : decode cX4_share 19 = .ok (.ifCond .ne 6, 3) := by decide +kernel
theorem dX4_share_22 : decode cX4_share 22 = .ok (.bipush (-2), 2) := by decide +kernel
theorem dX4_share_24 : decode cX4_share 24 = .ok (.ireturn, 1) := by decide +kernel
theorem dX4_share_25 : decode cX4_share 25 = .ok (.aload_n 0, 1) := by decide +kernel
theorem dX4_share_26 : decode cX4_share 26 = .ok (.getfield 16, 3) := by decide +kernel
theorem dX4_share_29 : decode cX4_share 29 = .ok (.iconst 0, 1) := by decide +kernel
theorem dX4_share_30 : decode cX4_share 30 = .ok (.iaload, 1) := by decide +kernel
theorem dX4_share_31 : decode cX4_share 31 = .ok (.istore 4, 2) := by decide +kernel
theorem dX4_share_33 : decode cX4_share 33 = .ok (.iload 4, 2) := by decide +kernel
theorem dX4_share_35 : decode cX4_share 35 = .ok (.iload_n 1, 1) := by decide +kernel
theorem dX4_share_36 : decode cX4_share 36 = .ok (.invokestatic 83, 3) := by decide +kernel
theorem dX4_share_39 : decode cX4_share 39 = .ok (.ifCond .ne 13, 3) := by decide +kernel
theorem dX4_share_42 : decode cX4_share 42 = .ok (.iload_n 3, 1) := by decide +kernel
theorem dX4_share_43 : decode cX4_share 43 = .ok (.ifCond .eq 7, 3) := by decide +kernel
theorem dX4_share_46 : decode cX4_share 46 = .ok (.iconst 0, 1) := by decide +kernel
theorem dX4_share_47 : decode cX4_share 47 = .ok (.goto 4, 3) := by decide +kernel
theorem dX4_share_50 : decode cX4_share 50 = .ok (.iconst 1, 1) := by decide +kernel
theorem dX4_share_51 : decode cX4_share 51 = .ok (.ireturn, 1) := by decide +kernel
theorem dX4_share_52 : decode cX4_share 52 = .ok (.iconst 0, 1) := by decide +kernel
theorem dX4_share_53 : decode cX4_share 53 = .ok (.istore 5, 2) := by decide +kernel
theorem dX4_share_55 : decode cX4_share 55 = .ok (.iload 5, 2) := by decide +kernel
theorem dX4_share_57 : decode cX4_share 57 = .ok (.iload 4, 2) := by decide +kernel
theorem dX4_share_59 : decode cX4_share 59 = .ok (.if_icmp .gt 40, 3) := by decide +kernel
theorem dX4_share_62 : decode cX4_share 62 = .ok (.aload_n 0, 1) := by decide +kernel
theorem dX4_share_63 : decode cX4_share 63 = .ok (.getfield 31, 3) := by decide +kernel
theorem dX4_share_66 : decode cX4_share 66 = .ok (.iload 5, 2) := by decide +kernel
theorem dX4_share_68 : decode cX4_share 68 = .ok (.iload 5, 2) := by decide +kernel
theorem dX4_share_70 : decode cX4_share 70 = .ok (.iload 4, 2) := by decide +kernel
theorem dX4_share_72 : decode cX4_share 72 = .ok (.iconst (-1), 1) := by decide +kernel
theorem dX4_share_73 : decode cX4_share 73 = .ok (.ixor, 1) := by decide +kernel
theorem dX4_share_74 : decode cX4_share 74 = .ok (.iand, 1) := by decide +kernel
theorem dX4_share_75 : decode cX4_share 75 = .ok (.ifCond .ne 16, 3) := by decide +kernel
theorem dX4_share_78 : decode cX4_share 78 = .ok (.aload_n 0, 1) := by decide +kernel
theorem dX4_share_79 : decode cX4_share 79 = .ok (.iload 5, 2) := by decide +kernel
theorem dX4_share_81 : decode cX4_share 81 = .ok (.iload_n 2, 1) := by decide +kernel
theorem dX4_share_82 : decode cX4_share 82 = .ok (.invokevirtual 154, 3) := by decide +kernel
theorem dX4_share_85 : decode cX4_share 85 = .ok (.invokestatic 111, 3) := by decide +kernel
theorem dX4_share_88 : decode cX4_share 88 = .ok (.goto 4, 3) := by decide +kernel
theorem dX4_share_91 : decode cX4_share 91 = .ok (.iconst 0, 1) := by decide +kernel
theorem dX4_share_92 : decode cX4_share 92 = .ok (.iastore, 1) := by decide +kernel
theorem dX4_share_93 : decode cX4_share 93 = .ok (.iinc 5 1, 3) := by decide +kernel
theorem dX4_share_96 : decode cX4_share 96 = .ok (.goto (-41), 3) := by decide +kernel
theorem dX4_share_99 : decode cX4_share 99 = .ok (.iconst 0, 1) := by decide +kernel
theorem dX4_share_100 : decode cX4_share 100 = .ok (.istore 5, 2) := by decide +kernel
theorem dX4_share_102 : decode cX4_share 102 = .ok (.iconst 0, 1) := by decide +kernel
theorem dX4_share_103 : decode cX4_share 103 = .ok (.istore 6, 2) := by decide +kernel
theorem dX4_share_105 : decode cX4_share 105 = .ok (.iload 6, 2) := by decide +kernel
theorem dX4_share_107 : decode cX4_share 107 = .ok (.iload 4, 2) := by decide +kernel
theorem dX4_share_109 : decode cX4_share 109 = .ok (.if_icmp .gt 82, 3) := by decide +kernel
theorem dX4_share_112 : decode cX4_share 112 = .ok (.iload 6, 2) := by decide +kernel
theorem dX4_share_114 : decode cX4_share 114 = .ok (.iload 4, 2) := by decide +kernel
theorem dX4_share_116 : decode cX4_share 116 = .ok (.iconst (-1), 1) := by decide +kernel
theorem dX4_share_117 : decode cX4_share 117 = .ok (.ixor, 1) := by decide +kernel
theorem dX4_share_118 : decode cX4_share 118 = .ok (.iand, 1) := by decide +kernel
theorem dX4_share_119 : decode cX4_share 119 = .ok (.ifCond .ne 66, 3) := by decide +kernel
theorem dX4_share_122 : decode cX4_share 122 = .ok (.iload 6, 2) := by decide +kernel
theorem dX4_share_124 : decode cX4_share 124 = .ok (.iload_n 1, 1) := by decide +kernel
theorem dX4_share_125 : decode cX4_share 125 = .ok (.invokestatic 83, 3) := by decide +kernel
theorem dX4_share_128 : decode cX4_share 128 = .ok (.ifCond .ne 57, 3) := by decide +kernel
theorem dX4_share_131 : decode cX4_share 131 = .ok (.iload 6, 2) := by decide +kernel
theorem dX4_share_133 : decode cX4_share 133 = .ok (.invokestatic 111, 3) := by decide +kernel
theorem dX4_share_136 : decode cX4_share 136 = .ok (.invokestatic 167, 3) := by decide +kernel
theorem dX4_share_139 : decode cX4_share 139 = .ok (.iload 4, 2) := by decide +kernel
theorem dX4_share_141 : decode cX4_share 141 = .ok (.invokestatic 111, 3) := by decide +kernel
theorem dX4_share_144 : decode cX4_share 144 = .ok (.iconst 1, 1) := by decide +kernel
theorem dX4_share_145 : decode cX4_share 145 = .ok (.isub, 1) := by decide +kernel
theorem dX4_share_146 : decode cX4_share 146 = .ok (.iload 6, 2) := by decide +kernel
theorem dX4_share_148 : decode cX4_share 148 = .ok (.invokestatic 111, 3) := by decide +kernel
theorem dX4_share_151 : decode cX4_share 151 = .ok (.isub, 1) := by decide +kernel
theorem dX4_share_152 : decode cX4_share 152 = .ok (.invokestatic 167, 3) := by decide +kernel
theorem dX4_share_155 : decode cX4_share 155 = .ok (.imul, 1) := by decide +kernel
theorem dX4_share_156 : decode cX4_share 156 = .ok (.istore 7, 2) := by decide +kernel
theorem dX4_share_158 : decode cX4_share 158 = .ok (.iload 5, 2) := by decide +kernel
theorem dX4_share_160 : decode cX4_share 160 = .ok (.iload 7, 2) := by decide +kernel
theorem dX4_share_162 : decode cX4_share 162 = .ok (.aload_n 0, 1) := by decide +kernel
theorem dX4_share_163 : decode cX4_share 163 = .ok (.getfield 31, 3) := by decide +kernel
theorem dX4_share_166 : decode cX4_share 166 = .ok (.iload 6, 2) := by decide +kernel
theorem dX4_share_168 : decode cX4_share 168 = .ok (.iconst 1, 1) := by decide +kernel
theorem dX4_share_169 : decode cX4_share 169 = .ok (.iload_n 1, 1) := by decide +kernel
theorem dX4_share_170 : decode cX4_share 170 = .ok (.ishl, 1) := by decide +kernel
theorem dX4_share_171 : decode cX4_share 171 = .ok (.ior, 1) := by decide +kernel
theorem dX4_share_172 : decode cX4_share 172 = .ok (.iaload, 1) := by decide +kernel
theorem dX4_share_173 : decode cX4_share 173 = .ok (.aload_n 0, 1) := by decide +kernel
theorem dX4_share_174 : decode cX4_share 174 = .ok (.getfield 31, 3) := by decide +kernel
theorem dX4_share_177 : decode cX4_share 177 = .ok (.iload 6, 2) := by decide +kernel
theorem dX4_share_179 : decode cX4_share 179 = .ok (.iaload, 1) := by decide +kernel
theorem dX4_share_180 : decode cX4_share 180 = .ok (.isub, 1) := by decide +kernel
theorem dX4_share_181 : decode cX4_share 181 = .ok (.imul, 1) := by decide +kernel
theorem dX4_share_182 : decode cX4_share 182 = .ok (.iadd, 1) := by decide +kernel
theorem dX4_share_183 : decode cX4_share 183 = .ok (.istore 5, 2) := by decide +kernel
theorem dX4_share_185 : decode cX4_share 185 = .ok (.iinc 6 1, 3) := by decide +kernel
theorem dX4_share_188 : decode cX4_share 188 = .ok (.goto (-83), 3) := by decide +kernel
theorem dX4_share_191 : decode cX4_share 191 = .ok (.iload 5, 2) := by decide +kernel
theorem dX4_share_193 : decode cX4_share 193 = .ok (.iload 4, 2) := by decide +kernel
theorem dX4_share_195 : decode cX4_share 195 = .ok (.invokestatic 111, 3) := by decide +kernel
theorem dX4_share_198 : decode cX4_share 198 = .ok (.invokestatic 167, 3) := by decide +kernel
theorem dX4_share_201 : decode cX4_share 201 = .ok (.invokestatic 170, 3) := by decide +kernel
theorem dX4_share_204 : decode cX4_share 204 = .ok (.istore 6, 2) := by decide +kernel
theorem dX4_share_206 : decode cX4_share 206 = .ok (.iload_n 3, 1) := by decide +kernel
theorem dX4_share_207 : decode cX4_share 207 = .ok (.ifCond .eq 11, 3) := by decide +kernel
theorem dX4_share_210 : decode cX4_share 210 = .ok (.iload 5, 2) := by decide +kernel
theorem dX4_share_212 : decode cX4_share 212 = .ok (.iload 6, 2) := by decide +kernel
theorem dX4_share_214 : decode cX4_share 214 = .ok (.idiv, 1) := by decide +kernel
theorem dX4_share_215 : decode cX4_share 215 = .ok (.goto 14, 3) := by decide +kernel
theorem dX4_share_218 : decode cX4_share 218 = .ok (.iload 4, 2) := by decide +kernel
theorem dX4_share_220 : decode cX4_share 220 = .ok (.invokestatic 111, 3) := by decide +kernel
theorem dX4_share_223 : decode cX4_share 223 = .ok (.invokestatic 167, 3) := by decide +kernel
theorem dX4_share_226 : decode cX4_share 226 = .ok (.iload 6, 2) := by decide +kernel
theorem dX4_share_228 : decode cX4_share 228 = .ok (.idiv, 1) := by decide +kernel
theorem dX4_share_229 : decode cX4_share 229 = .ok (.ireturn, 1) := by decide +kernel
theorem dX4_apart_0 : decode cX4_apart 0 = .ok (.iload_n 0, 1) := by decide +kernel
theorem dX4_apart_1 : decode cX4_apart 1 = .ok (.iload_n 1, 1) := by decide +kernel
theorem dX4_apart_2 : decode cX4_apart 2 = .ok (.if_icmp .ge 9, 3) := by decide +kernel
theorem dX4_apart_5 : decode cX4_apart 5 = .ok (.iload_n 1, 1) := by decide +kernel
theorem dX4_apart_6 : decode cX4_apart 6 = .ok (.iload_n 0, 1) := by decide +kernel
theorem dX4_apart_7 : decode cX4_apart 7 = .ok (.isub, 1) := by decide +kernel
theorem dX4_apart_8 : decode cX4_apart 8 = .ok (.goto 6, 3) := by decide +kernel
theorem dX4_apart_11 : decode cX4_apart 11 = .ok (.iload_n 0, 1) := by decide +kernel
theorem dX4_apart_12 : decode cX4_apart 12 = .ok (.iload_n 1, 1) := by decide +kernel
theorem dX4_apart_13 : decode cX4_apart 13 = .ok (.isub, 1) := by decide +kernel
theorem dX4_apart_14 : decode cX4_apart 14 = .ok (.ireturn, 1) := by decide +kernel
set_option maxRecDepth 20000 in
theorem ggX4_isRest_X4_apart : GoodIn wsX4_isRest wsX4_apart := goodIn_r _ [5] (by decide +kernel) (by decide +kernel)
set_option maxRecDepth 20000 in
theorem gX4_isRest_X4_apart : GoodIn wsX4_isRest (va_wsS RX4 173 yX4_apart wsX4_apart) := goodIn_app (goodIn_of _ (by decide +kernel)) ggX4_isRest_X4_apart
theorem dX4_isRest_0 : decode cX4_isRest 0 = .ok (.iconst 1, 1) := by decide +kernel
theorem dX4_isRest_1 : decode cX4_isRest 1 = .ok (.istore 4, 2) := by decide +kernel
theorem dX4_isRest_3 : decode cX4_isRest 3 = .ok (.iconst 0, 1) := by decide +kernel
theorem dX4_isRest_4 : decode cX4_isRest 4 = .ok (.istore 5, 2) := by decide +kernel
theorem dX4_isRest_6 : decode cX4_isRest 6 = .ok (.iload 5, 2) := by decide +kernel
theorem dX4_isRest_8 : decode cX4_isRest 8 = .ok (.iconst 4, 1) := by decide +kernel
theorem dX4_isRest_9 : decode cX4_isRest 9 = .ok (.if_icmp .ge 107, 3) := by decide +kernel
theorem dX4_isRest_12 : decode cX4_isRest 12 = .ok (.iload 4, 2) := by decide +kernel
theorem dX4_isRest_14 : decode cX4_isRest 14 = .ok (.ifCond .eq 44, 3) := by decide +kernel
theorem dX4_isRest_17 : decode cX4_isRest 17 = .ok (.aload_n 0, 1) := by decide +kernel
theorem dX4_isRest_18 : decode cX4_isRest 18 = .ok (.getfield 34, 3) := by decide +kernel
theorem dX4_isRest_21 : decode cX4_isRest 21 = .ok (.iconst 4, 1) := by decide +kernel
theorem dX4_isRest_22 : decode cX4_isRest 22 = .ok (.iload 5, 2) := by decide +kernel
theorem dX4_isRest_24 : decode cX4_isRest 24 = .ok (.imul, 1) := by decide +kernel
theorem dX4_isRest_25 : decode cX4_isRest 25 = .ok (.iload_n 1, 1) := by decide +kernel
theorem dX4_isRest_26 : decode cX4_isRest 26 = .ok (.iconst 4, 1) := by decide +kernel
theorem dX4_isRest_27 : decode cX4_isRest 27 = .ok (.irem, 1) := by decide +kernel
theorem dX4_isRest_28 : decode cX4_isRest 28 = .ok (.iadd, 1) := by decide +kernel
theorem dX4_isRest_29 : decode cX4_isRest 29 = .ok (.iaload, 1) := by decide +kernel
theorem dX4_isRest_30 : decode cX4_isRest 30 = .ok (.iload_n 2, 1) := by decide +kernel
theorem dX4_isRest_31 : decode cX4_isRest 31 = .ok (.invokestatic 173, 3) := by decide +kernel
theorem dX4_isRest_34 : decode cX4_isRest 34 = .ok (.iload 5, 2) := by decide +kernel
theorem dX4_isRest_36 : decode cX4_isRest 36 = .ok (.iadd, 1) := by decide +kernel
theorem dX4_isRest_37 : decode cX4_isRest 37 = .ok (.aload_n 0, 1) := by decide +kernel
theorem dX4_isRest_38 : decode cX4_isRest 38 = .ok (.getfield 34, 3) := by decide +kernel
theorem dX4_isRest_41 : decode cX4_isRest 41 = .ok (.iload_n 1, 1) := by decide +kernel
theorem dX4_isRest_42 : decode cX4_isRest 42 = .ok (.iaload, 1) := by decide +kernel
theorem dX4_isRest_43 : decode cX4_isRest 43 = .ok (.iload_n 2, 1) := by decide +kernel
theorem dX4_isRest_44 : decode cX4_isRest 44 = .ok (.invokestatic 173, 3) := by decide +kernel
theorem dX4_isRest_47 : decode cX4_isRest 47 = .ok (.iload_n 1, 1) := by decide +kernel
theorem dX4_isRest_48 : decode cX4_isRest 48 = .ok (.iconst 4, 1) := by decide +kernel
theorem dX4_isRest_49 : decode cX4_isRest 49 = .ok (.idiv, 1) := by decide +kernel
theorem dX4_isRest_50 : decode cX4_isRest 50 = .ok (.iadd, 1) := by decide +kernel
theorem dX4_isRest_51 : decode cX4_isRest 51 = .ok (.if_icmp .lt 7, 3) := by decide +kernel
theorem dX4_isRest_54 : decode cX4_isRest 54 = .ok (.iconst 1, 1) := by decide +kernel
theorem dX4_isRest_55 : decode cX4_isRest 55 = .ok (.goto 4, 3) := by decide +kernel
theorem dX4_isRest_58 : decode cX4_isRest 58 = .ok (.iconst 0, 1) := by decide +kernel
theorem dX4_isRest_59 : decode cX4_isRest 59 = .ok (.istore 4, 2) := by decide +kernel
theorem dX4_isRest_61 : decode cX4_isRest 61 = .ok (.iload 4, 2) := by decide +kernel
theorem dX4_isRest_63 : decode cX4_isRest 63 = .ok (.ifCond .eq 44, 3) := by decide +kernel
theorem dX4_isRest_66 : decode cX4_isRest 66 = .ok (.aload_n 0, 1) := by decide +kernel
theorem dX4_isRest_67 : decode cX4_isRest 67 = .ok (.getfield 34, 3) := by decide +kernel
theorem dX4_isRest_70 : decode cX4_isRest 70 = .ok (.iload_n 1, 1) := by decide +kernel
theorem dX4_isRest_71 : decode cX4_isRest 71 = .ok (.iload_n 1, 1) := by decide +kernel
theorem dX4_isRest_72 : decode cX4_isRest 72 = .ok (.iconst 4, 1) := by decide +kernel
theorem dX4_isRest_73 : decode cX4_isRest 73 = .ok (.irem, 1) := by decide +kernel
theorem dX4_isRest_74 : decode cX4_isRest 74 = .ok (.isub, 1) := by decide +kernel
theorem dX4_isRest_75 : decode cX4_isRest 75 = .ok (.iload 5, 2) := by decide +kernel
theorem dX4_isRest_77 : decode cX4_isRest 77 = .ok (.iadd, 1) := by decide +kernel
theorem dX4_isRest_78 : decode cX4_isRest 78 = .ok (.iaload, 1) := by decide +kernel
theorem dX4_isRest_79 : decode cX4_isRest 79 = .ok (.iload_n 3, 1) := by decide +kernel
theorem dX4_isRest_80 : decode cX4_isRest 80 = .ok (.invokestatic 173, 3) := by decide +kernel
theorem dX4_isRest_83 : decode cX4_isRest 83 = .ok (.iload 5, 2) := by decide +kernel
theorem dX4_isRest_85 : decode cX4_isRest 85 = .ok (.iadd, 1) := by decide +kernel
theorem dX4_isRest_86 : decode cX4_isRest 86 = .ok (.aload_n 0, 1) := by decide +kernel
theorem dX4_isRest_87 : decode cX4_isRest 87 = .ok (.getfield 34, 3) := by decide +kernel
theorem dX4_isRest_90 : decode cX4_isRest 90 = .ok (.iload_n 1, 1) := by decide +kernel
theorem dX4_isRest_91 : decode cX4_isRest 91 = .ok (.iaload, 1) := by decide +kernel
theorem dX4_isRest_92 : decode cX4_isRest 92 = .ok (.iload_n 3, 1) := by decide +kernel
theorem dX4_isRest_93 : decode cX4_isRest 93 = .ok (.invokestatic 173, 3) := by decide +kernel
theorem dX4_isRest_96 : decode cX4_isRest 96 = .ok (.iload_n 1, 1) := by decide +kernel
theorem dX4_isRest_97 : decode cX4_isRest 97 = .ok (.iconst 4, 1) := by decide +kernel
theorem dX4_isRest_98 : decode cX4_isRest 98 = .ok (.irem, 1) := by decide +kernel
theorem dX4_isRest_99 : decode cX4_isRest 99 = .ok (.iadd, 1) := by decide +kernel
theorem dX4_isRest_100 : decode cX4_isRest 100 = .ok (.if_icmp .lt 7, 3) := by decide +kernel
theorem dX4_isRest_103 : decode cX4_isRest 103 = .ok (.iconst 1, 1) := by decide +kernel
theorem dX4_isRest_104 : decode cX4_isRest 104 = .ok (.goto 4, 3) := by decide +kernel
theorem dX4_isRest_107 : decode cX4_isRest 107 = .ok (.iconst 0, 1) := by decide +kernel
theorem dX4_isRest_108 : decode cX4_isRest 108 = .ok (.istore 4, 2) := by decide +kernel
theorem dX4_isRest_110 : decode cX4_isRest 110 = .ok (.iinc 5 1, 3) := by decide +kernel
theorem dX4_isRest_113 : decode cX4_isRest 113 = .ok (.goto (-107), 3) := by decide +kernel
theorem dX4_isRest_116 : decode cX4_isRest 116 = .ok (.iload 4, 2) := by decide +kernel
theorem dX4_isRest_118 : decode cX4_isRest 118 = .ok (.ireturn, 1) := by decide +kernel
set_option maxRecDepth 20000 in
theorem ggX4_laySenses_X4_layTrial : GoodIn wsX4_laySenses wsX4_layTrial := goodIn_r _ [7, 1, 8, 9, 17, 18, 19, 20, 21, 22, 23, 24, 25, 26, 27, 28, 29, 30, 31, 32, 33, 34, 35, 36, 37, 38, 39, 40] (by decide +kernel) (by decide +kernel)
set_option maxRecDepth 20000 in
theorem gX4_laySenses_X4_layTrial : GoodIn wsX4_laySenses (wsV RX4 127 RX4 yX4_layTrial wsX4_layTrial) := goodIn_app (goodIn_of _ (by decide +kernel)) ggX4_laySenses_X4_layTrial
set_option maxRecDepth 20000 in
theorem ggX4_laySenses_X4_speakOn : GoodIn wsX4_laySenses wsX4_speakOn := goodIn_r _ [13, 1, 14, 15, 6, 16, 17, 18, 19, 20, 21, 22, 23, 24, 25, 26, 27, 28, 29, 30, 31, 32, 33, 34, 35, 36, 37, 38, 39, 40] (by decide +kernel) (by decide +kernel)
set_option maxRecDepth 20000 in
theorem gX4_laySenses_X4_speakOn : GoodIn wsX4_laySenses (wsV RX4 91 RX4 yX4_speakOn wsX4_speakOn) := goodIn_app (goodIn_of _ (by decide +kernel)) ggX4_laySenses_X4_speakOn
theorem dX4_laySenses_0 : decode cX4_laySenses 0 = .ok (.iconst 0, 1) := by decide +kernel
theorem dX4_laySenses_1 : decode cX4_laySenses 1 = .ok (.istore_n 3, 1) := by decide +kernel
theorem dX4_laySenses_2 : decode cX4_laySenses 2 = .ok (.iload_n 3, 1) := by decide +kernel
theorem dX4_laySenses_3 : decode cX4_laySenses 3 = .ok (.bipush 16, 2) := by decide +kernel
theorem dX4_laySenses_5 : decode cX4_laySenses 5 = .ok (.if_icmp .ge 78, 3) := by decide +kernel
theorem dX4_laySenses_8 : decode cX4_laySenses 8 = .ok (.aload_n 0, 1) := by decide +kernel
theorem dX4_laySenses_9 : decode cX4_laySenses 9 = .ok (.aload_n 0, 1) := by decide +kernel
theorem dX4_laySenses_10 : decode cX4_laySenses 10 = .ok (.getfield 16, 3) := by decide +kernel
theorem dX4_laySenses_13 : decode cX4_laySenses 13 = .ok (.iconst 0, 1) := by decide +kernel
theorem dX4_laySenses_14 : decode cX4_laySenses 14 = .ok (.iaload, 1) := by decide +kernel
theorem dX4_laySenses_15 : decode cX4_laySenses 15 = .ok (.invokevirtual 127, 3) := by decide +kernel
theorem dX4_laySenses_18 : decode cX4_laySenses 18 = .ok (.iconst 0, 1) := by decide +kernel
theorem dX4_laySenses_19 : decode cX4_laySenses 19 = .ok (.istore 4, 2) := by decide +kernel
theorem dX4_laySenses_21 : decode cX4_laySenses 21 = .ok (.iload 4, 2) := by decide +kernel
theorem dX4_laySenses_23 : decode cX4_laySenses 23 = .ok (.iload_n 3, 1) := by decide +kernel
theorem dX4_laySenses_24 : decode cX4_laySenses 24 = .ok (.iconst 4, 1) := by decide +kernel
theorem dX4_laySenses_25 : decode cX4_laySenses 25 = .ok (.idiv, 1) := by decide +kernel
theorem dX4_laySenses_26 : decode cX4_laySenses 26 = .ok (.if_icmp .ge 15, 3) := by decide +kernel
theorem dX4_laySenses_29 : decode cX4_laySenses 29 = .ok (.aload_n 0, 1) := by decide +kernel
theorem dX4_laySenses_30 : decode cX4_laySenses 30 = .ok (.iconst 1, 1) := by decide +kernel
theorem dX4_laySenses_31 : decode cX4_laySenses 31 = .ok (.iload_n 1, 1) := by decide +kernel
theorem dX4_laySenses_32 : decode cX4_laySenses 32 = .ok (.invokevirtual 91, 3) := by decide +kernel
theorem dX4_laySenses_35 : decode cX4_laySenses 35 = .ok (.iinc 4 1, 3) := by decide +kernel
theorem dX4_laySenses_38 : decode cX4_laySenses 38 = .ok (.goto (-17), 3) := by decide +kernel
theorem dX4_laySenses_41 : decode cX4_laySenses 41 = .ok (.iconst 0, 1) := by decide +kernel
theorem dX4_laySenses_42 : decode cX4_laySenses 42 = .ok (.istore 4, 2) := by decide +kernel
theorem dX4_laySenses_44 : decode cX4_laySenses 44 = .ok (.iload 4, 2) := by decide +kernel
theorem dX4_laySenses_46 : decode cX4_laySenses 46 = .ok (.iload_n 3, 1) := by decide +kernel
theorem dX4_laySenses_47 : decode cX4_laySenses 47 = .ok (.iconst 4, 1) := by decide +kernel
theorem dX4_laySenses_48 : decode cX4_laySenses 48 = .ok (.irem, 1) := by decide +kernel
theorem dX4_laySenses_49 : decode cX4_laySenses 49 = .ok (.if_icmp .ge 15, 3) := by decide +kernel
theorem dX4_laySenses_52 : decode cX4_laySenses 52 = .ok (.aload_n 0, 1) := by decide +kernel
theorem dX4_laySenses_53 : decode cX4_laySenses 53 = .ok (.iconst 1, 1) := by decide +kernel
theorem dX4_laySenses_54 : decode cX4_laySenses 54 = .ok (.iload_n 2, 1) := by decide +kernel
theorem dX4_laySenses_55 : decode cX4_laySenses 55 = .ok (.invokevirtual 91, 3) := by decide +kernel
theorem dX4_laySenses_58 : decode cX4_laySenses 58 = .ok (.iinc 4 1, 3) := by decide +kernel
theorem dX4_laySenses_61 : decode cX4_laySenses 61 = .ok (.goto (-17), 3) := by decide +kernel
theorem dX4_laySenses_64 : decode cX4_laySenses 64 = .ok (.aload_n 0, 1) := by decide +kernel
theorem dX4_laySenses_65 : decode cX4_laySenses 65 = .ok (.getfield 34, 3) := by decide +kernel
theorem dX4_laySenses_68 : decode cX4_laySenses 68 = .ok (.iload_n 3, 1) := by decide +kernel
theorem dX4_laySenses_69 : decode cX4_laySenses 69 = .ok (.aload_n 0, 1) := by decide +kernel
theorem dX4_laySenses_70 : decode cX4_laySenses 70 = .ok (.getfield 16, 3) := by decide +kernel
theorem dX4_laySenses_73 : decode cX4_laySenses 73 = .ok (.bipush 49, 2) := by decide +kernel
theorem dX4_laySenses_75 : decode cX4_laySenses 75 = .ok (.iaload, 1) := by decide +kernel
theorem dX4_laySenses_76 : decode cX4_laySenses 76 = .ok (.iastore, 1) := by decide +kernel
theorem dX4_laySenses_77 : decode cX4_laySenses 77 = .ok (.iinc 3 1, 3) := by decide +kernel
theorem dX4_laySenses_80 : decode cX4_laySenses 80 = .ok (.goto (-78), 3) := by decide +kernel
theorem dX4_laySenses_83 : decode cX4_laySenses 83 = .ok (.return_, 1) := by decide +kernel
set_option maxRecDepth 20000 in
theorem ggX4_rests_X4_isPerson : GoodIn wsX4_rests wsX4_isPerson := goodIn_r _ [6, 7, 8, 9, 5, 10, 37, 38, 39, 40, 41, 42, 43, 44, 45, 46, 47, 48, 49, 50, 51, 52, 53, 54, 55, 56, 57, 58, 59, 60] (by decide +kernel) (by decide +kernel)
set_option maxRecDepth 20000 in
theorem gX4_rests_X4_isPerson : GoodIn wsX4_rests (wsV RX4 95 RX4 yX4_isPerson wsX4_isPerson) := goodIn_app (goodIn_of _ (by decide +kernel)) ggX4_rests_X4_isPerson
set_option maxRecDepth 20000 in
theorem ggX4_rests_X4_in : GoodIn wsX4_rests wsX4_in := goodIn_r _ [10] (by decide +kernel) (by decide +kernel)
set_option maxRecDepth 20000 in
theorem gX4_rests_X4_in : GoodIn wsX4_rests (va_wsS RX4 46 yX4_in wsX4_in) := goodIn_app (goodIn_of _ (by decide +kernel)) ggX4_rests_X4_in
set_option maxRecDepth 20000 in
theorem ggX4_rests_X4_laySenses : GoodIn wsX4_rests wsX4_laySenses := goodIn_r _ [14, 15, 16, 17, 18, 19, 5, 20, 21, 22, 23, 24, 25, 26, 27, 28, 29, 37, 38, 39, 40, 41, 42, 43, 44, 45, 46, 47, 48, 49, 50, 51, 52, 53, 54, 55, 56, 57, 58, 59, 60] (by decide +kernel) (by decide +kernel)
set_option maxRecDepth 20000 in
theorem gX4_rests_X4_laySenses : GoodIn wsX4_rests (wsV RX4 176 RX4 yX4_laySenses wsX4_laySenses) := goodIn_app (goodIn_of _ (by decide +kernel)) ggX4_rests_X4_laySenses
set_option maxRecDepth 20000 in
theorem ggX4_rests_X4_isRest : GoodIn wsX4_rests wsX4_isRest := goodIn_r _ [33, 16, 34, 35, 5, 36, 37, 38, 39, 40, 41, 42, 43, 44, 45, 46, 47, 48, 49, 50, 51, 52, 53, 54, 55, 56, 57, 58, 59, 60] (by decide +kernel) (by decide +kernel)
set_option maxRecDepth 20000 in
theorem gX4_rests_X4_isRest : GoodIn wsX4_rests (wsV RX4 179 RX4 yX4_isRest wsX4_isRest) := goodIn_app (goodIn_of _ (by decide +kernel)) ggX4_rests_X4_isRest
theorem dX4_rests_0 : decode cX4_rests 0 = .ok (.aload_n 0, 1) := by decide +kernel
theorem dX4_rests_1 : decode cX4_rests 1 = .ok (.iload_n 1, 1) := by decide +kernel
theorem dX4_rests_2 : decode cX4_rests 2 = .ok (.invokevirtual 95, 3) := by decide +kernel
theorem dX4_rests_5 : decode cX4_rests 5 = .ok (.ifCond .eq 11, 3) := by decide +kernel
theorem dX4_rests_8 : decode cX4_rests 8 = .ok (.aload_n 0, 1) := by decide +kernel
theorem dX4_rests_9 : decode cX4_rests 9 = .ok (.iload_n 2, 1) := by decide +kernel
theorem dX4_rests_10 : decode cX4_rests 10 = .ok (.invokevirtual 95, 3) := by decide +kernel
theorem dX4_rests_13 : decode cX4_rests 13 = .ok (.ifCond .ne 5, 3) := by decide +kernel
theorem dX4_rests_16 : decode cX4_rests 16 = .ok (.iconst (-1), 1) := by decide +kernel
theorem dX4_rests_17 : decode cX4_rests 17 = .ok (.ireturn, 1) := by decide +kernel
theorem dX4_rests_18 : decode cX4_rests 18 = .ok (.iload_n 1, 1) := by decide +kernel
theorem dX4_rests_19 : decode cX4_rests 19 = .ok (.iload_n 2, 1) := by decide +kernel
theorem dX4_rests_20 : decode cX4_rests 20 = .ok (.if_icmp .eq 39, 3) := by decide +kernel
theorem dX4_rests_23 : decode cX4_rests 23 = .ok (.iload_n 3, 1) := by decide +kernel
theorem dX4_rests_24 : decode cX4_rests 24 = .ok (.i2l, 1) := by decide +kernel
theorem dX4_rests_25 : decode cX4_rests 25 = .ok (.lconst 0, 1) := by decide +kernel
theorem dX4_rests_26 : decode cX4_rests 26 = .ok (.ldc2_w 119, 3) := by decide +kernel
theorem dX4_rests_29 : decode cX4_rests 29 = .ok (.invokestatic 46, 3) := by decide +kernel
theorem dX4_rests_32 : decode cX4_rests 32 = .ok (.ifCond .eq 27, 3) := by decide +kernel
theorem dX4_rests_35 : decode cX4_rests 35 = .ok (.iload 4, 2) := by decide +kernel
theorem dX4_rests_37 : decode cX4_rests 37 = .ok (.i2l, 1) := by decide +kernel
theorem dX4_rests_38 : decode cX4_rests 38 = .ok (.lconst 0, 1) := by decide +kernel
theorem dX4_rests_39 : decode cX4_rests 39 = .ok (.ldc2_w 119, 3) := by decide +kernel
theorem dX4_rests_42 : decode cX4_rests 42 = .ok (.invokestatic 46, 3) := by decide +kernel
theorem dX4_rests_45 : decode cX4_rests 45 = .ok (.ifCond .eq 14, 3) := by decide +kernel
theorem dX4_rests_48 : decode cX4_rests 48 = .ok (.iload 5, 2) := by decide +kernel
theorem dX4_rests_50 : decode cX4_rests 50 = .ok (.i2l, 1) := by decide +kernel
theorem dX4_rests_51 : decode cX4_rests 51 = .ok (.lconst 0, 1) := by decide +kernel
theorem dX4_rests_52 : decode cX4_rests 52 = .ok (.lconst 1, 1) := by decide +kernel
theorem dX4_rests_53 : decode cX4_rests 53 = .ok (.invokestatic 46, 3) := by decide +kernel
theorem dX4_rests_56 : decode cX4_rests 56 = .ok (.ifCond .ne 6, 3) := by decide +kernel
theorem dX4_rests_59 : decode cX4_rests 59 = .ok (.bipush (-2), 2) := by decide +kernel
theorem dX4_rests_61 : decode cX4_rests 61 = .ok (.ireturn, 1) := by decide +kernel
theorem dX4_rests_62 : decode cX4_rests 62 = .ok (.aload_n 0, 1) := by decide +kernel
theorem dX4_rests_63 : decode cX4_rests 63 = .ok (.iload_n 1, 1) := by decide +kernel
theorem dX4_rests_64 : decode cX4_rests 64 = .ok (.iload_n 2, 1) := by decide +kernel
theorem dX4_rests_65 : decode cX4_rests 65 = .ok (.invokevirtual 176, 3) := by decide +kernel
theorem dX4_rests_68 : decode cX4_rests 68 = .ok (.iconst 0, 1) := by decide +kernel
theorem dX4_rests_69 : decode cX4_rests 69 = .ok (.istore 6, 2) := by decide +kernel
theorem dX4_rests_71 : decode cX4_rests 71 = .ok (.bipush (-9), 2) := by decide +kernel
theorem dX4_rests_73 : decode cX4_rests 73 = .ok (.istore 7, 2) := by decide +kernel
theorem dX4_rests_75 : decode cX4_rests 75 = .ok (.iconst 0, 1) := by decide +kernel
theorem dX4_rests_76 : decode cX4_rests 76 = .ok (.istore 8, 2) := by decide +kernel
theorem dX4_rests_78 : decode cX4_rests 78 = .ok (.iload 8, 2) := by decide +kernel
theorem dX4_rests_80 : decode cX4_rests 80 = .ok (.bipush 16, 2) := by decide +kernel
theorem dX4_rests_82 : decode cX4_rests 82 = .ok (.if_icmp .ge 48, 3) := by decide +kernel
theorem dX4_rests_85 : decode cX4_rests 85 = .ok (.aload_n 0, 1) := by decide +kernel
theorem dX4_rests_86 : decode cX4_rests 86 = .ok (.iload 8, 2) := by decide +kernel
theorem dX4_rests_88 : decode cX4_rests 88 = .ok (.iload_n 3, 1) := by decide +kernel
theorem dX4_rests_89 : decode cX4_rests 89 = .ok (.iload 4, 2) := by decide +kernel
theorem dX4_rests_91 : decode cX4_rests 91 = .ok (.invokevirtual 179, 3) := by decide +kernel
theorem dX4_rests_94 : decode cX4_rests 94 = .ok (.ifCond .eq 30, 3) := by decide +kernel
theorem dX4_rests_97 : decode cX4_rests 97 = .ok (.iload 6, 2) := by decide +kernel
theorem dX4_rests_99 : decode cX4_rests 99 = .ok (.ifCond .ne 18, 3) := by decide +kernel
theorem dX4_rests_102 : decode cX4_rests 102 = .ok (.bipush 10, 2) := by decide +kernel
theorem dX4_rests_104 : decode cX4_rests 104 = .ok (.iload 8, 2) := by decide +kernel
theorem dX4_rests_106 : decode cX4_rests 106 = .ok (.iconst 4, 1) := by decide +kernel
theorem dX4_rests_107 : decode cX4_rests 107 = .ok (.idiv, 1) := by decide +kernel
theorem dX4_rests_108 : decode cX4_rests 108 = .ok (.imul, 1) := by decide +kernel
theorem dX4_rests_109 : decode cX4_rests 109 = .ok (.iload 8, 2) := by decide +kernel
theorem dX4_rests_111 : decode cX4_rests 111 = .ok (.iconst 4, 1) := by decide +kernel
theorem dX4_rests_112 : decode cX4_rests 112 = .ok (.irem, 1) := by decide +kernel
theorem dX4_rests_113 : decode cX4_rests 113 = .ok (.iadd, 1) := by decide +kernel
theorem dX4_rests_114 : decode cX4_rests 114 = .ok (.goto 5, 3) := by decide +kernel
theorem dX4_rests_117 : decode cX4_rests 117 = .ok (.iload 7, 2) := by decide +kernel
theorem dX4_rests_119 : decode cX4_rests 119 = .ok (.istore 7, 2) := by decide +kernel
theorem dX4_rests_121 : decode cX4_rests 121 = .ok (.iinc 6 1, 3) := by decide +kernel
theorem dX4_rests_124 : decode cX4_rests 124 = .ok (.iinc 8 1, 3) := by decide +kernel
theorem dX4_rests_127 : decode cX4_rests 127 = .ok (.goto (-49), 3) := by decide +kernel
theorem dX4_rests_130 : decode cX4_rests 130 = .ok (.iload 5, 2) := by decide +kernel
theorem dX4_rests_132 : decode cX4_rests 132 = .ok (.ifCond .ne 8, 3) := by decide +kernel
theorem dX4_rests_135 : decode cX4_rests 135 = .ok (.iload 6, 2) := by decide +kernel
theorem dX4_rests_137 : decode cX4_rests 137 = .ok (.goto 5, 3) := by decide +kernel
theorem dX4_rests_140 : decode cX4_rests 140 = .ok (.iload 7, 2) := by decide +kernel
theorem dX4_rests_142 : decode cX4_rests 142 = .ok (.ireturn, 1) := by decide +kernel
set_option maxRecDepth 20000 in
theorem ggX4_chance_X4_in : GoodIn wsX4_chance wsX4_in := goodIn_r _ [7] (by decide +kernel) (by decide +kernel)
set_option maxRecDepth 20000 in
theorem gX4_chance_X4_in : GoodIn wsX4_chance (va_wsS RX4 46 yX4_in wsX4_in) := goodIn_app (goodIn_of _ (by decide +kernel)) ggX4_chance_X4_in
set_option maxRecDepth 20000 in
theorem ggX4_chance_X4_sevens : GoodIn wsX4_chance wsX4_sevens := goodIn_r _ [10] (by decide +kernel) (by decide +kernel)
set_option maxRecDepth 20000 in
theorem gX4_chance_X4_sevens : GoodIn wsX4_chance (va_wsS RX4 141 yX4_sevens wsX4_sevens) := goodIn_app (goodIn_of _ (by decide +kernel)) ggX4_chance_X4_sevens
set_option maxRecDepth 20000 in
theorem ggX4_chance_X4_rowOf : GoodIn wsX4_chance wsX4_rowOf := goodIn_r _ [13] (by decide +kernel) (by decide +kernel)
set_option maxRecDepth 20000 in
theorem gX4_chance_X4_rowOf : GoodIn wsX4_chance (va_wsS RX4 144 yX4_rowOf wsX4_rowOf) := goodIn_app (goodIn_of _ (by decide +kernel)) ggX4_chance_X4_rowOf
set_option maxRecDepth 20000 in
theorem ggX4_chance_X4_whoIn : GoodIn wsX4_chance wsX4_whoIn := goodIn_r _ [16] (by decide +kernel) (by decide +kernel)
set_option maxRecDepth 20000 in
theorem gX4_chance_X4_whoIn : GoodIn wsX4_chance (va_wsS RX4 164 yX4_whoIn wsX4_whoIn) := goodIn_app (goodIn_of _ (by decide +kernel)) ggX4_chance_X4_whoIn
set_option maxRecDepth 20000 in
theorem ggX4_chance_X4_layTrial : GoodIn wsX4_chance wsX4_layTrial := goodIn_r _ [20, 3, 21, 22, 48, 49, 50, 51, 52, 53, 54, 55, 56, 57, 58, 59, 60, 61, 62, 63, 64, 65, 66, 67, 68, 69, 70, 71] (by decide +kernel) (by decide +kernel)
set_option maxRecDepth 20000 in
theorem gX4_chance_X4_layTrial : GoodIn wsX4_chance (wsV RX4 127 RX4 yX4_layTrial wsX4_layTrial) := goodIn_app (goodIn_of _ (by decide +kernel)) ggX4_chance_X4_layTrial
set_option maxRecDepth 20000 in
theorem ggX4_chance_X4_tenTo : GoodIn wsX4_chance wsX4_tenTo := goodIn_r _ [25] (by decide +kernel) (by decide +kernel)
set_option maxRecDepth 20000 in
theorem gX4_chance_X4_tenTo : GoodIn wsX4_chance (va_wsS RX4 131 yX4_tenTo wsX4_tenTo) := goodIn_app (goodIn_of _ (by decide +kernel)) ggX4_chance_X4_tenTo
set_option maxRecDepth 20000 in
theorem ggX4_chance_X4_may : GoodIn wsX4_chance wsX4_may := goodIn_r _ [29, 3, 30, 31, 32, 6, 33, 48, 49, 50, 51, 52, 53, 54, 55, 56, 57, 58, 59, 60, 61, 62, 63, 64, 65, 66, 67, 68, 69, 70, 71] (by decide +kernel) (by decide +kernel)
set_option maxRecDepth 20000 in
theorem gX4_chance_X4_may : GoodIn wsX4_chance (wsV RX4 99 RX4 yX4_may wsX4_may) := goodIn_app (goodIn_of _ (by decide +kernel)) ggX4_chance_X4_may
set_option maxRecDepth 20000 in
theorem ggX4_chance_X4_sayOn : GoodIn wsX4_chance wsX4_sayOn := goodIn_r _ [37, 30, 3, 38, 39, 40, 6, 41, 42, 43, 44, 48, 49, 50, 51, 52, 53, 54, 55, 56, 57, 58, 59, 60, 61, 62, 63, 64, 65, 66, 67, 68, 69, 70, 71] (by decide +kernel) (by decide +kernel)
set_option maxRecDepth 20000 in
theorem gX4_chance_X4_sayOn : GoodIn wsX4_chance (wsV RX4 114 RX4 yX4_sayOn wsX4_sayOn) := goodIn_app (goodIn_of _ (by decide +kernel)) ggX4_chance_X4_sayOn
set_option maxRecDepth 20000 in
theorem ggX4_chance_X4_common : GoodIn wsX4_chance wsX4_common := goodIn_r _ [47] (by decide +kernel) (by decide +kernel)
set_option maxRecDepth 20000 in
theorem gX4_chance_X4_common : GoodIn wsX4_chance (va_wsS RX4 170 yX4_common wsX4_common) := goodIn_app (goodIn_of _ (by decide +kernel)) ggX4_chance_X4_common
theorem dX4_chance_0 : decode cX4_chance 0 = .ok (.iload_n 1, 1) := by decide +kernel
theorem dX4_chance_1 : decode cX4_chance 1 = .ok (.i2l, 1) := by decide +kernel
theorem dX4_chance_2 : decode cX4_chance 2 = .ok (.lconst 1, 1) := by decide +kernel
theorem dX4_chance_3 : decode cX4_chance 3 = .ok (.ldc2_w 160, 3) := by decide +kernel
theorem dX4_chance_6 : decode cX4_chance 6 = .ok (.invokestatic 46, 3) := by decide +kernel
theorem dX4_chance_9 : decode cX4_chance 9 = .ok (.ifCond .eq 15, 3) := by decide +kernel
theorem dX4_chance_12 : decode cX4_chance 12 = .ok (.iload_n 2, 1) := by decide +kernel
theorem dX4_chance_13 : decode cX4_chance 13 = .ok (.i2l, 1) := by decide +kernel
theorem dX4_chance_14 : decode cX4_chance 14 = .ok (.lconst 0, 1) := by decide +kernel
theorem dX4_chance_15 : decode cX4_chance 15 = .ok (.ldc2_w 119, 3) := by decide +kernel
theorem dX4_chance_18 : decode cX4_chance 18 = .ok (.invokestatic 46, 3) := by decide +kernel
theorem dX4_chance_21 : decode cX4_chance 21 = .ok (.ifCond .ne 6, 3) := by decide +kernel
theorem dX4_chance_24 : decode cX4_chance 24 = .ok (.bipush (-2), 2) := by decide +kernel
theorem dX4_chance_26 : decode cX4_chance 26 = .ok (.ireturn, 1) := by decide +kernel
theorem dX4_chance_27 : decode cX4_chance 27 = .ok (.aload_n 0, 1) := by decide +kernel
theorem dX4_chance_28 : decode cX4_chance 28 = .ok (.getfield 16, 3) := by decide +kernel
theorem dX4_chance_31 : decode cX4_chance 31 = .ok (.iconst 0, 1) := by decide +kernel
theorem dX4_chance_32 : decode cX4_chance 32 = .ok (.iaload, 1) := by decide +kernel
theorem dX4_chance_33 : decode cX4_chance 33 = .ok (.ifCond .ne 28, 3) := by decide +kernel
theorem dX4_chance_36 : decode cX4_chance 36 = .ok (.iload_n 3, 1) := by decide +kernel
theorem dX4_chance_37 : decode cX4_chance 37 = .ok (.ifCond .eq 22, 3) := by decide +kernel
theorem dX4_chance_40 : decode cX4_chance 40 = .ok (.aload_n 0, 1) := by decide +kernel
theorem dX4_chance_41 : decode cX4_chance 41 = .ok (.getfield 16, 3) := by decide +kernel
theorem dX4_chance_44 : decode cX4_chance 44 = .ok (.bipush 22, 2) := by decide +kernel
theorem dX4_chance_46 : decode cX4_chance 46 = .ok (.iaload, 1) := by decide +kernel
theorem dX4_chance_47 : decode cX4_chance 47 = .ok (.iload_n 2, 1) := by decide +kernel
theorem dX4_chance_48 : decode cX4_chance 48 = .ok (.if_icmp .ne 7, 3) := by decide +kernel
theorem dX4_chance_51 : decode cX4_chance 51 = .ok (.iconst 1, 1) := by decide +kernel
theorem dX4_chance_52 : decode cX4_chance 52 = .ok (.goto 8, 3) := by decide +kernel
theorem dX4_chance_55 : decode cX4_chance 55 = .ok (.iconst 0, 1) := by decide +kernel
theorem dX4_chance_56 : decode cX4_chance 56 = .ok (.goto 4, 3) := by decide +kernel
theorem dX4_chance_59 : decode cX4_chance 59 = .ok (.iconst 1, 1) := by decide +kernel
theorem dX4_chance_60 : decode cX4_chance 60 = .ok (.ireturn, 1) := by decide +kernel
theorem dX4_chance_61 : decode cX4_chance 61 = .ok (.iconst 0, 1) := by decide +kernel
theorem dX4_chance_62 : decode cX4_chance 62 = .ok (.istore 4, 2) := by decide +kernel
theorem dX4_chance_64 : decode cX4_chance 64 = .ok (.iconst 0, 1) := by decide +kernel
theorem dX4_chance_65 : decode cX4_chance 65 = .ok (.istore 5, 2) := by decide +kernel
theorem dX4_chance_67 : decode cX4_chance 67 = .ok (.iconst 0, 1) := by decide +kernel
theorem dX4_chance_68 : decode cX4_chance 68 = .ok (.istore 6, 2) := by decide +kernel
theorem dX4_chance_70 : decode cX4_chance 70 = .ok (.iload 6, 2) := by decide +kernel
theorem dX4_chance_72 : decode cX4_chance 72 = .ok (.iload_n 1, 1) := by decide +kernel
theorem dX4_chance_73 : decode cX4_chance 73 = .ok (.invokestatic 141, 3) := by decide +kernel
theorem dX4_chance_76 : decode cX4_chance 76 = .ok (.if_icmp .ge 116, 3) := by decide +kernel
theorem dX4_chance_79 : decode cX4_chance 79 = .ok (.iload 6, 2) := by decide +kernel
theorem dX4_chance_81 : decode cX4_chance 81 = .ok (.iload_n 1, 1) := by decide +kernel
theorem dX4_chance_82 : decode cX4_chance 82 = .ok (.invokestatic 144, 3) := by decide +kernel
theorem dX4_chance_85 : decode cX4_chance 85 = .ok (.istore 7, 2) := by decide +kernel
theorem dX4_chance_87 : decode cX4_chance 87 = .ok (.iload 7, 2) := by decide +kernel
theorem dX4_chance_89 : decode cX4_chance 89 = .ok (.invokestatic 164, 3) := by decide +kernel
theorem dX4_chance_92 : decode cX4_chance 92 = .ok (.aload_n 0, 1) := by decide +kernel
theorem dX4_chance_93 : decode cX4_chance 93 = .ok (.getfield 16, 3) := by decide +kernel
theorem dX4_chance_96 : decode cX4_chance 96 = .ok (.iconst 0, 1) := by decide +kernel
theorem dX4_chance_97 : decode cX4_chance 97 = .ok (.iaload, 1) := by decide +kernel
theorem dX4_chance_98 : decode cX4_chance 98 = .ok (.iconst (-1), 1) := by decide +kernel
theorem dX4_chance_99 : decode cX4_chance 99 = .ok (.ixor, 1) := by decide +kernel
theorem dX4_chance_100 : decode cX4_chance 100 = .ok (.iand, 1) := by decide +kernel
theorem dX4_chance_101 : decode cX4_chance 101 = .ok (.ifCond .ne 85, 3) := by decide +kernel
theorem dX4_chance_104 : decode cX4_chance 104 = .ok (.aload_n 0, 1) := by decide +kernel
theorem dX4_chance_105 : decode cX4_chance 105 = .ok (.aload_n 0, 1) := by decide +kernel
theorem dX4_chance_106 : decode cX4_chance 106 = .ok (.getfield 16, 3) := by decide +kernel
theorem dX4_chance_109 : decode cX4_chance 109 = .ok (.iconst 0, 1) := by decide +kernel
theorem dX4_chance_110 : decode cX4_chance 110 = .ok (.iaload, 1) := by decide +kernel
theorem dX4_chance_111 : decode cX4_chance 111 = .ok (.invokevirtual 127, 3) := by decide +kernel
theorem dX4_chance_114 : decode cX4_chance 114 = .ok (.iload_n 1, 1) := by decide +kernel
theorem dX4_chance_115 : decode cX4_chance 115 = .ok (.iconst 1, 1) := by decide +kernel
theorem dX4_chance_116 : decode cX4_chance 116 = .ok (.isub, 1) := by decide +kernel
theorem dX4_chance_117 : decode cX4_chance 117 = .ok (.istore 8, 2) := by decide +kernel
theorem dX4_chance_119 : decode cX4_chance 119 = .ok (.iload 8, 2) := by decide +kernel
theorem dX4_chance_121 : decode cX4_chance 121 = .ok (.ifCond .lt 41, 3) := by decide +kernel
theorem dX4_chance_124 : decode cX4_chance 124 = .ok (.iload 7, 2) := by decide +kernel
theorem dX4_chance_126 : decode cX4_chance 126 = .ok (.iload 8, 2) := by decide +kernel
theorem dX4_chance_128 : decode cX4_chance 128 = .ok (.invokestatic 131, 3) := by decide +kernel
theorem dX4_chance_131 : decode cX4_chance 131 = .ok (.idiv, 1) := by decide +kernel
theorem dX4_chance_132 : decode cX4_chance 132 = .ok (.bipush 10, 2) := by decide +kernel
theorem dX4_chance_134 : decode cX4_chance 134 = .ok (.irem, 1) := by decide +kernel
theorem dX4_chance_135 : decode cX4_chance 135 = .ok (.iconst 1, 1) := by decide +kernel
theorem dX4_chance_136 : decode cX4_chance 136 = .ok (.isub, 1) := by decide +kernel
theorem dX4_chance_137 : decode cX4_chance 137 = .ok (.istore 9, 2) := by decide +kernel
theorem dX4_chance_139 : decode cX4_chance 139 = .ok (.aload_n 0, 1) := by decide +kernel
theorem dX4_chance_140 : decode cX4_chance 140 = .ok (.iconst 1, 1) := by decide +kernel
theorem dX4_chance_141 : decode cX4_chance 141 = .ok (.iload 9, 2) := by decide +kernel
theorem dX4_chance_143 : decode cX4_chance 143 = .ok (.invokevirtual 99, 3) := by decide +kernel
theorem dX4_chance_146 : decode cX4_chance 146 = .ok (.ifCond .eq 10, 3) := by decide +kernel
theorem dX4_chance_149 : decode cX4_chance 149 = .ok (.aload_n 0, 1) := by decide +kernel
theorem dX4_chance_150 : decode cX4_chance 150 = .ok (.iconst 1, 1) := by decide +kernel
theorem dX4_chance_151 : decode cX4_chance 151 = .ok (.iload 9, 2) := by decide +kernel
theorem dX4_chance_153 : decode cX4_chance 153 = .ok (.invokevirtual 114, 3) := by decide +kernel
theorem dX4_chance_156 : decode cX4_chance 156 = .ok (.iinc 8 (-1), 3) := by decide +kernel
theorem dX4_chance_159 : decode cX4_chance 159 = .ok (.goto (-40), 3) := by decide +kernel
theorem dX4_chance_162 : decode cX4_chance 162 = .ok (.iinc 5 1, 3) := by decide +kernel
theorem dX4_chance_165 : decode cX4_chance 165 = .ok (.iload 4, 2) := by decide +kernel
theorem dX4_chance_167 : decode cX4_chance 167 = .ok (.aload_n 0, 1) := by decide +kernel
theorem dX4_chance_168 : decode cX4_chance 168 = .ok (.getfield 16, 3) := by decide +kernel
theorem dX4_chance_171 : decode cX4_chance 171 = .ok (.bipush 49, 2) := by decide +kernel
theorem dX4_chance_173 : decode cX4_chance 173 = .ok (.iaload, 1) := by decide +kernel
theorem dX4_chance_174 : decode cX4_chance 174 = .ok (.iload_n 2, 1) := by decide +kernel
theorem dX4_chance_175 : decode cX4_chance 175 = .ok (.if_icmp .ne 7, 3) := by decide +kernel
theorem dX4_chance_178 : decode cX4_chance 178 = .ok (.iconst 1, 1) := by decide +kernel
theorem dX4_chance_179 : decode cX4_chance 179 = .ok (.goto 4, 3) := by decide +kernel
theorem dX4_chance_182 : decode cX4_chance 182 = .ok (.iconst 0, 1) := by decide +kernel
theorem dX4_chance_183 : decode cX4_chance 183 = .ok (.iadd, 1) := by decide +kernel
theorem dX4_chance_184 : decode cX4_chance 184 = .ok (.istore 4, 2) := by decide +kernel
theorem dX4_chance_186 : decode cX4_chance 186 = .ok (.iinc 6 1, 3) := by decide +kernel
theorem dX4_chance_189 : decode cX4_chance 189 = .ok (.goto (-119), 3) := by decide +kernel
theorem dX4_chance_192 : decode cX4_chance 192 = .ok (.iload 4, 2) := by decide +kernel
theorem dX4_chance_194 : decode cX4_chance 194 = .ok (.iload 5, 2) := by decide +kernel
theorem dX4_chance_196 : decode cX4_chance 196 = .ok (.invokestatic 170, 3) := by decide +kernel
theorem dX4_chance_199 : decode cX4_chance 199 = .ok (.istore 6, 2) := by decide +kernel
theorem dX4_chance_201 : decode cX4_chance 201 = .ok (.iload_n 3, 1) := by decide +kernel
theorem dX4_chance_202 : decode cX4_chance 202 = .ok (.ifCond .eq 11, 3) := by decide +kernel
theorem dX4_chance_205 : decode cX4_chance 205 = .ok (.iload 4, 2) := by decide +kernel
theorem dX4_chance_207 : decode cX4_chance 207 = .ok (.iload 6, 2) := by decide +kernel
theorem dX4_chance_209 : decode cX4_chance 209 = .ok (.idiv, 1) := by decide +kernel
theorem dX4_chance_210 : decode cX4_chance 210 = .ok (.goto 8, 3) := by decide +kernel
theorem dX4_chance_213 : decode cX4_chance 213 = .ok (.iload 5, 2) := by decide +kernel
theorem dX4_chance_215 : decode cX4_chance 215 = .ok (.iload 6, 2) := by decide +kernel
theorem dX4_chance_217 : decode cX4_chance 217 = .ok (.idiv, 1) := by decide +kernel
theorem dX4_chance_218 : decode cX4_chance 218 = .ok (.ireturn, 1) := by decide +kernel
theorem dX4_seed_0 : decode cX4_seed 0 = .ok (.aload_n 0, 1) := by decide +kernel
theorem dX4_seed_1 : decode cX4_seed 1 = .ok (.getfield 183, 3) := by decide +kernel
theorem dX4_seed_4 : decode cX4_seed 4 = .ok (.lstore_n 3, 1) := by decide +kernel
theorem dX4_seed_5 : decode cX4_seed 5 = .ok (.aload_n 0, 1) := by decide +kernel
theorem dX4_seed_6 : decode cX4_seed 6 = .ok (.lload_n 1, 1) := by decide +kernel
theorem dX4_seed_7 : decode cX4_seed 7 = .ok (.putfield 183, 3) := by decide +kernel
theorem dX4_seed_10 : decode cX4_seed 10 = .ok (.lload_n 3, 1) := by decide +kernel
theorem dX4_seed_11 : decode cX4_seed 11 = .ok (.lreturn, 1) := by decide +kernel
set_option maxRecDepth 20000 in
theorem ggX4_nights_X4_in : GoodIn wsX4_nights wsX4_in := goodIn_r _ [10] (by decide +kernel) (by decide +kernel)
set_option maxRecDepth 20000 in
theorem gX4_nights_X4_in : GoodIn wsX4_nights (va_wsS RX4 46 yX4_in wsX4_in) := goodIn_app (goodIn_of _ (by decide +kernel)) ggX4_nights_X4_in
set_option maxRecDepth 20000 in
theorem ggX4_nights_X4_layTrial : GoodIn wsX4_nights wsX4_layTrial := goodIn_r _ [14, 2, 15, 16, 41, 42, 43, 44, 45, 46, 47, 48, 49, 50, 51, 52, 53, 54, 55, 56, 57, 58, 59, 60, 61, 62, 63, 64] (by decide +kernel) (by decide +kernel)
set_option maxRecDepth 20000 in
theorem gX4_nights_X4_layTrial : GoodIn wsX4_nights (wsV RX4 127 RX4 yX4_layTrial wsX4_layTrial) := goodIn_app (goodIn_of _ (by decide +kernel)) ggX4_nights_X4_layTrial
set_option maxRecDepth 20000 in
theorem ggX4_nights_X4_isPerson : GoodIn wsX4_nights wsX4_isPerson := goodIn_r _ [20, 21, 7, 8, 9, 10, 41, 42, 43, 44, 45, 46, 47, 48, 49, 50, 51, 52, 53, 54, 55, 56, 57, 58, 59, 60, 61, 62, 63, 64] (by decide +kernel) (by decide +kernel)
set_option maxRecDepth 20000 in
theorem gX4_nights_X4_isPerson : GoodIn wsX4_nights (wsV RX4 95 RX4 yX4_isPerson wsX4_isPerson) := goodIn_app (goodIn_of _ (by decide +kernel)) ggX4_nights_X4_isPerson
set_option maxRecDepth 20000 in
theorem ggX4_nights_X4_may : GoodIn wsX4_nights wsX4_may := goodIn_r _ [25, 2, 26, 27, 28, 9, 29, 41, 42, 43, 44, 45, 46, 47, 48, 49, 50, 51, 52, 53, 54, 55, 56, 57, 58, 59, 60, 61, 62, 63, 64] (by decide +kernel) (by decide +kernel)
set_option maxRecDepth 20000 in
theorem gX4_nights_X4_may : GoodIn wsX4_nights (wsV RX4 99 RX4 yX4_may wsX4_may) := goodIn_app (goodIn_of _ (by decide +kernel)) ggX4_nights_X4_may
set_option maxRecDepth 20000 in
theorem ggX4_nights_X4_sayOn : GoodIn wsX4_nights wsX4_sayOn := goodIn_r _ [33, 26, 2, 34, 35, 36, 9, 37, 38, 39, 40, 41, 42, 43, 44, 45, 46, 47, 48, 49, 50, 51, 52, 53, 54, 55, 56, 57, 58, 59, 60, 61, 62, 63, 64] (by decide +kernel) (by decide +kernel)
set_option maxRecDepth 20000 in
theorem gX4_nights_X4_sayOn : GoodIn wsX4_nights (wsV RX4 114 RX4 yX4_sayOn wsX4_sayOn) := goodIn_app (goodIn_of _ (by decide +kernel)) ggX4_nights_X4_sayOn
theorem dX4_nights_0 : decode cX4_nights 0 = .ok (.iload_n 1, 1) := by decide +kernel
theorem dX4_nights_1 : decode cX4_nights 1 = .ok (.i2l, 1) := by decide +kernel
theorem dX4_nights_2 : decode cX4_nights 2 = .ok (.lconst 1, 1) := by decide +kernel
theorem dX4_nights_3 : decode cX4_nights 3 = .ok (.ldc2_w 187, 3) := by decide +kernel
theorem dX4_nights_6 : decode cX4_nights 6 = .ok (.invokestatic 46, 3) := by decide +kernel
theorem dX4_nights_9 : decode cX4_nights 9 = .ok (.ifCond .ne 6, 3) := by decide +kernel
theorem dX4_nights_12 : decode cX4_nights 12 = .ok (.bipush (-2), 2) := by decide +kernel
theorem dX4_nights_14 : decode cX4_nights 14 = .ok (.ireturn, 1) := by decide +kernel
theorem dX4_nights_15 : decode cX4_nights 15 = .ok (.aload_n 0, 1) := by decide +kernel
theorem dX4_nights_16 : decode cX4_nights 16 = .ok (.aload_n 0, 1) := by decide +kernel
theorem dX4_nights_17 : decode cX4_nights 17 = .ok (.getfield 16, 3) := by decide +kernel
theorem dX4_nights_20 : decode cX4_nights 20 = .ok (.iconst 0, 1) := by decide +kernel
theorem dX4_nights_21 : decode cX4_nights 21 = .ok (.iaload, 1) := by decide +kernel
theorem dX4_nights_22 : decode cX4_nights 22 = .ok (.invokevirtual 127, 3) := by decide +kernel
theorem dX4_nights_25 : decode cX4_nights 25 = .ok (.iconst 0, 1) := by decide +kernel
theorem dX4_nights_26 : decode cX4_nights 26 = .ok (.istore_n 2, 1) := by decide +kernel
theorem dX4_nights_27 : decode cX4_nights 27 = .ok (.iconst 0, 1) := by decide +kernel
theorem dX4_nights_28 : decode cX4_nights 28 = .ok (.istore_n 3, 1) := by decide +kernel
theorem dX4_nights_29 : decode cX4_nights 29 = .ok (.iload_n 3, 1) := by decide +kernel
theorem dX4_nights_30 : decode cX4_nights 30 = .ok (.iload_n 1, 1) := by decide +kernel
theorem dX4_nights_31 : decode cX4_nights 31 = .ok (.if_icmp .ge 75, 3) := by decide +kernel
theorem dX4_nights_34 : decode cX4_nights 34 = .ok (.aload_n 0, 1) := by decide +kernel
theorem dX4_nights_35 : decode cX4_nights 35 = .ok (.aload_n 0, 1) := by decide +kernel
theorem dX4_nights_36 : decode cX4_nights 36 = .ok (.getfield 183, 3) := by decide +kernel
theorem dX4_nights_39 : decode cX4_nights 39 = .ok (.ldc2_w 189, 3) := by decide +kernel
theorem dX4_nights_42 : decode cX4_nights 42 = .ok (.lmul, 1) := by decide +kernel
theorem dX4_nights_43 : decode cX4_nights 43 = .ok (.ldc2_w 191, 3) := by decide +kernel
theorem dX4_nights_46 : decode cX4_nights 46 = .ok (.ladd, 1) := by decide +kernel
theorem dX4_nights_47 : decode cX4_nights 47 = .ok (.putfield 183, 3) := by decide +kernel
theorem dX4_nights_50 : decode cX4_nights 50 = .ok (.aload_n 0, 1) := by decide +kernel
theorem dX4_nights_51 : decode cX4_nights 51 = .ok (.getfield 183, 3) := by decide +kernel
theorem dX4_nights_54 : decode cX4_nights 54 = .ok (.bipush 33, 2) := by decide +kernel
theorem dX4_nights_56 : decode cX4_nights 56 = .ok (.lushr, 1) := by decide +kernel
theorem dX4_nights_57 : decode cX4_nights 57 = .ok (.ldc2_w 134, 3) := by decide +kernel
theorem dX4_nights_60 : decode cX4_nights 60 = .ok (.lrem, 1) := by decide +kernel
theorem dX4_nights_61 : decode cX4_nights 61 = .ok (.l2i, 1) := by decide +kernel
theorem dX4_nights_62 : decode cX4_nights 62 = .ok (.istore 4, 2) := by decide +kernel
theorem dX4_nights_64 : decode cX4_nights 64 = .ok (.aload_n 0, 1) := by decide +kernel
theorem dX4_nights_65 : decode cX4_nights 65 = .ok (.iload 4, 2) := by decide +kernel
theorem dX4_nights_67 : decode cX4_nights 67 = .ok (.invokevirtual 95, 3) := by decide +kernel
theorem dX4_nights_70 : decode cX4_nights 70 = .ok (.ifCond .eq 20, 3) := by decide +kernel
theorem dX4_nights_73 : decode cX4_nights 73 = .ok (.aload_n 0, 1) := by decide +kernel
theorem dX4_nights_74 : decode cX4_nights 74 = .ok (.iconst 1, 1) := by decide +kernel
theorem dX4_nights_75 : decode cX4_nights 75 = .ok (.iload 4, 2) := by decide +kernel
theorem dX4_nights_77 : decode cX4_nights 77 = .ok (.invokevirtual 99, 3) := by decide +kernel
theorem dX4_nights_80 : decode cX4_nights 80 = .ok (.ifCond .eq 10, 3) := by decide +kernel
theorem dX4_nights_83 : decode cX4_nights 83 = .ok (.aload_n 0, 1) := by decide +kernel
theorem dX4_nights_84 : decode cX4_nights 84 = .ok (.iconst 1, 1) := by decide +kernel
theorem dX4_nights_85 : decode cX4_nights 85 = .ok (.iload 4, 2) := by decide +kernel
theorem dX4_nights_87 : decode cX4_nights 87 = .ok (.invokevirtual 114, 3) := by decide +kernel
theorem dX4_nights_90 : decode cX4_nights 90 = .ok (.iload_n 2, 1) := by decide +kernel
theorem dX4_nights_91 : decode cX4_nights 91 = .ok (.aload_n 0, 1) := by decide +kernel
theorem dX4_nights_92 : decode cX4_nights 92 = .ok (.getfield 16, 3) := by decide +kernel
theorem dX4_nights_95 : decode cX4_nights 95 = .ok (.bipush 49, 2) := by decide +kernel
theorem dX4_nights_97 : decode cX4_nights 97 = .ok (.iaload, 1) := by decide +kernel
theorem dX4_nights_98 : decode cX4_nights 98 = .ok (.iadd, 1) := by decide +kernel
theorem dX4_nights_99 : decode cX4_nights 99 = .ok (.istore_n 2, 1) := by decide +kernel
theorem dX4_nights_100 : decode cX4_nights 100 = .ok (.iinc 3 1, 3) := by decide +kernel
theorem dX4_nights_103 : decode cX4_nights 103 = .ok (.goto (-74), 3) := by decide +kernel
theorem dX4_nights_106 : decode cX4_nights 106 = .ok (.iload_n 2, 1) := by decide +kernel
theorem dX4_nights_107 : decode cX4_nights 107 = .ok (.ireturn, 1) := by decide +kernel
set_option maxRecDepth 20000 in
theorem ggX4_keep_X4_in : GoodIn wsX4_keep wsX4_in := goodIn_r _ [7] (by decide +kernel) (by decide +kernel)
set_option maxRecDepth 20000 in
theorem gX4_keep_X4_in : GoodIn wsX4_keep (va_wsS RX4 46 yX4_in wsX4_in) := goodIn_app (goodIn_of _ (by decide +kernel)) ggX4_keep_X4_in
theorem dX4_keep_0 : decode cX4_keep 0 = .ok (.iload_n 1, 1) := by decide +kernel
theorem dX4_keep_1 : decode cX4_keep 1 = .ok (.i2l, 1) := by decide +kernel
theorem dX4_keep_2 : decode cX4_keep 2 = .ok (.lconst 0, 1) := by decide +kernel
theorem dX4_keep_3 : decode cX4_keep 3 = .ok (.lconst 1, 1) := by decide +kernel
theorem dX4_keep_4 : decode cX4_keep 4 = .ok (.invokestatic 46, 3) := by decide +kernel
theorem dX4_keep_7 : decode cX4_keep 7 = .ok (.ifCond .ne 5, 3) := by decide +kernel
theorem dX4_keep_10 : decode cX4_keep 10 = .ok (.iconst (-1), 1) := by decide +kernel
theorem dX4_keep_11 : decode cX4_keep 11 = .ok (.ireturn, 1) := by decide +kernel
theorem dX4_keep_12 : decode cX4_keep 12 = .ok (.aload_n 0, 1) := by decide +kernel
theorem dX4_keep_13 : decode cX4_keep 13 = .ok (.getfield 37, 3) := by decide +kernel
theorem dX4_keep_16 : decode cX4_keep 16 = .ok (.iload_n 1, 1) := by decide +kernel
theorem dX4_keep_17 : decode cX4_keep 17 = .ok (.iconst 1, 1) := by decide +kernel
theorem dX4_keep_18 : decode cX4_keep 18 = .ok (.bastore, 1) := by decide +kernel
theorem dX4_keep_19 : decode cX4_keep 19 = .ok (.iconst 0, 1) := by decide +kernel
theorem dX4_keep_20 : decode cX4_keep 20 = .ok (.istore_n 2, 1) := by decide +kernel
theorem dX4_keep_21 : decode cX4_keep 21 = .ok (.iload_n 2, 1) := by decide +kernel
theorem dX4_keep_22 : decode cX4_keep 22 = .ok (.bipush 27, 2) := by decide +kernel
theorem dX4_keep_24 : decode cX4_keep 24 = .ok (.if_icmp .ge 26, 3) := by decide +kernel
theorem dX4_keep_27 : decode cX4_keep 27 = .ok (.aload_n 0, 1) := by decide +kernel
theorem dX4_keep_28 : decode cX4_keep 28 = .ok (.getfield 41, 3) := by decide +kernel
theorem dX4_keep_31 : decode cX4_keep 31 = .ok (.bipush 27, 2) := by decide +kernel
theorem dX4_keep_33 : decode cX4_keep 33 = .ok (.iload_n 1, 1) := by decide +kernel
theorem dX4_keep_34 : decode cX4_keep 34 = .ok (.imul, 1) := by decide +kernel
theorem dX4_keep_35 : decode cX4_keep 35 = .ok (.iload_n 2, 1) := by decide +kernel
theorem dX4_keep_36 : decode cX4_keep 36 = .ok (.iadd, 1) := by decide +kernel
theorem dX4_keep_37 : decode cX4_keep 37 = .ok (.aload_n 0, 1) := by decide +kernel
theorem dX4_keep_38 : decode cX4_keep 38 = .ok (.getfield 16, 3) := by decide +kernel
theorem dX4_keep_41 : decode cX4_keep 41 = .ok (.iload_n 2, 1) := by decide +kernel
theorem dX4_keep_42 : decode cX4_keep 42 = .ok (.iaload, 1) := by decide +kernel
theorem dX4_keep_43 : decode cX4_keep 43 = .ok (.iastore, 1) := by decide +kernel
theorem dX4_keep_44 : decode cX4_keep 44 = .ok (.iinc 2 1, 3) := by decide +kernel
theorem dX4_keep_47 : decode cX4_keep 47 = .ok (.goto (-26), 3) := by decide +kernel
theorem dX4_keep_50 : decode cX4_keep 50 = .ok (.aload_n 0, 1) := by decide +kernel
theorem dX4_keep_51 : decode cX4_keep 51 = .ok (.getfield 16, 3) := by decide +kernel
theorem dX4_keep_54 : decode cX4_keep 54 = .ok (.bipush 26, 2) := by decide +kernel
theorem dX4_keep_56 : decode cX4_keep 56 = .ok (.iaload, 1) := by decide +kernel
theorem dX4_keep_57 : decode cX4_keep 57 = .ok (.ireturn, 1) := by decide +kernel
set_option maxRecDepth 20000 in
theorem ggX4_again_X4_in : GoodIn wsX4_again wsX4_in := goodIn_r _ [8] (by decide +kernel) (by decide +kernel)
set_option maxRecDepth 20000 in
theorem gX4_again_X4_in : GoodIn wsX4_again (va_wsS RX4 46 yX4_in wsX4_in) := goodIn_app (goodIn_of _ (by decide +kernel)) ggX4_again_X4_in
theorem dX4_again_0 : decode cX4_again 0 = .ok (.iload_n 1, 1) := by decide +kernel
theorem dX4_again_1 : decode cX4_again 1 = .ok (.i2l, 1) := by decide +kernel
theorem dX4_again_2 : decode cX4_again 2 = .ok (.lconst 0, 1) := by decide +kernel
theorem dX4_again_3 : decode cX4_again 3 = .ok (.lconst 1, 1) := by decide +kernel
theorem dX4_again_4 : decode cX4_again 4 = .ok (.invokestatic 46, 3) := by decide +kernel
theorem dX4_again_7 : decode cX4_again 7 = .ok (.ifCond .ne 5, 3) := by decide +kernel
theorem dX4_again_10 : decode cX4_again 10 = .ok (.iconst (-1), 1) := by decide +kernel
theorem dX4_again_11 : decode cX4_again 11 = .ok (.ireturn, 1) := by decide +kernel
theorem dX4_again_12 : decode cX4_again 12 = .ok (.aload_n 0, 1) := by decide +kernel
theorem dX4_again_13 : decode cX4_again 13 = .ok (.getfield 37, 3) := by decide +kernel
theorem dX4_again_16 : decode cX4_again 16 = .ok (.iload_n 1, 1) := by decide +kernel
theorem dX4_again_17 : decode cX4_again 17 = .ok (.baload, 1) := by decide +kernel
theorem dX4_again_18 : decode cX4_again 18 = .ok (.ifCond .ne 6, 3) := by decide +kernel
theorem dX4_again_21 : decode cX4_again 21 = .ok (.bipush (-3), 2) := by decide +kernel
theorem dX4_again_23 : decode cX4_again 23 = .ok (.ireturn, 1) := by decide +kernel
theorem dX4_again_24 : decode cX4_again 24 = .ok (.iconst 0, 1) := by decide +kernel
theorem dX4_again_25 : decode cX4_again 25 = .ok (.istore_n 2, 1) := by decide +kernel
theorem dX4_again_26 : decode cX4_again 26 = .ok (.iload_n 2, 1) := by decide +kernel
theorem dX4_again_27 : decode cX4_again 27 = .ok (.bipush 27, 2) := by decide +kernel
theorem dX4_again_29 : decode cX4_again 29 = .ok (.if_icmp .ge 26, 3) := by decide +kernel
theorem dX4_again_32 : decode cX4_again 32 = .ok (.aload_n 0, 1) := by decide +kernel
theorem dX4_again_33 : decode cX4_again 33 = .ok (.getfield 16, 3) := by decide +kernel
theorem dX4_again_36 : decode cX4_again 36 = .ok (.iload_n 2, 1) := by decide +kernel
theorem dX4_again_37 : decode cX4_again 37 = .ok (.aload_n 0, 1) := by decide +kernel
theorem dX4_again_38 : decode cX4_again 38 = .ok (.getfield 41, 3) := by decide +kernel
theorem dX4_again_41 : decode cX4_again 41 = .ok (.bipush 27, 2) := by decide +kernel
theorem dX4_again_43 : decode cX4_again 43 = .ok (.iload_n 1, 1) := by decide +kernel
theorem dX4_again_44 : decode cX4_again 44 = .ok (.imul, 1) := by decide +kernel
theorem dX4_again_45 : decode cX4_again 45 = .ok (.iload_n 2, 1) := by decide +kernel
theorem dX4_again_46 : decode cX4_again 46 = .ok (.iadd, 1) := by decide +kernel
theorem dX4_again_47 : decode cX4_again 47 = .ok (.iaload, 1) := by decide +kernel
theorem dX4_again_48 : decode cX4_again 48 = .ok (.iastore, 1) := by decide +kernel
theorem dX4_again_49 : decode cX4_again 49 = .ok (.iinc 2 1, 3) := by decide +kernel
theorem dX4_again_52 : decode cX4_again 52 = .ok (.goto (-26), 3) := by decide +kernel
theorem dX4_again_55 : decode cX4_again 55 = .ok (.aload_n 0, 1) := by decide +kernel
theorem dX4_again_56 : decode cX4_again 56 = .ok (.iconst 0, 1) := by decide +kernel
theorem dX4_again_57 : decode cX4_again 57 = .ok (.putfield 80, 3) := by decide +kernel
theorem dX4_again_60 : decode cX4_again 60 = .ok (.aload_n 0, 1) := by decide +kernel
theorem dX4_again_61 : decode cX4_again 61 = .ok (.getfield 16, 3) := by decide +kernel
theorem dX4_again_64 : decode cX4_again 64 = .ok (.bipush 26, 2) := by decide +kernel
theorem dX4_again_66 : decode cX4_again 66 = .ok (.iaload, 1) := by decide +kernel
theorem dX4_again_67 : decode cX4_again 67 = .ok (.ireturn, 1) := by decide +kernel
set_option maxRecDepth 20000 in
theorem ggX4_count_X4_may : GoodIn wsX4_count wsX4_may := goodIn_r _ [10, 4, 11, 12, 13, 9, 14, 15, 16, 17, 18, 19, 20, 21, 22, 23, 24, 25, 26, 27, 28, 29, 30, 31, 32, 33, 34, 35, 36, 37, 38] (by decide +kernel) (by decide +kernel)
set_option maxRecDepth 20000 in
theorem gX4_count_X4_may : GoodIn wsX4_count (wsV RX4 99 RX4 yX4_may wsX4_may) := goodIn_app (goodIn_of _ (by decide +kernel)) ggX4_count_X4_may
theorem dX4_count_0 : decode cX4_count 0 = .ok (.iconst 0, 1) := by decide +kernel
theorem dX4_count_1 : decode cX4_count 1 = .ok (.istore_n 2, 1) := by decide +kernel
theorem dX4_count_2 : decode cX4_count 2 = .ok (.iconst 0, 1) := by decide +kernel
theorem dX4_count_3 : decode cX4_count 3 = .ok (.istore_n 3, 1) := by decide +kernel
theorem dX4_count_4 : decode cX4_count 4 = .ok (.iload_n 3, 1) := by decide +kernel
theorem dX4_count_5 : decode cX4_count 5 = .ok (.aload_n 0, 1) := by decide +kernel
theorem dX4_count_6 : decode cX4_count 6 = .ok (.getfield 74, 3) := by decide +kernel
theorem dX4_count_9 : decode cX4_count 9 = .ok (.if_icmp .ge 28, 3) := by decide +kernel
theorem dX4_count_12 : decode cX4_count 12 = .ok (.iload_n 2, 1) := by decide +kernel
theorem dX4_count_13 : decode cX4_count 13 = .ok (.aload_n 0, 1) := by decide +kernel
theorem dX4_count_14 : decode cX4_count 14 = .ok (.iconst 0, 1) := by decide +kernel
theorem dX4_count_15 : decode cX4_count 15 = .ok (.iload_n 3, 1) := by decide +kernel
theorem dX4_count_16 : decode cX4_count 16 = .ok (.invokevirtual 99, 3) := by decide +kernel
theorem dX4_count_19 : decode cX4_count 19 = .ok (.ifCond .eq 9, 3) := by decide +kernel
theorem dX4_count_22 : decode cX4_count 22 = .ok (.iconst 1, 1) := by decide +kernel
theorem dX4_count_23 : decode cX4_count 23 = .ok (.iload_n 3, 1) := by decide +kernel
theorem dX4_count_24 : decode cX4_count 24 = .ok (.ishl, 1) := by decide +kernel
theorem dX4_count_25 : decode cX4_count 25 = .ok (.goto 4, 3) := by decide +kernel
theorem dX4_count_28 : decode cX4_count 28 = .ok (.iconst 0, 1) := by decide +kernel
theorem dX4_count_29 : decode cX4_count 29 = .ok (.ior, 1) := by decide +kernel
theorem dX4_count_30 : decode cX4_count 30 = .ok (.istore_n 2, 1) := by decide +kernel
theorem dX4_count_31 : decode cX4_count 31 = .ok (.iinc 3 1, 3) := by decide +kernel
theorem dX4_count_34 : decode cX4_count 34 = .ok (.goto (-30), 3) := by decide +kernel
theorem dX4_count_37 : decode cX4_count 37 = .ok (.iload_n 1, 1) := by decide +kernel
theorem dX4_count_38 : decode cX4_count 38 = .ok (.tableswitch 103 0 8 #[50, 55, 60, 65, 73, 81, 88, 90, 98], 50) := by decide +kernel
theorem dX4_count_88 : decode cX4_count 88 = .ok (.aload_n 0, 1) := by decide +kernel
theorem dX4_count_89 : decode cX4_count 89 = .ok (.getfield 50, 3) := by decide +kernel
theorem dX4_count_92 : decode cX4_count 92 = .ok (.ireturn, 1) := by decide +kernel
theorem dX4_count_93 : decode cX4_count 93 = .ok (.aload_n 0, 1) := by decide +kernel
theorem dX4_count_94 : decode cX4_count 94 = .ok (.getfield 74, 3) := by decide +kernel
theorem dX4_count_97 : decode cX4_count 97 = .ok (.ireturn, 1) := by decide +kernel
theorem dX4_count_98 : decode cX4_count 98 = .ok (.aload_n 0, 1) := by decide +kernel
theorem dX4_count_99 : decode cX4_count 99 = .ok (.getfield 77, 3) := by decide +kernel
theorem dX4_count_102 : decode cX4_count 102 = .ok (.ireturn, 1) := by decide +kernel
theorem dX4_count_103 : decode cX4_count 103 = .ok (.aload_n 0, 1) := by decide +kernel
theorem dX4_count_104 : decode cX4_count 104 = .ok (.getfield 16, 3) := by decide +kernel
theorem dX4_count_107 : decode cX4_count 107 = .ok (.bipush 22, 2) := by decide +kernel
theorem dX4_count_109 : decode cX4_count 109 = .ok (.iaload, 1) := by decide +kernel
theorem dX4_count_110 : decode cX4_count 110 = .ok (.ireturn, 1) := by decide +kernel
theorem dX4_count_111 : decode cX4_count 111 = .ok (.aload_n 0, 1) := by decide +kernel
theorem dX4_count_112 : decode cX4_count 112 = .ok (.getfield 16, 3) := by decide +kernel
theorem dX4_count_115 : decode cX4_count 115 = .ok (.bipush 26, 2) := by decide +kernel
theorem dX4_count_117 : decode cX4_count 117 = .ok (.iaload, 1) := by decide +kernel
theorem dX4_count_118 : decode cX4_count 118 = .ok (.ireturn, 1) := by decide +kernel
theorem dX4_count_119 : decode cX4_count 119 = .ok (.aload_n 0, 1) := by decide +kernel
theorem dX4_count_120 : decode cX4_count 120 = .ok (.getfield 16, 3) := by decide +kernel
theorem dX4_count_123 : decode cX4_count 123 = .ok (.iconst 0, 1) := by decide +kernel
theorem dX4_count_124 : decode cX4_count 124 = .ok (.iaload, 1) := by decide +kernel
theorem dX4_count_125 : decode cX4_count 125 = .ok (.ireturn, 1) := by decide +kernel
theorem dX4_count_126 : decode cX4_count 126 = .ok (.iload_n 2, 1) := by decide +kernel
theorem dX4_count_127 : decode cX4_count 127 = .ok (.ireturn, 1) := by decide +kernel
theorem dX4_count_128 : decode cX4_count 128 = .ok (.aload_n 0, 1) := by decide +kernel
theorem dX4_count_129 : decode cX4_count 129 = .ok (.getfield 16, 3) := by decide +kernel
theorem dX4_count_132 : decode cX4_count 132 = .ok (.bipush 23, 2) := by decide +kernel
theorem dX4_count_134 : decode cX4_count 134 = .ok (.iaload, 1) := by decide +kernel
theorem dX4_count_135 : decode cX4_count 135 = .ok (.ireturn, 1) := by decide +kernel
theorem dX4_count_136 : decode cX4_count 136 = .ok (.aload_n 0, 1) := by decide +kernel
theorem dX4_count_137 : decode cX4_count 137 = .ok (.getfield 80, 3) := by decide +kernel
theorem dX4_count_140 : decode cX4_count 140 = .ok (.ireturn, 1) := by decide +kernel
theorem dX4_count_141 : decode cX4_count 141 = .ok (.bipush (-2), 2) := by decide +kernel
theorem dX4_count_143 : decode cX4_count 143 = .ok (.ireturn, 1) := by decide +kernel
theorem dJ6_compare_7cf53_0 : decode cJ6_compare_7cf53 0 = .ok (.iload_n 0, 1) := by decide +kernel
theorem dJ6_compare_7cf53_1 : decode cJ6_compare_7cf53 1 = .ok (.iload_n 1, 1) := by decide +kernel
theorem dJ6_compare_7cf53_2 : decode cJ6_compare_7cf53 2 = .ok (.if_icmp .ge 7, 3) := by decide +kernel
theorem dJ6_compare_7cf53_5 : decode cJ6_compare_7cf53 5 = .ok (.iconst (-1), 1) := by decide +kernel
theorem dJ6_compare_7cf53_6 : decode cJ6_compare_7cf53 6 = .ok (.goto 13, 3) := by decide +kernel
theorem dJ6_compare_7cf53_9 : decode cJ6_compare_7cf53 9 = .ok (.iload_n 0, 1) := by decide +kernel
theorem dJ6_compare_7cf53_10 : decode cJ6_compare_7cf53 10 = .ok (.iload_n 1, 1) := by decide +kernel
theorem dJ6_compare_7cf53_11 : decode cJ6_compare_7cf53 11 = .ok (.if_icmp .ne 7, 3) := by decide +kernel
theorem dJ6_compare_7cf53_14 : decode cJ6_compare_7cf53 14 = .ok (.iconst 0, 1) := by decide +kernel
theorem dJ6_compare_7cf53_15 : decode cJ6_compare_7cf53 15 = .ok (.goto 4, 3) := by decide +kernel
theorem dJ6_compare_7cf53_18 : decode cJ6_compare_7cf53 18 = .ok (.iconst 1, 1) := by decide +kernel
theorem dJ6_compare_7cf53_19 : decode cJ6_compare_7cf53 19 = .ok (.ireturn, 1) := by decide +kernel
theorem dJ6_bitCount_0f7a4_0 : decode cJ6_bitCount_0f7a4 0 = .ok (.iload_n 0, 1) := by decide +kernel
theorem dJ6_bitCount_0f7a4_1 : decode cJ6_bitCount_0f7a4 1 = .ok (.iload_n 0, 1) := by decide +kernel
theorem dJ6_bitCount_0f7a4_2 : decode cJ6_bitCount_0f7a4 2 = .ok (.iconst 1, 1) := by decide +kernel
theorem dJ6_bitCount_0f7a4_3 : decode cJ6_bitCount_0f7a4 3 = .ok (.iushr, 1) := by decide +kernel
theorem dJ6_bitCount_0f7a4_4 : decode cJ6_bitCount_0f7a4 4 = .ok (.ldc_w 265, 3) := by decide +kernel
theorem dJ6_bitCount_0f7a4_7 : decode cJ6_bitCount_0f7a4 7 = .ok (.iand, 1) := by decide +kernel
theorem dJ6_bitCount_0f7a4_8 : decode cJ6_bitCount_0f7a4 8 = .ok (.isub, 1) := by decide +kernel
theorem dJ6_bitCount_0f7a4_9 : decode cJ6_bitCount_0f7a4 9 = .ok (.istore_n 0, 1) := by decide +kernel
theorem dJ6_bitCount_0f7a4_10 : decode cJ6_bitCount_0f7a4 10 = .ok (.iload_n 0, 1) := by decide +kernel
theorem dJ6_bitCount_0f7a4_11 : decode cJ6_bitCount_0f7a4 11 = .ok (.ldc_w 266, 3) := by decide +kernel
theorem dJ6_bitCount_0f7a4_14 : decode cJ6_bitCount_0f7a4 14 = .ok (.iand, 1) := by decide +kernel
theorem dJ6_bitCount_0f7a4_15 : decode cJ6_bitCount_0f7a4 15 = .ok (.iload_n 0, 1) := by decide +kernel
theorem dJ6_bitCount_0f7a4_16 : decode cJ6_bitCount_0f7a4 16 = .ok (.iconst 2, 1) := by decide +kernel
theorem dJ6_bitCount_0f7a4_17 : decode cJ6_bitCount_0f7a4 17 = .ok (.iushr, 1) := by decide +kernel
theorem dJ6_bitCount_0f7a4_18 : decode cJ6_bitCount_0f7a4 18 = .ok (.ldc_w 266, 3) := by decide +kernel
theorem dJ6_bitCount_0f7a4_21 : decode cJ6_bitCount_0f7a4 21 = .ok (.iand, 1) := by decide +kernel
theorem dJ6_bitCount_0f7a4_22 : decode cJ6_bitCount_0f7a4 22 = .ok (.iadd, 1) := by decide +kernel
theorem dJ6_bitCount_0f7a4_23 : decode cJ6_bitCount_0f7a4 23 = .ok (.istore_n 0, 1) := by decide +kernel
theorem dJ6_bitCount_0f7a4_24 : decode cJ6_bitCount_0f7a4 24 = .ok (.iload_n 0, 1) := by decide +kernel
theorem dJ6_bitCount_0f7a4_25 : decode cJ6_bitCount_0f7a4 25 = .ok (.iload_n 0, 1) := by decide +kernel
theorem dJ6_bitCount_0f7a4_26 : decode cJ6_bitCount_0f7a4 26 = .ok (.iconst 4, 1) := by decide +kernel
theorem dJ6_bitCount_0f7a4_27 : decode cJ6_bitCount_0f7a4 27 = .ok (.iushr, 1) := by decide +kernel
theorem dJ6_bitCount_0f7a4_28 : decode cJ6_bitCount_0f7a4 28 = .ok (.iadd, 1) := by decide +kernel
theorem dJ6_bitCount_0f7a4_29 : decode cJ6_bitCount_0f7a4 29 = .ok (.ldc_w 267, 3) := by decide +kernel
theorem dJ6_bitCount_0f7a4_32 : decode cJ6_bitCount_0f7a4 32 = .ok (.iand, 1) := by decide +kernel
theorem dJ6_bitCount_0f7a4_33 : decode cJ6_bitCount_0f7a4 33 = .ok (.istore_n 0, 1) := by decide +kernel
theorem dJ6_bitCount_0f7a4_34 : decode cJ6_bitCount_0f7a4 34 = .ok (.iload_n 0, 1) := by decide +kernel
theorem dJ6_bitCount_0f7a4_35 : decode cJ6_bitCount_0f7a4 35 = .ok (.iload_n 0, 1) := by decide +kernel
theorem dJ6_bitCount_0f7a4_36 : decode cJ6_bitCount_0f7a4 36 = .ok (.bipush 8, 2) := by decide +kernel
theorem dJ6_bitCount_0f7a4_38 : decode cJ6_bitCount_0f7a4 38 = .ok (.iushr, 1) := by decide +kernel
theorem dJ6_bitCount_0f7a4_39 : decode cJ6_bitCount_0f7a4 39 = .ok (.iadd, 1) := by decide +kernel
theorem dJ6_bitCount_0f7a4_40 : decode cJ6_bitCount_0f7a4 40 = .ok (.istore_n 0, 1) := by decide +kernel
theorem dJ6_bitCount_0f7a4_41 : decode cJ6_bitCount_0f7a4 41 = .ok (.iload_n 0, 1) := by decide +kernel
theorem dJ6_bitCount_0f7a4_42 : decode cJ6_bitCount_0f7a4 42 = .ok (.iload_n 0, 1) := by decide +kernel
theorem dJ6_bitCount_0f7a4_43 : decode cJ6_bitCount_0f7a4 43 = .ok (.bipush 16, 2) := by decide +kernel
theorem dJ6_bitCount_0f7a4_45 : decode cJ6_bitCount_0f7a4 45 = .ok (.iushr, 1) := by decide +kernel
theorem dJ6_bitCount_0f7a4_46 : decode cJ6_bitCount_0f7a4 46 = .ok (.iadd, 1) := by decide +kernel
theorem dJ6_bitCount_0f7a4_47 : decode cJ6_bitCount_0f7a4 47 = .ok (.istore_n 0, 1) := by decide +kernel
theorem dJ6_bitCount_0f7a4_48 : decode cJ6_bitCount_0f7a4 48 = .ok (.iload_n 0, 1) := by decide +kernel
theorem dJ6_bitCount_0f7a4_49 : decode cJ6_bitCount_0f7a4 49 = .ok (.bipush 63, 2) := by decide +kernel
theorem dJ6_bitCount_0f7a4_51 : decode cJ6_bitCount_0f7a4 51 = .ok (.iand, 1) := by decide +kernel
theorem dJ6_bitCount_0f7a4_52 : decode cJ6_bitCount_0f7a4 52 = .ok (.ireturn, 1) := by decide +kernel
theorem dJ9_abs_0f7a4_0 : decode cJ9_abs_0f7a4 0 = .ok (.iload_n 0, 1) := by decide +kernel
theorem dJ9_abs_0f7a4_1 : decode cJ9_abs_0f7a4 1 = .ok (.ifCond .ge 8, 3) := by decide +kernel
theorem dJ9_abs_0f7a4_4 : decode cJ9_abs_0f7a4 4 = .ok (.iload_n 0, 1) := by decide +kernel
theorem dJ9_abs_0f7a4_5 : decode cJ9_abs_0f7a4 5 = .ok (.ineg, 1) := by decide +kernel
theorem dJ9_abs_0f7a4_6 : decode cJ9_abs_0f7a4 6 = .ok (.goto 4, 3) := by decide +kernel
theorem dJ9_abs_0f7a4_9 : decode cJ9_abs_0f7a4 9 = .ok (.iload_n 0, 1) := by decide +kernel
theorem dJ9_abs_0f7a4_10 : decode cJ9_abs_0f7a4 10 = .ok (.ireturn, 1) := by decide +kernel
set_option maxRecDepth 20000 in
theorem ggL_law_X3_init : GoodIn wsL_law wsX3_init := goodIn_r _ [9, 10, 11, 12, 13, 14, 15, 16, 17, 18, 19, 20, 21, 22, 23, 24, 25, 26, 27, 28, 29, 30, 31, 32, 33, 34, 35, 36, 37, 38, 39, 40, 41, 42, 43, 44, 45, 46, 47, 48, 49, 50, 51, 573, 574, 575, 576, 577, 578, 579, 580, 581, 582, 583, 584, 585, 586, 587, 588, 589, 590, 615, 616, 617, 618, 619, 620, 621, 622, 623, 624] (by decide +kernel) (by decide +kernel)
set_option maxRecDepth 20000 in
theorem gL_law_X3_init : GoodIn wsL_law (wsX3_init) := ggL_law_X3_init
set_option maxRecDepth 20000 in
theorem ggL_law_X4_init : GoodIn wsL_law wsX4_init := goodIn_r _ [54, 55, 11, 12, 15, 56, 57, 58, 59, 60, 61, 62, 63, 64, 24, 65, 66, 591, 592, 593, 594, 595, 596, 597, 598, 599, 600, 601, 602, 603, 604, 605, 606, 607, 608, 609, 610, 611, 612, 613, 614] (by decide +kernel) (by decide +kernel)
set_option maxRecDepth 20000 in
theorem gL_law_X4_init : GoodIn wsL_law (wsX4_init) := ggL_law_X4_init
set_option maxRecDepth 20000 in
theorem ggL_law_X3_write : GoodIn wsL_law wsX3_write := goodIn_r _ [70, 71, 14, 573, 574, 575, 576, 577, 578, 579, 580, 581, 582, 583, 584, 585, 586, 587, 588, 589, 590] (by decide +kernel) (by decide +kernel)
set_option maxRecDepth 20000 in
theorem gL_law_X3_write : GoodIn wsL_law (wsV RL 13 RX3 yX3_write wsX3_write) := goodIn_app (goodIn_of _ (by decide +kernel)) ggL_law_X3_write
set_option maxRecDepth 20000 in
theorem ggL_law_X4_write : GoodIn wsL_law wsX4_write := goodIn_r _ [75, 76, 77, 60, 78, 79, 5, 80, 591, 592, 593, 594, 595, 596, 597, 598, 599, 600, 601, 602, 603, 604, 605, 606, 607, 608, 609, 610, 611, 612, 613, 614] (by decide +kernel) (by decide +kernel)
set_option maxRecDepth 20000 in
theorem gL_law_X4_write : GoodIn wsL_law (wsV RL 17 RX4 yX4_write wsX4_write) := goodIn_app (goodIn_of _ (by decide +kernel)) ggL_law_X4_write
set_option maxRecDepth 20000 in
theorem ggL_law_X3_wipe : GoodIn wsL_law wsX3_wipe := goodIn_r _ [84, 71, 573, 574, 575, 576, 577, 578, 579, 580, 581, 582, 583, 584, 585, 586, 587, 588, 589, 590] (by decide +kernel) (by decide +kernel)
set_option maxRecDepth 20000 in
theorem gL_law_X3_wipe : GoodIn wsL_law (wsV RL 18 RX3 yX3_wipe wsX3_wipe) := goodIn_app (goodIn_of _ (by decide +kernel)) ggL_law_X3_wipe
set_option maxRecDepth 20000 in
theorem ggL_law_X4_wipe : GoodIn wsL_law wsX4_wipe := goodIn_r _ [88, 77, 591, 592, 593, 594, 595, 596, 597, 598, 599, 600, 601, 602, 603, 604, 605, 606, 607, 608, 609, 610, 611, 612, 613, 614] (by decide +kernel) (by decide +kernel)
set_option maxRecDepth 20000 in
theorem gL_law_X4_wipe : GoodIn wsL_law (wsV RL 22 RX4 yX4_wipe wsX4_wipe) := goodIn_app (goodIn_of _ (by decide +kernel)) ggL_law_X4_wipe
set_option maxRecDepth 20000 in
theorem ggL_law_X3_fault : GoodIn wsL_law wsX3_fault := goodIn_r _ [92, 93, 94, 95, 2, 96, 71, 14, 97, 98, 99, 100, 101, 102, 573, 574, 575, 576, 577, 578, 579, 580, 581, 582, 583, 584, 585, 586, 587, 588, 589, 590] (by decide +kernel) (by decide +kernel)
set_option maxRecDepth 20000 in
theorem gL_law_X3_fault : GoodIn wsL_law (wsV RL 23 RX3 yX3_fault wsX3_fault) := goodIn_app (goodIn_of _ (by decide +kernel)) ggL_law_X3_fault
set_option maxRecDepth 20000 in
theorem ggL_law_X4_fault : GoodIn wsL_law wsX4_fault := goodIn_r _ [106, 107, 108, 109, 5, 110, 111, 112, 113, 77, 60, 114, 59, 115, 116, 117, 118, 78, 79, 80, 591, 592, 593, 594, 595, 596, 597, 598, 599, 600, 601, 602, 603, 604, 605, 606, 607, 608, 609, 610, 611, 612, 613, 614] (by decide +kernel) (by decide +kernel)
set_option maxRecDepth 20000 in
theorem gL_law_X4_fault : GoodIn wsL_law (wsV RL 26 RX4 yX4_fault wsX4_fault) := goodIn_app (goodIn_of _ (by decide +kernel)) ggL_law_X4_fault
set_option maxRecDepth 20000 in
theorem ggL_law_X3_island : GoodIn wsL_law wsX3_island := goodIn_r _ [122, 123, 71, 124, 21, 25, 93, 94, 95, 2, 96, 14, 97, 98, 99, 100, 101, 102, 125, 126, 127, 128, 129, 20, 130, 131, 40, 132, 133, 134, 28, 135, 136, 137, 45, 46, 47, 138, 139, 140, 141, 16, 17, 142, 143, 144, 145, 146, 147, 573, 574, 575, 576, 577, 578, 579, 580, 581, 582, 583, 584, 585, 586, 587, 588, 589, 590, 615, 616, 617, 618, 619, 620, 621, 622] (by decide +kernel) (by decide +kernel)
set_option maxRecDepth 20000 in
theorem gL_law_X3_island : GoodIn wsL_law (wsV RL 27 RX3 yX3_island wsX3_island) := goodIn_app (goodIn_of _ (by decide +kernel)) ggL_law_X3_island
set_option maxRecDepth 20000 in
theorem ggL_law_X4_island : GoodIn wsL_law wsX4_island := goodIn_r _ [151, 113, 152, 114, 153, 58, 56, 59, 57, 154, 65, 107, 108, 109, 5, 110, 111, 112, 77, 60, 115, 116, 117, 118, 78, 79, 80, 591, 592, 593, 594, 595, 596, 597, 598, 599, 600, 601, 602, 603, 604, 605, 606, 607, 608, 609, 610, 611, 612, 613, 614] (by decide +kernel) (by decide +kernel)
set_option maxRecDepth 20000 in
theorem gL_law_X4_island : GoodIn wsL_law (wsV RL 30 RX4 yX4_island wsX4_island) := goodIn_app (goodIn_of _ (by decide +kernel)) ggL_law_X4_island
set_option maxRecDepth 20000 in
theorem ggL_law_X3_person : GoodIn wsL_law wsX3_person := goodIn_r _ [158, 16, 21, 17, 159, 160, 161, 2, 162, 124, 163, 164, 165, 166, 167, 168, 169, 573, 574, 575, 576, 577, 578, 579, 580, 581, 582, 583, 584, 585, 586, 587, 588, 589, 590, 615, 616, 617, 618, 619, 620, 621, 622] (by decide +kernel) (by decide +kernel)
set_option maxRecDepth 20000 in
theorem gL_law_X3_person : GoodIn wsL_law (wsV RL 31 RX3 yX3_person wsX3_person) := goodIn_app (goodIn_of _ (by decide +kernel)) ggL_law_X3_person
set_option maxRecDepth 20000 in
theorem ggL_law_X4_person : GoodIn wsL_law wsX4_person := goodIn_r _ [173, 56, 58, 57, 174, 175, 176, 5, 177, 152, 78, 79, 80, 178, 179, 180, 181, 182, 183, 184, 591, 592, 593, 594, 595, 596, 597, 598, 599, 600, 601, 602, 603, 604, 605, 606, 607, 608, 609, 610, 611, 612, 613, 614] (by decide +kernel) (by decide +kernel)
set_option maxRecDepth 20000 in
theorem gL_law_X4_person : GoodIn wsL_law (wsV RL 35 RX4 yX4_person wsX4_person) := goodIn_app (goodIn_of _ (by decide +kernel)) ggL_law_X4_person
set_option maxRecDepth 20000 in
theorem ggL_law_X3_fetch : GoodIn wsL_law wsX3_fetch := goodIn_r _ [188, 21, 159, 160, 161, 2, 162, 124, 163, 164, 165, 189, 190, 191, 192, 146, 147, 22, 193, 20, 194, 195, 40, 132, 133, 41, 196, 28, 197, 198, 137, 45, 46, 47, 199, 200, 201, 202, 16, 123, 203, 204, 205, 206, 573, 574, 575, 576, 577, 578, 579, 580, 581, 582, 583, 584, 585, 586, 587, 588, 589, 590, 615, 616, 617, 618, 619, 620, 621, 622] (by decide +kernel) (by decide +kernel)
set_option maxRecDepth 20000 in
theorem gL_law_X3_fetch : GoodIn wsL_law (wsV RL 36 RX3 yX3_fetch wsX3_fetch) := goodIn_app (goodIn_of _ (by decide +kernel)) ggL_law_X3_fetch
set_option maxRecDepth 20000 in
theorem ggL_law_X4_fetch : GoodIn wsL_law wsX4_fetch := goodIn_r _ [210, 58, 174, 175, 176, 5, 177, 152, 78, 79, 80, 182, 183, 184, 211, 212, 213, 214, 61, 215, 154, 216, 217, 218, 219, 56, 153, 591, 592, 593, 594, 595, 596, 597, 598, 599, 600, 601, 602, 603, 604, 605, 606, 607, 608, 609, 610, 611, 612, 613, 614] (by decide +kernel) (by decide +kernel)
set_option maxRecDepth 20000 in
theorem gL_law_X4_fetch : GoodIn wsL_law (wsV RL 39 RX4 yX4_fetch wsX4_fetch) := goodIn_app (goodIn_of _ (by decide +kernel)) ggL_law_X4_fetch
set_option maxRecDepth 20000 in
theorem ggL_law_X3_send : GoodIn wsL_law wsX3_send := goodIn_r _ [223, 21, 16, 123, 159, 160, 161, 2, 162, 124, 163, 164, 165, 189, 190, 191, 192, 146, 147, 22, 193, 20, 194, 195, 40, 132, 133, 41, 196, 28, 197, 198, 137, 45, 46, 47, 224, 225, 226, 227, 228, 229, 230, 573, 574, 575, 576, 577, 578, 579, 580, 581, 582, 583, 584, 585, 586, 587, 588, 589, 590, 615, 616, 617, 618, 619, 620, 621, 622] (by decide +kernel) (by decide +kernel)
set_option maxRecDepth 20000 in
theorem gL_law_X3_send : GoodIn wsL_law (wsV RL 40 RX3 yX3_send wsX3_send) := goodIn_app (goodIn_of _ (by decide +kernel)) ggL_law_X3_send
set_option maxRecDepth 20000 in
theorem ggL_law_X4_send : GoodIn wsL_law wsX4_send := goodIn_r _ [234, 58, 56, 153, 174, 175, 176, 5, 177, 152, 78, 79, 80, 182, 183, 184, 211, 212, 213, 214, 61, 215, 154, 235, 236, 237, 591, 592, 593, 594, 595, 596, 597, 598, 599, 600, 601, 602, 603, 604, 605, 606, 607, 608, 609, 610, 611, 612, 613, 614] (by decide +kernel) (by decide +kernel)
set_option maxRecDepth 20000 in
theorem gL_law_X4_send : GoodIn wsL_law (wsV RL 43 RX4 yX4_send wsX4_send) := goodIn_app (goodIn_of _ (by decide +kernel)) ggL_law_X4_send
set_option maxRecDepth 20000 in
theorem ggL_law_X3_say : GoodIn wsL_law wsX3_say := goodIn_r _ [241, 21, 159, 160, 161, 2, 162, 124, 166, 167, 168, 169, 17, 163, 164, 165, 189, 190, 191, 192, 146, 147, 22, 193, 20, 194, 195, 40, 132, 133, 41, 196, 28, 197, 198, 137, 45, 46, 47, 242, 243, 244, 245, 246, 247, 248, 249, 250, 251, 252, 253, 254, 255, 256, 573, 574, 575, 576, 577, 578, 579, 580, 581, 582, 583, 584, 585, 586, 587, 588, 589, 590, 615, 616, 617, 618, 619, 620, 621, 622] (by decide +kernel) (by decide +kernel)
set_option maxRecDepth 20000 in
theorem gL_law_X3_say : GoodIn wsL_law (wsV RL 44 RX3 yX3_say wsX3_say) := goodIn_app (goodIn_of _ (by decide +kernel)) ggL_law_X3_say
set_option maxRecDepth 20000 in
theorem ggL_law_X4_say : GoodIn wsL_law wsX4_say := goodIn_r _ [260, 58, 174, 175, 176, 5, 177, 152, 78, 79, 80, 178, 179, 180, 181, 57, 182, 183, 184, 211, 212, 213, 214, 61, 215, 154, 261, 262, 263, 264, 265, 266, 267, 268, 269, 270, 271, 591, 592, 593, 594, 595, 596, 597, 598, 599, 600, 601, 602, 603, 604, 605, 606, 607, 608, 609, 610, 611, 612, 613, 614] (by decide +kernel) (by decide +kernel)
set_option maxRecDepth 20000 in
theorem gL_law_X4_say : GoodIn wsL_law (wsV RL 47 RX4 yX4_say wsX4_say) := goodIn_app (goodIn_of _ (by decide +kernel)) ggL_law_X4_say
set_option maxRecDepth 20000 in
theorem ggL_law_X3_name : GoodIn wsL_law wsX3_name := goodIn_r _ [275, 21, 159, 160, 161, 2, 162, 124, 189, 190, 191, 192, 146, 147, 22, 193, 20, 194, 195, 40, 132, 133, 41, 196, 28, 197, 198, 137, 45, 46, 47, 573, 574, 575, 576, 577, 578, 579, 580, 581, 582, 583, 584, 585, 586, 587, 588, 589, 590, 615, 616, 617, 618, 619, 620, 621, 622] (by decide +kernel) (by decide +kernel)
set_option maxRecDepth 20000 in
theorem gL_law_X3_name : GoodIn wsL_law (wsV RL 48 RX3 yX3_name wsX3_name) := goodIn_app (goodIn_of _ (by decide +kernel)) ggL_law_X3_name
set_option maxRecDepth 20000 in
theorem ggL_law_X4_name : GoodIn wsL_law wsX4_name := goodIn_r _ [279, 280, 281, 58, 174, 175, 176, 5, 177, 152, 78, 79, 80, 211, 212, 213, 214, 61, 215, 154, 591, 592, 593, 594, 595, 596, 597, 598, 599, 600, 601, 602, 603, 604, 605, 606, 607, 608, 609, 610, 611, 612, 613, 614] (by decide +kernel) (by decide +kernel)
set_option maxRecDepth 20000 in
theorem gL_law_X4_name : GoodIn wsL_law (wsV RL 52 RX4 yX4_name wsX4_name) := goodIn_app (goodIn_of _ (by decide +kernel)) ggL_law_X4_name
set_option maxRecDepth 20000 in
theorem ggL_law_X3_undo : GoodIn wsL_law wsX3_undo := goodIn_r _ [285, 147, 146, 22, 21, 193, 20, 194, 195, 40, 132, 133, 41, 196, 28, 197, 198, 137, 45, 46, 47, 573, 574, 575, 576, 577, 578, 579, 580, 581, 582, 583, 584, 585, 586, 587, 588, 589, 590, 615, 616, 617, 618, 619, 620, 621, 622] (by decide +kernel) (by decide +kernel)
set_option maxRecDepth 20000 in
theorem gL_law_X3_undo : GoodIn wsL_law (wsV RL 53 RX3 yX3_undo wsX3_undo) := goodIn_app (goodIn_of _ (by decide +kernel)) ggL_law_X3_undo
set_option maxRecDepth 20000 in
theorem ggL_law_X4_undo : GoodIn wsL_law wsX4_undo := goodIn_r _ [289, 154, 215, 58, 61, 591, 592, 593, 594, 595, 596, 597, 598, 599, 600, 601, 602, 603, 604, 605, 606, 607, 608, 609, 610, 611, 612, 613, 614] (by decide +kernel) (by decide +kernel)
set_option maxRecDepth 20000 in
theorem gL_law_X4_undo : GoodIn wsL_law (wsV RL 56 RX4 yX4_undo wsX4_undo) := goodIn_app (goodIn_of _ (by decide +kernel)) ggL_law_X4_undo
set_option maxRecDepth 20000 in
theorem ggL_law_X3_comesTo : GoodIn wsL_law wsX3_comesTo := goodIn_r _ [293, 21, 29, 294, 295, 2, 296, 297, 298, 299, 300, 196, 28, 197, 198, 137, 45, 46, 47, 301, 302, 303, 166, 167, 168, 169, 17, 163, 164, 165, 242, 243, 244, 245, 246, 247, 248, 249, 250, 251, 252, 253, 254, 255, 256, 573, 574, 575, 576, 577, 578, 579, 580, 581, 582, 583, 584, 585, 586, 587, 588, 589, 590, 615, 616, 617, 618, 619, 620, 621, 622] (by decide +kernel) (by decide +kernel)
set_option maxRecDepth 20000 in
theorem gL_law_X3_comesTo : GoodIn wsL_law (wsV RL 57 RX3 yX3_comesTo wsX3_comesTo) := goodIn_app (goodIn_of _ (by decide +kernel)) ggL_law_X3_comesTo
set_option maxRecDepth 20000 in
theorem ggL_law_X4_comesTo : GoodIn wsL_law wsX4_comesTo := goodIn_r _ [307, 308, 58, 78, 79, 5, 80, 309, 310, 311, 312, 313, 314, 315, 316, 317, 318, 319, 320, 321, 322, 178, 179, 180, 181, 57, 182, 183, 184, 261, 262, 263, 264, 265, 266, 267, 268, 269, 270, 271, 591, 592, 593, 594, 595, 596, 597, 598, 599, 600, 601, 602, 603, 604, 605, 606, 607, 608, 609, 610, 611, 612, 613, 614] (by decide +kernel) (by decide +kernel)
set_option maxRecDepth 20000 in
theorem gL_law_X4_comesTo : GoodIn wsL_law (wsV RL 60 RX4 yX4_comesTo wsX4_comesTo) := goodIn_app (goodIn_of _ (by decide +kernel)) ggL_law_X4_comesTo
set_option maxRecDepth 20000 in
theorem ggL_law_X3_fewest : GoodIn wsL_law wsX3_fewest := goodIn_r _ [326, 33, 21, 327, 328, 2, 329, 330, 32, 331, 332, 333, 51, 164, 165, 334, 335, 336, 337, 338, 339, 340, 295, 296, 341, 342, 343, 344, 345, 346, 347, 29, 297, 298, 299, 300, 196, 28, 197, 198, 137, 45, 46, 47, 301, 302, 303, 166, 167, 168, 169, 17, 163, 242, 243, 244, 245, 246, 247, 248, 249, 250, 251, 252, 253, 254, 255, 256, 573, 574, 575, 576, 577, 578, 579, 580, 581, 582, 583, 584, 585, 586, 587, 588, 589, 590, 615, 616, 617, 618, 623, 624, 619, 620, 621, 622] (by decide +kernel) (by decide +kernel)
set_option maxRecDepth 20000 in
theorem gL_law_X3_fewest : GoodIn wsL_law (wsV RL 61 RX3 yX3_fewest wsX3_fewest) := goodIn_app (goodIn_of _ (by decide +kernel)) ggL_law_X3_fewest
set_option maxRecDepth 20000 in
theorem ggL_law_X4_fewest : GoodIn wsL_law wsX4_fewest := goodIn_r _ [351, 281, 58, 352, 78, 79, 5, 80, 353, 354, 355, 356, 357, 358, 359, 360, 361, 362, 312, 313, 314, 315, 316, 317, 318, 319, 320, 321, 322, 309, 310, 311, 178, 179, 180, 181, 57, 182, 183, 184, 261, 262, 263, 264, 265, 266, 267, 268, 269, 270, 271, 591, 592, 593, 594, 595, 596, 597, 598, 599, 600, 601, 602, 603, 604, 605, 606, 607, 608, 609, 610, 611, 612, 613, 614] (by decide +kernel) (by decide +kernel)
set_option maxRecDepth 20000 in
theorem gL_law_X4_fewest : GoodIn wsL_law (wsV RL 65 RX4 yX4_fewest wsX4_fewest) := goodIn_app (goodIn_of _ (by decide +kernel)) ggL_law_X4_fewest
set_option maxRecDepth 20000 in
theorem ggL_law_X3_can : GoodIn wsL_law wsX3_can := goodIn_r _ [366, 21, 367, 368, 369, 2, 370, 33, 29, 330, 32, 331, 332, 333, 51, 164, 165, 338, 339, 340, 295, 296, 341, 342, 343, 297, 298, 299, 300, 196, 28, 197, 198, 137, 45, 46, 47, 301, 302, 303, 166, 167, 168, 169, 17, 163, 242, 243, 244, 245, 246, 247, 248, 249, 250, 251, 252, 253, 254, 255, 256, 573, 574, 575, 576, 577, 578, 579, 580, 581, 582, 583, 584, 585, 586, 587, 588, 589, 590, 615, 616, 617, 618, 619, 620, 621, 622, 623, 624] (by decide +kernel) (by decide +kernel)
set_option maxRecDepth 20000 in
theorem gL_law_X3_can : GoodIn wsL_law (wsV RL 66 RX3 yX3_can wsX3_can) := goodIn_app (goodIn_of _ (by decide +kernel)) ggL_law_X3_can
set_option maxRecDepth 20000 in
theorem ggL_law_X4_can : GoodIn wsL_law wsX4_can := goodIn_r _ [374, 280, 58, 78, 79, 5, 80, 375, 376, 377, 378, 357, 358, 359, 360, 361, 362, 312, 313, 314, 315, 316, 317, 318, 319, 320, 321, 322, 309, 310, 311, 178, 179, 180, 181, 57, 182, 183, 184, 261, 262, 263, 264, 265, 266, 267, 268, 269, 270, 271, 591, 592, 593, 594, 595, 596, 597, 598, 599, 600, 601, 602, 603, 604, 605, 606, 607, 608, 609, 610, 611, 612, 613, 614] (by decide +kernel) (by decide +kernel)
set_option maxRecDepth 20000 in
theorem gL_law_X4_can : GoodIn wsL_law (wsV RL 69 RX4 yX4_can wsX4_can) := goodIn_app (goodIn_of _ (by decide +kernel)) ggL_law_X4_can
set_option maxRecDepth 20000 in
theorem ggL_law_X3_toFetch : GoodIn wsL_law wsX3_toFetch := goodIn_r _ [382, 33, 327, 328, 2, 329, 383, 384, 385, 386, 124, 330, 32, 331, 332, 333, 51, 164, 165, 387, 388, 389, 390, 21, 338, 339, 340, 295, 296, 341, 342, 343, 344, 345, 346, 347, 29, 297, 298, 299, 300, 196, 28, 197, 198, 137, 45, 46, 47, 301, 302, 303, 166, 167, 168, 169, 17, 163, 242, 243, 244, 245, 246, 247, 248, 249, 250, 251, 252, 253, 254, 255, 256, 391, 392, 393, 394, 395, 396, 397, 398, 399, 400, 401, 199, 200, 201, 202, 16, 123, 203, 204, 205, 206, 159, 160, 161, 162, 402, 403, 226, 404, 224, 225, 227, 228, 229, 230, 573, 574, 575, 576, 577, 578, 579, 580, 581, 582, 583, 584, 585, 586, 587, 588, 589, 590, 623, 624, 615, 616, 617, 618, 619, 620, 621, 622] (by decide +kernel) (by decide +kernel)
set_option maxRecDepth 20000 in
theorem gL_law_X3_toFetch : GoodIn wsL_law (wsV RL 70 RX3 yX3_toFetch wsX3_toFetch) := goodIn_app (goodIn_of _ (by decide +kernel)) ggL_law_X3_toFetch
set_option maxRecDepth 20000 in
theorem ggL_law_X4_toFetch : GoodIn wsL_law wsX4_toFetch := goodIn_r _ [408, 281, 152, 58, 78, 79, 5, 80, 409, 410, 411, 412, 182, 183, 184, 216, 217, 218, 219, 56, 153, 235, 236, 237, 353, 354, 355, 356, 352, 357, 358, 359, 360, 361, 362, 312, 313, 314, 315, 316, 317, 318, 319, 320, 321, 322, 309, 310, 311, 178, 179, 180, 181, 57, 261, 262, 263, 264, 265, 266, 267, 268, 269, 270, 271, 591, 592, 593, 594, 595, 596, 597, 598, 599, 600, 601, 602, 603, 604, 605, 606, 607, 608, 609, 610, 611, 612, 613, 614] (by decide +kernel) (by decide +kernel)
set_option maxRecDepth 20000 in
theorem gL_law_X4_toFetch : GoodIn wsL_law (wsV RL 73 RX4 yX4_toFetch wsX4_toFetch) := goodIn_app (goodIn_of _ (by decide +kernel)) ggL_law_X4_toFetch
set_option maxRecDepth 20000 in
theorem ggL_law_X3_needed : GoodIn wsL_law wsX3_needed := goodIn_r _ [416, 21, 367, 368, 369, 2, 370, 33, 29, 330, 32, 331, 332, 333, 51, 164, 165, 338, 339, 340, 295, 296, 341, 342, 343, 297, 298, 299, 300, 196, 28, 197, 198, 137, 45, 46, 47, 301, 302, 303, 166, 167, 168, 169, 17, 163, 242, 243, 244, 245, 246, 247, 248, 249, 250, 251, 252, 253, 254, 255, 256, 224, 225, 226, 227, 228, 229, 230, 573, 574, 575, 576, 577, 578, 579, 580, 581, 582, 583, 584, 585, 586, 587, 588, 589, 590, 615, 616, 617, 618, 619, 620, 621, 622, 623, 624] (by decide +kernel) (by decide +kernel)
set_option maxRecDepth 20000 in
theorem gL_law_X3_needed : GoodIn wsL_law (wsV RL 74 RX3 yX3_needed wsX3_needed) := goodIn_app (goodIn_of _ (by decide +kernel)) ggL_law_X3_needed
set_option maxRecDepth 20000 in
theorem ggL_law_X4_needed : GoodIn wsL_law wsX4_needed := goodIn_r _ [420, 58, 152, 375, 376, 377, 5, 378, 357, 358, 359, 360, 361, 362, 312, 313, 314, 315, 316, 317, 318, 319, 320, 321, 322, 309, 310, 311, 78, 79, 80, 178, 179, 180, 181, 57, 182, 183, 184, 261, 262, 263, 264, 265, 266, 267, 268, 269, 270, 271, 235, 236, 237, 591, 592, 593, 594, 595, 596, 597, 598, 599, 600, 601, 602, 603, 604, 605, 606, 607, 608, 609, 610, 611, 612, 613, 614] (by decide +kernel) (by decide +kernel)
set_option maxRecDepth 20000 in
theorem gL_law_X4_needed : GoodIn wsL_law (wsV RL 77 RX4 yX4_needed wsX4_needed) := goodIn_app (goodIn_of _ (by decide +kernel)) ggL_law_X4_needed
set_option maxRecDepth 20000 in
theorem ggL_law_X3_naming : GoodIn wsL_law wsX3_naming := goodIn_r _ [424, 250, 21, 367, 368, 369, 2, 370, 33, 29, 330, 32, 331, 332, 333, 51, 164, 165, 338, 339, 340, 295, 296, 341, 342, 343, 297, 298, 299, 300, 196, 28, 197, 198, 137, 45, 46, 47, 301, 302, 303, 166, 167, 168, 169, 17, 163, 242, 243, 244, 245, 246, 247, 248, 249, 251, 252, 253, 254, 255, 256, 224, 225, 226, 227, 228, 229, 230, 573, 574, 575, 576, 577, 578, 579, 580, 581, 582, 583, 584, 585, 586, 587, 588, 589, 590, 615, 616, 617, 618, 619, 620, 621, 622, 623, 624] (by decide +kernel) (by decide +kernel)
set_option maxRecDepth 20000 in
theorem gL_law_X3_naming : GoodIn wsL_law (wsV RL 78 RX3 yX3_naming wsX3_naming) := goodIn_app (goodIn_of _ (by decide +kernel)) ggL_law_X3_naming
set_option maxRecDepth 20000 in
theorem ggL_law_X4_naming : GoodIn wsL_law wsX4_naming := goodIn_r _ [428, 280, 321, 322, 58, 78, 79, 5, 80, 375, 376, 377, 378, 357, 358, 359, 360, 361, 362, 312, 313, 314, 315, 316, 317, 318, 319, 320, 309, 310, 311, 178, 179, 180, 181, 57, 182, 183, 184, 261, 262, 263, 264, 265, 266, 267, 268, 269, 270, 271, 235, 236, 237, 591, 592, 593, 594, 595, 596, 597, 598, 599, 600, 601, 602, 603, 604, 605, 606, 607, 608, 609, 610, 611, 612, 613, 614] (by decide +kernel) (by decide +kernel)
set_option maxRecDepth 20000 in
theorem gL_law_X4_naming : GoodIn wsL_law (wsV RL 81 RX4 yX4_naming wsX4_naming) := goodIn_app (goodIn_of _ (by decide +kernel)) ggL_law_X4_naming
set_option maxRecDepth 20000 in
theorem ggL_law_X3_spoken : GoodIn wsL_law wsX3_spoken := goodIn_r _ [432, 33, 21, 327, 328, 2, 329, 330, 32, 331, 332, 333, 51, 164, 165, 338, 339, 340, 295, 296, 341, 342, 343, 344, 345, 346, 347, 29, 297, 298, 299, 300, 196, 28, 197, 198, 137, 45, 46, 47, 301, 302, 303, 166, 167, 168, 169, 17, 163, 242, 243, 244, 245, 246, 247, 248, 249, 250, 251, 252, 253, 254, 255, 256, 391, 392, 393, 573, 574, 575, 576, 577, 578, 579, 580, 581, 582, 583, 584, 585, 586, 587, 588, 589, 590, 615, 616, 617, 618, 623, 624, 619, 620, 621, 622] (by decide +kernel) (by decide +kernel)
set_option maxRecDepth 20000 in
theorem gL_law_X3_spoken : GoodIn wsL_law (wsV RL 82 RX3 yX3_spoken wsX3_spoken) := goodIn_app (goodIn_of _ (by decide +kernel)) ggL_law_X3_spoken
set_option maxRecDepth 20000 in
theorem ggL_law_X4_spoken : GoodIn wsL_law wsX4_spoken := goodIn_r _ [436, 437, 281, 438, 58, 78, 79, 5, 80, 357, 358, 359, 360, 361, 362, 312, 313, 314, 315, 316, 317, 318, 319, 320, 321, 322, 309, 310, 311, 178, 179, 180, 181, 57, 182, 183, 184, 261, 262, 263, 264, 265, 266, 267, 268, 269, 270, 271, 439, 440, 441, 591, 592, 593, 594, 595, 596, 597, 598, 599, 600, 601, 602, 603, 604, 605, 606, 607, 608, 609, 610, 611, 612, 613, 614] (by decide +kernel) (by decide +kernel)
set_option maxRecDepth 20000 in
theorem gL_law_X4_spoken : GoodIn wsL_law (wsV RL 85 RX4 yX4_spoken wsX4_spoken) := goodIn_app (goodIn_of _ (by decide +kernel)) ggL_law_X4_spoken
set_option maxRecDepth 20000 in
theorem ggL_law_X3_quarrel : GoodIn wsL_law wsX3_quarrel := goodIn_r _ [445, 29, 21, 34, 159, 160, 161, 2, 162, 124, 196, 28, 197, 198, 137, 45, 46, 47, 327, 328, 329, 246, 247, 248, 249, 250, 251, 252, 253, 254, 255, 256, 573, 574, 575, 576, 577, 578, 579, 580, 581, 582, 583, 584, 585, 586, 587, 588, 589, 590, 615, 616, 617, 618, 619, 620, 621, 622] (by decide +kernel) (by decide +kernel)
set_option maxRecDepth 20000 in
theorem gL_law_X3_quarrel : GoodIn wsL_law (wsV RL 86 RX3 yX3_quarrel wsX3_quarrel) := goodIn_app (goodIn_of _ (by decide +kernel)) ggL_law_X3_quarrel
set_option maxRecDepth 20000 in
theorem ggL_law_X4_quarrel : GoodIn wsL_law wsX4_quarrel := goodIn_r _ [449, 62, 58, 174, 175, 176, 5, 177, 152, 78, 79, 80, 317, 318, 319, 320, 321, 322, 265, 266, 267, 268, 269, 270, 271, 591, 592, 593, 594, 595, 596, 597, 598, 599, 600, 601, 602, 603, 604, 605, 606, 607, 608, 609, 610, 611, 612, 613, 614] (by decide +kernel) (by decide +kernel)
set_option maxRecDepth 20000 in
theorem gL_law_X4_quarrel : GoodIn wsL_law (wsV RL 90 RX4 yX4_quarrel wsX4_quarrel) := goodIn_app (goodIn_of _ (by decide +kernel)) ggL_law_X4_quarrel
set_option maxRecDepth 20000 in
theorem ggL_law_X3_share : GoodIn wsL_law wsX3_share := goodIn_r _ [453, 21, 159, 160, 161, 2, 162, 124, 163, 164, 165, 454, 455, 456, 457, 458, 459, 224, 225, 226, 227, 228, 229, 230, 460, 461, 462, 463, 464, 465, 466, 467, 367, 368, 369, 370, 33, 29, 330, 32, 331, 332, 333, 51, 338, 339, 340, 295, 296, 341, 342, 343, 297, 298, 299, 300, 196, 28, 197, 198, 137, 45, 46, 47, 301, 302, 303, 166, 167, 168, 169, 17, 242, 243, 244, 245, 246, 247, 248, 249, 250, 251, 252, 253, 254, 255, 256, 573, 574, 575, 576, 577, 578, 579, 580, 581, 582, 583, 584, 585, 586, 587, 588, 589, 590, 615, 616, 617, 618, 619, 620, 621, 622, 623, 624] (by decide +kernel) (by decide +kernel)
set_option maxRecDepth 20000 in
theorem gL_law_X3_share : GoodIn wsL_law (wsV RL 91 RX3 yX3_share wsX3_share) := goodIn_app (goodIn_of _ (by decide +kernel)) ggL_law_X3_share
set_option maxRecDepth 20000 in
theorem ggL_law_X4_share : GoodIn wsL_law wsX4_share := goodIn_r _ [471, 280, 58, 63, 174, 175, 176, 5, 177, 152, 78, 79, 80, 182, 183, 184, 375, 376, 377, 378, 357, 358, 359, 360, 361, 362, 312, 313, 314, 315, 316, 317, 318, 319, 320, 321, 322, 309, 310, 311, 178, 179, 180, 181, 57, 261, 262, 263, 264, 265, 266, 267, 268, 269, 270, 271, 235, 236, 237, 472, 473, 474, 475, 476, 477, 591, 592, 593, 594, 595, 596, 597, 598, 599, 600, 601, 602, 603, 604, 605, 606, 607, 608, 609, 610, 611, 612, 613, 614] (by decide +kernel) (by decide +kernel)
set_option maxRecDepth 20000 in
theorem gL_law_X4_share : GoodIn wsL_law (wsV RL 94 RX4 yX4_share wsX4_share) := goodIn_app (goodIn_of _ (by decide +kernel)) ggL_law_X4_share
set_option maxRecDepth 20000 in
theorem ggL_law_X3_rests : GoodIn wsL_law wsX3_rests := goodIn_r _ [481, 159, 160, 161, 2, 162, 124, 327, 328, 329, 482, 483, 484, 485, 35, 29, 21, 196, 28, 197, 198, 137, 45, 46, 47, 246, 247, 248, 249, 250, 251, 252, 253, 254, 255, 256, 486, 487, 488, 489, 490, 491, 492, 493, 203, 204, 205, 206, 573, 574, 575, 576, 577, 578, 579, 580, 581, 582, 583, 584, 585, 586, 587, 588, 589, 590, 615, 616, 617, 618, 619, 620, 621, 622] (by decide +kernel) (by decide +kernel)
set_option maxRecDepth 20000 in
theorem gL_law_X3_rests : GoodIn wsL_law (wsV RL 95 RX3 yX3_rests wsX3_rests) := goodIn_app (goodIn_of _ (by decide +kernel)) ggL_law_X3_rests
set_option maxRecDepth 20000 in
theorem ggL_law_X4_rests : GoodIn wsL_law wsX4_rests := goodIn_r _ [497, 281, 174, 175, 176, 5, 177, 152, 78, 79, 80, 498, 499, 500, 501, 58, 64, 317, 318, 319, 320, 321, 322, 265, 266, 267, 268, 269, 270, 271, 502, 503, 504, 505, 506, 507, 508, 591, 592, 593, 594, 595, 596, 597, 598, 599, 600, 601, 602, 603, 604, 605, 606, 607, 608, 609, 610, 611, 612, 613, 614] (by decide +kernel) (by decide +kernel)
set_option maxRecDepth 20000 in
theorem gL_law_X4_rests : GoodIn wsL_law (wsV RL 99 RX4 yX4_rests wsX4_rests) := goodIn_app (goodIn_of _ (by decide +kernel)) ggL_law_X4_rests
set_option maxRecDepth 20000 in
theorem ggL_law_X3_chance : GoodIn wsL_law wsX3_chance := goodIn_r _ [512, 21, 33, 29, 327, 328, 2, 329, 454, 455, 456, 457, 458, 459, 330, 32, 331, 332, 333, 51, 164, 165, 338, 339, 340, 295, 296, 341, 342, 343, 513, 514, 515, 516, 196, 28, 197, 198, 137, 45, 46, 47, 301, 302, 303, 166, 167, 168, 169, 17, 163, 242, 243, 244, 245, 246, 247, 248, 249, 250, 251, 252, 253, 254, 255, 256, 573, 574, 575, 576, 577, 578, 579, 580, 581, 582, 583, 584, 585, 586, 587, 588, 589, 590, 615, 616, 617, 618, 619, 620, 621, 622, 623, 624] (by decide +kernel) (by decide +kernel)
set_option maxRecDepth 20000 in
theorem gL_law_X3_chance : GoodIn wsL_law (wsV RL 100 RX3 yX3_chance wsX3_chance) := goodIn_app (goodIn_of _ (by decide +kernel)) ggL_law_X3_chance
set_option maxRecDepth 20000 in
theorem ggL_law_X4_chance : GoodIn wsL_law wsX4_chance := goodIn_r _ [520, 437, 281, 58, 78, 79, 5, 80, 357, 358, 359, 360, 361, 362, 439, 440, 441, 317, 318, 319, 320, 321, 322, 309, 310, 311, 178, 179, 180, 181, 57, 182, 183, 184, 261, 262, 263, 264, 265, 266, 267, 268, 269, 270, 271, 475, 476, 477, 591, 592, 593, 594, 595, 596, 597, 598, 599, 600, 601, 602, 603, 604, 605, 606, 607, 608, 609, 610, 611, 612, 613, 614] (by decide +kernel) (by decide +kernel)
set_option maxRecDepth 20000 in
theorem gL_law_X4_chance : GoodIn wsL_law (wsV RL 103 RX4 yX4_chance wsX4_chance) := goodIn_app (goodIn_of _ (by decide +kernel)) ggL_law_X4_chance
set_option maxRecDepth 20000 in
theorem ggL_law_X3_seed : GoodIn wsL_law wsX3_seed := goodIn_r _ [524, 525, 573, 574, 575, 576, 577, 578, 579, 580, 581, 582, 583, 584, 585, 586, 587, 588, 589, 590] (by decide +kernel) (by decide +kernel)
set_option maxRecDepth 20000 in
theorem gL_law_X3_seed : GoodIn wsL_law (wsV RL 106 RX3 yX3_seed wsX3_seed) := goodIn_app (goodIn_of _ (by decide +kernel)) ggL_law_X3_seed
set_option maxRecDepth 20000 in
theorem ggL_law_X4_seed : GoodIn wsL_law wsX4_seed := goodIn_r _ [529, 530, 591, 592, 593, 594, 595, 596, 597, 598, 599, 600, 601, 602, 603, 604, 605, 606, 607, 608, 609, 610, 611, 612, 613, 614] (by decide +kernel) (by decide +kernel)
set_option maxRecDepth 20000 in
theorem gL_law_X4_seed : GoodIn wsL_law (wsV RL 110 RX4 yX4_seed wsX4_seed) := goodIn_app (goodIn_of _ (by decide +kernel)) ggL_law_X4_seed
set_option maxRecDepth 20000 in
theorem ggL_law_X3_nights : GoodIn wsL_law wsX3_nights := goodIn_r _ [534, 29, 21, 525, 535, 536, 537, 196, 28, 197, 198, 137, 45, 46, 47, 166, 167, 168, 2, 169, 17, 163, 164, 165, 242, 243, 244, 245, 246, 247, 248, 249, 250, 251, 252, 253, 254, 255, 256, 573, 574, 575, 576, 577, 578, 579, 580, 581, 582, 583, 584, 585, 586, 587, 588, 589, 590, 615, 616, 617, 618, 619, 620, 621, 622] (by decide +kernel) (by decide +kernel)
set_option maxRecDepth 20000 in
theorem gL_law_X3_nights : GoodIn wsL_law (wsV RL 111 RX3 yX3_nights wsX3_nights) := goodIn_app (goodIn_of _ (by decide +kernel)) ggL_law_X3_nights
set_option maxRecDepth 20000 in
theorem ggL_law_X4_nights : GoodIn wsL_law wsX4_nights := goodIn_r _ [541, 542, 58, 530, 543, 544, 316, 78, 79, 5, 80, 317, 318, 319, 320, 321, 322, 174, 175, 176, 177, 152, 178, 179, 180, 181, 57, 182, 183, 184, 261, 262, 263, 264, 265, 266, 267, 268, 269, 270, 271, 591, 592, 593, 594, 595, 596, 597, 598, 599, 600, 601, 602, 603, 604, 605, 606, 607, 608, 609, 610, 611, 612, 613, 614] (by decide +kernel) (by decide +kernel)
set_option maxRecDepth 20000 in
theorem gL_law_X4_nights : GoodIn wsL_law (wsV RL 114 RX4 yX4_nights wsX4_nights) := goodIn_app (goodIn_of _ (by decide +kernel)) ggL_law_X4_nights
set_option maxRecDepth 20000 in
theorem ggL_law_X3_keep : GoodIn wsL_law wsX3_keep := goodIn_r _ [548, 23, 21, 25, 193, 20, 194, 195, 40, 132, 133, 41, 196, 28, 197, 198, 137, 45, 46, 47, 573, 574, 575, 576, 577, 578, 579, 580, 581, 582, 583, 584, 585, 586, 587, 588, 589, 590, 615, 616, 617, 618, 619, 620, 621, 622] (by decide +kernel) (by decide +kernel)
set_option maxRecDepth 20000 in
theorem gL_law_X3_keep : GoodIn wsL_law (wsV RL 115 RX3 yX3_keep wsX3_keep) := goodIn_app (goodIn_of _ (by decide +kernel)) ggL_law_X3_keep
set_option maxRecDepth 20000 in
theorem ggL_law_X4_keep : GoodIn wsL_law wsX4_keep := goodIn_r _ [552, 65, 66, 58, 78, 79, 5, 80, 591, 592, 593, 594, 595, 596, 597, 598, 599, 600, 601, 602, 603, 604, 605, 606, 607, 608, 609, 610, 611, 612, 613, 614] (by decide +kernel) (by decide +kernel)
set_option maxRecDepth 20000 in
theorem gL_law_X4_keep : GoodIn wsL_law (wsV RL 118 RX4 yX4_keep wsX4_keep) := goodIn_app (goodIn_of _ (by decide +kernel)) ggL_law_X4_keep
set_option maxRecDepth 20000 in
theorem ggL_law_X3_again : GoodIn wsL_law wsX3_again := goodIn_r _ [556, 25, 21, 23, 193, 20, 194, 195, 40, 132, 133, 41, 196, 28, 197, 198, 137, 45, 46, 47, 142, 143, 144, 2, 145, 146, 147, 573, 574, 575, 576, 577, 578, 579, 580, 581, 582, 583, 584, 585, 586, 587, 588, 589, 590, 615, 616, 617, 618, 619, 620, 621, 622] (by decide +kernel) (by decide +kernel)
set_option maxRecDepth 20000 in
theorem gL_law_X3_again : GoodIn wsL_law (wsV RL 119 RX3 yX3_again wsX3_again) := goodIn_app (goodIn_of _ (by decide +kernel)) ggL_law_X3_again
set_option maxRecDepth 20000 in
theorem ggL_law_X4_again : GoodIn wsL_law wsX4_again := goodIn_r _ [560, 65, 58, 66, 154, 78, 79, 5, 80, 591, 592, 593, 594, 595, 596, 597, 598, 599, 600, 601, 602, 603, 604, 605, 606, 607, 608, 609, 610, 611, 612, 613, 614] (by decide +kernel) (by decide +kernel)
set_option maxRecDepth 20000 in
theorem gL_law_X4_again : GoodIn wsL_law (wsV RL 122 RX4 yX4_again wsX4_again) := goodIn_app (goodIn_of _ (by decide +kernel)) ggL_law_X4_again
set_option maxRecDepth 20000 in
theorem ggL_law_X3_count : GoodIn wsL_law wsX3_count := goodIn_r _ [564, 71, 124, 123, 21, 147, 565, 566, 567, 2, 568, 166, 167, 168, 169, 17, 163, 164, 165, 573, 574, 575, 576, 577, 578, 579, 580, 581, 582, 583, 584, 585, 586, 587, 588, 589, 590, 615, 616, 617, 618, 619, 620, 621, 622] (by decide +kernel) (by decide +kernel)
set_option maxRecDepth 20000 in
theorem gL_law_X3_count : GoodIn wsL_law (wsV RL 123 RX3 yX3_count wsX3_count) := goodIn_app (goodIn_of _ (by decide +kernel)) ggL_law_X3_count
set_option maxRecDepth 20000 in
theorem ggL_law_X4_count : GoodIn wsL_law wsX4_count := goodIn_r _ [572, 152, 77, 153, 58, 154, 178, 179, 180, 5, 181, 57, 182, 183, 184, 591, 592, 593, 594, 595, 596, 597, 598, 599, 600, 601, 602, 603, 604, 605, 606, 607, 608, 609, 610, 611, 612, 613, 614] (by decide +kernel) (by decide +kernel)
set_option maxRecDepth 20000 in
theorem gL_law_X4_count : GoodIn wsL_law (wsV RL 126 RX4 yX4_count wsX4_count) := goodIn_app (goodIn_of _ (by decide +kernel)) ggL_law_X4_count
theorem dL_law_0 : decode cL_law 0 = .ok (.new 7, 3) := by decide +kernel
theorem dL_law_3 : decode cL_law 3 = .ok (.dup, 1) := by decide +kernel
theorem dL_law_4 : decode cL_law 4 = .ok (.invokespecial 9, 3) := by decide +kernel
theorem dL_law_7 : decode cL_law 7 = .ok (.astore_n 1, 1) := by decide +kernel
theorem dL_law_8 : decode cL_law 8 = .ok (.new 10, 3) := by decide +kernel
theorem dL_law_11 : decode cL_law 11 = .ok (.dup, 1) := by decide +kernel
theorem dL_law_12 : decode cL_law 12 = .ok (.invokespecial 12, 3) := by decide +kernel
theorem dL_law_15 : decode cL_law 15 = .ok (.astore_n 2, 1) := by decide +kernel
theorem dL_law_16 : decode cL_law 16 = .ok (.iconst 0, 1) := by decide +kernel
theorem dL_law_17 : decode cL_law 17 = .ok (.istore_n 3, 1) := by decide +kernel
theorem dL_law_18 : decode cL_law 18 = .ok (.iload_n 3, 1) := by decide +kernel
theorem dL_law_19 : decode cL_law 19 = .ok (.aload_n 0, 1) := by decide +kernel
theorem dL_law_20 : decode cL_law 20 = .ok (.arraylength, 1) := by decide +kernel
theorem dL_law_21 : decode cL_law 21 = .ok (.bipush 6, 2) := by decide +kernel
theorem dL_law_23 : decode cL_law 23 = .ok (.isub, 1) := by decide +kernel
theorem dL_law_24 : decode cL_law 24 = .ok (.if_icmp .gt 1009, 3) := by decide +kernel
theorem dL_law_27 : decode cL_law 27 = .ok (.aload_n 0, 1) := by decide +kernel
theorem dL_law_28 : decode cL_law 28 = .ok (.iload_n 3, 1) := by decide +kernel
theorem dL_law_29 : decode cL_law 29 = .ok (.iaload, 1) := by decide +kernel
theorem dL_law_30 : decode cL_law 30 = .ok (.bipush 31, 2) := by decide +kernel
theorem dL_law_32 : decode cL_law 32 = .ok (.iand, 1) := by decide +kernel
theorem dL_law_33 : decode cL_law 33 = .ok (.tableswitch 994 0 25 #[119, 142, 155, 168, 181, 214, 237, 260, 283, 326, 339, 382, 431, 454, 503, 516, 565, 608, 667, 726, 789, 848, 902, 925, 948, 971], 119) := by decide +kernel
theorem dL_law_152 : decode cL_law 152 = .ok (.aload_n 1, 1) := by decide +kernel
theorem dL_law_153 : decode cL_law 153 = .ok (.aload_n 0, 1) := by decide +kernel
theorem dL_law_154 : decode cL_law 154 = .ok (.iload_n 3, 1) := by decide +kernel
theorem dL_law_155 : decode cL_law 155 = .ok (.iconst 1, 1) := by decide +kernel
theorem dL_law_156 : decode cL_law 156 = .ok (.iadd, 1) := by decide +kernel
theorem dL_law_157 : decode cL_law 157 = .ok (.iaload, 1) := by decide +kernel
theorem dL_law_158 : decode cL_law 158 = .ok (.invokevirtual 13, 3) := by decide +kernel
theorem dL_law_161 : decode cL_law 161 = .ok (.aload_n 2, 1) := by decide +kernel
theorem dL_law_162 : decode cL_law 162 = .ok (.aload_n 0, 1) := by decide +kernel
theorem dL_law_163 : decode cL_law 163 = .ok (.iload_n 3, 1) := by decide +kernel
theorem dL_law_164 : decode cL_law 164 = .ok (.iconst 1, 1) := by decide +kernel
theorem dL_law_165 : decode cL_law 165 = .ok (.iadd, 1) := by decide +kernel
theorem dL_law_166 : decode cL_law 166 = .ok (.iaload, 1) := by decide +kernel
theorem dL_law_167 : decode cL_law 167 = .ok (.invokevirtual 17, 3) := by decide +kernel
theorem dL_law_170 : decode cL_law 170 = .ok (.if_icmp .eq 857, 3) := by decide +kernel
theorem dL_law_173 : decode cL_law 173 = .ok (.iconst 0, 1) := by decide +kernel
theorem dL_law_174 : decode cL_law 174 = .ok (.ireturn, 1) := by decide +kernel
theorem dL_law_175 : decode cL_law 175 = .ok (.aload_n 1, 1) := by decide +kernel
theorem dL_law_176 : decode cL_law 176 = .ok (.invokevirtual 18, 3) := by decide +kernel
theorem dL_law_179 : decode cL_law 179 = .ok (.aload_n 2, 1) := by decide +kernel
theorem dL_law_180 : decode cL_law 180 = .ok (.invokevirtual 22, 3) := by decide +kernel
theorem dL_law_183 : decode cL_law 183 = .ok (.if_icmp .eq 844, 3) := by decide +kernel
theorem dL_law_186 : decode cL_law 186 = .ok (.iconst 0, 1) := by decide +kernel
theorem dL_law_187 : decode cL_law 187 = .ok (.ireturn, 1) := by decide +kernel
theorem dL_law_188 : decode cL_law 188 = .ok (.aload_n 1, 1) := by decide +kernel
theorem dL_law_189 : decode cL_law 189 = .ok (.invokevirtual 23, 3) := by decide +kernel
theorem dL_law_192 : decode cL_law 192 = .ok (.aload_n 2, 1) := by decide +kernel
theorem dL_law_193 : decode cL_law 193 = .ok (.invokevirtual 26, 3) := by decide +kernel
theorem dL_law_196 : decode cL_law 196 = .ok (.if_icmp .eq 831, 3) := by decide +kernel
theorem dL_law_199 : decode cL_law 199 = .ok (.iconst 0, 1) := by decide +kernel
theorem dL_law_200 : decode cL_law 200 = .ok (.ireturn, 1) := by decide +kernel
theorem dL_law_201 : decode cL_law 201 = .ok (.aload_n 1, 1) := by decide +kernel
theorem dL_law_202 : decode cL_law 202 = .ok (.invokevirtual 27, 3) := by decide +kernel
theorem dL_law_205 : decode cL_law 205 = .ok (.aload_n 2, 1) := by decide +kernel
theorem dL_law_206 : decode cL_law 206 = .ok (.invokevirtual 30, 3) := by decide +kernel
theorem dL_law_209 : decode cL_law 209 = .ok (.if_icmp .eq 818, 3) := by decide +kernel
theorem dL_law_212 : decode cL_law 212 = .ok (.iconst 0, 1) := by decide +kernel
theorem dL_law_213 : decode cL_law 213 = .ok (.ireturn, 1) := by decide +kernel
theorem dL_law_214 : decode cL_law 214 = .ok (.aload_n 1, 1) := by decide +kernel
theorem dL_law_215 : decode cL_law 215 = .ok (.aload_n 0, 1) := by decide +kernel
theorem dL_law_216 : decode cL_law 216 = .ok (.iload_n 3, 1) := by decide +kernel
theorem dL_law_217 : decode cL_law 217 = .ok (.iconst 1, 1) := by decide +kernel
theorem dL_law_218 : decode cL_law 218 = .ok (.iadd, 1) := by decide +kernel
theorem dL_law_219 : decode cL_law 219 = .ok (.iaload, 1) := by decide +kernel
theorem dL_law_220 : decode cL_law 220 = .ok (.aload_n 0, 1) := by decide +kernel
theorem dL_law_221 : decode cL_law 221 = .ok (.iload_n 3, 1) := by decide +kernel
theorem dL_law_222 : decode cL_law 222 = .ok (.iconst 2, 1) := by decide +kernel
theorem dL_law_223 : decode cL_law 223 = .ok (.iadd, 1) := by decide +kernel
theorem dL_law_224 : decode cL_law 224 = .ok (.iaload, 1) := by decide +kernel
theorem dL_law_225 : decode cL_law 225 = .ok (.invokevirtual 31, 3) := by decide +kernel
theorem dL_law_228 : decode cL_law 228 = .ok (.aload_n 2, 1) := by decide +kernel
theorem dL_law_229 : decode cL_law 229 = .ok (.aload_n 0, 1) := by decide +kernel
theorem dL_law_230 : decode cL_law 230 = .ok (.iload_n 3, 1) := by decide +kernel
theorem dL_law_231 : decode cL_law 231 = .ok (.iconst 1, 1) := by decide +kernel
theorem dL_law_232 : decode cL_law 232 = .ok (.iadd, 1) := by decide +kernel
theorem dL_law_233 : decode cL_law 233 = .ok (.iaload, 1) := by decide +kernel
theorem dL_law_234 : decode cL_law 234 = .ok (.aload_n 0, 1) := by decide +kernel
theorem dL_law_235 : decode cL_law 235 = .ok (.iload_n 3, 1) := by decide +kernel
theorem dL_law_236 : decode cL_law 236 = .ok (.iconst 2, 1) := by decide +kernel
theorem dL_law_237 : decode cL_law 237 = .ok (.iadd, 1) := by decide +kernel
theorem dL_law_238 : decode cL_law 238 = .ok (.iaload, 1) := by decide +kernel
theorem dL_law_239 : decode cL_law 239 = .ok (.invokevirtual 35, 3) := by decide +kernel
theorem dL_law_242 : decode cL_law 242 = .ok (.if_icmp .eq 785, 3) := by decide +kernel
theorem dL_law_245 : decode cL_law 245 = .ok (.iconst 0, 1) := by decide +kernel
theorem dL_law_246 : decode cL_law 246 = .ok (.ireturn, 1) := by decide +kernel
theorem dL_law_247 : decode cL_law 247 = .ok (.aload_n 1, 1) := by decide +kernel
theorem dL_law_248 : decode cL_law 248 = .ok (.aload_n 0, 1) := by decide +kernel
theorem dL_law_249 : decode cL_law 249 = .ok (.iload_n 3, 1) := by decide +kernel
theorem dL_law_250 : decode cL_law 250 = .ok (.iconst 1, 1) := by decide +kernel
theorem dL_law_251 : decode cL_law 251 = .ok (.iadd, 1) := by decide +kernel
theorem dL_law_252 : decode cL_law 252 = .ok (.iaload, 1) := by decide +kernel
theorem dL_law_253 : decode cL_law 253 = .ok (.invokevirtual 36, 3) := by decide +kernel
theorem dL_law_256 : decode cL_law 256 = .ok (.aload_n 2, 1) := by decide +kernel
theorem dL_law_257 : decode cL_law 257 = .ok (.aload_n 0, 1) := by decide +kernel
theorem dL_law_258 : decode cL_law 258 = .ok (.iload_n 3, 1) := by decide +kernel
theorem dL_law_259 : decode cL_law 259 = .ok (.iconst 1, 1) := by decide +kernel
theorem dL_law_260 : decode cL_law 260 = .ok (.iadd, 1) := by decide +kernel
theorem dL_law_261 : decode cL_law 261 = .ok (.iaload, 1) := by decide +kernel
theorem dL_law_262 : decode cL_law 262 = .ok (.invokevirtual 39, 3) := by decide +kernel
theorem dL_law_265 : decode cL_law 265 = .ok (.if_icmp .eq 762, 3) := by decide +kernel
theorem dL_law_268 : decode cL_law 268 = .ok (.iconst 0, 1) := by decide +kernel
theorem dL_law_269 : decode cL_law 269 = .ok (.ireturn, 1) := by decide +kernel
theorem dL_law_270 : decode cL_law 270 = .ok (.aload_n 1, 1) := by decide +kernel
theorem dL_law_271 : decode cL_law 271 = .ok (.aload_n 0, 1) := by decide +kernel
theorem dL_law_272 : decode cL_law 272 = .ok (.iload_n 3, 1) := by decide +kernel
theorem dL_law_273 : decode cL_law 273 = .ok (.iconst 1, 1) := by decide +kernel
theorem dL_law_274 : decode cL_law 274 = .ok (.iadd, 1) := by decide +kernel
theorem dL_law_275 : decode cL_law 275 = .ok (.iaload, 1) := by decide +kernel
theorem dL_law_276 : decode cL_law 276 = .ok (.invokevirtual 40, 3) := by decide +kernel
theorem dL_law_279 : decode cL_law 279 = .ok (.aload_n 2, 1) := by decide +kernel
theorem dL_law_280 : decode cL_law 280 = .ok (.aload_n 0, 1) := by decide +kernel
theorem dL_law_281 : decode cL_law 281 = .ok (.iload_n 3, 1) := by decide +kernel
theorem dL_law_282 : decode cL_law 282 = .ok (.iconst 1, 1) := by decide +kernel
theorem dL_law_283 : decode cL_law 283 = .ok (.iadd, 1) := by decide +kernel
theorem dL_law_284 : decode cL_law 284 = .ok (.iaload, 1) := by decide +kernel
theorem dL_law_285 : decode cL_law 285 = .ok (.invokevirtual 43, 3) := by decide +kernel
theorem dL_law_288 : decode cL_law 288 = .ok (.if_icmp .eq 739, 3) := by decide +kernel
theorem dL_law_291 : decode cL_law 291 = .ok (.iconst 0, 1) := by decide +kernel
theorem dL_law_292 : decode cL_law 292 = .ok (.ireturn, 1) := by decide +kernel
theorem dL_law_293 : decode cL_law 293 = .ok (.aload_n 1, 1) := by decide +kernel
theorem dL_law_294 : decode cL_law 294 = .ok (.aload_n 0, 1) := by decide +kernel
theorem dL_law_295 : decode cL_law 295 = .ok (.iload_n 3, 1) := by decide +kernel
theorem dL_law_296 : decode cL_law 296 = .ok (.iconst 1, 1) := by decide +kernel
theorem dL_law_297 : decode cL_law 297 = .ok (.iadd, 1) := by decide +kernel
theorem dL_law_298 : decode cL_law 298 = .ok (.iaload, 1) := by decide +kernel
theorem dL_law_299 : decode cL_law 299 = .ok (.invokevirtual 44, 3) := by decide +kernel
theorem dL_law_302 : decode cL_law 302 = .ok (.aload_n 2, 1) := by decide +kernel
theorem dL_law_303 : decode cL_law 303 = .ok (.aload_n 0, 1) := by decide +kernel
theorem dL_law_304 : decode cL_law 304 = .ok (.iload_n 3, 1) := by decide +kernel
theorem dL_law_305 : decode cL_law 305 = .ok (.iconst 1, 1) := by decide +kernel
theorem dL_law_306 : decode cL_law 306 = .ok (.iadd, 1) := by decide +kernel
theorem dL_law_307 : decode cL_law 307 = .ok (.iaload, 1) := by decide +kernel
theorem dL_law_308 : decode cL_law 308 = .ok (.invokevirtual 47, 3) := by decide +kernel
theorem dL_law_311 : decode cL_law 311 = .ok (.if_icmp .eq 716, 3) := by decide +kernel
theorem dL_law_314 : decode cL_law 314 = .ok (.iconst 0, 1) := by decide +kernel
theorem dL_law_315 : decode cL_law 315 = .ok (.ireturn, 1) := by decide +kernel
theorem dL_law_316 : decode cL_law 316 = .ok (.aload_n 1, 1) := by decide +kernel
theorem dL_law_317 : decode cL_law 317 = .ok (.aload_n 0, 1) := by decide +kernel
theorem dL_law_318 : decode cL_law 318 = .ok (.iload_n 3, 1) := by decide +kernel
theorem dL_law_319 : decode cL_law 319 = .ok (.iconst 1, 1) := by decide +kernel
theorem dL_law_320 : decode cL_law 320 = .ok (.iadd, 1) := by decide +kernel
theorem dL_law_321 : decode cL_law 321 = .ok (.iaload, 1) := by decide +kernel
theorem dL_law_322 : decode cL_law 322 = .ok (.aload_n 0, 1) := by decide +kernel
theorem dL_law_323 : decode cL_law 323 = .ok (.iload_n 3, 1) := by decide +kernel
theorem dL_law_324 : decode cL_law 324 = .ok (.iconst 2, 1) := by decide +kernel
theorem dL_law_325 : decode cL_law 325 = .ok (.iadd, 1) := by decide +kernel
theorem dL_law_326 : decode cL_law 326 = .ok (.iaload, 1) := by decide +kernel
theorem dL_law_327 : decode cL_law 327 = .ok (.aload_n 0, 1) := by decide +kernel
theorem dL_law_328 : decode cL_law 328 = .ok (.iload_n 3, 1) := by decide +kernel
theorem dL_law_329 : decode cL_law 329 = .ok (.iconst 3, 1) := by decide +kernel
theorem dL_law_330 : decode cL_law 330 = .ok (.iadd, 1) := by decide +kernel
theorem dL_law_331 : decode cL_law 331 = .ok (.iaload, 1) := by decide +kernel
theorem dL_law_332 : decode cL_law 332 = .ok (.invokevirtual 48, 3) := by decide +kernel
theorem dL_law_335 : decode cL_law 335 = .ok (.aload_n 2, 1) := by decide +kernel
theorem dL_law_336 : decode cL_law 336 = .ok (.aload_n 0, 1) := by decide +kernel
theorem dL_law_337 : decode cL_law 337 = .ok (.iload_n 3, 1) := by decide +kernel
theorem dL_law_338 : decode cL_law 338 = .ok (.iconst 1, 1) := by decide +kernel
theorem dL_law_339 : decode cL_law 339 = .ok (.iadd, 1) := by decide +kernel
theorem dL_law_340 : decode cL_law 340 = .ok (.iaload, 1) := by decide +kernel
theorem dL_law_341 : decode cL_law 341 = .ok (.aload_n 0, 1) := by decide +kernel
theorem dL_law_342 : decode cL_law 342 = .ok (.iload_n 3, 1) := by decide +kernel
theorem dL_law_343 : decode cL_law 343 = .ok (.iconst 2, 1) := by decide +kernel
theorem dL_law_344 : decode cL_law 344 = .ok (.iadd, 1) := by decide +kernel
theorem dL_law_345 : decode cL_law 345 = .ok (.iaload, 1) := by decide +kernel
theorem dL_law_346 : decode cL_law 346 = .ok (.aload_n 0, 1) := by decide +kernel
theorem dL_law_347 : decode cL_law 347 = .ok (.iload_n 3, 1) := by decide +kernel
theorem dL_law_348 : decode cL_law 348 = .ok (.iconst 3, 1) := by decide +kernel
theorem dL_law_349 : decode cL_law 349 = .ok (.iadd, 1) := by decide +kernel
theorem dL_law_350 : decode cL_law 350 = .ok (.iaload, 1) := by decide +kernel
theorem dL_law_351 : decode cL_law 351 = .ok (.invokevirtual 52, 3) := by decide +kernel
theorem dL_law_354 : decode cL_law 354 = .ok (.if_icmp .eq 673, 3) := by decide +kernel
theorem dL_law_357 : decode cL_law 357 = .ok (.iconst 0, 1) := by decide +kernel
theorem dL_law_358 : decode cL_law 358 = .ok (.ireturn, 1) := by decide +kernel
theorem dL_law_359 : decode cL_law 359 = .ok (.aload_n 1, 1) := by decide +kernel
theorem dL_law_360 : decode cL_law 360 = .ok (.invokevirtual 53, 3) := by decide +kernel
theorem dL_law_363 : decode cL_law 363 = .ok (.aload_n 2, 1) := by decide +kernel
theorem dL_law_364 : decode cL_law 364 = .ok (.invokevirtual 56, 3) := by decide +kernel
theorem dL_law_367 : decode cL_law 367 = .ok (.if_icmp .eq 660, 3) := by decide +kernel
theorem dL_law_370 : decode cL_law 370 = .ok (.iconst 0, 1) := by decide +kernel
theorem dL_law_371 : decode cL_law 371 = .ok (.ireturn, 1) := by decide +kernel
theorem dL_law_372 : decode cL_law 372 = .ok (.aload_n 1, 1) := by decide +kernel
theorem dL_law_373 : decode cL_law 373 = .ok (.aload_n 0, 1) := by decide +kernel
theorem dL_law_374 : decode cL_law 374 = .ok (.iload_n 3, 1) := by decide +kernel
theorem dL_law_375 : decode cL_law 375 = .ok (.iconst 1, 1) := by decide +kernel
theorem dL_law_376 : decode cL_law 376 = .ok (.iadd, 1) := by decide +kernel
theorem dL_law_377 : decode cL_law 377 = .ok (.iaload, 1) := by decide +kernel
theorem dL_law_378 : decode cL_law 378 = .ok (.aload_n 0, 1) := by decide +kernel
theorem dL_law_379 : decode cL_law 379 = .ok (.iload_n 3, 1) := by decide +kernel
theorem dL_law_380 : decode cL_law 380 = .ok (.iconst 2, 1) := by decide +kernel
theorem dL_law_381 : decode cL_law 381 = .ok (.iadd, 1) := by decide +kernel
theorem dL_law_382 : decode cL_law 382 = .ok (.iaload, 1) := by decide +kernel
theorem dL_law_383 : decode cL_law 383 = .ok (.aload_n 0, 1) := by decide +kernel
theorem dL_law_384 : decode cL_law 384 = .ok (.iload_n 3, 1) := by decide +kernel
theorem dL_law_385 : decode cL_law 385 = .ok (.iconst 3, 1) := by decide +kernel
theorem dL_law_386 : decode cL_law 386 = .ok (.iadd, 1) := by decide +kernel
theorem dL_law_387 : decode cL_law 387 = .ok (.iaload, 1) := by decide +kernel
theorem dL_law_388 : decode cL_law 388 = .ok (.invokevirtual 57, 3) := by decide +kernel
theorem dL_law_391 : decode cL_law 391 = .ok (.aload_n 2, 1) := by decide +kernel
theorem dL_law_392 : decode cL_law 392 = .ok (.aload_n 0, 1) := by decide +kernel
theorem dL_law_393 : decode cL_law 393 = .ok (.iload_n 3, 1) := by decide +kernel
theorem dL_law_394 : decode cL_law 394 = .ok (.iconst 1, 1) := by decide +kernel
theorem dL_law_395 : decode cL_law 395 = .ok (.iadd, 1) := by decide +kernel
theorem dL_law_396 : decode cL_law 396 = .ok (.iaload, 1) := by decide +kernel
theorem dL_law_397 : decode cL_law 397 = .ok (.aload_n 0, 1) := by decide +kernel
theorem dL_law_398 : decode cL_law 398 = .ok (.iload_n 3, 1) := by decide +kernel
theorem dL_law_399 : decode cL_law 399 = .ok (.iconst 2, 1) := by decide +kernel
theorem dL_law_400 : decode cL_law 400 = .ok (.iadd, 1) := by decide +kernel
theorem dL_law_401 : decode cL_law 401 = .ok (.iaload, 1) := by decide +kernel
theorem dL_law_402 : decode cL_law 402 = .ok (.aload_n 0, 1) := by decide +kernel
theorem dL_law_403 : decode cL_law 403 = .ok (.iload_n 3, 1) := by decide +kernel
theorem dL_law_404 : decode cL_law 404 = .ok (.iconst 3, 1) := by decide +kernel
theorem dL_law_405 : decode cL_law 405 = .ok (.iadd, 1) := by decide +kernel
theorem dL_law_406 : decode cL_law 406 = .ok (.iaload, 1) := by decide +kernel
theorem dL_law_407 : decode cL_law 407 = .ok (.invokevirtual 60, 3) := by decide +kernel
theorem dL_law_410 : decode cL_law 410 = .ok (.if_icmp .eq 617, 3) := by decide +kernel
theorem dL_law_413 : decode cL_law 413 = .ok (.iconst 0, 1) := by decide +kernel
theorem dL_law_414 : decode cL_law 414 = .ok (.ireturn, 1) := by decide +kernel
theorem dL_law_415 : decode cL_law 415 = .ok (.aload_n 1, 1) := by decide +kernel
theorem dL_law_416 : decode cL_law 416 = .ok (.aload_n 0, 1) := by decide +kernel
theorem dL_law_417 : decode cL_law 417 = .ok (.iload_n 3, 1) := by decide +kernel
theorem dL_law_418 : decode cL_law 418 = .ok (.iconst 1, 1) := by decide +kernel
theorem dL_law_419 : decode cL_law 419 = .ok (.iadd, 1) := by decide +kernel
theorem dL_law_420 : decode cL_law 420 = .ok (.iaload, 1) := by decide +kernel
theorem dL_law_421 : decode cL_law 421 = .ok (.aload_n 0, 1) := by decide +kernel
theorem dL_law_422 : decode cL_law 422 = .ok (.iload_n 3, 1) := by decide +kernel
theorem dL_law_423 : decode cL_law 423 = .ok (.iconst 2, 1) := by decide +kernel
theorem dL_law_424 : decode cL_law 424 = .ok (.iadd, 1) := by decide +kernel
theorem dL_law_425 : decode cL_law 425 = .ok (.iaload, 1) := by decide +kernel
theorem dL_law_426 : decode cL_law 426 = .ok (.ifCond .eq 7, 3) := by decide +kernel
theorem dL_law_429 : decode cL_law 429 = .ok (.iconst 1, 1) := by decide +kernel
theorem dL_law_430 : decode cL_law 430 = .ok (.goto 4, 3) := by decide +kernel
theorem dL_law_433 : decode cL_law 433 = .ok (.iconst 0, 1) := by decide +kernel
theorem dL_law_434 : decode cL_law 434 = .ok (.invokevirtual 61, 3) := by decide +kernel
theorem dL_law_437 : decode cL_law 437 = .ok (.aload_n 2, 1) := by decide +kernel
theorem dL_law_438 : decode cL_law 438 = .ok (.aload_n 0, 1) := by decide +kernel
theorem dL_law_439 : decode cL_law 439 = .ok (.iload_n 3, 1) := by decide +kernel
theorem dL_law_440 : decode cL_law 440 = .ok (.iconst 1, 1) := by decide +kernel
theorem dL_law_441 : decode cL_law 441 = .ok (.iadd, 1) := by decide +kernel
theorem dL_law_442 : decode cL_law 442 = .ok (.iaload, 1) := by decide +kernel
theorem dL_law_443 : decode cL_law 443 = .ok (.aload_n 0, 1) := by decide +kernel
theorem dL_law_444 : decode cL_law 444 = .ok (.iload_n 3, 1) := by decide +kernel
theorem dL_law_445 : decode cL_law 445 = .ok (.iconst 2, 1) := by decide +kernel
theorem dL_law_446 : decode cL_law 446 = .ok (.iadd, 1) := by decide +kernel
theorem dL_law_447 : decode cL_law 447 = .ok (.iaload, 1) := by decide +kernel
theorem dL_law_448 : decode cL_law 448 = .ok (.ifCond .eq 7, 3) := by decide +kernel
theorem dL_law_451 : decode cL_law 451 = .ok (.iconst 1, 1) := by decide +kernel
theorem dL_law_452 : decode cL_law 452 = .ok (.goto 4, 3) := by decide +kernel
theorem dL_law_455 : decode cL_law 455 = .ok (.iconst 0, 1) := by decide +kernel
theorem dL_law_456 : decode cL_law 456 = .ok (.invokevirtual 65, 3) := by decide +kernel
theorem dL_law_459 : decode cL_law 459 = .ok (.if_icmp .eq 568, 3) := by decide +kernel
theorem dL_law_462 : decode cL_law 462 = .ok (.iconst 0, 1) := by decide +kernel
theorem dL_law_463 : decode cL_law 463 = .ok (.ireturn, 1) := by decide +kernel
theorem dL_law_464 : decode cL_law 464 = .ok (.aload_n 1, 1) := by decide +kernel
theorem dL_law_465 : decode cL_law 465 = .ok (.aload_n 0, 1) := by decide +kernel
theorem dL_law_466 : decode cL_law 466 = .ok (.iload_n 3, 1) := by decide +kernel
theorem dL_law_467 : decode cL_law 467 = .ok (.iconst 1, 1) := by decide +kernel
theorem dL_law_468 : decode cL_law 468 = .ok (.iadd, 1) := by decide +kernel
theorem dL_law_469 : decode cL_law 469 = .ok (.iaload, 1) := by decide +kernel
theorem dL_law_470 : decode cL_law 470 = .ok (.invokevirtual 66, 3) := by decide +kernel
theorem dL_law_473 : decode cL_law 473 = .ok (.aload_n 2, 1) := by decide +kernel
theorem dL_law_474 : decode cL_law 474 = .ok (.aload_n 0, 1) := by decide +kernel
theorem dL_law_475 : decode cL_law 475 = .ok (.iload_n 3, 1) := by decide +kernel
theorem dL_law_476 : decode cL_law 476 = .ok (.iconst 1, 1) := by decide +kernel
theorem dL_law_477 : decode cL_law 477 = .ok (.iadd, 1) := by decide +kernel
theorem dL_law_478 : decode cL_law 478 = .ok (.iaload, 1) := by decide +kernel
theorem dL_law_479 : decode cL_law 479 = .ok (.invokevirtual 69, 3) := by decide +kernel
theorem dL_law_482 : decode cL_law 482 = .ok (.if_icmp .eq 545, 3) := by decide +kernel
theorem dL_law_485 : decode cL_law 485 = .ok (.iconst 0, 1) := by decide +kernel
theorem dL_law_486 : decode cL_law 486 = .ok (.ireturn, 1) := by decide +kernel
theorem dL_law_487 : decode cL_law 487 = .ok (.aload_n 1, 1) := by decide +kernel
theorem dL_law_488 : decode cL_law 488 = .ok (.aload_n 0, 1) := by decide +kernel
theorem dL_law_489 : decode cL_law 489 = .ok (.iload_n 3, 1) := by decide +kernel
theorem dL_law_490 : decode cL_law 490 = .ok (.iconst 1, 1) := by decide +kernel
theorem dL_law_491 : decode cL_law 491 = .ok (.iadd, 1) := by decide +kernel
theorem dL_law_492 : decode cL_law 492 = .ok (.iaload, 1) := by decide +kernel
theorem dL_law_493 : decode cL_law 493 = .ok (.aload_n 0, 1) := by decide +kernel
theorem dL_law_494 : decode cL_law 494 = .ok (.iload_n 3, 1) := by decide +kernel
theorem dL_law_495 : decode cL_law 495 = .ok (.iconst 2, 1) := by decide +kernel
theorem dL_law_496 : decode cL_law 496 = .ok (.iadd, 1) := by decide +kernel
theorem dL_law_497 : decode cL_law 497 = .ok (.iaload, 1) := by decide +kernel
theorem dL_law_498 : decode cL_law 498 = .ok (.ifCond .eq 7, 3) := by decide +kernel
theorem dL_law_501 : decode cL_law 501 = .ok (.iconst 1, 1) := by decide +kernel
theorem dL_law_502 : decode cL_law 502 = .ok (.goto 4, 3) := by decide +kernel
theorem dL_law_505 : decode cL_law 505 = .ok (.iconst 0, 1) := by decide +kernel
theorem dL_law_506 : decode cL_law 506 = .ok (.invokevirtual 70, 3) := by decide +kernel
theorem dL_law_509 : decode cL_law 509 = .ok (.aload_n 2, 1) := by decide +kernel
theorem dL_law_510 : decode cL_law 510 = .ok (.aload_n 0, 1) := by decide +kernel
theorem dL_law_511 : decode cL_law 511 = .ok (.iload_n 3, 1) := by decide +kernel
theorem dL_law_512 : decode cL_law 512 = .ok (.iconst 1, 1) := by decide +kernel
theorem dL_law_513 : decode cL_law 513 = .ok (.iadd, 1) := by decide +kernel
theorem dL_law_514 : decode cL_law 514 = .ok (.iaload, 1) := by decide +kernel
theorem dL_law_515 : decode cL_law 515 = .ok (.aload_n 0, 1) := by decide +kernel
theorem dL_law_516 : decode cL_law 516 = .ok (.iload_n 3, 1) := by decide +kernel
theorem dL_law_517 : decode cL_law 517 = .ok (.iconst 2, 1) := by decide +kernel
theorem dL_law_518 : decode cL_law 518 = .ok (.iadd, 1) := by decide +kernel
theorem dL_law_519 : decode cL_law 519 = .ok (.iaload, 1) := by decide +kernel
theorem dL_law_520 : decode cL_law 520 = .ok (.ifCond .eq 7, 3) := by decide +kernel
theorem dL_law_523 : decode cL_law 523 = .ok (.iconst 1, 1) := by decide +kernel
theorem dL_law_524 : decode cL_law 524 = .ok (.goto 4, 3) := by decide +kernel
theorem dL_law_527 : decode cL_law 527 = .ok (.iconst 0, 1) := by decide +kernel
theorem dL_law_528 : decode cL_law 528 = .ok (.invokevirtual 73, 3) := by decide +kernel
theorem dL_law_531 : decode cL_law 531 = .ok (.if_icmp .eq 496, 3) := by decide +kernel
theorem dL_law_534 : decode cL_law 534 = .ok (.iconst 0, 1) := by decide +kernel
theorem dL_law_535 : decode cL_law 535 = .ok (.ireturn, 1) := by decide +kernel
theorem dL_law_536 : decode cL_law 536 = .ok (.aload_n 1, 1) := by decide +kernel
theorem dL_law_537 : decode cL_law 537 = .ok (.invokevirtual 74, 3) := by decide +kernel
theorem dL_law_540 : decode cL_law 540 = .ok (.aload_n 2, 1) := by decide +kernel
theorem dL_law_541 : decode cL_law 541 = .ok (.invokevirtual 77, 3) := by decide +kernel
theorem dL_law_544 : decode cL_law 544 = .ok (.if_icmp .eq 483, 3) := by decide +kernel
theorem dL_law_547 : decode cL_law 547 = .ok (.iconst 0, 1) := by decide +kernel
theorem dL_law_548 : decode cL_law 548 = .ok (.ireturn, 1) := by decide +kernel
theorem dL_law_549 : decode cL_law 549 = .ok (.aload_n 1, 1) := by decide +kernel
theorem dL_law_550 : decode cL_law 550 = .ok (.aload_n 0, 1) := by decide +kernel
theorem dL_law_551 : decode cL_law 551 = .ok (.iload_n 3, 1) := by decide +kernel
theorem dL_law_552 : decode cL_law 552 = .ok (.iconst 1, 1) := by decide +kernel
theorem dL_law_553 : decode cL_law 553 = .ok (.iadd, 1) := by decide +kernel
theorem dL_law_554 : decode cL_law 554 = .ok (.iaload, 1) := by decide +kernel
theorem dL_law_555 : decode cL_law 555 = .ok (.aload_n 0, 1) := by decide +kernel
theorem dL_law_556 : decode cL_law 556 = .ok (.iload_n 3, 1) := by decide +kernel
theorem dL_law_557 : decode cL_law 557 = .ok (.iconst 2, 1) := by decide +kernel
theorem dL_law_558 : decode cL_law 558 = .ok (.iadd, 1) := by decide +kernel
theorem dL_law_559 : decode cL_law 559 = .ok (.iaload, 1) := by decide +kernel
theorem dL_law_560 : decode cL_law 560 = .ok (.ifCond .eq 7, 3) := by decide +kernel
theorem dL_law_563 : decode cL_law 563 = .ok (.iconst 1, 1) := by decide +kernel
theorem dL_law_564 : decode cL_law 564 = .ok (.goto 4, 3) := by decide +kernel
theorem dL_law_567 : decode cL_law 567 = .ok (.iconst 0, 1) := by decide +kernel
theorem dL_law_568 : decode cL_law 568 = .ok (.invokevirtual 78, 3) := by decide +kernel
theorem dL_law_571 : decode cL_law 571 = .ok (.aload_n 2, 1) := by decide +kernel
theorem dL_law_572 : decode cL_law 572 = .ok (.aload_n 0, 1) := by decide +kernel
theorem dL_law_573 : decode cL_law 573 = .ok (.iload_n 3, 1) := by decide +kernel
theorem dL_law_574 : decode cL_law 574 = .ok (.iconst 1, 1) := by decide +kernel
theorem dL_law_575 : decode cL_law 575 = .ok (.iadd, 1) := by decide +kernel
theorem dL_law_576 : decode cL_law 576 = .ok (.iaload, 1) := by decide +kernel
theorem dL_law_577 : decode cL_law 577 = .ok (.aload_n 0, 1) := by decide +kernel
theorem dL_law_578 : decode cL_law 578 = .ok (.iload_n 3, 1) := by decide +kernel
theorem dL_law_579 : decode cL_law 579 = .ok (.iconst 2, 1) := by decide +kernel
theorem dL_law_580 : decode cL_law 580 = .ok (.iadd, 1) := by decide +kernel
theorem dL_law_581 : decode cL_law 581 = .ok (.iaload, 1) := by decide +kernel
theorem dL_law_582 : decode cL_law 582 = .ok (.ifCond .eq 7, 3) := by decide +kernel
theorem dL_law_585 : decode cL_law 585 = .ok (.iconst 1, 1) := by decide +kernel
theorem dL_law_586 : decode cL_law 586 = .ok (.goto 4, 3) := by decide +kernel
theorem dL_law_589 : decode cL_law 589 = .ok (.iconst 0, 1) := by decide +kernel
theorem dL_law_590 : decode cL_law 590 = .ok (.invokevirtual 81, 3) := by decide +kernel
theorem dL_law_593 : decode cL_law 593 = .ok (.if_icmp .eq 434, 3) := by decide +kernel
theorem dL_law_596 : decode cL_law 596 = .ok (.iconst 0, 1) := by decide +kernel
theorem dL_law_597 : decode cL_law 597 = .ok (.ireturn, 1) := by decide +kernel
theorem dL_law_598 : decode cL_law 598 = .ok (.aload_n 1, 1) := by decide +kernel
theorem dL_law_599 : decode cL_law 599 = .ok (.aload_n 0, 1) := by decide +kernel
theorem dL_law_600 : decode cL_law 600 = .ok (.iload_n 3, 1) := by decide +kernel
theorem dL_law_601 : decode cL_law 601 = .ok (.iconst 1, 1) := by decide +kernel
theorem dL_law_602 : decode cL_law 602 = .ok (.iadd, 1) := by decide +kernel
theorem dL_law_603 : decode cL_law 603 = .ok (.iaload, 1) := by decide +kernel
theorem dL_law_604 : decode cL_law 604 = .ok (.aload_n 0, 1) := by decide +kernel
theorem dL_law_605 : decode cL_law 605 = .ok (.iload_n 3, 1) := by decide +kernel
theorem dL_law_606 : decode cL_law 606 = .ok (.iconst 2, 1) := by decide +kernel
theorem dL_law_607 : decode cL_law 607 = .ok (.iadd, 1) := by decide +kernel
theorem dL_law_608 : decode cL_law 608 = .ok (.iaload, 1) := by decide +kernel
theorem dL_law_609 : decode cL_law 609 = .ok (.aload_n 0, 1) := by decide +kernel
theorem dL_law_610 : decode cL_law 610 = .ok (.iload_n 3, 1) := by decide +kernel
theorem dL_law_611 : decode cL_law 611 = .ok (.iconst 3, 1) := by decide +kernel
theorem dL_law_612 : decode cL_law 612 = .ok (.iadd, 1) := by decide +kernel
theorem dL_law_613 : decode cL_law 613 = .ok (.iaload, 1) := by decide +kernel
theorem dL_law_614 : decode cL_law 614 = .ok (.invokevirtual 82, 3) := by decide +kernel
theorem dL_law_617 : decode cL_law 617 = .ok (.aload_n 2, 1) := by decide +kernel
theorem dL_law_618 : decode cL_law 618 = .ok (.aload_n 0, 1) := by decide +kernel
theorem dL_law_619 : decode cL_law 619 = .ok (.iload_n 3, 1) := by decide +kernel
theorem dL_law_620 : decode cL_law 620 = .ok (.iconst 1, 1) := by decide +kernel
theorem dL_law_621 : decode cL_law 621 = .ok (.iadd, 1) := by decide +kernel
theorem dL_law_622 : decode cL_law 622 = .ok (.iaload, 1) := by decide +kernel
theorem dL_law_623 : decode cL_law 623 = .ok (.aload_n 0, 1) := by decide +kernel
theorem dL_law_624 : decode cL_law 624 = .ok (.iload_n 3, 1) := by decide +kernel
theorem dL_law_625 : decode cL_law 625 = .ok (.iconst 2, 1) := by decide +kernel
theorem dL_law_626 : decode cL_law 626 = .ok (.iadd, 1) := by decide +kernel
theorem dL_law_627 : decode cL_law 627 = .ok (.iaload, 1) := by decide +kernel
theorem dL_law_628 : decode cL_law 628 = .ok (.aload_n 0, 1) := by decide +kernel
theorem dL_law_629 : decode cL_law 629 = .ok (.iload_n 3, 1) := by decide +kernel
theorem dL_law_630 : decode cL_law 630 = .ok (.iconst 3, 1) := by decide +kernel
theorem dL_law_631 : decode cL_law 631 = .ok (.iadd, 1) := by decide +kernel
theorem dL_law_632 : decode cL_law 632 = .ok (.iaload, 1) := by decide +kernel
theorem dL_law_633 : decode cL_law 633 = .ok (.invokevirtual 85, 3) := by decide +kernel
theorem dL_law_636 : decode cL_law 636 = .ok (.if_icmp .eq 391, 3) := by decide +kernel
theorem dL_law_639 : decode cL_law 639 = .ok (.iconst 0, 1) := by decide +kernel
theorem dL_law_640 : decode cL_law 640 = .ok (.ireturn, 1) := by decide +kernel
theorem dL_law_641 : decode cL_law 641 = .ok (.aload_n 1, 1) := by decide +kernel
theorem dL_law_642 : decode cL_law 642 = .ok (.aload_n 0, 1) := by decide +kernel
theorem dL_law_643 : decode cL_law 643 = .ok (.iload_n 3, 1) := by decide +kernel
theorem dL_law_644 : decode cL_law 644 = .ok (.iconst 1, 1) := by decide +kernel
theorem dL_law_645 : decode cL_law 645 = .ok (.iadd, 1) := by decide +kernel
theorem dL_law_646 : decode cL_law 646 = .ok (.iaload, 1) := by decide +kernel
theorem dL_law_647 : decode cL_law 647 = .ok (.aload_n 0, 1) := by decide +kernel
theorem dL_law_648 : decode cL_law 648 = .ok (.iload_n 3, 1) := by decide +kernel
theorem dL_law_649 : decode cL_law 649 = .ok (.iconst 2, 1) := by decide +kernel
theorem dL_law_650 : decode cL_law 650 = .ok (.iadd, 1) := by decide +kernel
theorem dL_law_651 : decode cL_law 651 = .ok (.iaload, 1) := by decide +kernel
theorem dL_law_652 : decode cL_law 652 = .ok (.aload_n 0, 1) := by decide +kernel
theorem dL_law_653 : decode cL_law 653 = .ok (.iload_n 3, 1) := by decide +kernel
theorem dL_law_654 : decode cL_law 654 = .ok (.iconst 3, 1) := by decide +kernel
theorem dL_law_655 : decode cL_law 655 = .ok (.iadd, 1) := by decide +kernel
theorem dL_law_656 : decode cL_law 656 = .ok (.iaload, 1) := by decide +kernel
theorem dL_law_657 : decode cL_law 657 = .ok (.ifCond .eq 7, 3) := by decide +kernel
theorem dL_law_660 : decode cL_law 660 = .ok (.iconst 1, 1) := by decide +kernel
theorem dL_law_661 : decode cL_law 661 = .ok (.goto 4, 3) := by decide +kernel
theorem dL_law_664 : decode cL_law 664 = .ok (.iconst 0, 1) := by decide +kernel
theorem dL_law_665 : decode cL_law 665 = .ok (.invokevirtual 86, 3) := by decide +kernel
theorem dL_law_668 : decode cL_law 668 = .ok (.aload_n 2, 1) := by decide +kernel
theorem dL_law_669 : decode cL_law 669 = .ok (.aload_n 0, 1) := by decide +kernel
theorem dL_law_670 : decode cL_law 670 = .ok (.iload_n 3, 1) := by decide +kernel
theorem dL_law_671 : decode cL_law 671 = .ok (.iconst 1, 1) := by decide +kernel
theorem dL_law_672 : decode cL_law 672 = .ok (.iadd, 1) := by decide +kernel
theorem dL_law_673 : decode cL_law 673 = .ok (.iaload, 1) := by decide +kernel
theorem dL_law_674 : decode cL_law 674 = .ok (.aload_n 0, 1) := by decide +kernel
theorem dL_law_675 : decode cL_law 675 = .ok (.iload_n 3, 1) := by decide +kernel
theorem dL_law_676 : decode cL_law 676 = .ok (.iconst 2, 1) := by decide +kernel
theorem dL_law_677 : decode cL_law 677 = .ok (.iadd, 1) := by decide +kernel
theorem dL_law_678 : decode cL_law 678 = .ok (.iaload, 1) := by decide +kernel
theorem dL_law_679 : decode cL_law 679 = .ok (.aload_n 0, 1) := by decide +kernel
theorem dL_law_680 : decode cL_law 680 = .ok (.iload_n 3, 1) := by decide +kernel
theorem dL_law_681 : decode cL_law 681 = .ok (.iconst 3, 1) := by decide +kernel
theorem dL_law_682 : decode cL_law 682 = .ok (.iadd, 1) := by decide +kernel
theorem dL_law_683 : decode cL_law 683 = .ok (.iaload, 1) := by decide +kernel
theorem dL_law_684 : decode cL_law 684 = .ok (.ifCond .eq 7, 3) := by decide +kernel
theorem dL_law_687 : decode cL_law 687 = .ok (.iconst 1, 1) := by decide +kernel
theorem dL_law_688 : decode cL_law 688 = .ok (.goto 4, 3) := by decide +kernel
theorem dL_law_691 : decode cL_law 691 = .ok (.iconst 0, 1) := by decide +kernel
theorem dL_law_692 : decode cL_law 692 = .ok (.invokevirtual 90, 3) := by decide +kernel
theorem dL_law_695 : decode cL_law 695 = .ok (.if_icmp .eq 332, 3) := by decide +kernel
theorem dL_law_698 : decode cL_law 698 = .ok (.iconst 0, 1) := by decide +kernel
theorem dL_law_699 : decode cL_law 699 = .ok (.ireturn, 1) := by decide +kernel
theorem dL_law_700 : decode cL_law 700 = .ok (.aload_n 1, 1) := by decide +kernel
theorem dL_law_701 : decode cL_law 701 = .ok (.aload_n 0, 1) := by decide +kernel
theorem dL_law_702 : decode cL_law 702 = .ok (.iload_n 3, 1) := by decide +kernel
theorem dL_law_703 : decode cL_law 703 = .ok (.iconst 1, 1) := by decide +kernel
theorem dL_law_704 : decode cL_law 704 = .ok (.iadd, 1) := by decide +kernel
theorem dL_law_705 : decode cL_law 705 = .ok (.iaload, 1) := by decide +kernel
theorem dL_law_706 : decode cL_law 706 = .ok (.aload_n 0, 1) := by decide +kernel
theorem dL_law_707 : decode cL_law 707 = .ok (.iload_n 3, 1) := by decide +kernel
theorem dL_law_708 : decode cL_law 708 = .ok (.iconst 2, 1) := by decide +kernel
theorem dL_law_709 : decode cL_law 709 = .ok (.iadd, 1) := by decide +kernel
theorem dL_law_710 : decode cL_law 710 = .ok (.iaload, 1) := by decide +kernel
theorem dL_law_711 : decode cL_law 711 = .ok (.aload_n 0, 1) := by decide +kernel
theorem dL_law_712 : decode cL_law 712 = .ok (.iload_n 3, 1) := by decide +kernel
theorem dL_law_713 : decode cL_law 713 = .ok (.iconst 3, 1) := by decide +kernel
theorem dL_law_714 : decode cL_law 714 = .ok (.iadd, 1) := by decide +kernel
theorem dL_law_715 : decode cL_law 715 = .ok (.iaload, 1) := by decide +kernel
theorem dL_law_716 : decode cL_law 716 = .ok (.ifCond .eq 7, 3) := by decide +kernel
theorem dL_law_719 : decode cL_law 719 = .ok (.iconst 1, 1) := by decide +kernel
theorem dL_law_720 : decode cL_law 720 = .ok (.goto 4, 3) := by decide +kernel
theorem dL_law_723 : decode cL_law 723 = .ok (.iconst 0, 1) := by decide +kernel
theorem dL_law_724 : decode cL_law 724 = .ok (.invokevirtual 91, 3) := by decide +kernel
theorem dL_law_727 : decode cL_law 727 = .ok (.aload_n 2, 1) := by decide +kernel
theorem dL_law_728 : decode cL_law 728 = .ok (.aload_n 0, 1) := by decide +kernel
theorem dL_law_729 : decode cL_law 729 = .ok (.iload_n 3, 1) := by decide +kernel
theorem dL_law_730 : decode cL_law 730 = .ok (.iconst 1, 1) := by decide +kernel
theorem dL_law_731 : decode cL_law 731 = .ok (.iadd, 1) := by decide +kernel
theorem dL_law_732 : decode cL_law 732 = .ok (.iaload, 1) := by decide +kernel
theorem dL_law_733 : decode cL_law 733 = .ok (.aload_n 0, 1) := by decide +kernel
theorem dL_law_734 : decode cL_law 734 = .ok (.iload_n 3, 1) := by decide +kernel
theorem dL_law_735 : decode cL_law 735 = .ok (.iconst 2, 1) := by decide +kernel
theorem dL_law_736 : decode cL_law 736 = .ok (.iadd, 1) := by decide +kernel
theorem dL_law_737 : decode cL_law 737 = .ok (.iaload, 1) := by decide +kernel
theorem dL_law_738 : decode cL_law 738 = .ok (.aload_n 0, 1) := by decide +kernel
theorem dL_law_739 : decode cL_law 739 = .ok (.iload_n 3, 1) := by decide +kernel
theorem dL_law_740 : decode cL_law 740 = .ok (.iconst 3, 1) := by decide +kernel
theorem dL_law_741 : decode cL_law 741 = .ok (.iadd, 1) := by decide +kernel
theorem dL_law_742 : decode cL_law 742 = .ok (.iaload, 1) := by decide +kernel
theorem dL_law_743 : decode cL_law 743 = .ok (.ifCond .eq 7, 3) := by decide +kernel
theorem dL_law_746 : decode cL_law 746 = .ok (.iconst 1, 1) := by decide +kernel
theorem dL_law_747 : decode cL_law 747 = .ok (.goto 4, 3) := by decide +kernel
theorem dL_law_750 : decode cL_law 750 = .ok (.iconst 0, 1) := by decide +kernel
theorem dL_law_751 : decode cL_law 751 = .ok (.invokevirtual 94, 3) := by decide +kernel
theorem dL_law_754 : decode cL_law 754 = .ok (.if_icmp .eq 273, 3) := by decide +kernel
theorem dL_law_757 : decode cL_law 757 = .ok (.iconst 0, 1) := by decide +kernel
theorem dL_law_758 : decode cL_law 758 = .ok (.ireturn, 1) := by decide +kernel
theorem dL_law_759 : decode cL_law 759 = .ok (.aload_n 1, 1) := by decide +kernel
theorem dL_law_760 : decode cL_law 760 = .ok (.aload_n 0, 1) := by decide +kernel
theorem dL_law_761 : decode cL_law 761 = .ok (.iload_n 3, 1) := by decide +kernel
theorem dL_law_762 : decode cL_law 762 = .ok (.iconst 1, 1) := by decide +kernel
theorem dL_law_763 : decode cL_law 763 = .ok (.iadd, 1) := by decide +kernel
theorem dL_law_764 : decode cL_law 764 = .ok (.iaload, 1) := by decide +kernel
theorem dL_law_765 : decode cL_law 765 = .ok (.aload_n 0, 1) := by decide +kernel
theorem dL_law_766 : decode cL_law 766 = .ok (.iload_n 3, 1) := by decide +kernel
theorem dL_law_767 : decode cL_law 767 = .ok (.iconst 2, 1) := by decide +kernel
theorem dL_law_768 : decode cL_law 768 = .ok (.iadd, 1) := by decide +kernel
theorem dL_law_769 : decode cL_law 769 = .ok (.iaload, 1) := by decide +kernel
theorem dL_law_770 : decode cL_law 770 = .ok (.aload_n 0, 1) := by decide +kernel
theorem dL_law_771 : decode cL_law 771 = .ok (.iload_n 3, 1) := by decide +kernel
theorem dL_law_772 : decode cL_law 772 = .ok (.iconst 3, 1) := by decide +kernel
theorem dL_law_773 : decode cL_law 773 = .ok (.iadd, 1) := by decide +kernel
theorem dL_law_774 : decode cL_law 774 = .ok (.iaload, 1) := by decide +kernel
theorem dL_law_775 : decode cL_law 775 = .ok (.aload_n 0, 1) := by decide +kernel
theorem dL_law_776 : decode cL_law 776 = .ok (.iload_n 3, 1) := by decide +kernel
theorem dL_law_777 : decode cL_law 777 = .ok (.iconst 4, 1) := by decide +kernel
theorem dL_law_778 : decode cL_law 778 = .ok (.iadd, 1) := by decide +kernel
theorem dL_law_779 : decode cL_law 779 = .ok (.iaload, 1) := by decide +kernel
theorem dL_law_780 : decode cL_law 780 = .ok (.aload_n 0, 1) := by decide +kernel
theorem dL_law_781 : decode cL_law 781 = .ok (.iload_n 3, 1) := by decide +kernel
theorem dL_law_782 : decode cL_law 782 = .ok (.iconst 5, 1) := by decide +kernel
theorem dL_law_783 : decode cL_law 783 = .ok (.iadd, 1) := by decide +kernel
theorem dL_law_784 : decode cL_law 784 = .ok (.iaload, 1) := by decide +kernel
theorem dL_law_785 : decode cL_law 785 = .ok (.invokevirtual 95, 3) := by decide +kernel
theorem dL_law_788 : decode cL_law 788 = .ok (.aload_n 2, 1) := by decide +kernel
theorem dL_law_789 : decode cL_law 789 = .ok (.aload_n 0, 1) := by decide +kernel
theorem dL_law_790 : decode cL_law 790 = .ok (.iload_n 3, 1) := by decide +kernel
theorem dL_law_791 : decode cL_law 791 = .ok (.iconst 1, 1) := by decide +kernel
theorem dL_law_792 : decode cL_law 792 = .ok (.iadd, 1) := by decide +kernel
theorem dL_law_793 : decode cL_law 793 = .ok (.iaload, 1) := by decide +kernel
theorem dL_law_794 : decode cL_law 794 = .ok (.aload_n 0, 1) := by decide +kernel
theorem dL_law_795 : decode cL_law 795 = .ok (.iload_n 3, 1) := by decide +kernel
theorem dL_law_796 : decode cL_law 796 = .ok (.iconst 2, 1) := by decide +kernel
theorem dL_law_797 : decode cL_law 797 = .ok (.iadd, 1) := by decide +kernel
theorem dL_law_798 : decode cL_law 798 = .ok (.iaload, 1) := by decide +kernel
theorem dL_law_799 : decode cL_law 799 = .ok (.aload_n 0, 1) := by decide +kernel
theorem dL_law_800 : decode cL_law 800 = .ok (.iload_n 3, 1) := by decide +kernel
theorem dL_law_801 : decode cL_law 801 = .ok (.iconst 3, 1) := by decide +kernel
theorem dL_law_802 : decode cL_law 802 = .ok (.iadd, 1) := by decide +kernel
theorem dL_law_803 : decode cL_law 803 = .ok (.iaload, 1) := by decide +kernel
theorem dL_law_804 : decode cL_law 804 = .ok (.aload_n 0, 1) := by decide +kernel
theorem dL_law_805 : decode cL_law 805 = .ok (.iload_n 3, 1) := by decide +kernel
theorem dL_law_806 : decode cL_law 806 = .ok (.iconst 4, 1) := by decide +kernel
theorem dL_law_807 : decode cL_law 807 = .ok (.iadd, 1) := by decide +kernel
theorem dL_law_808 : decode cL_law 808 = .ok (.iaload, 1) := by decide +kernel
theorem dL_law_809 : decode cL_law 809 = .ok (.aload_n 0, 1) := by decide +kernel
theorem dL_law_810 : decode cL_law 810 = .ok (.iload_n 3, 1) := by decide +kernel
theorem dL_law_811 : decode cL_law 811 = .ok (.iconst 5, 1) := by decide +kernel
theorem dL_law_812 : decode cL_law 812 = .ok (.iadd, 1) := by decide +kernel
theorem dL_law_813 : decode cL_law 813 = .ok (.iaload, 1) := by decide +kernel
theorem dL_law_814 : decode cL_law 814 = .ok (.invokevirtual 99, 3) := by decide +kernel
theorem dL_law_817 : decode cL_law 817 = .ok (.if_icmp .eq 210, 3) := by decide +kernel
theorem dL_law_820 : decode cL_law 820 = .ok (.iconst 0, 1) := by decide +kernel
theorem dL_law_821 : decode cL_law 821 = .ok (.ireturn, 1) := by decide +kernel
theorem dL_law_822 : decode cL_law 822 = .ok (.aload_n 1, 1) := by decide +kernel
theorem dL_law_823 : decode cL_law 823 = .ok (.aload_n 0, 1) := by decide +kernel
theorem dL_law_824 : decode cL_law 824 = .ok (.iload_n 3, 1) := by decide +kernel
theorem dL_law_825 : decode cL_law 825 = .ok (.iconst 1, 1) := by decide +kernel
theorem dL_law_826 : decode cL_law 826 = .ok (.iadd, 1) := by decide +kernel
theorem dL_law_827 : decode cL_law 827 = .ok (.iaload, 1) := by decide +kernel
theorem dL_law_828 : decode cL_law 828 = .ok (.aload_n 0, 1) := by decide +kernel
theorem dL_law_829 : decode cL_law 829 = .ok (.iload_n 3, 1) := by decide +kernel
theorem dL_law_830 : decode cL_law 830 = .ok (.iconst 2, 1) := by decide +kernel
theorem dL_law_831 : decode cL_law 831 = .ok (.iadd, 1) := by decide +kernel
theorem dL_law_832 : decode cL_law 832 = .ok (.iaload, 1) := by decide +kernel
theorem dL_law_833 : decode cL_law 833 = .ok (.aload_n 0, 1) := by decide +kernel
theorem dL_law_834 : decode cL_law 834 = .ok (.iload_n 3, 1) := by decide +kernel
theorem dL_law_835 : decode cL_law 835 = .ok (.iconst 3, 1) := by decide +kernel
theorem dL_law_836 : decode cL_law 836 = .ok (.iadd, 1) := by decide +kernel
theorem dL_law_837 : decode cL_law 837 = .ok (.iaload, 1) := by decide +kernel
theorem dL_law_838 : decode cL_law 838 = .ok (.ifCond .eq 7, 3) := by decide +kernel
theorem dL_law_841 : decode cL_law 841 = .ok (.iconst 1, 1) := by decide +kernel
theorem dL_law_842 : decode cL_law 842 = .ok (.goto 4, 3) := by decide +kernel
theorem dL_law_845 : decode cL_law 845 = .ok (.iconst 0, 1) := by decide +kernel
theorem dL_law_846 : decode cL_law 846 = .ok (.invokevirtual 100, 3) := by decide +kernel
theorem dL_law_849 : decode cL_law 849 = .ok (.aload_n 2, 1) := by decide +kernel
theorem dL_law_850 : decode cL_law 850 = .ok (.aload_n 0, 1) := by decide +kernel
theorem dL_law_851 : decode cL_law 851 = .ok (.iload_n 3, 1) := by decide +kernel
theorem dL_law_852 : decode cL_law 852 = .ok (.iconst 1, 1) := by decide +kernel
theorem dL_law_853 : decode cL_law 853 = .ok (.iadd, 1) := by decide +kernel
theorem dL_law_854 : decode cL_law 854 = .ok (.iaload, 1) := by decide +kernel
theorem dL_law_855 : decode cL_law 855 = .ok (.aload_n 0, 1) := by decide +kernel
theorem dL_law_856 : decode cL_law 856 = .ok (.iload_n 3, 1) := by decide +kernel
theorem dL_law_857 : decode cL_law 857 = .ok (.iconst 2, 1) := by decide +kernel
theorem dL_law_858 : decode cL_law 858 = .ok (.iadd, 1) := by decide +kernel
theorem dL_law_859 : decode cL_law 859 = .ok (.iaload, 1) := by decide +kernel
theorem dL_law_860 : decode cL_law 860 = .ok (.aload_n 0, 1) := by decide +kernel
theorem dL_law_861 : decode cL_law 861 = .ok (.iload_n 3, 1) := by decide +kernel
theorem dL_law_862 : decode cL_law 862 = .ok (.iconst 3, 1) := by decide +kernel
theorem dL_law_863 : decode cL_law 863 = .ok (.iadd, 1) := by decide +kernel
theorem dL_law_864 : decode cL_law 864 = .ok (.iaload, 1) := by decide +kernel
theorem dL_law_865 : decode cL_law 865 = .ok (.ifCond .eq 7, 3) := by decide +kernel
theorem dL_law_868 : decode cL_law 868 = .ok (.iconst 1, 1) := by decide +kernel
theorem dL_law_869 : decode cL_law 869 = .ok (.goto 4, 3) := by decide +kernel
theorem dL_law_872 : decode cL_law 872 = .ok (.iconst 0, 1) := by decide +kernel
theorem dL_law_873 : decode cL_law 873 = .ok (.invokevirtual 103, 3) := by decide +kernel
theorem dL_law_876 : decode cL_law 876 = .ok (.if_icmp .eq 151, 3) := by decide +kernel
theorem dL_law_879 : decode cL_law 879 = .ok (.iconst 0, 1) := by decide +kernel
theorem dL_law_880 : decode cL_law 880 = .ok (.ireturn, 1) := by decide +kernel
theorem dL_law_881 : decode cL_law 881 = .ok (.aload_n 1, 1) := by decide +kernel
theorem dL_law_882 : decode cL_law 882 = .ok (.aload_n 0, 1) := by decide +kernel
theorem dL_law_883 : decode cL_law 883 = .ok (.iload_n 3, 1) := by decide +kernel
theorem dL_law_884 : decode cL_law 884 = .ok (.iconst 1, 1) := by decide +kernel
theorem dL_law_885 : decode cL_law 885 = .ok (.iadd, 1) := by decide +kernel
theorem dL_law_886 : decode cL_law 886 = .ok (.iaload, 1) := by decide +kernel
theorem dL_law_887 : decode cL_law 887 = .ok (.i2l, 1) := by decide +kernel
theorem dL_law_888 : decode cL_law 888 = .ok (.bipush 32, 2) := by decide +kernel
theorem dL_law_890 : decode cL_law 890 = .ok (.lshl, 1) := by decide +kernel
theorem dL_law_891 : decode cL_law 891 = .ok (.aload_n 0, 1) := by decide +kernel
theorem dL_law_892 : decode cL_law 892 = .ok (.iload_n 3, 1) := by decide +kernel
theorem dL_law_893 : decode cL_law 893 = .ok (.iconst 2, 1) := by decide +kernel
theorem dL_law_894 : decode cL_law 894 = .ok (.iadd, 1) := by decide +kernel
theorem dL_law_895 : decode cL_law 895 = .ok (.iaload, 1) := by decide +kernel
theorem dL_law_896 : decode cL_law 896 = .ok (.i2l, 1) := by decide +kernel
theorem dL_law_897 : decode cL_law 897 = .ok (.ldc2_w 104, 3) := by decide +kernel
theorem dL_law_900 : decode cL_law 900 = .ok (.land, 1) := by decide +kernel
theorem dL_law_901 : decode cL_law 901 = .ok (.lor, 1) := by decide +kernel
theorem dL_law_902 : decode cL_law 902 = .ok (.invokevirtual 106, 3) := by decide +kernel
theorem dL_law_905 : decode cL_law 905 = .ok (.aload_n 2, 1) := by decide +kernel
theorem dL_law_906 : decode cL_law 906 = .ok (.aload_n 0, 1) := by decide +kernel
theorem dL_law_907 : decode cL_law 907 = .ok (.iload_n 3, 1) := by decide +kernel
theorem dL_law_908 : decode cL_law 908 = .ok (.iconst 1, 1) := by decide +kernel
theorem dL_law_909 : decode cL_law 909 = .ok (.iadd, 1) := by decide +kernel
theorem dL_law_910 : decode cL_law 910 = .ok (.iaload, 1) := by decide +kernel
theorem dL_law_911 : decode cL_law 911 = .ok (.i2l, 1) := by decide +kernel
theorem dL_law_912 : decode cL_law 912 = .ok (.bipush 32, 2) := by decide +kernel
theorem dL_law_914 : decode cL_law 914 = .ok (.lshl, 1) := by decide +kernel
theorem dL_law_915 : decode cL_law 915 = .ok (.aload_n 0, 1) := by decide +kernel
theorem dL_law_916 : decode cL_law 916 = .ok (.iload_n 3, 1) := by decide +kernel
theorem dL_law_917 : decode cL_law 917 = .ok (.iconst 2, 1) := by decide +kernel
theorem dL_law_918 : decode cL_law 918 = .ok (.iadd, 1) := by decide +kernel
theorem dL_law_919 : decode cL_law 919 = .ok (.iaload, 1) := by decide +kernel
theorem dL_law_920 : decode cL_law 920 = .ok (.i2l, 1) := by decide +kernel
theorem dL_law_921 : decode cL_law 921 = .ok (.ldc2_w 104, 3) := by decide +kernel
theorem dL_law_924 : decode cL_law 924 = .ok (.land, 1) := by decide +kernel
theorem dL_law_925 : decode cL_law 925 = .ok (.lor, 1) := by decide +kernel
theorem dL_law_926 : decode cL_law 926 = .ok (.invokevirtual 110, 3) := by decide +kernel
theorem dL_law_929 : decode cL_law 929 = .ok (.lcmp, 1) := by decide +kernel
theorem dL_law_930 : decode cL_law 930 = .ok (.ifCond .eq 97, 3) := by decide +kernel
theorem dL_law_933 : decode cL_law 933 = .ok (.iconst 0, 1) := by decide +kernel
theorem dL_law_934 : decode cL_law 934 = .ok (.ireturn, 1) := by decide +kernel
theorem dL_law_935 : decode cL_law 935 = .ok (.aload_n 1, 1) := by decide +kernel
theorem dL_law_936 : decode cL_law 936 = .ok (.aload_n 0, 1) := by decide +kernel
theorem dL_law_937 : decode cL_law 937 = .ok (.iload_n 3, 1) := by decide +kernel
theorem dL_law_938 : decode cL_law 938 = .ok (.iconst 1, 1) := by decide +kernel
theorem dL_law_939 : decode cL_law 939 = .ok (.iadd, 1) := by decide +kernel
theorem dL_law_940 : decode cL_law 940 = .ok (.iaload, 1) := by decide +kernel
theorem dL_law_941 : decode cL_law 941 = .ok (.invokevirtual 111, 3) := by decide +kernel
theorem dL_law_944 : decode cL_law 944 = .ok (.aload_n 2, 1) := by decide +kernel
theorem dL_law_945 : decode cL_law 945 = .ok (.aload_n 0, 1) := by decide +kernel
theorem dL_law_946 : decode cL_law 946 = .ok (.iload_n 3, 1) := by decide +kernel
theorem dL_law_947 : decode cL_law 947 = .ok (.iconst 1, 1) := by decide +kernel
theorem dL_law_948 : decode cL_law 948 = .ok (.iadd, 1) := by decide +kernel
theorem dL_law_949 : decode cL_law 949 = .ok (.iaload, 1) := by decide +kernel
theorem dL_law_950 : decode cL_law 950 = .ok (.invokevirtual 114, 3) := by decide +kernel
theorem dL_law_953 : decode cL_law 953 = .ok (.if_icmp .eq 74, 3) := by decide +kernel
theorem dL_law_956 : decode cL_law 956 = .ok (.iconst 0, 1) := by decide +kernel
theorem dL_law_957 : decode cL_law 957 = .ok (.ireturn, 1) := by decide +kernel
theorem dL_law_958 : decode cL_law 958 = .ok (.aload_n 1, 1) := by decide +kernel
theorem dL_law_959 : decode cL_law 959 = .ok (.aload_n 0, 1) := by decide +kernel
theorem dL_law_960 : decode cL_law 960 = .ok (.iload_n 3, 1) := by decide +kernel
theorem dL_law_961 : decode cL_law 961 = .ok (.iconst 1, 1) := by decide +kernel
theorem dL_law_962 : decode cL_law 962 = .ok (.iadd, 1) := by decide +kernel
theorem dL_law_963 : decode cL_law 963 = .ok (.iaload, 1) := by decide +kernel
theorem dL_law_964 : decode cL_law 964 = .ok (.invokevirtual 115, 3) := by decide +kernel
theorem dL_law_967 : decode cL_law 967 = .ok (.aload_n 2, 1) := by decide +kernel
theorem dL_law_968 : decode cL_law 968 = .ok (.aload_n 0, 1) := by decide +kernel
theorem dL_law_969 : decode cL_law 969 = .ok (.iload_n 3, 1) := by decide +kernel
theorem dL_law_970 : decode cL_law 970 = .ok (.iconst 1, 1) := by decide +kernel
theorem dL_law_971 : decode cL_law 971 = .ok (.iadd, 1) := by decide +kernel
theorem dL_law_972 : decode cL_law 972 = .ok (.iaload, 1) := by decide +kernel
theorem dL_law_973 : decode cL_law 973 = .ok (.invokevirtual 118, 3) := by decide +kernel
theorem dL_law_976 : decode cL_law 976 = .ok (.if_icmp .eq 51, 3) := by decide +kernel
theorem dL_law_979 : decode cL_law 979 = .ok (.iconst 0, 1) := by decide +kernel
theorem dL_law_980 : decode cL_law 980 = .ok (.ireturn, 1) := by decide +kernel
theorem dL_law_981 : decode cL_law 981 = .ok (.aload_n 1, 1) := by decide +kernel
theorem dL_law_982 : decode cL_law 982 = .ok (.aload_n 0, 1) := by decide +kernel
theorem dL_law_983 : decode cL_law 983 = .ok (.iload_n 3, 1) := by decide +kernel
theorem dL_law_984 : decode cL_law 984 = .ok (.iconst 1, 1) := by decide +kernel
theorem dL_law_985 : decode cL_law 985 = .ok (.iadd, 1) := by decide +kernel
theorem dL_law_986 : decode cL_law 986 = .ok (.iaload, 1) := by decide +kernel
theorem dL_law_987 : decode cL_law 987 = .ok (.invokevirtual 119, 3) := by decide +kernel
theorem dL_law_990 : decode cL_law 990 = .ok (.aload_n 2, 1) := by decide +kernel
theorem dL_law_991 : decode cL_law 991 = .ok (.aload_n 0, 1) := by decide +kernel
theorem dL_law_992 : decode cL_law 992 = .ok (.iload_n 3, 1) := by decide +kernel
theorem dL_law_993 : decode cL_law 993 = .ok (.iconst 1, 1) := by decide +kernel
theorem dL_law_994 : decode cL_law 994 = .ok (.iadd, 1) := by decide +kernel
theorem dL_law_995 : decode cL_law 995 = .ok (.iaload, 1) := by decide +kernel
theorem dL_law_996 : decode cL_law 996 = .ok (.invokevirtual 122, 3) := by decide +kernel
theorem dL_law_999 : decode cL_law 999 = .ok (.if_icmp .eq 28, 3) := by decide +kernel
theorem dL_law_1002 : decode cL_law 1002 = .ok (.iconst 0, 1) := by decide +kernel
theorem dL_law_1003 : decode cL_law 1003 = .ok (.ireturn, 1) := by decide +kernel
theorem dL_law_1004 : decode cL_law 1004 = .ok (.aload_n 1, 1) := by decide +kernel
theorem dL_law_1005 : decode cL_law 1005 = .ok (.aload_n 0, 1) := by decide +kernel
theorem dL_law_1006 : decode cL_law 1006 = .ok (.iload_n 3, 1) := by decide +kernel
theorem dL_law_1007 : decode cL_law 1007 = .ok (.iconst 1, 1) := by decide +kernel
theorem dL_law_1008 : decode cL_law 1008 = .ok (.iadd, 1) := by decide +kernel
theorem dL_law_1009 : decode cL_law 1009 = .ok (.iaload, 1) := by decide +kernel
theorem dL_law_1010 : decode cL_law 1010 = .ok (.invokevirtual 123, 3) := by decide +kernel
theorem dL_law_1013 : decode cL_law 1013 = .ok (.aload_n 2, 1) := by decide +kernel
theorem dL_law_1014 : decode cL_law 1014 = .ok (.aload_n 0, 1) := by decide +kernel
theorem dL_law_1015 : decode cL_law 1015 = .ok (.iload_n 3, 1) := by decide +kernel
theorem dL_law_1016 : decode cL_law 1016 = .ok (.iconst 1, 1) := by decide +kernel
theorem dL_law_1017 : decode cL_law 1017 = .ok (.iadd, 1) := by decide +kernel
theorem dL_law_1018 : decode cL_law 1018 = .ok (.iaload, 1) := by decide +kernel
theorem dL_law_1019 : decode cL_law 1019 = .ok (.invokevirtual 126, 3) := by decide +kernel
theorem dL_law_1022 : decode cL_law 1022 = .ok (.if_icmp .eq 5, 3) := by decide +kernel
theorem dL_law_1025 : decode cL_law 1025 = .ok (.iconst 0, 1) := by decide +kernel
theorem dL_law_1026 : decode cL_law 1026 = .ok (.ireturn, 1) := by decide +kernel
theorem dL_law_1027 : decode cL_law 1027 = .ok (.iinc 3 6, 3) := by decide +kernel
theorem dL_law_1030 : decode cL_law 1030 = .ok (.goto (-1012), 3) := by decide +kernel
theorem dL_law_1033 : decode cL_law 1033 = .ok (.iconst 1, 1) := by decide +kernel
theorem dL_law_1034 : decode cL_law 1034 = .ok (.ireturn, 1) := by decide +kernel
abbrev vwCl : List vw_C := [(RX0, TX0, 4), (RX1, TX1, 2), (RX2, TX2, 4), (RX3, TX3, 18), (RX4, TX4, 24)]

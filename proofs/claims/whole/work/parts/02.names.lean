theorem goodIn_r {big : List Cond} (ws : List Cond) (ps : List Nat) (hp : ws = ps.filterMap (fun i => big[i]?)) (h : ws.all goodWord = true) : GoodIn big ws := by
  intro w hw
  have h1 := List.all_eq_true.mp h w hw
  rw [hp] at hw
  obtain ⟨i, -, hi⟩ := List.mem_filterMap.mp hw
  have hm : w ∈ big := by first | exact List.mem_of_getElem? hi | exact List.getElem?_mem hi
  exact ⟨hm, good_of_word h1⟩
theorem goodIn_app {big a b : List Cond} (ha : GoodIn big a) (hb : GoodIn big b) : GoodIn big (a ++ b) := fun w h => (List.mem_append.mp h).elim (ha w) (hb w)
theorem goodIn_ca {big a b : List Cond} {c : Cond} (ha : GoodIn big (c :: a)) (hb : GoodIn big b) : GoodIn big (c :: (a ++ b)) := fun w h => (List.mem_cons.mp h).elim (fun e => ha w (List.mem_cons.mpr (Or.inl e))) (fun h => (List.mem_append.mp h).elim (fun h => ha w (List.mem_cons.mpr (Or.inr h))) (hb w))
theorem goodIn_sub {big ws : List Cond} (hm : ∀ w ∈ ws, w ∈ big) (h : ws.all goodWord = true) : GoodIn big ws := fun w hw => ⟨hm w hw, good_of_word (List.all_eq_true.mp h w hw)⟩
def RX0 : String := "TallerWitness$ChainSearch"
def TX0 : u_T := fun k => match k with
  | 0 => ("TallerWitness$ChainSearch", "steps", "LTallerWitness$Steps;", true)
  | 1 => ("TallerWitness$ChainSearch", "price", "[I", true)
  | 2 => ("TallerWitness$ChainSearch", "size", "[I", true)
  | 3 => ("TallerWitness$ChainSearch", "next", "[I", true)
  | _ => ("TallerWitness$ChainSearch", "first", "I", false)
def tyX0 : Nat → FieldType := fun k => match k with
  | 0 => .object "TallerWitness$Steps"
  | 1 => .array .int
  | 2 => .array .int
  | 3 => .array .int
  | _ => .int
abbrev wsX00 : List Cond := u_ws RX0 TX0 5
theorem nmX0 : ∀ a, a < 5 → ∀ b, b < 5 → a ≠ b → (TX0 a).2.1 ≠ (TX0 b).2.1 := by decide +kernel
theorem tyX0_ok : ∀ k, k < 5 → parseFieldDescriptor (TX0 k).2.2.1 = some (tyX0 k) := by decide +kernel
abbrev cX0_init : ByteArray := prog_2_method_1_code
def yX0_init : MethodName := ⟨RX0, "<init>", "(LTallerWitness$Steps;)V"⟩
abbrev cX0_search : ByteArray := prog_2_method_2_code
def yX0_search : MethodName := ⟨RX0, "search", "(II)Z"⟩
abbrev cX0_chooseNext : ByteArray := prog_2_method_3_code
def yX0_chooseNext : MethodName := ⟨RX0, "chooseNext", "(II)V"⟩
abbrev cX0_leastPrice : ByteArray := prog_2_method_4_code
def yX0_leastPrice : MethodName := ⟨RX0, "leastPrice", "()I"⟩
abbrev cX0_length : ByteArray := prog_2_method_5_code
def yX0_length : MethodName := ⟨RX0, "length", "()I"⟩
abbrev cX0_personAt : ByteArray := prog_2_method_6_code
def yX0_personAt : MethodName := ⟨RX0, "personAt", "(I)I"⟩
def RX1 : String := "TallerWitness$Contest"
def TX1 : u_T := fun k => match k with
  | 0 => ("TallerWitness$Contest", "steps", "LTallerWitness$Steps;", true)
  | 1 => ("TallerWitness$Contest", "owners", "[I", true)
  | _ => ("TallerWitness$Contest", "bestTurn", "I", false)
def tyX1 : Nat → FieldType := fun k => match k with
  | 0 => .object "TallerWitness$Steps"
  | 1 => .array .int
  | _ => .int
abbrev wsX10 : List Cond := u_ws RX1 TX1 3
theorem nmX1 : ∀ a, a < 3 → ∀ b, b < 3 → a ≠ b → (TX1 a).2.1 ≠ (TX1 b).2.1 := by decide +kernel
theorem tyX1_ok : ∀ k, k < 3 → parseFieldDescriptor (TX1 k).2.2.1 = some (tyX1 k) := by decide +kernel
abbrev cX1_init : ByteArray := prog_3_method_1_code
def yX1_init : MethodName := ⟨RX1, "<init>", "(LTallerWitness$Steps;)V"⟩
abbrev cX1_outcomeFor : ByteArray := prog_3_method_2_code
def yX1_outcomeFor : MethodName := ⟨RX1, "outcomeFor", "(LTallerWitness$Valley;III)I"⟩
abbrev cX1_play : ByteArray := prog_3_method_3_code
def yX1_play : MethodName := ⟨RX1, "play", "(IIII)I"⟩
abbrev cX1_standing : ByteArray := prog_3_method_4_code
def yX1_standing : MethodName := ⟨RX1, "standing", "(II)I"⟩
def RX2 : String := "TallerWitness$Law"
def TX2 : u_T := fun k => match k with
  | 0 => ("TallerWitness$Law", "clauses", "I", false)
  | 1 => ("TallerWitness$Law", "size", "I", false)
  | 2 => ("TallerWitness$Law", "signs", "[I", true)
  | 3 => ("TallerWitness$Law", "values", "[I", true)
  | 4 => ("TallerWitness$Law", "letterOf", "[I", true)
  | 5 => ("TallerWitness$Law", "worthFrom", "[I", true)
  | 6 => ("TallerWitness$Law", "conditionFrom", "[I", true)
  | 7 => ("TallerWitness$Law", "conditionEnd", "[I", true)
  | _ => ("TallerWitness$Law", "stack", "[I", true)
def tyX2 : Nat → FieldType := fun k => match k with
  | 0 => .int
  | 1 => .int
  | 2 => .array .int
  | 3 => .array .int
  | 4 => .array .int
  | 5 => .array .int
  | 6 => .array .int
  | 7 => .array .int
  | _ => .array .int
abbrev wsX20 : List Cond := u_ws RX2 TX2 9
theorem nmX2 : ∀ a, a < 9 → ∀ b, b < 9 → a ≠ b → (TX2 a).2.1 ≠ (TX2 b).2.1 := by decide +kernel
theorem tyX2_ok : ∀ k, k < 9 → parseFieldDescriptor (TX2 k).2.2.1 = some (tyX2 k) := by decide +kernel
abbrev cX2_init : ByteArray := prog_4_method_1_code
def yX2_init : MethodName := ⟨RX2, "<init>", "()V"⟩
abbrev cX2_clear : ByteArray := prog_4_method_2_code
def yX2_clear : MethodName := ⟨RX2, "clear", "()V"⟩
abbrev cX2_copyFrom : ByteArray := prog_4_method_3_code
def yX2_copyFrom : MethodName := ⟨RX2, "copyFrom", "(LTallerWitness$Law;)V"⟩
abbrev cX2_addSign : ByteArray := prog_4_method_4_code
def yX2_addSign : MethodName := ⟨RX2, "addSign", "(II)I"⟩
abbrev cX2_leapToHere : ByteArray := prog_4_method_5_code
def yX2_leapToHere : MethodName := ⟨RX2, "leapToHere", "(I)V"⟩
abbrev cX2_beginClause : ByteArray := prog_4_method_6_code
def yX2_beginClause : MethodName := ⟨RX2, "beginClause", "(I)V"⟩
abbrev cX2_beginCondition : ByteArray := prog_4_method_7_code
def yX2_beginCondition : MethodName := ⟨RX2, "beginCondition", "()V"⟩
abbrev cX2_endClause : ByteArray := prog_4_method_8_code
def yX2_endClause : MethodName := ⟨RX2, "endClause", "()V"⟩
abbrev cX2_anyHolds : ByteArray := prog_4_method_9_code
def yX2_anyHolds : MethodName := ⟨RX2, "anyHolds", "(I[I)Z"⟩
abbrev cX2_firstWorth : ByteArray := prog_4_method_10_code
def yX2_firstWorth : MethodName := ⟨RX2, "firstWorth", "(II[I)I"⟩
abbrev cX2_worth : ByteArray := prog_4_method_11_code
def yX2_worth : MethodName := ⟨RX2, "worth", "(II[I)I"⟩
abbrev cX2_isRefused : ByteArray := prog_4_method_12_code
def yX2_isRefused : MethodName := ⟨RX2, "isRefused", "(II)Z"⟩
abbrev cX2_combined : ByteArray := prog_4_method_13_code
def yX2_combined : MethodName := ⟨RX2, "combined", "(III)I"⟩
def RX3 : String := "TallerWitness$LawReader"
def TX3 : u_T := fun k => match k with
  | 0 => ("TallerWitness$LawReader", "tape", "LTallerWitness$Tape;", true)
  | 1 => ("TallerWitness$LawReader", "draft", "LTallerWitness$Law;", true)
  | 2 => ("TallerWitness$LawReader", "end", "I", false)
  | 3 => ("TallerWitness$LawReader", "at", "I", false)
  | _ => ("TallerWitness$LawReader", "fault", "I", false)
def tyX3 : Nat → FieldType := fun k => match k with
  | 0 => .object "TallerWitness$Tape"
  | 1 => .object "TallerWitness$Law"
  | 2 => .int
  | 3 => .int
  | _ => .int
abbrev wsX30 : List Cond := u_ws RX3 TX3 5
theorem nmX3 : ∀ a, a < 5 → ∀ b, b < 5 → a ≠ b → (TX3 a).2.1 ≠ (TX3 b).2.1 := by decide +kernel
theorem tyX3_ok : ∀ k, k < 5 → parseFieldDescriptor (TX3 k).2.2.1 = some (tyX3 k) := by decide +kernel
abbrev cX3_init : ByteArray := prog_5_method_1_code
def yX3_init : MethodName := ⟨RX3, "<init>", "(LTallerWitness$Tape;LTallerWitness$Law;)V"⟩
abbrev cX3_readText : ByteArray := prog_5_method_2_code
def yX3_readText : MethodName := ⟨RX3, "readText", "(I)I"⟩
abbrev cX3_readClause : ByteArray := prog_5_method_3_code
def yX3_readClause : MethodName := ⟨RX3, "readClause", "()V"⟩
abbrev cX3_readChoice : ByteArray := prog_5_method_4_code
def yX3_readChoice : MethodName := ⟨RX3, "readChoice", "(I)V"⟩
abbrev cX3_readPart : ByteArray := prog_5_method_5_code
def yX3_readPart : MethodName := ⟨RX3, "readPart", "(I)V"⟩
abbrev cX3_readPiece : ByteArray := prog_5_method_6_code
def yX3_readPiece : MethodName := ⟨RX3, "readPiece", "(I)V"⟩
abbrev cX3_readComparison : ByteArray := prog_5_method_7_code
def yX3_readComparison : MethodName := ⟨RX3, "readComparison", "(I)V"⟩
abbrev cX3_readSum : ByteArray := prog_5_method_8_code
def yX3_readSum : MethodName := ⟨RX3, "readSum", "(I)V"⟩
abbrev cX3_readTerm : ByteArray := prog_5_method_9_code
def yX3_readTerm : MethodName := ⟨RX3, "readTerm", "(I)V"⟩
abbrev cX3_readFactor : ByteArray := prog_5_method_10_code
def yX3_readFactor : MethodName := ⟨RX3, "readFactor", "(I)V"⟩
abbrev cX3_readNumber : ByteArray := prog_5_method_11_code
def yX3_readNumber : MethodName := ⟨RX3, "readNumber", "()V"⟩
abbrev cX3_opens : ByteArray := prog_5_method_12_code
def yX3_opens : MethodName := ⟨RX3, "opens", "(I)V"⟩
abbrev cX3_pass : ByteArray := prog_5_method_13_code
def yX3_pass : MethodName := ⟨RX3, "pass", "(I)V"⟩
abbrev cX3_sign : ByteArray := prog_5_method_14_code
def yX3_sign : MethodName := ⟨RX3, "sign", "()I"⟩
abbrev cX3_isNext : ByteArray := prog_5_method_15_code
def yX3_isNext : MethodName := ⟨RX3, "isNext", "(Ljava/lang/String;)Z"⟩
abbrev cX3_fail : ByteArray := prog_5_method_16_code
def yX3_fail : MethodName := ⟨RX3, "fail", "(I)V"⟩
def RX4 : String := "TallerWitness$Letters"
def TX4 : u_T := fun k => match k with
  | _ => ("TallerWitness$Letters", "value", "[I", true)
def tyX4 : Nat → FieldType := fun k => match k with
  | _ => .array .int
abbrev wsX40 : List Cond := u_ws RX4 TX4 1
theorem nmX4 : ∀ a, a < 1 → ∀ b, b < 1 → a ≠ b → (TX4 a).2.1 ≠ (TX4 b).2.1 := by decide +kernel
theorem tyX4_ok : ∀ k, k < 1 → parseFieldDescriptor (TX4 k).2.2.1 = some (tyX4 k) := by decide +kernel
abbrev cX4_init : ByteArray := prog_6_method_1_code
def yX4_init : MethodName := ⟨RX4, "<init>", "()V"⟩
abbrev cX4_tellSwearer : ByteArray := prog_6_method_2_code
def yX4_tellSwearer : MethodName := ⟨RX4, "tellSwearer", "(LTallerWitness$Valley;I)V"⟩
abbrev cX4_tellSwornTo : ByteArray := prog_6_method_3_code
def yX4_tellSwornTo : MethodName := ⟨RX4, "tellSwornTo", "(LTallerWitness$Valley;I)V"⟩
abbrev cX4_tellTime : ByteArray := prog_6_method_4_code
def yX4_tellTime : MethodName := ⟨RX4, "tellTime", "(II)V"⟩
def RX5 : String := "TallerWitness$SafeSearch"
def TX5 : u_T := fun k => match k with
  | 0 => ("TallerWitness$SafeSearch", "steps", "LTallerWitness$Steps;", true)
  | 1 => ("TallerWitness$SafeSearch", "any", "Z", false)
  | 2 => ("TallerWitness$SafeSearch", "fewest", "I", false)
  | 3 => ("TallerWitness$SafeSearch", "leastPrice", "I", false)
  | _ => ("TallerWitness$SafeSearch", "leastSet", "I", false)
def tyX5 : Nat → FieldType := fun k => match k with
  | 0 => .object "TallerWitness$Steps"
  | 1 => .boolean
  | 2 => .int
  | 3 => .int
  | _ => .int
abbrev wsX50 : List Cond := u_ws RX5 TX5 5
theorem nmX5 : ∀ a, a < 5 → ∀ b, b < 5 → a ≠ b → (TX5 a).2.1 ≠ (TX5 b).2.1 := by decide +kernel
theorem tyX5_ok : ∀ k, k < 5 → parseFieldDescriptor (TX5 k).2.2.1 = some (tyX5 k) := by decide +kernel
abbrev cX5_init : ByteArray := prog_7_method_1_code
def yX5_init : MethodName := ⟨RX5, "<init>", "(LTallerWitness$Steps;)V"⟩
abbrev cX5_search : ByteArray := prog_7_method_2_code
def yX5_search : MethodName := ⟨RX5, "search", "(III)Z"⟩
abbrev cX5_whoCouldSwear : ByteArray := prog_7_method_3_code
def yX5_whoCouldSwear : MethodName := ⟨RX5, "whoCouldSwear", "(I)I"⟩
abbrev cX5_isBetter : ByteArray := prog_7_method_4_code
def yX5_isBetter : MethodName := ⟨RX5, "isBetter", "(II)Z"⟩
abbrev cX5_priceOfAll : ByteArray := prog_7_method_5_code
def yX5_priceOfAll : MethodName := ⟨RX5, "priceOfAll", "(II)I"⟩
def RX6 : String := "TallerWitness$Steps"
def TX6 : u_T := fun k => match k with
  | 0 => ("TallerWitness$Steps", "height", "[I", true)
  | 1 => ("TallerWitness$Steps", "upward", "[I", true)
  | 2 => ("TallerWitness$Steps", "below", "[I", true)
  | 3 => ("TallerWitness$Steps", "prices", "[I", true)
  | 4 => ("TallerWitness$Steps", "letters", "LTallerWitness$Letters;", true)
  | 5 => ("TallerWitness$Steps", "valley", "LTallerWitness$Valley;", false)
  | 6 => ("TallerWitness$Steps", "ruling", "LTallerWitness$Law;", false)
  | 7 => ("TallerWitness$Steps", "livingCount", "I", false)
  | _ => ("TallerWitness$Steps", "tallest", "I", false)
def tyX6 : Nat → FieldType := fun k => match k with
  | 0 => .array .int
  | 1 => .array .int
  | 2 => .array .int
  | 3 => .array .int
  | 4 => .object "TallerWitness$Letters"
  | 5 => .object "TallerWitness$Valley"
  | 6 => .object "TallerWitness$Law"
  | 7 => .int
  | _ => .int
abbrev wsX60 : List Cond := u_ws RX6 TX6 9
theorem nmX6 : ∀ a, a < 9 → ∀ b, b < 9 → a ≠ b → (TX6 a).2.1 ≠ (TX6 b).2.1 := by decide +kernel
theorem tyX6_ok : ∀ k, k < 9 → parseFieldDescriptor (TX6 k).2.2.1 = some (tyX6 k) := by decide +kernel
abbrev cX6_init : ByteArray := prog_8_method_1_code
def yX6_init : MethodName := ⟨RX6, "<init>", "(LTallerWitness$Valley;LTallerWitness$Law;)V"⟩
abbrev cX6_reckon : ByteArray := prog_8_method_2_code
def yX6_reckon : MethodName := ⟨RX6, "reckon", "(LTallerWitness$Valley;LTallerWitness$Law;)V"⟩
abbrev cX6_reckonPrices : ByteArray := prog_8_method_3_code
def yX6_reckonPrices : MethodName := ⟨RX6, "reckonPrices", "()V"⟩
abbrev cX6_leads : ByteArray := prog_8_method_4_code
def yX6_leads : MethodName := ⟨RX6, "leads", "(II)Z"⟩
abbrev cX6_priceByLaw : ByteArray := prog_8_method_5_code
def yX6_priceByLaw : MethodName := ⟨RX6, "priceByLaw", "(II)I"⟩
abbrev cX6_priceOf : ByteArray := prog_8_method_6_code
def yX6_priceOf : MethodName := ⟨RX6, "priceOf", "(II)I"⟩
abbrev cX6_leastAsked : ByteArray := prog_8_method_7_code
def yX6_leastAsked : MethodName := ⟨RX6, "leastAsked", "(II)I"⟩
abbrev cX6_reachFrom : ByteArray := prog_8_method_8_code
def yX6_reachFrom : MethodName := ⟨RX6, "reachFrom", "(II)I"⟩
abbrev cX6_comesToTop : ByteArray := prog_8_method_9_code
def yX6_comesToTop : MethodName := ⟨RX6, "comesToTop", "(II)Z"⟩
abbrev cX6_heldOaths : ByteArray := prog_8_method_10_code
def yX6_heldOaths : MethodName := ⟨RX6, "heldOaths", "(I)I"⟩
abbrev cX6_outlasts : ByteArray := prog_8_method_11_code
def yX6_outlasts : MethodName := ⟨RX6, "outlasts", "(III)Z"⟩
abbrev cX6_orderUpward : ByteArray := prog_8_method_12_code
def yX6_orderUpward : MethodName := ⟨RX6, "orderUpward", "()V"⟩
abbrev cX6_isLet : ByteArray := prog_8_method_13_code
def yX6_isLet : MethodName := ⟨RX6, "isLet", "(II)Z"⟩
def RX7 : String := "TallerWitness$Tape"
def TX7 : u_T := fun k => match k with
  | 0 => ("TallerWitness$Tape", "bytes", "[I", true)
  | _ => ("TallerWitness$Tape", "size", "I", false)
def tyX7 : Nat → FieldType := fun k => match k with
  | 0 => .array .int
  | _ => .int
abbrev wsX70 : List Cond := u_ws RX7 TX7 2
theorem nmX7 : ∀ a, a < 2 → ∀ b, b < 2 → a ≠ b → (TX7 a).2.1 ≠ (TX7 b).2.1 := by decide +kernel
theorem tyX7_ok : ∀ k, k < 2 → parseFieldDescriptor (TX7 k).2.2.1 = some (tyX7 k) := by decide +kernel
abbrev cX7_init : ByteArray := prog_9_method_1_code
def yX7_init : MethodName := ⟨RX7, "<init>", "()V"⟩
abbrev cX7_addWord : ByteArray := prog_9_method_2_code
def yX7_addWord : MethodName := ⟨RX7, "addWord", "(I)V"⟩
abbrev cX7_wordAt : ByteArray := prog_9_method_3_code
def yX7_wordAt : MethodName := ⟨RX7, "wordAt", "(I)I"⟩
def RX8 : String := "TallerWitness$Valley"
def TX8 : u_T := fun k => match k with
  | 0 => ("TallerWitness$Valley", "kindOf", "[I", true)
  | 1 => ("TallerWitness$Valley", "inch", "[I", true)
  | 2 => ("TallerWitness$Valley", "age", "[I", true)
  | 3 => ("TallerWitness$Valley", "heel", "[I", true)
  | 4 => ("TallerWitness$Valley", "ownPrice", "[I", true)
  | 5 => ("TallerWitness$Valley", "owner", "[I", true)
  | 6 => ("TallerWitness$Valley", "sworn", "[I", true)
  | 7 => ("TallerWitness$Valley", "people", "I", false)
  | 8 => ("TallerWitness$Valley", "living", "I", false)
  | 9 => ("TallerWitness$Valley", "oaths", "I", false)
  | 10 => ("TallerWitness$Valley", "thisYear", "I", false)
  | 11 => ("TallerWitness$Valley", "drawState", "I", false)
  | 12 => ("TallerWitness$Valley", "growth", "[I", true)
  | _ => ("TallerWitness$Valley", "letters", "LTallerWitness$Letters;", true)
def tyX8 : Nat → FieldType := fun k => match k with
  | 0 => .array .int
  | 1 => .array .int
  | 2 => .array .int
  | 3 => .array .int
  | 4 => .array .int
  | 5 => .array .int
  | 6 => .array .int
  | 7 => .int
  | 8 => .int
  | 9 => .int
  | 10 => .int
  | 11 => .int
  | 12 => .array .int
  | _ => .object "TallerWitness$Letters"
abbrev wsX80 : List Cond := u_ws RX8 TX8 14
theorem nmX8 : ∀ a, a < 14 → ∀ b, b < 14 → a ≠ b → (TX8 a).2.1 ≠ (TX8 b).2.1 := by decide +kernel
theorem tyX8_ok : ∀ k, k < 14 → parseFieldDescriptor (TX8 k).2.2.1 = some (tyX8 k) := by decide +kernel
abbrev cX8_init : ByteArray := prog_10_method_1_code
def yX8_init : MethodName := ⟨RX8, "<init>", "()V"⟩
abbrev cX8_copyFrom : ByteArray := prog_10_method_2_code
def yX8_copyFrom : MethodName := ⟨RX8, "copyFrom", "(LTallerWitness$Valley;)V"⟩
abbrev cX8_addPerson : ByteArray := prog_10_method_3_code
def yX8_addPerson : MethodName := ⟨RX8, "addPerson", "(IIII)I"⟩
abbrev cX8_addOath : ByteArray := prog_10_method_4_code
def yX8_addOath : MethodName := ⟨RX8, "addOath", "(I)I"⟩
abbrev cX8_isPerson : ByteArray := prog_10_method_5_code
def yX8_isPerson : MethodName := ⟨RX8, "isPerson", "(I)Z"⟩
abbrev cX8_isOath : ByteArray := prog_10_method_6_code
def yX8_isOath : MethodName := ⟨RX8, "isOath", "(I)Z"⟩
abbrev cX8_lives : ByteArray := prog_10_method_7_code
def yX8_lives : MethodName := ⟨RX8, "lives", "(I)Z"⟩
abbrev cX8_heightOf : ByteArray := prog_10_method_8_code
def yX8_heightOf : MethodName := ⟨RX8, "heightOf", "(I)I"⟩
abbrev cX8_tallestOne : ByteArray := prog_10_method_9_code
def yX8_tallestOne : MethodName := ⟨RX8, "tallestOne", "()I"⟩
abbrev cX8_nextDraw : ByteArray := prog_10_method_10_code
def yX8_nextDraw : MethodName := ⟨RX8, "nextDraw", "()I"⟩
abbrev cX8_passYear : ByteArray := prog_10_method_11_code
def yX8_passYear : MethodName := ⟨RX8, "passYear", "(LTallerWitness$Law;I)I"⟩
abbrev cX8_growOlder : ByteArray := prog_10_method_12_code
def yX8_growOlder : MethodName := ⟨RX8, "growOlder", "()V"⟩
abbrev cX8_growTaller : ByteArray := prog_10_method_13_code
def yX8_growTaller : MethodName := ⟨RX8, "growTaller", "(LTallerWitness$Law;)V"⟩
abbrev cX8_whoDies : ByteArray := prog_10_method_14_code
def yX8_whoDies : MethodName := ⟨RX8, "whoDies", "(LTallerWitness$Law;)I"⟩
def RX9 : String := "TallerWitness"
def TX9 : u_T := fun k => match k with
  | 0 => ("TallerWitness", "now", "LTallerWitness$Valley;", true)
  | 1 => ("TallerWitness", "kept", "LTallerWitness$Valley;", true)
  | 2 => ("TallerWitness", "trial", "LTallerWitness$Valley;", true)
  | 3 => ("TallerWitness", "tape", "LTallerWitness$Tape;", true)
  | 4 => ("TallerWitness", "laws", "[LTallerWitness$Law;", true)
  | 5 => ("TallerWitness", "draft", "LTallerWitness$Law;", true)
  | 6 => ("TallerWitness", "reader", "LTallerWitness$LawReader;", true)
  | 7 => ("TallerWitness", "steps", "LTallerWitness$Steps;", true)
  | 8 => ("TallerWitness", "chains", "LTallerWitness$ChainSearch;", true)
  | 9 => ("TallerWitness", "safety", "LTallerWitness$SafeSearch;", true)
  | 10 => ("TallerWitness", "contest", "LTallerWitness$Contest;", true)
  | 11 => ("TallerWitness", "groups", "[I", true)
  | 12 => ("TallerWitness", "groupCount", "I", false)
  | _ => ("TallerWitness", "anyKept", "Z", false)
def tyX9 : Nat → FieldType := fun k => match k with
  | 0 => .object "TallerWitness$Valley"
  | 1 => .object "TallerWitness$Valley"
  | 2 => .object "TallerWitness$Valley"
  | 3 => .object "TallerWitness$Tape"
  | 4 => .array (.object "TallerWitness$Law")
  | 5 => .object "TallerWitness$Law"
  | 6 => .object "TallerWitness$LawReader"
  | 7 => .object "TallerWitness$Steps"
  | 8 => .object "TallerWitness$ChainSearch"
  | 9 => .object "TallerWitness$SafeSearch"
  | 10 => .object "TallerWitness$Contest"
  | 11 => .array .int
  | 12 => .int
  | _ => .boolean
abbrev wsX90 : List Cond := u_ws RX9 TX9 14
theorem nmX9 : ∀ a, a < 14 → ∀ b, b < 14 → a ≠ b → (TX9 a).2.1 ≠ (TX9 b).2.1 := by decide +kernel
theorem tyX9_ok : ∀ k, k < 14 → parseFieldDescriptor (TX9 k).2.2.1 = some (tyX9 k) := by decide +kernel
abbrev cX9_init : ByteArray := prog_1_method_1_code
def yX9_init : MethodName := ⟨RX9, "<init>", "()V"⟩
abbrev cX9_person : ByteArray := prog_1_method_2_code
def yX9_person : MethodName := ⟨RX9, "person", "(IIII)I"⟩
abbrev cX9_heels : ByteArray := prog_1_method_3_code
def yX9_heels : MethodName := ⟨RX9, "heels", "(II)Z"⟩
abbrev cX9_dies : ByteArray := prog_1_method_4_code
def yX9_dies : MethodName := ⟨RX9, "dies", "(I)Z"⟩
abbrev cX9_feed : ByteArray := prog_1_method_5_code
def yX9_feed : MethodName := ⟨RX9, "feed", "(IIIII)I"⟩
abbrev cX9_law : ByteArray := prog_1_method_6_code
def yX9_law : MethodName := ⟨RX9, "law", "(II)I"⟩
abbrev cX9_tall : ByteArray := prog_1_method_7_code
def yX9_tall : MethodName := ⟨RX9, "tall", "(I)I"⟩
abbrev cX9_top : ByteArray := prog_1_method_8_code
def yX9_top : MethodName := ⟨RX9, "top", "()I"⟩
abbrev cX9_step : ByteArray := prog_1_method_9_code
def yX9_step : MethodName := ⟨RX9, "step", "(II)I"⟩
abbrev cX9_oath : ByteArray := prog_1_method_10_code
def yX9_oath : MethodName := ⟨RX9, "oath", "(II)I"⟩
abbrev cX9_swear : ByteArray := prog_1_method_11_code
def yX9_swear : MethodName := ⟨RX9, "swear", "(II)I"⟩
abbrev cX9_holds : ByteArray := prog_1_method_12_code
def yX9_holds : MethodName := ⟨RX9, "holds", "(I)I"⟩
abbrev cX9_year : ByteArray := prog_1_method_13_code
def yX9_year : MethodName := ⟨RX9, "year", "(I)I"⟩
abbrev cX9_years : ByteArray := prog_1_method_14_code
def yX9_years : MethodName := ⟨RX9, "years", "(I)I"⟩
abbrev cX9_tried : ByteArray := prog_1_method_15_code
def yX9_tried : MethodName := ⟨RX9, "tried", "(II)I"⟩
abbrev cX9_chain : ByteArray := prog_1_method_16_code
def yX9_chain : MethodName := ⟨RX9, "chain", "(II)I"⟩
abbrev cX9_safe : ByteArray := prog_1_method_17_code
def yX9_safe : MethodName := ⟨RX9, "safe", "(III)I"⟩
abbrev cX9_cut : ByteArray := prog_1_method_18_code
def yX9_cut : MethodName := ⟨RX9, "cut", "(I)I"⟩
abbrev cX9_soonest : ByteArray := prog_1_method_19_code
def yX9_soonest : MethodName := ⟨RX9, "soonest", "(I)I"⟩
abbrev cX9_against : ByteArray := prog_1_method_20_code
def yX9_against : MethodName := ⟨RX9, "against", "(IIII)I"⟩
abbrev cX9_whom : ByteArray := prog_1_method_21_code
def yX9_whom : MethodName := ⟨RX9, "whom", "(III)I"⟩
abbrev cX9_sure : ByteArray := prog_1_method_22_code
def yX9_sure : MethodName := ⟨RX9, "sure", "(I)I"⟩
abbrev cX9_found : ByteArray := prog_1_method_23_code
def yX9_found : MethodName := ⟨RX9, "found", "(I)I"⟩
abbrev cX9_least : ByteArray := prog_1_method_24_code
def yX9_least : MethodName := ⟨RX9, "least", "()I"⟩
abbrev cX9_sideBySide : ByteArray := prog_1_method_25_code
def yX9_sideBySide : MethodName := ⟨RX9, "sideBySide", "(I)I"⟩
abbrev cX9_seed : ByteArray := prog_1_method_26_code
def yX9_seed : MethodName := ⟨RX9, "seed", "(I)Z"⟩
abbrev cX9_keep : ByteArray := prog_1_method_27_code
def yX9_keep : MethodName := ⟨RX9, "keep", "()I"⟩
abbrev cX9_undo : ByteArray := prog_1_method_28_code
def yX9_undo : MethodName := ⟨RX9, "undo", "()Z"⟩
abbrev cX9_check : ByteArray := prog_1_method_29_code
def yX9_check : MethodName := ⟨RX9, "check", "(I)I"⟩
abbrev cX9_count : ByteArray := prog_1_method_30_code
def yX9_count : MethodName := ⟨RX9, "count", "(I)I"⟩
abbrev cX9_countWhole : ByteArray := prog_1_method_31_code
def yX9_countWhole : MethodName := ⟨RX9, "countWhole", "(I)I"⟩
abbrev cX9_runYears : ByteArray := prog_1_method_32_code
def yX9_runYears : MethodName := ⟨RX9, "runYears", "(LTallerWitness$Valley;I)I"⟩
abbrev cX9_heldBy : ByteArray := prog_1_method_33_code
def yX9_heldBy : MethodName := ⟨RX9, "heldBy", "(LTallerWitness$Valley;LTallerWitness$Law;)I"⟩
abbrev cX9_explainsAll : ByteArray := prog_1_method_34_code
def yX9_explainsAll : MethodName := ⟨RX9, "explainsAll", "(I)Z"⟩
abbrev cX9_within : ByteArray := prog_1_method_35_code
def yX9_within : MethodName := ⟨RX9, "within", "(III)Z"⟩
abbrev cX9_has : ByteArray := prog_1_method_36_code
def yX9_has : MethodName := ⟨RX9, "has", "(II)Z"⟩
abbrev cX9_nextSubset : ByteArray := prog_1_method_37_code
def yX9_nextSubset : MethodName := ⟨RX9, "nextSubset", "(II)I"⟩
def RX10 : String := "TallerWitnessModel"
def TX10 : u_T := fun k => match k with
  | 0 => ("TallerWitnessModel", "people", "I", false)
  | 1 => ("TallerWitnessModel", "live", "I", false)
  | 2 => ("TallerWitnessModel", "year0", "I", false)
  | 3 => ("TallerWitnessModel", "x0", "I", false)
  | 4 => ("TallerWitnessModel", "kindOf", "[I", true)
  | 5 => ("TallerWitnessModel", "inchesOf", "[I", true)
  | 6 => ("TallerWitnessModel", "yearsOf", "[I", true)
  | 7 => ("TallerWitnessModel", "heelsOf", "[I", true)
  | 8 => ("TallerWitnessModel", "priceOf", "[I", true)
  | 9 => ("TallerWitnessModel", "tape", "[B", true)
  | 10 => ("TallerWitnessModel", "taped", "I", false)
  | 11 => ("TallerWitnessModel", "place0", "I", false)
  | 12 => ("TallerWitnessModel", "length0", "I", false)
  | 13 => ("TallerWitnessModel", "fault", "I", false)
  | 14 => ("TallerWitnessModel", "open", "I", false)
  | 15 => ("TallerWitnessModel", "codeMany", "I", false)
  | 16 => ("TallerWitnessModel", "waiting", "I", false)
  | 17 => ("TallerWitnessModel", "saidMany", "I", false)
  | 18 => ("TallerWitnessModel", "number0", "I", false)
  | 19 => ("TallerWitnessModel", "said", "[I", true)
  | 20 => ("TallerWitnessModel", "waits", "[I", true)
  | 21 => ("TallerWitnessModel", "saidLetter", "[I", true)
  | 22 => ("TallerWitnessModel", "saidFrom", "[I", true)
  | 23 => ("TallerWitnessModel", "saidHalf", "[I", true)
  | 24 => ("TallerWitnessModel", "saidTo", "[I", true)
  | 25 => ("TallerWitnessModel", "codes", "[I", true)
  | 26 => ("TallerWitnessModel", "clauses", "[I", true)
  | 27 => ("TallerWitnessModel", "clauseOf", "[I", true)
  | 28 => ("TallerWitnessModel", "codeFrom", "[I", true)
  | 29 => ("TallerWitnessModel", "codeHalf", "[I", true)
  | 30 => ("TallerWitnessModel", "codeTo", "[I", true)
  | 31 => ("TallerWitnessModel", "stack", "[I", true)
  | 32 => ("TallerWitnessModel", "facts", "[I", true)
  | 33 => ("TallerWitnessModel", "asksOf", "[I", true)
  | 34 => ("TallerWitnessModel", "oaths", "I", false)
  | 35 => ("TallerWitnessModel", "oathOf", "[I", true)
  | 36 => ("TallerWitnessModel", "sideOf", "[I", true)
  | 37 => ("TallerWitnessModel", "swornTo", "[I", true)
  | 38 => ("TallerWitnessModel", "grows", "[I", true)
  | 39 => ("TallerWitnessModel", "asideLive", "I", false)
  | 40 => ("TallerWitnessModel", "asideYear", "I", false)
  | 41 => ("TallerWitnessModel", "asideX", "I", false)
  | 42 => ("TallerWitnessModel", "asideInches", "[I", true)
  | 43 => ("TallerWitnessModel", "asideYears", "[I", true)
  | 44 => ("TallerWitnessModel", "wayTop", "[I", true)
  | 45 => ("TallerWitnessModel", "choiceAt", "[I", true)
  | 46 => ("TallerWitnessModel", "valueAt", "[I", true)
  | 47 => ("TallerWitnessModel", "swornA", "[I", true)
  | 48 => ("TallerWitnessModel", "swornB", "[I", true)
  | 49 => ("TallerWitnessModel", "firstChoice", "I", false)
  | 50 => ("TallerWitnessModel", "groups", "I", false)
  | 51 => ("TallerWitnessModel", "groupOf", "[I", true)
  | 52 => ("TallerWitnessModel", "isKept", "Z", false)
  | 53 => ("TallerWitnessModel", "keptPeople", "I", false)
  | 54 => ("TallerWitnessModel", "keptLive", "I", false)
  | 55 => ("TallerWitnessModel", "keptYear", "I", false)
  | 56 => ("TallerWitnessModel", "keptX", "I", false)
  | 57 => ("TallerWitnessModel", "keptOaths", "I", false)
  | 58 => ("TallerWitnessModel", "keptKind", "[I", true)
  | 59 => ("TallerWitnessModel", "keptInches", "[I", true)
  | 60 => ("TallerWitnessModel", "keptYears", "[I", true)
  | 61 => ("TallerWitnessModel", "keptHeels", "[I", true)
  | 62 => ("TallerWitnessModel", "keptPrice", "[I", true)
  | 63 => ("TallerWitnessModel", "keptOath", "[I", true)
  | 64 => ("TallerWitnessModel", "keptSide", "[I", true)
  | _ => ("TallerWitnessModel", "keptSworn", "[I", true)
def tyX10 : Nat → FieldType := fun k => match k with
  | 0 => .int
  | 1 => .int
  | 2 => .int
  | 3 => .int
  | 4 => .array .int
  | 5 => .array .int
  | 6 => .array .int
  | 7 => .array .int
  | 8 => .array .int
  | 9 => .array .byte
  | 10 => .int
  | 11 => .int
  | 12 => .int
  | 13 => .int
  | 14 => .int
  | 15 => .int
  | 16 => .int
  | 17 => .int
  | 18 => .int
  | 19 => .array .int
  | 20 => .array .int
  | 21 => .array .int
  | 22 => .array .int
  | 23 => .array .int
  | 24 => .array .int
  | 25 => .array .int
  | 26 => .array .int
  | 27 => .array .int
  | 28 => .array .int
  | 29 => .array .int
  | 30 => .array .int
  | 31 => .array .int
  | 32 => .array .int
  | 33 => .array .int
  | 34 => .int
  | 35 => .array .int
  | 36 => .array .int
  | 37 => .array .int
  | 38 => .array .int
  | 39 => .int
  | 40 => .int
  | 41 => .int
  | 42 => .array .int
  | 43 => .array .int
  | 44 => .array .int
  | 45 => .array .int
  | 46 => .array .int
  | 47 => .array .int
  | 48 => .array .int
  | 49 => .int
  | 50 => .int
  | 51 => .array .int
  | 52 => .boolean
  | 53 => .int
  | 54 => .int
  | 55 => .int
  | 56 => .int
  | 57 => .int
  | 58 => .array .int
  | 59 => .array .int
  | 60 => .array .int
  | 61 => .array .int
  | 62 => .array .int
  | 63 => .array .int
  | 64 => .array .int
  | _ => .array .int
abbrev wsX100 : List Cond := u_ws RX10 TX10 66
theorem nmX10 : ∀ a, a < 66 → ∀ b, b < 66 → a ≠ b → (TX10 a).2.1 ≠ (TX10 b).2.1 := by decide +kernel
theorem tyX10_ok : ∀ k, k < 66 → parseFieldDescriptor (TX10 k).2.2.1 = some (tyX10 k) := by decide +kernel
abbrev cX10_init : ByteArray := prog_12_method_1_code
def yX10_init : MethodName := ⟨RX10, "<init>", "()V"⟩
abbrev cX10_in : ByteArray := prog_12_method_2_code
def yX10_in : MethodName := ⟨RX10, "in", "(III)Z"⟩
abbrev cX10_min : ByteArray := prog_12_method_3_code
def yX10_min : MethodName := ⟨RX10, "min", "(II)I"⟩
abbrev cX10_has : ByteArray := prog_12_method_4_code
def yX10_has : MethodName := ⟨RX10, "has", "(II)Z"⟩
abbrev cX10_bits : ByteArray := prog_12_method_5_code
def yX10_bits : MethodName := ⟨RX10, "bits", "(I)I"⟩
abbrev cX10_isPerson : ByteArray := prog_12_method_6_code
def yX10_isPerson : MethodName := ⟨RX10, "isPerson", "(I)Z"⟩
abbrev cX10_lives : ByteArray := prog_12_method_7_code
def yX10_lives : MethodName := ⟨RX10, "lives", "(I)Z"⟩
abbrev cX10_person : ByteArray := prog_12_method_8_code
def yX10_person : MethodName := ⟨RX10, "person", "(IIII)I"⟩
abbrev cX10_heels : ByteArray := prog_12_method_9_code
def yX10_heels : MethodName := ⟨RX10, "heels", "(II)Z"⟩
abbrev cX10_dies : ByteArray := prog_12_method_10_code
def yX10_dies : MethodName := ⟨RX10, "dies", "(I)Z"⟩
abbrev cX10_tallOf : ByteArray := prog_12_method_11_code
def yX10_tallOf : MethodName := ⟨RX10, "tallOf", "(I)I"⟩
abbrev cX10_tall : ByteArray := prog_12_method_12_code
def yX10_tall : MethodName := ⟨RX10, "tall", "(I)I"⟩
abbrev cX10_topOf : ByteArray := prog_12_method_13_code
def yX10_topOf : MethodName := ⟨RX10, "topOf", "()I"⟩
abbrev cX10_top : ByteArray := prog_12_method_14_code
def yX10_top : MethodName := ⟨RX10, "top", "()I"⟩
abbrev cX10_types : ByteArray := prog_12_method_15_code
def yX10_types : MethodName := ⟨RX10, "types", "(I)V"⟩
abbrev cX10_feed : ByteArray := prog_12_method_16_code
def yX10_feed : MethodName := ⟨RX10, "feed", "(IIIII)I"⟩
abbrev cX10_here : ByteArray := prog_12_method_17_code
def yX10_here : MethodName := ⟨RX10, "here", "()I"⟩
abbrev cX10_isDigit : ByteArray := prog_12_method_18_code
def yX10_isDigit : MethodName := ⟨RX10, "isDigit", "()Z"⟩
abbrev cX10_wrongAt : ByteArray := prog_12_method_19_code
def yX10_wrongAt : MethodName := ⟨RX10, "wrongAt", "(II)Z"⟩
abbrev cX10_takes : ByteArray := prog_12_method_20_code
def yX10_takes : MethodName := ⟨RX10, "takes", "(I)Z"⟩
abbrev cX10_readsNumber : ByteArray := prog_12_method_21_code
def yX10_readsNumber : MethodName := ⟨RX10, "readsNumber", "()Z"⟩
abbrev cX10_notes : ByteArray := prog_12_method_22_code
def yX10_notes : MethodName := ⟨RX10, "notes", "(II)V"⟩
abbrev cX10_opens : ByteArray := prog_12_method_23_code
def yX10_opens : MethodName := ⟨RX10, "opens", "(I)Z"⟩
abbrev cX10_waitTop : ByteArray := prog_12_method_24_code
def yX10_waitTop : MethodName := ⟨RX10, "waitTop", "()I"⟩
abbrev cX10_factOf : ByteArray := prog_12_method_25_code
def yX10_factOf : MethodName := ⟨RX10, "factOf", "(I)I"⟩
abbrev cX10_sumSign : ByteArray := prog_12_method_26_code
def yX10_sumSign : MethodName := ⟨RX10, "sumSign", "(I)I"⟩
abbrev cX10_closesSums : ByteArray := prog_12_method_27_code
def yX10_closesSums : MethodName := ⟨RX10, "closesSums", "(Z)V"⟩
abbrev cX10_readsFactor : ByteArray := prog_12_method_28_code
def yX10_readsFactor : MethodName := ⟨RX10, "readsFactor", "()Z"⟩
abbrev cX10_hasOpenSum : ByteArray := prog_12_method_29_code
def yX10_hasOpenSum : MethodName := ⟨RX10, "hasOpenSum", "(I)Z"⟩
abbrev cX10_readsSum : ByteArray := prog_12_method_30_code
def yX10_readsSum : MethodName := ⟨RX10, "readsSum", "()Z"⟩
abbrev cX10_endsPiece : ByteArray := prog_12_method_31_code
def yX10_endsPiece : MethodName := ⟨RX10, "endsPiece", "()V"⟩
abbrev cX10_lands : ByteArray := prog_12_method_32_code
def yX10_lands : MethodName := ⟨RX10, "lands", "(Z)V"⟩
abbrev cX10_jumps : ByteArray := prog_12_method_33_code
def yX10_jumps : MethodName := ⟨RX10, "jumps", "(I)V"⟩
abbrev cX10_readsCompared : ByteArray := prog_12_method_34_code
def yX10_readsCompared : MethodName := ⟨RX10, "readsCompared", "()Z"⟩
abbrev cX10_readsCondition : ByteArray := prog_12_method_35_code
def yX10_readsCondition : MethodName := ⟨RX10, "readsCondition", "()Z"⟩
abbrev cX10_readsClause : ByteArray := prog_12_method_36_code
def yX10_readsClause : MethodName := ⟨RX10, "readsClause", "()Z"⟩
abbrev cX10_law : ByteArray := prog_12_method_37_code
def yX10_law : MethodName := ⟨RX10, "law", "(II)I"⟩
abbrev cX10_reckon : ByteArray := prog_12_method_38_code
def yX10_reckon : MethodName := ⟨RX10, "reckon", "(III)I"⟩
abbrev cX10_comesTo : ByteArray := prog_12_method_39_code
def yX10_comesTo : MethodName := ⟨RX10, "comesTo", "(II)I"⟩
abbrev cX10_byLaw : ByteArray := prog_12_method_40_code
def yX10_byLaw : MethodName := ⟨RX10, "byLaw", "(III)I"⟩
abbrev cX10_anyBy : ByteArray := prog_12_method_41_code
def yX10_anyBy : MethodName := ⟨RX10, "anyBy", "(II)Z"⟩
abbrev cX10_feels : ByteArray := prog_12_method_42_code
def yX10_feels : MethodName := ⟨RX10, "feels", "(I)V"⟩
abbrev cX10_stepBy : ByteArray := prog_12_method_43_code
def yX10_stepBy : MethodName := ⟨RX10, "stepBy", "(III)I"⟩
abbrev cX10_laysSteps : ByteArray := prog_12_method_44_code
def yX10_laysSteps : MethodName := ⟨RX10, "laysSteps", "(I)V"⟩
abbrev cX10_isStep : ByteArray := prog_12_method_45_code
def yX10_isStep : MethodName := ⟨RX10, "isStep", "(II)Z"⟩
abbrev cX10_step : ByteArray := prog_12_method_46_code
def yX10_step : MethodName := ⟨RX10, "step", "(II)I"⟩
abbrev cX10_isOath : ByteArray := prog_12_method_47_code
def yX10_isOath : MethodName := ⟨RX10, "isOath", "(I)Z"⟩
abbrev cX10_oath : ByteArray := prog_12_method_48_code
def yX10_oath : MethodName := ⟨RX10, "oath", "(II)I"⟩
abbrev cX10_leastBy : ByteArray := prog_12_method_49_code
def yX10_leastBy : MethodName := ⟨RX10, "leastBy", "(II)I"⟩
abbrev cX10_swear : ByteArray := prog_12_method_50_code
def yX10_swear : MethodName := ⟨RX10, "swear", "(II)I"⟩
abbrev cX10_reach : ByteArray := prog_12_method_51_code
def yX10_reach : MethodName := ⟨RX10, "reach", "(II)I"⟩
abbrev cX10_holdsBy : ByteArray := prog_12_method_52_code
def yX10_holdsBy : MethodName := ⟨RX10, "holdsBy", "(II)Z"⟩
abbrev cX10_holdsNow : ByteArray := prog_12_method_53_code
def yX10_holdsNow : MethodName := ⟨RX10, "holdsNow", "(I)Z"⟩
abbrev cX10_holds : ByteArray := prog_12_method_54_code
def yX10_holds : MethodName := ⟨RX10, "holds", "(I)I"⟩
abbrev cX10_holding : ByteArray := prog_12_method_55_code
def yX10_holding : MethodName := ⟨RX10, "holding", "(I)I"⟩
abbrev cX10_passes : ByteArray := prog_12_method_56_code
def yX10_passes : MethodName := ⟨RX10, "passes", "(I)I"⟩
abbrev cX10_draws : ByteArray := prog_12_method_57_code
def yX10_draws : MethodName := ⟨RX10, "draws", "()I"⟩
abbrev cX10_runs : ByteArray := prog_12_method_58_code
def yX10_runs : MethodName := ⟨RX10, "runs", "(I)I"⟩
abbrev cX10_areYears : ByteArray := prog_12_method_59_code
def yX10_areYears : MethodName := ⟨RX10, "areYears", "(I)Z"⟩
abbrev cX10_year : ByteArray := prog_12_method_60_code
def yX10_year : MethodName := ⟨RX10, "year", "(I)I"⟩
abbrev cX10_years : ByteArray := prog_12_method_61_code
def yX10_years : MethodName := ⟨RX10, "years", "(I)I"⟩
abbrev cX10_copies : ByteArray := prog_12_method_62_code
def yX10_copies : MethodName := ⟨RX10, "copies", "([I[II)V"⟩
abbrev cX10_begins : ByteArray := prog_12_method_63_code
def yX10_begins : MethodName := ⟨RX10, "begins", "()V"⟩
abbrev cX10_again : ByteArray := prog_12_method_64_code
def yX10_again : MethodName := ⟨RX10, "again", "()V"⟩
abbrev cX10_tried : ByteArray := prog_12_method_65_code
def yX10_tried : MethodName := ⟨RX10, "tried", "(II)I"⟩
abbrev cX10_askedBy : ByteArray := prog_12_method_66_code
def yX10_askedBy : MethodName := ⟨RX10, "askedBy", "(III)I"⟩
abbrev cX10_wayBy : ByteArray := prog_12_method_67_code
def yX10_wayBy : MethodName := ⟨RX10, "wayBy", "(III)I"⟩
abbrev cX10_laysWays : ByteArray := prog_12_method_68_code
def yX10_laysWays : MethodName := ⟨RX10, "laysWays", "(I)V"⟩
abbrev cX10_chain : ByteArray := prog_12_method_69_code
def yX10_chain : MethodName := ⟨RX10, "chain", "(II)I"⟩
abbrev cX10_isSafe : ByteArray := prog_12_method_70_code
def yX10_isSafe : MethodName := ⟨RX10, "isSafe", "(III)Z"⟩
abbrev cX10_pricesOf : ByteArray := prog_12_method_71_code
def yX10_pricesOf : MethodName := ⟨RX10, "pricesOf", "(II)I"⟩
abbrev cX10_safe : ByteArray := prog_12_method_72_code
def yX10_safe : MethodName := ⟨RX10, "safe", "(III)I"⟩
abbrev cX10_cut : ByteArray := prog_12_method_73_code
def yX10_cut : MethodName := ⟨RX10, "cut", "(I)I"⟩
abbrev cX10_soonest : ByteArray := prog_12_method_74_code
def yX10_soonest : MethodName := ⟨RX10, "soonest", "(I)I"⟩
abbrev cX10_canChoose : ByteArray := prog_12_method_75_code
def yX10_canChoose : MethodName := ⟨RX10, "canChoose", "(II)Z"⟩
abbrev cX10_tells : ByteArray := prog_12_method_76_code
def yX10_tells : MethodName := ⟨RX10, "tells", "(II)V"⟩
abbrev cX10_endsAs : ByteArray := prog_12_method_77_code
def yX10_endsAs : MethodName := ⟨RX10, "endsAs", "(III)I"⟩
abbrev cX10_plays : ByteArray := prog_12_method_78_code
def yX10_plays : MethodName := ⟨RX10, "plays", "(III)V"⟩
abbrev cX10_against : ByteArray := prog_12_method_79_code
def yX10_against : MethodName := ⟨RX10, "against", "(IIII)I"⟩
abbrev cX10_joined : ByteArray := prog_12_method_80_code
def yX10_joined : MethodName := ⟨RX10, "joined", "(II)I"⟩
abbrev cX10_heldBy : ByteArray := prog_12_method_81_code
def yX10_heldBy : MethodName := ⟨RX10, "heldBy", "(I)I"⟩
abbrev cX10_whom : ByteArray := prog_12_method_82_code
def yX10_whom : MethodName := ⟨RX10, "whom", "(III)I"⟩
abbrev cX10_sure : ByteArray := prog_12_method_83_code
def yX10_sure : MethodName := ⟨RX10, "sure", "(I)I"⟩
abbrev cX10_found : ByteArray := prog_12_method_84_code
def yX10_found : MethodName := ⟨RX10, "found", "(I)I"⟩
abbrev cX10_explains : ByteArray := prog_12_method_85_code
def yX10_explains : MethodName := ⟨RX10, "explains", "(I)Z"⟩
abbrev cX10_least : ByteArray := prog_12_method_86_code
def yX10_least : MethodName := ⟨RX10, "least", "()I"⟩
abbrev cX10_sideBySide : ByteArray := prog_12_method_87_code
def yX10_sideBySide : MethodName := ⟨RX10, "sideBySide", "(I)I"⟩
abbrev cX10_seed : ByteArray := prog_12_method_88_code
def yX10_seed : MethodName := ⟨RX10, "seed", "(I)Z"⟩
abbrev cX10_keep : ByteArray := prog_12_method_89_code
def yX10_keep : MethodName := ⟨RX10, "keep", "()I"⟩
abbrev cX10_undo : ByteArray := prog_12_method_90_code
def yX10_undo : MethodName := ⟨RX10, "undo", "()Z"⟩
abbrev cX10_tapeNumber : ByteArray := prog_12_method_91_code
def yX10_tapeNumber : MethodName := ⟨RX10, "tapeNumber", "(I)I"⟩
abbrev cX10_check : ByteArray := prog_12_method_92_code
def yX10_check : MethodName := ⟨RX10, "check", "(I)I"⟩
abbrev cX10_count : ByteArray := prog_12_method_93_code
def yX10_count : MethodName := ⟨RX10, "count", "(I)I"⟩
def RJ11 : String := "java/lang/Character"
def TJ11 : u_T := fun k => match k with
  | _ => ("", "", "", false)
def tyJ11 : Nat → FieldType := fun k => match k with
  | _ => .int
abbrev wsJ110 : List Cond := u_ws RJ11 TJ11 0
theorem nmJ11 : ∀ a, a < 0 → ∀ b, b < 0 → a ≠ b → (TJ11 a).2.1 ≠ (TJ11 b).2.1 := by decide +kernel
theorem tyJ11_ok : ∀ k, k < 0 → parseFieldDescriptor (TJ11 k).2.2.1 = some (tyJ11 k) := by decide +kernel
abbrev cJ11_isValidCodePoint_9a6ad : ByteArray := prog_13_method_11_code
def yJ11_isValidCodePoint_9a6ad : MethodName := ⟨RJ11, "isValidCodePoint", "(I)Z"⟩
abbrev cJ11_highSurrogate_5068e : ByteArray := prog_13_method_28_code
def yJ11_highSurrogate_5068e : MethodName := ⟨RJ11, "highSurrogate", "(I)C"⟩
abbrev cJ11_lowSurrogate_5068e : ByteArray := prog_13_method_29_code
def yJ11_lowSurrogate_5068e : MethodName := ⟨RJ11, "lowSurrogate", "(I)C"⟩
def RJ6 : String := "java/lang/Integer"
def TJ6 : u_T := fun k => match k with
  | _ => ("", "", "", false)
def tyJ6 : Nat → FieldType := fun k => match k with
  | _ => .int
abbrev wsJ60 : List Cond := u_ws RJ6 TJ6 0
theorem nmJ6 : ∀ a, a < 0 → ∀ b, b < 0 → a ≠ b → (TJ6 a).2.1 ≠ (TJ6 b).2.1 := by decide +kernel
theorem tyJ6_ok : ∀ k, k < 0 → parseFieldDescriptor (TJ6 k).2.2.1 = some (tyJ6 k) := by decide +kernel
abbrev cJ6_bitCount_0f7a4 : ByteArray := prog_14_method_49_code
def yJ6_bitCount_0f7a4 : MethodName := ⟨RJ6, "bitCount", "(I)I"⟩
def RJ9 : String := "java/lang/Math"
def TJ9 : u_T := fun k => match k with
  | _ => ("", "", "", false)
def tyJ9 : Nat → FieldType := fun k => match k with
  | _ => .int
abbrev wsJ90 : List Cond := u_ws RJ9 TJ9 0
theorem nmJ9 : ∀ a, a < 0 → ∀ b, b < 0 → a ≠ b → (TJ9 a).2.1 ≠ (TJ9 b).2.1 := by decide +kernel
theorem tyJ9_ok : ∀ k, k < 0 → parseFieldDescriptor (TJ9 k).2.2.1 = some (tyJ9 k) := by decide +kernel
abbrev cJ9_max_7cf53 : ByteArray := prog_15_method_65_code
def yJ9_max_7cf53 : MethodName := ⟨RJ9, "max", "(II)I"⟩
abbrev cJ9_min_7cf53 : ByteArray := prog_15_method_69_code
def yJ9_min_7cf53 : MethodName := ⟨RJ9, "min", "(II)I"⟩
def RJ0 : String := "java/lang/String"
def TJ0 : u_T := fun k => match k with
  | _ => ("", "", "", false)
def tyJ0 : Nat → FieldType := fun k => match k with
  | _ => .int
abbrev wsJ00 : List Cond := u_ws RJ0 TJ0 0
theorem nmJ0 : ∀ a, a < 0 → ∀ b, b < 0 → a ≠ b → (TJ0 a).2.1 ≠ (TJ0 b).2.1 := by decide +kernel
theorem tyJ0_ok : ∀ k, k < 0 → parseFieldDescriptor (TJ0 k).2.2.1 = some (tyJ0 k) := by decide +kernel
abbrev cJ0_length_8abf5 : ByteArray := prog_16_method_54_code
def yJ0_length_8abf5 : MethodName := ⟨RJ0, "length", "()I"⟩
abbrev cJ0_indexOf_0f7a4 : ByteArray := prog_16_method_79_code
def yJ0_indexOf_0f7a4 : MethodName := ⟨RJ0, "indexOf", "(I)I"⟩
abbrev cJ0_indexOf_7cf53 : ByteArray := prog_16_method_80_code
def yJ0_indexOf_7cf53 : MethodName := ⟨RJ0, "indexOf", "(II)I"⟩
abbrev cJ0_coder_7d493 : ByteArray := prog_16_method_152_code
def yJ0_coder_7d493 : MethodName := ⟨RJ0, "coder", "()B"⟩
abbrev cJ0_isLatin1_aae02 : ByteArray := prog_16_method_154_code
def yJ0_isLatin1_aae02 : MethodName := ⟨RJ0, "isLatin1", "()Z"⟩
abbrev cJ0_checkBoundsBeginEnd_23922 : ByteArray := prog_16_method_158_code
def yJ0_checkBoundsBeginEnd_23922 : MethodName := ⟨RJ0, "checkBoundsBeginEnd", "(III)V"⟩
def RJ1 : String := "java/lang/StringLatin1"
def TJ1 : u_T := fun k => match k with
  | _ => ("", "", "", false)
def tyJ1 : Nat → FieldType := fun k => match k with
  | _ => .int
abbrev wsJ10 : List Cond := u_ws RJ1 TJ1 0
theorem nmJ1 : ∀ a, a < 0 → ∀ b, b < 0 → a ≠ b → (TJ1 a).2.1 ≠ (TJ1 b).2.1 := by decide +kernel
theorem tyJ1_ok : ∀ k, k < 0 → parseFieldDescriptor (TJ1 k).2.2.1 = some (tyJ1 k) := by decide +kernel
abbrev cJ1_canEncode_9a6ad : ByteArray := prog_17_method_4_code
def yJ1_canEncode_9a6ad : MethodName := ⟨RJ1, "canEncode", "(I)Z"⟩
abbrev cJ1_indexOf_4cfef : ByteArray := prog_17_method_22_code
def yJ1_indexOf_4cfef : MethodName := ⟨RJ1, "indexOf", "([BIII)I"⟩
abbrev cJ1_indexOfChar_4cfef : ByteArray := prog_17_method_23_code
def yJ1_indexOfChar_4cfef : MethodName := ⟨RJ1, "indexOfChar", "([BIII)I"⟩
def RJ2 : String := "java/lang/StringUTF16"
def TJ2 : u_T := fun k => match k with
  | _ => ("", "", "", false)
def tyJ2 : Nat → FieldType := fun k => match k with
  | _ => .int
abbrev wsJ20 : List Cond := u_ws RJ2 TJ2 0
theorem nmJ2 : ∀ a, a < 0 → ∀ b, b < 0 → a ≠ b → (TJ2 a).2.1 ≠ (TJ2 b).2.1 := by decide +kernel
theorem tyJ2_ok : ∀ k, k < 0 → parseFieldDescriptor (TJ2 k).2.2.1 = some (tyJ2 k) := by decide +kernel
abbrev cJ2_getChar_3b067 : ByteArray := prog_18_method_5_code
def yJ2_getChar_3b067 : MethodName := ⟨RJ2, "getChar", "([BI)C"⟩
abbrev cJ2_length_9d52b : ByteArray := prog_18_method_6_code
def yJ2_length_9d52b : MethodName := ⟨RJ2, "length", "([B)I"⟩
abbrev cJ2_indexOf_4cfef : ByteArray := prog_18_method_40_code
def yJ2_indexOf_4cfef : MethodName := ⟨RJ2, "indexOf", "([BIII)I"⟩
abbrev cJ2_indexOfChar_4cfef : ByteArray := prog_18_method_47_code
def yJ2_indexOfChar_4cfef : MethodName := ⟨RJ2, "indexOfChar", "([BIII)I"⟩
abbrev cJ2_indexOfCharUnsafe_4cfef : ByteArray := prog_18_method_48_code
def yJ2_indexOfCharUnsafe_4cfef : MethodName := ⟨RJ2, "indexOfCharUnsafe", "([BIII)I"⟩
abbrev cJ2_indexOfSupplementary_4cfef : ByteArray := prog_18_method_49_code
def yJ2_indexOfSupplementary_4cfef : MethodName := ⟨RJ2, "indexOfSupplementary", "([BIII)I"⟩
abbrev cJ2_checkBoundsBeginEnd_d044e : ByteArray := prog_18_method_93_code
def yJ2_checkBoundsBeginEnd_d044e : MethodName := ⟨RJ2, "checkBoundsBeginEnd", "(II[B)V"⟩
def RJ10 : String := "java/lang/System"
def TJ10 : u_T := fun k => match k with
  | _ => ("", "", "", false)
def tyJ10 : Nat → FieldType := fun k => match k with
  | _ => .int
abbrev wsJ100 : List Cond := u_ws RJ10 TJ10 0
theorem nmJ10 : ∀ a, a < 0 → ∀ b, b < 0 → a ≠ b → (TJ10 a).2.1 ≠ (TJ10 b).2.1 := by decide +kernel
theorem tyJ10_ok : ∀ k, k < 0 → parseFieldDescriptor (TJ10 k).2.2.1 = some (tyJ10 k) := by decide +kernel
def RJ3 : String := "jdk/internal/util/Preconditions"
def TJ3 : u_T := fun k => match k with
  | _ => ("", "", "", false)
def tyJ3 : Nat → FieldType := fun k => match k with
  | _ => .int
abbrev wsJ30 : List Cond := u_ws RJ3 TJ3 0
theorem nmJ3 : ∀ a, a < 0 → ∀ b, b < 0 → a ≠ b → (TJ3 a).2.1 ≠ (TJ3 b).2.1 := by decide +kernel
theorem tyJ3_ok : ∀ k, k < 0 → parseFieldDescriptor (TJ3 k).2.2.1 = some (tyJ3 k) := by decide +kernel
abbrev cJ3_checkFromToIndex_8c36e : ByteArray := prog_20_method_12_code
def yJ3_checkFromToIndex_8c36e : MethodName := ⟨RJ3, "checkFromToIndex", "(IIILjava/util/function/BiFunction;)I"⟩
def RL : String := "TallerWitnessLaw"
abbrev cL_law : ByteArray := code
def yL_law : MethodName := ⟨RL, "law", "([I)Z"⟩
abbrev vwCl : List vw_C := [(RX0, TX0, 5), (RX1, TX1, 3), (RX2, TX2, 9), (RX3, TX3, 5), (RX4, TX4, 1), (RX5, TX5, 5), (RX6, TX6, 9), (RX7, TX7, 2), (RX8, TX8, 14), (RX9, TX9, 14), (RX10, TX10, 66)]
abbrev iX0_init : MethodName × ByteArray × Nat × Option FieldType := (yX0_init, cX0_init, 2, none)
abbrev iX0_search : MethodName × ByteArray × Nat × Option FieldType := (yX0_search, cX0_search, 5, (some .boolean))
abbrev iX0_chooseNext : MethodName × ByteArray × Nat × Option FieldType := (yX0_chooseNext, cX0_chooseNext, 7, none)
abbrev iX0_leastPrice : MethodName × ByteArray × Nat × Option FieldType := (yX0_leastPrice, cX0_leastPrice, 1, (some .int))
abbrev iX0_length : MethodName × ByteArray × Nat × Option FieldType := (yX0_length, cX0_length, 1, (some .int))
abbrev iX0_personAt : MethodName × ByteArray × Nat × Option FieldType := (yX0_personAt, cX0_personAt, 4, (some .int))
abbrev iX1_init : MethodName × ByteArray × Nat × Option FieldType := (yX1_init, cX1_init, 2, none)
abbrev iX1_outcomeFor : MethodName × ByteArray × Nat × Option FieldType := (yX1_outcomeFor, cX1_outcomeFor, 5, (some .int))
abbrev iX1_play : MethodName × ByteArray × Nat × Option FieldType := (yX1_play, cX1_play, 9, (some .int))
abbrev iX1_standing : MethodName × ByteArray × Nat × Option FieldType := (yX1_standing, cX1_standing, 3, (some .int))
abbrev iX2_init : MethodName × ByteArray × Nat × Option FieldType := (yX2_init, cX2_init, 1, none)
abbrev iX2_clear : MethodName × ByteArray × Nat × Option FieldType := (yX2_clear, cX2_clear, 1, none)
abbrev iX2_copyFrom : MethodName × ByteArray × Nat × Option FieldType := (yX2_copyFrom, cX2_copyFrom, 2, none)
abbrev iX2_addSign : MethodName × ByteArray × Nat × Option FieldType := (yX2_addSign, cX2_addSign, 4, (some .int))
abbrev iX2_leapToHere : MethodName × ByteArray × Nat × Option FieldType := (yX2_leapToHere, cX2_leapToHere, 2, none)
abbrev iX2_beginClause : MethodName × ByteArray × Nat × Option FieldType := (yX2_beginClause, cX2_beginClause, 2, none)
abbrev iX2_beginCondition : MethodName × ByteArray × Nat × Option FieldType := (yX2_beginCondition, cX2_beginCondition, 1, none)
abbrev iX2_endClause : MethodName × ByteArray × Nat × Option FieldType := (yX2_endClause, cX2_endClause, 1, none)
abbrev iX2_anyHolds : MethodName × ByteArray × Nat × Option FieldType := (yX2_anyHolds, cX2_anyHolds, 4, (some .boolean))
abbrev iX2_firstWorth : MethodName × ByteArray × Nat × Option FieldType := (yX2_firstWorth, cX2_firstWorth, 6, (some .int))
abbrev iX2_worth : MethodName × ByteArray × Nat × Option FieldType := (yX2_worth, cX2_worth, 9, (some .int))
abbrev iX2_isRefused : MethodName × ByteArray × Nat × Option FieldType := (yX2_isRefused, cX2_isRefused, 2, (some .boolean))
abbrev iX2_combined : MethodName × ByteArray × Nat × Option FieldType := (yX2_combined, cX2_combined, 3, (some .int))
abbrev iX3_init : MethodName × ByteArray × Nat × Option FieldType := (yX3_init, cX3_init, 3, none)
abbrev iX3_readText : MethodName × ByteArray × Nat × Option FieldType := (yX3_readText, cX3_readText, 3, (some .int))
abbrev iX3_readClause : MethodName × ByteArray × Nat × Option FieldType := (yX3_readClause, cX3_readClause, 2, none)
abbrev iX3_readChoice : MethodName × ByteArray × Nat × Option FieldType := (yX3_readChoice, cX3_readChoice, 4, none)
abbrev iX3_readPart : MethodName × ByteArray × Nat × Option FieldType := (yX3_readPart, cX3_readPart, 4, none)
abbrev iX3_readPiece : MethodName × ByteArray × Nat × Option FieldType := (yX3_readPiece, cX3_readPiece, 2, none)
abbrev iX3_readComparison : MethodName × ByteArray × Nat × Option FieldType := (yX3_readComparison, cX3_readComparison, 3, none)
abbrev iX3_readSum : MethodName × ByteArray × Nat × Option FieldType := (yX3_readSum, cX3_readSum, 4, none)
abbrev iX3_readTerm : MethodName × ByteArray × Nat × Option FieldType := (yX3_readTerm, cX3_readTerm, 4, none)
abbrev iX3_readFactor : MethodName × ByteArray × Nat × Option FieldType := (yX3_readFactor, cX3_readFactor, 2, none)
abbrev iX3_readNumber : MethodName × ByteArray × Nat × Option FieldType := (yX3_readNumber, cX3_readNumber, 3, none)
abbrev iX3_opens : MethodName × ByteArray × Nat × Option FieldType := (yX3_opens, cX3_opens, 2, none)
abbrev iX3_pass : MethodName × ByteArray × Nat × Option FieldType := (yX3_pass, cX3_pass, 2, none)
abbrev iX3_sign : MethodName × ByteArray × Nat × Option FieldType := (yX3_sign, cX3_sign, 1, (some .int))
abbrev iX3_isNext : MethodName × ByteArray × Nat × Option FieldType := (yX3_isNext, cX3_isNext, 2, (some .boolean))
abbrev iX3_fail : MethodName × ByteArray × Nat × Option FieldType := (yX3_fail, cX3_fail, 2, none)
abbrev iX4_init : MethodName × ByteArray × Nat × Option FieldType := (yX4_init, cX4_init, 1, none)
abbrev iX4_tellSwearer : MethodName × ByteArray × Nat × Option FieldType := (yX4_tellSwearer, cX4_tellSwearer, 3, none)
abbrev iX4_tellSwornTo : MethodName × ByteArray × Nat × Option FieldType := (yX4_tellSwornTo, cX4_tellSwornTo, 3, none)
abbrev iX4_tellTime : MethodName × ByteArray × Nat × Option FieldType := (yX4_tellTime, cX4_tellTime, 3, none)
abbrev iX5_init : MethodName × ByteArray × Nat × Option FieldType := (yX5_init, cX5_init, 2, none)
abbrev iX5_search : MethodName × ByteArray × Nat × Option FieldType := (yX5_search, cX5_search, 8, (some .boolean))
abbrev iX5_whoCouldSwear : MethodName × ByteArray × Nat × Option FieldType := (yX5_whoCouldSwear, cX5_whoCouldSwear, 4, (some .int))
abbrev iX5_isBetter : MethodName × ByteArray × Nat × Option FieldType := (yX5_isBetter, cX5_isBetter, 3, (some .boolean))
abbrev iX5_priceOfAll : MethodName × ByteArray × Nat × Option FieldType := (yX5_priceOfAll, cX5_priceOfAll, 6, (some .int))
abbrev iX6_init : MethodName × ByteArray × Nat × Option FieldType := (yX6_init, cX6_init, 3, none)
abbrev iX6_reckon : MethodName × ByteArray × Nat × Option FieldType := (yX6_reckon, cX6_reckon, 5, none)
abbrev iX6_reckonPrices : MethodName × ByteArray × Nat × Option FieldType := (yX6_reckonPrices, cX6_reckonPrices, 3, none)
abbrev iX6_leads : MethodName × ByteArray × Nat × Option FieldType := (yX6_leads, cX6_leads, 3, (some .boolean))
abbrev iX6_priceByLaw : MethodName × ByteArray × Nat × Option FieldType := (yX6_priceByLaw, cX6_priceByLaw, 4, (some .int))
abbrev iX6_priceOf : MethodName × ByteArray × Nat × Option FieldType := (yX6_priceOf, cX6_priceOf, 3, (some .int))
abbrev iX6_leastAsked : MethodName × ByteArray × Nat × Option FieldType := (yX6_leastAsked, cX6_leastAsked, 6, (some .int))
abbrev iX6_reachFrom : MethodName × ByteArray × Nat × Option FieldType := (yX6_reachFrom, cX6_reachFrom, 6, (some .int))
abbrev iX6_comesToTop : MethodName × ByteArray × Nat × Option FieldType := (yX6_comesToTop, cX6_comesToTop, 3, (some .boolean))
abbrev iX6_heldOaths : MethodName × ByteArray × Nat × Option FieldType := (yX6_heldOaths, cX6_heldOaths, 4, (some .int))
abbrev iX6_outlasts : MethodName × ByteArray × Nat × Option FieldType := (yX6_outlasts, cX6_outlasts, 9, (some .boolean))
abbrev iX6_orderUpward : MethodName × ByteArray × Nat × Option FieldType := (yX6_orderUpward, cX6_orderUpward, 4, none)
abbrev iX6_isLet : MethodName × ByteArray × Nat × Option FieldType := (yX6_isLet, cX6_isLet, 3, (some .boolean))
abbrev iX7_init : MethodName × ByteArray × Nat × Option FieldType := (yX7_init, cX7_init, 1, none)
abbrev iX7_addWord : MethodName × ByteArray × Nat × Option FieldType := (yX7_addWord, cX7_addWord, 3, none)
abbrev iX7_wordAt : MethodName × ByteArray × Nat × Option FieldType := (yX7_wordAt, cX7_wordAt, 5, (some .int))
abbrev iX8_init : MethodName × ByteArray × Nat × Option FieldType := (yX8_init, cX8_init, 1, none)
abbrev iX8_copyFrom : MethodName × ByteArray × Nat × Option FieldType := (yX8_copyFrom, cX8_copyFrom, 2, none)
abbrev iX8_addPerson : MethodName × ByteArray × Nat × Option FieldType := (yX8_addPerson, cX8_addPerson, 6, (some .int))
abbrev iX8_addOath : MethodName × ByteArray × Nat × Option FieldType := (yX8_addOath, cX8_addOath, 3, (some .int))
abbrev iX8_isPerson : MethodName × ByteArray × Nat × Option FieldType := (yX8_isPerson, cX8_isPerson, 2, (some .boolean))
abbrev iX8_isOath : MethodName × ByteArray × Nat × Option FieldType := (yX8_isOath, cX8_isOath, 2, (some .boolean))
abbrev iX8_lives : MethodName × ByteArray × Nat × Option FieldType := (yX8_lives, cX8_lives, 2, (some .boolean))
abbrev iX8_heightOf : MethodName × ByteArray × Nat × Option FieldType := (yX8_heightOf, cX8_heightOf, 4, (some .int))
abbrev iX8_tallestOne : MethodName × ByteArray × Nat × Option FieldType := (yX8_tallestOne, cX8_tallestOne, 4, (some .int))
abbrev iX8_nextDraw : MethodName × ByteArray × Nat × Option FieldType := (yX8_nextDraw, cX8_nextDraw, 1, (some .int))
abbrev iX8_passYear : MethodName × ByteArray × Nat × Option FieldType := (yX8_passYear, cX8_passYear, 4, (some .int))
abbrev iX8_growOlder : MethodName × ByteArray × Nat × Option FieldType := (yX8_growOlder, cX8_growOlder, 2, none)
abbrev iX8_growTaller : MethodName × ByteArray × Nat × Option FieldType := (yX8_growTaller, cX8_growTaller, 4, none)
abbrev iX8_whoDies : MethodName × ByteArray × Nat × Option FieldType := (yX8_whoDies, cX8_whoDies, 4, (some .int))
abbrev iX9_init : MethodName × ByteArray × Nat × Option FieldType := (yX9_init, cX9_init, 2, none)
abbrev iX9_person : MethodName × ByteArray × Nat × Option FieldType := (yX9_person, cX9_person, 6, (some .int))
abbrev iX9_heels : MethodName × ByteArray × Nat × Option FieldType := (yX9_heels, cX9_heels, 3, (some .boolean))
abbrev iX9_dies : MethodName × ByteArray × Nat × Option FieldType := (yX9_dies, cX9_dies, 2, (some .boolean))
abbrev iX9_feed : MethodName × ByteArray × Nat × Option FieldType := (yX9_feed, cX9_feed, 6, (some .int))
abbrev iX9_law : MethodName × ByteArray × Nat × Option FieldType := (yX9_law, cX9_law, 4, (some .int))
abbrev iX9_tall : MethodName × ByteArray × Nat × Option FieldType := (yX9_tall, cX9_tall, 2, (some .int))
abbrev iX9_top : MethodName × ByteArray × Nat × Option FieldType := (yX9_top, cX9_top, 1, (some .int))
abbrev iX9_step : MethodName × ByteArray × Nat × Option FieldType := (yX9_step, cX9_step, 3, (some .int))
abbrev iX9_oath : MethodName × ByteArray × Nat × Option FieldType := (yX9_oath, cX9_oath, 3, (some .int))
abbrev iX9_swear : MethodName × ByteArray × Nat × Option FieldType := (yX9_swear, cX9_swear, 4, (some .int))
abbrev iX9_holds : MethodName × ByteArray × Nat × Option FieldType := (yX9_holds, cX9_holds, 2, (some .int))
abbrev iX9_year : MethodName × ByteArray × Nat × Option FieldType := (yX9_year, cX9_year, 2, (some .int))
abbrev iX9_years : MethodName × ByteArray × Nat × Option FieldType := (yX9_years, cX9_years, 2, (some .int))
abbrev iX9_tried : MethodName × ByteArray × Nat × Option FieldType := (yX9_tried, cX9_tried, 4, (some .int))
abbrev iX9_chain : MethodName × ByteArray × Nat × Option FieldType := (yX9_chain, cX9_chain, 3, (some .int))
abbrev iX9_safe : MethodName × ByteArray × Nat × Option FieldType := (yX9_safe, cX9_safe, 4, (some .int))
abbrev iX9_cut : MethodName × ByteArray × Nat × Option FieldType := (yX9_cut, cX9_cut, 2, (some .int))
abbrev iX9_soonest : MethodName × ByteArray × Nat × Option FieldType := (yX9_soonest, cX9_soonest, 3, (some .int))
abbrev iX9_against : MethodName × ByteArray × Nat × Option FieldType := (yX9_against, cX9_against, 7, (some .int))
abbrev iX9_whom : MethodName × ByteArray × Nat × Option FieldType := (yX9_whom, cX9_whom, 11, (some .int))
abbrev iX9_sure : MethodName × ByteArray × Nat × Option FieldType := (yX9_sure, cX9_sure, 2, (some .int))
abbrev iX9_found : MethodName × ByteArray × Nat × Option FieldType := (yX9_found, cX9_found, 3, (some .int))
abbrev iX9_least : MethodName × ByteArray × Nat × Option FieldType := (yX9_least, cX9_least, 5, (some .int))
abbrev iX9_sideBySide : MethodName × ByteArray × Nat × Option FieldType := (yX9_sideBySide, cX9_sideBySide, 4, (some .int))
abbrev iX9_seed : MethodName × ByteArray × Nat × Option FieldType := (yX9_seed, cX9_seed, 2, (some .boolean))
abbrev iX9_keep : MethodName × ByteArray × Nat × Option FieldType := (yX9_keep, cX9_keep, 1, (some .int))
abbrev iX9_undo : MethodName × ByteArray × Nat × Option FieldType := (yX9_undo, cX9_undo, 1, (some .boolean))
abbrev iX9_check : MethodName × ByteArray × Nat × Option FieldType := (yX9_check, cX9_check, 3, (some .int))
abbrev iX9_count : MethodName × ByteArray × Nat × Option FieldType := (yX9_count, cX9_count, 2, (some .int))
abbrev iX9_countWhole : MethodName × ByteArray × Nat × Option FieldType := (yX9_countWhole, cX9_countWhole, 2, (some .int))
abbrev iX9_runYears : MethodName × ByteArray × Nat × Option FieldType := (yX9_runYears, cX9_runYears, 5, (some .int))
abbrev iX9_heldBy : MethodName × ByteArray × Nat × Option FieldType := (yX9_heldBy, cX9_heldBy, 3, (some .int))
abbrev iX9_explainsAll : MethodName × ByteArray × Nat × Option FieldType := (yX9_explainsAll, cX9_explainsAll, 3, (some .boolean))
abbrev iX9_within : MethodName × ByteArray × Nat × Option FieldType := (yX9_within, cX9_within, 3, (some .boolean))
abbrev iX9_has : MethodName × ByteArray × Nat × Option FieldType := (yX9_has, cX9_has, 2, (some .boolean))
abbrev iX9_nextSubset : MethodName × ByteArray × Nat × Option FieldType := (yX9_nextSubset, cX9_nextSubset, 2, (some .int))
abbrev iX10_init : MethodName × ByteArray × Nat × Option FieldType := (yX10_init, cX10_init, 1, none)
abbrev iX10_in : MethodName × ByteArray × Nat × Option FieldType := (yX10_in, cX10_in, 3, (some .boolean))
abbrev iX10_min : MethodName × ByteArray × Nat × Option FieldType := (yX10_min, cX10_min, 2, (some .int))
abbrev iX10_has : MethodName × ByteArray × Nat × Option FieldType := (yX10_has, cX10_has, 2, (some .boolean))
abbrev iX10_bits : MethodName × ByteArray × Nat × Option FieldType := (yX10_bits, cX10_bits, 3, (some .int))
abbrev iX10_isPerson : MethodName × ByteArray × Nat × Option FieldType := (yX10_isPerson, cX10_isPerson, 2, (some .boolean))
abbrev iX10_lives : MethodName × ByteArray × Nat × Option FieldType := (yX10_lives, cX10_lives, 2, (some .boolean))
abbrev iX10_person : MethodName × ByteArray × Nat × Option FieldType := (yX10_person, cX10_person, 5, (some .int))
abbrev iX10_heels : MethodName × ByteArray × Nat × Option FieldType := (yX10_heels, cX10_heels, 3, (some .boolean))
abbrev iX10_dies : MethodName × ByteArray × Nat × Option FieldType := (yX10_dies, cX10_dies, 2, (some .boolean))
abbrev iX10_tallOf : MethodName × ByteArray × Nat × Option FieldType := (yX10_tallOf, cX10_tallOf, 3, (some .int))
abbrev iX10_tall : MethodName × ByteArray × Nat × Option FieldType := (yX10_tall, cX10_tall, 2, (some .int))
abbrev iX10_topOf : MethodName × ByteArray × Nat × Option FieldType := (yX10_topOf, cX10_topOf, 3, (some .int))
abbrev iX10_top : MethodName × ByteArray × Nat × Option FieldType := (yX10_top, cX10_top, 1, (some .int))
abbrev iX10_types : MethodName × ByteArray × Nat × Option FieldType := (yX10_types, cX10_types, 3, none)
abbrev iX10_feed : MethodName × ByteArray × Nat × Option FieldType := (yX10_feed, cX10_feed, 6, (some .int))
abbrev iX10_here : MethodName × ByteArray × Nat × Option FieldType := (yX10_here, cX10_here, 1, (some .int))
abbrev iX10_isDigit : MethodName × ByteArray × Nat × Option FieldType := (yX10_isDigit, cX10_isDigit, 1, (some .boolean))
abbrev iX10_wrongAt : MethodName × ByteArray × Nat × Option FieldType := (yX10_wrongAt, cX10_wrongAt, 3, (some .boolean))
abbrev iX10_takes : MethodName × ByteArray × Nat × Option FieldType := (yX10_takes, cX10_takes, 2, (some .boolean))
abbrev iX10_readsNumber : MethodName × ByteArray × Nat × Option FieldType := (yX10_readsNumber, cX10_readsNumber, 2, (some .boolean))
abbrev iX10_notes : MethodName × ByteArray × Nat × Option FieldType := (yX10_notes, cX10_notes, 3, none)
abbrev iX10_opens : MethodName × ByteArray × Nat × Option FieldType := (yX10_opens, cX10_opens, 2, (some .boolean))
abbrev iX10_waitTop : MethodName × ByteArray × Nat × Option FieldType := (yX10_waitTop, cX10_waitTop, 1, (some .int))
abbrev iX10_factOf : MethodName × ByteArray × Nat × Option FieldType := (yX10_factOf, cX10_factOf, 1, (some .int))
abbrev iX10_sumSign : MethodName × ByteArray × Nat × Option FieldType := (yX10_sumSign, cX10_sumSign, 1, (some .int))
abbrev iX10_closesSums : MethodName × ByteArray × Nat × Option FieldType := (yX10_closesSums, cX10_closesSums, 2, none)
abbrev iX10_readsFactor : MethodName × ByteArray × Nat × Option FieldType := (yX10_readsFactor, cX10_readsFactor, 2, (some .boolean))
abbrev iX10_hasOpenSum : MethodName × ByteArray × Nat × Option FieldType := (yX10_hasOpenSum, cX10_hasOpenSum, 3, (some .boolean))
abbrev iX10_readsSum : MethodName × ByteArray × Nat × Option FieldType := (yX10_readsSum, cX10_readsSum, 3, (some .boolean))
abbrev iX10_endsPiece : MethodName × ByteArray × Nat × Option FieldType := (yX10_endsPiece, cX10_endsPiece, 1, none)
abbrev iX10_lands : MethodName × ByteArray × Nat × Option FieldType := (yX10_lands, cX10_lands, 3, none)
abbrev iX10_jumps : MethodName × ByteArray × Nat × Option FieldType := (yX10_jumps, cX10_jumps, 2, none)
abbrev iX10_readsCompared : MethodName × ByteArray × Nat × Option FieldType := (yX10_readsCompared, cX10_readsCompared, 2, (some .boolean))
abbrev iX10_readsCondition : MethodName × ByteArray × Nat × Option FieldType := (yX10_readsCondition, cX10_readsCondition, 1, (some .boolean))
abbrev iX10_readsClause : MethodName × ByteArray × Nat × Option FieldType := (yX10_readsClause, cX10_readsClause, 2, (some .boolean))
abbrev iX10_law : MethodName × ByteArray × Nat × Option FieldType := (yX10_law, cX10_law, 5, (some .int))
abbrev iX10_reckon : MethodName × ByteArray × Nat × Option FieldType := (yX10_reckon, cX10_reckon, 3, (some .int))
abbrev iX10_comesTo : MethodName × ByteArray × Nat × Option FieldType := (yX10_comesTo, cX10_comesTo, 8, (some .int))
abbrev iX10_byLaw : MethodName × ByteArray × Nat × Option FieldType := (yX10_byLaw, cX10_byLaw, 6, (some .int))
abbrev iX10_anyBy : MethodName × ByteArray × Nat × Option FieldType := (yX10_anyBy, cX10_anyBy, 4, (some .boolean))
abbrev iX10_feels : MethodName × ByteArray × Nat × Option FieldType := (yX10_feels, cX10_feels, 3, none)
abbrev iX10_stepBy : MethodName × ByteArray × Nat × Option FieldType := (yX10_stepBy, cX10_stepBy, 4, (some .int))
abbrev iX10_laysSteps : MethodName × ByteArray × Nat × Option FieldType := (yX10_laysSteps, cX10_laysSteps, 4, none)
abbrev iX10_isStep : MethodName × ByteArray × Nat × Option FieldType := (yX10_isStep, cX10_isStep, 3, (some .boolean))
abbrev iX10_step : MethodName × ByteArray × Nat × Option FieldType := (yX10_step, cX10_step, 4, (some .int))
abbrev iX10_isOath : MethodName × ByteArray × Nat × Option FieldType := (yX10_isOath, cX10_isOath, 2, (some .boolean))
abbrev iX10_oath : MethodName × ByteArray × Nat × Option FieldType := (yX10_oath, cX10_oath, 3, (some .int))
abbrev iX10_leastBy : MethodName × ByteArray × Nat × Option FieldType := (yX10_leastBy, cX10_leastBy, 5, (some .int))
abbrev iX10_swear : MethodName × ByteArray × Nat × Option FieldType := (yX10_swear, cX10_swear, 4, (some .int))
abbrev iX10_reach : MethodName × ByteArray × Nat × Option FieldType := (yX10_reach, cX10_reach, 7, (some .int))
abbrev iX10_holdsBy : MethodName × ByteArray × Nat × Option FieldType := (yX10_holdsBy, cX10_holdsBy, 3, (some .boolean))
abbrev iX10_holdsNow : MethodName × ByteArray × Nat × Option FieldType := (yX10_holdsNow, cX10_holdsNow, 2, (some .boolean))
abbrev iX10_holds : MethodName × ByteArray × Nat × Option FieldType := (yX10_holds, cX10_holds, 2, (some .int))
abbrev iX10_holding : MethodName × ByteArray × Nat × Option FieldType := (yX10_holding, cX10_holding, 4, (some .int))
abbrev iX10_passes : MethodName × ByteArray × Nat × Option FieldType := (yX10_passes, cX10_passes, 4, (some .int))
abbrev iX10_draws : MethodName × ByteArray × Nat × Option FieldType := (yX10_draws, cX10_draws, 1, (some .int))
abbrev iX10_runs : MethodName × ByteArray × Nat × Option FieldType := (yX10_runs, cX10_runs, 4, (some .int))
abbrev iX10_areYears : MethodName × ByteArray × Nat × Option FieldType := (yX10_areYears, cX10_areYears, 1, (some .boolean))
abbrev iX10_year : MethodName × ByteArray × Nat × Option FieldType := (yX10_year, cX10_year, 2, (some .int))
abbrev iX10_years : MethodName × ByteArray × Nat × Option FieldType := (yX10_years, cX10_years, 2, (some .int))
abbrev iX10_copies : MethodName × ByteArray × Nat × Option FieldType := (yX10_copies, cX10_copies, 4, none)
abbrev iX10_begins : MethodName × ByteArray × Nat × Option FieldType := (yX10_begins, cX10_begins, 1, none)
abbrev iX10_again : MethodName × ByteArray × Nat × Option FieldType := (yX10_again, cX10_again, 1, none)
abbrev iX10_tried : MethodName × ByteArray × Nat × Option FieldType := (yX10_tried, cX10_tried, 4, (some .int))
abbrev iX10_askedBy : MethodName × ByteArray × Nat × Option FieldType := (yX10_askedBy, cX10_askedBy, 4, (some .int))
abbrev iX10_wayBy : MethodName × ByteArray × Nat × Option FieldType := (yX10_wayBy, cX10_wayBy, 4, (some .int))
abbrev iX10_laysWays : MethodName × ByteArray × Nat × Option FieldType := (yX10_laysWays, cX10_laysWays, 6, none)
abbrev iX10_chain : MethodName × ByteArray × Nat × Option FieldType := (yX10_chain, cX10_chain, 7, (some .int))
abbrev iX10_isSafe : MethodName × ByteArray × Nat × Option FieldType := (yX10_isSafe, cX10_isSafe, 9, (some .boolean))
abbrev iX10_pricesOf : MethodName × ByteArray × Nat × Option FieldType := (yX10_pricesOf, cX10_pricesOf, 6, (some .int))
abbrev iX10_safe : MethodName × ByteArray × Nat × Option FieldType := (yX10_safe, cX10_safe, 9, (some .int))
abbrev iX10_cut : MethodName × ByteArray × Nat × Option FieldType := (yX10_cut, cX10_cut, 3, (some .int))
abbrev iX10_soonest : MethodName × ByteArray × Nat × Option FieldType := (yX10_soonest, cX10_soonest, 4, (some .int))
abbrev iX10_canChoose : MethodName × ByteArray × Nat × Option FieldType := (yX10_canChoose, cX10_canChoose, 3, (some .boolean))
abbrev iX10_tells : MethodName × ByteArray × Nat × Option FieldType := (yX10_tells, cX10_tells, 4, none)
abbrev iX10_endsAs : MethodName × ByteArray × Nat × Option FieldType := (yX10_endsAs, cX10_endsAs, 4, (some .int))
abbrev iX10_plays : MethodName × ByteArray × Nat × Option FieldType := (yX10_plays, cX10_plays, 5, none)
abbrev iX10_against : MethodName × ByteArray × Nat × Option FieldType := (yX10_against, cX10_against, 5, (some .int))
abbrev iX10_joined : MethodName × ByteArray × Nat × Option FieldType := (yX10_joined, cX10_joined, 6, (some .int))
abbrev iX10_heldBy : MethodName × ByteArray × Nat × Option FieldType := (yX10_heldBy, cX10_heldBy, 4, (some .int))
abbrev iX10_whom : MethodName × ByteArray × Nat × Option FieldType := (yX10_whom, cX10_whom, 8, (some .int))
abbrev iX10_sure : MethodName × ByteArray × Nat × Option FieldType := (yX10_sure, cX10_sure, 2, (some .int))
abbrev iX10_found : MethodName × ByteArray × Nat × Option FieldType := (yX10_found, cX10_found, 2, (some .int))
abbrev iX10_explains : MethodName × ByteArray × Nat × Option FieldType := (yX10_explains, cX10_explains, 3, (some .boolean))
abbrev iX10_least : MethodName × ByteArray × Nat × Option FieldType := (yX10_least, cX10_least, 3, (some .int))
abbrev iX10_sideBySide : MethodName × ByteArray × Nat × Option FieldType := (yX10_sideBySide, cX10_sideBySide, 3, (some .int))
abbrev iX10_seed : MethodName × ByteArray × Nat × Option FieldType := (yX10_seed, cX10_seed, 2, (some .boolean))
abbrev iX10_keep : MethodName × ByteArray × Nat × Option FieldType := (yX10_keep, cX10_keep, 1, (some .int))
abbrev iX10_undo : MethodName × ByteArray × Nat × Option FieldType := (yX10_undo, cX10_undo, 1, (some .boolean))
abbrev iX10_tapeNumber : MethodName × ByteArray × Nat × Option FieldType := (yX10_tapeNumber, cX10_tapeNumber, 4, (some .int))
abbrev iX10_check : MethodName × ByteArray × Nat × Option FieldType := (yX10_check, cX10_check, 3, (some .int))
abbrev iX10_count : MethodName × ByteArray × Nat × Option FieldType := (yX10_count, cX10_count, 2, (some .int))
abbrev iJ11_isValidCodePoint_9a6ad : MethodName × ByteArray × Nat × Option FieldType := (yJ11_isValidCodePoint_9a6ad, cJ11_isValidCodePoint_9a6ad, 2, (some .boolean))
abbrev iJ11_highSurrogate_5068e : MethodName × ByteArray × Nat × Option FieldType := (yJ11_highSurrogate_5068e, cJ11_highSurrogate_5068e, 1, (some .char))
abbrev iJ11_lowSurrogate_5068e : MethodName × ByteArray × Nat × Option FieldType := (yJ11_lowSurrogate_5068e, cJ11_lowSurrogate_5068e, 1, (some .char))
abbrev iJ6_bitCount_0f7a4 : MethodName × ByteArray × Nat × Option FieldType := (yJ6_bitCount_0f7a4, cJ6_bitCount_0f7a4, 1, (some .int))
abbrev iJ9_max_7cf53 : MethodName × ByteArray × Nat × Option FieldType := (yJ9_max_7cf53, cJ9_max_7cf53, 2, (some .int))
abbrev iJ9_min_7cf53 : MethodName × ByteArray × Nat × Option FieldType := (yJ9_min_7cf53, cJ9_min_7cf53, 2, (some .int))
abbrev iJ0_length_8abf5 : MethodName × ByteArray × Nat × Option FieldType := (yJ0_length_8abf5, cJ0_length_8abf5, 1, (some .int))
abbrev iJ0_indexOf_0f7a4 : MethodName × ByteArray × Nat × Option FieldType := (yJ0_indexOf_0f7a4, cJ0_indexOf_0f7a4, 2, (some .int))
abbrev iJ0_indexOf_7cf53 : MethodName × ByteArray × Nat × Option FieldType := (yJ0_indexOf_7cf53, cJ0_indexOf_7cf53, 3, (some .int))
abbrev iJ0_coder_7d493 : MethodName × ByteArray × Nat × Option FieldType := (yJ0_coder_7d493, cJ0_coder_7d493, 1, (some .byte))
abbrev iJ0_isLatin1_aae02 : MethodName × ByteArray × Nat × Option FieldType := (yJ0_isLatin1_aae02, cJ0_isLatin1_aae02, 1, (some .boolean))
abbrev iJ0_checkBoundsBeginEnd_23922 : MethodName × ByteArray × Nat × Option FieldType := (yJ0_checkBoundsBeginEnd_23922, cJ0_checkBoundsBeginEnd_23922, 3, none)
abbrev iJ1_canEncode_9a6ad : MethodName × ByteArray × Nat × Option FieldType := (yJ1_canEncode_9a6ad, cJ1_canEncode_9a6ad, 1, (some .boolean))
abbrev iJ1_indexOf_4cfef : MethodName × ByteArray × Nat × Option FieldType := (yJ1_indexOf_4cfef, cJ1_indexOf_4cfef, 4, (some .int))
abbrev iJ1_indexOfChar_4cfef : MethodName × ByteArray × Nat × Option FieldType := (yJ1_indexOfChar_4cfef, cJ1_indexOfChar_4cfef, 6, (some .int))
abbrev iJ2_getChar_3b067 : MethodName × ByteArray × Nat × Option FieldType := (yJ2_getChar_3b067, cJ2_getChar_3b067, 2, (some .char))
abbrev iJ2_length_9d52b : MethodName × ByteArray × Nat × Option FieldType := (yJ2_length_9d52b, cJ2_length_9d52b, 1, (some .int))
abbrev iJ2_indexOf_4cfef : MethodName × ByteArray × Nat × Option FieldType := (yJ2_indexOf_4cfef, cJ2_indexOf_4cfef, 4, (some .int))
abbrev iJ2_indexOfChar_4cfef : MethodName × ByteArray × Nat × Option FieldType := (yJ2_indexOfChar_4cfef, cJ2_indexOfChar_4cfef, 4, (some .int))
abbrev iJ2_indexOfCharUnsafe_4cfef : MethodName × ByteArray × Nat × Option FieldType := (yJ2_indexOfCharUnsafe_4cfef, cJ2_indexOfCharUnsafe_4cfef, 5, (some .int))
abbrev iJ2_indexOfSupplementary_4cfef : MethodName × ByteArray × Nat × Option FieldType := (yJ2_indexOfSupplementary_4cfef, cJ2_indexOfSupplementary_4cfef, 7, (some .int))
abbrev iJ2_checkBoundsBeginEnd_d044e : MethodName × ByteArray × Nat × Option FieldType := (yJ2_checkBoundsBeginEnd_d044e, cJ2_checkBoundsBeginEnd_d044e, 3, none)
abbrev iJ3_checkFromToIndex_8c36e : MethodName × ByteArray × Nat × Option FieldType := (yJ3_checkFromToIndex_8c36e, cJ3_checkFromToIndex_8c36e, 4, (some .int))
abbrev Mem : Type := Nat → Nat → Int32
/-- a field of an object: a cell that never changes, an int, or a cell by its number -/
abbrev SD : Type := Nat ⊕ Bool
abbrev MI : Type := MethodName × ByteArray × Nat × Option FieldType
abbrev CD : Type := (Nat × List SD) ⊕ ((Bool × Nat) ⊕ List Nat)
/-- the cells of the two objects, by numbers: what each is -/
def cellL : List CD := [.inl (9, [.inl 1, .inl 12, .inl 23, .inl 34, .inl 36, .inl 53, .inl 61, .inl 62, .inl 69, .inl 73, .inl 74, .inl 76, .inr false, .inr false]),
  .inl (8, [.inl 2, .inl 3, .inl 4, .inl 5, .inl 6, .inl 7, .inl 8, .inr false, .inr false, .inr false, .inr false, .inr false, .inl 9, .inl 10]),
  .inr (.inl (false, 16)),
  .inr (.inl (false, 16)),
  .inr (.inl (false, 16)),
  .inr (.inl (false, 16)),
  .inr (.inl (false, 16)),
  .inr (.inl (false, 12)),
  .inr (.inl (false, 12)),
  .inr (.inl (false, 16)),
  .inl (4, [.inl 11]),
  .inr (.inl (false, 12)),
  .inl (8, [.inl 13, .inl 14, .inl 15, .inl 16, .inl 17, .inl 18, .inl 19, .inr false, .inr false, .inr false, .inr false, .inr false, .inl 20, .inl 21]),
  .inr (.inl (false, 16)),
  .inr (.inl (false, 16)),
  .inr (.inl (false, 16)),
  .inr (.inl (false, 16)),
  .inr (.inl (false, 16)),
  .inr (.inl (false, 12)),
  .inr (.inl (false, 12)),
  .inr (.inl (false, 16)),
  .inl (4, [.inl 22]),
  .inr (.inl (false, 12)),
  .inl (8, [.inl 24, .inl 25, .inl 26, .inl 27, .inl 28, .inl 29, .inl 30, .inr false, .inr false, .inr false, .inr false, .inr false, .inl 31, .inl 32]),
  .inr (.inl (false, 16)),
  .inr (.inl (false, 16)),
  .inr (.inl (false, 16)),
  .inr (.inl (false, 16)),
  .inr (.inl (false, 16)),
  .inr (.inl (false, 12)),
  .inr (.inl (false, 12)),
  .inr (.inl (false, 16)),
  .inl (4, [.inl 33]),
  .inr (.inl (false, 12)),
  .inl (7, [.inl 35, .inr false]),
  .inr (.inl (false, 200)),
  .inr (.inr [37, 45]),
  .inl (2, [.inr false, .inr false, .inl 38, .inl 39, .inl 40, .inl 41, .inl 42, .inl 43, .inl 44]),
  .inr (.inl (false, 160)),
  .inr (.inl (false, 160)),
  .inr (.inl (false, 12)),
  .inr (.inl (false, 12)),
  .inr (.inl (false, 12)),
  .inr (.inl (false, 12)),
  .inr (.inl (false, 32)),
  .inl (2, [.inr false, .inr false, .inl 46, .inl 47, .inl 48, .inl 49, .inl 50, .inl 51, .inl 52]),
  .inr (.inl (false, 160)),
  .inr (.inl (false, 160)),
  .inr (.inl (false, 12)),
  .inr (.inl (false, 12)),
  .inr (.inl (false, 12)),
  .inr (.inl (false, 12)),
  .inr (.inl (false, 32)),
  .inl (2, [.inr false, .inr false, .inl 54, .inl 55, .inl 56, .inl 57, .inl 58, .inl 59, .inl 60]),
  .inr (.inl (false, 160)),
  .inr (.inl (false, 160)),
  .inr (.inl (false, 12)),
  .inr (.inl (false, 12)),
  .inr (.inl (false, 12)),
  .inr (.inl (false, 12)),
  .inr (.inl (false, 32)),
  .inl (3, [.inl 34, .inl 53, .inr false, .inr false, .inr false]),
  .inl (6, [.inl 63, .inl 64, .inl 65, .inl 66, .inl 67, .inr true, .inr true, .inr false, .inr false]),
  .inr (.inl (false, 16)),
  .inr (.inl (false, 16)),
  .inr (.inl (false, 16)),
  .inr (.inl (false, 256)),
  .inl (4, [.inl 68]),
  .inr (.inl (false, 12)),
  .inl (0, [.inl 62, .inl 70, .inl 71, .inl 72, .inr false]),
  .inr (.inl (false, 16)),
  .inr (.inl (false, 16)),
  .inr (.inl (false, 16)),
  .inl (5, [.inl 62, .inr false, .inr false, .inr false, .inr false]),
  .inl (1, [.inl 62, .inl 75, .inr false]),
  .inr (.inl (false, 2)),
  .inr (.inl (false, 12)),
  .inl (10, [.inr false, .inr false, .inr false, .inr false, .inl 78, .inl 79, .inl 80, .inl 81, .inl 82, .inl 83, .inr false, .inr false, .inr false, .inr false, .inr false, .inr false, .inr false, .inr false, .inr false, .inl 84, .inl 85, .inl 86, .inl 87, .inl 88, .inl 89, .inl 90, .inl 91, .inl 92, .inl 93, .inl 94, .inl 95, .inl 96, .inl 97, .inl 98, .inr false, .inl 99, .inl 100, .inl 101, .inl 102, .inr false, .inr false, .inr false, .inl 103, .inl 104, .inl 105, .inl 106, .inl 107, .inl 108, .inl 109, .inr false, .inr false, .inl 110, .inr false, .inr false, .inr false, .inr false, .inr false, .inr false, .inl 111, .inl 112, .inl 113, .inl 114, .inl 115, .inl 116, .inl 117, .inl 118]),
  .inr (.inl (false, 16)),
  .inr (.inl (false, 16)),
  .inr (.inl (false, 16)),
  .inr (.inl (false, 16)),
  .inr (.inl (false, 16)),
  .inr (.inl (true, 200)),
  .inr (.inl (false, 180)),
  .inr (.inl (false, 180)),
  .inr (.inl (false, 12)),
  .inr (.inl (false, 12)),
  .inr (.inl (false, 12)),
  .inr (.inl (false, 12)),
  .inr (.inl (false, 360)),
  .inr (.inl (false, 2)),
  .inr (.inl (false, 24)),
  .inr (.inl (false, 24)),
  .inr (.inl (false, 24)),
  .inr (.inl (false, 24)),
  .inr (.inl (false, 180)),
  .inr (.inl (false, 12)),
  .inr (.inl (false, 256)),
  .inr (.inl (false, 12)),
  .inr (.inl (false, 12)),
  .inr (.inl (false, 12)),
  .inr (.inl (false, 16)),
  .inr (.inl (false, 16)),
  .inr (.inl (false, 16)),
  .inr (.inl (false, 16)),
  .inr (.inl (false, 5)),
  .inr (.inl (false, 5)),
  .inr (.inl (false, 5)),
  .inr (.inl (false, 5)),
  .inr (.inl (false, 12)),
  .inr (.inl (false, 16)),
  .inr (.inl (false, 16)),
  .inr (.inl (false, 16)),
  .inr (.inl (false, 16)),
  .inr (.inl (false, 16)),
  .inr (.inl (false, 12)),
  .inr (.inl (false, 12)),
  .inr (.inl (false, 12))]
def K0 : Nat := 119
def cellD (k : Nat) : CD := cellL.getD k (.inr (.inr []))
theorem ce_0 : cellD 0 = .inl (9, [.inl 1, .inl 12, .inl 23, .inl 34, .inl 36, .inl 53, .inl 61, .inl 62, .inl 69, .inl 73, .inl 74, .inl 76, .inr false, .inr false]) := rfl
theorem ce_1 : cellD 1 = .inl (8, [.inl 2, .inl 3, .inl 4, .inl 5, .inl 6, .inl 7, .inl 8, .inr false, .inr false, .inr false, .inr false, .inr false, .inl 9, .inl 10]) := rfl
theorem ce_2 : cellD 2 = .inr (.inl (false, 16)) := rfl
theorem ce_3 : cellD 3 = .inr (.inl (false, 16)) := rfl
theorem ce_4 : cellD 4 = .inr (.inl (false, 16)) := rfl
theorem ce_5 : cellD 5 = .inr (.inl (false, 16)) := rfl
theorem ce_6 : cellD 6 = .inr (.inl (false, 16)) := rfl
theorem ce_7 : cellD 7 = .inr (.inl (false, 12)) := rfl
theorem ce_8 : cellD 8 = .inr (.inl (false, 12)) := rfl
theorem ce_9 : cellD 9 = .inr (.inl (false, 16)) := rfl
theorem ce_10 : cellD 10 = .inl (4, [.inl 11]) := rfl
theorem ce_11 : cellD 11 = .inr (.inl (false, 12)) := rfl
theorem ce_12 : cellD 12 = .inl (8, [.inl 13, .inl 14, .inl 15, .inl 16, .inl 17, .inl 18, .inl 19, .inr false, .inr false, .inr false, .inr false, .inr false, .inl 20, .inl 21]) := rfl
theorem ce_13 : cellD 13 = .inr (.inl (false, 16)) := rfl
theorem ce_14 : cellD 14 = .inr (.inl (false, 16)) := rfl
theorem ce_15 : cellD 15 = .inr (.inl (false, 16)) := rfl
theorem ce_16 : cellD 16 = .inr (.inl (false, 16)) := rfl
theorem ce_17 : cellD 17 = .inr (.inl (false, 16)) := rfl
theorem ce_18 : cellD 18 = .inr (.inl (false, 12)) := rfl
theorem ce_19 : cellD 19 = .inr (.inl (false, 12)) := rfl
theorem ce_20 : cellD 20 = .inr (.inl (false, 16)) := rfl
theorem ce_21 : cellD 21 = .inl (4, [.inl 22]) := rfl
theorem ce_22 : cellD 22 = .inr (.inl (false, 12)) := rfl
theorem ce_23 : cellD 23 = .inl (8, [.inl 24, .inl 25, .inl 26, .inl 27, .inl 28, .inl 29, .inl 30, .inr false, .inr false, .inr false, .inr false, .inr false, .inl 31, .inl 32]) := rfl
theorem ce_24 : cellD 24 = .inr (.inl (false, 16)) := rfl
theorem ce_25 : cellD 25 = .inr (.inl (false, 16)) := rfl
theorem ce_26 : cellD 26 = .inr (.inl (false, 16)) := rfl
theorem ce_27 : cellD 27 = .inr (.inl (false, 16)) := rfl
theorem ce_28 : cellD 28 = .inr (.inl (false, 16)) := rfl
theorem ce_29 : cellD 29 = .inr (.inl (false, 12)) := rfl
theorem ce_30 : cellD 30 = .inr (.inl (false, 12)) := rfl
theorem ce_31 : cellD 31 = .inr (.inl (false, 16)) := rfl
theorem ce_32 : cellD 32 = .inl (4, [.inl 33]) := rfl
theorem ce_33 : cellD 33 = .inr (.inl (false, 12)) := rfl
theorem ce_34 : cellD 34 = .inl (7, [.inl 35, .inr false]) := rfl
theorem ce_35 : cellD 35 = .inr (.inl (false, 200)) := rfl
theorem ce_36 : cellD 36 = .inr (.inr [37, 45]) := rfl
theorem ce_37 : cellD 37 = .inl (2, [.inr false, .inr false, .inl 38, .inl 39, .inl 40, .inl 41, .inl 42, .inl 43, .inl 44]) := rfl
theorem ce_38 : cellD 38 = .inr (.inl (false, 160)) := rfl
theorem ce_39 : cellD 39 = .inr (.inl (false, 160)) := rfl
theorem ce_40 : cellD 40 = .inr (.inl (false, 12)) := rfl
theorem ce_41 : cellD 41 = .inr (.inl (false, 12)) := rfl
theorem ce_42 : cellD 42 = .inr (.inl (false, 12)) := rfl
theorem ce_43 : cellD 43 = .inr (.inl (false, 12)) := rfl
theorem ce_44 : cellD 44 = .inr (.inl (false, 32)) := rfl
theorem ce_45 : cellD 45 = .inl (2, [.inr false, .inr false, .inl 46, .inl 47, .inl 48, .inl 49, .inl 50, .inl 51, .inl 52]) := rfl
theorem ce_46 : cellD 46 = .inr (.inl (false, 160)) := rfl
theorem ce_47 : cellD 47 = .inr (.inl (false, 160)) := rfl
theorem ce_48 : cellD 48 = .inr (.inl (false, 12)) := rfl
theorem ce_49 : cellD 49 = .inr (.inl (false, 12)) := rfl
theorem ce_50 : cellD 50 = .inr (.inl (false, 12)) := rfl
theorem ce_51 : cellD 51 = .inr (.inl (false, 12)) := rfl
theorem ce_52 : cellD 52 = .inr (.inl (false, 32)) := rfl
theorem ce_53 : cellD 53 = .inl (2, [.inr false, .inr false, .inl 54, .inl 55, .inl 56, .inl 57, .inl 58, .inl 59, .inl 60]) := rfl
theorem ce_54 : cellD 54 = .inr (.inl (false, 160)) := rfl
theorem ce_55 : cellD 55 = .inr (.inl (false, 160)) := rfl
theorem ce_56 : cellD 56 = .inr (.inl (false, 12)) := rfl
theorem ce_57 : cellD 57 = .inr (.inl (false, 12)) := rfl
theorem ce_58 : cellD 58 = .inr (.inl (false, 12)) := rfl
theorem ce_59 : cellD 59 = .inr (.inl (false, 12)) := rfl
theorem ce_60 : cellD 60 = .inr (.inl (false, 32)) := rfl
theorem ce_61 : cellD 61 = .inl (3, [.inl 34, .inl 53, .inr false, .inr false, .inr false]) := rfl
theorem ce_62 : cellD 62 = .inl (6, [.inl 63, .inl 64, .inl 65, .inl 66, .inl 67, .inr true, .inr true, .inr false, .inr false]) := rfl
theorem ce_63 : cellD 63 = .inr (.inl (false, 16)) := rfl
theorem ce_64 : cellD 64 = .inr (.inl (false, 16)) := rfl
theorem ce_65 : cellD 65 = .inr (.inl (false, 16)) := rfl
theorem ce_66 : cellD 66 = .inr (.inl (false, 256)) := rfl
theorem ce_67 : cellD 67 = .inl (4, [.inl 68]) := rfl
theorem ce_68 : cellD 68 = .inr (.inl (false, 12)) := rfl
theorem ce_69 : cellD 69 = .inl (0, [.inl 62, .inl 70, .inl 71, .inl 72, .inr false]) := rfl
theorem ce_70 : cellD 70 = .inr (.inl (false, 16)) := rfl
theorem ce_71 : cellD 71 = .inr (.inl (false, 16)) := rfl
theorem ce_72 : cellD 72 = .inr (.inl (false, 16)) := rfl
theorem ce_73 : cellD 73 = .inl (5, [.inl 62, .inr false, .inr false, .inr false, .inr false]) := rfl
theorem ce_74 : cellD 74 = .inl (1, [.inl 62, .inl 75, .inr false]) := rfl
theorem ce_75 : cellD 75 = .inr (.inl (false, 2)) := rfl
theorem ce_76 : cellD 76 = .inr (.inl (false, 12)) := rfl
theorem ce_77 : cellD 77 = .inl (10, [.inr false, .inr false, .inr false, .inr false, .inl 78, .inl 79, .inl 80, .inl 81, .inl 82, .inl 83, .inr false, .inr false, .inr false, .inr false, .inr false, .inr false, .inr false, .inr false, .inr false, .inl 84, .inl 85, .inl 86, .inl 87, .inl 88, .inl 89, .inl 90, .inl 91, .inl 92, .inl 93, .inl 94, .inl 95, .inl 96, .inl 97, .inl 98, .inr false, .inl 99, .inl 100, .inl 101, .inl 102, .inr false, .inr false, .inr false, .inl 103, .inl 104, .inl 105, .inl 106, .inl 107, .inl 108, .inl 109, .inr false, .inr false, .inl 110, .inr false, .inr false, .inr false, .inr false, .inr false, .inr false, .inl 111, .inl 112, .inl 113, .inl 114, .inl 115, .inl 116, .inl 117, .inl 118]) := rfl
theorem ce_78 : cellD 78 = .inr (.inl (false, 16)) := rfl
theorem ce_79 : cellD 79 = .inr (.inl (false, 16)) := rfl
theorem ce_80 : cellD 80 = .inr (.inl (false, 16)) := rfl
theorem ce_81 : cellD 81 = .inr (.inl (false, 16)) := rfl
theorem ce_82 : cellD 82 = .inr (.inl (false, 16)) := rfl
theorem ce_83 : cellD 83 = .inr (.inl (true, 200)) := rfl
theorem ce_84 : cellD 84 = .inr (.inl (false, 180)) := rfl
theorem ce_85 : cellD 85 = .inr (.inl (false, 180)) := rfl
theorem ce_86 : cellD 86 = .inr (.inl (false, 12)) := rfl
theorem ce_87 : cellD 87 = .inr (.inl (false, 12)) := rfl
theorem ce_88 : cellD 88 = .inr (.inl (false, 12)) := rfl
theorem ce_89 : cellD 89 = .inr (.inl (false, 12)) := rfl
theorem ce_90 : cellD 90 = .inr (.inl (false, 360)) := rfl
theorem ce_91 : cellD 91 = .inr (.inl (false, 2)) := rfl
theorem ce_92 : cellD 92 = .inr (.inl (false, 24)) := rfl
theorem ce_93 : cellD 93 = .inr (.inl (false, 24)) := rfl
theorem ce_94 : cellD 94 = .inr (.inl (false, 24)) := rfl
theorem ce_95 : cellD 95 = .inr (.inl (false, 24)) := rfl
theorem ce_96 : cellD 96 = .inr (.inl (false, 180)) := rfl
theorem ce_97 : cellD 97 = .inr (.inl (false, 12)) := rfl
theorem ce_98 : cellD 98 = .inr (.inl (false, 256)) := rfl
theorem ce_99 : cellD 99 = .inr (.inl (false, 12)) := rfl
theorem ce_100 : cellD 100 = .inr (.inl (false, 12)) := rfl
theorem ce_101 : cellD 101 = .inr (.inl (false, 12)) := rfl
theorem ce_102 : cellD 102 = .inr (.inl (false, 16)) := rfl
theorem ce_103 : cellD 103 = .inr (.inl (false, 16)) := rfl
theorem ce_104 : cellD 104 = .inr (.inl (false, 16)) := rfl
theorem ce_105 : cellD 105 = .inr (.inl (false, 16)) := rfl
theorem ce_106 : cellD 106 = .inr (.inl (false, 5)) := rfl
theorem ce_107 : cellD 107 = .inr (.inl (false, 5)) := rfl
theorem ce_108 : cellD 108 = .inr (.inl (false, 5)) := rfl
theorem ce_109 : cellD 109 = .inr (.inl (false, 5)) := rfl
theorem ce_110 : cellD 110 = .inr (.inl (false, 12)) := rfl
theorem ce_111 : cellD 111 = .inr (.inl (false, 16)) := rfl
theorem ce_112 : cellD 112 = .inr (.inl (false, 16)) := rfl
theorem ce_113 : cellD 113 = .inr (.inl (false, 16)) := rfl
theorem ce_114 : cellD 114 = .inr (.inl (false, 16)) := rfl
theorem ce_115 : cellD 115 = .inr (.inl (false, 16)) := rfl
theorem ce_116 : cellD 116 = .inr (.inl (false, 12)) := rfl
theorem ce_117 : cellD 117 = .inr (.inl (false, 12)) := rfl
theorem ce_118 : cellD 118 = .inr (.inl (false, 12)) := rfl

/-! ===== BEGIN words of one list among another's, by their places ===== -/
theorem goodIn_r {big : List Cond} (ws : List Cond) (ps : List Nat) (hp : ws = ps.filterMap (fun i => big[i]?)) (h : ws.all goodWord = true) : GoodIn big ws := by
  intro w hw
  have h1 := List.all_eq_true.mp h w hw
  rw [hp] at hw
  obtain ⟨i, -, hi⟩ := List.mem_filterMap.mp hw
  have hm : w ∈ big := by first | exact List.mem_of_getElem? hi | exact List.getElem?_mem hi
  exact ⟨hm, good_of_word h1⟩
theorem goodIn_app {big a b : List Cond} (ha : GoodIn big a) (hb : GoodIn big b) : GoodIn big (a ++ b) := fun w h => (List.mem_append.mp h).elim (ha w) (hb w)
theorem goodIn_ca {big a b : List Cond} {c : Cond} (ha : GoodIn big (c :: a)) (hb : GoodIn big b) : GoodIn big (c :: (a ++ b)) := fun w h => (List.mem_cons.mp h).elim (fun e => ha w (List.mem_cons.mpr (Or.inl e))) (fun h => (List.mem_append.mp h).elim (fun h => ha w (List.mem_cons.mpr (Or.inr h))) (hb w))
theorem goodIn_sub {big ws : List Cond} (hm : ∀ w ∈ ws, w ∈ big) (h : ws.all goodWord = true) : GoodIn big ws := fun w hw => ⟨hm w hw, good_of_word (List.all_eq_true.mp h w hw)⟩
/-! ===== END ===== -/

/-! ===== BEGIN printed: names, fields, word lists, decode rows ===== -/
def RX0 : String := "GuessingHall$Bench"
def TX0 : u_T := fun k => match k with
  | 0 => ("GuessingHall$Bench", "size", "I", false)
  | 1 => ("GuessingHall$Bench", "purse", "LGuessingHall$Row;", true)
  | 2 => ("GuessingHall$Bench", "won", "LGuessingHall$Row;", true)
  | 3 => ("GuessingHall$Bench", "hits", "LGuessingHall$Row;", true)
  | 4 => ("GuessingHall$Bench", "misses", "LGuessingHall$Row;", true)
  | 5 => ("GuessingHall$Bench", "hint", "LGuessingHall$Row;", true)
  | _ => ("GuessingHall$Bench", "whisperer", "LGuessingHall$Row;", true)
def tyX0 : Nat → FieldType := fun k => match k with
  | 0 => .int
  | 1 => .object "GuessingHall$Row"
  | 2 => .object "GuessingHall$Row"
  | 3 => .object "GuessingHall$Row"
  | 4 => .object "GuessingHall$Row"
  | 5 => .object "GuessingHall$Row"
  | _ => .object "GuessingHall$Row"
abbrev wsX00 : List Cond := u_ws RX0 TX0 7
theorem nmX0 : ∀ a, a < 7 → ∀ b, b < 7 → a ≠ b → (TX0 a).2.1 ≠ (TX0 b).2.1 := by decide +kernel
theorem tyX0_ok : ∀ k, k < 7 → parseFieldDescriptor (TX0 k).2.2.1 = some (tyX0 k) := by decide +kernel
abbrev cX0_init : ByteArray := prog_2_method_1_code
def yX0_init : MethodName := ⟨RX0, "<init>", "()V"⟩
abbrev cX0_copyFrom : ByteArray := prog_2_method_2_code
def yX0_copyFrom : MethodName := ⟨RX0, "copyFrom", "(LGuessingHall$Bench;)V"⟩
abbrev cX0_has : ByteArray := prog_2_method_3_code
def yX0_has : MethodName := ⟨RX0, "has", "(I)Z"⟩
abbrev cX0_add : ByteArray := prog_2_method_4_code
def yX0_add : MethodName := ⟨RX0, "add", "(I)I"⟩
abbrev cX0_canAllPay : ByteArray := prog_2_method_5_code
def yX0_canAllPay : MethodName := ⟨RX0, "canAllPay", "(I)Z"⟩
abbrev cX0_takeFromAll : ByteArray := prog_2_method_6_code
def yX0_takeFromAll : MethodName := ⟨RX0, "takeFromAll", "(I)V"⟩
abbrev cX0_behind : ByteArray := prog_2_method_7_code
def yX0_behind : MethodName := ⟨RX0, "behind", "(I)I"⟩
abbrev cX0_hasHint : ByteArray := prog_2_method_8_code
def yX0_hasHint : MethodName := ⟨RX0, "hasHint", "(I)Z"⟩
abbrev cX0_dropHint : ByteArray := prog_2_method_9_code
def yX0_dropHint : MethodName := ⟨RX0, "dropHint", "(I)V"⟩
abbrev cX0_dropHints : ByteArray := prog_2_method_10_code
def yX0_dropHints : MethodName := ⟨RX0, "dropHints", "()V"⟩
def RX1 : String := "GuessingHall$History"
def TX1 : u_T := fun k => match k with
  | 0 => ("GuessingHall$History", "size", "I", false)
  | 1 => ("GuessingHall$History", "free", "I", false)
  | _ => ("GuessingHall$History", "ring", "[LGuessingHall$State;", true)
def tyX1 : Nat → FieldType := fun k => match k with
  | 0 => .int
  | 1 => .int
  | _ => .array (.object "GuessingHall$State")
abbrev wsX10 : List Cond := u_ws RX1 TX1 3
theorem nmX1 : ∀ a, a < 3 → ∀ b, b < 3 → a ≠ b → (TX1 a).2.1 ≠ (TX1 b).2.1 := by decide +kernel
theorem tyX1_ok : ∀ k, k < 3 → parseFieldDescriptor (TX1 k).2.2.1 = some (tyX1 k) := by decide +kernel
abbrev cX1_init : ByteArray := prog_3_method_1_code
def yX1_init : MethodName := ⟨RX1, "<init>", "()V"⟩
abbrev cX1_record : ByteArray := prog_3_method_2_code
def yX1_record : MethodName := ⟨RX1, "record", "(LGuessingHall$State;)V"⟩
abbrev cX1_takeLatest : ByteArray := prog_3_method_3_code
def yX1_takeLatest : MethodName := ⟨RX1, "takeLatest", "(LGuessingHall$State;)V"⟩
abbrev cX1_slotAt : ByteArray := prog_3_method_4_code
def yX1_slotAt : MethodName := ⟨RX1, "slotAt", "(I)LGuessingHall$State;"⟩
def RX2 : String := "GuessingHall$PastRounds"
def TX2 : u_T := fun k => match k with
  | 0 => ("GuessingHall$PastRounds", "size", "I", false)
  | 1 => ("GuessingHall$PastRounds", "word", "LGuessingHall$Row;", true)
  | 2 => ("GuessingHall$PastRounds", "winner", "LGuessingHall$Row;", true)
  | 3 => ("GuessingHall$PastRounds", "misses", "LGuessingHall$Row;", true)
  | _ => ("GuessingHall$PastRounds", "stake", "LGuessingHall$Row;", true)
def tyX2 : Nat → FieldType := fun k => match k with
  | 0 => .int
  | 1 => .object "GuessingHall$Row"
  | 2 => .object "GuessingHall$Row"
  | 3 => .object "GuessingHall$Row"
  | _ => .object "GuessingHall$Row"
abbrev wsX20 : List Cond := u_ws RX2 TX2 5
theorem nmX2 : ∀ a, a < 5 → ∀ b, b < 5 → a ≠ b → (TX2 a).2.1 ≠ (TX2 b).2.1 := by decide +kernel
theorem tyX2_ok : ∀ k, k < 5 → parseFieldDescriptor (TX2 k).2.2.1 = some (tyX2 k) := by decide +kernel
abbrev cX2_init : ByteArray := prog_4_method_1_code
def yX2_init : MethodName := ⟨RX2, "<init>", "()V"⟩
abbrev cX2_copyFrom : ByteArray := prog_4_method_2_code
def yX2_copyFrom : MethodName := ⟨RX2, "copyFrom", "(LGuessingHall$PastRounds;)V"⟩
abbrev cX2_putFirst : ByteArray := prog_4_method_3_code
def yX2_putFirst : MethodName := ⟨RX2, "putFirst", "(LGuessingHall$Round;I)V"⟩
def RX3 : String := "GuessingHall$Round"
def TX3 : u_T := fun k => match k with
  | 0 => ("GuessingHall$Round", "running", "Z", false)
  | 1 => ("GuessingHall$Round", "word", "I", false)
  | 2 => ("GuessingHall$Round", "stake", "I", false)
  | 3 => ("GuessingHall$Round", "turn", "I", false)
  | 4 => ("GuessingHall$Round", "pot", "I", false)
  | 5 => ("GuessingHall$Round", "misses", "I", false)
  | _ => ("GuessingHall$Round", "guessed", "I", false)
def tyX3 : Nat → FieldType := fun k => match k with
  | 0 => .boolean
  | 1 => .int
  | 2 => .int
  | 3 => .int
  | 4 => .int
  | 5 => .int
  | _ => .int
abbrev wsX30 : List Cond := u_ws RX3 TX3 7
theorem nmX3 : ∀ a, a < 7 → ∀ b, b < 7 → a ≠ b → (TX3 a).2.1 ≠ (TX3 b).2.1 := by decide +kernel
theorem tyX3_ok : ∀ k, k < 7 → parseFieldDescriptor (TX3 k).2.2.1 = some (tyX3 k) := by decide +kernel
abbrev cX3_init : ByteArray := prog_5_method_1_code
def yX3_init : MethodName := ⟨RX3, "<init>", "()V"⟩
abbrev cX3_copyFrom : ByteArray := prog_5_method_2_code
def yX3_copyFrom : MethodName := ⟨RX3, "copyFrom", "(LGuessingHall$Round;)V"⟩
abbrev cX3_takes : ByteArray := prog_5_method_3_code
def yX3_takes : MethodName := ⟨RX3, "takes", "(I)Z"⟩
abbrev cX3_takeFromPot : ByteArray := prog_5_method_4_code
def yX3_takeFromPot : MethodName := ⟨RX3, "takeFromPot", "(I)I"⟩
def RX4 : String := "GuessingHall$Row"
def TX4 : u_T := fun k => match k with
  | _ => ("GuessingHall$Row", "cells", "[I", true)
def tyX4 : Nat → FieldType := fun k => match k with
  | _ => .array .int
abbrev wsX40 : List Cond := u_ws RX4 TX4 1
theorem nmX4 : ∀ a, a < 1 → ∀ b, b < 1 → a ≠ b → (TX4 a).2.1 ≠ (TX4 b).2.1 := by decide +kernel
theorem tyX4_ok : ∀ k, k < 1 → parseFieldDescriptor (TX4 k).2.2.1 = some (tyX4 k) := by decide +kernel
abbrev cX4_init : ByteArray := prog_6_method_1_code
def yX4_init : MethodName := ⟨RX4, "<init>", "(I)V"⟩
abbrev cX4_at : ByteArray := prog_6_method_2_code
def yX4_at : MethodName := ⟨RX4, "at", "(I)I"⟩
abbrev cX4_put : ByteArray := prog_6_method_3_code
def yX4_put : MethodName := ⟨RX4, "put", "(II)V"⟩
abbrev cX4_add : ByteArray := prog_6_method_4_code
def yX4_add : MethodName := ⟨RX4, "add", "(II)V"⟩
abbrev cX4_copyFrom : ByteArray := prog_6_method_5_code
def yX4_copyFrom : MethodName := ⟨RX4, "copyFrom", "(LGuessingHall$Row;)V"⟩
def RX5 : String := "GuessingHall$State"
def TX5 : u_T := fun k => match k with
  | 0 => ("GuessingHall$State", "words", "LGuessingHall$Words;", true)
  | 1 => ("GuessingHall$State", "bench", "LGuessingHall$Bench;", true)
  | 2 => ("GuessingHall$State", "round", "LGuessingHall$Round;", true)
  | 3 => ("GuessingHall$State", "past", "LGuessingHall$PastRounds;", true)
  | 4 => ("GuessingHall$State", "rounds", "I", false)
  | 5 => ("GuessingHall$State", "starter", "I", false)
  | 6 => ("GuessingHall$State", "house", "I", false)
  | 7 => ("GuessingHall$State", "drawNumber", "I", false)
  | _ => ("GuessingHall$State", "missLimit", "I", false)
def tyX5 : Nat → FieldType := fun k => match k with
  | 0 => .object "GuessingHall$Words"
  | 1 => .object "GuessingHall$Bench"
  | 2 => .object "GuessingHall$Round"
  | 3 => .object "GuessingHall$PastRounds"
  | 4 => .int
  | 5 => .int
  | 6 => .int
  | 7 => .int
  | _ => .int
abbrev wsX50 : List Cond := u_ws RX5 TX5 9
theorem nmX5 : ∀ a, a < 9 → ∀ b, b < 9 → a ≠ b → (TX5 a).2.1 ≠ (TX5 b).2.1 := by decide +kernel
theorem tyX5_ok : ∀ k, k < 9 → parseFieldDescriptor (TX5 k).2.2.1 = some (tyX5 k) := by decide +kernel
abbrev cX5_init : ByteArray := prog_7_method_1_code
def yX5_init : MethodName := ⟨RX5, "<init>", "()V"⟩
abbrev cX5_copyFrom : ByteArray := prog_7_method_2_code
def yX5_copyFrom : MethodName := ⟨RX5, "copyFrom", "(LGuessingHall$State;)V"⟩
abbrev cX5_canBegin : ByteArray := prog_7_method_3_code
def yX5_canBegin : MethodName := ⟨RX5, "canBegin", "(I)Z"⟩
abbrev cX5_beginRound : ByteArray := prog_7_method_4_code
def yX5_beginRound : MethodName := ⟨RX5, "beginRound", "(I)V"⟩
abbrev cX5_guessLetter : ByteArray := prog_7_method_5_code
def yX5_guessLetter : MethodName := ⟨RX5, "guessLetter", "(I)I"⟩
abbrev cX5_payForPlaces : ByteArray := prog_7_method_6_code
def yX5_payForPlaces : MethodName := ⟨RX5, "payForPlaces", "(IIZ)V"⟩
abbrev cX5_tellWord : ByteArray := prog_7_method_7_code
def yX5_tellWord : MethodName := ⟨RX5, "tellWord", "(I)Z"⟩
abbrev cX5_countMiss : ByteArray := prog_7_method_8_code
def yX5_countMiss : MethodName := ⟨RX5, "countMiss", "()V"⟩
abbrev cX5_winRound : ByteArray := prog_7_method_9_code
def yX5_winRound : MethodName := ⟨RX5, "winRound", "()V"⟩
abbrev cX5_endRound : ByteArray := prog_7_method_10_code
def yX5_endRound : MethodName := ⟨RX5, "endRound", "(I)V"⟩
abbrev cX5_openPlaces : ByteArray := prog_7_method_11_code
def yX5_openPlaces : MethodName := ⟨RX5, "openPlaces", "()I"⟩
abbrev cX5_fitting : ByteArray := prog_7_method_12_code
def yX5_fitting : MethodName := ⟨RX5, "fitting", "()I"⟩
abbrev cX5_likeliestLetter : ByteArray := prog_7_method_13_code
def yX5_likeliestLetter : MethodName := ⟨RX5, "likeliestLetter", "(I)I"⟩
abbrev cX5_sharpestLetter : ByteArray := prog_7_method_14_code
def yX5_sharpestLetter : MethodName := ⟨RX5, "sharpestLetter", "(I)I"⟩
def RX6 : String := "GuessingHall$Text"
def TX6 : u_T := fun k => match k with
  | 0 => ("GuessingHall$Text", "length", "I", false)
  | 1 => ("GuessingHall$Text", "faultPlace", "I", false)
  | 2 => ("GuessingHall$Text", "faultReason", "I", false)
  | 3 => ("GuessingHall$Text", "list", "LGuessingHall$Words;", true)
  | 4 => ("GuessingHall$Text", "characters", "LGuessingHall$Row;", true)
  | _ => ("GuessingHall$Text", "position", "I", false)
def tyX6 : Nat → FieldType := fun k => match k with
  | 0 => .int
  | 1 => .int
  | 2 => .int
  | 3 => .object "GuessingHall$Words"
  | 4 => .object "GuessingHall$Row"
  | _ => .int
abbrev wsX60 : List Cond := u_ws RX6 TX6 6
theorem nmX6 : ∀ a, a < 6 → ∀ b, b < 6 → a ≠ b → (TX6 a).2.1 ≠ (TX6 b).2.1 := by decide +kernel
theorem tyX6_ok : ∀ k, k < 6 → parseFieldDescriptor (TX6 k).2.2.1 = some (tyX6 k) := by decide +kernel
abbrev cX6_init : ByteArray := prog_8_method_1_code
def yX6_init : MethodName := ⟨RX6, "<init>", "()V"⟩
abbrev cX6_append : ByteArray := prog_8_method_2_code
def yX6_append : MethodName := ⟨RX6, "append", "(I)V"⟩
abbrev cX6_hasFault : ByteArray := prog_8_method_3_code
def yX6_hasFault : MethodName := ⟨RX6, "hasFault", "()Z"⟩
abbrev cX6_scan : ByteArray := prog_8_method_4_code
def yX6_scan : MethodName := ⟨RX6, "scan", "()V"⟩
abbrev cX6_scanWord : ByteArray := prog_8_method_5_code
def yX6_scanWord : MethodName := ⟨RX6, "scanWord", "()V"⟩
abbrev cX6_addWord : ByteArray := prog_8_method_6_code
def yX6_addWord : MethodName := ⟨RX6, "addWord", "(I)V"⟩
abbrev cX6_scanLetters : ByteArray := prog_8_method_7_code
def yX6_scanLetters : MethodName := ⟨RX6, "scanLetters", "()Z"⟩
abbrev cX6_scanWeight : ByteArray := prog_8_method_8_code
def yX6_scanWeight : MethodName := ⟨RX6, "scanWeight", "()Z"⟩
abbrev cX6_scanSign : ByteArray := prog_8_method_9_code
def yX6_scanSign : MethodName := ⟨RX6, "scanSign", "(I)Z"⟩
abbrev cX6_fail : ByteArray := prog_8_method_10_code
def yX6_fail : MethodName := ⟨RX6, "fail", "(II)Z"⟩
abbrev cX6_characterAt : ByteArray := prog_8_method_11_code
def yX6_characterAt : MethodName := ⟨RX6, "characterAt", "(I)I"⟩
abbrev cX6_isSmallLetter : ByteArray := prog_8_method_12_code
def yX6_isSmallLetter : MethodName := ⟨RX6, "isSmallLetter", "(I)Z"⟩
def RX7 : String := "GuessingHall$Words"
def TX7 : u_T := fun k => match k with
  | 0 => ("GuessingHall$Words", "size", "I", false)
  | 1 => ("GuessingHall$Words", "length", "LGuessingHall$Row;", true)
  | 2 => ("GuessingHall$Words", "weight", "LGuessingHall$Row;", true)
  | 3 => ("GuessingHall$Words", "drawn", "LGuessingHall$Row;", true)
  | _ => ("GuessingHall$Words", "letters", "LGuessingHall$Row;", true)
def tyX7 : Nat → FieldType := fun k => match k with
  | 0 => .int
  | 1 => .object "GuessingHall$Row"
  | 2 => .object "GuessingHall$Row"
  | 3 => .object "GuessingHall$Row"
  | _ => .object "GuessingHall$Row"
abbrev wsX70 : List Cond := u_ws RX7 TX7 5
theorem nmX7 : ∀ a, a < 5 → ∀ b, b < 5 → a ≠ b → (TX7 a).2.1 ≠ (TX7 b).2.1 := by decide +kernel
theorem tyX7_ok : ∀ k, k < 5 → parseFieldDescriptor (TX7 k).2.2.1 = some (tyX7 k) := by decide +kernel
abbrev cX7_init : ByteArray := prog_9_method_1_code
def yX7_init : MethodName := ⟨RX7, "<init>", "()V"⟩
abbrev cX7_copyFrom : ByteArray := prog_9_method_2_code
def yX7_copyFrom : MethodName := ⟨RX7, "copyFrom", "(LGuessingHall$Words;)V"⟩
abbrev cX7_has : ByteArray := prog_9_method_3_code
def yX7_has : MethodName := ⟨RX7, "has", "(I)Z"⟩
abbrev cX7_letterAt : ByteArray := prog_9_method_4_code
def yX7_letterAt : MethodName := ⟨RX7, "letterAt", "(II)I"⟩
abbrev cX7_putLetter : ByteArray := prog_9_method_5_code
def yX7_putLetter : MethodName := ⟨RX7, "putLetter", "(III)V"⟩
abbrev cX7_letterSet : ByteArray := prog_9_method_6_code
def yX7_letterSet : MethodName := ⟨RX7, "letterSet", "(I)I"⟩
abbrev cX7_placesOf : ByteArray := prog_9_method_7_code
def yX7_placesOf : MethodName := ⟨RX7, "placesOf", "(II)I"⟩
abbrev cX7_areSame : ByteArray := prog_9_method_8_code
def yX7_areSame : MethodName := ⟨RX7, "areSame", "(II)Z"⟩
abbrev cX7_weightOf : ByteArray := prog_9_method_9_code
def yX7_weightOf : MethodName := ⟨RX7, "weightOf", "(I)I"⟩
abbrev cX7_weightSum : ByteArray := prog_9_method_10_code
def yX7_weightSum : MethodName := ⟨RX7, "weightSum", "()I"⟩
abbrev cX7_drawnBy : ByteArray := prog_9_method_11_code
def yX7_drawnBy : MethodName := ⟨RX7, "drawnBy", "(I)I"⟩
abbrev cX7_fitting : ByteArray := prog_9_method_12_code
def yX7_fitting : MethodName := ⟨RX7, "fitting", "(II)I"⟩
abbrev cX7_looksLike : ByteArray := prog_9_method_13_code
def yX7_looksLike : MethodName := ⟨RX7, "looksLike", "(III)Z"⟩
abbrev cX7_weightHaving : ByteArray := prog_9_method_14_code
def yX7_weightHaving : MethodName := ⟨RX7, "weightHaving", "(II)I"⟩
abbrev cX7_largestGroup : ByteArray := prog_9_method_15_code
def yX7_largestGroup : MethodName := ⟨RX7, "largestGroup", "(II)I"⟩
abbrev cX7_groupOf : ByteArray := prog_9_method_16_code
def yX7_groupOf : MethodName := ⟨RX7, "groupOf", "(III)I"⟩
def RX8 : String := "GuessingHall"
def TX8 : u_T := fun k => match k with
  | 0 => ("GuessingHall", "now", "LGuessingHall$State;", true)
  | 1 => ("GuessingHall", "snapshot", "LGuessingHall$State;", true)
  | 2 => ("GuessingHall", "history", "LGuessingHall$History;", true)
  | 3 => ("GuessingHall", "text", "LGuessingHall$Text;", true)
  | _ => ("GuessingHall", "hasSnapshot", "Z", false)
def tyX8 : Nat → FieldType := fun k => match k with
  | 0 => .object "GuessingHall$State"
  | 1 => .object "GuessingHall$State"
  | 2 => .object "GuessingHall$History"
  | 3 => .object "GuessingHall$Text"
  | _ => .boolean
abbrev wsX80 : List Cond := u_ws RX8 TX8 5
theorem nmX8 : ∀ a, a < 5 → ∀ b, b < 5 → a ≠ b → (TX8 a).2.1 ≠ (TX8 b).2.1 := by decide +kernel
theorem tyX8_ok : ∀ k, k < 5 → parseFieldDescriptor (TX8 k).2.2.1 = some (tyX8 k) := by decide +kernel
abbrev cX8_init : ByteArray := prog_1_method_1_code
def yX8_init : MethodName := ⟨RX8, "<init>", "()V"⟩
abbrev cX8_word : ByteArray := prog_1_method_2_code
def yX8_word : MethodName := ⟨RX8, "word", "(II)I"⟩
abbrev cX8_seat : ByteArray := prog_1_method_3_code
def yX8_seat : MethodName := ⟨RX8, "seat", "(I)I"⟩
abbrev cX8_lend : ByteArray := prog_1_method_4_code
def yX8_lend : MethodName := ⟨RX8, "lend", "(III)I"⟩
abbrev cX8_set : ByteArray := prog_1_method_5_code
def yX8_set : MethodName := ⟨RX8, "set", "(II)I"⟩
abbrev cX8_seed : ByteArray := prog_1_method_6_code
def yX8_seed : MethodName := ⟨RX8, "seed", "(I)I"⟩
abbrev cX8_begin : ByteArray := prog_1_method_7_code
def yX8_begin : MethodName := ⟨RX8, "begin", "(I)I"⟩
abbrev cX8_guess : ByteArray := prog_1_method_8_code
def yX8_guess : MethodName := ⟨RX8, "guess", "(I)I"⟩
abbrev cX8_tell : ByteArray := prog_1_method_9_code
def yX8_tell : MethodName := ⟨RX8, "tell", "(I)I"⟩
abbrev cX8_whisper : ByteArray := prog_1_method_10_code
def yX8_whisper : MethodName := ⟨RX8, "whisper", "(III)I"⟩
abbrev cX8_wordOf : ByteArray := prog_1_method_11_code
def yX8_wordOf : MethodName := ⟨RX8, "wordOf", "(II)I"⟩
abbrev cX8_playerOf : ByteArray := prog_1_method_12_code
def yX8_playerOf : MethodName := ⟨RX8, "playerOf", "(II)I"⟩
abbrev cX8_open : ByteArray := prog_1_method_13_code
def yX8_open : MethodName := ⟨RX8, "open", "(I)I"⟩
abbrev cX8_round : ByteArray := prog_1_method_14_code
def yX8_round : MethodName := ⟨RX8, "round", "(II)I"⟩
abbrev cX8_count : ByteArray := prog_1_method_15_code
def yX8_count : MethodName := ⟨RX8, "count", "(I)I"⟩
abbrev cX8_fits : ByteArray := prog_1_method_16_code
def yX8_fits : MethodName := ⟨RX8, "fits", "(I)I"⟩
abbrev cX8_letterOf : ByteArray := prog_1_method_17_code
def yX8_letterOf : MethodName := ⟨RX8, "letterOf", "(II)I"⟩
abbrev cX8_sharpest : ByteArray := prog_1_method_18_code
def yX8_sharpest : MethodName := ⟨RX8, "sharpest", "()I"⟩
abbrev cX8_next : ByteArray := prog_1_method_19_code
def yX8_next : MethodName := ⟨RX8, "next", "()I"⟩
abbrev cX8_keep : ByteArray := prog_1_method_20_code
def yX8_keep : MethodName := ⟨RX8, "keep", "()I"⟩
abbrev cX8_restore : ByteArray := prog_1_method_21_code
def yX8_restore : MethodName := ⟨RX8, "restore", "()I"⟩
abbrev cX8_undo : ByteArray := prog_1_method_22_code
def yX8_undo : MethodName := ⟨RX8, "undo", "()I"⟩
abbrev cX8_type : ByteArray := prog_1_method_23_code
def yX8_type : MethodName := ⟨RX8, "type", "(I)I"⟩
abbrev cX8_clearText : ByteArray := prog_1_method_24_code
def yX8_clearText : MethodName := ⟨RX8, "clearText", "()I"⟩
abbrev cX8_fault : ByteArray := prog_1_method_25_code
def yX8_fault : MethodName := ⟨RX8, "fault", "(I)I"⟩
abbrev cX8_read : ByteArray := prog_1_method_26_code
def yX8_read : MethodName := ⟨RX8, "read", "()I"⟩
abbrev cX8_fitOf : ByteArray := prog_1_method_27_code
def yX8_fitOf : MethodName := ⟨RX8, "fitOf", "(I)I"⟩
abbrev cX8_letterAtCode : ByteArray := prog_1_method_28_code
def yX8_letterAtCode : MethodName := ⟨RX8, "letterAtCode", "(II)I"⟩
abbrev cX8_countOfRound : ByteArray := prog_1_method_29_code
def yX8_countOfRound : MethodName := ⟨RX8, "countOfRound", "(I)I"⟩
abbrev cX8_countOfHall : ByteArray := prog_1_method_30_code
def yX8_countOfHall : MethodName := ⟨RX8, "countOfHall", "(I)I"⟩
abbrev cX8_isBetween : ByteArray := prog_1_method_31_code
def yX8_isBetween : MethodName := ⟨RX8, "isBetween", "(III)Z"⟩
abbrev cX8_isLetter : ByteArray := prog_1_method_32_code
def yX8_isLetter : MethodName := ⟨RX8, "isLetter", "(I)Z"⟩
abbrev cX8_holds : ByteArray := prog_1_method_33_code
def yX8_holds : MethodName := ⟨RX8, "holds", "(II)Z"⟩
abbrev cX8_numberBehind : ByteArray := prog_1_method_34_code
def yX8_numberBehind : MethodName := ⟨RX8, "numberBehind", "(I)I"⟩
abbrev cX8_chanceOf : ByteArray := prog_1_method_35_code
def yX8_chanceOf : MethodName := ⟨RX8, "chanceOf", "(II)F"⟩
abbrev cX8_bitsOf : ByteArray := prog_1_method_36_code
def yX8_bitsOf : MethodName := ⟨RX8, "bitsOf", "(F)I"⟩
def RX9 : String := "GuessingHallModel"
def TX9 : u_T := fun k => match k with
  | 0 => ("GuessingHallModel", "s", "[I", true)
  | 1 => ("GuessingHallModel", "past", "[I", true)
  | 2 => ("GuessingHallModel", "kept", "[I", true)
  | 3 => ("GuessingHallModel", "isKept", "Z", false)
  | 4 => ("GuessingHallModel", "pasts", "I", false)
  | 5 => ("GuessingHallModel", "text", "[I", true)
  | 6 => ("GuessingHallModel", "typed", "I", false)
  | 7 => ("GuessingHallModel", "spot", "I", false)
  | 8 => ("GuessingHallModel", "reason", "I", false)
  | 9 => ("GuessingHallModel", "words", "I", false)
  | _ => ("GuessingHallModel", "list", "[I", true)
def tyX9 : Nat → FieldType := fun k => match k with
  | 0 => .array .int
  | 1 => .array .int
  | 2 => .array .int
  | 3 => .boolean
  | 4 => .int
  | 5 => .array .int
  | 6 => .int
  | 7 => .int
  | 8 => .int
  | 9 => .int
  | _ => .array .int
abbrev wsX90 : List Cond := u_ws RX9 TX9 11
theorem nmX9 : ∀ a, a < 11 → ∀ b, b < 11 → a ≠ b → (TX9 a).2.1 ≠ (TX9 b).2.1 := by decide +kernel
theorem tyX9_ok : ∀ k, k < 11 → parseFieldDescriptor (TX9 k).2.2.1 = some (tyX9 k) := by decide +kernel
abbrev cX9_init : ByteArray := prog_11_method_1_code
def yX9_init : MethodName := ⟨RX9, "<init>", "()V"⟩
abbrev cX9_in : ByteArray := prog_11_method_3_code
def yX9_in : MethodName := ⟨RX9, "in", "(III)Z"⟩
abbrev cX9_copies : ByteArray := prog_11_method_4_code
def yX9_copies : MethodName := ⟨RX9, "copies", "([I[I)V"⟩
abbrev cX9_changes : ByteArray := prog_11_method_5_code
def yX9_changes : MethodName := ⟨RX9, "changes", "()V"⟩
abbrev cX9_runs : ByteArray := prog_11_method_6_code
def yX9_runs : MethodName := ⟨RX9, "runs", "()Z"⟩
abbrev cX9_isWord : ByteArray := prog_11_method_7_code
def yX9_isWord : MethodName := ⟨RX9, "isWord", "(I)Z"⟩
abbrev cX9_isPlayer : ByteArray := prog_11_method_8_code
def yX9_isPlayer : MethodName := ⟨RX9, "isPlayer", "(I)Z"⟩
abbrev cX9_of : ByteArray := prog_11_method_9_code
def yX9_of : MethodName := ⟨RX9, "of", "(II)I"⟩
abbrev cX9_letterAt : ByteArray := prog_11_method_10_code
def yX9_letterAt : MethodName := ⟨RX9, "letterAt", "(II)I"⟩
abbrev cX9_at : ByteArray := prog_11_method_11_code
def yX9_at : MethodName := ⟨RX9, "at", "(II)I"⟩
abbrev cX9_places : ByteArray := prog_11_method_12_code
def yX9_places : MethodName := ⟨RX9, "places", "(II)I"⟩
abbrev cX9_ones : ByteArray := prog_11_method_13_code
def yX9_ones : MethodName := ⟨RX9, "ones", "(I)I"⟩
abbrev cX9_word : ByteArray := prog_11_method_14_code
def yX9_word : MethodName := ⟨RX9, "word", "(II)I"⟩
abbrev cX9_seat : ByteArray := prog_11_method_15_code
def yX9_seat : MethodName := ⟨RX9, "seat", "(I)I"⟩
abbrev cX9_lend : ByteArray := prog_11_method_16_code
def yX9_lend : MethodName := ⟨RX9, "lend", "(III)I"⟩
abbrev cX9_set : ByteArray := prog_11_method_17_code
def yX9_set : MethodName := ⟨RX9, "set", "(II)I"⟩
abbrev cX9_seed : ByteArray := prog_11_method_18_code
def yX9_seed : MethodName := ⟨RX9, "seed", "(I)I"⟩
abbrev cX9_weights : ByteArray := prog_11_method_19_code
def yX9_weights : MethodName := ⟨RX9, "weights", "()I"⟩
abbrev cX9_drawn : ByteArray := prog_11_method_20_code
def yX9_drawn : MethodName := ⟨RX9, "drawn", "()I"⟩
abbrev cX9_wordBy : ByteArray := prog_11_method_21_code
def yX9_wordBy : MethodName := ⟨RX9, "wordBy", "(I)I"⟩
abbrev cX9_canPay : ByteArray := prog_11_method_22_code
def yX9_canPay : MethodName := ⟨RX9, "canPay", "(I)Z"⟩
abbrev cX9_begin : ByteArray := prog_11_method_23_code
def yX9_begin : MethodName := ⟨RX9, "begin", "(I)I"⟩
abbrev cX9_ends : ByteArray := prog_11_method_24_code
def yX9_ends : MethodName := ⟨RX9, "ends", "(I)V"⟩
abbrev cX9_misses : ByteArray := prog_11_method_25_code
def yX9_misses : MethodName := ⟨RX9, "misses", "()V"⟩
abbrev cX9_hits : ByteArray := prog_11_method_26_code
def yX9_hits : MethodName := ⟨RX9, "hits", "(IZI)V"⟩
abbrev cX9_guess : ByteArray := prog_11_method_27_code
def yX9_guess : MethodName := ⟨RX9, "guess", "(I)I"⟩
abbrev cX9_tell : ByteArray := prog_11_method_28_code
def yX9_tell : MethodName := ⟨RX9, "tell", "(I)I"⟩
abbrev cX9_whisper : ByteArray := prog_11_method_29_code
def yX9_whisper : MethodName := ⟨RX9, "whisper", "(III)I"⟩
abbrev cX9_fitsOne : ByteArray := prog_11_method_30_code
def yX9_fitsOne : MethodName := ⟨RX9, "fitsOne", "(I)Z"⟩
abbrev cX9_fitting : ByteArray := prog_11_method_31_code
def yX9_fitting : MethodName := ⟨RX9, "fitting", "()I"⟩
abbrev cX9_weightsOf : ByteArray := prog_11_method_32_code
def yX9_weightsOf : MethodName := ⟨RX9, "weightsOf", "(II)I"⟩
abbrev cX9_bestLetter : ByteArray := prog_11_method_33_code
def yX9_bestLetter : MethodName := ⟨RX9, "bestLetter", "(I)I"⟩
abbrev cX9_fits : ByteArray := prog_11_method_34_code
def yX9_fits : MethodName := ⟨RX9, "fits", "(I)I"⟩
abbrev cX9_greatest : ByteArray := prog_11_method_35_code
def yX9_greatest : MethodName := ⟨RX9, "greatest", "(II)I"⟩
abbrev cX9_letterOf : ByteArray := prog_11_method_36_code
def yX9_letterOf : MethodName := ⟨RX9, "letterOf", "(II)I"⟩
abbrev cX9_sharpest : ByteArray := prog_11_method_37_code
def yX9_sharpest : MethodName := ⟨RX9, "sharpest", "()I"⟩
abbrev cX9_next : ByteArray := prog_11_method_38_code
def yX9_next : MethodName := ⟨RX9, "next", "()I"⟩
abbrev cX9_lettersOf : ByteArray := prog_11_method_39_code
def yX9_lettersOf : MethodName := ⟨RX9, "lettersOf", "(I)I"⟩
abbrev cX9_wordOf : ByteArray := prog_11_method_40_code
def yX9_wordOf : MethodName := ⟨RX9, "wordOf", "(II)I"⟩
abbrev cX9_playerOf : ByteArray := prog_11_method_41_code
def yX9_playerOf : MethodName := ⟨RX9, "playerOf", "(II)I"⟩
abbrev cX9_open : ByteArray := prog_11_method_42_code
def yX9_open : MethodName := ⟨RX9, "open", "(I)I"⟩
abbrev cX9_round : ByteArray := prog_11_method_43_code
def yX9_round : MethodName := ⟨RX9, "round", "(II)I"⟩
abbrev cX9_count : ByteArray := prog_11_method_44_code
def yX9_count : MethodName := ⟨RX9, "count", "(I)I"⟩
abbrev cX9_keep : ByteArray := prog_11_method_45_code
def yX9_keep : MethodName := ⟨RX9, "keep", "()I"⟩
abbrev cX9_restore : ByteArray := prog_11_method_46_code
def yX9_restore : MethodName := ⟨RX9, "restore", "()I"⟩
abbrev cX9_undo : ByteArray := prog_11_method_47_code
def yX9_undo : MethodName := ⟨RX9, "undo", "()I"⟩
abbrev cX9_type : ByteArray := prog_11_method_48_code
def yX9_type : MethodName := ⟨RX9, "type", "(I)I"⟩
abbrev cX9_clearText : ByteArray := prog_11_method_49_code
def yX9_clearText : MethodName := ⟨RX9, "clearText", "()I"⟩
abbrev cX9_isAt : ByteArray := prog_11_method_50_code
def yX9_isAt : MethodName := ⟨RX9, "isAt", "(II)Z"⟩
abbrev cX9_sign : ByteArray := prog_11_method_51_code
def yX9_sign : MethodName := ⟨RX9, "sign", "(I)Z"⟩
abbrev cX9_fails : ByteArray := prog_11_method_52_code
def yX9_fails : MethodName := ⟨RX9, "fails", "(I)Z"⟩
abbrev cX9_isDouble : ByteArray := prog_11_method_53_code
def yX9_isDouble : MethodName := ⟨RX9, "isDouble", "()Z"⟩
abbrev cX9_readsLetters : ByteArray := prog_11_method_54_code
def yX9_readsLetters : MethodName := ⟨RX9, "readsLetters", "()Z"⟩
abbrev cX9_readsWeight : ByteArray := prog_11_method_55_code
def yX9_readsWeight : MethodName := ⟨RX9, "readsWeight", "()Z"⟩
abbrev cX9_readsWord : ByteArray := prog_11_method_56_code
def yX9_readsWord : MethodName := ⟨RX9, "readsWord", "()Z"⟩
abbrev cX9_isRight : ByteArray := prog_11_method_57_code
def yX9_isRight : MethodName := ⟨RX9, "isRight", "()Z"⟩
abbrev cX9_fault : ByteArray := prog_11_method_58_code
def yX9_fault : MethodName := ⟨RX9, "fault", "(I)I"⟩
abbrev cX9_read : ByteArray := prog_11_method_59_code
def yX9_read : MethodName := ⟨RX9, "read", "()I"⟩
def RJxf58ca : String := "java/lang/Float"
def TJxf58ca : u_T := fun k => match k with
  | _ => ("", "", "", false)
def tyJxf58ca : Nat → FieldType := fun k => match k with
  | _ => .int
abbrev wsJxf58ca0 : List Cond := u_ws RJxf58ca TJxf58ca 0
theorem nmJxf58ca : ∀ a, a < 0 → ∀ b, b < 0 → a ≠ b → (TJxf58ca a).2.1 ≠ (TJxf58ca b).2.1 := by decide +kernel
theorem tyJxf58ca_ok : ∀ k, k < 0 → parseFieldDescriptor (TJxf58ca k).2.2.1 = some (tyJxf58ca k) := by decide +kernel
abbrev cJxf58ca_isNaN_12338 : ByteArray := prog_12_method_6_code
def yJxf58ca_isNaN_12338 : MethodName := ⟨RJxf58ca, "isNaN", "(F)Z"⟩
abbrev cJxf58ca_floatToIntBits_5c35a : ByteArray := prog_12_method_24_code
def yJxf58ca_floatToIntBits_5c35a : MethodName := ⟨RJxf58ca, "floatToIntBits", "(F)I"⟩
def RJ6 : String := "java/lang/Integer"
def TJ6 : u_T := fun k => match k with
  | _ => ("", "", "", false)
def tyJ6 : Nat → FieldType := fun k => match k with
  | _ => .int
abbrev wsJ60 : List Cond := u_ws RJ6 TJ6 0
theorem nmJ6 : ∀ a, a < 0 → ∀ b, b < 0 → a ≠ b → (TJ6 a).2.1 ≠ (TJ6 b).2.1 := by decide +kernel
theorem tyJ6_ok : ∀ k, k < 0 → parseFieldDescriptor (TJ6 k).2.2.1 = some (tyJ6 k) := by decide +kernel
abbrev cJ6_bitCount_0f7a4 : ByteArray := prog_13_method_49_code
def yJ6_bitCount_0f7a4 : MethodName := ⟨RJ6, "bitCount", "(I)I"⟩
def RJ9 : String := "java/lang/Math"
def TJ9 : u_T := fun k => match k with
  | _ => ("", "", "", false)
def tyJ9 : Nat → FieldType := fun k => match k with
  | _ => .int
abbrev wsJ90 : List Cond := u_ws RJ9 TJ9 0
theorem nmJ9 : ∀ a, a < 0 → ∀ b, b < 0 → a ≠ b → (TJ9 a).2.1 ≠ (TJ9 b).2.1 := by decide +kernel
theorem tyJ9_ok : ∀ k, k < 0 → parseFieldDescriptor (TJ9 k).2.2.1 = some (tyJ9 k) := by decide +kernel
abbrev cJ9_abs_0f7a4 : ByteArray := prog_14_method_59_code
def yJ9_abs_0f7a4 : MethodName := ⟨RJ9, "abs", "(I)I"⟩
abbrev cJ9_max_7cf53 : ByteArray := prog_14_method_65_code
def yJ9_max_7cf53 : MethodName := ⟨RJ9, "max", "(II)I"⟩
abbrev cJ9_min_7cf53 : ByteArray := prog_14_method_69_code
def yJ9_min_7cf53 : MethodName := ⟨RJ9, "min", "(II)I"⟩
def RJ10 : String := "java/lang/System"
def TJ10 : u_T := fun k => match k with
  | _ => ("", "", "", false)
def tyJ10 : Nat → FieldType := fun k => match k with
  | _ => .int
abbrev wsJ100 : List Cond := u_ws RJ10 TJ10 0
theorem nmJ10 : ∀ a, a < 0 → ∀ b, b < 0 → a ≠ b → (TJ10 a).2.1 ≠ (TJ10 b).2.1 := by decide +kernel
theorem tyJ10_ok : ∀ k, k < 0 → parseFieldDescriptor (TJ10 k).2.2.1 = some (tyJ10 k) := by decide +kernel
def RL : String := "GuessingHallLaw"
abbrev cL_law : ByteArray := code
def yL_law : MethodName := ⟨RL, "law", "([I)Z"⟩
def wsL_law_r1 : List Cond := [Cond.classLink RL 7 RX8, Cond.instantiable RX8 5, Cond.initialized RX8, Cond.classLink RL 10 RX9, Cond.instantiable RX9 11, Cond.initialized RX9, Cond.methodLink RL 9 yX8_init, Cond.instanceMethod yX8_init, Cond.code yX8_init cX8_init 1 none, Cond.methodLink RX8 1 objectInit, Cond.instanceMethod objectInit, Cond.code objectInit ⟨#[0xb1]⟩ 1 none, Cond.classLink RX8 7 RX5, Cond.instantiable RX5 9, Cond.initialized RX5, Cond.fieldLink RX8 10 "GuessingHall" "now" "LGuessingHall$State;", Cond.fieldLink RX8 16 "GuessingHall" "snapshot" "LGuessingHall$State;", Cond.classLink RX8 19 RX1, Cond.instantiable RX1 3, Cond.initialized RX1, Cond.fieldLink RX8 22 "GuessingHall" "history" "LGuessingHall$History;", Cond.classLink RX8 26 RX6, Cond.instantiable RX6 6, Cond.initialized RX6]
def wsL_law_r2 : List Cond := [Cond.fieldLink RX8 29 "GuessingHall" "text" "LGuessingHall$Text;", Cond.fieldLink RX8 33 "GuessingHall" "hasSnapshot" "Z", Cond.instanceMethod yX5_init, Cond.code yX5_init cX5_init 1 none, Cond.methodLink RX5 3 objectInit, Cond.classLink RX5 9 RX7, Cond.instantiable RX7 5, Cond.initialized RX7, Cond.fieldLink RX5 12 "GuessingHall$State" "words" "LGuessingHall$Words;", Cond.classLink RX5 18 RX0, Cond.instantiable RX0 7, Cond.initialized RX0, Cond.fieldLink RX5 21 "GuessingHall$State" "bench" "LGuessingHall$Bench;", Cond.classLink RX5 25 RX3, Cond.instantiable RX3 7, Cond.initialized RX3, Cond.fieldLink RX5 28 "GuessingHall$State" "round" "LGuessingHall$Round;", Cond.classLink RX5 32 RX2, Cond.instantiable RX2 5, Cond.initialized RX2, Cond.fieldLink RX5 35 "GuessingHall$State" "past" "LGuessingHall$PastRounds;", Cond.fieldLink RX5 39 "GuessingHall$State" "rounds" "I", Cond.fieldLink RX5 43 "GuessingHall$State" "starter" "I", Cond.fieldLink RX5 46 "GuessingHall$State" "house" "I"]
def wsL_law_r3 : List Cond := [Cond.fieldLink RX5 49 "GuessingHall$State" "drawNumber" "I", Cond.fieldLink RX5 52 "GuessingHall$State" "missLimit" "I", Cond.instanceMethod yX7_init, Cond.code yX7_init cX7_init 1 none, Cond.methodLink RX7 3 objectInit, Cond.classLink RX7 9 RX4, Cond.instantiable RX4 1, Cond.initialized RX4, Cond.fieldLink RX7 14 "GuessingHall$Words" "length" "LGuessingHall$Row;", Cond.fieldLink RX7 20 "GuessingHall$Words" "weight" "LGuessingHall$Row;", Cond.fieldLink RX7 23 "GuessingHall$Words" "drawn" "LGuessingHall$Row;", Cond.fieldLink RX7 26 "GuessingHall$Words" "letters" "LGuessingHall$Row;", Cond.methodLink RX7 11 yX4_init, Cond.instanceMethod yX4_init, Cond.code yX4_init cX4_init 2 none, Cond.methodLink RX4 1 objectInit, Cond.methodLink RX4 7 Lib.Math.max.name, Cond.static Lib.Math.max.name, Cond.initialized "java/lang/Math", Cond.code Lib.Math.max.name Lib.Math.max.code 2 (some .int), Cond.arrayClass .int, Cond.fieldLink RX4 13 "GuessingHall$Row" "cells" "[I", Cond.instanceMethod yX0_init, Cond.code yX0_init cX0_init 1 none]
def wsL_law_r4 : List Cond := [Cond.methodLink RX0 3 objectInit, Cond.classLink RX0 9 RX4, Cond.fieldLink RX0 14 "GuessingHall$Bench" "purse" "LGuessingHall$Row;", Cond.fieldLink RX0 20 "GuessingHall$Bench" "won" "LGuessingHall$Row;", Cond.fieldLink RX0 23 "GuessingHall$Bench" "hits" "LGuessingHall$Row;", Cond.fieldLink RX0 26 "GuessingHall$Bench" "misses" "LGuessingHall$Row;", Cond.fieldLink RX0 29 "GuessingHall$Bench" "hint" "LGuessingHall$Row;", Cond.fieldLink RX0 32 "GuessingHall$Bench" "whisperer" "LGuessingHall$Row;", Cond.methodLink RX0 11 yX4_init, Cond.instanceMethod yX3_init, Cond.code yX3_init cX3_init 1 none, Cond.methodLink RX3 1 objectInit, Cond.instanceMethod yX2_init, Cond.code yX2_init cX2_init 1 none, Cond.methodLink RX2 3 objectInit, Cond.classLink RX2 9 RX4, Cond.fieldLink RX2 14 "GuessingHall$PastRounds" "word" "LGuessingHall$Row;", Cond.fieldLink RX2 20 "GuessingHall$PastRounds" "winner" "LGuessingHall$Row;", Cond.fieldLink RX2 23 "GuessingHall$PastRounds" "misses" "LGuessingHall$Row;", Cond.fieldLink RX2 26 "GuessingHall$PastRounds" "stake" "LGuessingHall$Row;", Cond.methodLink RX2 11 yX4_init, Cond.methodLink RX8 21 yX1_init, Cond.instanceMethod yX1_init, Cond.code yX1_init cX1_init 2 none]
def wsL_law_r5 : List Cond := [Cond.methodLink RX1 3 objectInit, Cond.fieldLink RX1 9 "GuessingHall$History" "size" "I", Cond.fieldLink RX1 15 "GuessingHall$History" "free" "I", Cond.classLink RX1 18 RX5, Cond.fieldLink RX1 20 "GuessingHall$History" "ring" "[LGuessingHall$State;", Cond.instanceMethod yX6_init, Cond.code yX6_init cX6_init 1 none, Cond.methodLink RX6 3 objectInit, Cond.fieldLink RX6 9 "GuessingHall$Text" "length" "I", Cond.fieldLink RX6 15 "GuessingHall$Text" "faultPlace" "I", Cond.fieldLink RX6 18 "GuessingHall$Text" "faultReason" "I", Cond.classLink RX6 21 RX7, Cond.fieldLink RX6 24 "GuessingHall$Text" "list" "LGuessingHall$Words;", Cond.classLink RX6 28 RX4, Cond.fieldLink RX6 33 "GuessingHall$Text" "characters" "LGuessingHall$Row;", Cond.fieldLink RX6 37 "GuessingHall$Text" "position" "I", Cond.methodLink RX6 30 yX4_init, Cond.methodLink RL 12 yX9_init, Cond.instanceMethod yX9_init, Cond.code yX9_init cX9_init 1 none, Cond.methodLink RX9 1 objectInit, Cond.fieldLink RX9 7 "GuessingHallModel" "s" "[I", Cond.fieldLink RX9 13 "GuessingHallModel" "past" "[I", Cond.fieldLink RX9 16 "GuessingHallModel" "kept" "[I"]
def wsL_law_r6 : List Cond := [Cond.fieldLink RX9 19 "GuessingHallModel" "text" "[I", Cond.fieldLink RX9 22 "GuessingHallModel" "list" "[I", Cond.methodLink RL 13 yX8_word, Cond.instanceMethod yX8_word, Cond.selects RX8 yX8_word yX8_word, Cond.code yX8_word cX8_word 4 (some .int), Cond.fieldLink RX8 37 "GuessingHall$State" "words" "LGuessingHall$Words;", Cond.fieldLink RX8 51 "GuessingHall$State" "round" "LGuessingHall$Round;", Cond.fieldLink RX8 55 "GuessingHall$Round" "running" "Z", Cond.fieldLink RX8 64 "GuessingHall$Words" "weight" "LGuessingHall$Row;", Cond.methodLink RX8 41 yX7_has, Cond.instanceMethod yX7_has, Cond.selects RX7 yX7_has yX7_has, Cond.code yX7_has cX7_has 2 (some .boolean), Cond.fieldLink RX7 29 "GuessingHall$Words" "size" "I", Cond.methodLink RX8 47 yX8_isBetween, Cond.static yX8_isBetween, Cond.code yX8_isBetween cX8_isBetween 3 (some .boolean), Cond.methodLink RX8 60 yX1_record, Cond.instanceMethod yX1_record, Cond.selects RX1 yX1_record yX1_record, Cond.code yX1_record cX1_record 3 none, Cond.methodLink RX1 33 Lib.Math.min.name, Cond.static Lib.Math.min.name]
def wsL_law_r7 : List Cond := [Cond.code Lib.Math.min.name Lib.Math.min.code 2 (some .int), Cond.methodLink RX1 25 yX1_slotAt, Cond.instanceMethod yX1_slotAt, Cond.selects RX1 yX1_slotAt yX1_slotAt, Cond.code yX1_slotAt cX1_slotAt 2 (some (.object "GuessingHall$State")), Cond.methodLink RX1 29 yX5_copyFrom, Cond.instanceMethod yX5_copyFrom, Cond.selects RX5 yX5_copyFrom yX5_copyFrom, Cond.code yX5_copyFrom cX5_copyFrom 2 none, Cond.methodLink RX5 55 yX7_copyFrom, Cond.instanceMethod yX7_copyFrom, Cond.selects RX7 yX7_copyFrom yX7_copyFrom, Cond.code yX7_copyFrom cX7_copyFrom 2 none, Cond.methodLink RX7 33 yX4_copyFrom, Cond.instanceMethod yX4_copyFrom, Cond.selects RX4 yX4_copyFrom yX4_copyFrom, Cond.code yX4_copyFrom cX4_copyFrom 2 none, Cond.methodLink RX4 27 Lib.Math.min.name, Cond.methodLink RX4 30 arraycopyName, Cond.native arraycopyName, Cond.static arraycopyName, Cond.initialized "java/lang/System", Cond.methodLink RX5 59 yX0_copyFrom, Cond.instanceMethod yX0_copyFrom]
def wsL_law_r8 : List Cond := [Cond.selects RX0 yX0_copyFrom yX0_copyFrom, Cond.code yX0_copyFrom cX0_copyFrom 2 none, Cond.fieldLink RX0 35 "GuessingHall$Bench" "size" "I", Cond.methodLink RX0 39 yX4_copyFrom, Cond.methodLink RX5 62 yX3_copyFrom, Cond.instanceMethod yX3_copyFrom, Cond.selects RX3 yX3_copyFrom yX3_copyFrom, Cond.code yX3_copyFrom cX3_copyFrom 2 none, Cond.fieldLink RX3 7 "GuessingHall$Round" "running" "Z", Cond.fieldLink RX3 13 "GuessingHall$Round" "word" "I", Cond.fieldLink RX3 17 "GuessingHall$Round" "stake" "I", Cond.fieldLink RX3 20 "GuessingHall$Round" "turn" "I", Cond.fieldLink RX3 23 "GuessingHall$Round" "pot" "I", Cond.fieldLink RX3 26 "GuessingHall$Round" "misses" "I", Cond.fieldLink RX3 29 "GuessingHall$Round" "guessed" "I", Cond.methodLink RX5 65 yX2_copyFrom, Cond.instanceMethod yX2_copyFrom, Cond.selects RX2 yX2_copyFrom yX2_copyFrom, Cond.code yX2_copyFrom cX2_copyFrom 2 none, Cond.fieldLink RX2 29 "GuessingHall$PastRounds" "size" "I", Cond.methodLink RX2 33 yX4_copyFrom, Cond.methodLink RX8 68 yX4_at, Cond.instanceMethod yX4_at, Cond.selects RX4 yX4_at yX4_at]
def wsL_law_r9 : List Cond := [Cond.code yX4_at cX4_at 2 (some .int), Cond.methodLink RX8 74 yX4_put, Cond.instanceMethod yX4_put, Cond.selects RX4 yX4_put yX4_put, Cond.code yX4_put cX4_put 3 none, Cond.methodLink RL 17 yX9_word, Cond.instanceMethod yX9_word, Cond.selects RX9 yX9_word yX9_word, Cond.code yX9_word cX9_word 4 (some .int), Cond.methodLink RX9 36 yX9_isWord, Cond.instanceMethod yX9_isWord, Cond.selects RX9 yX9_isWord yX9_isWord, Cond.code yX9_isWord cX9_isWord 2 (some .boolean), Cond.methodLink RX9 40 yX9_in, Cond.static yX9_in, Cond.code yX9_in cX9_in 3 (some .boolean), Cond.methodLink RX9 44 yX9_runs, Cond.instanceMethod yX9_runs, Cond.selects RX9 yX9_runs yX9_runs, Cond.code yX9_runs cX9_runs 1 (some .boolean), Cond.methodLink RX9 48 yX9_changes, Cond.instanceMethod yX9_changes, Cond.selects RX9 yX9_changes yX9_changes, Cond.code yX9_changes cX9_changes 2 none]
def wsL_law_r10 : List Cond := [Cond.fieldLink RX9 25 "GuessingHallModel" "pasts" "I", Cond.methodLink RX9 29 yX9_of, Cond.instanceMethod yX9_of, Cond.selects RX9 yX9_of yX9_of, Cond.code yX9_of cX9_of 3 (some .int), Cond.methodLink RL 18 yX8_seat, Cond.instanceMethod yX8_seat, Cond.selects RX8 yX8_seat yX8_seat, Cond.code yX8_seat cX8_seat 2 (some .int), Cond.fieldLink RX8 78 "GuessingHall$State" "bench" "LGuessingHall$Bench;", Cond.fieldLink RX8 82 "GuessingHall$Bench" "size" "I", Cond.methodLink RX8 88 yX0_add, Cond.instanceMethod yX0_add, Cond.selects RX0 yX0_add yX0_add, Cond.code yX0_add cX0_add 3 (some .int), Cond.methodLink RX0 43 yX4_put, Cond.methodLink RX0 47 yX0_dropHint, Cond.instanceMethod yX0_dropHint, Cond.selects RX0 yX0_dropHint yX0_dropHint, Cond.code yX0_dropHint cX0_dropHint 2 none, Cond.methodLink RL 22 yX9_seat, Cond.instanceMethod yX9_seat, Cond.selects RX9 yX9_seat yX9_seat, Cond.code yX9_seat cX9_seat 3 (some .int)]
def wsL_law_r11 : List Cond := [Cond.methodLink RX9 51 yX9_at, Cond.static yX9_at, Cond.code yX9_at cX9_at 2 (some .int), Cond.methodLink RL 23 yX8_lend, Cond.instanceMethod yX8_lend, Cond.selects RX8 yX8_lend yX8_lend, Cond.code yX8_lend cX8_lend 4 (some .int), Cond.fieldLink RX8 92 "GuessingHall$Bench" "purse" "LGuessingHall$Row;", Cond.methodLink RX8 91 yX0_has, Cond.instanceMethod yX0_has, Cond.selects RX0 yX0_has yX0_has, Cond.code yX0_has cX0_has 2 (some .boolean), Cond.methodLink RX8 95 yX4_add, Cond.instanceMethod yX4_add, Cond.selects RX4 yX4_add yX4_add, Cond.code yX4_add cX4_add 3 none, Cond.methodLink RX4 19 yX4_at, Cond.methodLink RX4 23 yX4_put, Cond.methodLink RL 27 yX9_lend, Cond.instanceMethod yX9_lend, Cond.selects RX9 yX9_lend yX9_lend, Cond.code yX9_lend cX9_lend 4 (some .int), Cond.methodLink RX9 54 yX9_isPlayer, Cond.instanceMethod yX9_isPlayer]
def wsL_law_r12 : List Cond := [Cond.selects RX9 yX9_isPlayer yX9_isPlayer, Cond.code yX9_isPlayer cX9_isPlayer 2 (some .boolean), Cond.methodLink RL 28 yX8_set, Cond.instanceMethod yX8_set, Cond.selects RX8 yX8_set yX8_set, Cond.code yX8_set cX8_set 4 (some .int), Cond.fieldLink RX8 97 "GuessingHall$State" "missLimit" "I", Cond.methodLink RL 31 yX9_set, Cond.instanceMethod yX9_set, Cond.selects RX9 yX9_set yX9_set, Cond.code yX9_set cX9_set 4 (some .int), Cond.methodLink RL 32 yX8_seed, Cond.instanceMethod yX8_seed, Cond.selects RX8 yX8_seed yX8_seed, Cond.code yX8_seed cX8_seed 3 (some .int), Cond.fieldLink RX8 100 "GuessingHall$State" "drawNumber" "I", Cond.methodLink RL 35 yX9_seed, Cond.instanceMethod yX9_seed, Cond.selects RX9 yX9_seed yX9_seed, Cond.code yX9_seed cX9_seed 3 (some .int), Cond.methodLink RL 36 yX8_begin, Cond.instanceMethod yX8_begin, Cond.selects RX8 yX8_begin yX8_begin, Cond.code yX8_begin cX8_begin 2 (some .int)]
def wsL_law_r13 : List Cond := [Cond.fieldLink RX8 110 "GuessingHall$Words" "length" "LGuessingHall$Row;", Cond.fieldLink RX8 113 "GuessingHall$Round" "word" "I", Cond.methodLink RX8 103 yX5_canBegin, Cond.instanceMethod yX5_canBegin, Cond.selects RX5 yX5_canBegin yX5_canBegin, Cond.code yX5_canBegin cX5_canBegin 2 (some .boolean), Cond.fieldLink RX5 68 "GuessingHall$Round" "running" "Z", Cond.fieldLink RX5 72 "GuessingHall$Words" "size" "I", Cond.fieldLink RX5 75 "GuessingHall$Bench" "size" "I", Cond.methodLink RX5 76 yX0_canAllPay, Cond.instanceMethod yX0_canAllPay, Cond.selects RX0 yX0_canAllPay yX0_canAllPay, Cond.code yX0_canAllPay cX0_canAllPay 3 (some .boolean), Cond.methodLink RX0 50 yX4_at, Cond.methodLink RX8 106 yX5_beginRound, Cond.instanceMethod yX5_beginRound, Cond.selects RX5 yX5_beginRound yX5_beginRound, Cond.code yX5_beginRound cX5_beginRound 2 none, Cond.fieldLink RX5 90 "GuessingHall$Round" "word" "I", Cond.fieldLink RX5 93 "GuessingHall$Round" "stake" "I", Cond.fieldLink RX5 96 "GuessingHall$Round" "turn" "I", Cond.fieldLink RX5 99 "GuessingHall$Round" "pot" "I", Cond.fieldLink RX5 102 "GuessingHall$Round" "misses" "I", Cond.fieldLink RX5 105 "GuessingHall$Round" "guessed" "I"]
def wsL_law_r14 : List Cond := [Cond.fieldLink RX5 112 "GuessingHall$Words" "drawn" "LGuessingHall$Row;", Cond.static yX8_numberBehind, Cond.code yX8_numberBehind cX8_numberBehind 1 (some .int), Cond.constantLong RX8 286 (1103515245), Cond.constantLong RX8 288 (12345), Cond.constantLong RX8 290 (2147483648), Cond.methodLink RX5 84 yX0_behind, Cond.instanceMethod yX0_behind, Cond.selects RX0 yX0_behind yX0_behind, Cond.code yX0_behind cX0_behind 2 (some .int), Cond.methodLink RX5 87 yX7_drawnBy, Cond.instanceMethod yX7_drawnBy, Cond.selects RX7 yX7_drawnBy yX7_drawnBy, Cond.code yX7_drawnBy cX7_drawnBy 6 (some .int), Cond.constant RX7 60 (65536), Cond.methodLink RX7 56 yX7_weightSum, Cond.instanceMethod yX7_weightSum, Cond.selects RX7 yX7_weightSum yX7_weightSum, Cond.code yX7_weightSum cX7_weightSum 1 (some .int), Cond.methodLink RX7 53 yX7_weightOf, Cond.instanceMethod yX7_weightOf, Cond.selects RX7 yX7_weightOf yX7_weightOf, Cond.code yX7_weightOf cX7_weightOf 4 (some .int), Cond.static yX8_holds]
def wsL_law_r15 : List Cond := [Cond.code yX8_holds cX8_holds 2 (some .boolean), Cond.methodLink RX7 37 yX4_at, Cond.methodLink RX5 108 yX0_takeFromAll, Cond.instanceMethod yX0_takeFromAll, Cond.selects RX0 yX0_takeFromAll yX0_takeFromAll, Cond.code yX0_takeFromAll cX0_takeFromAll 3 none, Cond.methodLink RX0 54 yX4_add, Cond.methodLink RX5 116 yX4_add, Cond.methodLink RL 39 yX9_begin, Cond.instanceMethod yX9_begin, Cond.selects RX9 yX9_begin yX9_begin, Cond.code yX9_begin cX9_begin 3 (some .int), Cond.methodLink RX9 68 yX9_canPay, Cond.instanceMethod yX9_canPay, Cond.selects RX9 yX9_canPay yX9_canPay, Cond.code yX9_canPay cX9_canPay 4 (some .boolean), Cond.methodLink RX9 71 yX9_drawn, Cond.instanceMethod yX9_drawn, Cond.selects RX9 yX9_drawn yX9_drawn, Cond.code yX9_drawn cX9_drawn 1 (some .int), Cond.constantLong RX9 57 (1103515245), Cond.constantLong RX9 59 (12345), Cond.constantLong RX9 61 (2147483648), Cond.methodLink RX9 74 yX9_wordBy]
def wsL_law_r16 : List Cond := [Cond.instanceMethod yX9_wordBy, Cond.selects RX9 yX9_wordBy yX9_wordBy, Cond.code yX9_wordBy cX9_wordBy 4 (some .int), Cond.constant RX9 63 (65536), Cond.methodLink RX9 64 yX9_weights, Cond.instanceMethod yX9_weights, Cond.selects RX9 yX9_weights yX9_weights, Cond.code yX9_weights cX9_weights 3 (some .int), Cond.methodLink RL 40 yX8_guess, Cond.instanceMethod yX8_guess, Cond.selects RX8 yX8_guess yX8_guess, Cond.code yX8_guess cX8_guess 2 (some .int), Cond.methodLink RX8 116 yX8_isLetter, Cond.static yX8_isLetter, Cond.code yX8_isLetter cX8_isLetter 1 (some .boolean), Cond.methodLink RX8 119 yX3_takes, Cond.instanceMethod yX3_takes, Cond.selects RX3 yX3_takes yX3_takes, Cond.code yX3_takes cX3_takes 2 (some .boolean), Cond.methodLink RX8 122 yX5_guessLetter, Cond.instanceMethod yX5_guessLetter, Cond.selects RX5 yX5_guessLetter yX5_guessLetter, Cond.code yX5_guessLetter cX5_guessLetter 5 (some .int), Cond.fieldLink RX5 122 "GuessingHall$Bench" "hint" "LGuessingHall$Row;"]
def wsL_law_r17 : List Cond := [Cond.fieldLink RX5 143 "GuessingHall$Bench" "hits" "LGuessingHall$Row;", Cond.fieldLink RX5 154 "GuessingHall$Words" "length" "LGuessingHall$Row;", Cond.methodLink RX5 125 yX4_at, Cond.methodLink RX5 128 yX0_dropHint, Cond.methodLink RX5 131 yX7_placesOf, Cond.instanceMethod yX7_placesOf, Cond.selects RX7 yX7_placesOf yX7_placesOf, Cond.code yX7_placesOf cX7_placesOf 6 (some .int), Cond.methodLink RX7 45 yX7_letterAt, Cond.instanceMethod yX7_letterAt, Cond.selects RX7 yX7_letterAt yX7_letterAt, Cond.code yX7_letterAt cX7_letterAt 3 (some .int), Cond.methodLink RX5 135 yJ6_bitCount_0f7a4, Cond.static yJ6_bitCount_0f7a4, Cond.initialized RJ6, Cond.code yJ6_bitCount_0f7a4 cJ6_bitCount_0f7a4 1 (some .int), Cond.constant RJ6 265 (1431655765), Cond.constant RJ6 266 (858993459), Cond.constant RJ6 267 (252645135), Cond.methodLink RX5 140 yX5_countMiss, Cond.instanceMethod yX5_countMiss, Cond.selects RX5 yX5_countMiss yX5_countMiss, Cond.code yX5_countMiss cX5_countMiss 1 none, Cond.fieldLink RX5 169 "GuessingHall$Bench" "misses" "LGuessingHall$Row;"]
def wsL_law_r18 : List Cond := [Cond.methodLink RX5 171 yX5_endRound, Cond.instanceMethod yX5_endRound, Cond.selects RX5 yX5_endRound yX5_endRound, Cond.code yX5_endRound cX5_endRound 2 none, Cond.methodLink RX5 177 yX2_putFirst, Cond.instanceMethod yX2_putFirst, Cond.selects RX2 yX2_putFirst yX2_putFirst, Cond.code yX2_putFirst cX2_putFirst 4 none, Cond.methodLink RX2 37 Lib.Math.min.name, Cond.fieldLink RX2 51 "GuessingHall$Round" "word" "I", Cond.fieldLink RX2 55 "GuessingHall$Round" "misses" "I", Cond.fieldLink RX2 57 "GuessingHall$Round" "stake" "I", Cond.methodLink RX2 43 yX4_at, Cond.methodLink RX2 47 yX4_put, Cond.methodLink RX5 181 yX0_dropHints, Cond.instanceMethod yX0_dropHints, Cond.selects RX0 yX0_dropHints yX0_dropHints, Cond.code yX0_dropHints cX0_dropHints 2 none, Cond.methodLink RX5 146 yX5_payForPlaces, Cond.instanceMethod yX5_payForPlaces, Cond.selects RX5 yX5_payForPlaces yX5_payForPlaces, Cond.code yX5_payForPlaces cX5_payForPlaces 6 none, Cond.fieldLink RX5 163 "GuessingHall$Bench" "purse" "LGuessingHall$Row;", Cond.fieldLink RX5 166 "GuessingHall$Bench" "whisperer" "LGuessingHall$Row;"]
def wsL_law_r19 : List Cond := [Cond.methodLink RX5 160 yX3_takeFromPot, Cond.instanceMethod yX3_takeFromPot, Cond.selects RX3 yX3_takeFromPot yX3_takeFromPot, Cond.code yX3_takeFromPot cX3_takeFromPot 3 (some .int), Cond.methodLink RX3 38 Lib.Math.min.name, Cond.methodLink RX5 150 yX5_openPlaces, Cond.instanceMethod yX5_openPlaces, Cond.selects RX5 yX5_openPlaces yX5_openPlaces, Cond.code yX5_openPlaces cX5_openPlaces 4 (some .int), Cond.methodLink RX5 184 yX7_letterAt, Cond.methodLink RX5 157 yX5_winRound, Cond.instanceMethod yX5_winRound, Cond.selects RX5 yX5_winRound yX5_winRound, Cond.code yX5_winRound cX5_winRound 1 none, Cond.fieldLink RX5 174 "GuessingHall$Bench" "won" "LGuessingHall$Row;", Cond.methodLink RL 43 yX9_guess, Cond.instanceMethod yX9_guess, Cond.selects RX9 yX9_guess yX9_guess, Cond.code yX9_guess cX9_guess 5 (some .int), Cond.methodLink RX9 85 yX9_places, Cond.instanceMethod yX9_places, Cond.selects RX9 yX9_places yX9_places, Cond.code yX9_places cX9_places 5 (some .int), Cond.methodLink RX9 33 yX9_letterAt]
def wsL_law_r20 : List Cond := [Cond.instanceMethod yX9_letterAt, Cond.selects RX9 yX9_letterAt yX9_letterAt, Cond.code yX9_letterAt cX9_letterAt 3 (some .int), Cond.methodLink RX9 88 yX9_misses, Cond.instanceMethod yX9_misses, Cond.selects RX9 yX9_misses yX9_misses, Cond.code yX9_misses cX9_misses 1 none, Cond.methodLink RX9 78 yX9_ends, Cond.instanceMethod yX9_ends, Cond.selects RX9 yX9_ends yX9_ends, Cond.code yX9_ends cX9_ends 3 none, Cond.methodLink RX9 91 yX9_hits, Cond.instanceMethod yX9_hits, Cond.selects RX9 yX9_hits yX9_hits, Cond.code yX9_hits cX9_hits 7 none, Cond.methodLink RX9 82 yX9_ones, Cond.static yX9_ones, Cond.code yX9_ones cX9_ones 3 (some .int), Cond.methodLink RL 44 yX8_tell, Cond.instanceMethod yX8_tell, Cond.selects RX8 yX8_tell yX8_tell, Cond.code yX8_tell cX8_tell 2 (some .int), Cond.methodLink RX8 125 yX5_tellWord, Cond.instanceMethod yX5_tellWord]
def wsL_law_r21 : List Cond := [Cond.selects RX5 yX5_tellWord yX5_tellWord, Cond.code yX5_tellWord cX5_tellWord 2 (some .boolean), Cond.methodLink RL 47 yX9_tell, Cond.instanceMethod yX9_tell, Cond.selects RX9 yX9_tell yX9_tell, Cond.code yX9_tell cX9_tell 3 (some .int), Cond.methodLink RL 48 yX8_whisper, Cond.instanceMethod yX8_whisper, Cond.selects RX8 yX8_whisper yX8_whisper, Cond.code yX8_whisper cX8_whisper 5 (some .int), Cond.methodLink RX8 128 Lib.Math.abs.name, Cond.static Lib.Math.abs.name, Cond.code Lib.Math.abs.name Lib.Math.abs.code 1 (some .int), Cond.fieldLink RX8 133 "GuessingHall$Bench" "hint" "LGuessingHall$Row;", Cond.fieldLink RX8 136 "GuessingHall$Bench" "whisperer" "LGuessingHall$Row;", Cond.methodLink RL 51 yX9_whisper, Cond.instanceMethod yX9_whisper, Cond.selects RX9 yX9_whisper yX9_whisper, Cond.code yX9_whisper cX9_whisper 6 (some .int), Cond.methodLink RL 52 yX8_wordOf, Cond.instanceMethod yX8_wordOf, Cond.selects RX8 yX8_wordOf yX8_wordOf, Cond.code yX8_wordOf cX8_wordOf 4 (some .int), Cond.fieldLink RX8 142 "GuessingHall$Words" "drawn" "LGuessingHall$Row;"]
def wsL_law_r22 : List Cond := [Cond.methodLink RX8 139 yX7_letterSet, Cond.instanceMethod yX7_letterSet, Cond.selects RX7 yX7_letterSet yX7_letterSet, Cond.code yX7_letterSet cX7_letterSet 5 (some .int), Cond.methodLink RX8 145 yX8_fitOf, Cond.instanceMethod yX8_fitOf, Cond.selects RX8 yX8_fitOf yX8_fitOf, Cond.code yX8_fitOf cX8_fitOf 2 (some .int), Cond.methodLink RX8 196 yX5_fitting, Cond.instanceMethod yX5_fitting, Cond.selects RX5 yX5_fitting yX5_fitting, Cond.code yX5_fitting cX5_fitting 1 (some .int), Cond.methodLink RX5 191 yX7_fitting, Cond.instanceMethod yX7_fitting, Cond.selects RX7 yX7_fitting yX7_fitting, Cond.code yX7_fitting cX7_fitting 5 (some .int), Cond.methodLink RX7 61 yX7_looksLike, Cond.instanceMethod yX7_looksLike, Cond.selects RX7 yX7_looksLike yX7_looksLike, Cond.code yX7_looksLike cX7_looksLike 9 (some .boolean), Cond.methodLink RX8 170 yX8_holds, Cond.methodLink RX8 148 yX8_letterAtCode, Cond.instanceMethod yX8_letterAtCode, Cond.selects RX8 yX8_letterAtCode yX8_letterAtCode]
def wsL_law_r23 : List Cond := [Cond.code yX8_letterAtCode cX8_letterAtCode 3 (some .int), Cond.methodLink RX8 164 yX7_letterAt, Cond.methodLink RL 55 yX9_wordOf, Cond.instanceMethod yX9_wordOf, Cond.selects RX9 yX9_wordOf yX9_wordOf, Cond.code yX9_wordOf cX9_wordOf 3 (some .int), Cond.methodLink RX9 116 yX9_lettersOf, Cond.instanceMethod yX9_lettersOf, Cond.selects RX9 yX9_lettersOf yX9_lettersOf, Cond.code yX9_lettersOf cX9_lettersOf 4 (some .int), Cond.methodLink RX9 95 yX9_fitsOne, Cond.instanceMethod yX9_fitsOne, Cond.selects RX9 yX9_fitsOne yX9_fitsOne, Cond.code yX9_fitsOne cX9_fitsOne 6 (some .boolean), Cond.methodLink RL 56 yX8_playerOf, Cond.instanceMethod yX8_playerOf, Cond.selects RX8 yX8_playerOf yX8_playerOf, Cond.code yX8_playerOf cX8_playerOf 4 (some .int), Cond.fieldLink RX8 152 "GuessingHall$Bench" "won" "LGuessingHall$Row;", Cond.fieldLink RX8 155 "GuessingHall$Bench" "hits" "LGuessingHall$Row;", Cond.fieldLink RX8 158 "GuessingHall$Bench" "misses" "LGuessingHall$Row;", Cond.methodLink RX8 161 yX0_hasHint, Cond.instanceMethod yX0_hasHint, Cond.selects RX0 yX0_hasHint yX0_hasHint]
def wsL_law_r24 : List Cond := [Cond.code yX0_hasHint cX0_hasHint 2 (some .boolean), Cond.methodLink RL 59 yX9_playerOf, Cond.instanceMethod yX9_playerOf, Cond.selects RX9 yX9_playerOf yX9_playerOf, Cond.code yX9_playerOf cX9_playerOf 3 (some .int), Cond.methodLink RL 60 yX8_open, Cond.instanceMethod yX8_open, Cond.selects RX8 yX8_open yX8_open, Cond.code yX8_open cX8_open 3 (some .int), Cond.fieldLink RX8 167 "GuessingHall$Round" "guessed" "I", Cond.methodLink RL 63 yX9_open, Cond.instanceMethod yX9_open, Cond.selects RX9 yX9_open yX9_open, Cond.code yX9_open cX9_open 2 (some .int), Cond.methodLink RL 64 yX8_round, Cond.instanceMethod yX8_round, Cond.selects RX8 yX8_round yX8_round, Cond.code yX8_round cX8_round 3 (some .int), Cond.fieldLink RX8 174 "GuessingHall$State" "past" "LGuessingHall$PastRounds;", Cond.fieldLink RX8 178 "GuessingHall$PastRounds" "size" "I", Cond.fieldLink RX8 181 "GuessingHall$PastRounds" "word" "LGuessingHall$Row;", Cond.fieldLink RX8 183 "GuessingHall$PastRounds" "winner" "LGuessingHall$Row;", Cond.fieldLink RX8 186 "GuessingHall$PastRounds" "misses" "LGuessingHall$Row;", Cond.fieldLink RX8 187 "GuessingHall$PastRounds" "stake" "LGuessingHall$Row;"]
def wsL_law_r25 : List Cond := [Cond.methodLink RL 67 yX9_round, Cond.instanceMethod yX9_round, Cond.selects RX9 yX9_round yX9_round, Cond.code yX9_round cX9_round 3 (some .int), Cond.methodLink RL 68 yX8_count, Cond.instanceMethod yX8_count, Cond.selects RX8 yX8_count yX8_count, Cond.code yX8_count cX8_count 2 (some .int), Cond.methodLink RX8 190 yX8_countOfRound, Cond.instanceMethod yX8_countOfRound, Cond.selects RX8 yX8_countOfRound yX8_countOfRound, Cond.code yX8_countOfRound cX8_countOfRound 2 (some .int), Cond.fieldLink RX8 266 "GuessingHall$Round" "turn" "I", Cond.fieldLink RX8 269 "GuessingHall$Round" "pot" "I", Cond.fieldLink RX8 272 "GuessingHall$Round" "misses" "I", Cond.methodLink RX8 274 yX5_openPlaces, Cond.methodLink RX8 193 yX8_countOfHall, Cond.instanceMethod yX8_countOfHall, Cond.selects RX8 yX8_countOfHall yX8_countOfHall, Cond.code yX8_countOfHall cX8_countOfHall 2 (some .int), Cond.fieldLink RX8 228 "GuessingHall$Words" "size" "I", Cond.fieldLink RX8 277 "GuessingHall$State" "rounds" "I", Cond.fieldLink RX8 280 "GuessingHall$State" "house" "I", Cond.fieldLink RX8 238 "GuessingHall$History" "size" "I"]
def wsL_law_r26 : List Cond := [Cond.fieldLink RX8 242 "GuessingHall$Text" "length" "I", Cond.methodLink RX8 283 yX7_weightSum, Cond.methodLink RL 71 yX9_count, Cond.instanceMethod yX9_count, Cond.selects RX9 yX9_count yX9_count, Cond.code yX9_count cX9_count 2 (some .int), Cond.fieldLink RX9 119 "GuessingHallModel" "typed" "I", Cond.fieldLink RX9 122 "GuessingHallModel" "isKept" "Z", Cond.methodLink RL 72 yX8_fits, Cond.instanceMethod yX8_fits, Cond.selects RX8 yX8_fits yX8_fits, Cond.code yX8_fits cX8_fits 3 (some .int), Cond.methodLink RX8 200 yJ6_bitCount_0f7a4, Cond.methodLink RX8 205 yX7_weightOf, Cond.methodLink RX8 208 yX5_likeliestLetter, Cond.instanceMethod yX5_likeliestLetter, Cond.selects RX5 yX5_likeliestLetter yX5_likeliestLetter, Cond.code yX5_likeliestLetter cX5_likeliestLetter 6 (some .int), Cond.methodLink RX5 194 yX3_takes, Cond.methodLink RX5 197 yX7_weightHaving, Cond.instanceMethod yX7_weightHaving, Cond.selects RX7 yX7_weightHaving yX7_weightHaving, Cond.code yX7_weightHaving cX7_weightHaving 5 (some .int), Cond.methodLink RX7 65 yX7_placesOf]
def wsL_law_r27 : List Cond := [Cond.methodLink RX8 211 yX7_weightHaving, Cond.methodLink RL 75 yX9_fits, Cond.instanceMethod yX9_fits, Cond.selects RX9 yX9_fits yX9_fits, Cond.code yX9_fits cX9_fits 3 (some .int), Cond.methodLink RX9 101 yX9_fitting, Cond.instanceMethod yX9_fitting, Cond.selects RX9 yX9_fitting yX9_fitting, Cond.code yX9_fitting cX9_fitting 3 (some .int), Cond.methodLink RX9 98 yX9_weightsOf, Cond.instanceMethod yX9_weightsOf, Cond.selects RX9 yX9_weightsOf yX9_weightsOf, Cond.code yX9_weightsOf cX9_weightsOf 6 (some .int), Cond.methodLink RX9 104 yX9_bestLetter, Cond.instanceMethod yX9_bestLetter, Cond.selects RX9 yX9_bestLetter yX9_bestLetter, Cond.code yX9_bestLetter cX9_bestLetter 6 (some .int), Cond.methodLink RL 76 yX8_letterOf, Cond.instanceMethod yX8_letterOf, Cond.selects RX8 yX8_letterOf yX8_letterOf, Cond.code yX8_letterOf cX8_letterOf 4 (some .int), Cond.methodLink RX8 214 yX8_chanceOf, Cond.static yX8_chanceOf, Cond.code yX8_chanceOf cX8_chanceOf 2 (some .float)]
def wsL_law_r28 : List Cond := [Cond.methodLink RX8 218 yX8_bitsOf, Cond.static yX8_bitsOf, Cond.code yX8_bitsOf cX8_bitsOf 4 (some .int), Cond.constantFloat RX8 292 (1258291200), Cond.methodLink RX8 222 yX7_largestGroup, Cond.instanceMethod yX7_largestGroup, Cond.selects RX7 yX7_largestGroup yX7_largestGroup, Cond.code yX7_largestGroup cX7_largestGroup 5 (some .int), Cond.methodLink RX7 72 Lib.Math.max.name, Cond.methodLink RX7 68 yX7_groupOf, Cond.instanceMethod yX7_groupOf, Cond.selects RX7 yX7_groupOf yX7_groupOf, Cond.code yX7_groupOf cX7_groupOf 7 (some .int), Cond.methodLink RL 79 yX9_letterOf, Cond.instanceMethod yX9_letterOf, Cond.selects RX9 yX9_letterOf yX9_letterOf, Cond.code yX9_letterOf cX9_letterOf 5 (some .int), Cond.methodLink RX9 107 yJxf58ca_floatToIntBits_5c35a, Cond.static yJxf58ca_floatToIntBits_5c35a, Cond.initialized RJxf58ca, Cond.code yJxf58ca_floatToIntBits_5c35a cJxf58ca_floatToIntBits_5c35a 1 (some .int), Cond.methodLink RJxf58ca 74 ⟨"java/lang/Float", "floatToRawIntBits", "(F)I"⟩, Cond.native ⟨"java/lang/Float", "floatToRawIntBits", "(F)I"⟩, Cond.static ⟨"java/lang/Float", "floatToRawIntBits", "(F)I"⟩]
def wsL_law_r29 : List Cond := [Cond.initialized "java/lang/Float", Cond.constant RJxf58ca 77 (2143289344), Cond.methodLink RJxf58ca 59 yJxf58ca_isNaN_12338, Cond.static yJxf58ca_isNaN_12338, Cond.code yJxf58ca_isNaN_12338 cJxf58ca_isNaN_12338 1 (some .boolean), Cond.methodLink RX9 113 yX9_greatest, Cond.instanceMethod yX9_greatest, Cond.selects RX9 yX9_greatest yX9_greatest, Cond.code yX9_greatest cX9_greatest 7 (some .int), Cond.methodLink RL 80 yX8_sharpest, Cond.instanceMethod yX8_sharpest, Cond.selects RX8 yX8_sharpest yX8_sharpest, Cond.code yX8_sharpest cX8_sharpest 1 (some .int), Cond.methodLink RX8 225 yX5_sharpestLetter, Cond.instanceMethod yX5_sharpestLetter, Cond.selects RX5 yX5_sharpestLetter yX5_sharpestLetter, Cond.code yX5_sharpestLetter cX5_sharpestLetter 6 (some .int), Cond.methodLink RX5 200 yX7_largestGroup, Cond.methodLink RL 84 yX9_sharpest, Cond.instanceMethod yX9_sharpest, Cond.selects RX9 yX9_sharpest yX9_sharpest, Cond.code yX9_sharpest cX9_sharpest 6 (some .int), Cond.methodLink RL 85 yX8_next, Cond.instanceMethod yX8_next]
def wsL_law_r30 : List Cond := [Cond.selects RX8 yX8_next yX8_next, Cond.code yX8_next cX8_next 1 (some .int), Cond.methodLink RX8 229 yX8_numberBehind, Cond.methodLink RX8 232 yX7_drawnBy, Cond.methodLink RL 88 yX9_next, Cond.instanceMethod yX9_next, Cond.selects RX9 yX9_next yX9_next, Cond.code yX9_next cX9_next 1 (some .int), Cond.methodLink RL 89 yX8_keep, Cond.instanceMethod yX8_keep, Cond.selects RX8 yX8_keep yX8_keep, Cond.code yX8_keep cX8_keep 1 (some .int), Cond.methodLink RX8 235 yX5_copyFrom, Cond.methodLink RL 92 yX9_keep, Cond.instanceMethod yX9_keep, Cond.selects RX9 yX9_keep yX9_keep, Cond.code yX9_keep cX9_keep 1 (some .int), Cond.methodLink RX9 126 yX9_copies, Cond.static yX9_copies, Cond.code yX9_copies cX9_copies 3 none, Cond.methodLink RL 93 yX8_restore, Cond.instanceMethod yX8_restore, Cond.selects RX8 yX8_restore yX8_restore, Cond.code yX8_restore cX8_restore 1 (some .int)]
def wsL_law_r31 : List Cond := [Cond.methodLink RL 96 yX9_restore, Cond.instanceMethod yX9_restore, Cond.selects RX9 yX9_restore yX9_restore, Cond.code yX9_restore cX9_restore 1 (some .int), Cond.methodLink RL 97 yX8_undo, Cond.instanceMethod yX8_undo, Cond.selects RX8 yX8_undo yX8_undo, Cond.code yX8_undo cX8_undo 1 (some .int), Cond.methodLink RX8 239 yX1_takeLatest, Cond.instanceMethod yX1_takeLatest, Cond.selects RX1 yX1_takeLatest yX1_takeLatest, Cond.code yX1_takeLatest cX1_takeLatest 4 none, Cond.methodLink RX1 39 Lib.Math.max.name, Cond.methodLink RL 100 yX9_undo, Cond.instanceMethod yX9_undo, Cond.selects RX9 yX9_undo yX9_undo, Cond.code yX9_undo cX9_undo 2 (some .int), Cond.methodLink RL 101 yX8_type, Cond.instanceMethod yX8_type, Cond.selects RX8 yX8_type yX8_type, Cond.code yX8_type cX8_type 2 (some .int), Cond.methodLink RX8 244 yX6_append, Cond.instanceMethod yX6_append, Cond.selects RX6 yX6_append yX6_append]
def wsL_law_r32 : List Cond := [Cond.code yX6_append cX6_append 2 none, Cond.methodLink RX6 40 yX4_put, Cond.methodLink RL 104 yX9_type, Cond.instanceMethod yX9_type, Cond.selects RX9 yX9_type yX9_type, Cond.code yX9_type cX9_type 2 (some .int), Cond.methodLink RL 105 yX8_clearText, Cond.instanceMethod yX8_clearText, Cond.selects RX8 yX8_clearText yX8_clearText, Cond.code yX8_clearText cX8_clearText 2 (some .int), Cond.methodLink RL 108 yX9_clearText, Cond.instanceMethod yX9_clearText, Cond.selects RX9 yX9_clearText yX9_clearText, Cond.code yX9_clearText cX9_clearText 2 (some .int), Cond.methodLink RL 109 yX8_fault, Cond.instanceMethod yX8_fault, Cond.selects RX8 yX8_fault yX8_fault, Cond.code yX8_fault cX8_fault 2 (some .int), Cond.fieldLink RX8 254 "GuessingHall$Text" "faultPlace" "I", Cond.fieldLink RX8 257 "GuessingHall$Text" "faultReason" "I", Cond.methodLink RX8 247 yX6_scan, Cond.instanceMethod yX6_scan, Cond.selects RX6 yX6_scan yX6_scan, Cond.code yX6_scan cX6_scan 2 none]
def wsL_law_r33 : List Cond := [Cond.fieldLink RX6 44 "GuessingHall$Words" "size" "I", Cond.methodLink RX6 47 yX6_scanWord, Cond.instanceMethod yX6_scanWord, Cond.selects RX6 yX6_scanWord yX6_scanWord, Cond.code yX6_scanWord cX6_scanWord 2 none, Cond.methodLink RX6 54 yX6_characterAt, Cond.instanceMethod yX6_characterAt, Cond.selects RX6 yX6_characterAt yX6_characterAt, Cond.code yX6_characterAt cX6_characterAt 2 (some .int), Cond.methodLink RX6 94 yX4_at, Cond.methodLink RX6 58 yX6_isSmallLetter, Cond.static yX6_isSmallLetter, Cond.code yX6_isSmallLetter cX6_isSmallLetter 1 (some .boolean), Cond.methodLink RX6 62 yX6_fail, Cond.instanceMethod yX6_fail, Cond.selects RX6 yX6_fail yX6_fail, Cond.code yX6_fail cX6_fail 3 (some .boolean), Cond.methodLink RX6 66 yX6_scanLetters, Cond.instanceMethod yX6_scanLetters, Cond.selects RX6 yX6_scanLetters yX6_scanLetters, Cond.code yX6_scanLetters cX6_scanLetters 2 (some .boolean), Cond.fieldLink RX6 85 "GuessingHall$Words" "length" "LGuessingHall$Row;", Cond.methodLink RX6 81 yX7_putLetter, Cond.instanceMethod yX7_putLetter]
def wsL_law_r34 : List Cond := [Cond.selects RX7 yX7_putLetter yX7_putLetter, Cond.code yX7_putLetter cX7_putLetter 4 none, Cond.methodLink RX7 41 yX4_put, Cond.methodLink RX6 69 yX6_scanSign, Cond.instanceMethod yX6_scanSign, Cond.selects RX6 yX6_scanSign yX6_scanSign, Cond.code yX6_scanSign cX6_scanSign 2 (some .boolean), Cond.methodLink RX6 72 yX6_scanWeight, Cond.instanceMethod yX6_scanWeight, Cond.selects RX6 yX6_scanWeight yX6_scanWeight, Cond.code yX6_scanWeight cX6_scanWeight 4 (some .boolean), Cond.fieldLink RX6 91 "GuessingHall$Words" "weight" "LGuessingHall$Row;", Cond.methodLink RX6 75 yX6_addWord, Cond.instanceMethod yX6_addWord, Cond.selects RX6 yX6_addWord yX6_addWord, Cond.code yX6_addWord cX6_addWord 3 none, Cond.methodLink RX6 78 yX7_areSame, Cond.instanceMethod yX7_areSame, Cond.selects RX7 yX7_areSame yX7_areSame, Cond.code yX7_areSame cX7_areSame 5 (some .boolean), Cond.methodLink RX6 50 yX6_hasFault, Cond.instanceMethod yX6_hasFault, Cond.selects RX6 yX6_hasFault yX6_hasFault, Cond.code yX6_hasFault cX6_hasFault 1 (some .boolean)]
def wsL_law_r35 : List Cond := [Cond.methodLink RX8 250 yX6_hasFault, Cond.methodLink RL 112 yX9_fault, Cond.instanceMethod yX9_fault, Cond.selects RX9 yX9_fault yX9_fault, Cond.code yX9_fault cX9_fault 2 (some .int), Cond.fieldLink RX9 130 "GuessingHallModel" "spot" "I", Cond.fieldLink RX9 137 "GuessingHallModel" "reason" "I", Cond.methodLink RX9 161 yX9_isRight, Cond.instanceMethod yX9_isRight, Cond.selects RX9 yX9_isRight yX9_isRight, Cond.code yX9_isRight cX9_isRight 2 (some .boolean), Cond.fieldLink RX9 140 "GuessingHallModel" "words" "I", Cond.methodLink RX9 158 yX9_readsWord, Cond.instanceMethod yX9_readsWord, Cond.selects RX9 yX9_readsWord yX9_readsWord, Cond.code yX9_readsWord cX9_readsWord 2 (some .boolean), Cond.methodLink RX9 133 yX9_isAt, Cond.instanceMethod yX9_isAt, Cond.selects RX9 yX9_isAt yX9_isAt, Cond.code yX9_isAt cX9_isAt 3 (some .boolean), Cond.methodLink RX9 143 yX9_fails, Cond.instanceMethod yX9_fails, Cond.selects RX9 yX9_fails yX9_fails, Cond.code yX9_fails cX9_fails 2 (some .boolean)]
def wsL_law_r36 : List Cond := [Cond.methodLink RX9 146 yX9_readsLetters, Cond.instanceMethod yX9_readsLetters, Cond.selects RX9 yX9_readsLetters yX9_readsLetters, Cond.code yX9_readsLetters cX9_readsLetters 2 (some .boolean), Cond.methodLink RX9 149 yX9_sign, Cond.instanceMethod yX9_sign, Cond.selects RX9 yX9_sign yX9_sign, Cond.code yX9_sign cX9_sign 3 (some .boolean), Cond.methodLink RX9 152 yX9_readsWeight, Cond.instanceMethod yX9_readsWeight, Cond.selects RX9 yX9_readsWeight yX9_readsWeight, Cond.code yX9_readsWeight cX9_readsWeight 2 (some .boolean), Cond.methodLink RX9 155 yX9_isDouble, Cond.instanceMethod yX9_isDouble, Cond.selects RX9 yX9_isDouble yX9_isDouble, Cond.code yX9_isDouble cX9_isDouble 4 (some .boolean), Cond.methodLink RL 113 yX8_read, Cond.instanceMethod yX8_read, Cond.selects RX8 yX8_read yX8_read, Cond.code yX8_read cX8_read 1 (some .int), Cond.fieldLink RX8 260 "GuessingHall$Text" "list" "LGuessingHall$Words;", Cond.methodLink RX8 263 yX7_copyFrom, Cond.methodLink RL 116 yX9_read, Cond.instanceMethod yX9_read]
def wsL_law_r37 : List Cond := [Cond.selects RX9 yX9_read yX9_read, Cond.code yX9_read cX9_read 3 (some .int)]
def wsL_law : List Cond := (wsL_law_r1 ++ (wsL_law_r2 ++ (wsL_law_r3 ++ (wsL_law_r4 ++ (wsL_law_r5 ++ (wsL_law_r6 ++ (wsL_law_r7 ++ (wsL_law_r8 ++ (wsL_law_r9 ++ (wsL_law_r10 ++ (wsL_law_r11 ++ (wsL_law_r12 ++ (wsL_law_r13 ++ (wsL_law_r14 ++ (wsL_law_r15 ++ (wsL_law_r16 ++ (wsL_law_r17 ++ (wsL_law_r18 ++ (wsL_law_r19 ++ (wsL_law_r20 ++ (wsL_law_r21 ++ (wsL_law_r22 ++ (wsL_law_r23 ++ (wsL_law_r24 ++ (wsL_law_r25 ++ (wsL_law_r26 ++ (wsL_law_r27 ++ (wsL_law_r28 ++ (wsL_law_r29 ++ (wsL_law_r30 ++ (wsL_law_r31 ++ (wsL_law_r32 ++ (wsL_law_r33 ++ (wsL_law_r34 ++ (wsL_law_r35 ++ (wsL_law_r36 ++ wsL_law_r37)))))))))))))))))))))))))))))))))))) ++ wsX80 ++ wsX90 ++ wsX50 ++ wsX10 ++ wsX60 ++ wsX70 ++ wsX00 ++ wsX30 ++ wsX20 ++ wsX40 ++ ([] : List Cond)
theorem inlX0 : ∀ w ∈ wsX00, w ∈ wsL_law := fun _ h => List.mem_append_left _ (List.mem_append_left _ (List.mem_append_left _ (List.mem_append_left _ (List.mem_append_right _ h))))
theorem inlX1 : ∀ w ∈ wsX10, w ∈ wsL_law := fun _ h => List.mem_append_left _ (List.mem_append_left _ (List.mem_append_left _ (List.mem_append_left _ (List.mem_append_left _ (List.mem_append_left _ (List.mem_append_left _ (List.mem_append_right _ h)))))))
theorem inlX2 : ∀ w ∈ wsX20, w ∈ wsL_law := fun _ h => List.mem_append_left _ (List.mem_append_left _ (List.mem_append_right _ h))
theorem inlX3 : ∀ w ∈ wsX30, w ∈ wsL_law := fun _ h => List.mem_append_left _ (List.mem_append_left _ (List.mem_append_left _ (List.mem_append_right _ h)))
theorem inlX4 : ∀ w ∈ wsX40, w ∈ wsL_law := fun _ h => List.mem_append_left _ (List.mem_append_right _ h)
theorem inlX5 : ∀ w ∈ wsX50, w ∈ wsL_law := fun _ h => List.mem_append_left _ (List.mem_append_left _ (List.mem_append_left _ (List.mem_append_left _ (List.mem_append_left _ (List.mem_append_left _ (List.mem_append_left _ (List.mem_append_left _ (List.mem_append_right _ h))))))))
theorem inlX6 : ∀ w ∈ wsX60, w ∈ wsL_law := fun _ h => List.mem_append_left _ (List.mem_append_left _ (List.mem_append_left _ (List.mem_append_left _ (List.mem_append_left _ (List.mem_append_left _ (List.mem_append_right _ h))))))
theorem inlX7 : ∀ w ∈ wsX70, w ∈ wsL_law := fun _ h => List.mem_append_left _ (List.mem_append_left _ (List.mem_append_left _ (List.mem_append_left _ (List.mem_append_left _ (List.mem_append_right _ h)))))
theorem inlX8 : ∀ w ∈ wsX80, w ∈ wsL_law := fun _ h => List.mem_append_left _ (List.mem_append_left _ (List.mem_append_left _ (List.mem_append_left _ (List.mem_append_left _ (List.mem_append_left _ (List.mem_append_left _ (List.mem_append_left _ (List.mem_append_left _ (List.mem_append_left _ (List.mem_append_right _ h))))))))))
theorem inlX9 : ∀ w ∈ wsX90, w ∈ wsL_law := fun _ h => List.mem_append_left _ (List.mem_append_left _ (List.mem_append_left _ (List.mem_append_left _ (List.mem_append_left _ (List.mem_append_left _ (List.mem_append_left _ (List.mem_append_left _ (List.mem_append_left _ (List.mem_append_right _ h)))))))))
abbrev vwCl : List vw_C := [(RX0, TX0, 7), (RX1, TX1, 3), (RX2, TX2, 5), (RX3, TX3, 7), (RX4, TX4, 1), (RX5, TX5, 9), (RX6, TX6, 6), (RX7, TX7, 5), (RX8, TX8, 5), (RX9, TX9, 11)]

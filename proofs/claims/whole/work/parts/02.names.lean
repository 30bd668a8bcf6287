/-! ===== BEGIN words of one list among another's, by their places ===== -/
theorem goodIn_r {big : List Cond} (ws : List Cond) (ps : List Nat) (hp : ws = ps.filterMap (fun i => big[i]?)) (h : ws.all goodWord = true) : GoodIn big ws := by
  intro w hw
  have h1 := List.all_eq_true.mp h w hw
  rw [hp] at hw
  obtain ⟨i, -, hi⟩ := List.mem_filterMap.mp hw
  have hm : w ∈ big := by first | exact List.mem_of_getElem? hi | exact List.getElem?_mem hi
  exact ⟨hm, good_of_word h1⟩
theorem goodIn_app {big a b : List Cond} (ha : GoodIn big a) (hb : GoodIn big b) : GoodIn big (a ++ b) := fun w h => (List.mem_append.mp h).elim (ha w) (hb w)
theorem goodIn_ca {big a b : List Cond} {c : Cond} (ha : GoodIn big (c :: a)) (hb : GoodIn big b) : GoodIn big (c :: (a ++ b)) := fun w h => (List.mem_cons.mp h).elim (fun e => ha w (List.mem_cons.mpr (Or.inl e))) (fun h => (List.mem_append.mp h).elim (fun h => ha w (List.mem_cons.mpr (Or.inr h))) (hb w))
theorem goodIn_sub {big ws : List Cond} (hm : ∀ w ∈ ws, w ∈ big) (h : ws.all goodWord = true) : GoodIn big ws := fun w hw => ⟨hm w hw, good_of_word (List.all_eq_true.mp h w hw)⟩
/-! ===== END ===== -/

/-! ===== BEGIN printed: names, fields, word lists, decode rows ===== -/
def RX0 : String := "ThinReadings$Fraction"
def TX0 : u_T := fun k => match k with
  | 0 => ("ThinReadings$Fraction", "upper", "I", false)
  | _ => ("ThinReadings$Fraction", "lower", "I", false)
def tyX0 : Nat → FieldType := fun k => match k with
  | 0 => .int
  | _ => .int
abbrev wsX00 : List Cond := u_ws RX0 TX0 2
theorem nmX0 : ∀ a, a < 2 → ∀ b, b < 2 → a ≠ b → (TX0 a).2.1 ≠ (TX0 b).2.1 := by decide +kernel
theorem tyX0_ok : ∀ k, k < 2 → parseFieldDescriptor (TX0 k).2.2.1 = some (tyX0 k) := by decide +kernel
abbrev cX0_init : ByteArray := prog_2_method_1_code
def yX0_init : MethodName := ⟨RX0, "<init>", "()V"⟩
abbrev cX0_assign : ByteArray := prog_2_method_2_code
def yX0_assign : MethodName := ⟨RX0, "assign", "(II)V"⟩
abbrev cX0_isBelow : ByteArray := prog_2_method_3_code
def yX0_isBelow : MethodName := ⟨RX0, "isBelow", "(II)Z"⟩
abbrev cX0_part : ByteArray := prog_2_method_4_code
def yX0_part : MethodName := ⟨RX0, "part", "(I)I"⟩
abbrev cX0_commonDivisor : ByteArray := prog_2_method_5_code
def yX0_commonDivisor : MethodName := ⟨RX0, "commonDivisor", "(II)I"⟩
def RX1 : String := "ThinReadings$History"
def TX1 : u_T := fun k => match k with
  | 0 => ("ThinReadings$History", "ring", "LThinReadings$Shelf;", true)
  | 1 => ("ThinReadings$History", "next", "I", false)
  | _ => ("ThinReadings$History", "size", "I", false)
def tyX1 : Nat → FieldType := fun k => match k with
  | 0 => .object "ThinReadings$Shelf"
  | 1 => .int
  | _ => .int
abbrev wsX10 : List Cond := u_ws RX1 TX1 3
theorem nmX1 : ∀ a, a < 3 → ∀ b, b < 3 → a ≠ b → (TX1 a).2.1 ≠ (TX1 b).2.1 := by decide +kernel
theorem tyX1_ok : ∀ k, k < 3 → parseFieldDescriptor (TX1 k).2.2.1 = some (tyX1 k) := by decide +kernel
abbrev cX1_init : ByteArray := prog_3_method_1_code
def yX1_init : MethodName := ⟨RX1, "<init>", "()V"⟩
abbrev cX1_wipe : ByteArray := prog_3_method_2_code
def yX1_wipe : MethodName := ⟨RX1, "wipe", "()V"⟩
abbrev cX1_push : ByteArray := prog_3_method_3_code
def yX1_push : MethodName := ⟨RX1, "push", "(LThinReadings$Log;)V"⟩
abbrev cX1_pop : ByteArray := prog_3_method_4_code
def yX1_pop : MethodName := ⟨RX1, "pop", "(LThinReadings$Log;)V"⟩
def RX2 : String := "ThinReadings$Lines"
def TX2 : u_T := fun k => match k with
  | 0 => ("ThinReadings$Lines", "log", "LThinReadings$Log;", true)
  | 1 => ("ThinReadings$Lines", "stretch", "[I", true)
  | 2 => ("ThinReadings$Lines", "needs", "[I", true)
  | _ => ("ThinReadings$Lines", "stretches", "I", false)
def tyX2 : Nat → FieldType := fun k => match k with
  | 0 => .object "ThinReadings$Log"
  | 1 => .array .int
  | 2 => .array .int
  | _ => .int
abbrev wsX20 : List Cond := u_ws RX2 TX2 4
theorem nmX2 : ∀ a, a < 4 → ∀ b, b < 4 → a ≠ b → (TX2 a).2.1 ≠ (TX2 b).2.1 := by decide +kernel
theorem tyX2_ok : ∀ k, k < 4 → parseFieldDescriptor (TX2 k).2.2.1 = some (tyX2 k) := by decide +kernel
abbrev cX2_init : ByteArray := prog_4_method_1_code
def yX2_init : MethodName := ⟨RX2, "<init>", "(LThinReadings$Log;)V"⟩
abbrev cX2_measureAll : ByteArray := prog_4_method_2_code
def yX2_measureAll : MethodName := ⟨RX2, "measureAll", "()V"⟩
abbrev cX2_measureNeedsFrom : ByteArray := prog_4_method_3_code
def yX2_measureNeedsFrom : MethodName := ⟨RX2, "measureNeedsFrom", "(I)V"⟩
abbrev cX2_stretchAt : ByteArray := prog_4_method_4_code
def yX2_stretchAt : MethodName := ⟨RX2, "stretchAt", "(I)I"⟩
abbrev cX2_needOf : ByteArray := prog_4_method_5_code
def yX2_needOf : MethodName := ⟨RX2, "needOf", "(II)I"⟩
abbrev cX2_span : ByteArray := prog_4_method_6_code
def yX2_span : MethodName := ⟨RX2, "span", "(II)I"⟩
abbrev cX2_offset : ByteArray := prog_4_method_7_code
def yX2_offset : MethodName := ⟨RX2, "offset", "(III)I"⟩
abbrev cX2_farthest : ByteArray := prog_4_method_8_code
def yX2_farthest : MethodName := ⟨RX2, "farthest", "(II)I"⟩
abbrev cX2_firstBeyond : ByteArray := prog_4_method_9_code
def yX2_firstBeyond : MethodName := ⟨RX2, "firstBeyond", "(III)I"⟩
abbrev cX2_measureStrip : ByteArray := prog_4_method_10_code
def yX2_measureStrip : MethodName := ⟨RX2, "measureStrip", "(IILThinReadings$Fraction;)V"⟩
abbrev cX2_measureValue : ByteArray := prog_4_method_11_code
def yX2_measureValue : MethodName := ⟨RX2, "measureValue", "(IIILThinReadings$Fraction;)V"⟩
def RX3 : String := "ThinReadings$Log"
def TX3 : u_T := fun k => match k with
  | 0 => ("ThinReadings$Log", "times", "[I", true)
  | 1 => ("ThinReadings$Log", "values", "[I", true)
  | 2 => ("ThinReadings$Log", "size", "I", false)
  | 3 => ("ThinReadings$Log", "promise", "I", false)
  | _ => ("ThinReadings$Log", "delay", "I", false)
def tyX3 : Nat → FieldType := fun k => match k with
  | 0 => .array .int
  | 1 => .array .int
  | 2 => .int
  | 3 => .int
  | _ => .int
abbrev wsX30 : List Cond := u_ws RX3 TX3 5
theorem nmX3 : ∀ a, a < 5 → ∀ b, b < 5 → a ≠ b → (TX3 a).2.1 ≠ (TX3 b).2.1 := by decide +kernel
theorem tyX3_ok : ∀ k, k < 5 → parseFieldDescriptor (TX3 k).2.2.1 = some (tyX3 k) := by decide +kernel
abbrev cX3_init : ByteArray := prog_5_method_1_code
def yX3_init : MethodName := ⟨RX3, "<init>", "()V"⟩
abbrev cX3_startAnew : ByteArray := prog_5_method_2_code
def yX3_startAnew : MethodName := ⟨RX3, "startAnew", "()V"⟩
abbrev cX3_has : ByteArray := prog_5_method_3_code
def yX3_has : MethodName := ⟨RX3, "has", "(I)Z"⟩
abbrev cX3_isKnown : ByteArray := prog_5_method_4_code
def yX3_isKnown : MethodName := ⟨RX3, "isKnown", "(I)Z"⟩
abbrev cX3_isFirst : ByteArray := prog_5_method_5_code
def yX3_isFirst : MethodName := ⟨RX3, "isFirst", "(I)Z"⟩
abbrev cX3_isLast : ByteArray := prog_5_method_6_code
def yX3_isLast : MethodName := ⟨RX3, "isLast", "(I)Z"⟩
abbrev cX3_timeAt : ByteArray := prog_5_method_7_code
def yX3_timeAt : MethodName := ⟨RX3, "timeAt", "(I)I"⟩
abbrev cX3_valueAt : ByteArray := prog_5_method_8_code
def yX3_valueAt : MethodName := ⟨RX3, "valueAt", "(I)I"⟩
abbrev cX3_isFull : ByteArray := prog_5_method_9_code
def yX3_isFull : MethodName := ⟨RX3, "isFull", "()Z"⟩
abbrev cX3_isLater : ByteArray := prog_5_method_10_code
def yX3_isLater : MethodName := ⟨RX3, "isLater", "(I)Z"⟩
abbrev cX3_append : ByteArray := prog_5_method_11_code
def yX3_append : MethodName := ⟨RX3, "append", "(II)I"⟩
abbrev cX3_remove : ByteArray := prog_5_method_12_code
def yX3_remove : MethodName := ⟨RX3, "remove", "(I)V"⟩
abbrev cX3_lastUpTo : ByteArray := prog_5_method_13_code
def yX3_lastUpTo : MethodName := ⟨RX3, "lastUpTo", "(II)I"⟩
abbrev cX3_firstFrom : ByteArray := prog_5_method_14_code
def yX3_firstFrom : MethodName := ⟨RX3, "firstFrom", "(II)I"⟩
abbrev cX3_copy : ByteArray := prog_5_method_15_code
def yX3_copy : MethodName := ⟨RX3, "copy", "(LThinReadings$Log;)V"⟩
def RX4 : String := "ThinReadings$Parser"
def TX4 : u_T := fun k => match k with
  | 0 => ("ThinReadings$Parser", "text", "LThinReadings$Text;", true)
  | 1 => ("ThinReadings$Parser", "draft", "LThinReadings$Log;", true)
  | 2 => ("ThinReadings$Parser", "at", "I", false)
  | 3 => ("ThinReadings$Parser", "kind", "I", false)
  | 4 => ("ThinReadings$Parser", "place", "I", false)
  | 5 => ("ThinReadings$Parser", "number", "I", false)
  | 6 => ("ThinReadings$Parser", "isPromiseTold", "Z", false)
  | _ => ("ThinReadings$Parser", "isDelayTold", "Z", false)
def tyX4 : Nat → FieldType := fun k => match k with
  | 0 => .object "ThinReadings$Text"
  | 1 => .object "ThinReadings$Log"
  | 2 => .int
  | 3 => .int
  | 4 => .int
  | 5 => .int
  | 6 => .boolean
  | _ => .boolean
abbrev wsX40 : List Cond := u_ws RX4 TX4 8
theorem nmX4 : ∀ a, a < 8 → ∀ b, b < 8 → a ≠ b → (TX4 a).2.1 ≠ (TX4 b).2.1 := by decide +kernel
theorem tyX4_ok : ∀ k, k < 8 → parseFieldDescriptor (TX4 k).2.2.1 = some (tyX4 k) := by decide +kernel
abbrev cX4_init : ByteArray := prog_6_method_1_code
def yX4_init : MethodName := ⟨RX4, "<init>", "(LThinReadings$Text;)V"⟩
abbrev cX4_parse : ByteArray := prog_6_method_2_code
def yX4_parse : MethodName := ⟨RX4, "parse", "()I"⟩
abbrev cX4_isPromiseItem : ByteArray := prog_6_method_3_code
def yX4_isPromiseItem : MethodName := ⟨RX4, "isPromiseItem", "()Z"⟩
abbrev cX4_isDelayItem : ByteArray := prog_6_method_4_code
def yX4_isDelayItem : MethodName := ⟨RX4, "isDelayItem", "()Z"⟩
abbrev cX4_isReadingItem : ByteArray := prog_6_method_5_code
def yX4_isReadingItem : MethodName := ⟨RX4, "isReadingItem", "(Z)Z"⟩
abbrev cX4_isNumber : ByteArray := prog_6_method_6_code
def yX4_isNumber : MethodName := ⟨RX4, "isNumber", "(II)Z"⟩
abbrev cX4_isEnded : ByteArray := prog_6_method_7_code
def yX4_isEnded : MethodName := ⟨RX4, "isEnded", "()Z"⟩
abbrev cX4_readToken : ByteArray := prog_6_method_8_code
def yX4_readToken : MethodName := ⟨RX4, "readToken", "()V"⟩
abbrev cX4_kindOf : ByteArray := prog_6_method_9_code
def yX4_kindOf : MethodName := ⟨RX4, "kindOf", "(C)I"⟩
abbrev cX4_readDigits : ByteArray := prog_6_method_10_code
def yX4_readDigits : MethodName := ⟨RX4, "readDigits", "()V"⟩
def RX5 : String := "ThinReadings$Seen"
def TX5 : u_T := fun k => match k with
  | 0 => ("ThinReadings$Seen", "size", "I", false)
  | 1 => ("ThinReadings$Seen", "keptMask", "I", false)
  | _ => ("ThinReadings$Seen", "droppedMask", "I", false)
def tyX5 : Nat → FieldType := fun k => match k with
  | 0 => .int
  | 1 => .int
  | _ => .int
abbrev wsX50 : List Cond := u_ws RX5 TX5 3
theorem nmX5 : ∀ a, a < 3 → ∀ b, b < 3 → a ≠ b → (TX5 a).2.1 ≠ (TX5 b).2.1 := by decide +kernel
theorem tyX5_ok : ∀ k, k < 3 → parseFieldDescriptor (TX5 k).2.2.1 = some (tyX5 k) := by decide +kernel
abbrev cX5_init : ByteArray := prog_7_method_1_code
def yX5_init : MethodName := ⟨RX5, "<init>", "()V"⟩
abbrev cX5_isFull : ByteArray := prog_7_method_2_code
def yX5_isFull : MethodName := ⟨RX5, "isFull", "()Z"⟩
abbrev cX5_put : ByteArray := prog_7_method_3_code
def yX5_put : MethodName := ⟨RX5, "put", "(II)I"⟩
abbrev cX5_wipe : ByteArray := prog_7_method_4_code
def yX5_wipe : MethodName := ⟨RX5, "wipe", "()I"⟩
abbrev cX5_agreesWith : ByteArray := prog_7_method_5_code
def yX5_agreesWith : MethodName := ⟨RX5, "agreesWith", "(I)Z"⟩
def RX6 : String := "ThinReadings$Shelf"
def TX6 : u_T := fun k => match k with
  | 0 => ("ThinReadings$Shelf", "places", "I", true)
  | 1 => ("ThinReadings$Shelf", "cells", "[I", true)
  | _ => ("ThinReadings$Shelf", "filled", "I", false)
def tyX6 : Nat → FieldType := fun k => match k with
  | 0 => .int
  | 1 => .array .int
  | _ => .int
abbrev wsX60 : List Cond := u_ws RX6 TX6 3
theorem nmX6 : ∀ a, a < 3 → ∀ b, b < 3 → a ≠ b → (TX6 a).2.1 ≠ (TX6 b).2.1 := by decide +kernel
theorem tyX6_ok : ∀ k, k < 3 → parseFieldDescriptor (TX6 k).2.2.1 = some (tyX6 k) := by decide +kernel
abbrev cX6_init : ByteArray := prog_8_method_1_code
def yX6_init : MethodName := ⟨RX6, "<init>", "(I)V"⟩
abbrev cX6_wipe : ByteArray := prog_8_method_2_code
def yX6_wipe : MethodName := ⟨RX6, "wipe", "()V"⟩
abbrev cX6_holds : ByteArray := prog_8_method_3_code
def yX6_holds : MethodName := ⟨RX6, "holds", "(I)Z"⟩
abbrev cX6_put : ByteArray := prog_8_method_4_code
def yX6_put : MethodName := ⟨RX6, "put", "(ILThinReadings$Log;)V"⟩
abbrev cX6_take : ByteArray := prog_8_method_5_code
def yX6_take : MethodName := ⟨RX6, "take", "(ILThinReadings$Log;)V"⟩
def RX7 : String := "ThinReadings$Survey"
def TX7 : u_T := fun k => match k with
  | 0 => ("ThinReadings$Survey", "log", "LThinReadings$Log;", true)
  | 1 => ("ThinReadings$Survey", "thinning", "LThinReadings$Thinning;", true)
  | 2 => ("ThinReadings$Survey", "seen", "LThinReadings$Seen;", true)
  | 3 => ("ThinReadings$Survey", "doorMasks", "[I", true)
  | 4 => ("ThinReadings$Survey", "isOutdated", "Z", false)
  | 5 => ("ThinReadings$Survey", "possible", "I", false)
  | 6 => ("ThinReadings$Survey", "least", "I", false)
  | _ => ("ThinReadings$Survey", "greatest", "I", false)
def tyX7 : Nat → FieldType := fun k => match k with
  | 0 => .object "ThinReadings$Log"
  | 1 => .object "ThinReadings$Thinning"
  | 2 => .object "ThinReadings$Seen"
  | 3 => .array .int
  | 4 => .boolean
  | 5 => .int
  | 6 => .int
  | _ => .int
abbrev wsX70 : List Cond := u_ws RX7 TX7 8
theorem nmX7 : ∀ a, a < 8 → ∀ b, b < 8 → a ≠ b → (TX7 a).2.1 ≠ (TX7 b).2.1 := by decide +kernel
theorem tyX7_ok : ∀ k, k < 8 → parseFieldDescriptor (TX7 k).2.2.1 = some (tyX7 k) := by decide +kernel
abbrev cX7_init : ByteArray := prog_9_method_1_code
def yX7_init : MethodName := ⟨RX7, "<init>", "(LThinReadings$Log;LThinReadings$Thinning;LThinReadings$Seen;)V"⟩
abbrev cX7_outdate : ByteArray := prog_9_method_2_code
def yX7_outdate : MethodName := ⟨RX7, "outdate", "()V"⟩
abbrev cX7_run : ByteArray := prog_9_method_3_code
def yX7_run : MethodName := ⟨RX7, "run", "()V"⟩
abbrev cX7_swingAllDoors : ByteArray := prog_9_method_4_code
def yX7_swingAllDoors : MethodName := ⟨RX7, "swingAllDoors", "()V"⟩
abbrev cX7_bestReading : ByteArray := prog_9_method_5_code
def yX7_bestReading : MethodName := ⟨RX7, "bestReading", "()I"⟩
abbrev cX7_countKept : ByteArray := prog_9_method_6_code
def yX7_countKept : MethodName := ⟨RX7, "countKept", "(I)I"⟩
def RX8 : String := "ThinReadings$Text"
def TX8 : u_T := fun k => match k with
  | 0 => ("ThinReadings$Text", "letters", "[C", true)
  | _ => ("ThinReadings$Text", "length", "I", false)
def tyX8 : Nat → FieldType := fun k => match k with
  | 0 => .array .char
  | _ => .int
abbrev wsX80 : List Cond := u_ws RX8 TX8 2
theorem nmX8 : ∀ a, a < 2 → ∀ b, b < 2 → a ≠ b → (TX8 a).2.1 ≠ (TX8 b).2.1 := by decide +kernel
theorem tyX8_ok : ∀ k, k < 2 → parseFieldDescriptor (TX8 k).2.2.1 = some (tyX8 k) := by decide +kernel
abbrev cX8_init : ByteArray := prog_10_method_1_code
def yX8_init : MethodName := ⟨RX8, "<init>", "()V"⟩
abbrev cX8_isFull : ByteArray := prog_10_method_2_code
def yX8_isFull : MethodName := ⟨RX8, "isFull", "()Z"⟩
abbrev cX8_put : ByteArray := prog_10_method_3_code
def yX8_put : MethodName := ⟨RX8, "put", "(C)I"⟩
abbrev cX8_wipe : ByteArray := prog_10_method_4_code
def yX8_wipe : MethodName := ⟨RX8, "wipe", "()I"⟩
abbrev cX8_isDigit : ByteArray := prog_10_method_5_code
def yX8_isDigit : MethodName := ⟨RX8, "isDigit", "(I)Z"⟩
abbrev cX8_isBlank : ByteArray := prog_10_method_6_code
def yX8_isBlank : MethodName := ⟨RX8, "isBlank", "(I)Z"⟩
abbrev cX8_letterAt : ByteArray := prog_10_method_7_code
def yX8_letterAt : MethodName := ⟨RX8, "letterAt", "(I)C"⟩
def RX9 : String := "ThinReadings$Thinning"
def TX9 : u_T := fun k => match k with
  | 0 => ("ThinReadings$Thinning", "log", "LThinReadings$Log;", true)
  | 1 => ("ThinReadings$Thinning", "lines", "LThinReadings$Lines;", true)
  | 2 => ("ThinReadings$Thinning", "piece", "[I", true)
  | 3 => ("ThinReadings$Thinning", "sent", "[I", true)
  | 4 => ("ThinReadings$Thinning", "steps", "[I", true)
  | 5 => ("ThinReadings$Thinning", "next", "[I", true)
  | 6 => ("ThinReadings$Thinning", "isOutdated", "Z", false)
  | 7 => ("ThinReadings$Thinning", "pieces", "I", false)
  | 8 => ("ThinReadings$Thinning", "doorMask", "I", false)
  | _ => ("ThinReadings$Thinning", "leastMask", "I", false)
def tyX9 : Nat → FieldType := fun k => match k with
  | 0 => .object "ThinReadings$Log"
  | 1 => .object "ThinReadings$Lines"
  | 2 => .array .int
  | 3 => .array .int
  | 4 => .array .int
  | 5 => .array .int
  | 6 => .boolean
  | 7 => .int
  | 8 => .int
  | _ => .int
abbrev wsX90 : List Cond := u_ws RX9 TX9 10
theorem nmX9 : ∀ a, a < 10 → ∀ b, b < 10 → a ≠ b → (TX9 a).2.1 ≠ (TX9 b).2.1 := by decide +kernel
theorem tyX9_ok : ∀ k, k < 10 → parseFieldDescriptor (TX9 k).2.2.1 = some (tyX9 k) := by decide +kernel
abbrev cX9_init : ByteArray := prog_11_method_1_code
def yX9_init : MethodName := ⟨RX9, "<init>", "(LThinReadings$Log;LThinReadings$Lines;)V"⟩
abbrev cX9_outdate : ByteArray := prog_11_method_2_code
def yX9_outdate : MethodName := ⟨RX9, "outdate", "()V"⟩
abbrev cX9_refresh : ByteArray := prog_11_method_3_code
def yX9_refresh : MethodName := ⟨RX9, "refresh", "()V"⟩
abbrev cX9_pieceAt : ByteArray := prog_11_method_4_code
def yX9_pieceAt : MethodName := ⟨RX9, "pieceAt", "(I)I"⟩
abbrev cX9_sentAt : ByteArray := prog_11_method_5_code
def yX9_sentAt : MethodName := ⟨RX9, "sentAt", "(I)I"⟩
abbrev cX9_cutPieces : ByteArray := prog_11_method_6_code
def yX9_cutPieces : MethodName := ⟨RX9, "cutPieces", "()V"⟩
abbrev cX9_fitsStrip : ByteArray := prog_11_method_7_code
def yX9_fitsStrip : MethodName := ⟨RX9, "fitsStrip", "(II)Z"⟩
abbrev cX9_swingDoor : ByteArray := prog_11_method_8_code
def yX9_swingDoor : MethodName := ⟨RX9, "swingDoor", "(I)I"⟩
abbrev cX9_sendKept : ByteArray := prog_11_method_9_code
def yX9_sendKept : MethodName := ⟨RX9, "sendKept", "()V"⟩
abbrev cX9_longestWait : ByteArray := prog_11_method_10_code
def yX9_longestWait : MethodName := ⟨RX9, "longestWait", "()I"⟩
abbrev cX9_chooseLeast : ByteArray := prog_11_method_11_code
def yX9_chooseLeast : MethodName := ⟨RX9, "chooseLeast", "()I"⟩
abbrev cX9_chooseNext : ByteArray := prog_11_method_12_code
def yX9_chooseNext : MethodName := ⟨RX9, "chooseNext", "(I)V"⟩
def RX10 : String := "ThinReadings"
def TX10 : u_T := fun k => match k with
  | 0 => ("ThinReadings", "text", "LThinReadings$Text;", true)
  | 1 => ("ThinReadings", "parser", "LThinReadings$Parser;", true)
  | 2 => ("ThinReadings", "log", "LThinReadings$Log;", true)
  | 3 => ("ThinReadings", "history", "LThinReadings$History;", true)
  | 4 => ("ThinReadings", "images", "LThinReadings$Shelf;", true)
  | 5 => ("ThinReadings", "lines", "LThinReadings$Lines;", true)
  | 6 => ("ThinReadings", "thinning", "LThinReadings$Thinning;", true)
  | 7 => ("ThinReadings", "seen", "LThinReadings$Seen;", true)
  | 8 => ("ThinReadings", "survey", "LThinReadings$Survey;", true)
  | _ => ("ThinReadings", "fraction", "LThinReadings$Fraction;", true)
def tyX10 : Nat → FieldType := fun k => match k with
  | 0 => .object "ThinReadings$Text"
  | 1 => .object "ThinReadings$Parser"
  | 2 => .object "ThinReadings$Log"
  | 3 => .object "ThinReadings$History"
  | 4 => .object "ThinReadings$Shelf"
  | 5 => .object "ThinReadings$Lines"
  | 6 => .object "ThinReadings$Thinning"
  | 7 => .object "ThinReadings$Seen"
  | 8 => .object "ThinReadings$Survey"
  | _ => .object "ThinReadings$Fraction"
abbrev wsX100 : List Cond := u_ws RX10 TX10 10
theorem nmX10 : ∀ a, a < 10 → ∀ b, b < 10 → a ≠ b → (TX10 a).2.1 ≠ (TX10 b).2.1 := by decide +kernel
theorem tyX10_ok : ∀ k, k < 10 → parseFieldDescriptor (TX10 k).2.2.1 = some (tyX10 k) := by decide +kernel
abbrev cX10_init : ByteArray := prog_1_method_1_code
def yX10_init : MethodName := ⟨RX10, "<init>", "()V"⟩
abbrev cX10_type : ByteArray := prog_1_method_2_code
def yX10_type : MethodName := ⟨RX10, "type", "(I)I"⟩
abbrev cX10_clear : ByteArray := prog_1_method_3_code
def yX10_clear : MethodName := ⟨RX10, "clear", "()I"⟩
abbrev cX10_readings : ByteArray := prog_1_method_4_code
def yX10_readings : MethodName := ⟨RX10, "readings", "()I"⟩
abbrev cX10_adds : ByteArray := prog_1_method_5_code
def yX10_adds : MethodName := ⟨RX10, "adds", "(II)I"⟩
abbrev cX10_misses : ByteArray := prog_1_method_6_code
def yX10_misses : MethodName := ⟨RX10, "misses", "(I)I"⟩
abbrev cX10_strikes : ByteArray := prog_1_method_7_code
def yX10_strikes : MethodName := ⟨RX10, "strikes", "(I)I"⟩
abbrev cX10_promises : ByteArray := prog_1_method_8_code
def yX10_promises : MethodName := ⟨RX10, "promises", "(I)I"⟩
abbrev cX10_delays : ByteArray := prog_1_method_9_code
def yX10_delays : MethodName := ⟨RX10, "delays", "(I)I"⟩
abbrev cX10_undo : ByteArray := prog_1_method_10_code
def yX10_undo : MethodName := ⟨RX10, "undo", "()I"⟩
abbrev cX10_reading : ByteArray := prog_1_method_11_code
def yX10_reading : MethodName := ⟨RX10, "reading", "(II)I"⟩
abbrev cX10_apart : ByteArray := prog_1_method_12_code
def yX10_apart : MethodName := ⟨RX10, "apart", "(III)I"⟩
abbrev cX10_why : ByteArray := prog_1_method_13_code
def yX10_why : MethodName := ⟨RX10, "why", "(II)I"⟩
abbrev cX10_strip : ByteArray := prog_1_method_14_code
def yX10_strip : MethodName := ⟨RX10, "strip", "(III)I"⟩
abbrev cX10_told : ByteArray := prog_1_method_15_code
def yX10_told : MethodName := ⟨RX10, "told", "(III)I"⟩
abbrev cX10_sees : ByteArray := prog_1_method_16_code
def yX10_sees : MethodName := ⟨RX10, "sees", "(II)I"⟩
abbrev cX10_forget : ByteArray := prog_1_method_17_code
def yX10_forget : MethodName := ⟨RX10, "forget", "()I"⟩
abbrev cX10_unseen : ByteArray := prog_1_method_18_code
def yX10_unseen : MethodName := ⟨RX10, "unseen", "(I)I"⟩
abbrev cX10_ask : ByteArray := prog_1_method_19_code
def yX10_ask : MethodName := ⟨RX10, "ask", "()I"⟩
abbrev cX10_keep : ByteArray := prog_1_method_20_code
def yX10_keep : MethodName := ⟨RX10, "keep", "(I)I"⟩
abbrev cX10_back : ByteArray := prog_1_method_21_code
def yX10_back : MethodName := ⟨RX10, "back", "(I)I"⟩
abbrev cX10_count : ByteArray := prog_1_method_22_code
def yX10_count : MethodName := ⟨RX10, "count", "(I)I"⟩
abbrev cX10_appendReading : ByteArray := prog_1_method_23_code
def yX10_appendReading : MethodName := ⟨RX10, "appendReading", "(II)I"⟩
abbrev cX10_rememberForUndo : ByteArray := prog_1_method_24_code
def yX10_rememberForUndo : MethodName := ⟨RX10, "rememberForUndo", "()V"⟩
abbrev cX10_outdateAll : ByteArray := prog_1_method_25_code
def yX10_outdateAll : MethodName := ⟨RX10, "outdateAll", "()V"⟩
abbrev cX10_isLine : ByteArray := prog_1_method_26_code
def yX10_isLine : MethodName := ⟨RX10, "isLine", "(II)Z"⟩
abbrev cX10_isWithin : ByteArray := prog_1_method_27_code
def yX10_isWithin : MethodName := ⟨RX10, "isWithin", "(III)Z"⟩
abbrev cX10_bitAt : ByteArray := prog_1_method_28_code
def yX10_bitAt : MethodName := ⟨RX10, "bitAt", "(II)I"⟩
def RX11 : String := "ThinReadingsModel"
def TX11 : u_T := fun k => match k with
  | 0 => ("ThinReadingsModel", "now", "[I", true)
  | 1 => ("ThinReadingsModel", "undoMany", "I", false)
  | 2 => ("ThinReadingsModel", "undoAt", "I", false)
  | 3 => ("ThinReadingsModel", "undos", "[I", true)
  | 4 => ("ThinReadingsModel", "seenMany", "I", false)
  | 5 => ("ThinReadingsModel", "seen", "[I", true)
  | 6 => ("ThinReadingsModel", "seenAs", "[I", true)
  | 7 => ("ThinReadingsModel", "isKept", "[Z", true)
  | 8 => ("ThinReadingsModel", "kept", "[I", true)
  | 9 => ("ThinReadingsModel", "letterMany", "I", false)
  | 10 => ("ThinReadingsModel", "text", "[I", true)
  | 11 => ("ThinReadingsModel", "readAt", "I", false)
  | 12 => ("ThinReadingsModel", "tokenAt", "I", false)
  | 13 => ("ThinReadingsModel", "token", "I", false)
  | 14 => ("ThinReadingsModel", "value", "I", false)
  | 15 => ("ThinReadingsModel", "faultAt", "I", false)
  | 16 => ("ThinReadingsModel", "readOnce", "I", false)
  | 17 => ("ThinReadingsModel", "read", "[I", true)
  | 18 => ("ThinReadingsModel", "greatUpper", "J", false)
  | 19 => ("ThinReadingsModel", "greatLower", "J", false)
  | 20 => ("ThinReadingsModel", "fewest", "[I", true)
  | 21 => ("ThinReadingsModel", "doors", "[I", true)
  | _ => ("ThinReadingsModel", "isSo", "[Z", true)
def tyX11 : Nat → FieldType := fun k => match k with
  | 0 => .array .int
  | 1 => .int
  | 2 => .int
  | 3 => .array .int
  | 4 => .int
  | 5 => .array .int
  | 6 => .array .int
  | 7 => .array .boolean
  | 8 => .array .int
  | 9 => .int
  | 10 => .array .int
  | 11 => .int
  | 12 => .int
  | 13 => .int
  | 14 => .int
  | 15 => .int
  | 16 => .int
  | 17 => .array .int
  | 18 => .long
  | 19 => .long
  | 20 => .array .int
  | 21 => .array .int
  | _ => .array .boolean
abbrev wsX110 : List Cond := u_ws RX11 TX11 23
theorem nmX11 : ∀ a, a < 23 → ∀ b, b < 23 → a ≠ b → (TX11 a).2.1 ≠ (TX11 b).2.1 := by decide +kernel
theorem tyX11_ok : ∀ k, k < 23 → parseFieldDescriptor (TX11 k).2.2.1 = some (tyX11 k) := by decide +kernel
abbrev cX11_init : ByteArray := prog_13_method_1_code
def yX11_init : MethodName := ⟨RX11, "<init>", "()V"⟩
abbrev cX11_in : ByteArray := prog_13_method_2_code
def yX11_in : MethodName := ⟨RX11, "in", "(III)Z"⟩
abbrev cX11_has : ByteArray := prog_13_method_3_code
def yX11_has : MethodName := ⟨RX11, "has", "(II)Z"⟩
abbrev cX11_bits : ByteArray := prog_13_method_4_code
def yX11_bits : MethodName := ⟨RX11, "bits", "(I)I"⟩
abbrev cX11_begins : ByteArray := prog_13_method_5_code
def yX11_begins : MethodName := ⟨RX11, "begins", "([I)V"⟩
abbrev cX11_type : ByteArray := prog_13_method_6_code
def yX11_type : MethodName := ⟨RX11, "type", "(I)I"⟩
abbrev cX11_clear : ByteArray := prog_13_method_7_code
def yX11_clear : MethodName := ⟨RX11, "clear", "()I"⟩
abbrev cX11_isFigure : ByteArray := prog_13_method_8_code
def yX11_isFigure : MethodName := ⟨RX11, "isFigure", "()Z"⟩
abbrev cX11_blanks : ByteArray := prog_13_method_9_code
def yX11_blanks : MethodName := ⟨RX11, "blanks", "()V"⟩
abbrev cX11_next : ByteArray := prog_13_method_10_code
def yX11_next : MethodName := ⟨RX11, "next", "()V"⟩
abbrev cX11_fails : ByteArray := prog_13_method_11_code
def yX11_fails : MethodName := ⟨RX11, "fails", "()Z"⟩
abbrev cX11_number : ByteArray := prog_13_method_12_code
def yX11_number : MethodName := ⟨RX11, "number", "(II)Z"⟩
abbrev cX11_ends : ByteArray := prog_13_method_13_code
def yX11_ends : MethodName := ⟨RX11, "ends", "()Z"⟩
abbrev cX11_readsOnce : ByteArray := prog_13_method_14_code
def yX11_readsOnce : MethodName := ⟨RX11, "readsOnce", "(III)Z"⟩
abbrev cX11_readsOne : ByteArray := prog_13_method_15_code
def yX11_readsOne : MethodName := ⟨RX11, "readsOne", "(Z)Z"⟩
abbrev cX11_readsItem : ByteArray := prog_13_method_16_code
def yX11_readsItem : MethodName := ⟨RX11, "readsItem", "()Z"⟩
abbrev cX11_readings : ByteArray := prog_13_method_17_code
def yX11_readings : MethodName := ⟨RX11, "readings", "()I"⟩
abbrev cX11_isReading : ByteArray := prog_13_method_18_code
def yX11_isReading : MethodName := ⟨RX11, "isReading", "(I)Z"⟩
abbrev cX11_isKnown : ByteArray := prog_13_method_19_code
def yX11_isKnown : MethodName := ⟨RX11, "isKnown", "(I)Z"⟩
abbrev cX11_remember : ByteArray := prog_13_method_20_code
def yX11_remember : MethodName := ⟨RX11, "remember", "()V"⟩
abbrev cX11_comes : ByteArray := prog_13_method_21_code
def yX11_comes : MethodName := ⟨RX11, "comes", "(II)I"⟩
abbrev cX11_adds : ByteArray := prog_13_method_22_code
def yX11_adds : MethodName := ⟨RX11, "adds", "(II)I"⟩
abbrev cX11_misses : ByteArray := prog_13_method_23_code
def yX11_misses : MethodName := ⟨RX11, "misses", "(I)I"⟩
abbrev cX11_strikes : ByteArray := prog_13_method_24_code
def yX11_strikes : MethodName := ⟨RX11, "strikes", "(I)I"⟩
abbrev cX11_becomes : ByteArray := prog_13_method_25_code
def yX11_becomes : MethodName := ⟨RX11, "becomes", "(II)I"⟩
abbrev cX11_promises : ByteArray := prog_13_method_26_code
def yX11_promises : MethodName := ⟨RX11, "promises", "(I)I"⟩
abbrev cX11_delays : ByteArray := prog_13_method_27_code
def yX11_delays : MethodName := ⟨RX11, "delays", "(I)I"⟩
abbrev cX11_undo : ByteArray := prog_13_method_28_code
def yX11_undo : MethodName := ⟨RX11, "undo", "()I"⟩
abbrev cX11_isFirst : ByteArray := prog_13_method_29_code
def yX11_isFirst : MethodName := ⟨RX11, "isFirst", "(I)Z"⟩
abbrev cX11_isLast : ByteArray := prog_13_method_30_code
def yX11_isLast : MethodName := ⟨RX11, "isLast", "(I)Z"⟩
abbrev cX11_stretchOf : ByteArray := prog_13_method_31_code
def yX11_stretchOf : MethodName := ⟨RX11, "stretchOf", "(I)I"⟩
abbrev cX11_apartBy : ByteArray := prog_13_method_32_code
def yX11_apartBy : MethodName := ⟨RX11, "apartBy", "(III)I"⟩
abbrev cX11_whyNot : ByteArray := prog_13_method_33_code
def yX11_whyNot : MethodName := ⟨RX11, "whyNot", "(III)I"⟩
abbrev cX11_doorFrom : ByteArray := prog_13_method_34_code
def yX11_doorFrom : MethodName := ⟨RX11, "doorFrom", "(II)I"⟩
abbrev cX11_door : ByteArray := prog_13_method_35_code
def yX11_door : MethodName := ⟨RX11, "door", "(I)I"⟩
abbrev cX11_keptAhead : ByteArray := prog_13_method_36_code
def yX11_keptAhead : MethodName := ⟨RX11, "keptAhead", "(II)I"⟩
abbrev cX11_sentAt : ByteArray := prog_13_method_37_code
def yX11_sentAt : MethodName := ⟨RX11, "sentAt", "(II)I"⟩
abbrev cX11_greater : ByteArray := prog_13_method_38_code
def yX11_greater : MethodName := ⟨RX11, "greater", "(JJ)V"⟩
abbrev cX11_layStrip : ByteArray := prog_13_method_39_code
def yX11_layStrip : MethodName := ⟨RX11, "layStrip", "(II)V"⟩
abbrev cX11_isStrip : ByteArray := prog_13_method_40_code
def yX11_isStrip : MethodName := ⟨RX11, "isStrip", "(II)Z"⟩
abbrev cX11_pieces : ByteArray := prog_13_method_41_code
def yX11_pieces : MethodName := ⟨RX11, "pieces", "()I"⟩
abbrev cX11_least : ByteArray := prog_13_method_42_code
def yX11_least : MethodName := ⟨RX11, "least", "()I"⟩
abbrev cX11_reading : ByteArray := prog_13_method_43_code
def yX11_reading : MethodName := ⟨RX11, "reading", "(II)I"⟩
abbrev cX11_isSide : ByteArray := prog_13_method_44_code
def yX11_isSide : MethodName := ⟨RX11, "isSide", "(II)Z"⟩
abbrev cX11_lowest : ByteArray := prog_13_method_45_code
def yX11_lowest : MethodName := ⟨RX11, "lowest", "(JJZ)I"⟩
abbrev cX11_apart : ByteArray := prog_13_method_46_code
def yX11_apart : MethodName := ⟨RX11, "apart", "(III)I"⟩
abbrev cX11_why : ByteArray := prog_13_method_47_code
def yX11_why : MethodName := ⟨RX11, "why", "(II)I"⟩
abbrev cX11_strip : ByteArray := prog_13_method_48_code
def yX11_strip : MethodName := ⟨RX11, "strip", "(III)I"⟩
abbrev cX11_told : ByteArray := prog_13_method_49_code
def yX11_told : MethodName := ⟨RX11, "told", "(III)I"⟩
abbrev cX11_layUnseen : ByteArray := prog_13_method_50_code
def yX11_layUnseen : MethodName := ⟨RX11, "layUnseen", "()I"⟩
abbrev cX11_sees : ByteArray := prog_13_method_51_code
def yX11_sees : MethodName := ⟨RX11, "sees", "(II)I"⟩
abbrev cX11_forget : ByteArray := prog_13_method_52_code
def yX11_forget : MethodName := ⟨RX11, "forget", "()I"⟩
abbrev cX11_unseen : ByteArray := prog_13_method_53_code
def yX11_unseen : MethodName := ⟨RX11, "unseen", "(I)I"⟩
abbrev cX11_ask : ByteArray := prog_13_method_54_code
def yX11_ask : MethodName := ⟨RX11, "ask", "()I"⟩
abbrev cX11_keep : ByteArray := prog_13_method_55_code
def yX11_keep : MethodName := ⟨RX11, "keep", "(I)I"⟩
abbrev cX11_back : ByteArray := prog_13_method_56_code
def yX11_back : MethodName := ⟨RX11, "back", "(I)I"⟩
abbrev cX11_stretches : ByteArray := prog_13_method_57_code
def yX11_stretches : MethodName := ⟨RX11, "stretches", "()I"⟩
abbrev cX11_late : ByteArray := prog_13_method_58_code
def yX11_late : MethodName := ⟨RX11, "late", "()I"⟩
abbrev cX11_count : ByteArray := prog_13_method_59_code
def yX11_count : MethodName := ⟨RX11, "count", "(I)I"⟩
def RJ6 : String := "java/lang/Integer"
def TJ6 : u_T := fun k => match k with
  | _ => ("", "", "", false)
def tyJ6 : Nat → FieldType := fun k => match k with
  | _ => .int
abbrev wsJ60 : List Cond := u_ws RJ6 TJ6 0
theorem nmJ6 : ∀ a, a < 0 → ∀ b, b < 0 → a ≠ b → (TJ6 a).2.1 ≠ (TJ6 b).2.1 := by decide +kernel
theorem tyJ6_ok : ∀ k, k < 0 → parseFieldDescriptor (TJ6 k).2.2.1 = some (tyJ6 k) := by decide +kernel
abbrev cJ6_bitCount_0f7a4 : ByteArray := prog_14_method_49_code
def yJ6_bitCount_0f7a4 : MethodName := ⟨RJ6, "bitCount", "(I)I"⟩
def RJ9 : String := "java/lang/Math"
def TJ9 : u_T := fun k => match k with
  | _ => ("", "", "", false)
def tyJ9 : Nat → FieldType := fun k => match k with
  | _ => .int
abbrev wsJ90 : List Cond := u_ws RJ9 TJ9 0
theorem nmJ9 : ∀ a, a < 0 → ∀ b, b < 0 → a ≠ b → (TJ9 a).2.1 ≠ (TJ9 b).2.1 := by decide +kernel
theorem tyJ9_ok : ∀ k, k < 0 → parseFieldDescriptor (TJ9 k).2.2.1 = some (tyJ9 k) := by decide +kernel
abbrev cJ9_abs_0f7a4 : ByteArray := prog_15_method_59_code
def yJ9_abs_0f7a4 : MethodName := ⟨RJ9, "abs", "(I)I"⟩
abbrev cJ9_max_7cf53 : ByteArray := prog_15_method_65_code
def yJ9_max_7cf53 : MethodName := ⟨RJ9, "max", "(II)I"⟩
abbrev cJ9_min_7cf53 : ByteArray := prog_15_method_69_code
def yJ9_min_7cf53 : MethodName := ⟨RJ9, "min", "(II)I"⟩
def RL : String := "ThinReadingsLaw"
abbrev cL_law : ByteArray := code
def yL_law : MethodName := ⟨RL, "law", "([I)Z"⟩
def wsL_law_r1 : List Cond := [Cond.classLink RL 7 RX10, Cond.instantiable RX10 10, Cond.initialized RX10, Cond.classLink RL 10 RX11, Cond.instantiable RX11 23, Cond.initialized RX11, Cond.methodLink RL 9 yX10_init, Cond.instanceMethod yX10_init, Cond.code yX10_init cX10_init 1 none, Cond.methodLink RX10 3 objectInit, Cond.instanceMethod objectInit, Cond.code objectInit ⟨#[0xb1]⟩ 1 none, Cond.classLink RX10 9 RX8, Cond.instantiable RX8 2, Cond.initialized RX8, Cond.fieldLink RX10 12 "ThinReadings" "text" "LThinReadings$Text;", Cond.classLink RX10 16 RX4, Cond.instantiable RX4 8, Cond.initialized RX4, Cond.fieldLink RX10 21 "ThinReadings" "parser" "LThinReadings$Parser;", Cond.classLink RX10 25 RX3, Cond.instantiable RX3 5, Cond.initialized RX3, Cond.fieldLink RX10 28 "ThinReadings" "log" "LThinReadings$Log;"]
def wsL_law_r2 : List Cond := [Cond.classLink RX10 32 RX1, Cond.instantiable RX1 3, Cond.initialized RX1, Cond.fieldLink RX10 35 "ThinReadings" "history" "LThinReadings$History;", Cond.classLink RX10 39 RX6, Cond.instantiable RX6 3, Cond.initialized RX6, Cond.fieldLink RX10 44 "ThinReadings" "images" "LThinReadings$Shelf;", Cond.classLink RX10 48 RX2, Cond.instantiable RX2 4, Cond.initialized RX2, Cond.fieldLink RX10 53 "ThinReadings" "lines" "LThinReadings$Lines;", Cond.classLink RX10 57 RX9, Cond.instantiable RX9 10, Cond.initialized RX9, Cond.fieldLink RX10 62 "ThinReadings" "thinning" "LThinReadings$Thinning;", Cond.classLink RX10 66 RX5, Cond.instantiable RX5 3, Cond.initialized RX5, Cond.fieldLink RX10 69 "ThinReadings" "seen" "LThinReadings$Seen;", Cond.classLink RX10 73 RX7, Cond.instantiable RX7 8, Cond.initialized RX7, Cond.fieldLink RX10 78 "ThinReadings" "survey" "LThinReadings$Survey;"]
def wsL_law_r3 : List Cond := [Cond.classLink RX10 82 RX0, Cond.instantiable RX0 2, Cond.initialized RX0, Cond.fieldLink RX10 85 "ThinReadings" "fraction" "LThinReadings$Fraction;", Cond.methodLink RX10 11 yX8_init, Cond.instanceMethod yX8_init, Cond.code yX8_init cX8_init 1 none, Cond.methodLink RX8 3 objectInit, Cond.arrayClass .char, Cond.fieldLink RX8 9 "ThinReadings$Text" "letters" "[C", Cond.fieldLink RX8 15 "ThinReadings$Text" "length" "I", Cond.methodLink RX10 18 yX4_init, Cond.instanceMethod yX4_init, Cond.code yX4_init cX4_init 2 none, Cond.methodLink RX4 3 objectInit, Cond.fieldLink RX4 9 "ThinReadings$Parser" "text" "LThinReadings$Text;", Cond.classLink RX4 15 RX3, Cond.fieldLink RX4 18 "ThinReadings$Parser" "draft" "LThinReadings$Log;", Cond.methodLink RX4 17 yX3_init, Cond.instanceMethod yX3_init, Cond.code yX3_init cX3_init 1 none, Cond.methodLink RX3 3 objectInit, Cond.arrayClass .int, Cond.fieldLink RX3 9 "ThinReadings$Log" "times" "[I"]
def wsL_law_r4 : List Cond := [Cond.fieldLink RX3 15 "ThinReadings$Log" "values" "[I", Cond.fieldLink RX3 18 "ThinReadings$Log" "size" "I", Cond.fieldLink RX3 22 "ThinReadings$Log" "promise" "I", Cond.fieldLink RX3 25 "ThinReadings$Log" "delay" "I", Cond.methodLink RX10 27 yX3_init, Cond.methodLink RX10 34 yX1_init, Cond.instanceMethod yX1_init, Cond.code yX1_init cX1_init 1 none, Cond.methodLink RX1 3 objectInit, Cond.classLink RX1 9 RX6, Cond.fieldLink RX1 14 "ThinReadings$History" "ring" "LThinReadings$Shelf;", Cond.fieldLink RX1 20 "ThinReadings$History" "next" "I", Cond.fieldLink RX1 24 "ThinReadings$History" "size" "I", Cond.methodLink RX1 11 yX6_init, Cond.instanceMethod yX6_init, Cond.code yX6_init cX6_init 2 none, Cond.methodLink RX6 5 objectInit, Cond.fieldLink RX6 11 "ThinReadings$Shelf" "places" "I", Cond.fieldLink RX6 15 "ThinReadings$Shelf" "cells" "[I", Cond.fieldLink RX6 19 "ThinReadings$Shelf" "filled" "I", Cond.methodLink RX10 41 yX6_init, Cond.methodLink RX10 50 yX2_init, Cond.instanceMethod yX2_init, Cond.code yX2_init cX2_init 2 none]
def wsL_law_r5 : List Cond := [Cond.methodLink RX2 3 objectInit, Cond.fieldLink RX2 9 "ThinReadings$Lines" "log" "LThinReadings$Log;", Cond.fieldLink RX2 15 "ThinReadings$Lines" "stretch" "[I", Cond.fieldLink RX2 19 "ThinReadings$Lines" "needs" "[I", Cond.fieldLink RX2 22 "ThinReadings$Lines" "stretches" "I", Cond.methodLink RX10 59 yX9_init, Cond.instanceMethod yX9_init, Cond.code yX9_init cX9_init 3 none, Cond.methodLink RX9 3 objectInit, Cond.fieldLink RX9 9 "ThinReadings$Thinning" "log" "LThinReadings$Log;", Cond.fieldLink RX9 15 "ThinReadings$Thinning" "lines" "LThinReadings$Lines;", Cond.fieldLink RX9 19 "ThinReadings$Thinning" "piece" "[I", Cond.fieldLink RX9 23 "ThinReadings$Thinning" "sent" "[I", Cond.fieldLink RX9 26 "ThinReadings$Thinning" "steps" "[I", Cond.fieldLink RX9 29 "ThinReadings$Thinning" "next" "[I", Cond.fieldLink RX9 32 "ThinReadings$Thinning" "isOutdated" "Z", Cond.fieldLink RX9 36 "ThinReadings$Thinning" "pieces" "I", Cond.fieldLink RX9 40 "ThinReadings$Thinning" "doorMask" "I", Cond.fieldLink RX9 43 "ThinReadings$Thinning" "leastMask" "I", Cond.methodLink RX10 68 yX5_init, Cond.instanceMethod yX5_init, Cond.code yX5_init cX5_init 1 none, Cond.methodLink RX5 3 objectInit, Cond.fieldLink RX5 9 "ThinReadings$Seen" "size" "I"]
def wsL_law_r6 : List Cond := [Cond.fieldLink RX5 15 "ThinReadings$Seen" "keptMask" "I", Cond.fieldLink RX5 18 "ThinReadings$Seen" "droppedMask" "I", Cond.methodLink RX10 75 yX7_init, Cond.instanceMethod yX7_init, Cond.code yX7_init cX7_init 4 none, Cond.methodLink RX7 3 objectInit, Cond.fieldLink RX7 9 "ThinReadings$Survey" "log" "LThinReadings$Log;", Cond.fieldLink RX7 15 "ThinReadings$Survey" "thinning" "LThinReadings$Thinning;", Cond.fieldLink RX7 19 "ThinReadings$Survey" "seen" "LThinReadings$Seen;", Cond.fieldLink RX7 23 "ThinReadings$Survey" "doorMasks" "[I", Cond.fieldLink RX7 27 "ThinReadings$Survey" "isOutdated" "Z", Cond.fieldLink RX7 31 "ThinReadings$Survey" "possible" "I", Cond.fieldLink RX7 35 "ThinReadings$Survey" "least" "I", Cond.fieldLink RX7 38 "ThinReadings$Survey" "greatest" "I", Cond.methodLink RX10 84 yX0_init, Cond.instanceMethod yX0_init, Cond.code yX0_init cX0_init 1 none, Cond.methodLink RX0 1 objectInit, Cond.fieldLink RX0 7 "ThinReadings$Fraction" "upper" "I", Cond.fieldLink RX0 13 "ThinReadings$Fraction" "lower" "I", Cond.methodLink RL 12 yX11_init, Cond.instanceMethod yX11_init, Cond.code yX11_init cX11_init 1 none, Cond.methodLink RX11 1 objectInit]
def wsL_law_r7 : List Cond := [Cond.fieldLink RX11 7 "ThinReadingsModel" "now" "[I", Cond.fieldLink RX11 13 "ThinReadingsModel" "undos" "[I", Cond.fieldLink RX11 16 "ThinReadingsModel" "seen" "[I", Cond.fieldLink RX11 19 "ThinReadingsModel" "seenAs" "[I", Cond.arrayClass .boolean, Cond.fieldLink RX11 22 "ThinReadingsModel" "isKept" "[Z", Cond.fieldLink RX11 26 "ThinReadingsModel" "kept" "[I", Cond.fieldLink RX11 29 "ThinReadingsModel" "text" "[I", Cond.fieldLink RX11 32 "ThinReadingsModel" "read" "[I", Cond.fieldLink RX11 35 "ThinReadingsModel" "fewest" "[I", Cond.fieldLink RX11 38 "ThinReadingsModel" "doors" "[I", Cond.fieldLink RX11 41 "ThinReadingsModel" "isSo" "[Z", Cond.methodLink RX11 44 yX11_begins, Cond.static yX11_begins, Cond.code yX11_begins cX11_begins 2 none, Cond.methodLink RL 13 yX10_type, Cond.instanceMethod yX10_type, Cond.selects RX10 yX10_type yX10_type, Cond.code yX10_type cX10_type 2 (some .int), Cond.methodLink RX10 89 yX10_isWithin, Cond.static yX10_isWithin, Cond.code yX10_isWithin cX10_isWithin 3 (some .boolean), Cond.methodLink RX10 93 yX8_isFull, Cond.instanceMethod yX8_isFull]
def wsL_law_r8 : List Cond := [Cond.selects RX8 yX8_isFull yX8_isFull, Cond.code yX8_isFull cX8_isFull 1 (some .boolean), Cond.methodLink RX10 97 yX8_put, Cond.instanceMethod yX8_put, Cond.selects RX8 yX8_put yX8_put, Cond.code yX8_put cX8_put 2 (some .int), Cond.methodLink RX8 19 yX8_isFull, Cond.methodLink RL 17 yX11_type, Cond.instanceMethod yX11_type, Cond.selects RX11 yX11_type yX11_type, Cond.code yX11_type cX11_type 2 (some .int), Cond.fieldLink RX11 52 "ThinReadingsModel" "letterMany" "I", Cond.methodLink RX11 48 yX11_in, Cond.static yX11_in, Cond.code yX11_in cX11_in 3 (some .boolean), Cond.methodLink RL 18 yX10_clear, Cond.instanceMethod yX10_clear, Cond.selects RX10 yX10_clear yX10_clear, Cond.code yX10_clear cX10_clear 1 (some .int), Cond.methodLink RX10 101 yX8_wipe, Cond.instanceMethod yX8_wipe, Cond.selects RX8 yX8_wipe yX8_wipe, Cond.code yX8_wipe cX8_wipe 2 (some .int), Cond.methodLink RL 22 yX11_clear]
def wsL_law_r9 : List Cond := [Cond.instanceMethod yX11_clear, Cond.selects RX11 yX11_clear yX11_clear, Cond.code yX11_clear cX11_clear 2 (some .int), Cond.methodLink RL 23 yX10_readings, Cond.instanceMethod yX10_readings, Cond.selects RX10 yX10_readings yX10_readings, Cond.code yX10_readings cX10_readings 2 (some .int), Cond.methodLink RX10 105 yX4_parse, Cond.instanceMethod yX4_parse, Cond.selects RX4 yX4_parse yX4_parse, Cond.code yX4_parse cX4_parse 3 (some .int), Cond.fieldLink RX4 25 "ThinReadings$Parser" "at" "I", Cond.fieldLink RX4 29 "ThinReadings$Parser" "isPromiseTold" "Z", Cond.fieldLink RX4 33 "ThinReadings$Parser" "isDelayTold" "Z", Cond.fieldLink RX4 39 "ThinReadings$Parser" "kind" "I", Cond.fieldLink RX4 53 "ThinReadings$Parser" "place" "I", Cond.methodLink RX4 22 yX3_startAnew, Cond.instanceMethod yX3_startAnew, Cond.selects RX3 yX3_startAnew yX3_startAnew, Cond.code yX3_startAnew cX3_startAnew 1 none, Cond.methodLink RX4 36 yX4_readToken, Cond.instanceMethod yX4_readToken, Cond.selects RX4 yX4_readToken yX4_readToken, Cond.code yX4_readToken cX4_readToken 1 none]
def wsL_law_r10 : List Cond := [Cond.methodLink RX4 87 yX8_isBlank, Cond.instanceMethod yX8_isBlank, Cond.selects RX8 yX8_isBlank yX8_isBlank, Cond.code yX8_isBlank cX8_isBlank 2 (some .boolean), Cond.methodLink RX4 95 yX8_isDigit, Cond.instanceMethod yX8_isDigit, Cond.selects RX8 yX8_isDigit yX8_isDigit, Cond.code yX8_isDigit cX8_isDigit 2 (some .boolean), Cond.methodLink RX4 98 yX4_readDigits, Cond.instanceMethod yX4_readDigits, Cond.selects RX4 yX4_readDigits yX4_readDigits, Cond.code yX4_readDigits cX4_readDigits 2 none, Cond.fieldLink RX4 60 "ThinReadings$Parser" "number" "I", Cond.methodLink RX4 101 yX8_letterAt, Cond.instanceMethod yX8_letterAt, Cond.selects RX8 yX8_letterAt yX8_letterAt, Cond.code yX8_letterAt cX8_letterAt 2 (some .char), Cond.methodLink RX4 105 yX4_kindOf, Cond.static yX4_kindOf, Cond.code yX4_kindOf cX4_kindOf 1 (some .int), Cond.methodLink RX4 42 yX4_isPromiseItem, Cond.instanceMethod yX4_isPromiseItem, Cond.selects RX4 yX4_isPromiseItem yX4_isPromiseItem, Cond.code yX4_isPromiseItem cX4_isPromiseItem 1 (some .boolean)]
def wsL_law_r11 : List Cond := [Cond.methodLink RX4 56 yX4_isNumber, Cond.instanceMethod yX4_isNumber, Cond.selects RX4 yX4_isNumber yX4_isNumber, Cond.code yX4_isNumber cX4_isNumber 3 (some .boolean), Cond.methodLink RX4 66 yX4_isEnded, Cond.instanceMethod yX4_isEnded, Cond.selects RX4 yX4_isEnded yX4_isEnded, Cond.code yX4_isEnded cX4_isEnded 1 (some .boolean), Cond.methodLink RX4 46 yX4_isDelayItem, Cond.instanceMethod yX4_isDelayItem, Cond.selects RX4 yX4_isDelayItem yX4_isDelayItem, Cond.code yX4_isDelayItem cX4_isDelayItem 1 (some .boolean), Cond.methodLink RX4 49 yX4_isReadingItem, Cond.instanceMethod yX4_isReadingItem, Cond.selects RX4 yX4_isReadingItem yX4_isReadingItem, Cond.code yX4_isReadingItem cX4_isReadingItem 3 (some .boolean), Cond.methodLink RX4 72 yX3_isFull, Cond.instanceMethod yX3_isFull, Cond.selects RX3 yX3_isFull yX3_isFull, Cond.code yX3_isFull cX3_isFull 1 (some .boolean), Cond.methodLink RX4 75 yX3_isLater, Cond.instanceMethod yX3_isLater, Cond.selects RX3 yX3_isLater yX3_isLater, Cond.code yX3_isLater cX3_isLater 2 (some .boolean)]
def wsL_law_r12 : List Cond := [Cond.methodLink RX3 35 yX3_timeAt, Cond.instanceMethod yX3_timeAt, Cond.selects RX3 yX3_timeAt yX3_timeAt, Cond.code yX3_timeAt cX3_timeAt 2 (some .int), Cond.methodLink RX3 28 yX3_has, Cond.instanceMethod yX3_has, Cond.selects RX3 yX3_has yX3_has, Cond.code yX3_has cX3_has 2 (some .boolean), Cond.methodLink RX4 79 yX3_append, Cond.instanceMethod yX3_append, Cond.selects RX3 yX3_append yX3_append, Cond.code yX3_append cX3_append 3 (some .int), Cond.methodLink RX3 39 yX3_isFull, Cond.methodLink RX10 111 yX3_copy, Cond.instanceMethod yX3_copy, Cond.selects RX3 yX3_copy yX3_copy, Cond.code yX3_copy cX3_copy 3 none, Cond.methodLink RX10 114 yX1_wipe, Cond.instanceMethod yX1_wipe, Cond.selects RX1 yX1_wipe yX1_wipe, Cond.code yX1_wipe cX1_wipe 1 none, Cond.methodLink RX10 116 yX6_wipe, Cond.instanceMethod yX6_wipe, Cond.selects RX6 yX6_wipe yX6_wipe]
def wsL_law_r13 : List Cond := [Cond.code yX6_wipe cX6_wipe 1 none, Cond.methodLink RX10 117 yX5_wipe, Cond.instanceMethod yX5_wipe, Cond.selects RX5 yX5_wipe yX5_wipe, Cond.code yX5_wipe cX5_wipe 2 (some .int), Cond.methodLink RX10 118 yX10_outdateAll, Cond.instanceMethod yX10_outdateAll, Cond.selects RX10 yX10_outdateAll yX10_outdateAll, Cond.code yX10_outdateAll cX10_outdateAll 1 none, Cond.methodLink RX10 273 yX9_outdate, Cond.instanceMethod yX9_outdate, Cond.selects RX9 yX9_outdate yX9_outdate, Cond.code yX9_outdate cX9_outdate 1 none, Cond.methodLink RX10 276 yX7_outdate, Cond.instanceMethod yX7_outdate, Cond.selects RX7 yX7_outdate yX7_outdate, Cond.code yX7_outdate cX7_outdate 1 none, Cond.methodLink RL 26 yX11_readings, Cond.instanceMethod yX11_readings, Cond.selects RX11 yX11_readings yX11_readings, Cond.code yX11_readings cX11_readings 3 (some .int), Cond.fieldLink RX11 84 "ThinReadingsModel" "readOnce" "I", Cond.fieldLink RX11 56 "ThinReadingsModel" "readAt" "I", Cond.fieldLink RX11 75 "ThinReadingsModel" "faultAt" "I"]
def wsL_law_r14 : List Cond := [Cond.fieldLink RX11 107 "ThinReadingsModel" "undoMany" "I", Cond.fieldLink RX11 110 "ThinReadingsModel" "seenMany" "I", Cond.methodLink RX11 59 yX11_blanks, Cond.instanceMethod yX11_blanks, Cond.selects RX11 yX11_blanks yX11_blanks, Cond.code yX11_blanks cX11_blanks 1 none, Cond.methodLink RX11 104 yX11_readsItem, Cond.instanceMethod yX11_readsItem, Cond.selects RX11 yX11_readsItem yX11_readsItem, Cond.code yX11_readsItem cX11_readsItem 1 (some .boolean), Cond.fieldLink RX11 65 "ThinReadingsModel" "token" "I", Cond.methodLink RX11 78 yX11_next, Cond.instanceMethod yX11_next, Cond.selects RX11 yX11_next yX11_next, Cond.code yX11_next cX11_next 2 none, Cond.fieldLink RX11 62 "ThinReadingsModel" "tokenAt" "I", Cond.fieldLink RX11 72 "ThinReadingsModel" "value" "I", Cond.methodLink RX11 68 yX11_isFigure, Cond.instanceMethod yX11_isFigure, Cond.selects RX11 yX11_isFigure yX11_isFigure, Cond.code yX11_isFigure cX11_isFigure 1 (some .boolean), Cond.methodLink RX11 97 yX11_readsOnce, Cond.instanceMethod yX11_readsOnce, Cond.selects RX11 yX11_readsOnce yX11_readsOnce]
def wsL_law_r15 : List Cond := [Cond.code yX11_readsOnce cX11_readsOnce 4 (some .boolean), Cond.methodLink RX11 87 yX11_has, Cond.static yX11_has, Cond.code yX11_has cX11_has 2 (some .boolean), Cond.methodLink RX11 81 yX11_fails, Cond.instanceMethod yX11_fails, Cond.selects RX11 yX11_fails yX11_fails, Cond.code yX11_fails cX11_fails 1 (some .boolean), Cond.methodLink RX11 91 yX11_number, Cond.instanceMethod yX11_number, Cond.selects RX11 yX11_number yX11_number, Cond.code yX11_number cX11_number 3 (some .boolean), Cond.methodLink RX11 94 yX11_ends, Cond.instanceMethod yX11_ends, Cond.selects RX11 yX11_ends yX11_ends, Cond.code yX11_ends cX11_ends 1 (some .boolean), Cond.methodLink RX11 100 yX11_readsOne, Cond.instanceMethod yX11_readsOne, Cond.selects RX11 yX11_readsOne yX11_readsOne, Cond.code yX11_readsOne cX11_readsOne 3 (some .boolean), Cond.methodLink RL 27 yX10_adds, Cond.instanceMethod yX10_adds, Cond.selects RX10 yX10_adds yX10_adds, Cond.code yX10_adds cX10_adds 3 (some .int)]
def wsL_law_r16 : List Cond := [Cond.methodLink RX10 121 yX10_appendReading, Cond.instanceMethod yX10_appendReading, Cond.selects RX10 yX10_appendReading yX10_appendReading, Cond.code yX10_appendReading cX10_appendReading 3 (some .int), Cond.methodLink RX10 263 yX3_isLater, Cond.methodLink RX10 266 yX3_isFull, Cond.methodLink RX10 129 yX10_rememberForUndo, Cond.instanceMethod yX10_rememberForUndo, Cond.selects RX10 yX10_rememberForUndo yX10_rememberForUndo, Cond.code yX10_rememberForUndo cX10_rememberForUndo 1 none, Cond.methodLink RX10 270 yX1_push, Cond.instanceMethod yX1_push, Cond.selects RX1 yX1_push yX1_push, Cond.code yX1_push cX1_push 2 none, Cond.methodLink RX1 31 Lib.Math.min.name, Cond.static Lib.Math.min.name, Cond.initialized "java/lang/Math", Cond.code Lib.Math.min.name Lib.Math.min.code 2 (some .int), Cond.methodLink RX1 27 yX6_put, Cond.instanceMethod yX6_put, Cond.selects RX6 yX6_put yX6_put, Cond.code yX6_put cX6_put 5 none, Cond.methodLink RX10 267 yX3_append, Cond.methodLink RL 31 yX11_adds]
def wsL_law_r17 : List Cond := [Cond.instanceMethod yX11_adds, Cond.selects RX11 yX11_adds yX11_adds, Cond.code yX11_adds cX11_adds 3 (some .int), Cond.methodLink RX11 123 yX11_comes, Cond.instanceMethod yX11_comes, Cond.selects RX11 yX11_comes yX11_comes, Cond.code yX11_comes cX11_comes 4 (some .int), Cond.methodLink RX11 120 yX11_remember, Cond.instanceMethod yX11_remember, Cond.selects RX11 yX11_remember yX11_remember, Cond.code yX11_remember cX11_remember 2 none, Cond.fieldLink RX11 117 "ThinReadingsModel" "undoAt" "I", Cond.methodLink RL 32 yX10_misses, Cond.instanceMethod yX10_misses, Cond.selects RX10 yX10_misses yX10_misses, Cond.code yX10_misses cX10_misses 2 (some .int), Cond.methodLink RL 35 yX11_misses, Cond.instanceMethod yX11_misses, Cond.selects RX11 yX11_misses yX11_misses, Cond.code yX11_misses cX11_misses 2 (some .int), Cond.methodLink RL 36 yX10_strikes, Cond.instanceMethod yX10_strikes, Cond.selects RX10 yX10_strikes yX10_strikes, Cond.code yX10_strikes cX10_strikes 2 (some .int)]
def wsL_law_r18 : List Cond := [Cond.methodLink RX10 125 yX3_has, Cond.methodLink RX10 132 yX3_remove, Cond.instanceMethod yX3_remove, Cond.selects RX3 yX3_remove yX3_remove, Cond.code yX3_remove cX3_remove 3 none, Cond.methodLink RL 39 yX11_strikes, Cond.instanceMethod yX11_strikes, Cond.selects RX11 yX11_strikes yX11_strikes, Cond.code yX11_strikes cX11_strikes 3 (some .int), Cond.methodLink RX11 113 yX11_isReading, Cond.instanceMethod yX11_isReading, Cond.selects RX11 yX11_isReading yX11_isReading, Cond.code yX11_isReading cX11_isReading 2 (some .boolean), Cond.methodLink RL 40 yX10_promises, Cond.instanceMethod yX10_promises, Cond.selects RX10 yX10_promises yX10_promises, Cond.code yX10_promises cX10_promises 3 (some .int), Cond.methodLink RL 43 yX11_promises, Cond.instanceMethod yX11_promises, Cond.selects RX11 yX11_promises yX11_promises, Cond.code yX11_promises cX11_promises 2 (some .int), Cond.methodLink RX11 127 yX11_becomes, Cond.instanceMethod yX11_becomes, Cond.selects RX11 yX11_becomes yX11_becomes]
def wsL_law_r19 : List Cond := [Cond.code yX11_becomes cX11_becomes 4 (some .int), Cond.methodLink RL 44 yX10_delays, Cond.instanceMethod yX10_delays, Cond.selects RX10 yX10_delays yX10_delays, Cond.code yX10_delays cX10_delays 3 (some .int), Cond.methodLink RL 47 yX11_delays, Cond.instanceMethod yX11_delays, Cond.selects RX11 yX11_delays yX11_delays, Cond.code yX11_delays cX11_delays 2 (some .int), Cond.methodLink RL 48 yX10_undo, Cond.instanceMethod yX10_undo, Cond.selects RX10 yX10_undo yX10_undo, Cond.code yX10_undo cX10_undo 1 (some .int), Cond.methodLink RX10 146 yX1_pop, Cond.instanceMethod yX1_pop, Cond.selects RX1 yX1_pop yX1_pop, Cond.code yX1_pop cX1_pop 2 none, Cond.methodLink RX1 37 yX6_take, Cond.instanceMethod yX6_take, Cond.selects RX6 yX6_take yX6_take, Cond.code yX6_take cX6_take 5 none, Cond.methodLink RX6 43 yX6_holds, Cond.instanceMethod yX6_holds, Cond.selects RX6 yX6_holds yX6_holds]
def wsL_law_r20 : List Cond := [Cond.code yX6_holds cX6_holds 2 (some .boolean), Cond.static yX10_bitAt, Cond.code yX10_bitAt cX10_bitAt 2 (some .int), Cond.methodLink RL 51 yX11_undo, Cond.instanceMethod yX11_undo, Cond.selects RX11 yX11_undo yX11_undo, Cond.code yX11_undo cX11_undo 2 (some .int), Cond.methodLink RL 52 yX10_reading, Cond.instanceMethod yX10_reading, Cond.selects RX10 yX10_reading yX10_reading, Cond.code yX10_reading cX10_reading 3 (some .int), Cond.methodLink RX10 149 yX9_refresh, Cond.instanceMethod yX9_refresh, Cond.selects RX9 yX9_refresh yX9_refresh, Cond.code yX9_refresh cX9_refresh 1 none, Cond.methodLink RX9 46 yX2_measureAll, Cond.instanceMethod yX2_measureAll, Cond.selects RX2 yX2_measureAll yX2_measureAll, Cond.code yX2_measureAll cX2_measureAll 2 none, Cond.methodLink RX2 31 yX3_isFirst, Cond.instanceMethod yX3_isFirst, Cond.selects RX3 yX3_isFirst yX3_isFirst, Cond.code yX3_isFirst cX3_isFirst 2 (some .boolean), Cond.methodLink RX3 32 yX3_isKnown]
def wsL_law_r21 : List Cond := [Cond.instanceMethod yX3_isKnown, Cond.selects RX3 yX3_isKnown yX3_isKnown, Cond.code yX3_isKnown cX3_isKnown 2 (some .boolean), Cond.methodLink RX2 35 yX3_isKnown, Cond.methodLink RX2 38 yX2_measureNeedsFrom, Cond.instanceMethod yX2_measureNeedsFrom, Cond.selects RX2 yX2_measureNeedsFrom yX2_measureNeedsFrom, Cond.code yX2_measureNeedsFrom cX2_measureNeedsFrom 6 none, Cond.methodLink RX2 42 yX2_farthest, Cond.instanceMethod yX2_farthest, Cond.selects RX2 yX2_farthest yX2_farthest, Cond.code yX2_farthest cX2_farthest 7 (some .int), Cond.methodLink RX2 49 yX2_offset, Cond.instanceMethod yX2_offset, Cond.selects RX2 yX2_offset yX2_offset, Cond.code yX2_offset cX2_offset 6 (some .int), Cond.methodLink RX2 66 Lib.Math.abs.name, Cond.static Lib.Math.abs.name, Cond.code Lib.Math.abs.name Lib.Math.abs.code 1 (some .int), Cond.methodLink RX2 53 yX3_has, Cond.methodLink RX2 46 yX2_span, Cond.instanceMethod yX2_span, Cond.selects RX2 yX2_span yX2_span, Cond.code yX2_span cX2_span 3 (some .int)]
def wsL_law_r22 : List Cond := [Cond.methodLink RX2 56 yX3_timeAt, Cond.methodLink RX9 51 yX9_cutPieces, Cond.instanceMethod yX9_cutPieces, Cond.selects RX9 yX9_cutPieces yX9_cutPieces, Cond.code yX9_cutPieces cX9_cutPieces 3 none, Cond.methodLink RX9 77 yX3_isFirst, Cond.methodLink RX9 80 yX3_isKnown, Cond.methodLink RX9 83 yX9_fitsStrip, Cond.instanceMethod yX9_fitsStrip, Cond.selects RX9 yX9_fitsStrip yX9_fitsStrip, Cond.code yX9_fitsStrip cX9_fitsStrip 4 (some .boolean), Cond.methodLink RX9 87 yX2_needOf, Cond.instanceMethod yX2_needOf, Cond.selects RX2 yX2_needOf yX2_needOf, Cond.code yX2_needOf cX2_needOf 4 (some .int), Cond.methodLink RX9 59 yX9_swingDoor, Cond.instanceMethod yX9_swingDoor, Cond.selects RX9 yX9_swingDoor yX9_swingDoor, Cond.code yX9_swingDoor cX9_swingDoor 5 (some .int), Cond.methodLink RX9 94 yX3_isLast, Cond.instanceMethod yX3_isLast, Cond.selects RX3 yX3_isLast yX3_isLast, Cond.code yX3_isLast cX3_isLast 2 (some .boolean), Cond.methodLink RX9 63 yX9_sendKept]
def wsL_law_r23 : List Cond := [Cond.instanceMethod yX9_sendKept, Cond.selects RX9 yX9_sendKept yX9_sendKept, Cond.code yX9_sendKept cX9_sendKept 4 none, Cond.methodLink RX9 100 yX3_timeAt, Cond.methodLink RX9 66 yX9_chooseLeast, Cond.instanceMethod yX9_chooseLeast, Cond.selects RX9 yX9_chooseLeast yX9_chooseLeast, Cond.code yX9_chooseLeast cX9_chooseLeast 4 (some .int), Cond.methodLink RX9 111 Lib.Math.min.name, Cond.methodLink RX9 114 yX9_chooseNext, Cond.instanceMethod yX9_chooseNext, Cond.selects RX9 yX9_chooseNext yX9_chooseNext, Cond.code yX9_chooseNext cX9_chooseNext 4 none, Cond.methodLink RX10 152 yX3_timeAt, Cond.methodLink RX10 156 yX3_valueAt, Cond.instanceMethod yX3_valueAt, Cond.selects RX3 yX3_valueAt yX3_valueAt, Cond.code yX3_valueAt cX3_valueAt 2 (some .int), Cond.methodLink RX10 159 yX2_stretchAt, Cond.instanceMethod yX2_stretchAt, Cond.selects RX2 yX2_stretchAt yX2_stretchAt, Cond.code yX2_stretchAt cX2_stretchAt 2 (some .int), Cond.methodLink RX10 162 yX9_pieceAt, Cond.instanceMethod yX9_pieceAt]
def wsL_law_r24 : List Cond := [Cond.selects RX9 yX9_pieceAt yX9_pieceAt, Cond.code yX9_pieceAt cX9_pieceAt 2 (some .int), Cond.methodLink RX9 70 yX3_has, Cond.methodLink RX10 168 yX10_bitAt, Cond.methodLink RX10 171 yX9_sentAt, Cond.instanceMethod yX9_sentAt, Cond.selects RX9 yX9_sentAt yX9_sentAt, Cond.code yX9_sentAt cX9_sentAt 2 (some .int), Cond.methodLink RL 55 yX11_reading, Cond.instanceMethod yX11_reading, Cond.selects RX11 yX11_reading yX11_reading, Cond.code yX11_reading cX11_reading 5 (some .int), Cond.methodLink RX11 130 yX11_isKnown, Cond.instanceMethod yX11_isKnown, Cond.selects RX11 yX11_isKnown yX11_isKnown, Cond.code yX11_isKnown cX11_isKnown 2 (some .boolean), Cond.methodLink RX11 172 yX11_door, Cond.instanceMethod yX11_door, Cond.selects RX11 yX11_door yX11_door, Cond.code yX11_door cX11_door 5 (some .int), Cond.methodLink RX11 133 yX11_isFirst, Cond.instanceMethod yX11_isFirst, Cond.selects RX11 yX11_isFirst yX11_isFirst, Cond.code yX11_isFirst cX11_isFirst 2 (some .boolean)]
def wsL_law_r25 : List Cond := [Cond.methodLink RX11 140 yX11_isLast, Cond.instanceMethod yX11_isLast, Cond.selects RX11 yX11_isLast yX11_isLast, Cond.code yX11_isLast cX11_isLast 2 (some .boolean), Cond.methodLink RX11 146 yX11_doorFrom, Cond.instanceMethod yX11_doorFrom, Cond.selects RX11 yX11_doorFrom yX11_doorFrom, Cond.code yX11_doorFrom cX11_doorFrom 4 (some .int), Cond.methodLink RX11 143 yX11_whyNot, Cond.instanceMethod yX11_whyNot, Cond.selects RX11 yX11_whyNot yX11_whyNot, Cond.code yX11_whyNot cX11_whyNot 5 (some .int), Cond.methodLink RX11 136 yX11_apartBy, Cond.instanceMethod yX11_apartBy, Cond.selects RX11 yX11_apartBy yX11_apartBy, Cond.code yX11_apartBy cX11_apartBy 6 (some .int), Cond.methodLink RX11 176 yX11_least, Cond.instanceMethod yX11_least, Cond.selects RX11 yX11_least yX11_least, Cond.code yX11_least cX11_least 5 (some .int), Cond.methodLink RX11 180 yX11_pieces, Cond.instanceMethod yX11_pieces, Cond.selects RX11 yX11_pieces yX11_pieces, Cond.code yX11_pieces cX11_pieces 5 (some .int)]
def wsL_law_r26 : List Cond := [Cond.methodLink RX11 169 yX11_isStrip, Cond.instanceMethod yX11_isStrip, Cond.selects RX11 yX11_isStrip yX11_isStrip, Cond.code yX11_isStrip cX11_isStrip 3 (some .boolean), Cond.fieldLink RX11 156 "ThinReadingsModel" "greatUpper" "J", Cond.fieldLink RX11 152 "ThinReadingsModel" "greatLower" "J", Cond.methodLink RX11 165 yX11_layStrip, Cond.instanceMethod yX11_layStrip, Cond.selects RX11 yX11_layStrip yX11_layStrip, Cond.code yX11_layStrip cX11_layStrip 6 none, Cond.constantLong RX11 159 (2), Cond.methodLink RX11 161 yX11_greater, Cond.instanceMethod yX11_greater, Cond.selects RX11 yX11_greater yX11_greater, Cond.code yX11_greater cX11_greater 5 none, Cond.methodLink RX11 183 yX11_stretchOf, Cond.instanceMethod yX11_stretchOf, Cond.selects RX11 yX11_stretchOf yX11_stretchOf, Cond.code yX11_stretchOf cX11_stretchOf 4 (some .int), Cond.methodLink RX11 186 yX11_bits, Cond.static yX11_bits, Cond.code yX11_bits cX11_bits 3 (some .int), Cond.methodLink RX11 189 yX11_sentAt, Cond.instanceMethod yX11_sentAt]
def wsL_law_r27 : List Cond := [Cond.selects RX11 yX11_sentAt yX11_sentAt, Cond.code yX11_sentAt cX11_sentAt 4 (some .int), Cond.methodLink RX11 149 yX11_keptAhead, Cond.instanceMethod yX11_keptAhead, Cond.selects RX11 yX11_keptAhead yX11_keptAhead, Cond.code yX11_keptAhead cX11_keptAhead 4 (some .int), Cond.methodLink RL 56 yX10_apart, Cond.instanceMethod yX10_apart, Cond.selects RX10 yX10_apart yX10_apart, Cond.code yX10_apart cX10_apart 5 (some .int), Cond.methodLink RX10 177 yX10_isLine, Cond.instanceMethod yX10_isLine, Cond.selects RX10 yX10_isLine yX10_isLine, Cond.code yX10_isLine cX10_isLine 3 (some .boolean), Cond.methodLink RX10 201 yX3_isKnown, Cond.methodLink RX10 181 yX2_farthest, Cond.methodLink RX10 184 yX2_offset, Cond.methodLink RX10 188 yX2_span, Cond.methodLink RX10 191 yX0_assign, Cond.instanceMethod yX0_assign, Cond.selects RX0 yX0_assign yX0_assign, Cond.code yX0_assign cX0_assign 4 none, Cond.methodLink RX0 16 yX0_commonDivisor, Cond.static yX0_commonDivisor]
def wsL_law_r28 : List Cond := [Cond.code yX0_commonDivisor cX0_commonDivisor 6 (some .int), Cond.methodLink RX10 195 yX0_part, Cond.instanceMethod yX0_part, Cond.selects RX0 yX0_part yX0_part, Cond.code yX0_part cX0_part 2 (some .int), Cond.methodLink RL 60 yX11_apart, Cond.instanceMethod yX11_apart, Cond.selects RX11 yX11_apart yX11_apart, Cond.code yX11_apart cX11_apart 8 (some .int), Cond.methodLink RX11 192 yX11_isSide, Cond.instanceMethod yX11_isSide, Cond.selects RX11 yX11_isSide yX11_isSide, Cond.code yX11_isSide cX11_isSide 3 (some .boolean), Cond.methodLink RX11 195 yX11_lowest, Cond.static yX11_lowest, Cond.code yX11_lowest cX11_lowest 11 (some .int), Cond.methodLink RL 61 yX10_why, Cond.instanceMethod yX10_why, Cond.selects RX10 yX10_why yX10_why, Cond.code yX10_why cX10_why 3 (some .int), Cond.methodLink RX10 198 yX2_firstBeyond, Cond.instanceMethod yX2_firstBeyond, Cond.selects RX2 yX2_firstBeyond yX2_firstBeyond, Cond.code yX2_firstBeyond cX2_firstBeyond 6 (some .int)]
def wsL_law_r29 : List Cond := [Cond.methodLink RL 64 yX11_why, Cond.instanceMethod yX11_why, Cond.selects RX11 yX11_why yX11_why, Cond.code yX11_why cX11_why 3 (some .int), Cond.methodLink RL 65 yX10_strip, Cond.instanceMethod yX10_strip, Cond.selects RX10 yX10_strip yX10_strip, Cond.code yX10_strip cX10_strip 5 (some .int), Cond.methodLink RX10 204 yX2_measureStrip, Cond.instanceMethod yX2_measureStrip, Cond.selects RX2 yX2_measureStrip yX2_measureStrip, Cond.code yX2_measureStrip cX2_measureStrip 8 none, Cond.methodLink RX2 71 yX0_assign, Cond.methodLink RX2 77 yX0_isBelow, Cond.instanceMethod yX0_isBelow, Cond.selects RX0 yX0_isBelow yX0_isBelow, Cond.code yX0_isBelow cX0_isBelow 3 (some .boolean), Cond.methodLink RL 68 yX11_strip, Cond.instanceMethod yX11_strip, Cond.selects RX11 yX11_strip yX11_strip, Cond.code yX11_strip cX11_strip 4 (some .int), Cond.methodLink RL 69 yX10_told, Cond.instanceMethod yX10_told, Cond.selects RX10 yX10_told yX10_told]
def wsL_law_r30 : List Cond := [Cond.code yX10_told cX10_told 7 (some .int), Cond.methodLink RX10 208 yX3_lastUpTo, Cond.instanceMethod yX3_lastUpTo, Cond.selects RX3 yX3_lastUpTo yX3_lastUpTo, Cond.code yX3_lastUpTo cX3_lastUpTo 5 (some .int), Cond.methodLink RX10 211 yX3_firstFrom, Cond.instanceMethod yX3_firstFrom, Cond.selects RX3 yX3_firstFrom yX3_firstFrom, Cond.code yX3_firstFrom cX3_firstFrom 4 (some .int), Cond.methodLink RX10 214 yX2_measureValue, Cond.instanceMethod yX2_measureValue, Cond.selects RX2 yX2_measureValue yX2_measureValue, Cond.code yX2_measureValue cX2_measureValue 8 none, Cond.methodLink RX2 81 yX3_valueAt, Cond.methodLink RL 72 yX11_told, Cond.instanceMethod yX11_told, Cond.selects RX11 yX11_told yX11_told, Cond.code yX11_told cX11_told 9 (some .int), Cond.methodLink RL 73 yX10_sees, Cond.instanceMethod yX10_sees, Cond.selects RX10 yX10_sees yX10_sees, Cond.code yX10_sees cX10_sees 3 (some .int), Cond.methodLink RX10 218 yX5_isFull, Cond.instanceMethod yX5_isFull]
def wsL_law_r31 : List Cond := [Cond.selects RX5 yX5_isFull yX5_isFull, Cond.code yX5_isFull cX5_isFull 1 (some .boolean), Cond.methodLink RX10 219 yX5_put, Cond.instanceMethod yX5_put, Cond.selects RX5 yX5_put yX5_put, Cond.code yX5_put cX5_put 3 (some .int), Cond.methodLink RL 76 yX11_sees, Cond.instanceMethod yX11_sees, Cond.selects RX11 yX11_sees yX11_sees, Cond.code yX11_sees cX11_sees 3 (some .int), Cond.methodLink RL 77 yX10_forget, Cond.instanceMethod yX10_forget, Cond.selects RX10 yX10_forget yX10_forget, Cond.code yX10_forget cX10_forget 1 (some .int), Cond.methodLink RL 80 yX11_forget, Cond.instanceMethod yX11_forget, Cond.selects RX11 yX11_forget yX11_forget, Cond.code yX11_forget cX11_forget 2 (some .int), Cond.methodLink RL 81 yX10_unseen, Cond.instanceMethod yX10_unseen, Cond.selects RX10 yX10_unseen yX10_unseen, Cond.code yX10_unseen cX10_unseen 2 (some .int), Cond.methodLink RX10 221 yX7_run, Cond.instanceMethod yX7_run]
def wsL_law_r32 : List Cond := [Cond.selects RX7 yX7_run yX7_run, Cond.code yX7_run cX7_run 2 none, Cond.methodLink RX7 41 yX7_swingAllDoors, Cond.instanceMethod yX7_swingAllDoors, Cond.selects RX7 yX7_swingAllDoors yX7_swingAllDoors, Cond.code yX7_swingAllDoors cX7_swingAllDoors 2 none, Cond.methodLink RX7 50 yX9_swingDoor, Cond.methodLink RX7 44 yX5_agreesWith, Cond.instanceMethod yX5_agreesWith, Cond.selects RX5 yX5_agreesWith yX5_agreesWith, Cond.code yX5_agreesWith cX5_agreesWith 2 (some .boolean), Cond.methodLink RL 84 yX11_unseen, Cond.instanceMethod yX11_unseen, Cond.selects RX11 yX11_unseen yX11_unseen, Cond.code yX11_unseen cX11_unseen 6 (some .int), Cond.methodLink RX11 199 yX11_layUnseen, Cond.instanceMethod yX11_layUnseen, Cond.selects RX11 yX11_layUnseen yX11_layUnseen, Cond.code yX11_layUnseen cX11_layUnseen 5 (some .int), Cond.methodLink RL 85 yX10_ask, Cond.instanceMethod yX10_ask, Cond.selects RX10 yX10_ask yX10_ask, Cond.code yX10_ask cX10_ask 1 (some .int), Cond.methodLink RX10 233 yX7_bestReading]
def wsL_law_r33 : List Cond := [Cond.instanceMethod yX7_bestReading, Cond.selects RX7 yX7_bestReading yX7_bestReading, Cond.code yX7_bestReading cX7_bestReading 6 (some .int), Cond.methodLink RX7 64 Lib.Math.max.name, Cond.static Lib.Math.max.name, Cond.code Lib.Math.max.name Lib.Math.max.code 2 (some .int), Cond.methodLink RX7 61 yX7_countKept, Cond.instanceMethod yX7_countKept, Cond.selects RX7 yX7_countKept yX7_countKept, Cond.code yX7_countKept cX7_countKept 4 (some .int), Cond.methodLink RX7 70 yX3_isKnown, Cond.methodLink RL 88 yX11_ask, Cond.instanceMethod yX11_ask, Cond.selects RX11 yX11_ask yX11_ask, Cond.code yX11_ask cX11_ask 8 (some .int), Cond.methodLink RL 89 yX10_keep, Cond.instanceMethod yX10_keep, Cond.selects RX10 yX10_keep yX10_keep, Cond.code yX10_keep cX10_keep 2 (some .int), Cond.methodLink RX10 236 yX6_put, Cond.methodLink RL 92 yX11_keep, Cond.instanceMethod yX11_keep, Cond.selects RX11 yX11_keep yX11_keep, Cond.code yX11_keep cX11_keep 3 (some .int)]
def wsL_law_r34 : List Cond := [Cond.methodLink RL 93 yX10_back, Cond.instanceMethod yX10_back, Cond.selects RX10 yX10_back yX10_back, Cond.code yX10_back cX10_back 2 (some .int), Cond.methodLink RX10 239 yX6_holds, Cond.methodLink RX10 242 yX6_take, Cond.methodLink RL 96 yX11_back, Cond.instanceMethod yX11_back, Cond.selects RX11 yX11_back yX11_back, Cond.code yX11_back cX11_back 3 (some .int), Cond.methodLink RL 97 yX10_count, Cond.instanceMethod yX10_count, Cond.selects RX10 yX10_count yX10_count, Cond.code yX10_count cX10_count 2 (some .int), Cond.methodLink RX10 248 yJ6_bitCount_0f7a4, Cond.static yJ6_bitCount_0f7a4, Cond.initialized RJ6, Cond.code yJ6_bitCount_0f7a4 cJ6_bitCount_0f7a4 1 (some .int), Cond.constant RJ6 265 (1431655765), Cond.constant RJ6 266 (858993459), Cond.constant RJ6 267 (252645135), Cond.methodLink RX10 256 yX9_longestWait, Cond.instanceMethod yX9_longestWait, Cond.selects RX9 yX9_longestWait yX9_longestWait]
def wsL_law_r35 : List Cond := [Cond.code yX9_longestWait cX9_longestWait 4 (some .int), Cond.methodLink RX9 106 Lib.Math.max.name, Cond.methodLink RX9 103 yX9_sentAt, Cond.methodLink RL 100 yX11_count, Cond.instanceMethod yX11_count, Cond.selects RX11 yX11_count yX11_count, Cond.code yX11_count cX11_count 2 (some .int), Cond.methodLink RX11 202 yX11_stretches, Cond.instanceMethod yX11_stretches, Cond.selects RX11 yX11_stretches yX11_stretches, Cond.code yX11_stretches cX11_stretches 3 (some .int), Cond.methodLink RX11 205 yX11_late, Cond.instanceMethod yX11_late, Cond.selects RX11 yX11_late yX11_late, Cond.code yX11_late cX11_late 6 (some .int)]
def wsL_law : List Cond := (wsL_law_r1 ++ (wsL_law_r2 ++ (wsL_law_r3 ++ (wsL_law_r4 ++ (wsL_law_r5 ++ (wsL_law_r6 ++ (wsL_law_r7 ++ (wsL_law_r8 ++ (wsL_law_r9 ++ (wsL_law_r10 ++ (wsL_law_r11 ++ (wsL_law_r12 ++ (wsL_law_r13 ++ (wsL_law_r14 ++ (wsL_law_r15 ++ (wsL_law_r16 ++ (wsL_law_r17 ++ (wsL_law_r18 ++ (wsL_law_r19 ++ (wsL_law_r20 ++ (wsL_law_r21 ++ (wsL_law_r22 ++ (wsL_law_r23 ++ (wsL_law_r24 ++ (wsL_law_r25 ++ (wsL_law_r26 ++ (wsL_law_r27 ++ (wsL_law_r28 ++ (wsL_law_r29 ++ (wsL_law_r30 ++ (wsL_law_r31 ++ (wsL_law_r32 ++ (wsL_law_r33 ++ (wsL_law_r34 ++ wsL_law_r35)))))))))))))))))))))))))))))))))) ++ wsX100 ++ wsX110 ++ wsX80 ++ wsX40 ++ wsX30 ++ wsX10 ++ wsX60 ++ wsX20 ++ wsX90 ++ wsX50 ++ wsX70 ++ wsX00 ++ ([] : List Cond)
theorem inlX0 : ∀ w ∈ wsX00, w ∈ wsL_law := fun _ h => List.mem_append_left _ (List.mem_append_right _ h)
theorem inlX1 : ∀ w ∈ wsX10, w ∈ wsL_law := fun _ h => List.mem_append_left _ (List.mem_append_left _ (List.mem_append_left _ (List.mem_append_left _ (List.mem_append_left _ (List.mem_append_left _ (List.mem_append_left _ (List.mem_append_right _ h)))))))
theorem inlX2 : ∀ w ∈ wsX20, w ∈ wsL_law := fun _ h => List.mem_append_left _ (List.mem_append_left _ (List.mem_append_left _ (List.mem_append_left _ (List.mem_append_left _ (List.mem_append_right _ h)))))
theorem inlX3 : ∀ w ∈ wsX30, w ∈ wsL_law := fun _ h => List.mem_append_left _ (List.mem_append_left _ (List.mem_append_left _ (List.mem_append_left _ (List.mem_append_left _ (List.mem_append_left _ (List.mem_append_left _ (List.mem_append_left _ (List.mem_append_right _ h))))))))
theorem inlX4 : ∀ w ∈ wsX40, w ∈ wsL_law := fun _ h => List.mem_append_left _ (List.mem_append_left _ (List.mem_append_left _ (List.mem_append_left _ (List.mem_append_left _ (List.mem_append_left _ (List.mem_append_left _ (List.mem_append_left _ (List.mem_append_left _ (List.mem_append_right _ h)))))))))
theorem inlX5 : ∀ w ∈ wsX50, w ∈ wsL_law := fun _ h => List.mem_append_left _ (List.mem_append_left _ (List.mem_append_left _ (List.mem_append_right _ h)))
theorem inlX6 : ∀ w ∈ wsX60, w ∈ wsL_law := fun _ h => List.mem_append_left _ (List.mem_append_left _ (List.mem_append_left _ (List.mem_append_left _ (List.mem_append_left _ (List.mem_append_left _ (List.mem_append_right _ h))))))
theorem inlX7 : ∀ w ∈ wsX70, w ∈ wsL_law := fun _ h => List.mem_append_left _ (List.mem_append_left _ (List.mem_append_right _ h))
theorem inlX8 : ∀ w ∈ wsX80, w ∈ wsL_law := fun _ h => List.mem_append_left _ (List.mem_append_left _ (List.mem_append_left _ (List.mem_append_left _ (List.mem_append_left _ (List.mem_append_left _ (List.mem_append_left _ (List.mem_append_left _ (List.mem_append_left _ (List.mem_append_left _ (List.mem_append_right _ h))))))))))
theorem inlX9 : ∀ w ∈ wsX90, w ∈ wsL_law := fun _ h => List.mem_append_left _ (List.mem_append_left _ (List.mem_append_left _ (List.mem_append_left _ (List.mem_append_right _ h))))
theorem inlX10 : ∀ w ∈ wsX100, w ∈ wsL_law := fun _ h => List.mem_append_left _ (List.mem_append_left _ (List.mem_append_left _ (List.mem_append_left _ (List.mem_append_left _ (List.mem_append_left _ (List.mem_append_left _ (List.mem_append_left _ (List.mem_append_left _ (List.mem_append_left _ (List.mem_append_left _ (List.mem_append_left _ (List.mem_append_right _ h))))))))))))
theorem inlX11 : ∀ w ∈ wsX110, w ∈ wsL_law := fun _ h => List.mem_append_left _ (List.mem_append_left _ (List.mem_append_left _ (List.mem_append_left _ (List.mem_append_left _ (List.mem_append_left _ (List.mem_append_left _ (List.mem_append_left _ (List.mem_append_left _ (List.mem_append_left _ (List.mem_append_left _ (List.mem_append_right _ h)))))))))))
abbrev vwCl : List vw_C := [(RX0, TX0, 2), (RX1, TX1, 3), (RX2, TX2, 4), (RX3, TX3, 5), (RX4, TX4, 8), (RX5, TX5, 3), (RX6, TX6, 3), (RX7, TX7, 8), (RX8, TX8, 2), (RX9, TX9, 10), (RX10, TX10, 10), (RX11, TX11, 23)]

/-! ===== BEGIN words of one list among another's, by their places ===== -/
theorem goodIn_r {big : List Cond} (ws : List Cond) (ps : List Nat) (hp : ws = ps.filterMap (fun i => big[i]?)) (h : ws.all goodWord = true) : GoodIn big ws := by
  intro w hw
  have h1 := List.all_eq_true.mp h w hw
  rw [hp] at hw
  obtain ⟨i, -, hi⟩ := List.mem_filterMap.mp hw
  have hm : w ∈ big := by first | exact List.mem_of_getElem? hi | exact List.getElem?_mem hi
  exact ⟨hm, good_of_word h1⟩
theorem goodIn_app {big a b : List Cond} (ha : GoodIn big a) (hb : GoodIn big b) : GoodIn big (a ++ b) := fun w h => (List.mem_append.mp h).elim (ha w) (hb w)
theorem goodIn_ca {big a b : List Cond} {c : Cond} (ha : GoodIn big (c :: a)) (hb : GoodIn big b) : GoodIn big (c :: (a ++ b)) := fun w h => (List.mem_cons.mp h).elim (fun e => ha w (List.mem_cons.mpr (Or.inl e))) (fun h => (List.mem_append.mp h).elim (fun h => ha w (List.mem_cons.mpr (Or.inr h))) (hb w))
theorem goodIn_sub {big ws : List Cond} (hm : ∀ w ∈ ws, w ∈ big) (h : ws.all goodWord = true) : GoodIn big ws := fun w hw => ⟨hm w hw, good_of_word (List.all_eq_true.mp h w hw)⟩
/-! ===== END ===== -/

/-! ===== BEGIN printed: names, fields, word lists, decode rows ===== -/
def RX0 : String := "KitchenTable$Course"
def TX0 : u_T := fun k => match k with
  | 0 => ("KitchenTable$Course", "stale", "Z", false)
  | 1 => ("KitchenTable$Course", "lyingAtEnd", "[I", true)
  | 2 => ("KitchenTable$Course", "knownAtEnd", "[[I", true)
  | 3 => ("KitchenTable$Course", "firstRead", "[[I", true)
  | 4 => ("KitchenTable$Course", "timesDone", "[[I", true)
  | 5 => ("KitchenTable$Course", "timesInAll", "[I", true)
  | 6 => ("KitchenTable$Course", "firstHour", "[I", true)
  | 7 => ("KitchenTable$Course", "firstDoer", "[I", true)
  | 8 => ("KitchenTable$Course", "table", "LKitchenTable$Table;", true)
  | 9 => ("KitchenTable$Course", "uppermost", "[I", true)
  | 10 => ("KitchenTable$Course", "known", "[I", true)
  | 11 => ("KitchenTable$Course", "askedOf", "[[I", true)
  | 12 => ("KitchenTable$Course", "toldTo", "[[I", true)
  | 13 => ("KitchenTable$Course", "facts", "[I", true)
  | 14 => ("KitchenTable$Course", "stack", "[I", true)
  | _ => ("KitchenTable$Course", "gone", "I", false)
def tyX0 : Nat → FieldType := fun k => match k with
  | 0 => .boolean
  | 1 => .array .int
  | 2 => .array (.array .int)
  | 3 => .array (.array .int)
  | 4 => .array (.array .int)
  | 5 => .array .int
  | 6 => .array .int
  | 7 => .array .int
  | 8 => .object "KitchenTable$Table"
  | 9 => .array .int
  | 10 => .array .int
  | 11 => .array (.array .int)
  | 12 => .array (.array .int)
  | 13 => .array .int
  | 14 => .array .int
  | _ => .int
abbrev wsX00 : List Cond := u_ws RX0 TX0 16
theorem nmX0 : ∀ a, a < 16 → ∀ b, b < 16 → a ≠ b → (TX0 a).2.1 ≠ (TX0 b).2.1 := by decide +kernel
theorem tyX0_ok : ∀ k, k < 16 → parseFieldDescriptor (TX0 k).2.2.1 = some (tyX0 k) := by decide +kernel
abbrev cX0_init : ByteArray := prog_2_method_1_code
def yX0_init : MethodName := ⟨RX0, "<init>", "(LKitchenTable$Table;)V"⟩
abbrev cX0_run : ByteArray := prog_2_method_2_code
def yX0_run : MethodName := ⟨RX0, "run", "()V"⟩
abbrev cX0_harmDone : ByteArray := prog_2_method_3_code
def yX0_harmDone : MethodName := ⟨RX0, "harmDone", "()I"⟩
abbrev cX0_isNeglected : ByteArray := prog_2_method_4_code
def yX0_isNeglected : MethodName := ⟨RX0, "isNeglected", "(I)Z"⟩
abbrev cX0_clear : ByteArray := prog_2_method_5_code
def yX0_clear : MethodName := ⟨RX0, "clear", "()V"⟩
abbrev cX0_sortUppermost : ByteArray := prog_2_method_6_code
def yX0_sortUppermost : MethodName := ⟨RX0, "sortUppermost", "()V"⟩
abbrev cX0_putIn : ByteArray := prog_2_method_7_code
def yX0_putIn : MethodName := ⟨RX0, "putIn", "(I)I"⟩
abbrev cX0_visit : ByteArray := prog_2_method_8_code
def yX0_visit : MethodName := ⟨RX0, "visit", "(III)V"⟩
abbrev cX0_uppermostOf : ByteArray := prog_2_method_9_code
def yX0_uppermostOf : MethodName := ⟨RX0, "uppermostOf", "(II)I"⟩
abbrev cX0_learn : ByteArray := prog_2_method_10_code
def yX0_learn : MethodName := ⟨RX0, "learn", "(III)V"⟩
abbrev cX0_act : ByteArray := prog_2_method_11_code
def yX0_act : MethodName := ⟨RX0, "act", "(III)V"⟩
abbrev cX0_careFor : ByteArray := prog_2_method_12_code
def yX0_careFor : MethodName := ⟨RX0, "careFor", "(I)I"⟩
abbrev cX0_askedInAll : ByteArray := prog_2_method_13_code
def yX0_askedInAll : MethodName := ⟨RX0, "askedInAll", "(I)I"⟩
abbrev cX0_says : ByteArray := prog_2_method_14_code
def yX0_says : MethodName := ⟨RX0, "says", "(IIII)I"⟩
def RX1 : String := "KitchenTable$Guest"
def TX1 : u_T := fun k => match k with
  | _ => ("KitchenTable$Guest", "traits", "[I", true)
def tyX1 : Nat → FieldType := fun k => match k with
  | _ => .array .int
abbrev wsX10 : List Cond := u_ws RX1 TX1 1
theorem nmX1 : ∀ a, a < 1 → ∀ b, b < 1 → a ≠ b → (TX1 a).2.1 ≠ (TX1 b).2.1 := by decide +kernel
theorem tyX1_ok : ∀ k, k < 1 → parseFieldDescriptor (TX1 k).2.2.1 = some (tyX1 k) := by decide +kernel
abbrev cX1_init : ByteArray := prog_3_method_1_code
def yX1_init : MethodName := ⟨RX1, "<init>", "()V"⟩
abbrev cX1_comesIn : ByteArray := prog_3_method_2_code
def yX1_comesIn : MethodName := ⟨RX1, "comesIn", "(I)Z"⟩
def RX2 : String := "KitchenTable$Image"
def TX2 : u_T := fun k => match k with
  | 0 => ("KitchenTable$Image", "isThere", "Z", false)
  | 1 => ("KitchenTable$Image", "peopleCount", "I", false)
  | 2 => ("KitchenTable$Image", "traits", "[[I", true)
  | 3 => ("KitchenTable$Image", "slipCount", "I", false)
  | 4 => ("KitchenTable$Image", "hours", "[I", true)
  | 5 => ("KitchenTable$Image", "markCount", "I", false)
  | _ => ("KitchenTable$Image", "ruleNumber", "I", false)
def tyX2 : Nat → FieldType := fun k => match k with
  | 0 => .boolean
  | 1 => .int
  | 2 => .array (.array .int)
  | 3 => .int
  | 4 => .array .int
  | 5 => .int
  | _ => .int
abbrev wsX20 : List Cond := u_ws RX2 TX2 7
theorem nmX2 : ∀ a, a < 7 → ∀ b, b < 7 → a ≠ b → (TX2 a).2.1 ≠ (TX2 b).2.1 := by decide +kernel
theorem tyX2_ok : ∀ k, k < 7 → parseFieldDescriptor (TX2 k).2.2.1 = some (tyX2 k) := by decide +kernel
abbrev cX2_init : ByteArray := prog_4_method_1_code
def yX2_init : MethodName := ⟨RX2, "<init>", "()V"⟩
def RX3 : String := "KitchenTable$Marks"
def TX3 : u_T := fun k => match k with
  | 0 => ("KitchenTable$Marks", "ahead", "[I", true)
  | 1 => ("KitchenTable$Marks", "behind", "[I", true)
  | 2 => ("KitchenTable$Marks", "size", "I", false)
  | 3 => ("KitchenTable$Marks", "before", "[I", true)
  | _ => ("KitchenTable$Marks", "ways", "[I", true)
def tyX3 : Nat → FieldType := fun k => match k with
  | 0 => .array .int
  | 1 => .array .int
  | 2 => .int
  | 3 => .array .int
  | _ => .array .int
abbrev wsX30 : List Cond := u_ws RX3 TX3 5
theorem nmX3 : ∀ a, a < 5 → ∀ b, b < 5 → a ≠ b → (TX3 a).2.1 ≠ (TX3 b).2.1 := by decide +kernel
theorem tyX3_ok : ∀ k, k < 5 → parseFieldDescriptor (TX3 k).2.2.1 = some (tyX3 k) := by decide +kernel
abbrev cX3_init : ByteArray := prog_5_method_1_code
def yX3_init : MethodName := ⟨RX3, "<init>", "()V"⟩
abbrev cX3_add : ByteArray := prog_5_method_2_code
def yX3_add : MethodName := ⟨RX3, "add", "(II)Z"⟩
abbrev cX3_ordersOf : ByteArray := prog_5_method_3_code
def yX3_ordersOf : MethodName := ⟨RX3, "ordersOf", "(III)I"⟩
abbrev cX3_waysOf : ByteArray := prog_5_method_4_code
def yX3_waysOf : MethodName := ⟨RX3, "waysOf", "(II)I"⟩
abbrev cX3_farthestPlace : ByteArray := prog_5_method_5_code
def yX3_farthestPlace : MethodName := ⟨RX3, "farthestPlace", "(IIZ)I"⟩
def RX4 : String := "KitchenTable$Parser"
def TX4 : u_T := fun k => match k with
  | 0 => ("KitchenTable$Parser", "tape", "LKitchenTable$Tape;", true)
  | 1 => ("KitchenTable$Parser", "rule", "LKitchenTable$Rule;", true)
  | 2 => ("KitchenTable$Parser", "index", "I", false)
  | 3 => ("KitchenTable$Parser", "open", "I", false)
  | _ => ("KitchenTable$Parser", "fault", "I", false)
def tyX4 : Nat → FieldType := fun k => match k with
  | 0 => .object "KitchenTable$Tape"
  | 1 => .object "KitchenTable$Rule"
  | 2 => .int
  | 3 => .int
  | _ => .int
abbrev wsX40 : List Cond := u_ws RX4 TX4 5
theorem nmX4 : ∀ a, a < 5 → ∀ b, b < 5 → a ≠ b → (TX4 a).2.1 ≠ (TX4 b).2.1 := by decide +kernel
theorem tyX4_ok : ∀ k, k < 5 → parseFieldDescriptor (TX4 k).2.2.1 = some (tyX4 k) := by decide +kernel
abbrev cX4_init : ByteArray := prog_6_method_1_code
def yX4_init : MethodName := ⟨RX4, "<init>", "(LKitchenTable$Tape;LKitchenTable$Rule;)V"⟩
abbrev cX4_parse : ByteArray := prog_6_method_2_code
def yX4_parse : MethodName := ⟨RX4, "parse", "()I"⟩
abbrev cX4_token : ByteArray := prog_6_method_3_code
def yX4_token : MethodName := ⟨RX4, "token", "()I"⟩
abbrev cX4_advance : ByteArray := prog_6_method_4_code
def yX4_advance : MethodName := ⟨RX4, "advance", "()V"⟩
abbrev cX4_fail : ByteArray := prog_6_method_5_code
def yX4_fail : MethodName := ⟨RX4, "fail", "()V"⟩
abbrev cX4_expect : ByteArray := prog_6_method_6_code
def yX4_expect : MethodName := ⟨RX4, "expect", "(I)V"⟩
abbrev cX4_level : ByteArray := prog_6_method_7_code
def yX4_level : MethodName := ⟨RX4, "level", "(I)V"⟩
abbrev cX4_chain : ByteArray := prog_6_method_8_code
def yX4_chain : MethodName := ⟨RX4, "chain", "(I)V"⟩
abbrev cX4_joins : ByteArray := prog_6_method_9_code
def yX4_joins : MethodName := ⟨RX4, "joins", "(I)Z"⟩
abbrev cX4_negation : ByteArray := prog_6_method_10_code
def yX4_negation : MethodName := ⟨RX4, "negation", "()V"⟩
abbrev cX4_one : ByteArray := prog_6_method_11_code
def yX4_one : MethodName := ⟨RX4, "one", "()V"⟩
abbrev cX4_negative : ByteArray := prog_6_method_12_code
def yX4_negative : MethodName := ⟨RX4, "negative", "()V"⟩
abbrev cX4_inner : ByteArray := prog_6_method_13_code
def yX4_inner : MethodName := ⟨RX4, "inner", "()V"⟩
abbrev cX4_opens : ByteArray := prog_6_method_14_code
def yX4_opens : MethodName := ⟨RX4, "opens", "()Z"⟩
def RX5 : String := "KitchenTable$Rule"
def TX5 : u_T := fun k => match k with
  | 0 => ("KitchenTable$Rule", "steps", "[I", true)
  | 1 => ("KitchenTable$Rule", "ends", "[I", true)
  | _ => ("KitchenTable$Rule", "size", "I", false)
def tyX5 : Nat → FieldType := fun k => match k with
  | 0 => .array .int
  | 1 => .array .int
  | _ => .int
abbrev wsX50 : List Cond := u_ws RX5 TX5 3
theorem nmX5 : ∀ a, a < 3 → ∀ b, b < 3 → a ≠ b → (TX5 a).2.1 ≠ (TX5 b).2.1 := by decide +kernel
theorem tyX5_ok : ∀ k, k < 3 → parseFieldDescriptor (TX5 k).2.2.1 = some (tyX5 k) := by decide +kernel
abbrev cX5_init : ByteArray := prog_7_method_1_code
def yX5_init : MethodName := ⟨RX5, "<init>", "()V"⟩
abbrev cX5_clear : ByteArray := prog_7_method_2_code
def yX5_clear : MethodName := ⟨RX5, "clear", "()V"⟩
abbrev cX5_add : ByteArray := prog_7_method_3_code
def yX5_add : MethodName := ⟨RX5, "add", "(I)V"⟩
abbrev cX5_endPart : ByteArray := prog_7_method_4_code
def yX5_endPart : MethodName := ⟨RX5, "endPart", "(I)V"⟩
abbrev cX5_value : ByteArray := prog_7_method_5_code
def yX5_value : MethodName := ⟨RX5, "value", "(I[I[I)I"⟩
abbrev cX5_meant : ByteArray := prog_7_method_6_code
def yX5_meant : MethodName := ⟨RX5, "meant", "(I[I)I"⟩
abbrev cX5_joined : ByteArray := prog_7_method_7_code
def yX5_joined : MethodName := ⟨RX5, "joined", "(III)I"⟩
def RX6 : String := "KitchenTable$Sheet"
def TX6 : u_T := fun k => match k with
  | 0 => ("KitchenTable$Sheet", "cells", "[I", true)
  | 1 => ("KitchenTable$Sheet", "sort", "I", false)
  | _ => ("KitchenTable$Sheet", "size", "I", false)
def tyX6 : Nat → FieldType := fun k => match k with
  | 0 => .array .int
  | 1 => .int
  | _ => .int
abbrev wsX60 : List Cond := u_ws RX6 TX6 3
theorem nmX6 : ∀ a, a < 3 → ∀ b, b < 3 → a ≠ b → (TX6 a).2.1 ≠ (TX6 b).2.1 := by decide +kernel
theorem tyX6_ok : ∀ k, k < 3 → parseFieldDescriptor (TX6 k).2.2.1 = some (tyX6 k) := by decide +kernel
abbrev cX6_init : ByteArray := prog_8_method_1_code
def yX6_init : MethodName := ⟨RX6, "<init>", "()V"⟩
abbrev cX6_isMissing : ByteArray := prog_8_method_2_code
def yX6_isMissing : MethodName := ⟨RX6, "isMissing", "()Z"⟩
abbrev cX6_has : ByteArray := prog_8_method_3_code
def yX6_has : MethodName := ⟨RX6, "has", "(I)Z"⟩
abbrev cX6_hasRun : ByteArray := prog_8_method_4_code
def yX6_hasRun : MethodName := ⟨RX6, "hasRun", "(II)Z"⟩
abbrev cX6_become : ByteArray := prog_8_method_5_code
def yX6_become : MethodName := ⟨RX6, "become", "(II)V"⟩
abbrev cX6_put : ByteArray := prog_8_method_6_code
def yX6_put : MethodName := ⟨RX6, "put", "(II)V"⟩
def RX7 : String := "KitchenTable$Slip"
def TX7 : u_T := fun k => match k with
  | 0 => ("KitchenTable$Slip", "kind", "I", false)
  | 1 => ("KitchenTable$Slip", "hour", "I", false)
  | 2 => ("KitchenTable$Slip", "thing", "I", false)
  | 3 => ("KitchenTable$Slip", "number", "I", false)
  | 4 => ("KitchenTable$Slip", "high", "I", false)
  | 5 => ("KitchenTable$Slip", "lasts", "I", false)
  | 6 => ("KitchenTable$Slip", "asks", "I", false)
  | _ => ("KitchenTable$Slip", "tells", "I", false)
def tyX7 : Nat → FieldType := fun k => match k with
  | 0 => .int
  | 1 => .int
  | 2 => .int
  | 3 => .int
  | 4 => .int
  | 5 => .int
  | 6 => .int
  | _ => .int
abbrev wsX70 : List Cond := u_ws RX7 TX7 8
theorem nmX7 : ∀ a, a < 8 → ∀ b, b < 8 → a ≠ b → (TX7 a).2.1 ≠ (TX7 b).2.1 := by decide +kernel
theorem tyX7_ok : ∀ k, k < 8 → parseFieldDescriptor (TX7 k).2.2.1 = some (tyX7 k) := by decide +kernel
abbrev cX7_init : ByteArray := prog_9_method_1_code
def yX7_init : MethodName := ⟨RX7, "<init>", "()V"⟩
abbrev cX7_become : ByteArray := prog_9_method_2_code
def yX7_become : MethodName := ⟨RX7, "become", "(IIII)V"⟩
abbrev cX7_liesIn : ByteArray := prog_9_method_3_code
def yX7_liesIn : MethodName := ⟨RX7, "liesIn", "(I)Z"⟩
abbrev cX7_isUnder : ByteArray := prog_9_method_4_code
def yX7_isUnder : MethodName := ⟨RX7, "isUnder", "(I)Z"⟩
abbrev cX7_highOf : ByteArray := prog_9_method_5_code
def yX7_highOf : MethodName := ⟨RX7, "highOf", "(II)I"⟩
abbrev cX7_lastsOf : ByteArray := prog_9_method_6_code
def yX7_lastsOf : MethodName := ⟨RX7, "lastsOf", "(II)I"⟩
abbrev cX7_asksOf : ByteArray := prog_9_method_7_code
def yX7_asksOf : MethodName := ⟨RX7, "asksOf", "(I)I"⟩
abbrev cX7_tellsOf : ByteArray := prog_9_method_8_code
def yX7_tellsOf : MethodName := ⟨RX7, "tellsOf", "(I)I"⟩
def RX8 : String := "KitchenTable$Table"
def TX8 : u_T := fun k => match k with
  | 0 => ("KitchenTable$Table", "people", "[LKitchenTable$Guest;", true)
  | 1 => ("KitchenTable$Table", "slips", "[LKitchenTable$Slip;", true)
  | 2 => ("KitchenTable$Table", "rules", "[LKitchenTable$Rule;", true)
  | 3 => ("KitchenTable$Table", "peopleCount", "I", false)
  | 4 => ("KitchenTable$Table", "slipCount", "I", false)
  | 5 => ("KitchenTable$Table", "ruleCount", "I", false)
  | _ => ("KitchenTable$Table", "ruleNumber", "I", false)
def tyX8 : Nat → FieldType := fun k => match k with
  | 0 => .array (.object "KitchenTable$Guest")
  | 1 => .array (.object "KitchenTable$Slip")
  | 2 => .array (.object "KitchenTable$Rule")
  | 3 => .int
  | 4 => .int
  | 5 => .int
  | _ => .int
abbrev wsX80 : List Cond := u_ws RX8 TX8 7
theorem nmX8 : ∀ a, a < 7 → ∀ b, b < 7 → a ≠ b → (TX8 a).2.1 ≠ (TX8 b).2.1 := by decide +kernel
theorem tyX8_ok : ∀ k, k < 7 → parseFieldDescriptor (TX8 k).2.2.1 = some (tyX8 k) := by decide +kernel
abbrev cX8_init : ByteArray := prog_10_method_1_code
def yX8_init : MethodName := ⟨RX8, "<init>", "()V"⟩
abbrev cX8_hasGuest : ByteArray := prog_10_method_2_code
def yX8_hasGuest : MethodName := ⟨RX8, "hasGuest", "(I)Z"⟩
abbrev cX8_hasSlip : ByteArray := prog_10_method_3_code
def yX8_hasSlip : MethodName := ⟨RX8, "hasSlip", "(I)Z"⟩
abbrev cX8_addGuest : ByteArray := prog_10_method_4_code
def yX8_addGuest : MethodName := ⟨RX8, "addGuest", "(IIII)I"⟩
abbrev cX8_addSlip : ByteArray := prog_10_method_5_code
def yX8_addSlip : MethodName := ⟨RX8, "addSlip", "(IIII)I"⟩
abbrev cX8_liesAbove : ByteArray := prog_10_method_6_code
def yX8_liesAbove : MethodName := ⟨RX8, "liesAbove", "(II)Z"⟩
abbrev cX8_whoComes : ByteArray := prog_10_method_7_code
def yX8_whoComes : MethodName := ⟨RX8, "whoComes", "(I)I"⟩
def RX9 : String := "KitchenTable$Tape"
def TX9 : u_T := fun k => match k with
  | 0 => ("KitchenTable$Tape", "size", "I", false)
  | 1 => ("KitchenTable$Tape", "bytes", "[I", true)
  | 2 => ("KitchenTable$Tape", "tokens", "[I", true)
  | 3 => ("KitchenTable$Tape", "starts", "[I", true)
  | _ => ("KitchenTable$Tape", "at", "I", false)
def tyX9 : Nat → FieldType := fun k => match k with
  | 0 => .int
  | 1 => .array .int
  | 2 => .array .int
  | 3 => .array .int
  | _ => .int
abbrev wsX90 : List Cond := u_ws RX9 TX9 5
theorem nmX9 : ∀ a, a < 5 → ∀ b, b < 5 → a ≠ b → (TX9 a).2.1 ≠ (TX9 b).2.1 := by decide +kernel
theorem tyX9_ok : ∀ k, k < 5 → parseFieldDescriptor (TX9 k).2.2.1 = some (tyX9 k) := by decide +kernel
abbrev cX9_init : ByteArray := prog_11_method_1_code
def yX9_init : MethodName := ⟨RX9, "<init>", "()V"⟩
abbrev cX9_append : ByteArray := prog_11_method_2_code
def yX9_append : MethodName := ⟨RX9, "append", "(I)Z"⟩
abbrev cX9_scan : ByteArray := prog_11_method_3_code
def yX9_scan : MethodName := ⟨RX9, "scan", "()V"⟩
abbrev cX9_skipBlanks : ByteArray := prog_11_method_4_code
def yX9_skipBlanks : MethodName := ⟨RX9, "skipBlanks", "()V"⟩
abbrev cX9_nextToken : ByteArray := prog_11_method_5_code
def yX9_nextToken : MethodName := ⟨RX9, "nextToken", "(I)I"⟩
abbrev cX9_numberToken : ByteArray := prog_11_method_6_code
def yX9_numberToken : MethodName := ⟨RX9, "numberToken", "(I)I"⟩
abbrev cX9_wordToken : ByteArray := prog_11_method_7_code
def yX9_wordToken : MethodName := ⟨RX9, "wordToken", "(I)I"⟩
abbrev cX9_spells : ByteArray := prog_11_method_8_code
def yX9_spells : MethodName := ⟨RX9, "spells", "(ILjava/lang/String;)Z"⟩
abbrev cX9_isSmall : ByteArray := prog_11_method_9_code
def yX9_isSmall : MethodName := ⟨RX9, "isSmall", "(I)Z"⟩
abbrev cX9_isDigit : ByteArray := prog_11_method_10_code
def yX9_isDigit : MethodName := ⟨RX9, "isDigit", "(I)Z"⟩
abbrev cX9_isSign : ByteArray := prog_11_method_11_code
def yX9_isSign : MethodName := ⟨RX9, "isSign", "(I)Z"⟩
def RX10 : String := "KitchenTable"
def TX10 : u_T := fun k => match k with
  | 0 => ("KitchenTable", "table", "LKitchenTable$Table;", true)
  | 1 => ("KitchenTable", "course", "LKitchenTable$Course;", true)
  | 2 => ("KitchenTable", "tape", "LKitchenTable$Tape;", true)
  | 3 => ("KitchenTable", "marks", "LKitchenTable$Marks;", true)
  | 4 => ("KitchenTable", "kept", "LKitchenTable$Image;", true)
  | _ => ("KitchenTable", "sheets", "[LKitchenTable$Sheet;", true)
def tyX10 : Nat → FieldType := fun k => match k with
  | 0 => .object "KitchenTable$Table"
  | 1 => .object "KitchenTable$Course"
  | 2 => .object "KitchenTable$Tape"
  | 3 => .object "KitchenTable$Marks"
  | 4 => .object "KitchenTable$Image"
  | _ => .array (.object "KitchenTable$Sheet")
abbrev wsX100 : List Cond := u_ws RX10 TX10 6
theorem nmX10 : ∀ a, a < 6 → ∀ b, b < 6 → a ≠ b → (TX10 a).2.1 ≠ (TX10 b).2.1 := by decide +kernel
theorem tyX10_ok : ∀ k, k < 6 → parseFieldDescriptor (TX10 k).2.2.1 = some (tyX10 k) := by decide +kernel
abbrev cX10_init : ByteArray := prog_1_method_1_code
def yX10_init : MethodName := ⟨RX10, "<init>", "()V"⟩
abbrev cX10_person : ByteArray := prog_1_method_2_code
def yX10_person : MethodName := ⟨RX10, "person", "(III)I"⟩
abbrev cX10_note : ByteArray := prog_1_method_3_code
def yX10_note : MethodName := ⟨RX10, "note", "(III)I"⟩
abbrev cX10_set : ByteArray := prog_1_method_4_code
def yX10_set : MethodName := ⟨RX10, "set", "(III)I"⟩
abbrev cX10_told : ByteArray := prog_1_method_5_code
def yX10_told : MethodName := ⟨RX10, "told", "(II)I"⟩
abbrev cX10_feed : ByteArray := prog_1_method_6_code
def yX10_feed : MethodName := ⟨RX10, "feed", "(I)I"⟩
abbrev cX10_text : ByteArray := prog_1_method_7_code
def yX10_text : MethodName := ⟨RX10, "text", "()I"⟩
abbrev cX10_force : ByteArray := prog_1_method_8_code
def yX10_force : MethodName := ⟨RX10, "force", "(I)I"⟩
abbrev cX10_lies : ByteArray := prog_1_method_9_code
def yX10_lies : MethodName := ⟨RX10, "lies", "(I)I"⟩
abbrev cX10_top : ByteArray := prog_1_method_10_code
def yX10_top : MethodName := ⟨RX10, "top", "(I)I"⟩
abbrev cX10_read : ByteArray := prog_1_method_11_code
def yX10_read : MethodName := ⟨RX10, "read", "(II)I"⟩
abbrev cX10_knew : ByteArray := prog_1_method_12_code
def yX10_knew : MethodName := ⟨RX10, "knew", "(II)I"⟩
abbrev cX10_done : ByteArray := prog_1_method_13_code
def yX10_done : MethodName := ⟨RX10, "done", "(II)I"⟩
abbrev cX10_when : ByteArray := prog_1_method_14_code
def yX10_when : MethodName := ⟨RX10, "when", "(II)I"⟩
abbrev cX10_things : ByteArray := prog_1_method_15_code
def yX10_things : MethodName := ⟨RX10, "things", "(I)I"⟩
abbrev cX10_harm : ByteArray := prog_1_method_16_code
def yX10_harm : MethodName := ⟨RX10, "harm", "()I"⟩
abbrev cX10_helps : ByteArray := prog_1_method_17_code
def yX10_helps : MethodName := ⟨RX10, "helps", "(I)I"⟩
abbrev cX10_once : ByteArray := prog_1_method_18_code
def yX10_once : MethodName := ⟨RX10, "once", "(I)I"⟩
abbrev cX10_whose : ByteArray := prog_1_method_19_code
def yX10_whose : MethodName := ⟨RX10, "whose", "(II)I"⟩
abbrev cX10_mark : ByteArray := prog_1_method_20_code
def yX10_mark : MethodName := ⟨RX10, "mark", "(II)I"⟩
abbrev cX10_orders : ByteArray := prog_1_method_21_code
def yX10_orders : MethodName := ⟨RX10, "orders", "()J"⟩
abbrev cX10_odds : ByteArray := prog_1_method_22_code
def yX10_odds : MethodName := ⟨RX10, "odds", "(III)J"⟩
abbrev cX10_place : ByteArray := prog_1_method_23_code
def yX10_place : MethodName := ⟨RX10, "place", "(II)I"⟩
abbrev cX10_came : ByteArray := prog_1_method_24_code
def yX10_came : MethodName := ⟨RX10, "came", "(I)I"⟩
abbrev cX10_image : ByteArray := prog_1_method_25_code
def yX10_image : MethodName := ⟨RX10, "image", "()I"⟩
abbrev cX10_back : ByteArray := prog_1_method_26_code
def yX10_back : MethodName := ⟨RX10, "back", "()I"⟩
abbrev cX10_count : ByteArray := prog_1_method_27_code
def yX10_count : MethodName := ⟨RX10, "count", "(I)I"⟩
abbrev cX10_sheet : ByteArray := prog_1_method_28_code
def yX10_sheet : MethodName := ⟨RX10, "sheet", "(III)I"⟩
abbrev cX10_cell : ByteArray := prog_1_method_29_code
def yX10_cell : MethodName := ⟨RX10, "cell", "(III)I"⟩
abbrev cX10_copy : ByteArray := prog_1_method_30_code
def yX10_copy : MethodName := ⟨RX10, "copy", "(IIIII)I"⟩
abbrev cX10_notes : ByteArray := prog_1_method_31_code
def yX10_notes : MethodName := ⟨RX10, "notes", "(IIII)I"⟩
abbrev cX10_taken : ByteArray := prog_1_method_32_code
def yX10_taken : MethodName := ⟨RX10, "taken", "(II)I"⟩
abbrev cX10_isHour : ByteArray := prog_1_method_33_code
def yX10_isHour : MethodName := ⟨RX10, "isHour", "(I)Z"⟩
abbrev cX10_isThing : ByteArray := prog_1_method_34_code
def yX10_isThing : MethodName := ⟨RX10, "isThing", "(I)Z"⟩
abbrev cX10_isSheet : ByteArray := prog_1_method_35_code
def yX10_isSheet : MethodName := ⟨RX10, "isSheet", "(I)Z"⟩
abbrev cX10_fits : ByteArray := prog_1_method_36_code
def yX10_fits : MethodName := ⟨RX10, "fits", "(II)Z"⟩
abbrev cX10_addSlip : ByteArray := prog_1_method_37_code
def yX10_addSlip : MethodName := ⟨RX10, "addSlip", "(III)I"⟩
abbrev cX10_moveSlip : ByteArray := prog_1_method_38_code
def yX10_moveSlip : MethodName := ⟨RX10, "moveSlip", "(II)I"⟩
abbrev cX10_settledCourse : ByteArray := prog_1_method_39_code
def yX10_settledCourse : MethodName := ⟨RX10, "settledCourse", "()LKitchenTable$Course;"⟩
abbrev cX10_harmIfReading : ByteArray := prog_1_method_40_code
def yX10_harmIfReading : MethodName := ⟨RX10, "harmIfReading", "(II)I"⟩
abbrev cX10_greatestDivisor : ByteArray := prog_1_method_41_code
def yX10_greatestDivisor : MethodName := ⟨RX10, "greatestDivisor", "(II)I"⟩
def RX11 : String := "KitchenTableModel"
def TX11 : u_T := fun k => match k with
  | 0 => ("KitchenTableModel", "people", "I", false)
  | 1 => ("KitchenTableModel", "first", "[I", true)
  | 2 => ("KitchenTableModel", "every", "[I", true)
  | 3 => ("KitchenTableModel", "reads", "[I", true)
  | 4 => ("KitchenTableModel", "temper", "[I", true)
  | 5 => ("KitchenTableModel", "notes", "I", false)
  | 6 => ("KitchenTableModel", "kind", "[I", true)
  | 7 => ("KitchenTableModel", "hour", "[I", true)
  | 8 => ("KitchenTableModel", "thing", "[I", true)
  | 9 => ("KitchenTableModel", "number", "[I", true)
  | 10 => ("KitchenTableModel", "marks", "I", false)
  | 11 => ("KitchenTableModel", "ahead", "[I", true)
  | 12 => ("KitchenTableModel", "behind", "[I", true)
  | 13 => ("KitchenTableModel", "taped", "I", false)
  | 14 => ("KitchenTableModel", "tape", "[I", true)
  | 15 => ("KitchenTableModel", "texts", "I", false)
  | 16 => ("KitchenTableModel", "rule", "I", false)
  | 17 => ("KitchenTableModel", "code", "[I", true)
  | 18 => ("KitchenTableModel", "begins", "[I", true)
  | 19 => ("KitchenTableModel", "made", "I", false)
  | 20 => ("KitchenTableModel", "at", "I", false)
  | 21 => ("KitchenTableModel", "from", "I", false)
  | 22 => ("KitchenTableModel", "sort", "I", false)
  | 23 => ("KitchenTableModel", "value", "I", false)
  | 24 => ("KitchenTableModel", "open", "I", false)
  | 25 => ("KitchenTableModel", "stack", "[I", true)
  | 26 => ("KitchenTableModel", "readAt", "[I", true)
  | 27 => ("KitchenTableModel", "doneBy", "[I", true)
  | 28 => ("KitchenTableModel", "doneAll", "[I", true)
  | 29 => ("KitchenTableModel", "doneHour", "[I", true)
  | 30 => ("KitchenTableModel", "doneWho", "[I", true)
  | 31 => ("KitchenTableModel", "takenAt", "[I", true)
  | 32 => ("KitchenTableModel", "ways", "[J", true)
  | 33 => ("KitchenTableModel", "needs", "[I", true)
  | 34 => ("KitchenTableModel", "imaged", "Z", false)
  | 35 => ("KitchenTableModel", "oldPeople", "I", false)
  | 36 => ("KitchenTableModel", "oldNotes", "I", false)
  | 37 => ("KitchenTableModel", "oldMarks", "I", false)
  | 38 => ("KitchenTableModel", "oldRule", "I", false)
  | 39 => ("KitchenTableModel", "oldFirst", "[I", true)
  | 40 => ("KitchenTableModel", "oldEvery", "[I", true)
  | 41 => ("KitchenTableModel", "oldReads", "[I", true)
  | 42 => ("KitchenTableModel", "oldTemper", "[I", true)
  | 43 => ("KitchenTableModel", "oldHour", "[I", true)
  | 44 => ("KitchenTableModel", "sheetSort", "[I", true)
  | 45 => ("KitchenTableModel", "sheetSize", "[I", true)
  | 46 => ("KitchenTableModel", "cells", "[I", true)
  | _ => ("KitchenTableModel", "spare", "[I", true)
def tyX11 : Nat → FieldType := fun k => match k with
  | 0 => .int
  | 1 => .array .int
  | 2 => .array .int
  | 3 => .array .int
  | 4 => .array .int
  | 5 => .int
  | 6 => .array .int
  | 7 => .array .int
  | 8 => .array .int
  | 9 => .array .int
  | 10 => .int
  | 11 => .array .int
  | 12 => .array .int
  | 13 => .int
  | 14 => .array .int
  | 15 => .int
  | 16 => .int
  | 17 => .array .int
  | 18 => .array .int
  | 19 => .int
  | 20 => .int
  | 21 => .int
  | 22 => .int
  | 23 => .int
  | 24 => .int
  | 25 => .array .int
  | 26 => .array .int
  | 27 => .array .int
  | 28 => .array .int
  | 29 => .array .int
  | 30 => .array .int
  | 31 => .array .int
  | 32 => .array .long
  | 33 => .array .int
  | 34 => .boolean
  | 35 => .int
  | 36 => .int
  | 37 => .int
  | 38 => .int
  | 39 => .array .int
  | 40 => .array .int
  | 41 => .array .int
  | 42 => .array .int
  | 43 => .array .int
  | 44 => .array .int
  | 45 => .array .int
  | 46 => .array .int
  | _ => .array .int
abbrev wsX110 : List Cond := u_ws RX11 TX11 48
theorem nmX11 : ∀ a, a < 48 → ∀ b, b < 48 → a ≠ b → (TX11 a).2.1 ≠ (TX11 b).2.1 := by decide +kernel
theorem tyX11_ok : ∀ k, k < 48 → parseFieldDescriptor (TX11 k).2.2.1 = some (tyX11 k) := by decide +kernel
abbrev cX11_init : ByteArray := prog_13_method_1_code
def yX11_init : MethodName := ⟨RX11, "<init>", "()V"⟩
abbrev cX11_within : ByteArray := prog_13_method_2_code
def yX11_within : MethodName := ⟨RX11, "within", "(III)Z"⟩
abbrev cX11_isPerson : ByteArray := prog_13_method_3_code
def yX11_isPerson : MethodName := ⟨RX11, "isPerson", "(I)Z"⟩
abbrev cX11_isNote : ByteArray := prog_13_method_4_code
def yX11_isNote : MethodName := ⟨RX11, "isNote", "(I)Z"⟩
abbrev cX11_person : ByteArray := prog_13_method_5_code
def yX11_person : MethodName := ⟨RX11, "person", "(III)I"⟩
abbrev cX11_note : ByteArray := prog_13_method_6_code
def yX11_note : MethodName := ⟨RX11, "note", "(III)I"⟩
abbrev cX11_set : ByteArray := prog_13_method_7_code
def yX11_set : MethodName := ⟨RX11, "set", "(III)I"⟩
abbrev cX11_high : ByteArray := prog_13_method_8_code
def yX11_high : MethodName := ⟨RX11, "high", "(I)I"⟩
abbrev cX11_lasts : ByteArray := prog_13_method_9_code
def yX11_lasts : MethodName := ⟨RX11, "lasts", "(I)I"⟩
abbrev cX11_asks : ByteArray := prog_13_method_10_code
def yX11_asks : MethodName := ⟨RX11, "asks", "(I)I"⟩
abbrev cX11_tells : ByteArray := prog_13_method_11_code
def yX11_tells : MethodName := ⟨RX11, "tells", "(I)I"⟩
abbrev cX11_told : ByteArray := prog_13_method_12_code
def yX11_told : MethodName := ⟨RX11, "told", "(II)I"⟩
abbrev cX11_feed : ByteArray := prog_13_method_13_code
def yX11_feed : MethodName := ⟨RX11, "feed", "(I)I"⟩
abbrev cX11_next : ByteArray := prog_13_method_14_code
def yX11_next : MethodName := ⟨RX11, "next", "()V"⟩
abbrev cX11_isDigit : ByteArray := prog_13_method_15_code
def yX11_isDigit : MethodName := ⟨RX11, "isDigit", "(I)Z"⟩
abbrev cX11_isLetter : ByteArray := prog_13_method_16_code
def yX11_isLetter : MethodName := ⟨RX11, "isLetter", "(I)Z"⟩
abbrev cX11_is : ByteArray := prog_13_method_17_code
def yX11_is : MethodName := ⟨RX11, "is", "(Ljava/lang/String;)Z"⟩
abbrev cX11_is_ : ByteArray := prog_13_method_18_code
def yX11_is_ : MethodName := ⟨RX11, "is", "(C)Z"⟩
abbrev cX11_name : ByteArray := prog_13_method_19_code
def yX11_name : MethodName := ⟨RX11, "name", "()I"⟩
abbrev cX11_put : ByteArray := prog_13_method_20_code
def yX11_put : MethodName := ⟨RX11, "put", "(I)V"⟩
abbrev cX11_any : ByteArray := prog_13_method_21_code
def yX11_any : MethodName := ⟨RX11, "any", "()Z"⟩
abbrev cX11_both : ByteArray := prog_13_method_22_code
def yX11_both : MethodName := ⟨RX11, "both", "()Z"⟩
abbrev cX11_not : ByteArray := prog_13_method_23_code
def yX11_not : MethodName := ⟨RX11, "not", "()Z"⟩
abbrev cX11_sum : ByteArray := prog_13_method_24_code
def yX11_sum : MethodName := ⟨RX11, "sum", "()Z"⟩
abbrev cX11_term : ByteArray := prog_13_method_25_code
def yX11_term : MethodName := ⟨RX11, "term", "()Z"⟩
abbrev cX11_one : ByteArray := prog_13_method_26_code
def yX11_one : MethodName := ⟨RX11, "one", "()Z"⟩
abbrev cX11_part : ByteArray := prog_13_method_27_code
def yX11_part : MethodName := ⟨RX11, "part", "(Ljava/lang/String;I)Z"⟩
abbrev cX11_text : ByteArray := prog_13_method_28_code
def yX11_text : MethodName := ⟨RX11, "text", "()I"⟩
abbrev cX11_force : ByteArray := prog_13_method_29_code
def yX11_force : MethodName := ⟨RX11, "force", "(I)I"⟩
abbrev cX11_worth : ByteArray := prog_13_method_30_code
def yX11_worth : MethodName := ⟨RX11, "worth", "(IIIIIII)I"⟩
abbrev cX11_comes : ByteArray := prog_13_method_31_code
def yX11_comes : MethodName := ⟨RX11, "comes", "(II)Z"⟩
abbrev cX11_there : ByteArray := prog_13_method_32_code
def yX11_there : MethodName := ⟨RX11, "there", "(II)Z"⟩
abbrev cX11_above : ByteArray := prog_13_method_33_code
def yX11_above : MethodName := ⟨RX11, "above", "(II)Z"⟩
abbrev cX11_go : ByteArray := prog_13_method_34_code
def yX11_go : MethodName := ⟨RX11, "go", "()V"⟩
abbrev cX11_come : ByteArray := prog_13_method_35_code
def yX11_come : MethodName := ⟨RX11, "come", "(II)V"⟩
abbrev cX11_lying : ByteArray := prog_13_method_36_code
def yX11_lying : MethodName := ⟨RX11, "lying", "(I)I"⟩
abbrev cX11_lies : ByteArray := prog_13_method_37_code
def yX11_lies : MethodName := ⟨RX11, "lies", "(I)I"⟩
abbrev cX11_top : ByteArray := prog_13_method_38_code
def yX11_top : MethodName := ⟨RX11, "top", "(I)I"⟩
abbrev cX11_read : ByteArray := prog_13_method_39_code
def yX11_read : MethodName := ⟨RX11, "read", "(II)I"⟩
abbrev cX11_knew : ByteArray := prog_13_method_40_code
def yX11_knew : MethodName := ⟨RX11, "knew", "(II)I"⟩
abbrev cX11_done : ByteArray := prog_13_method_41_code
def yX11_done : MethodName := ⟨RX11, "done", "(II)I"⟩
abbrev cX11_when : ByteArray := prog_13_method_42_code
def yX11_when : MethodName := ⟨RX11, "when", "(II)I"⟩
abbrev cX11_isAsked : ByteArray := prog_13_method_43_code
def yX11_isAsked : MethodName := ⟨RX11, "isAsked", "(I)Z"⟩
abbrev cX11_things : ByteArray := prog_13_method_44_code
def yX11_things : MethodName := ⟨RX11, "things", "(I)I"⟩
abbrev cX11_care : ByteArray := prog_13_method_45_code
def yX11_care : MethodName := ⟨RX11, "care", "(I)I"⟩
abbrev cX11_harm : ByteArray := prog_13_method_46_code
def yX11_harm : MethodName := ⟨RX11, "harm", "()I"⟩
abbrev cX11_helps : ByteArray := prog_13_method_47_code
def yX11_helps : MethodName := ⟨RX11, "helps", "(I)I"⟩
abbrev cX11_once : ByteArray := prog_13_method_48_code
def yX11_once : MethodName := ⟨RX11, "once", "(I)I"⟩
abbrev cX11_whose : ByteArray := prog_13_method_49_code
def yX11_whose : MethodName := ⟨RX11, "whose", "(II)I"⟩
abbrev cX11_mark : ByteArray := prog_13_method_50_code
def yX11_mark : MethodName := ⟨RX11, "mark", "(II)I"⟩
abbrev cX11_all : ByteArray := prog_13_method_51_code
def yX11_all : MethodName := ⟨RX11, "all", "(II)J"⟩
abbrev cX11_orders : ByteArray := prog_13_method_52_code
def yX11_orders : MethodName := ⟨RX11, "orders", "()J"⟩
abbrev cX11_odds : ByteArray := prog_13_method_53_code
def yX11_odds : MethodName := ⟨RX11, "odds", "(III)J"⟩
abbrev cX11_place : ByteArray := prog_13_method_54_code
def yX11_place : MethodName := ⟨RX11, "place", "(II)I"⟩
abbrev cX11_came : ByteArray := prog_13_method_55_code
def yX11_came : MethodName := ⟨RX11, "came", "(I)I"⟩
abbrev cX11_image : ByteArray := prog_13_method_56_code
def yX11_image : MethodName := ⟨RX11, "image", "()I"⟩
abbrev cX11_back : ByteArray := prog_13_method_57_code
def yX11_back : MethodName := ⟨RX11, "back", "()I"⟩
abbrev cX11_count : ByteArray := prog_13_method_58_code
def yX11_count : MethodName := ⟨RX11, "count", "(I)I"⟩
abbrev cX11_sheet : ByteArray := prog_13_method_59_code
def yX11_sheet : MethodName := ⟨RX11, "sheet", "(III)I"⟩
abbrev cX11_cell : ByteArray := prog_13_method_60_code
def yX11_cell : MethodName := ⟨RX11, "cell", "(III)I"⟩
abbrev cX11_copy : ByteArray := prog_13_method_61_code
def yX11_copy : MethodName := ⟨RX11, "copy", "(IIIII)I"⟩
abbrev cX11_notes : ByteArray := prog_13_method_62_code
def yX11_notes : MethodName := ⟨RX11, "notes", "(IIII)I"⟩
abbrev cX11_taken : ByteArray := prog_13_method_63_code
def yX11_taken : MethodName := ⟨RX11, "taken", "(II)I"⟩
def RJx145de : String := "java/io/Serializable"
def TJx145de : u_T := fun k => match k with
  | _ => ("", "", "", false)
def tyJx145de : Nat → FieldType := fun k => match k with
  | _ => .int
abbrev wsJx145de0 : List Cond := u_ws RJx145de TJx145de 0
theorem nmJx145de : ∀ a, a < 0 → ∀ b, b < 0 → a ≠ b → (TJx145de a).2.1 ≠ (TJx145de b).2.1 := by decide +kernel
theorem tyJx145de_ok : ∀ k, k < 0 → parseFieldDescriptor (TJx145de k).2.2.1 = some (tyJx145de k) := by decide +kernel
def RJx9f9b0 : String := "java/lang/CharSequence"
def TJx9f9b0 : u_T := fun k => match k with
  | _ => ("", "", "", false)
def tyJx9f9b0 : Nat → FieldType := fun k => match k with
  | _ => .int
abbrev wsJx9f9b00 : List Cond := u_ws RJx9f9b0 TJx9f9b0 0
theorem nmJx9f9b0 : ∀ a, a < 0 → ∀ b, b < 0 → a ≠ b → (TJx9f9b0 a).2.1 ≠ (TJx9f9b0 b).2.1 := by decide +kernel
theorem tyJx9f9b0_ok : ∀ k, k < 0 → parseFieldDescriptor (TJx9f9b0 k).2.2.1 = some (tyJx9f9b0 k) := by decide +kernel
def RJxb160c : String := "java/lang/Comparable"
def TJxb160c : u_T := fun k => match k with
  | _ => ("", "", "", false)
def tyJxb160c : Nat → FieldType := fun k => match k with
  | _ => .int
abbrev wsJxb160c0 : List Cond := u_ws RJxb160c TJxb160c 0
theorem nmJxb160c : ∀ a, a < 0 → ∀ b, b < 0 → a ≠ b → (TJxb160c a).2.1 ≠ (TJxb160c b).2.1 := by decide +kernel
theorem tyJxb160c_ok : ∀ k, k < 0 → parseFieldDescriptor (TJxb160c k).2.2.1 = some (tyJxb160c k) := by decide +kernel
def RJ6 : String := "java/lang/Integer"
def TJ6 : u_T := fun k => match k with
  | _ => ("", "", "", false)
def tyJ6 : Nat → FieldType := fun k => match k with
  | _ => .int
abbrev wsJ60 : List Cond := u_ws RJ6 TJ6 0
theorem nmJ6 : ∀ a, a < 0 → ∀ b, b < 0 → a ≠ b → (TJ6 a).2.1 ≠ (TJ6 b).2.1 := by decide +kernel
theorem tyJ6_ok : ∀ k, k < 0 → parseFieldDescriptor (TJ6 k).2.2.1 = some (tyJ6 k) := by decide +kernel
abbrev cJ6_bitCount_0f7a4 : ByteArray := prog_14_method_49_code
def yJ6_bitCount_0f7a4 : MethodName := ⟨RJ6, "bitCount", "(I)I"⟩
def RJ9 : String := "java/lang/Math"
def TJ9 : u_T := fun k => match k with
  | _ => ("", "", "", false)
def tyJ9 : Nat → FieldType := fun k => match k with
  | _ => .int
abbrev wsJ90 : List Cond := u_ws RJ9 TJ9 0
theorem nmJ9 : ∀ a, a < 0 → ∀ b, b < 0 → a ≠ b → (TJ9 a).2.1 ≠ (TJ9 b).2.1 := by decide +kernel
theorem tyJ9_ok : ∀ k, k < 0 → parseFieldDescriptor (TJ9 k).2.2.1 = some (tyJ9 k) := by decide +kernel
abbrev cJ9_max_7cf53 : ByteArray := prog_15_method_65_code
def yJ9_max_7cf53 : MethodName := ⟨RJ9, "max", "(II)I"⟩
abbrev cJ9_min_7cf53 : ByteArray := prog_15_method_69_code
def yJ9_min_7cf53 : MethodName := ⟨RJ9, "min", "(II)I"⟩
def RJ0 : String := "java/lang/String"
def TJ0 : u_T := fun k => match k with
  | _ => ("", "", "", false)
def tyJ0 : Nat → FieldType := fun k => match k with
  | _ => .int
abbrev wsJ00 : List Cond := u_ws RJ0 TJ0 0
theorem nmJ0 : ∀ a, a < 0 → ∀ b, b < 0 → a ≠ b → (TJ0 a).2.1 ≠ (TJ0 b).2.1 := by decide +kernel
theorem tyJ0_ok : ∀ k, k < 0 → parseFieldDescriptor (TJ0 k).2.2.1 = some (tyJ0 k) := by decide +kernel
abbrev cJ0_length_8abf5 : ByteArray := prog_16_method_54_code
def yJ0_length_8abf5 : MethodName := ⟨RJ0, "length", "()I"⟩
abbrev cJ0_charAt_5068e : ByteArray := prog_16_method_56_code
def yJ0_charAt_5068e : MethodName := ⟨RJ0, "charAt", "(I)C"⟩
abbrev cJ0_coder_7d493 : ByteArray := prog_16_method_152_code
def yJ0_coder_7d493 : MethodName := ⟨RJ0, "coder", "()B"⟩
abbrev cJ0_isLatin1_aae02 : ByteArray := prog_16_method_154_code
def yJ0_isLatin1_aae02 : MethodName := ⟨RJ0, "isLatin1", "()Z"⟩
abbrev cJ0_checkIndex_df160 : ByteArray := prog_16_method_155_code
def yJ0_checkIndex_df160 : MethodName := ⟨RJ0, "checkIndex", "(II)V"⟩
def RJ1 : String := "java/lang/StringLatin1"
def TJ1 : u_T := fun k => match k with
  | _ => ("", "", "", false)
def tyJ1 : Nat → FieldType := fun k => match k with
  | _ => .int
abbrev wsJ10 : List Cond := u_ws RJ1 TJ1 0
theorem nmJ1 : ∀ a, a < 0 → ∀ b, b < 0 → a ≠ b → (TJ1 a).2.1 ≠ (TJ1 b).2.1 := by decide +kernel
theorem tyJ1_ok : ∀ k, k < 0 → parseFieldDescriptor (TJ1 k).2.2.1 = some (tyJ1 k) := by decide +kernel
abbrev cJ1_charAt_3b067 : ByteArray := prog_17_method_2_code
def yJ1_charAt_3b067 : MethodName := ⟨RJ1, "charAt", "([BI)C"⟩
def RJ2 : String := "java/lang/StringUTF16"
def TJ2 : u_T := fun k => match k with
  | _ => ("", "", "", false)
def tyJ2 : Nat → FieldType := fun k => match k with
  | _ => .int
abbrev wsJ20 : List Cond := u_ws RJ2 TJ2 0
theorem nmJ2 : ∀ a, a < 0 → ∀ b, b < 0 → a ≠ b → (TJ2 a).2.1 ≠ (TJ2 b).2.1 := by decide +kernel
theorem tyJ2_ok : ∀ k, k < 0 → parseFieldDescriptor (TJ2 k).2.2.1 = some (tyJ2 k) := by decide +kernel
abbrev cJ2_getChar_3b067 : ByteArray := prog_18_method_5_code
def yJ2_getChar_3b067 : MethodName := ⟨RJ2, "getChar", "([BI)C"⟩
abbrev cJ2_length_9d52b : ByteArray := prog_18_method_6_code
def yJ2_length_9d52b : MethodName := ⟨RJ2, "length", "([B)I"⟩
abbrev cJ2_charAt_3b067 : ByteArray := prog_18_method_83_code
def yJ2_charAt_3b067 : MethodName := ⟨RJ2, "charAt", "([BI)C"⟩
abbrev cJ2_checkIndex_2214a : ByteArray := prog_18_method_91_code
def yJ2_checkIndex_2214a : MethodName := ⟨RJ2, "checkIndex", "(I[B)V"⟩
def RJ10 : String := "java/lang/System"
def TJ10 : u_T := fun k => match k with
  | _ => ("", "", "", false)
def tyJ10 : Nat → FieldType := fun k => match k with
  | _ => .int
abbrev wsJ100 : List Cond := u_ws RJ10 TJ10 0
theorem nmJ10 : ∀ a, a < 0 → ∀ b, b < 0 → a ≠ b → (TJ10 a).2.1 ≠ (TJ10 b).2.1 := by decide +kernel
theorem tyJ10_ok : ∀ k, k < 0 → parseFieldDescriptor (TJ10 k).2.2.1 = some (tyJ10 k) := by decide +kernel
def RJxfd54e : String := "java/lang/constant/Constable"
def TJxfd54e : u_T := fun k => match k with
  | _ => ("", "", "", false)
def tyJxfd54e : Nat → FieldType := fun k => match k with
  | _ => .int
abbrev wsJxfd54e0 : List Cond := u_ws RJxfd54e TJxfd54e 0
theorem nmJxfd54e : ∀ a, a < 0 → ∀ b, b < 0 → a ≠ b → (TJxfd54e a).2.1 ≠ (TJxfd54e b).2.1 := by decide +kernel
theorem tyJxfd54e_ok : ∀ k, k < 0 → parseFieldDescriptor (TJxfd54e k).2.2.1 = some (tyJxfd54e k) := by decide +kernel
def RJx3cf43 : String := "java/lang/constant/ConstantDesc"
def TJx3cf43 : u_T := fun k => match k with
  | _ => ("", "", "", false)
def tyJx3cf43 : Nat → FieldType := fun k => match k with
  | _ => .int
abbrev wsJx3cf430 : List Cond := u_ws RJx3cf43 TJx3cf43 0
theorem nmJx3cf43 : ∀ a, a < 0 → ∀ b, b < 0 → a ≠ b → (TJx3cf43 a).2.1 ≠ (TJx3cf43 b).2.1 := by decide +kernel
theorem tyJx3cf43_ok : ∀ k, k < 0 → parseFieldDescriptor (TJx3cf43 k).2.2.1 = some (tyJx3cf43 k) := by decide +kernel
def RJ7 : String := "java/util/Arrays"
def TJ7 : u_T := fun k => match k with
  | _ => ("", "", "", false)
def tyJ7 : Nat → FieldType := fun k => match k with
  | _ => .int
abbrev wsJ70 : List Cond := u_ws RJ7 TJ7 0
theorem nmJ7 : ∀ a, a < 0 → ∀ b, b < 0 → a ≠ b → (TJ7 a).2.1 ≠ (TJ7 b).2.1 := by decide +kernel
theorem tyJ7_ok : ∀ k, k < 0 → parseFieldDescriptor (TJ7 k).2.2.1 = some (tyJ7 k) := by decide +kernel
abbrev cJ7_fill_53178 : ByteArray := prog_20_method_103_code
def yJ7_fill_53178 : MethodName := ⟨RJ7, "fill", "([II)V"⟩
def RJ3 : String := "jdk/internal/util/Preconditions"
def TJ3 : u_T := fun k => match k with
  | _ => ("", "", "", false)
def tyJ3 : Nat → FieldType := fun k => match k with
  | _ => .int
abbrev wsJ30 : List Cond := u_ws RJ3 TJ3 0
theorem nmJ3 : ∀ a, a < 0 → ∀ b, b < 0 → a ≠ b → (TJ3 a).2.1 ≠ (TJ3 b).2.1 := by decide +kernel
theorem tyJ3_ok : ∀ k, k < 0 → parseFieldDescriptor (TJ3 k).2.2.1 = some (tyJ3 k) := by decide +kernel
abbrev cJ3_checkIndex_8e157 : ByteArray := prog_21_method_11_code
def yJ3_checkIndex_8e157 : MethodName := ⟨RJ3, "checkIndex", "(IILjava/util/function/BiFunction;)I"⟩
def RL : String := "KitchenTableLaw"
abbrev cL_law : ByteArray := code
def yL_law : MethodName := ⟨RL, "law", "([I)Z"⟩
abbrev vwCl : List vw_C := [(RX0, TX0, 16), (RX1, TX1, 1), (RX2, TX2, 7), (RX3, TX3, 5), (RX4, TX4, 5), (RX5, TX5, 3), (RX6, TX6, 3), (RX7, TX7, 8), (RX8, TX8, 7), (RX9, TX9, 5), (RX10, TX10, 6), (RX11, TX11, 48)]
/-! ===== END printed: names ===== -/


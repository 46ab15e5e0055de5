theorem goodIn_r {big : List Cond} (ws : List Cond) (ps : List Nat) (hp : ws = ps.filterMap (fun i => big[i]?)) (h : ws.all goodWord = true) : GoodIn big ws := by
  intro w hw
  have h1 := List.all_eq_true.mp h w hw
  rw [hp] at hw
  obtain ⟨i, -, hi⟩ := List.mem_filterMap.mp hw
  have hm : w ∈ big := by first | exact List.mem_of_getElem? hi | exact List.getElem?_mem hi
  exact ⟨hm, good_of_word h1⟩
theorem goodIn_app {big a b : List Cond} (ha : GoodIn big a) (hb : GoodIn big b) : GoodIn big (a ++ b) := fun w h => (List.mem_append.mp h).elim (ha w) (hb w)
theorem goodIn_ca {big a b : List Cond} {c : Cond} (ha : GoodIn big (c :: a)) (hb : GoodIn big b) : GoodIn big (c :: (a ++ b)) := fun w h => (List.mem_cons.mp h).elim (fun e => ha w (List.mem_cons.mpr (Or.inl e))) (fun h => (List.mem_append.mp h).elim (fun h => ha w (List.mem_cons.mpr (Or.inr h))) (hb w))
theorem goodIn_sub {big ws : List Cond} (hm : ∀ w ∈ ws, w ∈ big) (h : ws.all goodWord = true) : GoodIn big ws := fun w hw => ⟨hm w hw, good_of_word (List.all_eq_true.mp h w hw)⟩

def RX0 : String := "ColouredHeap"
def TX0 : u_T := fun k => match k with
  | 0 => ("ColouredHeap", "threshold", "I", true)
  | 1 => ("ColouredHeap", "slotPlace", "[I", true)
  | 2 => ("ColouredHeap", "slotColour", "[I", true)
  | 3 => ("ColouredHeap", "objectValue", "[I", true)
  | 4 => ("ColouredHeap", "objectFields", "[I", true)
  | 5 => ("ColouredHeap", "marked", "[Z", true)
  | 6 => ("ColouredHeap", "forwarding", "[I", true)
  | 7 => ("ColouredHeap", "markStack", "[I", true)
  | 8 => ("ColouredHeap", "markStackSize", "I", false)
  | 9 => ("ColouredHeap", "usedWords", "[I", true)
  | 10 => ("ColouredHeap", "candidate", "[Z", true)
  | 11 => ("ColouredHeap", "inRelocationSet", "[Z", true)
  | 12 => ("ColouredHeap", "allocatingPage", "I", false)
  | 13 => ("ColouredHeap", "currentPhase", "I", false)
  | 14 => ("ColouredHeap", "healCount", "I", false)
  | 15 => ("ColouredHeap", "moveCount", "I", false)
  | _ => ("ColouredHeap", "cycleCount", "I", false)
def tyX0 : Nat → FieldType := fun k => match k with
  | 0 => .int
  | 1 => .array .int
  | 2 => .array .int
  | 3 => .array .int
  | 4 => .array .int
  | 5 => .array .boolean
  | 6 => .array .int
  | 7 => .array .int
  | 8 => .int
  | 9 => .array .int
  | 10 => .array .boolean
  | 11 => .array .boolean
  | 12 => .int
  | 13 => .int
  | 14 => .int
  | 15 => .int
  | _ => .int
abbrev wsX00 : List Cond := u_ws RX0 TX0 17
theorem nmX0 : ∀ a, a < 17 → ∀ b, b < 17 → a ≠ b → (TX0 a).2.1 ≠ (TX0 b).2.1 := by decide +kernel
theorem tyX0_ok : ∀ k, k < 17 → parseFieldDescriptor (TX0 k).2.2.1 = some (tyX0 k) := by decide +kernel
abbrev cX0_init : ByteArray := prog_1_method_1_code
def yX0_init : MethodName := ⟨RX0, "<init>", "(I)V"⟩
abbrev cX0_make : ByteArray := prog_1_method_2_code
def yX0_make : MethodName := ⟨RX0, "make", "(III)I"⟩
abbrev cX0_load : ByteArray := prog_1_method_3_code
def yX0_load : MethodName := ⟨RX0, "load", "(III)I"⟩
abbrev cX0_store : ByteArray := prog_1_method_4_code
def yX0_store : MethodName := ⟨RX0, "store", "(III)I"⟩
abbrev cX0_copy : ByteArray := prog_1_method_5_code
def yX0_copy : MethodName := ⟨RX0, "copy", "(II)Z"⟩
abbrev cX0_drop : ByteArray := prog_1_method_6_code
def yX0_drop : MethodName := ⟨RX0, "drop", "(I)Z"⟩
abbrev cX0_value : ByteArray := prog_1_method_7_code
def yX0_value : MethodName := ⟨RX0, "value", "(I)I"⟩
abbrev cX0_set : ByteArray := prog_1_method_8_code
def yX0_set : MethodName := ⟨RX0, "set", "(II)Z"⟩
abbrev cX0_fields : ByteArray := prog_1_method_9_code
def yX0_fields : MethodName := ⟨RX0, "fields", "(I)I"⟩
abbrev cX0_place : ByteArray := prog_1_method_10_code
def yX0_place : MethodName := ⟨RX0, "place", "(I)I"⟩
abbrev cX0_colour : ByteArray := prog_1_method_11_code
def yX0_colour : MethodName := ⟨RX0, "colour", "(II)I"⟩
abbrev cX0_behind : ByteArray := prog_1_method_12_code
def yX0_behind : MethodName := ⟨RX0, "behind", "(II)I"⟩
abbrev cX0_collect : ByteArray := prog_1_method_13_code
def yX0_collect : MethodName := ⟨RX0, "collect", "(I)I"⟩
abbrev cX0_phase : ByteArray := prog_1_method_14_code
def yX0_phase : MethodName := ⟨RX0, "phase", "()I"⟩
abbrev cX0_stack : ByteArray := prog_1_method_15_code
def yX0_stack : MethodName := ⟨RX0, "stack", "()I"⟩
abbrev cX0_page : ByteArray := prog_1_method_16_code
def yX0_page : MethodName := ⟨RX0, "page", "(II)I"⟩
abbrev cX0_healed : ByteArray := prog_1_method_17_code
def yX0_healed : MethodName := ⟨RX0, "healed", "()I"⟩
abbrev cX0_moved : ByteArray := prog_1_method_18_code
def yX0_moved : MethodName := ⟨RX0, "moved", "()I"⟩
abbrev cX0_cycles : ByteArray := prog_1_method_19_code
def yX0_cycles : MethodName := ⟨RX0, "cycles", "()I"⟩
abbrev cX0_isRoot : ByteArray := prog_1_method_20_code
def yX0_isRoot : MethodName := ⟨RX0, "isRoot", "(I)Z"⟩
abbrev cX0_pageOf : ByteArray := prog_1_method_21_code
def yX0_pageOf : MethodName := ⟨RX0, "pageOf", "(I)I"⟩
abbrev cX0_holdsNothing : ByteArray := prog_1_method_22_code
def yX0_holdsNothing : MethodName := ⟨RX0, "holdsNothing", "(I)Z"⟩
abbrev cX0_fieldSlot : ByteArray := prog_1_method_23_code
def yX0_fieldSlot : MethodName := ⟨RX0, "fieldSlot", "(II)I"⟩
abbrev cX0_copySlot : ByteArray := prog_1_method_24_code
def yX0_copySlot : MethodName := ⟨RX0, "copySlot", "(II)V"⟩
abbrev cX0_goodColour : ByteArray := prog_1_method_25_code
def yX0_goodColour : MethodName := ⟨RX0, "goodColour", "()I"⟩
abbrev cX0_pageState : ByteArray := prog_1_method_26_code
def yX0_pageState : MethodName := ⟨RX0, "pageState", "(I)I"⟩
abbrev cX0_markedObjects : ByteArray := prog_1_method_27_code
def yX0_markedObjects : MethodName := ⟨RX0, "markedObjects", "(I)I"⟩
abbrev cX0_forwardings : ByteArray := prog_1_method_28_code
def yX0_forwardings : MethodName := ⟨RX0, "forwardings", "(I)I"⟩
abbrev cX0_takeRoom : ByteArray := prog_1_method_29_code
def yX0_takeRoom : MethodName := ⟨RX0, "takeRoom", "(I)I"⟩
abbrev cX0_leastFreePage : ByteArray := prog_1_method_30_code
def yX0_leastFreePage : MethodName := ⟨RX0, "leastFreePage", "()I"⟩
abbrev cX0_heal : ByteArray := prog_1_method_31_code
def yX0_heal : MethodName := ⟨RX0, "heal", "(I)V"⟩
abbrev cX0_healSlots : ByteArray := prog_1_method_32_code
def yX0_healSlots : MethodName := ⟨RX0, "healSlots", "(II)V"⟩
abbrev cX0_mark : ByteArray := prog_1_method_33_code
def yX0_mark : MethodName := ⟨RX0, "mark", "(I)V"⟩
abbrev cX0_moveAway : ByteArray := prog_1_method_34_code
def yX0_moveAway : MethodName := ⟨RX0, "moveAway", "(I)I"⟩
abbrev cX0_step : ByteArray := prog_1_method_35_code
def yX0_step : MethodName := ⟨RX0, "step", "()V"⟩
abbrev cX0_beginMarking : ByteArray := prog_1_method_36_code
def yX0_beginMarking : MethodName := ⟨RX0, "beginMarking", "()V"⟩
abbrev cX0_beginRelocating : ByteArray := prog_1_method_37_code
def yX0_beginRelocating : MethodName := ⟨RX0, "beginRelocating", "()V"⟩
abbrev cX0_judge : ByteArray := prog_1_method_38_code
def yX0_judge : MethodName := ⟨RX0, "judge", "(I)V"⟩
abbrev cX0_liveWords : ByteArray := prog_1_method_39_code
def yX0_liveWords : MethodName := ⟨RX0, "liveWords", "(I)I"⟩
abbrev cX0_becomeFree : ByteArray := prog_1_method_40_code
def yX0_becomeFree : MethodName := ⟨RX0, "becomeFree", "(I)V"⟩
abbrev cX0_relocateNext : ByteArray := prog_1_method_41_code
def yX0_relocateNext : MethodName := ⟨RX0, "relocateNext", "()V"⟩
abbrev cX0_leastPageOfSet : ByteArray := prog_1_method_42_code
def yX0_leastPageOfSet : MethodName := ⟨RX0, "leastPageOfSet", "()I"⟩
abbrev cX0_leastMarkedPlace : ByteArray := prog_1_method_43_code
def yX0_leastMarkedPlace : MethodName := ⟨RX0, "leastMarkedPlace", "(I)I"⟩
def RX1 : String := "ColouredHeapModel"
def TX1 : u_T := fun k => match k with
  | 0 => ("ColouredHeapModel", "threshold", "I", true)
  | 1 => ("ColouredHeapModel", "isObject", "[Z", true)
  | 2 => ("ColouredHeapModel", "sizes", "[I", true)
  | 3 => ("ColouredHeapModel", "values", "[I", true)
  | 4 => ("ColouredHeapModel", "isMarked", "[Z", true)
  | 5 => ("ColouredHeapModel", "forwards", "[I", true)
  | 6 => ("ColouredHeapModel", "places", "[I", true)
  | 7 => ("ColouredHeapModel", "colours", "[I", true)
  | 8 => ("ColouredHeapModel", "isInUse", "[Z", true)
  | 9 => ("ColouredHeapModel", "used", "[I", true)
  | 10 => ("ColouredHeapModel", "isCandidate", "[Z", true)
  | 11 => ("ColouredHeapModel", "isInSet", "[Z", true)
  | 12 => ("ColouredHeapModel", "allocating", "I", false)
  | 13 => ("ColouredHeapModel", "phase", "I", false)
  | 14 => ("ColouredHeapModel", "cycles", "I", false)
  | 15 => ("ColouredHeapModel", "healed", "I", false)
  | 16 => ("ColouredHeapModel", "moved", "I", false)
  | 17 => ("ColouredHeapModel", "stack", "I", false)
  | _ => ("ColouredHeapModel", "stacked", "[I", true)
def tyX1 : Nat → FieldType := fun k => match k with
  | 0 => .int
  | 1 => .array .boolean
  | 2 => .array .int
  | 3 => .array .int
  | 4 => .array .boolean
  | 5 => .array .int
  | 6 => .array .int
  | 7 => .array .int
  | 8 => .array .boolean
  | 9 => .array .int
  | 10 => .array .boolean
  | 11 => .array .boolean
  | 12 => .int
  | 13 => .int
  | 14 => .int
  | 15 => .int
  | 16 => .int
  | 17 => .int
  | _ => .array .int
abbrev wsX10 : List Cond := u_ws RX1 TX1 19
theorem nmX1 : ∀ a, a < 19 → ∀ b, b < 19 → a ≠ b → (TX1 a).2.1 ≠ (TX1 b).2.1 := by decide +kernel
theorem tyX1_ok : ∀ k, k < 19 → parseFieldDescriptor (TX1 k).2.2.1 = some (tyX1 k) := by decide +kernel
abbrev cX1_init : ByteArray := prog_3_method_1_code
def yX1_init : MethodName := ⟨RX1, "<init>", "(I)V"⟩
abbrev cX1_isRoot : ByteArray := prog_3_method_2_code
def yX1_isRoot : MethodName := ⟨RX1, "isRoot", "(I)Z"⟩
abbrev cX1_slotOf : ByteArray := prog_3_method_3_code
def yX1_slotOf : MethodName := ⟨RX1, "slotOf", "(I)I"⟩
abbrev cX1_holds : ByteArray := prog_3_method_4_code
def yX1_holds : MethodName := ⟨RX1, "holds", "(I)Z"⟩
abbrev cX1_good : ByteArray := prog_3_method_5_code
def yX1_good : MethodName := ⟨RX1, "good", "()I"⟩
abbrev cX1_room : ByteArray := prog_3_method_6_code
def yX1_room : MethodName := ⟨RX1, "room", "(I)I"⟩
abbrev cX1_release : ByteArray := prog_3_method_7_code
def yX1_release : MethodName := ⟨RX1, "release", "(I)V"⟩
abbrev cX1_move : ByteArray := prog_3_method_8_code
def yX1_move : MethodName := ⟨RX1, "move", "(I)I"⟩
abbrev cX1_mark : ByteArray := prog_3_method_9_code
def yX1_mark : MethodName := ⟨RX1, "mark", "(I)V"⟩
abbrev cX1_heal : ByteArray := prog_3_method_10_code
def yX1_heal : MethodName := ⟨RX1, "heal", "(I)V"⟩
abbrev cX1_healRoots : ByteArray := prog_3_method_11_code
def yX1_healRoots : MethodName := ⟨RX1, "healRoots", "()V"⟩
abbrev cX1_make : ByteArray := prog_3_method_12_code
def yX1_make : MethodName := ⟨RX1, "make", "(III)I"⟩
abbrev cX1_field : ByteArray := prog_3_method_13_code
def yX1_field : MethodName := ⟨RX1, "field", "(II)I"⟩
abbrev cX1_copySlot : ByteArray := prog_3_method_14_code
def yX1_copySlot : MethodName := ⟨RX1, "copySlot", "(II)V"⟩
abbrev cX1_load : ByteArray := prog_3_method_15_code
def yX1_load : MethodName := ⟨RX1, "load", "(III)I"⟩
abbrev cX1_store : ByteArray := prog_3_method_16_code
def yX1_store : MethodName := ⟨RX1, "store", "(III)I"⟩
abbrev cX1_copy : ByteArray := prog_3_method_17_code
def yX1_copy : MethodName := ⟨RX1, "copy", "(II)Z"⟩
abbrev cX1_drop : ByteArray := prog_3_method_18_code
def yX1_drop : MethodName := ⟨RX1, "drop", "(I)Z"⟩
abbrev cX1_value : ByteArray := prog_3_method_19_code
def yX1_value : MethodName := ⟨RX1, "value", "(I)I"⟩
abbrev cX1_set : ByteArray := prog_3_method_20_code
def yX1_set : MethodName := ⟨RX1, "set", "(II)Z"⟩
abbrev cX1_fields : ByteArray := prog_3_method_21_code
def yX1_fields : MethodName := ⟨RX1, "fields", "(I)I"⟩
abbrev cX1_place : ByteArray := prog_3_method_22_code
def yX1_place : MethodName := ⟨RX1, "place", "(I)I"⟩
abbrev cX1_colour : ByteArray := prog_3_method_23_code
def yX1_colour : MethodName := ⟨RX1, "colour", "(II)I"⟩
abbrev cX1_behind : ByteArray := prog_3_method_24_code
def yX1_behind : MethodName := ⟨RX1, "behind", "(II)I"⟩
abbrev cX1_begin : ByteArray := prog_3_method_25_code
def yX1_begin : MethodName := ⟨RX1, "begin", "()V"⟩
abbrev cX1_markedIn : ByteArray := prog_3_method_26_code
def yX1_markedIn : MethodName := ⟨RX1, "markedIn", "(IZ)I"⟩
abbrev cX1_markOne : ByteArray := prog_3_method_27_code
def yX1_markOne : MethodName := ⟨RX1, "markOne", "()V"⟩
abbrev cX1_choose : ByteArray := prog_3_method_28_code
def yX1_choose : MethodName := ⟨RX1, "choose", "()V"⟩
abbrev cX1_leastInSet : ByteArray := prog_3_method_29_code
def yX1_leastInSet : MethodName := ⟨RX1, "leastInSet", "()I"⟩
abbrev cX1_relocate : ByteArray := prog_3_method_30_code
def yX1_relocate : MethodName := ⟨RX1, "relocate", "(I)V"⟩
abbrev cX1_step : ByteArray := prog_3_method_31_code
def yX1_step : MethodName := ⟨RX1, "step", "()V"⟩
abbrev cX1_collect : ByteArray := prog_3_method_32_code
def yX1_collect : MethodName := ⟨RX1, "collect", "(I)I"⟩
abbrev cX1_phase : ByteArray := prog_3_method_33_code
def yX1_phase : MethodName := ⟨RX1, "phase", "()I"⟩
abbrev cX1_stack : ByteArray := prog_3_method_34_code
def yX1_stack : MethodName := ⟨RX1, "stack", "()I"⟩
abbrev cX1_page : ByteArray := prog_3_method_35_code
def yX1_page : MethodName := ⟨RX1, "page", "(II)I"⟩
abbrev cX1_healed : ByteArray := prog_3_method_36_code
def yX1_healed : MethodName := ⟨RX1, "healed", "()I"⟩
abbrev cX1_moved : ByteArray := prog_3_method_37_code
def yX1_moved : MethodName := ⟨RX1, "moved", "()I"⟩
abbrev cX1_cycles : ByteArray := prog_3_method_38_code
def yX1_cycles : MethodName := ⟨RX1, "cycles", "()I"⟩
def RJ9 : String := "java/lang/Math"
def TJ9 : u_T := fun k => match k with
  | _ => ("", "", "", false)
def tyJ9 : Nat → FieldType := fun k => match k with
  | _ => .int
abbrev wsJ90 : List Cond := u_ws RJ9 TJ9 0
theorem nmJ9 : ∀ a, a < 0 → ∀ b, b < 0 → a ≠ b → (TJ9 a).2.1 ≠ (TJ9 b).2.1 := by decide +kernel
theorem tyJ9_ok : ∀ k, k < 0 → parseFieldDescriptor (TJ9 k).2.2.1 = some (tyJ9 k) := by decide +kernel
abbrev cJ9_max_7cf53 : ByteArray := prog_4_method_65_code
def yJ9_max_7cf53 : MethodName := ⟨RJ9, "max", "(II)I"⟩
abbrev cJ9_min_7cf53 : ByteArray := prog_4_method_69_code
def yJ9_min_7cf53 : MethodName := ⟨RJ9, "min", "(II)I"⟩
def RL : String := "ColouredHeapLaw"
abbrev cL_cell : ByteArray := method_2_code
def yL_cell : MethodName := ⟨RL, "cell", "([II)I"⟩
abbrev cL_law : ByteArray := code
def yL_law : MethodName := ⟨RL, "law", "([I)Z"⟩
def wsX0_init_r1 : List Cond := [Cond.methodLink RX0 3 objectInit, Cond.instanceMethod objectInit, Cond.code objectInit ⟨#[0xb1]⟩ 1 none, Cond.arrayClass .int, Cond.fieldLink RX0 9 "ColouredHeap" "slotPlace" "[I", Cond.fieldLink RX0 13 "ColouredHeap" "slotColour" "[I", Cond.fieldLink RX0 16 "ColouredHeap" "objectValue" "[I", Cond.fieldLink RX0 19 "ColouredHeap" "objectFields" "[I", Cond.arrayClass .boolean, Cond.fieldLink RX0 22 "ColouredHeap" "marked" "[Z", Cond.fieldLink RX0 26 "ColouredHeap" "forwarding" "[I", Cond.fieldLink RX0 29 "ColouredHeap" "markStack" "[I", Cond.fieldLink RX0 32 "ColouredHeap" "markStackSize" "I", Cond.fieldLink RX0 36 "ColouredHeap" "usedWords" "[I", Cond.fieldLink RX0 39 "ColouredHeap" "candidate" "[Z", Cond.fieldLink RX0 42 "ColouredHeap" "inRelocationSet" "[Z", Cond.fieldLink RX0 45 "ColouredHeap" "allocatingPage" "I", Cond.fieldLink RX0 48 "ColouredHeap" "currentPhase" "I", Cond.fieldLink RX0 51 "ColouredHeap" "healCount" "I", Cond.fieldLink RX0 54 "ColouredHeap" "moveCount" "I", Cond.fieldLink RX0 57 "ColouredHeap" "cycleCount" "I", Cond.methodLink RX0 60 Lib.Math.min.name, Cond.static Lib.Math.min.name, Cond.initialized "java/lang/Math"]
def wsX0_init_r2 : List Cond := [Cond.code Lib.Math.min.name Lib.Math.min.code 2 (some .int), Cond.methodLink RX0 66 Lib.Math.max.name, Cond.static Lib.Math.max.name, Cond.code Lib.Math.max.name Lib.Math.max.code 2 (some .int), Cond.fieldLink RX0 69 "ColouredHeap" "threshold" "I"]
def wsX0_init : List Cond := .code yX0_init cX0_init 3 none :: ((wsX0_init_r1 ++ wsX0_init_r2) ++ wsX00)
def wsX0_isRoot : List Cond := .code yX0_isRoot cX0_isRoot 1 (some .boolean) :: ([])
def wsX0_leastFreePage : List Cond := .code yX0_leastFreePage cX0_leastFreePage 2 (some .int) :: ([.fieldLink RX0 36 "ColouredHeap" "usedWords" "[I"] ++ wsX00)
def wsX0_takeRoom : List Cond := .code yX0_takeRoom cX0_takeRoom 3 (some .int) :: ([.fieldLink RX0 45 "ColouredHeap" "allocatingPage" "I", .fieldLink RX0 36 "ColouredHeap" "usedWords" "[I", .methodLink RX0 113 yX0_leastFreePage, .instanceMethod yX0_leastFreePage, .selects RX0 yX0_leastFreePage yX0_leastFreePage, .initialized RX0, .code yX0_leastFreePage cX0_leastFreePage 2 (some .int)] ++ wsX00)
def wsX0_goodColour : List Cond := .code yX0_goodColour cX0_goodColour 1 (some .int) :: ([.fieldLink RX0 48 "ColouredHeap" "currentPhase" "I", .fieldLink RX0 57 "ColouredHeap" "cycleCount" "I"] ++ wsX00)
def wsX0_make : List Cond := .code yX0_make cX0_make 6 (some .int) :: ([.fieldLink RX0 16 "ColouredHeap" "objectValue" "[I", .fieldLink RX0 19 "ColouredHeap" "objectFields" "[I", .fieldLink RX0 13 "ColouredHeap" "slotColour" "[I", .fieldLink RX0 9 "ColouredHeap" "slotPlace" "[I", .methodLink RX0 72 yX0_isRoot, .static yX0_isRoot, .initialized RX0, .code yX0_isRoot cX0_isRoot 1 (some .boolean), .methodLink RX0 76 yX0_takeRoom, .instanceMethod yX0_takeRoom, .selects RX0 yX0_takeRoom yX0_takeRoom, .code yX0_takeRoom cX0_takeRoom 3 (some .int), .fieldLink RX0 45 "ColouredHeap" "allocatingPage" "I", .fieldLink RX0 36 "ColouredHeap" "usedWords" "[I", .methodLink RX0 113 yX0_leastFreePage, .instanceMethod yX0_leastFreePage, .selects RX0 yX0_leastFreePage yX0_leastFreePage, .code yX0_leastFreePage cX0_leastFreePage 2 (some .int), .methodLink RX0 80 yX0_goodColour, .instanceMethod yX0_goodColour, .selects RX0 yX0_goodColour yX0_goodColour, .code yX0_goodColour cX0_goodColour 1 (some .int), .fieldLink RX0 48 "ColouredHeap" "currentPhase" "I", .fieldLink RX0 57 "ColouredHeap" "cycleCount" "I"] ++ wsX00)
def wsX0_holdsNothing : List Cond := .code yX0_holdsNothing cX0_holdsNothing 2 (some .boolean) :: ([.fieldLink RX0 13 "ColouredHeap" "slotColour" "[I"] ++ wsX00)
def wsX0_place : List Cond := .code yX0_place cX0_place 2 (some .int) :: ([.fieldLink RX0 9 "ColouredHeap" "slotPlace" "[I", .methodLink RX0 72 yX0_isRoot, .static yX0_isRoot, .initialized RX0, .code yX0_isRoot cX0_isRoot 1 (some .boolean), .methodLink RX0 95 yX0_holdsNothing, .instanceMethod yX0_holdsNothing, .selects RX0 yX0_holdsNothing yX0_holdsNothing, .code yX0_holdsNothing cX0_holdsNothing 2 (some .boolean), .fieldLink RX0 13 "ColouredHeap" "slotColour" "[I"] ++ wsX00)
def wsX0_fieldSlot : List Cond := .code yX0_fieldSlot cX0_fieldSlot 4 (some .int) :: ([.fieldLink RX0 19 "ColouredHeap" "objectFields" "[I", .methodLink RX0 98 yX0_place, .instanceMethod yX0_place, .selects RX0 yX0_place yX0_place, .initialized RX0, .code yX0_place cX0_place 2 (some .int), .fieldLink RX0 9 "ColouredHeap" "slotPlace" "[I", .methodLink RX0 72 yX0_isRoot, .static yX0_isRoot, .code yX0_isRoot cX0_isRoot 1 (some .boolean), .methodLink RX0 95 yX0_holdsNothing, .instanceMethod yX0_holdsNothing, .selects RX0 yX0_holdsNothing yX0_holdsNothing, .code yX0_holdsNothing cX0_holdsNothing 2 (some .boolean), .fieldLink RX0 13 "ColouredHeap" "slotColour" "[I"] ++ wsX00)
def wsX0_mark : List Cond := .code yX0_mark cX0_mark 2 none :: ([.fieldLink RX0 22 "ColouredHeap" "marked" "[Z", .fieldLink RX0 29 "ColouredHeap" "markStack" "[I", .fieldLink RX0 32 "ColouredHeap" "markStackSize" "I"] ++ wsX00)
def wsX0_pageOf : List Cond := .code yX0_pageOf cX0_pageOf 1 (some .int) :: ([])
def wsX0_copySlot : List Cond := .code yX0_copySlot cX0_copySlot 3 none :: ([.fieldLink RX0 9 "ColouredHeap" "slotPlace" "[I", .fieldLink RX0 13 "ColouredHeap" "slotColour" "[I"] ++ wsX00)
def wsX0_moveAway_r1 : List Cond := [Cond.fieldLink RX0 19 "ColouredHeap" "objectFields" "[I", Cond.fieldLink RX0 42 "ColouredHeap" "inRelocationSet" "[Z", Cond.fieldLink RX0 16 "ColouredHeap" "objectValue" "[I", Cond.fieldLink RX0 26 "ColouredHeap" "forwarding" "[I", Cond.fieldLink RX0 22 "ColouredHeap" "marked" "[Z", Cond.fieldLink RX0 54 "ColouredHeap" "moveCount" "I", Cond.methodLink RX0 76 yX0_takeRoom, Cond.instanceMethod yX0_takeRoom, Cond.selects RX0 yX0_takeRoom yX0_takeRoom, Cond.initialized RX0, Cond.code yX0_takeRoom cX0_takeRoom 3 (some .int), Cond.fieldLink RX0 45 "ColouredHeap" "allocatingPage" "I", Cond.fieldLink RX0 36 "ColouredHeap" "usedWords" "[I", Cond.methodLink RX0 113 yX0_leastFreePage, Cond.instanceMethod yX0_leastFreePage, Cond.selects RX0 yX0_leastFreePage yX0_leastFreePage, Cond.code yX0_leastFreePage cX0_leastFreePage 2 (some .int), Cond.methodLink RX0 119 yX0_pageOf, Cond.static yX0_pageOf, Cond.code yX0_pageOf cX0_pageOf 1 (some .int), Cond.methodLink RX0 91 yX0_copySlot, Cond.instanceMethod yX0_copySlot, Cond.selects RX0 yX0_copySlot yX0_copySlot, Cond.code yX0_copySlot cX0_copySlot 3 none]
def wsX0_moveAway_r2 : List Cond := [Cond.fieldLink RX0 9 "ColouredHeap" "slotPlace" "[I", Cond.fieldLink RX0 13 "ColouredHeap" "slotColour" "[I"]
def wsX0_moveAway : List Cond := .code yX0_moveAway cX0_moveAway 5 (some .int) :: ((wsX0_moveAway_r1 ++ wsX0_moveAway_r2) ++ wsX00)
def wsX0_heal_r1 : List Cond := [Cond.fieldLink RX0 13 "ColouredHeap" "slotColour" "[I", Cond.fieldLink RX0 9 "ColouredHeap" "slotPlace" "[I", Cond.fieldLink RX0 26 "ColouredHeap" "forwarding" "[I", Cond.fieldLink RX0 48 "ColouredHeap" "currentPhase" "I", Cond.fieldLink RX0 42 "ColouredHeap" "inRelocationSet" "[Z", Cond.fieldLink RX0 51 "ColouredHeap" "healCount" "I", Cond.methodLink RX0 80 yX0_goodColour, Cond.instanceMethod yX0_goodColour, Cond.selects RX0 yX0_goodColour yX0_goodColour, Cond.initialized RX0, Cond.code yX0_goodColour cX0_goodColour 1 (some .int), Cond.fieldLink RX0 57 "ColouredHeap" "cycleCount" "I", Cond.methodLink RX0 116 yX0_mark, Cond.instanceMethod yX0_mark, Cond.selects RX0 yX0_mark yX0_mark, Cond.code yX0_mark cX0_mark 2 none, Cond.fieldLink RX0 22 "ColouredHeap" "marked" "[Z", Cond.fieldLink RX0 29 "ColouredHeap" "markStack" "[I", Cond.fieldLink RX0 32 "ColouredHeap" "markStackSize" "I", Cond.methodLink RX0 119 yX0_pageOf, Cond.static yX0_pageOf, Cond.code yX0_pageOf cX0_pageOf 1 (some .int), Cond.methodLink RX0 122 yX0_moveAway, Cond.instanceMethod yX0_moveAway]
def wsX0_heal_r2 : List Cond := [Cond.selects RX0 yX0_moveAway yX0_moveAway, Cond.code yX0_moveAway cX0_moveAway 5 (some .int), Cond.fieldLink RX0 19 "ColouredHeap" "objectFields" "[I", Cond.fieldLink RX0 16 "ColouredHeap" "objectValue" "[I", Cond.fieldLink RX0 54 "ColouredHeap" "moveCount" "I", Cond.methodLink RX0 76 yX0_takeRoom, Cond.instanceMethod yX0_takeRoom, Cond.selects RX0 yX0_takeRoom yX0_takeRoom, Cond.code yX0_takeRoom cX0_takeRoom 3 (some .int), Cond.fieldLink RX0 45 "ColouredHeap" "allocatingPage" "I", Cond.fieldLink RX0 36 "ColouredHeap" "usedWords" "[I", Cond.methodLink RX0 113 yX0_leastFreePage, Cond.instanceMethod yX0_leastFreePage, Cond.selects RX0 yX0_leastFreePage yX0_leastFreePage, Cond.code yX0_leastFreePage cX0_leastFreePage 2 (some .int), Cond.methodLink RX0 91 yX0_copySlot, Cond.instanceMethod yX0_copySlot, Cond.selects RX0 yX0_copySlot yX0_copySlot, Cond.code yX0_copySlot cX0_copySlot 3 none]
def wsX0_heal : List Cond := .code yX0_heal cX0_heal 6 none :: ((wsX0_heal_r1 ++ wsX0_heal_r2) ++ wsX00)
def wsX0_load_r1 : List Cond := [Cond.methodLink RX0 72 yX0_isRoot, Cond.static yX0_isRoot, Cond.initialized RX0, Cond.code yX0_isRoot cX0_isRoot 1 (some .boolean), Cond.methodLink RX0 84 yX0_fieldSlot, Cond.instanceMethod yX0_fieldSlot, Cond.selects RX0 yX0_fieldSlot yX0_fieldSlot, Cond.code yX0_fieldSlot cX0_fieldSlot 4 (some .int), Cond.fieldLink RX0 19 "ColouredHeap" "objectFields" "[I", Cond.methodLink RX0 98 yX0_place, Cond.instanceMethod yX0_place, Cond.selects RX0 yX0_place yX0_place, Cond.code yX0_place cX0_place 2 (some .int), Cond.fieldLink RX0 9 "ColouredHeap" "slotPlace" "[I", Cond.methodLink RX0 95 yX0_holdsNothing, Cond.instanceMethod yX0_holdsNothing, Cond.selects RX0 yX0_holdsNothing yX0_holdsNothing, Cond.code yX0_holdsNothing cX0_holdsNothing 2 (some .boolean), Cond.fieldLink RX0 13 "ColouredHeap" "slotColour" "[I", Cond.methodLink RX0 87 yX0_heal, Cond.instanceMethod yX0_heal, Cond.selects RX0 yX0_heal yX0_heal, Cond.code yX0_heal cX0_heal 6 none, Cond.fieldLink RX0 26 "ColouredHeap" "forwarding" "[I"]
def wsX0_load_r2 : List Cond := [Cond.fieldLink RX0 48 "ColouredHeap" "currentPhase" "I", Cond.fieldLink RX0 42 "ColouredHeap" "inRelocationSet" "[Z", Cond.fieldLink RX0 51 "ColouredHeap" "healCount" "I", Cond.methodLink RX0 80 yX0_goodColour, Cond.instanceMethod yX0_goodColour, Cond.selects RX0 yX0_goodColour yX0_goodColour, Cond.code yX0_goodColour cX0_goodColour 1 (some .int), Cond.fieldLink RX0 57 "ColouredHeap" "cycleCount" "I", Cond.methodLink RX0 116 yX0_mark, Cond.instanceMethod yX0_mark, Cond.selects RX0 yX0_mark yX0_mark, Cond.code yX0_mark cX0_mark 2 none, Cond.fieldLink RX0 22 "ColouredHeap" "marked" "[Z", Cond.fieldLink RX0 29 "ColouredHeap" "markStack" "[I", Cond.fieldLink RX0 32 "ColouredHeap" "markStackSize" "I", Cond.methodLink RX0 119 yX0_pageOf, Cond.static yX0_pageOf, Cond.code yX0_pageOf cX0_pageOf 1 (some .int), Cond.methodLink RX0 122 yX0_moveAway, Cond.instanceMethod yX0_moveAway, Cond.selects RX0 yX0_moveAway yX0_moveAway, Cond.code yX0_moveAway cX0_moveAway 5 (some .int), Cond.fieldLink RX0 16 "ColouredHeap" "objectValue" "[I", Cond.fieldLink RX0 54 "ColouredHeap" "moveCount" "I"]
def wsX0_load_r3 : List Cond := [Cond.methodLink RX0 76 yX0_takeRoom, Cond.instanceMethod yX0_takeRoom, Cond.selects RX0 yX0_takeRoom yX0_takeRoom, Cond.code yX0_takeRoom cX0_takeRoom 3 (some .int), Cond.fieldLink RX0 45 "ColouredHeap" "allocatingPage" "I", Cond.fieldLink RX0 36 "ColouredHeap" "usedWords" "[I", Cond.methodLink RX0 113 yX0_leastFreePage, Cond.instanceMethod yX0_leastFreePage, Cond.selects RX0 yX0_leastFreePage yX0_leastFreePage, Cond.code yX0_leastFreePage cX0_leastFreePage 2 (some .int), Cond.methodLink RX0 91 yX0_copySlot, Cond.instanceMethod yX0_copySlot, Cond.selects RX0 yX0_copySlot yX0_copySlot, Cond.code yX0_copySlot cX0_copySlot 3 none]
def wsX0_load : List Cond := .code yX0_load cX0_load 5 (some .int) :: ((wsX0_load_r1 ++ (wsX0_load_r2 ++ wsX0_load_r3)) ++ wsX00)
def wsX0_store : List Cond := .code yX0_store cX0_store 5 (some .int) :: ([.methodLink RX0 72 yX0_isRoot, .static yX0_isRoot, .initialized RX0, .code yX0_isRoot cX0_isRoot 1 (some .boolean), .methodLink RX0 84 yX0_fieldSlot, .instanceMethod yX0_fieldSlot, .selects RX0 yX0_fieldSlot yX0_fieldSlot, .code yX0_fieldSlot cX0_fieldSlot 4 (some .int), .fieldLink RX0 19 "ColouredHeap" "objectFields" "[I", .methodLink RX0 98 yX0_place, .instanceMethod yX0_place, .selects RX0 yX0_place yX0_place, .code yX0_place cX0_place 2 (some .int), .fieldLink RX0 9 "ColouredHeap" "slotPlace" "[I", .methodLink RX0 95 yX0_holdsNothing, .instanceMethod yX0_holdsNothing, .selects RX0 yX0_holdsNothing yX0_holdsNothing, .code yX0_holdsNothing cX0_holdsNothing 2 (some .boolean), .fieldLink RX0 13 "ColouredHeap" "slotColour" "[I", .methodLink RX0 91 yX0_copySlot, .instanceMethod yX0_copySlot, .selects RX0 yX0_copySlot yX0_copySlot, .code yX0_copySlot cX0_copySlot 3 none] ++ wsX00)
def wsX0_copy : List Cond := .code yX0_copy cX0_copy 3 (some .boolean) :: ([.methodLink RX0 72 yX0_isRoot, .static yX0_isRoot, .initialized RX0, .code yX0_isRoot cX0_isRoot 1 (some .boolean), .methodLink RX0 91 yX0_copySlot, .instanceMethod yX0_copySlot, .selects RX0 yX0_copySlot yX0_copySlot, .code yX0_copySlot cX0_copySlot 3 none, .fieldLink RX0 9 "ColouredHeap" "slotPlace" "[I", .fieldLink RX0 13 "ColouredHeap" "slotColour" "[I"] ++ wsX00)
def wsX0_drop : List Cond := .code yX0_drop cX0_drop 2 (some .boolean) :: ([.fieldLink RX0 13 "ColouredHeap" "slotColour" "[I", .methodLink RX0 72 yX0_isRoot, .static yX0_isRoot, .initialized RX0, .code yX0_isRoot cX0_isRoot 1 (some .boolean), .methodLink RX0 95 yX0_holdsNothing, .instanceMethod yX0_holdsNothing, .selects RX0 yX0_holdsNothing yX0_holdsNothing, .code yX0_holdsNothing cX0_holdsNothing 2 (some .boolean)] ++ wsX00)
def wsX0_value : List Cond := .code yX0_value cX0_value 3 (some .int) :: ([.fieldLink RX0 16 "ColouredHeap" "objectValue" "[I", .methodLink RX0 98 yX0_place, .instanceMethod yX0_place, .selects RX0 yX0_place yX0_place, .initialized RX0, .code yX0_place cX0_place 2 (some .int), .fieldLink RX0 9 "ColouredHeap" "slotPlace" "[I", .methodLink RX0 72 yX0_isRoot, .static yX0_isRoot, .code yX0_isRoot cX0_isRoot 1 (some .boolean), .methodLink RX0 95 yX0_holdsNothing, .instanceMethod yX0_holdsNothing, .selects RX0 yX0_holdsNothing yX0_holdsNothing, .code yX0_holdsNothing cX0_holdsNothing 2 (some .boolean), .fieldLink RX0 13 "ColouredHeap" "slotColour" "[I"] ++ wsX00)
def wsX0_set : List Cond := .code yX0_set cX0_set 4 (some .boolean) :: ([.fieldLink RX0 16 "ColouredHeap" "objectValue" "[I", .methodLink RX0 98 yX0_place, .instanceMethod yX0_place, .selects RX0 yX0_place yX0_place, .initialized RX0, .code yX0_place cX0_place 2 (some .int), .fieldLink RX0 9 "ColouredHeap" "slotPlace" "[I", .methodLink RX0 72 yX0_isRoot, .static yX0_isRoot, .code yX0_isRoot cX0_isRoot 1 (some .boolean), .methodLink RX0 95 yX0_holdsNothing, .instanceMethod yX0_holdsNothing, .selects RX0 yX0_holdsNothing yX0_holdsNothing, .code yX0_holdsNothing cX0_holdsNothing 2 (some .boolean), .fieldLink RX0 13 "ColouredHeap" "slotColour" "[I"] ++ wsX00)
def wsX0_fields : List Cond := .code yX0_fields cX0_fields 3 (some .int) :: ([.fieldLink RX0 19 "ColouredHeap" "objectFields" "[I", .methodLink RX0 98 yX0_place, .instanceMethod yX0_place, .selects RX0 yX0_place yX0_place, .initialized RX0, .code yX0_place cX0_place 2 (some .int), .fieldLink RX0 9 "ColouredHeap" "slotPlace" "[I", .methodLink RX0 72 yX0_isRoot, .static yX0_isRoot, .code yX0_isRoot cX0_isRoot 1 (some .boolean), .methodLink RX0 95 yX0_holdsNothing, .instanceMethod yX0_holdsNothing, .selects RX0 yX0_holdsNothing yX0_holdsNothing, .code yX0_holdsNothing cX0_holdsNothing 2 (some .boolean), .fieldLink RX0 13 "ColouredHeap" "slotColour" "[I"] ++ wsX00)
def wsX0_colour : List Cond := .code yX0_colour cX0_colour 4 (some .int) :: ([.fieldLink RX0 13 "ColouredHeap" "slotColour" "[I", .methodLink RX0 84 yX0_fieldSlot, .instanceMethod yX0_fieldSlot, .selects RX0 yX0_fieldSlot yX0_fieldSlot, .initialized RX0, .code yX0_fieldSlot cX0_fieldSlot 4 (some .int), .fieldLink RX0 19 "ColouredHeap" "objectFields" "[I", .methodLink RX0 98 yX0_place, .instanceMethod yX0_place, .selects RX0 yX0_place yX0_place, .code yX0_place cX0_place 2 (some .int), .fieldLink RX0 9 "ColouredHeap" "slotPlace" "[I", .methodLink RX0 72 yX0_isRoot, .static yX0_isRoot, .code yX0_isRoot cX0_isRoot 1 (some .boolean), .methodLink RX0 95 yX0_holdsNothing, .instanceMethod yX0_holdsNothing, .selects RX0 yX0_holdsNothing yX0_holdsNothing, .code yX0_holdsNothing cX0_holdsNothing 2 (some .boolean)] ++ wsX00)
def wsX0_behind : List Cond := .code yX0_behind cX0_behind 4 (some .int) :: ([.fieldLink RX0 9 "ColouredHeap" "slotPlace" "[I", .methodLink RX0 84 yX0_fieldSlot, .instanceMethod yX0_fieldSlot, .selects RX0 yX0_fieldSlot yX0_fieldSlot, .initialized RX0, .code yX0_fieldSlot cX0_fieldSlot 4 (some .int), .fieldLink RX0 19 "ColouredHeap" "objectFields" "[I", .methodLink RX0 98 yX0_place, .instanceMethod yX0_place, .selects RX0 yX0_place yX0_place, .code yX0_place cX0_place 2 (some .int), .methodLink RX0 72 yX0_isRoot, .static yX0_isRoot, .code yX0_isRoot cX0_isRoot 1 (some .boolean), .methodLink RX0 95 yX0_holdsNothing, .instanceMethod yX0_holdsNothing, .selects RX0 yX0_holdsNothing yX0_holdsNothing, .code yX0_holdsNothing cX0_holdsNothing 2 (some .boolean), .fieldLink RX0 13 "ColouredHeap" "slotColour" "[I"] ++ wsX00)
def wsX0_beginMarking : List Cond := .code yX0_beginMarking cX0_beginMarking 2 none :: ([.fieldLink RX0 48 "ColouredHeap" "currentPhase" "I", .fieldLink RX0 57 "ColouredHeap" "cycleCount" "I", .fieldLink RX0 45 "ColouredHeap" "allocatingPage" "I", .fieldLink RX0 22 "ColouredHeap" "marked" "[Z", .fieldLink RX0 39 "ColouredHeap" "candidate" "[Z", .fieldLink RX0 36 "ColouredHeap" "usedWords" "[I"] ++ wsX00)
def wsX0_healSlots_r1 : List Cond := [Cond.methodLink RX0 87 yX0_heal, Cond.instanceMethod yX0_heal, Cond.selects RX0 yX0_heal yX0_heal, Cond.initialized RX0, Cond.code yX0_heal cX0_heal 6 none, Cond.fieldLink RX0 13 "ColouredHeap" "slotColour" "[I", Cond.fieldLink RX0 9 "ColouredHeap" "slotPlace" "[I", Cond.fieldLink RX0 26 "ColouredHeap" "forwarding" "[I", Cond.fieldLink RX0 48 "ColouredHeap" "currentPhase" "I", Cond.fieldLink RX0 42 "ColouredHeap" "inRelocationSet" "[Z", Cond.fieldLink RX0 51 "ColouredHeap" "healCount" "I", Cond.methodLink RX0 80 yX0_goodColour, Cond.instanceMethod yX0_goodColour, Cond.selects RX0 yX0_goodColour yX0_goodColour, Cond.code yX0_goodColour cX0_goodColour 1 (some .int), Cond.fieldLink RX0 57 "ColouredHeap" "cycleCount" "I", Cond.methodLink RX0 116 yX0_mark, Cond.instanceMethod yX0_mark, Cond.selects RX0 yX0_mark yX0_mark, Cond.code yX0_mark cX0_mark 2 none, Cond.fieldLink RX0 22 "ColouredHeap" "marked" "[Z", Cond.fieldLink RX0 29 "ColouredHeap" "markStack" "[I", Cond.fieldLink RX0 32 "ColouredHeap" "markStackSize" "I", Cond.methodLink RX0 119 yX0_pageOf]
def wsX0_healSlots_r2 : List Cond := [Cond.static yX0_pageOf, Cond.code yX0_pageOf cX0_pageOf 1 (some .int), Cond.methodLink RX0 122 yX0_moveAway, Cond.instanceMethod yX0_moveAway, Cond.selects RX0 yX0_moveAway yX0_moveAway, Cond.code yX0_moveAway cX0_moveAway 5 (some .int), Cond.fieldLink RX0 19 "ColouredHeap" "objectFields" "[I", Cond.fieldLink RX0 16 "ColouredHeap" "objectValue" "[I", Cond.fieldLink RX0 54 "ColouredHeap" "moveCount" "I", Cond.methodLink RX0 76 yX0_takeRoom, Cond.instanceMethod yX0_takeRoom, Cond.selects RX0 yX0_takeRoom yX0_takeRoom, Cond.code yX0_takeRoom cX0_takeRoom 3 (some .int), Cond.fieldLink RX0 45 "ColouredHeap" "allocatingPage" "I", Cond.fieldLink RX0 36 "ColouredHeap" "usedWords" "[I", Cond.methodLink RX0 113 yX0_leastFreePage, Cond.instanceMethod yX0_leastFreePage, Cond.selects RX0 yX0_leastFreePage yX0_leastFreePage, Cond.code yX0_leastFreePage cX0_leastFreePage 2 (some .int), Cond.methodLink RX0 91 yX0_copySlot, Cond.instanceMethod yX0_copySlot, Cond.selects RX0 yX0_copySlot yX0_copySlot, Cond.code yX0_copySlot cX0_copySlot 3 none]
def wsX0_healSlots : List Cond := .code yX0_healSlots cX0_healSlots 4 none :: ((wsX0_healSlots_r1 ++ wsX0_healSlots_r2) ++ wsX00)
def wsX0_leastPageOfSet : List Cond := .code yX0_leastPageOfSet cX0_leastPageOfSet 2 (some .int) :: ([.fieldLink RX0 42 "ColouredHeap" "inRelocationSet" "[Z"] ++ wsX00)
def wsX0_leastMarkedPlace : List Cond := .code yX0_leastMarkedPlace cX0_leastMarkedPlace 3 (some .int) :: ([.fieldLink RX0 22 "ColouredHeap" "marked" "[Z"] ++ wsX00)
def wsX0_becomeFree : List Cond := .code yX0_becomeFree cX0_becomeFree 2 none :: ([.fieldLink RX0 36 "ColouredHeap" "usedWords" "[I", .fieldLink RX0 39 "ColouredHeap" "candidate" "[Z", .fieldLink RX0 42 "ColouredHeap" "inRelocationSet" "[Z"] ++ wsX00)
def wsX0_relocateNext_r1 : List Cond := [Cond.fieldLink RX0 48 "ColouredHeap" "currentPhase" "I", Cond.fieldLink RX0 42 "ColouredHeap" "inRelocationSet" "[Z", Cond.methodLink RX0 146 yX0_leastPageOfSet, Cond.instanceMethod yX0_leastPageOfSet, Cond.selects RX0 yX0_leastPageOfSet yX0_leastPageOfSet, Cond.initialized RX0, Cond.code yX0_leastPageOfSet cX0_leastPageOfSet 2 (some .int), Cond.methodLink RX0 149 yX0_leastMarkedPlace, Cond.instanceMethod yX0_leastMarkedPlace, Cond.selects RX0 yX0_leastMarkedPlace yX0_leastMarkedPlace, Cond.code yX0_leastMarkedPlace cX0_leastMarkedPlace 3 (some .int), Cond.fieldLink RX0 22 "ColouredHeap" "marked" "[Z", Cond.methodLink RX0 122 yX0_moveAway, Cond.instanceMethod yX0_moveAway, Cond.selects RX0 yX0_moveAway yX0_moveAway, Cond.code yX0_moveAway cX0_moveAway 5 (some .int), Cond.fieldLink RX0 19 "ColouredHeap" "objectFields" "[I", Cond.fieldLink RX0 16 "ColouredHeap" "objectValue" "[I", Cond.fieldLink RX0 26 "ColouredHeap" "forwarding" "[I", Cond.fieldLink RX0 54 "ColouredHeap" "moveCount" "I", Cond.methodLink RX0 76 yX0_takeRoom, Cond.instanceMethod yX0_takeRoom, Cond.selects RX0 yX0_takeRoom yX0_takeRoom, Cond.code yX0_takeRoom cX0_takeRoom 3 (some .int)]
def wsX0_relocateNext_r2 : List Cond := [Cond.fieldLink RX0 45 "ColouredHeap" "allocatingPage" "I", Cond.fieldLink RX0 36 "ColouredHeap" "usedWords" "[I", Cond.methodLink RX0 113 yX0_leastFreePage, Cond.instanceMethod yX0_leastFreePage, Cond.selects RX0 yX0_leastFreePage yX0_leastFreePage, Cond.code yX0_leastFreePage cX0_leastFreePage 2 (some .int), Cond.methodLink RX0 119 yX0_pageOf, Cond.static yX0_pageOf, Cond.code yX0_pageOf cX0_pageOf 1 (some .int), Cond.methodLink RX0 91 yX0_copySlot, Cond.instanceMethod yX0_copySlot, Cond.selects RX0 yX0_copySlot yX0_copySlot, Cond.code yX0_copySlot cX0_copySlot 3 none, Cond.fieldLink RX0 9 "ColouredHeap" "slotPlace" "[I", Cond.fieldLink RX0 13 "ColouredHeap" "slotColour" "[I", Cond.methodLink RX0 143 yX0_becomeFree, Cond.instanceMethod yX0_becomeFree, Cond.selects RX0 yX0_becomeFree yX0_becomeFree, Cond.code yX0_becomeFree cX0_becomeFree 2 none, Cond.fieldLink RX0 39 "ColouredHeap" "candidate" "[Z"]
def wsX0_relocateNext : List Cond := .code yX0_relocateNext cX0_relocateNext 3 none :: ((wsX0_relocateNext_r1 ++ wsX0_relocateNext_r2) ++ wsX00)
def wsX0_liveWords : List Cond := .code yX0_liveWords cX0_liveWords 5 (some .int) :: ([.fieldLink RX0 22 "ColouredHeap" "marked" "[Z", .fieldLink RX0 19 "ColouredHeap" "objectFields" "[I"] ++ wsX00)
def wsX0_judge : List Cond := .code yX0_judge cX0_judge 3 none :: ([.fieldLink RX0 69 "ColouredHeap" "threshold" "I", .fieldLink RX0 42 "ColouredHeap" "inRelocationSet" "[Z", .methodLink RX0 140 yX0_liveWords, .instanceMethod yX0_liveWords, .selects RX0 yX0_liveWords yX0_liveWords, .initialized RX0, .code yX0_liveWords cX0_liveWords 5 (some .int), .fieldLink RX0 22 "ColouredHeap" "marked" "[Z", .fieldLink RX0 19 "ColouredHeap" "objectFields" "[I", .methodLink RX0 143 yX0_becomeFree, .instanceMethod yX0_becomeFree, .selects RX0 yX0_becomeFree yX0_becomeFree, .code yX0_becomeFree cX0_becomeFree 2 none, .fieldLink RX0 36 "ColouredHeap" "usedWords" "[I", .fieldLink RX0 39 "ColouredHeap" "candidate" "[Z"] ++ wsX00)
def wsX0_beginRelocating : List Cond := .code yX0_beginRelocating cX0_beginRelocating 2 none :: ([.fieldLink RX0 26 "ColouredHeap" "forwarding" "[I", .fieldLink RX0 39 "ColouredHeap" "candidate" "[Z", .fieldLink RX0 48 "ColouredHeap" "currentPhase" "I", .methodLink RX0 137 yX0_judge, .instanceMethod yX0_judge, .selects RX0 yX0_judge yX0_judge, .initialized RX0, .code yX0_judge cX0_judge 3 none, .fieldLink RX0 69 "ColouredHeap" "threshold" "I", .fieldLink RX0 42 "ColouredHeap" "inRelocationSet" "[Z", .methodLink RX0 140 yX0_liveWords, .instanceMethod yX0_liveWords, .selects RX0 yX0_liveWords yX0_liveWords, .code yX0_liveWords cX0_liveWords 5 (some .int), .fieldLink RX0 22 "ColouredHeap" "marked" "[Z", .fieldLink RX0 19 "ColouredHeap" "objectFields" "[I", .methodLink RX0 143 yX0_becomeFree, .instanceMethod yX0_becomeFree, .selects RX0 yX0_becomeFree yX0_becomeFree, .code yX0_becomeFree cX0_becomeFree 2 none, .fieldLink RX0 36 "ColouredHeap" "usedWords" "[I"] ++ wsX00)
def wsX0_step_r1 : List Cond := [Cond.fieldLink RX0 48 "ColouredHeap" "currentPhase" "I", Cond.fieldLink RX0 32 "ColouredHeap" "markStackSize" "I", Cond.fieldLink RX0 29 "ColouredHeap" "markStack" "[I", Cond.fieldLink RX0 19 "ColouredHeap" "objectFields" "[I", Cond.methodLink RX0 125 yX0_beginMarking, Cond.instanceMethod yX0_beginMarking, Cond.selects RX0 yX0_beginMarking yX0_beginMarking, Cond.initialized RX0, Cond.code yX0_beginMarking cX0_beginMarking 2 none, Cond.fieldLink RX0 57 "ColouredHeap" "cycleCount" "I", Cond.fieldLink RX0 45 "ColouredHeap" "allocatingPage" "I", Cond.fieldLink RX0 22 "ColouredHeap" "marked" "[Z", Cond.fieldLink RX0 39 "ColouredHeap" "candidate" "[Z", Cond.fieldLink RX0 36 "ColouredHeap" "usedWords" "[I", Cond.methodLink RX0 128 yX0_healSlots, Cond.instanceMethod yX0_healSlots, Cond.selects RX0 yX0_healSlots yX0_healSlots, Cond.code yX0_healSlots cX0_healSlots 4 none, Cond.methodLink RX0 87 yX0_heal, Cond.instanceMethod yX0_heal, Cond.selects RX0 yX0_heal yX0_heal, Cond.code yX0_heal cX0_heal 6 none, Cond.fieldLink RX0 13 "ColouredHeap" "slotColour" "[I", Cond.fieldLink RX0 9 "ColouredHeap" "slotPlace" "[I"]
def wsX0_step_r2 : List Cond := [Cond.fieldLink RX0 26 "ColouredHeap" "forwarding" "[I", Cond.fieldLink RX0 42 "ColouredHeap" "inRelocationSet" "[Z", Cond.fieldLink RX0 51 "ColouredHeap" "healCount" "I", Cond.methodLink RX0 80 yX0_goodColour, Cond.instanceMethod yX0_goodColour, Cond.selects RX0 yX0_goodColour yX0_goodColour, Cond.code yX0_goodColour cX0_goodColour 1 (some .int), Cond.methodLink RX0 116 yX0_mark, Cond.instanceMethod yX0_mark, Cond.selects RX0 yX0_mark yX0_mark, Cond.code yX0_mark cX0_mark 2 none, Cond.methodLink RX0 119 yX0_pageOf, Cond.static yX0_pageOf, Cond.code yX0_pageOf cX0_pageOf 1 (some .int), Cond.methodLink RX0 122 yX0_moveAway, Cond.instanceMethod yX0_moveAway, Cond.selects RX0 yX0_moveAway yX0_moveAway, Cond.code yX0_moveAway cX0_moveAway 5 (some .int), Cond.fieldLink RX0 16 "ColouredHeap" "objectValue" "[I", Cond.fieldLink RX0 54 "ColouredHeap" "moveCount" "I", Cond.methodLink RX0 76 yX0_takeRoom, Cond.instanceMethod yX0_takeRoom, Cond.selects RX0 yX0_takeRoom yX0_takeRoom, Cond.code yX0_takeRoom cX0_takeRoom 3 (some .int)]
def wsX0_step_r3 : List Cond := [Cond.methodLink RX0 113 yX0_leastFreePage, Cond.instanceMethod yX0_leastFreePage, Cond.selects RX0 yX0_leastFreePage yX0_leastFreePage, Cond.code yX0_leastFreePage cX0_leastFreePage 2 (some .int), Cond.methodLink RX0 91 yX0_copySlot, Cond.instanceMethod yX0_copySlot, Cond.selects RX0 yX0_copySlot yX0_copySlot, Cond.code yX0_copySlot cX0_copySlot 3 none, Cond.methodLink RX0 131 yX0_relocateNext, Cond.instanceMethod yX0_relocateNext, Cond.selects RX0 yX0_relocateNext yX0_relocateNext, Cond.code yX0_relocateNext cX0_relocateNext 3 none, Cond.methodLink RX0 146 yX0_leastPageOfSet, Cond.instanceMethod yX0_leastPageOfSet, Cond.selects RX0 yX0_leastPageOfSet yX0_leastPageOfSet, Cond.code yX0_leastPageOfSet cX0_leastPageOfSet 2 (some .int), Cond.methodLink RX0 149 yX0_leastMarkedPlace, Cond.instanceMethod yX0_leastMarkedPlace, Cond.selects RX0 yX0_leastMarkedPlace yX0_leastMarkedPlace, Cond.code yX0_leastMarkedPlace cX0_leastMarkedPlace 3 (some .int), Cond.methodLink RX0 143 yX0_becomeFree, Cond.instanceMethod yX0_becomeFree, Cond.selects RX0 yX0_becomeFree yX0_becomeFree, Cond.code yX0_becomeFree cX0_becomeFree 2 none]
def wsX0_step_r4 : List Cond := [Cond.methodLink RX0 134 yX0_beginRelocating, Cond.instanceMethod yX0_beginRelocating, Cond.selects RX0 yX0_beginRelocating yX0_beginRelocating, Cond.code yX0_beginRelocating cX0_beginRelocating 2 none, Cond.methodLink RX0 137 yX0_judge, Cond.instanceMethod yX0_judge, Cond.selects RX0 yX0_judge yX0_judge, Cond.code yX0_judge cX0_judge 3 none, Cond.fieldLink RX0 69 "ColouredHeap" "threshold" "I", Cond.methodLink RX0 140 yX0_liveWords, Cond.instanceMethod yX0_liveWords, Cond.selects RX0 yX0_liveWords yX0_liveWords, Cond.code yX0_liveWords cX0_liveWords 5 (some .int)]
def wsX0_step : List Cond := .code yX0_step cX0_step 2 none :: ((wsX0_step_r1 ++ (wsX0_step_r2 ++ (wsX0_step_r3 ++ wsX0_step_r4))) ++ wsX00)
def wsX0_collect_r1 : List Cond := [Cond.fieldLink RX0 48 "ColouredHeap" "currentPhase" "I", Cond.methodLink RX0 101 yX0_step, Cond.instanceMethod yX0_step, Cond.selects RX0 yX0_step yX0_step, Cond.initialized RX0, Cond.code yX0_step cX0_step 2 none, Cond.fieldLink RX0 32 "ColouredHeap" "markStackSize" "I", Cond.fieldLink RX0 29 "ColouredHeap" "markStack" "[I", Cond.fieldLink RX0 19 "ColouredHeap" "objectFields" "[I", Cond.methodLink RX0 125 yX0_beginMarking, Cond.instanceMethod yX0_beginMarking, Cond.selects RX0 yX0_beginMarking yX0_beginMarking, Cond.code yX0_beginMarking cX0_beginMarking 2 none, Cond.fieldLink RX0 57 "ColouredHeap" "cycleCount" "I", Cond.fieldLink RX0 45 "ColouredHeap" "allocatingPage" "I", Cond.fieldLink RX0 22 "ColouredHeap" "marked" "[Z", Cond.fieldLink RX0 39 "ColouredHeap" "candidate" "[Z", Cond.fieldLink RX0 36 "ColouredHeap" "usedWords" "[I", Cond.methodLink RX0 128 yX0_healSlots, Cond.instanceMethod yX0_healSlots, Cond.selects RX0 yX0_healSlots yX0_healSlots, Cond.code yX0_healSlots cX0_healSlots 4 none, Cond.methodLink RX0 87 yX0_heal, Cond.instanceMethod yX0_heal]
def wsX0_collect_r2 : List Cond := [Cond.selects RX0 yX0_heal yX0_heal, Cond.code yX0_heal cX0_heal 6 none, Cond.fieldLink RX0 13 "ColouredHeap" "slotColour" "[I", Cond.fieldLink RX0 9 "ColouredHeap" "slotPlace" "[I", Cond.fieldLink RX0 26 "ColouredHeap" "forwarding" "[I", Cond.fieldLink RX0 42 "ColouredHeap" "inRelocationSet" "[Z", Cond.fieldLink RX0 51 "ColouredHeap" "healCount" "I", Cond.methodLink RX0 80 yX0_goodColour, Cond.instanceMethod yX0_goodColour, Cond.selects RX0 yX0_goodColour yX0_goodColour, Cond.code yX0_goodColour cX0_goodColour 1 (some .int), Cond.methodLink RX0 116 yX0_mark, Cond.instanceMethod yX0_mark, Cond.selects RX0 yX0_mark yX0_mark, Cond.code yX0_mark cX0_mark 2 none, Cond.methodLink RX0 119 yX0_pageOf, Cond.static yX0_pageOf, Cond.code yX0_pageOf cX0_pageOf 1 (some .int), Cond.methodLink RX0 122 yX0_moveAway, Cond.instanceMethod yX0_moveAway, Cond.selects RX0 yX0_moveAway yX0_moveAway, Cond.code yX0_moveAway cX0_moveAway 5 (some .int), Cond.fieldLink RX0 16 "ColouredHeap" "objectValue" "[I", Cond.fieldLink RX0 54 "ColouredHeap" "moveCount" "I"]
def wsX0_collect_r3 : List Cond := [Cond.methodLink RX0 76 yX0_takeRoom, Cond.instanceMethod yX0_takeRoom, Cond.selects RX0 yX0_takeRoom yX0_takeRoom, Cond.code yX0_takeRoom cX0_takeRoom 3 (some .int), Cond.methodLink RX0 113 yX0_leastFreePage, Cond.instanceMethod yX0_leastFreePage, Cond.selects RX0 yX0_leastFreePage yX0_leastFreePage, Cond.code yX0_leastFreePage cX0_leastFreePage 2 (some .int), Cond.methodLink RX0 91 yX0_copySlot, Cond.instanceMethod yX0_copySlot, Cond.selects RX0 yX0_copySlot yX0_copySlot, Cond.code yX0_copySlot cX0_copySlot 3 none, Cond.methodLink RX0 131 yX0_relocateNext, Cond.instanceMethod yX0_relocateNext, Cond.selects RX0 yX0_relocateNext yX0_relocateNext, Cond.code yX0_relocateNext cX0_relocateNext 3 none, Cond.methodLink RX0 146 yX0_leastPageOfSet, Cond.instanceMethod yX0_leastPageOfSet, Cond.selects RX0 yX0_leastPageOfSet yX0_leastPageOfSet, Cond.code yX0_leastPageOfSet cX0_leastPageOfSet 2 (some .int), Cond.methodLink RX0 149 yX0_leastMarkedPlace, Cond.instanceMethod yX0_leastMarkedPlace, Cond.selects RX0 yX0_leastMarkedPlace yX0_leastMarkedPlace, Cond.code yX0_leastMarkedPlace cX0_leastMarkedPlace 3 (some .int)]
def wsX0_collect_r4 : List Cond := [Cond.methodLink RX0 143 yX0_becomeFree, Cond.instanceMethod yX0_becomeFree, Cond.selects RX0 yX0_becomeFree yX0_becomeFree, Cond.code yX0_becomeFree cX0_becomeFree 2 none, Cond.methodLink RX0 134 yX0_beginRelocating, Cond.instanceMethod yX0_beginRelocating, Cond.selects RX0 yX0_beginRelocating yX0_beginRelocating, Cond.code yX0_beginRelocating cX0_beginRelocating 2 none, Cond.methodLink RX0 137 yX0_judge, Cond.instanceMethod yX0_judge, Cond.selects RX0 yX0_judge yX0_judge, Cond.code yX0_judge cX0_judge 3 none, Cond.fieldLink RX0 69 "ColouredHeap" "threshold" "I", Cond.methodLink RX0 140 yX0_liveWords, Cond.instanceMethod yX0_liveWords, Cond.selects RX0 yX0_liveWords yX0_liveWords, Cond.code yX0_liveWords cX0_liveWords 5 (some .int)]
def wsX0_collect : List Cond := .code yX0_collect cX0_collect 3 (some .int) :: ((wsX0_collect_r1 ++ (wsX0_collect_r2 ++ (wsX0_collect_r3 ++ wsX0_collect_r4))) ++ wsX00)
def wsX0_phase : List Cond := .code yX0_phase cX0_phase 1 (some .int) :: ([.fieldLink RX0 48 "ColouredHeap" "currentPhase" "I"] ++ wsX00)
def wsX0_stack : List Cond := .code yX0_stack cX0_stack 1 (some .int) :: ([.fieldLink RX0 32 "ColouredHeap" "markStackSize" "I"] ++ wsX00)
def wsX0_pageState : List Cond := .code yX0_pageState cX0_pageState 2 (some .int) :: ([.fieldLink RX0 36 "ColouredHeap" "usedWords" "[I", .fieldLink RX0 45 "ColouredHeap" "allocatingPage" "I", .fieldLink RX0 42 "ColouredHeap" "inRelocationSet" "[Z"] ++ wsX00)
def wsX0_markedObjects : List Cond := .code yX0_markedObjects cX0_markedObjects 4 (some .int) :: ([.fieldLink RX0 22 "ColouredHeap" "marked" "[Z"] ++ wsX00)
def wsX0_forwardings : List Cond := .code yX0_forwardings cX0_forwardings 4 (some .int) :: ([.fieldLink RX0 26 "ColouredHeap" "forwarding" "[I"] ++ wsX00)
def wsX0_page : List Cond := .code yX0_page cX0_page 3 (some .int) :: ([.fieldLink RX0 36 "ColouredHeap" "usedWords" "[I", .fieldLink RX0 39 "ColouredHeap" "candidate" "[Z", .methodLink RX0 104 yX0_pageState, .instanceMethod yX0_pageState, .selects RX0 yX0_pageState yX0_pageState, .initialized RX0, .code yX0_pageState cX0_pageState 2 (some .int), .fieldLink RX0 45 "ColouredHeap" "allocatingPage" "I", .fieldLink RX0 42 "ColouredHeap" "inRelocationSet" "[Z", .methodLink RX0 107 yX0_markedObjects, .instanceMethod yX0_markedObjects, .selects RX0 yX0_markedObjects yX0_markedObjects, .code yX0_markedObjects cX0_markedObjects 4 (some .int), .fieldLink RX0 22 "ColouredHeap" "marked" "[Z", .methodLink RX0 110 yX0_forwardings, .instanceMethod yX0_forwardings, .selects RX0 yX0_forwardings yX0_forwardings, .code yX0_forwardings cX0_forwardings 4 (some .int), .fieldLink RX0 26 "ColouredHeap" "forwarding" "[I"] ++ wsX00)
def wsX0_healed : List Cond := .code yX0_healed cX0_healed 1 (some .int) :: ([.fieldLink RX0 51 "ColouredHeap" "healCount" "I"] ++ wsX00)
def wsX0_moved : List Cond := .code yX0_moved cX0_moved 1 (some .int) :: ([.fieldLink RX0 54 "ColouredHeap" "moveCount" "I"] ++ wsX00)
def wsX0_cycles : List Cond := .code yX0_cycles cX0_cycles 1 (some .int) :: ([.fieldLink RX0 57 "ColouredHeap" "cycleCount" "I"] ++ wsX00)
def wsX1_init : List Cond := .code yX1_init cX1_init 3 none :: ([.methodLink RX1 1 objectInit, .instanceMethod objectInit, .code objectInit ⟨#[0xb1]⟩ 1 none, .arrayClass .boolean, .fieldLink RX1 7 "ColouredHeapModel" "isObject" "[Z", .arrayClass .int, .fieldLink RX1 13 "ColouredHeapModel" "sizes" "[I", .fieldLink RX1 17 "ColouredHeapModel" "values" "[I", .fieldLink RX1 20 "ColouredHeapModel" "isMarked" "[Z", .fieldLink RX1 23 "ColouredHeapModel" "forwards" "[I", .fieldLink RX1 26 "ColouredHeapModel" "places" "[I", .fieldLink RX1 29 "ColouredHeapModel" "colours" "[I", .fieldLink RX1 32 "ColouredHeapModel" "isInUse" "[Z", .fieldLink RX1 35 "ColouredHeapModel" "used" "[I", .fieldLink RX1 38 "ColouredHeapModel" "isCandidate" "[Z", .fieldLink RX1 41 "ColouredHeapModel" "isInSet" "[Z", .fieldLink RX1 44 "ColouredHeapModel" "allocating" "I", .fieldLink RX1 48 "ColouredHeapModel" "stacked" "[I", .fieldLink RX1 51 "ColouredHeapModel" "threshold" "I"] ++ wsX10)
def wsX1_isRoot : List Cond := .code yX1_isRoot cX1_isRoot 1 (some .boolean) :: ([])
def wsX1_slotOf : List Cond := .code yX1_slotOf cX1_slotOf 1 (some .int) :: ([])
def wsX1_holds : List Cond := .code yX1_holds cX1_holds 2 (some .boolean) :: ([.fieldLink RX1 29 "ColouredHeapModel" "colours" "[I", .methodLink RX1 54 yX1_slotOf, .static yX1_slotOf, .initialized RX1, .code yX1_slotOf cX1_slotOf 1 (some .int)] ++ wsX10)
def wsX1_good : List Cond := .code yX1_good cX1_good 1 (some .int) :: ([.fieldLink RX1 58 "ColouredHeapModel" "phase" "I", .fieldLink RX1 61 "ColouredHeapModel" "cycles" "I"] ++ wsX10)
def wsX1_room : List Cond := .code yX1_room cX1_room 3 (some .int) :: ([.fieldLink RX1 44 "ColouredHeapModel" "allocating" "I", .fieldLink RX1 35 "ColouredHeapModel" "used" "[I", .fieldLink RX1 32 "ColouredHeapModel" "isInUse" "[Z"] ++ wsX10)
def wsX1_release : List Cond := .code yX1_release cX1_release 3 none :: ([.fieldLink RX1 32 "ColouredHeapModel" "isInUse" "[Z", .fieldLink RX1 35 "ColouredHeapModel" "used" "[I", .fieldLink RX1 38 "ColouredHeapModel" "isCandidate" "[Z", .fieldLink RX1 41 "ColouredHeapModel" "isInSet" "[Z", .fieldLink RX1 7 "ColouredHeapModel" "isObject" "[Z", .fieldLink RX1 20 "ColouredHeapModel" "isMarked" "[Z"] ++ wsX10)
def wsX1_move : List Cond := .code yX1_move cX1_move 4 (some .int) :: ([.fieldLink RX1 13 "ColouredHeapModel" "sizes" "[I", .fieldLink RX1 7 "ColouredHeapModel" "isObject" "[Z", .fieldLink RX1 17 "ColouredHeapModel" "values" "[I", .fieldLink RX1 26 "ColouredHeapModel" "places" "[I", .fieldLink RX1 29 "ColouredHeapModel" "colours" "[I", .fieldLink RX1 20 "ColouredHeapModel" "isMarked" "[Z", .fieldLink RX1 23 "ColouredHeapModel" "forwards" "[I", .fieldLink RX1 67 "ColouredHeapModel" "moved" "I", .methodLink RX1 64 yX1_room, .instanceMethod yX1_room, .selects RX1 yX1_room yX1_room, .initialized RX1, .code yX1_room cX1_room 3 (some .int), .fieldLink RX1 44 "ColouredHeapModel" "allocating" "I", .fieldLink RX1 35 "ColouredHeapModel" "used" "[I", .fieldLink RX1 32 "ColouredHeapModel" "isInUse" "[Z"] ++ wsX10)
def wsX1_mark : List Cond := .code yX1_mark cX1_mark 2 none :: ([.fieldLink RX1 20 "ColouredHeapModel" "isMarked" "[Z", .fieldLink RX1 48 "ColouredHeapModel" "stacked" "[I", .fieldLink RX1 70 "ColouredHeapModel" "stack" "I"] ++ wsX10)
def wsX1_heal_r1 : List Cond := [Cond.fieldLink RX1 29 "ColouredHeapModel" "colours" "[I", Cond.fieldLink RX1 26 "ColouredHeapModel" "places" "[I", Cond.fieldLink RX1 77 "ColouredHeapModel" "healed" "I", Cond.fieldLink RX1 23 "ColouredHeapModel" "forwards" "[I", Cond.fieldLink RX1 58 "ColouredHeapModel" "phase" "I", Cond.fieldLink RX1 41 "ColouredHeapModel" "isInSet" "[Z", Cond.methodLink RX1 73 yX1_good, Cond.instanceMethod yX1_good, Cond.selects RX1 yX1_good yX1_good, Cond.initialized RX1, Cond.code yX1_good cX1_good 1 (some .int), Cond.fieldLink RX1 61 "ColouredHeapModel" "cycles" "I", Cond.methodLink RX1 80 yX1_move, Cond.instanceMethod yX1_move, Cond.selects RX1 yX1_move yX1_move, Cond.code yX1_move cX1_move 4 (some .int), Cond.fieldLink RX1 13 "ColouredHeapModel" "sizes" "[I", Cond.fieldLink RX1 7 "ColouredHeapModel" "isObject" "[Z", Cond.fieldLink RX1 17 "ColouredHeapModel" "values" "[I", Cond.fieldLink RX1 20 "ColouredHeapModel" "isMarked" "[Z", Cond.fieldLink RX1 67 "ColouredHeapModel" "moved" "I", Cond.methodLink RX1 64 yX1_room, Cond.instanceMethod yX1_room, Cond.selects RX1 yX1_room yX1_room]
def wsX1_heal_r2 : List Cond := [Cond.code yX1_room cX1_room 3 (some .int), Cond.fieldLink RX1 44 "ColouredHeapModel" "allocating" "I", Cond.fieldLink RX1 35 "ColouredHeapModel" "used" "[I", Cond.fieldLink RX1 32 "ColouredHeapModel" "isInUse" "[Z", Cond.methodLink RX1 83 yX1_mark, Cond.instanceMethod yX1_mark, Cond.selects RX1 yX1_mark yX1_mark, Cond.code yX1_mark cX1_mark 2 none, Cond.fieldLink RX1 48 "ColouredHeapModel" "stacked" "[I", Cond.fieldLink RX1 70 "ColouredHeapModel" "stack" "I"]
def wsX1_heal : List Cond := .code yX1_heal cX1_heal 4 none :: ((wsX1_heal_r1 ++ wsX1_heal_r2) ++ wsX10)
def wsX1_healRoots_r1 : List Cond := [Cond.methodLink RX1 54 yX1_slotOf, Cond.static yX1_slotOf, Cond.initialized RX1, Cond.code yX1_slotOf cX1_slotOf 1 (some .int), Cond.methodLink RX1 87 yX1_heal, Cond.instanceMethod yX1_heal, Cond.selects RX1 yX1_heal yX1_heal, Cond.code yX1_heal cX1_heal 4 none, Cond.fieldLink RX1 29 "ColouredHeapModel" "colours" "[I", Cond.fieldLink RX1 26 "ColouredHeapModel" "places" "[I", Cond.fieldLink RX1 77 "ColouredHeapModel" "healed" "I", Cond.fieldLink RX1 23 "ColouredHeapModel" "forwards" "[I", Cond.fieldLink RX1 58 "ColouredHeapModel" "phase" "I", Cond.fieldLink RX1 41 "ColouredHeapModel" "isInSet" "[Z", Cond.methodLink RX1 73 yX1_good, Cond.instanceMethod yX1_good, Cond.selects RX1 yX1_good yX1_good, Cond.code yX1_good cX1_good 1 (some .int), Cond.fieldLink RX1 61 "ColouredHeapModel" "cycles" "I", Cond.methodLink RX1 80 yX1_move, Cond.instanceMethod yX1_move, Cond.selects RX1 yX1_move yX1_move, Cond.code yX1_move cX1_move 4 (some .int), Cond.fieldLink RX1 13 "ColouredHeapModel" "sizes" "[I"]
def wsX1_healRoots_r2 : List Cond := [Cond.fieldLink RX1 7 "ColouredHeapModel" "isObject" "[Z", Cond.fieldLink RX1 17 "ColouredHeapModel" "values" "[I", Cond.fieldLink RX1 20 "ColouredHeapModel" "isMarked" "[Z", Cond.fieldLink RX1 67 "ColouredHeapModel" "moved" "I", Cond.methodLink RX1 64 yX1_room, Cond.instanceMethod yX1_room, Cond.selects RX1 yX1_room yX1_room, Cond.code yX1_room cX1_room 3 (some .int), Cond.fieldLink RX1 44 "ColouredHeapModel" "allocating" "I", Cond.fieldLink RX1 35 "ColouredHeapModel" "used" "[I", Cond.fieldLink RX1 32 "ColouredHeapModel" "isInUse" "[Z", Cond.methodLink RX1 83 yX1_mark, Cond.instanceMethod yX1_mark, Cond.selects RX1 yX1_mark yX1_mark, Cond.code yX1_mark cX1_mark 2 none, Cond.fieldLink RX1 48 "ColouredHeapModel" "stacked" "[I", Cond.fieldLink RX1 70 "ColouredHeapModel" "stack" "I"]
def wsX1_healRoots : List Cond := .code yX1_healRoots cX1_healRoots 2 none :: ((wsX1_healRoots_r1 ++ wsX1_healRoots_r2) ++ wsX10)
def wsX1_make_r1 : List Cond := [Cond.fieldLink RX1 7 "ColouredHeapModel" "isObject" "[Z", Cond.fieldLink RX1 20 "ColouredHeapModel" "isMarked" "[Z", Cond.fieldLink RX1 13 "ColouredHeapModel" "sizes" "[I", Cond.fieldLink RX1 17 "ColouredHeapModel" "values" "[I", Cond.fieldLink RX1 29 "ColouredHeapModel" "colours" "[I", Cond.fieldLink RX1 26 "ColouredHeapModel" "places" "[I", Cond.methodLink RX1 90 yX1_isRoot, Cond.static yX1_isRoot, Cond.initialized RX1, Cond.code yX1_isRoot cX1_isRoot 1 (some .boolean), Cond.methodLink RX1 64 yX1_room, Cond.instanceMethod yX1_room, Cond.selects RX1 yX1_room yX1_room, Cond.code yX1_room cX1_room 3 (some .int), Cond.fieldLink RX1 44 "ColouredHeapModel" "allocating" "I", Cond.fieldLink RX1 35 "ColouredHeapModel" "used" "[I", Cond.fieldLink RX1 32 "ColouredHeapModel" "isInUse" "[Z", Cond.methodLink RX1 54 yX1_slotOf, Cond.static yX1_slotOf, Cond.code yX1_slotOf cX1_slotOf 1 (some .int), Cond.methodLink RX1 73 yX1_good, Cond.instanceMethod yX1_good, Cond.selects RX1 yX1_good yX1_good, Cond.code yX1_good cX1_good 1 (some .int)]
def wsX1_make_r2 : List Cond := [Cond.fieldLink RX1 58 "ColouredHeapModel" "phase" "I", Cond.fieldLink RX1 61 "ColouredHeapModel" "cycles" "I"]
def wsX1_make : List Cond := .code yX1_make cX1_make 6 (some .int) :: ((wsX1_make_r1 ++ wsX1_make_r2) ++ wsX10)
def wsX1_field : List Cond := .code yX1_field cX1_field 4 (some .int) :: ([.fieldLink RX1 26 "ColouredHeapModel" "places" "[I", .fieldLink RX1 13 "ColouredHeapModel" "sizes" "[I", .methodLink RX1 90 yX1_isRoot, .static yX1_isRoot, .initialized RX1, .code yX1_isRoot cX1_isRoot 1 (some .boolean), .methodLink RX1 94 yX1_holds, .instanceMethod yX1_holds, .selects RX1 yX1_holds yX1_holds, .code yX1_holds cX1_holds 2 (some .boolean), .fieldLink RX1 29 "ColouredHeapModel" "colours" "[I", .methodLink RX1 54 yX1_slotOf, .static yX1_slotOf, .code yX1_slotOf cX1_slotOf 1 (some .int)] ++ wsX10)
def wsX1_copySlot : List Cond := .code yX1_copySlot cX1_copySlot 3 none :: ([.fieldLink RX1 26 "ColouredHeapModel" "places" "[I", .fieldLink RX1 29 "ColouredHeapModel" "colours" "[I"] ++ wsX10)
def wsX1_load_r1 : List Cond := [Cond.fieldLink RX1 29 "ColouredHeapModel" "colours" "[I", Cond.methodLink RX1 90 yX1_isRoot, Cond.static yX1_isRoot, Cond.initialized RX1, Cond.code yX1_isRoot cX1_isRoot 1 (some .boolean), Cond.methodLink RX1 97 yX1_field, Cond.instanceMethod yX1_field, Cond.selects RX1 yX1_field yX1_field, Cond.code yX1_field cX1_field 4 (some .int), Cond.fieldLink RX1 26 "ColouredHeapModel" "places" "[I", Cond.fieldLink RX1 13 "ColouredHeapModel" "sizes" "[I", Cond.methodLink RX1 94 yX1_holds, Cond.instanceMethod yX1_holds, Cond.selects RX1 yX1_holds yX1_holds, Cond.code yX1_holds cX1_holds 2 (some .boolean), Cond.methodLink RX1 54 yX1_slotOf, Cond.static yX1_slotOf, Cond.code yX1_slotOf cX1_slotOf 1 (some .int), Cond.methodLink RX1 87 yX1_heal, Cond.instanceMethod yX1_heal, Cond.selects RX1 yX1_heal yX1_heal, Cond.code yX1_heal cX1_heal 4 none, Cond.fieldLink RX1 77 "ColouredHeapModel" "healed" "I", Cond.fieldLink RX1 23 "ColouredHeapModel" "forwards" "[I"]
def wsX1_load_r2 : List Cond := [Cond.fieldLink RX1 58 "ColouredHeapModel" "phase" "I", Cond.fieldLink RX1 41 "ColouredHeapModel" "isInSet" "[Z", Cond.methodLink RX1 73 yX1_good, Cond.instanceMethod yX1_good, Cond.selects RX1 yX1_good yX1_good, Cond.code yX1_good cX1_good 1 (some .int), Cond.fieldLink RX1 61 "ColouredHeapModel" "cycles" "I", Cond.methodLink RX1 80 yX1_move, Cond.instanceMethod yX1_move, Cond.selects RX1 yX1_move yX1_move, Cond.code yX1_move cX1_move 4 (some .int), Cond.fieldLink RX1 7 "ColouredHeapModel" "isObject" "[Z", Cond.fieldLink RX1 17 "ColouredHeapModel" "values" "[I", Cond.fieldLink RX1 20 "ColouredHeapModel" "isMarked" "[Z", Cond.fieldLink RX1 67 "ColouredHeapModel" "moved" "I", Cond.methodLink RX1 64 yX1_room, Cond.instanceMethod yX1_room, Cond.selects RX1 yX1_room yX1_room, Cond.code yX1_room cX1_room 3 (some .int), Cond.fieldLink RX1 44 "ColouredHeapModel" "allocating" "I", Cond.fieldLink RX1 35 "ColouredHeapModel" "used" "[I", Cond.fieldLink RX1 32 "ColouredHeapModel" "isInUse" "[Z", Cond.methodLink RX1 83 yX1_mark, Cond.instanceMethod yX1_mark]
def wsX1_load_r3 : List Cond := [Cond.selects RX1 yX1_mark yX1_mark, Cond.code yX1_mark cX1_mark 2 none, Cond.fieldLink RX1 48 "ColouredHeapModel" "stacked" "[I", Cond.fieldLink RX1 70 "ColouredHeapModel" "stack" "I", Cond.methodLink RX1 101 yX1_copySlot, Cond.instanceMethod yX1_copySlot, Cond.selects RX1 yX1_copySlot yX1_copySlot, Cond.code yX1_copySlot cX1_copySlot 3 none]
def wsX1_load : List Cond := .code yX1_load cX1_load 5 (some .int) :: ((wsX1_load_r1 ++ (wsX1_load_r2 ++ wsX1_load_r3)) ++ wsX10)
def wsX1_store : List Cond := .code yX1_store cX1_store 5 (some .int) :: ([.methodLink RX1 90 yX1_isRoot, .static yX1_isRoot, .initialized RX1, .code yX1_isRoot cX1_isRoot 1 (some .boolean), .methodLink RX1 97 yX1_field, .instanceMethod yX1_field, .selects RX1 yX1_field yX1_field, .code yX1_field cX1_field 4 (some .int), .fieldLink RX1 26 "ColouredHeapModel" "places" "[I", .fieldLink RX1 13 "ColouredHeapModel" "sizes" "[I", .methodLink RX1 94 yX1_holds, .instanceMethod yX1_holds, .selects RX1 yX1_holds yX1_holds, .code yX1_holds cX1_holds 2 (some .boolean), .fieldLink RX1 29 "ColouredHeapModel" "colours" "[I", .methodLink RX1 54 yX1_slotOf, .static yX1_slotOf, .code yX1_slotOf cX1_slotOf 1 (some .int), .methodLink RX1 101 yX1_copySlot, .instanceMethod yX1_copySlot, .selects RX1 yX1_copySlot yX1_copySlot, .code yX1_copySlot cX1_copySlot 3 none] ++ wsX10)
def wsX1_copy : List Cond := .code yX1_copy cX1_copy 3 (some .boolean) :: ([.methodLink RX1 90 yX1_isRoot, .static yX1_isRoot, .initialized RX1, .code yX1_isRoot cX1_isRoot 1 (some .boolean), .methodLink RX1 54 yX1_slotOf, .static yX1_slotOf, .code yX1_slotOf cX1_slotOf 1 (some .int), .methodLink RX1 101 yX1_copySlot, .instanceMethod yX1_copySlot, .selects RX1 yX1_copySlot yX1_copySlot, .code yX1_copySlot cX1_copySlot 3 none, .fieldLink RX1 26 "ColouredHeapModel" "places" "[I", .fieldLink RX1 29 "ColouredHeapModel" "colours" "[I"] ++ wsX10)
def wsX1_drop : List Cond := .code yX1_drop cX1_drop 2 (some .boolean) :: ([.fieldLink RX1 29 "ColouredHeapModel" "colours" "[I", .methodLink RX1 90 yX1_isRoot, .static yX1_isRoot, .initialized RX1, .code yX1_isRoot cX1_isRoot 1 (some .boolean), .methodLink RX1 94 yX1_holds, .instanceMethod yX1_holds, .selects RX1 yX1_holds yX1_holds, .code yX1_holds cX1_holds 2 (some .boolean), .methodLink RX1 54 yX1_slotOf, .static yX1_slotOf, .code yX1_slotOf cX1_slotOf 1 (some .int)] ++ wsX10)
def wsX1_value : List Cond := .code yX1_value cX1_value 2 (some .int) :: ([.fieldLink RX1 17 "ColouredHeapModel" "values" "[I", .fieldLink RX1 26 "ColouredHeapModel" "places" "[I", .methodLink RX1 90 yX1_isRoot, .static yX1_isRoot, .initialized RX1, .code yX1_isRoot cX1_isRoot 1 (some .boolean), .methodLink RX1 94 yX1_holds, .instanceMethod yX1_holds, .selects RX1 yX1_holds yX1_holds, .code yX1_holds cX1_holds 2 (some .boolean), .fieldLink RX1 29 "ColouredHeapModel" "colours" "[I", .methodLink RX1 54 yX1_slotOf, .static yX1_slotOf, .code yX1_slotOf cX1_slotOf 1 (some .int)] ++ wsX10)
def wsX1_set : List Cond := .code yX1_set cX1_set 3 (some .boolean) :: ([.fieldLink RX1 17 "ColouredHeapModel" "values" "[I", .fieldLink RX1 26 "ColouredHeapModel" "places" "[I", .methodLink RX1 90 yX1_isRoot, .static yX1_isRoot, .initialized RX1, .code yX1_isRoot cX1_isRoot 1 (some .boolean), .methodLink RX1 94 yX1_holds, .instanceMethod yX1_holds, .selects RX1 yX1_holds yX1_holds, .code yX1_holds cX1_holds 2 (some .boolean), .fieldLink RX1 29 "ColouredHeapModel" "colours" "[I", .methodLink RX1 54 yX1_slotOf, .static yX1_slotOf, .code yX1_slotOf cX1_slotOf 1 (some .int)] ++ wsX10)
def wsX1_fields : List Cond := .code yX1_fields cX1_fields 2 (some .int) :: ([.fieldLink RX1 13 "ColouredHeapModel" "sizes" "[I", .fieldLink RX1 26 "ColouredHeapModel" "places" "[I", .methodLink RX1 90 yX1_isRoot, .static yX1_isRoot, .initialized RX1, .code yX1_isRoot cX1_isRoot 1 (some .boolean), .methodLink RX1 94 yX1_holds, .instanceMethod yX1_holds, .selects RX1 yX1_holds yX1_holds, .code yX1_holds cX1_holds 2 (some .boolean), .fieldLink RX1 29 "ColouredHeapModel" "colours" "[I", .methodLink RX1 54 yX1_slotOf, .static yX1_slotOf, .code yX1_slotOf cX1_slotOf 1 (some .int)] ++ wsX10)
def wsX1_place : List Cond := .code yX1_place cX1_place 2 (some .int) :: ([.fieldLink RX1 26 "ColouredHeapModel" "places" "[I", .methodLink RX1 90 yX1_isRoot, .static yX1_isRoot, .initialized RX1, .code yX1_isRoot cX1_isRoot 1 (some .boolean), .methodLink RX1 94 yX1_holds, .instanceMethod yX1_holds, .selects RX1 yX1_holds yX1_holds, .code yX1_holds cX1_holds 2 (some .boolean), .fieldLink RX1 29 "ColouredHeapModel" "colours" "[I", .methodLink RX1 54 yX1_slotOf, .static yX1_slotOf, .code yX1_slotOf cX1_slotOf 1 (some .int)] ++ wsX10)
def wsX1_colour : List Cond := .code yX1_colour cX1_colour 4 (some .int) :: ([.fieldLink RX1 29 "ColouredHeapModel" "colours" "[I", .methodLink RX1 97 yX1_field, .instanceMethod yX1_field, .selects RX1 yX1_field yX1_field, .initialized RX1, .code yX1_field cX1_field 4 (some .int), .fieldLink RX1 26 "ColouredHeapModel" "places" "[I", .fieldLink RX1 13 "ColouredHeapModel" "sizes" "[I", .methodLink RX1 90 yX1_isRoot, .static yX1_isRoot, .code yX1_isRoot cX1_isRoot 1 (some .boolean), .methodLink RX1 94 yX1_holds, .instanceMethod yX1_holds, .selects RX1 yX1_holds yX1_holds, .code yX1_holds cX1_holds 2 (some .boolean), .methodLink RX1 54 yX1_slotOf, .static yX1_slotOf, .code yX1_slotOf cX1_slotOf 1 (some .int)] ++ wsX10)
def wsX1_behind : List Cond := .code yX1_behind cX1_behind 4 (some .int) :: ([.fieldLink RX1 29 "ColouredHeapModel" "colours" "[I", .fieldLink RX1 26 "ColouredHeapModel" "places" "[I", .methodLink RX1 97 yX1_field, .instanceMethod yX1_field, .selects RX1 yX1_field yX1_field, .initialized RX1, .code yX1_field cX1_field 4 (some .int), .fieldLink RX1 13 "ColouredHeapModel" "sizes" "[I", .methodLink RX1 90 yX1_isRoot, .static yX1_isRoot, .code yX1_isRoot cX1_isRoot 1 (some .boolean), .methodLink RX1 94 yX1_holds, .instanceMethod yX1_holds, .selects RX1 yX1_holds yX1_holds, .code yX1_holds cX1_holds 2 (some .boolean), .methodLink RX1 54 yX1_slotOf, .static yX1_slotOf, .code yX1_slotOf cX1_slotOf 1 (some .int)] ++ wsX10)
def wsX1_begin_r1 : List Cond := [Cond.fieldLink RX1 61 "ColouredHeapModel" "cycles" "I", Cond.fieldLink RX1 58 "ColouredHeapModel" "phase" "I", Cond.fieldLink RX1 20 "ColouredHeapModel" "isMarked" "[Z", Cond.fieldLink RX1 38 "ColouredHeapModel" "isCandidate" "[Z", Cond.fieldLink RX1 32 "ColouredHeapModel" "isInUse" "[Z", Cond.fieldLink RX1 44 "ColouredHeapModel" "allocating" "I", Cond.methodLink RX1 105 yX1_healRoots, Cond.instanceMethod yX1_healRoots, Cond.selects RX1 yX1_healRoots yX1_healRoots, Cond.initialized RX1, Cond.code yX1_healRoots cX1_healRoots 2 none, Cond.methodLink RX1 54 yX1_slotOf, Cond.static yX1_slotOf, Cond.code yX1_slotOf cX1_slotOf 1 (some .int), Cond.methodLink RX1 87 yX1_heal, Cond.instanceMethod yX1_heal, Cond.selects RX1 yX1_heal yX1_heal, Cond.code yX1_heal cX1_heal 4 none, Cond.fieldLink RX1 29 "ColouredHeapModel" "colours" "[I", Cond.fieldLink RX1 26 "ColouredHeapModel" "places" "[I", Cond.fieldLink RX1 77 "ColouredHeapModel" "healed" "I", Cond.fieldLink RX1 23 "ColouredHeapModel" "forwards" "[I", Cond.fieldLink RX1 41 "ColouredHeapModel" "isInSet" "[Z", Cond.methodLink RX1 73 yX1_good]
def wsX1_begin_r2 : List Cond := [Cond.instanceMethod yX1_good, Cond.selects RX1 yX1_good yX1_good, Cond.code yX1_good cX1_good 1 (some .int), Cond.methodLink RX1 80 yX1_move, Cond.instanceMethod yX1_move, Cond.selects RX1 yX1_move yX1_move, Cond.code yX1_move cX1_move 4 (some .int), Cond.fieldLink RX1 13 "ColouredHeapModel" "sizes" "[I", Cond.fieldLink RX1 7 "ColouredHeapModel" "isObject" "[Z", Cond.fieldLink RX1 17 "ColouredHeapModel" "values" "[I", Cond.fieldLink RX1 67 "ColouredHeapModel" "moved" "I", Cond.methodLink RX1 64 yX1_room, Cond.instanceMethod yX1_room, Cond.selects RX1 yX1_room yX1_room, Cond.code yX1_room cX1_room 3 (some .int), Cond.fieldLink RX1 35 "ColouredHeapModel" "used" "[I", Cond.methodLink RX1 83 yX1_mark, Cond.instanceMethod yX1_mark, Cond.selects RX1 yX1_mark yX1_mark, Cond.code yX1_mark cX1_mark 2 none, Cond.fieldLink RX1 48 "ColouredHeapModel" "stacked" "[I", Cond.fieldLink RX1 70 "ColouredHeapModel" "stack" "I"]
def wsX1_begin : List Cond := .code yX1_begin cX1_begin 2 none :: ((wsX1_begin_r1 ++ wsX1_begin_r2) ++ wsX10)
def wsX1_markedIn : List Cond := .code yX1_markedIn cX1_markedIn 5 (some .int) :: ([.fieldLink RX1 7 "ColouredHeapModel" "isObject" "[Z", .fieldLink RX1 20 "ColouredHeapModel" "isMarked" "[Z", .fieldLink RX1 13 "ColouredHeapModel" "sizes" "[I"] ++ wsX10)
def wsX1_markOne_r1 : List Cond := [Cond.fieldLink RX1 70 "ColouredHeapModel" "stack" "I", Cond.fieldLink RX1 48 "ColouredHeapModel" "stacked" "[I", Cond.fieldLink RX1 13 "ColouredHeapModel" "sizes" "[I", Cond.methodLink RX1 87 yX1_heal, Cond.instanceMethod yX1_heal, Cond.selects RX1 yX1_heal yX1_heal, Cond.initialized RX1, Cond.code yX1_heal cX1_heal 4 none, Cond.fieldLink RX1 29 "ColouredHeapModel" "colours" "[I", Cond.fieldLink RX1 26 "ColouredHeapModel" "places" "[I", Cond.fieldLink RX1 77 "ColouredHeapModel" "healed" "I", Cond.fieldLink RX1 23 "ColouredHeapModel" "forwards" "[I", Cond.fieldLink RX1 58 "ColouredHeapModel" "phase" "I", Cond.fieldLink RX1 41 "ColouredHeapModel" "isInSet" "[Z", Cond.methodLink RX1 73 yX1_good, Cond.instanceMethod yX1_good, Cond.selects RX1 yX1_good yX1_good, Cond.code yX1_good cX1_good 1 (some .int), Cond.fieldLink RX1 61 "ColouredHeapModel" "cycles" "I", Cond.methodLink RX1 80 yX1_move, Cond.instanceMethod yX1_move, Cond.selects RX1 yX1_move yX1_move, Cond.code yX1_move cX1_move 4 (some .int), Cond.fieldLink RX1 7 "ColouredHeapModel" "isObject" "[Z"]
def wsX1_markOne_r2 : List Cond := [Cond.fieldLink RX1 17 "ColouredHeapModel" "values" "[I", Cond.fieldLink RX1 20 "ColouredHeapModel" "isMarked" "[Z", Cond.fieldLink RX1 67 "ColouredHeapModel" "moved" "I", Cond.methodLink RX1 64 yX1_room, Cond.instanceMethod yX1_room, Cond.selects RX1 yX1_room yX1_room, Cond.code yX1_room cX1_room 3 (some .int), Cond.fieldLink RX1 44 "ColouredHeapModel" "allocating" "I", Cond.fieldLink RX1 35 "ColouredHeapModel" "used" "[I", Cond.fieldLink RX1 32 "ColouredHeapModel" "isInUse" "[Z", Cond.methodLink RX1 83 yX1_mark, Cond.instanceMethod yX1_mark, Cond.selects RX1 yX1_mark yX1_mark, Cond.code yX1_mark cX1_mark 2 none]
def wsX1_markOne : List Cond := .code yX1_markOne cX1_markOne 3 none :: ((wsX1_markOne_r1 ++ wsX1_markOne_r2) ++ wsX10)
def wsX1_choose_r1 : List Cond := [Cond.fieldLink RX1 23 "ColouredHeapModel" "forwards" "[I", Cond.fieldLink RX1 38 "ColouredHeapModel" "isCandidate" "[Z", Cond.fieldLink RX1 51 "ColouredHeapModel" "threshold" "I", Cond.fieldLink RX1 41 "ColouredHeapModel" "isInSet" "[Z", Cond.fieldLink RX1 58 "ColouredHeapModel" "phase" "I", Cond.methodLink RX1 108 yX1_markedIn, Cond.instanceMethod yX1_markedIn, Cond.selects RX1 yX1_markedIn yX1_markedIn, Cond.initialized RX1, Cond.code yX1_markedIn cX1_markedIn 5 (some .int), Cond.fieldLink RX1 7 "ColouredHeapModel" "isObject" "[Z", Cond.fieldLink RX1 20 "ColouredHeapModel" "isMarked" "[Z", Cond.fieldLink RX1 13 "ColouredHeapModel" "sizes" "[I", Cond.methodLink RX1 112 yX1_release, Cond.instanceMethod yX1_release, Cond.selects RX1 yX1_release yX1_release, Cond.code yX1_release cX1_release 3 none, Cond.fieldLink RX1 32 "ColouredHeapModel" "isInUse" "[Z", Cond.fieldLink RX1 35 "ColouredHeapModel" "used" "[I", Cond.methodLink RX1 105 yX1_healRoots, Cond.instanceMethod yX1_healRoots, Cond.selects RX1 yX1_healRoots yX1_healRoots, Cond.code yX1_healRoots cX1_healRoots 2 none, Cond.methodLink RX1 54 yX1_slotOf]
def wsX1_choose_r2 : List Cond := [Cond.static yX1_slotOf, Cond.code yX1_slotOf cX1_slotOf 1 (some .int), Cond.methodLink RX1 87 yX1_heal, Cond.instanceMethod yX1_heal, Cond.selects RX1 yX1_heal yX1_heal, Cond.code yX1_heal cX1_heal 4 none, Cond.fieldLink RX1 29 "ColouredHeapModel" "colours" "[I", Cond.fieldLink RX1 26 "ColouredHeapModel" "places" "[I", Cond.fieldLink RX1 77 "ColouredHeapModel" "healed" "I", Cond.methodLink RX1 73 yX1_good, Cond.instanceMethod yX1_good, Cond.selects RX1 yX1_good yX1_good, Cond.code yX1_good cX1_good 1 (some .int), Cond.fieldLink RX1 61 "ColouredHeapModel" "cycles" "I", Cond.methodLink RX1 80 yX1_move, Cond.instanceMethod yX1_move, Cond.selects RX1 yX1_move yX1_move, Cond.code yX1_move cX1_move 4 (some .int), Cond.fieldLink RX1 17 "ColouredHeapModel" "values" "[I", Cond.fieldLink RX1 67 "ColouredHeapModel" "moved" "I", Cond.methodLink RX1 64 yX1_room, Cond.instanceMethod yX1_room, Cond.selects RX1 yX1_room yX1_room, Cond.code yX1_room cX1_room 3 (some .int)]
def wsX1_choose_r3 : List Cond := [Cond.fieldLink RX1 44 "ColouredHeapModel" "allocating" "I", Cond.methodLink RX1 83 yX1_mark, Cond.instanceMethod yX1_mark, Cond.selects RX1 yX1_mark yX1_mark, Cond.code yX1_mark cX1_mark 2 none, Cond.fieldLink RX1 48 "ColouredHeapModel" "stacked" "[I", Cond.fieldLink RX1 70 "ColouredHeapModel" "stack" "I"]
def wsX1_choose : List Cond := .code yX1_choose cX1_choose 3 none :: ((wsX1_choose_r1 ++ (wsX1_choose_r2 ++ wsX1_choose_r3)) ++ wsX10)
def wsX1_leastInSet : List Cond := .code yX1_leastInSet cX1_leastInSet 2 (some .int) :: ([.fieldLink RX1 41 "ColouredHeapModel" "isInSet" "[Z"] ++ wsX10)
def wsX1_relocate_r1 : List Cond := [Cond.fieldLink RX1 7 "ColouredHeapModel" "isObject" "[Z", Cond.fieldLink RX1 20 "ColouredHeapModel" "isMarked" "[Z", Cond.fieldLink RX1 41 "ColouredHeapModel" "isInSet" "[Z", Cond.methodLink RX1 80 yX1_move, Cond.instanceMethod yX1_move, Cond.selects RX1 yX1_move yX1_move, Cond.initialized RX1, Cond.code yX1_move cX1_move 4 (some .int), Cond.fieldLink RX1 13 "ColouredHeapModel" "sizes" "[I", Cond.fieldLink RX1 17 "ColouredHeapModel" "values" "[I", Cond.fieldLink RX1 26 "ColouredHeapModel" "places" "[I", Cond.fieldLink RX1 29 "ColouredHeapModel" "colours" "[I", Cond.fieldLink RX1 23 "ColouredHeapModel" "forwards" "[I", Cond.fieldLink RX1 67 "ColouredHeapModel" "moved" "I", Cond.methodLink RX1 64 yX1_room, Cond.instanceMethod yX1_room, Cond.selects RX1 yX1_room yX1_room, Cond.code yX1_room cX1_room 3 (some .int), Cond.fieldLink RX1 44 "ColouredHeapModel" "allocating" "I", Cond.fieldLink RX1 35 "ColouredHeapModel" "used" "[I", Cond.fieldLink RX1 32 "ColouredHeapModel" "isInUse" "[Z", Cond.methodLink RX1 108 yX1_markedIn, Cond.instanceMethod yX1_markedIn, Cond.selects RX1 yX1_markedIn yX1_markedIn]
def wsX1_relocate_r2 : List Cond := [Cond.code yX1_markedIn cX1_markedIn 5 (some .int), Cond.methodLink RX1 112 yX1_release, Cond.instanceMethod yX1_release, Cond.selects RX1 yX1_release yX1_release, Cond.code yX1_release cX1_release 3 none, Cond.fieldLink RX1 38 "ColouredHeapModel" "isCandidate" "[Z"]
def wsX1_relocate : List Cond := .code yX1_relocate cX1_relocate 3 none :: ((wsX1_relocate_r1 ++ wsX1_relocate_r2) ++ wsX10)
def wsX1_step_r1 : List Cond := [Cond.fieldLink RX1 58 "ColouredHeapModel" "phase" "I", Cond.fieldLink RX1 70 "ColouredHeapModel" "stack" "I", Cond.methodLink RX1 115 yX1_begin, Cond.instanceMethod yX1_begin, Cond.selects RX1 yX1_begin yX1_begin, Cond.initialized RX1, Cond.code yX1_begin cX1_begin 2 none, Cond.fieldLink RX1 61 "ColouredHeapModel" "cycles" "I", Cond.fieldLink RX1 20 "ColouredHeapModel" "isMarked" "[Z", Cond.fieldLink RX1 38 "ColouredHeapModel" "isCandidate" "[Z", Cond.fieldLink RX1 32 "ColouredHeapModel" "isInUse" "[Z", Cond.fieldLink RX1 44 "ColouredHeapModel" "allocating" "I", Cond.methodLink RX1 105 yX1_healRoots, Cond.instanceMethod yX1_healRoots, Cond.selects RX1 yX1_healRoots yX1_healRoots, Cond.code yX1_healRoots cX1_healRoots 2 none, Cond.methodLink RX1 54 yX1_slotOf, Cond.static yX1_slotOf, Cond.code yX1_slotOf cX1_slotOf 1 (some .int), Cond.methodLink RX1 87 yX1_heal, Cond.instanceMethod yX1_heal, Cond.selects RX1 yX1_heal yX1_heal, Cond.code yX1_heal cX1_heal 4 none, Cond.fieldLink RX1 29 "ColouredHeapModel" "colours" "[I"]
def wsX1_step_r2 : List Cond := [Cond.fieldLink RX1 26 "ColouredHeapModel" "places" "[I", Cond.fieldLink RX1 77 "ColouredHeapModel" "healed" "I", Cond.fieldLink RX1 23 "ColouredHeapModel" "forwards" "[I", Cond.fieldLink RX1 41 "ColouredHeapModel" "isInSet" "[Z", Cond.methodLink RX1 73 yX1_good, Cond.instanceMethod yX1_good, Cond.selects RX1 yX1_good yX1_good, Cond.code yX1_good cX1_good 1 (some .int), Cond.methodLink RX1 80 yX1_move, Cond.instanceMethod yX1_move, Cond.selects RX1 yX1_move yX1_move, Cond.code yX1_move cX1_move 4 (some .int), Cond.fieldLink RX1 13 "ColouredHeapModel" "sizes" "[I", Cond.fieldLink RX1 7 "ColouredHeapModel" "isObject" "[Z", Cond.fieldLink RX1 17 "ColouredHeapModel" "values" "[I", Cond.fieldLink RX1 67 "ColouredHeapModel" "moved" "I", Cond.methodLink RX1 64 yX1_room, Cond.instanceMethod yX1_room, Cond.selects RX1 yX1_room yX1_room, Cond.code yX1_room cX1_room 3 (some .int), Cond.fieldLink RX1 35 "ColouredHeapModel" "used" "[I", Cond.methodLink RX1 83 yX1_mark, Cond.instanceMethod yX1_mark, Cond.selects RX1 yX1_mark yX1_mark]
def wsX1_step_r3 : List Cond := [Cond.code yX1_mark cX1_mark 2 none, Cond.fieldLink RX1 48 "ColouredHeapModel" "stacked" "[I", Cond.methodLink RX1 118 yX1_markOne, Cond.instanceMethod yX1_markOne, Cond.selects RX1 yX1_markOne yX1_markOne, Cond.code yX1_markOne cX1_markOne 3 none, Cond.methodLink RX1 121 yX1_choose, Cond.instanceMethod yX1_choose, Cond.selects RX1 yX1_choose yX1_choose, Cond.code yX1_choose cX1_choose 3 none, Cond.fieldLink RX1 51 "ColouredHeapModel" "threshold" "I", Cond.methodLink RX1 108 yX1_markedIn, Cond.instanceMethod yX1_markedIn, Cond.selects RX1 yX1_markedIn yX1_markedIn, Cond.code yX1_markedIn cX1_markedIn 5 (some .int), Cond.methodLink RX1 112 yX1_release, Cond.instanceMethod yX1_release, Cond.selects RX1 yX1_release yX1_release, Cond.code yX1_release cX1_release 3 none, Cond.methodLink RX1 124 yX1_leastInSet, Cond.instanceMethod yX1_leastInSet, Cond.selects RX1 yX1_leastInSet yX1_leastInSet, Cond.code yX1_leastInSet cX1_leastInSet 2 (some .int), Cond.methodLink RX1 127 yX1_relocate]
def wsX1_step_r4 : List Cond := [Cond.instanceMethod yX1_relocate, Cond.selects RX1 yX1_relocate yX1_relocate, Cond.code yX1_relocate cX1_relocate 3 none]
def wsX1_step : List Cond := .code yX1_step cX1_step 1 none :: ((wsX1_step_r1 ++ (wsX1_step_r2 ++ (wsX1_step_r3 ++ wsX1_step_r4))) ++ wsX10)
def wsX1_collect_r1 : List Cond := [Cond.fieldLink RX1 58 "ColouredHeapModel" "phase" "I", Cond.methodLink RX1 130 yX1_step, Cond.instanceMethod yX1_step, Cond.selects RX1 yX1_step yX1_step, Cond.initialized RX1, Cond.code yX1_step cX1_step 1 none, Cond.fieldLink RX1 70 "ColouredHeapModel" "stack" "I", Cond.methodLink RX1 115 yX1_begin, Cond.instanceMethod yX1_begin, Cond.selects RX1 yX1_begin yX1_begin, Cond.code yX1_begin cX1_begin 2 none, Cond.fieldLink RX1 61 "ColouredHeapModel" "cycles" "I", Cond.fieldLink RX1 20 "ColouredHeapModel" "isMarked" "[Z", Cond.fieldLink RX1 38 "ColouredHeapModel" "isCandidate" "[Z", Cond.fieldLink RX1 32 "ColouredHeapModel" "isInUse" "[Z", Cond.fieldLink RX1 44 "ColouredHeapModel" "allocating" "I", Cond.methodLink RX1 105 yX1_healRoots, Cond.instanceMethod yX1_healRoots, Cond.selects RX1 yX1_healRoots yX1_healRoots, Cond.code yX1_healRoots cX1_healRoots 2 none, Cond.methodLink RX1 54 yX1_slotOf, Cond.static yX1_slotOf, Cond.code yX1_slotOf cX1_slotOf 1 (some .int), Cond.methodLink RX1 87 yX1_heal]
def wsX1_collect_r2 : List Cond := [Cond.instanceMethod yX1_heal, Cond.selects RX1 yX1_heal yX1_heal, Cond.code yX1_heal cX1_heal 4 none, Cond.fieldLink RX1 29 "ColouredHeapModel" "colours" "[I", Cond.fieldLink RX1 26 "ColouredHeapModel" "places" "[I", Cond.fieldLink RX1 77 "ColouredHeapModel" "healed" "I", Cond.fieldLink RX1 23 "ColouredHeapModel" "forwards" "[I", Cond.fieldLink RX1 41 "ColouredHeapModel" "isInSet" "[Z", Cond.methodLink RX1 73 yX1_good, Cond.instanceMethod yX1_good, Cond.selects RX1 yX1_good yX1_good, Cond.code yX1_good cX1_good 1 (some .int), Cond.methodLink RX1 80 yX1_move, Cond.instanceMethod yX1_move, Cond.selects RX1 yX1_move yX1_move, Cond.code yX1_move cX1_move 4 (some .int), Cond.fieldLink RX1 13 "ColouredHeapModel" "sizes" "[I", Cond.fieldLink RX1 7 "ColouredHeapModel" "isObject" "[Z", Cond.fieldLink RX1 17 "ColouredHeapModel" "values" "[I", Cond.fieldLink RX1 67 "ColouredHeapModel" "moved" "I", Cond.methodLink RX1 64 yX1_room, Cond.instanceMethod yX1_room, Cond.selects RX1 yX1_room yX1_room, Cond.code yX1_room cX1_room 3 (some .int)]
def wsX1_collect_r3 : List Cond := [Cond.fieldLink RX1 35 "ColouredHeapModel" "used" "[I", Cond.methodLink RX1 83 yX1_mark, Cond.instanceMethod yX1_mark, Cond.selects RX1 yX1_mark yX1_mark, Cond.code yX1_mark cX1_mark 2 none, Cond.fieldLink RX1 48 "ColouredHeapModel" "stacked" "[I", Cond.methodLink RX1 118 yX1_markOne, Cond.instanceMethod yX1_markOne, Cond.selects RX1 yX1_markOne yX1_markOne, Cond.code yX1_markOne cX1_markOne 3 none, Cond.methodLink RX1 121 yX1_choose, Cond.instanceMethod yX1_choose, Cond.selects RX1 yX1_choose yX1_choose, Cond.code yX1_choose cX1_choose 3 none, Cond.fieldLink RX1 51 "ColouredHeapModel" "threshold" "I", Cond.methodLink RX1 108 yX1_markedIn, Cond.instanceMethod yX1_markedIn, Cond.selects RX1 yX1_markedIn yX1_markedIn, Cond.code yX1_markedIn cX1_markedIn 5 (some .int), Cond.methodLink RX1 112 yX1_release, Cond.instanceMethod yX1_release, Cond.selects RX1 yX1_release yX1_release, Cond.code yX1_release cX1_release 3 none, Cond.methodLink RX1 124 yX1_leastInSet]
def wsX1_collect_r4 : List Cond := [Cond.instanceMethod yX1_leastInSet, Cond.selects RX1 yX1_leastInSet yX1_leastInSet, Cond.code yX1_leastInSet cX1_leastInSet 2 (some .int), Cond.methodLink RX1 127 yX1_relocate, Cond.instanceMethod yX1_relocate, Cond.selects RX1 yX1_relocate yX1_relocate, Cond.code yX1_relocate cX1_relocate 3 none]
def wsX1_collect : List Cond := .code yX1_collect cX1_collect 3 (some .int) :: ((wsX1_collect_r1 ++ (wsX1_collect_r2 ++ (wsX1_collect_r3 ++ wsX1_collect_r4))) ++ wsX10)
def wsX1_phase : List Cond := .code yX1_phase cX1_phase 1 (some .int) :: ([.fieldLink RX1 58 "ColouredHeapModel" "phase" "I"] ++ wsX10)
def wsX1_stack : List Cond := .code yX1_stack cX1_stack 1 (some .int) :: ([.fieldLink RX1 70 "ColouredHeapModel" "stack" "I"] ++ wsX10)
def wsX1_page : List Cond := .code yX1_page cX1_page 5 (some .int) :: ([.fieldLink RX1 32 "ColouredHeapModel" "isInUse" "[Z", .fieldLink RX1 41 "ColouredHeapModel" "isInSet" "[Z", .fieldLink RX1 44 "ColouredHeapModel" "allocating" "I", .fieldLink RX1 35 "ColouredHeapModel" "used" "[I", .fieldLink RX1 38 "ColouredHeapModel" "isCandidate" "[Z", .fieldLink RX1 23 "ColouredHeapModel" "forwards" "[I", .methodLink RX1 108 yX1_markedIn, .instanceMethod yX1_markedIn, .selects RX1 yX1_markedIn yX1_markedIn, .initialized RX1, .code yX1_markedIn cX1_markedIn 5 (some .int), .fieldLink RX1 7 "ColouredHeapModel" "isObject" "[Z", .fieldLink RX1 20 "ColouredHeapModel" "isMarked" "[Z", .fieldLink RX1 13 "ColouredHeapModel" "sizes" "[I"] ++ wsX10)
def wsX1_healed : List Cond := .code yX1_healed cX1_healed 1 (some .int) :: ([.fieldLink RX1 77 "ColouredHeapModel" "healed" "I"] ++ wsX10)
def wsX1_moved : List Cond := .code yX1_moved cX1_moved 1 (some .int) :: ([.fieldLink RX1 67 "ColouredHeapModel" "moved" "I"] ++ wsX10)
def wsX1_cycles : List Cond := .code yX1_cycles cX1_cycles 1 (some .int) :: ([.fieldLink RX1 61 "ColouredHeapModel" "cycles" "I"] ++ wsX10)
def wsJ9_max_7cf53 : List Cond := .code yJ9_max_7cf53 cJ9_max_7cf53 2 (some .int) :: ([])
def wsJ9_min_7cf53 : List Cond := .code yJ9_min_7cf53 cJ9_min_7cf53 2 (some .int) :: ([])
def wsL_cell : List Cond := .code yL_cell cL_cell 2 (some .int) :: ([])
def wsL_law_r1 : List Cond := [Cond.classLink RL 7 RX0, Cond.instantiable RX0 17, Cond.initialized RX0, Cond.classLink RL 18 RX1, Cond.instantiable RX1 19, Cond.initialized RX1, Cond.methodLink RL 9 yL_cell, Cond.static yL_cell, Cond.initialized RL, Cond.code yL_cell cL_cell 2 (some .int), Cond.methodLink RL 15 yX0_init, Cond.instanceMethod yX0_init, Cond.code yX0_init cX0_init 3 none, Cond.methodLink RX0 3 objectInit, Cond.instanceMethod objectInit, Cond.code objectInit ⟨#[0xb1]⟩ 1 none, Cond.arrayClass .int, Cond.fieldLink RX0 9 "ColouredHeap" "slotPlace" "[I", Cond.fieldLink RX0 13 "ColouredHeap" "slotColour" "[I", Cond.fieldLink RX0 16 "ColouredHeap" "objectValue" "[I", Cond.fieldLink RX0 19 "ColouredHeap" "objectFields" "[I", Cond.arrayClass .boolean, Cond.fieldLink RX0 22 "ColouredHeap" "marked" "[Z", Cond.fieldLink RX0 26 "ColouredHeap" "forwarding" "[I"]
def wsL_law_r2 : List Cond := [Cond.fieldLink RX0 29 "ColouredHeap" "markStack" "[I", Cond.fieldLink RX0 32 "ColouredHeap" "markStackSize" "I", Cond.fieldLink RX0 36 "ColouredHeap" "usedWords" "[I", Cond.fieldLink RX0 39 "ColouredHeap" "candidate" "[Z", Cond.fieldLink RX0 42 "ColouredHeap" "inRelocationSet" "[Z", Cond.fieldLink RX0 45 "ColouredHeap" "allocatingPage" "I", Cond.fieldLink RX0 48 "ColouredHeap" "currentPhase" "I", Cond.fieldLink RX0 51 "ColouredHeap" "healCount" "I", Cond.fieldLink RX0 54 "ColouredHeap" "moveCount" "I", Cond.fieldLink RX0 57 "ColouredHeap" "cycleCount" "I", Cond.methodLink RX0 60 Lib.Math.min.name, Cond.static Lib.Math.min.name, Cond.initialized "java/lang/Math", Cond.code Lib.Math.min.name Lib.Math.min.code 2 (some .int), Cond.methodLink RX0 66 Lib.Math.max.name, Cond.static Lib.Math.max.name, Cond.code Lib.Math.max.name Lib.Math.max.code 2 (some .int), Cond.fieldLink RX0 69 "ColouredHeap" "threshold" "I", Cond.methodLink RL 20 yX1_init, Cond.instanceMethod yX1_init, Cond.code yX1_init cX1_init 3 none, Cond.methodLink RX1 1 objectInit, Cond.fieldLink RX1 7 "ColouredHeapModel" "isObject" "[Z", Cond.fieldLink RX1 13 "ColouredHeapModel" "sizes" "[I"]
def wsL_law_r3 : List Cond := [Cond.fieldLink RX1 17 "ColouredHeapModel" "values" "[I", Cond.fieldLink RX1 20 "ColouredHeapModel" "isMarked" "[Z", Cond.fieldLink RX1 23 "ColouredHeapModel" "forwards" "[I", Cond.fieldLink RX1 26 "ColouredHeapModel" "places" "[I", Cond.fieldLink RX1 29 "ColouredHeapModel" "colours" "[I", Cond.fieldLink RX1 32 "ColouredHeapModel" "isInUse" "[Z", Cond.fieldLink RX1 35 "ColouredHeapModel" "used" "[I", Cond.fieldLink RX1 38 "ColouredHeapModel" "isCandidate" "[Z", Cond.fieldLink RX1 41 "ColouredHeapModel" "isInSet" "[Z", Cond.fieldLink RX1 44 "ColouredHeapModel" "allocating" "I", Cond.fieldLink RX1 48 "ColouredHeapModel" "stacked" "[I", Cond.fieldLink RX1 51 "ColouredHeapModel" "threshold" "I", Cond.methodLink RL 21 yX0_make, Cond.instanceMethod yX0_make, Cond.selects RX0 yX0_make yX0_make, Cond.code yX0_make cX0_make 6 (some .int), Cond.methodLink RX0 72 yX0_isRoot, Cond.static yX0_isRoot, Cond.code yX0_isRoot cX0_isRoot 1 (some .boolean), Cond.methodLink RX0 76 yX0_takeRoom, Cond.instanceMethod yX0_takeRoom, Cond.selects RX0 yX0_takeRoom yX0_takeRoom, Cond.code yX0_takeRoom cX0_takeRoom 3 (some .int), Cond.methodLink RX0 113 yX0_leastFreePage]
def wsL_law_r4 : List Cond := [Cond.instanceMethod yX0_leastFreePage, Cond.selects RX0 yX0_leastFreePage yX0_leastFreePage, Cond.code yX0_leastFreePage cX0_leastFreePage 2 (some .int), Cond.methodLink RX0 80 yX0_goodColour, Cond.instanceMethod yX0_goodColour, Cond.selects RX0 yX0_goodColour yX0_goodColour, Cond.code yX0_goodColour cX0_goodColour 1 (some .int), Cond.methodLink RL 25 yX1_make, Cond.instanceMethod yX1_make, Cond.selects RX1 yX1_make yX1_make, Cond.code yX1_make cX1_make 6 (some .int), Cond.methodLink RX1 90 yX1_isRoot, Cond.static yX1_isRoot, Cond.code yX1_isRoot cX1_isRoot 1 (some .boolean), Cond.methodLink RX1 64 yX1_room, Cond.instanceMethod yX1_room, Cond.selects RX1 yX1_room yX1_room, Cond.code yX1_room cX1_room 3 (some .int), Cond.methodLink RX1 54 yX1_slotOf, Cond.static yX1_slotOf, Cond.code yX1_slotOf cX1_slotOf 1 (some .int), Cond.methodLink RX1 73 yX1_good, Cond.instanceMethod yX1_good, Cond.selects RX1 yX1_good yX1_good]
def wsL_law_r5 : List Cond := [Cond.code yX1_good cX1_good 1 (some .int), Cond.fieldLink RX1 58 "ColouredHeapModel" "phase" "I", Cond.fieldLink RX1 61 "ColouredHeapModel" "cycles" "I", Cond.methodLink RL 26 yX0_load, Cond.instanceMethod yX0_load, Cond.selects RX0 yX0_load yX0_load, Cond.code yX0_load cX0_load 5 (some .int), Cond.methodLink RX0 84 yX0_fieldSlot, Cond.instanceMethod yX0_fieldSlot, Cond.selects RX0 yX0_fieldSlot yX0_fieldSlot, Cond.code yX0_fieldSlot cX0_fieldSlot 4 (some .int), Cond.methodLink RX0 98 yX0_place, Cond.instanceMethod yX0_place, Cond.selects RX0 yX0_place yX0_place, Cond.code yX0_place cX0_place 2 (some .int), Cond.methodLink RX0 95 yX0_holdsNothing, Cond.instanceMethod yX0_holdsNothing, Cond.selects RX0 yX0_holdsNothing yX0_holdsNothing, Cond.code yX0_holdsNothing cX0_holdsNothing 2 (some .boolean), Cond.methodLink RX0 87 yX0_heal, Cond.instanceMethod yX0_heal, Cond.selects RX0 yX0_heal yX0_heal, Cond.code yX0_heal cX0_heal 6 none, Cond.methodLink RX0 116 yX0_mark]
def wsL_law_r6 : List Cond := [Cond.instanceMethod yX0_mark, Cond.selects RX0 yX0_mark yX0_mark, Cond.code yX0_mark cX0_mark 2 none, Cond.methodLink RX0 119 yX0_pageOf, Cond.static yX0_pageOf, Cond.code yX0_pageOf cX0_pageOf 1 (some .int), Cond.methodLink RX0 122 yX0_moveAway, Cond.instanceMethod yX0_moveAway, Cond.selects RX0 yX0_moveAway yX0_moveAway, Cond.code yX0_moveAway cX0_moveAway 5 (some .int), Cond.methodLink RX0 91 yX0_copySlot, Cond.instanceMethod yX0_copySlot, Cond.selects RX0 yX0_copySlot yX0_copySlot, Cond.code yX0_copySlot cX0_copySlot 3 none, Cond.methodLink RL 29 yX1_load, Cond.instanceMethod yX1_load, Cond.selects RX1 yX1_load yX1_load, Cond.code yX1_load cX1_load 5 (some .int), Cond.methodLink RX1 97 yX1_field, Cond.instanceMethod yX1_field, Cond.selects RX1 yX1_field yX1_field, Cond.code yX1_field cX1_field 4 (some .int), Cond.methodLink RX1 94 yX1_holds, Cond.instanceMethod yX1_holds]
def wsL_law_r7 : List Cond := [Cond.selects RX1 yX1_holds yX1_holds, Cond.code yX1_holds cX1_holds 2 (some .boolean), Cond.methodLink RX1 87 yX1_heal, Cond.instanceMethod yX1_heal, Cond.selects RX1 yX1_heal yX1_heal, Cond.code yX1_heal cX1_heal 4 none, Cond.fieldLink RX1 77 "ColouredHeapModel" "healed" "I", Cond.methodLink RX1 80 yX1_move, Cond.instanceMethod yX1_move, Cond.selects RX1 yX1_move yX1_move, Cond.code yX1_move cX1_move 4 (some .int), Cond.fieldLink RX1 67 "ColouredHeapModel" "moved" "I", Cond.methodLink RX1 83 yX1_mark, Cond.instanceMethod yX1_mark, Cond.selects RX1 yX1_mark yX1_mark, Cond.code yX1_mark cX1_mark 2 none, Cond.fieldLink RX1 70 "ColouredHeapModel" "stack" "I", Cond.methodLink RX1 101 yX1_copySlot, Cond.instanceMethod yX1_copySlot, Cond.selects RX1 yX1_copySlot yX1_copySlot, Cond.code yX1_copySlot cX1_copySlot 3 none, Cond.methodLink RL 30 yX0_store, Cond.instanceMethod yX0_store, Cond.selects RX0 yX0_store yX0_store]
def wsL_law_r8 : List Cond := [Cond.code yX0_store cX0_store 5 (some .int), Cond.methodLink RL 33 yX1_store, Cond.instanceMethod yX1_store, Cond.selects RX1 yX1_store yX1_store, Cond.code yX1_store cX1_store 5 (some .int), Cond.methodLink RL 34 yX0_copy, Cond.instanceMethod yX0_copy, Cond.selects RX0 yX0_copy yX0_copy, Cond.code yX0_copy cX0_copy 3 (some .boolean), Cond.methodLink RL 38 yX1_copy, Cond.instanceMethod yX1_copy, Cond.selects RX1 yX1_copy yX1_copy, Cond.code yX1_copy cX1_copy 3 (some .boolean), Cond.methodLink RL 39 yX0_drop, Cond.instanceMethod yX0_drop, Cond.selects RX0 yX0_drop yX0_drop, Cond.code yX0_drop cX0_drop 2 (some .boolean), Cond.methodLink RL 43 yX1_drop, Cond.instanceMethod yX1_drop, Cond.selects RX1 yX1_drop yX1_drop, Cond.code yX1_drop cX1_drop 2 (some .boolean), Cond.methodLink RL 44 yX0_value, Cond.instanceMethod yX0_value, Cond.selects RX0 yX0_value yX0_value]
def wsL_law_r9 : List Cond := [Cond.code yX0_value cX0_value 3 (some .int), Cond.methodLink RL 48 yX1_value, Cond.instanceMethod yX1_value, Cond.selects RX1 yX1_value yX1_value, Cond.code yX1_value cX1_value 2 (some .int), Cond.methodLink RL 49 yX0_set, Cond.instanceMethod yX0_set, Cond.selects RX0 yX0_set yX0_set, Cond.code yX0_set cX0_set 4 (some .boolean), Cond.methodLink RL 52 yX1_set, Cond.instanceMethod yX1_set, Cond.selects RX1 yX1_set yX1_set, Cond.code yX1_set cX1_set 3 (some .boolean), Cond.methodLink RL 53 yX0_fields, Cond.instanceMethod yX0_fields, Cond.selects RX0 yX0_fields yX0_fields, Cond.code yX0_fields cX0_fields 3 (some .int), Cond.methodLink RL 56 yX1_fields, Cond.instanceMethod yX1_fields, Cond.selects RX1 yX1_fields yX1_fields, Cond.code yX1_fields cX1_fields 2 (some .int), Cond.methodLink RL 57 yX0_place, Cond.methodLink RL 60 yX1_place, Cond.instanceMethod yX1_place]
def wsL_law_r10 : List Cond := [Cond.selects RX1 yX1_place yX1_place, Cond.code yX1_place cX1_place 2 (some .int), Cond.methodLink RL 61 yX0_colour, Cond.instanceMethod yX0_colour, Cond.selects RX0 yX0_colour yX0_colour, Cond.code yX0_colour cX0_colour 4 (some .int), Cond.methodLink RL 65 yX1_colour, Cond.instanceMethod yX1_colour, Cond.selects RX1 yX1_colour yX1_colour, Cond.code yX1_colour cX1_colour 4 (some .int), Cond.methodLink RL 66 yX0_behind, Cond.instanceMethod yX0_behind, Cond.selects RX0 yX0_behind yX0_behind, Cond.code yX0_behind cX0_behind 4 (some .int), Cond.methodLink RL 69 yX1_behind, Cond.instanceMethod yX1_behind, Cond.selects RX1 yX1_behind yX1_behind, Cond.code yX1_behind cX1_behind 4 (some .int), Cond.methodLink RL 70 yX0_collect, Cond.instanceMethod yX0_collect, Cond.selects RX0 yX0_collect yX0_collect, Cond.code yX0_collect cX0_collect 3 (some .int), Cond.methodLink RX0 101 yX0_step, Cond.instanceMethod yX0_step]
def wsL_law_r11 : List Cond := [Cond.selects RX0 yX0_step yX0_step, Cond.code yX0_step cX0_step 2 none, Cond.methodLink RX0 125 yX0_beginMarking, Cond.instanceMethod yX0_beginMarking, Cond.selects RX0 yX0_beginMarking yX0_beginMarking, Cond.code yX0_beginMarking cX0_beginMarking 2 none, Cond.methodLink RX0 128 yX0_healSlots, Cond.instanceMethod yX0_healSlots, Cond.selects RX0 yX0_healSlots yX0_healSlots, Cond.code yX0_healSlots cX0_healSlots 4 none, Cond.methodLink RX0 131 yX0_relocateNext, Cond.instanceMethod yX0_relocateNext, Cond.selects RX0 yX0_relocateNext yX0_relocateNext, Cond.code yX0_relocateNext cX0_relocateNext 3 none, Cond.methodLink RX0 146 yX0_leastPageOfSet, Cond.instanceMethod yX0_leastPageOfSet, Cond.selects RX0 yX0_leastPageOfSet yX0_leastPageOfSet, Cond.code yX0_leastPageOfSet cX0_leastPageOfSet 2 (some .int), Cond.methodLink RX0 149 yX0_leastMarkedPlace, Cond.instanceMethod yX0_leastMarkedPlace, Cond.selects RX0 yX0_leastMarkedPlace yX0_leastMarkedPlace, Cond.code yX0_leastMarkedPlace cX0_leastMarkedPlace 3 (some .int), Cond.methodLink RX0 143 yX0_becomeFree, Cond.instanceMethod yX0_becomeFree]
def wsL_law_r12 : List Cond := [Cond.selects RX0 yX0_becomeFree yX0_becomeFree, Cond.code yX0_becomeFree cX0_becomeFree 2 none, Cond.methodLink RX0 134 yX0_beginRelocating, Cond.instanceMethod yX0_beginRelocating, Cond.selects RX0 yX0_beginRelocating yX0_beginRelocating, Cond.code yX0_beginRelocating cX0_beginRelocating 2 none, Cond.methodLink RX0 137 yX0_judge, Cond.instanceMethod yX0_judge, Cond.selects RX0 yX0_judge yX0_judge, Cond.code yX0_judge cX0_judge 3 none, Cond.methodLink RX0 140 yX0_liveWords, Cond.instanceMethod yX0_liveWords, Cond.selects RX0 yX0_liveWords yX0_liveWords, Cond.code yX0_liveWords cX0_liveWords 5 (some .int), Cond.methodLink RL 73 yX1_collect, Cond.instanceMethod yX1_collect, Cond.selects RX1 yX1_collect yX1_collect, Cond.code yX1_collect cX1_collect 3 (some .int), Cond.methodLink RX1 130 yX1_step, Cond.instanceMethod yX1_step, Cond.selects RX1 yX1_step yX1_step, Cond.code yX1_step cX1_step 1 none, Cond.methodLink RX1 115 yX1_begin, Cond.instanceMethod yX1_begin]
def wsL_law_r13 : List Cond := [Cond.selects RX1 yX1_begin yX1_begin, Cond.code yX1_begin cX1_begin 2 none, Cond.methodLink RX1 105 yX1_healRoots, Cond.instanceMethod yX1_healRoots, Cond.selects RX1 yX1_healRoots yX1_healRoots, Cond.code yX1_healRoots cX1_healRoots 2 none, Cond.methodLink RX1 118 yX1_markOne, Cond.instanceMethod yX1_markOne, Cond.selects RX1 yX1_markOne yX1_markOne, Cond.code yX1_markOne cX1_markOne 3 none, Cond.methodLink RX1 121 yX1_choose, Cond.instanceMethod yX1_choose, Cond.selects RX1 yX1_choose yX1_choose, Cond.code yX1_choose cX1_choose 3 none, Cond.methodLink RX1 108 yX1_markedIn, Cond.instanceMethod yX1_markedIn, Cond.selects RX1 yX1_markedIn yX1_markedIn, Cond.code yX1_markedIn cX1_markedIn 5 (some .int), Cond.methodLink RX1 112 yX1_release, Cond.instanceMethod yX1_release, Cond.selects RX1 yX1_release yX1_release, Cond.code yX1_release cX1_release 3 none, Cond.methodLink RX1 124 yX1_leastInSet, Cond.instanceMethod yX1_leastInSet]
def wsL_law_r14 : List Cond := [Cond.selects RX1 yX1_leastInSet yX1_leastInSet, Cond.code yX1_leastInSet cX1_leastInSet 2 (some .int), Cond.methodLink RX1 127 yX1_relocate, Cond.instanceMethod yX1_relocate, Cond.selects RX1 yX1_relocate yX1_relocate, Cond.code yX1_relocate cX1_relocate 3 none, Cond.methodLink RL 74 yX0_phase, Cond.instanceMethod yX0_phase, Cond.selects RX0 yX0_phase yX0_phase, Cond.code yX0_phase cX0_phase 1 (some .int), Cond.methodLink RL 78 yX1_phase, Cond.instanceMethod yX1_phase, Cond.selects RX1 yX1_phase yX1_phase, Cond.code yX1_phase cX1_phase 1 (some .int), Cond.methodLink RL 79 yX0_stack, Cond.instanceMethod yX0_stack, Cond.selects RX0 yX0_stack yX0_stack, Cond.code yX0_stack cX0_stack 1 (some .int), Cond.methodLink RL 82 yX1_stack, Cond.instanceMethod yX1_stack, Cond.selects RX1 yX1_stack yX1_stack, Cond.code yX1_stack cX1_stack 1 (some .int), Cond.methodLink RL 83 yX0_page, Cond.instanceMethod yX0_page]
def wsL_law_r15 : List Cond := [Cond.selects RX0 yX0_page yX0_page, Cond.code yX0_page cX0_page 3 (some .int), Cond.methodLink RX0 104 yX0_pageState, Cond.instanceMethod yX0_pageState, Cond.selects RX0 yX0_pageState yX0_pageState, Cond.code yX0_pageState cX0_pageState 2 (some .int), Cond.methodLink RX0 107 yX0_markedObjects, Cond.instanceMethod yX0_markedObjects, Cond.selects RX0 yX0_markedObjects yX0_markedObjects, Cond.code yX0_markedObjects cX0_markedObjects 4 (some .int), Cond.methodLink RX0 110 yX0_forwardings, Cond.instanceMethod yX0_forwardings, Cond.selects RX0 yX0_forwardings yX0_forwardings, Cond.code yX0_forwardings cX0_forwardings 4 (some .int), Cond.methodLink RL 86 yX1_page, Cond.instanceMethod yX1_page, Cond.selects RX1 yX1_page yX1_page, Cond.code yX1_page cX1_page 5 (some .int), Cond.methodLink RL 87 yX0_healed, Cond.instanceMethod yX0_healed, Cond.selects RX0 yX0_healed yX0_healed, Cond.code yX0_healed cX0_healed 1 (some .int), Cond.methodLink RL 90 yX1_healed, Cond.instanceMethod yX1_healed]
def wsL_law_r16 : List Cond := [Cond.selects RX1 yX1_healed yX1_healed, Cond.code yX1_healed cX1_healed 1 (some .int), Cond.methodLink RL 91 yX0_moved, Cond.instanceMethod yX0_moved, Cond.selects RX0 yX0_moved yX0_moved, Cond.code yX0_moved cX0_moved 1 (some .int), Cond.methodLink RL 94 yX1_moved, Cond.instanceMethod yX1_moved, Cond.selects RX1 yX1_moved yX1_moved, Cond.code yX1_moved cX1_moved 1 (some .int), Cond.methodLink RL 95 yX0_cycles, Cond.instanceMethod yX0_cycles, Cond.selects RX0 yX0_cycles yX0_cycles, Cond.code yX0_cycles cX0_cycles 1 (some .int), Cond.methodLink RL 98 yX1_cycles, Cond.instanceMethod yX1_cycles, Cond.selects RX1 yX1_cycles yX1_cycles, Cond.code yX1_cycles cX1_cycles 1 (some .int)]
def wsL_law : List Cond := (wsL_law_r1 ++ (wsL_law_r2 ++ (wsL_law_r3 ++ (wsL_law_r4 ++ (wsL_law_r5 ++ (wsL_law_r6 ++ (wsL_law_r7 ++ (wsL_law_r8 ++ (wsL_law_r9 ++ (wsL_law_r10 ++ (wsL_law_r11 ++ (wsL_law_r12 ++ (wsL_law_r13 ++ (wsL_law_r14 ++ (wsL_law_r15 ++ wsL_law_r16))))))))))))))) ++ wsX00 ++ wsX10 ++ ([] : List Cond)
set_option maxRecDepth 20000 in
theorem wsL_law_in : ∀ w ∈ wsL_law, w ∈ lw_tbl := fun w h => (goodIn_p wsL_law [280, 47, 50, 53, 56, 285, 114, 117, 121, 125, 129, 348, 351, 355, 358, 362, 133, 137, 141, 145, 149, 153, 156, 160, 164, 366, 370, 374, 378, 382, 386, 390, 168, 394, 172, 398, 176, 402, 180, 406, 184, 410, 188, 414, 418, 193, 422, 197, 426, 201, 205, 209, 213, 217, 221, 225, 229, 233, 237, 241, 430, 434, 438, 442, 446, 450, 454, 458, 462, 466, 245, 470, 249, 474, 253, 257, 261, 265, 478, 269, 482, 273, 486, 277, 490] (by decide +kernel) (by decide +kernel) w h).1
theorem inlX0 : ∀ w ∈ wsX00, w ∈ wsL_law := fun _ h => List.mem_append_left _ (List.mem_append_left _ (List.mem_append_right _ h))
theorem inX0 : ∀ w ∈ wsX00, w ∈ lw_tbl := fun w h => wsL_law_in w (inlX0 w h)
theorem inlX1 : ∀ w ∈ wsX10, w ∈ wsL_law := fun _ h => List.mem_append_left _ (List.mem_append_right _ h)
theorem inX1 : ∀ w ∈ wsX10, w ∈ lw_tbl := fun w h => wsL_law_in w (inlX1 w h)
theorem inJ9 : ∀ w ∈ wsJ90, w ∈ lw_tbl := by decide +kernel
set_option maxRecDepth 20000 in
theorem ggX0_make_X0_isRoot : GoodIn wsX0_make wsX0_isRoot := goodIn_r _ [8] (by decide +kernel) (by decide +kernel)
set_option maxRecDepth 20000 in
theorem gX0_make_X0_isRoot : GoodIn wsX0_make (va_wsS RX0 72 yX0_isRoot wsX0_isRoot) := goodIn_app (goodIn_of _ (by decide +kernel)) ggX0_make_X0_isRoot
set_option maxRecDepth 20000 in
theorem ggX0_make_X0_takeRoom : GoodIn wsX0_make wsX0_takeRoom := goodIn_r _ [12, 13, 14, 15, 16, 17, 7, 18, 25, 26, 27, 28, 29, 30, 31, 32, 33, 34, 35, 36, 37, 38, 39, 40, 41] (by decide +kernel) (by decide +kernel)
set_option maxRecDepth 20000 in
theorem gX0_make_X0_takeRoom : GoodIn wsX0_make (wsV RX0 76 RX0 yX0_takeRoom wsX0_takeRoom) := goodIn_app (goodIn_of _ (by decide +kernel)) ggX0_make_X0_takeRoom
set_option maxRecDepth 20000 in
theorem ggX0_make_X0_goodColour : GoodIn wsX0_make wsX0_goodColour := goodIn_r _ [22, 23, 24, 25, 26, 27, 28, 29, 30, 31, 32, 33, 34, 35, 36, 37, 38, 39, 40, 41] (by decide +kernel) (by decide +kernel)
set_option maxRecDepth 20000 in
theorem gX0_make_X0_goodColour : GoodIn wsX0_make (wsV RX0 80 RX0 yX0_goodColour wsX0_goodColour) := goodIn_app (goodIn_of _ (by decide +kernel)) ggX0_make_X0_goodColour
set_option maxRecDepth 20000 in
theorem ggX0_load_X0_isRoot : GoodIn wsX0_load wsX0_isRoot := goodIn_r _ [4] (by decide +kernel) (by decide +kernel)
set_option maxRecDepth 20000 in
theorem gX0_load_X0_isRoot : GoodIn wsX0_load (va_wsS RX0 72 yX0_isRoot wsX0_isRoot) := goodIn_app (goodIn_of _ (by decide +kernel)) ggX0_load_X0_isRoot
set_option maxRecDepth 20000 in
theorem ggX0_load_X0_fieldSlot : GoodIn wsX0_load wsX0_fieldSlot := goodIn_r _ [8, 9, 10, 11, 12, 3, 13, 14, 1, 2, 4, 15, 16, 17, 18, 19, 63, 64, 65, 66, 67, 68, 69, 70, 71, 72, 73, 74, 75, 76, 77, 78, 79] (by decide +kernel) (by decide +kernel)
set_option maxRecDepth 20000 in
theorem gX0_load_X0_fieldSlot : GoodIn wsX0_load (wsV RX0 84 RX0 yX0_fieldSlot wsX0_fieldSlot) := goodIn_app (goodIn_of _ (by decide +kernel)) ggX0_load_X0_fieldSlot
set_option maxRecDepth 20000 in
theorem ggX0_load_X0_heal : GoodIn wsX0_load wsX0_heal := goodIn_r _ [23, 19, 14, 24, 25, 26, 27, 28, 29, 30, 3, 31, 32, 33, 34, 35, 36, 37, 38, 39, 40, 41, 42, 43, 44, 45, 46, 9, 47, 48, 49, 50, 51, 52, 53, 54, 55, 56, 57, 58, 59, 60, 61, 62, 63, 64, 65, 66, 67, 68, 69, 70, 71, 72, 73, 74, 75, 76, 77, 78, 79] (by decide +kernel) (by decide +kernel)
set_option maxRecDepth 20000 in
theorem gX0_load_X0_heal : GoodIn wsX0_load (wsV RX0 87 RX0 yX0_heal wsX0_heal) := goodIn_app (goodIn_of _ (by decide +kernel)) ggX0_load_X0_heal
set_option maxRecDepth 20000 in
theorem ggX0_load_X0_copySlot : GoodIn wsX0_load wsX0_copySlot := goodIn_r _ [62, 14, 19, 63, 64, 65, 66, 67, 68, 69, 70, 71, 72, 73, 74, 75, 76, 77, 78, 79] (by decide +kernel) (by decide +kernel)
set_option maxRecDepth 20000 in
theorem gX0_load_X0_copySlot : GoodIn wsX0_load (wsV RX0 91 RX0 yX0_copySlot wsX0_copySlot) := goodIn_app (goodIn_of _ (by decide +kernel)) ggX0_load_X0_copySlot
set_option maxRecDepth 20000 in
theorem ggX0_load_X0_holdsNothing : GoodIn wsX0_load wsX0_holdsNothing := goodIn_r _ [18, 19, 63, 64, 65, 66, 67, 68, 69, 70, 71, 72, 73, 74, 75, 76, 77, 78, 79] (by decide +kernel) (by decide +kernel)
set_option maxRecDepth 20000 in
theorem gX0_load_X0_holdsNothing : GoodIn wsX0_load (wsV RX0 95 RX0 yX0_holdsNothing wsX0_holdsNothing) := goodIn_app (goodIn_of _ (by decide +kernel)) ggX0_load_X0_holdsNothing
set_option maxRecDepth 20000 in
theorem ggX0_store_X0_isRoot : GoodIn wsX0_store wsX0_isRoot := goodIn_r _ [4] (by decide +kernel) (by decide +kernel)
set_option maxRecDepth 20000 in
theorem gX0_store_X0_isRoot : GoodIn wsX0_store (va_wsS RX0 72 yX0_isRoot wsX0_isRoot) := goodIn_app (goodIn_of _ (by decide +kernel)) ggX0_store_X0_isRoot
set_option maxRecDepth 20000 in
theorem ggX0_store_X0_fieldSlot : GoodIn wsX0_store wsX0_fieldSlot := goodIn_r _ [8, 9, 10, 11, 12, 3, 13, 14, 1, 2, 4, 15, 16, 17, 18, 19, 24, 25, 26, 27, 28, 29, 30, 31, 32, 33, 34, 35, 36, 37, 38, 39, 40] (by decide +kernel) (by decide +kernel)
set_option maxRecDepth 20000 in
theorem gX0_store_X0_fieldSlot : GoodIn wsX0_store (wsV RX0 84 RX0 yX0_fieldSlot wsX0_fieldSlot) := goodIn_app (goodIn_of _ (by decide +kernel)) ggX0_store_X0_fieldSlot
set_option maxRecDepth 20000 in
theorem ggX0_store_X0_copySlot : GoodIn wsX0_store wsX0_copySlot := goodIn_r _ [23, 14, 19, 24, 25, 26, 27, 28, 29, 30, 31, 32, 33, 34, 35, 36, 37, 38, 39, 40] (by decide +kernel) (by decide +kernel)
set_option maxRecDepth 20000 in
theorem gX0_store_X0_copySlot : GoodIn wsX0_store (wsV RX0 91 RX0 yX0_copySlot wsX0_copySlot) := goodIn_app (goodIn_of _ (by decide +kernel)) ggX0_store_X0_copySlot
set_option maxRecDepth 20000 in
theorem ggX0_copy_X0_isRoot : GoodIn wsX0_copy wsX0_isRoot := goodIn_r _ [4] (by decide +kernel) (by decide +kernel)
set_option maxRecDepth 20000 in
theorem gX0_copy_X0_isRoot : GoodIn wsX0_copy (va_wsS RX0 72 yX0_isRoot wsX0_isRoot) := goodIn_app (goodIn_of _ (by decide +kernel)) ggX0_copy_X0_isRoot
set_option maxRecDepth 20000 in
theorem ggX0_copy_X0_copySlot : GoodIn wsX0_copy wsX0_copySlot := goodIn_r _ [8, 9, 10, 11, 12, 13, 14, 15, 16, 17, 18, 19, 20, 21, 22, 23, 24, 25, 26, 27] (by decide +kernel) (by decide +kernel)
set_option maxRecDepth 20000 in
theorem gX0_copy_X0_copySlot : GoodIn wsX0_copy (wsV RX0 91 RX0 yX0_copySlot wsX0_copySlot) := goodIn_app (goodIn_of _ (by decide +kernel)) ggX0_copy_X0_copySlot
set_option maxRecDepth 20000 in
theorem ggX0_drop_X0_isRoot : GoodIn wsX0_drop wsX0_isRoot := goodIn_r _ [5] (by decide +kernel) (by decide +kernel)
set_option maxRecDepth 20000 in
theorem gX0_drop_X0_isRoot : GoodIn wsX0_drop (va_wsS RX0 72 yX0_isRoot wsX0_isRoot) := goodIn_app (goodIn_of _ (by decide +kernel)) ggX0_drop_X0_isRoot
set_option maxRecDepth 20000 in
theorem ggX0_drop_X0_holdsNothing : GoodIn wsX0_drop wsX0_holdsNothing := goodIn_r _ [9, 1, 10, 11, 12, 13, 14, 15, 16, 17, 18, 19, 20, 21, 22, 23, 24, 25, 26] (by decide +kernel) (by decide +kernel)
set_option maxRecDepth 20000 in
theorem gX0_drop_X0_holdsNothing : GoodIn wsX0_drop (wsV RX0 95 RX0 yX0_holdsNothing wsX0_holdsNothing) := goodIn_app (goodIn_of _ (by decide +kernel)) ggX0_drop_X0_holdsNothing
set_option maxRecDepth 20000 in
theorem ggX0_value_X0_place : GoodIn wsX0_value wsX0_place := goodIn_r _ [6, 7, 8, 9, 5, 10, 11, 12, 13, 14, 15, 16, 17, 18, 19, 20, 21, 22, 23, 24, 25, 26, 27, 28, 29, 30, 31, 32] (by decide +kernel) (by decide +kernel)
set_option maxRecDepth 20000 in
theorem gX0_value_X0_place : GoodIn wsX0_value (wsV RX0 98 RX0 yX0_place wsX0_place) := goodIn_app (goodIn_of _ (by decide +kernel)) ggX0_value_X0_place
set_option maxRecDepth 20000 in
theorem ggX0_set_X0_place : GoodIn wsX0_set wsX0_place := goodIn_r _ [6, 7, 8, 9, 5, 10, 11, 12, 13, 14, 15, 16, 17, 18, 19, 20, 21, 22, 23, 24, 25, 26, 27, 28, 29, 30, 31, 32] (by decide +kernel) (by decide +kernel)
set_option maxRecDepth 20000 in
theorem gX0_set_X0_place : GoodIn wsX0_set (wsV RX0 98 RX0 yX0_place wsX0_place) := goodIn_app (goodIn_of _ (by decide +kernel)) ggX0_set_X0_place
set_option maxRecDepth 20000 in
theorem ggX0_fields_X0_place : GoodIn wsX0_fields wsX0_place := goodIn_r _ [6, 7, 8, 9, 5, 10, 11, 12, 13, 14, 15, 16, 17, 18, 19, 20, 21, 22, 23, 24, 25, 26, 27, 28, 29, 30, 31, 32] (by decide +kernel) (by decide +kernel)
set_option maxRecDepth 20000 in
theorem gX0_fields_X0_place : GoodIn wsX0_fields (wsV RX0 98 RX0 yX0_place wsX0_place) := goodIn_app (goodIn_of _ (by decide +kernel)) ggX0_fields_X0_place
set_option maxRecDepth 20000 in
theorem ggX0_place_X0_isRoot : GoodIn wsX0_place wsX0_isRoot := goodIn_r _ [5] (by decide +kernel) (by decide +kernel)
set_option maxRecDepth 20000 in
theorem gX0_place_X0_isRoot : GoodIn wsX0_place (va_wsS RX0 72 yX0_isRoot wsX0_isRoot) := goodIn_app (goodIn_of _ (by decide +kernel)) ggX0_place_X0_isRoot
set_option maxRecDepth 20000 in
theorem ggX0_place_X0_holdsNothing : GoodIn wsX0_place wsX0_holdsNothing := goodIn_r _ [9, 10, 11, 12, 13, 14, 15, 16, 17, 18, 19, 20, 21, 22, 23, 24, 25, 26, 27] (by decide +kernel) (by decide +kernel)
set_option maxRecDepth 20000 in
theorem gX0_place_X0_holdsNothing : GoodIn wsX0_place (wsV RX0 95 RX0 yX0_holdsNothing wsX0_holdsNothing) := goodIn_app (goodIn_of _ (by decide +kernel)) ggX0_place_X0_holdsNothing
set_option maxRecDepth 20000 in
theorem ggX0_colour_X0_fieldSlot : GoodIn wsX0_colour wsX0_fieldSlot := goodIn_r _ [6, 7, 8, 9, 10, 5, 11, 12, 13, 14, 15, 16, 17, 18, 19, 1, 20, 21, 22, 23, 24, 25, 26, 27, 28, 29, 30, 31, 32, 33, 34, 35, 36] (by decide +kernel) (by decide +kernel)
set_option maxRecDepth 20000 in
theorem gX0_colour_X0_fieldSlot : GoodIn wsX0_colour (wsV RX0 84 RX0 yX0_fieldSlot wsX0_fieldSlot) := goodIn_app (goodIn_of _ (by decide +kernel)) ggX0_colour_X0_fieldSlot
set_option maxRecDepth 20000 in
theorem ggX0_behind_X0_fieldSlot : GoodIn wsX0_behind wsX0_fieldSlot := goodIn_r _ [6, 7, 8, 9, 10, 5, 11, 1, 12, 13, 14, 15, 16, 17, 18, 19, 20, 21, 22, 23, 24, 25, 26, 27, 28, 29, 30, 31, 32, 33, 34, 35, 36] (by decide +kernel) (by decide +kernel)
set_option maxRecDepth 20000 in
theorem gX0_behind_X0_fieldSlot : GoodIn wsX0_behind (wsV RX0 84 RX0 yX0_fieldSlot wsX0_fieldSlot) := goodIn_app (goodIn_of _ (by decide +kernel)) ggX0_behind_X0_fieldSlot
set_option maxRecDepth 20000 in
theorem ggX0_behind_X0_holdsNothing : GoodIn wsX0_behind wsX0_holdsNothing := goodIn_r _ [18, 19, 20, 21, 22, 23, 24, 25, 26, 27, 28, 29, 30, 31, 32, 33, 34, 35, 36] (by decide +kernel) (by decide +kernel)
set_option maxRecDepth 20000 in
theorem gX0_behind_X0_holdsNothing : GoodIn wsX0_behind (wsV RX0 95 RX0 yX0_holdsNothing wsX0_holdsNothing) := goodIn_app (goodIn_of _ (by decide +kernel)) ggX0_behind_X0_holdsNothing
set_option maxRecDepth 20000 in
theorem ggX0_collect_X0_step : GoodIn wsX0_collect wsX0_step := goodIn_r _ [6, 1, 7, 8, 9, 10, 11, 12, 5, 13, 14, 15, 16, 17, 18, 19, 20, 21, 22, 23, 24, 25, 26, 27, 28, 29, 30, 31, 32, 33, 34, 35, 36, 37, 38, 39, 40, 41, 42, 43, 44, 45, 46, 47, 48, 49, 50, 51, 52, 53, 54, 55, 56, 57, 58, 59, 60, 61, 62, 63, 64, 65, 66, 67, 68, 69, 70, 71, 72, 73, 74, 75, 76, 77, 78, 79, 80, 81, 82, 83, 84, 85, 86, 87, 88, 89, 90, 91, 92, 93, 94, 95, 96, 97, 98, 99, 100, 101, 102, 103, 104, 105, 106] (by decide +kernel) (by decide +kernel)
set_option maxRecDepth 20000 in
theorem gX0_collect_X0_step : GoodIn wsX0_collect (wsV RX0 101 RX0 yX0_step wsX0_step) := goodIn_app (goodIn_of _ (by decide +kernel)) ggX0_collect_X0_step
set_option maxRecDepth 20000 in
theorem ggX0_page_X0_pageState : GoodIn wsX0_page wsX0_pageState := goodIn_r _ [7, 1, 8, 9, 20, 21, 22, 23, 24, 25, 26, 27, 28, 29, 30, 31, 32, 33, 34, 35, 36] (by decide +kernel) (by decide +kernel)
set_option maxRecDepth 20000 in
theorem gX0_page_X0_pageState : GoodIn wsX0_page (wsV RX0 104 RX0 yX0_pageState wsX0_pageState) := goodIn_app (goodIn_of _ (by decide +kernel)) ggX0_page_X0_pageState
set_option maxRecDepth 20000 in
theorem ggX0_page_X0_markedObjects : GoodIn wsX0_page wsX0_markedObjects := goodIn_r _ [13, 14, 20, 21, 22, 23, 24, 25, 26, 27, 28, 29, 30, 31, 32, 33, 34, 35, 36] (by decide +kernel) (by decide +kernel)
set_option maxRecDepth 20000 in
theorem gX0_page_X0_markedObjects : GoodIn wsX0_page (wsV RX0 107 RX0 yX0_markedObjects wsX0_markedObjects) := goodIn_app (goodIn_of _ (by decide +kernel)) ggX0_page_X0_markedObjects
set_option maxRecDepth 20000 in
theorem ggX0_page_X0_forwardings : GoodIn wsX0_page wsX0_forwardings := goodIn_r _ [18, 19, 20, 21, 22, 23, 24, 25, 26, 27, 28, 29, 30, 31, 32, 33, 34, 35, 36] (by decide +kernel) (by decide +kernel)
set_option maxRecDepth 20000 in
theorem gX0_page_X0_forwardings : GoodIn wsX0_page (wsV RX0 110 RX0 yX0_forwardings wsX0_forwardings) := goodIn_app (goodIn_of _ (by decide +kernel)) ggX0_page_X0_forwardings
set_option maxRecDepth 20000 in
theorem ggX0_fieldSlot_X0_place : GoodIn wsX0_fieldSlot wsX0_place := goodIn_r _ [6, 7, 8, 9, 5, 10, 11, 12, 13, 14, 15, 16, 17, 18, 19, 20, 21, 22, 23, 24, 25, 26, 27, 28, 29, 30, 31, 32] (by decide +kernel) (by decide +kernel)
set_option maxRecDepth 20000 in
theorem gX0_fieldSlot_X0_place : GoodIn wsX0_fieldSlot (wsV RX0 98 RX0 yX0_place wsX0_place) := goodIn_app (goodIn_of _ (by decide +kernel)) ggX0_fieldSlot_X0_place
set_option maxRecDepth 20000 in
theorem ggX0_takeRoom_X0_leastFreePage : GoodIn wsX0_takeRoom wsX0_leastFreePage := goodIn_r _ [7, 2, 8, 9, 10, 11, 12, 13, 14, 15, 16, 17, 18, 19, 20, 21, 22, 23, 24] (by decide +kernel) (by decide +kernel)
set_option maxRecDepth 20000 in
theorem gX0_takeRoom_X0_leastFreePage : GoodIn wsX0_takeRoom (wsV RX0 113 RX0 yX0_leastFreePage wsX0_leastFreePage) := goodIn_app (goodIn_of _ (by decide +kernel)) ggX0_takeRoom_X0_leastFreePage
set_option maxRecDepth 20000 in
theorem ggX0_heal_X0_goodColour : GoodIn wsX0_heal wsX0_goodColour := goodIn_r _ [11, 4, 12, 44, 45, 46, 47, 48, 49, 50, 51, 52, 53, 54, 55, 56, 57, 58, 59, 60] (by decide +kernel) (by decide +kernel)
set_option maxRecDepth 20000 in
theorem gX0_heal_X0_goodColour : GoodIn wsX0_heal (wsV RX0 80 RX0 yX0_goodColour wsX0_goodColour) := goodIn_app (goodIn_of _ (by decide +kernel)) ggX0_heal_X0_goodColour
set_option maxRecDepth 20000 in
theorem ggX0_heal_X0_mark : GoodIn wsX0_heal wsX0_mark := goodIn_r _ [16, 17, 18, 19, 44, 45, 46, 47, 48, 49, 50, 51, 52, 53, 54, 55, 56, 57, 58, 59, 60] (by decide +kernel) (by decide +kernel)
set_option maxRecDepth 20000 in
theorem gX0_heal_X0_mark : GoodIn wsX0_heal (wsV RX0 116 RX0 yX0_mark wsX0_mark) := goodIn_app (goodIn_of _ (by decide +kernel)) ggX0_heal_X0_mark
set_option maxRecDepth 20000 in
theorem ggX0_heal_X0_pageOf : GoodIn wsX0_heal wsX0_pageOf := goodIn_r _ [22] (by decide +kernel) (by decide +kernel)
set_option maxRecDepth 20000 in
theorem gX0_heal_X0_pageOf : GoodIn wsX0_heal (va_wsS RX0 119 yX0_pageOf wsX0_pageOf) := goodIn_app (goodIn_of _ (by decide +kernel)) ggX0_heal_X0_pageOf
set_option maxRecDepth 20000 in
theorem ggX0_heal_X0_moveAway : GoodIn wsX0_heal wsX0_moveAway := goodIn_r _ [26, 27, 5, 28, 3, 17, 29, 30, 31, 32, 10, 33, 34, 35, 36, 37, 38, 39, 20, 21, 22, 40, 41, 42, 43, 2, 1, 44, 45, 46, 47, 48, 49, 50, 51, 52, 53, 54, 55, 56, 57, 58, 59, 60] (by decide +kernel) (by decide +kernel)
set_option maxRecDepth 20000 in
theorem gX0_heal_X0_moveAway : GoodIn wsX0_heal (wsV RX0 122 RX0 yX0_moveAway wsX0_moveAway) := goodIn_app (goodIn_of _ (by decide +kernel)) ggX0_heal_X0_moveAway
set_option maxRecDepth 20000 in
theorem ggX0_healSlots_X0_heal : GoodIn wsX0_healSlots wsX0_heal := goodIn_r _ [5, 6, 7, 8, 9, 10, 11, 12, 13, 14, 4, 15, 16, 17, 18, 19, 20, 21, 22, 23, 24, 25, 26, 27, 28, 29, 30, 31, 32, 33, 34, 35, 36, 37, 38, 39, 40, 41, 42, 43, 44, 45, 46, 47, 48, 49, 50, 51, 52, 53, 54, 55, 56, 57, 58, 59, 60, 61, 62, 63, 64] (by decide +kernel) (by decide +kernel)
set_option maxRecDepth 20000 in
theorem gX0_healSlots_X0_heal : GoodIn wsX0_healSlots (wsV RX0 87 RX0 yX0_heal wsX0_heal) := goodIn_app (goodIn_of _ (by decide +kernel)) ggX0_healSlots_X0_heal
set_option maxRecDepth 20000 in
theorem ggX0_moveAway_X0_takeRoom : GoodIn wsX0_moveAway wsX0_takeRoom := goodIn_r _ [11, 12, 13, 14, 15, 16, 10, 17, 27, 28, 29, 30, 31, 32, 33, 34, 35, 36, 37, 38, 39, 40, 41, 42, 43] (by decide +kernel) (by decide +kernel)
set_option maxRecDepth 20000 in
theorem gX0_moveAway_X0_takeRoom : GoodIn wsX0_moveAway (wsV RX0 76 RX0 yX0_takeRoom wsX0_takeRoom) := goodIn_app (goodIn_of _ (by decide +kernel)) ggX0_moveAway_X0_takeRoom
set_option maxRecDepth 20000 in
theorem ggX0_moveAway_X0_pageOf : GoodIn wsX0_moveAway wsX0_pageOf := goodIn_r _ [20] (by decide +kernel) (by decide +kernel)
set_option maxRecDepth 20000 in
theorem gX0_moveAway_X0_pageOf : GoodIn wsX0_moveAway (va_wsS RX0 119 yX0_pageOf wsX0_pageOf) := goodIn_app (goodIn_of _ (by decide +kernel)) ggX0_moveAway_X0_pageOf
set_option maxRecDepth 20000 in
theorem ggX0_moveAway_X0_copySlot : GoodIn wsX0_moveAway wsX0_copySlot := goodIn_r _ [24, 25, 26, 27, 28, 29, 30, 31, 32, 33, 34, 35, 36, 37, 38, 39, 40, 41, 42, 43] (by decide +kernel) (by decide +kernel)
set_option maxRecDepth 20000 in
theorem gX0_moveAway_X0_copySlot : GoodIn wsX0_moveAway (wsV RX0 91 RX0 yX0_copySlot wsX0_copySlot) := goodIn_app (goodIn_of _ (by decide +kernel)) ggX0_moveAway_X0_copySlot
set_option maxRecDepth 20000 in
theorem ggX0_step_X0_beginMarking : GoodIn wsX0_step wsX0_beginMarking := goodIn_r _ [9, 1, 10, 11, 12, 13, 14, 86, 87, 88, 89, 90, 91, 92, 93, 94, 95, 96, 97, 98, 99, 100, 101, 102] (by decide +kernel) (by decide +kernel)
set_option maxRecDepth 20000 in
theorem gX0_step_X0_beginMarking : GoodIn wsX0_step (wsV RX0 125 RX0 yX0_beginMarking wsX0_beginMarking) := goodIn_app (goodIn_of _ (by decide +kernel)) ggX0_step_X0_beginMarking
set_option maxRecDepth 20000 in
theorem ggX0_step_X0_healSlots : GoodIn wsX0_step wsX0_healSlots := goodIn_r _ [18, 19, 20, 21, 8, 22, 23, 24, 25, 1, 26, 27, 28, 29, 30, 31, 10, 32, 33, 34, 35, 12, 3, 2, 36, 37, 38, 39, 40, 41, 42, 4, 43, 44, 45, 46, 47, 48, 11, 14, 49, 50, 51, 52, 53, 54, 55, 56, 86, 87, 88, 89, 90, 91, 92, 93, 94, 95, 96, 97, 98, 99, 100, 101, 102] (by decide +kernel) (by decide +kernel)
set_option maxRecDepth 20000 in
theorem gX0_step_X0_healSlots : GoodIn wsX0_step (wsV RX0 128 RX0 yX0_healSlots wsX0_healSlots) := goodIn_app (goodIn_of _ (by decide +kernel)) ggX0_step_X0_healSlots
set_option maxRecDepth 20000 in
theorem ggX0_step_X0_relocateNext : GoodIn wsX0_step wsX0_relocateNext := goodIn_r _ [60, 1, 26, 61, 62, 63, 8, 64, 65, 66, 67, 68, 12, 39, 40, 41, 42, 4, 43, 25, 44, 45, 46, 47, 48, 11, 14, 49, 50, 51, 52, 36, 37, 38, 53, 54, 55, 56, 24, 23, 69, 70, 71, 72, 13, 86, 87, 88, 89, 90, 91, 92, 93, 94, 95, 96, 97, 98, 99, 100, 101, 102] (by decide +kernel) (by decide +kernel)
set_option maxRecDepth 20000 in
theorem gX0_step_X0_relocateNext : GoodIn wsX0_step (wsV RX0 131 RX0 yX0_relocateNext wsX0_relocateNext) := goodIn_app (goodIn_of _ (by decide +kernel)) ggX0_step_X0_relocateNext
set_option maxRecDepth 20000 in
theorem ggX0_step_X0_beginRelocating : GoodIn wsX0_step wsX0_beginRelocating := goodIn_r _ [76, 25, 13, 1, 77, 78, 79, 8, 80, 81, 26, 82, 83, 84, 85, 12, 4, 69, 70, 71, 72, 14, 86, 87, 88, 89, 90, 91, 92, 93, 94, 95, 96, 97, 98, 99, 100, 101, 102] (by decide +kernel) (by decide +kernel)
set_option maxRecDepth 20000 in
theorem gX0_step_X0_beginRelocating : GoodIn wsX0_step (wsV RX0 134 RX0 yX0_beginRelocating wsX0_beginRelocating) := goodIn_app (goodIn_of _ (by decide +kernel)) ggX0_step_X0_beginRelocating
set_option maxRecDepth 20000 in
theorem ggX0_beginRelocating_X0_judge : GoodIn wsX0_beginRelocating wsX0_judge := goodIn_r _ [8, 9, 10, 11, 12, 13, 7, 14, 15, 16, 17, 18, 19, 20, 21, 2, 22, 23, 24, 25, 26, 27, 28, 29, 30, 31, 32, 33, 34, 35, 36, 37, 38] (by decide +kernel) (by decide +kernel)
set_option maxRecDepth 20000 in
theorem gX0_beginRelocating_X0_judge : GoodIn wsX0_beginRelocating (wsV RX0 137 RX0 yX0_judge wsX0_judge) := goodIn_app (goodIn_of _ (by decide +kernel)) ggX0_beginRelocating_X0_judge
set_option maxRecDepth 20000 in
theorem ggX0_judge_X0_liveWords : GoodIn wsX0_judge wsX0_liveWords := goodIn_r _ [7, 8, 9, 16, 17, 18, 19, 20, 21, 22, 23, 24, 25, 26, 27, 28, 29, 30, 31, 32] (by decide +kernel) (by decide +kernel)
set_option maxRecDepth 20000 in
theorem gX0_judge_X0_liveWords : GoodIn wsX0_judge (wsV RX0 140 RX0 yX0_liveWords wsX0_liveWords) := goodIn_app (goodIn_of _ (by decide +kernel)) ggX0_judge_X0_liveWords
set_option maxRecDepth 20000 in
theorem ggX0_judge_X0_becomeFree : GoodIn wsX0_judge wsX0_becomeFree := goodIn_r _ [13, 14, 15, 2, 16, 17, 18, 19, 20, 21, 22, 23, 24, 25, 26, 27, 28, 29, 30, 31, 32] (by decide +kernel) (by decide +kernel)
set_option maxRecDepth 20000 in
theorem gX0_judge_X0_becomeFree : GoodIn wsX0_judge (wsV RX0 143 RX0 yX0_becomeFree wsX0_becomeFree) := goodIn_app (goodIn_of _ (by decide +kernel)) ggX0_judge_X0_becomeFree
set_option maxRecDepth 20000 in
theorem ggX0_relocateNext_X0_leastPageOfSet : GoodIn wsX0_relocateNext wsX0_leastPageOfSet := goodIn_r _ [7, 2, 45, 46, 47, 48, 49, 50, 51, 52, 53, 54, 55, 56, 57, 58, 59, 60, 61] (by decide +kernel) (by decide +kernel)
set_option maxRecDepth 20000 in
theorem gX0_relocateNext_X0_leastPageOfSet : GoodIn wsX0_relocateNext (wsV RX0 146 RX0 yX0_leastPageOfSet wsX0_leastPageOfSet) := goodIn_app (goodIn_of _ (by decide +kernel)) ggX0_relocateNext_X0_leastPageOfSet
set_option maxRecDepth 20000 in
theorem ggX0_relocateNext_X0_leastMarkedPlace : GoodIn wsX0_relocateNext wsX0_leastMarkedPlace := goodIn_r _ [11, 12, 45, 46, 47, 48, 49, 50, 51, 52, 53, 54, 55, 56, 57, 58, 59, 60, 61] (by decide +kernel) (by decide +kernel)
set_option maxRecDepth 20000 in
theorem gX0_relocateNext_X0_leastMarkedPlace : GoodIn wsX0_relocateNext (wsV RX0 149 RX0 yX0_leastMarkedPlace wsX0_leastMarkedPlace) := goodIn_app (goodIn_of _ (by decide +kernel)) ggX0_relocateNext_X0_leastMarkedPlace
set_option maxRecDepth 20000 in
theorem ggX0_relocateNext_X0_moveAway : GoodIn wsX0_relocateNext wsX0_moveAway := goodIn_r _ [16, 17, 2, 18, 19, 12, 20, 21, 22, 23, 6, 24, 25, 26, 27, 28, 29, 30, 31, 32, 33, 34, 35, 36, 37, 38, 39, 45, 46, 47, 48, 49, 50, 51, 52, 53, 54, 55, 56, 57, 58, 59, 60, 61] (by decide +kernel) (by decide +kernel)
set_option maxRecDepth 20000 in
theorem gX0_relocateNext_X0_moveAway : GoodIn wsX0_relocateNext (wsV RX0 122 RX0 yX0_moveAway wsX0_moveAway) := goodIn_app (goodIn_of _ (by decide +kernel)) ggX0_relocateNext_X0_moveAway
set_option maxRecDepth 20000 in
theorem ggX0_relocateNext_X0_becomeFree : GoodIn wsX0_relocateNext wsX0_becomeFree := goodIn_r _ [43, 26, 44, 2, 45, 46, 47, 48, 49, 50, 51, 52, 53, 54, 55, 56, 57, 58, 59, 60, 61] (by decide +kernel) (by decide +kernel)
set_option maxRecDepth 20000 in
theorem gX0_relocateNext_X0_becomeFree : GoodIn wsX0_relocateNext (wsV RX0 143 RX0 yX0_becomeFree wsX0_becomeFree) := goodIn_app (goodIn_of _ (by decide +kernel)) ggX0_relocateNext_X0_becomeFree
set_option maxRecDepth 20000 in
theorem ggX1_holds_X1_slotOf : GoodIn wsX1_holds wsX1_slotOf := goodIn_r _ [5] (by decide +kernel) (by decide +kernel)
set_option maxRecDepth 20000 in
theorem gX1_holds_X1_slotOf : GoodIn wsX1_holds (va_wsS RX1 54 yX1_slotOf wsX1_slotOf) := goodIn_app (goodIn_of _ (by decide +kernel)) ggX1_holds_X1_slotOf
set_option maxRecDepth 20000 in
theorem ggX1_move_X1_room : GoodIn wsX1_move wsX1_room := goodIn_r _ [13, 14, 15, 16, 17, 18, 19, 20, 21, 22, 23, 24, 25, 26, 27, 28, 29, 30, 31, 32, 33, 34, 35] (by decide +kernel) (by decide +kernel)
set_option maxRecDepth 20000 in
theorem gX1_move_X1_room : GoodIn wsX1_move (wsV RX1 64 RX1 yX1_room wsX1_room) := goodIn_app (goodIn_of _ (by decide +kernel)) ggX1_move_X1_room
set_option maxRecDepth 20000 in
theorem ggX1_heal_X1_good : GoodIn wsX1_heal wsX1_good := goodIn_r _ [11, 5, 12, 35, 36, 37, 38, 39, 40, 41, 42, 43, 44, 45, 46, 47, 48, 49, 50, 51, 52, 53] (by decide +kernel) (by decide +kernel)
set_option maxRecDepth 20000 in
theorem gX1_heal_X1_good : GoodIn wsX1_heal (wsV RX1 73 RX1 yX1_good wsX1_good) := goodIn_app (goodIn_of _ (by decide +kernel)) ggX1_heal_X1_good
set_option maxRecDepth 20000 in
theorem ggX1_heal_X1_move : GoodIn wsX1_heal wsX1_move := goodIn_r _ [16, 17, 18, 19, 2, 1, 20, 4, 21, 22, 23, 24, 10, 25, 26, 27, 28, 35, 36, 37, 38, 39, 40, 41, 42, 43, 44, 45, 46, 47, 48, 49, 50, 51, 52, 53] (by decide +kernel) (by decide +kernel)
set_option maxRecDepth 20000 in
theorem gX1_heal_X1_move : GoodIn wsX1_heal (wsV RX1 80 RX1 yX1_move wsX1_move) := goodIn_app (goodIn_of _ (by decide +kernel)) ggX1_heal_X1_move
set_option maxRecDepth 20000 in
theorem ggX1_heal_X1_mark : GoodIn wsX1_heal wsX1_mark := goodIn_r _ [32, 20, 33, 34, 35, 36, 37, 38, 39, 40, 41, 42, 43, 44, 45, 46, 47, 48, 49, 50, 51, 52, 53] (by decide +kernel) (by decide +kernel)
set_option maxRecDepth 20000 in
theorem gX1_heal_X1_mark : GoodIn wsX1_heal (wsV RX1 83 RX1 yX1_mark wsX1_mark) := goodIn_app (goodIn_of _ (by decide +kernel)) ggX1_heal_X1_mark
set_option maxRecDepth 20000 in
theorem ggX1_healRoots_X1_slotOf : GoodIn wsX1_healRoots wsX1_slotOf := goodIn_r _ [4] (by decide +kernel) (by decide +kernel)
set_option maxRecDepth 20000 in
theorem gX1_healRoots_X1_slotOf : GoodIn wsX1_healRoots (va_wsS RX1 54 yX1_slotOf wsX1_slotOf) := goodIn_app (goodIn_of _ (by decide +kernel)) ggX1_healRoots_X1_slotOf
set_option maxRecDepth 20000 in
theorem ggX1_healRoots_X1_heal : GoodIn wsX1_healRoots wsX1_heal := goodIn_r _ [8, 9, 10, 11, 12, 13, 14, 15, 16, 17, 3, 18, 19, 20, 21, 22, 23, 24, 25, 26, 27, 28, 29, 30, 31, 32, 33, 34, 35, 36, 37, 38, 39, 40, 41, 42, 43, 44, 45, 46, 47, 48, 49, 50, 51, 52, 53, 54, 55, 56, 57, 58, 59, 60] (by decide +kernel) (by decide +kernel)
set_option maxRecDepth 20000 in
theorem gX1_healRoots_X1_heal : GoodIn wsX1_healRoots (wsV RX1 87 RX1 yX1_heal wsX1_heal) := goodIn_app (goodIn_of _ (by decide +kernel)) ggX1_healRoots_X1_heal
set_option maxRecDepth 20000 in
theorem ggX1_make_X1_isRoot : GoodIn wsX1_make wsX1_isRoot := goodIn_r _ [10] (by decide +kernel) (by decide +kernel)
set_option maxRecDepth 20000 in
theorem gX1_make_X1_isRoot : GoodIn wsX1_make (va_wsS RX1 90 yX1_isRoot wsX1_isRoot) := goodIn_app (goodIn_of _ (by decide +kernel)) ggX1_make_X1_isRoot
set_option maxRecDepth 20000 in
theorem ggX1_make_X1_room : GoodIn wsX1_make wsX1_room := goodIn_r _ [14, 15, 16, 17, 27, 28, 29, 30, 31, 32, 33, 34, 35, 36, 37, 38, 39, 40, 41, 42, 43, 44, 45] (by decide +kernel) (by decide +kernel)
set_option maxRecDepth 20000 in
theorem gX1_make_X1_room : GoodIn wsX1_make (wsV RX1 64 RX1 yX1_room wsX1_room) := goodIn_app (goodIn_of _ (by decide +kernel)) ggX1_make_X1_room
set_option maxRecDepth 20000 in
theorem ggX1_make_X1_slotOf : GoodIn wsX1_make wsX1_slotOf := goodIn_r _ [20] (by decide +kernel) (by decide +kernel)
set_option maxRecDepth 20000 in
theorem gX1_make_X1_slotOf : GoodIn wsX1_make (va_wsS RX1 54 yX1_slotOf wsX1_slotOf) := goodIn_app (goodIn_of _ (by decide +kernel)) ggX1_make_X1_slotOf
set_option maxRecDepth 20000 in
theorem ggX1_make_X1_good : GoodIn wsX1_make wsX1_good := goodIn_r _ [24, 25, 26, 27, 28, 29, 30, 31, 32, 33, 34, 35, 36, 37, 38, 39, 40, 41, 42, 43, 44, 45] (by decide +kernel) (by decide +kernel)
set_option maxRecDepth 20000 in
theorem gX1_make_X1_good : GoodIn wsX1_make (wsV RX1 73 RX1 yX1_good wsX1_good) := goodIn_app (goodIn_of _ (by decide +kernel)) ggX1_make_X1_good
set_option maxRecDepth 20000 in
theorem ggX1_field_X1_isRoot : GoodIn wsX1_field wsX1_isRoot := goodIn_r _ [6] (by decide +kernel) (by decide +kernel)
set_option maxRecDepth 20000 in
theorem gX1_field_X1_isRoot : GoodIn wsX1_field (va_wsS RX1 90 yX1_isRoot wsX1_isRoot) := goodIn_app (goodIn_of _ (by decide +kernel)) ggX1_field_X1_isRoot
set_option maxRecDepth 20000 in
theorem ggX1_field_X1_holds : GoodIn wsX1_field wsX1_holds := goodIn_r _ [10, 11, 12, 13, 5, 14, 15, 16, 17, 18, 19, 20, 21, 22, 23, 24, 25, 26, 27, 28, 29, 30, 31, 32, 33] (by decide +kernel) (by decide +kernel)
set_option maxRecDepth 20000 in
theorem gX1_field_X1_holds : GoodIn wsX1_field (wsV RX1 94 RX1 yX1_holds wsX1_holds) := goodIn_app (goodIn_of _ (by decide +kernel)) ggX1_field_X1_holds
set_option maxRecDepth 20000 in
theorem ggX1_field_X1_slotOf : GoodIn wsX1_field wsX1_slotOf := goodIn_r _ [14] (by decide +kernel) (by decide +kernel)
set_option maxRecDepth 20000 in
theorem gX1_field_X1_slotOf : GoodIn wsX1_field (va_wsS RX1 54 yX1_slotOf wsX1_slotOf) := goodIn_app (goodIn_of _ (by decide +kernel)) ggX1_field_X1_slotOf
set_option maxRecDepth 20000 in
theorem ggX1_load_X1_isRoot : GoodIn wsX1_load wsX1_isRoot := goodIn_r _ [5] (by decide +kernel) (by decide +kernel)
set_option maxRecDepth 20000 in
theorem gX1_load_X1_isRoot : GoodIn wsX1_load (va_wsS RX1 90 yX1_isRoot wsX1_isRoot) := goodIn_app (goodIn_of _ (by decide +kernel)) ggX1_load_X1_isRoot
set_option maxRecDepth 20000 in
theorem ggX1_load_X1_field : GoodIn wsX1_load wsX1_field := goodIn_r _ [9, 10, 11, 2, 3, 4, 5, 12, 13, 14, 15, 1, 16, 17, 18, 57, 58, 59, 60, 61, 62, 63, 64, 65, 66, 67, 68, 69, 70, 71, 72, 73, 74, 75] (by decide +kernel) (by decide +kernel)
set_option maxRecDepth 20000 in
theorem gX1_load_X1_field : GoodIn wsX1_load (wsV RX1 97 RX1 yX1_field wsX1_field) := goodIn_app (goodIn_of _ (by decide +kernel)) ggX1_load_X1_field
set_option maxRecDepth 20000 in
theorem ggX1_load_X1_heal : GoodIn wsX1_load wsX1_heal := goodIn_r _ [22, 1, 10, 23, 24, 25, 26, 27, 28, 29, 4, 30, 31, 32, 33, 34, 35, 11, 36, 37, 38, 39, 40, 41, 42, 43, 44, 45, 46, 47, 48, 49, 50, 51, 52, 57, 58, 59, 60, 61, 62, 63, 64, 65, 66, 67, 68, 69, 70, 71, 72, 73, 74, 75] (by decide +kernel) (by decide +kernel)
set_option maxRecDepth 20000 in
theorem gX1_load_X1_heal : GoodIn wsX1_load (wsV RX1 87 RX1 yX1_heal wsX1_heal) := goodIn_app (goodIn_of _ (by decide +kernel)) ggX1_load_X1_heal
set_option maxRecDepth 20000 in
theorem ggX1_load_X1_slotOf : GoodIn wsX1_load wsX1_slotOf := goodIn_r _ [18] (by decide +kernel) (by decide +kernel)
set_option maxRecDepth 20000 in
theorem gX1_load_X1_slotOf : GoodIn wsX1_load (va_wsS RX1 54 yX1_slotOf wsX1_slotOf) := goodIn_app (goodIn_of _ (by decide +kernel)) ggX1_load_X1_slotOf
set_option maxRecDepth 20000 in
theorem ggX1_load_X1_copySlot : GoodIn wsX1_load wsX1_copySlot := goodIn_r _ [56, 10, 1, 57, 58, 59, 60, 61, 62, 63, 64, 65, 66, 67, 68, 69, 70, 71, 72, 73, 74, 75] (by decide +kernel) (by decide +kernel)
set_option maxRecDepth 20000 in
theorem gX1_load_X1_copySlot : GoodIn wsX1_load (wsV RX1 101 RX1 yX1_copySlot wsX1_copySlot) := goodIn_app (goodIn_of _ (by decide +kernel)) ggX1_load_X1_copySlot
set_option maxRecDepth 20000 in
theorem ggX1_store_X1_isRoot : GoodIn wsX1_store wsX1_isRoot := goodIn_r _ [4] (by decide +kernel) (by decide +kernel)
set_option maxRecDepth 20000 in
theorem gX1_store_X1_isRoot : GoodIn wsX1_store (va_wsS RX1 90 yX1_isRoot wsX1_isRoot) := goodIn_app (goodIn_of _ (by decide +kernel)) ggX1_store_X1_isRoot
set_option maxRecDepth 20000 in
theorem ggX1_store_X1_field : GoodIn wsX1_store wsX1_field := goodIn_r _ [8, 9, 10, 1, 2, 3, 4, 11, 12, 13, 14, 15, 16, 17, 18, 23, 24, 25, 26, 27, 28, 29, 30, 31, 32, 33, 34, 35, 36, 37, 38, 39, 40, 41] (by decide +kernel) (by decide +kernel)
set_option maxRecDepth 20000 in
theorem gX1_store_X1_field : GoodIn wsX1_store (wsV RX1 97 RX1 yX1_field wsX1_field) := goodIn_app (goodIn_of _ (by decide +kernel)) ggX1_store_X1_field
set_option maxRecDepth 20000 in
theorem ggX1_store_X1_slotOf : GoodIn wsX1_store wsX1_slotOf := goodIn_r _ [18] (by decide +kernel) (by decide +kernel)
set_option maxRecDepth 20000 in
theorem gX1_store_X1_slotOf : GoodIn wsX1_store (va_wsS RX1 54 yX1_slotOf wsX1_slotOf) := goodIn_app (goodIn_of _ (by decide +kernel)) ggX1_store_X1_slotOf
set_option maxRecDepth 20000 in
theorem ggX1_store_X1_copySlot : GoodIn wsX1_store wsX1_copySlot := goodIn_r _ [22, 9, 15, 23, 24, 25, 26, 27, 28, 29, 30, 31, 32, 33, 34, 35, 36, 37, 38, 39, 40, 41] (by decide +kernel) (by decide +kernel)
set_option maxRecDepth 20000 in
theorem gX1_store_X1_copySlot : GoodIn wsX1_store (wsV RX1 101 RX1 yX1_copySlot wsX1_copySlot) := goodIn_app (goodIn_of _ (by decide +kernel)) ggX1_store_X1_copySlot
set_option maxRecDepth 20000 in
theorem ggX1_copy_X1_isRoot : GoodIn wsX1_copy wsX1_isRoot := goodIn_r _ [4] (by decide +kernel) (by decide +kernel)
set_option maxRecDepth 20000 in
theorem gX1_copy_X1_isRoot : GoodIn wsX1_copy (va_wsS RX1 90 yX1_isRoot wsX1_isRoot) := goodIn_app (goodIn_of _ (by decide +kernel)) ggX1_copy_X1_isRoot
set_option maxRecDepth 20000 in
theorem ggX1_copy_X1_slotOf : GoodIn wsX1_copy wsX1_slotOf := goodIn_r _ [7] (by decide +kernel) (by decide +kernel)
set_option maxRecDepth 20000 in
theorem gX1_copy_X1_slotOf : GoodIn wsX1_copy (va_wsS RX1 54 yX1_slotOf wsX1_slotOf) := goodIn_app (goodIn_of _ (by decide +kernel)) ggX1_copy_X1_slotOf
set_option maxRecDepth 20000 in
theorem ggX1_copy_X1_copySlot : GoodIn wsX1_copy wsX1_copySlot := goodIn_r _ [11, 12, 13, 14, 15, 16, 17, 18, 19, 20, 21, 22, 23, 24, 25, 26, 27, 28, 29, 30, 31, 32] (by decide +kernel) (by decide +kernel)
set_option maxRecDepth 20000 in
theorem gX1_copy_X1_copySlot : GoodIn wsX1_copy (wsV RX1 101 RX1 yX1_copySlot wsX1_copySlot) := goodIn_app (goodIn_of _ (by decide +kernel)) ggX1_copy_X1_copySlot
set_option maxRecDepth 20000 in
theorem ggX1_drop_X1_isRoot : GoodIn wsX1_drop wsX1_isRoot := goodIn_r _ [5] (by decide +kernel) (by decide +kernel)
set_option maxRecDepth 20000 in
theorem gX1_drop_X1_isRoot : GoodIn wsX1_drop (va_wsS RX1 90 yX1_isRoot wsX1_isRoot) := goodIn_app (goodIn_of _ (by decide +kernel)) ggX1_drop_X1_isRoot
set_option maxRecDepth 20000 in
theorem ggX1_drop_X1_holds : GoodIn wsX1_drop wsX1_holds := goodIn_r _ [9, 1, 10, 11, 4, 12, 13, 14, 15, 16, 17, 18, 19, 20, 21, 22, 23, 24, 25, 26, 27, 28, 29, 30, 31] (by decide +kernel) (by decide +kernel)
set_option maxRecDepth 20000 in
theorem gX1_drop_X1_holds : GoodIn wsX1_drop (wsV RX1 94 RX1 yX1_holds wsX1_holds) := goodIn_app (goodIn_of _ (by decide +kernel)) ggX1_drop_X1_holds
set_option maxRecDepth 20000 in
theorem ggX1_drop_X1_slotOf : GoodIn wsX1_drop wsX1_slotOf := goodIn_r _ [12] (by decide +kernel) (by decide +kernel)
set_option maxRecDepth 20000 in
theorem gX1_drop_X1_slotOf : GoodIn wsX1_drop (va_wsS RX1 54 yX1_slotOf wsX1_slotOf) := goodIn_app (goodIn_of _ (by decide +kernel)) ggX1_drop_X1_slotOf
set_option maxRecDepth 20000 in
theorem ggX1_value_X1_isRoot : GoodIn wsX1_value wsX1_isRoot := goodIn_r _ [6] (by decide +kernel) (by decide +kernel)
set_option maxRecDepth 20000 in
theorem gX1_value_X1_isRoot : GoodIn wsX1_value (va_wsS RX1 90 yX1_isRoot wsX1_isRoot) := goodIn_app (goodIn_of _ (by decide +kernel)) ggX1_value_X1_isRoot
set_option maxRecDepth 20000 in
theorem ggX1_value_X1_holds : GoodIn wsX1_value wsX1_holds := goodIn_r _ [10, 11, 12, 13, 5, 14, 15, 16, 17, 18, 19, 20, 21, 22, 23, 24, 25, 26, 27, 28, 29, 30, 31, 32, 33] (by decide +kernel) (by decide +kernel)
set_option maxRecDepth 20000 in
theorem gX1_value_X1_holds : GoodIn wsX1_value (wsV RX1 94 RX1 yX1_holds wsX1_holds) := goodIn_app (goodIn_of _ (by decide +kernel)) ggX1_value_X1_holds
set_option maxRecDepth 20000 in
theorem ggX1_value_X1_slotOf : GoodIn wsX1_value wsX1_slotOf := goodIn_r _ [14] (by decide +kernel) (by decide +kernel)
set_option maxRecDepth 20000 in
theorem gX1_value_X1_slotOf : GoodIn wsX1_value (va_wsS RX1 54 yX1_slotOf wsX1_slotOf) := goodIn_app (goodIn_of _ (by decide +kernel)) ggX1_value_X1_slotOf
set_option maxRecDepth 20000 in
theorem ggX1_set_X1_isRoot : GoodIn wsX1_set wsX1_isRoot := goodIn_r _ [6] (by decide +kernel) (by decide +kernel)
set_option maxRecDepth 20000 in
theorem gX1_set_X1_isRoot : GoodIn wsX1_set (va_wsS RX1 90 yX1_isRoot wsX1_isRoot) := goodIn_app (goodIn_of _ (by decide +kernel)) ggX1_set_X1_isRoot
set_option maxRecDepth 20000 in
theorem ggX1_set_X1_holds : GoodIn wsX1_set wsX1_holds := goodIn_r _ [10, 11, 12, 13, 5, 14, 15, 16, 17, 18, 19, 20, 21, 22, 23, 24, 25, 26, 27, 28, 29, 30, 31, 32, 33] (by decide +kernel) (by decide +kernel)
set_option maxRecDepth 20000 in
theorem gX1_set_X1_holds : GoodIn wsX1_set (wsV RX1 94 RX1 yX1_holds wsX1_holds) := goodIn_app (goodIn_of _ (by decide +kernel)) ggX1_set_X1_holds
set_option maxRecDepth 20000 in
theorem ggX1_set_X1_slotOf : GoodIn wsX1_set wsX1_slotOf := goodIn_r _ [14] (by decide +kernel) (by decide +kernel)
set_option maxRecDepth 20000 in
theorem gX1_set_X1_slotOf : GoodIn wsX1_set (va_wsS RX1 54 yX1_slotOf wsX1_slotOf) := goodIn_app (goodIn_of _ (by decide +kernel)) ggX1_set_X1_slotOf
set_option maxRecDepth 20000 in
theorem ggX1_fields_X1_isRoot : GoodIn wsX1_fields wsX1_isRoot := goodIn_r _ [6] (by decide +kernel) (by decide +kernel)
set_option maxRecDepth 20000 in
theorem gX1_fields_X1_isRoot : GoodIn wsX1_fields (va_wsS RX1 90 yX1_isRoot wsX1_isRoot) := goodIn_app (goodIn_of _ (by decide +kernel)) ggX1_fields_X1_isRoot
set_option maxRecDepth 20000 in
theorem ggX1_fields_X1_holds : GoodIn wsX1_fields wsX1_holds := goodIn_r _ [10, 11, 12, 13, 5, 14, 15, 16, 17, 18, 19, 20, 21, 22, 23, 24, 25, 26, 27, 28, 29, 30, 31, 32, 33] (by decide +kernel) (by decide +kernel)
set_option maxRecDepth 20000 in
theorem gX1_fields_X1_holds : GoodIn wsX1_fields (wsV RX1 94 RX1 yX1_holds wsX1_holds) := goodIn_app (goodIn_of _ (by decide +kernel)) ggX1_fields_X1_holds
set_option maxRecDepth 20000 in
theorem ggX1_fields_X1_slotOf : GoodIn wsX1_fields wsX1_slotOf := goodIn_r _ [14] (by decide +kernel) (by decide +kernel)
set_option maxRecDepth 20000 in
theorem gX1_fields_X1_slotOf : GoodIn wsX1_fields (va_wsS RX1 54 yX1_slotOf wsX1_slotOf) := goodIn_app (goodIn_of _ (by decide +kernel)) ggX1_fields_X1_slotOf
set_option maxRecDepth 20000 in
theorem ggX1_place_X1_isRoot : GoodIn wsX1_place wsX1_isRoot := goodIn_r _ [5] (by decide +kernel) (by decide +kernel)
set_option maxRecDepth 20000 in
theorem gX1_place_X1_isRoot : GoodIn wsX1_place (va_wsS RX1 90 yX1_isRoot wsX1_isRoot) := goodIn_app (goodIn_of _ (by decide +kernel)) ggX1_place_X1_isRoot
set_option maxRecDepth 20000 in
theorem ggX1_place_X1_holds : GoodIn wsX1_place wsX1_holds := goodIn_r _ [9, 10, 11, 12, 4, 13, 14, 15, 16, 17, 18, 19, 20, 21, 22, 23, 24, 25, 26, 27, 28, 29, 30, 31, 32] (by decide +kernel) (by decide +kernel)
set_option maxRecDepth 20000 in
theorem gX1_place_X1_holds : GoodIn wsX1_place (wsV RX1 94 RX1 yX1_holds wsX1_holds) := goodIn_app (goodIn_of _ (by decide +kernel)) ggX1_place_X1_holds
set_option maxRecDepth 20000 in
theorem ggX1_place_X1_slotOf : GoodIn wsX1_place wsX1_slotOf := goodIn_r _ [13] (by decide +kernel) (by decide +kernel)
set_option maxRecDepth 20000 in
theorem gX1_place_X1_slotOf : GoodIn wsX1_place (va_wsS RX1 54 yX1_slotOf wsX1_slotOf) := goodIn_app (goodIn_of _ (by decide +kernel)) ggX1_place_X1_slotOf
set_option maxRecDepth 20000 in
theorem ggX1_colour_X1_field : GoodIn wsX1_colour wsX1_field := goodIn_r _ [6, 7, 8, 9, 10, 5, 11, 12, 13, 14, 15, 1, 16, 17, 18, 19, 20, 21, 22, 23, 24, 25, 26, 27, 28, 29, 30, 31, 32, 33, 34, 35, 36, 37] (by decide +kernel) (by decide +kernel)
set_option maxRecDepth 20000 in
theorem gX1_colour_X1_field : GoodIn wsX1_colour (wsV RX1 97 RX1 yX1_field wsX1_field) := goodIn_app (goodIn_of _ (by decide +kernel)) ggX1_colour_X1_field
set_option maxRecDepth 20000 in
theorem ggX1_behind_X1_field : GoodIn wsX1_behind wsX1_field := goodIn_r _ [7, 2, 8, 9, 10, 6, 11, 12, 13, 14, 15, 1, 16, 17, 18, 19, 20, 21, 22, 23, 24, 25, 26, 27, 28, 29, 30, 31, 32, 33, 34, 35, 36, 37] (by decide +kernel) (by decide +kernel)
set_option maxRecDepth 20000 in
theorem gX1_behind_X1_field : GoodIn wsX1_behind (wsV RX1 97 RX1 yX1_field wsX1_field) := goodIn_app (goodIn_of _ (by decide +kernel)) ggX1_behind_X1_field
set_option maxRecDepth 20000 in
theorem ggX1_begin_X1_healRoots : GoodIn wsX1_begin wsX1_healRoots := goodIn_r _ [11, 12, 13, 10, 14, 15, 16, 17, 18, 19, 20, 21, 22, 2, 23, 24, 25, 26, 27, 1, 28, 29, 30, 31, 32, 33, 34, 3, 35, 36, 37, 38, 39, 6, 40, 5, 41, 42, 43, 44, 45, 46, 47, 48, 49, 50, 51, 52, 53, 54, 55, 56, 57, 58, 59, 60, 61, 62, 63, 64, 65] (by decide +kernel) (by decide +kernel)
set_option maxRecDepth 20000 in
theorem gX1_begin_X1_healRoots : GoodIn wsX1_begin (wsV RX1 105 RX1 yX1_healRoots wsX1_healRoots) := goodIn_app (goodIn_of _ (by decide +kernel)) ggX1_begin_X1_healRoots
set_option maxRecDepth 20000 in
theorem ggX1_markOne_X1_heal : GoodIn wsX1_markOne wsX1_heal := goodIn_r _ [8, 9, 10, 11, 12, 13, 14, 15, 16, 17, 7, 18, 19, 20, 21, 22, 23, 3, 24, 25, 26, 27, 28, 29, 30, 31, 32, 33, 34, 35, 36, 37, 38, 2, 1, 39, 40, 41, 42, 43, 44, 45, 46, 47, 48, 49, 50, 51, 52, 53, 54, 55, 56, 57] (by decide +kernel) (by decide +kernel)
set_option maxRecDepth 20000 in
theorem gX1_markOne_X1_heal : GoodIn wsX1_markOne (wsV RX1 87 RX1 yX1_heal wsX1_heal) := goodIn_app (goodIn_of _ (by decide +kernel)) ggX1_markOne_X1_heal
set_option maxRecDepth 20000 in
theorem ggX1_choose_X1_markedIn : GoodIn wsX1_choose wsX1_markedIn := goodIn_r _ [10, 11, 12, 13, 56, 57, 58, 59, 60, 61, 62, 63, 64, 65, 66, 67, 68, 69, 70, 71, 72, 73, 74] (by decide +kernel) (by decide +kernel)
set_option maxRecDepth 20000 in
theorem gX1_choose_X1_markedIn : GoodIn wsX1_choose (wsV RX1 108 RX1 yX1_markedIn wsX1_markedIn) := goodIn_app (goodIn_of _ (by decide +kernel)) ggX1_choose_X1_markedIn
set_option maxRecDepth 20000 in
theorem ggX1_choose_X1_release : GoodIn wsX1_choose wsX1_release := goodIn_r _ [17, 18, 19, 2, 4, 11, 12, 56, 57, 58, 59, 60, 61, 62, 63, 64, 65, 66, 67, 68, 69, 70, 71, 72, 73, 74] (by decide +kernel) (by decide +kernel)
set_option maxRecDepth 20000 in
theorem gX1_choose_X1_release : GoodIn wsX1_choose (wsV RX1 112 RX1 yX1_release wsX1_release) := goodIn_app (goodIn_of _ (by decide +kernel)) ggX1_choose_X1_release
set_option maxRecDepth 20000 in
theorem ggX1_choose_X1_healRoots : GoodIn wsX1_choose wsX1_healRoots := goodIn_r _ [23, 24, 25, 9, 26, 27, 28, 29, 30, 31, 32, 33, 1, 5, 4, 34, 35, 36, 37, 38, 39, 40, 41, 42, 13, 11, 43, 12, 44, 45, 46, 47, 48, 49, 19, 18, 50, 51, 52, 53, 54, 55, 56, 57, 58, 59, 60, 61, 62, 63, 64, 65, 66, 67, 68, 69, 70, 71, 72, 73, 74] (by decide +kernel) (by decide +kernel)
set_option maxRecDepth 20000 in
theorem gX1_choose_X1_healRoots : GoodIn wsX1_choose (wsV RX1 105 RX1 yX1_healRoots wsX1_healRoots) := goodIn_app (goodIn_of _ (by decide +kernel)) ggX1_choose_X1_healRoots
set_option maxRecDepth 20000 in
theorem ggX1_relocate_X1_move : GoodIn wsX1_relocate wsX1_move := goodIn_r _ [8, 9, 1, 10, 11, 12, 2, 13, 14, 15, 16, 17, 7, 18, 19, 20, 21, 31, 32, 33, 34, 35, 36, 37, 38, 39, 40, 41, 42, 43, 44, 45, 46, 47, 48, 49] (by decide +kernel) (by decide +kernel)
set_option maxRecDepth 20000 in
theorem gX1_relocate_X1_move : GoodIn wsX1_relocate (wsV RX1 80 RX1 yX1_move wsX1_move) := goodIn_app (goodIn_of _ (by decide +kernel)) ggX1_relocate_X1_move
set_option maxRecDepth 20000 in
theorem ggX1_relocate_X1_markedIn : GoodIn wsX1_relocate wsX1_markedIn := goodIn_r _ [25, 1, 2, 9, 31, 32, 33, 34, 35, 36, 37, 38, 39, 40, 41, 42, 43, 44, 45, 46, 47, 48, 49] (by decide +kernel) (by decide +kernel)
set_option maxRecDepth 20000 in
theorem gX1_relocate_X1_markedIn : GoodIn wsX1_relocate (wsV RX1 108 RX1 yX1_markedIn wsX1_markedIn) := goodIn_app (goodIn_of _ (by decide +kernel)) ggX1_relocate_X1_markedIn
set_option maxRecDepth 20000 in
theorem ggX1_relocate_X1_release : GoodIn wsX1_relocate wsX1_release := goodIn_r _ [29, 21, 20, 30, 3, 1, 2, 31, 32, 33, 34, 35, 36, 37, 38, 39, 40, 41, 42, 43, 44, 45, 46, 47, 48, 49] (by decide +kernel) (by decide +kernel)
set_option maxRecDepth 20000 in
theorem gX1_relocate_X1_release : GoodIn wsX1_relocate (wsV RX1 112 RX1 yX1_release wsX1_release) := goodIn_app (goodIn_of _ (by decide +kernel)) ggX1_relocate_X1_release
set_option maxRecDepth 20000 in
theorem ggX1_step_X1_begin : GoodIn wsX1_step wsX1_begin := goodIn_r _ [7, 8, 1, 9, 10, 11, 12, 13, 14, 15, 6, 16, 17, 18, 19, 20, 21, 22, 23, 24, 25, 26, 27, 28, 29, 30, 31, 32, 33, 34, 35, 36, 37, 38, 39, 40, 41, 42, 43, 44, 45, 46, 47, 48, 49, 50, 2, 76, 77, 78, 79, 80, 81, 82, 83, 84, 85, 86, 87, 88, 89, 90, 91, 92, 93, 94] (by decide +kernel) (by decide +kernel)
set_option maxRecDepth 20000 in
theorem gX1_step_X1_begin : GoodIn wsX1_step (wsV RX1 115 RX1 yX1_begin wsX1_begin) := goodIn_app (goodIn_of _ (by decide +kernel)) ggX1_step_X1_begin
set_option maxRecDepth 20000 in
theorem ggX1_step_X1_markOne : GoodIn wsX1_step wsX1_markOne := goodIn_r _ [54, 2, 50, 37, 20, 21, 22, 6, 23, 24, 25, 26, 27, 1, 28, 29, 30, 31, 32, 8, 33, 34, 35, 36, 38, 39, 9, 40, 41, 42, 43, 44, 12, 45, 11, 46, 47, 48, 49, 76, 77, 78, 79, 80, 81, 82, 83, 84, 85, 86, 87, 88, 89, 90, 91, 92, 93, 94] (by decide +kernel) (by decide +kernel)
set_option maxRecDepth 20000 in
theorem gX1_step_X1_markOne : GoodIn wsX1_step (wsV RX1 118 RX1 yX1_markOne wsX1_markOne) := goodIn_app (goodIn_of _ (by decide +kernel)) ggX1_step_X1_markOne
set_option maxRecDepth 20000 in
theorem ggX1_step_X1_choose : GoodIn wsX1_step wsX1_choose := goodIn_r _ [58, 27, 10, 59, 28, 1, 60, 61, 62, 6, 63, 38, 9, 37, 64, 65, 66, 67, 11, 45, 13, 14, 15, 16, 17, 18, 19, 20, 21, 22, 23, 24, 25, 26, 29, 30, 31, 32, 8, 33, 34, 35, 36, 39, 40, 41, 42, 43, 44, 12, 46, 47, 48, 49, 50, 2, 76, 77, 78, 79, 80, 81, 82, 83, 84, 85, 86, 87, 88, 89, 90, 91, 92, 93, 94] (by decide +kernel) (by decide +kernel)
set_option maxRecDepth 20000 in
theorem gX1_step_X1_choose : GoodIn wsX1_step (wsV RX1 121 RX1 yX1_choose wsX1_choose) := goodIn_app (goodIn_of _ (by decide +kernel)) ggX1_step_X1_choose
set_option maxRecDepth 20000 in
theorem ggX1_step_X1_leastInSet : GoodIn wsX1_step wsX1_leastInSet := goodIn_r _ [71, 28, 76, 77, 78, 79, 80, 81, 82, 83, 84, 85, 86, 87, 88, 89, 90, 91, 92, 93, 94] (by decide +kernel) (by decide +kernel)
set_option maxRecDepth 20000 in
theorem gX1_step_X1_leastInSet : GoodIn wsX1_step (wsV RX1 124 RX1 yX1_leastInSet wsX1_leastInSet) := goodIn_app (goodIn_of _ (by decide +kernel)) ggX1_step_X1_leastInSet
set_option maxRecDepth 20000 in
theorem ggX1_step_X1_relocate : GoodIn wsX1_step wsX1_relocate := goodIn_r _ [75, 38, 9, 28, 33, 34, 35, 6, 36, 37, 39, 25, 24, 27, 40, 41, 42, 43, 44, 12, 45, 11, 60, 61, 62, 63, 64, 65, 66, 67, 10, 76, 77, 78, 79, 80, 81, 82, 83, 84, 85, 86, 87, 88, 89, 90, 91, 92, 93, 94] (by decide +kernel) (by decide +kernel)
set_option maxRecDepth 20000 in
theorem gX1_step_X1_relocate : GoodIn wsX1_step (wsV RX1 127 RX1 yX1_relocate wsX1_relocate) := goodIn_app (goodIn_of _ (by decide +kernel)) ggX1_step_X1_relocate
set_option maxRecDepth 20000 in
theorem ggX1_collect_X1_step : GoodIn wsX1_collect wsX1_step := goodIn_r _ [6, 1, 7, 8, 9, 10, 5, 11, 12, 13, 14, 15, 16, 17, 18, 19, 20, 21, 22, 23, 24, 25, 26, 27, 28, 29, 30, 31, 32, 33, 34, 35, 36, 37, 38, 39, 40, 41, 42, 43, 44, 45, 46, 47, 48, 49, 50, 51, 52, 53, 54, 55, 56, 57, 58, 59, 60, 61, 62, 63, 64, 65, 66, 67, 68, 69, 70, 71, 72, 73, 74, 75, 76, 77, 78, 79, 80, 81, 82, 83, 84, 85, 86, 87, 88, 89, 90, 91, 92, 93, 94, 95, 96, 97, 98] (by decide +kernel) (by decide +kernel)
set_option maxRecDepth 20000 in
theorem gX1_collect_X1_step : GoodIn wsX1_collect (wsV RX1 130 RX1 yX1_step wsX1_step) := goodIn_app (goodIn_of _ (by decide +kernel)) ggX1_collect_X1_step
set_option maxRecDepth 20000 in
theorem ggX1_page_X1_markedIn : GoodIn wsX1_page wsX1_markedIn := goodIn_r _ [11, 12, 13, 14, 15, 16, 17, 18, 19, 20, 21, 22, 23, 24, 25, 26, 27, 28, 29, 30, 31, 32, 33] (by decide +kernel) (by decide +kernel)
set_option maxRecDepth 20000 in
theorem gX1_page_X1_markedIn : GoodIn wsX1_page (wsV RX1 108 RX1 yX1_markedIn wsX1_markedIn) := goodIn_app (goodIn_of _ (by decide +kernel)) ggX1_page_X1_markedIn
set_option maxRecDepth 20000 in
theorem ggL_law_L_cell : GoodIn wsL_law wsL_cell := goodIn_r _ [9] (by decide +kernel) (by decide +kernel)
set_option maxRecDepth 20000 in
theorem gL_law_L_cell : GoodIn wsL_law (va_wsS RL 9 yL_cell wsL_cell) := goodIn_app (goodIn_of _ (by decide +kernel)) ggL_law_L_cell
set_option maxRecDepth 20000 in
theorem ggL_law_X0_init : GoodIn wsL_law wsX0_init := goodIn_r _ [12, 13, 14, 15, 16, 17, 18, 19, 20, 21, 22, 23, 24, 25, 26, 27, 28, 29, 30, 31, 32, 33, 34, 35, 36, 37, 38, 39, 40, 41, 378, 379, 380, 381, 382, 383, 384, 385, 386, 387, 388, 389, 390, 391, 392, 393, 394] (by decide +kernel) (by decide +kernel)
set_option maxRecDepth 20000 in
theorem gL_law_X0_init : GoodIn wsL_law (wsX0_init) := ggL_law_X0_init
set_option maxRecDepth 20000 in
theorem ggL_law_X1_init : GoodIn wsL_law wsX1_init := goodIn_r _ [44, 45, 14, 15, 21, 46, 16, 47, 48, 49, 50, 51, 52, 53, 54, 55, 56, 57, 58, 59, 395, 396, 397, 398, 399, 400, 401, 402, 403, 404, 405, 406, 407, 408, 409, 410, 411, 412, 413] (by decide +kernel) (by decide +kernel)
set_option maxRecDepth 20000 in
theorem gL_law_X1_init : GoodIn wsL_law (wsX1_init) := ggL_law_X1_init
set_option maxRecDepth 20000 in
theorem ggL_law_X0_make : GoodIn wsL_law wsX0_make := goodIn_r _ [63, 19, 20, 18, 17, 64, 65, 2, 66, 67, 68, 69, 70, 29, 26, 71, 72, 73, 74, 75, 76, 77, 78, 30, 33, 378, 379, 380, 381, 382, 383, 384, 385, 386, 387, 388, 389, 390, 391, 392, 393, 394] (by decide +kernel) (by decide +kernel)
set_option maxRecDepth 20000 in
theorem gL_law_X0_make : GoodIn wsL_law (wsV RL 21 RX0 yX0_make wsX0_make) := goodIn_app (goodIn_of _ (by decide +kernel)) ggL_law_X0_make
set_option maxRecDepth 20000 in
theorem ggL_law_X1_make : GoodIn wsL_law wsX1_make := goodIn_r _ [82, 46, 49, 47, 48, 52, 51, 83, 84, 5, 85, 86, 87, 88, 89, 57, 54, 53, 90, 91, 92, 93, 94, 95, 96, 97, 98, 395, 396, 397, 398, 399, 400, 401, 402, 403, 404, 405, 406, 407, 408, 409, 410, 411, 412, 413] (by decide +kernel) (by decide +kernel)
set_option maxRecDepth 20000 in
theorem gL_law_X1_make : GoodIn wsL_law (wsV RL 25 RX1 yX1_make wsX1_make) := goodIn_app (goodIn_of _ (by decide +kernel)) ggL_law_X1_make
set_option maxRecDepth 20000 in
theorem ggL_law_X0_load : GoodIn wsL_law wsX0_load := goodIn_r _ [102, 64, 65, 2, 66, 103, 104, 105, 106, 20, 107, 108, 109, 110, 17, 111, 112, 113, 114, 18, 115, 116, 117, 118, 23, 30, 28, 31, 75, 76, 77, 78, 33, 119, 120, 121, 122, 22, 24, 25, 123, 124, 125, 126, 127, 128, 129, 19, 32, 67, 68, 69, 70, 29, 26, 71, 72, 73, 74, 130, 131, 132, 133, 378, 379, 380, 381, 382, 383, 384, 385, 386, 387, 388, 389, 390, 391, 392, 393, 394] (by decide +kernel) (by decide +kernel)
set_option maxRecDepth 20000 in
theorem gL_law_X0_load : GoodIn wsL_law (wsV RL 26 RX0 yX0_load wsX0_load) := goodIn_app (goodIn_of _ (by decide +kernel)) ggL_law_X0_load
set_option maxRecDepth 20000 in
theorem ggL_law_X1_load : GoodIn wsL_law wsX1_load := goodIn_r _ [137, 52, 83, 84, 5, 85, 138, 139, 140, 141, 51, 47, 142, 143, 144, 145, 90, 91, 92, 146, 147, 148, 149, 150, 50, 97, 56, 93, 94, 95, 96, 98, 151, 152, 153, 154, 46, 48, 49, 155, 86, 87, 88, 89, 57, 54, 53, 156, 157, 158, 159, 58, 160, 161, 162, 163, 164, 395, 396, 397, 398, 399, 400, 401, 402, 403, 404, 405, 406, 407, 408, 409, 410, 411, 412, 413] (by decide +kernel) (by decide +kernel)
set_option maxRecDepth 20000 in
theorem gL_law_X1_load : GoodIn wsL_law (wsV RL 29 RX1 yX1_load wsX1_load) := goodIn_app (goodIn_of _ (by decide +kernel)) ggL_law_X1_load
set_option maxRecDepth 20000 in
theorem ggL_law_X0_store : GoodIn wsL_law wsX0_store := goodIn_r _ [168, 64, 65, 2, 66, 103, 104, 105, 106, 20, 107, 108, 109, 110, 17, 111, 112, 113, 114, 18, 130, 131, 132, 133, 378, 379, 380, 381, 382, 383, 384, 385, 386, 387, 388, 389, 390, 391, 392, 393, 394] (by decide +kernel) (by decide +kernel)
set_option maxRecDepth 20000 in
theorem gL_law_X0_store : GoodIn wsL_law (wsV RL 30 RX0 yX0_store wsX0_store) := goodIn_app (goodIn_of _ (by decide +kernel)) ggL_law_X0_store
set_option maxRecDepth 20000 in
theorem ggL_law_X1_store : GoodIn wsL_law wsX1_store := goodIn_r _ [172, 83, 84, 5, 85, 138, 139, 140, 141, 51, 47, 142, 143, 144, 145, 52, 90, 91, 92, 161, 162, 163, 164, 395, 396, 397, 398, 399, 400, 401, 402, 403, 404, 405, 406, 407, 408, 409, 410, 411, 412, 413] (by decide +kernel) (by decide +kernel)
set_option maxRecDepth 20000 in
theorem gL_law_X1_store : GoodIn wsL_law (wsV RL 33 RX1 yX1_store wsX1_store) := goodIn_app (goodIn_of _ (by decide +kernel)) ggL_law_X1_store
set_option maxRecDepth 20000 in
theorem ggL_law_X0_copy : GoodIn wsL_law wsX0_copy := goodIn_r _ [176, 64, 65, 2, 66, 130, 131, 132, 133, 17, 18, 378, 379, 380, 381, 382, 383, 384, 385, 386, 387, 388, 389, 390, 391, 392, 393, 394] (by decide +kernel) (by decide +kernel)
set_option maxRecDepth 20000 in
theorem gL_law_X0_copy : GoodIn wsL_law (wsV RL 34 RX0 yX0_copy wsX0_copy) := goodIn_app (goodIn_of _ (by decide +kernel)) ggL_law_X0_copy
set_option maxRecDepth 20000 in
theorem ggL_law_X1_copy : GoodIn wsL_law wsX1_copy := goodIn_r _ [180, 83, 84, 5, 85, 90, 91, 92, 161, 162, 163, 164, 51, 52, 395, 396, 397, 398, 399, 400, 401, 402, 403, 404, 405, 406, 407, 408, 409, 410, 411, 412, 413] (by decide +kernel) (by decide +kernel)
set_option maxRecDepth 20000 in
theorem gL_law_X1_copy : GoodIn wsL_law (wsV RL 38 RX1 yX1_copy wsX1_copy) := goodIn_app (goodIn_of _ (by decide +kernel)) ggL_law_X1_copy
set_option maxRecDepth 20000 in
theorem ggL_law_X0_drop : GoodIn wsL_law wsX0_drop := goodIn_r _ [184, 18, 64, 65, 2, 66, 111, 112, 113, 114, 378, 379, 380, 381, 382, 383, 384, 385, 386, 387, 388, 389, 390, 391, 392, 393, 394] (by decide +kernel) (by decide +kernel)
set_option maxRecDepth 20000 in
theorem gL_law_X0_drop : GoodIn wsL_law (wsV RL 39 RX0 yX0_drop wsX0_drop) := goodIn_app (goodIn_of _ (by decide +kernel)) ggL_law_X0_drop
set_option maxRecDepth 20000 in
theorem ggL_law_X1_drop : GoodIn wsL_law wsX1_drop := goodIn_r _ [188, 52, 83, 84, 5, 85, 142, 143, 144, 145, 90, 91, 92, 395, 396, 397, 398, 399, 400, 401, 402, 403, 404, 405, 406, 407, 408, 409, 410, 411, 412, 413] (by decide +kernel) (by decide +kernel)
set_option maxRecDepth 20000 in
theorem gL_law_X1_drop : GoodIn wsL_law (wsV RL 43 RX1 yX1_drop wsX1_drop) := goodIn_app (goodIn_of _ (by decide +kernel)) ggL_law_X1_drop
set_option maxRecDepth 20000 in
theorem ggL_law_X0_value : GoodIn wsL_law wsX0_value := goodIn_r _ [192, 19, 107, 108, 109, 2, 110, 17, 64, 65, 66, 111, 112, 113, 114, 18, 378, 379, 380, 381, 382, 383, 384, 385, 386, 387, 388, 389, 390, 391, 392, 393, 394] (by decide +kernel) (by decide +kernel)
set_option maxRecDepth 20000 in
theorem gL_law_X0_value : GoodIn wsL_law (wsV RL 44 RX0 yX0_value wsX0_value) := goodIn_app (goodIn_of _ (by decide +kernel)) ggL_law_X0_value
set_option maxRecDepth 20000 in
theorem ggL_law_X1_value : GoodIn wsL_law wsX1_value := goodIn_r _ [196, 48, 51, 83, 84, 5, 85, 142, 143, 144, 145, 52, 90, 91, 92, 395, 396, 397, 398, 399, 400, 401, 402, 403, 404, 405, 406, 407, 408, 409, 410, 411, 412, 413] (by decide +kernel) (by decide +kernel)
set_option maxRecDepth 20000 in
theorem gL_law_X1_value : GoodIn wsL_law (wsV RL 48 RX1 yX1_value wsX1_value) := goodIn_app (goodIn_of _ (by decide +kernel)) ggL_law_X1_value
set_option maxRecDepth 20000 in
theorem ggL_law_X0_set : GoodIn wsL_law wsX0_set := goodIn_r _ [200, 19, 107, 108, 109, 2, 110, 17, 64, 65, 66, 111, 112, 113, 114, 18, 378, 379, 380, 381, 382, 383, 384, 385, 386, 387, 388, 389, 390, 391, 392, 393, 394] (by decide +kernel) (by decide +kernel)
set_option maxRecDepth 20000 in
theorem gL_law_X0_set : GoodIn wsL_law (wsV RL 49 RX0 yX0_set wsX0_set) := goodIn_app (goodIn_of _ (by decide +kernel)) ggL_law_X0_set
set_option maxRecDepth 20000 in
theorem ggL_law_X1_set : GoodIn wsL_law wsX1_set := goodIn_r _ [204, 48, 51, 83, 84, 5, 85, 142, 143, 144, 145, 52, 90, 91, 92, 395, 396, 397, 398, 399, 400, 401, 402, 403, 404, 405, 406, 407, 408, 409, 410, 411, 412, 413] (by decide +kernel) (by decide +kernel)
set_option maxRecDepth 20000 in
theorem gL_law_X1_set : GoodIn wsL_law (wsV RL 52 RX1 yX1_set wsX1_set) := goodIn_app (goodIn_of _ (by decide +kernel)) ggL_law_X1_set
set_option maxRecDepth 20000 in
theorem ggL_law_X0_fields : GoodIn wsL_law wsX0_fields := goodIn_r _ [208, 20, 107, 108, 109, 2, 110, 17, 64, 65, 66, 111, 112, 113, 114, 18, 378, 379, 380, 381, 382, 383, 384, 385, 386, 387, 388, 389, 390, 391, 392, 393, 394] (by decide +kernel) (by decide +kernel)
set_option maxRecDepth 20000 in
theorem gL_law_X0_fields : GoodIn wsL_law (wsV RL 53 RX0 yX0_fields wsX0_fields) := goodIn_app (goodIn_of _ (by decide +kernel)) ggL_law_X0_fields
set_option maxRecDepth 20000 in
theorem ggL_law_X1_fields : GoodIn wsL_law wsX1_fields := goodIn_r _ [212, 47, 51, 83, 84, 5, 85, 142, 143, 144, 145, 52, 90, 91, 92, 395, 396, 397, 398, 399, 400, 401, 402, 403, 404, 405, 406, 407, 408, 409, 410, 411, 412, 413] (by decide +kernel) (by decide +kernel)
set_option maxRecDepth 20000 in
theorem gL_law_X1_fields : GoodIn wsL_law (wsV RL 56 RX1 yX1_fields wsX1_fields) := goodIn_app (goodIn_of _ (by decide +kernel)) ggL_law_X1_fields
set_option maxRecDepth 20000 in
theorem ggL_law_X0_place : GoodIn wsL_law wsX0_place := goodIn_r _ [110, 17, 64, 65, 2, 66, 111, 112, 113, 114, 18, 378, 379, 380, 381, 382, 383, 384, 385, 386, 387, 388, 389, 390, 391, 392, 393, 394] (by decide +kernel) (by decide +kernel)
set_option maxRecDepth 20000 in
theorem gL_law_X0_place : GoodIn wsL_law (wsV RL 57 RX0 yX0_place wsX0_place) := goodIn_app (goodIn_of _ (by decide +kernel)) ggL_law_X0_place
set_option maxRecDepth 20000 in
theorem ggL_law_X1_place : GoodIn wsL_law wsX1_place := goodIn_r _ [217, 51, 83, 84, 5, 85, 142, 143, 144, 145, 52, 90, 91, 92, 395, 396, 397, 398, 399, 400, 401, 402, 403, 404, 405, 406, 407, 408, 409, 410, 411, 412, 413] (by decide +kernel) (by decide +kernel)
set_option maxRecDepth 20000 in
theorem gL_law_X1_place : GoodIn wsL_law (wsV RL 60 RX1 yX1_place wsX1_place) := goodIn_app (goodIn_of _ (by decide +kernel)) ggL_law_X1_place
set_option maxRecDepth 20000 in
theorem ggL_law_X0_colour : GoodIn wsL_law wsX0_colour := goodIn_r _ [221, 18, 103, 104, 105, 2, 106, 20, 107, 108, 109, 110, 17, 64, 65, 66, 111, 112, 113, 114, 378, 379, 380, 381, 382, 383, 384, 385, 386, 387, 388, 389, 390, 391, 392, 393, 394] (by decide +kernel) (by decide +kernel)
set_option maxRecDepth 20000 in
theorem gL_law_X0_colour : GoodIn wsL_law (wsV RL 61 RX0 yX0_colour wsX0_colour) := goodIn_app (goodIn_of _ (by decide +kernel)) ggL_law_X0_colour
set_option maxRecDepth 20000 in
theorem ggL_law_X1_colour : GoodIn wsL_law wsX1_colour := goodIn_r _ [225, 52, 138, 139, 140, 5, 141, 51, 47, 83, 84, 85, 142, 143, 144, 145, 90, 91, 92, 395, 396, 397, 398, 399, 400, 401, 402, 403, 404, 405, 406, 407, 408, 409, 410, 411, 412, 413] (by decide +kernel) (by decide +kernel)
set_option maxRecDepth 20000 in
theorem gL_law_X1_colour : GoodIn wsL_law (wsV RL 65 RX1 yX1_colour wsX1_colour) := goodIn_app (goodIn_of _ (by decide +kernel)) ggL_law_X1_colour
set_option maxRecDepth 20000 in
theorem ggL_law_X0_behind : GoodIn wsL_law wsX0_behind := goodIn_r _ [229, 17, 103, 104, 105, 2, 106, 20, 107, 108, 109, 110, 64, 65, 66, 111, 112, 113, 114, 18, 378, 379, 380, 381, 382, 383, 384, 385, 386, 387, 388, 389, 390, 391, 392, 393, 394] (by decide +kernel) (by decide +kernel)
set_option maxRecDepth 20000 in
theorem gL_law_X0_behind : GoodIn wsL_law (wsV RL 66 RX0 yX0_behind wsX0_behind) := goodIn_app (goodIn_of _ (by decide +kernel)) ggL_law_X0_behind
set_option maxRecDepth 20000 in
theorem ggL_law_X1_behind : GoodIn wsL_law wsX1_behind := goodIn_r _ [233, 52, 51, 138, 139, 140, 5, 141, 47, 83, 84, 85, 142, 143, 144, 145, 90, 91, 92, 395, 396, 397, 398, 399, 400, 401, 402, 403, 404, 405, 406, 407, 408, 409, 410, 411, 412, 413] (by decide +kernel) (by decide +kernel)
set_option maxRecDepth 20000 in
theorem gL_law_X1_behind : GoodIn wsL_law (wsV RL 69 RX1 yX1_behind wsX1_behind) := goodIn_app (goodIn_of _ (by decide +kernel)) ggL_law_X1_behind
set_option maxRecDepth 20000 in
theorem ggL_law_X0_collect : GoodIn wsL_law wsX0_collect := goodIn_r _ [237, 30, 238, 239, 240, 2, 241, 25, 24, 20, 242, 243, 244, 245, 33, 29, 22, 27, 26, 246, 247, 248, 249, 115, 116, 117, 118, 18, 17, 23, 28, 31, 75, 76, 77, 78, 119, 120, 121, 122, 123, 124, 125, 126, 127, 128, 129, 19, 32, 67, 68, 69, 70, 71, 72, 73, 74, 130, 131, 132, 133, 250, 251, 252, 253, 254, 255, 256, 257, 258, 259, 260, 261, 262, 263, 264, 265, 266, 267, 268, 269, 270, 271, 272, 273, 41, 274, 275, 276, 277, 378, 379, 380, 381, 382, 383, 384, 385, 386, 387, 388, 389, 390, 391, 392, 393, 394] (by decide +kernel) (by decide +kernel)
set_option maxRecDepth 20000 in
theorem gL_law_X0_collect : GoodIn wsL_law (wsV RL 70 RX0 yX0_collect wsX0_collect) := goodIn_app (goodIn_of _ (by decide +kernel)) ggL_law_X0_collect
set_option maxRecDepth 20000 in
theorem ggL_law_X1_collect : GoodIn wsL_law wsX1_collect := goodIn_r _ [281, 97, 282, 283, 284, 5, 285, 160, 286, 287, 288, 289, 98, 49, 55, 53, 57, 290, 291, 292, 293, 90, 91, 92, 146, 147, 148, 149, 52, 51, 150, 50, 56, 93, 94, 95, 96, 151, 152, 153, 154, 47, 46, 48, 155, 86, 87, 88, 89, 54, 156, 157, 158, 159, 58, 294, 295, 296, 297, 298, 299, 300, 301, 59, 302, 303, 304, 305, 306, 307, 308, 309, 310, 311, 312, 313, 314, 315, 316, 317, 395, 396, 397, 398, 399, 400, 401, 402, 403, 404, 405, 406, 407, 408, 409, 410, 411, 412, 413] (by decide +kernel) (by decide +kernel)
set_option maxRecDepth 20000 in
theorem gL_law_X1_collect : GoodIn wsL_law (wsV RL 73 RX1 yX1_collect wsX1_collect) := goodIn_app (goodIn_of _ (by decide +kernel)) ggL_law_X1_collect
set_option maxRecDepth 20000 in
theorem ggL_law_X0_phase : GoodIn wsL_law wsX0_phase := goodIn_r _ [321, 30, 378, 379, 380, 381, 382, 383, 384, 385, 386, 387, 388, 389, 390, 391, 392, 393, 394] (by decide +kernel) (by decide +kernel)
set_option maxRecDepth 20000 in
theorem gL_law_X0_phase : GoodIn wsL_law (wsV RL 74 RX0 yX0_phase wsX0_phase) := goodIn_app (goodIn_of _ (by decide +kernel)) ggL_law_X0_phase
set_option maxRecDepth 20000 in
theorem ggL_law_X1_phase : GoodIn wsL_law wsX1_phase := goodIn_r _ [325, 97, 395, 396, 397, 398, 399, 400, 401, 402, 403, 404, 405, 406, 407, 408, 409, 410, 411, 412, 413] (by decide +kernel) (by decide +kernel)
set_option maxRecDepth 20000 in
theorem gL_law_X1_phase : GoodIn wsL_law (wsV RL 78 RX1 yX1_phase wsX1_phase) := goodIn_app (goodIn_of _ (by decide +kernel)) ggL_law_X1_phase
set_option maxRecDepth 20000 in
theorem ggL_law_X0_stack : GoodIn wsL_law wsX0_stack := goodIn_r _ [329, 25, 378, 379, 380, 381, 382, 383, 384, 385, 386, 387, 388, 389, 390, 391, 392, 393, 394] (by decide +kernel) (by decide +kernel)
set_option maxRecDepth 20000 in
theorem gL_law_X0_stack : GoodIn wsL_law (wsV RL 79 RX0 yX0_stack wsX0_stack) := goodIn_app (goodIn_of _ (by decide +kernel)) ggL_law_X0_stack
set_option maxRecDepth 20000 in
theorem ggL_law_X1_stack : GoodIn wsL_law wsX1_stack := goodIn_r _ [333, 160, 395, 396, 397, 398, 399, 400, 401, 402, 403, 404, 405, 406, 407, 408, 409, 410, 411, 412, 413] (by decide +kernel) (by decide +kernel)
set_option maxRecDepth 20000 in
theorem gL_law_X1_stack : GoodIn wsL_law (wsV RL 82 RX1 yX1_stack wsX1_stack) := goodIn_app (goodIn_of _ (by decide +kernel)) ggL_law_X1_stack
set_option maxRecDepth 20000 in
theorem ggL_law_X0_page : GoodIn wsL_law wsX0_page := goodIn_r _ [337, 26, 27, 338, 339, 340, 2, 341, 29, 28, 342, 343, 344, 345, 22, 346, 347, 348, 349, 23, 378, 379, 380, 381, 382, 383, 384, 385, 386, 387, 388, 389, 390, 391, 392, 393, 394] (by decide +kernel) (by decide +kernel)
set_option maxRecDepth 20000 in
theorem gL_law_X0_page : GoodIn wsL_law (wsV RL 83 RX0 yX0_page wsX0_page) := goodIn_app (goodIn_of _ (by decide +kernel)) ggL_law_X0_page
set_option maxRecDepth 20000 in
theorem ggL_law_X1_page : GoodIn wsL_law wsX1_page := goodIn_r _ [353, 53, 56, 57, 54, 55, 50, 302, 303, 304, 5, 305, 46, 49, 47, 395, 396, 397, 398, 399, 400, 401, 402, 403, 404, 405, 406, 407, 408, 409, 410, 411, 412, 413] (by decide +kernel) (by decide +kernel)
set_option maxRecDepth 20000 in
theorem gL_law_X1_page : GoodIn wsL_law (wsV RL 86 RX1 yX1_page wsX1_page) := goodIn_app (goodIn_of _ (by decide +kernel)) ggL_law_X1_page
set_option maxRecDepth 20000 in
theorem ggL_law_X0_healed : GoodIn wsL_law wsX0_healed := goodIn_r _ [357, 31, 378, 379, 380, 381, 382, 383, 384, 385, 386, 387, 388, 389, 390, 391, 392, 393, 394] (by decide +kernel) (by decide +kernel)
set_option maxRecDepth 20000 in
theorem gL_law_X0_healed : GoodIn wsL_law (wsV RL 87 RX0 yX0_healed wsX0_healed) := goodIn_app (goodIn_of _ (by decide +kernel)) ggL_law_X0_healed
set_option maxRecDepth 20000 in
theorem ggL_law_X1_healed : GoodIn wsL_law wsX1_healed := goodIn_r _ [361, 150, 395, 396, 397, 398, 399, 400, 401, 402, 403, 404, 405, 406, 407, 408, 409, 410, 411, 412, 413] (by decide +kernel) (by decide +kernel)
set_option maxRecDepth 20000 in
theorem gL_law_X1_healed : GoodIn wsL_law (wsV RL 90 RX1 yX1_healed wsX1_healed) := goodIn_app (goodIn_of _ (by decide +kernel)) ggL_law_X1_healed
set_option maxRecDepth 20000 in
theorem ggL_law_X0_moved : GoodIn wsL_law wsX0_moved := goodIn_r _ [365, 32, 378, 379, 380, 381, 382, 383, 384, 385, 386, 387, 388, 389, 390, 391, 392, 393, 394] (by decide +kernel) (by decide +kernel)
set_option maxRecDepth 20000 in
theorem gL_law_X0_moved : GoodIn wsL_law (wsV RL 91 RX0 yX0_moved wsX0_moved) := goodIn_app (goodIn_of _ (by decide +kernel)) ggL_law_X0_moved
set_option maxRecDepth 20000 in
theorem ggL_law_X1_moved : GoodIn wsL_law wsX1_moved := goodIn_r _ [369, 155, 395, 396, 397, 398, 399, 400, 401, 402, 403, 404, 405, 406, 407, 408, 409, 410, 411, 412, 413] (by decide +kernel) (by decide +kernel)
set_option maxRecDepth 20000 in
theorem gL_law_X1_moved : GoodIn wsL_law (wsV RL 94 RX1 yX1_moved wsX1_moved) := goodIn_app (goodIn_of _ (by decide +kernel)) ggL_law_X1_moved
set_option maxRecDepth 20000 in
theorem ggL_law_X0_cycles : GoodIn wsL_law wsX0_cycles := goodIn_r _ [373, 33, 378, 379, 380, 381, 382, 383, 384, 385, 386, 387, 388, 389, 390, 391, 392, 393, 394] (by decide +kernel) (by decide +kernel)
set_option maxRecDepth 20000 in
theorem gL_law_X0_cycles : GoodIn wsL_law (wsV RL 95 RX0 yX0_cycles wsX0_cycles) := goodIn_app (goodIn_of _ (by decide +kernel)) ggL_law_X0_cycles
set_option maxRecDepth 20000 in
theorem ggL_law_X1_cycles : GoodIn wsL_law wsX1_cycles := goodIn_r _ [377, 98, 395, 396, 397, 398, 399, 400, 401, 402, 403, 404, 405, 406, 407, 408, 409, 410, 411, 412, 413] (by decide +kernel) (by decide +kernel)
set_option maxRecDepth 20000 in
theorem gL_law_X1_cycles : GoodIn wsL_law (wsV RL 98 RX1 yX1_cycles wsX1_cycles) := goodIn_app (goodIn_of _ (by decide +kernel)) ggL_law_X1_cycles
abbrev vwCl : List vw_C := [(RX0, TX0, 17), (RX1, TX1, 19)]

/-! callees by their pool numbers, by program (wip/gen_glue.py) -/
def spX0_make : CSp := (false, 3, false, prX0_make, poX0_make)
def spX0_load : CSp := (false, 3, false, prX0_load, poX0_load)
def spX0_store : CSp := (false, 3, false, prX0_store, poX0_store)
def spX0_copy : CSp := (false, 2, false, prX0_copy, poX0_copy)
def spX0_drop : CSp := (false, 1, false, prX0_drop, poX0_drop)
def spX0_value : CSp := (false, 1, false, prX0_value, poX0_value)
def spX0_set : CSp := (false, 2, false, prX0_set, poX0_set)
def spX0_fields : CSp := (false, 1, false, prX0_fields, poX0_fields)
def spX0_place : CSp := (false, 1, false, prX0_place, poX0_place)
def spX0_colour : CSp := (false, 2, false, prX0_colour, poX0_colour)
def spX0_behind : CSp := (false, 2, false, prX0_behind, poX0_behind)
def spX0_collect : CSp := (false, 1, false, prX0_collect, poX0_collect)
def spX0_phase : CSp := (false, 0, false, prX0_phase, poX0_phase)
def spX0_stack : CSp := (false, 0, false, prX0_stack, poX0_stack)
def spX0_page : CSp := (false, 2, false, prX0_page, poX0_page)
def spX0_healed : CSp := (false, 0, false, prX0_healed, poX0_healed)
def spX0_moved : CSp := (false, 0, false, prX0_moved, poX0_moved)
def spX0_cycles : CSp := (false, 0, false, prX0_cycles, poX0_cycles)
def spX0_isRoot : CSp := (true, 1, false, prX0_isRoot, poX0_isRoot)
def spX0_pageOf : CSp := (true, 1, false, prX0_pageOf, poX0_pageOf)
def spX0_holdsNothing : CSp := (false, 1, false, prX0_holdsNothing, poX0_holdsNothing)
def spX0_fieldSlot : CSp := (false, 2, false, prX0_fieldSlot, poX0_fieldSlot)
def spX0_copySlot : CSp := (false, 2, true, prX0_copySlot, poX0_copySlot)
def spX0_goodColour : CSp := (false, 0, false, prX0_goodColour, poX0_goodColour)
def spX0_pageState : CSp := (false, 1, false, prX0_pageState, poX0_pageState)
def spX0_markedObjects : CSp := (false, 1, false, prX0_markedObjects, poX0_markedObjects)
def spX0_forwardings : CSp := (false, 1, false, prX0_forwardings, poX0_forwardings)
def spX0_takeRoom : CSp := (false, 1, false, prX0_takeRoom, poX0_takeRoom)
def spX0_leastFreePage : CSp := (false, 0, false, prX0_leastFreePage, poX0_leastFreePage)
def spX0_heal : CSp := (false, 1, true, prX0_heal, poX0_heal)
def spX0_healSlots : CSp := (false, 2, true, prX0_healSlots, poX0_healSlots)
def spX0_mark : CSp := (false, 1, true, prX0_mark, poX0_mark)
def spX0_moveAway : CSp := (false, 1, false, prX0_moveAway, poX0_moveAway)
def spX0_step : CSp := (false, 0, true, prX0_step, poX0_step)
def spX0_beginMarking : CSp := (false, 0, true, prX0_beginMarking, poX0_beginMarking)
def spX0_beginRelocating : CSp := (false, 0, true, prX0_beginRelocating, poX0_beginRelocating)
def spX0_judge : CSp := (false, 1, true, prX0_judge, poX0_judge)
def spX0_liveWords : CSp := (false, 1, false, prX0_liveWords, poX0_liveWords)
def spX0_becomeFree : CSp := (false, 1, true, prX0_becomeFree, poX0_becomeFree)
def spX0_relocateNext : CSp := (false, 0, true, prX0_relocateNext, poX0_relocateNext)
def spX0_leastPageOfSet : CSp := (false, 0, false, prX0_leastPageOfSet, poX0_leastPageOfSet)
def spX0_leastMarkedPlace : CSp := (false, 1, false, prX0_leastMarkedPlace, poX0_leastMarkedPlace)
def spX1_isRoot : CSp := (true, 1, false, prX1_isRoot, poX1_isRoot)
def spX1_slotOf : CSp := (true, 1, false, prX1_slotOf, poX1_slotOf)
def spX1_holds : CSp := (false, 1, false, prX1_holds, poX1_holds)
def spX1_good : CSp := (false, 0, false, prX1_good, poX1_good)
def spX1_room : CSp := (false, 1, false, prX1_room, poX1_room)
def spX1_release : CSp := (false, 1, true, prX1_release, poX1_release)
def spX1_move : CSp := (false, 1, false, prX1_move, poX1_move)
def spX1_mark : CSp := (false, 1, true, prX1_mark, poX1_mark)
def spX1_heal : CSp := (false, 1, true, prX1_heal, poX1_heal)
def spX1_healRoots : CSp := (false, 0, true, prX1_healRoots, poX1_healRoots)
def spX1_make : CSp := (false, 3, false, prX1_make, poX1_make)
def spX1_field : CSp := (false, 2, false, prX1_field, poX1_field)
def spX1_copySlot : CSp := (false, 2, true, prX1_copySlot, poX1_copySlot)
def spX1_load : CSp := (false, 3, false, prX1_load, poX1_load)
def spX1_store : CSp := (false, 3, false, prX1_store, poX1_store)
def spX1_copy : CSp := (false, 2, false, prX1_copy, poX1_copy)
def spX1_drop : CSp := (false, 1, false, prX1_drop, poX1_drop)
def spX1_value : CSp := (false, 1, false, prX1_value, poX1_value)
def spX1_set : CSp := (false, 2, false, prX1_set, poX1_set)
def spX1_fields : CSp := (false, 1, false, prX1_fields, poX1_fields)
def spX1_place : CSp := (false, 1, false, prX1_place, poX1_place)
def spX1_colour : CSp := (false, 2, false, prX1_colour, poX1_colour)
def spX1_behind : CSp := (false, 2, false, prX1_behind, poX1_behind)
def spX1_begin : CSp := (false, 0, true, prX1_begin, poX1_begin)
def spX1_markedIn : CSp := (false, 2, false, prX1_markedIn, poX1_markedIn)
def spX1_markOne : CSp := (false, 0, true, prX1_markOne, poX1_markOne)
def spX1_choose : CSp := (false, 0, true, prX1_choose, poX1_choose)
def spX1_leastInSet : CSp := (false, 0, false, prX1_leastInSet, poX1_leastInSet)
def spX1_relocate : CSp := (false, 1, true, prX1_relocate, poX1_relocate)
def spX1_step : CSp := (false, 0, true, prX1_step, poX1_step)
def spX1_collect : CSp := (false, 1, false, prX1_collect, poX1_collect)
def spX1_phase : CSp := (false, 0, false, prX1_phase, poX1_phase)
def spX1_stack : CSp := (false, 0, false, prX1_stack, poX1_stack)
def spX1_page : CSp := (false, 2, false, prX1_page, poX1_page)
def spX1_healed : CSp := (false, 0, false, prX1_healed, poX1_healed)
def spX1_moved : CSp := (false, 0, false, prX1_moved, poX1_moved)
def spX1_cycles : CSp := (false, 0, false, prX1_cycles, poX1_cycles)
def ctX0_make : List (Nat × CSp) := [(72, spX0_isRoot), (76, spX0_takeRoom), (80, spX0_goodColour)]
/-- the run that is owed of X0_make -/
def VX0_make : Prop := ∀ (g σ : Mo) (as : List Int), prX0_make g σ as → (en_avs false as).length ≤ 6 ∧ ∀ K : Mo → Nat → LoT → List AV → Prop, en_Cl SX0 0 flX0_make fpX0_make ctX0_make tX0_make 1 (poX0_make g σ as) K → K σ 0 (en_lo0 false as 6) []
def ctX0_load : List (Nat × CSp) := [(72, spX0_isRoot), (84, spX0_fieldSlot), (87, spX0_heal), (91, spX0_copySlot), (95, spX0_holdsNothing)]
/-- the run that is owed of X0_load -/
def VX0_load : Prop := ∀ (g σ : Mo) (as : List Int), prX0_load g σ as → (en_avs false as).length ≤ 5 ∧ ∀ K : Mo → Nat → LoT → List AV → Prop, en_Cl SX0 0 flX0_load fpX0_load ctX0_load tX0_load 1 (poX0_load g σ as) K → K σ 0 (en_lo0 false as 5) []
def ctX0_store : List (Nat × CSp) := [(72, spX0_isRoot), (84, spX0_fieldSlot), (91, spX0_copySlot)]
/-- the run that is owed of X0_store -/
def VX0_store : Prop := ∀ (g σ : Mo) (as : List Int), prX0_store g σ as → (en_avs false as).length ≤ 5 ∧ ∀ K : Mo → Nat → LoT → List AV → Prop, en_Cl SX0 0 flX0_store fpX0_store ctX0_store tX0_store 1 (poX0_store g σ as) K → K σ 0 (en_lo0 false as 5) []
def ctX0_copy : List (Nat × CSp) := [(72, spX0_isRoot), (91, spX0_copySlot)]
/-- the run that is owed of X0_copy -/
def VX0_copy : Prop := ∀ (g σ : Mo) (as : List Int), prX0_copy g σ as → (en_avs false as).length ≤ 3 ∧ ∀ K : Mo → Nat → LoT → List AV → Prop, en_Cl SX0 0 flX0_copy fpX0_copy ctX0_copy tX0_copy 2 (poX0_copy g σ as) K → K σ 0 (en_lo0 false as 3) []
def ctX0_drop : List (Nat × CSp) := [(72, spX0_isRoot), (95, spX0_holdsNothing)]
/-- the run that is owed of X0_drop -/
def VX0_drop : Prop := ∀ (g σ : Mo) (as : List Int), prX0_drop g σ as → (en_avs false as).length ≤ 2 ∧ ∀ K : Mo → Nat → LoT → List AV → Prop, en_Cl SX0 0 flX0_drop fpX0_drop ctX0_drop tX0_drop 2 (poX0_drop g σ as) K → K σ 0 (en_lo0 false as 2) []
def ctX0_value : List (Nat × CSp) := [(98, spX0_place)]
/-- the run that is owed of X0_value -/
def VX0_value : Prop := ∀ (g σ : Mo) (as : List Int), prX0_value g σ as → (en_avs false as).length ≤ 3 ∧ ∀ K : Mo → Nat → LoT → List AV → Prop, en_Cl SX0 0 flX0_value fpX0_value ctX0_value tX0_value 1 (poX0_value g σ as) K → K σ 0 (en_lo0 false as 3) []
def ctX0_set : List (Nat × CSp) := [(98, spX0_place)]
/-- the run that is owed of X0_set -/
def VX0_set : Prop := ∀ (g σ : Mo) (as : List Int), prX0_set g σ as → (en_avs false as).length ≤ 4 ∧ ∀ K : Mo → Nat → LoT → List AV → Prop, en_Cl SX0 0 flX0_set fpX0_set ctX0_set tX0_set 2 (poX0_set g σ as) K → K σ 0 (en_lo0 false as 4) []
def ctX0_fields : List (Nat × CSp) := [(98, spX0_place)]
/-- the run that is owed of X0_fields -/
def VX0_fields : Prop := ∀ (g σ : Mo) (as : List Int), prX0_fields g σ as → (en_avs false as).length ≤ 3 ∧ ∀ K : Mo → Nat → LoT → List AV → Prop, en_Cl SX0 0 flX0_fields fpX0_fields ctX0_fields tX0_fields 1 (poX0_fields g σ as) K → K σ 0 (en_lo0 false as 3) []
def ctX0_place : List (Nat × CSp) := [(72, spX0_isRoot), (95, spX0_holdsNothing)]
/-- the run that is owed of X0_place -/
def VX0_place : Prop := ∀ (g σ : Mo) (as : List Int), prX0_place g σ as → (en_avs false as).length ≤ 2 ∧ ∀ K : Mo → Nat → LoT → List AV → Prop, en_Cl SX0 0 flX0_place fpX0_place ctX0_place tX0_place 1 (poX0_place g σ as) K → K σ 0 (en_lo0 false as 2) []
def ctX0_colour : List (Nat × CSp) := [(84, spX0_fieldSlot)]
/-- the run that is owed of X0_colour -/
def VX0_colour : Prop := ∀ (g σ : Mo) (as : List Int), prX0_colour g σ as → (en_avs false as).length ≤ 4 ∧ ∀ K : Mo → Nat → LoT → List AV → Prop, en_Cl SX0 0 flX0_colour fpX0_colour ctX0_colour tX0_colour 1 (poX0_colour g σ as) K → K σ 0 (en_lo0 false as 4) []
def ctX0_behind : List (Nat × CSp) := [(84, spX0_fieldSlot), (95, spX0_holdsNothing)]
/-- the run that is owed of X0_behind -/
def VX0_behind : Prop := ∀ (g σ : Mo) (as : List Int), prX0_behind g σ as → (en_avs false as).length ≤ 4 ∧ ∀ K : Mo → Nat → LoT → List AV → Prop, en_Cl SX0 0 flX0_behind fpX0_behind ctX0_behind tX0_behind 1 (poX0_behind g σ as) K → K σ 0 (en_lo0 false as 4) []
def ctX0_collect : List (Nat × CSp) := [(101, spX0_step)]
/-- the run that is owed of X0_collect -/
def VX0_collect : Prop := ∀ (g σ : Mo) (as : List Int), prX0_collect g σ as → (en_avs false as).length ≤ 3 ∧ ∀ K : Mo → Nat → LoT → List AV → Prop, en_Cl SX0 0 flX0_collect fpX0_collect ctX0_collect tX0_collect 1 (poX0_collect g σ as) K → K σ 0 (en_lo0 false as 3) []
def ctX0_phase : List (Nat × CSp) := []
/-- the run that is owed of X0_phase -/
def VX0_phase : Prop := ∀ (g σ : Mo) (as : List Int), prX0_phase g σ as → (en_avs false as).length ≤ 1 ∧ ∀ K : Mo → Nat → LoT → List AV → Prop, en_Cl SX0 0 flX0_phase fpX0_phase ctX0_phase tX0_phase 1 (poX0_phase g σ as) K → K σ 0 (en_lo0 false as 1) []
def ctX0_stack : List (Nat × CSp) := []
/-- the run that is owed of X0_stack -/
def VX0_stack : Prop := ∀ (g σ : Mo) (as : List Int), prX0_stack g σ as → (en_avs false as).length ≤ 1 ∧ ∀ K : Mo → Nat → LoT → List AV → Prop, en_Cl SX0 0 flX0_stack fpX0_stack ctX0_stack tX0_stack 1 (poX0_stack g σ as) K → K σ 0 (en_lo0 false as 1) []
def ctX0_page : List (Nat × CSp) := [(104, spX0_pageState), (107, spX0_markedObjects), (110, spX0_forwardings)]
/-- the run that is owed of X0_page -/
def VX0_page : Prop := ∀ (g σ : Mo) (as : List Int), prX0_page g σ as → (en_avs false as).length ≤ 3 ∧ ∀ K : Mo → Nat → LoT → List AV → Prop, en_Cl SX0 0 flX0_page fpX0_page ctX0_page tX0_page 1 (poX0_page g σ as) K → K σ 0 (en_lo0 false as 3) []
def ctX0_healed : List (Nat × CSp) := []
/-- the run that is owed of X0_healed -/
def VX0_healed : Prop := ∀ (g σ : Mo) (as : List Int), prX0_healed g σ as → (en_avs false as).length ≤ 1 ∧ ∀ K : Mo → Nat → LoT → List AV → Prop, en_Cl SX0 0 flX0_healed fpX0_healed ctX0_healed tX0_healed 1 (poX0_healed g σ as) K → K σ 0 (en_lo0 false as 1) []
def ctX0_moved : List (Nat × CSp) := []
/-- the run that is owed of X0_moved -/
def VX0_moved : Prop := ∀ (g σ : Mo) (as : List Int), prX0_moved g σ as → (en_avs false as).length ≤ 1 ∧ ∀ K : Mo → Nat → LoT → List AV → Prop, en_Cl SX0 0 flX0_moved fpX0_moved ctX0_moved tX0_moved 1 (poX0_moved g σ as) K → K σ 0 (en_lo0 false as 1) []
def ctX0_cycles : List (Nat × CSp) := []
/-- the run that is owed of X0_cycles -/
def VX0_cycles : Prop := ∀ (g σ : Mo) (as : List Int), prX0_cycles g σ as → (en_avs false as).length ≤ 1 ∧ ∀ K : Mo → Nat → LoT → List AV → Prop, en_Cl SX0 0 flX0_cycles fpX0_cycles ctX0_cycles tX0_cycles 1 (poX0_cycles g σ as) K → K σ 0 (en_lo0 false as 1) []
def ctX0_isRoot : List (Nat × CSp) := []
/-- the run that is owed of X0_isRoot -/
def VX0_isRoot : Prop := ∀ (g σ : Mo) (as : List Int), prX0_isRoot g σ as → (en_avs true as).length ≤ 1 ∧ ∀ K : Mo → Nat → LoT → List AV → Prop, en_Cl SX0 0 flX0_isRoot fpX0_isRoot ctX0_isRoot tX0_isRoot 2 (poX0_isRoot g σ as) K → K σ 0 (en_lo0 true as 1) []
def ctX0_pageOf : List (Nat × CSp) := []
/-- the run that is owed of X0_pageOf -/
def VX0_pageOf : Prop := ∀ (g σ : Mo) (as : List Int), prX0_pageOf g σ as → (en_avs true as).length ≤ 1 ∧ ∀ K : Mo → Nat → LoT → List AV → Prop, en_Cl SX0 0 flX0_pageOf fpX0_pageOf ctX0_pageOf tX0_pageOf 1 (poX0_pageOf g σ as) K → K σ 0 (en_lo0 true as 1) []
def ctX0_holdsNothing : List (Nat × CSp) := []
/-- the run that is owed of X0_holdsNothing -/
def VX0_holdsNothing : Prop := ∀ (g σ : Mo) (as : List Int), prX0_holdsNothing g σ as → (en_avs false as).length ≤ 2 ∧ ∀ K : Mo → Nat → LoT → List AV → Prop, en_Cl SX0 0 flX0_holdsNothing fpX0_holdsNothing ctX0_holdsNothing tX0_holdsNothing 2 (poX0_holdsNothing g σ as) K → K σ 0 (en_lo0 false as 2) []
def ctX0_fieldSlot : List (Nat × CSp) := [(98, spX0_place)]
/-- the run that is owed of X0_fieldSlot -/
def VX0_fieldSlot : Prop := ∀ (g σ : Mo) (as : List Int), prX0_fieldSlot g σ as → (en_avs false as).length ≤ 4 ∧ ∀ K : Mo → Nat → LoT → List AV → Prop, en_Cl SX0 0 flX0_fieldSlot fpX0_fieldSlot ctX0_fieldSlot tX0_fieldSlot 1 (poX0_fieldSlot g σ as) K → K σ 0 (en_lo0 false as 4) []
def ctX0_copySlot : List (Nat × CSp) := []
/-- the run that is owed of X0_copySlot -/
def VX0_copySlot : Prop := ∀ (g σ : Mo) (as : List Int), prX0_copySlot g σ as → (en_avs false as).length ≤ 3 ∧ ∀ K : Mo → Nat → LoT → List AV → Prop, en_Cl SX0 0 flX0_copySlot fpX0_copySlot ctX0_copySlot tX0_copySlot 0 (poX0_copySlot g σ as) K → K σ 0 (en_lo0 false as 3) []
def ctX0_goodColour : List (Nat × CSp) := []
/-- the run that is owed of X0_goodColour -/
def VX0_goodColour : Prop := ∀ (g σ : Mo) (as : List Int), prX0_goodColour g σ as → (en_avs false as).length ≤ 1 ∧ ∀ K : Mo → Nat → LoT → List AV → Prop, en_Cl SX0 0 flX0_goodColour fpX0_goodColour ctX0_goodColour tX0_goodColour 1 (poX0_goodColour g σ as) K → K σ 0 (en_lo0 false as 1) []
def ctX0_pageState : List (Nat × CSp) := []
/-- the run that is owed of X0_pageState -/
def VX0_pageState : Prop := ∀ (g σ : Mo) (as : List Int), prX0_pageState g σ as → (en_avs false as).length ≤ 2 ∧ ∀ K : Mo → Nat → LoT → List AV → Prop, en_Cl SX0 0 flX0_pageState fpX0_pageState ctX0_pageState tX0_pageState 1 (poX0_pageState g σ as) K → K σ 0 (en_lo0 false as 2) []
def ctX0_markedObjects : List (Nat × CSp) := []
/-- the run that is owed of X0_markedObjects -/
def VX0_markedObjects : Prop := ∀ (g σ : Mo) (as : List Int), prX0_markedObjects g σ as → (en_avs false as).length ≤ 4 ∧ ∀ K : Mo → Nat → LoT → List AV → Prop, en_Cl SX0 0 flX0_markedObjects fpX0_markedObjects ctX0_markedObjects tX0_markedObjects 1 (poX0_markedObjects g σ as) K → K σ 0 (en_lo0 false as 4) []
def ctX0_forwardings : List (Nat × CSp) := []
/-- the run that is owed of X0_forwardings -/
def VX0_forwardings : Prop := ∀ (g σ : Mo) (as : List Int), prX0_forwardings g σ as → (en_avs false as).length ≤ 4 ∧ ∀ K : Mo → Nat → LoT → List AV → Prop, en_Cl SX0 0 flX0_forwardings fpX0_forwardings ctX0_forwardings tX0_forwardings 1 (poX0_forwardings g σ as) K → K σ 0 (en_lo0 false as 4) []
def ctX0_takeRoom : List (Nat × CSp) := [(113, spX0_leastFreePage)]
/-- the run that is owed of X0_takeRoom -/
def VX0_takeRoom : Prop := ∀ (g σ : Mo) (as : List Int), prX0_takeRoom g σ as → (en_avs false as).length ≤ 3 ∧ ∀ K : Mo → Nat → LoT → List AV → Prop, en_Cl SX0 0 flX0_takeRoom fpX0_takeRoom ctX0_takeRoom tX0_takeRoom 1 (poX0_takeRoom g σ as) K → K σ 0 (en_lo0 false as 3) []
def ctX0_leastFreePage : List (Nat × CSp) := []
/-- the run that is owed of X0_leastFreePage -/
def VX0_leastFreePage : Prop := ∀ (g σ : Mo) (as : List Int), prX0_leastFreePage g σ as → (en_avs false as).length ≤ 2 ∧ ∀ K : Mo → Nat → LoT → List AV → Prop, en_Cl SX0 0 flX0_leastFreePage fpX0_leastFreePage ctX0_leastFreePage tX0_leastFreePage 1 (poX0_leastFreePage g σ as) K → K σ 0 (en_lo0 false as 2) []
def ctX0_heal : List (Nat × CSp) := [(80, spX0_goodColour), (116, spX0_mark), (119, spX0_pageOf), (122, spX0_moveAway)]
/-- the run that is owed of X0_heal -/
def VX0_heal : Prop := ∀ (g σ : Mo) (as : List Int), prX0_heal g σ as → (en_avs false as).length ≤ 6 ∧ ∀ K : Mo → Nat → LoT → List AV → Prop, en_Cl SX0 0 flX0_heal fpX0_heal ctX0_heal tX0_heal 0 (poX0_heal g σ as) K → K σ 0 (en_lo0 false as 6) []
def ctX0_healSlots : List (Nat × CSp) := [(87, spX0_heal)]
/-- the run that is owed of X0_healSlots -/
def VX0_healSlots : Prop := ∀ (g σ : Mo) (as : List Int), prX0_healSlots g σ as → (en_avs false as).length ≤ 4 ∧ ∀ K : Mo → Nat → LoT → List AV → Prop, en_Cl SX0 0 flX0_healSlots fpX0_healSlots ctX0_healSlots tX0_healSlots 0 (poX0_healSlots g σ as) K → K σ 0 (en_lo0 false as 4) []
def ctX0_mark : List (Nat × CSp) := []
/-- the run that is owed of X0_mark -/
def VX0_mark : Prop := ∀ (g σ : Mo) (as : List Int), prX0_mark g σ as → (en_avs false as).length ≤ 2 ∧ ∀ K : Mo → Nat → LoT → List AV → Prop, en_Cl SX0 0 flX0_mark fpX0_mark ctX0_mark tX0_mark 0 (poX0_mark g σ as) K → K σ 0 (en_lo0 false as 2) []
def ctX0_moveAway : List (Nat × CSp) := [(76, spX0_takeRoom), (119, spX0_pageOf), (91, spX0_copySlot)]
/-- the run that is owed of X0_moveAway -/
def VX0_moveAway : Prop := ∀ (g σ : Mo) (as : List Int), prX0_moveAway g σ as → (en_avs false as).length ≤ 5 ∧ ∀ K : Mo → Nat → LoT → List AV → Prop, en_Cl SX0 0 flX0_moveAway fpX0_moveAway ctX0_moveAway tX0_moveAway 1 (poX0_moveAway g σ as) K → K σ 0 (en_lo0 false as 5) []
def ctX0_step : List (Nat × CSp) := [(125, spX0_beginMarking), (128, spX0_healSlots), (131, spX0_relocateNext), (134, spX0_beginRelocating)]
/-- the run that is owed of X0_step -/
def VX0_step : Prop := ∀ (g σ : Mo) (as : List Int), prX0_step g σ as → (en_avs false as).length ≤ 2 ∧ ∀ K : Mo → Nat → LoT → List AV → Prop, en_Cl SX0 0 flX0_step fpX0_step ctX0_step tX0_step 0 (poX0_step g σ as) K → K σ 0 (en_lo0 false as 2) []
def ctX0_beginMarking : List (Nat × CSp) := []
/-- the run that is owed of X0_beginMarking -/
def VX0_beginMarking : Prop := ∀ (g σ : Mo) (as : List Int), prX0_beginMarking g σ as → (en_avs false as).length ≤ 2 ∧ ∀ K : Mo → Nat → LoT → List AV → Prop, en_Cl SX0 0 flX0_beginMarking fpX0_beginMarking ctX0_beginMarking tX0_beginMarking 0 (poX0_beginMarking g σ as) K → K σ 0 (en_lo0 false as 2) []
def ctX0_beginRelocating : List (Nat × CSp) := [(137, spX0_judge)]
/-- the run that is owed of X0_beginRelocating -/
def VX0_beginRelocating : Prop := ∀ (g σ : Mo) (as : List Int), prX0_beginRelocating g σ as → (en_avs false as).length ≤ 2 ∧ ∀ K : Mo → Nat → LoT → List AV → Prop, en_Cl SX0 0 flX0_beginRelocating fpX0_beginRelocating ctX0_beginRelocating tX0_beginRelocating 0 (poX0_beginRelocating g σ as) K → K σ 0 (en_lo0 false as 2) []
def ctX0_judge : List (Nat × CSp) := [(140, spX0_liveWords), (143, spX0_becomeFree)]
/-- the run that is owed of X0_judge -/
def VX0_judge : Prop := ∀ (g σ : Mo) (as : List Int), prX0_judge g σ as → (en_avs false as).length ≤ 3 ∧ ∀ K : Mo → Nat → LoT → List AV → Prop, en_Cl SX0 0 flX0_judge fpX0_judge ctX0_judge tX0_judge 0 (poX0_judge g σ as) K → K σ 0 (en_lo0 false as 3) []
def ctX0_liveWords : List (Nat × CSp) := []
/-- the run that is owed of X0_liveWords -/
def VX0_liveWords : Prop := ∀ (g σ : Mo) (as : List Int), prX0_liveWords g σ as → (en_avs false as).length ≤ 5 ∧ ∀ K : Mo → Nat → LoT → List AV → Prop, en_Cl SX0 0 flX0_liveWords fpX0_liveWords ctX0_liveWords tX0_liveWords 1 (poX0_liveWords g σ as) K → K σ 0 (en_lo0 false as 5) []
def ctX0_becomeFree : List (Nat × CSp) := []
/-- the run that is owed of X0_becomeFree -/
def VX0_becomeFree : Prop := ∀ (g σ : Mo) (as : List Int), prX0_becomeFree g σ as → (en_avs false as).length ≤ 2 ∧ ∀ K : Mo → Nat → LoT → List AV → Prop, en_Cl SX0 0 flX0_becomeFree fpX0_becomeFree ctX0_becomeFree tX0_becomeFree 0 (poX0_becomeFree g σ as) K → K σ 0 (en_lo0 false as 2) []
def ctX0_relocateNext : List (Nat × CSp) := [(146, spX0_leastPageOfSet), (149, spX0_leastMarkedPlace), (122, spX0_moveAway), (143, spX0_becomeFree)]
/-- the run that is owed of X0_relocateNext -/
def VX0_relocateNext : Prop := ∀ (g σ : Mo) (as : List Int), prX0_relocateNext g σ as → (en_avs false as).length ≤ 3 ∧ ∀ K : Mo → Nat → LoT → List AV → Prop, en_Cl SX0 0 flX0_relocateNext fpX0_relocateNext ctX0_relocateNext tX0_relocateNext 0 (poX0_relocateNext g σ as) K → K σ 0 (en_lo0 false as 3) []
def ctX0_leastPageOfSet : List (Nat × CSp) := []
/-- the run that is owed of X0_leastPageOfSet -/
def VX0_leastPageOfSet : Prop := ∀ (g σ : Mo) (as : List Int), prX0_leastPageOfSet g σ as → (en_avs false as).length ≤ 2 ∧ ∀ K : Mo → Nat → LoT → List AV → Prop, en_Cl SX0 0 flX0_leastPageOfSet fpX0_leastPageOfSet ctX0_leastPageOfSet tX0_leastPageOfSet 1 (poX0_leastPageOfSet g σ as) K → K σ 0 (en_lo0 false as 2) []
def ctX0_leastMarkedPlace : List (Nat × CSp) := []
/-- the run that is owed of X0_leastMarkedPlace -/
def VX0_leastMarkedPlace : Prop := ∀ (g σ : Mo) (as : List Int), prX0_leastMarkedPlace g σ as → (en_avs false as).length ≤ 3 ∧ ∀ K : Mo → Nat → LoT → List AV → Prop, en_Cl SX0 0 flX0_leastMarkedPlace fpX0_leastMarkedPlace ctX0_leastMarkedPlace tX0_leastMarkedPlace 1 (poX0_leastMarkedPlace g σ as) K → K σ 0 (en_lo0 false as 3) []
def ctX1_isRoot : List (Nat × CSp) := []
/-- the run that is owed of X1_isRoot -/
def VX1_isRoot : Prop := ∀ (g σ : Mo) (as : List Int), prX1_isRoot g σ as → (en_avs true as).length ≤ 1 ∧ ∀ K : Mo → Nat → LoT → List AV → Prop, en_Cl SX1 1 flX1_isRoot fpX1_isRoot ctX1_isRoot tX1_isRoot 2 (poX1_isRoot g σ as) K → K σ 0 (en_lo0 true as 1) []
def ctX1_slotOf : List (Nat × CSp) := []
/-- the run that is owed of X1_slotOf -/
def VX1_slotOf : Prop := ∀ (g σ : Mo) (as : List Int), prX1_slotOf g σ as → (en_avs true as).length ≤ 1 ∧ ∀ K : Mo → Nat → LoT → List AV → Prop, en_Cl SX1 1 flX1_slotOf fpX1_slotOf ctX1_slotOf tX1_slotOf 1 (poX1_slotOf g σ as) K → K σ 0 (en_lo0 true as 1) []
def ctX1_holds : List (Nat × CSp) := [(54, spX1_slotOf)]
/-- the run that is owed of X1_holds -/
def VX1_holds : Prop := ∀ (g σ : Mo) (as : List Int), prX1_holds g σ as → (en_avs false as).length ≤ 2 ∧ ∀ K : Mo → Nat → LoT → List AV → Prop, en_Cl SX1 1 flX1_holds fpX1_holds ctX1_holds tX1_holds 2 (poX1_holds g σ as) K → K σ 0 (en_lo0 false as 2) []
def ctX1_good : List (Nat × CSp) := []
/-- the run that is owed of X1_good -/
def VX1_good : Prop := ∀ (g σ : Mo) (as : List Int), prX1_good g σ as → (en_avs false as).length ≤ 1 ∧ ∀ K : Mo → Nat → LoT → List AV → Prop, en_Cl SX1 1 flX1_good fpX1_good ctX1_good tX1_good 1 (poX1_good g σ as) K → K σ 0 (en_lo0 false as 1) []
def ctX1_room : List (Nat × CSp) := []
/-- the run that is owed of X1_room -/
def VX1_room : Prop := ∀ (g σ : Mo) (as : List Int), prX1_room g σ as → (en_avs false as).length ≤ 3 ∧ ∀ K : Mo → Nat → LoT → List AV → Prop, en_Cl SX1 1 flX1_room fpX1_room ctX1_room tX1_room 1 (poX1_room g σ as) K → K σ 0 (en_lo0 false as 3) []
def ctX1_release : List (Nat × CSp) := []
/-- the run that is owed of X1_release -/
def VX1_release : Prop := ∀ (g σ : Mo) (as : List Int), prX1_release g σ as → (en_avs false as).length ≤ 3 ∧ ∀ K : Mo → Nat → LoT → List AV → Prop, en_Cl SX1 1 flX1_release fpX1_release ctX1_release tX1_release 0 (poX1_release g σ as) K → K σ 0 (en_lo0 false as 3) []
def ctX1_move : List (Nat × CSp) := [(64, spX1_room)]
/-- the run that is owed of X1_move -/
def VX1_move : Prop := ∀ (g σ : Mo) (as : List Int), prX1_move g σ as → (en_avs false as).length ≤ 4 ∧ ∀ K : Mo → Nat → LoT → List AV → Prop, en_Cl SX1 1 flX1_move fpX1_move ctX1_move tX1_move 1 (poX1_move g σ as) K → K σ 0 (en_lo0 false as 4) []
def ctX1_mark : List (Nat × CSp) := []
/-- the run that is owed of X1_mark -/
def VX1_mark : Prop := ∀ (g σ : Mo) (as : List Int), prX1_mark g σ as → (en_avs false as).length ≤ 2 ∧ ∀ K : Mo → Nat → LoT → List AV → Prop, en_Cl SX1 1 flX1_mark fpX1_mark ctX1_mark tX1_mark 0 (poX1_mark g σ as) K → K σ 0 (en_lo0 false as 2) []
def ctX1_heal : List (Nat × CSp) := [(73, spX1_good), (80, spX1_move), (83, spX1_mark)]
/-- the run that is owed of X1_heal -/
def VX1_heal : Prop := ∀ (g σ : Mo) (as : List Int), prX1_heal g σ as → (en_avs false as).length ≤ 4 ∧ ∀ K : Mo → Nat → LoT → List AV → Prop, en_Cl SX1 1 flX1_heal fpX1_heal ctX1_heal tX1_heal 0 (poX1_heal g σ as) K → K σ 0 (en_lo0 false as 4) []
def ctX1_healRoots : List (Nat × CSp) := [(54, spX1_slotOf), (87, spX1_heal)]
/-- the run that is owed of X1_healRoots -/
def VX1_healRoots : Prop := ∀ (g σ : Mo) (as : List Int), prX1_healRoots g σ as → (en_avs false as).length ≤ 2 ∧ ∀ K : Mo → Nat → LoT → List AV → Prop, en_Cl SX1 1 flX1_healRoots fpX1_healRoots ctX1_healRoots tX1_healRoots 0 (poX1_healRoots g σ as) K → K σ 0 (en_lo0 false as 2) []
def ctX1_make : List (Nat × CSp) := [(90, spX1_isRoot), (64, spX1_room), (54, spX1_slotOf), (73, spX1_good)]
/-- the run that is owed of X1_make -/
def VX1_make : Prop := ∀ (g σ : Mo) (as : List Int), prX1_make g σ as → (en_avs false as).length ≤ 6 ∧ ∀ K : Mo → Nat → LoT → List AV → Prop, en_Cl SX1 1 flX1_make fpX1_make ctX1_make tX1_make 1 (poX1_make g σ as) K → K σ 0 (en_lo0 false as 6) []
def ctX1_field : List (Nat × CSp) := [(90, spX1_isRoot), (94, spX1_holds), (54, spX1_slotOf)]
/-- the run that is owed of X1_field -/
def VX1_field : Prop := ∀ (g σ : Mo) (as : List Int), prX1_field g σ as → (en_avs false as).length ≤ 4 ∧ ∀ K : Mo → Nat → LoT → List AV → Prop, en_Cl SX1 1 flX1_field fpX1_field ctX1_field tX1_field 1 (poX1_field g σ as) K → K σ 0 (en_lo0 false as 4) []
def ctX1_copySlot : List (Nat × CSp) := []
/-- the run that is owed of X1_copySlot -/
def VX1_copySlot : Prop := ∀ (g σ : Mo) (as : List Int), prX1_copySlot g σ as → (en_avs false as).length ≤ 3 ∧ ∀ K : Mo → Nat → LoT → List AV → Prop, en_Cl SX1 1 flX1_copySlot fpX1_copySlot ctX1_copySlot tX1_copySlot 0 (poX1_copySlot g σ as) K → K σ 0 (en_lo0 false as 3) []
def ctX1_load : List (Nat × CSp) := [(90, spX1_isRoot), (97, spX1_field), (87, spX1_heal), (54, spX1_slotOf), (101, spX1_copySlot)]
/-- the run that is owed of X1_load -/
def VX1_load : Prop := ∀ (g σ : Mo) (as : List Int), prX1_load g σ as → (en_avs false as).length ≤ 5 ∧ ∀ K : Mo → Nat → LoT → List AV → Prop, en_Cl SX1 1 flX1_load fpX1_load ctX1_load tX1_load 1 (poX1_load g σ as) K → K σ 0 (en_lo0 false as 5) []
def ctX1_store : List (Nat × CSp) := [(90, spX1_isRoot), (97, spX1_field), (54, spX1_slotOf), (101, spX1_copySlot)]
/-- the run that is owed of X1_store -/
def VX1_store : Prop := ∀ (g σ : Mo) (as : List Int), prX1_store g σ as → (en_avs false as).length ≤ 5 ∧ ∀ K : Mo → Nat → LoT → List AV → Prop, en_Cl SX1 1 flX1_store fpX1_store ctX1_store tX1_store 1 (poX1_store g σ as) K → K σ 0 (en_lo0 false as 5) []
def ctX1_copy : List (Nat × CSp) := [(90, spX1_isRoot), (54, spX1_slotOf), (101, spX1_copySlot)]
/-- the run that is owed of X1_copy -/
def VX1_copy : Prop := ∀ (g σ : Mo) (as : List Int), prX1_copy g σ as → (en_avs false as).length ≤ 3 ∧ ∀ K : Mo → Nat → LoT → List AV → Prop, en_Cl SX1 1 flX1_copy fpX1_copy ctX1_copy tX1_copy 2 (poX1_copy g σ as) K → K σ 0 (en_lo0 false as 3) []
def ctX1_drop : List (Nat × CSp) := [(90, spX1_isRoot), (94, spX1_holds), (54, spX1_slotOf)]
/-- the run that is owed of X1_drop -/
def VX1_drop : Prop := ∀ (g σ : Mo) (as : List Int), prX1_drop g σ as → (en_avs false as).length ≤ 2 ∧ ∀ K : Mo → Nat → LoT → List AV → Prop, en_Cl SX1 1 flX1_drop fpX1_drop ctX1_drop tX1_drop 2 (poX1_drop g σ as) K → K σ 0 (en_lo0 false as 2) []
def ctX1_value : List (Nat × CSp) := [(90, spX1_isRoot), (94, spX1_holds), (54, spX1_slotOf)]
/-- the run that is owed of X1_value -/
def VX1_value : Prop := ∀ (g σ : Mo) (as : List Int), prX1_value g σ as → (en_avs false as).length ≤ 2 ∧ ∀ K : Mo → Nat → LoT → List AV → Prop, en_Cl SX1 1 flX1_value fpX1_value ctX1_value tX1_value 1 (poX1_value g σ as) K → K σ 0 (en_lo0 false as 2) []
def ctX1_set : List (Nat × CSp) := [(90, spX1_isRoot), (94, spX1_holds), (54, spX1_slotOf)]
/-- the run that is owed of X1_set -/
def VX1_set : Prop := ∀ (g σ : Mo) (as : List Int), prX1_set g σ as → (en_avs false as).length ≤ 3 ∧ ∀ K : Mo → Nat → LoT → List AV → Prop, en_Cl SX1 1 flX1_set fpX1_set ctX1_set tX1_set 2 (poX1_set g σ as) K → K σ 0 (en_lo0 false as 3) []
def ctX1_fields : List (Nat × CSp) := [(90, spX1_isRoot), (94, spX1_holds), (54, spX1_slotOf)]
/-- the run that is owed of X1_fields -/
def VX1_fields : Prop := ∀ (g σ : Mo) (as : List Int), prX1_fields g σ as → (en_avs false as).length ≤ 2 ∧ ∀ K : Mo → Nat → LoT → List AV → Prop, en_Cl SX1 1 flX1_fields fpX1_fields ctX1_fields tX1_fields 1 (poX1_fields g σ as) K → K σ 0 (en_lo0 false as 2) []
def ctX1_place : List (Nat × CSp) := [(90, spX1_isRoot), (94, spX1_holds), (54, spX1_slotOf)]
/-- the run that is owed of X1_place -/
def VX1_place : Prop := ∀ (g σ : Mo) (as : List Int), prX1_place g σ as → (en_avs false as).length ≤ 2 ∧ ∀ K : Mo → Nat → LoT → List AV → Prop, en_Cl SX1 1 flX1_place fpX1_place ctX1_place tX1_place 1 (poX1_place g σ as) K → K σ 0 (en_lo0 false as 2) []
def ctX1_colour : List (Nat × CSp) := [(97, spX1_field)]
/-- the run that is owed of X1_colour -/
def VX1_colour : Prop := ∀ (g σ : Mo) (as : List Int), prX1_colour g σ as → (en_avs false as).length ≤ 4 ∧ ∀ K : Mo → Nat → LoT → List AV → Prop, en_Cl SX1 1 flX1_colour fpX1_colour ctX1_colour tX1_colour 1 (poX1_colour g σ as) K → K σ 0 (en_lo0 false as 4) []
def ctX1_behind : List (Nat × CSp) := [(97, spX1_field)]
/-- the run that is owed of X1_behind -/
def VX1_behind : Prop := ∀ (g σ : Mo) (as : List Int), prX1_behind g σ as → (en_avs false as).length ≤ 4 ∧ ∀ K : Mo → Nat → LoT → List AV → Prop, en_Cl SX1 1 flX1_behind fpX1_behind ctX1_behind tX1_behind 1 (poX1_behind g σ as) K → K σ 0 (en_lo0 false as 4) []
def ctX1_begin : List (Nat × CSp) := [(105, spX1_healRoots)]
/-- the run that is owed of X1_begin -/
def VX1_begin : Prop := ∀ (g σ : Mo) (as : List Int), prX1_begin g σ as → (en_avs false as).length ≤ 2 ∧ ∀ K : Mo → Nat → LoT → List AV → Prop, en_Cl SX1 1 flX1_begin fpX1_begin ctX1_begin tX1_begin 0 (poX1_begin g σ as) K → K σ 0 (en_lo0 false as 2) []
def ctX1_markedIn : List (Nat × CSp) := []
/-- the run that is owed of X1_markedIn -/
def VX1_markedIn : Prop := ∀ (g σ : Mo) (as : List Int), prX1_markedIn g σ as → (en_avs false as).length ≤ 5 ∧ ∀ K : Mo → Nat → LoT → List AV → Prop, en_Cl SX1 1 flX1_markedIn fpX1_markedIn ctX1_markedIn tX1_markedIn 1 (poX1_markedIn g σ as) K → K σ 0 (en_lo0 false as 5) []
def ctX1_markOne : List (Nat × CSp) := [(87, spX1_heal)]
/-- the run that is owed of X1_markOne -/
def VX1_markOne : Prop := ∀ (g σ : Mo) (as : List Int), prX1_markOne g σ as → (en_avs false as).length ≤ 3 ∧ ∀ K : Mo → Nat → LoT → List AV → Prop, en_Cl SX1 1 flX1_markOne fpX1_markOne ctX1_markOne tX1_markOne 0 (poX1_markOne g σ as) K → K σ 0 (en_lo0 false as 3) []
def ctX1_choose : List (Nat × CSp) := [(108, spX1_markedIn), (112, spX1_release), (105, spX1_healRoots)]
/-- the run that is owed of X1_choose -/
def VX1_choose : Prop := ∀ (g σ : Mo) (as : List Int), prX1_choose g σ as → (en_avs false as).length ≤ 3 ∧ ∀ K : Mo → Nat → LoT → List AV → Prop, en_Cl SX1 1 flX1_choose fpX1_choose ctX1_choose tX1_choose 0 (poX1_choose g σ as) K → K σ 0 (en_lo0 false as 3) []
def ctX1_leastInSet : List (Nat × CSp) := []
/-- the run that is owed of X1_leastInSet -/
def VX1_leastInSet : Prop := ∀ (g σ : Mo) (as : List Int), prX1_leastInSet g σ as → (en_avs false as).length ≤ 2 ∧ ∀ K : Mo → Nat → LoT → List AV → Prop, en_Cl SX1 1 flX1_leastInSet fpX1_leastInSet ctX1_leastInSet tX1_leastInSet 1 (poX1_leastInSet g σ as) K → K σ 0 (en_lo0 false as 2) []
def ctX1_relocate : List (Nat × CSp) := [(80, spX1_move), (108, spX1_markedIn), (112, spX1_release)]
/-- the run that is owed of X1_relocate -/
def VX1_relocate : Prop := ∀ (g σ : Mo) (as : List Int), prX1_relocate g σ as → (en_avs false as).length ≤ 3 ∧ ∀ K : Mo → Nat → LoT → List AV → Prop, en_Cl SX1 1 flX1_relocate fpX1_relocate ctX1_relocate tX1_relocate 0 (poX1_relocate g σ as) K → K σ 0 (en_lo0 false as 3) []
def ctX1_step : List (Nat × CSp) := [(115, spX1_begin), (118, spX1_markOne), (121, spX1_choose), (124, spX1_leastInSet), (127, spX1_relocate)]
/-- the run that is owed of X1_step -/
def VX1_step : Prop := ∀ (g σ : Mo) (as : List Int), prX1_step g σ as → (en_avs false as).length ≤ 1 ∧ ∀ K : Mo → Nat → LoT → List AV → Prop, en_Cl SX1 1 flX1_step fpX1_step ctX1_step tX1_step 0 (poX1_step g σ as) K → K σ 0 (en_lo0 false as 1) []
def ctX1_collect : List (Nat × CSp) := [(130, spX1_step)]
/-- the run that is owed of X1_collect -/
def VX1_collect : Prop := ∀ (g σ : Mo) (as : List Int), prX1_collect g σ as → (en_avs false as).length ≤ 3 ∧ ∀ K : Mo → Nat → LoT → List AV → Prop, en_Cl SX1 1 flX1_collect fpX1_collect ctX1_collect tX1_collect 1 (poX1_collect g σ as) K → K σ 0 (en_lo0 false as 3) []
def ctX1_phase : List (Nat × CSp) := []
/-- the run that is owed of X1_phase -/
def VX1_phase : Prop := ∀ (g σ : Mo) (as : List Int), prX1_phase g σ as → (en_avs false as).length ≤ 1 ∧ ∀ K : Mo → Nat → LoT → List AV → Prop, en_Cl SX1 1 flX1_phase fpX1_phase ctX1_phase tX1_phase 1 (poX1_phase g σ as) K → K σ 0 (en_lo0 false as 1) []
def ctX1_stack : List (Nat × CSp) := []
/-- the run that is owed of X1_stack -/
def VX1_stack : Prop := ∀ (g σ : Mo) (as : List Int), prX1_stack g σ as → (en_avs false as).length ≤ 1 ∧ ∀ K : Mo → Nat → LoT → List AV → Prop, en_Cl SX1 1 flX1_stack fpX1_stack ctX1_stack tX1_stack 1 (poX1_stack g σ as) K → K σ 0 (en_lo0 false as 1) []
def ctX1_page : List (Nat × CSp) := [(108, spX1_markedIn)]
/-- the run that is owed of X1_page -/
def VX1_page : Prop := ∀ (g σ : Mo) (as : List Int), prX1_page g σ as → (en_avs false as).length ≤ 5 ∧ ∀ K : Mo → Nat → LoT → List AV → Prop, en_Cl SX1 1 flX1_page fpX1_page ctX1_page tX1_page 1 (poX1_page g σ as) K → K σ 0 (en_lo0 false as 5) []
def ctX1_healed : List (Nat × CSp) := []
/-- the run that is owed of X1_healed -/
def VX1_healed : Prop := ∀ (g σ : Mo) (as : List Int), prX1_healed g σ as → (en_avs false as).length ≤ 1 ∧ ∀ K : Mo → Nat → LoT → List AV → Prop, en_Cl SX1 1 flX1_healed fpX1_healed ctX1_healed tX1_healed 1 (poX1_healed g σ as) K → K σ 0 (en_lo0 false as 1) []
def ctX1_moved : List (Nat × CSp) := []
/-- the run that is owed of X1_moved -/
def VX1_moved : Prop := ∀ (g σ : Mo) (as : List Int), prX1_moved g σ as → (en_avs false as).length ≤ 1 ∧ ∀ K : Mo → Nat → LoT → List AV → Prop, en_Cl SX1 1 flX1_moved fpX1_moved ctX1_moved tX1_moved 1 (poX1_moved g σ as) K → K σ 0 (en_lo0 false as 1) []
def ctX1_cycles : List (Nat × CSp) := []
/-- the run that is owed of X1_cycles -/
def VX1_cycles : Prop := ∀ (g σ : Mo) (as : List Int), prX1_cycles g σ as → (en_avs false as).length ≤ 1 ∧ ∀ K : Mo → Nat → LoT → List AV → Prop, en_Cl SX1 1 flX1_cycles fpX1_cycles ctX1_cycles tX1_cycles 1 (poX1_cycles g σ as) K → K σ 0 (en_lo0 false as 1) []

/-! contracts out of the runs, by program (wip/gen_glue.py) -/
set_option maxRecDepth 100000 in
theorem ctX0_isRoot_ok (l : Launch) : ∀ i q, en_ct ctX0_isRoot i = some q → en_CallOk l rmX0_isRoot SX0 vwCl wsX0_isRoot RX0 i q := by
  intro i q h
  have h := en_ct_mem h
  cases h
set_option maxRecDepth 100000 in
theorem mX0_isRoot (l : Launch) : en_Met l SX0 vwCl yX0_isRoot wsX0_isRoot rmX0_isRoot true false prX0_isRoot poX0_isRoot := en_met true 2 (by decide +kernel) rfl rfl owX0_isRoot (ctX0_isRoot_ok l) ⟨_, rfl⟩ tX0_isRoot_ok vX0_isRoot
set_option maxRecDepth 100000 in
theorem ctX0_leastFreePage_ok (l : Launch) : ∀ i q, en_ct ctX0_leastFreePage i = some q → en_CallOk l rmX0_leastFreePage SX0 vwCl wsX0_leastFreePage RX0 i q := by
  intro i q h
  have h := en_ct_mem h
  cases h
set_option maxRecDepth 100000 in
theorem mX0_leastFreePage (l : Launch) : en_Met l SX0 vwCl yX0_leastFreePage wsX0_leastFreePage rmX0_leastFreePage false false prX0_leastFreePage poX0_leastFreePage := en_met false 1 (by decide +kernel) rfl rfl owX0_leastFreePage (ctX0_leastFreePage_ok l) ⟨_, rfl⟩ tX0_leastFreePage_ok vX0_leastFreePage
set_option maxRecDepth 100000 in
theorem ctX0_takeRoom_ok (l : Launch) : ∀ i q, en_ct ctX0_takeRoom i = some q → en_CallOk l rmX0_takeRoom SX0 vwCl wsX0_takeRoom RX0 i q := by
  intro i q h
  have h := en_ct_mem h
  simp only [ctX0_takeRoom, List.mem_cons, List.not_mem_nil, or_false, Prod.mk.injEq] at h
  rcases h with ⟨rfl, rfl⟩
  · exact ⟨yX0_leastFreePage, wsX0_leastFreePage, _, rmX0_leastFreePage, cX0_leastFreePage, 2, _, mX0_leastFreePage l, rfl, rfl, rfl, gX0_takeRoom_X0_leastFreePage, by decide +kernel, by decide +kernel⟩
set_option maxRecDepth 100000 in
theorem mX0_takeRoom (l : Launch) : en_Met l SX0 vwCl yX0_takeRoom wsX0_takeRoom rmX0_takeRoom false false prX0_takeRoom poX0_takeRoom := en_met false 1 (by decide +kernel) rfl rfl owX0_takeRoom (ctX0_takeRoom_ok l) ⟨_, rfl⟩ tX0_takeRoom_ok vX0_takeRoom
set_option maxRecDepth 100000 in
theorem ctX0_goodColour_ok (l : Launch) : ∀ i q, en_ct ctX0_goodColour i = some q → en_CallOk l rmX0_goodColour SX0 vwCl wsX0_goodColour RX0 i q := by
  intro i q h
  have h := en_ct_mem h
  cases h
set_option maxRecDepth 100000 in
theorem mX0_goodColour (l : Launch) : en_Met l SX0 vwCl yX0_goodColour wsX0_goodColour rmX0_goodColour false false prX0_goodColour poX0_goodColour := en_met false 1 (by decide +kernel) rfl rfl owX0_goodColour (ctX0_goodColour_ok l) ⟨_, rfl⟩ tX0_goodColour_ok vX0_goodColour
set_option maxRecDepth 100000 in
theorem ctX0_make_ok (l : Launch) : ∀ i q, en_ct ctX0_make i = some q → en_CallOk l rmX0_make SX0 vwCl wsX0_make RX0 i q := by
  intro i q h
  have h := en_ct_mem h
  simp only [ctX0_make, List.mem_cons, List.not_mem_nil, or_false, Prod.mk.injEq] at h
  rcases h with ⟨rfl, rfl⟩ | ⟨rfl, rfl⟩ | ⟨rfl, rfl⟩
  · exact ⟨yX0_isRoot, wsX0_isRoot, _, rmX0_isRoot, cX0_isRoot, 1, _, mX0_isRoot l, rfl, rfl, rfl, gX0_make_X0_isRoot, by decide +kernel, by decide +kernel⟩
  · exact ⟨yX0_takeRoom, wsX0_takeRoom, _, rmX0_takeRoom, cX0_takeRoom, 3, _, mX0_takeRoom l, rfl, rfl, rfl, gX0_make_X0_takeRoom, by decide +kernel, by decide +kernel⟩
  · exact ⟨yX0_goodColour, wsX0_goodColour, _, rmX0_goodColour, cX0_goodColour, 1, _, mX0_goodColour l, rfl, rfl, rfl, gX0_make_X0_goodColour, by decide +kernel, by decide +kernel⟩
set_option maxRecDepth 100000 in
theorem mX0_make (l : Launch) : en_Met l SX0 vwCl yX0_make wsX0_make rmX0_make false false prX0_make poX0_make := en_met false 1 (by decide +kernel) rfl rfl owX0_make (ctX0_make_ok l) ⟨_, rfl⟩ tX0_make_ok vX0_make
set_option maxRecDepth 100000 in
theorem ctX0_holdsNothing_ok (l : Launch) : ∀ i q, en_ct ctX0_holdsNothing i = some q → en_CallOk l rmX0_holdsNothing SX0 vwCl wsX0_holdsNothing RX0 i q := by
  intro i q h
  have h := en_ct_mem h
  cases h
set_option maxRecDepth 100000 in
theorem mX0_holdsNothing (l : Launch) : en_Met l SX0 vwCl yX0_holdsNothing wsX0_holdsNothing rmX0_holdsNothing false false prX0_holdsNothing poX0_holdsNothing := en_met false 2 (by decide +kernel) rfl rfl owX0_holdsNothing (ctX0_holdsNothing_ok l) ⟨_, rfl⟩ tX0_holdsNothing_ok vX0_holdsNothing
set_option maxRecDepth 100000 in
theorem ctX0_place_ok (l : Launch) : ∀ i q, en_ct ctX0_place i = some q → en_CallOk l rmX0_place SX0 vwCl wsX0_place RX0 i q := by
  intro i q h
  have h := en_ct_mem h
  simp only [ctX0_place, List.mem_cons, List.not_mem_nil, or_false, Prod.mk.injEq] at h
  rcases h with ⟨rfl, rfl⟩ | ⟨rfl, rfl⟩
  · exact ⟨yX0_isRoot, wsX0_isRoot, _, rmX0_isRoot, cX0_isRoot, 1, _, mX0_isRoot l, rfl, rfl, rfl, gX0_place_X0_isRoot, by decide +kernel, by decide +kernel⟩
  · exact ⟨yX0_holdsNothing, wsX0_holdsNothing, _, rmX0_holdsNothing, cX0_holdsNothing, 2, _, mX0_holdsNothing l, rfl, rfl, rfl, gX0_place_X0_holdsNothing, by decide +kernel, by decide +kernel⟩
set_option maxRecDepth 100000 in
theorem mX0_place (l : Launch) : en_Met l SX0 vwCl yX0_place wsX0_place rmX0_place false false prX0_place poX0_place := en_met false 1 (by decide +kernel) rfl rfl owX0_place (ctX0_place_ok l) ⟨_, rfl⟩ tX0_place_ok vX0_place
set_option maxRecDepth 100000 in
theorem ctX0_fieldSlot_ok (l : Launch) : ∀ i q, en_ct ctX0_fieldSlot i = some q → en_CallOk l rmX0_fieldSlot SX0 vwCl wsX0_fieldSlot RX0 i q := by
  intro i q h
  have h := en_ct_mem h
  simp only [ctX0_fieldSlot, List.mem_cons, List.not_mem_nil, or_false, Prod.mk.injEq] at h
  rcases h with ⟨rfl, rfl⟩
  · exact ⟨yX0_place, wsX0_place, _, rmX0_place, cX0_place, 2, _, mX0_place l, rfl, rfl, rfl, gX0_fieldSlot_X0_place, by decide +kernel, by decide +kernel⟩
set_option maxRecDepth 100000 in
theorem mX0_fieldSlot (l : Launch) : en_Met l SX0 vwCl yX0_fieldSlot wsX0_fieldSlot rmX0_fieldSlot false false prX0_fieldSlot poX0_fieldSlot := en_met false 1 (by decide +kernel) rfl rfl owX0_fieldSlot (ctX0_fieldSlot_ok l) ⟨_, rfl⟩ tX0_fieldSlot_ok vX0_fieldSlot
set_option maxRecDepth 100000 in
theorem ctX0_mark_ok (l : Launch) : ∀ i q, en_ct ctX0_mark i = some q → en_CallOk l rmX0_mark SX0 vwCl wsX0_mark RX0 i q := by
  intro i q h
  have h := en_ct_mem h
  cases h
set_option maxRecDepth 100000 in
theorem mX0_mark (l : Launch) : en_Met l SX0 vwCl yX0_mark wsX0_mark rmX0_mark false true prX0_mark poX0_mark := en_met false 0 (by decide +kernel) rfl rfl owX0_mark (ctX0_mark_ok l) ⟨_, rfl⟩ tX0_mark_ok vX0_mark
set_option maxRecDepth 100000 in
theorem ctX0_pageOf_ok (l : Launch) : ∀ i q, en_ct ctX0_pageOf i = some q → en_CallOk l rmX0_pageOf SX0 vwCl wsX0_pageOf RX0 i q := by
  intro i q h
  have h := en_ct_mem h
  cases h
set_option maxRecDepth 100000 in
theorem mX0_pageOf (l : Launch) : en_Met l SX0 vwCl yX0_pageOf wsX0_pageOf rmX0_pageOf true false prX0_pageOf poX0_pageOf := en_met true 1 (by decide +kernel) rfl rfl owX0_pageOf (ctX0_pageOf_ok l) ⟨_, rfl⟩ tX0_pageOf_ok vX0_pageOf
set_option maxRecDepth 100000 in
theorem ctX0_copySlot_ok (l : Launch) : ∀ i q, en_ct ctX0_copySlot i = some q → en_CallOk l rmX0_copySlot SX0 vwCl wsX0_copySlot RX0 i q := by
  intro i q h
  have h := en_ct_mem h
  cases h
set_option maxRecDepth 100000 in
theorem mX0_copySlot (l : Launch) : en_Met l SX0 vwCl yX0_copySlot wsX0_copySlot rmX0_copySlot false true prX0_copySlot poX0_copySlot := en_met false 0 (by decide +kernel) rfl rfl owX0_copySlot (ctX0_copySlot_ok l) ⟨_, rfl⟩ tX0_copySlot_ok vX0_copySlot
set_option maxRecDepth 100000 in
theorem ctX0_moveAway_ok (l : Launch) : ∀ i q, en_ct ctX0_moveAway i = some q → en_CallOk l rmX0_moveAway SX0 vwCl wsX0_moveAway RX0 i q := by
  intro i q h
  have h := en_ct_mem h
  simp only [ctX0_moveAway, List.mem_cons, List.not_mem_nil, or_false, Prod.mk.injEq] at h
  rcases h with ⟨rfl, rfl⟩ | ⟨rfl, rfl⟩ | ⟨rfl, rfl⟩
  · exact ⟨yX0_takeRoom, wsX0_takeRoom, _, rmX0_takeRoom, cX0_takeRoom, 3, _, mX0_takeRoom l, rfl, rfl, rfl, gX0_moveAway_X0_takeRoom, by decide +kernel, by decide +kernel⟩
  · exact ⟨yX0_pageOf, wsX0_pageOf, _, rmX0_pageOf, cX0_pageOf, 1, _, mX0_pageOf l, rfl, rfl, rfl, gX0_moveAway_X0_pageOf, by decide +kernel, by decide +kernel⟩
  · exact ⟨yX0_copySlot, wsX0_copySlot, _, rmX0_copySlot, cX0_copySlot, 3, _, mX0_copySlot l, rfl, rfl, rfl, gX0_moveAway_X0_copySlot, by decide +kernel, by decide +kernel⟩
set_option maxRecDepth 100000 in
theorem mX0_moveAway (l : Launch) : en_Met l SX0 vwCl yX0_moveAway wsX0_moveAway rmX0_moveAway false false prX0_moveAway poX0_moveAway := en_met false 1 (by decide +kernel) rfl rfl owX0_moveAway (ctX0_moveAway_ok l) ⟨_, rfl⟩ tX0_moveAway_ok vX0_moveAway
set_option maxRecDepth 100000 in
theorem ctX0_heal_ok (l : Launch) : ∀ i q, en_ct ctX0_heal i = some q → en_CallOk l rmX0_heal SX0 vwCl wsX0_heal RX0 i q := by
  intro i q h
  have h := en_ct_mem h
  simp only [ctX0_heal, List.mem_cons, List.not_mem_nil, or_false, Prod.mk.injEq] at h
  rcases h with ⟨rfl, rfl⟩ | ⟨rfl, rfl⟩ | ⟨rfl, rfl⟩ | ⟨rfl, rfl⟩
  · exact ⟨yX0_goodColour, wsX0_goodColour, _, rmX0_goodColour, cX0_goodColour, 1, _, mX0_goodColour l, rfl, rfl, rfl, gX0_heal_X0_goodColour, by decide +kernel, by decide +kernel⟩
  · exact ⟨yX0_mark, wsX0_mark, _, rmX0_mark, cX0_mark, 2, _, mX0_mark l, rfl, rfl, rfl, gX0_heal_X0_mark, by decide +kernel, by decide +kernel⟩
  · exact ⟨yX0_pageOf, wsX0_pageOf, _, rmX0_pageOf, cX0_pageOf, 1, _, mX0_pageOf l, rfl, rfl, rfl, gX0_heal_X0_pageOf, by decide +kernel, by decide +kernel⟩
  · exact ⟨yX0_moveAway, wsX0_moveAway, _, rmX0_moveAway, cX0_moveAway, 5, _, mX0_moveAway l, rfl, rfl, rfl, gX0_heal_X0_moveAway, by decide +kernel, by decide +kernel⟩
set_option maxRecDepth 100000 in
theorem mX0_heal (l : Launch) : en_Met l SX0 vwCl yX0_heal wsX0_heal rmX0_heal false true prX0_heal poX0_heal := en_met false 0 (by decide +kernel) rfl rfl owX0_heal (ctX0_heal_ok l) ⟨_, rfl⟩ tX0_heal_ok vX0_heal
set_option maxRecDepth 100000 in
theorem ctX0_load_ok (l : Launch) : ∀ i q, en_ct ctX0_load i = some q → en_CallOk l rmX0_load SX0 vwCl wsX0_load RX0 i q := by
  intro i q h
  have h := en_ct_mem h
  simp only [ctX0_load, List.mem_cons, List.not_mem_nil, or_false, Prod.mk.injEq] at h
  rcases h with ⟨rfl, rfl⟩ | ⟨rfl, rfl⟩ | ⟨rfl, rfl⟩ | ⟨rfl, rfl⟩ | ⟨rfl, rfl⟩
  · exact ⟨yX0_isRoot, wsX0_isRoot, _, rmX0_isRoot, cX0_isRoot, 1, _, mX0_isRoot l, rfl, rfl, rfl, gX0_load_X0_isRoot, by decide +kernel, by decide +kernel⟩
  · exact ⟨yX0_fieldSlot, wsX0_fieldSlot, _, rmX0_fieldSlot, cX0_fieldSlot, 4, _, mX0_fieldSlot l, rfl, rfl, rfl, gX0_load_X0_fieldSlot, by decide +kernel, by decide +kernel⟩
  · exact ⟨yX0_heal, wsX0_heal, _, rmX0_heal, cX0_heal, 6, _, mX0_heal l, rfl, rfl, rfl, gX0_load_X0_heal, by decide +kernel, by decide +kernel⟩
  · exact ⟨yX0_copySlot, wsX0_copySlot, _, rmX0_copySlot, cX0_copySlot, 3, _, mX0_copySlot l, rfl, rfl, rfl, gX0_load_X0_copySlot, by decide +kernel, by decide +kernel⟩
  · exact ⟨yX0_holdsNothing, wsX0_holdsNothing, _, rmX0_holdsNothing, cX0_holdsNothing, 2, _, mX0_holdsNothing l, rfl, rfl, rfl, gX0_load_X0_holdsNothing, by decide +kernel, by decide +kernel⟩
set_option maxRecDepth 100000 in
theorem mX0_load (l : Launch) : en_Met l SX0 vwCl yX0_load wsX0_load rmX0_load false false prX0_load poX0_load := en_met false 1 (by decide +kernel) rfl rfl owX0_load (ctX0_load_ok l) ⟨_, rfl⟩ tX0_load_ok vX0_load
set_option maxRecDepth 100000 in
theorem ctX0_store_ok (l : Launch) : ∀ i q, en_ct ctX0_store i = some q → en_CallOk l rmX0_store SX0 vwCl wsX0_store RX0 i q := by
  intro i q h
  have h := en_ct_mem h
  simp only [ctX0_store, List.mem_cons, List.not_mem_nil, or_false, Prod.mk.injEq] at h
  rcases h with ⟨rfl, rfl⟩ | ⟨rfl, rfl⟩ | ⟨rfl, rfl⟩
  · exact ⟨yX0_isRoot, wsX0_isRoot, _, rmX0_isRoot, cX0_isRoot, 1, _, mX0_isRoot l, rfl, rfl, rfl, gX0_store_X0_isRoot, by decide +kernel, by decide +kernel⟩
  · exact ⟨yX0_fieldSlot, wsX0_fieldSlot, _, rmX0_fieldSlot, cX0_fieldSlot, 4, _, mX0_fieldSlot l, rfl, rfl, rfl, gX0_store_X0_fieldSlot, by decide +kernel, by decide +kernel⟩
  · exact ⟨yX0_copySlot, wsX0_copySlot, _, rmX0_copySlot, cX0_copySlot, 3, _, mX0_copySlot l, rfl, rfl, rfl, gX0_store_X0_copySlot, by decide +kernel, by decide +kernel⟩
set_option maxRecDepth 100000 in
theorem mX0_store (l : Launch) : en_Met l SX0 vwCl yX0_store wsX0_store rmX0_store false false prX0_store poX0_store := en_met false 1 (by decide +kernel) rfl rfl owX0_store (ctX0_store_ok l) ⟨_, rfl⟩ tX0_store_ok vX0_store
set_option maxRecDepth 100000 in
theorem ctX0_copy_ok (l : Launch) : ∀ i q, en_ct ctX0_copy i = some q → en_CallOk l rmX0_copy SX0 vwCl wsX0_copy RX0 i q := by
  intro i q h
  have h := en_ct_mem h
  simp only [ctX0_copy, List.mem_cons, List.not_mem_nil, or_false, Prod.mk.injEq] at h
  rcases h with ⟨rfl, rfl⟩ | ⟨rfl, rfl⟩
  · exact ⟨yX0_isRoot, wsX0_isRoot, _, rmX0_isRoot, cX0_isRoot, 1, _, mX0_isRoot l, rfl, rfl, rfl, gX0_copy_X0_isRoot, by decide +kernel, by decide +kernel⟩
  · exact ⟨yX0_copySlot, wsX0_copySlot, _, rmX0_copySlot, cX0_copySlot, 3, _, mX0_copySlot l, rfl, rfl, rfl, gX0_copy_X0_copySlot, by decide +kernel, by decide +kernel⟩
set_option maxRecDepth 100000 in
theorem mX0_copy (l : Launch) : en_Met l SX0 vwCl yX0_copy wsX0_copy rmX0_copy false false prX0_copy poX0_copy := en_met false 2 (by decide +kernel) rfl rfl owX0_copy (ctX0_copy_ok l) ⟨_, rfl⟩ tX0_copy_ok vX0_copy
set_option maxRecDepth 100000 in
theorem ctX0_drop_ok (l : Launch) : ∀ i q, en_ct ctX0_drop i = some q → en_CallOk l rmX0_drop SX0 vwCl wsX0_drop RX0 i q := by
  intro i q h
  have h := en_ct_mem h
  simp only [ctX0_drop, List.mem_cons, List.not_mem_nil, or_false, Prod.mk.injEq] at h
  rcases h with ⟨rfl, rfl⟩ | ⟨rfl, rfl⟩
  · exact ⟨yX0_isRoot, wsX0_isRoot, _, rmX0_isRoot, cX0_isRoot, 1, _, mX0_isRoot l, rfl, rfl, rfl, gX0_drop_X0_isRoot, by decide +kernel, by decide +kernel⟩
  · exact ⟨yX0_holdsNothing, wsX0_holdsNothing, _, rmX0_holdsNothing, cX0_holdsNothing, 2, _, mX0_holdsNothing l, rfl, rfl, rfl, gX0_drop_X0_holdsNothing, by decide +kernel, by decide +kernel⟩
set_option maxRecDepth 100000 in
theorem mX0_drop (l : Launch) : en_Met l SX0 vwCl yX0_drop wsX0_drop rmX0_drop false false prX0_drop poX0_drop := en_met false 2 (by decide +kernel) rfl rfl owX0_drop (ctX0_drop_ok l) ⟨_, rfl⟩ tX0_drop_ok vX0_drop
set_option maxRecDepth 100000 in
theorem ctX0_value_ok (l : Launch) : ∀ i q, en_ct ctX0_value i = some q → en_CallOk l rmX0_value SX0 vwCl wsX0_value RX0 i q := by
  intro i q h
  have h := en_ct_mem h
  simp only [ctX0_value, List.mem_cons, List.not_mem_nil, or_false, Prod.mk.injEq] at h
  rcases h with ⟨rfl, rfl⟩
  · exact ⟨yX0_place, wsX0_place, _, rmX0_place, cX0_place, 2, _, mX0_place l, rfl, rfl, rfl, gX0_value_X0_place, by decide +kernel, by decide +kernel⟩
set_option maxRecDepth 100000 in
theorem mX0_value (l : Launch) : en_Met l SX0 vwCl yX0_value wsX0_value rmX0_value false false prX0_value poX0_value := en_met false 1 (by decide +kernel) rfl rfl owX0_value (ctX0_value_ok l) ⟨_, rfl⟩ tX0_value_ok vX0_value
set_option maxRecDepth 100000 in
theorem ctX0_set_ok (l : Launch) : ∀ i q, en_ct ctX0_set i = some q → en_CallOk l rmX0_set SX0 vwCl wsX0_set RX0 i q := by
  intro i q h
  have h := en_ct_mem h
  simp only [ctX0_set, List.mem_cons, List.not_mem_nil, or_false, Prod.mk.injEq] at h
  rcases h with ⟨rfl, rfl⟩
  · exact ⟨yX0_place, wsX0_place, _, rmX0_place, cX0_place, 2, _, mX0_place l, rfl, rfl, rfl, gX0_set_X0_place, by decide +kernel, by decide +kernel⟩
set_option maxRecDepth 100000 in
theorem mX0_set (l : Launch) : en_Met l SX0 vwCl yX0_set wsX0_set rmX0_set false false prX0_set poX0_set := en_met false 2 (by decide +kernel) rfl rfl owX0_set (ctX0_set_ok l) ⟨_, rfl⟩ tX0_set_ok vX0_set
set_option maxRecDepth 100000 in
theorem ctX0_fields_ok (l : Launch) : ∀ i q, en_ct ctX0_fields i = some q → en_CallOk l rmX0_fields SX0 vwCl wsX0_fields RX0 i q := by
  intro i q h
  have h := en_ct_mem h
  simp only [ctX0_fields, List.mem_cons, List.not_mem_nil, or_false, Prod.mk.injEq] at h
  rcases h with ⟨rfl, rfl⟩
  · exact ⟨yX0_place, wsX0_place, _, rmX0_place, cX0_place, 2, _, mX0_place l, rfl, rfl, rfl, gX0_fields_X0_place, by decide +kernel, by decide +kernel⟩
set_option maxRecDepth 100000 in
theorem mX0_fields (l : Launch) : en_Met l SX0 vwCl yX0_fields wsX0_fields rmX0_fields false false prX0_fields poX0_fields := en_met false 1 (by decide +kernel) rfl rfl owX0_fields (ctX0_fields_ok l) ⟨_, rfl⟩ tX0_fields_ok vX0_fields
set_option maxRecDepth 100000 in
theorem ctX0_colour_ok (l : Launch) : ∀ i q, en_ct ctX0_colour i = some q → en_CallOk l rmX0_colour SX0 vwCl wsX0_colour RX0 i q := by
  intro i q h
  have h := en_ct_mem h
  simp only [ctX0_colour, List.mem_cons, List.not_mem_nil, or_false, Prod.mk.injEq] at h
  rcases h with ⟨rfl, rfl⟩
  · exact ⟨yX0_fieldSlot, wsX0_fieldSlot, _, rmX0_fieldSlot, cX0_fieldSlot, 4, _, mX0_fieldSlot l, rfl, rfl, rfl, gX0_colour_X0_fieldSlot, by decide +kernel, by decide +kernel⟩
set_option maxRecDepth 100000 in
theorem mX0_colour (l : Launch) : en_Met l SX0 vwCl yX0_colour wsX0_colour rmX0_colour false false prX0_colour poX0_colour := en_met false 1 (by decide +kernel) rfl rfl owX0_colour (ctX0_colour_ok l) ⟨_, rfl⟩ tX0_colour_ok vX0_colour
set_option maxRecDepth 100000 in
theorem ctX0_behind_ok (l : Launch) : ∀ i q, en_ct ctX0_behind i = some q → en_CallOk l rmX0_behind SX0 vwCl wsX0_behind RX0 i q := by
  intro i q h
  have h := en_ct_mem h
  simp only [ctX0_behind, List.mem_cons, List.not_mem_nil, or_false, Prod.mk.injEq] at h
  rcases h with ⟨rfl, rfl⟩ | ⟨rfl, rfl⟩
  · exact ⟨yX0_fieldSlot, wsX0_fieldSlot, _, rmX0_fieldSlot, cX0_fieldSlot, 4, _, mX0_fieldSlot l, rfl, rfl, rfl, gX0_behind_X0_fieldSlot, by decide +kernel, by decide +kernel⟩
  · exact ⟨yX0_holdsNothing, wsX0_holdsNothing, _, rmX0_holdsNothing, cX0_holdsNothing, 2, _, mX0_holdsNothing l, rfl, rfl, rfl, gX0_behind_X0_holdsNothing, by decide +kernel, by decide +kernel⟩
set_option maxRecDepth 100000 in
theorem mX0_behind (l : Launch) : en_Met l SX0 vwCl yX0_behind wsX0_behind rmX0_behind false false prX0_behind poX0_behind := en_met false 1 (by decide +kernel) rfl rfl owX0_behind (ctX0_behind_ok l) ⟨_, rfl⟩ tX0_behind_ok vX0_behind
set_option maxRecDepth 100000 in
theorem ctX0_beginMarking_ok (l : Launch) : ∀ i q, en_ct ctX0_beginMarking i = some q → en_CallOk l rmX0_beginMarking SX0 vwCl wsX0_beginMarking RX0 i q := by
  intro i q h
  have h := en_ct_mem h
  cases h
set_option maxRecDepth 100000 in
theorem mX0_beginMarking (l : Launch) : en_Met l SX0 vwCl yX0_beginMarking wsX0_beginMarking rmX0_beginMarking false true prX0_beginMarking poX0_beginMarking := en_met false 0 (by decide +kernel) rfl rfl owX0_beginMarking (ctX0_beginMarking_ok l) ⟨_, rfl⟩ tX0_beginMarking_ok vX0_beginMarking
set_option maxRecDepth 100000 in
theorem ctX0_healSlots_ok (l : Launch) : ∀ i q, en_ct ctX0_healSlots i = some q → en_CallOk l rmX0_healSlots SX0 vwCl wsX0_healSlots RX0 i q := by
  intro i q h
  have h := en_ct_mem h
  simp only [ctX0_healSlots, List.mem_cons, List.not_mem_nil, or_false, Prod.mk.injEq] at h
  rcases h with ⟨rfl, rfl⟩
  · exact ⟨yX0_heal, wsX0_heal, _, rmX0_heal, cX0_heal, 6, _, mX0_heal l, rfl, rfl, rfl, gX0_healSlots_X0_heal, by decide +kernel, by decide +kernel⟩
set_option maxRecDepth 100000 in
theorem mX0_healSlots (l : Launch) : en_Met l SX0 vwCl yX0_healSlots wsX0_healSlots rmX0_healSlots false true prX0_healSlots poX0_healSlots := en_met false 0 (by decide +kernel) rfl rfl owX0_healSlots (ctX0_healSlots_ok l) ⟨_, rfl⟩ tX0_healSlots_ok vX0_healSlots
set_option maxRecDepth 100000 in
theorem ctX0_leastPageOfSet_ok (l : Launch) : ∀ i q, en_ct ctX0_leastPageOfSet i = some q → en_CallOk l rmX0_leastPageOfSet SX0 vwCl wsX0_leastPageOfSet RX0 i q := by
  intro i q h
  have h := en_ct_mem h
  cases h
set_option maxRecDepth 100000 in
theorem mX0_leastPageOfSet (l : Launch) : en_Met l SX0 vwCl yX0_leastPageOfSet wsX0_leastPageOfSet rmX0_leastPageOfSet false false prX0_leastPageOfSet poX0_leastPageOfSet := en_met false 1 (by decide +kernel) rfl rfl owX0_leastPageOfSet (ctX0_leastPageOfSet_ok l) ⟨_, rfl⟩ tX0_leastPageOfSet_ok vX0_leastPageOfSet
set_option maxRecDepth 100000 in
theorem ctX0_leastMarkedPlace_ok (l : Launch) : ∀ i q, en_ct ctX0_leastMarkedPlace i = some q → en_CallOk l rmX0_leastMarkedPlace SX0 vwCl wsX0_leastMarkedPlace RX0 i q := by
  intro i q h
  have h := en_ct_mem h
  cases h
set_option maxRecDepth 100000 in
theorem mX0_leastMarkedPlace (l : Launch) : en_Met l SX0 vwCl yX0_leastMarkedPlace wsX0_leastMarkedPlace rmX0_leastMarkedPlace false false prX0_leastMarkedPlace poX0_leastMarkedPlace := en_met false 1 (by decide +kernel) rfl rfl owX0_leastMarkedPlace (ctX0_leastMarkedPlace_ok l) ⟨_, rfl⟩ tX0_leastMarkedPlace_ok vX0_leastMarkedPlace
set_option maxRecDepth 100000 in
theorem ctX0_becomeFree_ok (l : Launch) : ∀ i q, en_ct ctX0_becomeFree i = some q → en_CallOk l rmX0_becomeFree SX0 vwCl wsX0_becomeFree RX0 i q := by
  intro i q h
  have h := en_ct_mem h
  cases h
set_option maxRecDepth 100000 in
theorem mX0_becomeFree (l : Launch) : en_Met l SX0 vwCl yX0_becomeFree wsX0_becomeFree rmX0_becomeFree false true prX0_becomeFree poX0_becomeFree := en_met false 0 (by decide +kernel) rfl rfl owX0_becomeFree (ctX0_becomeFree_ok l) ⟨_, rfl⟩ tX0_becomeFree_ok vX0_becomeFree
set_option maxRecDepth 100000 in
theorem ctX0_relocateNext_ok (l : Launch) : ∀ i q, en_ct ctX0_relocateNext i = some q → en_CallOk l rmX0_relocateNext SX0 vwCl wsX0_relocateNext RX0 i q := by
  intro i q h
  have h := en_ct_mem h
  simp only [ctX0_relocateNext, List.mem_cons, List.not_mem_nil, or_false, Prod.mk.injEq] at h
  rcases h with ⟨rfl, rfl⟩ | ⟨rfl, rfl⟩ | ⟨rfl, rfl⟩ | ⟨rfl, rfl⟩
  · exact ⟨yX0_leastPageOfSet, wsX0_leastPageOfSet, _, rmX0_leastPageOfSet, cX0_leastPageOfSet, 2, _, mX0_leastPageOfSet l, rfl, rfl, rfl, gX0_relocateNext_X0_leastPageOfSet, by decide +kernel, by decide +kernel⟩
  · exact ⟨yX0_leastMarkedPlace, wsX0_leastMarkedPlace, _, rmX0_leastMarkedPlace, cX0_leastMarkedPlace, 3, _, mX0_leastMarkedPlace l, rfl, rfl, rfl, gX0_relocateNext_X0_leastMarkedPlace, by decide +kernel, by decide +kernel⟩
  · exact ⟨yX0_moveAway, wsX0_moveAway, _, rmX0_moveAway, cX0_moveAway, 5, _, mX0_moveAway l, rfl, rfl, rfl, gX0_relocateNext_X0_moveAway, by decide +kernel, by decide +kernel⟩
  · exact ⟨yX0_becomeFree, wsX0_becomeFree, _, rmX0_becomeFree, cX0_becomeFree, 2, _, mX0_becomeFree l, rfl, rfl, rfl, gX0_relocateNext_X0_becomeFree, by decide +kernel, by decide +kernel⟩
set_option maxRecDepth 100000 in
theorem mX0_relocateNext (l : Launch) : en_Met l SX0 vwCl yX0_relocateNext wsX0_relocateNext rmX0_relocateNext false true prX0_relocateNext poX0_relocateNext := en_met false 0 (by decide +kernel) rfl rfl owX0_relocateNext (ctX0_relocateNext_ok l) ⟨_, rfl⟩ tX0_relocateNext_ok vX0_relocateNext
set_option maxRecDepth 100000 in
theorem ctX0_liveWords_ok (l : Launch) : ∀ i q, en_ct ctX0_liveWords i = some q → en_CallOk l rmX0_liveWords SX0 vwCl wsX0_liveWords RX0 i q := by
  intro i q h
  have h := en_ct_mem h
  cases h
set_option maxRecDepth 100000 in
theorem mX0_liveWords (l : Launch) : en_Met l SX0 vwCl yX0_liveWords wsX0_liveWords rmX0_liveWords false false prX0_liveWords poX0_liveWords := en_met false 1 (by decide +kernel) rfl rfl owX0_liveWords (ctX0_liveWords_ok l) ⟨_, rfl⟩ tX0_liveWords_ok vX0_liveWords
set_option maxRecDepth 100000 in
theorem ctX0_judge_ok (l : Launch) : ∀ i q, en_ct ctX0_judge i = some q → en_CallOk l rmX0_judge SX0 vwCl wsX0_judge RX0 i q := by
  intro i q h
  have h := en_ct_mem h
  simp only [ctX0_judge, List.mem_cons, List.not_mem_nil, or_false, Prod.mk.injEq] at h
  rcases h with ⟨rfl, rfl⟩ | ⟨rfl, rfl⟩
  · exact ⟨yX0_liveWords, wsX0_liveWords, _, rmX0_liveWords, cX0_liveWords, 5, _, mX0_liveWords l, rfl, rfl, rfl, gX0_judge_X0_liveWords, by decide +kernel, by decide +kernel⟩
  · exact ⟨yX0_becomeFree, wsX0_becomeFree, _, rmX0_becomeFree, cX0_becomeFree, 2, _, mX0_becomeFree l, rfl, rfl, rfl, gX0_judge_X0_becomeFree, by decide +kernel, by decide +kernel⟩
set_option maxRecDepth 100000 in
theorem mX0_judge (l : Launch) : en_Met l SX0 vwCl yX0_judge wsX0_judge rmX0_judge false true prX0_judge poX0_judge := en_met false 0 (by decide +kernel) rfl rfl owX0_judge (ctX0_judge_ok l) ⟨_, rfl⟩ tX0_judge_ok vX0_judge
set_option maxRecDepth 100000 in
theorem ctX0_beginRelocating_ok (l : Launch) : ∀ i q, en_ct ctX0_beginRelocating i = some q → en_CallOk l rmX0_beginRelocating SX0 vwCl wsX0_beginRelocating RX0 i q := by
  intro i q h
  have h := en_ct_mem h
  simp only [ctX0_beginRelocating, List.mem_cons, List.not_mem_nil, or_false, Prod.mk.injEq] at h
  rcases h with ⟨rfl, rfl⟩
  · exact ⟨yX0_judge, wsX0_judge, _, rmX0_judge, cX0_judge, 3, _, mX0_judge l, rfl, rfl, rfl, gX0_beginRelocating_X0_judge, by decide +kernel, by decide +kernel⟩
set_option maxRecDepth 100000 in
theorem mX0_beginRelocating (l : Launch) : en_Met l SX0 vwCl yX0_beginRelocating wsX0_beginRelocating rmX0_beginRelocating false true prX0_beginRelocating poX0_beginRelocating := en_met false 0 (by decide +kernel) rfl rfl owX0_beginRelocating (ctX0_beginRelocating_ok l) ⟨_, rfl⟩ tX0_beginRelocating_ok vX0_beginRelocating
set_option maxRecDepth 100000 in
theorem ctX0_step_ok (l : Launch) : ∀ i q, en_ct ctX0_step i = some q → en_CallOk l rmX0_step SX0 vwCl wsX0_step RX0 i q := by
  intro i q h
  have h := en_ct_mem h
  simp only [ctX0_step, List.mem_cons, List.not_mem_nil, or_false, Prod.mk.injEq] at h
  rcases h with ⟨rfl, rfl⟩ | ⟨rfl, rfl⟩ | ⟨rfl, rfl⟩ | ⟨rfl, rfl⟩
  · exact ⟨yX0_beginMarking, wsX0_beginMarking, _, rmX0_beginMarking, cX0_beginMarking, 2, _, mX0_beginMarking l, rfl, rfl, rfl, gX0_step_X0_beginMarking, by decide +kernel, by decide +kernel⟩
  · exact ⟨yX0_healSlots, wsX0_healSlots, _, rmX0_healSlots, cX0_healSlots, 4, _, mX0_healSlots l, rfl, rfl, rfl, gX0_step_X0_healSlots, by decide +kernel, by decide +kernel⟩
  · exact ⟨yX0_relocateNext, wsX0_relocateNext, _, rmX0_relocateNext, cX0_relocateNext, 3, _, mX0_relocateNext l, rfl, rfl, rfl, gX0_step_X0_relocateNext, by decide +kernel, by decide +kernel⟩
  · exact ⟨yX0_beginRelocating, wsX0_beginRelocating, _, rmX0_beginRelocating, cX0_beginRelocating, 2, _, mX0_beginRelocating l, rfl, rfl, rfl, gX0_step_X0_beginRelocating, by decide +kernel, by decide +kernel⟩
set_option maxRecDepth 100000 in
theorem mX0_step (l : Launch) : en_Met l SX0 vwCl yX0_step wsX0_step rmX0_step false true prX0_step poX0_step := en_met false 0 (by decide +kernel) rfl rfl owX0_step (ctX0_step_ok l) ⟨_, rfl⟩ tX0_step_ok vX0_step
set_option maxRecDepth 100000 in
theorem ctX0_collect_ok (l : Launch) : ∀ i q, en_ct ctX0_collect i = some q → en_CallOk l rmX0_collect SX0 vwCl wsX0_collect RX0 i q := by
  intro i q h
  have h := en_ct_mem h
  simp only [ctX0_collect, List.mem_cons, List.not_mem_nil, or_false, Prod.mk.injEq] at h
  rcases h with ⟨rfl, rfl⟩
  · exact ⟨yX0_step, wsX0_step, _, rmX0_step, cX0_step, 2, _, mX0_step l, rfl, rfl, rfl, gX0_collect_X0_step, by decide +kernel, by decide +kernel⟩
set_option maxRecDepth 100000 in
theorem mX0_collect (l : Launch) : en_Met l SX0 vwCl yX0_collect wsX0_collect rmX0_collect false false prX0_collect poX0_collect := en_met false 1 (by decide +kernel) rfl rfl owX0_collect (ctX0_collect_ok l) ⟨_, rfl⟩ tX0_collect_ok vX0_collect
set_option maxRecDepth 100000 in
theorem ctX0_phase_ok (l : Launch) : ∀ i q, en_ct ctX0_phase i = some q → en_CallOk l rmX0_phase SX0 vwCl wsX0_phase RX0 i q := by
  intro i q h
  have h := en_ct_mem h
  cases h
set_option maxRecDepth 100000 in
theorem mX0_phase (l : Launch) : en_Met l SX0 vwCl yX0_phase wsX0_phase rmX0_phase false false prX0_phase poX0_phase := en_met false 1 (by decide +kernel) rfl rfl owX0_phase (ctX0_phase_ok l) ⟨_, rfl⟩ tX0_phase_ok vX0_phase
set_option maxRecDepth 100000 in
theorem ctX0_stack_ok (l : Launch) : ∀ i q, en_ct ctX0_stack i = some q → en_CallOk l rmX0_stack SX0 vwCl wsX0_stack RX0 i q := by
  intro i q h
  have h := en_ct_mem h
  cases h
set_option maxRecDepth 100000 in
theorem mX0_stack (l : Launch) : en_Met l SX0 vwCl yX0_stack wsX0_stack rmX0_stack false false prX0_stack poX0_stack := en_met false 1 (by decide +kernel) rfl rfl owX0_stack (ctX0_stack_ok l) ⟨_, rfl⟩ tX0_stack_ok vX0_stack
set_option maxRecDepth 100000 in
theorem ctX0_pageState_ok (l : Launch) : ∀ i q, en_ct ctX0_pageState i = some q → en_CallOk l rmX0_pageState SX0 vwCl wsX0_pageState RX0 i q := by
  intro i q h
  have h := en_ct_mem h
  cases h
set_option maxRecDepth 100000 in
theorem mX0_pageState (l : Launch) : en_Met l SX0 vwCl yX0_pageState wsX0_pageState rmX0_pageState false false prX0_pageState poX0_pageState := en_met false 1 (by decide +kernel) rfl rfl owX0_pageState (ctX0_pageState_ok l) ⟨_, rfl⟩ tX0_pageState_ok vX0_pageState
set_option maxRecDepth 100000 in
theorem ctX0_markedObjects_ok (l : Launch) : ∀ i q, en_ct ctX0_markedObjects i = some q → en_CallOk l rmX0_markedObjects SX0 vwCl wsX0_markedObjects RX0 i q := by
  intro i q h
  have h := en_ct_mem h
  cases h
set_option maxRecDepth 100000 in
theorem mX0_markedObjects (l : Launch) : en_Met l SX0 vwCl yX0_markedObjects wsX0_markedObjects rmX0_markedObjects false false prX0_markedObjects poX0_markedObjects := en_met false 1 (by decide +kernel) rfl rfl owX0_markedObjects (ctX0_markedObjects_ok l) ⟨_, rfl⟩ tX0_markedObjects_ok vX0_markedObjects
set_option maxRecDepth 100000 in
theorem ctX0_forwardings_ok (l : Launch) : ∀ i q, en_ct ctX0_forwardings i = some q → en_CallOk l rmX0_forwardings SX0 vwCl wsX0_forwardings RX0 i q := by
  intro i q h
  have h := en_ct_mem h
  cases h
set_option maxRecDepth 100000 in
theorem mX0_forwardings (l : Launch) : en_Met l SX0 vwCl yX0_forwardings wsX0_forwardings rmX0_forwardings false false prX0_forwardings poX0_forwardings := en_met false 1 (by decide +kernel) rfl rfl owX0_forwardings (ctX0_forwardings_ok l) ⟨_, rfl⟩ tX0_forwardings_ok vX0_forwardings
set_option maxRecDepth 100000 in
theorem ctX0_page_ok (l : Launch) : ∀ i q, en_ct ctX0_page i = some q → en_CallOk l rmX0_page SX0 vwCl wsX0_page RX0 i q := by
  intro i q h
  have h := en_ct_mem h
  simp only [ctX0_page, List.mem_cons, List.not_mem_nil, or_false, Prod.mk.injEq] at h
  rcases h with ⟨rfl, rfl⟩ | ⟨rfl, rfl⟩ | ⟨rfl, rfl⟩
  · exact ⟨yX0_pageState, wsX0_pageState, _, rmX0_pageState, cX0_pageState, 2, _, mX0_pageState l, rfl, rfl, rfl, gX0_page_X0_pageState, by decide +kernel, by decide +kernel⟩
  · exact ⟨yX0_markedObjects, wsX0_markedObjects, _, rmX0_markedObjects, cX0_markedObjects, 4, _, mX0_markedObjects l, rfl, rfl, rfl, gX0_page_X0_markedObjects, by decide +kernel, by decide +kernel⟩
  · exact ⟨yX0_forwardings, wsX0_forwardings, _, rmX0_forwardings, cX0_forwardings, 4, _, mX0_forwardings l, rfl, rfl, rfl, gX0_page_X0_forwardings, by decide +kernel, by decide +kernel⟩
set_option maxRecDepth 100000 in
theorem mX0_page (l : Launch) : en_Met l SX0 vwCl yX0_page wsX0_page rmX0_page false false prX0_page poX0_page := en_met false 1 (by decide +kernel) rfl rfl owX0_page (ctX0_page_ok l) ⟨_, rfl⟩ tX0_page_ok vX0_page
set_option maxRecDepth 100000 in
theorem ctX0_healed_ok (l : Launch) : ∀ i q, en_ct ctX0_healed i = some q → en_CallOk l rmX0_healed SX0 vwCl wsX0_healed RX0 i q := by
  intro i q h
  have h := en_ct_mem h
  cases h
set_option maxRecDepth 100000 in
theorem mX0_healed (l : Launch) : en_Met l SX0 vwCl yX0_healed wsX0_healed rmX0_healed false false prX0_healed poX0_healed := en_met false 1 (by decide +kernel) rfl rfl owX0_healed (ctX0_healed_ok l) ⟨_, rfl⟩ tX0_healed_ok vX0_healed
set_option maxRecDepth 100000 in
theorem ctX0_moved_ok (l : Launch) : ∀ i q, en_ct ctX0_moved i = some q → en_CallOk l rmX0_moved SX0 vwCl wsX0_moved RX0 i q := by
  intro i q h
  have h := en_ct_mem h
  cases h
set_option maxRecDepth 100000 in
theorem mX0_moved (l : Launch) : en_Met l SX0 vwCl yX0_moved wsX0_moved rmX0_moved false false prX0_moved poX0_moved := en_met false 1 (by decide +kernel) rfl rfl owX0_moved (ctX0_moved_ok l) ⟨_, rfl⟩ tX0_moved_ok vX0_moved
set_option maxRecDepth 100000 in
theorem ctX0_cycles_ok (l : Launch) : ∀ i q, en_ct ctX0_cycles i = some q → en_CallOk l rmX0_cycles SX0 vwCl wsX0_cycles RX0 i q := by
  intro i q h
  have h := en_ct_mem h
  cases h
set_option maxRecDepth 100000 in
theorem mX0_cycles (l : Launch) : en_Met l SX0 vwCl yX0_cycles wsX0_cycles rmX0_cycles false false prX0_cycles poX0_cycles := en_met false 1 (by decide +kernel) rfl rfl owX0_cycles (ctX0_cycles_ok l) ⟨_, rfl⟩ tX0_cycles_ok vX0_cycles
set_option maxRecDepth 100000 in
theorem ctX1_isRoot_ok (l : Launch) : ∀ i q, en_ct ctX1_isRoot i = some q → en_CallOk l rmX1_isRoot SX1 vwCl wsX1_isRoot RX1 i q := by
  intro i q h
  have h := en_ct_mem h
  cases h
set_option maxRecDepth 100000 in
theorem mX1_isRoot (l : Launch) : en_Met l SX1 vwCl yX1_isRoot wsX1_isRoot rmX1_isRoot true false prX1_isRoot poX1_isRoot := en_met true 2 (by decide +kernel) rfl rfl owX1_isRoot (ctX1_isRoot_ok l) ⟨_, rfl⟩ tX1_isRoot_ok vX1_isRoot
set_option maxRecDepth 100000 in
theorem ctX1_slotOf_ok (l : Launch) : ∀ i q, en_ct ctX1_slotOf i = some q → en_CallOk l rmX1_slotOf SX1 vwCl wsX1_slotOf RX1 i q := by
  intro i q h
  have h := en_ct_mem h
  cases h
set_option maxRecDepth 100000 in
theorem mX1_slotOf (l : Launch) : en_Met l SX1 vwCl yX1_slotOf wsX1_slotOf rmX1_slotOf true false prX1_slotOf poX1_slotOf := en_met true 1 (by decide +kernel) rfl rfl owX1_slotOf (ctX1_slotOf_ok l) ⟨_, rfl⟩ tX1_slotOf_ok vX1_slotOf
set_option maxRecDepth 100000 in
theorem ctX1_holds_ok (l : Launch) : ∀ i q, en_ct ctX1_holds i = some q → en_CallOk l rmX1_holds SX1 vwCl wsX1_holds RX1 i q := by
  intro i q h
  have h := en_ct_mem h
  simp only [ctX1_holds, List.mem_cons, List.not_mem_nil, or_false, Prod.mk.injEq] at h
  rcases h with ⟨rfl, rfl⟩
  · exact ⟨yX1_slotOf, wsX1_slotOf, _, rmX1_slotOf, cX1_slotOf, 1, _, mX1_slotOf l, rfl, rfl, rfl, gX1_holds_X1_slotOf, by decide +kernel, by decide +kernel⟩
set_option maxRecDepth 100000 in
theorem mX1_holds (l : Launch) : en_Met l SX1 vwCl yX1_holds wsX1_holds rmX1_holds false false prX1_holds poX1_holds := en_met false 2 (by decide +kernel) rfl rfl owX1_holds (ctX1_holds_ok l) ⟨_, rfl⟩ tX1_holds_ok vX1_holds
set_option maxRecDepth 100000 in
theorem ctX1_good_ok (l : Launch) : ∀ i q, en_ct ctX1_good i = some q → en_CallOk l rmX1_good SX1 vwCl wsX1_good RX1 i q := by
  intro i q h
  have h := en_ct_mem h
  cases h
set_option maxRecDepth 100000 in
theorem mX1_good (l : Launch) : en_Met l SX1 vwCl yX1_good wsX1_good rmX1_good false false prX1_good poX1_good := en_met false 1 (by decide +kernel) rfl rfl owX1_good (ctX1_good_ok l) ⟨_, rfl⟩ tX1_good_ok vX1_good
set_option maxRecDepth 100000 in
theorem ctX1_room_ok (l : Launch) : ∀ i q, en_ct ctX1_room i = some q → en_CallOk l rmX1_room SX1 vwCl wsX1_room RX1 i q := by
  intro i q h
  have h := en_ct_mem h
  cases h
set_option maxRecDepth 100000 in
theorem mX1_room (l : Launch) : en_Met l SX1 vwCl yX1_room wsX1_room rmX1_room false false prX1_room poX1_room := en_met false 1 (by decide +kernel) rfl rfl owX1_room (ctX1_room_ok l) ⟨_, rfl⟩ tX1_room_ok vX1_room
set_option maxRecDepth 100000 in
theorem ctX1_release_ok (l : Launch) : ∀ i q, en_ct ctX1_release i = some q → en_CallOk l rmX1_release SX1 vwCl wsX1_release RX1 i q := by
  intro i q h
  have h := en_ct_mem h
  cases h
set_option maxRecDepth 100000 in
theorem mX1_release (l : Launch) : en_Met l SX1 vwCl yX1_release wsX1_release rmX1_release false true prX1_release poX1_release := en_met false 0 (by decide +kernel) rfl rfl owX1_release (ctX1_release_ok l) ⟨_, rfl⟩ tX1_release_ok vX1_release
set_option maxRecDepth 100000 in
theorem ctX1_move_ok (l : Launch) : ∀ i q, en_ct ctX1_move i = some q → en_CallOk l rmX1_move SX1 vwCl wsX1_move RX1 i q := by
  intro i q h
  have h := en_ct_mem h
  simp only [ctX1_move, List.mem_cons, List.not_mem_nil, or_false, Prod.mk.injEq] at h
  rcases h with ⟨rfl, rfl⟩
  · exact ⟨yX1_room, wsX1_room, _, rmX1_room, cX1_room, 3, _, mX1_room l, rfl, rfl, rfl, gX1_move_X1_room, by decide +kernel, by decide +kernel⟩
set_option maxRecDepth 100000 in
theorem mX1_move (l : Launch) : en_Met l SX1 vwCl yX1_move wsX1_move rmX1_move false false prX1_move poX1_move := en_met false 1 (by decide +kernel) rfl rfl owX1_move (ctX1_move_ok l) ⟨_, rfl⟩ tX1_move_ok vX1_move
set_option maxRecDepth 100000 in
theorem ctX1_mark_ok (l : Launch) : ∀ i q, en_ct ctX1_mark i = some q → en_CallOk l rmX1_mark SX1 vwCl wsX1_mark RX1 i q := by
  intro i q h
  have h := en_ct_mem h
  cases h
set_option maxRecDepth 100000 in
theorem mX1_mark (l : Launch) : en_Met l SX1 vwCl yX1_mark wsX1_mark rmX1_mark false true prX1_mark poX1_mark := en_met false 0 (by decide +kernel) rfl rfl owX1_mark (ctX1_mark_ok l) ⟨_, rfl⟩ tX1_mark_ok vX1_mark
set_option maxRecDepth 100000 in
theorem ctX1_heal_ok (l : Launch) : ∀ i q, en_ct ctX1_heal i = some q → en_CallOk l rmX1_heal SX1 vwCl wsX1_heal RX1 i q := by
  intro i q h
  have h := en_ct_mem h
  simp only [ctX1_heal, List.mem_cons, List.not_mem_nil, or_false, Prod.mk.injEq] at h
  rcases h with ⟨rfl, rfl⟩ | ⟨rfl, rfl⟩ | ⟨rfl, rfl⟩
  · exact ⟨yX1_good, wsX1_good, _, rmX1_good, cX1_good, 1, _, mX1_good l, rfl, rfl, rfl, gX1_heal_X1_good, by decide +kernel, by decide +kernel⟩
  · exact ⟨yX1_move, wsX1_move, _, rmX1_move, cX1_move, 4, _, mX1_move l, rfl, rfl, rfl, gX1_heal_X1_move, by decide +kernel, by decide +kernel⟩
  · exact ⟨yX1_mark, wsX1_mark, _, rmX1_mark, cX1_mark, 2, _, mX1_mark l, rfl, rfl, rfl, gX1_heal_X1_mark, by decide +kernel, by decide +kernel⟩
set_option maxRecDepth 100000 in
theorem mX1_heal (l : Launch) : en_Met l SX1 vwCl yX1_heal wsX1_heal rmX1_heal false true prX1_heal poX1_heal := en_met false 0 (by decide +kernel) rfl rfl owX1_heal (ctX1_heal_ok l) ⟨_, rfl⟩ tX1_heal_ok vX1_heal
set_option maxRecDepth 100000 in
theorem ctX1_healRoots_ok (l : Launch) : ∀ i q, en_ct ctX1_healRoots i = some q → en_CallOk l rmX1_healRoots SX1 vwCl wsX1_healRoots RX1 i q := by
  intro i q h
  have h := en_ct_mem h
  simp only [ctX1_healRoots, List.mem_cons, List.not_mem_nil, or_false, Prod.mk.injEq] at h
  rcases h with ⟨rfl, rfl⟩ | ⟨rfl, rfl⟩
  · exact ⟨yX1_slotOf, wsX1_slotOf, _, rmX1_slotOf, cX1_slotOf, 1, _, mX1_slotOf l, rfl, rfl, rfl, gX1_healRoots_X1_slotOf, by decide +kernel, by decide +kernel⟩
  · exact ⟨yX1_heal, wsX1_heal, _, rmX1_heal, cX1_heal, 4, _, mX1_heal l, rfl, rfl, rfl, gX1_healRoots_X1_heal, by decide +kernel, by decide +kernel⟩
set_option maxRecDepth 100000 in
theorem mX1_healRoots (l : Launch) : en_Met l SX1 vwCl yX1_healRoots wsX1_healRoots rmX1_healRoots false true prX1_healRoots poX1_healRoots := en_met false 0 (by decide +kernel) rfl rfl owX1_healRoots (ctX1_healRoots_ok l) ⟨_, rfl⟩ tX1_healRoots_ok vX1_healRoots
set_option maxRecDepth 100000 in
theorem ctX1_make_ok (l : Launch) : ∀ i q, en_ct ctX1_make i = some q → en_CallOk l rmX1_make SX1 vwCl wsX1_make RX1 i q := by
  intro i q h
  have h := en_ct_mem h
  simp only [ctX1_make, List.mem_cons, List.not_mem_nil, or_false, Prod.mk.injEq] at h
  rcases h with ⟨rfl, rfl⟩ | ⟨rfl, rfl⟩ | ⟨rfl, rfl⟩ | ⟨rfl, rfl⟩
  · exact ⟨yX1_isRoot, wsX1_isRoot, _, rmX1_isRoot, cX1_isRoot, 1, _, mX1_isRoot l, rfl, rfl, rfl, gX1_make_X1_isRoot, by decide +kernel, by decide +kernel⟩
  · exact ⟨yX1_room, wsX1_room, _, rmX1_room, cX1_room, 3, _, mX1_room l, rfl, rfl, rfl, gX1_make_X1_room, by decide +kernel, by decide +kernel⟩
  · exact ⟨yX1_slotOf, wsX1_slotOf, _, rmX1_slotOf, cX1_slotOf, 1, _, mX1_slotOf l, rfl, rfl, rfl, gX1_make_X1_slotOf, by decide +kernel, by decide +kernel⟩
  · exact ⟨yX1_good, wsX1_good, _, rmX1_good, cX1_good, 1, _, mX1_good l, rfl, rfl, rfl, gX1_make_X1_good, by decide +kernel, by decide +kernel⟩
set_option maxRecDepth 100000 in
theorem mX1_make (l : Launch) : en_Met l SX1 vwCl yX1_make wsX1_make rmX1_make false false prX1_make poX1_make := en_met false 1 (by decide +kernel) rfl rfl owX1_make (ctX1_make_ok l) ⟨_, rfl⟩ tX1_make_ok vX1_make
set_option maxRecDepth 100000 in
theorem ctX1_field_ok (l : Launch) : ∀ i q, en_ct ctX1_field i = some q → en_CallOk l rmX1_field SX1 vwCl wsX1_field RX1 i q := by
  intro i q h
  have h := en_ct_mem h
  simp only [ctX1_field, List.mem_cons, List.not_mem_nil, or_false, Prod.mk.injEq] at h
  rcases h with ⟨rfl, rfl⟩ | ⟨rfl, rfl⟩ | ⟨rfl, rfl⟩
  · exact ⟨yX1_isRoot, wsX1_isRoot, _, rmX1_isRoot, cX1_isRoot, 1, _, mX1_isRoot l, rfl, rfl, rfl, gX1_field_X1_isRoot, by decide +kernel, by decide +kernel⟩
  · exact ⟨yX1_holds, wsX1_holds, _, rmX1_holds, cX1_holds, 2, _, mX1_holds l, rfl, rfl, rfl, gX1_field_X1_holds, by decide +kernel, by decide +kernel⟩
  · exact ⟨yX1_slotOf, wsX1_slotOf, _, rmX1_slotOf, cX1_slotOf, 1, _, mX1_slotOf l, rfl, rfl, rfl, gX1_field_X1_slotOf, by decide +kernel, by decide +kernel⟩
set_option maxRecDepth 100000 in
theorem mX1_field (l : Launch) : en_Met l SX1 vwCl yX1_field wsX1_field rmX1_field false false prX1_field poX1_field := en_met false 1 (by decide +kernel) rfl rfl owX1_field (ctX1_field_ok l) ⟨_, rfl⟩ tX1_field_ok vX1_field
set_option maxRecDepth 100000 in
theorem ctX1_copySlot_ok (l : Launch) : ∀ i q, en_ct ctX1_copySlot i = some q → en_CallOk l rmX1_copySlot SX1 vwCl wsX1_copySlot RX1 i q := by
  intro i q h
  have h := en_ct_mem h
  cases h
set_option maxRecDepth 100000 in
theorem mX1_copySlot (l : Launch) : en_Met l SX1 vwCl yX1_copySlot wsX1_copySlot rmX1_copySlot false true prX1_copySlot poX1_copySlot := en_met false 0 (by decide +kernel) rfl rfl owX1_copySlot (ctX1_copySlot_ok l) ⟨_, rfl⟩ tX1_copySlot_ok vX1_copySlot
set_option maxRecDepth 100000 in
theorem ctX1_load_ok (l : Launch) : ∀ i q, en_ct ctX1_load i = some q → en_CallOk l rmX1_load SX1 vwCl wsX1_load RX1 i q := by
  intro i q h
  have h := en_ct_mem h
  simp only [ctX1_load, List.mem_cons, List.not_mem_nil, or_false, Prod.mk.injEq] at h
  rcases h with ⟨rfl, rfl⟩ | ⟨rfl, rfl⟩ | ⟨rfl, rfl⟩ | ⟨rfl, rfl⟩ | ⟨rfl, rfl⟩
  · exact ⟨yX1_isRoot, wsX1_isRoot, _, rmX1_isRoot, cX1_isRoot, 1, _, mX1_isRoot l, rfl, rfl, rfl, gX1_load_X1_isRoot, by decide +kernel, by decide +kernel⟩
  · exact ⟨yX1_field, wsX1_field, _, rmX1_field, cX1_field, 4, _, mX1_field l, rfl, rfl, rfl, gX1_load_X1_field, by decide +kernel, by decide +kernel⟩
  · exact ⟨yX1_heal, wsX1_heal, _, rmX1_heal, cX1_heal, 4, _, mX1_heal l, rfl, rfl, rfl, gX1_load_X1_heal, by decide +kernel, by decide +kernel⟩
  · exact ⟨yX1_slotOf, wsX1_slotOf, _, rmX1_slotOf, cX1_slotOf, 1, _, mX1_slotOf l, rfl, rfl, rfl, gX1_load_X1_slotOf, by decide +kernel, by decide +kernel⟩
  · exact ⟨yX1_copySlot, wsX1_copySlot, _, rmX1_copySlot, cX1_copySlot, 3, _, mX1_copySlot l, rfl, rfl, rfl, gX1_load_X1_copySlot, by decide +kernel, by decide +kernel⟩
set_option maxRecDepth 100000 in
theorem mX1_load (l : Launch) : en_Met l SX1 vwCl yX1_load wsX1_load rmX1_load false false prX1_load poX1_load := en_met false 1 (by decide +kernel) rfl rfl owX1_load (ctX1_load_ok l) ⟨_, rfl⟩ tX1_load_ok vX1_load
set_option maxRecDepth 100000 in
theorem ctX1_store_ok (l : Launch) : ∀ i q, en_ct ctX1_store i = some q → en_CallOk l rmX1_store SX1 vwCl wsX1_store RX1 i q := by
  intro i q h
  have h := en_ct_mem h
  simp only [ctX1_store, List.mem_cons, List.not_mem_nil, or_false, Prod.mk.injEq] at h
  rcases h with ⟨rfl, rfl⟩ | ⟨rfl, rfl⟩ | ⟨rfl, rfl⟩ | ⟨rfl, rfl⟩
  · exact ⟨yX1_isRoot, wsX1_isRoot, _, rmX1_isRoot, cX1_isRoot, 1, _, mX1_isRoot l, rfl, rfl, rfl, gX1_store_X1_isRoot, by decide +kernel, by decide +kernel⟩
  · exact ⟨yX1_field, wsX1_field, _, rmX1_field, cX1_field, 4, _, mX1_field l, rfl, rfl, rfl, gX1_store_X1_field, by decide +kernel, by decide +kernel⟩
  · exact ⟨yX1_slotOf, wsX1_slotOf, _, rmX1_slotOf, cX1_slotOf, 1, _, mX1_slotOf l, rfl, rfl, rfl, gX1_store_X1_slotOf, by decide +kernel, by decide +kernel⟩
  · exact ⟨yX1_copySlot, wsX1_copySlot, _, rmX1_copySlot, cX1_copySlot, 3, _, mX1_copySlot l, rfl, rfl, rfl, gX1_store_X1_copySlot, by decide +kernel, by decide +kernel⟩
set_option maxRecDepth 100000 in
theorem mX1_store (l : Launch) : en_Met l SX1 vwCl yX1_store wsX1_store rmX1_store false false prX1_store poX1_store := en_met false 1 (by decide +kernel) rfl rfl owX1_store (ctX1_store_ok l) ⟨_, rfl⟩ tX1_store_ok vX1_store
set_option maxRecDepth 100000 in
theorem ctX1_copy_ok (l : Launch) : ∀ i q, en_ct ctX1_copy i = some q → en_CallOk l rmX1_copy SX1 vwCl wsX1_copy RX1 i q := by
  intro i q h
  have h := en_ct_mem h
  simp only [ctX1_copy, List.mem_cons, List.not_mem_nil, or_false, Prod.mk.injEq] at h
  rcases h with ⟨rfl, rfl⟩ | ⟨rfl, rfl⟩ | ⟨rfl, rfl⟩
  · exact ⟨yX1_isRoot, wsX1_isRoot, _, rmX1_isRoot, cX1_isRoot, 1, _, mX1_isRoot l, rfl, rfl, rfl, gX1_copy_X1_isRoot, by decide +kernel, by decide +kernel⟩
  · exact ⟨yX1_slotOf, wsX1_slotOf, _, rmX1_slotOf, cX1_slotOf, 1, _, mX1_slotOf l, rfl, rfl, rfl, gX1_copy_X1_slotOf, by decide +kernel, by decide +kernel⟩
  · exact ⟨yX1_copySlot, wsX1_copySlot, _, rmX1_copySlot, cX1_copySlot, 3, _, mX1_copySlot l, rfl, rfl, rfl, gX1_copy_X1_copySlot, by decide +kernel, by decide +kernel⟩
set_option maxRecDepth 100000 in
theorem mX1_copy (l : Launch) : en_Met l SX1 vwCl yX1_copy wsX1_copy rmX1_copy false false prX1_copy poX1_copy := en_met false 2 (by decide +kernel) rfl rfl owX1_copy (ctX1_copy_ok l) ⟨_, rfl⟩ tX1_copy_ok vX1_copy
set_option maxRecDepth 100000 in
theorem ctX1_drop_ok (l : Launch) : ∀ i q, en_ct ctX1_drop i = some q → en_CallOk l rmX1_drop SX1 vwCl wsX1_drop RX1 i q := by
  intro i q h
  have h := en_ct_mem h
  simp only [ctX1_drop, List.mem_cons, List.not_mem_nil, or_false, Prod.mk.injEq] at h
  rcases h with ⟨rfl, rfl⟩ | ⟨rfl, rfl⟩ | ⟨rfl, rfl⟩
  · exact ⟨yX1_isRoot, wsX1_isRoot, _, rmX1_isRoot, cX1_isRoot, 1, _, mX1_isRoot l, rfl, rfl, rfl, gX1_drop_X1_isRoot, by decide +kernel, by decide +kernel⟩
  · exact ⟨yX1_holds, wsX1_holds, _, rmX1_holds, cX1_holds, 2, _, mX1_holds l, rfl, rfl, rfl, gX1_drop_X1_holds, by decide +kernel, by decide +kernel⟩
  · exact ⟨yX1_slotOf, wsX1_slotOf, _, rmX1_slotOf, cX1_slotOf, 1, _, mX1_slotOf l, rfl, rfl, rfl, gX1_drop_X1_slotOf, by decide +kernel, by decide +kernel⟩
set_option maxRecDepth 100000 in
theorem mX1_drop (l : Launch) : en_Met l SX1 vwCl yX1_drop wsX1_drop rmX1_drop false false prX1_drop poX1_drop := en_met false 2 (by decide +kernel) rfl rfl owX1_drop (ctX1_drop_ok l) ⟨_, rfl⟩ tX1_drop_ok vX1_drop
set_option maxRecDepth 100000 in
theorem ctX1_value_ok (l : Launch) : ∀ i q, en_ct ctX1_value i = some q → en_CallOk l rmX1_value SX1 vwCl wsX1_value RX1 i q := by
  intro i q h
  have h := en_ct_mem h
  simp only [ctX1_value, List.mem_cons, List.not_mem_nil, or_false, Prod.mk.injEq] at h
  rcases h with ⟨rfl, rfl⟩ | ⟨rfl, rfl⟩ | ⟨rfl, rfl⟩
  · exact ⟨yX1_isRoot, wsX1_isRoot, _, rmX1_isRoot, cX1_isRoot, 1, _, mX1_isRoot l, rfl, rfl, rfl, gX1_value_X1_isRoot, by decide +kernel, by decide +kernel⟩
  · exact ⟨yX1_holds, wsX1_holds, _, rmX1_holds, cX1_holds, 2, _, mX1_holds l, rfl, rfl, rfl, gX1_value_X1_holds, by decide +kernel, by decide +kernel⟩
  · exact ⟨yX1_slotOf, wsX1_slotOf, _, rmX1_slotOf, cX1_slotOf, 1, _, mX1_slotOf l, rfl, rfl, rfl, gX1_value_X1_slotOf, by decide +kernel, by decide +kernel⟩
set_option maxRecDepth 100000 in
theorem mX1_value (l : Launch) : en_Met l SX1 vwCl yX1_value wsX1_value rmX1_value false false prX1_value poX1_value := en_met false 1 (by decide +kernel) rfl rfl owX1_value (ctX1_value_ok l) ⟨_, rfl⟩ tX1_value_ok vX1_value
set_option maxRecDepth 100000 in
theorem ctX1_set_ok (l : Launch) : ∀ i q, en_ct ctX1_set i = some q → en_CallOk l rmX1_set SX1 vwCl wsX1_set RX1 i q := by
  intro i q h
  have h := en_ct_mem h
  simp only [ctX1_set, List.mem_cons, List.not_mem_nil, or_false, Prod.mk.injEq] at h
  rcases h with ⟨rfl, rfl⟩ | ⟨rfl, rfl⟩ | ⟨rfl, rfl⟩
  · exact ⟨yX1_isRoot, wsX1_isRoot, _, rmX1_isRoot, cX1_isRoot, 1, _, mX1_isRoot l, rfl, rfl, rfl, gX1_set_X1_isRoot, by decide +kernel, by decide +kernel⟩
  · exact ⟨yX1_holds, wsX1_holds, _, rmX1_holds, cX1_holds, 2, _, mX1_holds l, rfl, rfl, rfl, gX1_set_X1_holds, by decide +kernel, by decide +kernel⟩
  · exact ⟨yX1_slotOf, wsX1_slotOf, _, rmX1_slotOf, cX1_slotOf, 1, _, mX1_slotOf l, rfl, rfl, rfl, gX1_set_X1_slotOf, by decide +kernel, by decide +kernel⟩
set_option maxRecDepth 100000 in
theorem mX1_set (l : Launch) : en_Met l SX1 vwCl yX1_set wsX1_set rmX1_set false false prX1_set poX1_set := en_met false 2 (by decide +kernel) rfl rfl owX1_set (ctX1_set_ok l) ⟨_, rfl⟩ tX1_set_ok vX1_set
set_option maxRecDepth 100000 in
theorem ctX1_fields_ok (l : Launch) : ∀ i q, en_ct ctX1_fields i = some q → en_CallOk l rmX1_fields SX1 vwCl wsX1_fields RX1 i q := by
  intro i q h
  have h := en_ct_mem h
  simp only [ctX1_fields, List.mem_cons, List.not_mem_nil, or_false, Prod.mk.injEq] at h
  rcases h with ⟨rfl, rfl⟩ | ⟨rfl, rfl⟩ | ⟨rfl, rfl⟩
  · exact ⟨yX1_isRoot, wsX1_isRoot, _, rmX1_isRoot, cX1_isRoot, 1, _, mX1_isRoot l, rfl, rfl, rfl, gX1_fields_X1_isRoot, by decide +kernel, by decide +kernel⟩
  · exact ⟨yX1_holds, wsX1_holds, _, rmX1_holds, cX1_holds, 2, _, mX1_holds l, rfl, rfl, rfl, gX1_fields_X1_holds, by decide +kernel, by decide +kernel⟩
  · exact ⟨yX1_slotOf, wsX1_slotOf, _, rmX1_slotOf, cX1_slotOf, 1, _, mX1_slotOf l, rfl, rfl, rfl, gX1_fields_X1_slotOf, by decide +kernel, by decide +kernel⟩
set_option maxRecDepth 100000 in
theorem mX1_fields (l : Launch) : en_Met l SX1 vwCl yX1_fields wsX1_fields rmX1_fields false false prX1_fields poX1_fields := en_met false 1 (by decide +kernel) rfl rfl owX1_fields (ctX1_fields_ok l) ⟨_, rfl⟩ tX1_fields_ok vX1_fields
set_option maxRecDepth 100000 in
theorem ctX1_place_ok (l : Launch) : ∀ i q, en_ct ctX1_place i = some q → en_CallOk l rmX1_place SX1 vwCl wsX1_place RX1 i q := by
  intro i q h
  have h := en_ct_mem h
  simp only [ctX1_place, List.mem_cons, List.not_mem_nil, or_false, Prod.mk.injEq] at h
  rcases h with ⟨rfl, rfl⟩ | ⟨rfl, rfl⟩ | ⟨rfl, rfl⟩
  · exact ⟨yX1_isRoot, wsX1_isRoot, _, rmX1_isRoot, cX1_isRoot, 1, _, mX1_isRoot l, rfl, rfl, rfl, gX1_place_X1_isRoot, by decide +kernel, by decide +kernel⟩
  · exact ⟨yX1_holds, wsX1_holds, _, rmX1_holds, cX1_holds, 2, _, mX1_holds l, rfl, rfl, rfl, gX1_place_X1_holds, by decide +kernel, by decide +kernel⟩
  · exact ⟨yX1_slotOf, wsX1_slotOf, _, rmX1_slotOf, cX1_slotOf, 1, _, mX1_slotOf l, rfl, rfl, rfl, gX1_place_X1_slotOf, by decide +kernel, by decide +kernel⟩
set_option maxRecDepth 100000 in
theorem mX1_place (l : Launch) : en_Met l SX1 vwCl yX1_place wsX1_place rmX1_place false false prX1_place poX1_place := en_met false 1 (by decide +kernel) rfl rfl owX1_place (ctX1_place_ok l) ⟨_, rfl⟩ tX1_place_ok vX1_place
set_option maxRecDepth 100000 in
theorem ctX1_colour_ok (l : Launch) : ∀ i q, en_ct ctX1_colour i = some q → en_CallOk l rmX1_colour SX1 vwCl wsX1_colour RX1 i q := by
  intro i q h
  have h := en_ct_mem h
  simp only [ctX1_colour, List.mem_cons, List.not_mem_nil, or_false, Prod.mk.injEq] at h
  rcases h with ⟨rfl, rfl⟩
  · exact ⟨yX1_field, wsX1_field, _, rmX1_field, cX1_field, 4, _, mX1_field l, rfl, rfl, rfl, gX1_colour_X1_field, by decide +kernel, by decide +kernel⟩
set_option maxRecDepth 100000 in
theorem mX1_colour (l : Launch) : en_Met l SX1 vwCl yX1_colour wsX1_colour rmX1_colour false false prX1_colour poX1_colour := en_met false 1 (by decide +kernel) rfl rfl owX1_colour (ctX1_colour_ok l) ⟨_, rfl⟩ tX1_colour_ok vX1_colour
set_option maxRecDepth 100000 in
theorem ctX1_behind_ok (l : Launch) : ∀ i q, en_ct ctX1_behind i = some q → en_CallOk l rmX1_behind SX1 vwCl wsX1_behind RX1 i q := by
  intro i q h
  have h := en_ct_mem h
  simp only [ctX1_behind, List.mem_cons, List.not_mem_nil, or_false, Prod.mk.injEq] at h
  rcases h with ⟨rfl, rfl⟩
  · exact ⟨yX1_field, wsX1_field, _, rmX1_field, cX1_field, 4, _, mX1_field l, rfl, rfl, rfl, gX1_behind_X1_field, by decide +kernel, by decide +kernel⟩
set_option maxRecDepth 100000 in
theorem mX1_behind (l : Launch) : en_Met l SX1 vwCl yX1_behind wsX1_behind rmX1_behind false false prX1_behind poX1_behind := en_met false 1 (by decide +kernel) rfl rfl owX1_behind (ctX1_behind_ok l) ⟨_, rfl⟩ tX1_behind_ok vX1_behind
set_option maxRecDepth 100000 in
theorem ctX1_begin_ok (l : Launch) : ∀ i q, en_ct ctX1_begin i = some q → en_CallOk l rmX1_begin SX1 vwCl wsX1_begin RX1 i q := by
  intro i q h
  have h := en_ct_mem h
  simp only [ctX1_begin, List.mem_cons, List.not_mem_nil, or_false, Prod.mk.injEq] at h
  rcases h with ⟨rfl, rfl⟩
  · exact ⟨yX1_healRoots, wsX1_healRoots, _, rmX1_healRoots, cX1_healRoots, 2, _, mX1_healRoots l, rfl, rfl, rfl, gX1_begin_X1_healRoots, by decide +kernel, by decide +kernel⟩
set_option maxRecDepth 100000 in
theorem mX1_begin (l : Launch) : en_Met l SX1 vwCl yX1_begin wsX1_begin rmX1_begin false true prX1_begin poX1_begin := en_met false 0 (by decide +kernel) rfl rfl owX1_begin (ctX1_begin_ok l) ⟨_, rfl⟩ tX1_begin_ok vX1_begin
set_option maxRecDepth 100000 in
theorem ctX1_markedIn_ok (l : Launch) : ∀ i q, en_ct ctX1_markedIn i = some q → en_CallOk l rmX1_markedIn SX1 vwCl wsX1_markedIn RX1 i q := by
  intro i q h
  have h := en_ct_mem h
  cases h
set_option maxRecDepth 100000 in
theorem mX1_markedIn (l : Launch) : en_Met l SX1 vwCl yX1_markedIn wsX1_markedIn rmX1_markedIn false false prX1_markedIn poX1_markedIn := en_met false 1 (by decide +kernel) rfl rfl owX1_markedIn (ctX1_markedIn_ok l) ⟨_, rfl⟩ tX1_markedIn_ok vX1_markedIn
set_option maxRecDepth 100000 in
theorem ctX1_markOne_ok (l : Launch) : ∀ i q, en_ct ctX1_markOne i = some q → en_CallOk l rmX1_markOne SX1 vwCl wsX1_markOne RX1 i q := by
  intro i q h
  have h := en_ct_mem h
  simp only [ctX1_markOne, List.mem_cons, List.not_mem_nil, or_false, Prod.mk.injEq] at h
  rcases h with ⟨rfl, rfl⟩
  · exact ⟨yX1_heal, wsX1_heal, _, rmX1_heal, cX1_heal, 4, _, mX1_heal l, rfl, rfl, rfl, gX1_markOne_X1_heal, by decide +kernel, by decide +kernel⟩
set_option maxRecDepth 100000 in
theorem mX1_markOne (l : Launch) : en_Met l SX1 vwCl yX1_markOne wsX1_markOne rmX1_markOne false true prX1_markOne poX1_markOne := en_met false 0 (by decide +kernel) rfl rfl owX1_markOne (ctX1_markOne_ok l) ⟨_, rfl⟩ tX1_markOne_ok vX1_markOne
set_option maxRecDepth 100000 in
theorem ctX1_choose_ok (l : Launch) : ∀ i q, en_ct ctX1_choose i = some q → en_CallOk l rmX1_choose SX1 vwCl wsX1_choose RX1 i q := by
  intro i q h
  have h := en_ct_mem h
  simp only [ctX1_choose, List.mem_cons, List.not_mem_nil, or_false, Prod.mk.injEq] at h
  rcases h with ⟨rfl, rfl⟩ | ⟨rfl, rfl⟩ | ⟨rfl, rfl⟩
  · exact ⟨yX1_markedIn, wsX1_markedIn, _, rmX1_markedIn, cX1_markedIn, 5, _, mX1_markedIn l, rfl, rfl, rfl, gX1_choose_X1_markedIn, by decide +kernel, by decide +kernel⟩
  · exact ⟨yX1_release, wsX1_release, _, rmX1_release, cX1_release, 3, _, mX1_release l, rfl, rfl, rfl, gX1_choose_X1_release, by decide +kernel, by decide +kernel⟩
  · exact ⟨yX1_healRoots, wsX1_healRoots, _, rmX1_healRoots, cX1_healRoots, 2, _, mX1_healRoots l, rfl, rfl, rfl, gX1_choose_X1_healRoots, by decide +kernel, by decide +kernel⟩
set_option maxRecDepth 100000 in
theorem mX1_choose (l : Launch) : en_Met l SX1 vwCl yX1_choose wsX1_choose rmX1_choose false true prX1_choose poX1_choose := en_met false 0 (by decide +kernel) rfl rfl owX1_choose (ctX1_choose_ok l) ⟨_, rfl⟩ tX1_choose_ok vX1_choose
set_option maxRecDepth 100000 in
theorem ctX1_leastInSet_ok (l : Launch) : ∀ i q, en_ct ctX1_leastInSet i = some q → en_CallOk l rmX1_leastInSet SX1 vwCl wsX1_leastInSet RX1 i q := by
  intro i q h
  have h := en_ct_mem h
  cases h
set_option maxRecDepth 100000 in
theorem mX1_leastInSet (l : Launch) : en_Met l SX1 vwCl yX1_leastInSet wsX1_leastInSet rmX1_leastInSet false false prX1_leastInSet poX1_leastInSet := en_met false 1 (by decide +kernel) rfl rfl owX1_leastInSet (ctX1_leastInSet_ok l) ⟨_, rfl⟩ tX1_leastInSet_ok vX1_leastInSet
set_option maxRecDepth 100000 in
theorem ctX1_relocate_ok (l : Launch) : ∀ i q, en_ct ctX1_relocate i = some q → en_CallOk l rmX1_relocate SX1 vwCl wsX1_relocate RX1 i q := by
  intro i q h
  have h := en_ct_mem h
  simp only [ctX1_relocate, List.mem_cons, List.not_mem_nil, or_false, Prod.mk.injEq] at h
  rcases h with ⟨rfl, rfl⟩ | ⟨rfl, rfl⟩ | ⟨rfl, rfl⟩
  · exact ⟨yX1_move, wsX1_move, _, rmX1_move, cX1_move, 4, _, mX1_move l, rfl, rfl, rfl, gX1_relocate_X1_move, by decide +kernel, by decide +kernel⟩
  · exact ⟨yX1_markedIn, wsX1_markedIn, _, rmX1_markedIn, cX1_markedIn, 5, _, mX1_markedIn l, rfl, rfl, rfl, gX1_relocate_X1_markedIn, by decide +kernel, by decide +kernel⟩
  · exact ⟨yX1_release, wsX1_release, _, rmX1_release, cX1_release, 3, _, mX1_release l, rfl, rfl, rfl, gX1_relocate_X1_release, by decide +kernel, by decide +kernel⟩
set_option maxRecDepth 100000 in
theorem mX1_relocate (l : Launch) : en_Met l SX1 vwCl yX1_relocate wsX1_relocate rmX1_relocate false true prX1_relocate poX1_relocate := en_met false 0 (by decide +kernel) rfl rfl owX1_relocate (ctX1_relocate_ok l) ⟨_, rfl⟩ tX1_relocate_ok vX1_relocate
set_option maxRecDepth 100000 in
theorem ctX1_step_ok (l : Launch) : ∀ i q, en_ct ctX1_step i = some q → en_CallOk l rmX1_step SX1 vwCl wsX1_step RX1 i q := by
  intro i q h
  have h := en_ct_mem h
  simp only [ctX1_step, List.mem_cons, List.not_mem_nil, or_false, Prod.mk.injEq] at h
  rcases h with ⟨rfl, rfl⟩ | ⟨rfl, rfl⟩ | ⟨rfl, rfl⟩ | ⟨rfl, rfl⟩ | ⟨rfl, rfl⟩
  · exact ⟨yX1_begin, wsX1_begin, _, rmX1_begin, cX1_begin, 2, _, mX1_begin l, rfl, rfl, rfl, gX1_step_X1_begin, by decide +kernel, by decide +kernel⟩
  · exact ⟨yX1_markOne, wsX1_markOne, _, rmX1_markOne, cX1_markOne, 3, _, mX1_markOne l, rfl, rfl, rfl, gX1_step_X1_markOne, by decide +kernel, by decide +kernel⟩
  · exact ⟨yX1_choose, wsX1_choose, _, rmX1_choose, cX1_choose, 3, _, mX1_choose l, rfl, rfl, rfl, gX1_step_X1_choose, by decide +kernel, by decide +kernel⟩
  · exact ⟨yX1_leastInSet, wsX1_leastInSet, _, rmX1_leastInSet, cX1_leastInSet, 2, _, mX1_leastInSet l, rfl, rfl, rfl, gX1_step_X1_leastInSet, by decide +kernel, by decide +kernel⟩
  · exact ⟨yX1_relocate, wsX1_relocate, _, rmX1_relocate, cX1_relocate, 3, _, mX1_relocate l, rfl, rfl, rfl, gX1_step_X1_relocate, by decide +kernel, by decide +kernel⟩
set_option maxRecDepth 100000 in
theorem mX1_step (l : Launch) : en_Met l SX1 vwCl yX1_step wsX1_step rmX1_step false true prX1_step poX1_step := en_met false 0 (by decide +kernel) rfl rfl owX1_step (ctX1_step_ok l) ⟨_, rfl⟩ tX1_step_ok vX1_step
set_option maxRecDepth 100000 in
theorem ctX1_collect_ok (l : Launch) : ∀ i q, en_ct ctX1_collect i = some q → en_CallOk l rmX1_collect SX1 vwCl wsX1_collect RX1 i q := by
  intro i q h
  have h := en_ct_mem h
  simp only [ctX1_collect, List.mem_cons, List.not_mem_nil, or_false, Prod.mk.injEq] at h
  rcases h with ⟨rfl, rfl⟩
  · exact ⟨yX1_step, wsX1_step, _, rmX1_step, cX1_step, 1, _, mX1_step l, rfl, rfl, rfl, gX1_collect_X1_step, by decide +kernel, by decide +kernel⟩
set_option maxRecDepth 100000 in
theorem mX1_collect (l : Launch) : en_Met l SX1 vwCl yX1_collect wsX1_collect rmX1_collect false false prX1_collect poX1_collect := en_met false 1 (by decide +kernel) rfl rfl owX1_collect (ctX1_collect_ok l) ⟨_, rfl⟩ tX1_collect_ok vX1_collect
set_option maxRecDepth 100000 in
theorem ctX1_phase_ok (l : Launch) : ∀ i q, en_ct ctX1_phase i = some q → en_CallOk l rmX1_phase SX1 vwCl wsX1_phase RX1 i q := by
  intro i q h
  have h := en_ct_mem h
  cases h
set_option maxRecDepth 100000 in
theorem mX1_phase (l : Launch) : en_Met l SX1 vwCl yX1_phase wsX1_phase rmX1_phase false false prX1_phase poX1_phase := en_met false 1 (by decide +kernel) rfl rfl owX1_phase (ctX1_phase_ok l) ⟨_, rfl⟩ tX1_phase_ok vX1_phase
set_option maxRecDepth 100000 in
theorem ctX1_stack_ok (l : Launch) : ∀ i q, en_ct ctX1_stack i = some q → en_CallOk l rmX1_stack SX1 vwCl wsX1_stack RX1 i q := by
  intro i q h
  have h := en_ct_mem h
  cases h
set_option maxRecDepth 100000 in
theorem mX1_stack (l : Launch) : en_Met l SX1 vwCl yX1_stack wsX1_stack rmX1_stack false false prX1_stack poX1_stack := en_met false 1 (by decide +kernel) rfl rfl owX1_stack (ctX1_stack_ok l) ⟨_, rfl⟩ tX1_stack_ok vX1_stack
set_option maxRecDepth 100000 in
theorem ctX1_page_ok (l : Launch) : ∀ i q, en_ct ctX1_page i = some q → en_CallOk l rmX1_page SX1 vwCl wsX1_page RX1 i q := by
  intro i q h
  have h := en_ct_mem h
  simp only [ctX1_page, List.mem_cons, List.not_mem_nil, or_false, Prod.mk.injEq] at h
  rcases h with ⟨rfl, rfl⟩
  · exact ⟨yX1_markedIn, wsX1_markedIn, _, rmX1_markedIn, cX1_markedIn, 5, _, mX1_markedIn l, rfl, rfl, rfl, gX1_page_X1_markedIn, by decide +kernel, by decide +kernel⟩
set_option maxRecDepth 100000 in
theorem mX1_page (l : Launch) : en_Met l SX1 vwCl yX1_page wsX1_page rmX1_page false false prX1_page poX1_page := en_met false 1 (by decide +kernel) rfl rfl owX1_page (ctX1_page_ok l) ⟨_, rfl⟩ tX1_page_ok vX1_page
set_option maxRecDepth 100000 in
theorem ctX1_healed_ok (l : Launch) : ∀ i q, en_ct ctX1_healed i = some q → en_CallOk l rmX1_healed SX1 vwCl wsX1_healed RX1 i q := by
  intro i q h
  have h := en_ct_mem h
  cases h
set_option maxRecDepth 100000 in
theorem mX1_healed (l : Launch) : en_Met l SX1 vwCl yX1_healed wsX1_healed rmX1_healed false false prX1_healed poX1_healed := en_met false 1 (by decide +kernel) rfl rfl owX1_healed (ctX1_healed_ok l) ⟨_, rfl⟩ tX1_healed_ok vX1_healed
set_option maxRecDepth 100000 in
theorem ctX1_moved_ok (l : Launch) : ∀ i q, en_ct ctX1_moved i = some q → en_CallOk l rmX1_moved SX1 vwCl wsX1_moved RX1 i q := by
  intro i q h
  have h := en_ct_mem h
  cases h
set_option maxRecDepth 100000 in
theorem mX1_moved (l : Launch) : en_Met l SX1 vwCl yX1_moved wsX1_moved rmX1_moved false false prX1_moved poX1_moved := en_met false 1 (by decide +kernel) rfl rfl owX1_moved (ctX1_moved_ok l) ⟨_, rfl⟩ tX1_moved_ok vX1_moved
set_option maxRecDepth 100000 in
theorem ctX1_cycles_ok (l : Launch) : ∀ i q, en_ct ctX1_cycles i = some q → en_CallOk l rmX1_cycles SX1 vwCl wsX1_cycles RX1 i q := by
  intro i q h
  have h := en_ct_mem h
  cases h
set_option maxRecDepth 100000 in
theorem mX1_cycles (l : Launch) : en_Met l SX1 vwCl yX1_cycles wsX1_cycles rmX1_cycles false false prX1_cycles poX1_cycles := en_met false 1 (by decide +kernel) rfl rfl owX1_cycles (ctX1_cycles_ok l) ⟨_, rfl⟩ tX1_cycles_ok vX1_cycles

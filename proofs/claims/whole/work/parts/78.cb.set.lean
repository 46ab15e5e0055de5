set_option maxHeartbeats 1500000 in
set_option maxRecDepth 100000 in
/-- set -/
theorem law_c6 {p : Program} {l : Launch} {e : Env} {s : State} {m : MethodId} {below : List Frame} {meth : Method} {c : Code} {b L : Nat} {xs : Nat → Int32} (hL : L ≤ 2049) (C0 : lw_At p s m meth c b L xs) {D : va_G} {cI cZ : ClassId} {ad0 ad1 : Nat → Nat} (hK : va_K D vwCl [(cI, .int), (cZ, .boolean)] s) {σ M : Mo} (hkc : KC M σ) (hgd : Gd M) (hcy : M 0 14 < 2147480000) {i : Nat} (hi : i + 3 < L) {H : Heap} {locs : List Loc} {ls : Array Slot} (hP0 : va_P D vwCl (en_w SX0 ad0 cI cZ (rep σ)) H) (hP1 : va_P D vwCl (en_w SX1 ad1 cI cZ (rep M)) H) (hD : va_D (fun q : Nat => s.heap.size ≤ q) (en_w SX0 ad0 cI cZ (rep σ) ++ en_w SX1 ad1 cI cZ (rep M))) (hS : va_S (fun q : Nat => s.heap.size ≤ q) s.heap H locs) (hl : lv_has ls 4 [(0, .ref b), (1, .ref (ad0 0)), (2, .ref (ad1 0)), (3, .int (oi (i : Int)))]) (nxt : ∀ (M' σ' : Mo) (H : Heap) (locs : List Loc), KC M' σ' → Gd M' → M' 0 14 ≤ M 0 14 + 100 → va_P D vwCl (en_w SX0 ad0 cI cZ (rep σ')) H → va_P D vwCl (en_w SX1 ad1 cI cZ (rep M')) H → va_D (fun q : Nat => s.heap.size ≤ q) (en_w SX0 ad0 cI cZ (rep σ') ++ en_w SX1 ad1 cI cZ (rep M')) → va_S (fun q : Nat => s.heap.size ≤ q) s.heap H locs → W p l e room_1 s m #[Value.ref b] below meth c H locs 24 2548 (lw_Z below #[Value.ref b] s) (F0 m 602 ls [])) : W p l e room_1 s m #[Value.ref b] below meth c H locs 24 2548 (lw_Z below #[Value.ref b] s) (F0 m 336 ls []) := by
  obtain ⟨hx, hb, hr, hml, hown, hts, hX, hbl, hlocks, hgv⟩ := C0
  have hts := fun w h => hts w (wsL_law_in w h)
  have hown : s.vm.findClass RL = some m.cls := hown
  have hA : ∀ q : Nat, s.heap.size ≤ q → (fun q : Nat => s.heap.size ≤ q) q := fun _ h => h
  have hbA : ¬ (fun q : Nat => s.heap.size ≤ q) b := Nat.not_le.mpr hbl
  have l0 := lv_at hl 0 rfl
  have l3 := lv_at hl 3 rfl
  have hrg : ∀ a ∈ ([(xs (i + 1)).toInt, (xs (i + 2)).toInt] : List Int), rg a := by
    intro a ha
    simp only [List.mem_cons, List.not_mem_nil, or_false] at ha
    rcases ha with rfl | rfl <;> exact (oi_of _).1
  refine lv_aload_n hx hb dL_law_336 rfl (lv_at hl 1 rfl) ?_
  refine lw_arg (k := 1) hx hb hX hbl hbA hS hL l0 l3 rfl (by omega) dL_law_337 dL_law_338 dL_law_339 dL_law_340 dL_law_341 ?_
  refine lw_arg (k := 2) hx hb hX hbl hbA hS hL l0 l3 rfl (by omega) dL_law_342 dL_law_343 dL_law_344 dL_law_345 dL_law_346 ?_
  refine lw_call (rest := []) ⟨hx, hb, hml, hown, hts⟩ hK hP0 hP1 hD hS hA (mX0_set l) M [(xs (i + 1)).toInt, (xs (i + 2)).toInt] ⟨⟨hkc, hgd⟩, hcy, rfl, hrg⟩ rfl rfl (cwV 2 hts gL_law_X0_set rfl rfl rfl (by decide +kernel) ⟨Nat.le_of_ble_eq_true rfl, Nat.le_of_ble_eq_true rfl⟩) rfl hl.1 (Nat.le_of_ble_eq_true rfl) dL_law_347 ⟨Nat.le_of_ble_eq_true rfl, Nat.le_of_ble_eq_true rfl⟩ (fun r0 σ1 H locs hq0 hP0 hP1 hD hS => ?_)
  obtain ⟨e0, hkc1⟩ := hq0
  refine lv_aload_n hx hb dL_law_350 rfl (lv_at hl 2 rfl) ?_
  refine lw_arg (k := 1) hx hb hX hbl hbA hS hL l0 l3 rfl (by omega) dL_law_351 dL_law_352 dL_law_353 dL_law_354 dL_law_355 ?_
  refine lw_arg (k := 2) hx hb hX hbl hbA hS hL l0 l3 rfl (by omega) dL_law_356 dL_law_357 dL_law_358 dL_law_359 dL_law_360 ?_
  refine lw_call (rest := [.int (oi r0)]) ⟨hx, hb, hml, hown, hts⟩ hK hP1 hP0 (da_c hD) hS hA (mX1_set l) M [(xs (i + 1)).toInt, (xs (i + 2)).toInt] ⟨⟨rfl, hgd⟩, hcy, rfl, hrg⟩ rfl rfl (cwV 2 hts gL_law_X1_set rfl rfl rfl (by decide +kernel) ⟨Nat.le_of_ble_eq_true rfl, Nat.le_of_ble_eq_true rfl⟩) rfl hl.1 (Nat.le_of_ble_eq_true rfl) dL_law_361 ⟨Nat.le_of_ble_eq_true rfl, Nat.le_of_ble_eq_true rfl⟩ (fun r1 τ1 H locs hq1 hP1 hP0 hD hS => ?_)
  obtain ⟨e1, hkr⟩ := hq1
  have hkr : τ1 = (f_set M [(xs (i + 1)).toInt, (xs (i + 2)).toInt]).2 := hkr
  subst hkr
  refine lv_icmp_eq (tgt := 602) hx hb dL_law_364 (by decide) (fun _ => ?_) (fun hne => absurd (by rw [e0, e1]) hne)
  obtain ⟨g2, c2⟩ := gd_set hgd hrg
  exact nxt _ σ1 H locs hkc1 g2 (by omega) hP0 hP1 (da_c hD) hS

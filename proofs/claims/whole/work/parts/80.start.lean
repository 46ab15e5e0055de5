theorem nw_f0 : ∀ j, j < 17 → defaultValue (tyX0 j) = vp_V [.int (oi 0), .null, .null, .null, .null, .null, .null, .null, .int (oi 0), .null, .null, .null, .int (oi 0), .int (oi 0), .int (oi 0), .int (oi 0), .int (oi 0)] j := by
  intro j hj
  rcases (show j = 0 ∨ j = 1 ∨ j = 2 ∨ j = 3 ∨ j = 4 ∨ j = 5 ∨ j = 6 ∨ j = 7 ∨ j = 8 ∨ j = 9 ∨ j = 10 ∨ j = 11 ∨ j = 12 ∨ j = 13 ∨ j = 14 ∨ j = 15 ∨ j = 16 by omega) with rfl | rfl | rfl | rfl | rfl | rfl | rfl | rfl | rfl | rfl | rfl | rfl | rfl | rfl | rfl | rfl | rfl <;> first | rfl | (show Value.int 0 = Value.int (oi 0); rw [oi_0])
theorem nw_f1 : ∀ j, j < 19 → defaultValue (tyX1 j) = vp_V [.int (oi 0), .null, .null, .null, .null, .null, .null, .null, .null, .null, .null, .null, .int (oi 0), .int (oi 0), .int (oi 0), .int (oi 0), .int (oi 0), .int (oi 0), .null] j := by
  intro j hj
  rcases (show j = 0 ∨ j = 1 ∨ j = 2 ∨ j = 3 ∨ j = 4 ∨ j = 5 ∨ j = 6 ∨ j = 7 ∨ j = 8 ∨ j = 9 ∨ j = 10 ∨ j = 11 ∨ j = 12 ∨ j = 13 ∨ j = 14 ∨ j = 15 ∨ j = 16 ∨ j = 17 ∨ j = 18 by omega) with rfl | rfl | rfl | rfl | rfl | rfl | rfl | rfl | rfl | rfl | rfl | rfl | rfl | rfl | rfl | rfl | rfl | rfl | rfl <;> first | rfl | (show Value.int 0 = Value.int (oi 0); rw [oi_0])
theorem pr_l {D : va_G} {cl : List vw_C} {a b : va_W} {H : Heap} (h : va_P D cl (a ++ b) H) : va_P D cl a H := fun k q hk => h k q (by rw [List.getElem?_append_left (List.getElem?_eq_some_iff.mp hk).1]; exact hk)
theorem pr_r {D : va_G} {cl : List vw_C} {a b : va_W} {H : Heap} (h : va_P D cl (a ++ b) H) : va_P D cl b H := fun k q hk => h (a.length + k) q (by rw [List.getElem?_append_right (by omega), show a.length + k - a.length = k by omega]; exact hk)
set_option maxHeartbeats 4000000 in
set_option maxRecDepth 100000 in
/-- THE LAW, from its entry -/
theorem whole_start {p : Program} {e : Env} {s : State} {m : MethodId} {below : List Frame} {meth : Method} {c : Code} (l : Launch) {b L : Nat} {xs : Nat → Int32} (hL : L ≤ 2049) (C0 : lw_At p s m meth c b L xs) : W p l e room_1 s m #[Value.ref b] below meth c s.heap [] 0 0 (lw_Z below #[Value.ref b] s) (entryFrame m ([Value.ref b] : List Value).toArray 4) := by
  obtain ⟨hx, hb, hr, hml, hown, hts0, hX, hbl, hlocks, hgv⟩ := id C0
  have hts := fun w h => hts0 w (wsL_law_in w h)
  have hown : s.vm.findClass RL = some m.cls := hown
  have hA : ∀ q : Nat, s.heap.size ≤ q → (fun q : Nat => s.heap.size ≤ q) q := fun _ h => h
  have hbA : ¬ (fun q : Nat => s.heap.size ≤ q) b := Nat.not_le.mpr hbl
  obtain ⟨c0, iS0, hKn0⟩ := u_known (C := RX0) (T := TX0) (N := 17) (n := 17) hts0 inX0 (hts0 (.instantiable RX0 17) (by decide +kernel))
  obtain ⟨c1, iS1, hKn1⟩ := u_known (C := RX1) (T := TX1) (N := 19) (n := 19) hts0 inX1 (hts0 (.instantiable RX1 19) (by decide +kernel))
  obtain ⟨dC, dI, hKc⟩ : ∃ (dC : Nat → ClassId) (dI : Nat → Nat → Nat), ∀ (k : Nat) (q : vw_C), vwCl[k]? = some q → u_Kn s q.1 q.2.1 q.2.2 (dC k) (dI k) := by
    refine ⟨fun k => if k = 0 then c0 else c1, fun k => if k = 0 then iS0 else iS1, ?_⟩
    intro k q hq
    match k, hq with
    | 0, hq => cases hq; exact hKn0
    | 1, hq => cases hq; exact hKn1
    | k + 2, hq => simp [vwCl] at hq
  have hS : va_S (fun q : Nat => s.heap.size ≤ q) s.heap s.heap [] := va_S.rf
  have hK : va_K (dC, dI) vwCl [] s := ⟨hKc, fun k q h => by simp at h⟩
  have hP : va_P (dC, dI) vwCl [] s.heap := fun k q h => by simp at h
  have hD : va_D (fun q : Nat => s.heap.size ≤ q) [] := ⟨fun i j p q h => by simp at h, fun k q h => by simp at h⟩
  have hl := lv_entry ([.ref b]) (n := 4) (Nat.le_of_ble_eq_true rfl)
  rw [lg_entry_eq]
  generalize (lg_sl ([.ref b]) ++ List.replicate (4 - (lg_sl ([.ref b])).length) Slot.unset).toArray = ls at hl ⊢
  have hl : lv_has ls 4 [(0, .ref b)] := hl
  obtain ⟨th, hth, hrth⟩ : ∃ th : Int, (if 0 < L then xs 0 else oi 0) = oi th ∧ rg th := by
    by_cases h : 0 < L
    · exact ⟨(xs 0).toInt, by rw [if_pos h]; exact (oi_of (xs 0)).2.symm, (oi_of (xs 0)).1⟩
    · exact ⟨0, by rw [if_neg h], rg_0⟩
  refine va_new (ci := 0) (fs := [.int (oi 0), .null, .null, .null, .null, .null, .null, .null, .int (oi 0), .null, .null, .null, .int (oi 0), .int (oi 0), .int (oi 0), .int (oi 0), .int (oi 0)]) (C := RX0) (T := TX0) (N := 17) hx hb hts0 inX0 tyX0 tyX0_ok hown (hts0 (.classLink RL 7 RX0) (by decide +kernel)) (hts0 (.instantiable RX0 17) (by decide +kernel)) (hts0 (.initialized RX0) (by decide +kernel)) hK hP hD hS hA rfl nw_f0 (Nat.le_of_ble_eq_true rfl) (Nat.le_of_ble_eq_true rfl) dL_law_0 (fun x0 H hP hD hS => ?_)
  have hP : va_P (dC, dI) vwCl [(x0, .inr (0, [.int (oi 0), .null, .null, .null, .null, .null, .null, .null, .int (oi 0), .null, .null, .null, .int (oi 0), .int (oi 0), .int (oi 0), .int (oi 0), .int (oi 0)]))] H := hP
  have hD : va_D (fun q : Nat => s.heap.size ≤ q) [(x0, .inr (0, [.int (oi 0), .null, .null, .null, .null, .null, .null, .null, .int (oi 0), .null, .null, .null, .int (oi 0), .int (oi 0), .int (oi 0), .int (oi 0), .int (oi 0)]))] := hD
  refine W.widen (k := 1) (n := 17) (by omega) (by omega) ?_
  refine lv_dup hx hb dL_law_3 rfl ?_
  refine lv_aload_n hx hb dL_law_4 rfl (lv_at hl 0 rfl) ?_
  refine lv_iconst (v := oi 0) hx hb dL_law_5 rfl ?_
  refine va_calli (va_runS (As := [.ref b, .int (oi 0)]) (rest := [.ref x0, .ref x0]) ⟨hx, hb, hml, hown, hts⟩ (c_cell l b L xs hL) (va_cwS 2 hts gL_law_L_cell rfl rfl rfl (by decide +kernel) ⟨Nat.le_of_ble_eq_true rfl, Nat.le_of_ble_eq_true rfl⟩) ⟨fun a U g mk q => by obtain ⟨q0, q1, q2⟩ := q; exact ⟨q0, va_X.moved (u := U) (U := U.calling g mk a) (Vm.Alike.refl U.vm) q1, q2⟩, fun U hU hW => ⟨rfl, by rw [hU]; exact va_X.moved hW.alike (hX.kept (hS.2.1 b hbl hbA)), by rw [hU]; exact Nat.lt_of_lt_of_le hbl hS.1⟩⟩ rfl rfl hl.1 rfl (lv_room (Nat.le_of_ble_eq_true rfl)) dL_law_6 ⟨Nat.le_of_ble_eq_true rfl, Nat.le_of_ble_eq_true rfl⟩) hS (fun q _ h => h.elim) (fun q h => h.elim) (fun r u t H1 locs1 ht hvm hw hB hz1 hk1 hS => ?_)
  have hP : va_P (dC, dI) vwCl [(x0, .inr (0, [.int (oi 0), .null, .null, .null, .null, .null, .null, .null, .int (oi 0), .null, .null, .null, .int (oi 0), .int (oi 0), .int (oi 0), .int (oi 0), .int (oi 0)]))] H1 := hP.kept (fun k q hq => hk1 q.1 ((hP k q hq).lt) (fun z => z))
  have hw : r = oi th := by rw [hw, hth]
  subst hw
  have hFc := va_free (wc := [(x0, .inr (0, [.int (oi 0), .null, .null, .null, .null, .null, .null, .null, .int (oi 0), .null, .null, .null, .int (oi 0), .int (oi 0), .int (oi 0), .int (oi 0), .int (oi 0)]))]) hD hS hA [0] rfl
  refine va_callv (va_runI (As := [.int (oi th)]) (rest := [.ref x0]) ⟨hx, hb, hml, hown, hts⟩ (c_X0_init l (dC, dI) x0 H1.size th hrth) (cwI 1 hts gL_law_X0_init rfl rfl rfl (hts0 (.initialized RX0) (by decide +kernel)) (hts0 (.methodLink RL 15 yX0_init) (by decide +kernel)) (hts0 (.instanceMethod yX0_init) (by decide +kernel)) rfl (by decide +kernel) ⟨Nat.le_of_ble_eq_true rfl, Nat.le_of_ble_eq_true rfl⟩) ⟨fun a U g mk q => by obtain ⟨q0, q1, qP, qK, qD⟩ := q; exact ⟨q0, q1, qP, va_K.moved (u := U) (U := U.calling g mk a) (Vm.Alike.refl U.vm) qK, qD⟩, fun U hU hW => ⟨rfl, by rw [hU], by rw [hU]; exact hP, va_K.moved hW.alike hK, hD.weaken (fun _ _ _ _ => trivial)⟩⟩ rfl rfl hl.1 rfl (lv_room (Nat.le_of_ble_eq_true rfl)) dL_law_9 ⟨Nat.le_of_ble_eq_true rfl, Nat.le_of_ble_eq_true rfl⟩) hS (fun q _ h => hFc q h) hFc (fun u t H2 locs2 ht hvm hw hB hz2 hk2 hS => ?_)
  obtain ⟨⟨cI, cZ⟩, ad0⟩ := u
  have hw : ad0 0 = x0 := hw
  obtain ⟨hPa0, hKa0, hDa0⟩ := hB
  rw [ht] at hPa0
  have hK0 : va_K (dC, dI) vwCl [(cI, .int), (cZ, .boolean)] s := va_K.moved hvm.symm hKa0
  have hP0 : va_P (dC, dI) vwCl (en_w SX0 ad0 cI cZ (rep (cls (M0 th) z0 z0))) H2 := hPa0
  have hD0 : va_D (fun q : Nat => s.heap.size ≤ q) (en_w SX0 ad0 cI cZ (rep (cls (M0 th) z0 z0))) := hDa0.weaken (fun _ q _ z => hFc q.1 z)
  subst hw
  refine W.widen (k := 11) (n := 949) (Nat.le_of_ble_eq_true rfl) (Nat.le_of_ble_eq_true rfl) ?_
  refine lv_astore_n (lv' := [(1, .ref (ad0 0)), (0, .ref b)]) hx hb dL_law_12 rfl hl (by decide) rfl (fun ls hl => ?_)
  refine va_new (ci := 1) (fs := [.int (oi 0), .null, .null, .null, .null, .null, .null, .null, .null, .null, .null, .null, .int (oi 0), .int (oi 0), .int (oi 0), .int (oi 0), .int (oi 0), .int (oi 0), .null]) (C := RX1) (T := TX1) (N := 19) hx hb hts0 inX1 tyX1 tyX1_ok hown (hts0 (.classLink RL 18 RX1) (by decide +kernel)) (hts0 (.instantiable RX1 19) (by decide +kernel)) (hts0 (.initialized RX1) (by decide +kernel)) hK0 hP0 hD0 hS hA rfl nw_f1 (Nat.le_of_ble_eq_true rfl) (Nat.le_of_ble_eq_true rfl) dL_law_13 (fun x1 H3 hP hD hS => ?_)
  refine W.widen (k := 12) (n := 968) (Nat.le_of_ble_eq_true rfl) (Nat.le_of_ble_eq_true rfl) ?_
  refine lv_dup hx hb dL_law_16 rfl ?_
  refine lv_aload_n hx hb dL_law_17 rfl (lv_at hl 1 rfl) ?_
  refine lv_iconst (v := oi 0) hx hb dL_law_18 rfl ?_
  refine va_calli (va_runS (As := [.ref b, .int (oi 0)]) (rest := [.ref x1, .ref x1]) ⟨hx, hb, hml, hown, hts⟩ (c_cell l b L xs hL) (va_cwS 2 hts gL_law_L_cell rfl rfl rfl (by decide +kernel) ⟨Nat.le_of_ble_eq_true rfl, Nat.le_of_ble_eq_true rfl⟩) ⟨fun a U g mk q => by obtain ⟨q0, q1, q2⟩ := q; exact ⟨q0, va_X.moved (u := U) (U := U.calling g mk a) (Vm.Alike.refl U.vm) q1, q2⟩, fun U hU hW => ⟨rfl, by rw [hU]; exact va_X.moved hW.alike (hX.kept (hS.2.1 b hbl hbA)), by rw [hU]; exact Nat.lt_of_lt_of_le hbl hS.1⟩⟩ rfl rfl hl.1 rfl (lv_room (Nat.le_of_ble_eq_true rfl)) dL_law_19 ⟨Nat.le_of_ble_eq_true rfl, Nat.le_of_ble_eq_true rfl⟩) hS (fun q _ h => h.elim) (fun q h => h.elim) (fun r u t H4 locs4 ht hvm hw hB hz4 hk4 hS => ?_)
  have hP : va_P (dC, dI) vwCl (en_w SX0 ad0 cI cZ (rep (cls (M0 th) z0 z0)) ++ [(x1, .inr (1, [.int (oi 0), .null, .null, .null, .null, .null, .null, .null, .null, .null, .null, .null, .int (oi 0), .int (oi 0), .int (oi 0), .int (oi 0), .int (oi 0), .int (oi 0), .null]))]) H4 := hP.kept (fun k q hq => hk4 q.1 ((hP k q hq).lt) (fun z => z))
  have hw : r = oi th := by rw [hw, hth]
  subst hw
  have hP1 : va_P (dC, dI) vwCl [(x1, .inr (1, [.int (oi 0), .null, .null, .null, .null, .null, .null, .null, .null, .null, .null, .null, .int (oi 0), .int (oi 0), .int (oi 0), .int (oi 0), .int (oi 0), .int (oi 0), .null]))] H4 := pr_r hP
  have hP0 : va_P (dC, dI) vwCl (en_w SX0 ad0 cI cZ (rep (cls (M0 th) z0 z0))) H4 := pr_l hP
  have hDx := da_c hD
  have hFc := va_free (wc := [(x1, .inr (1, [.int (oi 0), .null, .null, .null, .null, .null, .null, .null, .null, .null, .null, .null, .int (oi 0), .int (oi 0), .int (oi 0), .int (oi 0), .int (oi 0), .int (oi 0), .null]))]) (da_l hDx) hS hA [0] rfl
  have hD1 := da_l hDx
  have hK00 : va_K (dC, dI) vwCl [] s := hK0.sub [] rfl
  refine va_callv (va_runI (As := [.int (oi th)]) (rest := [.ref x1]) ⟨hx, hb, hml, hown, hts⟩ (c_X1_init l (dC, dI) x1 H4.size th hrth) (cwI 1 hts gL_law_X1_init rfl rfl rfl (hts0 (.initialized RX1) (by decide +kernel)) (hts0 (.methodLink RL 20 yX1_init) (by decide +kernel)) (hts0 (.instanceMethod yX1_init) (by decide +kernel)) rfl (by decide +kernel) ⟨Nat.le_of_ble_eq_true rfl, Nat.le_of_ble_eq_true rfl⟩) ⟨fun a U g mk q => by obtain ⟨q0, q1, qP, qK, qD⟩ := q; exact ⟨q0, q1, qP, va_K.moved (u := U) (U := U.calling g mk a) (Vm.Alike.refl U.vm) qK, qD⟩, fun U hU hW => ⟨rfl, by rw [hU], by rw [hU]; exact hP1, va_K.moved hW.alike hK00, hD1.weaken (fun _ _ _ _ => trivial)⟩⟩ rfl rfl hl.1 rfl (lv_room (Nat.le_of_ble_eq_true rfl)) dL_law_22 ⟨Nat.le_of_ble_eq_true rfl, Nat.le_of_ble_eq_true rfl⟩) hS (fun q _ h => hFc q h) hFc (fun u t H5 locs5 ht hvm hw hB hz5 hk5 hS => ?_)
  obtain ⟨⟨cI', cZ'⟩, ad1⟩ := u
  have hw : ad1 0 = x1 := hw
  obtain ⟨hPa1, hKa1, hD1'⟩ := hB
  rw [ht] at hPa1
  have hK1 : va_K (dC, dI) vwCl [(cI', .int), (cZ', .boolean)] s := va_K.moved hvm.symm hKa1
  have hKK := hK0.app hK1
  obtain rfl : cI = cI' := ra_eq (i := 0) (j := 2) .int (by decide) hKK rfl rfl
  obtain rfl : cZ = cZ' := ra_eq (i := 1) (j := 3) .boolean (by decide) hKK rfl rfl
  have hPz : va_P (dC, dI) vwCl (en_w SX1 ad1 cI cZ (rep (M0 th))) H5 := hPa1
  obtain ⟨hPb0, hDa⟩ := pj hP0 hDx hk5 hFc hD1'
  have hDD : va_D (fun q : Nat => s.heap.size ≤ q) (en_w SX1 ad1 cI cZ (rep (M0 th)) ++ en_w SX0 ad0 cI cZ (rep (cls (M0 th) z0 z0))) := hDa
  subst hw
  refine W.widen (k := 24) (n := 2548) (Nat.le_of_ble_eq_true rfl) (Nat.le_of_ble_eq_true rfl) ?_
  refine lv_astore_n (lv' := [(2, .ref (ad1 0)), (1, .ref (ad0 0)), (0, .ref b)]) hx hb dL_law_25 rfl hl (by decide) rfl (fun ls hl => ?_)
  refine lv_iconst (v := oi 1) hx hb dL_law_26 rfl ?_
  refine lv_istore_n (lv' := [(3, .int (oi 1)), (2, .ref (ad1 0)), (1, .ref (ad0 0)), (0, .ref b)]) hx hb dL_law_27 rfl hl (by decide) rfl (fun ls hl => ?_)
  exact law_loop hL C0 hK0 (L + 1) 1 (by omega) (by omega) (M0 th) (cls (M0 th) z0 z0) (kc_0 th) (gd_0 th) (by show (0 : Int) ≤ _; omega) H5 locs5 ls hPb0 hPz (da_c hDD) hS (lv_sub hl [3, 2, 1, 0] rfl)

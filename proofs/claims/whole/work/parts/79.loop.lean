set_option maxHeartbeats 4000000 in
set_option maxRecDepth 100000 in
theorem law_end2 {p : Program} {l : Launch} {e : Env} {s : State} {m : MethodId} {below : List Frame} {meth : Method} {c : Code} {b L i : Nat} {xs : Nat → Int32} {a0 a1 : Nat} {H : Heap} {locs : List Loc} {ls : Array Slot} (hfin : L < i + 4) (h2 : i ≤ 2052) (hx : p.tables.exec = Jvm.exec) (hb : c.code = code) (hr : meth.sig.returnType = ret) (hml : c.maxLocals = 4) (hlocks : meth.locks = false) (hX : va_X b L xs s s.heap) (hbl : b < s.heap.size) (hbA : ¬ (fun q : Nat => s.heap.size ≤ q) b) (eL : Int32.ofNat L = oi (L : Int)) (hL : L ≤ 2049) (hS : va_S (fun q : Nat => s.heap.size ≤ q) s.heap H locs) (hl : lv_has ls 4 [(0, .ref b), (1, .ref a0), (2, .ref a1), (3, .int (oi (i : Int)))]) : W p l e room_1 s m #[Value.ref b] below meth c H locs 24 2548 (lw_Z below #[Value.ref b] s) (F0 m 28 ls []) := by
  refine lv_iload_n hx hb dL_law_28 rfl (lv_at hl 3 rfl) ?_
  refine lv_aload_n hx hb dL_law_29 rfl (lv_at hl 0 rfl) ?_
  refine va_slen hx hb hX hbl hbA hS dL_law_30 ?_
  rw [eL]
  refine lv_iconst (v := oi 4) hx hb dL_law_31 rfl ?_
  refine lv_isub hx hb dL_law_32 ?_
  rw [oi_sub]
  refine lv_icmp_gt (tgt := 608) hx hb dL_law_33 (by decide) (fun c1 => ?_) (fun c1 => ?_)
  · refine lv_iconst (v := 1) hx hb dL_law_608 (by decide) ?_
    refine va_forget (fun q hq => hS.2.2 q hq) ?_
    exact lw_ret hx hb hr hlocks dL_law_609
  · exact absurd ((oi_lt ⟨by omega, by omega⟩ ⟨by omega, by omega⟩).mpr (by omega)) c1
/-! THE LAW: its loop, its start -/
set_option maxHeartbeats 4000000 in
set_option maxRecDepth 100000 in
theorem law_loop {p : Program} {l : Launch} {e : Env} {s : State} {m : MethodId} {below : List Frame} {meth : Method} {c : Code} {b L : Nat} {xs : Nat → Int32} (hL : L ≤ 2049) (C0 : lw_At p s m meth c b L xs) {D : va_G} {cI cZ : ClassId} {ad0 ad1 : Nat → Nat} (hK : va_K D vwCl [(cI, .int), (cZ, .boolean)] s) :
    ∀ (n i : Nat), L + 1 ≤ i + n → i ≤ 2052 → ∀ (M σ : Mo), KC M σ → Gd M → M 0 14 ≤ 100 * (i : Int) → ∀ (H : Heap) (locs : List Loc) (ls : Array Slot), va_P D vwCl (en_w SX0 ad0 cI cZ (rep σ)) H → va_P D vwCl (en_w SX1 ad1 cI cZ (rep M)) H → va_D (fun q : Nat => s.heap.size ≤ q) (en_w SX0 ad0 cI cZ (rep σ) ++ en_w SX1 ad1 cI cZ (rep M)) → va_S (fun q : Nat => s.heap.size ≤ q) s.heap H locs → lv_has ls 4 [(0, .ref b), (1, .ref (ad0 0)), (2, .ref (ad1 0)), (3, .int (oi (i : Int)))] → W p l e room_1 s m #[Value.ref b] below meth c H locs 24 2548 (lw_Z below #[Value.ref b] s) (F0 m 28 ls []) := by
  have C1 := C0
  obtain ⟨hx, hb, hr, hml, hown, hts, hX, hbl, hlocks, hgv⟩ := C1
  have hbA : ¬ (fun q : Nat => s.heap.size ≤ q) b := Nat.not_le.mpr hbl
  have eL : Int32.ofNat L = oi (L : Int) := (oi_nI L).symm
  intro n
  induction n with
  | zero => intro i h1 h2 M σ hkc hgd hcy H locs ls hP0 hP1 hD hS hl; exact law_end2 (by omega) h2 hx hb hr hml hlocks hX hbl hbA eL hL hS hl
  | succ n ih =>
    intro i h1 h2 M σ hkc hgd hcy H locs ls hP0 hP1 hD hS hl
    by_cases hfin : L < i + 4
    · exact law_end2 hfin h2 hx hb hr hml hlocks hX hbl hbA eL hL hS hl
    · refine lv_iload_n hx hb dL_law_28 rfl (lv_at hl 3 rfl) ?_
      refine lv_aload_n hx hb dL_law_29 rfl (lv_at hl 0 rfl) ?_
      refine va_slen hx hb hX hbl hbA hS dL_law_30 ?_
      rw [eL]
      refine lv_iconst (v := oi 4) hx hb dL_law_31 rfl ?_
      refine lv_isub hx hb dL_law_32 ?_
      rw [oi_sub]
      refine lv_icmp_gt (tgt := 608) hx hb dL_law_33 (by decide) (fun c1 => ?_) (fun c1 => ?_)
      · exact absurd ((oi_lt ⟨by omega, by omega⟩ ⟨by omega, by omega⟩).mp c1) (by omega)
      · refine lv_aload_n hx hb dL_law_36 rfl (lv_at hl 0 rfl) ?_
        refine lv_iload_n hx hb dL_law_37 rfl (lv_at hl 3 rfl) ?_
        refine va_sld hx hb hX hbl hbA hS (oi_in (by omega) ⟨by omega, by omega⟩) dL_law_38 ?_
        refine lv_bipush (v := 31) hx hb dL_law_39 (by decide) ?_
        refine lv_iand hx hb dL_law_41 ?_
        obtain ⟨j, hj, ej⟩ := pk_andE (xs (oi (i : Int)).toNatClampNeg) (m := 31) 5 (by decide +kernel)
        rw [ej]
        have hjt : (nI j).toInt = (j : Int) := nI_toInt (by omega)
        have nxt : ∀ (M' σ' : Mo) (H : Heap) (locs : List Loc), KC M' σ' → Gd M' → M' 0 14 ≤ M 0 14 + 100 → va_P D vwCl (en_w SX0 ad0 cI cZ (rep σ')) H → va_P D vwCl (en_w SX1 ad1 cI cZ (rep M')) H → va_D (fun q : Nat => s.heap.size ≤ q) (en_w SX0 ad0 cI cZ (rep σ') ++ en_w SX1 ad1 cI cZ (rep M')) → va_S (fun q : Nat => s.heap.size ≤ q) s.heap H locs → W p l e room_1 s m #[Value.ref b] below meth c H locs 24 2548 (lw_Z below #[Value.ref b] s) (F0 m 602 ls []) := by
          intro M' σ' H locs k1 k2 k3 k4 k5 k6 k7
          refine lv_iinc (v := oi ((i + 4 : Nat) : Int)) (lv' := [(3, .int (oi ((i + 4 : Nat) : Int))), (0, .ref b), (1, .ref (ad0 0)), (2, .ref (ad1 0))]) hx hb dL_law_602 hl (k := 3) rfl (by rw [show (Int32.ofInt 4) = oi 4 from rfl, oi_add]; congr 1) (by decide) rfl (fun ls hl => ?_)
          refine lv_goto (tgt := 28) hx hb dL_law_605 (by decide) ?_
          exact ih (i + 4) (by omega) (by omega) M' σ' k1 k2 (by omega) H locs ls k4 k5 k6 k7 (lv_sub hl [1, 2, 3, 0] rfl)
        rcases (show j = 0 ∨ j = 1 ∨ j = 2 ∨ j = 3 ∨ j = 4 ∨ j = 5 ∨ j = 6 ∨ j = 7 ∨ j = 8 ∨ j = 9 ∨ j = 10 ∨ j = 11 ∨ j = 12 ∨ j = 13 ∨ j = 14 ∨ j = 15 ∨ j = 16 ∨ j = 17 ∨ 17 < j by omega) with rfl | rfl | rfl | rfl | rfl | rfl | rfl | rfl | rfl | rfl | rfl | rfl | rfl | rfl | rfl | rfl | rfl | rfl | hj2
        · exact lv_tableIn (off := 86) (tgt := 128) hx hb dL_law_42 (by rw [hjt]; decide) (by rw [hjt]; decide) (by rw [hjt]; rfl) (by decide) (law_c0 hL C0 hK hkc hgd (by omega) (by omega) hP0 hP1 hD hS hl nxt)
        · exact lv_tableIn (off := 129) (tgt := 171) hx hb dL_law_42 (by rw [hjt]; decide) (by rw [hjt]; decide) (by rw [hjt]; rfl) (by decide) (law_c1 hL C0 hK hkc hgd (by omega) (by omega) hP0 hP1 hD hS hl nxt)
        · exact lv_tableIn (off := 172) (tgt := 214) hx hb dL_law_42 (by rw [hjt]; decide) (by rw [hjt]; decide) (by rw [hjt]; rfl) (by decide) (law_c2 hL C0 hK hkc hgd (by omega) (by omega) hP0 hP1 hD hS hl nxt)
        · exact lv_tableIn (off := 215) (tgt := 257) hx hb dL_law_42 (by rw [hjt]; decide) (by rw [hjt]; decide) (by rw [hjt]; rfl) (by decide) (law_c3 hL C0 hK hkc hgd (by omega) (by omega) hP0 hP1 hD hS hl nxt)
        · exact lv_tableIn (off := 248) (tgt := 290) hx hb dL_law_42 (by rw [hjt]; decide) (by rw [hjt]; decide) (by rw [hjt]; rfl) (by decide) (law_c4 hL C0 hK hkc hgd (by omega) (by omega) hP0 hP1 hD hS hl nxt)
        · exact lv_tableIn (off := 271) (tgt := 313) hx hb dL_law_42 (by rw [hjt]; decide) (by rw [hjt]; decide) (by rw [hjt]; rfl) (by decide) (law_c5 hL C0 hK hkc hgd (by omega) (by omega) hP0 hP1 hD hS hl nxt)
        · exact lv_tableIn (off := 294) (tgt := 336) hx hb dL_law_42 (by rw [hjt]; decide) (by rw [hjt]; decide) (by rw [hjt]; rfl) (by decide) (law_c6 hL C0 hK hkc hgd (by omega) (by omega) hP0 hP1 hD hS hl nxt)
        · exact lv_tableIn (off := 327) (tgt := 369) hx hb dL_law_42 (by rw [hjt]; decide) (by rw [hjt]; decide) (by rw [hjt]; rfl) (by decide) (law_c7 hL C0 hK hkc hgd (by omega) (by omega) hP0 hP1 hD hS hl nxt)
        · exact lv_tableIn (off := 350) (tgt := 392) hx hb dL_law_42 (by rw [hjt]; decide) (by rw [hjt]; decide) (by rw [hjt]; rfl) (by decide) (law_c8 hL C0 hK hkc hgd (by omega) (by omega) hP0 hP1 hD hS hl nxt)
        · exact lv_tableIn (off := 373) (tgt := 415) hx hb dL_law_42 (by rw [hjt]; decide) (by rw [hjt]; decide) (by rw [hjt]; rfl) (by decide) (law_c9 hL C0 hK hkc hgd (by omega) (by omega) hP0 hP1 hD hS hl nxt)
        · exact lv_tableIn (off := 406) (tgt := 448) hx hb dL_law_42 (by rw [hjt]; decide) (by rw [hjt]; decide) (by rw [hjt]; rfl) (by decide) (law_c10 hL C0 hK hkc hgd (by omega) (by omega) hP0 hP1 hD hS hl nxt)
        · exact lv_tableIn (off := 439) (tgt := 481) hx hb dL_law_42 (by rw [hjt]; decide) (by rw [hjt]; decide) (by rw [hjt]; rfl) (by decide) (law_c11 hL C0 hK hkc hgd (by omega) (by omega) hP0 hP1 hD hS hl nxt)
        · exact lv_tableIn (off := 462) (tgt := 504) hx hb dL_law_42 (by rw [hjt]; decide) (by rw [hjt]; decide) (by rw [hjt]; rfl) (by decide) (law_c12 hL C0 hK hkc hgd (by omega) (by omega) hP0 hP1 hD hS hl nxt)
        · exact lv_tableIn (off := 475) (tgt := 517) hx hb dL_law_42 (by rw [hjt]; decide) (by rw [hjt]; decide) (by rw [hjt]; rfl) (by decide) (law_c13 hL C0 hK hkc hgd (by omega) (by omega) hP0 hP1 hD hS hl nxt)
        · exact lv_tableIn (off := 488) (tgt := 530) hx hb dL_law_42 (by rw [hjt]; decide) (by rw [hjt]; decide) (by rw [hjt]; rfl) (by decide) (law_c14 hL C0 hK hkc hgd (by omega) (by omega) hP0 hP1 hD hS hl nxt)
        · exact lv_tableIn (off := 521) (tgt := 563) hx hb dL_law_42 (by rw [hjt]; decide) (by rw [hjt]; decide) (by rw [hjt]; rfl) (by decide) (law_c15 hL C0 hK hkc hgd (by omega) (by omega) hP0 hP1 hD hS hl nxt)
        · exact lv_tableIn (off := 534) (tgt := 576) hx hb dL_law_42 (by rw [hjt]; decide) (by rw [hjt]; decide) (by rw [hjt]; rfl) (by decide) (law_c16 hL C0 hK hkc hgd (by omega) (by omega) hP0 hP1 hD hS hl nxt)
        · exact lv_tableIn (off := 547) (tgt := 589) hx hb dL_law_42 (by rw [hjt]; decide) (by rw [hjt]; decide) (by rw [hjt]; rfl) (by decide) (law_c17 hL C0 hK hkc hgd (by omega) (by omega) hP0 hP1 hD hS hl nxt)
        · exact lv_tableOut (tgt := 602) hx hb dL_law_42 (Or.inr (by rw [hjt]; omega)) (by decide) (nxt M σ H locs hkc hgd (by omega) hP0 hP1 hD hS)

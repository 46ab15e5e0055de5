/-! ROWS FOR THE LAW: a new system; a call beside another system's cells -/
theorem gd_0 (a : Int) : Gd (M0 a) := by
  have ht : 1 ≤ thr a ∧ thr a ≤ 16 := by
    unfold thr
    split
    · omega
    · split <;> omega
  have hw : Wf (M0 a) := by
    refine wf_intro ?_ ?_ ?_ ?_ ?_ ?_ ?_ ?_ ?_ ?_ ?_ ?_ ?_ ?_ ?_ ?_ ?_ ?_ ?_ ?_ ?_ ?_ ?_ ?_ ?_ ?_ ?_
    · intro q; exact Or.inl rfl
    · intro q; show (0 : Int) ≤ 0 ∧ (0 : Int) ≤ 3; omega
    · intro q; exact Or.inl rfl
    · intro q; show -1 ≤ (if q < 128 then (-1 : Int) else 0) ∧ (if q < 128 then (-1 : Int) else 0) < 128; split <;> omega
    · intro q; show (0 : Int) ≤ 0 ∧ (0 : Int) < 128; omega
    · intro q; show (0 : Int) ≤ 0 ∧ (0 : Int) ≤ 3; omega
    · intro q; exact Or.inl rfl
    · intro q; show (0 : Int) ≤ 0 ∧ (0 : Int) ≤ 16; omega
    · intro q; exact Or.inl rfl
    · intro q; exact Or.inl rfl
    · intro q; show (0 : Int) ≤ 0 ∧ (0 : Int) < 128; omega
    · show (-1 : Int) ≤ -1 ∧ (-1 : Int) < 8; omega
    · show (0 : Int) ≤ 0 ∧ (0 : Int) ≤ 2; omega
    · show (0 : Int) ≤ 0 ∧ (0 : Int) < 2147483647; omega
    · show (0 : Int) ≤ 0 ∧ (0 : Int) ≤ 128; omega
    · exact ht
    · intro q; exact rg_0
    · intro q _; exact ⟨rfl, rfl, rfl⟩
    · intro q h; exact absurd (show (0 : Int) = 1 from h) (by decide)
    · intro h; exact absurd (show (0 : Int) ≤ -1 from h) (by decide)
    · intro q h; exact absurd (show (0 : Int) = 1 from h) (by decide)
    · intro q q' h; exact absurd (show (0 : Int) = 1 from h) (by decide)
    · intro q h; exact absurd (show (0 : Int) = 1 from h) (by decide)
    · intro q h; exact absurd (show (0 : Int) = 1 from h) (by decide)
    · intro k hk; have hk : (k : Int) < 0 := hk; omega
    · intro k k' hk; have hk : (k : Int) < 0 := hk; omega
    · intro _; rfl
  refine ⟨fun _ => False, hw, fun p h => h.elim, fun p h => absurd (show (0 : Int) = 1 from h) (by decide), fun r _ h => absurd rfl h, fun p f h => h.elim, fun _ p f h => h.elim, fun _ p h => h.elim, fun _ q _ => rfl⟩
theorem kc_0 (a : Int) : KC (M0 a) (cls (M0 a) z0 z0) := by
  refine ⟨z0, z0, rfl, ?_, fun _ => rg_0, fun _ => ⟨Int.le_refl 0, by show (0 : Int) < 128; decide⟩⟩
  intro i s hx
  rcases hx with _ | ⟨p, f, h, _⟩
  · exact ⟨rfl, fun z => absurd rfl z⟩
  · exact absurd (show (0 : Int) = 1 from h) (by decide)
theorem mX0_placeL (l : Launch) : en_Met l SX0 vwCl yX0_place wsX0_place rmX0_place false false (puP KC 1) (puQ KC f_place) := en_met false 1 (by decide +kernel) rfl rfl owX0_place (ctX0_place_ok l) ⟨_, rfl⟩ tX0_place_ok vX0_placeL
theorem da_l {A : Nat → Prop} {wa wb : va_W} (h : va_D A (wa ++ wb)) : va_D A wa := by
  refine ⟨fun i j p q hi hj e => ?_, fun k q hk => ?_⟩
  · have li := (List.getElem?_eq_some_iff.mp hi).1
    have lj := (List.getElem?_eq_some_iff.mp hj).1
    exact h.1 i j p q (by rw [List.getElem?_append_left li]; exact hi) (by rw [List.getElem?_append_left lj]; exact hj) e
  · have lk := (List.getElem?_eq_some_iff.mp hk).1
    exact h.2 k q (by rw [List.getElem?_append_left lk]; exact hk)
theorem da_r {A : Nat → Prop} {wa wb : va_W} (h : va_D A (wa ++ wb)) : va_D A wb := by
  have at' : ∀ (k : Nat) (q : Nat × va_E), wb[k]? = some q → (wa ++ wb)[wa.length + k]? = some q := fun k q hk => by
    rw [List.getElem?_append_right (by omega), show wa.length + k - wa.length = k by omega]; exact hk
  refine ⟨fun i j p q hi hj e => ?_, fun k q hk => h.2 _ q (at' k q hk)⟩
  have := h.1 _ _ p q (at' i p hi) (at' j q hj) e
  omega
theorem da_x {A : Nat → Prop} {wa wb : va_W} (h : va_D A (wa ++ wb)) : ∀ (i j : Nat) (p q : Nat × va_E), wa[i]? = some p → wb[j]? = some q → p.1 ≠ q.1 := by
  intro i j p q hi hj e
  have li := (List.getElem?_eq_some_iff.mp hi).1
  have := h.1 i (wa.length + j) p q (by rw [List.getElem?_append_left li]; exact hi) (by rw [List.getElem?_append_right (by omega), show wa.length + j - wa.length = j by omega]; exact hj) e
  omega
theorem da_c {A : Nat → Prop} {wa wb : va_W} (h : va_D A (wa ++ wb)) : va_D A (wb ++ wa) := va_D.app (da_r h) (da_l h) (fun i j p q hi hj e => da_x h j i q p hj hi e.symm)
/-- behind a call of the one system the other one's cells stand, and apart -/
theorem pj {A : Nat → Prop} {D : va_G} {cl : List vw_C} {wa wb wa' : va_W} {H H1 : Heap} (hPb : va_P D cl wb H) (hD : va_D A (wa ++ wb)) (hk : ∀ q : Nat, q < H.size → ¬ va_A wa H.size q → H1[q]? = H[q]?) (hF : ∀ q, va_A wa H.size q → A q) (hD1 : va_D (va_A wa H.size) wa') : va_P D cl wb H1 ∧ va_D A (wa' ++ wb) := by
  have apart : ∀ (k : Nat) (q : Nat × va_E), wb[k]? = some q → q.1 < H.size ∧ ¬ va_A wa H.size q.1 := by
    intro k q hq
    have hl := (hPb k q hq).lt
    refine ⟨hl, fun h => ?_⟩
    rcases h with ⟨k2, e, h⟩ | h
    · exact da_x hD k2 k (q.1, e) q h hq rfl
    · omega
  refine ⟨hPb.kept (fun k q hq => hk q.1 (apart k q hq).1 (apart k q hq).2), va_D.app (hD1.weaken (fun _ q _ h => hF q.1 h)) (da_r hD) (fun i j x y hx hy hxy => (apart j y hy).2 (by rw [← hxy]; exact hD1.2 i x hx))⟩
section LWC
variable {p : Program} {l : Launch} {e : Env} {R : Room} {s : State} {m : MethodId} {args : Array Value} {below : List Frame} {meth : Method} {c : Code} {H : Heap} {locs : List Loc} {cells slots : Nat} {Q : State → Prop}
theorem lw_call {D : va_G} {cl : List vw_C} {cI cZ : ClassId} {A : Nat → Prop} {S : List ShC} {ad : Nat → Nat} {σ : Mo} {wb : va_W} {cc : ByteArray} {nL : Nat} {Ts : List Cond} {own C : String} {index maxL n ci0 N pc : Nat} {y : MethodName} {bytes : ByteArray} {ret : Option FieldType} {ws : List Cond} {rm : Room} {pre : Mo → Mo → List Int → Prop} {po : Mo → Mo → List Int → Int → Mo → Prop} {TF : u_T} {fs : List (Option Nat)} {rest : List Value} {ls : Array Slot}
    (S0 : CallFix p m c cc nL s args Ts own) (hK : va_K D cl [(cI, .int), (cZ, .boolean)] s) (hPa : va_P D cl (en_w S ad cI cZ (rep σ)) H) (hPb : va_P D cl wb H) (hD : va_D A (en_w S ad cI cZ (rep σ) ++ wb)) (hS : va_S A s.heap H locs) (hA : ∀ q, s.heap.size ≤ q → A q)
    (hM : en_Met l S cl y ws rm false false pre po) (g : Mo) (as : List Int) (hpre : pre g σ as) (hcl : cl[ci0]? = some (C, TF, N)) (hS0 : S[0]? = some (.inl (ci0, fs))) (cw : CallW R s args own C index y bytes maxL ret ws rm 0 0 n) (hn : as.length = n) (hls : ls.size = nL) (hrest : (rest.map fun v => v.category).sum ≤ 8) (hdg : decode cc pc = .ok (.invokevirtual index, 3)) (hf : cells + 0 ≤ R.cells ∧ slots + 0 ≤ R.slots)
    (kk : ∀ (r : Int) (σ' : Mo) (H1 : Heap) (locs1 : List Loc), po g σ as r σ' → va_P D cl (en_w S ad cI cZ (rep σ')) H1 → va_P D cl wb H1 → va_D A (en_w S ad cI cZ (rep σ') ++ wb) → va_S A s.heap H1 locs1 → W p l e R s m args below meth c H1 locs1 cells slots Q (F0 m (pc + 3) ls (.int (oi r) :: rest))) :
    W p l e R s m args below meth c H locs cells slots Q (F0 m pc ls ((as.map (fun a => Value.int (oi a))).reverse ++ .ref (ad 0) :: rest)) := by
  have hMet := hM g D cI cZ ad σ H.size as hpre
  have hF := en_free hA (da_l hD) hS
  refine va_calli (post := fun (r : Int32) (u : Mo) => ∃ y : Int, r = oi y ∧ po g σ as y u) (B := en_Pw S cl D cI cZ ad (va_A (en_w S ad cI cZ (rep σ)) H.size)) (va_runV (b := ad 0) (As := as.map (fun a => Value.int (oi a))) (rest := rest) S0 hMet cw ⟨en_fb, va_recv hK hPa hcl (en_w_at hS0), fun U hU hW => ⟨rfl, by rw [hU], by rw [hU]; exact hPa, va_K.moved hW.alike hK, (da_l hD).weaken (fun _ _ _ _ => trivial)⟩⟩ rfl (by rw [List.length_map]; exact hn) hls rfl (lv_room hrest) hdg hf) hS (fun q _ h => hF q h) hF (fun r1 u t H1 locs1 ht hvm hw1 hB hz1 hk1 hS1 => ?_)
  obtain ⟨hP1, hK1, hD1⟩ := hB
  rw [ht] at hP1
  obtain ⟨y1, rfl, hw1⟩ := hw1
  obtain ⟨hPb1, hDD⟩ := pj hPb hD hk1 hF hD1
  exact kk y1 u H1 locs1 hw1 hP1 hPb1 hDD hS1
/-- an int of the script, by the law's counter: five instructions -/
theorem lw_arg {A : Nat → Prop} {cc : ByteArray} {b L : Nat} {xs : Nat → Int32} {ls : Array Slot} {pc i k : Nat} {kI : Int} {st : List Value} (hx : p.tables.exec = Jvm.exec) (hb : c.code = cc) (hX : va_X b L xs s s.heap) (hbl : b < s.heap.size) (hbA : ¬ A b) (hS : va_S A s.heap H locs) (hL : L ≤ 2049) (l0 : ls[0]? = some (.val (.ref b))) (l3 : ls[3]? = some (.val (.int (oi (i : Int))))) (hk : kI = k) (hi : i + k < L)
    (d0 : decode cc pc = .ok (.aload_n 0, 1)) (d1 : decode cc (pc + 1) = .ok (.iload_n 3, 1)) (d2 : decode cc (pc + 1 + 1) = .ok (.iconst kI, 1)) (d3 : decode cc (pc + 1 + 1 + 1) = .ok (.iadd, 1)) (d4 : decode cc (pc + 1 + 1 + 1 + 1) = .ok (.iaload, 1))
    (kk : W p l e R s m args below meth c H locs cells slots Q (F0 m (pc + 1 + 1 + 1 + 1 + 1) ls (.int (oi (xs (i + k)).toInt) :: st))) : W p l e R s m args below meth c H locs cells slots Q (F0 m pc ls st) := by
  refine lv_aload_n hx hb d0 rfl l0 ?_
  refine lv_iload_n hx hb d1 rfl l3 ?_
  refine lv_iconst (v := oi kI) hx hb d2 rfl ?_
  refine lv_iadd hx hb d3 ?_
  rw [oi_add]
  refine va_sld hx hb hX hbl hbA hS (oi_in (by omega) ⟨by omega, by omega⟩) d4 ?_
  rw [oi_clamp ⟨by omega, by omega⟩, show ((i : Int) + kI).toNat = i + k by omega]
  rw [(oi_of (xs (i + k))).2] at kk
  exact kk
end LWC
set_option maxHeartbeats 4000000 in
set_option maxRecDepth 100000 in
/-- cell(script, 0) -/
theorem c_cell (l : Launch) (b L : Nat) (xs : Nat → Int32) (hL : L ≤ 2049) : Met l yL_cell wsL_cell ({ frames := 0, cells := 0, slots := 0, locals := 0 }) (fun v U => v = [Value.ref b, Value.int (oi 0)].toArray ∧ va_X b L xs U U.heap ∧ b < U.heap.size) (va_Qi (fun (r : Int32) (_ : Unit) => r = if 0 < L then xs 0 else oi 0) (fun _ _ => True) (fun _ => False)) 0 0 (fun _ => False) := by
  refine Met.ofW (cc := cL_cell) (maxL := 2) (ret := (some .int)) (by decide) rfl ?_
  intro p e s m args below meth c s₁ B hml hv
  obtain ⟨rfl, hX, hbl⟩ := hv
  have hx := B.exec
  have hb := B.bytes
  have hr := B.returns
  have hlocks := B.notSynchronized
  have hS : va_S (fun _ => False) s.heap s.heap [] := va_S.rf
  have hl := lv_entry ([.ref b, .int (oi 0)]) (n := 2) (Nat.le_of_ble_eq_true rfl)
  rw [lg_entry_eq]
  generalize (lg_sl ([.ref b, .int (oi 0)]) ++ List.replicate (2 - (lg_sl ([.ref b, .int (oi 0)])).length) Slot.unset).toArray = ls at hl ⊢
  have hl : lv_has ls 2 [(0, .ref b), (1, .int (oi 0))] := hl
  have eL : Int32.ofNat L = oi (L : Int) := (oi_nI L).symm
  have fin : ∀ v, (if 0 < L then xs 0 else oi 0) = v → W p l e { frames := 0, cells := 0, slots := 0, locals := 0 } s m [Value.ref b, Value.int (oi 0)].toArray below meth c s.heap [] 0 0 (MQ below (va_Qi (fun (r : Int32) (_ : Unit) => r = if 0 < L then xs 0 else oi 0) (fun _ _ => True) (fun _ => False)) [Value.ref b, Value.int (oi 0)].toArray s 0 0 (fun _ => False)) (F0 m 13 ls [.int v]) := fun v e =>
    W.iret hx hb hr (fun t ht hW => ⟨⟨v, (), rfl, e.symm, trivial⟩, hS.F ht⟩) hS.2.2 dL_cell_13
  refine lv_iload_n hx hb dL_cell_0 rfl (lv_at hl 1 rfl) ?_
  refine lv_aload_n hx hb dL_cell_1 rfl (lv_at hl 0 rfl) ?_
  refine va_slen hx hb hX hbl (fun q => q) hS dL_cell_2 ?_
  rw [eL]
  refine lv_icmp_ge (tgt := 12) hx hb dL_cell_3 (by decide) (fun c1 => ?_) (fun c1 => ?_)
  · have c1 := (oi_le ⟨by omega, by omega⟩ rg_0).mp c1
    refine lv_iconst (v := oi 0) hx hb dL_cell_12 rfl ?_
    exact fin _ (by rw [if_neg (by omega)])
  · have c1 : ¬ (L : Int) ≤ 0 := fun q => c1 ((oi_le ⟨by omega, by omega⟩ rg_0).mpr q)
    refine lv_aload_n hx hb dL_cell_6 rfl (lv_at hl 0 rfl) ?_
    refine lv_iload_n hx hb dL_cell_7 rfl (lv_at hl 1 rfl) ?_
    refine va_sld hx hb hX hbl (fun q => q) hS (oi_in (by omega) ⟨by omega, by omega⟩) dL_cell_8 ?_
    refine lv_goto (tgt := 13) hx hb dL_cell_9 (by decide) ?_
    exact fin _ (by rw [if_pos (by omega), oi_clamp ⟨by decide, by decide⟩]; rfl)

/-! THE CONSTRUCTORS, by program (wip/gen_ctor.py) -/
def thr (a : Int) : Int := if a < 1 then 1 else if 16 < a then 16 else a
/-- the model of a new object -/
def M0 (a : Int) : Mo := fun c j => match c with
  | 0 => if j = 0 then thr a else if j = 12 then -1 else 0
  | 5 => if j < 128 then -1 else 0
  | _ => 0
def z0 : Nat → Int := fun _ => 0
theorem ra_eq {D : va_G} {cl : List vw_C} {tys : List (ClassId × FieldType)} {U : State} {c1 c2 : ClassId} {i j : Nat} (ty : FieldType) (hp : ty = .int ∨ ty = .boolean) (h : va_K D cl tys U) (h1 : tys[i]? = some (c1, ty)) (h2 : tys[j]? = some (c2, ty)) : c1 = c2 := by
  have a := (h.2 i _ h1).2
  have b := (h.2 j _ h2).2
  rcases hp with rfl | rfl
  · exact Option.some.inj (a.symm.trans b)
  · exact Option.some.inj (a.symm.trans b)
theorem nw_I (n : Nat) (cA : ClassId) : vp_cell cA (n, .inl (fun _ => oi 0)) = arrV cA n (fun _ => defaultValue .int) := by
  rw [vp_cell_i, oi_0]
  rfl
theorem nw_Z (n : Nat) (cA : ClassId) : vp_cell cA (n, .inl (fun _ => oi 0)) = arrV cA n (fun _ => defaultValue .boolean) := by
  rw [vp_cell_i, oi_0]
  rfl
theorem oi_c (n : Int) (h : decide (0 ≤ n ∧ n < 2147483648) = true) : ¬ oi n < 0 := by
  have := of_decide_eq_true h
  rw [← oi_0, oi_lt ⟨by omega, by omega⟩ rg_0]
  omega
theorem oi_cl (z : Int) (n : Nat) (h : decide (0 ≤ z ∧ z < 2147483648 ∧ z = (n : Int)) = true) : (oi z).toNatClampNeg = n := by
  have := of_decide_eq_true h
  rw [oi_clamp ⟨by omega, by omega⟩]
  omega
theorem ct_fill {i : Nat} {j : Int} (hj : j = i) (hi : i < 128) : upd (fun k => oi (if k < i then -1 else 0)) (oi j).toNatClampNeg (oi (-1)) = (fun k => oi (if k < i + 1 then -1 else 0)) := by
  rw [oi_clamp ⟨by omega, by omega⟩]
  funext k
  unfold upd
  by_cases e : k = j.toNat
  · rw [if_pos e, if_pos (by omega)]
  · rw [if_neg e]
    show oi (if k < i then -1 else 0) = _
    by_cases h : k < i
    · rw [if_pos h, if_pos (by omega)]
    · rw [if_neg h, if_neg (by omega)]
theorem ewX0 (h0 q1 q2 q3 q4 q5 q6 q7 q8 q9 q10 : Nat) (cI cZ : ClassId) (a : Int) : en_w SX0 (fun k => ([h0, q1, q2, q3, q4, q5, q6, q7, q8, q9, q10] : List Nat).getD k 0) cI cZ (rep (cls (M0 a) z0 z0)) = [(h0, .inr (0, [.int (oi (thr a)), .ref q1, .ref q2, .ref q3, .ref q4, .ref q5, .ref q6, .ref q7, .int (oi 0), .ref q8, .ref q9, .ref q10, .int (oi (-1)), .int (oi 0), .int (oi 0), .int (oi 0), .int (oi 0)])), (q1, .inl (cI, 134, .inl (fun _ => oi 0))), (q2, .inl (cI, 134, .inl (fun _ => oi 0))), (q3, .inl (cI, 128, .inl (fun _ => oi 0))), (q4, .inl (cI, 128, .inl (fun _ => oi 0))), (q5, .inl (cZ, 128, .inl (fun _ => oi 0))), (q6, .inl (cI, 128, .inl (fun k => oi (if k < 128 then -1 else 0)))), (q7, .inl (cI, 128, .inl (fun _ => oi 0))), (q8, .inl (cI, 8, .inl (fun _ => oi 0))), (q9, .inl (cZ, 8, .inl (fun _ => oi 0))), (q10, .inl (cZ, 8, .inl (fun _ => oi 0)))] := by
  unfold en_w SX0
  simp only [List.mapIdx_cons, List.mapIdx_nil, en_cell, en_fv]
  rfl
theorem ewX1 (h0 q1 q2 q3 q4 q5 q6 q7 q8 q9 q10 q11 q12 : Nat) (cI cZ : ClassId) (a : Int) : en_w SX1 (fun k => ([h0, q1, q2, q3, q4, q5, q6, q7, q8, q9, q10, q11, q12] : List Nat).getD k 0) cI cZ (rep (M0 a)) = [(h0, .inr (1, [.int (oi (thr a)), .ref q1, .ref q2, .ref q3, .ref q4, .ref q5, .ref q6, .ref q7, .ref q8, .ref q9, .ref q10, .ref q11, .int (oi (-1)), .int (oi 0), .int (oi 0), .int (oi 0), .int (oi 0), .int (oi 0), .ref q12])), (q1, .inl (cZ, 128, .inl (fun _ => oi 0))), (q2, .inl (cI, 128, .inl (fun _ => oi 0))), (q3, .inl (cI, 128, .inl (fun _ => oi 0))), (q4, .inl (cZ, 128, .inl (fun _ => oi 0))), (q5, .inl (cI, 128, .inl (fun k => oi (if k < 128 then -1 else 0)))), (q6, .inl (cI, 390, .inl (fun _ => oi 0))), (q7, .inl (cI, 390, .inl (fun _ => oi 0))), (q8, .inl (cZ, 8, .inl (fun _ => oi 0))), (q9, .inl (cI, 8, .inl (fun _ => oi 0))), (q10, .inl (cZ, 8, .inl (fun _ => oi 0))), (q11, .inl (cZ, 8, .inl (fun _ => oi 0))), (q12, .inl (cI, 128, .inl (fun _ => oi 0)))] := by
  unfold en_w SX1
  simp only [List.mapIdx_cons, List.mapIdx_nil, en_cell, en_fv]
  rfl

/-! THE ENGINE. A system of fixed shape (objects of ints and of cells, arrays of ints or booleans): its methods are run over numbers alone.
    A state of the system is σ : Nat → Nat → Int (cell, place), whole numbers that stand for ints by 'oi'; a frame has a program counter, locals and an operand stack of numbers and cell numbers. -/
abbrev AV : Type := Int ⊕ Nat
abbrev Sg : Type := Nat → Nat → Int32
abbrev Mo : Type := Nat → Nat → Int
def oi (a : Int) : Int32 := Int32.ofInt a
def rg (a : Int) : Prop := -2147483648 ≤ a ∧ a < 2147483648
theorem oi_toInt {a : Int} (h : rg a) : (oi a).toInt = a := by
  unfold oi
  rw [Int32.toInt_ofInt, show Int32.size = 4294967296 from rfl]
  exact Int.bmod_eq_of_le (by have := h.1; omega) (by have := h.2; omega)
theorem oi_of (x : Int32) : rg x.toInt ∧ oi x.toInt = x := by
  refine ⟨⟨?_, ?_⟩, ?_⟩
  · have := x.le_toInt; omega
  · have := x.toInt_lt; omega
  · unfold oi; exact Int32.ofInt_toInt x
theorem oi_add (a b : Int) : oi a + oi b = oi (a + b) := by unfold oi; rw [Int32.ofInt_add]
theorem oi_sub (a b : Int) : oi a - oi b = oi (a - b) := by unfold oi; rw [Int32.ofInt_sub]
theorem oi_mul (a b : Int) : oi a * oi b = oi (a * b) := by unfold oi; rw [Int32.ofInt_mul]
theorem oi_eq {a b : Int} (ha : rg a) (hb : rg b) : oi a = oi b ↔ a = b := by
  constructor
  · intro h
    rw [← oi_toInt ha, ← oi_toInt hb, h]
  · intro h; rw [h]
theorem oi_lt {a b : Int} (ha : rg a) (hb : rg b) : oi a < oi b ↔ a < b := by
  rw [Int32.lt_iff_toInt_lt, oi_toInt ha, oi_toInt hb]
theorem oi_le {a b : Int} (ha : rg a) (hb : rg b) : oi a ≤ oi b ↔ a ≤ b := by
  rw [Int32.le_iff_toInt_le, oi_toInt ha, oi_toInt hb]
theorem rg_0 : rg 0 := ⟨by decide, by decide⟩
theorem oi_0 : oi 0 = 0 := by decide +kernel
theorem oi_1 : oi 1 = 1 := by decide +kernel
theorem oi_nI (n : Nat) : oi (n : Int) = nI n := by unfold oi nI; exact Int32.ofInt_eq_ofNat
theorem oi_in {a : Int} {n : Nat} (hn : n < 2147483648) (h : 0 ≤ a ∧ a < n) : vp_in (oi a) n := by
  rw [vp_in_iff, oi_toInt ⟨by omega, by omega⟩]
  exact h
theorem oi_clamp {a : Int} (h : 0 ≤ a ∧ a < 2147483648) : (oi a).toNatClampNeg = a.toNat := by
  obtain ⟨n, rfl⟩ : ∃ n : Nat, a = n := ⟨a.toNat, by omega⟩
  rw [oi_nI, nI_clamp (by omega)]
  rfl
theorem oi_div {a b : Int} (ha : 0 ≤ a ∧ a < 2147483648) (hb : 0 < b ∧ b < 2147483648) : oi a / oi b = oi (a / b) := by
  obtain ⟨n, rfl⟩ : ∃ n : Nat, a = n := ⟨a.toNat, by omega⟩
  obtain ⟨d, rfl⟩ : ∃ d : Nat, b = d := ⟨b.toNat, by omega⟩
  rw [← Int.natCast_ediv, oi_nI, oi_nI, oi_nI, pk_div (by omega) (by omega) (by omega)]
theorem oi_rem {a b : Int} (ha : 0 ≤ a ∧ a < 2147483648) (hb : 0 < b ∧ b < 2147483648) : oi a - oi a / oi b * oi b = oi (a % b) := by
  obtain ⟨n, rfl⟩ : ∃ n : Nat, a = n := ⟨a.toNat, by omega⟩
  obtain ⟨d, rfl⟩ : ∃ d : Nat, b = d := ⟨b.toNat, by omega⟩
  rw [← Int.natCast_emod, oi_nI, oi_nI, oi_nI, pk_rem (by omega) (by omega) (by omega)]
theorem oi_and1 {a : Int} (ha : 0 ≤ a ∧ a < 2147483648) : oi a &&& oi 1 = oi (a % 2) := by
  obtain ⟨n, rfl⟩ : ∃ n : Nat, a = n := ⟨a.toNat, by omega⟩
  rw [show ((n : Int) % 2) = ((n % 2 : Nat) : Int) by omega, oi_nI, oi_nI, pk_andN (by omega) 1 (by decide +kernel)]
def rep (M : Mo) : Sg := fun c j => oi (M c j)
def mu (M : Mo) (c j : Nat) (x : Int) : Mo := fun a b => if a = c then (if b = j then x else M a b) else M a b
abbrev LoT : Type := List (Option AV)
abbrev ShC : Type := (Nat × List (Option Nat)) ⊕ (Bool × Nat)
abbrev TbE : Type := Nat × Jvm.ClassFile.Instr × Nat × List Nat
/-- a callee: static?, how many ints, void?, what it asks, what it does -/
abbrev CSp : Type := Bool × Nat × Bool × (Mo → Mo → List Int → Prop) × (Mo → Mo → List Int → Int → Mo → Prop)
def gu (σ : Sg) (c j : Nat) (x : Int32) : Sg := fun a => if a = c then upd (σ c) j x else σ a
def en_cv (ad : Nat → Nat) : AV → Value
  | .inl x => .int (oi x)
  | .inr k => .ref (ad k)
def en_fv (ad : Nat → Nat) (σ : Sg) (c : Nat) (j : Nat) : Option Nat → Value
  | none => .int (σ c j)
  | some k => .ref (ad k)
def en_cell (ad : Nat → Nat) (cI cZ : ClassId) (σ : Sg) (c : Nat) : ShC → va_E
  | .inl (ci, fs) => .inr (ci, fs.mapIdx (fun j o => en_fv ad σ c j o))
  | .inr (z, n) => .inl (bif z then cZ else cI, n, .inl (σ c))
def en_w (S : List ShC) (ad : Nat → Nat) (cI cZ : ClassId) (σ : Sg) : va_W := S.mapIdx (fun c h => (ad c, en_cell ad cI cZ σ c h))
theorem en_w_at {S : List ShC} {ad : Nat → Nat} {cI cZ : ClassId} {σ : Sg} {c : Nat} {x : ShC} (h : S[c]? = some x) : (en_w S ad cI cZ σ)[c]? = some (ad c, en_cell ad cI cZ σ c x) := by
  simp [en_w, List.getElem?_mapIdx, h]
theorem gu_ne {σ : Sg} {c j a : Nat} {x : Int32} (h : a ≠ c) : gu σ c j x a = σ a := by
  simp [gu, h]
theorem gu_eq {σ : Sg} {c j : Nat} {x : Int32} : gu σ c j x c = upd (σ c) j x := by
  simp [gu]
theorem en_cell_ne {ad : Nat → Nat} {cI cZ : ClassId} {σ : Sg} {c j a : Nat} {x : Int32} (h : a ≠ c) (y : ShC) : en_cell ad cI cZ (gu σ c j x) a y = en_cell ad cI cZ σ a y := by
  rcases y with ⟨ci, fs⟩ | ⟨z, n⟩
  · show Sum.inr (ci, fs.mapIdx _) = Sum.inr (ci, fs.mapIdx _)
    congr 3
    funext j' o
    cases o <;> simp [en_fv, gu_ne h]
  · show Sum.inl _ = Sum.inl _
    rw [gu_ne h]
theorem en_set {S : List ShC} {ad : Nat → Nat} {cI cZ : ClassId} {σ : Sg} {c j : Nat} {x : Int32} {y : ShC} {e : va_E} (h : S[c]? = some y) (he : en_cell ad cI cZ (gu σ c j x) c y = e) : (en_w S ad cI cZ σ).set c (ad c, e) = en_w S ad cI cZ (gu σ c j x) := by
  apply List.ext_getElem?
  intro i
  have hl : c < S.length := (List.getElem?_eq_some_iff.mp h).1
  rw [List.getElem?_set]
  by_cases hi : c = i
  · subst hi
    rw [if_pos rfl, en_w_at h, he]
    simp [en_w, hl]
  · rw [if_neg hi]
    simp only [en_w, List.getElem?_mapIdx]
    cases S[i]? with
    | none => rfl
    | some z => simp [en_cell_ne (fun q => hi q.symm)]
theorem en_setA {S : List ShC} {ad : Nat → Nat} {cI cZ : ClassId} {σ : Sg} {c j n : Nat} {x : Int32} {z : Bool} (h : S[c]? = some (.inr (z, n))) : (en_w S ad cI cZ σ).set c (ad c, .inl (bif z then cZ else cI, n, .inl (upd (σ c) j x))) = en_w S ad cI cZ (gu σ c j x) := by
  refine en_set h ?_
  show Sum.inl _ = Sum.inl _
  rw [gu_eq]
theorem en_setO {S : List ShC} {ad : Nat → Nat} {cI cZ : ClassId} {σ : Sg} {c k ci : Nat} {fs : List (Option Nat)} {x : Int32} (h : S[c]? = some (.inl (ci, fs))) (hk : fs[k]? = some none) : (en_w S ad cI cZ σ).set c (ad c, .inr (ci, (fs.mapIdx (fun j o => en_fv ad σ c j o)).set k (.int x))) = en_w S ad cI cZ (gu σ c k x) := by
  refine en_set h ?_
  show Sum.inr (ci, fs.mapIdx _) = Sum.inr (ci, _)
  congr 2
  apply List.ext_getElem?
  intro i
  have hl : k < fs.length := (List.getElem?_eq_some_iff.mp hk).1
  rw [List.getElem?_set, List.getElem?_mapIdx]
  by_cases hi : k = i
  · subst hi
    rw [if_pos rfl, hk]
    simp [hl, en_fv, gu_eq, upd]
  · rw [if_neg hi, List.getElem?_mapIdx]
    cases fs[i]? with
    | none => rfl
    | some o =>
      have hi2 : ¬ i = k := fun q => hi q.symm
      cases o <;> simp [en_fv, gu_eq, upd, hi2]
theorem gu_rep {M : Mo} {c j : Nat} {x : Int} : gu (rep M) c j (oi x) = rep (mu M c j x) := by
  funext a b
  by_cases h : a = c
  · subst h
    by_cases h2 : b = j
    · simp [gu, rep, mu, upd, h2]
    · simp [gu, rep, mu, upd, h2]
  · simp [gu, rep, mu, h]
/-- the locals -/
def en_lo (ad : Nat → Nat) (ls : Array Slot) (nL : Nat) (lo : LoT) : Prop := (lv_has ls nL [] ∧ lo.length = nL) ∧ ∀ (i : Nat) (v : AV), lo[i]? = some (some v) → ls[i]? = some (.val (en_cv ad v))
theorem en_cat (ad : Nat → Nat) (v : AV) : (en_cv ad v).category = 1 := by cases v <;> rfl
def en_lvl (ad : Nat → Nat) (lo : LoT) : List (Nat × Value) := (List.range lo.length).filterMap (fun i => match lo[i]? with
  | some (some v) => some (i, en_cv ad v)
  | _ => none)
theorem en_lvl_mem {ad : Nat → Nat} {lo : LoT} {q : Nat × Value} (h : q ∈ en_lvl ad lo) : ∃ v, lo[q.1]? = some (some v) ∧ q.2 = en_cv ad v := by
  obtain ⟨i, -, hi⟩ := List.mem_filterMap.mp h
  split at hi
  · rename_i v hv
    cases hi
    exact ⟨v, hv, rfl⟩
  · cases hi
theorem en_mem_lvl {ad : Nat → Nat} {lo : LoT} {i : Nat} {v : AV} (h : lo[i]? = some (some v)) : (i, en_cv ad v) ∈ en_lvl ad lo := by
  refine List.mem_filterMap.mpr ⟨i, List.mem_range.mpr (List.getElem?_eq_some_iff.mp h).1, ?_⟩
  simp [h]
theorem en_lo_has {ad : Nat → Nat} {ls : Array Slot} {nL : Nat} {lo : LoT} (h : en_lo ad ls nL lo) : lv_has ls nL (en_lvl ad lo) := by
  refine ⟨h.1.1.1, h.1.1.2.1, fun q hq => ?_⟩
  obtain ⟨v, h1, h2⟩ := en_lvl_mem hq
  rw [h2]
  exact h.2 _ _ h1
theorem en_lo_set {ad : Nat → Nat} {ls : Array Slot} {nL i : Nat} {lo : LoT} {v : AV} (hn : lo.length = nL) (h : lv_has ls nL ((i, en_cv ad v) :: (en_lvl ad lo).filter (fun q => !(q.1 == i) && !(q.1 + 1 == i && q.2.category == 2)))) : en_lo ad ls nL (lo.set i (some v)) := by
  refine ⟨⟨⟨h.1, h.2.1, fun q hq => by cases hq⟩, by rw [List.length_set]; exact hn⟩, fun j w hj => ?_⟩
  rw [List.getElem?_set] at hj
  by_cases hij : i = j
  · subst hij
    rw [if_pos rfl] at hj
    split at hj
    · cases hj
      exact h.2.2 (i, en_cv ad v) List.mem_cons_self
    · cases hj
  · rw [if_neg hij] at hj
    refine h.2.2 (j, en_cv ad w) (List.mem_cons_of_mem _ (List.mem_filter.mpr ⟨en_mem_lvl hj, ?_⟩))
    simp [en_cat]
    exact fun q => hij q.symm
/-- the operand stack's ints ahead of a call -/
def en_pop : Nat → List AV → List Int → Option (List Int × List AV)
  | 0, st, acc => some (acc, st)
  | n + 1, .inl x :: st, acc => en_pop n st (x :: acc)
  | _ + 1, _, _ => none
theorem en_pop_spec {as : List Int} {rest : List AV} : ∀ (n : Nat) (st : List AV) (acc : List Int), en_pop n st acc = some (as, rest) → ∃ bs : List Int, as = bs ++ acc ∧ bs.length = n ∧ st = (bs.map Sum.inl).reverse ++ rest
  | 0, st, acc, h => by
    cases h
    exact ⟨[], rfl, rfl, rfl⟩
  | n + 1, [], acc, h => by cases h
  | n + 1, .inr k :: st, acc, h => by cases h
  | n + 1, .inl x :: st, acc, h => by
    obtain ⟨bs, h1, h2, h3⟩ := en_pop_spec n st (x :: acc) h
    exact ⟨bs ++ [x], by simp [h1], by simp [h2], by simp [h3]⟩
def en_c : Jvm.ClassFile.Cond → Int → Int → Prop
  | .eq, x, y => x = y
  | .ne, x, y => ¬ x = y
  | .lt, x, y => x < y
  | .ge, x, y => y ≤ x
  | .gt, x, y => y < x
  | .le, x, y => x ≤ y
def en_lk : List TbE → Nat → Option (Jvm.ClassFile.Instr × Nat × List Nat)
  | [], _ => none
  | (q, i) :: r, pc => bif Nat.beq q pc then some i else en_lk r pc
def en_fl : List (Nat × Nat) → Nat → Option Nat
  | [], _ => none
  | (q, i) :: r, k => bif Nat.beq q k then some i else en_fl r k
def en_ct : List (Nat × CSp) → Nat → Option CSp
  | [], _ => none
  | (q, i) :: r, k => bif Nat.beq q k then some i else en_ct r k
def en_in : List Nat → Nat → Bool
  | [], _ => false
  | q :: r, k => bif Nat.beq q k then true else en_in r k
/-- one instruction -/
def en_I (S : List ShC) (ci0 : Nat) (fl fp : List (Nat × Nat)) (ct : List (Nat × CSp)) (rk : Nat) (post : Int → Mo → Prop) (k : Mo → Nat → LoT → List AV → Prop) (σ : Mo) (nx : Nat) (tg : List Nat) (lo : LoT) (st : List AV) : Jvm.ClassFile.Instr → Prop
  | .iconst n => k σ nx lo (.inl n :: st)
  | .bipush n => k σ nx lo (.inl n :: st)
  | .sipush n => k σ nx lo (.inl n :: st)
  | .iload_n n => match lo[n.val]? with
    | some (some (.inl x)) => k σ nx lo (.inl x :: st)
    | _ => False
  | .iload n => match lo[n]? with
    | some (some (.inl x)) => k σ nx lo (.inl x :: st)
    | _ => False
  | .aload_n n => match lo[n.val]? with
    | some (some (.inr x)) => k σ nx lo (.inr x :: st)
    | _ => False
  | .istore_n n => match st, lo[n.val]? with
    | .inl x :: r, some _ => k σ nx (lo.set n.val (some (.inl x))) r
    | _, _ => False
  | .istore n => match st, lo[n]? with
    | .inl x :: r, some _ => k σ nx (lo.set n (some (.inl x))) r
    | _, _ => False
  | .iinc n d => match lo[n]? with
    | some (some (.inl x)) => k σ nx (lo.set n (some (.inl (x + d)))) st
    | _ => False
  | .iadd => match st with
    | .inl y :: .inl x :: r => k σ nx lo (.inl (x + y) :: r)
    | _ => False
  | .isub => match st with
    | .inl y :: .inl x :: r => k σ nx lo (.inl (x - y) :: r)
    | _ => False
  | .imul => match st with
    | .inl y :: .inl x :: r => k σ nx lo (.inl (x * y) :: r)
    | _ => False
  | .idiv => match st with
    | .inl y :: .inl x :: r => ((0 ≤ x ∧ x < 2147483648) ∧ (0 < y ∧ y < 2147483648)) ∧ k σ nx lo (.inl (x / y) :: r)
    | _ => False
  | .irem => match st with
    | .inl y :: .inl x :: r => ((0 ≤ x ∧ x < 2147483648) ∧ (0 < y ∧ y < 2147483648)) ∧ k σ nx lo (.inl (x % y) :: r)
    | _ => False
  | .iand => match st with
    | .inl y :: .inl x :: r => ((0 ≤ x ∧ x < 2147483648) ∧ y = 1) ∧ k σ nx lo (.inl (x % 2) :: r)
    | _ => False
  | .dup => match st with
    | x :: r => k σ nx lo (x :: x :: r)
    | _ => False
  | .dup_x1 => match st with
    | x :: y :: r => k σ nx lo (x :: y :: x :: r)
    | _ => False
  | .dup_x2 => match st with
    | x :: y :: w :: r => k σ nx lo (x :: y :: w :: x :: r)
    | _ => False
  | .dup2 => match st with
    | x :: y :: r => k σ nx lo (x :: y :: x :: y :: r)
    | _ => False
  | .pop => match st with
    | _ :: r => k σ nx lo r
    | _ => False
  | .goto _ => match tg with
    | [t] => k σ t lo st
    | _ => False
  | .ifCond c _ => match tg, st with
    | [t], .inl x :: r => rg x ∧ (en_c c x 0 → k σ t lo r) ∧ (¬ en_c c x 0 → k σ nx lo r)
    | _, _ => False
  | .if_icmp c _ => match tg, st with
    | [t], .inl y :: .inl x :: r => (rg x ∧ rg y) ∧ (en_c c x y → k σ t lo r) ∧ (¬ en_c c x y → k σ nx lo r)
    | _, _ => False
  | .tableswitch _ a b _ => match tg, st with
    | d :: ts, .inl x :: r => rg x ∧ ((x < a ∨ b < x) → k σ d lo r) ∧ (∀ (j t : Nat), ts[j]? = some t → x = a + (j : Int) → k σ t lo r)
    | _, _ => False
  | .getfield i => match st with
    | .inr c :: r => match S[c]?, en_fl fl i with
      | some (.inl (ci, fs)), some f => bif Nat.beq ci ci0 then (match fs[f]? with
        | some none => k σ nx lo (.inl (σ c f) :: r)
        | some (some c') => k σ nx lo (.inr c' :: r)
        | none => False) else False
      | _, _ => False
    | _ => False
  | .putfield i => match st with
    | .inl x :: .inr c :: r => match S[c]?, en_fl fp i with
      | some (.inl (ci, fs)), some f => bif Nat.beq ci ci0 then (match fs[f]? with
        | some none => k (mu σ c f x) nx lo r
        | _ => False) else False
      | _, _ => False
    | _ => False
  | .iaload => match st with
    | .inl x :: .inr c :: r => match S[c]? with
      | some (.inr (false, n)) => bif Nat.blt n 2147483648 then ((0 ≤ x ∧ x < (n : Int)) ∧ k σ nx lo (.inl (σ c x.toNat) :: r)) else False
      | _ => False
    | _ => False
  | .baload => match st with
    | .inl x :: .inr c :: r => match S[c]? with
      | some (.inr (true, n)) => bif Nat.blt n 2147483648 then ((0 ≤ x ∧ x < (n : Int)) ∧ k σ nx lo (.inl (σ c x.toNat) :: r)) else False
      | _ => False
    | _ => False
  | .iastore => match st with
    | .inl v :: .inl x :: .inr c :: r => match S[c]? with
      | some (.inr (false, n)) => bif Nat.blt n 2147483648 then ((0 ≤ x ∧ x < (n : Int)) ∧ k (mu σ c x.toNat v) nx lo r) else False
      | _ => False
    | _ => False
  | .bastore => match st with
    | .inl v :: .inl x :: .inr c :: r => match S[c]? with
      | some (.inr (true, n)) => bif Nat.blt n 2147483648 then (((0 ≤ x ∧ x < (n : Int)) ∧ (v = 0 ∨ v = 1)) ∧ k (mu σ c x.toNat v) nx lo r) else False
      | _ => False
    | _ => False
  | .ireturn => match rk, st with
    | 1, [.inl x] => post x σ
    | 2, [.inl x] => (x = 0 ∨ x = 1) ∧ post x σ
    | _, _ => False
  | .return_ => match rk, st with
    | 0, [] => post 0 σ
    | _, _ => False
  | .invokevirtual i => match en_ct ct i with
    | some (false, n, v, pre, po) => match en_pop n st [] with
      | some (as, .inr 0 :: r) => bif Nat.ble r.length 8 then (∃ g : Mo, pre g σ as ∧ ∀ (y : Int) (τ : Mo), po g σ as y τ → k τ nx lo (bif v then r else .inl y :: r)) else False
      | _ => False
    | _ => False
  | .invokestatic i => match en_ct ct i with
    | some (true, n, v, pre, po) => match en_pop n st [] with
      | some (as, r) => bif Nat.ble r.length 8 then (∃ g : Mo, pre g σ as ∧ ∀ (y : Int) (τ : Mo), po g σ as y τ → k τ nx lo (bif v then r else .inl y :: r)) else False
      | _ => False
    | _ => False
  | _ => False
/-- a run of at most so many instructions, that stops where a pc is in 'stops' -/
def en_ev (S : List ShC) (ci0 : Nat) (fl fp : List (Nat × Nat)) (ct : List (Nat × CSp)) (T : List TbE) (rk : Nat) (post : Int → Mo → Prop) (K : Mo → Nat → LoT → List AV → Prop) (stops : List Nat) : Nat → Mo → Nat → LoT → List AV → Prop
  | 0, _, _, _, _ => False
  | n + 1, σ, pc, lo, st => match en_lk T pc with
    | some (i, nx, tg) => en_I S ci0 fl fp ct rk post (fun σ' pc' lo' st' => bif en_in stops pc' then K σ' pc' lo' st' else en_ev S ci0 fl fp ct T rk post K stops n σ' pc' lo' st') σ nx tg lo st i
    | none => False
/-- what is closed under runs -/
def en_Cl (S : List ShC) (ci0 : Nat) (fl fp : List (Nat × Nat)) (ct : List (Nat × CSp)) (T : List TbE) (rk : Nat) (post : Int → Mo → Prop) (K : Mo → Nat → LoT → List AV → Prop) : Prop :=
  ∀ (stops : List Nat) (n : Nat) (σ : Mo) (pc : Nat) (lo : LoT) (st : List AV), en_ev S ci0 fl fp ct T rk post K stops n σ pc lo st → K σ pc lo st

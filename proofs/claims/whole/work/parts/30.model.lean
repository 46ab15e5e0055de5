/-! THE MODEL: the reference's state in whole numbers. Cells: 1 isObject, 2 sizes, 3 values, 4 isMarked, 5 forwards, 6 places, 7 colours, 8 isInUse, 9 used, 10 isCandidate, 11 isInSet, 12 stacked;
    of cell 0: 0 threshold, 12 allocating, 13 phase, 14 cycles, 15 healed, 16 moved, 17 stack. Slots: 3 * p + f the field f of the object at p, 384 + r the root r. -/
theorem mu_same {M : Mo} {c j : Nat} {x : Int} : mu M c j x c j = x := by simp [mu]
theorem mu_ne {M : Mo} {c j a b : Nat} {x : Int} (h : ¬ (a = c ∧ b = j)) : mu M c j x a b = M a b := by
  unfold mu
  split
  · split
    · rename_i h1 h2; exact absurd ⟨h1, h2⟩ h
    · rfl
  · rfl
theorem mu_cell {M : Mo} {c j a b : Nat} {x : Int} (h : a ≠ c) : mu M c j x a b = M a b := mu_ne (fun q => h q.1)
theorem mu_place {M : Mo} {c j a b : Nat} {x : Int} (h : b ≠ j) : mu M c j x a b = M a b := mu_ne (fun q => h q.2)
theorem mu_self {M : Mo} {c j : Nat} {x : Int} (h : M c j = x) : mu M c j x = M := by
  funext a b
  by_cases q : a = c ∧ b = j
  · obtain ⟨rfl, rfl⟩ := q; rw [mu_same, h]
  · rw [mu_ne q]
theorem mu_mu {M : Mo} {c j : Nat} {x y : Int} : mu (mu M c j x) c j y = mu M c j y := by
  funext a b
  by_cases q : a = c ∧ b = j
  · obtain ⟨rfl, rfl⟩ := q; rw [mu_same, mu_same]
  · rw [mu_ne q, mu_ne q, mu_ne q]
theorem mu_comm {M : Mo} {c j d k : Nat} {x y : Int} (h : ¬ (c = d ∧ j = k)) : mu (mu M c j x) d k y = mu (mu M d k y) c j x := by
  funext a b
  by_cases q : a = c ∧ b = j
  · obtain ⟨rfl, rfl⟩ := q; rw [mu_same, mu_ne h, mu_same]
  · by_cases q2 : a = d ∧ b = k
    · obtain ⟨rfl, rfl⟩ := q2; rw [mu_same, mu_ne q, mu_same]
    · rw [mu_ne q2, mu_ne q, mu_ne q, mu_ne q2]
def m_mc (M : Mo) : Int := if M 0 14 % 2 = 1 then 1 else 2
def m_good (M : Mo) : Int := if M 0 13 = 1 then m_mc M else 3
def m_fst (f : Nat → Bool) : Nat → Nat → Nat
  | 0, i => i
  | n + 1, i => bif f i then i else m_fst f n (i + 1)
def m_sum (f : Nat → Int) : Nat → Nat → Int
  | 0, _ => 0
  | n + 1, i => f i + m_sum f n (i + 1)
def m_free (M : Mo) : Nat := m_fst (fun p => decide (M 8 p = 0)) 8 0
abbrev m_nofit (M : Mo) (w : Int) : Prop := M 0 12 = -1 ∨ 16 < M 9 (M 0 12).toNat + w
/-- room for w words: where, and the state behind it -/
def m_roomP (M : Mo) (w : Int) : Int := if m_nofit M w then (if m_free M = 8 then -1 else 16 * (m_free M : Int)) else 16 * M 0 12 + M 9 (M 0 12).toNat
def m_room (M : Mo) (w : Int) : Mo := if m_nofit M w then (if m_free M = 8 then M else mu (mu (mu M 8 (m_free M) 1) 0 12 (m_free M : Int)) 9 (m_free M) w) else mu M 9 (M 0 12).toNat (M 9 (M 0 12).toNat + w)
def m_clr (M : Mo) (c i n : Nat) (x : Int) : Mo := fun a b => if a = c ∧ i ≤ b ∧ b < i + n then x else M a b
def m_release (M : Mo) (q : Nat) : Mo := m_clr (m_clr (mu (mu (mu (mu M 8 q 0) 9 q 0) 10 q 0) 11 q 0) 1 (16 * q) 16 0) 4 (16 * q) 16 0
def m_cp (R : Mo) (p t : Nat) : Nat → Mo
  | 0 => R
  | n + 1 => mu (mu (m_cp R p t n) 6 (3 * t + n) (R 6 (3 * p + n))) 7 (3 * t + n) (R 7 (3 * p + n))
def m_mv (R : Mo) (p t : Nat) : Mo := mu (mu (mu (mu (m_cp (mu (mu (mu R 1 t 1) 2 t (R 2 p)) 3 t (R 3 p)) p t 3) 4 p 0) 4 t 0) 5 p (t : Int)) 0 16 (R 0 16 + 1)
def m_move (M : Mo) (p : Nat) : Mo := if m_roomP M (M 2 p + 1) = -1 then M else m_mv (m_room M (M 2 p + 1)) p (m_roomP M (M 2 p + 1)).toNat
def m_mark (M : Mo) (p : Nat) : Mo := if M 4 p = 1 then M else mu (mu (mu M 4 p 1) 12 (M 0 17).toNat (p : Int)) 0 17 (M 0 17 + 1)
abbrev m_isF (M : Mo) (s : Nat) : Prop := M 5 (M 6 s).toNat ≠ -1 ∧ (M 0 13 ≠ 1 ∨ M 7 s ≠ 3)
/-- the place that a slot's reference stands for -/
def m_res (M : Mo) (s : Nat) : Nat := if m_isF M s then (M 5 (M 6 s).toNat).toNat else (M 6 s).toNat
def hset (X : Mo) (s : Nat) (p c : Int) : Mo := mu (mu (mu X 0 15 (X 0 15 + 1)) 6 s p) 7 s c
def m_heal (M : Mo) (s : Nat) : Mo := if M 7 s = 0 ∨ M 7 s = m_good M then M else
  if M 0 13 = 1 then hset (m_mark M (m_res M s)) s (m_res M s : Int) (m_good M) else
  if m_isF M s then hset M s (m_res M s : Int) 3 else
  if M 0 13 = 2 ∧ M 11 (m_res M s / 16) = 1 then (if m_roomP M (M 2 (m_res M s) + 1) = -1 then hset (mu M 11 (m_res M s / 16) 0) s (m_res M s : Int) 3 else hset (m_move M (m_res M s)) s (m_roomP M (M 2 (m_res M s) + 1)) 3) else hset M s (m_res M s : Int) 3
def m_fill (M : Mo) (c n : Nat) (f : Nat → Int) : Mo := fun a b => if a = c ∧ b < n then f b else M a b
def m_heals (M : Mo) (s : Nat) : Nat → Mo
  | 0 => M
  | n + 1 => m_heal (m_heals M s n) (s + n)
abbrev m_root (r : Int) : Prop := 0 ≤ r ∧ r < 6
abbrev m_rs (r : Int) : Nat := 384 + r.toNat
def m_copy (M : Mo) (t s : Nat) : Mo := mu (mu M 6 t (M 6 s)) 7 t (M 7 s)
def m_field (M : Mo) (r f : Int) : Int := if ¬ m_root r then -1 else if M 7 (m_rs r) = 0 then -2 else if f < 0 ∨ M 2 (M 6 (m_rs r)).toNat ≤ f then -1 else 3 * M 6 (m_rs r) + f
/-- make -/
def m_mk0 (R : Mo) (t : Nat) (n v : Int) (s : Nat) : Mo := mu (mu (m_clr (mu (mu (mu (mu R 1 t 1) 4 t 0) 2 t n) 3 t v) 7 (3 * t) 3 0) 6 s (t : Int)) 7 s (m_good R)
def f_make (M : Mo) : List Int → Int × Mo
  | [r, n, v] => if ¬ m_root r ∨ n < 0 ∨ 3 < n then (-1, M) else if m_roomP M (n + 1) = -1 then (-3, M) else (m_roomP M (n + 1), m_mk0 (m_room M (n + 1)) (m_roomP M (n + 1)).toNat n v (m_rs r))
  | _ => (0, M)
def f_load (M : Mo) : List Int → Int × Mo
  | [t, r, f] => if ¬ m_root t then (-1, M) else if m_field M r f < 0 then (m_field M r f, M) else
      (if m_heal M (m_field M r f).toNat 7 (m_field M r f).toNat = 0 then 0 else 1, m_copy (m_heal M (m_field M r f).toNat) (m_rs t) (m_field M r f).toNat)
  | _ => (0, M)
def f_store (M : Mo) : List Int → Int × Mo
  | [r, f, t] => if ¬ m_root t then (-1, M) else if m_field M r f < 0 then (m_field M r f, M) else (0, m_copy M (m_field M r f).toNat (m_rs t))
  | _ => (0, M)
def f_copy (M : Mo) : List Int → Int × Mo
  | [t, r] => if ¬ m_root t ∨ ¬ m_root r then (0, M) else (1, m_copy M (m_rs t) (m_rs r))
  | _ => (0, M)
def f_drop (M : Mo) : List Int → Int × Mo
  | [r] => if ¬ m_root r ∨ M 7 (m_rs r) = 0 then (0, M) else (1, mu M 7 (m_rs r) 0)
  | _ => (0, M)
def f_value (M : Mo) : List Int → Int × Mo
  | [r] => (if ¬ m_root r ∨ M 7 (m_rs r) = 0 then 0 else M 3 (M 6 (m_rs r)).toNat, M)
  | _ => (0, M)
def f_set (M : Mo) : List Int → Int × Mo
  | [r, v] => if ¬ m_root r ∨ M 7 (m_rs r) = 0 then (0, M) else (1, mu M 3 (M 6 (m_rs r)).toNat v)
  | _ => (0, M)
def f_fields (M : Mo) : List Int → Int × Mo
  | [r] => (if ¬ m_root r then -1 else if M 7 (m_rs r) = 0 then -2 else M 2 (M 6 (m_rs r)).toNat, M)
  | _ => (0, M)
def f_place (M : Mo) : List Int → Int × Mo
  | [r] => (if ¬ m_root r then -1 else if M 7 (m_rs r) = 0 then -2 else M 6 (m_rs r), M)
  | _ => (0, M)
def f_colour (M : Mo) : List Int → Int × Mo
  | [r, f] => (if m_field M r f < 0 then m_field M r f else M 7 (m_field M r f).toNat, M)
  | _ => (0, M)
def f_behind (M : Mo) : List Int → Int × Mo
  | [r, f] => (if m_field M r f < 0 then m_field M r f else if M 7 (m_field M r f).toNat = 0 then -1 else M 6 (m_field M r f).toNat, M)
  | _ => (0, M)
/-- the collector -/
def m_begin0 (M : Mo) : Mo := mu (m_fill (m_fill (mu (mu M 0 14 (M 0 14 + 1)) 0 13 1) 4 128 (fun _ => 0)) 10 8 (M 8)) 0 12 (-1)
def m_markedIn (M : Mo) (q : Nat) : Int := m_sum (fun k => if M 1 k = 1 ∧ M 4 k = 1 then 1 else 0) 16 (16 * q)
def m_live (M : Mo) (q : Nat) : Int := m_sum (fun k => if M 1 k = 1 ∧ M 4 k = 1 then M 2 k + 1 else 0) 16 (16 * q)
def m_judge (M : Mo) (q : Nat) : Mo := if M 10 q = 1 then (if m_live M q = 0 then m_release M q else if m_live M q ≤ M 0 0 then mu M 11 q 1 else M) else M
def m_judges (M : Mo) : Nat → Mo
  | 0 => M
  | n + 1 => m_judge (m_judges M n) n
def m_nofw (M : Mo) : Mo := m_fill M 5 128 (fun _ => -1)
def m_choose0 (M : Mo) : Mo := mu (m_judges (m_nofw M) 8) 0 13 2
def m_inSet (M : Mo) : Nat := m_fst (fun p => decide (M 11 p = 1)) 8 0
def m_fstMk (M : Mo) (q : Nat) : Nat := m_fst (fun k => decide (M 1 k = 1 ∧ M 4 k = 1)) 16 (16 * q)
def m_reloc1 (M : Mo) (q : Nat) : Mo := if m_fstMk M q < 16 * q + 16 then (if m_roomP M (M 2 (m_fstMk M q) + 1) = -1 then mu M 11 q 0 else m_move M (m_fstMk M q)) else M
def m_reloc (M : Mo) (q : Nat) : Mo := if m_reloc1 M q 11 q = 1 ∧ m_markedIn (m_reloc1 M q) q = 0 then m_release (m_reloc1 M q) q else m_reloc1 M q
def m_pop (M : Mo) : Mo := mu M 0 17 (M 0 17 - 1)
def m_top (M : Mo) : Nat := (M 12 (M 0 17 - 1).toNat).toNat
def m_step (M : Mo) : Mo := if M 0 13 = 0 then m_heals (m_begin0 M) 384 6 else if M 0 13 = 1 then
    (if 0 < M 0 17 then m_heals (m_pop M) (3 * m_top M) (M 2 (m_top M)).toNat else m_heals (m_choose0 M) 384 6)
  else if m_inSet M = 8 then mu M 0 13 0 else m_reloc M (m_inSet M)
def m_steps (M : Mo) : Nat → Mo
  | 0 => M
  | n + 1 => m_step (m_steps M n)
def f_collect (M : Mo) : List Int → Int × Mo
  | [n] => if n < 0 ∨ 100 < n then (-1, M) else (m_steps M n.toNat 0 13, m_steps M n.toNat)
  | _ => (0, M)
def f_page (M : Mo) : List Int → Int × Mo
  | [q, w] => (if q < 0 ∨ 8 ≤ q then -1 else if w = 0 then (if M 8 q.toNat = 0 then 0 else if M 11 q.toNat = 1 then 4 else if q = M 0 12 then 2 else 1) else if w = 1 then M 9 q.toNat else if w = 2 then m_markedIn M q.toNat else
      if w = 3 then M 10 q.toNat else if w = 4 then m_sum (fun k => if M 5 k = -1 then 0 else 1) 16 (16 * q.toNat) else -1, M)
  | _ => (0, M)
def f_sc (j : Nat) (M : Mo) : List Int → Int × Mo
  | _ => (M 0 j, M)
/-- the class's state: the model's, and its own slots P (places) and C (colours) -/
def cls (M : Mo) (P C : Nat → Int) : Mo := fun c j => match c with
  | 0 => if j = 0 then M 0 0 else if j = 8 then M 0 17 else if j = 12 then M 0 12 else if j = 13 then M 0 13 else if j = 14 then M 0 15 else if j = 15 then M 0 16 else if j = 16 then M 0 14 else 0
  | 1 => P j
  | 2 => C j
  | 3 => M 3 j
  | 4 => M 2 j
  | 5 => M 4 j
  | 6 => M 5 j
  | 7 => M 12 j
  | 8 => M 9 j
  | 9 => M 10 j
  | 10 => M 11 j
  | _ => 0
def fu (P : Nat → Int) (i : Nat) (x : Int) : Nat → Int := fun j => if j = i then x else P j
/-- which slot of the class is which of the model -/
def Sx (M : Mo) (i s : Nat) : Prop := (∃ r : Nat, r < 6 ∧ i = 128 + r ∧ s = 384 + r) ∨ ∃ p f : Nat, M 1 p = 1 ∧ p < 128 ∧ (f : Int) < M 2 p ∧ i = p + 1 + f ∧ s = 3 * p + f
def Sl (M : Mo) (P C : Nat → Int) : Prop := ∀ i s, Sx M i s → C i = M 7 s ∧ (M 7 s ≠ 0 → P i = M 6 s)
def KC (M σ : Mo) : Prop := ∃ P C, σ = cls M P C ∧ Sl M P C ∧ (∀ i, rg (C i)) ∧ ∀ i, 0 ≤ P i ∧ P i < 128
def KR (M σ : Mo) : Prop := σ = M
/-- bounds -/
def TI (M : Mo) : Prop := ((∀ p, M 1 p = 0 ∨ M 1 p = 1) ∧ (∀ p, 0 ≤ M 2 p ∧ M 2 p ≤ 3) ∧ (∀ p, M 4 p = 0 ∨ M 4 p = 1) ∧ (∀ p, -1 ≤ M 5 p ∧ M 5 p < 128) ∧ (∀ s, 0 ≤ M 6 s ∧ M 6 s < 128) ∧ (∀ s, 0 ≤ M 7 s ∧ M 7 s ≤ 3)) ∧
  ((∀ q, M 8 q = 0 ∨ M 8 q = 1) ∧ (∀ q, 0 ≤ M 9 q ∧ M 9 q ≤ 16) ∧ (∀ q, M 10 q = 0 ∨ M 10 q = 1) ∧ (∀ q, M 11 q = 0 ∨ M 11 q = 1) ∧ ∀ i, 0 ≤ M 12 i ∧ M 12 i < 128) ∧
  (-1 ≤ M 0 12 ∧ M 0 12 < 8) ∧ (0 ≤ M 0 13 ∧ M 0 13 ≤ 2) ∧ (0 ≤ M 0 14 ∧ M 0 14 < 2147483647) ∧ (0 ≤ M 0 17 ∧ M 0 17 ≤ 128) ∧ (1 ≤ M 0 0 ∧ M 0 0 ≤ 16) ∧ ∀ p, rg (M 3 p)
/-- pages, objects, marks, stack -/
def SI (M : Mo) : Prop := (∀ q, M 8 q = 0 → M 9 q = 0 ∧ M 10 q = 0 ∧ M 11 q = 0) ∧ (∀ q, M 8 q = 1 → 0 < M 9 q) ∧
  (0 ≤ M 0 12 → M 8 (M 0 12).toNat = 1 ∧ M 10 (M 0 12).toNat = 0 ∧ M 11 (M 0 12).toNat = 0) ∧
  (∀ p : Nat, M 1 p = 1 → p < 128 ∧ M 8 (p / 16) = 1 ∧ (p : Int) + M 2 p + 1 ≤ 16 * ((p / 16 : Nat) : Int) + M 9 (p / 16)) ∧
  (∀ p p' : Nat, M 1 p = 1 → M 1 p' = 1 → p < p' → p / 16 = p' / 16 → (p : Int) + M 2 p + 1 ≤ p') ∧
  (∀ p, M 4 p = 1 → M 1 p = 1) ∧ (∀ q, M 11 q = 1 → M 10 q = 1) ∧
  (∀ k : Nat, (k : Int) < M 0 17 → M 4 (M 12 k).toNat = 1) ∧ (∀ k k' : Nat, (k : Int) < M 0 17 → k' < k → M 12 k' ≠ M 12 k) ∧ (M 0 13 ≠ 1 → M 0 17 = 0)
def Wf (M : Mo) : Prop := TI M ∧ SI M

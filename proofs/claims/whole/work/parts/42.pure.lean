/-! pure rows: the class's state, the bounds, room -/
theorem cn_3 {M : Mo} {P C : Nat → Int} {j : Nat} {v : Int} : cls (mu M 3 j v) P C = mu (cls M P C) 3 j v := by
  funext c k
  match c with
  | 0 => simp [mu, cls, fu]
  | 1 => simp [mu, cls, fu]
  | 2 => simp [mu, cls, fu]
  | 3 => simp [mu, cls, fu]
  | 4 => simp [mu, cls, fu]
  | 5 => simp [mu, cls, fu]
  | 6 => simp [mu, cls, fu]
  | 7 => simp [mu, cls, fu]
  | 8 => simp [mu, cls, fu]
  | 9 => simp [mu, cls, fu]
  | 10 => simp [mu, cls, fu]
  | n + 11 => simp [mu, cls]
theorem cn_2 {M : Mo} {P C : Nat → Int} {j : Nat} {v : Int} : cls (mu M 2 j v) P C = mu (cls M P C) 4 j v := by
  funext c k
  match c with
  | 0 => simp [mu, cls, fu]
  | 1 => simp [mu, cls, fu]
  | 2 => simp [mu, cls, fu]
  | 3 => simp [mu, cls, fu]
  | 4 => simp [mu, cls, fu]
  | 5 => simp [mu, cls, fu]
  | 6 => simp [mu, cls, fu]
  | 7 => simp [mu, cls, fu]
  | 8 => simp [mu, cls, fu]
  | 9 => simp [mu, cls, fu]
  | 10 => simp [mu, cls, fu]
  | n + 11 => simp [mu, cls]
theorem cn_4 {M : Mo} {P C : Nat → Int} {j : Nat} {v : Int} : cls (mu M 4 j v) P C = mu (cls M P C) 5 j v := by
  funext c k
  match c with
  | 0 => simp [mu, cls, fu]
  | 1 => simp [mu, cls, fu]
  | 2 => simp [mu, cls, fu]
  | 3 => simp [mu, cls, fu]
  | 4 => simp [mu, cls, fu]
  | 5 => simp [mu, cls, fu]
  | 6 => simp [mu, cls, fu]
  | 7 => simp [mu, cls, fu]
  | 8 => simp [mu, cls, fu]
  | 9 => simp [mu, cls, fu]
  | 10 => simp [mu, cls, fu]
  | n + 11 => simp [mu, cls]
theorem cn_5 {M : Mo} {P C : Nat → Int} {j : Nat} {v : Int} : cls (mu M 5 j v) P C = mu (cls M P C) 6 j v := by
  funext c k
  match c with
  | 0 => simp [mu, cls, fu]
  | 1 => simp [mu, cls, fu]
  | 2 => simp [mu, cls, fu]
  | 3 => simp [mu, cls, fu]
  | 4 => simp [mu, cls, fu]
  | 5 => simp [mu, cls, fu]
  | 6 => simp [mu, cls, fu]
  | 7 => simp [mu, cls, fu]
  | 8 => simp [mu, cls, fu]
  | 9 => simp [mu, cls, fu]
  | 10 => simp [mu, cls, fu]
  | n + 11 => simp [mu, cls]
theorem cn_12 {M : Mo} {P C : Nat → Int} {j : Nat} {v : Int} : cls (mu M 12 j v) P C = mu (cls M P C) 7 j v := by
  funext c k
  match c with
  | 0 => simp [mu, cls, fu]
  | 1 => simp [mu, cls, fu]
  | 2 => simp [mu, cls, fu]
  | 3 => simp [mu, cls, fu]
  | 4 => simp [mu, cls, fu]
  | 5 => simp [mu, cls, fu]
  | 6 => simp [mu, cls, fu]
  | 7 => simp [mu, cls, fu]
  | 8 => simp [mu, cls, fu]
  | 9 => simp [mu, cls, fu]
  | 10 => simp [mu, cls, fu]
  | n + 11 => simp [mu, cls]
theorem cn_9 {M : Mo} {P C : Nat → Int} {j : Nat} {v : Int} : cls (mu M 9 j v) P C = mu (cls M P C) 8 j v := by
  funext c k
  match c with
  | 0 => simp [mu, cls, fu]
  | 1 => simp [mu, cls, fu]
  | 2 => simp [mu, cls, fu]
  | 3 => simp [mu, cls, fu]
  | 4 => simp [mu, cls, fu]
  | 5 => simp [mu, cls, fu]
  | 6 => simp [mu, cls, fu]
  | 7 => simp [mu, cls, fu]
  | 8 => simp [mu, cls, fu]
  | 9 => simp [mu, cls, fu]
  | 10 => simp [mu, cls, fu]
  | n + 11 => simp [mu, cls]
theorem cn_10 {M : Mo} {P C : Nat → Int} {j : Nat} {v : Int} : cls (mu M 10 j v) P C = mu (cls M P C) 9 j v := by
  funext c k
  match c with
  | 0 => simp [mu, cls, fu]
  | 1 => simp [mu, cls, fu]
  | 2 => simp [mu, cls, fu]
  | 3 => simp [mu, cls, fu]
  | 4 => simp [mu, cls, fu]
  | 5 => simp [mu, cls, fu]
  | 6 => simp [mu, cls, fu]
  | 7 => simp [mu, cls, fu]
  | 8 => simp [mu, cls, fu]
  | 9 => simp [mu, cls, fu]
  | 10 => simp [mu, cls, fu]
  | n + 11 => simp [mu, cls]
theorem cn_11 {M : Mo} {P C : Nat → Int} {j : Nat} {v : Int} : cls (mu M 11 j v) P C = mu (cls M P C) 10 j v := by
  funext c k
  match c with
  | 0 => simp [mu, cls, fu]
  | 1 => simp [mu, cls, fu]
  | 2 => simp [mu, cls, fu]
  | 3 => simp [mu, cls, fu]
  | 4 => simp [mu, cls, fu]
  | 5 => simp [mu, cls, fu]
  | 6 => simp [mu, cls, fu]
  | 7 => simp [mu, cls, fu]
  | 8 => simp [mu, cls, fu]
  | 9 => simp [mu, cls, fu]
  | 10 => simp [mu, cls, fu]
  | n + 11 => simp [mu, cls]
theorem cn_0_17 {M : Mo} {P C : Nat → Int} {v : Int} : cls (mu M 0 17 v) P C = mu (cls M P C) 0 8 v := by
  funext c k
  match c with
  | 0 =>
    by_cases hk : k = 8
    · subst hk; simp [mu, cls]
    · simp [mu, cls, hk]
  | 1 => simp [mu, cls, fu]
  | 2 => simp [mu, cls, fu]
  | 3 => simp [mu, cls, fu]
  | 4 => simp [mu, cls, fu]
  | 5 => simp [mu, cls, fu]
  | 6 => simp [mu, cls, fu]
  | 7 => simp [mu, cls, fu]
  | 8 => simp [mu, cls, fu]
  | 9 => simp [mu, cls, fu]
  | 10 => simp [mu, cls, fu]
  | n + 11 => simp [mu, cls]
theorem cn_0_12 {M : Mo} {P C : Nat → Int} {v : Int} : cls (mu M 0 12 v) P C = mu (cls M P C) 0 12 v := by
  funext c k
  match c with
  | 0 =>
    by_cases hk : k = 12
    · subst hk; simp [mu, cls]
    · simp [mu, cls, hk]
  | 1 => simp [mu, cls, fu]
  | 2 => simp [mu, cls, fu]
  | 3 => simp [mu, cls, fu]
  | 4 => simp [mu, cls, fu]
  | 5 => simp [mu, cls, fu]
  | 6 => simp [mu, cls, fu]
  | 7 => simp [mu, cls, fu]
  | 8 => simp [mu, cls, fu]
  | 9 => simp [mu, cls, fu]
  | 10 => simp [mu, cls, fu]
  | n + 11 => simp [mu, cls]
theorem cn_0_13 {M : Mo} {P C : Nat → Int} {v : Int} : cls (mu M 0 13 v) P C = mu (cls M P C) 0 13 v := by
  funext c k
  match c with
  | 0 =>
    by_cases hk : k = 13
    · subst hk; simp [mu, cls]
    · simp [mu, cls, hk]
  | 1 => simp [mu, cls, fu]
  | 2 => simp [mu, cls, fu]
  | 3 => simp [mu, cls, fu]
  | 4 => simp [mu, cls, fu]
  | 5 => simp [mu, cls, fu]
  | 6 => simp [mu, cls, fu]
  | 7 => simp [mu, cls, fu]
  | 8 => simp [mu, cls, fu]
  | 9 => simp [mu, cls, fu]
  | 10 => simp [mu, cls, fu]
  | n + 11 => simp [mu, cls]
theorem cn_0_15 {M : Mo} {P C : Nat → Int} {v : Int} : cls (mu M 0 15 v) P C = mu (cls M P C) 0 14 v := by
  funext c k
  match c with
  | 0 =>
    by_cases hk : k = 14
    · subst hk; simp [mu, cls]
    · simp [mu, cls, hk]
  | 1 => simp [mu, cls, fu]
  | 2 => simp [mu, cls, fu]
  | 3 => simp [mu, cls, fu]
  | 4 => simp [mu, cls, fu]
  | 5 => simp [mu, cls, fu]
  | 6 => simp [mu, cls, fu]
  | 7 => simp [mu, cls, fu]
  | 8 => simp [mu, cls, fu]
  | 9 => simp [mu, cls, fu]
  | 10 => simp [mu, cls, fu]
  | n + 11 => simp [mu, cls]
theorem cn_0_16 {M : Mo} {P C : Nat → Int} {v : Int} : cls (mu M 0 16 v) P C = mu (cls M P C) 0 15 v := by
  funext c k
  match c with
  | 0 =>
    by_cases hk : k = 15
    · subst hk; simp [mu, cls]
    · simp [mu, cls, hk]
  | 1 => simp [mu, cls, fu]
  | 2 => simp [mu, cls, fu]
  | 3 => simp [mu, cls, fu]
  | 4 => simp [mu, cls, fu]
  | 5 => simp [mu, cls, fu]
  | 6 => simp [mu, cls, fu]
  | 7 => simp [mu, cls, fu]
  | 8 => simp [mu, cls, fu]
  | 9 => simp [mu, cls, fu]
  | 10 => simp [mu, cls, fu]
  | n + 11 => simp [mu, cls]
theorem cn_0_14 {M : Mo} {P C : Nat → Int} {v : Int} : cls (mu M 0 14 v) P C = mu (cls M P C) 0 16 v := by
  funext c k
  match c with
  | 0 =>
    by_cases hk : k = 16
    · subst hk; simp [mu, cls]
    · simp [mu, cls, hk]
  | 1 => simp [mu, cls, fu]
  | 2 => simp [mu, cls, fu]
  | 3 => simp [mu, cls, fu]
  | 4 => simp [mu, cls, fu]
  | 5 => simp [mu, cls, fu]
  | 6 => simp [mu, cls, fu]
  | 7 => simp [mu, cls, fu]
  | 8 => simp [mu, cls, fu]
  | 9 => simp [mu, cls, fu]
  | 10 => simp [mu, cls, fu]
  | n + 11 => simp [mu, cls]
theorem cn_1 {M : Mo} {P C : Nat → Int} {j : Nat} {v : Int} : cls (mu M 1 j v) P C = cls M P C := by
  funext c k
  match c with
  | 0 => simp [mu, cls, fu]
  | 1 => simp [mu, cls, fu]
  | 2 => simp [mu, cls, fu]
  | 3 => simp [mu, cls, fu]
  | 4 => simp [mu, cls, fu]
  | 5 => simp [mu, cls, fu]
  | 6 => simp [mu, cls, fu]
  | 7 => simp [mu, cls, fu]
  | 8 => simp [mu, cls, fu]
  | 9 => simp [mu, cls, fu]
  | 10 => simp [mu, cls, fu]
  | n + 11 => simp [mu, cls]
theorem cn_6 {M : Mo} {P C : Nat → Int} {j : Nat} {v : Int} : cls (mu M 6 j v) P C = cls M P C := by
  funext c k
  match c with
  | 0 => simp [mu, cls, fu]
  | 1 => simp [mu, cls, fu]
  | 2 => simp [mu, cls, fu]
  | 3 => simp [mu, cls, fu]
  | 4 => simp [mu, cls, fu]
  | 5 => simp [mu, cls, fu]
  | 6 => simp [mu, cls, fu]
  | 7 => simp [mu, cls, fu]
  | 8 => simp [mu, cls, fu]
  | 9 => simp [mu, cls, fu]
  | 10 => simp [mu, cls, fu]
  | n + 11 => simp [mu, cls]
theorem cn_7 {M : Mo} {P C : Nat → Int} {j : Nat} {v : Int} : cls (mu M 7 j v) P C = cls M P C := by
  funext c k
  match c with
  | 0 => simp [mu, cls, fu]
  | 1 => simp [mu, cls, fu]
  | 2 => simp [mu, cls, fu]
  | 3 => simp [mu, cls, fu]
  | 4 => simp [mu, cls, fu]
  | 5 => simp [mu, cls, fu]
  | 6 => simp [mu, cls, fu]
  | 7 => simp [mu, cls, fu]
  | 8 => simp [mu, cls, fu]
  | 9 => simp [mu, cls, fu]
  | 10 => simp [mu, cls, fu]
  | n + 11 => simp [mu, cls]
theorem cn_8 {M : Mo} {P C : Nat → Int} {j : Nat} {v : Int} : cls (mu M 8 j v) P C = cls M P C := by
  funext c k
  match c with
  | 0 => simp [mu, cls, fu]
  | 1 => simp [mu, cls, fu]
  | 2 => simp [mu, cls, fu]
  | 3 => simp [mu, cls, fu]
  | 4 => simp [mu, cls, fu]
  | 5 => simp [mu, cls, fu]
  | 6 => simp [mu, cls, fu]
  | 7 => simp [mu, cls, fu]
  | 8 => simp [mu, cls, fu]
  | 9 => simp [mu, cls, fu]
  | 10 => simp [mu, cls, fu]
  | n + 11 => simp [mu, cls]
theorem cn_P {M : Mo} {P C : Nat → Int} {j : Nat} {v : Int} : cls M (fu P j v) C = mu (cls M P C) 1 j v := by
  funext c k
  match c with
  | 0 => simp [mu, cls, fu]
  | 1 => simp [mu, cls, fu]
  | 2 => simp [mu, cls, fu]
  | 3 => simp [mu, cls, fu]
  | 4 => simp [mu, cls, fu]
  | 5 => simp [mu, cls, fu]
  | 6 => simp [mu, cls, fu]
  | 7 => simp [mu, cls, fu]
  | 8 => simp [mu, cls, fu]
  | 9 => simp [mu, cls, fu]
  | 10 => simp [mu, cls, fu]
  | n + 11 => simp [mu, cls]
theorem cn_C {M : Mo} {P C : Nat → Int} {j : Nat} {v : Int} : cls M P (fu C j v) = mu (cls M P C) 2 j v := by
  funext c k
  match c with
  | 0 => simp [mu, cls, fu]
  | 1 => simp [mu, cls, fu]
  | 2 => simp [mu, cls, fu]
  | 3 => simp [mu, cls, fu]
  | 4 => simp [mu, cls, fu]
  | 5 => simp [mu, cls, fu]
  | 6 => simp [mu, cls, fu]
  | 7 => simp [mu, cls, fu]
  | 8 => simp [mu, cls, fu]
  | 9 => simp [mu, cls, fu]
  | 10 => simp [mu, cls, fu]
  | n + 11 => simp [mu, cls]
theorem cls_inj {M : Mo} {P C P' C' : Nat → Int} (h : cls M P C = cls M P' C') : P = P' ∧ C = C' := by
  refine ⟨?_, ?_⟩
  · funext j; exact congrFun (congrFun h 1) j
  · funext j; exact congrFun (congrFun h 2) j
theorem wf_ob {M : Mo} (h : Wf M) (p : Nat) : M 1 p = 0 ∨ M 1 p = 1 := h.1.1.1 p
theorem wf_sz {M : Mo} (h : Wf M) (p : Nat) : 0 ≤ M 2 p ∧ M 2 p ≤ 3 := h.1.1.2.1 p
theorem wf_mk {M : Mo} (h : Wf M) (p : Nat) : M 4 p = 0 ∨ M 4 p = 1 := h.1.1.2.2.1 p
theorem wf_fw {M : Mo} (h : Wf M) (p : Nat) : -1 ≤ M 5 p ∧ M 5 p < 128 := h.1.1.2.2.2.1 p
theorem wf_pl {M : Mo} (h : Wf M) (s : Nat) : 0 ≤ M 6 s ∧ M 6 s < 128 := h.1.1.2.2.2.2.1 s
theorem wf_co {M : Mo} (h : Wf M) (s : Nat) : 0 ≤ M 7 s ∧ M 7 s ≤ 3 := h.1.1.2.2.2.2.2 s
theorem wf_iu {M : Mo} (h : Wf M) (q : Nat) : M 8 q = 0 ∨ M 8 q = 1 := h.1.2.1.1 q
theorem wf_us {M : Mo} (h : Wf M) (q : Nat) : 0 ≤ M 9 q ∧ M 9 q ≤ 16 := h.1.2.1.2.1 q
theorem wf_ca {M : Mo} (h : Wf M) (q : Nat) : M 10 q = 0 ∨ M 10 q = 1 := h.1.2.1.2.2.1 q
theorem wf_st {M : Mo} (h : Wf M) (q : Nat) : M 11 q = 0 ∨ M 11 q = 1 := h.1.2.1.2.2.2.1 q
theorem wf_stk {M : Mo} (h : Wf M) (i : Nat) : 0 ≤ M 12 i ∧ M 12 i < 128 := h.1.2.1.2.2.2.2 i
theorem wf_al {M : Mo} (h : Wf M) : -1 ≤ M 0 12 ∧ M 0 12 < 8 := h.1.2.2.1
theorem wf_ph {M : Mo} (h : Wf M) : 0 ≤ M 0 13 ∧ M 0 13 ≤ 2 := h.1.2.2.2.1
theorem wf_cy {M : Mo} (h : Wf M) : 0 ≤ M 0 14 ∧ M 0 14 < 2147483647 := h.1.2.2.2.2.1
theorem wf_sk {M : Mo} (h : Wf M) : 0 ≤ M 0 17 ∧ M 0 17 ≤ 128 := h.1.2.2.2.2.2.1
theorem wf_th {M : Mo} (h : Wf M) : 1 ≤ M 0 0 ∧ M 0 0 ≤ 16 := h.1.2.2.2.2.2.2.1
theorem wf_val {M : Mo} (h : Wf M) (p : Nat) : rg (M 3 p) := h.1.2.2.2.2.2.2.2 p
theorem si_free {M : Mo} (h : Wf M) {q : Nat} (hq : M 8 q = 0) : M 9 q = 0 ∧ M 10 q = 0 ∧ M 11 q = 0 := h.2.1 q hq
theorem si_use {M : Mo} (h : Wf M) {q : Nat} (hq : M 8 q = 1) : 0 < M 9 q := h.2.2.1 q hq
theorem si_al {M : Mo} (h : Wf M) (hq : 0 ≤ M 0 12) : M 8 (M 0 12).toNat = 1 ∧ M 10 (M 0 12).toNat = 0 ∧ M 11 (M 0 12).toNat = 0 := h.2.2.2.1 hq
theorem si_obj {M : Mo} (h : Wf M) {p : Nat} (hp : M 1 p = 1) : p < 128 ∧ M 8 (p / 16) = 1 ∧ (p : Int) + M 2 p + 1 ≤ 16 * ((p / 16 : Nat) : Int) + M 9 (p / 16) := h.2.2.2.2.1 p hp
theorem si_apart {M : Mo} (h : Wf M) {p p' : Nat} (hp : M 1 p = 1) (hp' : M 1 p' = 1) (hl : p < p') (hq : p / 16 = p' / 16) : (p : Int) + M 2 p + 1 ≤ p' := h.2.2.2.2.2.1 p p' hp hp' hl hq
theorem si_mo {M : Mo} (h : Wf M) {p : Nat} (hp : M 4 p = 1) : M 1 p = 1 := h.2.2.2.2.2.2.1 p hp
theorem si_sc {M : Mo} (h : Wf M) {q : Nat} (hp : M 11 q = 1) : M 10 q = 1 := h.2.2.2.2.2.2.2.1 q hp
theorem si_stm {M : Mo} (h : Wf M) {k : Nat} (hk : (k : Int) < M 0 17) : M 4 (M 12 k).toNat = 1 := h.2.2.2.2.2.2.2.2.1 k hk
theorem si_std {M : Mo} (h : Wf M) {k k' : Nat} (hk : (k : Int) < M 0 17) (hl : k' < k) : M 12 k' ≠ M 12 k := h.2.2.2.2.2.2.2.2.2.1 k k' hk hl
theorem si_s0 {M : Mo} (h : Wf M) (hp : M 0 13 ≠ 1) : M 0 17 = 0 := h.2.2.2.2.2.2.2.2.2.2 hp
theorem si_iff {M : Mo} (h : Wf M) (q : Nat) : M 9 q = 0 ↔ M 8 q = 0 := by
  constructor
  · intro h1
    rcases wf_iu h q with h2 | h2
    · exact h2
    · have := si_use h h2; omega
  · intro h1; exact (si_free h h1).1
theorem free_eq {M : Mo} (h : Wf M) : m_fst (fun p => decide (M 9 p = 0)) 8 0 = m_free M := by
  have e : (fun p => decide (M 9 p = 0)) = (fun p => decide (M 8 p = 0)) := by
    funext p
    rw [decide_eq_decide]
    exact si_iff h p
  rw [e]
  rfl
theorem free_le (M : Mo) : m_free M ≤ 8 := by
  have := fst_le (f := fun p => decide (M 8 p = 0)) 8 0
  unfold m_free
  simpa using this
theorem free_lt {M : Mo} (h : m_free M ≠ 8) : M 8 (m_free M) = 0 := by
  have h1 := free_le M
  have := fst_true (f := fun p => decide (M 8 p = 0)) 8 0 (by unfold m_free at h h1; omega)
  exact of_decide_eq_true this
/-- room, in one shape -/
theorem room_cases {M : Mo} (h : Wf M) {w : Int} (w1 : 1 ≤ w) (w2 : w ≤ 4) : (m_roomP M w = -1 ∧ m_room M w = M) ∨
    ∃ a t : Nat, a < 8 ∧ m_roomP M w = (t : Int) ∧ m_room M w = mu (mu (mu M 8 a 1) 0 12 (a : Int)) 9 a ((t : Int) - 16 * a + w) ∧ 16 * a ≤ t ∧ (t : Int) + w ≤ 16 * a + 16 ∧ M 10 a = 0 ∧ M 11 a = 0 ∧ (∀ p : Nat, M 1 p = 1 → p / 16 = a → (p : Int) + M 2 p + 1 ≤ t) := by
  unfold m_roomP m_room
  by_cases hf : m_nofit M w
  · rw [if_pos hf, if_pos hf]
    by_cases h8 : m_free M = 8
    · rw [if_pos h8, if_pos h8]
      exact Or.inl ⟨rfl, rfl⟩
    · rw [if_neg h8, if_neg h8]
      have h0 := free_lt h8
      have hl := free_le M
      obtain ⟨s1, s2, s3⟩ := si_free h h0
      refine Or.inr ⟨m_free M, 16 * m_free M, by omega, by omega, ?_, Nat.le_refl _, by omega, s2, s3, fun p hp hq => ?_⟩
      · congr 1
        omega
      · have := (si_obj h hp).2.1
        rw [hq, h0] at this
        omega
  · rw [if_neg hf, if_neg hf]
    have ha := wf_al h
    have h0 : 0 ≤ M 0 12 := by
      rcases Classical.em (M 0 12 = -1) with q | q
      · exact absurd (Or.inl q) hf
      · omega
    obtain ⟨s1, s2, s3⟩ := si_al h h0
    have hu := wf_us h (M 0 12).toNat
    have hfit : ¬ 16 < M 9 (M 0 12).toNat + w := fun q => hf (Or.inr q)
    have e1 : ((M 0 12).toNat : Int) = M 0 12 := by omega
    refine Or.inr ⟨(M 0 12).toNat, (16 * M 0 12 + M 9 (M 0 12).toNat).toNat, by omega, by omega, ?_, by omega, by omega, s2, s3, fun p hp hq => ?_⟩
    · rw [mu_self (M := M) s1, e1, mu_self rfl]
      congr 1
      omega
    · have := (si_obj h hp).2.2
      rw [hq] at this
      omega

theorem php : ∀ (n : Nat) (f : Nat → Nat), (∀ i, i < n + 1 → f i < n) → ∃ i j, i < j ∧ j < n + 1 ∧ f i = f j
  | 0, f, h => absurd (h 0 (by omega)) (by omega)
  | n + 1, f, h => by
    by_cases hv : ∃ i, i < n + 1 ∧ f i = f (n + 1)
    · obtain ⟨i, h1, h2⟩ := hv
      exact ⟨i, n + 1, h1, by omega, h2⟩
    · have hne : ∀ i, i < n + 1 → f i ≠ f (n + 1) := fun i hi q => hv ⟨i, hi, q⟩
      obtain ⟨i, j, h1, h2, h3⟩ := php n (fun i => if f i = n then f (n + 1) else f i) (fun i hi => by
        have a := h i (by omega)
        have b := h (n + 1) (by omega)
        have c := hne i hi
        split <;> omega)
      refine ⟨i, j, h1, by omega, ?_⟩
      have c1 := hne i (by omega)
      have c2 := hne j h2
      split at h3 <;> split at h3 <;> omega
/-- an object that is not marked finds room on the stack -/
theorem stk_lt {M : Mo} (h : Wf M) {p : Nat} (hp : M 1 p = 1) (hm : M 4 p ≠ 1) : M 0 17 < 128 := by
  have hs := wf_sk h
  rcases Classical.em (M 0 17 < 128) with q | q
  · exact q
  · have e : M 0 17 = 128 := by omega
    have hpl := (si_obj h hp).1
    have hv : ∀ k : Nat, k < 128 → (M 12 k).toNat ≠ p := fun k hk z => by
      have := si_stm h (k := k) (by omega)
      rw [z] at this
      exact hm this
    obtain ⟨i, j, h1, h2, h3⟩ := php 127 (fun k => if (M 12 k).toNat = 127 then p else (M 12 k).toNat) (fun k hk => by
      have a := wf_stk h k
      have b := hv k hk
      split <;> omega)
    have d := si_std h (k := j) (k' := i) (by omega) h1
    have a1 := wf_stk h i
    have a2 := wf_stk h j
    have b1 := hv i (by omega)
    have b2 := hv j (by omega)
    split at h3 <;> split at h3 <;> omega
theorem sum_eq {f g : Nat → Int} : ∀ n i, (∀ k, i ≤ k → k < i + n → f k = g k) → m_sum f n i = m_sum g n i
  | 0, _, _ => rfl
  | n + 1, i, h => by
    unfold m_sum
    rw [h i (Nat.le_refl i) (by omega), sum_eq n (i + 1) (fun k h1 h2 => h k (by omega) (by omega))]
theorem sum_nn {f : Nat → Int} : ∀ n i, (∀ k, i ≤ k → k < i + n → 0 ≤ f k) → 0 ≤ m_sum f n i
  | 0, _, _ => Int.le_refl 0
  | n + 1, i, h => by
    unfold m_sum
    have a := h i (Nat.le_refl i) (by omega)
    have b := sum_nn (f := f) n (i + 1) (fun k h1 h2 => h k (by omega) (by omega))
    omega
theorem sum_le {f : Nat → Int} {c : Int} (hc : 0 ≤ c) : ∀ n i, (∀ k, i ≤ k → k < i + n → f k ≤ c) → m_sum f n i ≤ c * n
  | 0, _, _ => by unfold m_sum; omega
  | n + 1, i, h => by
    unfold m_sum
    have a := h i (Nat.le_refl i) (by omega)
    have b := sum_le (f := f) hc n (i + 1) (fun k h1 h2 => h k (by omega) (by omega))
    have e : c * ((n + 1 : Nat) : Int) = c * (n : Int) + c := by
      rw [show ((n + 1 : Nat) : Int) = (n : Int) + 1 by omega, Int.mul_add]
      omega
    omega
theorem sum_0 {f : Nat → Int} : ∀ n i, (∀ k, i ≤ k → k < i + n → 0 ≤ f k) → m_sum f n i = 0 → ∀ k, i ≤ k → k < i + n → f k = 0
  | 0, i, _, _, k, h1, h2 => by omega
  | n + 1, i, h, h0, k, h1, h2 => by
    unfold m_sum at h0
    have a := h i (Nat.le_refl i) (by omega)
    have b := sum_nn (f := f) n (i + 1) (fun k h1 h2 => h k (by omega) (by omega))
    by_cases e : k = i
    · subst e; omega
    · exact sum_0 n (i + 1) (fun k h1 h2 => h k (by omega) (by omega)) (by omega) k (by omega) (by omega)
/-- live words, marked objects: of the marks alone -/
theorem live_eq {M : Mo} (h : Wf M) (q : Nat) : m_live M q = m_sum (fun k => if M 4 k = 0 then 0 else M 2 k + 1) 16 (16 * q) := by
  refine sum_eq _ _ (fun k _ _ => ?_)
  rcases wf_mk h k with e | e
  · rw [e, if_neg (by omega), if_pos rfl]
  · rw [if_pos ⟨si_mo h e, e⟩, e, if_neg (by omega)]
theorem markedIn_eq {M : Mo} (h : Wf M) (q : Nat) : m_markedIn M q = m_sum (fun k => if M 4 k = 0 then 0 else 1) 16 (16 * q) := by
  refine sum_eq _ _ (fun k _ _ => ?_)
  rcases wf_mk h k with e | e
  · rw [e, if_neg (by omega), if_pos rfl]
  · rw [if_pos ⟨si_mo h e, e⟩, e, if_neg (by omega)]
theorem live_bd {M : Mo} (h : Wf M) (q : Nat) : 0 ≤ m_live M q ∧ m_live M q ≤ 64 := by
  refine ⟨sum_nn _ _ (fun k _ _ => ?_), ?_⟩
  · have := wf_sz h k
    split <;> omega
  · have := sum_le (f := fun k => if M 1 k = 1 ∧ M 4 k = 1 then M 2 k + 1 else 0) (c := 4) (by omega) 16 (16 * q) (fun k _ _ => by
      have := wf_sz h k
      split <;> omega)
    unfold m_live
    omega
theorem live_0 {M : Mo} (h : Wf M) {q : Nat} (h0 : m_live M q = 0) {k : Nat} (h1 : 16 * q ≤ k) (h2 : k < 16 * q + 16) : M 4 k = 0 := by
  rcases wf_mk h k with e | e
  · exact e
  · have := sum_0 (f := fun k => if M 1 k = 1 ∧ M 4 k = 1 then M 2 k + 1 else 0) 16 (16 * q) (fun k _ _ => by
      have := wf_sz h k
      split <;> omega) h0 k h1 h2
    rw [if_pos ⟨si_mo h e, e⟩] at this
    have := wf_sz h k
    omega
theorem markedIn_bd (M : Mo) (q : Nat) : 0 ≤ m_markedIn M q ∧ m_markedIn M q ≤ 16 := by
  refine ⟨sum_nn _ _ (fun k _ _ => ?_), ?_⟩
  · split <;> omega
  · have := sum_le (f := fun k => if M 1 k = 1 ∧ M 4 k = 1 then 1 else 0) (c := 1) (by omega) 16 (16 * q) (fun k _ _ => by
      split <;> omega)
    unfold m_markedIn
    omega
theorem markedIn_0 {M : Mo} (h : Wf M) {q : Nat} (h0 : m_markedIn M q = 0) {k : Nat} (h1 : 16 * q ≤ k) (h2 : k < 16 * q + 16) : M 4 k = 0 := by
  rcases wf_mk h k with e | e
  · exact e
  · have := sum_0 (f := fun k => if M 1 k = 1 ∧ M 4 k = 1 then 1 else 0) 16 (16 * q) (fun k _ _ => by
      split <;> omega) h0 k h1 h2
    rw [if_pos ⟨si_mo h e, e⟩] at this
    omega

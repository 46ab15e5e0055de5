/-! slots of the class and of the model; runs of the collector's parts in the class -/
theorem sx_congr {M M' : Mo} (h1 : ∀ p, M' 1 p = M 1 p) (h2 : ∀ p, M' 2 p = M 2 p) {i s : Nat} (h : Sx M' i s) : Sx M i s := by
  rcases h with h | ⟨p, f, a, b, c, d⟩
  · exact Or.inl h
  · exact Or.inr ⟨p, f, by rw [← h1]; exact a, b, by rw [← h2]; exact c, d⟩
/-- a field's place in the class -/
theorem sx_fld {M : Mo} (h : Wf M) {p f : Nat} (hp : M 1 p = 1) (hf : (f : Int) < M 2 p) : p + 1 + f < 16 * (p / 16) + 16 ∧ p < 128 ∧ f < 3 := by
  have a := si_obj h hp
  have b := wf_us h (p / 16)
  have c := wf_sz h p
  omega
theorem sx_inj {M : Mo} (h : Wf M) {i s i' s' : Nat} (h1 : Sx M i s) (h2 : Sx M i' s') : i = i' ↔ s = s' := by
  rcases h1 with ⟨r, a, rfl, rfl⟩ | ⟨p, f, a, b, c, rfl, rfl⟩
  · rcases h2 with ⟨r', a', rfl, rfl⟩ | ⟨p', f', a', b', c', rfl, rfl⟩
    · omega
    · have := sx_fld h a' c'
      omega
  · rcases h2 with ⟨r', a', rfl, rfl⟩ | ⟨p', f', a', b', c', rfl, rfl⟩
    · have := sx_fld h a c
      omega
    · have q1 := sx_fld h a c
      have q2 := sx_fld h a' c'
      have z1 := wf_sz h p
      have z2 := wf_sz h p'
      by_cases e : p = p'
      · subst e; omega
      · by_cases ep : p / 16 = p' / 16
        · by_cases el : p < p'
          · have := si_apart h a a' el ep
            omega
          · have := si_apart h a' a (by omega) ep.symm
            omega
        · omega
theorem sl_congr {M M' : Mo} {P C : Nat → Int} (h1 : ∀ p, M' 1 p = M 1 p) (h2 : ∀ p, M' 2 p = M 2 p) (h6 : ∀ p, M' 6 p = M 6 p) (h7 : ∀ p, M' 7 p = M 7 p) (h : Sl M P C) : Sl M' P C := by
  intro i s hx
  rw [h6, h7]
  exact h i s (sx_congr h1 h2 hx)
theorem sl_set {M : Mo} {P C : Nat → Int} (hw : Wf M) (h : Sl M P C) {i s : Nat} (hx : Sx M i s) (a b : Int) : Sl (mu (mu M 6 s a) 7 s b) (fu P i a) (fu C i b) := by
  intro i' s' hx'
  have hx' : Sx M i' s' := sx_congr (M' := mu (mu M 6 s a) 7 s b) (fun p => by rw [mu_cell (by decide), mu_cell (by decide)]) (fun p => by rw [mu_cell (by decide), mu_cell (by decide)]) hx'
  have he := sx_inj hw hx hx'
  by_cases e : i = i'
  · subst e
    have e2 : s = s' := he.mp rfl
    subst e2
    rw [mu_same, mu_cell (by decide), mu_same]
    simp [fu]
  · have e2 : s ≠ s' := fun q => e (he.mpr q)
    rw [mu_place (fun q => e2 q.symm), mu_place (fun q => e2 q.symm), mu_place (fun q => e2 q.symm), mu_place (fun q => e2 q.symm)]
    have e3 : ¬ i' = i := fun q => e q.symm
    simp only [fu, if_neg e3]
    exact h i' s' hx'
theorem kc_set {M : Mo} {P C : Nat → Int} (hw : Wf M) (h : Sl M P C) (hC : ∀ i, rg (C i)) (hP : ∀ i, 0 ≤ P i ∧ P i < 128) {i s : Nat} (hx : Sx M i s) {a b : Int} (ha : 0 ≤ a ∧ a < 128) (hb : rg b) :
    KC (mu (mu M 6 s a) 7 s b) (mu (mu (cls M P C) 1 i a) 2 i b) := by
  refine ⟨fu P i a, fu C i b, ?_, sl_set hw h hx a b, fun j => ?_, fun j => ?_⟩
  · rw [cn_7, cn_6, cn_C, cn_P]
  · simp only [fu]; split
    · exact hb
    · exact hC j
  · simp only [fu]; split
    · exact ha
    · exact hP j
theorem fill_0 {M : Mo} {c : Nat} {f : Nat → Int} : m_fill M c 0 f = M := by
  funext a b
  simp [m_fill]
theorem fill_s {M : Mo} {c n : Nat} {f : Nat → Int} {x : Int} (hx : x = f n) : mu (m_fill M c n f) c n x = m_fill M c (n + 1) f := by
  subst hx
  funext a b
  by_cases ha : a = c
  · subst ha
    by_cases hb : b = n
    · subst hb; simp [mu, m_fill]
    · by_cases hb2 : b < n
      · have : b < n + 1 := by omega
        simp [mu, m_fill, hb, hb2, this]
      · have : ¬ b < n + 1 := by omega
        simp [mu, m_fill, hb, hb2, this]
  · simp [mu, m_fill, ha]
theorem fill_cell {M : Mo} {c n a b : Nat} {f : Nat → Int} (h : a ≠ c) : m_fill M c n f a b = M a b := by
  simp [m_fill, h]
theorem fill_in {M : Mo} {c n b : Nat} {f : Nat → Int} (h : b < n) : m_fill M c n f c b = f b := by
  simp [m_fill, h]
theorem fill_out {M : Mo} {c n b : Nat} {f : Nat → Int} (h : ¬ b < n) : m_fill M c n f c b = M c b := by
  simp [m_fill, h]
theorem begin_cls {M : Mo} (h : Wf M) (P C : Nat → Int) : cls (m_begin0 M) P C = m_fill (m_fill (mu (mu (mu (cls M P C) 0 13 1) 0 16 (M 0 14 + 1)) 0 12 (-1)) 5 128 (fun _ => 0)) 9 8 (fun k => if M 9 k ≤ 0 then 0 else 1) := by
  unfold m_begin0
  funext c k
  match c with
  | 0 =>
    by_cases h12 : k = 12
    · subst h12; simp [cls, m_fill, mu]
    · by_cases h13 : k = 13
      · subst h13; simp [cls, m_fill, mu]
      · by_cases h16 : k = 16
        · subst h16; simp [cls, m_fill, mu]
        · simp [cls, m_fill, mu, h12, h13, h16]
  | 1 => simp [cls, m_fill, mu]
  | 2 => simp [cls, m_fill, mu]
  | 3 => simp [cls, m_fill, mu]
  | 4 => simp [cls, m_fill, mu]
  | 5 => simp [cls, m_fill, mu]
  | 6 => simp [cls, m_fill, mu]
  | 7 => simp [cls, m_fill, mu]
  | 8 => simp [cls, m_fill, mu]
  | 9 =>
    have e : M 8 k = if M 9 k ≤ 0 then 0 else 1 := by
      have hu := wf_us h k
      rcases wf_iu h k with q | q
      · rw [q, (si_free h q).1]; rfl
      · have := si_use h q
        rw [q, if_neg (by omega)]
    simp [cls, m_fill, mu, e]
  | 10 => simp [cls, m_fill, mu]
  | n + 11 => simp [cls, m_fill, mu]
theorem vX0_beginMarking : VX0_beginMarking := by
  intro g σ as h
  match as, h with
  | [], h =>
    obtain ⟨⟨P, C, rfl⟩, hw⟩ := h
    refine ⟨Nat.le_of_ble_eq_true rfl, fun K hK => ?_⟩
    have hu := wf_us hw
    have loop2 : ∀ (k i : Nat) (j : Int) (X : Mo), X = m_fill (mu (mu (mu (cls g P C) 0 13 1) 0 16 (g 0 14 + 1)) 0 12 (-1)) 5 128 (fun _ => 0) → j = i → i + k = 8 → K (m_fill X 9 i (fun k => if g 9 k ≤ 0 then 0 else 1)) 44 [some (.inr 0), some (.inl j)] [] := by
      intro k
      induction k with
      | zero =>
        intro i j X hX hj hi
        refine hK [] 20 _ _ _ _ ?_
        conv => whnf
        refine ⟨⟨(rgI (by omega) (by omega)), (rg_c _ rfl)⟩, fun c1 => ?_, fun c1 => ?_⟩
        · conv => whnf
          intro P' C' he
          obtain ⟨rfl, rfl⟩ := cls_inj he
          rw [begin_cls hw, hX, show i = 8 by omega]
        · exact absurd (show (8 : Int) ≤ j by omega) c1
      | succ k ih =>
        intro i j X hX hj hi
        refine hK [44] 20 _ _ _ _ ?_
        conv => whnf
        refine ⟨⟨(rgI (by omega) (by omega)), (rg_c _ rfl)⟩, fun c1 => ?_, fun c1 => ?_⟩
        · exact absurd (show (8 : Int) ≤ j from c1) (by omega)
        · conv => whnf
          refine ⟨⟨by omega, by omega⟩, ?_⟩
          conv => whnf
          have e : j.toNat = i := by omega
          have e2 : m_fill X 9 i (fun k => if g 9 k ≤ 0 then 0 else 1) 8 j.toNat = g 9 i := by
            rw [e, fill_cell (by decide), hX, fill_cell (by decide), mu_cell (by decide), mu_cell (by decide), mu_cell (by decide)]
            rfl
          have hui := hu i
          refine ⟨rgI (by rw [e2]; omega) (by rw [e2]; omega), fun c2 => ?_, fun c2 => ?_⟩
          · have c2 : m_fill X 9 i (fun k => if g 9 k ≤ 0 then 0 else 1) 8 j.toNat ≤ 0 := c2
            rw [e2] at c2
            conv => whnf
            refine ⟨⟨⟨by omega, by omega⟩, Or.inl rfl⟩, ?_⟩
            conv => whnf
            rw [e, fill_s (by rw [if_pos c2])]
            exact ih (i + 1) (j + 1) X hX (by omega) (by omega)
          · have c2 : ¬ m_fill X 9 i (fun k => if g 9 k ≤ 0 then 0 else 1) 8 j.toNat ≤ 0 := c2
            rw [e2] at c2
            conv => whnf
            refine ⟨⟨⟨by omega, by omega⟩, Or.inr rfl⟩, ?_⟩
            conv => whnf
            rw [e, fill_s (by rw [if_neg c2])]
            exact ih (i + 1) (j + 1) X hX (by omega) (by omega)
    have loop1 : ∀ (k i : Nat) (j : Int), j = i → i + k = 128 → K (m_fill (mu (mu (mu (cls g P C) 0 13 1) 0 16 (g 0 14 + 1)) 0 12 (-1)) 5 i (fun _ => 0)) 22 [some (.inr 0), some (.inl j)] [] := by
      intro k
      induction k with
      | zero =>
        intro i j hj hi
        refine hK [44] 20 _ _ _ _ ?_
        conv => whnf
        refine ⟨⟨(rgI (by omega) (by omega)), (rg_c _ rfl)⟩, fun c1 => ?_, fun c1 => ?_⟩
        · conv => whnf
          have := loop2 8 0 0 _ rfl rfl rfl
          rw [fill_0] at this
          rw [show i = 128 by omega]
          exact this
        · exact absurd (show (128 : Int) ≤ j by omega) c1
      | succ k ih =>
        intro i j hj hi
        refine hK [22] 20 _ _ _ _ ?_
        conv => whnf
        refine ⟨⟨(rgI (by omega) (by omega)), (rg_c _ rfl)⟩, fun c1 => ?_, fun c1 => ?_⟩
        · exact absurd (show (128 : Int) ≤ j from c1) (by omega)
        · conv => whnf
          refine ⟨⟨⟨by omega, by omega⟩, Or.inl rfl⟩, ?_⟩
          conv => whnf
          have e : j.toNat = i := by omega
          rw [e, fill_s rfl]
          exact ih (i + 1) (j + 1) (by omega) (by omega)
    refine hK [22] 30 _ _ _ _ ?_
    conv => whnf
    have := loop1 128 0 0 rfl rfl
    rw [fill_0] at this
    exact this
theorem nofw_cls {M : Mo} {n : Nat} (P C : Nat → Int) : cls (m_fill M 5 n (fun _ => -1)) P C = m_fill (cls M P C) 6 n (fun _ => -1) := by
  funext c k
  match c with
  | 0 => simp [cls, m_fill]
  | 1 => simp [cls, m_fill]
  | 2 => simp [cls, m_fill]
  | 3 => simp [cls, m_fill]
  | 4 => simp [cls, m_fill]
  | 5 => simp [cls, m_fill]
  | 6 => simp [cls, m_fill]
  | 7 => simp [cls, m_fill]
  | 8 => simp [cls, m_fill]
  | 9 => simp [cls, m_fill]
  | 10 => simp [cls, m_fill]
  | n + 11 => simp [cls, m_fill]
theorem vX0_beginRelocating : VX0_beginRelocating := by
  intro g σ as h
  match as, h with
  | [], h =>
    obtain ⟨⟨P, C, rfl⟩, hj⟩ := h
    refine ⟨Nat.le_of_ble_eq_true rfl, fun K hK => ?_⟩
    have loop2 : ∀ (k i : Nat) (j : Int), j = i → i + k = 8 → K (cls (m_judges (m_nofw g) i) P C) 24 [some (.inr 0), some (.inl j)] [] := by
      intro k
      induction k with
      | zero =>
        intro i j hj hi
        refine hK [] 20 _ _ _ _ ?_
        conv => whnf
        refine ⟨⟨(rgI (by omega) (by omega)), (rg_c _ rfl)⟩, fun c1 => ?_, fun c1 => ?_⟩
        · conv => whnf
          intro P' C' he
          obtain ⟨rfl, rfl⟩ := cls_inj he
          unfold m_choose0
          rw [cn_0_13, show i = 8 by omega]
        · exact absurd (show (8 : Int) ≤ j by omega) c1
      | succ k ih =>
        intro i j hji hi
        have hw := hj i (by omega)
        have e : j.toNat = i := by omega
        refine hK [24] 20 _ _ _ _ ?_
        conv => whnf
        refine ⟨⟨(rgI (by omega) (by omega)), (rg_c _ rfl)⟩, fun c1 => ?_, fun c1 => ?_⟩
        · exact absurd (show (8 : Int) ≤ j from c1) (by omega)
        · conv => whnf
          refine ⟨⟨by omega, by omega⟩, ?_⟩
          conv => whnf
          have e2 : cls (m_judges (m_nofw g) i) P C 9 j.toNat = m_judges (m_nofw g) i 10 i := by rw [e]; rfl
          have hc := wf_ca hw i
          refine ⟨rgI (by rw [e2]; omega) (by rw [e2]; omega), fun c2 => ?_, fun c2 => ?_⟩
          · have c2 : cls (m_judges (m_nofw g) i) P C 9 j.toNat = 0 := c2
            rw [e2] at c2
            conv => whnf
            have := ih (i + 1) (j + 1) (by omega) (by omega)
            rw [show m_judges (m_nofw g) (i + 1) = m_judges (m_nofw g) i from by
              show m_judge _ i = _
              unfold m_judge
              rw [if_neg (by omega)]] at this
            exact this
          · have c2 : ¬ cls (m_judges (m_nofw g) i) P C 9 j.toNat = 0 := c2
            rw [e2] at c2
            conv => whnf
            refine ⟨m_judges (m_nofw g) i, ⟨⟨P, C, rfl⟩, hw, ⟨by omega, by omega⟩, by rw [e]; omega⟩, fun y τ hp => ?_⟩
            have hp := hp P C rfl
            rw [e] at hp
            subst hp
            conv => whnf
            exact ih (i + 1) (j + 1) (by omega) (by omega)
    have loop1 : ∀ (k i : Nat) (j : Int), j = i → i + k = 128 → K (m_fill (cls g P C) 6 i (fun _ => -1)) 2 [some (.inr 0), some (.inl j)] [] := by
      intro k
      induction k with
      | zero =>
        intro i j hj hi
        refine hK [24] 20 _ _ _ _ ?_
        conv => whnf
        refine ⟨⟨(rgI (by omega) (by omega)), (rg_c _ rfl)⟩, fun c1 => ?_, fun c1 => ?_⟩
        · conv => whnf
          have := loop2 8 0 0 rfl rfl
          rw [show i = 128 by omega, ← nofw_cls]
          exact this
        · exact absurd (show (128 : Int) ≤ j by omega) c1
      | succ k ih =>
        intro i j hj hi
        refine hK [2] 20 _ _ _ _ ?_
        conv => whnf
        refine ⟨⟨(rgI (by omega) (by omega)), (rg_c _ rfl)⟩, fun c1 => ?_, fun c1 => ?_⟩
        · exact absurd (show (128 : Int) ≤ j from c1) (by omega)
        · conv => whnf
          refine ⟨⟨by omega, by omega⟩, ?_⟩
          conv => whnf
          have e : j.toNat = i := by omega
          rw [e, fill_s rfl]
          exact ih (i + 1) (j + 1) (by omega) (by omega)
    refine hK [2] 30 _ _ _ _ ?_
    conv => whnf
    have := loop1 128 0 0 rfl rfl
    rw [fill_0] at this
    exact this

/-! RUNS OF THE CLASS'S LEAVES -/
theorem rgI {a : Int} (h1 : -2147483648 ≤ a) (h2 : a < 2147483648) : rg a := ⟨h1, h2⟩
theorem rg_c (n : Int) (h : decide (-2147483648 ≤ n ∧ n < 2147483648) = true) : rg n := by
  have := of_decide_eq_true h
  exact this
theorem vX0_isRoot : VX0_isRoot := by
  intro g σ as h
  match as, h with
  | [a], h =>
    refine ⟨Nat.le_of_ble_eq_true rfl, fun K hK => hK [] 20 _ _ _ _ ?_⟩
    conv => whnf
    refine ⟨h, fun c => ?_, fun c => ?_⟩
    · have c : a < 0 := c
      conv => whnf
      exact ⟨Or.inl rfl, by rw [if_neg (by omega)], rfl⟩
    · have c : ¬ a < 0 := c
      conv => whnf
      refine ⟨⟨h, rg_c _ rfl⟩, fun c2 => ?_, fun c2 => ?_⟩
      · have c2 : (6 : Int) ≤ a := c2
        conv => whnf
        exact ⟨Or.inl rfl, by rw [if_neg (by omega)], rfl⟩
      · have c2 : ¬ (6 : Int) ≤ a := c2
        conv => whnf
        exact ⟨Or.inr rfl, by rw [if_pos (by omega)], rfl⟩
theorem vX0_pageOf : VX0_pageOf := by
  intro g σ as h
  match as, h with
  | [a], h =>
    refine ⟨Nat.le_of_ble_eq_true rfl, fun K hK => hK [] 20 _ _ _ _ ?_⟩
    obtain ⟨h1, h2⟩ := h
    conv => whnf
    refine ⟨⟨⟨h1, by omega⟩, by decide⟩, ?_⟩
    conv => whnf
    exact ⟨rfl, rfl⟩
theorem vX0_holdsNothing : VX0_holdsNothing := by
  intro g σ as h
  match as, h with
  | [i], h =>
    obtain ⟨h1, h2⟩ := h
    refine ⟨Nat.le_of_ble_eq_true rfl, fun K hK => hK [] 20 _ _ _ _ ?_⟩
    conv => whnf
    refine ⟨h1, ?_⟩
    conv => whnf
    refine ⟨h2 _, fun c => ?_, fun c => ?_⟩
    · have c : ¬ σ 2 i.toNat = 0 := c
      conv => whnf
      exact ⟨Or.inl rfl, by rw [if_neg c], rfl⟩
    · have c : σ 2 i.toNat = 0 := Classical.not_not.mp c
      conv => whnf
      exact ⟨Or.inr rfl, by rw [if_pos c], rfl⟩
theorem vX0_markedObjects : VX0_markedObjects := by
  intro g σ as h
  match as, h with
  | [q], h =>
    obtain ⟨hq, hr⟩ := h
    refine ⟨Nat.le_of_ble_eq_true rfl, fun K hK => ?_⟩
    have loop : ∀ (k i : Nat) (j c : Int), j = i → i + k = 16 → c + m_sum (fun k => if σ 5 k = 0 then 0 else 1) k (16 * q.toNat + i) = m_sum (fun k => if σ 5 k = 0 then 0 else 1) 16 (16 * q.toNat) → K σ 4 [some (.inr 0), some (.inl q), some (.inl c), some (.inl j)] [] := by
      intro k
      induction k with
      | zero =>
        intro i j c hj hi hc
        refine hK [] 20 _ _ _ _ ?_
        conv => whnf
        refine ⟨⟨rgI (by omega) (by omega), rg_c _ rfl⟩, fun c1 => ?_, fun c1 => ?_⟩
        · conv => whnf
          exact ⟨by simpa [m_sum] using hc, rfl⟩
        · exact absurd (show (16 : Int) ≤ j by omega) c1
      | succ k ih =>
        intro i j c hj hi hc
        refine hK [4] 20 _ _ _ _ ?_
        conv => whnf
        refine ⟨⟨rgI (by omega) (by omega), rg_c _ rfl⟩, fun c1 => ?_, fun c1 => ?_⟩
        · exact absurd (show (16 : Int) ≤ j from c1) (by omega)
        · conv => whnf
          refine ⟨⟨by omega, by omega⟩, ?_⟩
          conv => whnf
          have e : (q * 16 + j).toNat = 16 * q.toNat + i := by omega
          refine ⟨hr _, fun c2 => ?_, fun c2 => ?_⟩
          · have c2 : σ 5 (q * 16 + j).toNat = 0 := c2
            conv => whnf
            refine ih (i + 1) (j + 1) c (by omega) (by omega) ?_
            rw [← hc, m_sum, ← e, if_pos c2, e]
            simp [Nat.add_assoc]
          · have c2 : ¬ σ 5 (q * 16 + j).toNat = 0 := c2
            conv => whnf
            refine ih (i + 1) (j + 1) (c + 1) (by omega) (by omega) ?_
            rw [← hc, m_sum, ← e, if_neg c2, e]
            simp [Nat.add_assoc, Int.add_assoc]
    refine hK [4] 20 _ _ _ _ ?_
    conv => whnf
    exact loop 16 0 0 0 rfl rfl (by simp)

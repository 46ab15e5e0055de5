/-! more runs of the class's leaves -/
theorem fst_ge {f : Nat → Bool} : ∀ n i, i ≤ m_fst f n i
  | 0, i => Nat.le_refl i
  | n + 1, i => by
    unfold m_fst
    cases f i with
    | true => exact Nat.le_refl i
    | false => exact Nat.le_trans (Nat.le_succ i) (fst_ge n (i + 1))
theorem fst_le {f : Nat → Bool} : ∀ n i, m_fst f n i ≤ i + n
  | 0, i => Nat.le_refl i
  | n + 1, i => by
    unfold m_fst
    cases f i with
    | true => exact Nat.le_add_right i _
    | false =>
      have := fst_le (f := f) n (i + 1)
      show m_fst f n (i + 1) ≤ _
      omega
theorem fst_true {f : Nat → Bool} : ∀ n i, m_fst f n i < i + n → f (m_fst f n i) = true
  | 0, i, h => absurd h (Nat.lt_irrefl i)
  | n + 1, i, h => by
    unfold m_fst at h ⊢
    cases hf : f i with
    | true => exact hf
    | false =>
      rw [hf] at h
      exact fst_true n (i + 1) (by simp only [cond_false] at h; omega)
theorem fst_no {f : Nat → Bool} : ∀ n i j, i ≤ j → j < m_fst f n i → f j = false
  | 0, i, j, h, h2 => absurd h2 (by unfold m_fst; omega)
  | n + 1, i, j, h, h2 => by
    unfold m_fst at h2
    cases hf : f i with
    | true => rw [hf] at h2; simp only [cond_true] at h2; omega
    | false =>
      rw [hf] at h2
      simp only [cond_false] at h2
      by_cases e : i = j
      · rw [← e]; exact hf
      · exact fst_no n (i + 1) j (by omega) h2
theorem vX0_place : VX0_place := by
  intro g σ as h
  match as, h with
  | [r], h =>
    obtain ⟨h1, h2⟩ := h
    refine ⟨Nat.le_of_ble_eq_true rfl, fun K hK => hK [] 30 _ _ _ _ ?_⟩
    conv => whnf
    refine ⟨g, h1, fun y τ hp => ?_⟩
    obtain ⟨rfl, rfl⟩ := hp
    conv => whnf
    by_cases hr : m_root r
    · rw [if_pos hr]
      refine ⟨(rg_c _ rfl), fun c => ?_, fun c => ?_⟩
      · conv => whnf
        refine ⟨g, ⟨⟨by omega, by omega⟩, h2⟩, fun y τ hp => ?_⟩
        obtain ⟨rfl, rfl⟩ := hp
        have e : (128 + r).toNat = 128 + r.toNat := by omega
        by_cases hc : τ 2 (128 + r.toNat) = 0
        · rw [e, if_pos hc]
          conv => whnf
          refine ⟨(rg_c _ rfl), fun c => ?_, fun c => ?_⟩
          · exact absurd (show (1 : Int) = 0 from c) (by decide)
          · conv => whnf
            exact ⟨by rw [if_neg (fun q => q hr), if_pos hc], rfl⟩
        · rw [e, if_neg hc]
          conv => whnf
          refine ⟨(rg_c _ rfl), fun c => ?_, fun c => ?_⟩
          · conv => whnf
            refine ⟨⟨by omega, by omega⟩, ?_⟩
            conv => whnf
            exact ⟨by rw [if_neg (fun q => q hr), if_neg hc, e], rfl⟩
          · exact absurd (show (0 : Int) = 0 from rfl) c
      · exact absurd (show ¬ (1 : Int) = 0 by decide) c
    · rw [if_neg hr]
      refine ⟨(rg_c _ rfl), fun c => ?_, fun c => ?_⟩
      · exact absurd rfl c
      · conv => whnf
        exact ⟨by rw [if_pos hr], rfl⟩
theorem vX0_copySlot : VX0_copySlot := by
  intro g σ as h
  match as, h with
  | [a, b], h =>
    obtain ⟨h1, h2⟩ := h
    refine ⟨Nat.le_of_ble_eq_true rfl, fun K hK => hK [] 30 _ _ _ _ ?_⟩
    conv => whnf
    refine ⟨h1, ?_⟩
    conv => whnf
    refine ⟨h2, ?_⟩
    conv => whnf
    refine ⟨h1, ?_⟩
    conv => whnf
    refine ⟨h2, ?_⟩
    conv => whnf
    rfl
theorem vX0_goodColour : VX0_goodColour := by
  intro g σ as h
  match as, h with
  | [], h =>
    obtain ⟨h1, h2⟩ := h
    refine ⟨Nat.le_of_ble_eq_true rfl, fun K hK => hK [] 30 _ _ _ _ ?_⟩
    conv => whnf
    refine ⟨⟨(rgI (by omega) (by omega)), (rg_c _ rfl)⟩, fun c => ?_, fun c => ?_⟩
    · have c : σ 0 13 = 1 := c
      conv => whnf
      refine ⟨⟨h2, rfl⟩, ?_⟩
      conv => whnf
      refine ⟨⟨(rgI (by omega) (by omega)), (rg_c _ rfl)⟩, fun c2 => ?_, fun c2 => ?_⟩
      · have c2 : ¬ σ 0 16 % 2 = 1 := c2
        conv => whnf
        exact ⟨by rw [if_pos c, if_neg c2], rfl⟩
      · have c2 : σ 0 16 % 2 = 1 := Classical.not_not.mp c2
        conv => whnf
        exact ⟨by rw [if_pos c, if_pos c2], rfl⟩
    · have c : ¬ σ 0 13 = 1 := c
      conv => whnf
      exact ⟨by rw [if_neg c], rfl⟩
theorem vX0_pageState : VX0_pageState := by
  intro g σ as h
  match as, h with
  | [q], h =>
    obtain ⟨h1, h2, h3, h4⟩ := h
    refine ⟨Nat.le_of_ble_eq_true rfl, fun K hK => hK [] 30 _ _ _ _ ?_⟩
    conv => whnf
    refine ⟨h1, ?_⟩
    conv => whnf
    refine ⟨h2, fun c => ?_, fun c => ?_⟩
    · have c : ¬ σ 8 q.toNat = 0 := c
      conv => whnf
      refine ⟨⟨(rgI (by omega) (by omega)), h3⟩, fun c2 => ?_, fun c2 => ?_⟩
      · have c2 : ¬ q = σ 0 12 := c2
        conv => whnf
        refine ⟨h1, ?_⟩
        conv => whnf
        refine ⟨h4, fun c3 => ?_, fun c3 => ?_⟩
        · have c3 : σ 10 q.toNat = 0 := c3
          conv => whnf
          exact ⟨by rw [if_neg c, if_neg c2, if_pos c3], rfl⟩
        · have c3 : ¬ σ 10 q.toNat = 0 := c3
          conv => whnf
          exact ⟨by rw [if_neg c, if_neg c2, if_neg c3], rfl⟩
      · have c2 : q = σ 0 12 := Classical.not_not.mp c2
        conv => whnf
        exact ⟨by rw [if_neg c, if_pos c2], rfl⟩
    · have c : σ 8 q.toNat = 0 := Classical.not_not.mp c
      conv => whnf
      exact ⟨by rw [if_pos c], rfl⟩
theorem vX0_forwardings : VX0_forwardings := by
  intro g σ as h
  match as, h with
  | [q], h =>
    obtain ⟨hq, hr⟩ := h
    refine ⟨Nat.le_of_ble_eq_true rfl, fun K hK => ?_⟩
    have loop : ∀ (k i : Nat) (j c : Int), j = i → i + k = 16 → c + m_sum (fun k => if σ 6 k = -1 then 0 else 1) k (16 * q.toNat + i) = m_sum (fun k => if σ 6 k = -1 then 0 else 1) 16 (16 * q.toNat) → K σ 4 [some (.inr 0), some (.inl q), some (.inl c), some (.inl j)] [] := by
      intro k
      induction k with
      | zero =>
        intro i j c hj hi hc
        refine hK [] 20 _ _ _ _ ?_
        conv => whnf
        refine ⟨⟨(rgI (by omega) (by omega)), (rg_c _ rfl)⟩, fun c1 => ?_, fun c1 => ?_⟩
        · conv => whnf
          exact ⟨by simpa [m_sum] using hc, rfl⟩
        · exact absurd (show (16 : Int) ≤ j by omega) c1
      | succ k ih =>
        intro i j c hj hi hc
        refine hK [4] 20 _ _ _ _ ?_
        conv => whnf
        refine ⟨⟨(rgI (by omega) (by omega)), (rg_c _ rfl)⟩, fun c1 => ?_, fun c1 => ?_⟩
        · exact absurd (show (16 : Int) ≤ j from c1) (by omega)
        · conv => whnf
          refine ⟨⟨by omega, by omega⟩, ?_⟩
          conv => whnf
          have e : (q * 16 + j).toNat = 16 * q.toNat + i := by omega
          refine ⟨⟨hr _, (rg_c _ rfl)⟩, fun c2 => ?_, fun c2 => ?_⟩
          · have c2 : σ 6 (q * 16 + j).toNat = -1 := c2
            conv => whnf
            refine ih (i + 1) (j + 1) c (by omega) (by omega) ?_
            rw [← hc, m_sum, ← e, if_pos c2, e]
            simp [Nat.add_assoc]
          · have c2 : ¬ σ 6 (q * 16 + j).toNat = -1 := c2
            conv => whnf
            refine ih (i + 1) (j + 1) (c + 1) (by omega) (by omega) ?_
            rw [← hc, m_sum, ← e, if_neg c2, e]
            simp [Nat.add_assoc, Int.add_assoc]
    refine hK [4] 20 _ _ _ _ ?_
    conv => whnf
    exact loop 16 0 0 0 rfl rfl (by simp)
theorem vX0_leastFreePage : VX0_leastFreePage := by
  intro g σ as h
  match as, h with
  | [], h =>
    refine ⟨Nat.le_of_ble_eq_true rfl, fun K hK => ?_⟩
    have loop : ∀ (k i : Nat) (j : Int), j = i → i + k = 8 → m_fst (fun p => decide (σ 8 p = 0)) k i = m_fst (fun p => decide (σ 8 p = 0)) 8 0 → K σ 2 [some (.inr 0), some (.inl j)] [] := by
      intro k
      induction k with
      | zero =>
        intro i j hj hi hc
        refine hK [] 20 _ _ _ _ ?_
        conv => whnf
        refine ⟨⟨(rgI (by omega) (by omega)), (rg_c _ rfl)⟩, fun c1 => ?_, fun c1 => ?_⟩
        · conv => whnf
          refine ⟨?_, rfl⟩
          rw [← hc, m_fst, if_pos (by omega)]
        · exact absurd (show (8 : Int) ≤ j by omega) c1
      | succ k ih =>
        intro i j hj hi hc
        refine hK [2] 20 _ _ _ _ ?_
        conv => whnf
        refine ⟨⟨(rgI (by omega) (by omega)), (rg_c _ rfl)⟩, fun c1 => ?_, fun c1 => ?_⟩
        · exact absurd (show (8 : Int) ≤ j from c1) (by omega)
        · conv => whnf
          refine ⟨⟨by omega, by omega⟩, ?_⟩
          conv => whnf
          have e : j.toNat = i := by omega
          refine ⟨h _, fun c2 => ?_, fun c2 => ?_⟩
          · have c2 : ¬ σ 8 j.toNat = 0 := c2
            rw [e] at c2
            conv => whnf
            refine ih (i + 1) (j + 1) (by omega) (by omega) ?_
            rw [← hc]
            conv => rhs; unfold m_fst
            rw [decide_eq_false c2]
            rfl
          · have c2 : σ 8 j.toNat = 0 := Classical.not_not.mp c2
            rw [e] at c2
            conv => whnf
            have e2 : m_fst (fun p => decide (σ 8 p = 0)) (k + 1) i = i := by
              unfold m_fst
              rw [decide_eq_true c2]
              rfl
            refine ⟨?_, rfl⟩
            rw [← hc, e2, if_neg (by omega), hj]
    refine hK [2] 20 _ _ _ _ ?_
    conv => whnf
    exact loop 8 0 0 rfl rfl rfl
theorem vX0_leastPageOfSet : VX0_leastPageOfSet := by
  intro g σ as h
  match as, h with
  | [], h =>
    refine ⟨Nat.le_of_ble_eq_true rfl, fun K hK => ?_⟩
    have hr : ∀ j, rg (σ 10 j) := fun j => by
      rcases h j with q | q <;> rw [q] <;> exact (rg_c _ rfl)
    have loop : ∀ (k i : Nat) (j : Int), j = i → i + k = 8 → m_fst (fun p => decide (σ 10 p = 1)) k i = m_fst (fun p => decide (σ 10 p = 1)) 8 0 → K σ 2 [some (.inr 0), some (.inl j)] [] := by
      intro k
      induction k with
      | zero =>
        intro i j hj hi hc
        refine hK [] 20 _ _ _ _ ?_
        conv => whnf
        refine ⟨⟨(rgI (by omega) (by omega)), (rg_c _ rfl)⟩, fun c1 => ?_, fun c1 => ?_⟩
        · conv => whnf
          refine ⟨?_, rfl⟩
          rw [← hc, m_fst, if_pos (by omega)]
        · exact absurd (show (8 : Int) ≤ j by omega) c1
      | succ k ih =>
        intro i j hj hi hc
        refine hK [2] 20 _ _ _ _ ?_
        conv => whnf
        refine ⟨⟨(rgI (by omega) (by omega)), (rg_c _ rfl)⟩, fun c1 => ?_, fun c1 => ?_⟩
        · exact absurd (show (8 : Int) ≤ j from c1) (by omega)
        · conv => whnf
          refine ⟨⟨by omega, by omega⟩, ?_⟩
          conv => whnf
          have e : j.toNat = i := by omega
          refine ⟨hr _, fun c2 => ?_, fun c2 => ?_⟩
          · have c2 : σ 10 j.toNat = 0 := c2
            rw [e] at c2
            conv => whnf
            refine ih (i + 1) (j + 1) (by omega) (by omega) ?_
            rw [← hc]
            conv => rhs; unfold m_fst
            rw [decide_eq_false (by omega)]
            rfl
          · have c2 : ¬ σ 10 j.toNat = 0 := c2
            rw [e] at c2
            have c3 : σ 10 i = 1 := (h i).resolve_left c2
            conv => whnf
            have e2 : m_fst (fun p => decide (σ 10 p = 1)) (k + 1) i = i := by
              unfold m_fst
              rw [decide_eq_true c3]
              rfl
            refine ⟨?_, rfl⟩
            rw [← hc, e2, if_neg (by omega), hj]
    refine hK [2] 20 _ _ _ _ ?_
    conv => whnf
    exact loop 8 0 0 rfl rfl rfl
theorem vX0_leastMarkedPlace : VX0_leastMarkedPlace := by
  intro g σ as h
  match as, h with
  | [q], h =>
    obtain ⟨hq, h⟩ := h
    refine ⟨Nat.le_of_ble_eq_true rfl, fun K hK => ?_⟩
    have hr : ∀ j, rg (σ 5 j) := fun j => by
      rcases h j with q | q <;> rw [q] <;> exact (rg_c _ rfl)
    have loop : ∀ (k i : Nat) (j : Int), j = i → i + k = 16 → m_fst (fun p => decide (σ 5 p = 1)) k (16 * q.toNat + i) = m_fst (fun p => decide (σ 5 p = 1)) 16 (16 * q.toNat) → K σ 2 [some (.inr 0), some (.inl q), some (.inl j)] [] := by
      intro k
      induction k with
      | zero =>
        intro i j hj hi hc
        refine hK [] 20 _ _ _ _ ?_
        conv => whnf
        refine ⟨⟨(rgI (by omega) (by omega)), (rg_c _ rfl)⟩, fun c1 => ?_, fun c1 => ?_⟩
        · conv => whnf
          refine ⟨?_, rfl⟩
          rw [← hc, m_fst, if_pos (by omega)]
        · exact absurd (show (16 : Int) ≤ j by omega) c1
      | succ k ih =>
        intro i j hj hi hc
        refine hK [2] 20 _ _ _ _ ?_
        conv => whnf
        refine ⟨⟨(rgI (by omega) (by omega)), (rg_c _ rfl)⟩, fun c1 => ?_, fun c1 => ?_⟩
        · exact absurd (show (16 : Int) ≤ j from c1) (by omega)
        · conv => whnf
          refine ⟨⟨by omega, by omega⟩, ?_⟩
          conv => whnf
          have e : (q * 16 + j).toNat = 16 * q.toNat + i := by omega
          refine ⟨hr _, fun c2 => ?_, fun c2 => ?_⟩
          · have c2 : σ 5 (q * 16 + j).toNat = 0 := c2
            rw [e] at c2
            conv => whnf
            refine ih (i + 1) (j + 1) (by omega) (by omega) ?_
            rw [← hc]
            conv => rhs; unfold m_fst
            rw [decide_eq_false (by omega)]
            rfl
          · have c2 : ¬ σ 5 (q * 16 + j).toNat = 0 := c2
            rw [e] at c2
            have c3 : σ 5 (16 * q.toNat + i) = 1 := (h _).resolve_left c2
            conv => whnf
            have e2 : m_fst (fun p => decide (σ 5 p = 1)) (k + 1) (16 * q.toNat + i) = 16 * q.toNat + i := by
              unfold m_fst
              rw [decide_eq_true c3]
              rfl
            refine ⟨?_, rfl⟩
            rw [← hc, e2, if_neg (by omega)]
            omega
    refine hK [2] 20 _ _ _ _ ?_
    conv => whnf
    exact loop 16 0 0 rfl rfl rfl
theorem vX0_liveWords : VX0_liveWords := by
  intro g σ as h
  match as, h with
  | [q], h =>
    obtain ⟨hq, hr⟩ := h
    refine ⟨Nat.le_of_ble_eq_true rfl, fun K hK => ?_⟩
    have loop : ∀ (k i : Nat) (j c : Int) (z : Option AV), j = i → i + k = 16 → c + m_sum (fun k => if σ 5 k = 0 then 0 else σ 4 k + 1) k (16 * q.toNat + i) = m_sum (fun k => if σ 5 k = 0 then 0 else σ 4 k + 1) 16 (16 * q.toNat) → K σ 4 [some (.inr 0), some (.inl q), some (.inl c), some (.inl j), z] [] := by
      intro k
      induction k with
      | zero =>
        intro i j c z hj hi hc
        refine hK [] 20 _ _ _ _ ?_
        conv => whnf
        refine ⟨⟨(rgI (by omega) (by omega)), (rg_c _ rfl)⟩, fun c1 => ?_, fun c1 => ?_⟩
        · conv => whnf
          exact ⟨by simpa [m_sum] using hc, rfl⟩
        · exact absurd (show (16 : Int) ≤ j by omega) c1
      | succ k ih =>
        intro i j c z hj hi hc
        refine hK [4] 30 _ _ _ _ ?_
        conv => whnf
        refine ⟨⟨(rgI (by omega) (by omega)), (rg_c _ rfl)⟩, fun c1 => ?_, fun c1 => ?_⟩
        · exact absurd (show (16 : Int) ≤ j from c1) (by omega)
        · conv => whnf
          refine ⟨⟨by omega, by omega⟩, ?_⟩
          conv => whnf
          have e : (q * 16 + j).toNat = 16 * q.toNat + i := by omega
          refine ⟨hr _, fun c2 => ?_, fun c2 => ?_⟩
          · have c2 : σ 5 (q * 16 + j).toNat = 0 := c2
            conv => whnf
            refine ih (i + 1) (j + 1) c _ (by omega) (by omega) ?_
            rw [← hc, m_sum, ← e, if_pos c2, e]
            simp [Nat.add_assoc]
          · have c2 : ¬ σ 5 (q * 16 + j).toNat = 0 := c2
            conv => whnf
            refine ⟨⟨by omega, by omega⟩, ?_⟩
            conv => whnf
            refine ih (i + 1) (j + 1) (c + (σ 4 (q * 16 + j).toNat + 1)) _ (by omega) (by omega) ?_
            rw [← hc, m_sum, ← e, if_neg c2, e]
            simp [Nat.add_assoc, Int.add_assoc]
    refine hK [4] 20 _ _ _ _ ?_
    conv => whnf
    exact loop 16 0 0 0 _ rfl rfl (by simp)
theorem vX0_becomeFree : VX0_becomeFree := by
  intro g σ as h
  match as, h with
  | [q], h =>
    refine ⟨Nat.le_of_ble_eq_true rfl, fun K hK => hK [] 30 _ _ _ _ ?_⟩
    conv => whnf
    refine ⟨h, ?_⟩
    conv => whnf
    refine ⟨⟨h, Or.inl rfl⟩, ?_⟩
    conv => whnf
    refine ⟨⟨h, Or.inl rfl⟩, ?_⟩
    conv => whnf

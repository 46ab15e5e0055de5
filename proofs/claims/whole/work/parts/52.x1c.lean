/-! runs of the reference: roots, fields, the collector's parts -/
theorem vX1_healRoots : VX1_healRoots := by
  intro g σ as h
  match as, h with
  | [], h =>
    have hc : Hc σ 384 6 := h
    refine ⟨Nat.le_of_ble_eq_true rfl, fun K hK => ?_⟩
    have loop : ∀ (k m : Nat) (j : Int), j = m → m + k = 6 → K (m_heals σ 384 m) 2 [some (.inr 0), some (.inl j)] [] := by
      intro k
      induction k with
      | zero =>
        intro m j hj hm
        refine hK [] 20 _ _ _ _ ?_
        conv => whnf
        refine ⟨⟨(rgI (by omega) (by omega)), (rg_c _ rfl)⟩, fun c1 => ?_, fun c1 => ?_⟩
        · conv => whnf
          show _ = m_heals σ 384 6
          rw [show m = 6 by omega]
        · exact absurd (show (6 : Int) ≤ j by omega) c1
      | succ k ih =>
        intro m j hj hm
        refine hK [2] 20 _ _ _ _ ?_
        conv => whnf
        refine ⟨⟨(rgI (by omega) (by omega)), (rg_c _ rfl)⟩, fun c1 => ?_, fun c1 => ?_⟩
        · exact absurd (show (6 : Int) ≤ j from c1) (by omega)
        · conv => whnf
          refine ⟨g, trivial, fun y τ hp => ?_⟩
          obtain ⟨rfl, rfl⟩ := hp
          conv => whnf
          obtain ⟨w, hr⟩ := hc m (by omega)
          have e : (384 + j).toNat = 384 + m := by omega
          refine ⟨g, ⟨w, ⟨by omega, by omega⟩, by rw [e]; exact hr⟩, fun y τ hp => ?_⟩
          have hp : τ = m_heal (m_heals σ 384 m) (384 + j).toNat := hp
          rw [e] at hp
          subst hp
          conv => whnf
          exact ih (m + 1) (j + 1) (by omega) (by omega)
    refine hK [2] 20 _ _ _ _ ?_
    conv => whnf
    exact loop 6 0 0 rfl rfl
theorem ti_sz {M : Mo} (h : TI M) (p : Nat) : 0 ≤ M 2 p ∧ M 2 p ≤ 3 := h.1.2.1 p
theorem ti_pl {M : Mo} (h : TI M) (s : Nat) : 0 ≤ M 6 s ∧ M 6 s < 128 := h.1.2.2.2.2.1 s
theorem ti_co {M : Mo} (h : TI M) (s : Nat) : 0 ≤ M 7 s ∧ M 7 s ≤ 3 := h.1.2.2.2.2.2 s
theorem vX1_field : VX1_field := by
  intro g σ as h
  match as, h with
  | [r, f], h =>
    obtain ⟨ht, hr, hf⟩ := h
    refine ⟨Nat.le_of_ble_eq_true rfl, fun K hK => ?_⟩
    refine hK [] 60 _ _ _ _ ?_
    conv => whnf
    refine ⟨g, hr, fun y τ hp => ?_⟩
    obtain ⟨rfl, rfl⟩ := hp
    conv => whnf
    by_cases hm : m_root r
    · rw [if_pos hm]
      refine ⟨(rg_c _ rfl), fun c => ?_, fun c => ?_⟩
      · conv => whnf
        refine ⟨g, ⟨hm, fun j => rgI (by have := ti_co ht j; omega) (by have := ti_co ht j; omega)⟩, fun y τ hp => ?_⟩
        obtain ⟨rfl, rfl⟩ := hp
        conv => whnf
        by_cases hc : τ 7 (m_rs r) = 0
        · rw [if_pos hc]
          refine ⟨(rg_c _ rfl), fun c => ?_, fun c => ?_⟩
          · exact absurd rfl c
          · conv => whnf
            refine ⟨?_, rfl⟩
            unfold m_field
            rw [if_neg (fun q => q hm), if_pos hc]
        · rw [if_neg hc]
          refine ⟨(rg_c _ rfl), fun c => ?_, fun c => ?_⟩
          · conv => whnf
            refine ⟨g, trivial, fun y τ hp => ?_⟩
            obtain ⟨rfl, rfl⟩ := hp
            conv => whnf
            refine ⟨⟨by omega, by omega⟩, ?_⟩
            conv => whnf
            have e : (384 + r).toNat = m_rs r := by show _ = 384 + r.toNat; omega
            have hp := ti_pl ht (m_rs r)
            have hz := ti_sz ht (τ 6 (m_rs r)).toNat
            refine ⟨hf, fun c2 => ?_, fun c2 => ?_⟩
            · have c2 : f < 0 := c2
              conv => whnf
              refine ⟨?_, rfl⟩
              unfold m_field
              rw [if_neg (fun q => q hm), if_neg hc, if_pos (Or.inl c2)]
            · have c2 : ¬ f < 0 := c2
              conv => whnf
              refine ⟨⟨by rw [e]; omega, by rw [e]; omega⟩, ?_⟩
              conv => whnf
              refine ⟨⟨hf, rgI (by rw [e]; omega) (by rw [e]; omega)⟩, fun c3 => ?_, fun c3 => ?_⟩
              · have c3 : f < τ 2 (τ 6 (384 + r).toNat).toNat := c3
                rw [e] at c3
                conv => whnf
                refine ⟨?_, rfl⟩
                unfold m_field
                rw [if_neg (fun q => q hm), if_neg hc, if_neg (by omega), e]
              · have c3 : ¬ f < τ 2 (τ 6 (384 + r).toNat).toNat := c3
                rw [e] at c3
                conv => whnf
                refine ⟨?_, rfl⟩
                unfold m_field
                rw [if_neg (fun q => q hm), if_neg hc, if_pos (Or.inr (by omega))]
          · exact absurd (show ¬ (1 : Int) = 0 by decide) c
      · exact absurd (show ¬ (1 : Int) = 0 by decide) c
    · rw [if_neg hm]
      refine ⟨(rg_c _ rfl), fun c => ?_, fun c => ?_⟩
      · exact absurd rfl c
      · conv => whnf
        refine ⟨?_, rfl⟩
        unfold m_field
        rw [if_pos hm]
theorem vX1_leastInSet : VX1_leastInSet := by
  intro g σ as h
  match as, h with
  | [], h =>
    refine ⟨Nat.le_of_ble_eq_true rfl, fun K hK => ?_⟩
    have hl := inSet_le σ
    have at23 : K σ 23 [some (.inr 0), some (.inl (m_inSet σ : Int))] [] := by
      refine hK [] 20 _ _ _ _ ?_
      conv => whnf
      refine ⟨⟨(rgI (by omega) (by omega)), (rg_c _ rfl)⟩, fun c => ?_, fun c => ?_⟩
      · have c : ¬ ((m_inSet σ : Nat) : Int) = 8 := c
        conv => whnf
        exact ⟨by rw [if_neg (by omega)], rfl⟩
      · have c : ((m_inSet σ : Nat) : Int) = 8 := Classical.not_not.mp c
        conv => whnf
        exact ⟨by rw [if_pos (by omega)], rfl⟩
    have loop : ∀ (k i : Nat) (j : Int), j = i → i + k = 8 → m_fst (fun p => decide (σ 11 p = 1)) k i = m_inSet σ → K σ 2 [some (.inr 0), some (.inl j)] [] := by
      intro k
      induction k with
      | zero =>
        intro i j hj hi hc
        refine hK [23] 20 _ _ _ _ ?_
        conv => whnf
        refine ⟨⟨(rgI (by omega) (by omega)), (rg_c _ rfl)⟩, fun c1 => ?_, fun c1 => ?_⟩
        · conv => whnf
          rw [← hc] at at23
          rw [hj]
          exact at23
        · exact absurd (show (8 : Int) ≤ j by omega) c1
      | succ k ih =>
        intro i j hj hi hc
        refine hK [2, 23] 20 _ _ _ _ ?_
        conv => whnf
        refine ⟨⟨(rgI (by omega) (by omega)), (rg_c _ rfl)⟩, fun c1 => ?_, fun c1 => ?_⟩
        · exact absurd (show (8 : Int) ≤ j from c1) (by omega)
        · conv => whnf
          refine ⟨⟨by omega, by omega⟩, ?_⟩
          conv => whnf
          have e : j.toNat = i := by omega
          have hb := h i
          refine ⟨rgI (by rw [e]; omega) (by rw [e]; omega), fun c2 => ?_, fun c2 => ?_⟩
          · have c2 : ¬ σ 11 j.toNat = 0 := c2
            rw [e] at c2
            conv => whnf
            have e2 : m_fst (fun p => decide (σ 11 p = 1)) (k + 1) i = i := by
              unfold m_fst
              rw [decide_eq_true (by omega)]
              rfl
            rw [← hc, e2] at at23
            rw [hj]
            exact at23
          · have c2 : σ 11 j.toNat = 0 := Classical.not_not.mp c2
            rw [e] at c2
            conv => whnf
            refine ih (i + 1) (j + 1) (by omega) (by omega) ?_
            rw [← hc]
            conv => rhs; unfold m_fst
            rw [decide_eq_false (by omega)]
            rfl
    refine hK [2] 20 _ _ _ _ ?_
    conv => whnf
    exact loop 8 0 0 rfl rfl rfl
theorem vX1_markedIn : VX1_markedIn := by
  intro g σ as h
  match as, h with
  | [q, b], h =>
    obtain ⟨hq, hb, h1, h4⟩ := h
    refine ⟨Nat.le_of_ble_eq_true rfl, fun K hK => ?_⟩
    have tot : (if b = 1 then m_live σ q.toNat else m_markedIn σ q.toNat) = m_sum (fun k => if σ 1 k = 1 ∧ σ 4 k = 1 then (if b = 1 then σ 2 k + 1 else 1) else 0) 16 (16 * q.toNat) := by
      rcases hb with rfl | rfl
      · rw [if_neg (by decide)]; rfl
      · rw [if_pos rfl]; rfl
    have loop : ∀ (k i : Nat) (j c : Int), j = 16 * q + i → i + k = 16 → c + m_sum (fun k => if σ 1 k = 1 ∧ σ 4 k = 1 then (if b = 1 then σ 2 k + 1 else 1) else 0) k (16 * q.toNat + i) = m_sum (fun k => if σ 1 k = 1 ∧ σ 4 k = 1 then (if b = 1 then σ 2 k + 1 else 1) else 0) 16 (16 * q.toNat) → K σ 8 [some (.inr 0), some (.inl q), some (.inl b), some (.inl c), some (.inl j)] [] := by
      intro k
      induction k with
      | zero =>
        intro i j c hj hi hc
        refine hK [] 20 _ _ _ _ ?_
        conv => whnf
        refine ⟨⟨(rgI (by omega) (by omega)), (rgI (by omega) (by omega))⟩, fun c1 => ?_, fun c1 => ?_⟩
        · conv => whnf
          exact ⟨by rw [tot, ← hc]; simp [m_sum], rfl⟩
        · exact absurd (show (16 : Int) * q + 16 ≤ j by omega) c1
      | succ k ih =>
        intro i j c hj hi hc
        refine hK [8] 40 _ _ _ _ ?_
        conv => whnf
        refine ⟨⟨(rgI (by omega) (by omega)), (rgI (by omega) (by omega))⟩, fun c1 => ?_, fun c1 => ?_⟩
        · exact absurd (show (16 : Int) * q + 16 ≤ j from c1) (by omega)
        · conv => whnf
          refine ⟨⟨by omega, by omega⟩, ?_⟩
          conv => whnf
          have e : j.toNat = 16 * q.toNat + i := by omega
          have b1 := h1 (16 * q.toNat + i)
          have b4 := h4 (16 * q.toNat + i)
          have skip : ¬ (σ 1 (16 * q.toNat + i) = 1 ∧ σ 4 (16 * q.toNat + i) = 1) → c + m_sum (fun k => if σ 1 k = 1 ∧ σ 4 k = 1 then (if b = 1 then σ 2 k + 1 else 1) else 0) k (16 * q.toNat + (i + 1)) = m_sum (fun k => if σ 1 k = 1 ∧ σ 4 k = 1 then (if b = 1 then σ 2 k + 1 else 1) else 0) 16 (16 * q.toNat) := by
            intro hn
            rw [← hc, m_sum, if_neg hn]
            simp [Nat.add_assoc]
          refine ⟨rgI (by rw [e]; omega) (by rw [e]; omega), fun c2 => ?_, fun c2 => ?_⟩
          · have c2 : σ 1 j.toNat = 0 := c2
            rw [e] at c2
            conv => whnf
            exact ih (i + 1) (j + 1) c (by omega) (by omega) (skip (fun z => by omega))
          · have c2 : ¬ σ 1 j.toNat = 0 := c2
            rw [e] at c2
            conv => whnf
            refine ⟨⟨by omega, by omega⟩, ?_⟩
            conv => whnf
            refine ⟨rgI (by rw [e]; omega) (by rw [e]; omega), fun c3 => ?_, fun c3 => ?_⟩
            · have c3 : σ 4 j.toNat = 0 := c3
              rw [e] at c3
              conv => whnf
              exact ih (i + 1) (j + 1) c (by omega) (by omega) (skip (fun z => by omega))
            · have c3 : ¬ σ 4 j.toNat = 0 := c3
              rw [e] at c3
              have hy : σ 1 (16 * q.toNat + i) = 1 ∧ σ 4 (16 * q.toNat + i) = 1 := by omega
              conv => whnf
              refine ⟨rgI (by omega) (by omega), fun c4 => ?_, fun c4 => ?_⟩
              · have c4 : b = 0 := c4
                conv => whnf
                refine ih (i + 1) (j + 1) (c + 1) (by omega) (by omega) ?_
                rw [← hc, m_sum, if_pos hy, if_neg (by omega)]
                simp [Nat.add_assoc, Int.add_assoc]
              · have c4 : ¬ b = 0 := c4
                conv => whnf
                refine ⟨⟨by omega, by omega⟩, ?_⟩
                conv => whnf
                refine ih (i + 1) (j + 1) (c + (σ 2 j.toNat + 1)) (by omega) (by omega) ?_
                rw [← hc, m_sum, if_pos hy, if_pos (by omega), e]
                simp [Nat.add_assoc, Int.add_assoc]
    refine hK [8] 20 _ _ _ _ ?_
    conv => whnf
    exact loop 16 0 (16 * q) 0 (by omega) rfl (by simp)
theorem vX1_begin : VX1_begin := by
  intro g σ as h
  match as, h with
  | [], h =>
    obtain ⟨ht, hc⟩ := h
    refine ⟨Nat.le_of_ble_eq_true rfl, fun K hK => ?_⟩
    obtain ⟨Y, hY⟩ : ∃ Y, Y = mu (mu σ 0 14 (σ 0 14 + 1)) 0 13 1 := ⟨_, rfl⟩
    have loop2 : ∀ (k i : Nat) (j : Int), j = i → i + k = 8 → K (m_fill (m_fill Y 4 128 (fun _ => 0)) 10 i (σ 8)) 39 [some (.inr 0), some (.inl j)] [] := by
      intro k
      induction k with
      | zero =>
        intro i j hj hi
        refine hK [] 20 _ _ _ _ ?_
        conv => whnf
        refine ⟨⟨(rgI (by omega) (by omega)), (rg_c _ rfl)⟩, fun c1 => ?_, fun c1 => ?_⟩
        · conv => whnf
          have e : mu (m_fill (m_fill Y 4 128 (fun _ => 0)) 10 i (σ 8)) 0 12 (-1) = m_begin0 σ := by
            unfold m_begin0
            rw [← hY, show i = 8 by omega]
          rw [e]
          refine ⟨g, hc, fun y τ hp => ?_⟩
          have hp : τ = m_heals (m_begin0 σ) 384 6 := hp
          subst hp
          conv => whnf
        · exact absurd (show (8 : Int) ≤ j by omega) c1
      | succ k ih =>
        intro i j hj hi
        refine hK [39] 20 _ _ _ _ ?_
        conv => whnf
        refine ⟨⟨(rgI (by omega) (by omega)), (rg_c _ rfl)⟩, fun c1 => ?_, fun c1 => ?_⟩
        · exact absurd (show (8 : Int) ≤ j from c1) (by omega)
        · conv => whnf
          refine ⟨⟨by omega, by omega⟩, ?_⟩
          conv => whnf
          have e : j.toNat = i := by omega
          have e2 : m_fill (m_fill Y 4 128 (fun _ => 0)) 10 i (σ 8) 8 j.toNat = σ 8 i := by
            rw [e, fill_cell (by decide), fill_cell (by decide), hY, mu_cell (by decide), mu_cell (by decide)]
          refine ⟨⟨⟨by omega, by omega⟩, by rw [e2]; exact ht.2.1.1 i⟩, ?_⟩
          conv => whnf
          rw [e2, e, fill_s rfl]
          exact ih (i + 1) (j + 1) (by omega) (by omega)
    have loop1 : ∀ (k i : Nat) (j : Int), j = i → i + k = 128 → K (m_fill Y 4 i (fun _ => 0)) 17 [some (.inr 0), some (.inl j)] [] := by
      intro k
      induction k with
      | zero =>
        intro i j hj hi
        refine hK [39] 20 _ _ _ _ ?_
        conv => whnf
        refine ⟨⟨(rgI (by omega) (by omega)), (rg_c _ rfl)⟩, fun c1 => ?_, fun c1 => ?_⟩
        · conv => whnf
          have := loop2 8 0 0 rfl rfl
          rw [fill_0] at this
          rw [show i = 128 by omega]
          exact this
        · exact absurd (show (128 : Int) ≤ j by omega) c1
      | succ k ih =>
        intro i j hj hi
        refine hK [17] 20 _ _ _ _ ?_
        conv => whnf
        refine ⟨⟨(rgI (by omega) (by omega)), (rg_c _ rfl)⟩, fun c1 => ?_, fun c1 => ?_⟩
        · exact absurd (show (128 : Int) ≤ j from c1) (by omega)
        · conv => whnf
          refine ⟨⟨⟨by omega, by omega⟩, Or.inl rfl⟩, ?_⟩
          conv => whnf
          have e : j.toNat = i := by omega
          rw [e, fill_s rfl]
          exact ih (i + 1) (j + 1) (by omega) (by omega)
    refine hK [17] 30 _ _ _ _ ?_
    conv => whnf
    have := loop1 128 0 0 rfl rfl
    rw [fill_0, hY] at this
    exact this
theorem heals_2 {M : Mo} {s n : Nat} (hc : Hc M s n) {p : Nat} (hp : M 1 p = 1) : ∀ k, k ≤ n → m_heals M s k 1 p = 1 ∧ m_heals M s k 2 p = M 2 p
  | 0, _ => ⟨hp, rfl⟩
  | k + 1, hk => by
    obtain ⟨a, b⟩ := heals_2 hc hp k (by omega)
    obtain ⟨w, hr⟩ := hc k (by omega)
    obtain ⟨c, d⟩ := heal_12 w hr a
    exact ⟨c, d.trans b⟩
theorem vX1_markOne : VX1_markOne := by
  intro g σ as h
  match as, h with
  | [], h =>
    obtain ⟨hw, hs, hc⟩ := h
    refine ⟨Nat.le_of_ble_eq_true rfl, fun K hK => ?_⟩
    have hsk := wf_sk hw
    have hst := wf_stk hw (σ 0 17 - 1).toNat
    have hmk := si_stm hw (k := (σ 0 17 - 1).toNat) (by omega)
    have hob : σ 1 (m_top σ) = 1 := si_mo hw hmk
    have hpo : m_pop σ 1 (m_top σ) = 1 := by unfold m_pop; rw [mu_cell (by decide)]; exact hob
    have hz := wf_sz hw (m_top σ)
    have htop : ((m_top σ : Nat) : Int) = σ 12 (σ 0 17 - 1).toNat := by unfold m_top; omega
    have ht : m_top σ < 128 := by omega
    have loop : ∀ (k m : Nat) (j : Int), j = m → m + k = (σ 2 (m_top σ)).toNat → K (m_heals (m_pop σ) (3 * m_top σ) m) 22 [some (.inr 0), some (.inl (m_top σ : Int)), some (.inl j)] [] := by
      intro k
      induction k with
      | zero =>
        intro m j hj hm
        have en : ((m_top σ : Int)).toNat = m_top σ := by omega
        have e2 : m_heals (m_pop σ) (3 * m_top σ) m 2 ((m_top σ : Int)).toNat = σ 2 (m_top σ) := by
          rw [en, (heals_2 hc hpo m (by omega)).2]
          unfold m_pop
          rw [mu_cell (by decide)]
        refine hK [] 20 _ _ _ _ ?_
        conv => whnf
        refine ⟨⟨by omega, by omega⟩, ?_⟩
        conv => whnf
        refine ⟨⟨(rgI (by omega) (by omega)), rgI (by rw [e2]; omega) (by rw [e2]; omega)⟩, fun c1 => ?_, fun c1 => ?_⟩
        · conv => whnf
          show _ = m_heals (m_pop σ) (3 * m_top σ) (σ 2 (m_top σ)).toNat
          rw [show m = (σ 2 (m_top σ)).toNat by omega]
        · exact absurd (show m_heals (m_pop σ) (3 * m_top σ) m 2 ((m_top σ : Int)).toNat ≤ j by rw [e2]; omega) c1
      | succ k ih =>
        intro m j hj hm
        have en : ((m_top σ : Int)).toNat = m_top σ := by omega
        have e2 : m_heals (m_pop σ) (3 * m_top σ) m 2 ((m_top σ : Int)).toNat = σ 2 (m_top σ) := by
          rw [en, (heals_2 hc hpo m (by omega)).2]
          unfold m_pop
          rw [mu_cell (by decide)]
        refine hK [22] 20 _ _ _ _ ?_
        conv => whnf
        refine ⟨⟨by omega, by omega⟩, ?_⟩
        conv => whnf
        refine ⟨⟨(rgI (by omega) (by omega)), rgI (by rw [e2]; omega) (by rw [e2]; omega)⟩, fun c1 => ?_, fun c1 => ?_⟩
        · exact absurd (show m_heals (m_pop σ) (3 * m_top σ) m 2 ((m_top σ : Int)).toNat ≤ j from c1) (by rw [e2]; omega)
        · conv => whnf
          obtain ⟨w, hr⟩ := hc m (by omega)
          have e : (3 * (m_top σ : Int) + j).toNat = 3 * m_top σ + m := by omega
          refine ⟨g, ⟨w, ⟨by omega, by omega⟩, by rw [e]; exact hr⟩, fun y τ hp => ?_⟩
          have hp : τ = m_heal (m_heals (m_pop σ) (3 * m_top σ) m) (3 * (m_top σ : Int) + j).toNat := hp
          rw [e] at hp
          subst hp
          conv => whnf
          exact ih (m + 1) (j + 1) (by omega) (by omega)
    refine hK [22] 30 _ _ _ _ ?_
    conv => whnf
    refine ⟨⟨by show 0 ≤ σ 0 17 - 1; omega, by show σ 0 17 - 1 < 128; omega⟩, ?_⟩
    conv => whnf
    have := loop (σ 2 (m_top σ)).toNat 0 0 rfl (by omega)
    rw [htop] at this
    exact this
theorem vX1_choose : VX1_choose := by
  intro g σ as h
  match as, h with
  | [], h =>
    obtain ⟨hj, hc⟩ := h
    refine ⟨Nat.le_of_ble_eq_true rfl, fun K hK => ?_⟩
    have loop2 : ∀ (k i : Nat) (j : Int) (z : Option AV), j = i → i + k = 8 → K (m_judges (m_nofw σ) i) 24 [some (.inr 0), some (.inl j), z] [] := by
      intro k
      induction k with
      | zero =>
        intro i j z hj hi
        refine hK [] 20 _ _ _ _ ?_
        conv => whnf
        refine ⟨⟨(rgI (by omega) (by omega)), (rg_c _ rfl)⟩, fun c1 => ?_, fun c1 => ?_⟩
        · conv => whnf
          have e : mu (m_judges (m_nofw σ) i) 0 13 2 = m_choose0 σ := by
            unfold m_choose0
            rw [show i = 8 by omega]
          rw [e]
          refine ⟨g, hc, fun y τ hp => ?_⟩
          have hp : τ = m_heals (m_choose0 σ) 384 6 := hp
          subst hp
          conv => whnf
        · exact absurd (show (8 : Int) ≤ j by omega) c1
      | succ k ih =>
        intro i j z hji hi
        have hw := hj i (by omega)
        have e : j.toNat = i := by omega
        obtain ⟨X, hX⟩ : ∃ X, X = m_judges (m_nofw σ) i := ⟨_, rfl⟩
        rw [← hX] at hw ⊢
        have hca := wf_ca hw i
        have hb := live_bd hw i
        have hth := wf_th hw
        have nxt : ∀ z, m_judges (m_nofw σ) (i + 1) = m_judge X i → K (m_judge X i) 82 [some (.inr 0), some (.inl j), z] [] := by
          intro z he
          refine hK [24] 20 _ _ _ _ ?_
          conv => whnf
          have := ih (i + 1) (j + 1) z (by omega) (by omega)
          rw [he] at this
          exact this
        have nxt := fun z => nxt z (by rw [hX]; rfl)
        refine hK [58, 82] 60 _ _ _ _ ?_
        conv => whnf
        refine ⟨⟨(rgI (by omega) (by omega)), (rg_c _ rfl)⟩, fun c1 => ?_, fun c1 => ?_⟩
        · exact absurd (show (8 : Int) ≤ j from c1) (by omega)
        · conv => whnf
          refine ⟨g, ⟨⟨by omega, by omega⟩, Or.inr rfl, fun j => wf_ob hw j, fun j => wf_mk hw j⟩, fun y τ hp => ?_⟩
          obtain ⟨hy, rfl⟩ := hp
          rw [if_pos rfl, e] at hy
          subst hy
          conv => whnf
          refine ⟨⟨by omega, by omega⟩, ?_⟩
          conv => whnf
          have second : (τ 10 i = 1 → ¬ m_live τ i = 0) → K τ 58 [some (.inr 0), some (.inl j), some (.inl (m_live τ i))] [] := by
            intro hl0
            refine hK [82] 40 _ _ _ _ ?_
            conv => whnf
            refine ⟨⟨by omega, by omega⟩, ?_⟩
            conv => whnf
            refine ⟨rgI (by rw [e]; omega) (by rw [e]; omega), fun c3 => ?_, fun c3 => ?_⟩
            · have c3 : τ 10 j.toNat = 0 := c3
              rw [e] at c3
              conv => whnf
              have := nxt (some (.inl (m_live τ i)))
              rw [show m_judge τ i = τ by unfold m_judge; rw [if_neg (by omega)]] at this
              exact this
            · have c3 : ¬ τ 10 j.toNat = 0 := c3
              rw [e] at c3
              have ca1 : τ 10 i = 1 := by omega
              conv => whnf
              refine ⟨⟨(rgI (by omega) (by omega)), (rgI (by omega) (by omega))⟩, fun c4 => ?_, fun c4 => ?_⟩
              · have c4 : τ 0 0 < m_live τ i := c4
                conv => whnf
                have := nxt (some (.inl (m_live τ i)))
                rw [show m_judge τ i = τ by unfold m_judge; rw [if_pos ca1, if_neg (hl0 ca1), if_neg (by omega)]] at this
                exact this
              · have c4 : ¬ τ 0 0 < m_live τ i := c4
                conv => whnf
                refine ⟨⟨⟨by omega, by omega⟩, Or.inr rfl⟩, ?_⟩
                conv => whnf
                have := nxt (some (.inl (m_live τ i)))
                rw [show m_judge τ i = mu τ 11 i 1 by unfold m_judge; rw [if_pos ca1, if_neg (hl0 ca1), if_pos (by omega)]] at this
                rw [e]
                exact this
          refine ⟨rgI (by rw [e]; omega) (by rw [e]; omega), fun c2 => ?_, fun c2 => ?_⟩
          · have c2 : τ 10 j.toNat = 0 := c2
            rw [e] at c2
            conv => whnf
            exact second (fun z => by omega)
          · have c2 : ¬ τ 10 j.toNat = 0 := c2
            rw [e] at c2
            conv => whnf
            refine ⟨(rgI (by omega) (by omega)), fun c3 => ?_, fun c3 => ?_⟩
            · have c3 : ¬ m_live τ i = 0 := c3
              conv => whnf
              exact second (fun _ => c3)
            · have c3 : m_live τ i = 0 := Classical.not_not.mp c3
              conv => whnf
              refine ⟨g, ⟨by omega, by omega⟩, fun y τ' hp => ?_⟩
              have hp : τ' = m_release τ j.toNat := hp
              rw [e] at hp
              subst hp
              conv => whnf
              have := nxt (some (.inl (m_live τ i)))
              rw [show m_judge τ i = m_release τ i by unfold m_judge; rw [if_pos (by omega), if_pos c3]] at this
              exact this
    have loop1 : ∀ (k i : Nat) (j : Int), j = i → i + k = 128 → K (m_fill σ 5 i (fun _ => -1)) 2 [some (.inr 0), some (.inl j), none] [] := by
      intro k
      induction k with
      | zero =>
        intro i j hj hi
        refine hK [24] 20 _ _ _ _ ?_
        conv => whnf
        refine ⟨⟨(rgI (by omega) (by omega)), (rg_c _ rfl)⟩, fun c1 => ?_, fun c1 => ?_⟩
        · conv => whnf
          have := loop2 8 0 0 none rfl rfl
          rw [show i = 128 by omega]
          exact this
        · exact absurd (show (128 : Int) ≤ j by omega) c1
      | succ k ih =>
        intro i j hj hi
        refine hK [2] 20 _ _ _ _ ?_
        conv => whnf
        refine ⟨⟨(rgI (by omega) (by omega)), (rg_c _ rfl)⟩, fun c1 => ?_, fun c1 => ?_⟩
        · exact absurd (show (128 : Int) ≤ j from c1) (by omega)
        · conv => whnf
          refine ⟨⟨by omega, by omega⟩, ?_⟩
          conv => whnf
          have e : j.toNat = i := by omega
          rw [e, fill_s rfl]
          exact ih (i + 1) (j + 1) (by omega) (by omega)
    refine hK [2] 30 _ _ _ _ ?_
    conv => whnf
    have := loop1 128 0 0 rfl rfl
    rw [fill_0] at this
    exact this
theorem vX1_relocate : VX1_relocate := by
  intro g σ as h
  match as, h with
  | [q], h =>
    obtain ⟨hw, hq, w1⟩ := h
    refine ⟨Nat.le_of_ble_eq_true rfl, fun K hK => ?_⟩
    obtain ⟨n, hn⟩ : ∃ n : Nat, n = q.toNat := ⟨_, rfl⟩
    rw [← hn] at w1
    have hqn : q = (n : Int) := by omega
    have hl := fstMk_le σ n
    have at67 : ∀ z, K (m_reloc1 σ n) 67 [some (.inr 0), some (.inl q), z] [] := by
      intro z
      refine hK [] 40 _ _ _ _ ?_
      conv => whnf
      refine ⟨⟨by omega, by omega⟩, ?_⟩
      conv => whnf
      have hb := wf_st w1 n
      refine ⟨rgI (by rw [← hn]; omega) (by rw [← hn]; omega), fun c => ?_, fun c => ?_⟩
      · have c : m_reloc1 σ n 11 q.toNat = 0 := c
        rw [← hn] at c
        conv => whnf
        show _ = m_reloc σ q.toNat
        unfold m_reloc
        rw [← hn, if_neg (fun z => by omega)]
      · have c : ¬ m_reloc1 σ n 11 q.toNat = 0 := c
        rw [← hn] at c
        conv => whnf
        refine ⟨g, ⟨⟨by omega, by omega⟩, Or.inl rfl, fun j => wf_ob w1 j, fun j => wf_mk w1 j⟩, fun y τ hp => ?_⟩
        obtain ⟨hy, rfl⟩ := hp
        rw [if_neg (by decide), ← hn] at hy
        subst hy
        have hmb := markedIn_bd (m_reloc1 σ n) n
        conv => whnf
        refine ⟨(rgI (by omega) (by omega)), fun c2 => ?_, fun c2 => ?_⟩
        · have c2 : ¬ m_markedIn (m_reloc1 σ n) n = 0 := c2
          conv => whnf
          show _ = m_reloc σ q.toNat
          unfold m_reloc
          rw [← hn, if_neg (fun z => c2 z.2)]
        · have c2 : m_markedIn (m_reloc1 σ n) n = 0 := Classical.not_not.mp c2
          conv => whnf
          refine ⟨g, ⟨by omega, by omega⟩, fun y τ hp => ?_⟩
          have hp : τ = m_release (m_reloc1 σ n) q.toNat := hp
          subst hp
          conv => whnf
          show _ = m_reloc σ q.toNat
          unfold m_reloc
          rw [← hn, if_pos ⟨by omega, c2⟩]
    have at40 : K σ 40 [some (.inr 0), some (.inl q), some (.inl (m_fstMk σ n : Int))] [] := by
      refine hK [67] 40 _ _ _ _ ?_
      conv => whnf
      refine ⟨⟨(rgI (by omega) (by omega)), (rgI (by omega) (by omega))⟩, fun c => ?_, fun c => ?_⟩
      · have c : 16 * q + 16 ≤ (m_fstMk σ n : Int) := c
        conv => whnf
        have := at67 (some (.inl (m_fstMk σ n : Int)))
        rw [show m_reloc1 σ n = σ by unfold m_reloc1; rw [if_neg (by omega)]] at this
        exact this
      · have c : ¬ 16 * q + 16 ≤ (m_fstMk σ n : Int) := c
        obtain ⟨k1, k2, k3⟩ := fstMk_in (M := σ) (q := n) (by omega)
        have en : ((m_fstMk σ n : Int)).toNat = m_fstMk σ n := by omega
        conv => whnf
        refine ⟨g, ⟨hw, ⟨by omega, by omega⟩, by rw [en]; exact k1⟩, fun y τ hp => ?_⟩
        obtain ⟨hy, hτ⟩ := hp
        rw [en] at hy hτ
        have hz := wf_sz hw (m_fstMk σ n)
        rcases move_cases hw k1 with ⟨r1, r2⟩ | ⟨a, t, R, r1, r2, a8, h16, hfit, _⟩
        · rw [r1] at hy
          rw [r2] at hτ
          subst hy
          subst hτ
          conv => whnf
          refine ⟨⟨(rg_c _ rfl), (rg_c _ rfl)⟩, fun c2 => ?_, fun c2 => ?_⟩
          · exact absurd rfl c2
          · conv => whnf
            refine ⟨⟨⟨by omega, by omega⟩, Or.inl rfl⟩, ?_⟩
            conv => whnf
            have := at67 (some (.inl (m_fstMk τ n : Int)))
            rw [show m_reloc1 τ n = mu τ 11 q.toNat 0 by unfold m_reloc1; rw [if_pos (by omega), if_pos r1, hn]] at this
            exact this
        · rw [r1] at hy
          subst hy
          subst hτ
          conv => whnf
          refine ⟨⟨(rgI (by omega) (by omega)), (rg_c _ rfl)⟩, fun c2 => ?_, fun c2 => ?_⟩
          · conv => whnf
            have := at67 (some (.inl (m_fstMk σ n : Int)))
            rw [show m_reloc1 σ n = m_move σ (m_fstMk σ n) by unfold m_reloc1; rw [if_pos (by omega), if_neg (by rw [r1]; omega)]] at this
            exact this
          · have c2 : ((t : Nat) : Int) = -1 := Classical.not_not.mp c2
            omega
    have loop : ∀ (k i : Nat) (j : Int), j = 16 * q + i → i + k = 16 → m_fst (fun k => decide (σ 1 k = 1 ∧ σ 4 k = 1)) k (16 * n + i) = m_fstMk σ n → K σ 5 [some (.inr 0), some (.inl q), some (.inl j)] [] := by
      intro k
      induction k with
      | zero =>
        intro i j hj hi hc
        refine hK [40] 20 _ _ _ _ ?_
        conv => whnf
        refine ⟨⟨(rgI (by omega) (by omega)), (rgI (by omega) (by omega))⟩, fun c1 => ?_, fun c1 => ?_⟩
        · conv => whnf
          have hx := at40
          rw [← hc, show ((m_fst (fun k => decide (σ 1 k = 1 ∧ σ 4 k = 1)) 0 (16 * n + i) : Nat) : Int) = j by unfold m_fst; omega] at hx
          exact hx
        · exact absurd (show (16 : Int) * q + 16 ≤ j by omega) c1
      | succ k ih =>
        intro i j hj hi hc
        have e : j.toNat = 16 * n + i := by omega
        have b1 := wf_ob hw (16 * n + i)
        have b4 := wf_mk hw (16 * n + i)
        have skip : ¬ (σ 1 (16 * n + i) = 1 ∧ σ 4 (16 * n + i) = 1) → m_fst (fun k => decide (σ 1 k = 1 ∧ σ 4 k = 1)) k (16 * n + (i + 1)) = m_fstMk σ n := by
          intro hno
          rw [← hc]
          conv => rhs; unfold m_fst
          rw [decide_eq_false hno]
          rfl
        refine hK [5, 40] 40 _ _ _ _ ?_
        conv => whnf
        refine ⟨⟨(rgI (by omega) (by omega)), (rgI (by omega) (by omega))⟩, fun c1 => ?_, fun c1 => ?_⟩
        · exact absurd (show (16 : Int) * q + 16 ≤ j from c1) (by omega)
        · conv => whnf
          refine ⟨⟨by omega, by omega⟩, ?_⟩
          conv => whnf
          refine ⟨rgI (by rw [e]; omega) (by rw [e]; omega), fun c2 => ?_, fun c2 => ?_⟩
          · have c2 : σ 1 j.toNat = 0 := c2
            rw [e] at c2
            conv => whnf
            exact ih (i + 1) (j + 1) (by omega) (by omega) (skip (fun z => by omega))
          · have c2 : ¬ σ 1 j.toNat = 0 := c2
            rw [e] at c2
            conv => whnf
            refine ⟨⟨by omega, by omega⟩, ?_⟩
            conv => whnf
            refine ⟨rgI (by rw [e]; omega) (by rw [e]; omega), fun c3 => ?_, fun c3 => ?_⟩
            · have c3 : ¬ σ 4 j.toNat = 0 := c3
              rw [e] at c3
              conv => whnf
              have e2 : m_fst (fun k => decide (σ 1 k = 1 ∧ σ 4 k = 1)) (k + 1) (16 * n + i) = 16 * n + i := by
                unfold m_fst
                rw [decide_eq_true (by omega)]
                rfl
              have hx := at40
              rw [← hc, e2, show ((16 * n + i : Nat) : Int) = j by omega] at hx
              exact hx
            · have c3 : σ 4 j.toNat = 0 := Classical.not_not.mp c3
              rw [e] at c3
              conv => whnf
              exact ih (i + 1) (j + 1) (by omega) (by omega) (skip (fun z => by omega))
    refine hK [5] 20 _ _ _ _ ?_
    conv => whnf
    exact loop 16 0 (16 * q) (by omega) rfl rfl

/-! runs of the reference -/
theorem vX1_isRoot : VX1_isRoot := by
  intro g σ as h
  match as, h with
  | [a], h =>
    refine ⟨Nat.le_of_ble_eq_true rfl, fun K hK => hK [] 20 _ _ _ _ ?_⟩
    conv => whnf
    refine ⟨h, fun c => ?_, fun c => ?_⟩
    · have c : a < 0 := c
      conv => whnf
      exact ⟨Or.inl rfl, by rw [if_neg (by omega)], rfl⟩
    · have c : ¬ a < 0 := c
      conv => whnf
      refine ⟨⟨h, rg_c _ rfl⟩, fun c2 => ?_, fun c2 => ?_⟩
      · have c2 : (6 : Int) ≤ a := c2
        conv => whnf
        exact ⟨Or.inl rfl, by rw [if_neg (by omega)], rfl⟩
      · have c2 : ¬ (6 : Int) ≤ a := c2
        conv => whnf
        exact ⟨Or.inr rfl, by rw [if_pos (by omega)], rfl⟩
theorem vX1_slotOf : VX1_slotOf := by
  intro g σ as h
  match as, h with
  | [r], h =>
    refine ⟨Nat.le_of_ble_eq_true rfl, fun K hK => hK [] 20 _ _ _ _ ?_⟩
    conv => whnf
    exact ⟨rfl, rfl⟩
theorem vX1_holds : VX1_holds := by
  intro g σ as h
  match as, h with
  | [r], h =>
    obtain ⟨hr, h2⟩ := h
    refine ⟨Nat.le_of_ble_eq_true rfl, fun K hK => hK [] 20 _ _ _ _ ?_⟩
    conv => whnf
    refine ⟨g, trivial, fun y τ hp => ?_⟩
    obtain ⟨rfl, rfl⟩ := hp
    conv => whnf
    refine ⟨⟨by omega, by omega⟩, ?_⟩
    conv => whnf
    have e : (384 + r).toNat = m_rs r := by show _ = 384 + r.toNat; omega
    refine ⟨h2 _, fun c => ?_, fun c => ?_⟩
    · have c : τ 7 (384 + r).toNat = 0 := c
      rw [e] at c
      conv => whnf
      exact ⟨Or.inl rfl, by rw [if_pos c], rfl⟩
    · have c : ¬ τ 7 (384 + r).toNat = 0 := c
      rw [e] at c
      conv => whnf
      exact ⟨Or.inr rfl, by rw [if_neg c], rfl⟩
theorem ti_wf {M : Mo} (h : TI M) : (0 ≤ M 0 13 ∧ M 0 13 ≤ 2) ∧ (0 ≤ M 0 14 ∧ M 0 14 < 2147483647) := ⟨h.2.2.2.1, h.2.2.2.2.1⟩
theorem vX1_good : VX1_good := by
  intro g σ as h
  match as, h with
  | [], h =>
    obtain ⟨h1, h2⟩ := ti_wf h
    refine ⟨Nat.le_of_ble_eq_true rfl, fun K hK => hK [] 30 _ _ _ _ ?_⟩
    conv => whnf
    refine ⟨⟨(rgI (by omega) (by omega)), (rg_c _ rfl)⟩, fun c => ?_, fun c => ?_⟩
    · have c : ¬ σ 0 13 = 1 := c
      conv => whnf
      exact ⟨by unfold m_good; rw [if_neg c], rfl⟩
    · have c : σ 0 13 = 1 := Classical.not_not.mp c
      conv => whnf
      refine ⟨⟨⟨h2.1, by omega⟩, by decide⟩, ?_⟩
      conv => whnf
      refine ⟨⟨(rgI (by omega) (by omega)), (rg_c _ rfl)⟩, fun c2 => ?_, fun c2 => ?_⟩
      · have c2 : ¬ σ 0 14 % 2 = 1 := c2
        conv => whnf
        exact ⟨by unfold m_good m_mc; rw [if_pos c, if_neg c2], rfl⟩
      · have c2 : σ 0 14 % 2 = 1 := Classical.not_not.mp c2
        conv => whnf
        exact ⟨by unfold m_good m_mc; rw [if_pos c, if_pos c2], rfl⟩
theorem vX1_copySlot : VX1_copySlot := by
  intro g σ as h
  match as, h with
  | [a, b], h =>
    obtain ⟨h1, h2⟩ := h
    refine ⟨Nat.le_of_ble_eq_true rfl, fun K hK => hK [] 30 _ _ _ _ ?_⟩
    conv => whnf
    refine ⟨h2, ?_⟩
    conv => whnf
    refine ⟨h1, ?_⟩
    conv => whnf
    refine ⟨h2, ?_⟩
    conv => whnf
    refine ⟨h1, ?_⟩
    conv => whnf
    rfl
theorem vX1_room : VX1_room := by
  intro g σ as h
  match as, h with
  | [w], h =>
    obtain ⟨hw, w1, w2⟩ := h
    refine ⟨Nat.le_of_ble_eq_true rfl, fun K hK => ?_⟩
    have ha := wf_al hw
    have hu := wf_us hw
    have at74 : ∀ (X : Mo) (f : Nat) (z : Option AV), f < 8 → X 0 12 = f → mu X 9 f (X 9 f + w) = m_room σ w → 16 * (f : Int) + X 9 f = m_roomP σ w → K X 74 [some (.inr 0), some (.inl w), z] [] := by
      intro X f z hf h1 h2 h3
      refine hK [] 40 _ _ _ _ ?_
      conv => whnf
      refine ⟨by rw [h1]; exact ⟨by omega, by omega⟩, ?_⟩
      conv => whnf
      refine ⟨by rw [h1]; exact ⟨by omega, by omega⟩, ?_⟩
      conv => whnf
      have en : ((f : Int)).toNat = f := by omega
      rw [h1, en, h2]
      have e1 : m_room σ w 0 12 = f := by rw [← h2, mu_cell (by decide)]; exact h1
      refine ⟨by rw [e1]; exact ⟨by omega, by omega⟩, ?_⟩
      conv => whnf
      refine ⟨?_, rfl⟩
      rw [e1, en, ← h3, ← h2, mu_same]
      omega
    have at47 : m_nofit σ w → K σ 47 [some (.inr 0), some (.inl w), some (.inl (m_free σ : Int))] [] := by
      intro hn
      have hl := free_le σ
      have en : ((m_free σ : Int)).toNat = m_free σ := by omega
      refine hK [74] 40 _ _ _ _ ?_
      conv => whnf
      refine ⟨⟨(rgI (by omega) (by omega)), (rg_c _ rfl)⟩, fun c => ?_, fun c => ?_⟩
      · have c : ¬ ((m_free σ : Nat) : Int) = 8 := c
        have h8 : m_free σ ≠ 8 := by omega
        conv => whnf
        refine ⟨⟨⟨by omega, by omega⟩, Or.inr rfl⟩, ?_⟩
        conv => whnf
        refine ⟨⟨by omega, by omega⟩, ?_⟩
        conv => whnf
        refine at74 _ (m_free σ) _ (by omega) mu_same ?_ ?_
        · rw [en, mu_cell (by decide), mu_same]
          unfold m_room
          rw [if_pos hn, if_neg h8, mu_comm (c := 9) (d := 0) (fun q => absurd q.1 (by decide)), mu_mu, Int.zero_add]
        · rw [en, mu_cell (by decide), mu_same]
          unfold m_roomP
          rw [if_pos hn, if_neg h8]
          omega
      · have c : ((m_free σ : Nat) : Int) = 8 := Classical.not_not.mp c
        have h8 : m_free σ = 8 := by omega
        conv => whnf
        unfold m_roomP m_room
        rw [if_pos hn, if_pos hn, if_pos h8, if_pos h8]
        exact ⟨rfl, rfl⟩
    have loop : m_nofit σ w → ∀ (k i : Nat) (j : Int), j = i → i + k = 8 → m_fst (fun p => decide (σ 8 p = 0)) k i = m_free σ → K σ 26 [some (.inr 0), some (.inl w), some (.inl j)] [] := by
      intro hn k
      induction k with
      | zero =>
        intro i j hj hi hc
        refine hK [47] 20 _ _ _ _ ?_
        conv => whnf
        refine ⟨⟨(rgI (by omega) (by omega)), (rg_c _ rfl)⟩, fun c1 => ?_, fun c1 => ?_⟩
        · conv => whnf
          have := at47 hn
          rw [← hc] at this
          rw [hj]
          exact this
        · exact absurd (show (8 : Int) ≤ j by omega) c1
      | succ k ih =>
        intro i j hj hi hc
        refine hK [26, 47] 20 _ _ _ _ ?_
        conv => whnf
        refine ⟨⟨(rgI (by omega) (by omega)), (rg_c _ rfl)⟩, fun c1 => ?_, fun c1 => ?_⟩
        · exact absurd (show (8 : Int) ≤ j from c1) (by omega)
        · conv => whnf
          refine ⟨⟨by omega, by omega⟩, ?_⟩
          conv => whnf
          have e : j.toNat = i := by omega
          have hb := wf_iu hw i
          refine ⟨rgI (by rw [e]; omega) (by rw [e]; omega), fun c2 => ?_, fun c2 => ?_⟩
          · have c2 : σ 8 j.toNat = 0 := c2
            rw [e] at c2
            conv => whnf
            have e2 : m_fst (fun p => decide (σ 8 p = 0)) (k + 1) i = i := by
              unfold m_fst
              rw [decide_eq_true c2]
              rfl
            have := at47 hn
            rw [← hc, e2] at this
            rw [hj]
            exact this
          · have c2 : ¬ σ 8 j.toNat = 0 := c2
            rw [e] at c2
            conv => whnf
            refine ih (i + 1) (j + 1) (by omega) (by omega) ?_
            rw [← hc]
            conv => rhs; unfold m_fst
            rw [decide_eq_false c2]
            rfl
    refine hK [26, 74] 40 _ _ _ _ ?_
    conv => whnf
    refine ⟨⟨(rgI (by omega) (by omega)), (rg_c _ rfl)⟩, fun c => ?_, fun c => ?_⟩
    · have c : σ 0 12 = -1 := c
      conv => whnf
      exact loop (Or.inl c) 8 0 0 rfl rfl rfl
    · have c : ¬ σ 0 12 = -1 := c
      conv => whnf
      refine ⟨⟨by omega, by omega⟩, ?_⟩
      conv => whnf
      have hu1 := hu (σ 0 12).toNat
      refine ⟨⟨(rgI (by omega) (by omega)), (rg_c _ rfl)⟩, fun c2 => ?_, fun c2 => ?_⟩
      · have c2 : σ 9 (σ 0 12).toNat + w ≤ 16 := c2
        conv => whnf
        have hn : ¬ m_nofit σ w := fun q => by
          rcases q with q | q
          · exact c q
          · omega
        refine at74 σ (σ 0 12).toNat _ (by omega) (by omega) ?_ ?_
        · unfold m_room
          rw [if_neg hn]
        · unfold m_roomP
          rw [if_neg hn]
          omega
      · have c2 : ¬ σ 9 (σ 0 12).toNat + w ≤ 16 := c2
        conv => whnf
        exact loop (Or.inr (by omega)) 8 0 0 rfl rfl rfl
theorem clr_0 {M : Mo} {c i : Nat} {x : Int} : m_clr M c i 0 x = M := by
  funext a b
  unfold m_clr
  rw [if_neg (by omega)]
theorem clr2_s {Y : Mo} {i k : Nat} : mu (mu (m_clr (m_clr Y 1 i k 0) 4 i k 0) 1 (i + k) 0) 4 (i + k) 0 = m_clr (m_clr Y 1 i (k + 1) 0) 4 i (k + 1) 0 := by
  funext a b
  unfold m_clr mu
  by_cases h4 : a = 4
  · subst h4
    by_cases hb : b = i + k
    · subst hb; simp
    · by_cases hk : i ≤ b ∧ b < i + k
      · have : i ≤ b ∧ b < i + (k + 1) := by omega
        simp [hb, hk, this]
      · have : ¬ (i ≤ b ∧ b < i + (k + 1)) := by omega
        simp [hb, hk, this]
  · by_cases h1 : a = 1
    · subst h1
      by_cases hb : b = i + k
      · subst hb; simp
      · by_cases hk : i ≤ b ∧ b < i + k
        · have : i ≤ b ∧ b < i + (k + 1) := by omega
          simp [hb, hk, this]
        · have : ¬ (i ≤ b ∧ b < i + (k + 1)) := by omega
          simp [hb, hk, this]
    · simp [h1, h4]
theorem vX1_release : VX1_release := by
  intro g σ as h
  match as, h with
  | [q], h =>
    obtain ⟨q1, q2⟩ := h
    refine ⟨Nat.le_of_ble_eq_true rfl, fun K hK => ?_⟩
    obtain ⟨Y, hY⟩ : ∃ Y, Y = mu (mu (mu (mu σ 8 q.toNat 0) 9 q.toNat 0) 10 q.toNat 0) 11 q.toNat 0 := ⟨_, rfl⟩
    have loop : ∀ (k i : Nat) (j : Int), j = 16 * q + i → i + k = 16 → K (m_clr (m_clr Y 1 (16 * q.toNat) i 0) 4 (16 * q.toNat) i 0) 33 [some (.inr 0), some (.inl q), some (.inl j)] [] := by
      intro k
      induction k with
      | zero =>
        intro i j hj hi
        refine hK [] 20 _ _ _ _ ?_
        conv => whnf
        refine ⟨⟨(rgI (by omega) (by omega)), (rgI (by omega) (by omega))⟩, fun c1 => ?_, fun c1 => ?_⟩
        · conv => whnf
          show _ = m_release σ q.toNat
          unfold m_release
          rw [← hY, show i = 16 by omega]
        · exact absurd (show (16 : Int) * q + 16 ≤ j by omega) c1
      | succ k ih =>
        intro i j hj hi
        refine hK [33] 30 _ _ _ _ ?_
        conv => whnf
        refine ⟨⟨(rgI (by omega) (by omega)), (rgI (by omega) (by omega))⟩, fun c1 => ?_, fun c1 => ?_⟩
        · exact absurd (show (16 : Int) * q + 16 ≤ j from c1) (by omega)
        · conv => whnf
          refine ⟨⟨⟨by omega, by omega⟩, Or.inl rfl⟩, ?_⟩
          conv => whnf
          refine ⟨⟨⟨by omega, by omega⟩, Or.inl rfl⟩, ?_⟩
          conv => whnf
          rw [show j.toNat = 16 * q.toNat + i by omega, clr2_s]
          exact ih (i + 1) (j + 1) (by omega) (by omega)
    refine hK [33] 60 _ _ _ _ ?_
    conv => whnf
    refine ⟨⟨⟨by omega, by omega⟩, Or.inl rfl⟩, ?_⟩
    conv => whnf
    refine ⟨⟨by omega, by omega⟩, ?_⟩
    conv => whnf
    refine ⟨⟨⟨by omega, by omega⟩, Or.inl rfl⟩, ?_⟩
    conv => whnf
    refine ⟨⟨⟨by omega, by omega⟩, Or.inl rfl⟩, ?_⟩
    conv => whnf
    have := loop 16 0 (16 * q) (by omega) rfl
    rw [clr_0, clr_0, hY] at this
    exact this
theorem vX1_mark : VX1_mark := by
  intro g σ as h
  match as, h with
  | [p], h =>
    obtain ⟨hw, hp, ho⟩ := h
    refine ⟨Nat.le_of_ble_eq_true rfl, fun K hK => hK [] 40 _ _ _ _ ?_⟩
    conv => whnf
    refine ⟨hp, ?_⟩
    conv => whnf
    have hm := wf_mk hw p.toNat
    refine ⟨(rgI (by omega) (by omega)), fun c => ?_, fun c => ?_⟩
    · have c : ¬ σ 4 p.toNat = 0 := c
      conv => whnf
      show _ = m_mark σ p.toNat
      unfold m_mark
      rw [if_pos (by omega)]
    · have c : σ 4 p.toNat = 0 := Classical.not_not.mp c
      have hs := wf_sk hw
      have hl := stk_lt hw ho (by omega)
      conv => whnf
      refine ⟨⟨hp, Or.inr rfl⟩, ?_⟩
      conv => whnf
      refine ⟨⟨by show 0 ≤ σ 0 17; omega, by show σ 0 17 < 128; omega⟩, ?_⟩
      conv => whnf
      show _ = m_mark σ p.toNat
      unfold m_mark
      rw [if_neg (by omega), show ((p.toNat : Nat) : Int) = p by omega]
      rfl
theorem vX1_move : VX1_move := by
  intro g σ as h
  match as, h with
  | [p], h =>
    obtain ⟨hw, hp, ho⟩ := h
    refine ⟨Nat.le_of_ble_eq_true rfl, fun K hK => ?_⟩
    have hz := wf_sz hw p.toNat
    have hpn : ((p.toNat : Nat) : Int) = p := by omega
    refine hK [53] 60 _ _ _ _ ?_
    conv => whnf
    refine ⟨hp, ?_⟩
    conv => whnf
    refine ⟨g, ⟨hw, by omega, by omega⟩, fun y τ hq => ?_⟩
    obtain ⟨hy, hτ⟩ := hq
    rcases move_cases hw ho with ⟨r1, r2⟩ | ⟨a, t, R, r1, r2, a8, h16, hfit, _, _, hap, ht1, htp, rc, r0⟩
    · rw [r1] at hy
      subst hy
      conv => whnf
      refine ⟨⟨(rg_c _ rfl), (rg_c _ rfl)⟩, fun c => ?_, fun c => ?_⟩
      · exact absurd rfl c
      · conv => whnf
        refine ⟨r1.symm, ?_⟩
        rw [hτ, r2]
        rcases room_cases hw (w := σ 2 p.toNat + 1) (by omega) (by omega) with ⟨_, z⟩ | ⟨_, _, _, z, _⟩
        · exact z
        · rw [r1] at z
          omega
    · rw [r1] at hy
      subst hy
      have hmm : m_move σ p.toNat = m_mv τ p.toNat t := by
        unfold m_move
        rw [if_neg (by rw [r1]; omega), r1, hτ]
        rfl
      have t128 : t < 128 := by omega
      have en : ((t : Int)).toNat = t := by omega
      obtain ⟨Y, hY⟩ : ∃ Y, Y = mu (mu (mu τ 1 t 1) 2 t (τ 2 p.toNat)) 3 t (τ 3 p.toNat) := ⟨_, rfl⟩
      have loop : ∀ (k i : Nat) (j : Int), j = i → i + k = 3 → K (m_cp Y p.toNat t i) 53 [some (.inr 0), some (.inl p), some (.inl (t : Int)), some (.inl j)] [] := by
        intro k
        induction k with
        | zero =>
          intro i j hj hi
          refine hK [] 40 _ _ _ _ ?_
          conv => whnf
          refine ⟨⟨(rgI (by omega) (by omega)), (rg_c _ rfl)⟩, fun c1 => ?_, fun c1 => ?_⟩
          · conv => whnf
            refine ⟨⟨hp, Or.inl rfl⟩, ?_⟩
            conv => whnf
            refine ⟨⟨⟨by omega, by omega⟩, Or.inl rfl⟩, ?_⟩
            conv => whnf
            refine ⟨hp, ?_⟩
            conv => whnf
            refine ⟨r1.symm, ?_⟩
            rw [hmm, en, show i = 3 by omega]
            have e0 : m_cp Y p.toNat t 3 0 16 = τ 0 16 := by
              rw [cp_at, if_neg (by omega), hY, mu_cell (by decide), mu_cell (by decide), mu_cell (by decide)]
            show mu (mu (mu (mu (m_cp Y p.toNat t 3) 4 p.toNat 0) 4 t 0) 5 p.toNat (t : Int)) 0 16 (m_cp Y p.toNat t 3 0 16 + 1) = _
            rw [e0]
            unfold m_mv
            rw [← hY]
          · exact absurd (show (3 : Int) ≤ j by omega) c1
        | succ k ih =>
          intro i j hj hi
          refine hK [53] 60 _ _ _ _ ?_
          conv => whnf
          refine ⟨⟨(rgI (by omega) (by omega)), (rg_c _ rfl)⟩, fun c1 => ?_, fun c1 => ?_⟩
          · exact absurd (show (3 : Int) ≤ j from c1) (by omega)
          · have e1 : (3 * (t : Int) + j).toNat = 3 * t + i := by omega
            have e2 : (3 * p + j).toNat = 3 * p.toNat + i := by omega
            have f6 : m_cp Y p.toNat t i 6 (3 * p.toNat + i) = Y 6 (3 * p.toNat + i) := by
              rw [cp_at, if_neg (by omega)]
            have f7 : mu (m_cp Y p.toNat t i) 6 (3 * t + i) (Y 6 (3 * p.toNat + i)) 7 (3 * p.toNat + i) = Y 7 (3 * p.toNat + i) := by
              rw [mu_cell (by decide), cp_at, if_neg (by omega)]
            conv => whnf
            refine ⟨⟨by omega, by omega⟩, ?_⟩
            conv => whnf
            refine ⟨⟨by omega, by omega⟩, ?_⟩
            conv => whnf
            refine ⟨⟨by omega, by omega⟩, ?_⟩
            conv => whnf
            refine ⟨⟨by omega, by omega⟩, ?_⟩
            conv => whnf
            have := ih (i + 1) (j + 1) (by omega) (by omega)
            rw [e1, e2, f6, f7]
            exact this
      conv => whnf
      refine ⟨⟨(rgI (by omega) (by omega)), (rg_c _ rfl)⟩, fun c => ?_, fun c => ?_⟩
      · conv => whnf
        refine ⟨⟨⟨by omega, by omega⟩, Or.inr rfl⟩, ?_⟩
        conv => whnf
        refine ⟨hp, ?_⟩
        conv => whnf
        refine ⟨⟨by omega, by omega⟩, ?_⟩
        conv => whnf
        refine ⟨hp, ?_⟩
        conv => whnf
        refine ⟨⟨by omega, by omega⟩, ?_⟩
        conv => whnf
        have := loop 3 0 0 rfl rfl
        rw [en]
        rw [hY] at this
        exact this
      · have c : ((t : Nat) : Int) = -1 := Classical.not_not.mp c
        omega

/-! runs of the reference: the other answers -/
theorem vX1_drop : VX1_drop := by
  intro g σ as h
  obtain ⟨⟨rfl, hg⟩, hcy, hl, ha⟩ := h
  obtain ⟨r, rfl⟩ := len1 hl
  have hr := ha r (by simp)
  have hw := gd_wf hg
  have hco : ∀ j, rg (σ 7 j) := fun j => rgI (by have := wf_co hw j; omega) (by have := wf_co hw j; omega)
  refine ⟨Nat.le_of_ble_eq_true rfl, fun K hK => ?_⟩
  have bad : (¬ m_root r ∨ σ 7 (m_rs r) = 0) → K σ 15 [some (.inr 0), some (.inl r)] [] := by
    intro hb
    refine hK [] 20 _ _ _ _ ?_
    conv => whnf
    refine ⟨Or.inl rfl, pu_ret (f := f_drop) (g := σ) (as := [r]) (M' := σ) ?_ rfl⟩
    simp only [f_drop]
    rw [if_pos hb]
  refine hK [15] 60 _ _ _ _ ?_
  conv => whnf
  refine ⟨σ, hr, fun y τ hp => ?_⟩
  obtain ⟨rfl, rfl⟩ := hp
  conv => whnf
  by_cases hm : m_root r
  · rw [if_pos hm]
    refine ⟨(rg_c _ rfl), fun c => ?_, fun c => ?_⟩
    · exact absurd (show (1 : Int) = 0 from c) (by decide)
    · conv => whnf
      refine ⟨τ, ⟨hm, hco⟩, fun y τ' hp => ?_⟩
      obtain ⟨rfl, rfl⟩ := hp
      conv => whnf
      by_cases h0 : τ' 7 (m_rs r) = 0
      · rw [if_pos h0]
        refine ⟨(rg_c _ rfl), fun c => ?_, fun c => ?_⟩
        · exact absurd rfl c
        · conv => whnf
          exact bad (Or.inr h0)
      · rw [if_neg h0]
        refine ⟨(rg_c _ rfl), fun c => ?_, fun c => ?_⟩
        · conv => whnf
          refine ⟨τ', trivial, fun y τ2 hp => ?_⟩
          obtain ⟨rfl, rfl⟩ := hp
          conv => whnf
          refine ⟨⟨by omega, by omega⟩, ?_⟩
          conv => whnf
          rw [show (384 + r).toNat = m_rs r by show _ = 384 + r.toNat; omega]
          refine ⟨Or.inr rfl, pu_ret (f := f_drop) (g := τ2) (as := [r]) (M' := mu τ2 7 (m_rs r) 0) ?_ rfl⟩
          simp only [f_drop]
          rw [if_neg (fun q => q.elim (fun z => z hm) h0)]
        · exact absurd (show ¬ (1 : Int) = 0 by decide) c
  · rw [if_neg hm]
    refine ⟨(rg_c _ rfl), fun c => ?_, fun c => ?_⟩
    · conv => whnf
      exact bad (Or.inl hm)
    · exact absurd rfl c
theorem vX1_set : VX1_set := by
  intro g σ as h
  obtain ⟨⟨rfl, hg⟩, hcy, hl, ha⟩ := h
  obtain ⟨r, v, rfl⟩ := len2 hl
  have hr := ha r (by simp)
  have hw := gd_wf hg
  have hco : ∀ j, rg (σ 7 j) := fun j => rgI (by have := wf_co hw j; omega) (by have := wf_co hw j; omega)
  refine ⟨Nat.le_of_ble_eq_true rfl, fun K hK => ?_⟩
  have bad : (¬ m_root r ∨ σ 7 (m_rs r) = 0) → K σ 15 [some (.inr 0), some (.inl r), some (.inl v)] [] := by
    intro hb
    refine hK [] 20 _ _ _ _ ?_
    conv => whnf
    refine ⟨Or.inl rfl, pu_ret (f := f_set) (g := σ) (as := [r, v]) (M' := σ) ?_ rfl⟩
    simp only [f_set]
    rw [if_pos hb]
  refine hK [15] 60 _ _ _ _ ?_
  conv => whnf
  refine ⟨σ, hr, fun y τ hp => ?_⟩
  obtain ⟨rfl, rfl⟩ := hp
  conv => whnf
  by_cases hm : m_root r
  · rw [if_pos hm]
    refine ⟨(rg_c _ rfl), fun c => ?_, fun c => ?_⟩
    · exact absurd (show (1 : Int) = 0 from c) (by decide)
    · conv => whnf
      refine ⟨τ, ⟨hm, hco⟩, fun y τ' hp => ?_⟩
      obtain ⟨rfl, rfl⟩ := hp
      conv => whnf
      by_cases h0 : τ' 7 (m_rs r) = 0
      · rw [if_pos h0]
        refine ⟨(rg_c _ rfl), fun c => ?_, fun c => ?_⟩
        · exact absurd rfl c
        · conv => whnf
          exact bad (Or.inr h0)
      · rw [if_neg h0]
        refine ⟨(rg_c _ rfl), fun c => ?_, fun c => ?_⟩
        · conv => whnf
          refine ⟨τ', trivial, fun y τ2 hp => ?_⟩
          obtain ⟨rfl, rfl⟩ := hp
          conv => whnf
          refine ⟨⟨by omega, by omega⟩, ?_⟩
          conv => whnf
          have e : (384 + r).toNat = m_rs r := by show _ = 384 + r.toNat; omega
          have hp := wf_pl hw (m_rs r)
          refine ⟨⟨by rw [e]; omega, by rw [e]; omega⟩, ?_⟩
          conv => whnf
          rw [e]
          refine ⟨Or.inr rfl, pu_ret (f := f_set) (g := τ2) (as := [r, v]) (M' := mu τ2 3 (τ2 6 (m_rs r)).toNat v) ?_ rfl⟩
          simp only [f_set]
          rw [if_neg (fun q => q.elim (fun z => z hm) h0)]
        · exact absurd (show ¬ (1 : Int) = 0 by decide) c
  · rw [if_neg hm]
    refine ⟨(rg_c _ rfl), fun c => ?_, fun c => ?_⟩
    · conv => whnf
      exact bad (Or.inl hm)
    · exact absurd rfl c
theorem vX1_value : VX1_value := by
  intro g σ as h
  obtain ⟨⟨rfl, hg⟩, hcy, hl, ha⟩ := h
  obtain ⟨r, rfl⟩ := len1 hl
  have hr := ha r (by simp)
  have hw := gd_wf hg
  have hco : ∀ j, rg (σ 7 j) := fun j => rgI (by have := wf_co hw j; omega) (by have := wf_co hw j; omega)
  refine ⟨Nat.le_of_ble_eq_true rfl, fun K hK => ?_⟩
  have bad : (¬ m_root r ∨ σ 7 (m_rs r) = 0) → K σ 32 [some (.inr 0), some (.inl r)] [] := by
    intro hb
    refine hK [] 20 _ _ _ _ ?_
    conv => whnf
    refine pu_ret (f := f_value) (g := σ) (as := [r]) (M' := σ) ?_ rfl
    simp only [f_value]
    rw [if_pos hb]
  refine hK [32] 60 _ _ _ _ ?_
  conv => whnf
  refine ⟨σ, hr, fun y τ hp => ?_⟩
  obtain ⟨rfl, rfl⟩ := hp
  conv => whnf
  by_cases hm : m_root r
  · rw [if_pos hm]
    refine ⟨(rg_c _ rfl), fun c => ?_, fun c => ?_⟩
    · exact absurd (show (1 : Int) = 0 from c) (by decide)
    · conv => whnf
      refine ⟨τ, ⟨hm, hco⟩, fun y τ' hp => ?_⟩
      obtain ⟨rfl, rfl⟩ := hp
      conv => whnf
      by_cases h0 : τ' 7 (m_rs r) = 0
      · rw [if_pos h0]
        refine ⟨(rg_c _ rfl), fun c => ?_, fun c => ?_⟩
        · conv => whnf
          exact bad (Or.inr h0)
        · exact absurd rfl c
      · rw [if_neg h0]
        refine ⟨(rg_c _ rfl), fun c => ?_, fun c => ?_⟩
        · exact absurd (show (1 : Int) = 0 from c) (by decide)
        · conv => whnf
          refine ⟨τ', trivial, fun y τ2 hp => ?_⟩
          obtain ⟨rfl, rfl⟩ := hp
          conv => whnf
          refine ⟨⟨by omega, by omega⟩, ?_⟩
          conv => whnf
          have e : (384 + r).toNat = m_rs r := by show _ = 384 + r.toNat; omega
          have hp := wf_pl hw (m_rs r)
          refine ⟨⟨by rw [e]; omega, by rw [e]; omega⟩, ?_⟩
          conv => whnf
          rw [e]
          refine pu_ret (f := f_value) (g := τ2) (as := [r]) (M' := τ2) ?_ rfl
          simp only [f_value]
          rw [if_neg (fun q => q.elim (fun z => z hm) h0)]
  · rw [if_neg hm]
    refine ⟨(rg_c _ rfl), fun c => ?_, fun c => ?_⟩
    · conv => whnf
      exact bad (Or.inl hm)
    · exact absurd rfl c
theorem vX1_fields : VX1_fields := by
  intro g σ as h
  obtain ⟨⟨rfl, hg⟩, hcy, hl, ha⟩ := h
  obtain ⟨r, rfl⟩ := len1 hl
  have hr := ha r (by simp)
  have hw := gd_wf hg
  have hco : ∀ j, rg (σ 7 j) := fun j => rgI (by have := wf_co hw j; omega) (by have := wf_co hw j; omega)
  refine ⟨Nat.le_of_ble_eq_true rfl, fun K hK => ?_⟩
  refine hK [] 60 _ _ _ _ ?_
  conv => whnf
  refine ⟨σ, hr, fun y τ hp => ?_⟩
  obtain ⟨rfl, rfl⟩ := hp
  conv => whnf
  by_cases hm : m_root r
  · rw [if_pos hm]
    refine ⟨(rg_c _ rfl), fun c => ?_, fun c => ?_⟩
    · conv => whnf
      refine ⟨τ, ⟨hm, hco⟩, fun y τ' hp => ?_⟩
      obtain ⟨rfl, rfl⟩ := hp
      conv => whnf
      by_cases h0 : τ' 7 (m_rs r) = 0
      · rw [if_pos h0]
        refine ⟨(rg_c _ rfl), fun c => ?_, fun c => ?_⟩
        · conv => whnf
          refine pu_ret (f := f_fields) (g := τ') (as := [r]) (M' := τ') ?_ rfl
          simp only [f_fields]
          rw [if_neg (fun q => q hm), if_pos h0]
        · exact absurd rfl c
      · rw [if_neg h0]
        refine ⟨(rg_c _ rfl), fun c => ?_, fun c => ?_⟩
        · exact absurd (show (1 : Int) = 0 from c) (by decide)
        · conv => whnf
          refine ⟨τ', trivial, fun y τ2 hp => ?_⟩
          obtain ⟨rfl, rfl⟩ := hp
          conv => whnf
          refine ⟨⟨by omega, by omega⟩, ?_⟩
          conv => whnf
          have e : (384 + r).toNat = m_rs r := by show _ = 384 + r.toNat; omega
          have hp := wf_pl hw (m_rs r)
          refine ⟨⟨by rw [e]; omega, by rw [e]; omega⟩, ?_⟩
          conv => whnf
          rw [e]
          refine pu_ret (f := f_fields) (g := τ2) (as := [r]) (M' := τ2) ?_ rfl
          simp only [f_fields]
          rw [if_neg (fun q => q hm), if_neg h0]
    · exact absurd (show ¬ (1 : Int) = 0 by decide) c
  · rw [if_neg hm]
    refine ⟨(rg_c _ rfl), fun c => ?_, fun c => ?_⟩
    · exact absurd rfl c
    · conv => whnf
      refine pu_ret (f := f_fields) (g := τ) (as := [r]) (M' := τ) ?_ rfl
      simp only [f_fields]
      rw [if_pos hm]
theorem vX1_place : VX1_place := by
  intro g σ as h
  obtain ⟨⟨rfl, hg⟩, hcy, hl, ha⟩ := h
  obtain ⟨r, rfl⟩ := len1 hl
  have hr := ha r (by simp)
  have hw := gd_wf hg
  have hco : ∀ j, rg (σ 7 j) := fun j => rgI (by have := wf_co hw j; omega) (by have := wf_co hw j; omega)
  refine ⟨Nat.le_of_ble_eq_true rfl, fun K hK => ?_⟩
  refine hK [] 60 _ _ _ _ ?_
  conv => whnf
  refine ⟨σ, hr, fun y τ hp => ?_⟩
  obtain ⟨rfl, rfl⟩ := hp
  conv => whnf
  by_cases hm : m_root r
  · rw [if_pos hm]
    refine ⟨(rg_c _ rfl), fun c => ?_, fun c => ?_⟩
    · conv => whnf
      refine ⟨τ, ⟨hm, hco⟩, fun y τ' hp => ?_⟩
      obtain ⟨rfl, rfl⟩ := hp
      conv => whnf
      by_cases h0 : τ' 7 (m_rs r) = 0
      · rw [if_pos h0]
        refine ⟨(rg_c _ rfl), fun c => ?_, fun c => ?_⟩
        · conv => whnf
          refine pu_ret (f := f_place) (g := τ') (as := [r]) (M' := τ') ?_ rfl
          simp only [f_place]
          rw [if_neg (fun q => q hm), if_pos h0]
        · exact absurd rfl c
      · rw [if_neg h0]
        refine ⟨(rg_c _ rfl), fun c => ?_, fun c => ?_⟩
        · exact absurd (show (1 : Int) = 0 from c) (by decide)
        · conv => whnf
          refine ⟨τ', trivial, fun y τ2 hp => ?_⟩
          obtain ⟨rfl, rfl⟩ := hp
          conv => whnf
          refine ⟨⟨by omega, by omega⟩, ?_⟩
          conv => whnf
          rw [show (384 + r).toNat = m_rs r by show _ = 384 + r.toNat; omega]
          refine pu_ret (f := f_place) (g := τ2) (as := [r]) (M' := τ2) ?_ rfl
          simp only [f_place]
          rw [if_neg (fun q => q hm), if_neg h0]
    · exact absurd (show ¬ (1 : Int) = 0 by decide) c
  · rw [if_neg hm]
    refine ⟨(rg_c _ rfl), fun c => ?_, fun c => ?_⟩
    · exact absurd rfl c
    · conv => whnf
      refine pu_ret (f := f_place) (g := τ) (as := [r]) (M' := τ) ?_ rfl
      simp only [f_place]
      rw [if_pos hm]
theorem vX1_colour : VX1_colour := by
  intro g σ as h
  obtain ⟨⟨rfl, hg⟩, hcy, hl, ha⟩ := h
  obtain ⟨r, f, rfl⟩ := len2 hl
  have hr := ha r (by simp)
  have hf := ha f (by simp)
  have hw := gd_wf hg
  have hb := field_bd hw r f
  refine ⟨Nat.le_of_ble_eq_true rfl, fun K hK => ?_⟩
  refine hK [] 60 _ _ _ _ ?_
  conv => whnf
  refine ⟨σ, ⟨hw.1, hr, hf⟩, fun y τ hp => ?_⟩
  obtain ⟨rfl, rfl⟩ := hp
  conv => whnf
  refine ⟨(rgI (by omega) (by omega)), fun c => ?_, fun c => ?_⟩
  · have c : 0 ≤ m_field τ r f := c
    conv => whnf
    refine ⟨⟨by omega, by omega⟩, ?_⟩
    conv => whnf
    refine pu_ret (f := f_colour) (g := τ) (as := [r, f]) (M' := τ) ?_ rfl
    simp only [f_colour]
    rw [if_neg (by omega)]
  · have c : ¬ 0 ≤ m_field τ r f := c
    conv => whnf
    refine pu_ret (f := f_colour) (g := τ) (as := [r, f]) (M' := τ) ?_ rfl
    simp only [f_colour]
    rw [if_pos (by omega)]
theorem vX1_behind : VX1_behind := by
  intro g σ as h
  obtain ⟨⟨rfl, hg⟩, hcy, hl, ha⟩ := h
  obtain ⟨r, f, rfl⟩ := len2 hl
  have hr := ha r (by simp)
  have hf := ha f (by simp)
  have hw := gd_wf hg
  have hb := field_bd hw r f
  refine ⟨Nat.le_of_ble_eq_true rfl, fun K hK => ?_⟩
  refine hK [] 60 _ _ _ _ ?_
  conv => whnf
  refine ⟨σ, ⟨hw.1, hr, hf⟩, fun y τ hp => ?_⟩
  obtain ⟨rfl, rfl⟩ := hp
  conv => whnf
  refine ⟨(rgI (by omega) (by omega)), fun c => ?_, fun c => ?_⟩
  · have c : 0 ≤ m_field τ r f := c
    have hco := wf_co hw (m_field τ r f).toNat
    conv => whnf
    refine ⟨⟨by omega, by omega⟩, ?_⟩
    conv => whnf
    refine ⟨(rgI (by omega) (by omega)), fun c2 => ?_, fun c2 => ?_⟩
    · have c2 : ¬ τ 7 (m_field τ r f).toNat = 0 := c2
      conv => whnf
      refine ⟨⟨by omega, by omega⟩, ?_⟩
      conv => whnf
      refine pu_ret (f := f_behind) (g := τ) (as := [r, f]) (M' := τ) ?_ rfl
      simp only [f_behind]
      rw [if_neg (by omega), if_neg c2]
    · have c2 : τ 7 (m_field τ r f).toNat = 0 := Classical.not_not.mp c2
      conv => whnf
      refine pu_ret (f := f_behind) (g := τ) (as := [r, f]) (M' := τ) ?_ rfl
      simp only [f_behind]
      rw [if_neg (by omega), if_pos c2]
  · have c : ¬ 0 ≤ m_field τ r f := c
    conv => whnf
    refine pu_ret (f := f_behind) (g := τ) (as := [r, f]) (M' := τ) ?_ rfl
    simp only [f_behind]
    rw [if_pos (by omega)]
theorem vX1_phase : VX1_phase := by
  intro g σ as h
  obtain ⟨⟨rfl, hg⟩, hcy, hl, ha⟩ := h
  obtain rfl := len0 hl
  refine ⟨Nat.le_of_ble_eq_true rfl, fun K hK => ?_⟩
  refine hK [] 20 _ _ _ _ ?_
  conv => whnf
  exact pu_ret (f := f_sc 13) (g := σ) (as := []) (M' := σ) rfl rfl
theorem vX1_stack : VX1_stack := by
  intro g σ as h
  obtain ⟨⟨rfl, hg⟩, hcy, hl, ha⟩ := h
  obtain rfl := len0 hl
  refine ⟨Nat.le_of_ble_eq_true rfl, fun K hK => ?_⟩
  refine hK [] 20 _ _ _ _ ?_
  conv => whnf
  exact pu_ret (f := f_sc 17) (g := σ) (as := []) (M' := σ) rfl rfl
theorem vX1_healed : VX1_healed := by
  intro g σ as h
  obtain ⟨⟨rfl, hg⟩, hcy, hl, ha⟩ := h
  obtain rfl := len0 hl
  refine ⟨Nat.le_of_ble_eq_true rfl, fun K hK => ?_⟩
  refine hK [] 20 _ _ _ _ ?_
  conv => whnf
  exact pu_ret (f := f_sc 15) (g := σ) (as := []) (M' := σ) rfl rfl
theorem vX1_moved : VX1_moved := by
  intro g σ as h
  obtain ⟨⟨rfl, hg⟩, hcy, hl, ha⟩ := h
  obtain rfl := len0 hl
  refine ⟨Nat.le_of_ble_eq_true rfl, fun K hK => ?_⟩
  refine hK [] 20 _ _ _ _ ?_
  conv => whnf
  exact pu_ret (f := f_sc 16) (g := σ) (as := []) (M' := σ) rfl rfl
theorem vX1_cycles : VX1_cycles := by
  intro g σ as h
  obtain ⟨⟨rfl, hg⟩, hcy, hl, ha⟩ := h
  obtain rfl := len0 hl
  refine ⟨Nat.le_of_ble_eq_true rfl, fun K hK => ?_⟩
  refine hK [] 20 _ _ _ _ ?_
  conv => whnf
  exact pu_ret (f := f_sc 14) (g := σ) (as := []) (M' := σ) rfl rfl
theorem vX1_page : VX1_page := by
  intro g σ as h
  obtain ⟨⟨rfl, hg⟩, hcy, hl, ha⟩ := h
  obtain ⟨q, w, rfl⟩ := len2 hl
  have hq := ha q (by simp)
  have hwr := ha w (by simp)
  have hw := gd_wf hg
  refine ⟨Nat.le_of_ble_eq_true rfl, fun K hK => ?_⟩
  have fin : ∀ y, (f_page σ [q, w]).1 = y → y = (f_page σ [q, w]).1 ∧ KR (f_page σ [q, w]).2 σ := fun y e => ⟨e.symm, rfl⟩
  have bad : (q < 0 ∨ 8 ≤ q) → K σ 10 [some (.inr 0), some (.inl q), some (.inl w), none, none] [] := by
    intro hb
    refine hK [] 20 _ _ _ _ ?_
    conv => whnf
    refine fin _ ?_
    simp only [f_page]
    rw [if_pos hb]
  have body : ¬ (q < 0 ∨ 8 ≤ q) → K σ 12 [some (.inr 0), some (.inl q), some (.inl w), none, none] [] := by
    intro hb
    have h8 := wf_iu hw q.toNat
    have h11 := wf_st hw q.toNat
    have h10 := wf_ca hw q.toNat
    have hal := wf_al hw
    have loop : w = 4 → ∀ (k i : Nat) (j c : Int), j = 16 * q + i → i + k = 16 → c + m_sum (fun k => if σ 5 k = -1 then 0 else 1) k (16 * q.toNat + i) = m_sum (fun k => if σ 5 k = -1 then 0 else 1) 16 (16 * q.toNat) → K σ 123 [some (.inr 0), some (.inl q), some (.inl w), some (.inl c), some (.inl j)] [] := by
      intro hw4 k
      induction k with
      | zero =>
        intro i j c hj hi hc
        refine hK [] 20 _ _ _ _ ?_
        conv => whnf
        refine ⟨⟨(rgI (by omega) (by omega)), (rgI (by omega) (by omega))⟩, fun c1 => ?_, fun c1 => ?_⟩
        · conv => whnf
          refine fin _ ?_
          simp only [f_page]
          rw [if_neg hb, if_neg (by omega), if_neg (by omega), if_neg (by omega), if_neg (by omega), if_pos hw4, ← hc]
          simp [m_sum]
        · exact absurd (show (16 : Int) * q + 16 ≤ j by omega) c1
      | succ k ih =>
        intro i j c hj hi hc
        have e : j.toNat = 16 * q.toNat + i := by omega
        have hfw := wf_fw hw (16 * q.toNat + i)
        refine hK [123] 40 _ _ _ _ ?_
        conv => whnf
        refine ⟨⟨(rgI (by omega) (by omega)), (rgI (by omega) (by omega))⟩, fun c1 => ?_, fun c1 => ?_⟩
        · exact absurd (show (16 : Int) * q + 16 ≤ j from c1) (by omega)
        · conv => whnf
          refine ⟨⟨by omega, by omega⟩, ?_⟩
          conv => whnf
          refine ⟨⟨rgI (by rw [e]; omega) (by rw [e]; omega), (rg_c _ rfl)⟩, fun c2 => ?_, fun c2 => ?_⟩
          · have c2 : σ 5 j.toNat = -1 := c2
            rw [e] at c2
            conv => whnf
            refine ih (i + 1) (j + 1) c (by omega) (by omega) ?_
            rw [← hc, m_sum, if_pos c2]
            simp [Nat.add_assoc]
          · have c2 : ¬ σ 5 j.toNat = -1 := c2
            rw [e] at c2
            conv => whnf
            refine ih (i + 1) (j + 1) (c + 1) (by omega) (by omega) ?_
            rw [← hc, m_sum, if_neg c2]
            simp [Nat.add_assoc, Int.add_assoc]
    refine hK [123] 40 _ _ _ _ ?_
    conv => whnf
    refine ⟨hwr, fun c => ?_, fun j t ht hj => ?_⟩
    · have c : w < 0 ∨ 4 < w := c
      conv => whnf
      refine fin _ ?_
      simp only [f_page]
      rw [if_neg hb, if_neg (by omega), if_neg (by omega), if_neg (by omega), if_neg (by omega), if_neg (by omega)]
    · have hj : w = 0 + (j : Int) := hj
      match j, ht with
      | 0, ht =>
        cases ht
        have w0 : w = 0 := by omega
        conv => whnf
        refine ⟨⟨by omega, by omega⟩, ?_⟩
        conv => whnf
        refine ⟨(rgI (by omega) (by omega)), fun c2 => ?_, fun c2 => ?_⟩
        · have c2 : ¬ σ 8 q.toNat = 0 := c2
          conv => whnf
          refine ⟨⟨by omega, by omega⟩, ?_⟩
          conv => whnf
          refine ⟨(rgI (by omega) (by omega)), fun c3 => ?_, fun c3 => ?_⟩
          · have c3 : σ 11 q.toNat = 0 := c3
            conv => whnf
            refine ⟨⟨(rgI (by omega) (by omega)), (rgI (by omega) (by omega))⟩, fun c4 => ?_, fun c4 => ?_⟩
            · have c4 : ¬ q = σ 0 12 := c4
              conv => whnf
              refine fin _ ?_
              simp only [f_page]
              rw [if_neg hb, if_pos w0, if_neg c2, if_neg (by omega), if_neg c4]
            · have c4 : q = σ 0 12 := Classical.not_not.mp c4
              conv => whnf
              refine fin _ ?_
              simp only [f_page]
              rw [if_neg hb, if_pos w0, if_neg c2, if_neg (by omega), if_pos c4]
          · have c3 : ¬ σ 11 q.toNat = 0 := c3
            conv => whnf
            refine fin _ ?_
            simp only [f_page]
            rw [if_neg hb, if_pos w0, if_neg c2, if_pos (by omega)]
        · have c2 : σ 8 q.toNat = 0 := Classical.not_not.mp c2
          conv => whnf
          refine fin _ ?_
          simp only [f_page]
          rw [if_neg hb, if_pos w0, if_pos c2]
      | 1, ht =>
        cases ht
        conv => whnf
        refine ⟨⟨by omega, by omega⟩, ?_⟩
        conv => whnf
        refine fin _ ?_
        simp only [f_page]
        rw [if_neg hb, if_neg (by omega), if_pos (by omega)]
      | 2, ht =>
        cases ht
        conv => whnf
        refine ⟨σ, ⟨⟨by omega, by omega⟩, Or.inl rfl, fun j => wf_ob hw j, fun j => wf_mk hw j⟩, fun y τ hp => ?_⟩
        obtain ⟨hy, rfl⟩ := hp
        rw [if_neg (by decide)] at hy
        subst hy
        conv => whnf
        refine fin _ ?_
        simp only [f_page]
        rw [if_neg hb, if_neg (by omega), if_neg (by omega), if_pos (by omega)]
      | 3, ht =>
        cases ht
        conv => whnf
        refine ⟨⟨by omega, by omega⟩, ?_⟩
        conv => whnf
        refine ⟨(rgI (by omega) (by omega)), fun c2 => ?_, fun c2 => ?_⟩
        · have c2 : σ 10 q.toNat = 0 := c2
          conv => whnf
          refine fin _ ?_
          simp only [f_page]
          rw [if_neg hb, if_neg (by omega), if_neg (by omega), if_neg (by omega), if_pos (by omega)]
          exact c2
        · have c2 : ¬ σ 10 q.toNat = 0 := c2
          conv => whnf
          refine fin _ ?_
          simp only [f_page]
          rw [if_neg hb, if_neg (by omega), if_neg (by omega), if_neg (by omega), if_pos (by omega)]
          omega
      | 4, ht =>
        cases ht
        conv => whnf
        exact loop (by omega) 16 0 (16 * q) 0 (by omega) rfl (by simp)
      | n + 5, ht => simp at ht
  refine hK [10, 12] 20 _ _ _ _ ?_
  conv => whnf
  refine ⟨hq, fun c => ?_, fun c => ?_⟩
  · have c : q < 0 := c
    conv => whnf
    exact bad (Or.inl c)
  · have c : ¬ q < 0 := c
    conv => whnf
    refine ⟨⟨hq, (rg_c _ rfl)⟩, fun c2 => ?_, fun c2 => ?_⟩
    · have c2 : q < 8 := c2
      conv => whnf
      exact body (by omega)
    · have c2 : ¬ q < 8 := c2
      conv => whnf
      exact bad (Or.inr (by omega))

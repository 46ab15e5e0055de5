/-! runs of the reference: what the law calls -/
theorem len0 {as : List Int} (h : as.length = 0) : as = [] := List.eq_nil_of_length_eq_zero h
theorem len1 {as : List Int} (h : as.length = 1) : ∃ a, as = [a] := by
  match as, h with
  | [a], _ => exact ⟨a, rfl⟩
theorem len2 {as : List Int} (h : as.length = 2) : ∃ a b, as = [a, b] := by
  match as, h with
  | [a, b], _ => exact ⟨a, b, rfl⟩
theorem len3 {as : List Int} (h : as.length = 3) : ∃ a b c, as = [a, b, c] := by
  match as, h with
  | [a, b, c], _ => exact ⟨a, b, c, rfl⟩
theorem pu_ret {K : Mo → Mo → Prop} {f : Mo → List Int → Int × Mo} {g τ M' : Mo} {as : List Int} {y : Int} (e : f g as = (y, M')) (hk : K M' τ) : y = (f g as).1 ∧ K (f g as).2 τ := by
  rw [e]
  exact ⟨rfl, hk⟩
theorem vX1_step : VX1_step := by
  intro g σ as h
  match as, h with
  | [], h =>
    obtain ⟨hg, hc⟩ := h
    have hw := gd_wf hg
    have hph := wf_ph hw
    have hsk := wf_sk hw
    refine ⟨Nat.le_of_ble_eq_true rfl, fun K hK => ?_⟩
    refine hK [] 40 _ _ _ _ ?_
    conv => whnf
    refine ⟨(rgI (by omega) (by omega)), fun c => ?_, fun c => ?_⟩
    · have c : ¬ σ 0 13 = 0 := c
      conv => whnf
      refine ⟨⟨(rgI (by omega) (by omega)), (rg_c _ rfl)⟩, fun c2 => ?_, fun c2 => ?_⟩
      · have c2 : ¬ σ 0 13 = 1 := c2
        have h2 : σ 0 13 = 2 := by omega
        have hl := inSet_le σ
        conv => whnf
        refine ⟨g, fun j => wf_st hw j, fun y τ hp => ?_⟩
        obtain ⟨hy, rfl⟩ := hp
        by_cases h8 : m_inSet τ = 8
        · rw [if_pos h8] at hy
          subst hy
          conv => whnf
          refine ⟨⟨(rg_c _ rfl), (rg_c _ rfl)⟩, fun c3 => ?_, fun c3 => ?_⟩
          · conv => whnf
            show _ = m_step τ
            unfold m_step
            rw [if_neg c, if_neg c2, if_pos h8]
          · exact absurd rfl c3
        · rw [if_neg h8] at hy
          subst hy
          conv => whnf
          refine ⟨⟨(rgI (by omega) (by omega)), (rg_c _ rfl)⟩, fun c3 => ?_, fun c3 => ?_⟩
          · have c3 : ((m_inSet τ : Nat) : Int) = -1 := c3
            omega
          · conv => whnf
            refine ⟨g, fun j => wf_st hw j, fun y τ' hp => ?_⟩
            obtain ⟨hy, rfl⟩ := hp
            rw [if_neg h8] at hy
            subst hy
            have en : ((m_inSet τ' : Int)).toNat = m_inSet τ' := by omega
            conv => whnf
            refine ⟨g, ⟨hw, ⟨by omega, by omega⟩, by rw [en]; exact gd_ph2 hg h2 _ (by omega) (inSet_in h8)⟩, fun y τ2 hp => ?_⟩
            have hp : τ2 = m_reloc τ' ((m_inSet τ' : Int)).toNat := hp
            rw [en] at hp
            subst hp
            conv => whnf
            show _ = m_step τ'
            unfold m_step
            rw [if_neg c, if_neg c2, if_neg h8]
      · have c2 : σ 0 13 = 1 := Classical.not_not.mp c2
        conv => whnf
        refine ⟨(rgI (by omega) (by omega)), fun c3 => ?_, fun c3 => ?_⟩
        · have c3 : σ 0 17 ≤ 0 := c3
          conv => whnf
          refine ⟨g, gd_ph1c hg c2 (by omega), fun y τ hp => ?_⟩
          have hp : τ = m_heals (m_choose0 σ) 384 6 := hp
          subst hp
          conv => whnf
          show _ = m_step σ
          unfold m_step
          rw [if_neg c, if_pos c2, if_neg (by omega)]
        · have c3 : ¬ σ 0 17 ≤ 0 := c3
          conv => whnf
          refine ⟨g, ⟨hw, by omega, (gd_ph1 hg c2 (by omega)).1⟩, fun y τ hp => ?_⟩
          have hp : τ = m_heals (m_pop σ) (3 * m_top σ) (σ 2 (m_top σ)).toNat := hp
          subst hp
          conv => whnf
          show _ = m_step σ
          unfold m_step
          rw [if_neg c, if_pos c2, if_pos (by omega)]
    · have c : σ 0 13 = 0 := Classical.not_not.mp c
      conv => whnf
      refine ⟨g, ⟨hw.1, gd_ph0 hg c hc⟩, fun y τ hp => ?_⟩
      have hp : τ = m_heals (m_begin0 σ) 384 6 := hp
      subst hp
      conv => whnf
      show _ = m_step σ
      unfold m_step
      rw [if_pos c]
theorem vX1_collect : VX1_collect := by
  intro g σ as h
  obtain ⟨⟨rfl, hg⟩, hcy, hl, ha⟩ := h
  obtain ⟨n, rfl⟩ := len1 hl
  have hn := ha n (by simp)
  obtain ⟨n1, n2⟩ := id hn
  refine ⟨Nat.le_of_ble_eq_true rfl, fun K hK => ?_⟩
  have bad : (n < 0 ∨ 100 < n) → K σ 10 [some (.inr 0), some (.inl n), none] [] := by
    intro hb
    refine hK [] 20 _ _ _ _ ?_
    conv => whnf
    refine pu_ret (f := f_collect) (g := σ) (as := [n]) (M' := σ) ?_ rfl
    simp only [f_collect]
    rw [if_pos hb]
  have loop : ¬ (n < 0 ∨ 100 < n) → ∀ (k m : Nat) (j : Int), j = m → m + k = n.toNat → K (m_steps σ m) 14 [some (.inr 0), some (.inl n), some (.inl j)] [] := by
    intro hb k
    induction k with
    | zero =>
      intro m j hj hm
      refine hK [] 20 _ _ _ _ ?_
      conv => whnf
      refine ⟨⟨(rgI (by omega) (by omega)), hn⟩, fun c1 => ?_, fun c1 => ?_⟩
      · conv => whnf
        refine pu_ret (f := f_collect) (g := σ) (as := [n]) (M' := m_steps σ m) ?_ rfl
        simp only [f_collect]
        rw [if_neg hb, show n.toNat = m by omega]
      · exact absurd (show n ≤ j by omega) c1
    | succ k ih =>
      intro m j hj hm
      refine hK [14] 20 _ _ _ _ ?_
      conv => whnf
      refine ⟨⟨(rgI (by omega) (by omega)), hn⟩, fun c1 => ?_, fun c1 => ?_⟩
      · exact absurd (show n ≤ j from c1) (by omega)
      · conv => whnf
        obtain ⟨g1, e1⟩ := gd_steps hg m (by omega)
        refine ⟨σ, ⟨g1, by omega⟩, fun y τ hp => ?_⟩
        have hp : τ = m_step (m_steps σ m) := hp
        subst hp
        conv => whnf
        exact ih (m + 1) (j + 1) (by omega) (by omega)
  refine hK [10, 14] 20 _ _ _ _ ?_
  conv => whnf
  refine ⟨hn, fun c => ?_, fun c => ?_⟩
  · have c : n < 0 := c
    conv => whnf
    exact bad (Or.inl c)
  · have c : ¬ n < 0 := c
    conv => whnf
    refine ⟨⟨hn, (rg_c _ rfl)⟩, fun c2 => ?_, fun c2 => ?_⟩
    · have c2 : n ≤ 100 := c2
      conv => whnf
      exact loop (by omega) n.toNat 0 0 rfl (by omega)
    · have c2 : ¬ n ≤ 100 := c2
      conv => whnf
      exact bad (Or.inr (by omega))
theorem clr7_s {Y : Mo} {i k : Nat} : mu (m_clr Y 7 i k 0) 7 (i + k) 0 = m_clr Y 7 i (k + 1) 0 := by
  funext a b
  unfold m_clr mu
  by_cases h : a = 7
  · subst h
    by_cases hb : b = i + k
    · subst hb; simp
    · by_cases hk : i ≤ b ∧ b < i + k
      · have : i ≤ b ∧ b < i + (k + 1) := by omega
        simp [hb, hk, this]
      · have : ¬ (i ≤ b ∧ b < i + (k + 1)) := by omega
        simp [hb, hk, this]
  · simp [h]
theorem vX1_make : VX1_make := by
  intro g σ as h
  obtain ⟨⟨rfl, hg⟩, hcy, hl, ha⟩ := h
  obtain ⟨r, n, v, rfl⟩ := len3 hl
  have hr := ha r (by simp)
  have hn := ha n (by simp)
  have hv := ha v (by simp)
  have hw := gd_wf hg
  refine ⟨Nat.le_of_ble_eq_true rfl, fun K hK => ?_⟩
  have bad : (¬ m_root r ∨ n < 0 ∨ 3 < n) → K σ 16 [some (.inr 0), some (.inl r), some (.inl n), some (.inl v), none, none] [] := by
    intro hb
    refine hK [] 20 _ _ _ _ ?_
    conv => whnf
    refine pu_ret (f := f_make) (g := σ) (as := [r, n, v]) (M' := σ) ?_ rfl
    simp only [f_make]
    rw [if_pos hb]
  refine hK [16, 71] 60 _ _ _ _ ?_
  conv => whnf
  refine ⟨σ, hr, fun y τ hp => ?_⟩
  obtain ⟨rfl, rfl⟩ := hp
  conv => whnf
  by_cases hm : m_root r
  · rw [if_pos hm]
    refine ⟨(rg_c _ rfl), fun c => ?_, fun c => ?_⟩
    · exact absurd (show (1 : Int) = 0 from c) (by decide)
    · conv => whnf
      refine ⟨hn, fun c2 => ?_, fun c2 => ?_⟩
      · have c2 : n < 0 := c2
        conv => whnf
        exact bad (Or.inr (Or.inl c2))
      · have c2 : ¬ n < 0 := c2
        conv => whnf
        refine ⟨⟨hn, (rg_c _ rfl)⟩, fun c3 => ?_, fun c3 => ?_⟩
        · have c3 : n ≤ 3 := c3
          have hb : ¬ (¬ m_root r ∨ n < 0 ∨ 3 < n) := by omega
          conv => whnf
          refine ⟨τ, ⟨hw, by omega, by omega⟩, fun y τ' hp => ?_⟩
          obtain ⟨hy, hτ⟩ := hp
          by_cases hrm : m_roomP τ (n + 1) = -1
          · rw [hrm] at hy
            subst hy
            rw [show m_room τ (n + 1) = τ from by
              rcases room_cases hw (w := n + 1) (by omega) (by omega) with ⟨_, z⟩ | ⟨_, _, _, z, _⟩
              · exact z
              · rw [hrm] at z; omega] at hτ
            subst hτ
            conv => whnf
            refine ⟨⟨(rg_c _ rfl), (rg_c _ rfl)⟩, fun c4 => ?_, fun c4 => ?_⟩
            · exact absurd rfl c4
            · conv => whnf
              refine pu_ret (f := f_make) (g := τ') (as := [r, n, v]) (M' := τ') ?_ rfl
              simp only [f_make]
              rw [if_neg hb, if_pos hrm]
          · obtain ⟨L, gi⟩ := id hg
            obtain ⟨t, r1, t128, _, _, _, gm⟩ := gi_make gi (n := n) (v := v) (by omega) hv hrm
            have wY := gm.1
            rw [r1] at hy
            subst hy
            have et : ((t : Int)).toNat = t := by omega
            rw [← hτ] at wY
            obtain ⟨Z, hZ⟩ : ∃ Z, Z = mu (mu (mu (mu τ' 1 t 1) 4 t 0) 2 t n) 3 t v := ⟨_, rfl⟩
            have loop : ∀ (k m : Nat) (j : Int), j = m → m + k = 3 → K (m_clr Z 7 (3 * t) m 0) 71 [some (.inr 0), some (.inl r), some (.inl n), some (.inl v), some (.inl (t : Int)), some (.inl j)] [] := by
              intro k
              induction k with
              | zero =>
                intro m j hj hm3
                refine hK [] 60 _ _ _ _ ?_
                conv => whnf
                refine ⟨⟨(rgI (by omega) (by omega)), (rg_c _ rfl)⟩, fun c1 => ?_, fun c1 => ?_⟩
                · have eY : m_clr Z 7 (3 * t) m 0 = m_mkY τ' t n v := by
                    unfold m_mkY
                    rw [hZ, show m = 3 by omega]
                  rw [eY]
                  conv => whnf
                  refine ⟨τ, trivial, fun y τ2 hp => ?_⟩
                  obtain ⟨rfl, rfl⟩ := hp
                  conv => whnf
                  refine ⟨⟨by omega, by omega⟩, ?_⟩
                  conv => whnf
                  refine ⟨τ, trivial, fun y τ2 hp => ?_⟩
                  obtain ⟨rfl, rfl⟩ := hp
                  conv => whnf
                  have w6 : Wf (mu (m_mkY τ' t n v) 6 (384 + r).toNat (t : Int)) := wf_mu6 wY ⟨by omega, by omega⟩
                  refine ⟨τ, w6.1, fun y τ2 hp => ?_⟩
                  obtain ⟨rfl, rfl⟩ := hp
                  conv => whnf
                  refine ⟨⟨by omega, by omega⟩, ?_⟩
                  conv => whnf
                  refine pu_ret (f := f_make) (g := τ) (as := [r, n, v]) (M' := m_mk0 τ' t n v (m_rs r)) ?_ ?_
                  · simp only [f_make]
                    rw [if_neg hb, if_neg hrm, r1, ← hτ, et]
                  · show _ = _
                    rw [mk0_eq, good_of (M := m_mkY τ' t n v) (mu_cell (by decide)) (mu_cell (by decide)), show (384 + r).toNat = m_rs r by show _ = 384 + r.toNat; omega]
                · exact absurd (show (3 : Int) ≤ j by omega) c1
              | succ k ih =>
                intro m j hj hm3
                refine hK [71] 30 _ _ _ _ ?_
                conv => whnf
                refine ⟨⟨(rgI (by omega) (by omega)), (rg_c _ rfl)⟩, fun c1 => ?_, fun c1 => ?_⟩
                · exact absurd (show (3 : Int) ≤ j from c1) (by omega)
                · conv => whnf
                  refine ⟨⟨by omega, by omega⟩, ?_⟩
                  conv => whnf
                  rw [show (3 * (t : Int) + j).toNat = 3 * t + m by omega, clr7_s]
                  exact ih (m + 1) (j + 1) (by omega) (by omega)
            conv => whnf
            refine ⟨⟨(rgI (by omega) (by omega)), (rg_c _ rfl)⟩, fun c4 => ?_, fun c4 => ?_⟩
            · conv => whnf
              refine ⟨⟨⟨by omega, by omega⟩, Or.inr rfl⟩, ?_⟩
              conv => whnf
              refine ⟨⟨⟨by omega, by omega⟩, Or.inl rfl⟩, ?_⟩
              conv => whnf
              refine ⟨⟨by omega, by omega⟩, ?_⟩
              conv => whnf
              refine ⟨⟨by omega, by omega⟩, ?_⟩
              conv => whnf
              have := loop 3 0 0 rfl rfl
              rw [clr_0, hZ] at this
              rw [et]
              exact this
            · have c4 : ((t : Nat) : Int) = -1 := Classical.not_not.mp c4
              omega
        · have c3 : ¬ n ≤ 3 := c3
          conv => whnf
          exact bad (Or.inr (Or.inr (by omega)))
  · rw [if_neg hm]
    refine ⟨(rg_c _ rfl), fun c => ?_, fun c => ?_⟩
    · conv => whnf
      exact bad (Or.inl hm)
    · exact absurd rfl c
theorem field_bd {M : Mo} (h : Wf M) (r f : Int) : -2 ≤ m_field M r f ∧ m_field M r f < 384 := by
  have hp := wf_pl h (m_rs r)
  have hz := wf_sz h (M 6 (m_rs r)).toNat
  unfold m_field
  split
  · omega
  · split
    · omega
    · split
      · omega
      · omega
theorem vX1_load : VX1_load := by
  intro g σ as h
  obtain ⟨⟨rfl, hg⟩, hcy, hl, ha⟩ := h
  obtain ⟨t, r, f, rfl⟩ := len3 hl
  have ht := ha t (by simp)
  have hr := ha r (by simp)
  have hf := ha f (by simp)
  have hw := gd_wf hg
  have hb := field_bd hw r f
  refine ⟨Nat.le_of_ble_eq_true rfl, fun K hK => ?_⟩
  refine hK [] 60 _ _ _ _ ?_
  conv => whnf
  refine ⟨σ, ht, fun y τ hp => ?_⟩
  obtain ⟨rfl, rfl⟩ := hp
  conv => whnf
  by_cases hm : m_root t
  · rw [if_pos hm]
    refine ⟨(rg_c _ rfl), fun c => ?_, fun c => ?_⟩
    · exact absurd (show (1 : Int) = 0 from c) (by decide)
    · conv => whnf
      refine ⟨τ, ⟨hw.1, hr, hf⟩, fun y τ' hp => ?_⟩
      obtain ⟨rfl, rfl⟩ := hp
      conv => whnf
      refine ⟨(rgI (by omega) (by omega)), fun c2 => ?_, fun c2 => ?_⟩
      · have c2 : 0 ≤ m_field τ' r f := c2
        obtain ⟨L, gi⟩ := id hg
        obtain ⟨p, k, hL, hk, e, _⟩ := gi_fldLs gi (r := r) (f := f) (by omega)
        have hs : Ls τ' L (3 * p + k) := Or.inr ⟨p, k, hL, hk, rfl⟩
        have es : (m_field τ' r f).toNat = 3 * p + k := by omega
        obtain ⟨L2, g2, _⟩ := gi_heal gi hs
        have hco := wf_co g2.1 (3 * p + k)
        conv => whnf
        refine ⟨τ', ⟨hw, ⟨by omega, by omega⟩, by rw [es]; exact gi_HR gi hs⟩, fun y τ2 hp => ?_⟩
        have hp : τ2 = m_heal τ' (m_field τ' r f).toNat := hp
        subst hp
        conv => whnf
        refine ⟨τ', trivial, fun y τ2 hp => ?_⟩
        obtain ⟨rfl, rfl⟩ := hp
        conv => whnf
        refine ⟨τ', ⟨⟨by omega, by omega⟩, by omega, by omega⟩, fun y τ2 hp => ?_⟩
        have hp : τ2 = m_copy (m_heal τ' (m_field τ' r f).toNat) (384 + t).toNat (m_field τ' r f).toNat := hp
        rw [show (384 + t).toNat = m_rs t by show _ = 384 + t.toNat; omega] at hp
        have e7 : τ2 7 (m_field τ' r f).toNat = m_heal τ' (m_field τ' r f).toNat 7 (m_field τ' r f).toNat := by
          rw [hp]
          unfold m_copy
          by_cases ee : (m_field τ' r f).toNat = m_rs t
          · rw [← ee, mu_same]
          · rw [mu_place ee, mu_cell (by decide)]
        rw [es] at e7
        conv => whnf
        refine ⟨⟨by omega, by omega⟩, ?_⟩
        conv => whnf
        refine ⟨rgI (by rw [es, e7]; omega) (by rw [es, e7]; omega), fun c3 => ?_, fun c3 => ?_⟩
        · have c3 : τ2 7 (m_field τ' r f).toNat = 0 := c3
          rw [es, e7] at c3
          conv => whnf
          refine pu_ret (f := f_load) (g := τ') (as := [t, r, f]) (M' := τ2) ?_ rfl
          simp only [f_load]
          rw [if_neg (fun q => q hm), if_neg (by omega), es, if_pos c3, hp, es]
        · have c3 : ¬ τ2 7 (m_field τ' r f).toNat = 0 := c3
          rw [es, e7] at c3
          conv => whnf
          refine pu_ret (f := f_load) (g := τ') (as := [t, r, f]) (M' := τ2) ?_ rfl
          simp only [f_load]
          rw [if_neg (fun q => q hm), if_neg (by omega), es, if_neg c3, hp, es]
      · have c2 : ¬ 0 ≤ m_field τ' r f := c2
        conv => whnf
        refine pu_ret (f := f_load) (g := τ') (as := [t, r, f]) (M' := τ') ?_ rfl
        simp only [f_load]
        rw [if_neg (fun q => q hm), if_pos (by omega)]
  · rw [if_neg hm]
    refine ⟨(rg_c _ rfl), fun c => ?_, fun c => ?_⟩
    · conv => whnf
      refine ⟨(rg_c _ rfl), fun c2 => ?_, fun c2 => ?_⟩
      · exact absurd (show (0 : Int) ≤ -1 from c2) (by decide)
      · conv => whnf
        refine pu_ret (f := f_load) (g := τ) (as := [t, r, f]) (M' := τ) ?_ rfl
        simp only [f_load]
        rw [if_pos hm]
    · exact absurd rfl c
theorem vX1_store : VX1_store := by
  intro g σ as h
  obtain ⟨⟨rfl, hg⟩, hcy, hl, ha⟩ := h
  obtain ⟨r, f, t, rfl⟩ := len3 hl
  have ht := ha t (by simp)
  have hr := ha r (by simp)
  have hf := ha f (by simp)
  have hw := gd_wf hg
  have hb := field_bd hw r f
  refine ⟨Nat.le_of_ble_eq_true rfl, fun K hK => ?_⟩
  refine hK [] 60 _ _ _ _ ?_
  conv => whnf
  refine ⟨σ, ht, fun y τ hp => ?_⟩
  obtain ⟨rfl, rfl⟩ := hp
  conv => whnf
  by_cases hm : m_root t
  · rw [if_pos hm]
    refine ⟨(rg_c _ rfl), fun c => ?_, fun c => ?_⟩
    · exact absurd (show (1 : Int) = 0 from c) (by decide)
    · conv => whnf
      refine ⟨τ, ⟨hw.1, hr, hf⟩, fun y τ' hp => ?_⟩
      obtain ⟨rfl, rfl⟩ := hp
      conv => whnf
      refine ⟨(rgI (by omega) (by omega)), fun c2 => ?_, fun c2 => ?_⟩
      · have c2 : 0 ≤ m_field τ' r f := c2
        conv => whnf
        refine ⟨τ', trivial, fun y τ2 hp => ?_⟩
        obtain ⟨rfl, rfl⟩ := hp
        conv => whnf
        refine ⟨τ2, ⟨⟨by omega, by omega⟩, by omega, by omega⟩, fun y τ3 hp => ?_⟩
        have hp : τ3 = m_copy τ2 (m_field τ2 r f).toNat (384 + t).toNat := hp
        rw [show (384 + t).toNat = m_rs t by show _ = 384 + t.toNat; omega] at hp
        conv => whnf
        refine pu_ret (f := f_store) (g := τ2) (as := [r, f, t]) (M' := τ3) ?_ rfl
        simp only [f_store]
        rw [if_neg (fun q => q hm), if_neg (by omega), hp]
      · have c2 : ¬ 0 ≤ m_field τ' r f := c2
        conv => whnf
        refine pu_ret (f := f_store) (g := τ') (as := [r, f, t]) (M' := τ') ?_ rfl
        simp only [f_store]
        rw [if_neg (fun q => q hm), if_pos (by omega)]
  · rw [if_neg hm]
    refine ⟨(rg_c _ rfl), fun c => ?_, fun c => ?_⟩
    · conv => whnf
      refine ⟨(rg_c _ rfl), fun c2 => ?_, fun c2 => ?_⟩
      · exact absurd (show (0 : Int) ≤ -1 from c2) (by decide)
      · conv => whnf
        refine pu_ret (f := f_store) (g := τ) (as := [r, f, t]) (M' := τ) ?_ rfl
        simp only [f_store]
        rw [if_pos hm]
    · exact absurd rfl c
theorem vX1_copy : VX1_copy := by
  intro g σ as h
  obtain ⟨⟨rfl, hg⟩, hcy, hl, ha⟩ := h
  obtain ⟨t, r, rfl⟩ := len2 hl
  have ht := ha t (by simp)
  have hr := ha r (by simp)
  have hw := gd_wf hg
  refine ⟨Nat.le_of_ble_eq_true rfl, fun K hK => ?_⟩
  have bad : (¬ m_root t ∨ ¬ m_root r) → K σ 14 [some (.inr 0), some (.inl t), some (.inl r)] [] := by
    intro hb
    refine hK [] 20 _ _ _ _ ?_
    conv => whnf
    refine ⟨Or.inl rfl, pu_ret (f := f_copy) (g := σ) (as := [t, r]) (M' := σ) ?_ rfl⟩
    simp only [f_copy]
    rw [if_pos hb]
  refine hK [14] 60 _ _ _ _ ?_
  conv => whnf
  refine ⟨σ, ht, fun y τ hp => ?_⟩
  obtain ⟨rfl, rfl⟩ := hp
  conv => whnf
  by_cases hm : m_root t
  · rw [if_pos hm]
    refine ⟨(rg_c _ rfl), fun c => ?_, fun c => ?_⟩
    · exact absurd (show (1 : Int) = 0 from c) (by decide)
    · conv => whnf
      refine ⟨τ, hr, fun y τ' hp => ?_⟩
      obtain ⟨rfl, rfl⟩ := hp
      conv => whnf
      by_cases hm2 : m_root r
      · rw [if_pos hm2]
        refine ⟨(rg_c _ rfl), fun c => ?_, fun c => ?_⟩
        · conv => whnf
          refine ⟨τ', trivial, fun y τ2 hp => ?_⟩
          obtain ⟨rfl, rfl⟩ := hp
          conv => whnf
          refine ⟨τ2, trivial, fun y τ3 hp => ?_⟩
          obtain ⟨rfl, rfl⟩ := hp
          conv => whnf
          refine ⟨τ3, ⟨⟨by omega, by omega⟩, by omega, by omega⟩, fun y τ4 hp => ?_⟩
          have hp : τ4 = m_copy τ3 (384 + t).toNat (384 + r).toNat := hp
          rw [show (384 + t).toNat = m_rs t by show _ = 384 + t.toNat; omega, show (384 + r).toNat = m_rs r by show _ = 384 + r.toNat; omega] at hp
          conv => whnf
          refine ⟨Or.inr rfl, pu_ret (f := f_copy) (g := τ3) (as := [t, r]) (M' := τ4) ?_ rfl⟩
          simp only [f_copy]
          rw [if_neg (fun q => q.elim (fun z => z hm) (fun z => z hm2)), hp]
        · exact absurd (show ¬ (1 : Int) = 0 by decide) c
      · rw [if_neg hm2]
        refine ⟨(rg_c _ rfl), fun c => ?_, fun c => ?_⟩
        · exact absurd rfl c
        · conv => whnf
          exact bad (Or.inr hm2)
  · rw [if_neg hm]
    refine ⟨(rg_c _ rfl), fun c => ?_, fun c => ?_⟩
    · conv => whnf
      exact bad (Or.inl hm)
    · exact absurd rfl c

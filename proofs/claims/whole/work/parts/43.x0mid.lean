/-! runs of the class: room, mark, judge -/
theorem vX0_takeRoom : VX0_takeRoom := by
  intro g σ as h
  match as, h with
  | [w], h =>
    obtain ⟨⟨P, C, rfl⟩, hw, w1, w2⟩ := h
    refine ⟨Nat.le_of_ble_eq_true rfl, fun K hK => ?_⟩
    have ha := wf_al hw
    have hu := wf_us hw
    have fin : ∀ (M' : Mo) (f : Nat) (v : Int), f < 8 → (∀ P C, cls (mu M' 9 f (M' 9 f + w)) P C = cls (m_room g w) P C) → M' 0 12 = f → 16 * (f : Int) + M' 9 f = m_roomP g w → ∀ z, K (cls M' P C) 41 [some (.inr 0), some (.inl w), z] [] := by
      intro M' f v hf h1 h2 h3 z
      refine hK [] 40 _ _ _ _ ?_
      conv => whnf
      have e1 : cls M' P C 0 12 = (f : Int) := h2
      refine ⟨?_, ?_⟩
      · rw [e1]; exact ⟨by omega, by omega⟩
      conv => whnf
      refine ⟨?_, ?_⟩
      · rw [e1]; exact ⟨by omega, by omega⟩
      conv => whnf
      refine ⟨?_, ?_⟩
      · rw [e1]; exact ⟨by omega, by omega⟩
      conv => whnf
      refine ⟨?_, fun P' C' he => ?_⟩
      · rw [e1]
        show (f : Int) * 16 + M' 9 (f : Int).toNat = _
        rw [← h3]
        have : (f : Int).toNat = f := by omega
        rw [this]
        omega
      · obtain ⟨rfl, rfl⟩ := cls_inj he
        rw [← h1, cn_9, e1]
        have : (f : Int).toNat = f := by omega
        rw [this]
        rfl
    have takes : m_nofit g w → K (cls g P C) 24 [some (.inr 0), some (.inl w), none] [] := by
      intro hn
      refine hK [41] 40 _ _ _ _ ?_
      conv => whnf
      refine ⟨g, fun j => rgI (by have := hu j; show _ ≤ g 9 j; omega) (by have := hu j; show g 9 j < _; omega), fun y τ hp => ?_⟩
      obtain ⟨hy, rfl⟩ := hp
      have ef : m_fst (fun p => decide (cls g P C 8 p = 0)) 8 0 = m_free g := free_eq hw
      rw [ef] at hy
      have fl := free_le g
      by_cases h8 : m_free g = 8
      · rw [if_pos h8] at hy
        subst hy
        conv => whnf
        refine ⟨⟨(rg_c _ rfl), (rg_c _ rfl)⟩, fun c => ?_, fun c => ?_⟩
        · exact absurd rfl c
        · conv => whnf
          refine ⟨?_, fun P' C' he => ?_⟩
          · unfold m_roomP
            rw [if_pos hn, if_pos h8]
          · unfold m_room
            rw [if_pos hn, if_pos h8]
            exact he
      · rw [if_neg h8] at hy
        subst hy
        conv => whnf
        refine ⟨⟨(rgI (by omega) (by omega)), (rg_c _ rfl)⟩, fun c => ?_, fun c => ?_⟩
        · conv => whnf
          have h9 : g 9 (m_free g) = 0 := (si_free hw (free_lt h8)).1
          rw [← cn_0_12]
          refine fin (mu g 0 12 (m_free g : Int)) (m_free g) 0 (by omega) (fun P C => ?_) mu_same ?_ _
          · rw [mu_cell (by decide), h9]
            unfold m_room
            rw [if_pos hn, if_neg h8, cn_9, cn_0_12, cn_9, cn_0_12, cn_8, Int.zero_add]
          · rw [mu_cell (by decide), h9]
            unfold m_roomP
            rw [if_pos hn, if_neg h8]
            omega
        · have c : ((m_free g : Nat) : Int) = -1 := Classical.not_not.mp c
          omega
    refine hK [24, 41] 40 _ _ _ _ ?_
    conv => whnf
    refine ⟨⟨rgI (by show _ ≤ g 0 12; omega) (by show g 0 12 < _; omega), (rg_c _ rfl)⟩, fun c => ?_, fun c => ?_⟩
    · have c : g 0 12 = -1 := c
      conv => whnf
      exact takes (Or.inl c)
    · have c : ¬ g 0 12 = -1 := c
      conv => whnf
      refine ⟨⟨by show 0 ≤ g 0 12; omega, by show g 0 12 < 8; omega⟩, ?_⟩
      conv => whnf
      have hu1 := hu (g 0 12).toNat
      have e1 : cls g P C 8 (cls g P C 0 12).toNat = g 9 (g 0 12).toNat := rfl
      refine ⟨⟨rgI (by rw [e1]; omega) (by rw [e1]; omega), (rg_c _ rfl)⟩, fun c2 => ?_, fun c2 => ?_⟩
      · have c2 : g 9 (g 0 12).toNat + w ≤ 16 := c2
        conv => whnf
        have hn : ¬ m_nofit g w := fun q => by
          rcases q with q | q
          · exact c q
          · omega
        refine fin g (g 0 12).toNat 0 (by omega) (fun P C => ?_) (by omega) ?_ _
        · unfold m_room
          rw [if_neg hn]
        · unfold m_roomP
          rw [if_neg hn]
          omega
      · have c2 : ¬ g 9 (g 0 12).toNat + w ≤ 16 := c2
        conv => whnf
        exact takes (Or.inr (by omega))
theorem vX0_mark : VX0_mark := by
  intro g σ as h
  match as, h with
  | [p], h =>
    obtain ⟨⟨P, C, rfl⟩, hw, hp, ho⟩ := h
    refine ⟨Nat.le_of_ble_eq_true rfl, fun K hK => hK [] 40 _ _ _ _ ?_⟩
    conv => whnf
    refine ⟨hp, ?_⟩
    conv => whnf
    have e1 : cls g P C 5 p.toNat = g 4 p.toNat := rfl
    have hm := wf_mk hw p.toNat
    refine ⟨rgI (by rw [e1]; omega) (by rw [e1]; omega), fun c => ?_, fun c => ?_⟩
    · have c : ¬ g 4 p.toNat = 0 := c
      conv => whnf
      intro P' C' he
      unfold m_mark
      rw [if_pos (by omega)]
      exact he
    · have c : g 4 p.toNat = 0 := Classical.not_not.mp c
      have hs := wf_sk hw
      have hl := stk_lt hw ho (by omega)
      conv => whnf
      refine ⟨⟨hp, Or.inr rfl⟩, ?_⟩
      conv => whnf
      refine ⟨⟨by show 0 ≤ g 0 17; omega, by show g 0 17 < 128; omega⟩, ?_⟩
      conv => whnf
      intro P' C' he
      obtain ⟨rfl, rfl⟩ := cls_inj he
      unfold m_mark
      rw [if_neg (by omega), cn_0_17, cn_12, cn_4, show ((p.toNat : Nat) : Int) = p by omega]
      rfl
theorem rel_cls {M : Mo} (h : Wf M) {q : Nat} (hz : ∀ k, 16 * q ≤ k → k < 16 * q + 16 → M 4 k = 0) (P C : Nat → Int) : cls (m_release M q) P C = mu (mu (mu (cls M P C) 8 q 0) 9 q 0) 10 q 0 := by
  rw [← cn_9, ← cn_10, ← cn_11]
  funext c k
  match c with
  | 0 => simp [cls, m_release, m_clr, mu]
  | 1 => simp [cls]
  | 2 => simp [cls]
  | 3 => simp [cls, m_release, m_clr, mu]
  | 4 => simp [cls, m_release, m_clr, mu]
  | 5 =>
    simp only [cls, m_release, m_clr, mu]
    by_cases hk : 16 * q ≤ k ∧ k < 16 * q + 16
    · simp [hk, hz k hk.1 hk.2]
    · simp [hk]
  | 6 => simp [cls, m_release, m_clr, mu]
  | 7 => simp [cls, m_release, m_clr, mu]
  | 8 => simp [cls, m_release, m_clr, mu]
  | 9 => simp [cls, m_release, m_clr, mu]
  | 10 => simp [cls, m_release, m_clr, mu]
  | n + 11 => simp [cls]
theorem vX0_judge : VX0_judge := by
  intro g σ as h
  match as, h with
  | [q], h =>
    obtain ⟨⟨P, C, rfl⟩, hw, hq, hc⟩ := h
    refine ⟨Nat.le_of_ble_eq_true rfl, fun K hK => hK [] 40 _ _ _ _ ?_⟩
    conv => whnf
    refine ⟨g, ⟨hq, fun j => rgI (by have := wf_mk hw j; show _ ≤ g 4 j; omega) (by have := wf_mk hw j; show g 4 j < _; omega)⟩, fun y τ hp => ?_⟩
    obtain ⟨hy, rfl⟩ := hp
    have hy : y = m_live g q.toNat := by rw [hy, live_eq hw]; rfl
    subst hy
    have hb := live_bd hw q.toNat
    have ht := wf_th hw
    conv => whnf
    refine ⟨(rgI (by omega) (by omega)), fun c => ?_, fun c => ?_⟩
    · have c : ¬ m_live g q.toNat = 0 := c
      conv => whnf
      refine ⟨⟨(rgI (by omega) (by omega)), rgI (by show _ ≤ g 0 0; omega) (by show g 0 0 < _; omega)⟩, fun c2 => ?_, fun c2 => ?_⟩
      · have c2 : g 0 0 < m_live g q.toNat := c2
        conv => whnf
        intro P' C' he
        unfold m_judge
        rw [if_pos hc, if_neg c, if_neg (by omega)]
        exact he
      · have c2 : ¬ g 0 0 < m_live g q.toNat := c2
        conv => whnf
        refine ⟨⟨hq, Or.inr rfl⟩, ?_⟩
        conv => whnf
        intro P' C' he
        obtain ⟨rfl, rfl⟩ := cls_inj he
        unfold m_judge
        rw [if_pos hc, if_neg c, if_pos (by omega), cn_11]
    · have c : m_live g q.toNat = 0 := Classical.not_not.mp c
      conv => whnf
      refine ⟨g, hq, fun y τ hp => ?_⟩
      have hp : τ = mu (mu (mu (cls g P C) 8 q.toNat 0) 9 q.toNat 0) 10 q.toNat 0 := hp
      subst hp
      conv => whnf
      intro P' C' he
      obtain ⟨rfl, rfl⟩ := cls_inj he
      unfold m_judge
      rw [if_pos hc, if_pos c, rel_cls hw (fun k h1 h2 => live_0 hw c h1 h2)]

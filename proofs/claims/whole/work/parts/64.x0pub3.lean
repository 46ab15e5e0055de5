/-! runs of the class: counters, pages, new objects -/
theorem vX0_phase : VX0_phase := by
  intro g σ as h
  obtain ⟨⟨hk, hg⟩, hcy, hl, ha⟩ := h
  obtain rfl := len0 hl
  obtain ⟨P, C, rfl, _⟩ := id hk
  refine ⟨Nat.le_of_ble_eq_true rfl, fun K hK => hK [] 20 _ _ _ _ ?_⟩
  conv => whnf
  exact pu_ret (f := f_sc 13) (g := g) (as := []) (M' := g) rfl hk
theorem vX0_stack : VX0_stack := by
  intro g σ as h
  obtain ⟨⟨hk, hg⟩, hcy, hl, ha⟩ := h
  obtain rfl := len0 hl
  obtain ⟨P, C, rfl, _⟩ := id hk
  refine ⟨Nat.le_of_ble_eq_true rfl, fun K hK => hK [] 20 _ _ _ _ ?_⟩
  conv => whnf
  exact pu_ret (f := f_sc 17) (g := g) (as := []) (M' := g) rfl hk
theorem vX0_healed : VX0_healed := by
  intro g σ as h
  obtain ⟨⟨hk, hg⟩, hcy, hl, ha⟩ := h
  obtain rfl := len0 hl
  obtain ⟨P, C, rfl, _⟩ := id hk
  refine ⟨Nat.le_of_ble_eq_true rfl, fun K hK => hK [] 20 _ _ _ _ ?_⟩
  conv => whnf
  exact pu_ret (f := f_sc 15) (g := g) (as := []) (M' := g) rfl hk
theorem vX0_moved : VX0_moved := by
  intro g σ as h
  obtain ⟨⟨hk, hg⟩, hcy, hl, ha⟩ := h
  obtain rfl := len0 hl
  obtain ⟨P, C, rfl, _⟩ := id hk
  refine ⟨Nat.le_of_ble_eq_true rfl, fun K hK => hK [] 20 _ _ _ _ ?_⟩
  conv => whnf
  exact pu_ret (f := f_sc 16) (g := g) (as := []) (M' := g) rfl hk
theorem vX0_cycles : VX0_cycles := by
  intro g σ as h
  obtain ⟨⟨hk, hg⟩, hcy, hl, ha⟩ := h
  obtain rfl := len0 hl
  obtain ⟨P, C, rfl, _⟩ := id hk
  refine ⟨Nat.le_of_ble_eq_true rfl, fun K hK => hK [] 20 _ _ _ _ ?_⟩
  conv => whnf
  exact pu_ret (f := f_sc 14) (g := g) (as := []) (M' := g) rfl hk
theorem vX0_page : VX0_page := by
  intro g σ as h
  obtain ⟨⟨hk, hg⟩, hcy, hl, ha⟩ := h
  obtain ⟨q, w, rfl⟩ := len2 hl
  have hq := ha q (by simp)
  have hwr := ha w (by simp)
  have hw := gd_wf hg
  obtain ⟨P, C, rfl, hS, hC, hP⟩ := id hk
  refine ⟨Nat.le_of_ble_eq_true rfl, fun K hK => ?_⟩
  have fin : ∀ y, (f_page g [q, w]).1 = y → y = (f_page g [q, w]).1 ∧ KC (f_page g [q, w]).2 (cls g P C) := fun y e => ⟨e.symm, hk⟩
  have bad : (q < 0 ∨ 8 ≤ q) → K (cls g P C) 10 [some (.inr 0), some (.inl q), some (.inl w)] [] := by
    intro hb
    refine hK [] 20 _ _ _ _ ?_
    conv => whnf
    refine fin _ ?_
    simp only [f_page]
    rw [if_pos hb]
  have body : ¬ (q < 0 ∨ 8 ≤ q) → K (cls g P C) 12 [some (.inr 0), some (.inl q), some (.inl w)] [] := by
    intro hb
    have h9 := wf_us hw q.toNat
    have h11 := wf_st hw q.toNat
    have h10 := wf_ca hw q.toNat
    have hal := wf_al hw
    have e8 : cls g P C 8 q.toNat = g 9 q.toNat := rfl
    have e9 : cls g P C 9 q.toNat = g 10 q.toNat := rfl
    have e10 : cls g P C 10 q.toNat = g 11 q.toNat := rfl
    have e12 : cls g P C 0 12 = g 0 12 := rfl
    refine hK [] 40 _ _ _ _ ?_
    conv => whnf
    refine ⟨hwr, fun c => ?_, fun j t ht hj => ?_⟩
    · have c : w < 0 ∨ 4 < w := c
      conv => whnf
      refine fin _ ?_
      simp only [f_page]
      rw [if_neg hb, if_neg (by omega), if_neg (by omega), if_neg (by omega), if_neg (by omega), if_neg (by omega)]
    · have hj : w = 0 + (j : Int) := hj
      match j, ht with
      | 0, ht =>
        cases ht
        conv => whnf
        refine ⟨g, ⟨⟨by omega, by omega⟩, rgI (by rw [e8]; omega) (by rw [e8]; omega), rgI (by rw [e12]; omega) (by rw [e12]; omega), rgI (by rw [e10]; omega) (by rw [e10]; omega)⟩, fun y τ hp => ?_⟩
        obtain ⟨hy, rfl⟩ := hp
        rw [e8, e10, e12] at hy
        subst hy
        conv => whnf
        refine fin _ ?_
        simp only [f_page]
        rw [if_neg hb, if_pos (by omega)]
        by_cases h0 : g 9 q.toNat = 0
        · rw [if_pos h0, if_pos ((si_iff hw _).mp h0)]
        · have h8 : ¬ g 8 q.toNat = 0 := fun z => h0 ((si_iff hw _).mpr z)
          rw [if_neg h0, if_neg h8]
          by_cases ea : q = g 0 12
          · have := (si_al hw (by omega)).2.2
            rw [← ea] at this
            rw [if_pos ea, if_neg (by omega), if_pos ea]
          · rw [if_neg ea, if_neg ea]
            by_cases h110 : g 11 q.toNat = 0
            · rw [if_pos h110, if_neg (by omega)]
            · rw [if_neg h110, if_pos (by omega)]
      | 1, ht =>
        cases ht
        conv => whnf
        refine ⟨⟨by omega, by omega⟩, ?_⟩
        conv => whnf
        refine fin _ ?_
        simp only [f_page]
        rw [if_neg hb, if_neg (by omega), if_pos (by omega)]
        rfl
      | 2, ht =>
        cases ht
        conv => whnf
        refine ⟨g, ⟨⟨by omega, by omega⟩, fun j => rgI (by have := wf_mk hw j; show _ ≤ g 4 j; omega) (by have := wf_mk hw j; show g 4 j < _; omega)⟩, fun y τ hp => ?_⟩
        obtain ⟨hy, rfl⟩ := hp
        subst hy
        conv => whnf
        refine fin _ ?_
        simp only [f_page]
        rw [if_neg hb, if_neg (by omega), if_neg (by omega), if_pos (by omega), markedIn_eq hw]
        rfl
      | 3, ht =>
        cases ht
        conv => whnf
        refine ⟨⟨by omega, by omega⟩, ?_⟩
        conv => whnf
        refine ⟨rgI (by rw [e9]; omega) (by rw [e9]; omega), fun c2 => ?_, fun c2 => ?_⟩
        · have c2 : g 10 q.toNat = 0 := c2
          conv => whnf
          refine fin _ ?_
          simp only [f_page]
          rw [if_neg hb, if_neg (by omega), if_neg (by omega), if_neg (by omega), if_pos (by omega)]
          exact c2
        · have c2 : ¬ g 10 q.toNat = 0 := c2
          conv => whnf
          refine fin _ ?_
          simp only [f_page]
          rw [if_neg hb, if_neg (by omega), if_neg (by omega), if_neg (by omega), if_pos (by omega)]
          omega
      | 4, ht =>
        cases ht
        conv => whnf
        refine ⟨g, ⟨⟨by omega, by omega⟩, fun j => rgI (by have := wf_fw hw j; show _ ≤ g 5 j; omega) (by have := wf_fw hw j; show g 5 j < _; omega)⟩, fun y τ hp => ?_⟩
        obtain ⟨hy, rfl⟩ := hp
        subst hy
        conv => whnf
        refine fin _ ?_
        simp only [f_page]
        rw [if_neg hb, if_neg (by omega), if_neg (by omega), if_neg (by omega), if_neg (by omega), if_pos (by omega)]
        rfl
      | n + 5, ht => simp at ht
  refine hK [10, 12] 20 _ _ _ _ ?_
  conv => whnf
  refine ⟨hq, fun c => ?_, fun c => ?_⟩
  · have c : q < 0 := c
    conv => whnf
    exact bad (Or.inl c)
  · have c : ¬ q < 0 := c
    conv => whnf
    refine ⟨⟨hq, (rg_c _ rfl)⟩, fun c2 => ?_, fun c2 => ?_⟩
    · have c2 : q < 8 := c2
      conv => whnf
      exact body (by omega)
    · have c2 : ¬ q < 8 := c2
      conv => whnf
      exact bad (Or.inr (by omega))
def czf (C : Nat → Int) (t n : Nat) : Nat → Int := fun j => if t + 1 ≤ j ∧ j ≤ t + n then 0 else C j
theorem czf_0 (C : Nat → Int) (t : Nat) : czf C t 0 = C := by
  funext j
  unfold czf
  rw [if_neg (by omega)]
theorem czf_s (C : Nat → Int) (t n : Nat) : fu (czf C t n) (t + n + 1) 0 = czf C t (n + 1) := by
  funext j
  unfold fu czf
  by_cases hj : j = t + n + 1
  · rw [if_pos hj, if_pos (by omega)]
  · rw [if_neg hj]
    by_cases hc : t + 1 ≤ j ∧ j ≤ t + n
    · rw [if_pos hc, if_pos (by omega)]
    · rw [if_neg hc, if_neg (by omega)]
theorem cn_clr7 (X : Mo) (i n : Nat) (P C : Nat → Int) : cls (m_clr X 7 i n 0) P C = cls X P C := by
  funext c k
  match c with
  | 0 => simp [cls, m_clr]
  | 1 => simp [cls]
  | 2 => simp [cls]
  | 3 => simp [cls, m_clr]
  | 4 => simp [cls, m_clr]
  | 5 => simp [cls, m_clr]
  | 6 => simp [cls, m_clr]
  | 7 => simp [cls, m_clr]
  | 8 => simp [cls, m_clr]
  | 9 => simp [cls, m_clr]
  | 10 => simp [cls, m_clr]
  | n + 11 => simp [cls]
theorem vX0_make : VX0_make := by
  intro g σ as h
  obtain ⟨⟨hk, hg⟩, hcy, hl, ha⟩ := h
  obtain ⟨r, n, v, rfl⟩ := len3 hl
  have hr := ha r (by simp)
  have hn := ha n (by simp)
  have hv := ha v (by simp)
  have hw := gd_wf hg
  have hph := wf_ph hw
  have hcy2 := wf_cy hw
  obtain ⟨P, C, rfl, hS, hC, hP⟩ := id hk
  refine ⟨Nat.le_of_ble_eq_true rfl, fun K hK => ?_⟩
  have bad : (¬ m_root r ∨ n < 0 ∨ 3 < n) → K (cls g P C) 16 [some (.inr 0), some (.inl r), some (.inl n), some (.inl v), none, none] [] := by
    intro hb
    refine hK [] 20 _ _ _ _ ?_
    conv => whnf
    refine pu_ret (f := f_make) (g := g) (as := [r, n, v]) (M' := g) ?_ hk
    simp only [f_make]
    rw [if_pos hb]
  refine hK [16, 58] 60 _ _ _ _ ?_
  conv => whnf
  refine ⟨g, hr, fun y τ hp => ?_⟩
  obtain ⟨rfl, rfl⟩ := hp
  conv => whnf
  by_cases hm : m_root r
  · rw [if_pos hm]
    refine ⟨(rg_c _ rfl), fun c => ?_, fun c => ?_⟩
    · exact absurd (show (1 : Int) = 0 from c) (by decide)
    · conv => whnf
      refine ⟨hn, fun c2 => ?_, fun c2 => ?_⟩
      · have c2 : n < 0 := c2
        conv => whnf
        exact bad (Or.inr (Or.inl c2))
      · have c2 : ¬ n < 0 := c2
        conv => whnf
        refine ⟨⟨hn, (rg_c _ rfl)⟩, fun c3 => ?_, fun c3 => ?_⟩
        · have c3 : n ≤ 3 := c3
          have hb : ¬ (¬ m_root r ∨ n < 0 ∨ 3 < n) := by omega
          conv => whnf
          refine ⟨g, ⟨⟨P, C, rfl⟩, hw, by omega, by omega⟩, fun y τ' hp => ?_⟩
          obtain ⟨hy, hτ⟩ := hp
          have hτ : τ' = cls (m_room g (n + 1)) P C := hτ P C rfl
          rcases room_cases hw (w := n + 1) (by omega) (by omega) with ⟨r1, r2⟩ | ⟨a, t, a8, r1, r2, h16, hfit, c10, c11, hap⟩
          · rw [r1] at hy
            rw [r2] at hτ
            subst hy
            subst hτ
            conv => whnf
            refine ⟨⟨(rg_c _ rfl), (rg_c _ rfl)⟩, fun c4 => ?_, fun c4 => ?_⟩
            · exact absurd rfl c4
            · conv => whnf
              refine pu_ret (f := f_make) (g := g) (as := [r, n, v]) (M' := g) ?_ hk
              simp only [f_make]
              rw [if_neg hb, if_pos r1]
          · rw [r1] at hy
            subst hy
            have hrm : m_roomP g (n + 1) ≠ -1 := by rw [r1]; omega
            obtain ⟨L, gi⟩ := id hg
            obtain ⟨t2, r1', t128, _, _, _, gm⟩ := gi_make gi (n := n) (v := v) (by omega) hv hrm
            have ett : t2 = t := by
              rw [r1] at r1'
              omega
            rw [ett] at gm
            have wY := gm.1
            have et : ((t : Int)).toNat = t := by omega
            obtain ⟨R, hR⟩ : ∃ R, R = m_room g (n + 1) := ⟨_, rfl⟩
            rw [← hR] at wY hτ
            subst hτ
            have rcc : ∀ c j, c ≠ 0 → c ≠ 8 → c ≠ 9 → R c j = g c j := fun c j c0 c8 c9 => by rw [hR, r2, mu_cell c9, mu_cell c0, mu_cell c8]
            have R0 : ∀ j, j ≠ 12 → R 0 j = g 0 j := fun j hj => by rw [hR, r2, mu_cell (by decide), mu_place hj, mu_cell (by decide)]
            have ht1 : g 1 t = 0 := by
              rcases wf_ob hw t with z | z
              · exact z
              · have := hap t z (by omega)
                have := wf_sz hw t
                omega
            have ht4 : g 4 t = 0 := by
              rcases wf_mk hw t with z | z
              · exact z
              · have := si_mo hw z
                omega
            -- the class's slots behind the loop
            have hSY : Sl (m_mkY R t n v) P (czf C t n.toNat) := by
              intro i s hx
              have k6 : m_mkY R t n v 6 s = g 6 s := by
                rw [← rcc 6 s (by decide) (by decide) (by decide)]
                simp [m_mkY, m_clr, mu]
              have k7 : m_mkY R t n v 7 s = if 3 * t ≤ s ∧ s < 3 * t + 3 then 0 else g 7 s := by
                rw [← rcc 7 s (by decide) (by decide) (by decide)]
                simp [m_mkY, m_clr, mu]
              rw [k6, k7]
              rcases hx with ⟨q, q1, rfl, rfl⟩ | ⟨q, j, q1, q2, q3, rfl, rfl⟩
              · rw [if_neg (by omega)]
                have := hS (128 + q) (384 + q) (Or.inl ⟨q, q1, rfl, rfl⟩)
                unfold czf
                rw [if_neg (by omega)]
                exact this
              · have k1 : m_mkY R t n v 1 q = if q = t then 1 else g 1 q := by
                  rw [← rcc 1 q (by decide) (by decide) (by decide)]
                  simp [m_mkY, m_clr, mu]
                have k2 : m_mkY R t n v 2 q = if q = t then n else g 2 q := by
                  rw [← rcc 2 q (by decide) (by decide) (by decide)]
                  simp [m_mkY, m_clr, mu]
                rw [k1] at q1
                rw [k2] at q3
                by_cases e : q = t
                · subst e
                  rw [if_pos rfl] at q3
                  rw [if_pos (by omega)]
                  unfold czf
                  rw [if_pos (by omega)]
                  exact ⟨rfl, fun z => absurd rfl z⟩
                · rw [if_neg e] at q1 q3
                  have zq := wf_sz hw q
                  rw [if_neg (by omega)]
                  have ap := move_apart hw h16 hfit hap q1 (i := q + 1 + j) (by omega) (by omega)
                  have := hS (q + 1 + j) (3 * q + j) (Or.inr ⟨q, j, q1, q2, q3, rfl, rfl⟩)
                  unfold czf
                  rw [if_neg (by omega)]
                  exact this
            have eY : ∀ C', cls (m_mkY R t n v) P C' = mu (mu (cls R P C') 3 t v) 4 t n := fun C' => by
              unfold m_mkY
              rw [cn_clr7, cn_3, cn_2, cn_4, cn_1, mu_self (M := cls R P C') (c := 5) (by show R 4 t = 0; rw [rcc 4 t (by decide) (by decide) (by decide)]; exact ht4)]
              rw [mu_comm (c := 4) (d := 3) (fun q => absurd q.1 (by decide))]
            have loop : ∀ (k m : Nat) (j : Int), j = t + m + 1 → m + k = n.toNat → K (cls (m_mkY R t n v) P (czf C t m)) 58 [some (.inr 0), some (.inl r), some (.inl n), some (.inl v), some (.inl (t : Int)), some (.inl j)] [] := by
              intro k
              induction k with
              | zero =>
                intro m j hj hmn
                have hm3 : m = n.toNat := by omega
                subst hm3
                refine hK [] 60 _ _ _ _ ?_
                conv => whnf
                refine ⟨⟨(rgI (by omega) (by omega)), (rgI (by omega) (by omega))⟩, fun c1 => ?_, fun c1 => ?_⟩
                · conv => whnf
                  refine ⟨⟨by omega, by omega⟩, ?_⟩
                  have p13 : m_mkY R t n v 0 13 = g 0 13 := by
                    rw [← R0 13 (by decide)]
                    simp [m_mkY, m_clr, mu]
                  have p14 : m_mkY R t n v 0 14 = g 0 14 := by
                    rw [← R0 14 (by decide)]
                    simp [m_mkY, m_clr, mu]
                  have q13 : mu (cls (m_mkY R t n v) P (czf C t n.toNat)) 1 (128 + r).toNat (t : Int) 0 13 = g 0 13 := by
                    rw [mu_cell (by decide)]; exact p13
                  have q14 : mu (cls (m_mkY R t n v) P (czf C t n.toNat)) 1 (128 + r).toNat (t : Int) 0 16 = g 0 14 := by
                    rw [mu_cell (by decide)]; exact p14
                  conv => whnf
                  refine ⟨g, ⟨by rw [q13]; exact hph, by rw [q14]; omega⟩, fun y τ2 hp => ?_⟩
                  obtain ⟨hy, rfl⟩ := hp
                  rw [q13, q14] at hy
                  have hgd : y = m_good g := hy
                  subst hgd
                  conv => whnf
                  refine ⟨⟨by omega, by omega⟩, ?_⟩
                  conv => whnf
                  have gY : m_good (m_mkY R t n v) = m_good g := good_of p13 p14
                  have gb := good_bd g
                  refine pu_ret (f := f_make) (g := g) (as := [r, n, v]) (M' := m_mk0 R t n v (m_rs r)) ?_ ?_
                  · simp only [f_make]
                    rw [if_neg hb, if_neg hrm, r1, ← hR, et]
                  · rw [mk0_eq, gY]
                    refine kc_set wY hSY ?_ hP (sx_root hm) ⟨by omega, by omega⟩ (rgI (by omega) (by omega))
                    intro i
                    unfold czf
                    split
                    · exact rg_0
                    · exact hC i
                · exact absurd (show (t : Int) + n < j by omega) c1
              | succ k ih =>
                intro m j hj hmn
                refine hK [58] 30 _ _ _ _ ?_
                conv => whnf
                refine ⟨⟨(rgI (by omega) (by omega)), (rgI (by omega) (by omega))⟩, fun c1 => ?_, fun c1 => ?_⟩
                · exact absurd (show (t : Int) + n < j from c1) (by omega)
                · conv => whnf
                  refine ⟨⟨by omega, by omega⟩, ?_⟩
                  conv => whnf
                  rw [show j.toNat = t + m + 1 by omega, ← cn_C, czf_s]
                  exact ih (m + 1) (j + 1) (by omega) (by omega)
            conv => whnf
            refine ⟨⟨(rgI (by omega) (by omega)), (rg_c _ rfl)⟩, fun c4 => ?_, fun c4 => ?_⟩
            · conv => whnf
              refine ⟨⟨by omega, by omega⟩, ?_⟩
              conv => whnf
              refine ⟨⟨by omega, by omega⟩, ?_⟩
              conv => whnf
              have := loop n.toNat 0 ((t : Int) + 1) (by omega) (by omega)
              rw [czf_0, eY] at this
              rw [et]
              exact this
            · have c4 : ((t : Nat) : Int) = -1 := Classical.not_not.mp c4
              omega
        · have c3 : ¬ n ≤ 3 := c3
          conv => whnf
          exact bad (Or.inr (Or.inr (by omega)))
  · rw [if_neg hm]
    refine ⟨(rg_c _ rfl), fun c => ?_, fun c => ?_⟩
    · conv => whnf
      exact bad (Or.inl hm)
    · exact absurd rfl c

/-! an object is moved -/
theorem cp_at (R : Mo) (p t : Nat) : ∀ n a b, m_cp R p t n a b = if (a = 6 ∨ a = 7) ∧ 3 * t ≤ b ∧ b < 3 * t + n then R a (3 * p + (b - 3 * t)) else R a b
  | 0, a, b => by
    rw [if_neg (by omega)]
    rfl
  | n + 1, a, b => by
    show mu (mu (m_cp R p t n) 6 (3 * t + n) (R 6 (3 * p + n))) 7 (3 * t + n) (R 7 (3 * p + n)) a b = _
    by_cases hb : b = 3 * t + n
    · subst hb
      have e : 3 * t + n - 3 * t = n := by omega
      by_cases h7 : a = 7
      · subst h7
        rw [mu_same, if_pos ⟨Or.inr rfl, by omega, by omega⟩, e]
      · by_cases h6 : a = 6
        · subst h6
          rw [mu_cell (by decide), mu_same, if_pos ⟨Or.inl rfl, by omega, by omega⟩, e]
        · rw [mu_cell h7, mu_cell h6, cp_at R p t n, if_neg (by omega), if_neg (by omega)]
    · rw [mu_place hb, mu_place hb, cp_at R p t n]
      by_cases hc : (a = 6 ∨ a = 7) ∧ 3 * t ≤ b ∧ b < 3 * t + n
      · rw [if_pos hc, if_pos ⟨hc.1, hc.2.1, by omega⟩]
      · rw [if_neg hc, if_neg (fun q => hc ⟨q.1, q.2.1, by omega⟩)]
theorem mv_1 (R : Mo) (p t j : Nat) : m_mv R p t 1 j = if j = t then 1 else R 1 j := by
  simp [m_mv, mu, cp_at]
theorem mv_2 (R : Mo) (p t j : Nat) : m_mv R p t 2 j = if j = t then R 2 p else R 2 j := by
  simp [m_mv, mu, cp_at]
theorem mv_3 (R : Mo) (p t j : Nat) : m_mv R p t 3 j = if j = t then R 3 p else R 3 j := by
  simp [m_mv, mu, cp_at]
theorem mv_4 (R : Mo) (p t j : Nat) : m_mv R p t 4 j = if j = t then 0 else if j = p then 0 else R 4 j := by
  simp [m_mv, mu, cp_at]
theorem mv_5 (R : Mo) (p t j : Nat) : m_mv R p t 5 j = if j = p then (t : Int) else R 5 j := by
  simp [m_mv, mu, cp_at]
theorem mv_6 (R : Mo) (p t j : Nat) : m_mv R p t 6 j = if 3 * t ≤ j ∧ j < 3 * t + 3 then R 6 (3 * p + (j - 3 * t)) else R 6 j := by
  simp [m_mv, mu, cp_at]
theorem mv_7 (R : Mo) (p t j : Nat) : m_mv R p t 7 j = if 3 * t ≤ j ∧ j < 3 * t + 3 then R 7 (3 * p + (j - 3 * t)) else R 7 j := by
  simp [m_mv, mu, cp_at]
theorem mv_hi (R : Mo) (p t c j : Nat) (h : 8 ≤ c) : m_mv R p t c j = R c j := by
  have h1 : c ≠ 0 := by omega
  have h2 : c ≠ 1 := by omega
  have h3 : c ≠ 2 := by omega
  have h4 : c ≠ 3 := by omega
  have h5 : c ≠ 4 := by omega
  have h6 : c ≠ 5 := by omega
  have h7 : ¬ (c = 6 ∨ c = 7) := by omega
  simp [m_mv, mu, cp_at, h1, h2, h3, h4, h5, h6, h7]
theorem mv_0 (R : Mo) (p t j : Nat) : m_mv R p t 0 j = if j = 16 then R 0 16 + 1 else R 0 j := by
  simp [m_mv, mu, cp_at]
theorem cn_cp (R : Mo) (p t : Nat) (P C : Nat → Int) : ∀ n, cls (m_cp R p t n) P C = cls R P C
  | 0 => rfl
  | n + 1 => by
    show cls (mu (mu (m_cp R p t n) 6 (3 * t + n) (R 6 (3 * p + n))) 7 (3 * t + n) (R 7 (3 * p + n))) P C = _
    rw [cn_7, cn_6, cn_cp R p t P C n]
def cpf (P : Nat → Int) (p t n : Nat) : Nat → Int := fun j => if t + 1 ≤ j ∧ j ≤ t + n then P (j - t + p) else P j
theorem cpf_0 (P : Nat → Int) (p t : Nat) : cpf P p t 0 = P := by
  funext j
  unfold cpf
  rw [if_neg (by omega)]
theorem cpf_s {P : Nat → Int} {p t n : Nat} (h : ¬ (t + 1 ≤ p + n + 1 ∧ p + n + 1 ≤ t + n)) : fu (cpf P p t n) (t + n + 1) (cpf P p t n (p + n + 1)) = cpf P p t (n + 1) := by
  funext j
  unfold fu
  by_cases hj : j = t + n + 1
  · subst hj
    rw [if_pos rfl]
    unfold cpf
    rw [if_neg h, if_pos (by omega)]
    congr 1
    omega
  · rw [if_neg hj]
    unfold cpf
    by_cases hc : t + 1 ≤ j ∧ j ≤ t + n
    · rw [if_pos hc, if_pos (by omega)]
    · rw [if_neg hc, if_neg (by omega)]
/-- where a moved object goes: apart from all objects -/
theorem move_apart {M : Mo} (h : Wf M) {a t : Nat} {w : Int} (h16 : 16 * a ≤ t) (hw : (t : Int) + w ≤ 16 * a + 16) (ha : ∀ p : Nat, M 1 p = 1 → p / 16 = a → (p : Int) + M 2 p + 1 ≤ t) {p : Nat} (hp : M 1 p = 1) {i : Nat} (i1 : p ≤ i) (i2 : (i : Int) ≤ p + M 2 p) : i < t ∨ (t : Int) + w ≤ i := by
  have h1 := si_obj h hp
  have h2 := wf_us h (p / 16)
  by_cases hq : p / 16 = a
  · have := ha p hp hq
    omega
  · omega
theorem move_sl {M : Mo} (h : Wf M) {a t p : Nat} {P C : Nat → Int} (hp : M 1 p = 1) (ha8 : a < 8) (h16 : 16 * a ≤ t) (hw : (t : Int) + (M 2 p + 1) ≤ 16 * a + 16) (ha : ∀ p : Nat, M 1 p = 1 → p / 16 = a → (p : Int) + M 2 p + 1 ≤ t) (x : Int) (hS : Sl M P C) :
    Sl (m_mv (mu (mu (mu M 8 a 1) 0 12 (a : Int)) 9 a x) p t) (cpf P p t (M 2 p).toNat) (cpf C p t (M 2 p).toNat) := by
  have hz := wf_sz h p
  have rd : ∀ c j, c = 1 ∨ c = 2 ∨ c = 6 ∨ c = 7 → mu (mu (mu M 8 a 1) 0 12 (a : Int)) 9 a x c j = M c j := by
    intro c j hc
    rw [mu_cell (by omega), mu_cell (by omega), mu_cell (by omega)]
  intro i s hx
  rw [mv_6, mv_7, rd 7 _ (by omega), rd 7 _ (by omega), rd 6 _ (by omega), rd 6 _ (by omega)]
  rcases hx with ⟨r, hr, rfl, rfl⟩ | ⟨q, f, q1, q2, q3, rfl, rfl⟩
  · rw [if_neg (by omega), if_neg (by omega)]
    have := hS (128 + r) (384 + r) (Or.inl ⟨r, hr, rfl, rfl⟩)
    unfold cpf
    rw [if_neg (by omega), if_neg (by omega)]
    exact this
  · rw [mv_1, rd 1 _ (by omega)] at q1
    rw [mv_2, rd 2 _ (by omega), rd 2 _ (by omega)] at q3
    by_cases e : q = t
    · subst e
      rw [if_pos rfl] at q3
      rw [if_pos (by omega), if_pos (by omega)]
      have := hS (p + 1 + f) (3 * p + f) (Or.inr ⟨p, f, hp, (si_obj h hp).1, q3, rfl, rfl⟩)
      unfold cpf
      rw [if_pos (by omega), if_pos (by omega), show q + 1 + f - q + p = p + 1 + f by omega, show 3 * p + (3 * q + f - 3 * q) = 3 * p + f by omega]
      exact this
    · rw [if_neg e] at q1 q3
      have zq := wf_sz h q
      rw [if_neg (by omega), if_neg (by omega)]
      have ap := move_apart h h16 hw ha q1 (i := q + 1 + f) (by omega) (by omega)
      have := hS (q + 1 + f) (3 * q + f) (Or.inr ⟨q, f, q1, q2, q3, rfl, rfl⟩)
      unfold cpf
      rw [if_neg (by omega), if_neg (by omega)]
      exact this
theorem vX0_moveAway : VX0_moveAway := by
  intro g σ as h
  match as, h with
  | [p], h =>
    obtain ⟨⟨P, C, rfl, hS, hC, hP⟩, hw, hph, hp, ho⟩ := h
    refine ⟨Nat.le_of_ble_eq_true rfl, fun K hK => ?_⟩
    have hz := wf_sz hw p.toNat
    have hpn : ((p.toNat : Nat) : Int) = p := by omega
    refine hK [54] 60 _ _ _ _ ?_
    conv => whnf
    refine ⟨hp, ?_⟩
    conv => whnf
    refine ⟨g, ⟨⟨P, C, rfl⟩, hw, by show (1 : Int) ≤ g 2 p.toNat + 1; omega, by show g 2 p.toNat + 1 ≤ 4; omega⟩, fun y τ hq => ?_⟩
    obtain ⟨hy, hτ⟩ := hq
    have hy : y = m_roomP g (g 2 p.toNat + 1) := hy
    have hτ : τ = cls (m_room g (g 2 p.toNat + 1)) P C := hτ P C rfl
    rcases room_cases hw (w := g 2 p.toNat + 1) (by omega) (by omega) with ⟨r1, r2⟩ | ⟨a, t, a8, r1, r2, h16, hfit, _, _, hap⟩
    · rw [r1] at hy
      rw [r2] at hτ
      subst hy
      subst hτ
      conv => whnf
      refine ⟨⟨(rg_c _ rfl), (rg_c _ rfl)⟩, fun c => ?_, fun c => ?_⟩
      · exact absurd rfl c
      · conv => whnf
        refine ⟨g, hp, fun y τ hq => ?_⟩
        obtain ⟨rfl, rfl⟩ := hq
        conv => whnf
        refine ⟨⟨⟨by omega, by omega⟩, Or.inl rfl⟩, ?_⟩
        conv => whnf
        refine ⟨fun _ => ⟨rfl, P, C, ?_, sl_congr (fun p => by rw [mu_cell (by decide)]) (fun p => by rw [mu_cell (by decide)]) (fun p => by rw [mu_cell (by decide)]) (fun p => by rw [mu_cell (by decide)]) hS, hC, hP⟩, fun q => absurd r1 q⟩
        rw [cn_11, show (p / 16).toNat = p.toNat / 16 by omega]
    · rw [r1] at hy
      subst hy
      subst hτ
      have htp : t < 128 := by omega
      have hpt := move_apart hw h16 hfit hap ho (i := p.toNat) (Nat.le_refl _) (by omega)
      have hobj := si_obj hw ho
      -- the loop over the fields
      obtain ⟨R, hR⟩ : ∃ R, R = m_room g (g 2 p.toNat + 1) := ⟨_, rfl⟩
      rw [← hR]
      have R2 : ∀ j, R 2 j = g 2 j := fun j => by rw [hR, r2, mu_cell (by decide), mu_cell (by decide), mu_cell (by decide)]
      have R3 : ∀ j, R 3 j = g 3 j := fun j => by rw [hR, r2, mu_cell (by decide), mu_cell (by decide), mu_cell (by decide)]
      have R16 : R 0 16 = g 0 16 := by rw [hR, r2, mu_cell (by decide), mu_place (by decide), mu_cell (by decide)]
      have loop : ∀ (k m : Nat) (j : Int), j = m + 1 → m + k = (g 2 p.toNat).toNat → K (cls (mu (mu R 3 t (R 3 p.toNat)) 2 t (g 2 p.toNat)) (cpf P p.toNat t m) (cpf C p.toNat t m)) 54 [some (.inr 0), some (.inl p), some (.inl (g 2 p.toNat)), some (.inl (t : Int)), some (.inl j)] [] := by
        intro k
        induction k with
        | zero =>
          intro m j hj hm
          refine hK [] 40 _ _ _ _ ?_
          conv => whnf
          refine ⟨⟨(rgI (by omega) (by omega)), (rgI (by omega) (by omega))⟩, fun c1 => ?_, fun c1 => ?_⟩
          · conv => whnf
            refine ⟨hp, ?_⟩
            conv => whnf
            refine ⟨⟨hp, Or.inl rfl⟩, ?_⟩
            conv => whnf
            refine ⟨⟨⟨by omega, by omega⟩, Or.inl rfl⟩, ?_⟩
            conv => whnf
            refine ⟨fun q => absurd (r1.symm.trans q) (by omega), fun _ => ⟨r1.symm, cpf P p.toNat t m, cpf C p.toNat t m, ?_, ?_, ?_, ?_⟩⟩
            · unfold m_move
              rw [if_neg (by rw [r1]; omega), r1, ← hR, show ((t : Int)).toNat = t by omega]
              show mu (mu (mu (mu (cls (mu (mu R 3 t (R 3 p.toNat)) 2 t (g 2 p.toNat)) (cpf P p.toNat t m) (cpf C p.toNat t m)) 6 p.toNat (t : Int)) 5 p.toNat 0) 5 t 0) 0 15 (R 0 16 + 1) = _
              unfold m_mv
              simp only [cn_0_16, cn_5, cn_4, cn_cp, cn_3, cn_2, cn_1, R2]
              rw [mu_comm (c := 6) (d := 5) (fun q => absurd q.1 (by decide)), mu_comm (c := 6) (d := 5) (fun q => absurd q.1 (by decide)), mu_comm (c := 3) (d := 4) (fun q => absurd q.1 (by decide))]
            · unfold m_move
              rw [if_neg (by rw [r1]; omega), r1, r2, show ((t : Int)).toNat = t by omega, show m = (g 2 p.toNat).toNat by omega]
              exact move_sl hw ho a8 h16 hfit hap _ hS
            · intro i; unfold cpf; split
              · exact hC _
              · exact hC _
            · intro i; unfold cpf; split
              · exact hP _
              · exact hP _
          · exact absurd (show g 2 p.toNat < j by omega) c1
        | succ k ih =>
          intro m j hj hm
          refine hK [54] 40 _ _ _ _ ?_
          conv => whnf
          refine ⟨⟨(rgI (by omega) (by omega)), (rgI (by omega) (by omega))⟩, fun c1 => ?_, fun c1 => ?_⟩
          · exact absurd (show g 2 p.toNat < j from c1) (by omega)
          · conv => whnf
            refine ⟨g, ⟨⟨by omega, by omega⟩, by omega, by omega⟩, fun y τ hq => ?_⟩
            have hq : τ = mu (mu (cls (mu (mu R 3 t (R 3 p.toNat)) 2 t (g 2 p.toNat)) (cpf P p.toNat t m) (cpf C p.toNat t m)) 1 ((t : Int) + j).toNat (cpf P p.toNat t m (p + j).toNat)) 2 ((t : Int) + j).toNat (cpf C p.toNat t m (p + j).toNat) := hq
            have e1 : ((t : Int) + j).toNat = t + m + 1 := by omega
            have e2 : (p + j).toNat = p.toNat + m + 1 := by omega
            have ap := move_apart hw h16 hfit hap ho (i := p.toNat + m + 1) (by omega) (by omega)
            rw [e1, e2, ← cn_P, ← cn_C, cpf_s (by omega), cpf_s (by omega)] at hq
            subst hq
            conv => whnf
            exact ih (m + 1) (j + 1) (by omega) (by omega)
      conv => whnf
      refine ⟨⟨(rgI (by omega) (by omega)), (rg_c _ rfl)⟩, fun c => ?_, fun c => ?_⟩
      · conv => whnf
        refine ⟨hp, ?_⟩
        conv => whnf
        refine ⟨⟨by omega, by omega⟩, ?_⟩
        conv => whnf
        refine ⟨⟨by omega, by omega⟩, ?_⟩
        conv => whnf
        have := loop (g 2 p.toNat).toNat 0 1 rfl (by omega)
        rw [cpf_0, cpf_0, cn_2, cn_3] at this
        exact this
      · have c : ((t : Nat) : Int) = -1 := Classical.not_not.mp c
        omega

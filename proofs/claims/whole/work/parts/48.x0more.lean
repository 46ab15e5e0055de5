/-! healing leaves objects where they are; the class's loops of heals, and its relocation -/
theorem mark_c (M : Mo) (p c j : Nat) (h0 : c ≠ 0) (h4 : c ≠ 4) (h12 : c ≠ 12) : m_mark M p c j = M c j := by
  rcases mk_cases M p with ⟨_, e⟩ | ⟨_, e⟩ <;> rw [e]
  rw [mu_cell h0, mu_cell h12, mu_cell h4]
theorem mark_0 (M : Mo) (p j : Nat) (h : j ≠ 17) : m_mark M p 0 j = M 0 j := by
  rcases mk_cases M p with ⟨_, e⟩ | ⟨_, e⟩ <;> rw [e]
  rw [mu_place h, mu_cell (by decide), mu_cell (by decide)]
theorem hset_c (X : Mo) (s : Nat) (p k : Int) (c j : Nat) (h0 : c ≠ 0) (h6 : c ≠ 6) (h7 : c ≠ 7) : hset X s p k c j = X c j := by
  unfold hset
  rw [mu_cell h7, mu_cell h6, mu_cell h0]
theorem hset_0 (X : Mo) (s : Nat) (p k : Int) (j : Nat) (h : j ≠ 15) : hset X s p k 0 j = X 0 j := by
  unfold hset
  rw [mu_cell (by decide), mu_cell (by decide), mu_place h]
theorem hset_6 (X : Mo) (s : Nat) (p k : Int) (j : Nat) : hset X s p k 6 j = if j = s then p else X 6 j := by
  unfold hset
  rw [mu_cell (by decide)]
  by_cases e : j = s
  · rw [if_pos e, e, mu_same]
  · rw [if_neg e, mu_place e, mu_cell (by decide)]
theorem hset_7 (X : Mo) (s : Nat) (p k : Int) (j : Nat) : hset X s p k 7 j = if j = s then k else X 7 j := by
  unfold hset
  by_cases e : j = s
  · rw [if_pos e, e, mu_same]
  · rw [if_neg e, mu_place e, mu_cell (by decide), mu_cell (by decide)]
/-- a move, in one shape -/
theorem move_cases {M : Mo} (h : Wf M) {p : Nat} (hp : M 1 p = 1) : (m_roomP M (M 2 p + 1) = -1 ∧ m_move M p = M) ∨
    ∃ (a t : Nat) (R : Mo), m_roomP M (M 2 p + 1) = (t : Int) ∧ m_move M p = m_mv R p t ∧ a < 8 ∧ 16 * a ≤ t ∧ (t : Int) + (M 2 p + 1) ≤ 16 * a + 16 ∧ M 10 a = 0 ∧ M 11 a = 0 ∧ (∀ q : Nat, M 1 q = 1 → q / 16 = a → (q : Int) + M 2 q + 1 ≤ t) ∧ M 1 t = 0 ∧ t ≠ p ∧
      (∀ c j, c ≠ 0 → c ≠ 8 → c ≠ 9 → R c j = M c j) ∧ (∀ j, j ≠ 12 → R 0 j = M 0 j) := by
  have hz := wf_sz h p
  rcases room_cases h (w := M 2 p + 1) (by omega) (by omega) with ⟨r1, r2⟩ | ⟨a, t, a8, r1, r2, h16, hfit, c10, c11, hap⟩
  · refine Or.inl ⟨r1, ?_⟩
    unfold m_move
    rw [if_pos r1]
  · have ht : M 1 t = 0 := by
      rcases wf_ob h t with z | z
      · exact z
      · have := hap t z (by omega)
        have := wf_sz h t
        omega
    refine Or.inr ⟨a, t, m_room M (M 2 p + 1), r1, ?_, a8, h16, hfit, c10, c11, hap, ht, ?_, ?_, ?_⟩
    · unfold m_move
      rw [if_neg (by rw [r1]; omega), r1]
      rfl
    · intro e
      rw [e, hp] at ht
      omega
    · intro c j c0 c8 c9
      rw [r2, mu_cell c9, mu_cell c0, mu_cell c8]
    · intro j hj
      rw [r2, mu_cell (by decide), mu_place hj, mu_cell (by decide)]
theorem heal_12 {M : Mo} (h : Wf M) {s : Nat} (hh : HR M s) {p : Nat} (hp : M 1 p = 1) : m_heal M s 1 p = 1 ∧ m_heal M s 2 p = M 2 p := by
  unfold m_heal
  split
  · exact ⟨hp, rfl⟩
  · rename_i hn
    have hob := hh (fun q => hn (Or.inl q)) (fun q => hn (Or.inr q))
    split
    · rw [hset_c _ _ _ _ _ _ (by decide) (by decide) (by decide), hset_c _ _ _ _ _ _ (by decide) (by decide) (by decide), mark_c _ _ _ _ (by decide) (by decide) (by decide), mark_c _ _ _ _ (by decide) (by decide) (by decide)]
      exact ⟨hp, rfl⟩
    · split
      · rw [hset_c _ _ _ _ _ _ (by decide) (by decide) (by decide), hset_c _ _ _ _ _ _ (by decide) (by decide) (by decide)]
        exact ⟨hp, rfl⟩
      · split
        · split
          · rw [hset_c _ _ _ _ _ _ (by decide) (by decide) (by decide), hset_c _ _ _ _ _ _ (by decide) (by decide) (by decide), mu_cell (by decide), mu_cell (by decide)]
            exact ⟨hp, rfl⟩
          · rw [hset_c _ _ _ _ _ _ (by decide) (by decide) (by decide), hset_c _ _ _ _ _ _ (by decide) (by decide) (by decide)]
            rcases move_cases h hob with ⟨_, e⟩ | ⟨a, t, R, _, e, _, _, _, _, _, _, ht, _, rc, _⟩
            · rw [e]; exact ⟨hp, rfl⟩
            · have hpt : p ≠ t := fun q => by rw [q, ht] at hp; omega
              rw [e, mv_1, mv_2, if_neg hpt, if_neg hpt, rc _ _ (by decide) (by decide) (by decide), rc _ _ (by decide) (by decide) (by decide)]
              exact ⟨hp, rfl⟩
        · rw [hset_c _ _ _ _ _ _ (by decide) (by decide) (by decide), hset_c _ _ _ _ _ _ (by decide) (by decide) (by decide)]
          exact ⟨hp, rfl⟩
theorem sx_heal {M : Mo} (h : Wf M) {s' : Nat} (hh : HR M s') {i s : Nat} (hx : Sx M i s) : Sx (m_heal M s') i s := by
  rcases hx with hx | ⟨p, f, x1, x2, x3, x4, x5⟩
  · exact Or.inl hx
  · obtain ⟨q1, q2⟩ := heal_12 h hh x1
    exact Or.inr ⟨p, f, q1, x2, by rw [q2]; exact x3, x4, x5⟩
theorem sx_heals {M : Mo} {s n : Nat} (hc : Hc M s n) {i s' : Nat} (hx : Sx M i s') : ∀ k, k ≤ n → Sx (m_heals M s k) i s'
  | 0, _ => hx
  | k + 1, hk => sx_heal (hc k (by omega)).1 (hc k (by omega)).2 (sx_heals hc hx k (by omega))
theorem sx_lt {M : Mo} (h : Wf M) {i s : Nat} (hx : Sx M i s) : i < 134 ∧ s < 390 := by
  rcases hx with ⟨r, a, b, c⟩ | ⟨p, f, a, b, c, d, e⟩
  · omega
  · have := sx_fld h a c
    omega
theorem vX0_healSlots : VX0_healSlots := by
  intro g σ as h
  match as, h with
  | [i, n], h =>
    obtain ⟨hk, hi, hn, s, hsx, hc⟩ := h
    refine ⟨Nat.le_of_ble_eq_true rfl, fun K hK => ?_⟩
    have loop : ∀ (k m : Nat) (j : Int) (σ' : Mo), j = m → m + k = n.toNat → KC (m_heals g s m) σ' → (m < n.toNat → i < 134) → K σ' 2 [some (.inr 0), some (.inl i), some (.inl n), some (.inl j)] [] := by
      intro k
      induction k with
      | zero =>
        intro m j σ' hj hm hkc hi2
        refine hK [] 20 _ _ _ _ ?_
        conv => whnf
        refine ⟨⟨(rgI (by omega) (by omega)), (rgI (by omega) (by omega))⟩, fun c1 => ?_, fun c1 => ?_⟩
        · conv => whnf
          intro s0 hs0
          have em : m = n.toNat := by omega
          rw [← em]
          by_cases hz : m = 0
          · subst hz; exact hkc
          · have w0 := (hc 0 (by omega)).1
            have := (sx_inj w0 (hsx 0 (by omega)) (hs0 0 (by omega))).mp rfl
            have : s = s0 := by omega
            rw [← this]
            exact hkc
        · exact absurd (show n ≤ j by omega) c1
      | succ k ih =>
        intro m j σ' hj hm hkc hi2
        have hb := hi2 (by omega)
        refine hK [2] 20 _ _ _ _ ?_
        conv => whnf
        refine ⟨⟨(rgI (by omega) (by omega)), (rgI (by omega) (by omega))⟩, fun c1 => ?_, fun c1 => ?_⟩
        · exact absurd (show n ≤ j from c1) (by omega)
        · conv => whnf
          obtain ⟨w, hr⟩ := hc m (by omega)
          have hx1 : Sx (m_heals g s m) (i + j).toNat (s + m) := by
            have := sx_heals hc (hsx m (by omega)) m (by omega)
            rw [show (i + j).toNat = i.toNat + m by omega]
            exact this
          have hlt := sx_lt w hx1
          refine ⟨m_heals g s m, ⟨hkc, w, ⟨by omega, by omega⟩, s + m, hx1, hr⟩, fun y τ hp => ?_⟩
          have hp := hp (s + m) hx1
          conv => whnf
          exact ih (m + 1) (j + 1) τ (by omega) (by omega) hp (fun _ => hb)
    refine hK [2] 20 _ _ _ _ ?_
    conv => whnf
    refine loop n.toNat 0 0 σ rfl (by omega) hk (fun hm => ?_)
    have := sx_lt (hc 0 hm).1 (hsx 0 hm)
    omega
theorem fstMk_eq {M : Mo} (h : Wf M) (q : Nat) : m_fst (fun k => decide (M 4 k = 1)) 16 (16 * q) = m_fstMk M q := by
  have e : (fun k => decide (M 4 k = 1)) = (fun k => decide (M 1 k = 1 ∧ M 4 k = 1)) := by
    funext k
    rw [decide_eq_decide]
    exact ⟨fun z => ⟨si_mo h z, z⟩, fun z => z.2⟩
  rw [e]
  rfl
theorem fstMk_in {M : Mo} {q : Nat} (h : m_fstMk M q < 16 * q + 16) : M 1 (m_fstMk M q) = 1 ∧ M 4 (m_fstMk M q) = 1 ∧ 16 * q ≤ m_fstMk M q := by
  have h1 := fst_true (f := fun k => decide (M 1 k = 1 ∧ M 4 k = 1)) 16 (16 * q) h
  have h2 := fst_ge (f := fun k => decide (M 1 k = 1 ∧ M 4 k = 1)) 16 (16 * q)
  have h1 := of_decide_eq_true h1
  exact ⟨h1.1, h1.2, h2⟩
theorem fstMk_le (M : Mo) (q : Nat) : m_fstMk M q ≤ 16 * q + 16 := fst_le 16 (16 * q)
theorem mk_none {M : Mo} (h : Wf M) (q : Nat) : m_fstMk M q = 16 * q + 16 ↔ m_markedIn M q = 0 := by
  constructor
  · intro e
    unfold m_markedIn
    rw [sum_eq (g := fun _ => 0) 16 (16 * q) (fun k h1 h2 => ?_)]
    · rfl
    · have := fst_no (f := fun k => decide (M 1 k = 1 ∧ M 4 k = 1)) 16 (16 * q) k h1 (by unfold m_fstMk at e; omega)
      rw [if_neg (of_decide_eq_false this)]
  · intro e
    have h1 := fstMk_le M q
    rcases Classical.em (m_fstMk M q = 16 * q + 16) with z | z
    · exact z
    · obtain ⟨a, b, c⟩ := fstMk_in (M := M) (q := q) (by omega)
      have := markedIn_0 h e c (by omega)
      omega
theorem rel_c (M : Mo) (q c j : Nat) (h : c ≠ 1 ∧ c ≠ 4 ∧ c ≠ 8 ∧ c ≠ 9 ∧ c ≠ 10 ∧ c ≠ 11) : m_release M q c j = M c j := by
  obtain ⟨h1, h4, h8, h9, h10, h11⟩ := h
  simp [m_release, m_clr, h1, h4, mu, h8, h9, h10, h11]
theorem rel_1 (M : Mo) (q j : Nat) : m_release M q 1 j = if 16 * q ≤ j ∧ j < 16 * q + 16 then 0 else M 1 j := by
  simp [m_release, m_clr, mu]
theorem rel_4 (M : Mo) (q j : Nat) : m_release M q 4 j = if 16 * q ≤ j ∧ j < 16 * q + 16 then 0 else M 4 j := by
  simp [m_release, m_clr, mu]
theorem rel_p (M : Mo) (q c j : Nat) (h : c = 8 ∨ c = 9 ∨ c = 10 ∨ c = 11) : m_release M q c j = if j = q then 0 else M c j := by
  rcases h with rfl | rfl | rfl | rfl <;> simp [m_release, m_clr, mu]
theorem kc_release {M σ : Mo} (h : Wf M) {q : Nat} (hz : ∀ k, 16 * q ≤ k → k < 16 * q + 16 → M 4 k = 0) (hk : KC M σ) : KC (m_release M q) (mu (mu (mu σ 8 q 0) 9 q 0) 10 q 0) := by
  obtain ⟨P, C, rfl, hS, hC, hP⟩ := hk
  refine ⟨P, C, (rel_cls h hz P C).symm, ?_, hC, hP⟩
  intro i s hx
  rw [rel_c _ _ _ _ (by decide), rel_c _ _ _ _ (by decide)]
  refine hS i s ?_
  rcases hx with hx | ⟨p, f, x1, x2, x3, x4, x5⟩
  · exact Or.inl hx
  · rw [rel_1] at x1
    rw [rel_c _ _ _ _ (by decide)] at x3
    split at x1
    · omega
    · exact Or.inr ⟨p, f, x1, x2, x3, x4, x5⟩
theorem inSet_le (M : Mo) : m_inSet M ≤ 8 := by
  have := fst_le (f := fun p => decide (M 11 p = 1)) 8 0
  unfold m_inSet
  omega
theorem inSet_in {M : Mo} (h : m_inSet M ≠ 8) : M 11 (m_inSet M) = 1 := by
  have h1 := inSet_le M
  have := fst_true (f := fun p => decide (M 11 p = 1)) 8 0 (by unfold m_inSet at h h1; omega)
  exact of_decide_eq_true this
theorem vX0_relocateNext : VX0_relocateNext := by
  intro g σ as h
  match as, h with
  | [], h =>
    obtain ⟨hk, hw, hph, hr1⟩ := h
    refine ⟨Nat.le_of_ble_eq_true rfl, fun K hK => ?_⟩
    obtain ⟨P, C, rfl, hS, hC, hP⟩ := hk
    have hle := inSet_le g
    -- behind the move
    have at33 : m_inSet g ≠ 8 → ∀ (σ' : Mo) (z : Option AV), KC (m_reloc1 g (m_inSet g)) σ' → K σ' 33 [some (.inr 0), some (.inl (m_inSet g : Int)), z] [] := by
      intro h8 σ' z hk1
      have hst := inSet_in h8
      have w1 := hr1 (m_inSet g) (by omega) hst
      obtain ⟨P1, C1, rfl, hS1, hC1, hP1⟩ := hk1
      have en : ((m_inSet g : Int)).toNat = m_inSet g := by omega
      have fin : ∀ τ, KC (m_reloc g (m_inSet g)) τ → KC (if m_inSet g = 8 then mu g 0 13 0 else m_reloc g (m_inSet g)) τ := fun τ hq => by rw [if_neg h8]; exact hq
      refine hK [] 40 _ _ _ _ ?_
      conv => whnf
      refine ⟨⟨by omega, by omega⟩, ?_⟩
      conv => whnf
      have e1 : cls (m_reloc1 g (m_inSet g)) P1 C1 10 ((m_inSet g : Int)).toNat = m_reloc1 g (m_inSet g) 11 (m_inSet g) := by rw [en]; rfl
      have hb := wf_st w1 (m_inSet g)
      refine ⟨rgI (by rw [e1]; omega) (by rw [e1]; omega), fun c => ?_, fun c => ?_⟩
      · have c : cls (m_reloc1 g (m_inSet g)) P1 C1 10 ((m_inSet g : Int)).toNat = 0 := c
        rw [e1] at c
        conv => whnf
        refine fin _ ?_
        unfold m_reloc
        rw [if_neg (fun q => by omega)]
        exact ⟨P1, C1, rfl, hS1, hC1, hP1⟩
      · have c : ¬ cls (m_reloc1 g (m_inSet g)) P1 C1 10 ((m_inSet g : Int)).toNat = 0 := c
        rw [e1] at c
        conv => whnf
        refine ⟨g, ⟨⟨by omega, by omega⟩, fun j => wf_mk w1 j⟩, fun y τ hp => ?_⟩
        obtain ⟨hy, rfl⟩ := hp
        have hy : y = if m_fstMk (m_reloc1 g (m_inSet g)) (m_inSet g) = 16 * m_inSet g + 16 then -1 else ((m_fstMk (m_reloc1 g (m_inSet g)) (m_inSet g) : Nat) : Int) := by
          rw [← fstMk_eq w1, hy, en]
          rfl
        by_cases hz : m_fstMk (m_reloc1 g (m_inSet g)) (m_inSet g) = 16 * m_inSet g + 16
        · rw [if_pos hz] at hy
          subst hy
          have hz2 := (mk_none w1 (m_inSet g)).mp hz
          conv => whnf
          refine ⟨⟨(rg_c _ rfl), (rg_c _ rfl)⟩, fun c2 => ?_, fun c2 => ?_⟩
          · exact absurd rfl c2
          · conv => whnf
            refine ⟨g, ⟨by omega, by omega⟩, fun y τ hp => ?_⟩
            have hp : τ = mu (mu (mu (cls (m_reloc1 g (m_inSet g)) P1 C1) 8 ((m_inSet g : Int)).toNat 0) 9 ((m_inSet g : Int)).toNat 0) 10 ((m_inSet g : Int)).toNat 0 := hp
            rw [en] at hp
            subst hp
            conv => whnf
            refine fin _ ?_
            unfold m_reloc
            rw [if_pos ⟨by omega, hz2⟩]
            exact kc_release w1 (fun k h1 h2 => markedIn_0 w1 hz2 h1 h2) ⟨P1, C1, rfl, hS1, hC1, hP1⟩
        · rw [if_neg hz] at hy
          subst hy
          have hl := fstMk_le (m_reloc1 g (m_inSet g)) (m_inSet g)
          conv => whnf
          refine ⟨⟨(rgI (by omega) (by omega)), (rg_c _ rfl)⟩, fun c2 => ?_, fun c2 => ?_⟩
          · conv => whnf
            refine fin _ ?_
            unfold m_reloc
            rw [if_neg (fun q => hz ((mk_none w1 _).mpr q.2))]
            exact ⟨P1, C1, rfl, hS1, hC1, hP1⟩
          · have c2 : ((m_fstMk (m_reloc1 g (m_inSet g)) (m_inSet g) : Nat) : Int) = -1 := Classical.not_not.mp c2
            omega
    refine hK [33] 40 _ _ _ _ ?_
    conv => whnf
    refine ⟨g, fun j => wf_st hw j, fun y τ hp => ?_⟩
    obtain ⟨hy, rfl⟩ := hp
    have hy : y = if m_inSet g = 8 then -1 else ((m_inSet g : Nat) : Int) := hy
    by_cases h8 : m_inSet g = 8
    · rw [if_pos h8] at hy
      subst hy
      conv => whnf
      refine ⟨⟨(rg_c _ rfl), (rg_c _ rfl)⟩, fun c => ?_, fun c => ?_⟩
      · exact absurd rfl c
      · conv => whnf
        show KC _ _
        rw [if_pos h8]
        refine ⟨P, C, ?_, sl_congr (fun p => by rw [mu_cell (by decide)]) (fun p => by rw [mu_cell (by decide)]) (fun p => by rw [mu_cell (by decide)]) (fun p => by rw [mu_cell (by decide)]) hS, hC, hP⟩
        rw [cn_0_13]
    · rw [if_neg h8] at hy
      subst hy
      have en : ((m_inSet g : Int)).toNat = m_inSet g := by omega
      have hst := inSet_in h8
      conv => whnf
      refine ⟨⟨(rgI (by omega) (by omega)), (rg_c _ rfl)⟩, fun c => ?_, fun c => ?_⟩
      · conv => whnf
        refine ⟨g, ⟨⟨by omega, by omega⟩, fun j => wf_mk hw j⟩, fun y τ hp => ?_⟩
        obtain ⟨hy, rfl⟩ := hp
        have hy : y = if m_fstMk g (m_inSet g) = 16 * m_inSet g + 16 then -1 else ((m_fstMk g (m_inSet g) : Nat) : Int) := by
          rw [← fstMk_eq hw, hy, en]
          rfl
        have hl := fstMk_le g (m_inSet g)
        by_cases hz : m_fstMk g (m_inSet g) = 16 * m_inSet g + 16
        · rw [if_pos hz] at hy
          subst hy
          conv => whnf
          refine ⟨⟨(rg_c _ rfl), (rg_c _ rfl)⟩, fun c2 => ?_, fun c2 => ?_⟩
          · conv => whnf
            refine at33 h8 _ _ ?_
            unfold m_reloc1
            rw [if_neg (by omega)]
            exact ⟨P, C, rfl, hS, hC, hP⟩
          · exact absurd rfl c2
        · rw [if_neg hz] at hy
          subst hy
          obtain ⟨k1, k2, k3⟩ := fstMk_in (M := g) (q := m_inSet g) (by omega)
          have en2 : ((m_fstMk g (m_inSet g) : Int)).toNat = m_fstMk g (m_inSet g) := by omega
          conv => whnf
          refine ⟨⟨(rgI (by omega) (by omega)), (rg_c _ rfl)⟩, fun c2 => ?_, fun c2 => ?_⟩
          · have c2 : ((m_fstMk g (m_inSet g) : Nat) : Int) = -1 := c2
            omega
          · conv => whnf
            refine ⟨g, ⟨⟨P, C, rfl, hS, hC, hP⟩, hw, hph, ⟨by omega, by omega⟩, by rw [en2]; exact k1⟩, fun y τ hp => ?_⟩
            obtain ⟨hp1, hp2⟩ := hp
            rw [en2] at hp1 hp2
            conv => whnf
            refine at33 h8 _ _ ?_
            unfold m_reloc1
            rw [if_pos (by omega)]
            by_cases hrm : m_roomP g (g 2 (m_fstMk g (m_inSet g)) + 1) = -1
            · rw [if_pos hrm]
              have := (hp1 hrm).2
              rw [show m_fstMk g (m_inSet g) / 16 = m_inSet g by omega] at this
              exact this
            · rw [if_neg hrm]
              exact (hp2 hrm).2
      · have c : ((m_inSet g : Nat) : Int) = -1 := Classical.not_not.mp c
        omega

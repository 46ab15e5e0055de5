/-! runs of the class: what the law calls -/
/-- the place that the class answers of a root -/
theorem cls_place {M : Mo} {P C : Nat → Int} (hS : Sl M P C) {r : Int} (hm : m_root r) : C (128 + r.toNat) = M 7 (m_rs r) ∧ (M 7 (m_rs r) ≠ 0 → P (128 + r.toNat) = M 6 (m_rs r)) :=
  hS (128 + r.toNat) (384 + r.toNat) (Or.inl ⟨r.toNat, by omega, rfl, rfl⟩)
theorem place_eq {M : Mo} {P C : Nat → Int} (hS : Sl M P C) (r : Int) : (if ¬ m_root r then (-1 : Int) else if C (128 + r.toNat) = 0 then -2 else P (128 + r.toNat)) = (f_place M [r]).1 := by
  simp only [f_place]
  by_cases hm : m_root r
  · obtain ⟨a, b⟩ := cls_place hS hm
    have hn : ¬ ¬ m_root r := fun q => q hm
    rw [if_neg hn, if_neg hn, a]
    by_cases h0 : M 7 (m_rs r) = 0
    · rw [if_pos h0, if_pos h0]
    · rw [if_neg h0, if_neg h0, b h0]
  · rw [if_pos hm, if_pos hm]
theorem place_bd {M : Mo} (h : Wf M) (r : Int) : (f_place M [r]).1 = -1 ∧ ¬ m_root r ∨ (f_place M [r]).1 = -2 ∧ m_root r ∧ M 7 (m_rs r) = 0 ∨ m_root r ∧ M 7 (m_rs r) ≠ 0 ∧ (f_place M [r]).1 = M 6 (m_rs r) := by
  simp only [f_place]
  by_cases hm : m_root r
  · rw [if_neg (fun q => q hm)]
    by_cases h0 : M 7 (m_rs r) = 0
    · rw [if_pos h0]; exact Or.inr (Or.inl ⟨rfl, hm, h0⟩)
    · rw [if_neg h0]; exact Or.inr (Or.inr ⟨hm, h0, rfl⟩)
  · rw [if_pos hm]; exact Or.inl ⟨rfl, hm⟩
/-- place, as the law sees it -/
theorem vX0_placeL : ∀ (g σ : Mo) (as : List Int), puP KC 1 g σ as → (en_avs false as).length ≤ 2 ∧ ∀ K : Mo → Nat → LoT → List AV → Prop, en_Cl SX0 0 flX0_place fpX0_place ctX0_place tX0_place 1 (puQ KC f_place g σ as) K → K σ 0 (en_lo0 false as 2) [] := by
  intro g σ as h
  obtain ⟨⟨hk, hg⟩, hcy, hl, ha⟩ := h
  obtain ⟨r, rfl⟩ := len1 hl
  have h1 := ha r (by simp)
  obtain ⟨P, C, rfl, hS, hC, hP⟩ := id hk
  have fin : ∀ y, (if ¬ m_root r then (-1 : Int) else if C (128 + r.toNat) = 0 then -2 else P (128 + r.toNat)) = y → y = (f_place g [r]).1 ∧ KC (f_place g [r]).2 (cls g P C) := fun y e => ⟨by rw [← e, place_eq hS], hk⟩
  refine ⟨Nat.le_of_ble_eq_true rfl, fun K hK => hK [] 30 _ _ _ _ ?_⟩
  conv => whnf
  refine ⟨g, h1, fun y τ hp => ?_⟩
  obtain ⟨rfl, rfl⟩ := hp
  conv => whnf
  by_cases hr : m_root r
  · rw [if_pos hr]
    refine ⟨(rg_c _ rfl), fun c => ?_, fun c => ?_⟩
    · conv => whnf
      refine ⟨g, ⟨⟨by omega, by omega⟩, fun j => hC j⟩, fun y τ hp => ?_⟩
      obtain ⟨rfl, rfl⟩ := hp
      have e : (128 + r).toNat = 128 + r.toNat := by omega
      have e2 : cls g P C 2 (128 + r.toNat) = C (128 + r.toNat) := rfl
      by_cases hc : C (128 + r.toNat) = 0
      · rw [e, e2, if_pos hc]
        conv => whnf
        refine ⟨(rg_c _ rfl), fun c => ?_, fun c => ?_⟩
        · exact absurd (show (1 : Int) = 0 from c) (by decide)
        · conv => whnf
          refine fin _ ?_
          rw [if_neg (fun q => q hr), if_pos hc]
      · rw [e, e2, if_neg hc]
        conv => whnf
        refine ⟨(rg_c _ rfl), fun c => ?_, fun c => ?_⟩
        · conv => whnf
          refine ⟨⟨by omega, by omega⟩, ?_⟩
          conv => whnf
          refine fin _ ?_
          rw [if_neg (fun q => q hr), if_neg hc, e]
          rfl
        · exact absurd (show (0 : Int) = 0 from rfl) c
    · exact absurd (show ¬ (1 : Int) = 0 by decide) c
  · rw [if_neg hr]
    refine ⟨(rg_c _ rfl), fun c => ?_, fun c => ?_⟩
    · exact absurd rfl c
    · conv => whnf
      refine fin _ ?_
      rw [if_pos hr]
theorem vX0_fieldSlot : VX0_fieldSlot := by
  intro g σ as h
  match as, h with
  | [r, f], h =>
    obtain ⟨hk, hg, hr, hf⟩ := h
    obtain ⟨P, C, rfl, hS, hC, hP⟩ := id hk
    have hw := gd_wf hg
    refine ⟨Nat.le_of_ble_eq_true rfl, fun K hK => hK [] 60 _ _ _ _ ?_⟩
    conv => whnf
    refine ⟨g, ⟨hr, fun j => hC j⟩, fun y τ hp => ?_⟩
    obtain ⟨hy, rfl⟩ := hp
    have hy : y = (f_place g [r]).1 := by rw [← place_eq hS]; exact hy
    have hz := wf_sz hw (g 6 (m_rs r)).toNat
    have hpl := wf_pl hw (m_rs r)
    rcases place_bd hw r with ⟨e, hm⟩ | ⟨e, hm, h0⟩ | ⟨hm, h0, e⟩
    · rw [e] at hy
      subst hy
      have ef : m_field g r f = -1 := by unfold m_field; rw [if_pos hm]
      conv => whnf
      refine ⟨(rg_c _ rfl), fun c => ?_, fun c => ?_⟩
      · exact absurd (show (0 : Int) ≤ -1 from c) (by decide)
      · conv => whnf
        exact ⟨rfl, fun _ => ef.symm, fun z => by rw [ef] at z; omega⟩
    · rw [e] at hy
      subst hy
      have ef : m_field g r f = -2 := by unfold m_field; rw [if_neg (fun q => q hm), if_pos h0]
      conv => whnf
      refine ⟨(rg_c _ rfl), fun c => ?_, fun c => ?_⟩
      · exact absurd (show (0 : Int) ≤ -2 from c) (by decide)
      · conv => whnf
        exact ⟨rfl, fun _ => ef.symm, fun z => by rw [ef] at z; omega⟩
    · rw [e] at hy
      subst hy
      have bad : (f < 0 ∨ g 2 (g 6 (m_rs r)).toNat ≤ f) → m_field g r f = -1 := fun z => by unfold m_field; rw [if_neg (fun q => q hm), if_neg h0, if_pos z]
      conv => whnf
      refine ⟨(rgI (by omega) (by omega)), fun c => ?_, fun c => ?_⟩
      · conv => whnf
        refine ⟨hf, fun c2 => ?_, fun c2 => ?_⟩
        · have c2 : f < 0 := c2
          have ef := bad (Or.inl c2)
          conv => whnf
          exact ⟨rfl, fun _ => ef.symm, fun z => by rw [ef] at z; omega⟩
        · have c2 : ¬ f < 0 := c2
          conv => whnf
          refine ⟨⟨by omega, by omega⟩, ?_⟩
          conv => whnf
          have e4 : cls g P C 4 (g 6 (m_rs r)).toNat = g 2 (g 6 (m_rs r)).toNat := rfl
          refine ⟨⟨hf, rgI (by rw [e4]; omega) (by rw [e4]; omega)⟩, fun c3 => ?_, fun c3 => ?_⟩
          · have c3 : f < cls g P C 4 (g 6 (m_rs r)).toNat := c3
            rw [e4] at c3
            have ef : m_field g r f = 3 * g 6 (m_rs r) + f := by unfold m_field; rw [if_neg (fun q => q hm), if_neg h0, if_neg (by omega)]
            conv => whnf
            obtain ⟨L, gi⟩ := hg
            obtain ⟨_, _, hL, _⟩ := gi_rt gi hm h0
            have ho := gi.2.1 _ hL
            refine ⟨rfl, fun z => by rw [ef] at z; omega, fun _ => ⟨⟨by omega, by omega⟩, Or.inr ⟨(g 6 (m_rs r)).toNat, f.toNat, ho, by omega, by omega, by omega, by rw [ef]; omega⟩⟩⟩
          · have c3 : ¬ f < cls g P C 4 (g 6 (m_rs r)).toNat := c3
            rw [e4] at c3
            have ef := bad (Or.inr (by omega))
            conv => whnf
            exact ⟨rfl, fun _ => ef.symm, fun z => by rw [ef] at z; omega⟩
      · exact absurd (show (0 : Int) ≤ g 6 (m_rs r) by omega) c
theorem judges_1 {M : Mo} {L : Nat → Prop} (h : GI M L 6 (fun _ _ => False)) (hs : M 0 17 = 0) : ∀ k, k ≤ 8 → ∀ p, m_judges (m_nofw M) k 1 p = 1 → M 1 p = 1
  | 0, _, p, hp => by
    have e : m_nofw M 1 p = M 1 p := by unfold m_nofw; rw [fill_cell (by decide)]
    rw [← e]; exact hp
  | k + 1, hk, p, hp => by
    have ih := judges_1 h hs k (by omega) p
    have hp : m_judge (m_judges (m_nofw M) k) k 1 p = 1 := hp
    unfold m_judge at hp
    split at hp
    · split at hp
      · rw [rel_1] at hp
        split at hp
        · omega
        · exact ih hp
      · split at hp
        · rw [mu_cell (by decide)] at hp; exact ih hp
        · exact ih hp
    · exact ih hp
theorem vX0_step : VX0_step := by
  intro g σ as h
  match as, h with
  | [], h =>
    obtain ⟨hk, hg, hc⟩ := h
    obtain ⟨P, C, rfl, hS, hC, hP⟩ := id hk
    have hw := gd_wf hg
    have hph := wf_ph hw
    have hsk := wf_sk hw
    have roots : ∀ (X : Mo), Hc X 384 6 → ∀ k, k < (6 : Int).toNat → Sx X ((128 : Int).toNat + k) (384 + k) := fun X _ k hk => Or.inl ⟨k, hk, rfl, rfl⟩
    have e13 : cls g P C 0 13 = g 0 13 := rfl
    have e17 : cls g P C 0 8 = g 0 17 := rfl
    refine ⟨Nat.le_of_ble_eq_true rfl, fun K hK => hK [] 60 _ _ _ _ ?_⟩
    conv => whnf
    refine ⟨rgI (by rw [e13]; omega) (by rw [e13]; omega), fun c => ?_, fun c => ?_⟩
    · have c : ¬ g 0 13 = 0 := c
      conv => whnf
      refine ⟨⟨rgI (by rw [e13]; omega) (by rw [e13]; omega), (rg_c _ rfl)⟩, fun c2 => ?_, fun c2 => ?_⟩
      · have c2 : ¬ g 0 13 = 2 := c2
        have h1 : g 0 13 = 1 := by omega
        conv => whnf
        refine ⟨rgI (by rw [e17]; omega) (by rw [e17]; omega), fun c3 => ?_, fun c3 => ?_⟩
        · have c3 : g 0 17 ≤ 0 := c3
          obtain ⟨hJ, hH⟩ := gd_ph1c hg h1 (by omega)
          conv => whnf
          refine ⟨g, ⟨⟨P, C, rfl⟩, hJ⟩, fun y τ hp => ?_⟩
          have hp : τ = cls (m_choose0 g) P C := hp P C rfl
          subst hp
          conv => whnf
          have hkc : KC (m_choose0 g) (cls (m_choose0 g) P C) := by
            obtain ⟨L, gi⟩ := id hg
            obtain ⟨yw, y2, y4, y6, y7, y5, y0, y1, y11, y10⟩ := jv_all gi (by omega) 8 (Nat.le_refl 8)
            refine ⟨P, C, rfl, ?_, hC, hP⟩
            intro i s hx
            have s6 : m_choose0 g 6 s = g 6 s := by unfold m_choose0; rw [mu_cell (by decide)]; exact y6 s
            have s7 : m_choose0 g 7 s = g 7 s := by unfold m_choose0; rw [mu_cell (by decide)]; exact y7 s
            rw [s6, s7]
            refine hS i s ?_
            rcases hx with hx | ⟨p, f, x1, x2, x3, x4, x5⟩
            · exact Or.inl hx
            · refine Or.inr ⟨p, f, ?_, x2, ?_, x4, x5⟩
              · exact judges_1 gi (by omega) 8 (Nat.le_refl 8) p (by unfold m_choose0 at x1; rw [mu_cell (by decide)] at x1; exact x1)
              · unfold m_choose0 at x3
                rw [mu_cell (by decide), y2] at x3
                exact x3
          refine ⟨m_choose0 g, ⟨hkc, by decide, ⟨by decide, by decide⟩, 384, roots _ hH, hH⟩, fun y τ hp => ?_⟩
          have hp : KC (m_heals (m_choose0 g) 384 6) τ := hp 384 (roots _ hH)
          conv => whnf
          show KC (m_step g) τ
          unfold m_step
          rw [if_neg c, if_pos h1, if_neg (by omega)]
          exact hp
        · have c3 : ¬ g 0 17 ≤ 0 := c3
          obtain ⟨hH, ho⟩ := gd_ph1 hg h1 (by omega)
          have hst := wf_stk hw (g 0 17 - 1).toNat
          have hz := wf_sz hw (m_top g)
          have htop : ((m_top g : Nat) : Int) = g 12 (g 0 17 - 1).toNat := by unfold m_top; omega
          have hkc : KC (m_pop g) (mu (cls g P C) 0 8 (g 0 17 - 1)) := by
            refine ⟨P, C, ?_, sl_congr (fun p => by unfold m_pop; rw [mu_cell (by decide)]) (fun p => by unfold m_pop; rw [mu_cell (by decide)]) (fun p => by unfold m_pop; rw [mu_cell (by decide)]) (fun p => by unfold m_pop; rw [mu_cell (by decide)]) hS, hC, hP⟩
            unfold m_pop
            rw [cn_0_17]
          conv => whnf
          refine ⟨⟨by show 0 ≤ g 0 17 - 1; omega, by show g 0 17 - 1 < 128; omega⟩, ?_⟩
          conv => whnf
          have eq1 : mu (cls g P C) 0 8 (cls g P C 0 8 - 1) 7 (mu (cls g P C) 0 8 (cls g P C 0 8 - 1) 0 8).toNat = (m_top g : Int) := by
            rw [mu_same, mu_cell (by decide), htop]
            rfl
          refine ⟨by rw [eq1]; omega, ?_⟩
          conv => whnf
          have eq2 : mu (cls g P C) 0 8 (cls g P C 0 8 - 1) 4 (mu (cls g P C) 0 8 (cls g P C 0 8 - 1) 7 (mu (cls g P C) 0 8 (cls g P C 0 8 - 1) 0 8).toNat).toNat = g 2 (m_top g) := by
            rw [eq1, mu_cell (by decide)]
            rfl
          have ht : m_top g < 128 := (si_obj hw ho).1
          have sx : ∀ k, k < (g 2 (m_top g)).toNat → Sx (m_pop g) (((m_top g : Int) + 1).toNat + k) (3 * m_top g + k) := fun k hk => Or.inr ⟨m_top g, k, by unfold m_pop; rw [mu_cell (by decide)]; exact ho, ht, by unfold m_pop; rw [mu_cell (by decide)]; omega, by omega, rfl⟩
          refine ⟨m_pop g, ⟨hkc, by rw [eq1]; omega, by rw [eq2]; omega, 3 * m_top g, by rw [eq2, eq1]; exact sx, by rw [eq2]; exact hH⟩, fun y τ hp => ?_⟩
          have hp := hp (3 * m_top g) (by rw [eq2, eq1]; exact sx)
          rw [eq2] at hp
          conv => whnf
          show KC (m_step g) τ
          unfold m_step
          rw [if_neg c, if_pos h1, if_pos (by omega)]
          exact hp
      · have c2 : g 0 13 = 2 := Classical.not_not.mp c2
        conv => whnf
        refine ⟨g, ⟨hk, hw, c2, gd_ph2 hg c2⟩, fun y τ hp => ?_⟩
        conv => whnf
        show KC (m_step g) τ
        unfold m_step
        rw [if_neg c, if_neg (by omega)]
        exact hp
    · have c : g 0 13 = 0 := Classical.not_not.mp c
      have hH := gd_ph0 hg c hc
      conv => whnf
      refine ⟨g, ⟨⟨P, C, rfl⟩, hw⟩, fun y τ hp => ?_⟩
      have hp : τ = cls (m_begin0 g) P C := hp P C rfl
      subst hp
      conv => whnf
      have bc : ∀ c j, c = 1 ∨ c = 2 ∨ c = 6 ∨ c = 7 → m_begin0 g c j = g c j := fun c j hc => by
        unfold m_begin0
        rw [mu_cell (by omega), fill_cell (by omega), fill_cell (by omega), mu_cell (by omega), mu_cell (by omega)]
      have hkc : KC (m_begin0 g) (cls (m_begin0 g) P C) := ⟨P, C, rfl, sl_congr (fun p => bc 1 p (by omega)) (fun p => bc 2 p (by omega)) (fun p => bc 6 p (by omega)) (fun p => bc 7 p (by omega)) hS, hC, hP⟩
      refine ⟨m_begin0 g, ⟨hkc, by decide, ⟨by decide, by decide⟩, 384, roots _ hH, hH⟩, fun y τ hp => ?_⟩
      have hp : KC (m_heals (m_begin0 g) 384 6) τ := hp 384 (roots _ hH)
      conv => whnf
      show KC (m_step g) τ
      unfold m_step
      rw [if_pos c]
      exact hp
theorem vX0_collect : VX0_collect := by
  intro g σ as h
  obtain ⟨⟨hk, hg⟩, hcy, hl, ha⟩ := h
  obtain ⟨n, rfl⟩ := len1 hl
  have hn := ha n (by simp)
  obtain ⟨n1, n2⟩ := id hn
  refine ⟨Nat.le_of_ble_eq_true rfl, fun K hK => ?_⟩
  have bad : (n < 0 ∨ 100 < n) → K σ 10 [some (.inr 0), some (.inl n), none] [] := by
    intro hb
    refine hK [] 20 _ _ _ _ ?_
    conv => whnf
    refine pu_ret (f := f_collect) (g := g) (as := [n]) (M' := g) ?_ hk
    simp only [f_collect]
    rw [if_pos hb]
  have loop : ¬ (n < 0 ∨ 100 < n) → ∀ (k m : Nat) (j : Int) (σ' : Mo), j = m → m + k = n.toNat → KC (m_steps g m) σ' → K σ' 14 [some (.inr 0), some (.inl n), some (.inl j)] [] := by
    intro hb k
    induction k with
    | zero =>
      intro m j σ' hj hm hk1
      refine hK [] 20 _ _ _ _ ?_
      conv => whnf
      refine ⟨⟨(rgI (by omega) (by omega)), hn⟩, fun c1 => ?_, fun c1 => ?_⟩
      · conv => whnf
        obtain ⟨P, C, rfl, _⟩ := id hk1
        refine pu_ret (f := f_collect) (g := g) (as := [n]) (M' := m_steps g m) ?_ hk1
        simp only [f_collect]
        rw [if_neg hb, show n.toNat = m by omega]
        rfl
      · exact absurd (show n ≤ j by omega) c1
    | succ k ih =>
      intro m j σ' hj hm hk1
      refine hK [14] 20 _ _ _ _ ?_
      conv => whnf
      refine ⟨⟨(rgI (by omega) (by omega)), hn⟩, fun c1 => ?_, fun c1 => ?_⟩
      · exact absurd (show n ≤ j from c1) (by omega)
      · conv => whnf
        obtain ⟨g1, e1⟩ := gd_steps hg m (by omega)
        refine ⟨m_steps g m, ⟨hk1, g1, by omega⟩, fun y τ hp => ?_⟩
        have hp : KC (m_step (m_steps g m)) τ := hp
        conv => whnf
        exact ih (m + 1) (j + 1) τ (by omega) (by omega) hp
  refine hK [10, 14] 20 _ _ _ _ ?_
  conv => whnf
  refine ⟨hn, fun c => ?_, fun c => ?_⟩
  · have c : n < 0 := c
    conv => whnf
    exact bad (Or.inl c)
  · have c : ¬ n < 0 := c
    conv => whnf
    refine ⟨⟨hn, (rg_c _ rfl)⟩, fun c2 => ?_, fun c2 => ?_⟩
    · have c2 : n ≤ 100 := c2
      conv => whnf
      exact loop (by omega) n.toNat 0 0 σ rfl (by omega) hk
    · have c2 : ¬ n ≤ 100 := c2
      conv => whnf
      exact bad (Or.inr (by omega))

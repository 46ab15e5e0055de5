/-! the class heals -/
theorem good_bd (M : Mo) : 1 ≤ m_good M ∧ m_good M ≤ 3 := by
  unfold m_good m_mc
  split
  · split <;> omega
  · omega
theorem kc_hset {X : Mo} {P C : Nat → Int} (hw : Wf X) (h : Sl X P C) (hC : ∀ i, rg (C i)) (hP : ∀ i, 0 ≤ P i ∧ P i < 128) {i s : Nat} (hx : Sx X i s) {a b : Int} (ha : 0 ≤ a ∧ a < 128) (hb : rg b) :
    KC (hset X s a b) (mu (mu (mu (cls X P C) 1 i a) 2 i b) 0 14 (X 0 15 + 1)) := by
  have h1 := kc_set (M := mu X 0 15 (X 0 15 + 1)) (wf_mu15 hw) (P := P) (C := C) (sl_congr (fun p => by rw [mu_cell (by decide)]) (fun p => by rw [mu_cell (by decide)]) (fun p => by rw [mu_cell (by decide)]) (fun p => by rw [mu_cell (by decide)]) h) hC hP (i := i) (s := s) (sx_congr (M' := X) (fun p => by rw [mu_cell (by decide)]) (fun p => by rw [mu_cell (by decide)]) hx) ha hb
  rw [cn_0_15] at h1
  rw [mu_comm (c := 2) (d := 0) (fun q => absurd q.1 (by decide)), mu_comm (c := 1) (d := 0) (fun q => absurd q.1 (by decide))]
  exact h1
theorem vX0_heal : VX0_heal := by
  intro g σ as h
  match as, h with
  | [i], h =>
    obtain ⟨⟨P, C, rfl, hS, hC, hP⟩, hw, hi, s, hx, hh⟩ := h
    refine ⟨Nat.le_of_ble_eq_true rfl, fun K hK => ?_⟩
    have hph := wf_ph hw
    have hcy := wf_cy hw
    have hgd := good_bd g
    obtain ⟨hs1, hs2⟩ := hS i.toNat s hx
    have fin : ∀ τ, KC (m_heal g s) τ → ∀ s', Sx g i.toNat s' → KC (m_heal g s') τ := fun τ hk s' hx' => by
      rw [← (sx_inj hw hx hx').mp rfl]; exact hk
    have hco := wf_co hw s
    have hpl := wf_pl hw s
    -- the end
    have at118 : ∀ (M' : Mo) (P' C' : Nat → Int) (v : Int) (z : Option AV), KC (m_heal g s) (mu (mu (mu (cls M' P' C') 1 i.toNat v) 2 i.toNat (m_good g)) 0 14 (M' 0 15 + 1)) → K (cls M' P' C') 118 [some (.inr 0), some (.inl i), some (.inl (C i.toNat)), some (.inl (m_good g)), some (.inl v), z] [] := by
      intro M' P' C' v z hk
      refine hK [] 40 _ _ _ _ ?_
      conv => whnf
      refine ⟨hi, ?_⟩
      conv => whnf
      refine ⟨hi, ?_⟩
      conv => whnf
      exact fin _ hk
    have hcase : ¬ (g 7 s = 0 ∨ g 7 s = m_good g) → ∀ (fl : Int), (fl = 1 ∧ m_isF g s) ∨ (fl = 0 ∧ ¬ m_isF g s) → K (cls g P C) 67 [some (.inr 0), some (.inl i), some (.inl (C i.toNat)), some (.inl (m_good g)), some (.inl (m_res g s : Int)), some (.inl fl)] [] := by
      intro hn fl hfl
      have hob := hh (fun q => hn (Or.inl q)) (fun q => hn (Or.inr q))
      have hr := (si_obj hw hob).1
      refine hK [118] 40 _ _ _ _ ?_
      conv => whnf
      refine ⟨⟨rgI (by show _ ≤ g 0 13; omega) (by show g 0 13 < _; omega), (rg_c _ rfl)⟩, fun c => ?_, fun c => ?_⟩
      · have c : ¬ g 0 13 = 1 := c
        conv => whnf
        refine ⟨⟨rgI (by show _ ≤ g 0 13; omega) (by show g 0 13 < _; omega), (rg_c _ rfl)⟩, fun c2 => ?_, fun c2 => ?_⟩
        · have c2 : ¬ g 0 13 = 2 := c2
          conv => whnf
          refine at118 g P C _ _ ?_
          unfold m_heal
          rw [if_neg hn, if_neg c]
          have e3 : m_good g = 3 := by unfold m_good; rw [if_neg c]
          rw [e3]
          by_cases hF : m_isF g s
          · rw [if_pos hF]
            exact kc_hset hw hS hC hP hx ⟨by omega, by omega⟩ (rg_c _ rfl)
          · rw [if_neg hF, if_neg (fun q => c2 q.1)]
            exact kc_hset hw hS hC hP hx ⟨by omega, by omega⟩ (rg_c _ rfl)
        · have c2 : g 0 13 = 2 := Classical.not_not.mp c2
          have e3 : m_good g = 3 := by unfold m_good; rw [if_neg c]
          conv => whnf
          refine ⟨rgI (by omega) (by omega), fun c3 => ?_, fun c3 => ?_⟩
          · have c3 : ¬ fl = 0 := c3
            have hF : m_isF g s := by
              rcases hfl with q | q
              · exact q.2
              · exact absurd q.1 c3
            conv => whnf
            refine at118 g P C _ _ ?_
            unfold m_heal
            rw [if_neg hn, if_neg c, if_pos hF, e3]
            exact kc_hset hw hS hC hP hx ⟨by omega, by omega⟩ (rg_c _ rfl)
          · have c3 : fl = 0 := Classical.not_not.mp c3
            have hF : ¬ m_isF g s := by
              rcases hfl with q | q
              · omega
              · exact q.2
            conv => whnf
            refine ⟨g, ⟨by omega, by omega⟩, fun y τ hp => ?_⟩
            obtain ⟨rfl, rfl⟩ := hp
            conv => whnf
            refine ⟨⟨by omega, by omega⟩, ?_⟩
            conv => whnf
            have e4 : cls g P C 10 ((m_res g s : Int) / 16).toNat = g 11 (m_res g s / 16) := by
              show g 11 _ = _
              congr 1
            have hst := wf_st hw (m_res g s / 16)
            refine ⟨rgI (by rw [e4]; omega) (by rw [e4]; omega), fun c4 => ?_, fun c4 => ?_⟩
            · have c4 : cls g P C 10 ((m_res g s : Int) / 16).toNat = 0 := c4
              rw [e4] at c4
              conv => whnf
              refine at118 g P C _ _ ?_
              unfold m_heal
              rw [if_neg hn, if_neg c, if_neg hF, if_neg (fun q => by omega), e3]
              exact kc_hset hw hS hC hP hx ⟨by omega, by omega⟩ (rg_c _ rfl)
            · have c4 : ¬ cls g P C 10 ((m_res g s : Int) / 16).toNat = 0 := c4
              rw [e4] at c4
              have c5 : g 0 13 = 2 ∧ g 11 (m_res g s / 16) = 1 := ⟨c2, by omega⟩
              conv => whnf
              have en : ((m_res g s : Int)).toNat = m_res g s := by omega
              refine ⟨g, ⟨⟨P, C, rfl, hS, hC, hP⟩, hw, c2, ⟨by omega, by omega⟩, by rw [en]; exact hob⟩, fun y τ hp => ?_⟩
              obtain ⟨hp1, hp2⟩ := hp
              rw [en] at hp1 hp2
              by_cases hrm : m_roomP g (g 2 (m_res g s) + 1) = -1
              · obtain ⟨hy, P', C', rfl, hS', hC', hP'⟩ := hp1 hrm
                subst hy
                conv => whnf
                refine at118 (mu g 11 (m_res g s / 16) 0) P' C' _ _ ?_
                unfold m_heal
                rw [if_neg hn, if_neg c, if_neg hF, if_pos c5, if_pos hrm, e3]
                exact kc_hset (wf_unset hw _) hS' hC' hP' (sx_congr (M' := g) (fun p => by rw [mu_cell (by decide)]) (fun p => by rw [mu_cell (by decide)]) hx) ⟨by omega, by omega⟩ (rg_c _ rfl)
              · obtain ⟨hy, P', C', rfl, hS', hC', hP'⟩ := hp2 hrm
                subst hy
                conv => whnf
                refine at118 (m_move g (m_res g s)) P' C' _ _ ?_
                unfold m_heal
                rw [if_neg hn, if_neg c, if_neg hF, if_pos c5, if_neg hrm, e3]
                have hz := wf_sz hw (m_res g s)
                rcases room_cases hw (w := g 2 (m_res g s) + 1) (by omega) (by omega) with ⟨r1, r2⟩ | ⟨a, t, a8, r1, r2, h16, hfit, _, _, hap⟩
                · exact absurd r1 hrm
                · have hM : m_move g (m_res g s) = m_mv (mu (mu (mu g 8 a 1) 0 12 (a : Int)) 9 a ((t : Int) - 16 * a + (g 2 (m_res g s) + 1))) (m_res g s) t := by
                    unfold m_move
                    rw [if_neg hrm, r1, r2]
                    rfl
                  refine kc_hset (wf_move hw hob c) hS' hC' hP' ?_ (by rw [r1]; omega) (rg_c _ rfl)
                  rcases hx with hx | ⟨p, f, x1, x2, x3, x4, x5⟩
                  · exact Or.inl hx
                  · have ap := move_apart hw h16 hfit hap x1 (i := p) (Nat.le_refl _) (by have := wf_sz hw p; omega)
                    have hpt : p ≠ t := by omega
                    refine Or.inr ⟨p, f, ?_, x2, ?_, x4, x5⟩
                    · rw [hM, mv_1, if_neg hpt, mu_cell (by decide), mu_cell (by decide), mu_cell (by decide)]; exact x1
                    · rw [hM, mv_2, if_neg hpt, mu_cell (by decide), mu_cell (by decide), mu_cell (by decide)]; exact x3
      · have c : g 0 13 = 1 := Classical.not_not.mp c
        have en : ((m_res g s : Int)).toNat = m_res g s := by omega
        conv => whnf
        refine ⟨g, ⟨⟨P, C, rfl⟩, hw, ⟨by omega, by omega⟩, by rw [en]; exact hob⟩, fun y τ hp => ?_⟩
        have hp : τ = cls (m_mark g (m_res g s : Int).toNat) P C := hp P C rfl
        rw [en] at hp
        subst hp
        conv => whnf
        refine at118 (m_mark g (m_res g s)) P C _ _ ?_
        unfold m_heal
        rw [if_neg hn, if_pos c]
        have k1 : ∀ p, m_mark g (m_res g s) 1 p = g 1 p := fun p => by
          rcases mk_cases g (m_res g s) with ⟨_, e⟩ | ⟨_, e⟩ <;> rw [e]
          rw [mu_cell (by decide), mu_cell (by decide), mu_cell (by decide)]
        have k2 : ∀ p, m_mark g (m_res g s) 2 p = g 2 p := fun p => by
          rcases mk_cases g (m_res g s) with ⟨_, e⟩ | ⟨_, e⟩ <;> rw [e]
          rw [mu_cell (by decide), mu_cell (by decide), mu_cell (by decide)]
        have k6 : ∀ p, m_mark g (m_res g s) 6 p = g 6 p := fun p => by
          rcases mk_cases g (m_res g s) with ⟨_, e⟩ | ⟨_, e⟩ <;> rw [e]
          rw [mu_cell (by decide), mu_cell (by decide), mu_cell (by decide)]
        have k7 : ∀ p, m_mark g (m_res g s) 7 p = g 7 p := fun p => by
          rcases mk_cases g (m_res g s) with ⟨_, e⟩ | ⟨_, e⟩ <;> rw [e]
          rw [mu_cell (by decide), mu_cell (by decide), mu_cell (by decide)]
        exact kc_hset (wf_mark hw hob c) (sl_congr k1 k2 k6 k7 hS) hC hP (sx_congr (M' := g) (fun p => (k1 p).symm) (fun p => (k2 p).symm) hx) ⟨by omega, by omega⟩ (rgI (by omega) (by omega))
    refine hK [67] 60 _ _ _ _ ?_
    conv => whnf
    refine ⟨hi, ?_⟩
    conv => whnf
    refine ⟨g, ⟨⟨by show 0 ≤ g 0 13; omega, by show g 0 13 ≤ 2; omega⟩, by show 0 ≤ g 0 14; omega, by show g 0 14 < _; omega⟩, fun y τ hp => ?_⟩
    obtain ⟨hy, rfl⟩ := hp
    have hy : y = m_good g := hy
    subst hy
    have e1 : cls g P C 2 i.toNat = g 7 s := hs1
    conv => whnf
    refine ⟨rgI (by rw [e1]; omega) (by rw [e1]; omega), fun c => ?_, fun c => ?_⟩
    · have c : cls g P C 2 i.toNat = 0 := c
      rw [e1] at c
      conv => whnf
      refine fin _ ?_
      unfold m_heal
      rw [if_pos (Or.inl c)]
      exact ⟨P, C, rfl, hS, hC, hP⟩
    · have c : ¬ cls g P C 2 i.toNat = 0 := c
      rw [e1] at c
      have hP1 := hs2 c
      conv => whnf
      refine ⟨⟨rgI (by rw [e1]; omega) (by rw [e1]; omega), rgI (by omega) (by omega)⟩, fun c2 => ?_, fun c2 => ?_⟩
      · have c2 : ¬ cls g P C 2 i.toNat = m_good g := c2
        rw [e1] at c2
        have hn : ¬ (g 7 s = 0 ∨ g 7 s = m_good g) := fun q => q.elim c c2
        have hph3 : g 0 13 ≠ 1 → g 7 s ≠ 3 := fun q z => by
          apply c2
          rw [z]
          unfold m_good
          rw [if_neg q]
        conv => whnf
        refine ⟨hi, ?_⟩
        conv => whnf
        have e2 : cls g P C 1 i.toNat = g 6 s := hP1
        have nof : ¬ m_isF g s → K (cls g P C) 67 [some (.inr 0), some (.inl i), some (.inl (C i.toNat)), some (.inl (m_good g)), some (.inl (cls g P C 1 i.toNat)), some (.inl 0)] [] := by
          intro hF
          have := hcase hn 0 (Or.inr ⟨rfl, hF⟩)
          rw [e2]
          have e3 : ((m_res g s : Nat) : Int) = g 6 s := by
            unfold m_res
            rw [if_neg hF]
            omega
          rw [e3] at this
          exact this
        refine ⟨⟨rgI (by rw [e1]; omega) (by rw [e1]; omega), (rg_c _ rfl)⟩, fun c3 => ?_, fun c3 => ?_⟩
        · have c3 : cls g P C 2 i.toNat = 3 := c3
          rw [e1] at c3
          conv => whnf
          refine ⟨(rg_c _ rfl), fun c4 => ?_, fun c4 => ?_⟩
          · conv => whnf
            refine nof (fun q => ?_)
            rcases q.2 with z | z
            · exact hph3 z c3
            · exact z c3
          · exact absurd rfl c4
        · have c3 : ¬ cls g P C 2 i.toNat = 3 := c3
          rw [e1] at c3
          conv => whnf
          refine ⟨⟨by rw [e2]; omega, by rw [e2]; omega⟩, ?_⟩
          conv => whnf
          have e4 : cls g P C 6 (cls g P C 1 i.toNat).toNat = g 5 (g 6 s).toNat := by rw [e2]; rfl
          have hfw := wf_fw hw (g 6 s).toNat
          refine ⟨⟨rgI (by rw [e4]; omega) (by rw [e4]; omega), (rg_c _ rfl)⟩, fun c4 => ?_, fun c4 => ?_⟩
          · have c4 : cls g P C 6 (cls g P C 1 i.toNat).toNat = -1 := c4
            rw [e4] at c4
            conv => whnf
            refine ⟨(rg_c _ rfl), fun c5 => ?_, fun c5 => ?_⟩
            · conv => whnf
              exact nof (fun q => q.1 c4)
            · exact absurd rfl c5
          · have c4 : ¬ cls g P C 6 (cls g P C 1 i.toNat).toNat = -1 := c4
            rw [e4] at c4
            have hF : m_isF g s := ⟨c4, Or.inr c3⟩
            conv => whnf
            refine ⟨(rg_c _ rfl), fun c5 => ?_, fun c5 => ?_⟩
            · exact absurd (show (1 : Int) = 0 from c5) (by decide)
            · conv => whnf
              refine ⟨⟨by rw [e2]; omega, by rw [e2]; omega⟩, ?_⟩
              conv => whnf
              have := hcase hn 1 (Or.inl ⟨rfl, hF⟩)
              have e3 : ((m_res g s : Nat) : Int) = g 5 (g 6 s).toNat := by
                unfold m_res
                rw [if_pos hF]
                omega
              rw [e3] at this
              rw [e4]
              exact this
      · have c2 : cls g P C 2 i.toNat = m_good g := Classical.not_not.mp c2
        rw [e1] at c2
        conv => whnf
        refine fin _ ?_
        unfold m_heal
        rw [if_pos (Or.inr c2)]
        exact ⟨P, C, rfl, hS, hC, hP⟩

/-! runs of the reference: heal, field, the collector's parts -/
theorem free_15 (M : Mo) (v : Int) : m_free (mu M 0 15 v) = m_free M := by
  unfold m_free
  congr 1
theorem roomP_15 (M : Mo) (v w : Int) : m_roomP (mu M 0 15 v) w = m_roomP M w := by
  unfold m_roomP m_nofit
  rw [free_15, mu_place (show 12 ≠ 15 by decide), mu_cell (show 9 ≠ 0 by decide)]
theorem room_15 (M : Mo) (v w : Int) : m_room (mu M 0 15 v) w = mu (m_room M w) 0 15 v := by
  unfold m_room m_nofit
  rw [free_15, mu_place (show 12 ≠ 15 by decide), mu_cell (show 9 ≠ 0 by decide)]
  split
  · split
    · rfl
    · rw [mu_comm (c := 0) (j := 15) (d := 8) (fun q => absurd q.1 (by decide)), mu_comm (c := 0) (j := 15) (d := 0) (fun q => absurd q.2 (by decide)), mu_comm (c := 0) (j := 15) (d := 9) (fun q => absurd q.1 (by decide))]
  · rw [mu_comm (c := 0) (j := 15) (d := 9) (fun q => absurd q.1 (by decide))]
theorem cp_15 (R : Mo) (p t : Nat) (v : Int) : ∀ n, m_cp (mu R 0 15 v) p t n = mu (m_cp R p t n) 0 15 v
  | 0 => rfl
  | n + 1 => by
    show mu (mu (m_cp (mu R 0 15 v) p t n) 6 _ _) 7 _ _ = mu (mu (mu (m_cp R p t n) 6 _ _) 7 _ _) 0 15 v
    rw [cp_15 R p t v n, mu_cell (show 6 ≠ 0 by decide), mu_cell (show 7 ≠ 0 by decide), mu_comm (c := 0) (j := 15) (d := 6) (fun q => absurd q.1 (by decide)), mu_comm (c := 0) (j := 15) (d := 7) (fun q => absurd q.1 (by decide))]
theorem mv_15 (R : Mo) (p t : Nat) (v : Int) : m_mv (mu R 0 15 v) p t = mu (m_mv R p t) 0 15 v := by
  unfold m_mv
  rw [mu_cell (show 2 ≠ 0 by decide), mu_cell (show 3 ≠ 0 by decide), mu_place (show 16 ≠ 15 by decide), mu_comm (c := 0) (j := 15) (d := 1) (fun q => absurd q.1 (by decide)), mu_comm (c := 0) (j := 15) (d := 2) (fun q => absurd q.1 (by decide)), mu_comm (c := 0) (j := 15) (d := 3) (fun q => absurd q.1 (by decide)), cp_15,
    mu_comm (c := 0) (j := 15) (d := 4) (fun q => absurd q.1 (by decide)), mu_comm (c := 0) (j := 15) (d := 4) (fun q => absurd q.1 (by decide)), mu_comm (c := 0) (j := 15) (d := 5) (fun q => absurd q.1 (by decide)), mu_comm (c := 0) (j := 15) (d := 0) (k := 16) (fun q => absurd q.2 (by decide))]
theorem move_15 (M : Mo) (p : Nat) (v : Int) : m_move (mu M 0 15 v) p = mu (m_move M p) 0 15 v := by
  unfold m_move
  rw [mu_cell (show 2 ≠ 0 by decide), roomP_15, room_15, mv_15]
  split <;> rfl
theorem mark_15 (M : Mo) (p : Nat) (v : Int) : m_mark (mu M 0 15 v) p = mu (m_mark M p) 0 15 v := by
  unfold m_mark
  rw [mu_cell (show 4 ≠ 0 by decide), mu_place (show 17 ≠ 15 by decide)]
  split
  · rfl
  · rw [mu_comm (c := 0) (j := 15) (d := 4) (fun q => absurd q.1 (by decide)), mu_comm (c := 0) (j := 15) (d := 12) (fun q => absurd q.1 (by decide)), mu_comm (c := 0) (j := 15) (d := 0) (k := 17) (fun q => absurd q.2 (by decide))]
theorem mark_6 (M : Mo) (p s : Nat) (v : Int) : m_mark (mu M 6 s v) p = mu (m_mark M p) 6 s v := by
  unfold m_mark
  rw [mu_cell (show 4 ≠ 6 by decide), mu_cell (show 0 ≠ 6 by decide)]
  split
  · rfl
  · rw [mu_comm (c := 6) (j := s) (d := 4) (fun q => absurd q.1 (by decide)), mu_comm (c := 6) (j := s) (d := 12) (fun q => absurd q.1 (by decide)), mu_comm (c := 6) (j := s) (d := 0) (k := 17) (fun q => absurd q.1 (by decide))]
theorem good_of {M M' : Mo} (h13 : M' 0 13 = M 0 13) (h14 : M' 0 14 = M 0 14) : m_good M' = m_good M := by
  unfold m_good m_mc
  rw [h13, h14]
theorem move_0 {M : Mo} (h : Wf M) {p : Nat} (hp : M 1 p = 1) (j : Nat) (h12 : j ≠ 12) (h16 : j ≠ 16) : m_move M p 0 j = M 0 j := by
  rcases move_cases h hp with ⟨_, e⟩ | ⟨a, t, R, _, e, _, _, _, _, _, _, _, _, _, r0⟩
  · rw [e]
  · rw [e, mv_0, if_neg h16, r0 j h12]
theorem vX1_heal : VX1_heal := by
  intro g σ as h
  match as, h with
  | [i], h =>
    obtain ⟨hw, hi, hh⟩ := h
    refine ⟨Nat.le_of_ble_eq_true rfl, fun K hK => ?_⟩
    obtain ⟨s, hs⟩ : ∃ s, s = i.toNat := ⟨_, rfl⟩
    have hph := wf_ph hw
    have hcy := wf_cy hw
    have hco := wf_co hw s
    have hpl := wf_pl hw s
    have hgd := good_bd σ
    have hfw := wf_fw hw (σ 6 s).toNat
    have si : σ 7 i.toNat = σ 7 s := by rw [hs]
    obtain ⟨σ1, hσ1⟩ : ∃ X, X = mu σ 0 15 (σ 0 15 + 1) := ⟨_, rfl⟩
    have w1 : Wf σ1 := by rw [hσ1]; exact wf_mu15 hw
    -- the end: the colour is set
    have at152 : ∀ (X : Mo) (y z : Option AV), Wf X → X 0 13 = σ 0 13 → X 0 14 = σ 0 14 → mu X 7 s (m_good σ) = m_heal σ s → K X 152 [some (.inr 0), some (.inl i), y, z] [] := by
      intro X y z hX h13 h14 he
      refine hK [] 40 _ _ _ _ ?_
      conv => whnf
      refine ⟨g, hX.1, fun y τ hp => ?_⟩
      obtain ⟨rfl, rfl⟩ := hp
      conv => whnf
      refine ⟨hi, ?_⟩
      conv => whnf
      show _ = m_heal σ i.toNat
      rw [good_of h13 h14, ← hs]
      exact he
    have at134 : ¬ (σ 7 s = 0 ∨ σ 7 s = m_good σ) → ∀ (X : Mo) (y z : Option AV), Wf X → X 0 13 = σ 0 13 → X 0 14 = σ 0 14 →
        (σ 0 13 = 1 → X = mu σ1 6 s (m_res σ s : Int)) → (σ 0 13 ≠ 1 → mu X 7 s 3 = m_heal σ s) → K X 134 [some (.inr 0), some (.inl i), y, z] [] := by
      intro hn X y z hX h13 h14 e1 e2
      have hob := hh (by rw [← hs]; exact fun q => hn (Or.inl q)) (by rw [← hs]; exact fun q => hn (Or.inr q))
      rw [← hs] at hob
      have hr := (si_obj hw hob).1
      refine hK [152] 40 _ _ _ _ ?_
      conv => whnf
      refine ⟨⟨rgI (by rw [h13]; omega) (by rw [h13]; omega), (rg_c _ rfl)⟩, fun c => ?_, fun c => ?_⟩
      · have c : ¬ X 0 13 = 1 := c
        rw [h13] at c
        conv => whnf
        refine at152 X y z hX h13 h14 ?_
        rw [show m_good σ = 3 by unfold m_good; rw [if_neg c]]
        exact e2 c
      · have c : X 0 13 = 1 := Classical.not_not.mp c
        rw [h13] at c
        have eX := e1 c
        have x6 : X 6 i.toNat = (m_res σ s : Int) := by rw [eX, ← hs, mu_same]
        have x1 : X 1 (m_res σ s) = 1 := by rw [eX, mu_cell (by decide), hσ1, mu_cell (by decide)]; exact hob
        conv => whnf
        refine ⟨hi, ?_⟩
        conv => whnf
        have en : ((m_res σ s : Int)).toNat = m_res σ s := by omega
        refine ⟨g, ⟨hX, ⟨by rw [x6]; omega, by rw [x6]; omega⟩, by rw [x6, en]; exact x1⟩, fun y2 τ hp => ?_⟩
        have hp : τ = m_mark X (X 6 i.toNat).toNat := hp
        rw [x6, en] at hp
        subst hp
        conv => whnf
        refine at152 (m_mark X (m_res σ s)) y z (wf_mark hX x1 (by rw [h13]; exact c)) (by rw [mark_0 _ _ _ (by decide)]; exact h13) (by rw [mark_0 _ _ _ (by decide)]; exact h14) ?_
        unfold m_heal
        rw [if_neg hn, if_pos c]
        unfold hset
        rw [eX, hσ1, mark_6, mark_15, mark_0 _ _ _ (by decide)]
    have sameH : ¬ (σ 7 s = 0 ∨ σ 7 s = m_good σ) → ¬ m_isF σ s → mu σ1 6 s (m_res σ s : Int) = σ1 := fun _ hF => mu_self (by
      rw [hσ1, mu_cell (by decide)]
      unfold m_res
      rw [if_neg hF]
      omega)
    -- not forwarded
    have at83 : ¬ (σ 7 s = 0 ∨ σ 7 s = m_good σ) → ¬ m_isF σ s → K σ1 83 [some (.inr 0), some (.inl i), some (.inl (σ 6 s)), none] [] := by
      intro hn hF
      have hob := hh (by rw [← hs]; exact fun q => hn (Or.inl q)) (by rw [← hs]; exact fun q => hn (Or.inr q))
      rw [← hs] at hob
      have eres : m_res σ s = (σ 6 s).toNat := by unfold m_res; rw [if_neg hF]
      have hr := (si_obj hw hob).1
      have p13 : σ1 0 13 = σ 0 13 := by rw [hσ1, mu_place (by decide)]
      have p14 : σ1 0 14 = σ 0 14 := by rw [hσ1, mu_place (by decide)]
      refine hK [134] 60 _ _ _ _ ?_
      conv => whnf
      refine ⟨⟨rgI (by rw [p13]; omega) (by rw [p13]; omega), (rg_c _ rfl)⟩, fun c => ?_, fun c => ?_⟩
      · have c : ¬ σ1 0 13 = 2 := c
        rw [p13] at c
        conv => whnf
        refine at134 hn σ1 _ _ w1 p13 p14 (fun _ => (sameH hn hF).symm) (fun c1 => ?_)
        unfold m_heal
        rw [if_neg hn, if_neg c1, if_neg hF, if_neg (fun q => c q.1)]
        unfold hset
        rw [← hσ1, sameH hn hF]
      · have c : σ1 0 13 = 2 := Classical.not_not.mp c
        rw [p13] at c
        conv => whnf
        refine ⟨⟨⟨by omega, by omega⟩, by decide⟩, ?_⟩
        conv => whnf
        refine ⟨⟨by omega, by omega⟩, ?_⟩
        conv => whnf
        have e4 : σ1 11 (σ 6 s / 16).toNat = σ 11 (m_res σ s / 16) := by
          rw [hσ1, mu_cell (by decide), eres]
          congr 1
          omega
        have hst := wf_st hw (m_res σ s / 16)
        refine ⟨rgI (by rw [e4]; omega) (by rw [e4]; omega), fun c4 => ?_, fun c4 => ?_⟩
        · have c4 : σ1 11 (σ 6 s / 16).toNat = 0 := c4
          rw [e4] at c4
          conv => whnf
          refine at134 hn σ1 _ _ w1 p13 p14 (fun _ => (sameH hn hF).symm) (fun c1 => ?_)
          unfold m_heal
          rw [if_neg hn, if_neg c1, if_neg hF, if_neg (fun q => by omega)]
          unfold hset
          rw [← hσ1, sameH hn hF]
        · have c4 : ¬ σ1 11 (σ 6 s / 16).toNat = 0 := c4
          rw [e4] at c4
          have c5 : σ 0 13 = 2 ∧ σ 11 (m_res σ s / 16) = 1 := ⟨c, by omega⟩
          conv => whnf
          refine ⟨g, ⟨w1, ⟨by omega, by omega⟩, by rw [← eres, hσ1, mu_cell (by decide)]; exact hob⟩, fun y τ hp => ?_⟩
          obtain ⟨hy, hτ⟩ := hp
          rw [← eres, hσ1, roomP_15, mu_cell (by decide)] at hy
          rw [← eres, hσ1, move_15] at hτ
          by_cases hrm : m_roomP σ (σ 2 (m_res σ s) + 1) = -1
          · rw [hrm] at hy
            subst hy
            rw [show m_move σ (m_res σ s) = σ by unfold m_move; rw [if_pos hrm], ← hσ1] at hτ
            subst hτ
            conv => whnf
            refine ⟨⟨(rg_c _ rfl), (rg_c _ rfl)⟩, fun c6 => ?_, fun c6 => ?_⟩
            · exact absurd rfl c6
            · conv => whnf
              refine ⟨⟨⟨by omega, by omega⟩, by decide⟩, ?_⟩
              conv => whnf
              refine ⟨⟨⟨by omega, by omega⟩, Or.inl rfl⟩, ?_⟩
              conv => whnf
              have e5 : (σ 6 s / 16).toNat = m_res σ s / 16 := by rw [eres]; omega
              refine at134 hn _ _ _ (wf_unset w1 _) (by rw [mu_cell (by decide)]; exact p13) (by rw [mu_cell (by decide)]; exact p14) (fun q => by omega) (fun c1 => ?_)
              unfold m_heal
              rw [if_neg hn, if_neg c1, if_neg hF, if_pos c5, if_pos hrm]
              unfold hset
              rw [mu_cell (show 0 ≠ 11 by decide), mu_comm (c := 11) (d := 0) (fun q => absurd q.1 (by decide)), ← hσ1, mu_comm (c := 11) (d := 6) (fun q => absurd q.1 (by decide)), sameH hn hF, e5]
          · rcases move_cases hw hob with ⟨r1, _⟩ | ⟨a, t, R, r1, _, a8, h16, hfit, _⟩
            · exact absurd r1 hrm
            · have hyt : y = (t : Int) := hy.trans r1
              have m15 : m_move σ (m_res σ s) 0 15 = σ 0 15 := move_0 hw hob 15 (by decide) (by decide)
              have wτ : Wf τ := by rw [hτ]; exact wf_mu15 (wf_move hw hob (by omega))
              have t13 : τ 0 13 = σ 0 13 := by rw [hτ, mu_place (by decide)]; exact move_0 hw hob 13 (by decide) (by decide)
              have t14 : τ 0 14 = σ 0 14 := by rw [hτ, mu_place (by decide)]; exact move_0 hw hob 14 (by decide) (by decide)
              have hz := wf_sz hw (m_res σ s)
              conv => whnf
              refine ⟨⟨(rgI (by omega) (by omega)), (rg_c _ rfl)⟩, fun c6 => ?_, fun c6 => ?_⟩
              · conv => whnf
                refine ⟨hi, ?_⟩
                conv => whnf
                rw [← hs]
                refine at134 hn _ _ _ (wf_mu6 wτ ⟨by omega, by omega⟩) (by rw [mu_cell (by decide)]; exact t13) (by rw [mu_cell (by decide)]; exact t14) (fun q => by omega) (fun c1 => ?_)
                unfold m_heal
                rw [if_neg hn, if_neg c1, if_neg hF, if_pos c5, if_neg hrm]
                unfold hset
                rw [m15, hτ, hy]
              · have c6 : y = -1 := Classical.not_not.mp c6
                omega
    refine hK [68, 83, 134] 60 _ _ _ _ ?_
    conv => whnf
    refine ⟨hi, ?_⟩
    conv => whnf
    refine ⟨rgI (by rw [si]; omega) (by rw [si]; omega), fun c => ?_, fun c => ?_⟩
    · have c : σ 7 i.toNat = 0 := c
      conv => whnf
      show _ = m_heal σ i.toNat
      unfold m_heal
      rw [if_pos (Or.inl c)]
    · have c : ¬ σ 7 i.toNat = 0 := c
      conv => whnf
      refine ⟨hi, ?_⟩
      conv => whnf
      refine ⟨g, hw.1, fun y τ hp => ?_⟩
      obtain ⟨rfl, rfl⟩ := hp
      conv => whnf
      refine ⟨⟨rgI (by rw [si]; omega) (by rw [si]; omega), (rgI (by omega) (by omega))⟩, fun c2 => ?_, fun c2 => ?_⟩
      · have c2 : ¬ τ 7 i.toNat = m_good τ := c2
        have hn : ¬ (τ 7 s = 0 ∨ τ 7 s = m_good τ) := by rw [hs]; exact fun q => q.elim c c2
        have hph3 : τ 0 13 ≠ 1 → τ 7 s ≠ 3 := fun q z => by
          apply c2
          rw [si, z]
          unfold m_good
          rw [if_neg q]
        conv => whnf
        refine ⟨hi, ?_⟩
        conv => whnf
        have e6 : τ 6 i.toNat = τ 6 s := by rw [hs]
        have eσ : mu τ 0 15 (τ 0 15 + 1) = σ1 := hσ1.symm
        have e5 : σ1 5 (τ 6 i.toNat).toNat = τ 5 (τ 6 s).toNat := by rw [hσ1, mu_cell (by decide), hs]
        have p13 : σ1 0 13 = τ 0 13 := by rw [hσ1, mu_place (by decide)]
        have p14 : σ1 0 14 = τ 0 14 := by rw [hσ1, mu_place (by decide)]
        refine ⟨⟨by rw [e6]; omega, by rw [e6]; omega⟩, ?_⟩
        rw [eσ]
        conv => whnf
        refine ⟨⟨rgI (by rw [e5]; omega) (by rw [e5]; omega), (rg_c _ rfl)⟩, fun c3 => ?_, fun c3 => ?_⟩
        · have c3 : σ1 5 (τ 6 i.toNat).toNat = -1 := c3
          rw [e5] at c3
          conv => whnf
          have := at83 hn (fun q => q.1 c3)
          rw [← e6] at this
          exact this
        · have c3 : ¬ σ1 5 (τ 6 i.toNat).toNat = -1 := c3
          rw [e5] at c3
          -- forwarded
          have fwd : m_isF τ s → K σ1 68 [some (.inr 0), some (.inl i), some (.inl (τ 6 i.toNat)), none] [] := by
            intro hF
            have er : ((m_res τ s : Nat) : Int) = τ 5 (τ 6 s).toNat := by
              unfold m_res
              rw [if_pos hF]
              omega
            refine hK [134] 40 _ _ _ _ ?_
            conv => whnf
            refine ⟨⟨by rw [e6]; omega, by rw [e6]; omega⟩, ?_⟩
            conv => whnf
            refine ⟨hi, ?_⟩
            conv => whnf
            rw [e5, ← hs, ← er]
            refine at134 hn _ _ _ (wf_mu6 w1 ⟨by omega, by omega⟩) (by rw [mu_cell (by decide)]; exact p13) (by rw [mu_cell (by decide)]; exact p14) (fun _ => rfl) (fun c1 => ?_)
            unfold m_heal
            rw [if_neg hn, if_neg c1, if_pos hF]
            unfold hset
            rw [← hσ1]
          conv => whnf
          refine ⟨⟨rgI (by rw [p13]; omega) (by rw [p13]; omega), (rg_c _ rfl)⟩, fun c4 => ?_, fun c4 => ?_⟩
          · have c4 : ¬ σ1 0 13 = 1 := c4
            rw [p13] at c4
            conv => whnf
            exact fwd ⟨c3, Or.inl c4⟩
          · have c4 : σ1 0 13 = 1 := Classical.not_not.mp c4
            rw [p13] at c4
            conv => whnf
            refine ⟨hi, ?_⟩
            conv => whnf
            have e7 : σ1 7 i.toNat = τ 7 s := by rw [hσ1, mu_cell (by decide), hs]
            refine ⟨⟨rgI (by rw [e7]; omega) (by rw [e7]; omega), (rg_c _ rfl)⟩, fun c5 => ?_, fun c5 => ?_⟩
            · have c5 : σ1 7 i.toNat = 3 := c5
              rw [e7] at c5
              conv => whnf
              have := at83 hn (fun q => by
                rcases q.2 with z | z
                · exact z c4
                · exact z c5)
              rw [← e6] at this
              exact this
            · have c5 : ¬ σ1 7 i.toNat = 3 := c5
              rw [e7] at c5
              conv => whnf
              exact fwd ⟨c3, Or.inr c5⟩
      · have c2 : τ 7 i.toNat = m_good τ := Classical.not_not.mp c2
        conv => whnf
        show _ = m_heal τ i.toNat
        unfold m_heal
        rw [if_pos (Or.inr c2)]

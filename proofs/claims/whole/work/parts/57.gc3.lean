/-! THE COLLECTOR'S INVARIANT is kept: pages are judged, objects relocated; steps -/
/-- the live objects when marking has ended -/
def Lm (M : Mo) (L : Nat → Prop) : Nat → Prop := fun p => L p ∧ (M 4 p = 1 ∨ M 10 (p / 16) = 0)
def Jv (M : Mo) (L : Nat → Prop) (k : Nat) (Y : Mo) : Prop := Wf Y ∧ (∀ j, Y 2 j = M 2 j) ∧ (∀ j, Y 4 j = M 4 j) ∧ (∀ j, Y 6 j = M 6 j) ∧ (∀ j, Y 7 j = M 7 j) ∧ (∀ j, Y 5 j = m_nofw M 5 j) ∧ (∀ j, Y 0 j = M 0 j) ∧ (∀ p, Lm M L p → Y 1 p = 1) ∧ (∀ q, Y 11 q = 1 → M 10 q = 1) ∧ ∀ q, k ≤ q → Y 10 q = M 10 q
theorem jv_0 {M : Mo} {L : Nat → Prop} (h : GI M L 6 (fun _ _ => False)) : Jv M L 0 (m_nofw M) := by
  have cc : ∀ c j, c ≠ 5 → m_nofw M c j = M c j := fun c j hc => by unfold m_nofw; rw [fill_cell hc]
  refine ⟨wf_nofw h.1, fun j => cc 2 j (by decide), fun j => cc 4 j (by decide), fun j => cc 6 j (by decide), fun j => cc 7 j (by decide), fun j => rfl, fun j => cc 0 j (by decide), fun p hp => ?_, fun q hq => ?_, fun q _ => cc 10 q (by decide)⟩
  · rw [cc 1 p (by decide)]; exact h.2.1 p hp.1
  · rw [cc 11 q (by decide)] at hq; exact si_sc h.1 hq
theorem jv_s {M : Mo} {L : Nat → Prop} (hs : M 0 17 = 0) {k : Nat} (hk : k < 8) {Y : Mo} (h : Jv M L k Y) : Jv M L (k + 1) (m_judge Y k) := by
  obtain ⟨hw, y2, y4, y6, y7, y5, y0, y1, y11, y10⟩ := h
  unfold m_judge
  have e10 := y10 k (Nat.le_refl k)
  split
  · rename_i hc
    have hal : Y 0 12 ≠ k := fun z => by
      have := (si_al hw (by omega)).2.1
      rw [show (Y 0 12).toNat = k by omega] at this
      omega
    split
    · rename_i hl
      have cc : ∀ c j, (c ≠ 1 ∧ c ≠ 4 ∧ c ≠ 8 ∧ c ≠ 9 ∧ c ≠ 10 ∧ c ≠ 11) → m_release Y k c j = Y c j := rel_c Y k
      refine ⟨wf_release hw hal (by rw [y0]; exact hs), fun j => (cc 2 j (by decide)).trans (y2 j), fun j => ?_, fun j => (cc 6 j (by decide)).trans (y6 j), fun j => (cc 7 j (by decide)).trans (y7 j), fun j => (cc 5 j (by decide)).trans (y5 j), fun j => (cc 0 j (by decide)).trans (y0 j), fun p hp => ?_, fun q => ?_, fun q hq => ?_⟩
      · rw [rel_4]
        split
        · rename_i z
          rw [← y4, live_0 hw hl z.1 z.2]
        · exact y4 j
      · rw [rel_1]
        split
        · rename_i z
          have z4 := live_0 hw hl z.1 z.2
          rw [y4] at z4
          rcases hp.2 with w | w
          · omega
          · rw [show p / 16 = k by omega] at w
            omega
        · exact y1 p hp
      · rw [rel_p Y k 11 q (by decide)]
        split
        · intro z; omega
        · exact y11 q
      · rw [rel_p Y k 10 q (by decide), if_neg (by omega)]
        exact y10 q (by omega)
    · split
      · have cc : ∀ c j, c ≠ 11 → mu Y 11 k 1 c j = Y c j := fun c j hc => mu_cell hc
        refine ⟨wf_set11 hw hc, fun j => (cc 2 j (by decide)).trans (y2 j), fun j => (cc 4 j (by decide)).trans (y4 j), fun j => (cc 6 j (by decide)).trans (y6 j), fun j => (cc 7 j (by decide)).trans (y7 j), fun j => (cc 5 j (by decide)).trans (y5 j), fun j => (cc 0 j (by decide)).trans (y0 j), fun p hp => (cc 1 p (by decide)).trans (y1 p hp), fun q hq => ?_, fun q hq => (cc 10 q (by decide)).trans (y10 q (by omega))⟩
        by_cases e : q = k
        · rw [e, ← e10]; exact hc
        · rw [mu_place e] at hq; exact y11 q hq
      · exact ⟨hw, y2, y4, y6, y7, y5, y0, y1, y11, fun q hq => y10 q (by omega)⟩
  · exact ⟨hw, y2, y4, y6, y7, y5, y0, y1, y11, fun q hq => y10 q (by omega)⟩
theorem jv_all {M : Mo} {L : Nat → Prop} (h : GI M L 6 (fun _ _ => False)) (hs : M 0 17 = 0) : ∀ k, k ≤ 8 → Jv M L k (m_judges (m_nofw M) k)
  | 0, _ => jv_0 h
  | k + 1, hk => jv_s hs (by omega) (jv_all h hs k (by omega))
theorem gi_Jc {M : Mo} {L : Nat → Prop} (h : GI M L 6 (fun _ _ => False)) (hs : M 0 17 = 0) : Jc M := fun k hk => (jv_all h hs k (by omega)).1
theorem wf_ph2 {M : Mo} (h : Wf M) {v : Int} (hv : 0 ≤ v ∧ v ≤ 2) (hs : M 0 17 = 0) : Wf (mu M 0 13 v) := by
  have cc : ∀ c j, c ≠ 0 → mu M 0 13 v c j = M c j := fun c j hc => mu_cell hc
  have c0 : ∀ j, j ≠ 13 → mu M 0 13 v 0 j = M 0 j := fun j hj => mu_place hj
  obtain ⟨⟨a1, a2, a12, a13, a14, a17, a0, a3⟩, s1, s2, s3, s4, s5, s6, s7, s8, s9, s10⟩ := h
  refine wf_intro ?_ ?_ ?_ ?_ ?_ ?_ ?_ ?_ ?_ ?_ ?_ ?_ ?_ ?_ ?_ ?_ ?_ ?_ ?_ ?_ ?_ ?_ ?_ ?_ ?_ ?_ ?_
  · intro q; rw [cc 1 q (by decide)]; exact a1.1 q
  · intro q; rw [cc 2 q (by decide)]; exact a1.2.1 q
  · intro q; rw [cc 4 q (by decide)]; exact a1.2.2.1 q
  · intro q; rw [cc 5 q (by decide)]; exact a1.2.2.2.1 q
  · intro q; rw [cc 6 q (by decide)]; exact a1.2.2.2.2.1 q
  · intro q; rw [cc 7 q (by decide)]; exact a1.2.2.2.2.2 q
  · intro q; rw [cc 8 q (by decide)]; exact a2.1 q
  · intro q; rw [cc 9 q (by decide)]; exact a2.2.1 q
  · intro q; rw [cc 10 q (by decide)]; exact a2.2.2.1 q
  · intro q; rw [cc 11 q (by decide)]; exact a2.2.2.2.1 q
  · intro q; rw [cc 12 q (by decide)]; exact a2.2.2.2.2 q
  · rw [c0 12 (by decide)]; exact a12
  · rw [mu_same]; exact hv
  · rw [c0 14 (by decide)]; exact a14
  · rw [c0 17 (by decide)]; exact a17
  · rw [c0 0 (by decide)]; exact a0
  · intro q; rw [cc 3 q (by decide)]; exact a3 q
  · intro q; rw [cc 8 q (by decide), cc 9 q (by decide), cc 10 q (by decide), cc 11 q (by decide)]; exact s1 q
  · intro q; rw [cc 8 q (by decide), cc 9 q (by decide)]; exact s2 q
  · rw [c0 12 (by decide), cc 8 _ (by decide), cc 10 _ (by decide), cc 11 _ (by decide)]; exact s3
  · intro q; rw [cc 1 q (by decide), cc 2 q (by decide), cc 8 _ (by decide), cc 9 _ (by decide)]; exact s4 q
  · intro q q'; rw [cc 1 q (by decide), cc 1 q' (by decide), cc 2 q (by decide)]; exact s5 q q'
  · intro q; rw [cc 4 q (by decide), cc 1 q (by decide)]; exact s6 q
  · intro q; rw [cc 11 q (by decide), cc 10 q (by decide)]; exact s7 q
  · intro k hk; rw [c0 17 (by decide)] at hk; rw [cc 4 _ (by decide), cc 12 _ (by decide)]; exact s8 k hk
  · intro k k' hk hl; rw [c0 17 (by decide)] at hk; rw [cc 12 _ (by decide), cc 12 _ (by decide)]; exact s9 k k' hk hl
  · rw [c0 17 (by decide)]; intro _; exact hs
theorem gi_choose {M : Mo} {L : Nat → Prop} (h : GI M L 6 (fun _ _ => False)) (h1 : M 0 13 = 1) (hs : M 0 17 = 0) : GI (m_choose0 M) (Lm M L) 0 (fun _ _ => False) ∧ m_choose0 M 0 14 = M 0 14 := by
  obtain ⟨yw, y2, y4, y6, y7, y5, y0, y1, y11, y10⟩ := jv_all h hs 8 (Nat.le_refl 8)
  obtain ⟨hw, l0, l1, hR, hF, hB, hS, hZ⟩ := h
  unfold m_choose0
  generalize m_judges (m_nofw M) 8 = Y at yw y2 y4 y6 y7 y5 y0 y1 y11 y10
  have cc : ∀ c j, c ≠ 0 → mu Y 0 13 2 c j = Y c j := fun c j hc => mu_cell hc
  have k14 : mu Y 0 13 2 0 14 = M 0 14 := by rw [mu_place (by decide), y0]
  have hmc : m_mc (mu Y 0 13 2) = m_mc M := mc_of k14
  have mb := mc_bd M
  have rf : ∀ x y, x = m_mc M → Rf M L x y → Rf (mu Y 0 13 2) (Lm M L) x y := by
    intro x y hx z
    refine ⟨fun q => by rw [mu_same] at q; omega, fun _ => Or.inr ⟨by rw [hmc]; exact hx, ?_, ?_⟩⟩
    · intro _
      rcases z.1 h1 with ⟨a, b, d⟩ | ⟨a, _⟩ | ⟨a, _⟩
      · exact ⟨b, d⟩
      · omega
      · exact absurd hx a
    · intro w
      exfalso
      apply w
      rw [cc 5 y (by decide), y5]
      unfold m_nofw
      have : y < 128 := by
        rcases z.1 h1 with ⟨a, b, d⟩ | ⟨a, _⟩ | ⟨a, _⟩
        · exact (si_obj hw (l0 y b)).1
        · omega
        · exact absurd hx a
      rw [fill_in this]
  refine ⟨⟨wf_ph2 yw (by omega) (by rw [y0]; exact hs), ?_, ?_, ?_, ?_, ?_, ?_, ?_⟩, k14⟩
  · intro p hp; rw [cc 1 p (by decide)]; exact y1 p hp
  · intro p; rw [cc 4 p (by decide), y4]; intro z; exact ⟨l1 p z, Or.inl z⟩
  · intro r hr; rw [cc 7 _ (by decide), y7, cc 6 _ (by decide), y6]
    intro h0
    obtain ⟨a, b⟩ := hR r hr h0
    exact ⟨rf _ _ (by rw [b hr, good_1 h1]) a, fun z => by omega⟩
  · intro p f hp; rw [cc 2 p (by decide), y2, cc 7 _ (by decide), y7, cc 6 _ (by decide), y6]
    intro hf h0
    have hb := hB h1 p f hp.1 hf h0 (fun z => z) (hp.2.elim (fun z => Or.inl ⟨z, fun k hk => by omega⟩) Or.inr)
    exact rf _ _ (by rw [hb, good_1 h1]) (hF p f hp.1 hf h0)
  · rw [mu_same]; intro z; omega
  · intro _ p hp; rw [cc 11 _ (by decide), cc 4 _ (by decide), y4]
    intro z
    have := y11 _ z
    rcases hp.2 with w | w
    · exact w
    · omega
  · rw [mu_same]; intro z; exact absurd rfl z
theorem gi_release {M : Mo} {L : Nat → Prop} {i : Nat} {X : Nat → Nat → Prop} (h : GI M L i X) (h2 : M 0 13 = 2) {q0 : Nat} (hst : M 11 q0 = 1) (hz : ∀ k, 16 * q0 ≤ k → k < 16 * q0 + 16 → M 4 k = 0) : GI (m_release M q0) L i X := by
  obtain ⟨hw, l0, l1, hR, hF, hB, hS, hZ⟩ := h
  have cc : ∀ c j, (c ≠ 1 ∧ c ≠ 4 ∧ c ≠ 8 ∧ c ≠ 9 ∧ c ≠ 10 ∧ c ≠ 11) → m_release M q0 c j = M c j := rel_c M q0
  have hal : M 0 12 ≠ q0 := fun z => by
    have := (si_al hw (by omega)).2.2
    rw [show (M 0 12).toNat = q0 by omega] at this
    omega
  have r4 : ∀ j, m_release M q0 4 j = M 4 j := fun j => by
    rw [rel_4]
    split
    · rename_i z; exact (hz j z.1 z.2).symm
    · rfl
  have r11 := fun j => rel_p M q0 11 j (by decide)
  have k13 : m_release M q0 0 13 = M 0 13 := cc 0 13 (by decide)
  have k14 : m_release M q0 0 14 = M 0 14 := cc 0 14 (by decide)
  have hg : m_good (m_release M q0) = m_good M := good_of k13 k14
  have rf : ∀ x y, Rf M L x y → Rf (m_release M q0) L x y := by
    intro x y z
    refine ⟨fun q => by rw [k13] at q; omega, fun _ => ?_⟩
    rw [mc_of k14, cc 5 y (by decide), r11, r11]
    rcases z.2 (by omega) with ⟨a, b, d⟩ | ⟨a, b, d⟩
    · refine Or.inl ⟨a, b, ?_⟩
      split
      · rfl
      · exact d
    · refine Or.inr ⟨a, b, fun w => ⟨(d w).1, ?_⟩⟩
      split
      · rfl
      · exact (d w).2
  refine ⟨wf_release hw hal (si_s0 hw (by omega)), ?_, ?_, ?_, ?_, ?_, ?_, ?_⟩
  · intro p hp; rw [rel_1]
    split
    · rename_i z
      have := hS h2 p hp (by rw [show p / 16 = q0 by omega]; exact hst)
      have := hz p z.1 z.2
      omega
    · exact l0 p hp
  · intro p; rw [r4]; exact l1 p
  · intro r hr; rw [cc 7 _ (by decide), cc 6 _ (by decide), hg]
    intro h0
    exact ⟨rf _ _ (hR r hr h0).1, (hR r hr h0).2⟩
  · intro p f hp; rw [cc 2 p (by decide), cc 7 _ (by decide), cc 6 _ (by decide)]
    intro hf h0
    exact rf _ _ (hF p f hp hf h0)
  · rw [k13]; intro z; omega
  · intro _ p hp; rw [r11, r4]
    split
    · intro z; omega
    · exact hS h2 p hp
  · rw [k13]; intro z; exact absurd h2 z
theorem gi_reloc1 {M : Mo} {L : Nat → Prop} (h : GI M L 6 (fun _ _ => False)) (h2 : M 0 13 = 2) {q : Nat} (hst : M 11 q = 1) : ∃ L', GI (m_reloc1 M q) L' 6 (fun _ _ => False) ∧ m_reloc1 M q 0 13 = 2 ∧ m_reloc1 M q 0 14 = M 0 14 := by
  unfold m_reloc1
  have hl := fstMk_le M q
  split
  · rename_i hlt
    obtain ⟨k1, k2, k3⟩ := fstMk_in hlt
    have hL := h.2.2.1 _ k2
    have hq : m_fstMk M q / 16 = q := by omega
    split
    · exact ⟨L, gi_unset h q, by rw [mu_cell (by decide)]; exact h2, mu_cell (by decide)⟩
    · rename_i hrm
      obtain ⟨t, _, _, _, g⟩ := gi_move h hL h2 (by rw [hq]; exact hst) hrm
      exact ⟨_, g, (move_0 h.1 k1 13 (by decide) (by decide)).trans h2, move_0 h.1 k1 14 (by decide) (by decide)⟩
  · exact ⟨L, h, h2, rfl⟩
theorem gi_reloc {M : Mo} {L : Nat → Prop} (h : GI M L 6 (fun _ _ => False)) (h2 : M 0 13 = 2) {q : Nat} (hst : M 11 q = 1) : (∃ L', GI (m_reloc M q) L' 6 (fun _ _ => False)) ∧ m_reloc M q 0 14 = M 0 14 := by
  obtain ⟨L1, g1, e13, e14⟩ := gi_reloc1 h h2 hst
  unfold m_reloc
  split
  · rename_i hc
    exact ⟨⟨L1, gi_release g1 e13 hc.1 (fun k a b => markedIn_0 g1.1 hc.2 a b)⟩, (rel_c _ _ _ _ (by decide)).trans e14⟩
  · exact ⟨⟨L1, g1⟩, e14⟩
theorem gd_wf {M : Mo} (h : Gd M) : Wf M := by
  obtain ⟨L, g⟩ := h
  exact g.1
theorem gd_ph0 {M : Mo} (h : Gd M) (h0 : M 0 13 = 0) (hc : M 0 14 < 2147483640) : Hc (m_begin0 M) 384 6 := by
  obtain ⟨L, g⟩ := h
  exact roots_Hc (gi_begin g h0 hc).1
theorem gd_ph1 {M : Mo} (h : Gd M) (h1 : M 0 13 = 1) (hs : 0 < M 0 17) : Hc (m_pop M) (3 * m_top M) (M 2 (m_top M)).toNat ∧ M 1 (m_top M) = 1 := by
  obtain ⟨L, g⟩ := h
  obtain ⟨g1, hL⟩ := gi_pop g h1 hs
  have := ones_Hc g1 hL (by unfold m_pop; rw [mu_place (by decide)]; exact h1)
  unfold m_pop at this ⊢
  rw [mu_cell (by decide)] at this
  exact ⟨this, g.2.1 _ hL⟩
theorem gd_ph1c {M : Mo} (h : Gd M) (h1 : M 0 13 = 1) (hs : M 0 17 = 0) : Jc M ∧ Hc (m_choose0 M) 384 6 := by
  obtain ⟨L, g⟩ := h
  exact ⟨gi_Jc g hs, roots_Hc (gi_choose g h1 hs).1⟩
theorem gd_ph2 {M : Mo} (h : Gd M) (h2 : M 0 13 = 2) : ∀ q, q < 8 → M 11 q = 1 → Wf (m_reloc1 M q) := by
  obtain ⟨L, g⟩ := h
  intro q _ hst
  obtain ⟨L1, g1, _⟩ := gi_reloc1 g h2 hst
  exact g1.1
theorem gd_step {M : Mo} (h : Gd M) (hc : M 0 14 < 2147483640) : Gd (m_step M) ∧ m_step M 0 14 ≤ M 0 14 + 1 := by
  have hph := wf_ph (gd_wf h)
  have hsk := wf_sk (gd_wf h)
  obtain ⟨L, g⟩ := h
  unfold m_step
  by_cases h0 : M 0 13 = 0
  · rw [if_pos h0]
    obtain ⟨g1, e14, e13⟩ := gi_begin g h0 hc
    obtain ⟨L2, g2, _, f14⟩ := gi_roots g1 6 (Nat.le_refl 6)
    exact ⟨⟨L2, g2⟩, by rw [f14, e14]; omega⟩
  · rw [if_neg h0]
    by_cases h1 : M 0 13 = 1
    · rw [if_pos h1]
      by_cases hs : 0 < M 0 17
      · rw [if_pos hs]
        obtain ⟨g1, hL⟩ := gi_pop g h1 hs
        have p2 : m_pop M 2 (m_top M) = M 2 (m_top M) := by unfold m_pop; rw [mu_cell (by decide)]
        have hz := wf_sz g.1 (m_top M)
        obtain ⟨L2, g2, _, z2, _, f14⟩ := gi_ones g1 hL (by unfold m_pop; rw [mu_place (by decide)]; exact h1) (M 2 (m_top M)).toNat (by rw [p2]; omega)
        refine ⟨⟨L2, gi_X g2 (fun p f hp hf h0 _ hx => ?_)⟩, ?_⟩
        · obtain ⟨rfl, hk⟩ := hx
          rw [z2, p2] at hf
          omega
        · rw [f14]
          unfold m_pop
          rw [mu_place (by decide)]
          omega
      · rw [if_neg hs]
        obtain ⟨g1, e14⟩ := gi_choose g h1 (by omega)
        obtain ⟨L2, g2, _, f14⟩ := gi_roots g1 6 (Nat.le_refl 6)
        exact ⟨⟨L2, g2⟩, by rw [f14, e14]; omega⟩
    · rw [if_neg h1]
      have h2 : M 0 13 = 2 := by omega
      by_cases h8 : m_inSet M = 8
      · rw [if_pos h8]
        refine ⟨⟨L, ?_⟩, by rw [mu_place (by decide)]; omega⟩
        obtain ⟨hw, l0, l1, hR, hF, hB, hS, hZ⟩ := g
        have cc : ∀ c j, c ≠ 0 → mu M 0 13 0 c j = M c j := fun c j hc => mu_cell hc
        have k14 : mu M 0 13 0 0 14 = M 0 14 := mu_place (by decide)
        have hno : ∀ q, q < 8 → M 11 q = 0 := fun q hq => by
          have := fst_no (f := fun p => decide (M 11 p = 1)) 8 0 q (by omega) (by unfold m_inSet at h8; omega)
          have := of_decide_eq_false this
          exact (wf_st hw q).resolve_right this
        have hg : m_good (mu M 0 13 0) = m_good M := by
          rw [good_n (by rw [mu_same]; decide), good_n h1]
        have rf : ∀ x y, Rf M L x y → Rf (mu M 0 13 0) L x y := by
          intro x y z
          refine ⟨fun q => by rw [mu_same] at q; omega, fun _ => ?_⟩
          rw [mc_of k14, cc 5 y (by decide), cc 11 _ (by decide), cc 11 _ (by decide)]
          exact z.2 h1
        refine ⟨wf_ph2 hw (by omega) (si_s0 hw h1), ?_, ?_, ?_, ?_, ?_, ?_, ?_⟩
        · intro p hp; rw [cc 1 p (by decide)]; exact l0 p hp
        · intro p; rw [cc 4 p (by decide)]; exact l1 p
        · intro r hr; rw [cc 7 _ (by decide), cc 6 _ (by decide), hg]
          intro h0
          exact ⟨rf _ _ (hR r hr h0).1, (hR r hr h0).2⟩
        · intro p f hp; rw [cc 2 p (by decide), cc 7 _ (by decide), cc 6 _ (by decide)]
          intro hf h0
          exact rf _ _ (hF p f hp hf h0)
        · rw [mu_same]; intro z; omega
        · rw [mu_same]; intro z; omega
        · intro _ q hq; rw [cc 11 q (by decide)]; exact hno q hq
      · rw [if_neg h8]
        obtain ⟨g1, e14⟩ := gi_reloc g h2 (inSet_in h8)
        exact ⟨g1, by omega⟩
theorem gd_steps {M : Mo} (h : Gd M) : ∀ n : Nat, M 0 14 + n < 2147483640 → Gd (m_steps M n) ∧ m_steps M n 0 14 ≤ M 0 14 + n
  | 0, _ => ⟨h, by show M 0 14 ≤ _; omega⟩
  | n + 1, hn => by
    obtain ⟨a, b⟩ := gd_steps h n (by omega)
    obtain ⟨c, d⟩ := gd_step a (by omega)
    exact ⟨c, by show m_step _ 0 14 ≤ _; omega⟩

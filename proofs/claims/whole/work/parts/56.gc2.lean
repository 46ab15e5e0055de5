/-! THE COLLECTOR'S INVARIANT is kept: steps -/
theorem gi_root {M : Mo} {L : Nat → Prop} {i : Nat} {X : Nat → Nat → Prop} (h : GI M L i X) (hg : M 7 (384 + i) ≠ 0 → M 7 (384 + i) = m_good M) : GI M L (i + 1) X := by
  obtain ⟨hw, l0, l1, hR, hF, hB, hS, hZ⟩ := h
  refine ⟨hw, l0, l1, fun r hr h0 => ⟨(hR r hr h0).1, fun hi => ?_⟩, hF, hB, hS, hZ⟩
  by_cases e : r = i
  · subst e; exact hg h0
  · exact (hR r hr h0).2 (by omega)
theorem gi_X {M : Mo} {L : Nat → Prop} {i : Nat} {X X' : Nat → Nat → Prop} (h : GI M L i X) (hx : ∀ p f : Nat, L p → (f : Int) < M 2 p → M 7 (3 * p + f) ≠ 0 → ¬ X' p f → X p f → M 7 (3 * p + f) = m_good M) : GI M L i X' := by
  obtain ⟨hw, l0, l1, hR, hF, hB, hS, hZ⟩ := h
  refine ⟨hw, l0, l1, hR, hF, fun h1 p f hp hf h0 hX hb => ?_, hS, hZ⟩
  by_cases e : X p f
  · exact hx p f hp hf h0 hX e
  · exact hB h1 p f hp hf h0 e hb
theorem gi_roots {M : Mo} {L : Nat → Prop} {X : Nat → Nat → Prop} (h : GI M L 0 X) : ∀ k, k ≤ 6 → ∃ L', GI (m_heals M 384 k) L' k X ∧ m_heals M 384 k 0 13 = M 0 13 ∧ m_heals M 384 k 0 14 = M 0 14
  | 0, _ => ⟨L, h, rfl, rfl⟩
  | k + 1, hk => by
    obtain ⟨L1, g1, e13, e14⟩ := gi_roots h k (by omega)
    obtain ⟨L2, g2, hgd, _, f13, f14⟩ := gi_heal g1 (s := 384 + k) (Or.inl ⟨k, by omega, rfl⟩)
    exact ⟨L2, gi_root g2 hgd, f13.trans e13, f14.trans e14⟩
theorem roots_Hc {M : Mo} {L : Nat → Prop} {X : Nat → Nat → Prop} (h : GI M L 0 X) : Hc M 384 6 := by
  intro k hk
  obtain ⟨L1, g1, _⟩ := gi_roots h k (by omega)
  exact ⟨g1.1, gi_HR g1 (Or.inl ⟨k, hk, rfl⟩)⟩
theorem gi_begin {M : Mo} {L : Nat → Prop} (h : GI M L 6 (fun _ _ => False)) (hp0 : M 0 13 = 0) (hcy : M 0 14 < 2147483640) : GI (m_begin0 M) L 0 (fun _ _ => False) ∧ m_begin0 M 0 14 = M 0 14 + 1 ∧ m_begin0 M 0 13 = 1 := by
  obtain ⟨hw, l0, l1, hR, hF, hB, hS, hZ⟩ := h
  have cc : ∀ c j, c ≠ 0 → c ≠ 4 → c ≠ 10 → m_begin0 M c j = M c j := fun c j c0 c4 c10 => by
    unfold m_begin0
    rw [mu_cell c0, fill_cell c10, fill_cell c4, mu_cell c0, mu_cell c0]
  have c0 : ∀ j, j ≠ 12 → j ≠ 13 → j ≠ 14 → m_begin0 M 0 j = M 0 j := fun j j12 j13 j14 => by
    unfold m_begin0
    rw [mu_place j12, fill_cell (by decide), fill_cell (by decide), mu_place j13, mu_place j14]
  have k12 : m_begin0 M 0 12 = -1 := by unfold m_begin0; rw [mu_same]
  have k13 : m_begin0 M 0 13 = 1 := by unfold m_begin0; rw [mu_place (by decide), fill_cell (by decide), fill_cell (by decide), mu_same]
  have k14 : m_begin0 M 0 14 = M 0 14 + 1 := by unfold m_begin0; rw [mu_place (by decide), fill_cell (by decide), fill_cell (by decide), mu_place (by decide), mu_same]
  have k4 : ∀ j, m_begin0 M 4 j = 0 := fun j => by
    unfold m_begin0
    rw [mu_cell (by decide), fill_cell (by decide)]
    by_cases hj : j < 128
    · rw [fill_in hj]
    · rw [fill_out hj, mu_cell (by decide), mu_cell (by decide)]
      rcases wf_mk hw j with z | z
      · exact z
      · have := (si_obj hw (si_mo hw z)).1
        omega
  have k10 : ∀ j, m_begin0 M 10 j = if j < 8 then M 8 j else M 10 j := fun j => by
    unfold m_begin0
    rw [mu_cell (by decide)]
    by_cases hj : j < 8
    · rw [fill_in hj, if_pos hj]
    · rw [fill_out hj, if_neg hj, fill_cell (by decide), mu_cell (by decide), mu_cell (by decide)]
  have s0 := si_s0 hw (by omega)
  have e1 := fun j => cc 1 j (by decide) (by decide) (by decide)
  have e2 := fun j => cc 2 j (by decide) (by decide) (by decide)
  have e3 := fun j => cc 3 j (by decide) (by decide) (by decide)
  have e5 := fun j => cc 5 j (by decide) (by decide) (by decide)
  have e6 := fun j => cc 6 j (by decide) (by decide) (by decide)
  have e7 := fun j => cc 7 j (by decide) (by decide) (by decide)
  have e8 := fun j => cc 8 j (by decide) (by decide) (by decide)
  have e9 := fun j => cc 9 j (by decide) (by decide) (by decide)
  have e11 := fun j => cc 11 j (by decide) (by decide) (by decide)
  have e12 := fun j => cc 12 j (by decide) (by decide) (by decide)
  have k17 := c0 17 (by decide) (by decide) (by decide)
  have kk0 := c0 0 (by decide) (by decide) (by decide)
  have hmc : m_mc (m_begin0 M) = 3 - m_mc M := by
    unfold m_mc
    rw [k14]
    split <;> split <;> omega
  generalize m_begin0 M = M' at cc c0 k12 k13 k14 k4 k10 e1 e2 e3 e5 e6 e7 e8 e9 e11 e12 k17 kk0 hmc
  have hwf : Wf M' := by
    refine wf_intro ?_ ?_ ?_ ?_ ?_ ?_ ?_ ?_ ?_ ?_ ?_ ?_ ?_ ?_ ?_ ?_ ?_ ?_ ?_ ?_ ?_ ?_ ?_ ?_ ?_ ?_ ?_
    · intro q; rw [e1]; exact wf_ob hw q
    · intro q; rw [e2]; exact wf_sz hw q
    · intro q; rw [k4]; exact Or.inl rfl
    · intro q; rw [e5]; exact wf_fw hw q
    · intro q; rw [e6]; exact wf_pl hw q
    · intro q; rw [e7]; exact wf_co hw q
    · intro q; rw [e8]; exact wf_iu hw q
    · intro q; rw [e9]; exact wf_us hw q
    · intro q; rw [k10]; split
      · exact wf_iu hw q
      · exact wf_ca hw q
    · intro q; rw [e11]; exact wf_st hw q
    · intro q; rw [e12]; exact wf_stk hw q
    · rw [k12]; omega
    · rw [k13]; omega
    · rw [k14]; have := wf_cy hw; omega
    · rw [k17]; exact wf_sk hw
    · rw [kk0]; exact wf_th hw
    · intro q; rw [e3]; exact wf_val hw q
    · intro q; rw [e8, e9, k10, e11]
      intro z
      have := si_free hw z
      refine ⟨this.1, ?_, this.2.2⟩
      split
      · exact z
      · exact this.2.1
    · intro q; rw [e8, e9]; exact si_use hw
    · rw [k12]; intro z; omega
    · intro p; rw [e1, e2, e8, e9]; exact si_obj hw
    · intro p p'; rw [e1, e1, e2]; exact si_apart hw
    · intro p; rw [k4]; intro z; omega
    · intro q; rw [e11, k10]
      intro z
      split
      · rename_i hq; have := hZ (by omega) q hq; omega
      · exact si_sc hw z
    · intro k hk; rw [k17, s0] at hk; omega
    · intro k k' hk; rw [k17, s0] at hk; omega
    · rw [k13]; intro z; exact absurd rfl z
  have rf : ∀ x y, Rf M L x y → Rf M' L x y := by
    intro x y z
    have mb := mc_bd M
    refine ⟨fun _ => ?_, fun q => absurd k13 q⟩
    rw [hmc, e5]
    rcases z.2 (by omega) with ⟨a, b, _⟩ | ⟨a, b, d⟩
    · exact Or.inr (Or.inl ⟨a, b⟩)
    · exact Or.inr (Or.inr ⟨by omega, by omega, b, fun w => (d w).1⟩)
  refine ⟨⟨hwf, ?_, ?_, ?_, ?_, ?_, ?_, ?_⟩, k14, k13⟩
  · intro p hp; rw [e1]; exact l0 p hp
  · intro p; rw [k4]; intro z; omega
  · intro r hr; rw [e7, e6]
    intro h0
    exact ⟨rf _ _ (hR r hr h0).1, fun z => by omega⟩
  · intro p f hp; rw [e2, e7, e6]
    intro hf h0
    exact rf _ _ (hF p f hp hf h0)
  · intro _ p f hp hf h0 _ hb
    rw [k4, k10] at hb
    have ho := si_obj hw (l0 p hp)
    rw [if_pos (by omega), ho.2.1] at hb
    rcases hb with z | z
    · have := z.1; omega
    · omega
  · rw [k13]; intro z; omega
  · rw [k13]; intro _ q hq
    rw [e11]; exact hZ (by omega) q hq
theorem gi_pop {M : Mo} {L : Nat → Prop} (h : GI M L 6 (fun _ _ => False)) (h1 : M 0 13 = 1) (hs : 0 < M 0 17) : GI (m_pop M) L 6 (fun p _ => p = m_top M) ∧ L (m_top M) := by
  obtain ⟨hw, l0, l1, hR, hF, hB, hS, hZ⟩ := h
  have hsk := wf_sk hw
  have hmk := si_stm hw (k := (M 0 17 - 1).toNat) (by omega)
  have hst := wf_stk hw (M 0 17 - 1).toNat
  have htop : M 12 (M 0 17 - 1).toNat = (m_top M : Int) := by unfold m_top; omega
  have cc : ∀ c j, c ≠ 0 → m_pop M c j = M c j := fun c j c0 => by unfold m_pop; rw [mu_cell c0]
  have c0 : ∀ j, j ≠ 17 → m_pop M 0 j = M 0 j := fun j hj => by unfold m_pop; rw [mu_place hj]
  have k17 : m_pop M 0 17 = M 0 17 - 1 := by unfold m_pop; rw [mu_same]
  have hg : m_good (m_pop M) = m_good M := good_of (c0 13 (by decide)) (c0 14 (by decide))
  have rf : ∀ x y, Rf M L x y → Rf (m_pop M) L x y := fun x y z => rf_congr (c0 13 (by decide)) (c0 14 (by decide)) (fun j q => by rw [cc 4 j (by decide)]; exact q) (fun j => cc 5 j (by decide)) (fun j => cc 10 j (by decide)) (fun j q => by rw [cc 11 j (by decide)]; exact q) z
  have hwp : Wf (m_pop M) := by
    obtain ⟨⟨a1, a2, a12, a13, a14, a17, a0, a3⟩, s1, s2, s3, s4, s5, s6, s7, s8, s9, s10⟩ := hw
    have e := fun c => fun j => cc (c + 1) j (by omega)
    refine wf_intro ?_ ?_ ?_ ?_ ?_ ?_ ?_ ?_ ?_ ?_ ?_ ?_ ?_ ?_ ?_ ?_ ?_ ?_ ?_ ?_ ?_ ?_ ?_ ?_ ?_ ?_ ?_
    · intro q; rw [cc 1 q (by decide)]; exact a1.1 q
    · intro q; rw [cc 2 q (by decide)]; exact a1.2.1 q
    · intro q; rw [cc 4 q (by decide)]; exact a1.2.2.1 q
    · intro q; rw [cc 5 q (by decide)]; exact a1.2.2.2.1 q
    · intro q; rw [cc 6 q (by decide)]; exact a1.2.2.2.2.1 q
    · intro q; rw [cc 7 q (by decide)]; exact a1.2.2.2.2.2 q
    · intro q; rw [cc 8 q (by decide)]; exact a2.1 q
    · intro q; rw [cc 9 q (by decide)]; exact a2.2.1 q
    · intro q; rw [cc 10 q (by decide)]; exact a2.2.2.1 q
    · intro q; rw [cc 11 q (by decide)]; exact a2.2.2.2.1 q
    · intro q; rw [cc 12 q (by decide)]; exact a2.2.2.2.2 q
    · rw [c0 12 (by decide)]; exact a12
    · rw [c0 13 (by decide)]; exact a13
    · rw [c0 14 (by decide)]; exact a14
    · rw [k17]; omega
    · rw [c0 0 (by decide)]; exact a0
    · intro q; rw [cc 3 q (by decide)]; exact a3 q
    · intro q; rw [cc 8 q (by decide), cc 9 q (by decide), cc 10 q (by decide), cc 11 q (by decide)]; exact s1 q
    · intro q; rw [cc 8 q (by decide), cc 9 q (by decide)]; exact s2 q
    · rw [c0 12 (by decide), cc 8 _ (by decide), cc 10 _ (by decide), cc 11 _ (by decide)]; exact s3
    · intro q; rw [cc 1 q (by decide), cc 2 q (by decide), cc 8 _ (by decide), cc 9 _ (by decide)]; exact s4 q
    · intro q q'; rw [cc 1 q (by decide), cc 1 q' (by decide), cc 2 q (by decide)]; exact s5 q q'
    · intro q; rw [cc 4 q (by decide), cc 1 q (by decide)]; exact s6 q
    · intro q; rw [cc 11 q (by decide), cc 10 q (by decide)]; exact s7 q
    · intro k hk; rw [k17] at hk; rw [cc 4 _ (by decide), cc 12 _ (by decide)]; exact s8 k (by omega)
    · intro k k' hk hl; rw [k17] at hk; rw [cc 12 _ (by decide), cc 12 _ (by decide)]; exact s9 k k' (by omega) hl
    · rw [c0 13 (by decide)]; intro z; exact absurd h1 z
  refine ⟨⟨hwp, ?_, ?_, ?_, ?_, ?_, ?_, ?_⟩, l1 _ hmk⟩
  · intro p hp; rw [cc 1 p (by decide)]; exact l0 p hp
  · intro p; rw [cc 4 p (by decide)]; exact l1 p
  · intro r hr; rw [cc 7 _ (by decide), cc 6 _ (by decide), hg]
    intro h0
    exact ⟨rf _ _ (hR r hr h0).1, (hR r hr h0).2⟩
  · intro p f hp; rw [cc 2 p (by decide), cc 7 _ (by decide), cc 6 _ (by decide)]
    intro hf h0
    exact rf _ _ (hF p f hp hf h0)
  · intro _ p f hp; rw [cc 2 p (by decide), cc 7 _ (by decide), cc 4 p (by decide), cc 10 _ (by decide), k17, hg]
    intro hf h0 hX hb
    refine hB h1 p f hp hf h0 (fun z => z) (hb.elim (fun z => Or.inl ⟨z.1, fun k hk => ?_⟩) Or.inr)
    by_cases ek : k = (M 0 17 - 1).toNat
    · rw [ek, htop]
      intro q
      exact hX (by omega)
    · have := z.2 k (by omega)
      rw [cc 12 k (by decide)] at this
      exact this
  · rw [c0 13 (by decide)]; intro z; omega
  · rw [c0 13 (by decide)]; intro z q hq; rw [cc 11 q (by decide)]; exact hZ z q hq
theorem gi_ones {M : Mo} {L : Nat → Prop} {p : Nat} (h : GI M L 6 (fun q _ => q = p)) (hp : L p) (h1 : M 0 13 = 1) : ∀ k : Nat, (k : Int) ≤ M 2 p → ∃ L', GI (m_heals M (3 * p) k) L' 6 (fun q f => q = p ∧ k ≤ f) ∧ L' p ∧ m_heals M (3 * p) k 2 p = M 2 p ∧ m_heals M (3 * p) k 0 13 = M 0 13 ∧ m_heals M (3 * p) k 0 14 = M 0 14
  | 0, _ => ⟨L, gi_X h (fun q f _ _ _ hn hx => absurd ⟨hx, Nat.zero_le f⟩ hn), hp, rfl, rfl, rfl⟩
  | k + 1, hk => by
    obtain ⟨L1, g1, p1, e2, e13, e14⟩ := gi_ones h hp h1 k (by omega)
    have hs : Ls (m_heals M (3 * p) k) L1 (3 * p + k) := Or.inr ⟨p, k, p1, by omega, rfl⟩
    obtain ⟨L2, g2, hgd, hkeep, f13, f14⟩ := gi_heal g1 hs
    have p2 : L2 p := hkeep p p1 (fun z => by omega)
    have z2 := (heal_12 g1.1 (gi_HR g1 hs) (g1.2.1 p p1)).2
    refine ⟨L2, gi_X g2 (fun q f hq hf h0 hn hx => ?_), p2, z2.trans e2, f13.trans e13, f14.trans e14⟩
    obtain ⟨rfl, hkf⟩ := hx
    have ef : f = k := by
      rcases Classical.em (f = k) with z | z
      · exact z
      · exact absurd ⟨rfl, by omega⟩ hn
    subst ef
    exact hgd h0
theorem ones_Hc {M : Mo} {L : Nat → Prop} {p : Nat} (h : GI M L 6 (fun q _ => q = p)) (hp : L p) (h1 : M 0 13 = 1) : Hc M (3 * p) (M 2 p).toNat := by
  intro k hk
  obtain ⟨L1, g1, p1, e2, e13, _⟩ := gi_ones h hp h1 k (by omega)
  exact ⟨g1.1, gi_HR g1 (Or.inr ⟨p, k, p1, by omega, rfl⟩)⟩
theorem wf_nofw {M : Mo} (h : Wf M) : Wf (m_nofw M) := by
  have cc : ∀ c j, c ≠ 5 → m_nofw M c j = M c j := fun c j hc => by unfold m_nofw; rw [fill_cell hc]
  obtain ⟨⟨a1, a2, a12, a13, a14, a17, a0, a3⟩, s1, s2, s3, s4, s5, s6, s7, s8, s9, s10⟩ := h
  refine wf_intro ?_ ?_ ?_ ?_ ?_ ?_ ?_ ?_ ?_ ?_ ?_ ?_ ?_ ?_ ?_ ?_ ?_ ?_ ?_ ?_ ?_ ?_ ?_ ?_ ?_ ?_ ?_
  · intro q; rw [cc 1 q (by decide)]; exact a1.1 q
  · intro q; rw [cc 2 q (by decide)]; exact a1.2.1 q
  · intro q; rw [cc 4 q (by decide)]; exact a1.2.2.1 q
  · intro q
    unfold m_nofw
    by_cases hq : q < 128
    · rw [fill_in hq]; omega
    · rw [fill_out hq]; exact a1.2.2.2.1 q
  · intro q; rw [cc 6 q (by decide)]; exact a1.2.2.2.2.1 q
  · intro q; rw [cc 7 q (by decide)]; exact a1.2.2.2.2.2 q
  · intro q; rw [cc 8 q (by decide)]; exact a2.1 q
  · intro q; rw [cc 9 q (by decide)]; exact a2.2.1 q
  · intro q; rw [cc 10 q (by decide)]; exact a2.2.2.1 q
  · intro q; rw [cc 11 q (by decide)]; exact a2.2.2.2.1 q
  · intro q; rw [cc 12 q (by decide)]; exact a2.2.2.2.2 q
  · rw [cc 0 12 (by decide)]; exact a12
  · rw [cc 0 13 (by decide)]; exact a13
  · rw [cc 0 14 (by decide)]; exact a14
  · rw [cc 0 17 (by decide)]; exact a17
  · rw [cc 0 0 (by decide)]; exact a0
  · intro q; rw [cc 3 q (by decide)]; exact a3 q
  · intro q; rw [cc 8 q (by decide), cc 9 q (by decide), cc 10 q (by decide), cc 11 q (by decide)]; exact s1 q
  · intro q; rw [cc 8 q (by decide), cc 9 q (by decide)]; exact s2 q
  · rw [cc 0 12 (by decide), cc 8 _ (by decide), cc 10 _ (by decide), cc 11 _ (by decide)]; exact s3
  · intro q; rw [cc 1 q (by decide), cc 2 q (by decide), cc 8 _ (by decide), cc 9 _ (by decide)]; exact s4 q
  · intro q q'; rw [cc 1 q (by decide), cc 1 q' (by decide), cc 2 q (by decide)]; exact s5 q q'
  · intro q; rw [cc 4 q (by decide), cc 1 q (by decide)]; exact s6 q
  · intro q; rw [cc 11 q (by decide), cc 10 q (by decide)]; exact s7 q
  · intro k hk; rw [cc 0 17 (by decide)] at hk; rw [cc 4 _ (by decide), cc 12 _ (by decide)]; exact s8 k hk
  · intro k k' hk hl; rw [cc 0 17 (by decide)] at hk; rw [cc 12 _ (by decide), cc 12 _ (by decide)]; exact s9 k k' hk hl
  · rw [cc 0 13 (by decide), cc 0 17 (by decide)]; exact s10
theorem wf_set11 {M : Mo} (h : Wf M) {q0 : Nat} (hc : M 10 q0 = 1) : Wf (mu M 11 q0 1) := by
  have cc : ∀ c j, c ≠ 11 → mu M 11 q0 1 c j = M c j := fun c j hc => mu_cell hc
  have r11 : ∀ j, mu M 11 q0 1 11 j = if j = q0 then 1 else M 11 j := fun j => by
    by_cases e : j = q0
    · rw [if_pos e, e, mu_same]
    · rw [if_neg e, mu_place e]
  have hw := h
  obtain ⟨⟨a1, a2, a12, a13, a14, a17, a0, a3⟩, s1, s2, s3, s4, s5, s6, s7, s8, s9, s10⟩ := h
  refine wf_intro ?_ ?_ ?_ ?_ ?_ ?_ ?_ ?_ ?_ ?_ ?_ ?_ ?_ ?_ ?_ ?_ ?_ ?_ ?_ ?_ ?_ ?_ ?_ ?_ ?_ ?_ ?_
  · intro q; rw [cc 1 q (by decide)]; exact a1.1 q
  · intro q; rw [cc 2 q (by decide)]; exact a1.2.1 q
  · intro q; rw [cc 4 q (by decide)]; exact a1.2.2.1 q
  · intro q; rw [cc 5 q (by decide)]; exact a1.2.2.2.1 q
  · intro q; rw [cc 6 q (by decide)]; exact a1.2.2.2.2.1 q
  · intro q; rw [cc 7 q (by decide)]; exact a1.2.2.2.2.2 q
  · intro q; rw [cc 8 q (by decide)]; exact a2.1 q
  · intro q; rw [cc 9 q (by decide)]; exact a2.2.1 q
  · intro q; rw [cc 10 q (by decide)]; exact a2.2.2.1 q
  · intro q; rw [r11]; split
    · exact Or.inr rfl
    · exact a2.2.2.2.1 q
  · intro q; rw [cc 12 q (by decide)]; exact a2.2.2.2.2 q
  · rw [cc 0 12 (by decide)]; exact a12
  · rw [cc 0 13 (by decide)]; exact a13
  · rw [cc 0 14 (by decide)]; exact a14
  · rw [cc 0 17 (by decide)]; exact a17
  · rw [cc 0 0 (by decide)]; exact a0
  · intro q; rw [cc 3 q (by decide)]; exact a3 q
  · intro q; rw [cc 8 q (by decide), cc 9 q (by decide), cc 10 q (by decide), r11]
    intro z
    have := s1 q z
    refine ⟨this.1, this.2.1, ?_⟩
    split
    · rename_i e; rw [e] at this; omega
    · exact this.2.2
  · intro q; rw [cc 8 q (by decide), cc 9 q (by decide)]; exact s2 q
  · rw [cc 0 12 (by decide), cc 8 _ (by decide), cc 10 _ (by decide), r11]
    intro z
    have := s3 z
    refine ⟨this.1, this.2.1, ?_⟩
    split
    · rename_i e; rw [e] at this; omega
    · exact this.2.2
  · intro q; rw [cc 1 q (by decide), cc 2 q (by decide), cc 8 _ (by decide), cc 9 _ (by decide)]; exact s4 q
  · intro q q'; rw [cc 1 q (by decide), cc 1 q' (by decide), cc 2 q (by decide)]; exact s5 q q'
  · intro q; rw [cc 4 q (by decide), cc 1 q (by decide)]; exact s6 q
  · intro q; rw [r11, cc 10 q (by decide)]
    split
    · rename_i e; intro _; rw [e]; exact hc
    · exact s7 q
  · intro k hk; rw [cc 0 17 (by decide)] at hk; rw [cc 4 _ (by decide), cc 12 _ (by decide)]; exact s8 k hk
  · intro k k' hk hl; rw [cc 0 17 (by decide)] at hk; rw [cc 12 _ (by decide), cc 12 _ (by decide)]; exact s9 k k' hk hl
  · rw [cc 0 13 (by decide), cc 0 17 (by decide)]; exact s10
theorem wf_release {M : Mo} (h : Wf M) {q0 : Nat} (hal : M 0 12 ≠ q0) (hs : M 0 17 = 0) : Wf (m_release M q0) := by
  have cc : ∀ c j, (c ≠ 1 ∧ c ≠ 4 ∧ c ≠ 8 ∧ c ≠ 9 ∧ c ≠ 10 ∧ c ≠ 11) → m_release M q0 c j = M c j := rel_c M q0
  have r1 := rel_1 M q0
  have r4 := rel_4 M q0
  have r8 := fun j => rel_p M q0 8 j (by decide)
  have r9 := fun j => rel_p M q0 9 j (by decide)
  have r10 := fun j => rel_p M q0 10 j (by decide)
  have r11 := fun j => rel_p M q0 11 j (by decide)
  obtain ⟨⟨a1, a2, a12, a13, a14, a17, a0, a3⟩, s1, s2, s3, s4, s5, s6, s7, s8, s9, s10⟩ := h
  refine wf_intro ?_ ?_ ?_ ?_ ?_ ?_ ?_ ?_ ?_ ?_ ?_ ?_ ?_ ?_ ?_ ?_ ?_ ?_ ?_ ?_ ?_ ?_ ?_ ?_ ?_ ?_ ?_
  · intro q; rw [r1]; split
    · exact Or.inl rfl
    · exact a1.1 q
  · intro q; rw [cc 2 q (by decide)]; exact a1.2.1 q
  · intro q; rw [r4]; split
    · exact Or.inl rfl
    · exact a1.2.2.1 q
  · intro q; rw [cc 5 q (by decide)]; exact a1.2.2.2.1 q
  · intro q; rw [cc 6 q (by decide)]; exact a1.2.2.2.2.1 q
  · intro q; rw [cc 7 q (by decide)]; exact a1.2.2.2.2.2 q
  · intro q; rw [r8]; split
    · exact Or.inl rfl
    · exact a2.1 q
  · intro q; rw [r9]; split
    · omega
    · exact a2.2.1 q
  · intro q; rw [r10]; split
    · exact Or.inl rfl
    · exact a2.2.2.1 q
  · intro q; rw [r11]; split
    · exact Or.inl rfl
    · exact a2.2.2.2.1 q
  · intro q; rw [cc 12 q (by decide)]; exact a2.2.2.2.2 q
  · rw [cc 0 12 (by decide)]; exact a12
  · rw [cc 0 13 (by decide)]; exact a13
  · rw [cc 0 14 (by decide)]; exact a14
  · rw [cc 0 17 (by decide)]; exact a17
  · rw [cc 0 0 (by decide)]; exact a0
  · intro q; rw [cc 3 q (by decide)]; exact a3 q
  · intro q; rw [r8, r9, r10, r11]
    split
    · intro _; exact ⟨rfl, rfl, rfl⟩
    · exact s1 q
  · intro q; rw [r8, r9]
    split
    · intro z; omega
    · exact s2 q
  · rw [cc 0 12 (by decide)]
    intro z
    have := s3 z
    rw [r8, r10, r11, if_neg (by omega), if_neg (by omega), if_neg (by omega)]
    exact this
  · intro p; rw [r1]
    split
    · intro z; omega
    · rename_i hn
      rw [cc 2 p (by decide), r8, r9]
      intro z
      have := s4 p z
      rw [if_neg (by omega), if_neg (by omega)]
      exact this
  · intro q q'; rw [r1, r1, cc 2 q (by decide)]
    split
    · intro z; omega
    · split
      · intro _ z; omega
      · exact s5 q q'
  · intro q; rw [r4, r1]
    split
    · intro z; omega
    · exact s6 q
  · intro q; rw [r11, r10]
    split
    · intro z; omega
    · exact s7 q
  · intro k hk; rw [cc 0 17 (by decide), hs] at hk; omega
  · intro k k' hk; rw [cc 0 17 (by decide), hs] at hk; omega
  · rw [cc 0 13 (by decide), cc 0 17 (by decide)]; exact s10

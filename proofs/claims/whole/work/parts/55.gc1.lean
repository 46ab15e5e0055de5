/-! THE COLLECTOR'S INVARIANT is kept: marks, moves, heals -/
theorem mc_bd (M : Mo) : m_mc M = 1 ∨ m_mc M = 2 := by
  unfold m_mc
  split
  · exact Or.inl rfl
  · exact Or.inr rfl
theorem good_1 {M : Mo} (h : M 0 13 = 1) : m_good M = m_mc M := by unfold m_good; rw [if_pos h]
theorem good_n {M : Mo} (h : M 0 13 ≠ 1) : m_good M = 3 := by unfold m_good; rw [if_neg h]
theorem mc_of {M M' : Mo} (h14 : M' 0 14 = M 0 14) : m_mc M' = m_mc M := by unfold m_mc; rw [h14]
theorem rf_congr {M M' : Mo} {L : Nat → Prop} {c : Int} {q : Nat} (h13 : M' 0 13 = M 0 13) (h14 : M' 0 14 = M 0 14) (h4 : ∀ j, M 4 j = 1 → M' 4 j = 1) (h5 : ∀ j, M' 5 j = M 5 j) (h10 : ∀ j, M' 10 j = M 10 j) (h11 : ∀ j, M 11 j = 0 → M' 11 j = 0) (h : Rf M L c q) : Rf M' L c q := by
  unfold Rf at h ⊢
  rw [h13, mc_of h14, h5, h10]
  refine ⟨fun q1 => ?_, fun q1 => ?_⟩
  · rcases h.1 q1 with ⟨a, b, d⟩ | e | e
    · exact Or.inl ⟨a, b, d.elim (fun z => Or.inl (h4 _ z)) Or.inr⟩
    · exact Or.inr (Or.inl e)
    · exact Or.inr (Or.inr e)
  · rcases h.2 q1 with ⟨a, b, d⟩ | ⟨a, b, d⟩
    · exact Or.inl ⟨a, b, h11 _ d⟩
    · exact Or.inr ⟨a, b, fun z => ⟨(d z).1, h11 _ (d z).2⟩⟩
theorem rf_mono {M : Mo} {L L' : Nat → Prop} (hl : ∀ p, L p → L' p) {c : Int} {q : Nat} (h : Rf M L c q) : Rf M L' c q := by
  unfold Rf at h ⊢
  refine ⟨fun q1 => ?_, fun q1 => ?_⟩
  · rcases h.1 q1 with ⟨a, b, d⟩ | e | ⟨a, b, d, e⟩
    · exact Or.inl ⟨a, hl _ b, d⟩
    · exact Or.inr (Or.inl ⟨e.1, hl _ e.2⟩)
    · exact Or.inr (Or.inr ⟨a, b, fun z => hl _ (d z), fun z => hl _ (e z)⟩)
  · rcases h.2 q1 with ⟨a, b, d⟩ | ⟨a, b, d⟩
    · exact Or.inl ⟨a, hl _ b, d⟩
    · exact Or.inr ⟨a, fun z => hl _ (b z), fun z => ⟨hl _ (d z).1, (d z).2⟩⟩
/-- a slot that a heal may be asked of -/
def Ls (M : Mo) (L : Nat → Prop) (s : Nat) : Prop := (∃ r, r < 6 ∧ s = 384 + r) ∨ ∃ p f : Nat, L p ∧ (f : Int) < M 2 p ∧ s = 3 * p + f
theorem gi_rf {M : Mo} {L : Nat → Prop} {i : Nat} {X : Nat → Nat → Prop} (h : GI M L i X) {s : Nat} (hs : Ls M L s) (hc : M 7 s ≠ 0) : Rf M L (M 7 s) (M 6 s).toNat := by
  obtain ⟨hw, l0, l1, hR, hF, _⟩ := h
  rcases hs with ⟨r, a, rfl⟩ | ⟨p, f, a, b, rfl⟩
  · exact (hR r a hc).1
  · exact hF p f a b hc
theorem gi_res {M : Mo} {L : Nat → Prop} {i : Nat} {X : Nat → Nat → Prop} (h : GI M L i X) {s : Nat} (hs : Ls M L s) (hc : M 7 s ≠ 0) (hg : M 7 s ≠ m_good M) :
    L (m_res M s) ∧ (M 0 13 = 2 → m_isF M s → M 11 (m_res M s / 16) = 0) := by
  have hr := gi_rf h hs hc
  by_cases h1 : M 0 13 = 1
  · rw [good_1 h1] at hg
    refine ⟨?_, fun z => by omega⟩
    unfold m_res
    rcases hr.1 h1 with ⟨a, _⟩ | ⟨a, b⟩ | ⟨a, b, d, e⟩
    · exact absurd a hg
    · rw [if_neg (fun z => by
        rcases z.2 with y | y
        · exact y h1
        · exact y a)]
      exact b
    · by_cases hf : M 5 (M 6 s).toNat = -1
      · rw [if_neg (fun z => z.1 hf)]; exact d hf
      · rw [if_pos ⟨hf, Or.inr b⟩]; exact e hf
  · rw [good_n h1] at hg
    rcases hr.2 h1 with ⟨a, _⟩ | ⟨a, b, d⟩
    · exact absurd a hg
    · by_cases hf : M 5 (M 6 s).toNat = -1
      · have hn : ¬ m_isF M s := fun z => z.1 hf
        refine ⟨?_, fun _ z => absurd z hn⟩
        unfold m_res
        rw [if_neg hn]; exact b hf
      · have hn : m_isF M s := ⟨hf, Or.inl h1⟩
        unfold m_res
        rw [if_pos hn]
        exact ⟨(d hf).1, fun _ _ => (d hf).2⟩
theorem gi_HR {M : Mo} {L : Nat → Prop} {i : Nat} {X : Nat → Nat → Prop} (h : GI M L i X) {s : Nat} (hs : Ls M L s) : HR M s := fun hc hg => h.2.1 _ (gi_res h hs hc hg).1
theorem gi_hset {M : Mo} {L : Nat → Prop} {i : Nat} {X : Nat → Nat → Prop} (h : GI M L i X) (s : Nat) {v c : Int} (hv : 0 ≤ v ∧ v < 128) (hc : c = m_good M) (hr : Rf M L c v.toNat) : GI (hset M s v c) L i X := by
  obtain ⟨hw, l0, l1, hR, hF, hB, hS, hZ⟩ := h
  have gb := good_bd M
  have c13 : hset M s v c 0 13 = M 0 13 := hset_0 _ _ _ _ _ (by decide)
  have c14 : hset M s v c 0 14 = M 0 14 := hset_0 _ _ _ _ _ (by decide)
  have c17 : hset M s v c 0 17 = M 0 17 := hset_0 _ _ _ _ _ (by decide)
  have cc : ∀ k j, k ≠ 0 → k ≠ 6 → k ≠ 7 → hset M s v c k j = M k j := fun k j a b d => hset_c _ _ _ _ _ _ a b d
  have hg : m_good (hset M s v c) = m_good M := good_of c13 c14
  have rf : ∀ x y, Rf M L x y → Rf (hset M s v c) L x y := fun x y z => rf_congr c13 c14 (fun j q => by rw [cc 4 j (by decide) (by decide) (by decide)]; exact q) (fun j => cc 5 j (by decide) (by decide) (by decide)) (fun j => cc 10 j (by decide) (by decide) (by decide)) (fun j q => by rw [cc 11 j (by decide) (by decide) (by decide)]; exact q) z
  refine ⟨wf_hset hw hv (by omega), ?_, ?_, ?_, ?_, ?_, ?_, ?_⟩
  · intro p hp; rw [cc 1 p (by decide) (by decide) (by decide)]; exact l0 p hp
  · intro p; rw [cc 4 p (by decide) (by decide) (by decide)]; exact l1 p
  · intro r hr6
    rw [hset_7, hset_6, hg]
    by_cases e : 384 + r = s
    · rw [if_pos e, if_pos e]
      intro _
      exact ⟨rf _ _ hr, fun _ => hc⟩
    · rw [if_neg e, if_neg e]
      intro h0
      exact ⟨rf _ _ (hR r hr6 h0).1, (hR r hr6 h0).2⟩
  · intro p f hp
    rw [cc 2 p (by decide) (by decide) (by decide), hset_7, hset_6]
    intro hf
    by_cases e : 3 * p + f = s
    · rw [if_pos e, if_pos e]
      intro _
      exact rf _ _ hr
    · rw [if_neg e, if_neg e]
      intro h0
      exact rf _ _ (hF p f hp hf h0)
  · rw [c13, c17, hg]
    intro h1 p f hp
    rw [cc 2 p (by decide) (by decide) (by decide), hset_7, cc 4 p (by decide) (by decide) (by decide), cc 10 _ (by decide) (by decide) (by decide)]
    intro hf h0 hX hb
    by_cases e : 3 * p + f = s
    · rw [if_pos e]; exact hc
    · rw [if_neg e] at h0 ⊢
      refine hB h1 p f hp hf h0 hX (hb.elim (fun z => Or.inl ⟨z.1, fun k hk => ?_⟩) Or.inr)
      have := z.2 k hk
      rw [cc 12 k (by decide) (by decide) (by decide)] at this
      exact this
  · rw [c13]
    intro h2 p hp
    rw [cc 11 _ (by decide) (by decide) (by decide), cc 4 p (by decide) (by decide) (by decide)]
    exact hS h2 p hp
  · rw [c13]
    intro h2 q hq
    rw [cc 11 q (by decide) (by decide) (by decide)]
    exact hZ h2 q hq
theorem gi_mark {M : Mo} {L : Nat → Prop} {i : Nat} {X : Nat → Nat → Prop} (h : GI M L i X) {p : Nat} (hp : L p) (h1 : M 0 13 = 1) : GI (m_mark M p) L i X ∧ m_mark M p 4 p = 1 := by
  rcases mk_cases M p with ⟨hm, e⟩ | ⟨hm, e⟩
  · rw [e]; exact ⟨h, hm⟩
  · obtain ⟨hw, l0, l1, hR, hF, hB, hS, hZ⟩ := h
    have hwm := wf_mark hw (l0 p hp) h1
    have cc := mark_c M p
    have c0 := mark_0 M p
    have hsk := wf_sk hw
    have r4 : ∀ j, m_mark M p 4 j = if j = p then 1 else M 4 j := fun j => by
      rw [e, mu_cell (by decide), mu_cell (by decide)]
      by_cases e : j = p
      · rw [if_pos e, e, mu_same]
      · rw [if_neg e, mu_place e]
    have r12 : ∀ j, m_mark M p 12 j = if j = (M 0 17).toNat then (p : Int) else M 12 j := fun j => by
      rw [e, mu_cell (by decide)]
      by_cases e : j = (M 0 17).toNat
      · rw [if_pos e, e, mu_same]
      · rw [if_neg e, mu_place e, mu_cell (by decide)]
    have r17 : m_mark M p 0 17 = M 0 17 + 1 := by rw [e, mu_same]
    have hg : m_good (m_mark M p) = m_good M := good_of (c0 13 (by decide)) (c0 14 (by decide))
    have k4 : ∀ j, M 4 j = 1 → m_mark M p 4 j = 1 := fun j q => by
      rw [r4, q]
      split <;> rfl
    have rf : ∀ x y, Rf M L x y → Rf (m_mark M p) L x y := fun x y z => rf_congr (c0 13 (by decide)) (c0 14 (by decide)) k4 (fun j => cc 5 j (by decide) (by decide) (by decide)) (fun j => cc 10 j (by decide) (by decide) (by decide)) (fun j q => by rw [cc 11 j (by decide) (by decide) (by decide)]; exact q) z
    refine ⟨⟨hwm, ?_, ?_, ?_, ?_, ?_, ?_, ?_⟩, by rw [r4, if_pos rfl]⟩
    · intro q hq; rw [cc 1 q (by decide) (by decide) (by decide)]; exact l0 q hq
    · intro q; rw [r4]; split
      · rename_i z; intro _; rw [z]; exact hp
      · exact l1 q
    · intro r hr6
      rw [cc 7 _ (by decide) (by decide) (by decide), cc 6 _ (by decide) (by decide) (by decide), hg]
      intro h0
      exact ⟨rf _ _ (hR r hr6 h0).1, (hR r hr6 h0).2⟩
    · intro q f hq
      rw [cc 2 q (by decide) (by decide) (by decide), cc 7 _ (by decide) (by decide) (by decide), cc 6 _ (by decide) (by decide) (by decide)]
      intro hf h0
      exact rf _ _ (hF q f hq hf h0)
    · intro _ q f hq
      rw [cc 2 q (by decide) (by decide) (by decide), cc 7 _ (by decide) (by decide) (by decide), cc 10 _ (by decide) (by decide) (by decide), hg, r17, r4]
      intro hf h0 hX hb
      refine hB h1 q f hq hf h0 hX (hb.elim (fun z => ?_) Or.inr)
      by_cases eq : q = p
      · subst eq
        have := z.2 (M 0 17).toNat (by omega)
        rw [r12, if_pos rfl] at this
        exact absurd rfl this
      · rw [if_neg eq] at z
        refine Or.inl ⟨z.1, fun k hk => ?_⟩
        have := z.2 k (by omega)
        rw [r12, if_neg (by omega)] at this
        exact this
    · rw [c0 13 (by decide)]
      intro z; omega
    · rw [c0 13 (by decide)]
      intro h2 q hq
      rw [cc 11 q (by decide) (by decide) (by decide)]
      exact hZ h2 q hq
theorem gi_unset {M : Mo} {L : Nat → Prop} {i : Nat} {X : Nat → Nat → Prop} (h : GI M L i X) (q0 : Nat) : GI (mu M 11 q0 0) L i X := by
  obtain ⟨hw, l0, l1, hR, hF, hB, hS, hZ⟩ := h
  have cc : ∀ k j, k ≠ 11 → mu M 11 q0 0 k j = M k j := fun k j a => mu_cell a
  have r11 : ∀ j, mu M 11 q0 0 11 j = if j = q0 then 0 else M 11 j := fun j => by
    by_cases e : j = q0
    · rw [if_pos e, e, mu_same]
    · rw [if_neg e, mu_place e]
  have hg : m_good (mu M 11 q0 0) = m_good M := good_of (cc 0 13 (by decide)) (cc 0 14 (by decide))
  have rf : ∀ x y, Rf M L x y → Rf (mu M 11 q0 0) L x y := fun x y z => rf_congr (cc 0 13 (by decide)) (cc 0 14 (by decide)) (fun j q => by rw [cc 4 j (by decide)]; exact q) (fun j => cc 5 j (by decide)) (fun j => cc 10 j (by decide)) (fun j q => by rw [r11, q]; split <;> rfl) z
  refine ⟨wf_unset hw q0, ?_, ?_, ?_, ?_, ?_, ?_, ?_⟩
  · intro p hp; rw [cc 1 p (by decide)]; exact l0 p hp
  · intro p; rw [cc 4 p (by decide)]; exact l1 p
  · intro r hr6
    rw [cc 7 _ (by decide), cc 6 _ (by decide), hg]
    intro h0
    exact ⟨rf _ _ (hR r hr6 h0).1, (hR r hr6 h0).2⟩
  · intro q f hq
    rw [cc 2 q (by decide), cc 7 _ (by decide), cc 6 _ (by decide)]
    intro hf h0
    exact rf _ _ (hF q f hq hf h0)
  · rw [cc 0 13 (by decide), cc 0 17 (by decide), hg]
    intro h1 q f hq
    rw [cc 2 q (by decide), cc 7 _ (by decide), cc 10 _ (by decide), cc 4 _ (by decide)]
    intro hf h0 hX hb
    refine hB h1 q f hq hf h0 hX (hb.elim (fun z => Or.inl ⟨z.1, fun k hk => ?_⟩) Or.inr)
    have := z.2 k hk
    rw [cc 12 k (by decide)] at this
    exact this
  · rw [cc 0 13 (by decide)]
    intro h2 p hp
    rw [r11, cc 4 p (by decide)]
    split
    · intro z; omega
    · exact hS h2 p hp
  · rw [cc 0 13 (by decide)]
    intro h2 q hq
    rw [r11]
    split
    · rfl
    · exact hZ h2 q hq
theorem gi_move {M : Mo} {L : Nat → Prop} {i : Nat} {X : Nat → Nat → Prop} (h : GI M L i X) {p : Nat} (hp : L p) (h2 : M 0 13 = 2) (hst : M 11 (p / 16) = 1) (hrm : m_roomP M (M 2 p + 1) ≠ -1) :
    ∃ t : Nat, m_roomP M (M 2 p + 1) = (t : Int) ∧ t < 128 ∧ m_move M p 11 (t / 16) = 0 ∧ GI (m_move M p) (fun q => (L q ∧ q ≠ p) ∨ q = t) i X := by
  obtain ⟨hw, l0, l1, hR, hF, hB, hS, hZ⟩ := h
  have ho := l0 p hp
  have hz := wf_sz hw p
  have hwm := wf_move hw ho (by omega)
  rcases move_cases hw ho with ⟨r1, _⟩ | ⟨a, t, R, r1, r2, a8, h16, hfit, c10, c11, hap, ht1, htp, rc, r0⟩
  · exact absurd r1 hrm
  · have t16 : t / 16 = a := by omega
    have rcc : ∀ k j, k ≠ 0 → k ≠ 8 → k ≠ 9 → R k j = M k j := rc
    have m0 : ∀ j, j ≠ 12 → j ≠ 16 → m_mv R p t 0 j = M 0 j := fun j a b => by rw [mv_0, if_neg b, r0 j a]
    have m11 : ∀ j, m_mv R p t 11 j = M 11 j := fun j => by rw [mv_hi _ _ _ _ _ (by decide), rcc _ _ (by decide) (by decide) (by decide)]
    have m10 : ∀ j, m_mv R p t 10 j = M 10 j := fun j => by rw [mv_hi _ _ _ _ _ (by decide), rcc _ _ (by decide) (by decide) (by decide)]
    have m1 : ∀ j, m_mv R p t 1 j = if j = t then 1 else M 1 j := fun j => by rw [mv_1, rcc _ _ (by decide) (by decide) (by decide)]
    have m2 : ∀ j, m_mv R p t 2 j = if j = t then M 2 p else M 2 j := fun j => by rw [mv_2, rcc _ _ (by decide) (by decide) (by decide), rcc _ _ (by decide) (by decide) (by decide)]
    have m4 : ∀ j, m_mv R p t 4 j = if j = t then 0 else if j = p then 0 else M 4 j := fun j => by rw [mv_4, rcc _ _ (by decide) (by decide) (by decide)]
    have m5 : ∀ j, m_mv R p t 5 j = if j = p then (t : Int) else M 5 j := fun j => by rw [mv_5, rcc _ _ (by decide) (by decide) (by decide)]
    have m6 : ∀ j, m_mv R p t 6 j = if 3 * t ≤ j ∧ j < 3 * t + 3 then M 6 (3 * p + (j - 3 * t)) else M 6 j := fun j => by rw [mv_6, rcc _ _ (by decide) (by decide) (by decide), rcc _ _ (by decide) (by decide) (by decide)]
    have m7 : ∀ j, m_mv R p t 7 j = if 3 * t ≤ j ∧ j < 3 * t + 3 then M 7 (3 * p + (j - 3 * t)) else M 7 j := fun j => by rw [mv_7, rcc _ _ (by decide) (by decide) (by decide), rcc _ _ (by decide) (by decide) (by decide)]
    rw [r2] at hwm ⊢
    have nLt : ¬ L t := fun z => by
      have := l0 t z
      omega
    have hg : m_good (m_mv R p t) = m_good M := good_of (m0 13 (by decide) (by decide)) (m0 14 (by decide) (by decide))
    have hmc : m_mc (m_mv R p t) = m_mc M := mc_of (m0 14 (by decide) (by decide))
    have rf : ∀ x y, Rf M L x y → Rf (m_mv R p t) (fun q => (L q ∧ q ≠ p) ∨ q = t) x y := by
      intro x y z
      unfold Rf
      rw [m0 13 (by decide) (by decide), hmc, m11, m5]
      refine ⟨fun z1 => by omega, fun z1 => ?_⟩
      rcases z.2 z1 with ⟨b1, b2, b3⟩ | ⟨b1, b2, b3⟩
      · refine Or.inl ⟨b1, Or.inl ⟨b2, fun e => ?_⟩, b3⟩
        rw [e, hst] at b3
        omega
      · refine Or.inr ⟨b1, fun e => ?_, fun e => ?_⟩
        · by_cases ey : y = p
          · rw [if_pos ey] at e; omega
          · rw [if_neg ey] at e
            exact Or.inl ⟨b2 e, ey⟩
        · by_cases ey : y = p
          · rw [if_pos ey, m11, show ((t : Int)).toNat = t by omega, t16]
            exact ⟨Or.inr rfl, c11⟩
          · rw [if_neg ey] at e ⊢
            rw [m11]
            obtain ⟨d1, d2⟩ := b3 e
            refine ⟨Or.inl ⟨d1, fun e2 => ?_⟩, d2⟩
            rw [e2, hst] at d2
            omega
    refine ⟨t, r1, by omega, by rw [m11, t16]; exact c11, hwm, ?_, ?_, ?_, ?_, ?_, ?_, ?_⟩
    · intro q hq
      rw [m1]
      split
      · rfl
      · rename_i z
        rcases hq with e | e
        · exact l0 q e.1
        · exact absurd e z
    · intro q
      rw [m4]
      split
      · intro e; omega
      · split
        · intro e; omega
        · rename_i z; intro e; exact Or.inl ⟨l1 q e, z⟩
    · intro r hr6
      rw [m7, m6, if_neg (by omega), if_neg (by omega), hg]
      intro h0
      exact ⟨rf _ _ (hR r hr6 h0).1, (hR r hr6 h0).2⟩
    · intro q f hq
      rw [m2, m7, m6]
      by_cases eq : q = t
      · subst eq
        rw [if_pos rfl]
        intro hf
        rw [if_pos (by omega), if_pos (by omega), show 3 * p + (3 * q + f - 3 * q) = 3 * p + f by omega]
        intro h0
        exact rf _ _ (hF p f hp hf h0)
      · rw [if_neg eq]
        intro hf
        have hLq : L q := by
          rcases hq with e | e
          · exact e.1
          · exact absurd e eq
        have zq := wf_sz hw q
        rw [if_neg (by omega), if_neg (by omega)]
        intro h0
        exact rf _ _ (hF q f hLq hf h0)
    · rw [m0 13 (by decide) (by decide)]
      intro z; omega
    · intro _ q hq
      rw [m11, m4]
      intro e
      have hqt : q ≠ t := fun z => by
        rw [z, t16, c11] at e
        omega
      rw [if_neg hqt]
      rcases hq with e1 | e1
      · rw [if_neg e1.2]; exact hS h2 q e1.1 e
      · exact absurd e1 hqt
    · rw [m0 13 (by decide) (by decide)]
      intro z; omega
/-- a heal keeps the invariant, and leaves a good colour -/
theorem gi_heal {M : Mo} {L : Nat → Prop} {i : Nat} {X : Nat → Nat → Prop} (h : GI M L i X) {s : Nat} (hs : Ls M L s) :
    ∃ L', GI (m_heal M s) L' i X ∧ (m_heal M s 7 s ≠ 0 → m_heal M s 7 s = m_good (m_heal M s)) ∧ (∀ p, L p → (M 0 13 = 2 → M 11 (p / 16) = 0) → L' p) ∧ m_heal M s 0 13 = M 0 13 ∧ m_heal M s 0 14 = M 0 14 := by
  have hw := h.1
  by_cases hn : M 7 s = 0 ∨ M 7 s = m_good M
  · have e : m_heal M s = M := by unfold m_heal; rw [if_pos hn]
    rw [e]
    exact ⟨L, h, fun z => hn.resolve_left z, fun p hp _ => hp, rfl, rfl⟩
  · have hc : M 7 s ≠ 0 := fun z => hn (Or.inl z)
    have hg : M 7 s ≠ m_good M := fun z => hn (Or.inr z)
    obtain ⟨hL, hL2⟩ := gi_res h hs hc hg
    have ho := h.2.1 _ hL
    have hlt := (si_obj hw ho).1
    have en : ((m_res M s : Int)).toNat = m_res M s := by omega
    have fin : ∀ (Y : Mo) (L' : Nat → Prop) (v c : Int), m_heal M s = hset Y s v c → Y 0 13 = M 0 13 → Y 0 14 = M 0 14 → GI Y L' i X → 0 ≤ v ∧ v < 128 → c = m_good Y → Rf Y L' c v.toNat → (∀ p, L p → (M 0 13 = 2 → M 11 (p / 16) = 0) → L' p) →
        ∃ L', GI (m_heal M s) L' i X ∧ (m_heal M s 7 s ≠ 0 → m_heal M s 7 s = m_good (m_heal M s)) ∧ (∀ p, L p → (M 0 13 = 2 → M 11 (p / 16) = 0) → L' p) ∧ m_heal M s 0 13 = M 0 13 ∧ m_heal M s 0 14 = M 0 14 := by
      intro Y L' v c e y13 y14 hY hv hcg hrf hkeep
      rw [e]
      have k13 : hset Y s v c 0 13 = Y 0 13 := hset_0 _ _ _ _ _ (by decide)
      have k14 : hset Y s v c 0 14 = Y 0 14 := hset_0 _ _ _ _ _ (by decide)
      refine ⟨L', gi_hset hY s hv hcg hrf, fun _ => ?_, hkeep, k13.trans y13, k14.trans y14⟩
      rw [hset_7, if_pos rfl, good_of k13 k14]
      exact hcg
    by_cases h1 : M 0 13 = 1
    · obtain ⟨gm, mk⟩ := gi_mark h hL h1
      refine fin (m_mark M (m_res M s)) L (m_res M s : Int) (m_good M) ?_ (mark_0 _ _ _ (by decide)) (mark_0 _ _ _ (by decide)) gm ⟨by omega, by omega⟩ (good_of (mark_0 _ _ _ (by decide)) (mark_0 _ _ _ (by decide))).symm ?_ (fun p hp _ => hp)
      · unfold m_heal
        rw [if_neg hn, if_pos h1]
      · refine ⟨fun _ => Or.inl ⟨?_, by rw [en]; exact hL, Or.inl (by rw [en]; exact mk)⟩, fun z => ?_⟩
        · rw [good_1 h1]
          exact (mc_of (mark_0 _ _ _ (by decide))).symm
        · rw [mark_0 _ _ _ (by decide)] at z
          exact absurd h1 z
    · have g3 := good_n h1
      have rf3 : ∀ (Y : Mo) (L' : Nat → Prop) (v : Int), Y 0 13 = M 0 13 → L' v.toNat → Y 11 (v.toNat / 16) = 0 → Rf Y L' 3 v.toNat := fun Y L' v y13 a b => ⟨fun z => by rw [y13] at z; exact absurd z h1, fun _ => Or.inl ⟨rfl, a, b⟩⟩
      by_cases hF : m_isF M s
      · refine fin M L (m_res M s : Int) 3 ?_ rfl rfl h ⟨by omega, by omega⟩ g3.symm (rf3 M L _ rfl (by rw [en]; exact hL) ?_) (fun p hp _ => hp)
        · unfold m_heal
          rw [if_neg hn, if_neg h1, if_pos hF]
        · rw [en]
          by_cases h2 : M 0 13 = 2
          · exact hL2 h2 hF
          · exact h.2.2.2.2.2.2.2 h2 _ (by omega)
      · by_cases h2 : M 0 13 = 2 ∧ M 11 (m_res M s / 16) = 1
        · by_cases hrm : m_roomP M (M 2 (m_res M s) + 1) = -1
          · refine fin (mu M 11 (m_res M s / 16) 0) L (m_res M s : Int) 3 ?_ (mu_cell (by decide)) (mu_cell (by decide)) (gi_unset h _) ⟨by omega, by omega⟩ ?_ (rf3 _ L _ (mu_cell (by decide)) (by rw [en]; exact hL) (by rw [en, mu_same])) (fun p hp _ => hp)
            · unfold m_heal
              rw [if_neg hn, if_neg h1, if_neg hF, if_pos h2, if_pos hrm]
            · rw [good_of (M := M) (mu_cell (by decide)) (mu_cell (by decide))]; exact g3.symm
          · obtain ⟨t, r1, t128, t11, gm⟩ := gi_move h hL h2.1 h2.2 hrm
            have et : ((t : Int)).toNat = t := by omega
            refine fin (m_move M (m_res M s)) _ (m_roomP M (M 2 (m_res M s) + 1)) 3 ?_ (move_0 hw ho _ (by decide) (by decide)) (move_0 hw ho _ (by decide) (by decide)) gm (by rw [r1]; omega) ?_ (rf3 _ _ _ (move_0 hw ho _ (by decide) (by decide)) (by rw [r1, et]; exact Or.inr rfl) (by rw [r1, et]; exact t11)) (fun p hp hk => Or.inl ⟨hp, fun e => ?_⟩)
            · unfold m_heal
              rw [if_neg hn, if_neg h1, if_neg hF, if_pos h2, if_neg hrm]
            · rw [good_of (M := M) (move_0 hw ho _ (by decide) (by decide)) (move_0 hw ho _ (by decide) (by decide))]; exact g3.symm
            · have := hk h2.1
              rw [e, h2.2] at this
              omega
        · refine fin M L (m_res M s : Int) 3 ?_ rfl rfl h ⟨by omega, by omega⟩ g3.symm (rf3 M L _ rfl (by rw [en]; exact hL) ?_) (fun p hp _ => hp)
          · unfold m_heal
            rw [if_neg hn, if_neg h1, if_neg hF, if_neg h2]
          · rw [en]
            by_cases h22 : M 0 13 = 2
            · exact (wf_st hw _).resolve_right (fun z => h2 ⟨h22, z⟩)
            · exact h.2.2.2.2.2.2.2 h22 _ (by omega)

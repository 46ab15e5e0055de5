/-! runs of the class: the program's calls -/
theorem sl_set2 {M : Mo} {P C : Nat → Int} (hw : Wf M) (h : Sl M P C) {i s : Nat} (hx : Sx M i s) (a a' b : Int) (hab : b ≠ 0 → a' = a) : Sl (mu (mu M 6 s a) 7 s b) (fu P i a') (fu C i b) := by
  intro i' s' hx'
  have hx' : Sx M i' s' := sx_congr (M' := mu (mu M 6 s a) 7 s b) (fun p => by rw [mu_cell (by decide), mu_cell (by decide)]) (fun p => by rw [mu_cell (by decide), mu_cell (by decide)]) hx'
  have he := sx_inj hw hx hx'
  by_cases e : i = i'
  · subst e
    have e2 : s = s' := he.mp rfl
    subst e2
    rw [mu_same, mu_cell (by decide), mu_same]
    refine ⟨by simp [fu], fun z => ?_⟩
    have := hab z
    simp [fu, this]
  · have e2 : s ≠ s' := fun q => e (he.mpr q)
    rw [mu_place (fun q => e2 q.symm), mu_place (fun q => e2 q.symm), mu_place (fun q => e2 q.symm), mu_place (fun q => e2 q.symm)]
    have e3 : ¬ i' = i := fun q => e q.symm
    simp only [fu, if_neg e3]
    exact h i' s' hx'
theorem kc_set2 {M : Mo} {P C : Nat → Int} (hw : Wf M) (h : Sl M P C) (hC : ∀ i, rg (C i)) (hP : ∀ i, 0 ≤ P i ∧ P i < 128) {i s : Nat} (hx : Sx M i s) {a a' b : Int} (hab : b ≠ 0 → a' = a) (ha : 0 ≤ a' ∧ a' < 128) (hb : rg b) :
    KC (mu (mu M 6 s a) 7 s b) (mu (mu (cls M P C) 1 i a') 2 i b) := by
  refine ⟨fu P i a', fu C i b, ?_, sl_set2 hw h hx a a' b hab, fun j => ?_, fun j => ?_⟩
  · rw [cn_7, cn_6, cn_C, cn_P]
  · simp only [fu]; split
    · exact hb
    · exact hC j
  · simp only [fu]; split
    · exact ha
    · exact hP j
/-- a slot's copy, in the class and in the model -/
theorem kc_copy {M : Mo} {P C : Nat → Int} (hw : Wf M) (h : Sl M P C) (hC : ∀ i, rg (C i)) (hP : ∀ i, 0 ≤ P i ∧ P i < 128) {i s i' s' : Nat} (hx : Sx M i s) (hx' : Sx M i' s') : KC (m_copy M s s') (mu (mu (cls M P C) 1 i (P i')) 2 i (C i')) := by
  obtain ⟨a, b⟩ := h i' s' hx'
  unfold m_copy
  rw [a]
  exact kc_set2 hw h hC hP hx b (hP i') (by rw [← a]; exact hC i')
theorem kc_drop {M : Mo} {P C : Nat → Int} (hw : Wf M) (h : Sl M P C) (hC : ∀ i, rg (C i)) (hP : ∀ i, 0 ≤ P i ∧ P i < 128) {i s : Nat} (hx : Sx M i s) : KC (mu M 7 s 0) (mu (cls M P C) 2 i 0) := by
  have := kc_set2 hw h hC hP hx (a := M 6 s) (a' := P i) (b := 0) (fun z => absurd rfl z) (hP i) rg_0
  rw [mu_self (M := M) rfl, mu_self (M := cls M P C) (c := 1) (j := i) (x := P i) rfl] at this
  exact this
theorem sx_root {M : Mo} {r : Int} (hm : m_root r) : Sx M (128 + r).toNat (m_rs r) := Or.inl ⟨r.toNat, by omega, by omega, rfl⟩
theorem vX0_copy : VX0_copy := by
  intro g σ as h
  obtain ⟨⟨hk, hg⟩, hcy, hl, ha⟩ := h
  obtain ⟨t, r, rfl⟩ := len2 hl
  have ht := ha t (by simp)
  have hr := ha r (by simp)
  have hw := gd_wf hg
  obtain ⟨P, C, rfl, hS, hC, hP⟩ := id hk
  refine ⟨Nat.le_of_ble_eq_true rfl, fun K hK => ?_⟩
  have bad : (¬ m_root t ∨ ¬ m_root r) → K (cls g P C) 14 [some (.inr 0), some (.inl t), some (.inl r)] [] := by
    intro hb
    refine hK [] 20 _ _ _ _ ?_
    conv => whnf
    refine ⟨Or.inl rfl, pu_ret (f := f_copy) (g := g) (as := [t, r]) (M' := g) ?_ hk⟩
    simp only [f_copy]
    rw [if_pos hb]
  refine hK [14] 60 _ _ _ _ ?_
  conv => whnf
  refine ⟨g, ht, fun y τ hp => ?_⟩
  obtain ⟨rfl, rfl⟩ := hp
  conv => whnf
  by_cases hm : m_root t
  · rw [if_pos hm]
    refine ⟨(rg_c _ rfl), fun c => ?_, fun c => ?_⟩
    · exact absurd (show (1 : Int) = 0 from c) (by decide)
    · conv => whnf
      refine ⟨g, hr, fun y τ' hp => ?_⟩
      obtain ⟨rfl, rfl⟩ := hp
      conv => whnf
      by_cases hm2 : m_root r
      · rw [if_pos hm2]
        refine ⟨(rg_c _ rfl), fun c => ?_, fun c => ?_⟩
        · conv => whnf
          refine ⟨g, ⟨⟨by omega, by omega⟩, by omega, by omega⟩, fun y τ4 hp => ?_⟩
          have hp : τ4 = mu (mu (cls g P C) 1 (128 + t).toNat (P (128 + r).toNat)) 2 (128 + t).toNat (C (128 + r).toNat) := hp
          subst hp
          conv => whnf
          refine ⟨Or.inr rfl, pu_ret (f := f_copy) (g := g) (as := [t, r]) (M' := m_copy g (m_rs t) (m_rs r)) ?_ (kc_copy hw hS hC hP (sx_root hm) (sx_root hm2))⟩
          simp only [f_copy]
          rw [if_neg (fun q => q.elim (fun z => z hm) (fun z => z hm2))]
        · exact absurd (show ¬ (1 : Int) = 0 by decide) c
      · rw [if_neg hm2]
        refine ⟨(rg_c _ rfl), fun c => ?_, fun c => ?_⟩
        · exact absurd rfl c
        · conv => whnf
          exact bad (Or.inr hm2)
  · rw [if_neg hm]
    refine ⟨(rg_c _ rfl), fun c => ?_, fun c => ?_⟩
    · conv => whnf
      exact bad (Or.inl hm)
    · exact absurd rfl c
theorem vX0_drop : VX0_drop := by
  intro g σ as h
  obtain ⟨⟨hk, hg⟩, hcy, hl, ha⟩ := h
  obtain ⟨r, rfl⟩ := len1 hl
  have hr := ha r (by simp)
  have hw := gd_wf hg
  obtain ⟨P, C, rfl, hS, hC, hP⟩ := id hk
  refine ⟨Nat.le_of_ble_eq_true rfl, fun K hK => ?_⟩
  have bad : (¬ m_root r ∨ g 7 (m_rs r) = 0) → K (cls g P C) 19 [some (.inr 0), some (.inl r)] [] := by
    intro hb
    refine hK [] 20 _ _ _ _ ?_
    conv => whnf
    refine ⟨Or.inl rfl, pu_ret (f := f_drop) (g := g) (as := [r]) (M' := g) ?_ hk⟩
    simp only [f_drop]
    rw [if_pos hb]
  refine hK [19] 60 _ _ _ _ ?_
  conv => whnf
  refine ⟨g, hr, fun y τ hp => ?_⟩
  obtain ⟨rfl, rfl⟩ := hp
  conv => whnf
  by_cases hm : m_root r
  · rw [if_pos hm]
    refine ⟨(rg_c _ rfl), fun c => ?_, fun c => ?_⟩
    · exact absurd (show (1 : Int) = 0 from c) (by decide)
    · conv => whnf
      refine ⟨g, ⟨⟨by omega, by omega⟩, fun j => hC j⟩, fun y τ' hp => ?_⟩
      obtain ⟨hy, rfl⟩ := hp
      have e7 : cls g P C 2 (128 + r).toNat = g 7 (m_rs r) := (hS _ _ (sx_root hm)).1
      rw [e7] at hy
      subst hy
      conv => whnf
      by_cases h0 : g 7 (m_rs r) = 0
      · rw [if_pos h0]
        refine ⟨(rg_c _ rfl), fun c => ?_, fun c => ?_⟩
        · exact absurd (show (1 : Int) = 0 from c) (by decide)
        · conv => whnf
          exact bad (Or.inr h0)
      · rw [if_neg h0]
        refine ⟨(rg_c _ rfl), fun c => ?_, fun c => ?_⟩
        · conv => whnf
          refine ⟨⟨by omega, by omega⟩, ?_⟩
          conv => whnf
          refine ⟨Or.inr rfl, pu_ret (f := f_drop) (g := g) (as := [r]) (M' := mu g 7 (m_rs r) 0) ?_ (kc_drop hw hS hC hP (sx_root hm))⟩
          simp only [f_drop]
          rw [if_neg (fun q => q.elim (fun z => z hm) h0)]
        · exact absurd rfl c
  · rw [if_neg hm]
    refine ⟨(rg_c _ rfl), fun c => ?_, fun c => ?_⟩
    · conv => whnf
      exact bad (Or.inl hm)
    · exact absurd rfl c
theorem vX0_value : VX0_value := by
  intro g σ as h
  obtain ⟨⟨hk, hg⟩, hcy, hl, ha⟩ := h
  obtain ⟨r, rfl⟩ := len1 hl
  have hr := ha r (by simp)
  have hw := gd_wf hg
  obtain ⟨P, C, rfl, hS, hC, hP⟩ := id hk
  refine ⟨Nat.le_of_ble_eq_true rfl, fun K hK => hK [] 60 _ _ _ _ ?_⟩
  conv => whnf
  refine ⟨g, ⟨hr, fun j => hC j⟩, fun y τ hp => ?_⟩
  obtain ⟨hy, rfl⟩ := hp
  have hy : y = (f_place g [r]).1 := by rw [← place_eq hS]; exact hy
  have hpl := wf_pl hw (m_rs r)
  rcases place_bd hw r with ⟨e, hm⟩ | ⟨e, hm, h0⟩ | ⟨hm, h0, e⟩
  · rw [e] at hy
    subst hy
    conv => whnf
    refine ⟨(rg_c _ rfl), fun c => ?_, fun c => ?_⟩
    · exact absurd (show (0 : Int) ≤ -1 from c) (by decide)
    · conv => whnf
      refine pu_ret (f := f_value) (g := g) (as := [r]) (M' := g) ?_ hk
      simp only [f_value]
      rw [if_pos (Or.inl hm)]
  · rw [e] at hy
    subst hy
    conv => whnf
    refine ⟨(rg_c _ rfl), fun c => ?_, fun c => ?_⟩
    · exact absurd (show (0 : Int) ≤ -2 from c) (by decide)
    · conv => whnf
      refine pu_ret (f := f_value) (g := g) (as := [r]) (M' := g) ?_ hk
      simp only [f_value]
      rw [if_pos (Or.inr h0)]
  · rw [e] at hy
    subst hy
    conv => whnf
    refine ⟨(rgI (by omega) (by omega)), fun c => ?_, fun c => ?_⟩
    · conv => whnf
      refine ⟨⟨by omega, by omega⟩, ?_⟩
      conv => whnf
      refine pu_ret (f := f_value) (g := g) (as := [r]) (M' := g) ?_ hk
      simp only [f_value]
      rw [if_neg (fun q => q.elim (fun z => z hm) h0)]
      rfl
    · exact absurd (show (0 : Int) ≤ g 6 (m_rs r) by omega) c
theorem vX0_set : VX0_set := by
  intro g σ as h
  obtain ⟨⟨hk, hg⟩, hcy, hl, ha⟩ := h
  obtain ⟨r, v, rfl⟩ := len2 hl
  have hr := ha r (by simp)
  have hw := gd_wf hg
  obtain ⟨P, C, rfl, hS, hC, hP⟩ := id hk
  refine ⟨Nat.le_of_ble_eq_true rfl, fun K hK => hK [] 60 _ _ _ _ ?_⟩
  conv => whnf
  refine ⟨g, ⟨hr, fun j => hC j⟩, fun y τ hp => ?_⟩
  obtain ⟨hy, rfl⟩ := hp
  have hy : y = (f_place g [r]).1 := by rw [← place_eq hS]; exact hy
  have hpl := wf_pl hw (m_rs r)
  rcases place_bd hw r with ⟨e, hm⟩ | ⟨e, hm, h0⟩ | ⟨hm, h0, e⟩
  · rw [e] at hy
    subst hy
    conv => whnf
    refine ⟨(rg_c _ rfl), fun c => ?_, fun c => ?_⟩
    · exact absurd (show (0 : Int) ≤ -1 from c) (by decide)
    · conv => whnf
      refine ⟨Or.inl rfl, pu_ret (f := f_set) (g := g) (as := [r, v]) (M' := g) ?_ hk⟩
      simp only [f_set]
      rw [if_pos (Or.inl hm)]
  · rw [e] at hy
    subst hy
    conv => whnf
    refine ⟨(rg_c _ rfl), fun c => ?_, fun c => ?_⟩
    · exact absurd (show (0 : Int) ≤ -2 from c) (by decide)
    · conv => whnf
      refine ⟨Or.inl rfl, pu_ret (f := f_set) (g := g) (as := [r, v]) (M' := g) ?_ hk⟩
      simp only [f_set]
      rw [if_pos (Or.inr h0)]
  · rw [e] at hy
    subst hy
    conv => whnf
    refine ⟨(rgI (by omega) (by omega)), fun c => ?_, fun c => ?_⟩
    · conv => whnf
      refine ⟨⟨by omega, by omega⟩, ?_⟩
      conv => whnf
      refine ⟨Or.inr rfl, pu_ret (f := f_set) (g := g) (as := [r, v]) (M' := mu g 3 (g 6 (m_rs r)).toNat v) ?_ ?_⟩
      · simp only [f_set]
        rw [if_neg (fun q => q.elim (fun z => z hm) h0)]
      · refine ⟨P, C, by rw [cn_3], sl_congr (fun p => by rw [mu_cell (by decide)]) (fun p => by rw [mu_cell (by decide)]) (fun p => by rw [mu_cell (by decide)]) (fun p => by rw [mu_cell (by decide)]) hS, hC, hP⟩
    · exact absurd (show (0 : Int) ≤ g 6 (m_rs r) by omega) c
theorem vX0_fields : VX0_fields := by
  intro g σ as h
  obtain ⟨⟨hk, hg⟩, hcy, hl, ha⟩ := h
  obtain ⟨r, rfl⟩ := len1 hl
  have hr := ha r (by simp)
  have hw := gd_wf hg
  obtain ⟨P, C, rfl, hS, hC, hP⟩ := id hk
  refine ⟨Nat.le_of_ble_eq_true rfl, fun K hK => hK [] 60 _ _ _ _ ?_⟩
  conv => whnf
  refine ⟨g, ⟨hr, fun j => hC j⟩, fun y τ hp => ?_⟩
  obtain ⟨hy, rfl⟩ := hp
  have hy : y = (f_place g [r]).1 := by rw [← place_eq hS]; exact hy
  have hpl := wf_pl hw (m_rs r)
  rcases place_bd hw r with ⟨e, hm⟩ | ⟨e, hm, h0⟩ | ⟨hm, h0, e⟩
  · rw [e] at hy
    subst hy
    conv => whnf
    refine ⟨(rg_c _ rfl), fun c => ?_, fun c => ?_⟩
    · exact absurd (show (0 : Int) ≤ -1 from c) (by decide)
    · conv => whnf
      refine pu_ret (f := f_fields) (g := g) (as := [r]) (M' := g) ?_ hk
      simp only [f_fields]
      rw [if_pos hm]
  · rw [e] at hy
    subst hy
    conv => whnf
    refine ⟨(rg_c _ rfl), fun c => ?_, fun c => ?_⟩
    · exact absurd (show (0 : Int) ≤ -2 from c) (by decide)
    · conv => whnf
      refine pu_ret (f := f_fields) (g := g) (as := [r]) (M' := g) ?_ hk
      simp only [f_fields]
      rw [if_neg (fun q => q hm), if_pos h0]
  · rw [e] at hy
    subst hy
    conv => whnf
    refine ⟨(rgI (by omega) (by omega)), fun c => ?_, fun c => ?_⟩
    · conv => whnf
      refine ⟨⟨by omega, by omega⟩, ?_⟩
      conv => whnf
      refine pu_ret (f := f_fields) (g := g) (as := [r]) (M' := g) ?_ hk
      simp only [f_fields]
      rw [if_neg (fun q => q hm), if_neg h0]
      rfl
    · exact absurd (show (0 : Int) ≤ g 6 (m_rs r) by omega) c
theorem vX0_colour : VX0_colour := by
  intro g σ as h
  obtain ⟨⟨hk, hg⟩, hcy, hl, ha⟩ := h
  obtain ⟨r, f, rfl⟩ := len2 hl
  have hr := ha r (by simp)
  have hf := ha f (by simp)
  have hw := gd_wf hg
  have hb := field_bd hw r f
  obtain ⟨P, C, rfl, hS, hC, hP⟩ := id hk
  refine ⟨Nat.le_of_ble_eq_true rfl, fun K hK => hK [] 60 _ _ _ _ ?_⟩
  conv => whnf
  refine ⟨g, ⟨hk, hg, hr, hf⟩, fun y τ hp => ?_⟩
  obtain ⟨rfl, h1, h2⟩ := hp
  by_cases hn : m_field g r f < 0
  · have hy := h1 hn
    subst hy
    conv => whnf
    refine ⟨(rgI (by omega) (by omega)), fun c => ?_, fun c => ?_⟩
    · have c : 0 ≤ m_field g r f := c
      omega
    · conv => whnf
      refine pu_ret (f := f_colour) (g := g) (as := [r, f]) (M' := g) ?_ hk
      simp only [f_colour]
      rw [if_pos hn]
  · obtain ⟨hy, hx⟩ := h2 (by omega)
    conv => whnf
    refine ⟨(rgI (by omega) (by omega)), fun c => ?_, fun c => ?_⟩
    · conv => whnf
      refine ⟨hy, ?_⟩
      conv => whnf
      refine pu_ret (f := f_colour) (g := g) (as := [r, f]) (M' := g) ?_ hk
      simp only [f_colour]
      rw [if_neg hn, ← (hS _ _ hx).1]
      rfl
    · have c : ¬ 0 ≤ y := c
      omega
theorem vX0_behind : VX0_behind := by
  intro g σ as h
  obtain ⟨⟨hk, hg⟩, hcy, hl, ha⟩ := h
  obtain ⟨r, f, rfl⟩ := len2 hl
  have hr := ha r (by simp)
  have hf := ha f (by simp)
  have hw := gd_wf hg
  have hb := field_bd hw r f
  obtain ⟨P, C, rfl, hS, hC, hP⟩ := id hk
  refine ⟨Nat.le_of_ble_eq_true rfl, fun K hK => hK [] 60 _ _ _ _ ?_⟩
  conv => whnf
  refine ⟨g, ⟨hk, hg, hr, hf⟩, fun y τ hp => ?_⟩
  obtain ⟨rfl, h1, h2⟩ := hp
  by_cases hn : m_field g r f < 0
  · have hy := h1 hn
    subst hy
    conv => whnf
    refine ⟨(rgI (by omega) (by omega)), fun c => ?_, fun c => ?_⟩
    · have c : 0 ≤ m_field g r f := c
      omega
    · conv => whnf
      refine pu_ret (f := f_behind) (g := g) (as := [r, f]) (M' := g) ?_ hk
      simp only [f_behind]
      rw [if_pos hn]
  · obtain ⟨hy, hx⟩ := h2 (by omega)
    obtain ⟨s1, s2⟩ := hS _ _ hx
    conv => whnf
    refine ⟨(rgI (by omega) (by omega)), fun c => ?_, fun c => ?_⟩
    · conv => whnf
      refine ⟨g, ⟨hy, fun j => hC j⟩, fun y2 τ hp => ?_⟩
      obtain ⟨hy2, rfl⟩ := hp
      have e2 : cls g P C 2 y.toNat = g 7 (m_field g r f).toNat := s1
      rw [e2] at hy2
      subst hy2
      by_cases h0 : g 7 (m_field g r f).toNat = 0
      · rw [if_pos h0]
        conv => whnf
        refine ⟨(rg_c _ rfl), fun c => ?_, fun c => ?_⟩
        · exact absurd (show (1 : Int) = 0 from c) (by decide)
        · conv => whnf
          refine pu_ret (f := f_behind) (g := g) (as := [r, f]) (M' := g) ?_ hk
          simp only [f_behind]
          rw [if_neg hn, if_pos h0]
      · rw [if_neg h0]
        conv => whnf
        refine ⟨(rg_c _ rfl), fun c => ?_, fun c => ?_⟩
        · conv => whnf
          refine ⟨hy, ?_⟩
          conv => whnf
          refine pu_ret (f := f_behind) (g := g) (as := [r, f]) (M' := g) ?_ hk
          simp only [f_behind]
          rw [if_neg hn, if_neg h0, ← s2 h0]
          rfl
        · exact absurd rfl c
    · have c : ¬ 0 ≤ y := c
      omega
theorem vX0_store : VX0_store := by
  intro g σ as h
  obtain ⟨⟨hk, hg⟩, hcy, hl, ha⟩ := h
  obtain ⟨r, f, t, rfl⟩ := len3 hl
  have ht := ha t (by simp)
  have hr := ha r (by simp)
  have hf := ha f (by simp)
  have hw := gd_wf hg
  have hb := field_bd hw r f
  obtain ⟨P, C, rfl, hS, hC, hP⟩ := id hk
  refine ⟨Nat.le_of_ble_eq_true rfl, fun K hK => hK [] 60 _ _ _ _ ?_⟩
  conv => whnf
  refine ⟨g, ht, fun y τ hp => ?_⟩
  obtain ⟨rfl, rfl⟩ := hp
  conv => whnf
  by_cases hm : m_root t
  · rw [if_pos hm]
    refine ⟨(rg_c _ rfl), fun c => ?_, fun c => ?_⟩
    · conv => whnf
      refine ⟨g, ⟨hk, hg, hr, hf⟩, fun y τ hp => ?_⟩
      obtain ⟨rfl, h1, h2⟩ := hp
      by_cases hn : m_field g r f < 0
      · have hy := h1 hn
        subst hy
        conv => whnf
        refine ⟨(rgI (by omega) (by omega)), fun c => ?_, fun c => ?_⟩
        · have c : 0 ≤ m_field g r f := c
          omega
        · conv => whnf
          refine pu_ret (f := f_store) (g := g) (as := [r, f, t]) (M' := g) ?_ hk
          simp only [f_store]
          rw [if_neg (fun q => q hm), if_pos hn]
      · obtain ⟨hy, hx⟩ := h2 (by omega)
        conv => whnf
        refine ⟨(rgI (by omega) (by omega)), fun c => ?_, fun c => ?_⟩
        · conv => whnf
          refine ⟨g, ⟨⟨by omega, by omega⟩, hy⟩, fun y2 τ hp => ?_⟩
          have hp : τ = mu (mu (cls g P C) 1 y.toNat (P (128 + t).toNat)) 2 y.toNat (C (128 + t).toNat) := hp
          subst hp
          conv => whnf
          refine pu_ret (f := f_store) (g := g) (as := [r, f, t]) (M' := m_copy g (m_field g r f).toNat (m_rs t)) ?_ (kc_copy hw hS hC hP hx (sx_root hm))
          simp only [f_store]
          rw [if_neg (fun q => q hm), if_neg hn]
        · have c : ¬ 0 ≤ y := c
          omega
    · exact absurd (show ¬ (1 : Int) = 0 by decide) c
  · rw [if_neg hm]
    refine ⟨(rg_c _ rfl), fun c => ?_, fun c => ?_⟩
    · exact absurd rfl c
    · conv => whnf
      refine pu_ret (f := f_store) (g := g) (as := [r, f, t]) (M' := g) ?_ hk
      simp only [f_store]
      rw [if_pos hm]
theorem vX0_load : VX0_load := by
  intro g σ as h
  obtain ⟨⟨hk, hg⟩, hcy, hl, ha⟩ := h
  obtain ⟨t, r, f, rfl⟩ := len3 hl
  have ht := ha t (by simp)
  have hr := ha r (by simp)
  have hf := ha f (by simp)
  have hw := gd_wf hg
  have hb := field_bd hw r f
  refine ⟨Nat.le_of_ble_eq_true rfl, fun K hK => hK [] 60 _ _ _ _ ?_⟩
  conv => whnf
  refine ⟨g, ht, fun y τ hp => ?_⟩
  obtain ⟨rfl, rfl⟩ := hp
  conv => whnf
  by_cases hm : m_root t
  · rw [if_pos hm]
    refine ⟨(rg_c _ rfl), fun c => ?_, fun c => ?_⟩
    · conv => whnf
      refine ⟨g, ⟨hk, hg, hr, hf⟩, fun y τ' hp => ?_⟩
      obtain ⟨rfl, h1, h2⟩ := hp
      by_cases hn : m_field g r f < 0
      · have hy := h1 hn
        subst hy
        conv => whnf
        refine ⟨(rgI (by omega) (by omega)), fun c => ?_, fun c => ?_⟩
        · have c : 0 ≤ m_field g r f := c
          omega
        · conv => whnf
          refine pu_ret (f := f_load) (g := g) (as := [t, r, f]) (M' := g) ?_ hk
          simp only [f_load]
          rw [if_neg (fun q => q hm), if_pos hn]
      · obtain ⟨hy, hx⟩ := h2 (by omega)
        obtain ⟨L, gi⟩ := id hg
        obtain ⟨p, k, hL, hkk, e, _⟩ := gi_fldLs gi hn
        have es : (m_field g r f).toNat = 3 * p + k := by omega
        have hs : Ls g L (3 * p + k) := Or.inr ⟨p, k, hL, hkk, rfl⟩
        have hR := gi_HR gi hs
        obtain ⟨L2, g2, _⟩ := gi_heal gi hs
        have hwh := g2.1
        rw [← es] at hR hwh
        have hx2 := sx_heal hw hR hx
        have hyl : y.toNat < 128 := by
          rcases hx with ⟨q, q1, q2, q3⟩ | ⟨q, j, q1, q2, q3, q4, q5⟩
          · have := hb.2; omega
          · have := sx_fld hw q1 q3
            have q7 : q / 16 ≤ 7 := by omega
            omega
        conv => whnf
        refine ⟨(rgI (by omega) (by omega)), fun c => ?_, fun c => ?_⟩
        · conv => whnf
          refine ⟨g, ⟨hk, hw, hy, (m_field g r f).toNat, hx, hR⟩, fun y2 τ hp => ?_⟩
          have hp := hp _ hx
          obtain ⟨P, C, rfl, hS, hC, hP⟩ := id hp
          conv => whnf
          refine ⟨g, ⟨hy, by omega, by omega⟩, fun y3 τ hp3 => ?_⟩
          have hp3 : τ = mu (mu (cls (m_heal g (m_field g r f).toNat) P C) 1 (128 + t).toNat (P y.toNat)) 2 (128 + t).toNat (C y.toNat) := hp3
          have kc := kc_copy hwh hS hC hP (sx_root hm) hx2
          rw [← hp3] at kc
          obtain ⟨P', C', hτ, hS', hC', hP'⟩ := id kc
          have e2 : τ 2 y.toNat = m_heal g (m_field g r f).toNat 7 (m_field g r f).toNat := by
            rw [hp3, mu_place (by omega), mu_cell (by decide)]
            exact (hS _ _ hx2).1
          conv => whnf
          refine ⟨g, ⟨hy, fun j => by rw [hτ]; exact hC' j⟩, fun y4 τ4 hp4 => ?_⟩
          obtain ⟨hy4, rfl⟩ := hp4
          rw [e2] at hy4
          subst hy4
          by_cases h0 : m_heal g (m_field g r f).toNat 7 (m_field g r f).toNat = 0
          · rw [if_pos h0]
            conv => whnf
            refine ⟨(rg_c _ rfl), fun c => ?_, fun c => ?_⟩
            · exact absurd (show (1 : Int) = 0 from c) (by decide)
            · conv => whnf
              refine pu_ret (f := f_load) (g := g) (as := [t, r, f]) (M' := m_copy (m_heal g (m_field g r f).toNat) (m_rs t) (m_field g r f).toNat) ?_ kc
              simp only [f_load]
              rw [if_neg (fun q => q hm), if_neg hn, if_pos h0]
          · rw [if_neg h0]
            conv => whnf
            refine ⟨(rg_c _ rfl), fun c => ?_, fun c => ?_⟩
            · conv => whnf
              refine pu_ret (f := f_load) (g := g) (as := [t, r, f]) (M' := m_copy (m_heal g (m_field g r f).toNat) (m_rs t) (m_field g r f).toNat) ?_ kc
              simp only [f_load]
              rw [if_neg (fun q => q hm), if_neg hn, if_neg h0]
            · exact absurd rfl c
        · have c : ¬ 0 ≤ y := c
          omega
    · exact absurd (show ¬ (1 : Int) = 0 by decide) c
  · rw [if_neg hm]
    refine ⟨(rg_c _ rfl), fun c => ?_, fun c => ?_⟩
    · exact absurd rfl c
    · conv => whnf
      refine pu_ret (f := f_load) (g := g) (as := [t, r, f]) (M' := g) ?_ hk
      simp only [f_load]
      rw [if_pos hm]

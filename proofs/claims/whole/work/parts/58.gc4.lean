/-! THE INVARIANT is kept by the program's own calls -/
theorem gi_put {M : Mo} {L : Nat → Prop} {i : Nat} {X : Nat → Nat → Prop} (h : GI M L i X) (s : Nat) {v c : Int} (hv : 0 ≤ v ∧ v < 128) (hc3 : 0 ≤ c ∧ c ≤ 3) (hc : c ≠ 0 → c = m_good M ∧ Rf M L c v.toNat) : GI (mu (mu M 6 s v) 7 s c) L i X := by
  obtain ⟨hw, l0, l1, hR, hF, hB, hS, hZ⟩ := h
  have cc : ∀ k j, k ≠ 6 → k ≠ 7 → mu (mu M 6 s v) 7 s c k j = M k j := fun k j a b => by rw [mu_cell b, mu_cell a]
  have r6 : ∀ j, mu (mu M 6 s v) 7 s c 6 j = if j = s then v else M 6 j := fun j => by
    rw [mu_cell (by decide)]
    by_cases e : j = s
    · rw [if_pos e, e, mu_same]
    · rw [if_neg e, mu_place e]
  have r7 : ∀ j, mu (mu M 6 s v) 7 s c 7 j = if j = s then c else M 7 j := fun j => by
    by_cases e : j = s
    · rw [if_pos e, e, mu_same]
    · rw [if_neg e, mu_place e, mu_cell (by decide)]
  have hwf : Wf (mu (mu M 6 s v) 7 s c) := wf_mu7 (wf_mu6 hw hv) hc3
  generalize mu (mu M 6 s v) 7 s c = M' at cc r6 r7 hwf
  have c13 : M' 0 13 = M 0 13 := cc 0 13 (by decide) (by decide)
  have c14 : M' 0 14 = M 0 14 := cc 0 14 (by decide) (by decide)
  have hg : m_good M' = m_good M := good_of c13 c14
  have rf : ∀ x y, Rf M L x y → Rf M' L x y := fun x y z => rf_congr c13 c14 (fun j q => by rw [cc 4 j (by decide) (by decide)]; exact q) (fun j => cc 5 j (by decide) (by decide)) (fun j => cc 10 j (by decide) (by decide)) (fun j q => by rw [cc 11 j (by decide) (by decide)]; exact q) z
  refine ⟨hwf, ?_, ?_, ?_, ?_, ?_, ?_, ?_⟩
  · intro p hp; rw [cc 1 p (by decide) (by decide)]; exact l0 p hp
  · intro p; rw [cc 4 p (by decide) (by decide)]; exact l1 p
  · intro r hr6
    rw [r7, r6, hg]
    by_cases e : 384 + r = s
    · rw [if_pos e, if_pos e]
      intro z
      exact ⟨rf _ _ (hc z).2, fun _ => (hc z).1⟩
    · rw [if_neg e, if_neg e]
      intro h0
      exact ⟨rf _ _ (hR r hr6 h0).1, (hR r hr6 h0).2⟩
  · intro p f hp
    rw [cc 2 p (by decide) (by decide), r7, r6]
    intro hf
    by_cases e : 3 * p + f = s
    · rw [if_pos e, if_pos e]
      intro z
      exact rf _ _ (hc z).2
    · rw [if_neg e, if_neg e]
      intro h0
      exact rf _ _ (hF p f hp hf h0)
  · rw [c13, cc 0 17 (by decide) (by decide), hg]
    intro h1 p f hp
    rw [cc 2 p (by decide) (by decide), r7, cc 4 p (by decide) (by decide), cc 10 _ (by decide) (by decide)]
    intro hf h0 hX hb
    by_cases e : 3 * p + f = s
    · rw [if_pos e] at h0 ⊢; exact (hc h0).1
    · rw [if_neg e] at h0 ⊢
      refine hB h1 p f hp hf h0 hX (hb.elim (fun z => Or.inl ⟨z.1, fun k hk => ?_⟩) Or.inr)
      have := z.2 k hk
      rw [cc 12 k (by decide) (by decide)] at this
      exact this
  · rw [c13]
    intro h2 p hp
    rw [cc 11 _ (by decide) (by decide), cc 4 p (by decide) (by decide)]
    exact hS h2 p hp
  · rw [c13]
    intro h2 q hq
    rw [cc 11 q (by decide) (by decide)]
    exact hZ h2 q hq
theorem gi_drop {M : Mo} {L : Nat → Prop} {i : Nat} {X : Nat → Nat → Prop} (h : GI M L i X) (s : Nat) : GI (mu M 7 s 0) L i X := by
  have := gi_put h s (v := M 6 s) (c := 0) (wf_pl h.1 s) (by omega) (fun z => absurd rfl z)
  rw [mu_self rfl] at this
  exact this
theorem gi_val {M : Mo} {L : Nat → Prop} {i : Nat} {X : Nat → Nat → Prop} (h : GI M L i X) (p : Nat) {v : Int} (hv : rg v) : GI (mu M 3 p v) L i X := by
  obtain ⟨hw, l0, l1, hR, hF, hB, hS, hZ⟩ := h
  have cc : ∀ k j, k ≠ 3 → mu M 3 p v k j = M k j := fun k j a => mu_cell a
  have hwf := wf_mu3 hw (s := p) hv
  generalize mu M 3 p v = M' at cc hwf
  have c13 : M' 0 13 = M 0 13 := cc 0 13 (by decide)
  have c14 : M' 0 14 = M 0 14 := cc 0 14 (by decide)
  have hg : m_good M' = m_good M := good_of c13 c14
  have rf : ∀ x y, Rf M L x y → Rf M' L x y := fun x y z => rf_congr c13 c14 (fun j q => by rw [cc 4 j (by decide)]; exact q) (fun j => cc 5 j (by decide)) (fun j => cc 10 j (by decide)) (fun j q => by rw [cc 11 j (by decide)]; exact q) z
  refine ⟨hwf, ?_, ?_, ?_, ?_, ?_, ?_, ?_⟩
  · intro p hp; rw [cc 1 p (by decide)]; exact l0 p hp
  · intro p; rw [cc 4 p (by decide)]; exact l1 p
  · intro r hr6
    rw [cc 7 _ (by decide), cc 6 _ (by decide), hg]
    intro h0
    exact ⟨rf _ _ (hR r hr6 h0).1, (hR r hr6 h0).2⟩
  · intro p f hp
    rw [cc 2 p (by decide), cc 7 _ (by decide), cc 6 _ (by decide)]
    intro hf h0
    exact rf _ _ (hF p f hp hf h0)
  · rw [c13, cc 0 17 (by decide), hg]
    intro h1 p f hp
    rw [cc 2 p (by decide), cc 7 _ (by decide), cc 4 p (by decide), cc 10 _ (by decide)]
    intro hf h0 hX hb
    refine hB h1 p f hp hf h0 hX (hb.elim (fun z => Or.inl ⟨z.1, fun k hk => ?_⟩) Or.inr)
    have := z.2 k hk
    rw [cc 12 k (by decide)] at this
    exact this
  · rw [c13]
    intro h2 p hp
    rw [cc 11 _ (by decide), cc 4 p (by decide)]
    exact hS h2 p hp
  · rw [c13]
    intro h2 q hq
    rw [cc 11 q (by decide)]
    exact hZ h2 q hq
/-- a new object: behind make, ahead of the root -/
def m_mkY (R : Mo) (t : Nat) (n v : Int) : Mo := m_clr (mu (mu (mu (mu R 1 t 1) 4 t 0) 2 t n) 3 t v) 7 (3 * t) 3 0
theorem mkY_good (R : Mo) (t : Nat) (n v : Int) : m_good (m_mkY R t n v) = m_good R := good_of (by simp [m_mkY, m_clr, mu]) (by simp [m_mkY, m_clr, mu])
theorem mk0_eq (R : Mo) (t : Nat) (n v : Int) (s : Nat) : m_mk0 R t n v s = mu (mu (m_mkY R t n v) 6 s (t : Int)) 7 s (m_good (m_mkY R t n v)) := by
  rw [mkY_good]
  rfl
theorem gi_make {M : Mo} {L : Nat → Prop} (h : GI M L 6 (fun _ _ => False)) {n v : Int} (hn : 0 ≤ n ∧ n ≤ 3) (hv : rg v) (hrm : m_roomP M (n + 1) ≠ -1) : ∃ t : Nat, m_roomP M (n + 1) = (t : Int) ∧ t < 128 ∧ m_mkY (m_room M (n + 1)) t n v 11 (t / 16) = 0 ∧ m_mkY (m_room M (n + 1)) t n v 10 (t / 16) = 0 ∧ m_mkY (m_room M (n + 1)) t n v 0 14 = M 0 14 ∧
    GI (m_mkY (m_room M (n + 1)) t n v) (fun q => L q ∨ q = t) 6 (fun _ _ => False) := by
  obtain ⟨hw, l0, l1, hR, hF, hB, hS, hZ⟩ := h
  rcases room_cases hw (w := n + 1) (by omega) (by omega) with ⟨r1, _⟩ | ⟨a, t, a8, r1, r2, h16, hfit, c10, c11, hap⟩
  · exact absurd r1 hrm
  · have t16 : t / 16 = a := by omega
    have ht1 : M 1 t = 0 := by
      rcases wf_ob hw t with z | z
      · exact z
      · have := hap t z t16
        have := wf_sz hw t
        omega
    have ht4 : M 4 t = 0 := by
      rcases wf_mk hw t with z | z
      · exact z
      · have := si_mo hw z
        omega
    rw [r2]
    obtain ⟨R, hRd⟩ : ∃ R, R = mu (mu (mu M 8 a 1) 0 12 (a : Int)) 9 a ((t : Int) - 16 * a + (n + 1)) := ⟨_, rfl⟩
    rw [← hRd]
    have rc : ∀ c j, c ≠ 0 → c ≠ 8 → c ≠ 9 → R c j = M c j := fun c j c0 c8 c9 => by rw [hRd, mu_cell c9, mu_cell c0, mu_cell c8]
    have r0 : ∀ j, j ≠ 12 → R 0 j = M 0 j := fun j hj => by rw [hRd, mu_cell (by decide), mu_place hj, mu_cell (by decide)]
    have k12 : m_mkY R t n v 0 12 = (a : Int) := by
      have : R 0 12 = (a : Int) := by rw [hRd, mu_cell (by decide), mu_same]
      simp [m_mkY, m_clr, mu, this]
    have k0 : ∀ j, j ≠ 12 → m_mkY R t n v 0 j = M 0 j := fun j hj => by
      rw [← r0 j hj]
      simp [m_mkY, m_clr, mu]
    have k1 : ∀ j, m_mkY R t n v 1 j = if j = t then 1 else M 1 j := fun j => by
      rw [← rc 1 j (by decide) (by decide) (by decide)]
      simp [m_mkY, m_clr, mu]
    have k2 : ∀ j, m_mkY R t n v 2 j = if j = t then n else M 2 j := fun j => by
      rw [← rc 2 j (by decide) (by decide) (by decide)]
      simp [m_mkY, m_clr, mu]
    have k3 : ∀ j, m_mkY R t n v 3 j = if j = t then v else M 3 j := fun j => by
      rw [← rc 3 j (by decide) (by decide) (by decide)]
      simp [m_mkY, m_clr, mu]
    have k4 : ∀ j, m_mkY R t n v 4 j = M 4 j := fun j => by
      by_cases e : j = t
      · rw [e, ht4]; simp [m_mkY, m_clr, mu]
      · rw [← rc 4 j (by decide) (by decide) (by decide)]
        simp [m_mkY, m_clr, mu, e]
    have k7 : ∀ j, m_mkY R t n v 7 j = if 3 * t ≤ j ∧ j < 3 * t + 3 then 0 else M 7 j := fun j => by
      rw [← rc 7 j (by decide) (by decide) (by decide)]
      simp [m_mkY, m_clr, mu]
    have kc : ∀ c j, c = 5 ∨ c = 6 ∨ c = 10 ∨ c = 11 ∨ c = 12 → m_mkY R t n v c j = M c j := fun c j hc => by
      rw [← rc c j (by omega) (by omega) (by omega)]
      rcases hc with rfl | rfl | rfl | rfl | rfl <;> simp [m_mkY, m_clr, mu]
    have k8 : ∀ j, m_mkY R t n v 8 j = if j = a then 1 else M 8 j := fun j => by
      have : R 8 j = if j = a then 1 else M 8 j := by
        rw [hRd, mu_cell (by decide), mu_cell (by decide)]
        by_cases e : j = a
        · rw [if_pos e, e, mu_same]
        · rw [if_neg e, mu_place e]
      rw [← this]
      simp [m_mkY, m_clr, mu]
    have k9 : ∀ j, m_mkY R t n v 9 j = if j = a then (t : Int) - 16 * a + (n + 1) else M 9 j := fun j => by
      have : R 9 j = if j = a then (t : Int) - 16 * a + (n + 1) else M 9 j := by
        rw [hRd]
        by_cases e : j = a
        · rw [if_pos e, e, mu_same]
        · rw [if_neg e, mu_place e, mu_cell (by decide), mu_cell (by decide)]
      rw [← this]
      simp [m_mkY, m_clr, mu]
    refine ⟨t, r1, by omega, ?_⟩
    generalize m_mkY R t n v = M' at k12 k0 k1 k2 k3 k4 k7 kc k8 k9 ⊢
    have hwf : Wf M' := by
      refine wf_new hw (a := a) (t := t) (w := n + 1) (by omega) (by omega) a8 h16 hfit c10 c11 hap k1 ?_ k8 k9 (fun j => kc 10 j (by decide)) (fun j => kc 11 j (by decide)) (fun j => kc 12 j (by decide)) ?_ (fun j => Or.inl (k4 j)) ?_ ?_ ?_ k12 (k0 13 (by decide)) (k0 14 (by decide)) (k0 17 (by decide)) (k0 0 (by decide))
      · intro j; rw [k2]; split <;> omega
      · intro j; rw [kc 5 j (by decide)]; exact wf_fw hw j
      · intro j; rw [kc 6 j (by decide)]; exact wf_pl hw j
      · intro j; rw [k7]; split
        · omega
        · exact wf_co hw j
      · intro j; rw [k3]; split
        · exact hv
        · exact wf_val hw j
    have hg : m_good M' = m_good M := good_of (k0 13 (by decide)) (k0 14 (by decide))
    have rf : ∀ x y, Rf M L x y → Rf M' (fun q => L q ∨ q = t) x y := fun x y z => rf_mono (L := L) (fun p hp => Or.inl hp) (rf_congr (k0 13 (by decide)) (k0 14 (by decide)) (fun j q => by rw [k4]; exact q) (fun j => kc 5 j (by decide)) (fun j => kc 10 j (by decide)) (fun j q => by rw [kc 11 j (by decide)]; exact q) z)
    have nL : ∀ p, L p → p ≠ t := fun p hp e => by
      have := l0 p hp
      rw [e, ht1] at this
      omega
    refine ⟨by rw [kc 11 _ (by decide), t16]; exact c11, by rw [kc 10 _ (by decide), t16]; exact c10, k0 14 (by decide), hwf, ?_, ?_, ?_, ?_, ?_, ?_, ?_⟩
    · intro p hp; rw [k1]; split
      · rfl
      · rename_i e
        rcases hp with z | z
        · exact l0 p z
        · exact absurd z e
    · intro p; rw [k4]; intro z; exact Or.inl (l1 p z)
    · intro r hr
      rw [k7, if_neg (by omega), kc 6 _ (by decide), hg]
      intro h0
      exact ⟨rf _ _ (hR r hr h0).1, (hR r hr h0).2⟩
    · intro p f hp
      rw [k2, k7]
      rcases hp with z | z
      · rw [if_neg (nL p z)]
        intro hf
        have := wf_sz hw p
        have := nL p z
        rw [if_neg (by omega), kc 6 _ (by decide)]
        intro h0
        exact rf _ _ (hF p f z hf h0)
      · rw [if_pos z]
        intro hf
        rw [if_pos (by omega)]
        intro h0
        exact absurd rfl h0
    · rw [k0 13 (by decide), k0 17 (by decide), hg]
      intro h1 p f hp
      rw [k2, k7, k4, kc 10 _ (by decide)]
      rcases hp with z | z
      · rw [if_neg (nL p z)]
        intro hf
        have := wf_sz hw p
        have := nL p z
        rw [if_neg (by omega)]
        intro h0 hX hb
        refine hB h1 p f z hf h0 hX (hb.elim (fun y => Or.inl ⟨y.1, fun k hk => ?_⟩) Or.inr)
        have := y.2 k hk
        rw [kc 12 k (by decide)] at this
        exact this
      · rw [if_pos z]
        intro hf
        rw [if_pos (by omega)]
        intro h0
        exact absurd rfl h0
    · rw [k0 13 (by decide)]
      intro h2 p hp
      rw [kc 11 _ (by decide), k4]
      rcases hp with z | z
      · exact hS h2 p z
      · intro w
        rw [z, t16, c11] at w
        omega
    · rw [k0 13 (by decide)]
      intro h2 q hq
      rw [kc 11 q (by decide)]
      exact hZ h2 q hq
theorem rf_good {M : Mo} {L : Nat → Prop} {q : Nat} (hL : L q) (h10 : M 10 (q / 16) = 0) (h11 : M 11 (q / 16) = 0) : Rf M L (m_good M) q := by
  refine ⟨fun z => Or.inl ⟨good_1 z, hL, Or.inr h10⟩, fun z => Or.inl ⟨good_n z, hL, h11⟩⟩
/-- a root's object: live, sound, out of the relocation set -/
theorem gi_rt {M : Mo} {L : Nat → Prop} (h : GI M L 6 (fun _ _ => False)) {r : Int} (hr : m_root r) (h0 : M 7 (m_rs r) ≠ 0) : M 7 (m_rs r) = m_good M ∧ Rf M L (M 7 (m_rs r)) (M 6 (m_rs r)).toNat ∧ L (M 6 (m_rs r)).toNat ∧ (M 0 13 = 2 → M 11 ((M 6 (m_rs r)).toNat / 16) = 0) := by
  obtain ⟨a, b⟩ := h.2.2.2.1 r.toNat (by omega) h0
  have b := b (by omega)
  refine ⟨b, a, ?_, ?_⟩
  · by_cases h1 : M 0 13 = 1
    · rcases a.1 h1 with ⟨_, z, _⟩ | ⟨_, z⟩ | ⟨z, _⟩
      · exact z
      · exact z
      · exact absurd (b.trans (good_1 h1)) z
    · rcases a.2 h1 with ⟨_, z, _⟩ | ⟨z, _⟩
      · exact z
      · have := mc_bd M
        rw [good_n h1] at b
        have b' : M 7 (384 + r.toNat) = 3 := b
        omega
  · intro h2
    rcases a.2 (by omega) with ⟨_, _, z⟩ | ⟨z, _⟩
    · exact z
    · have := mc_bd M
      rw [good_n (by omega)] at b
      have b' : M 7 (384 + r.toNat) = 3 := b
      omega
/-- a field that a call names -/
theorem field_cases {M : Mo} (h : Wf M) (r f : Int) : (m_field M r f < 0) ∨ (m_root r ∧ M 7 (m_rs r) ≠ 0 ∧ 0 ≤ f ∧ f < M 2 (M 6 (m_rs r)).toNat ∧ m_field M r f = 3 * M 6 (m_rs r) + f) := by
  have hp := wf_pl h (m_rs r)
  unfold m_field
  split
  · left; omega
  · rename_i hm
    split
    · left; omega
    · rename_i h0
      split
      · left; omega
      · rename_i hf
        exact Or.inr ⟨Classical.not_not.mp hm, h0, by omega, by omega, rfl⟩
theorem gi_fldLs {M : Mo} {L : Nat → Prop} (h : GI M L 6 (fun _ _ => False)) {r f : Int} (hn : ¬ m_field M r f < 0) : ∃ p k : Nat, L p ∧ (k : Int) < M 2 p ∧ m_field M r f = ((3 * p + k : Nat) : Int) ∧ (M 0 13 = 2 → M 11 (p / 16) = 0) := by
  rcases field_cases h.1 r f with z | ⟨hm, h0, f0, f1, e⟩
  · exact absurd z hn
  · obtain ⟨_, _, hL, h11⟩ := gi_rt h hm h0
    have hp := wf_pl h.1 (m_rs r)
    exact ⟨(M 6 (m_rs r)).toNat, f.toNat, hL, by omega, by omega, h11⟩
theorem gd_make {M : Mo} (h : Gd M) {as : List Int} (ha : ∀ a ∈ as, rg a) : Gd (f_make M as).2 ∧ (f_make M as).2 0 14 = M 0 14 := by
  match as, ha with
  | [r, n, v], ha =>
    unfold f_make
    dsimp only
    split
    · exact ⟨h, rfl⟩
    · split
      · exact ⟨h, rfl⟩
      · rename_i hb hrm
        dsimp only
        obtain ⟨L, g⟩ := h
        obtain ⟨t, r1, t128, t11, t10, e14, gm⟩ := gi_make g (n := n) (v := v) (by omega) (ha v (by simp)) hrm
        have et : ((t : Int)).toNat = t := by omega
        rw [r1, et, mk0_eq]
        have gb := good_bd (m_mkY (m_room M (n + 1)) t n v)
        refine ⟨⟨_, gi_put gm _ ⟨by omega, by omega⟩ (by omega) (fun _ => ⟨rfl, ?_⟩)⟩, ?_⟩
        · rw [et]
          exact rf_good (Or.inr rfl) t10 t11
        · rw [mu_cell (by decide), mu_cell (by decide)]; exact e14
  | [], _ => exact ⟨h, rfl⟩
  | [_], _ => exact ⟨h, rfl⟩
  | [_, _], _ => exact ⟨h, rfl⟩
  | _ :: _ :: _ :: _ :: _, _ => exact ⟨h, rfl⟩
theorem gd_load {M : Mo} (h : Gd M) (as : List Int) : Gd (f_load M as).2 ∧ (f_load M as).2 0 14 = M 0 14 := by
  match as with
  | [t, r, f] =>
    unfold f_load
    dsimp only
    split
    · exact ⟨h, rfl⟩
    · split
      · exact ⟨h, rfl⟩
      · rename_i hb hn
        dsimp only
        obtain ⟨L, g⟩ := h
        obtain ⟨p, k, hL, hk, e, h11⟩ := gi_fldLs g hn
        rw [e, show (((3 * p + k : Nat) : Int)).toNat = 3 * p + k by omega]
        have hs : Ls M L (3 * p + k) := Or.inr ⟨p, k, hL, hk, rfl⟩
        obtain ⟨L2, g2, hgd, hkeep, e13, e14⟩ := gi_heal g hs
        have p2 := hkeep p hL h11
        have z2 := (heal_12 g.1 (gi_HR g hs) (g.2.1 p hL)).2
        refine ⟨⟨L2, gi_put g2 _ (wf_pl g2.1 _) (wf_co g2.1 _) (fun z => ⟨hgd z, gi_rf g2 (Or.inr ⟨p, k, p2, by rw [z2]; exact hk, rfl⟩) z⟩)⟩, ?_⟩
        show m_copy _ _ _ 0 14 = _
        unfold m_copy
        rw [mu_cell (by decide), mu_cell (by decide)]; exact e14
  | [] => exact ⟨h, rfl⟩
  | [_] => exact ⟨h, rfl⟩
  | [_, _] => exact ⟨h, rfl⟩
  | _ :: _ :: _ :: _ :: _ => exact ⟨h, rfl⟩
theorem gi_cpr {M : Mo} {L : Nat → Prop} (h : GI M L 6 (fun _ _ => False)) {r : Int} (hr : m_root r) (t : Nat) : GI (m_copy M t (m_rs r)) L 6 (fun _ _ => False) :=
  gi_put h t (wf_pl h.1 _) (wf_co h.1 _) (fun z => by
    obtain ⟨a, b, _⟩ := gi_rt h hr z
    exact ⟨a, b⟩)
theorem copy_14 (M : Mo) (t s : Nat) : m_copy M t s 0 14 = M 0 14 := by
  unfold m_copy
  rw [mu_cell (by decide), mu_cell (by decide)]
theorem gd_store {M : Mo} (h : Gd M) (as : List Int) : Gd (f_store M as).2 ∧ (f_store M as).2 0 14 = M 0 14 := by
  match as with
  | [r, f, t] =>
    unfold f_store
    dsimp only
    split
    · exact ⟨h, rfl⟩
    · split
      · exact ⟨h, rfl⟩
      · rename_i hb hn
        dsimp only
        obtain ⟨L, g⟩ := h
        exact ⟨⟨L, gi_cpr g (Classical.not_not.mp hb) _⟩, copy_14 _ _ _⟩
  | [] => exact ⟨h, rfl⟩
  | [_] => exact ⟨h, rfl⟩
  | [_, _] => exact ⟨h, rfl⟩
  | _ :: _ :: _ :: _ :: _ => exact ⟨h, rfl⟩
theorem gd_copy {M : Mo} (h : Gd M) (as : List Int) : Gd (f_copy M as).2 ∧ (f_copy M as).2 0 14 = M 0 14 := by
  match as with
  | [t, r] =>
    unfold f_copy
    dsimp only
    split
    · exact ⟨h, rfl⟩
    · rename_i hb
      dsimp only
      obtain ⟨L, g⟩ := h
      exact ⟨⟨L, gi_cpr g (Classical.not_not.mp (fun z => hb (Or.inr z))) _⟩, copy_14 _ _ _⟩
  | [] => exact ⟨h, rfl⟩
  | [_] => exact ⟨h, rfl⟩
  | _ :: _ :: _ :: _ => exact ⟨h, rfl⟩
theorem gd_drop {M : Mo} (h : Gd M) (as : List Int) : Gd (f_drop M as).2 ∧ (f_drop M as).2 0 14 = M 0 14 := by
  match as with
  | [r] =>
    unfold f_drop
    dsimp only
    split
    · exact ⟨h, rfl⟩
    · dsimp only
      obtain ⟨L, g⟩ := h
      exact ⟨⟨L, gi_drop g _⟩, mu_cell (by decide)⟩
  | [] => exact ⟨h, rfl⟩
  | _ :: _ :: _ => exact ⟨h, rfl⟩
theorem gd_set {M : Mo} (h : Gd M) {as : List Int} (ha : ∀ a ∈ as, rg a) : Gd (f_set M as).2 ∧ (f_set M as).2 0 14 = M 0 14 := by
  match as, ha with
  | [r, v], ha =>
    unfold f_set
    dsimp only
    split
    · exact ⟨h, rfl⟩
    · dsimp only
      obtain ⟨L, g⟩ := h
      exact ⟨⟨L, gi_val g _ (ha v (by simp))⟩, mu_cell (by decide)⟩
  | [], _ => exact ⟨h, rfl⟩
  | [_], _ => exact ⟨h, rfl⟩
  | _ :: _ :: _ :: _, _ => exact ⟨h, rfl⟩
theorem gd_collect {M : Mo} (h : Gd M) (hc : M 0 14 < 2147480000) (as : List Int) : Gd (f_collect M as).2 ∧ (f_collect M as).2 0 14 ≤ M 0 14 + 100 := by
  match as with
  | [n] =>
    unfold f_collect
    dsimp only
    split
    · exact ⟨h, by dsimp only; omega⟩
    · obtain ⟨a, b⟩ := gd_steps h n.toNat (by omega)
      exact ⟨a, by dsimp only; omega⟩
  | [] => exact ⟨h, by show M 0 14 ≤ _; omega⟩
  | _ :: _ :: _ => exact ⟨h, by show M 0 14 ≤ _; omega⟩

/-! what keeps the state well-formed -/
theorem wf_of {M M' : Mo} (h : Wf M) (e : ∀ c j, c ≠ 0 → c ≠ 6 → c ≠ 7 → c ≠ 3 → M' c j = M c j) (e0 : ∀ j, j = 0 ∨ j = 12 ∨ j = 13 ∨ j = 14 ∨ j = 17 → M' 0 j = M 0 j) (h6 : ∀ s, 0 ≤ M' 6 s ∧ M' 6 s < 128) (h7 : ∀ s, 0 ≤ M' 7 s ∧ M' 7 s ≤ 3) (h3 : ∀ p, rg (M' 3 p)) : Wf M' := by
  have e1 : ∀ j, M' 1 j = M 1 j := fun j => e 1 j (by decide) (by decide) (by decide) (by decide)
  have e2 : ∀ j, M' 2 j = M 2 j := fun j => e 2 j (by decide) (by decide) (by decide) (by decide)
  have e4 : ∀ j, M' 4 j = M 4 j := fun j => e 4 j (by decide) (by decide) (by decide) (by decide)
  have e5 : ∀ j, M' 5 j = M 5 j := fun j => e 5 j (by decide) (by decide) (by decide) (by decide)
  have e8 : ∀ j, M' 8 j = M 8 j := fun j => e 8 j (by decide) (by decide) (by decide) (by decide)
  have e9 : ∀ j, M' 9 j = M 9 j := fun j => e 9 j (by decide) (by decide) (by decide) (by decide)
  have e10 : ∀ j, M' 10 j = M 10 j := fun j => e 10 j (by decide) (by decide) (by decide) (by decide)
  have e11 : ∀ j, M' 11 j = M 11 j := fun j => e 11 j (by decide) (by decide) (by decide) (by decide)
  have e12 : ∀ j, M' 12 j = M 12 j := fun j => e 12 j (by decide) (by decide) (by decide) (by decide)
  have f0 := e0 0 (by decide)
  have f12 := e0 12 (by decide)
  have f13 := e0 13 (by decide)
  have f14 := e0 14 (by decide)
  have f17 := e0 17 (by decide)
  obtain ⟨⟨⟨a1, a2, a4, a5, _, _⟩, a8, a12, a13, a14, a17, a0, _⟩, hs⟩ := h
  refine ⟨⟨⟨?_, ?_, ?_, ?_, h6, h7⟩, ?_, ?_, ?_, ?_, ?_, ?_, h3⟩, ?_⟩
  · simp only [e1]; exact a1
  · simp only [e2]; exact a2
  · simp only [e4]; exact a4
  · simp only [e5]; exact a5
  · simp only [e8, e9, e10, e11, e12]; exact a8
  · rw [f12]; exact a12
  · rw [f13]; exact a13
  · rw [f14]; exact a14
  · rw [f17]; exact a17
  · rw [f0]; exact a0
  · unfold SI at hs ⊢
    simp only [e1, e2, e4, e5, e8, e9, e10, e11, e12, f12, f13, f17]
    exact hs
theorem mu_rg6 {M : Mo} {s : Nat} {p : Int} (h : ∀ s, 0 ≤ M 6 s ∧ M 6 s < 128) (hp : 0 ≤ p ∧ p < 128) : ∀ s', 0 ≤ mu M 6 s p 6 s' ∧ mu M 6 s p 6 s' < 128 := by
  intro s'
  by_cases e : s' = s
  · rw [e, mu_same]; exact hp
  · rw [mu_place e]; exact h s'
theorem mu_rg7 {M : Mo} {s : Nat} {p : Int} (h : ∀ s, 0 ≤ M 7 s ∧ M 7 s ≤ 3) (hp : 0 ≤ p ∧ p ≤ 3) : ∀ s', 0 ≤ mu M 7 s p 7 s' ∧ mu M 7 s p 7 s' ≤ 3 := by
  intro s'
  by_cases e : s' = s
  · rw [e, mu_same]; exact hp
  · rw [mu_place e]; exact h s'
theorem wf_hset {X : Mo} (h : Wf X) {s : Nat} {p c : Int} (hp : 0 ≤ p ∧ p < 128) (hc : 0 ≤ c ∧ c ≤ 3) : Wf (hset X s p c) := by
  unfold hset
  refine wf_of h (fun a j h0 h6 h7 h3 => ?_) (fun j hj => ?_) ?_ ?_ ?_
  · rw [mu_cell h7, mu_cell h6, mu_cell h0]
  · rw [mu_cell (by decide), mu_cell (by decide), mu_place (by omega)]
  · intro s'
    rw [mu_cell (by decide)]
    exact mu_rg6 (fun s => by rw [mu_cell (by decide)]; exact wf_pl h s) hp s'
  · exact mu_rg7 (fun s => by rw [mu_cell (by decide), mu_cell (by decide)]; exact wf_co h s) hc
  · intro p
    rw [mu_cell (by decide), mu_cell (by decide), mu_cell (by decide)]
    exact wf_val h p
theorem wf_mu6 {X : Mo} (h : Wf X) {s : Nat} {p : Int} (hp : 0 ≤ p ∧ p < 128) : Wf (mu X 6 s p) :=
  wf_of h (fun a j h0 h6 h7 h3 => mu_cell h6) (fun j hj => mu_cell (by decide)) (mu_rg6 (wf_pl h) hp) (fun s => by rw [mu_cell (by decide)]; exact wf_co h s) (fun p => by rw [mu_cell (by decide)]; exact wf_val h p)
theorem wf_mu7 {X : Mo} (h : Wf X) {s : Nat} {p : Int} (hp : 0 ≤ p ∧ p ≤ 3) : Wf (mu X 7 s p) :=
  wf_of h (fun a j h0 h6 h7 h3 => mu_cell h7) (fun j hj => mu_cell (by decide)) (fun s => by rw [mu_cell (by decide)]; exact wf_pl h s) (mu_rg7 (wf_co h) hp) (fun p => by rw [mu_cell (by decide)]; exact wf_val h p)
theorem wf_mu3 {X : Mo} (h : Wf X) {s : Nat} {v : Int} (hv : rg v) : Wf (mu X 3 s v) :=
  wf_of h (fun a j h0 h6 h7 h3 => mu_cell h3) (fun j hj => mu_cell (by decide)) (fun s => by rw [mu_cell (by decide)]; exact wf_pl h s) (fun s => by rw [mu_cell (by decide)]; exact wf_co h s) (fun p => by
    by_cases e : p = s
    · rw [e, mu_same]; exact hv
    · rw [mu_place e]; exact wf_val h p)
theorem wf_copy {X : Mo} (h : Wf X) (t s : Nat) : Wf (m_copy X t s) := wf_mu7 (wf_mu6 h (wf_pl h s)) (wf_co h s)
theorem wf_mu15 {X : Mo} (h : Wf X) {v : Int} : Wf (mu X 0 15 v) :=
  wf_of h (fun a j h0 h6 h7 h3 => mu_cell h0) (fun j hj => mu_place (by omega)) (fun s => by rw [mu_cell (by decide)]; exact wf_pl h s) (fun s => by rw [mu_cell (by decide)]; exact wf_co h s) (fun p => by rw [mu_cell (by decide)]; exact wf_val h p)
/-- a whole state out of its facts -/
theorem wf_intro {M : Mo} (t1 : ∀ p, M 1 p = 0 ∨ M 1 p = 1) (t2 : ∀ p, 0 ≤ M 2 p ∧ M 2 p ≤ 3) (t4 : ∀ p, M 4 p = 0 ∨ M 4 p = 1) (t5 : ∀ p, -1 ≤ M 5 p ∧ M 5 p < 128) (t6 : ∀ s, 0 ≤ M 6 s ∧ M 6 s < 128) (t7 : ∀ s, 0 ≤ M 7 s ∧ M 7 s ≤ 3)
    (t8 : ∀ q, M 8 q = 0 ∨ M 8 q = 1) (t9 : ∀ q, 0 ≤ M 9 q ∧ M 9 q ≤ 16) (t10 : ∀ q, M 10 q = 0 ∨ M 10 q = 1) (t11 : ∀ q, M 11 q = 0 ∨ M 11 q = 1) (t12 : ∀ i, 0 ≤ M 12 i ∧ M 12 i < 128)
    (al : -1 ≤ M 0 12 ∧ M 0 12 < 8) (ph : 0 ≤ M 0 13 ∧ M 0 13 ≤ 2) (cy : 0 ≤ M 0 14 ∧ M 0 14 < 2147483647) (sk : 0 ≤ M 0 17 ∧ M 0 17 ≤ 128) (th : 1 ≤ M 0 0 ∧ M 0 0 ≤ 16) (val : ∀ p, rg (M 3 p))
    (s1 : ∀ q, M 8 q = 0 → M 9 q = 0 ∧ M 10 q = 0 ∧ M 11 q = 0) (s2 : ∀ q, M 8 q = 1 → 0 < M 9 q) (s3 : 0 ≤ M 0 12 → M 8 (M 0 12).toNat = 1 ∧ M 10 (M 0 12).toNat = 0 ∧ M 11 (M 0 12).toNat = 0)
    (s4 : ∀ p : Nat, M 1 p = 1 → p < 128 ∧ M 8 (p / 16) = 1 ∧ (p : Int) + M 2 p + 1 ≤ 16 * ((p / 16 : Nat) : Int) + M 9 (p / 16))
    (s5 : ∀ p p' : Nat, M 1 p = 1 → M 1 p' = 1 → p < p' → p / 16 = p' / 16 → (p : Int) + M 2 p + 1 ≤ p') (s6 : ∀ p, M 4 p = 1 → M 1 p = 1) (s7 : ∀ q, M 11 q = 1 → M 10 q = 1)
    (s8 : ∀ k : Nat, (k : Int) < M 0 17 → M 4 (M 12 k).toNat = 1) (s9 : ∀ k k' : Nat, (k : Int) < M 0 17 → k' < k → M 12 k' ≠ M 12 k) (s10 : M 0 13 ≠ 1 → M 0 17 = 0) : Wf M :=
  ⟨⟨⟨t1, t2, t4, t5, t6, t7⟩, ⟨t8, t9, t10, t11, t12⟩, al, ph, cy, sk, th, val⟩, s1, s2, s3, s4, s5, s6, s7, s8, s9, s10⟩
theorem mk_cases (M : Mo) (p : Nat) : (M 4 p = 1 ∧ m_mark M p = M) ∨ (M 4 p ≠ 1 ∧ m_mark M p = mu (mu (mu M 4 p 1) 12 (M 0 17).toNat (p : Int)) 0 17 (M 0 17 + 1)) := by
  unfold m_mark
  by_cases h : M 4 p = 1
  · exact Or.inl ⟨h, by rw [if_pos h]⟩
  · exact Or.inr ⟨h, by rw [if_neg h]⟩
theorem wf_mark {M : Mo} (h : Wf M) {p : Nat} (hp : M 1 p = 1) (hph : M 0 13 = 1) : Wf (m_mark M p) := by
  rcases mk_cases M p with ⟨_, e⟩ | ⟨hm, e⟩
  · rw [e]; exact h
  · rw [e]
    have hl := stk_lt h hp hm
    have hs := wf_sk h
    have hpl := (si_obj h hp).1
    obtain ⟨n, hn⟩ : ∃ n : Nat, M 0 17 = n := ⟨(M 0 17).toNat, by omega⟩
    have hn2 : (M 0 17).toNat = n := by omega
    rw [hn2]
    have r : ∀ c j, c ≠ 0 → c ≠ 4 → c ≠ 12 → mu (mu (mu M 4 p 1) 12 n (p : Int)) 0 17 (M 0 17 + 1) c j = M c j := fun c j c0 c4 c12 => by rw [mu_cell c0, mu_cell c12, mu_cell c4]
    have r0 : ∀ j, j ≠ 17 → mu (mu (mu M 4 p 1) 12 n (p : Int)) 0 17 (M 0 17 + 1) 0 j = M 0 j := fun j hj => by rw [mu_place hj, mu_cell (by decide), mu_cell (by decide)]
    have r17 : mu (mu (mu M 4 p 1) 12 n (p : Int)) 0 17 (M 0 17 + 1) 0 17 = M 0 17 + 1 := mu_same
    have r4 : ∀ j, mu (mu (mu M 4 p 1) 12 n (p : Int)) 0 17 (M 0 17 + 1) 4 j = if j = p then 1 else M 4 j := fun j => by
      rw [mu_cell (by decide), mu_cell (by decide)]
      by_cases e : j = p
      · rw [if_pos e, e, mu_same]
      · rw [if_neg e, mu_place e]
    have r12 : ∀ j, mu (mu (mu M 4 p 1) 12 n (p : Int)) 0 17 (M 0 17 + 1) 12 j = if j = n then (p : Int) else M 12 j := fun j => by
      rw [mu_cell (by decide)]
      by_cases e : j = n
      · rw [if_pos e, e, mu_same]
      · rw [if_neg e, mu_place e, mu_cell (by decide)]
    generalize mu (mu (mu M 4 p 1) 12 n (p : Int)) 0 17 (M 0 17 + 1) = M' at r r0 r17 r4 r12
    have r1 := fun j => r 1 j (by decide) (by decide) (by decide)
    have r2 := fun j => r 2 j (by decide) (by decide) (by decide)
    have r3 := fun j => r 3 j (by decide) (by decide) (by decide)
    have r5 := fun j => r 5 j (by decide) (by decide) (by decide)
    have r6 := fun j => r 6 j (by decide) (by decide) (by decide)
    have r7 := fun j => r 7 j (by decide) (by decide) (by decide)
    have r8 := fun j => r 8 j (by decide) (by decide) (by decide)
    have r9 := fun j => r 9 j (by decide) (by decide) (by decide)
    have r10 := fun j => r 10 j (by decide) (by decide) (by decide)
    have r11 := fun j => r 11 j (by decide) (by decide) (by decide)
    have z12 := r0 12 (by decide)
    have z13 := r0 13 (by decide)
    have z14 := r0 14 (by decide)
    have z0 := r0 0 (by decide)
    refine wf_intro ?_ ?_ ?_ ?_ ?_ ?_ ?_ ?_ ?_ ?_ ?_ ?_ ?_ ?_ ?_ ?_ ?_ ?_ ?_ ?_ ?_ ?_ ?_ ?_ ?_ ?_ ?_
    · intro q; rw [r1]; exact wf_ob h q
    · intro q; rw [r2]; exact wf_sz h q
    · intro q; rw [r4]; split
      · exact Or.inr rfl
      · exact wf_mk h q
    · intro q; rw [r5]; exact wf_fw h q
    · intro q; rw [r6]; exact wf_pl h q
    · intro q; rw [r7]; exact wf_co h q
    · intro q; rw [r8]; exact wf_iu h q
    · intro q; rw [r9]; exact wf_us h q
    · intro q; rw [r10]; exact wf_ca h q
    · intro q; rw [r11]; exact wf_st h q
    · intro q; rw [r12]; split
      · omega
      · exact wf_stk h q
    · rw [z12]; exact wf_al h
    · rw [z13]; exact wf_ph h
    · rw [z14]; exact wf_cy h
    · rw [r17]; omega
    · rw [z0]; exact wf_th h
    · intro q; rw [r3]; exact wf_val h q
    · intro q; rw [r8, r9, r10, r11]; exact si_free h
    · intro q; rw [r8, r9]; exact si_use h
    · rw [z12, r8, r10, r11]; exact si_al h
    · intro q; rw [r1, r2, r8, r9]; exact si_obj h
    · intro q q'; rw [r1, r1, r2]; exact si_apart h
    · intro q; rw [r4, r1]; split
      · rename_i e; intro _; rw [e]; exact hp
      · exact si_mo h
    · intro q; rw [r10, r11]; exact si_sc h
    · intro k hk
      rw [r17] at hk
      rw [r12]
      by_cases e : k = n
      · rw [if_pos e, r4, if_pos (by omega)]
      · rw [if_neg e, r4]
        split
        · rfl
        · exact si_stm h (by omega)
    · intro k k' hk hl
      rw [r17] at hk
      rw [r12, r12, if_neg (show ¬ k' = n by omega)]
      by_cases e : k = n
      · rw [if_pos e]
        intro q
        have := si_stm h (k := k') (by omega)
        rw [q, show ((p : Int)).toNat = p by omega] at this
        exact hm this
      · rw [if_neg e]
        exact si_std h (by omega) hl
    · rw [z13]
      intro q; exact absurd hph q
theorem wf_unset {M : Mo} (h : Wf M) (q : Nat) : Wf (mu M 11 q 0) := by
  have r : ∀ c j, c ≠ 11 → mu M 11 q 0 c j = M c j := fun c j hc => mu_cell hc
  have r11 : ∀ j, mu M 11 q 0 11 j = if j = q then 0 else M 11 j := fun j => by
    by_cases e : j = q
    · rw [if_pos e, e, mu_same]
    · rw [if_neg e, mu_place e]
  generalize mu M 11 q 0 = M' at r r11
  refine wf_intro ?_ ?_ ?_ ?_ ?_ ?_ ?_ ?_ ?_ ?_ ?_ ?_ ?_ ?_ ?_ ?_ ?_ ?_ ?_ ?_ ?_ ?_ ?_ ?_ ?_ ?_ ?_
  · intro q; rw [r 1 q (by decide)]; exact wf_ob h q
  · intro q; rw [r 2 q (by decide)]; exact wf_sz h q
  · intro q; rw [r 4 q (by decide)]; exact wf_mk h q
  · intro q; rw [r 5 q (by decide)]; exact wf_fw h q
  · intro q; rw [r 6 q (by decide)]; exact wf_pl h q
  · intro q; rw [r 7 q (by decide)]; exact wf_co h q
  · intro q; rw [r 8 q (by decide)]; exact wf_iu h q
  · intro q; rw [r 9 q (by decide)]; exact wf_us h q
  · intro q; rw [r 10 q (by decide)]; exact wf_ca h q
  · intro q; rw [r11]; split
    · exact Or.inl rfl
    · exact wf_st h q
  · intro q; rw [r 12 q (by decide)]; exact wf_stk h q
  · rw [r 0 _ (by decide)]; exact wf_al h
  · rw [r 0 _ (by decide)]; exact wf_ph h
  · rw [r 0 _ (by decide)]; exact wf_cy h
  · rw [r 0 _ (by decide)]; exact wf_sk h
  · rw [r 0 _ (by decide)]; exact wf_th h
  · intro q; rw [r 3 q (by decide)]; exact wf_val h q
  · intro q hq
    rw [r 8 q (by decide)] at hq
    have := si_free h hq
    rw [r 9 q (by decide), r 10 q (by decide), r11]
    refine ⟨this.1, this.2.1, ?_⟩
    split
    · rfl
    · exact this.2.2
  · intro q; rw [r 8 q (by decide), r 9 q (by decide)]; exact si_use h
  · rw [r 0 _ (by decide)]
    intro ha
    have := si_al h ha
    rw [r 8 _ (by decide), r 10 _ (by decide), r11]
    refine ⟨this.1, this.2.1, ?_⟩
    split
    · rfl
    · exact this.2.2
  · intro p; rw [r 1 p (by decide), r 2 p (by decide), r 8 _ (by decide), r 9 _ (by decide)]; exact si_obj h
  · intro p p'; rw [r 1 p (by decide), r 1 p' (by decide), r 2 p (by decide)]; exact si_apart h
  · intro p; rw [r 4 p (by decide), r 1 p (by decide)]; exact si_mo h
  · intro p hp
    rw [r11] at hp
    rw [r 10 p (by decide)]
    split at hp
    · omega
    · exact si_sc h hp
  · intro k hk
    rw [r 0 _ (by decide)] at hk
    rw [r 4 _ (by decide), r 12 _ (by decide)]
    exact si_stm h hk
  · intro k k' hk hl
    rw [r 0 _ (by decide)] at hk
    rw [r 12 _ (by decide), r 12 _ (by decide)]
    exact si_std h hk hl
  · rw [r 0 _ (by decide), r 0 _ (by decide)]
    exact si_s0 h
/-- a new object at t of page a, in the words that room was made of: cells 1 (and 2, 4) at t -/
theorem wf_new {M M' : Mo} (h : Wf M) {a t : Nat} {w : Int} (w1 : 1 ≤ w) (w2 : w ≤ 4) (ha8 : a < 8) (h16 : 16 * a ≤ t) (hfit : (t : Int) + w ≤ 16 * a + 16) (c10 : M 10 a = 0) (c11 : M 11 a = 0) (hap : ∀ p : Nat, M 1 p = 1 → p / 16 = a → (p : Int) + M 2 p + 1 ≤ t)
    (e1 : ∀ j, M' 1 j = if j = t then 1 else M 1 j) (e2 : ∀ j, M' 2 j = if j = t then w - 1 else M 2 j) (e8 : ∀ j, M' 8 j = if j = a then 1 else M 8 j) (e9 : ∀ j, M' 9 j = if j = a then (t : Int) - 16 * a + w else M 9 j) (e10 : ∀ j, M' 10 j = M 10 j) (e11 : ∀ j, M' 11 j = M 11 j) (e12 : ∀ j, M' 12 j = M 12 j)
    (e5 : ∀ p, -1 ≤ M' 5 p ∧ M' 5 p < 128) (e4 : ∀ j, M' 4 j = M 4 j ∨ (M' 4 j = 0 ∧ M 0 17 = 0)) (e6 : ∀ s, 0 ≤ M' 6 s ∧ M' 6 s < 128) (e7 : ∀ s, 0 ≤ M' 7 s ∧ M' 7 s ≤ 3) (e3 : ∀ p, rg (M' 3 p))
    (f12 : M' 0 12 = a) (f13 : M' 0 13 = M 0 13) (f14 : M' 0 14 = M 0 14) (f17 : M' 0 17 = M 0 17) (f0 : M' 0 0 = M 0 0) : Wf M' := by
  have ht : t / 16 = a := by omega
  refine wf_intro ?_ ?_ ?_ e5 e6 e7 ?_ ?_ ?_ ?_ ?_ ?_ ?_ ?_ ?_ ?_ e3 ?_ ?_ ?_ ?_ ?_ ?_ ?_ ?_ ?_ ?_
  · intro q; rw [e1]; split
    · exact Or.inr rfl
    · exact wf_ob h q
  · intro q; rw [e2]; split
    · omega
    · exact wf_sz h q
  · intro q; rcases e4 q with z | z
    · rw [z]; exact wf_mk h q
    · exact Or.inl z.1
  · intro q; rw [e8]; split
    · exact Or.inr rfl
    · exact wf_iu h q
  · intro q; rw [e9]; split
    · omega
    · exact wf_us h q
  · intro q; rw [e10]; exact wf_ca h q
  · intro q; rw [e11]; exact wf_st h q
  · intro q; rw [e12]; exact wf_stk h q
  · rw [f12]; omega
  · rw [f13]; exact wf_ph h
  · rw [f14]; exact wf_cy h
  · rw [f17]; exact wf_sk h
  · rw [f0]; exact wf_th h
  · intro q hq
    rw [e8] at hq
    rw [e9, e10, e11]
    split at hq
    · omega
    · rename_i z; rw [if_neg z]; exact si_free h hq
  · intro q hq
    rw [e8] at hq
    rw [e9]
    split at hq
    · rename_i z; rw [if_pos z]; omega
    · rename_i z; rw [if_neg z]; exact si_use h hq
  · intro _
    rw [f12, show ((a : Int)).toNat = a by omega, e8, if_pos rfl, e10, e11]
    exact ⟨rfl, c10, c11⟩
  · intro p hp
    rw [e1] at hp
    by_cases e : p = t
    · subst e
      rw [e2, e8, e9, if_pos rfl, if_pos ht, if_pos ht, ht]
      exact ⟨by omega, rfl, by omega⟩
    · rw [if_neg e] at hp
      have ho := si_obj h hp
      rw [e2, if_neg e, e8, e9]
      refine ⟨ho.1, ?_, ?_⟩
      · split
        · rfl
        · exact ho.2.1
      · split
        · rename_i z
          have := hap p hp z
          rw [z]
          omega
        · exact ho.2.2
  · intro p p' hp hp' hl hq
    rw [e1] at hp hp'
    rw [e2]
    by_cases e : p = t
    · rw [if_pos e]
      rw [if_neg (by omega)] at hp'
      have := hap p' hp' (by omega)
      have := wf_sz h p'
      omega
    · rw [if_neg e] at hp ⊢
      by_cases e' : p' = t
      · subst e'
        exact hap p hp (by omega)
      · rw [if_neg e'] at hp'
        exact si_apart h hp hp' hl hq
  · intro p hp
    rw [e1]
    rcases e4 p with z | z
    · rw [z] at hp
      split
      · rfl
      · exact si_mo h hp
    · omega
  · intro q; rw [e10, e11]; exact si_sc h
  · intro k hk
    rw [f17] at hk
    rw [e12]
    rcases e4 (M 12 k).toNat with z | z
    · rw [z]; exact si_stm h hk
    · omega
  · intro k k' hk hl
    rw [f17] at hk
    rw [e12, e12]
    exact si_std h hk hl
  · rw [f13, f17]; exact si_s0 h
theorem wf_move {M : Mo} (h : Wf M) {p : Nat} (hp : M 1 p = 1) (hph : M 0 13 ≠ 1) : Wf (m_move M p) := by
  have hz := wf_sz h p
  unfold m_move
  rcases room_cases h (w := M 2 p + 1) (by omega) (by omega) with ⟨r1, r2⟩ | ⟨a, t, a8, r1, r2, h16, hfit, c10, c11, hap⟩
  · rw [if_pos r1]; exact h
  · rw [if_neg (by rw [r1]; omega), r1, r2, show ((t : Int)).toNat = t by omega]
    obtain ⟨R, hR⟩ : ∃ R, R = mu (mu (mu M 8 a 1) 0 12 (a : Int)) 9 a ((t : Int) - 16 * a + (M 2 p + 1)) := ⟨_, rfl⟩
    rw [← hR]
    have rc : ∀ c j, c ≠ 0 → c ≠ 8 → c ≠ 9 → R c j = M c j := fun c j c0 c8 c9 => by rw [hR, mu_cell c9, mu_cell c0, mu_cell c8]
    have r0 : ∀ j, j ≠ 12 → R 0 j = M 0 j := fun j hj => by rw [hR, mu_cell (by decide), mu_place hj, mu_cell (by decide)]
    have s0 := si_s0 h hph
    refine wf_new h (a := a) (t := t) (w := M 2 p + 1) (by omega) (by omega) a8 h16 hfit c10 c11 hap ?_ ?_ ?_ ?_ ?_ ?_ ?_ ?_ ?_ ?_ ?_ ?_ ?_ ?_ ?_ ?_ ?_
    · intro j; rw [mv_1, rc 1 j (by decide) (by decide) (by decide)]
    · intro j; rw [mv_2, rc 2 j (by decide) (by decide) (by decide), rc 2 p (by decide) (by decide) (by decide)]
      split <;> omega
    · intro j; rw [mv_hi _ _ _ _ _ (by decide), hR, mu_cell (by decide), mu_cell (by decide)]
      by_cases e : j = a
      · rw [if_pos e, e, mu_same]
      · rw [if_neg e, mu_place e]
    · intro j; rw [mv_hi _ _ _ _ _ (by decide), hR]
      by_cases e : j = a
      · rw [if_pos e, e, mu_same]
      · rw [if_neg e, mu_place e, mu_cell (by decide), mu_cell (by decide)]
    · intro j; rw [mv_hi _ _ _ _ _ (by decide), rc 10 j (by decide) (by decide) (by decide)]
    · intro j; rw [mv_hi _ _ _ _ _ (by decide), rc 11 j (by decide) (by decide) (by decide)]
    · intro j; rw [mv_hi _ _ _ _ _ (by decide), rc 12 j (by decide) (by decide) (by decide)]
    · intro j; rw [mv_5, rc 5 j (by decide) (by decide) (by decide)]
      have := wf_fw h j
      split <;> omega
    · intro j; rw [mv_4, rc 4 j (by decide) (by decide) (by decide)]
      split
      · exact Or.inr ⟨rfl, s0⟩
      · split
        · exact Or.inr ⟨rfl, s0⟩
        · exact Or.inl rfl
    · intro j; rw [mv_6, rc 6 _ (by decide) (by decide) (by decide), rc 6 j (by decide) (by decide) (by decide)]
      split
      · exact wf_pl h _
      · exact wf_pl h _
    · intro j; rw [mv_7, rc 7 _ (by decide) (by decide) (by decide), rc 7 j (by decide) (by decide) (by decide)]
      split
      · exact wf_co h _
      · exact wf_co h _
    · intro j; rw [mv_3, rc 3 _ (by decide) (by decide) (by decide), rc 3 j (by decide) (by decide) (by decide)]
      split
      · exact wf_val h _
      · exact wf_val h _
    · rw [mv_0, if_neg (by decide), hR, mu_cell (by decide), mu_same]
    · rw [mv_0, if_neg (by decide), r0 _ (by decide)]
    · rw [mv_0, if_neg (by decide), r0 _ (by decide)]
    · rw [mv_0, if_neg (by decide), r0 _ (by decide)]
    · rw [mv_0, if_neg (by decide), r0 _ (by decide)]

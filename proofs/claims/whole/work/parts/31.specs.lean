/-! WHAT EACH METHOD ASKS AND DOES -/
/-- a slot's reference stands for an object -/
def HR (M : Mo) (s : Nat) : Prop := M 7 s ≠ 0 → M 7 s ≠ m_good M → M 1 (m_res M s) = 1
def Hc (M : Mo) (s n : Nat) : Prop := ∀ k, k < n → Wf (m_heals M s k) ∧ HR (m_heals M s k) (s + k)
def Jc (M : Mo) : Prop := ∀ k, k < 8 → Wf (m_judges (m_nofw M) k)
/-- a reference (colour c, place q) is sound, L being the live objects -/
def Rf (M : Mo) (L : Nat → Prop) (c : Int) (q : Nat) : Prop :=
  (M 0 13 = 1 → (c = m_mc M ∧ L q ∧ (M 4 q = 1 ∨ M 10 (q / 16) = 0)) ∨ (c = 3 ∧ L q) ∨ (c ≠ m_mc M ∧ c ≠ 3 ∧ (M 5 q = -1 → L q) ∧ (M 5 q ≠ -1 → L (M 5 q).toNat))) ∧
  (M 0 13 ≠ 1 → (c = 3 ∧ L q ∧ M 11 (q / 16) = 0) ∨ (c = m_mc M ∧ (M 5 q = -1 → L q) ∧ (M 5 q ≠ -1 → L (M 5 q).toNat ∧ M 11 ((M 5 q).toNat / 16) = 0)))
/-- the collector's invariant: L the live objects, the first i roots have the good colour, X the fields of marked objects that are not healed yet -/
def GI (M : Mo) (L : Nat → Prop) (i : Nat) (X : Nat → Nat → Prop) : Prop := Wf M ∧ (∀ p, L p → M 1 p = 1) ∧ (∀ p, M 4 p = 1 → L p) ∧
  (∀ r, r < 6 → M 7 (384 + r) ≠ 0 → Rf M L (M 7 (384 + r)) (M 6 (384 + r)).toNat ∧ (r < i → M 7 (384 + r) = m_good M)) ∧
  (∀ p f : Nat, L p → (f : Int) < M 2 p → M 7 (3 * p + f) ≠ 0 → Rf M L (M 7 (3 * p + f)) (M 6 (3 * p + f)).toNat) ∧
  (M 0 13 = 1 → ∀ p f : Nat, L p → (f : Int) < M 2 p → M 7 (3 * p + f) ≠ 0 → ¬ X p f → ((M 4 p = 1 ∧ ∀ k : Nat, (k : Int) < M 0 17 → M 12 k ≠ p) ∨ M 10 (p / 16) = 0) → M 7 (3 * p + f) = m_good M) ∧
  (M 0 13 = 2 → ∀ p, L p → M 11 (p / 16) = 1 → M 4 p = 1) ∧ (M 0 13 ≠ 2 → ∀ q, q < 8 → M 11 q = 0)
def Gd (M : Mo) : Prop := ∃ L, GI M L 6 (fun _ _ => False)
/-- a method that the law calls -/
def puP (K : Mo → Mo → Prop) (n : Nat) : Mo → Mo → List Int → Prop := fun g σ as => (K g σ ∧ Gd g) ∧ g 0 14 < 2147480000 ∧ as.length = n ∧ ∀ a ∈ as, rg a
def puQ (K : Mo → Mo → Prop) (f : Mo → List Int → Int × Mo) : Mo → Mo → List Int → Int → Mo → Prop := fun g _ as y τ => y = (f g as).1 ∧ K (f g as).2 τ
abbrev SPr : Type := Mo → Mo → List Int → Prop
abbrev SPo : Type := Mo → Mo → List Int → Int → Mo → Prop
-- the class
def prX0_isRoot : SPr := fun _ _ as => match as with | [a] => rg a | _ => False
def poX0_isRoot : SPo := fun _ σ as y τ => match as with | [a] => (y = if m_root a then 1 else 0) ∧ τ = σ | _ => False
def prX0_pageOf : SPr := fun _ _ as => match as with | [a] => 0 ≤ a ∧ a < 128 | _ => False
def poX0_pageOf : SPo := fun _ σ as y τ => match as with | [a] => y = a / 16 ∧ τ = σ | _ => False
def prX0_holdsNothing : SPr := fun _ σ as => match as with | [i] => (0 ≤ i ∧ i < 134) ∧ ∀ j, rg (σ 2 j) | _ => False
def poX0_holdsNothing : SPo := fun _ σ as y τ => match as with | [i] => (y = if σ 2 i.toNat = 0 then 1 else 0) ∧ τ = σ | _ => False
def prX0_place : SPr := fun _ σ as => match as with | [r] => rg r ∧ ∀ j, rg (σ 2 j) | _ => False
def poX0_place : SPo := fun _ σ as y τ => match as with | [r] => (y = if ¬ m_root r then -1 else if σ 2 (128 + r.toNat) = 0 then -2 else σ 1 (128 + r.toNat)) ∧ τ = σ | _ => False
def prX0_fieldSlot : SPr := fun g σ as => match as with | [r, f] => KC g σ ∧ Gd g ∧ rg r ∧ rg f | _ => False
def poX0_fieldSlot : SPo := fun g σ as y τ => match as with | [r, f] => τ = σ ∧ (m_field g r f < 0 → y = m_field g r f) ∧ (0 ≤ m_field g r f → (0 ≤ y ∧ y < 134) ∧ Sx g y.toNat (m_field g r f).toNat) | _ => False
def prX0_copySlot : SPr := fun _ _ as => match as with | [a, b] => (0 ≤ a ∧ a < 134) ∧ 0 ≤ b ∧ b < 134 | _ => False
def poX0_copySlot : SPo := fun _ σ as _ τ => match as with | [a, b] => τ = mu (mu σ 1 b.toNat (σ 1 a.toNat)) 2 b.toNat (σ 2 a.toNat) | _ => False
def prX0_goodColour : SPr := fun _ σ as => match as with | [] => (0 ≤ σ 0 13 ∧ σ 0 13 ≤ 2) ∧ 0 ≤ σ 0 16 ∧ σ 0 16 < 2147483648 | _ => False
def poX0_goodColour : SPo := fun _ σ as y τ => match as with | [] => (y = if σ 0 13 = 1 then (if σ 0 16 % 2 = 1 then 1 else 2) else 3) ∧ τ = σ | _ => False
def prX0_pageState : SPr := fun _ σ as => match as with | [q] => (0 ≤ q ∧ q < 8) ∧ rg (σ 8 q.toNat) ∧ rg (σ 0 12) ∧ rg (σ 10 q.toNat) | _ => False
def poX0_pageState : SPo := fun _ σ as y τ => match as with | [q] => (y = if σ 8 q.toNat = 0 then 0 else if q = σ 0 12 then 2 else if σ 10 q.toNat = 0 then 1 else 4) ∧ τ = σ | _ => False
def prX0_markedObjects : SPr := fun _ σ as => match as with | [q] => (0 ≤ q ∧ q < 8) ∧ ∀ j, rg (σ 5 j) | _ => False
def poX0_markedObjects : SPo := fun _ σ as y τ => match as with | [q] => y = m_sum (fun k => if σ 5 k = 0 then 0 else 1) 16 (16 * q.toNat) ∧ τ = σ | _ => False
def prX0_forwardings : SPr := fun _ σ as => match as with | [q] => (0 ≤ q ∧ q < 8) ∧ ∀ j, rg (σ 6 j) | _ => False
def poX0_forwardings : SPo := fun _ σ as y τ => match as with | [q] => y = m_sum (fun k => if σ 6 k = -1 then 0 else 1) 16 (16 * q.toNat) ∧ τ = σ | _ => False
def prX0_leastFreePage : SPr := fun _ σ as => match as with | [] => ∀ j, rg (σ 8 j) | _ => False
def poX0_leastFreePage : SPo := fun _ σ as y τ => match as with | [] => (y = if m_fst (fun p => decide (σ 8 p = 0)) 8 0 = 8 then -1 else ((m_fst (fun p => decide (σ 8 p = 0)) 8 0 : Nat) : Int)) ∧ τ = σ | _ => False
def prX0_takeRoom : SPr := fun g σ as => match as with | [w] => (∃ P C, σ = cls g P C) ∧ Wf g ∧ 1 ≤ w ∧ w ≤ 4 | _ => False
def poX0_takeRoom : SPo := fun g σ as y τ => match as with | [w] => y = m_roomP g w ∧ ∀ P C, σ = cls g P C → τ = cls (m_room g w) P C | _ => False
def prX0_mark : SPr := fun g σ as => match as with | [p] => (∃ P C, σ = cls g P C) ∧ Wf g ∧ (0 ≤ p ∧ p < 128) ∧ g 1 p.toNat = 1 | _ => False
def poX0_mark : SPo := fun g σ as _ τ => match as with | [p] => ∀ P C, σ = cls g P C → τ = cls (m_mark g p.toNat) P C | _ => False
def prX0_moveAway : SPr := fun g σ as => match as with | [p] => KC g σ ∧ Wf g ∧ g 0 13 = 2 ∧ (0 ≤ p ∧ p < 128) ∧ g 1 p.toNat = 1 | _ => False
def poX0_moveAway : SPo := fun g _ as y τ => match as with | [p] => (m_roomP g (g 2 p.toNat + 1) = -1 → y = p ∧ KC (mu g 11 (p.toNat / 16) 0) τ) ∧ (m_roomP g (g 2 p.toNat + 1) ≠ -1 → y = m_roomP g (g 2 p.toNat + 1) ∧ KC (m_move g p.toNat) τ) | _ => False
def prX0_heal : SPr := fun g σ as => match as with | [i] => KC g σ ∧ Wf g ∧ (0 ≤ i ∧ i < 134) ∧ ∃ s, Sx g i.toNat s ∧ HR g s | _ => False
def poX0_heal : SPo := fun g _ as _ τ => match as with | [i] => ∀ s, Sx g i.toNat s → KC (m_heal g s) τ | _ => False
def prX0_healSlots : SPr := fun g σ as => match as with | [i, n] => KC g σ ∧ 0 ≤ i ∧ (0 ≤ n ∧ n ≤ 6) ∧ ∃ s, (∀ k, k < n.toNat → Sx g (i.toNat + k) (s + k)) ∧ Hc g s n.toNat | _ => False
def poX0_healSlots : SPo := fun g _ as _ τ => match as with | [i, n] => ∀ s, (∀ k, k < n.toNat → Sx g (i.toNat + k) (s + k)) → KC (m_heals g s n.toNat) τ | _ => False
def prX0_liveWords : SPr := fun _ σ as => match as with | [q] => (0 ≤ q ∧ q < 8) ∧ (∀ j, rg (σ 5 j)) | _ => False
def poX0_liveWords : SPo := fun _ σ as y τ => match as with | [q] => y = m_sum (fun k => if σ 5 k = 0 then 0 else σ 4 k + 1) 16 (16 * q.toNat) ∧ τ = σ | _ => False
def prX0_becomeFree : SPr := fun _ _ as => match as with | [q] => 0 ≤ q ∧ q < 8 | _ => False
def poX0_becomeFree : SPo := fun _ σ as _ τ => match as with | [q] => τ = mu (mu (mu σ 8 q.toNat 0) 9 q.toNat 0) 10 q.toNat 0 | _ => False
def prX0_judge : SPr := fun g σ as => match as with | [q] => (∃ P C, σ = cls g P C) ∧ Wf g ∧ (0 ≤ q ∧ q < 8) ∧ g 10 q.toNat = 1 | _ => False
def poX0_judge : SPo := fun g σ as _ τ => match as with | [q] => ∀ P C, σ = cls g P C → τ = cls (m_judge g q.toNat) P C | _ => False
def prX0_beginMarking : SPr := fun g σ as => match as with | [] => (∃ P C, σ = cls g P C) ∧ Wf g | _ => False
def poX0_beginMarking : SPo := fun g σ as _ τ => match as with | [] => ∀ P C, σ = cls g P C → τ = cls (m_begin0 g) P C | _ => False
def prX0_beginRelocating : SPr := fun g σ as => match as with | [] => (∃ P C, σ = cls g P C) ∧ Jc g | _ => False
def poX0_beginRelocating : SPo := fun g σ as _ τ => match as with | [] => ∀ P C, σ = cls g P C → τ = cls (m_choose0 g) P C | _ => False
def prX0_leastPageOfSet : SPr := fun _ σ as => match as with | [] => ∀ j, σ 10 j = 0 ∨ σ 10 j = 1 | _ => False
def poX0_leastPageOfSet : SPo := fun _ σ as y τ => match as with | [] => (y = if m_fst (fun p => decide (σ 10 p = 1)) 8 0 = 8 then -1 else ((m_fst (fun p => decide (σ 10 p = 1)) 8 0 : Nat) : Int)) ∧ τ = σ | _ => False
def prX0_leastMarkedPlace : SPr := fun _ σ as => match as with | [q] => (0 ≤ q ∧ q < 8) ∧ ∀ j, σ 5 j = 0 ∨ σ 5 j = 1 | _ => False
def poX0_leastMarkedPlace : SPo := fun _ σ as y τ => match as with | [q] => (y = if m_fst (fun k => decide (σ 5 k = 1)) 16 (16 * q.toNat) = 16 * q.toNat + 16 then -1 else ((m_fst (fun k => decide (σ 5 k = 1)) 16 (16 * q.toNat) : Nat) : Int)) ∧ τ = σ | _ => False
def prX0_relocateNext : SPr := fun g σ as => match as with | [] => KC g σ ∧ Wf g ∧ g 0 13 = 2 ∧ ∀ q, q < 8 → g 11 q = 1 → Wf (m_reloc1 g q) | _ => False
def poX0_relocateNext : SPo := fun g _ as _ τ => match as with | [] => KC (if m_inSet g = 8 then mu g 0 13 0 else m_reloc g (m_inSet g)) τ | _ => False
def prX0_step : SPr := fun g σ as => match as with | [] => KC g σ ∧ Gd g ∧ g 0 14 < 2147483640 | _ => False
def poX0_step : SPo := fun g _ as _ τ => match as with | [] => KC (m_step g) τ | _ => False
def prX0_make : SPr := puP KC 3
def poX0_make : SPo := puQ KC f_make
def prX0_load : SPr := puP KC 3
def poX0_load : SPo := puQ KC f_load
def prX0_store : SPr := puP KC 3
def poX0_store : SPo := puQ KC f_store
def prX0_copy : SPr := puP KC 2
def poX0_copy : SPo := puQ KC f_copy
def prX0_drop : SPr := puP KC 1
def poX0_drop : SPo := puQ KC f_drop
def prX0_value : SPr := puP KC 1
def poX0_value : SPo := puQ KC f_value
def prX0_set : SPr := puP KC 2
def poX0_set : SPo := puQ KC f_set
def prX0_fields : SPr := puP KC 1
def poX0_fields : SPo := puQ KC f_fields
def prX0_colour : SPr := puP KC 2
def poX0_colour : SPo := puQ KC f_colour
def prX0_behind : SPr := puP KC 2
def poX0_behind : SPo := puQ KC f_behind
def prX0_collect : SPr := puP KC 1
def poX0_collect : SPo := puQ KC f_collect
def prX0_phase : SPr := puP KC 0
def poX0_phase : SPo := puQ KC (f_sc 13)
def prX0_stack : SPr := puP KC 0
def poX0_stack : SPo := puQ KC (f_sc 17)
def prX0_page : SPr := puP KC 2
def poX0_page : SPo := puQ KC f_page
def prX0_healed : SPr := puP KC 0
def poX0_healed : SPo := puQ KC (f_sc 15)
def prX0_moved : SPr := puP KC 0
def poX0_moved : SPo := puQ KC (f_sc 16)
def prX0_cycles : SPr := puP KC 0
def poX0_cycles : SPo := puQ KC (f_sc 14)
-- the reference
def prX1_isRoot : SPr := prX0_isRoot
def poX1_isRoot : SPo := poX0_isRoot
def prX1_slotOf : SPr := fun _ _ as => match as with | [_] => True | _ => False
def poX1_slotOf : SPo := fun _ σ as y τ => match as with | [r] => y = 384 + r ∧ τ = σ | _ => False
def prX1_holds : SPr := fun _ σ as => match as with | [r] => m_root r ∧ ∀ j, rg (σ 7 j) | _ => False
def poX1_holds : SPo := fun _ σ as y τ => match as with | [r] => (y = if σ 7 (m_rs r) = 0 then 0 else 1) ∧ τ = σ | _ => False
def prX1_good : SPr := fun _ σ as => match as with | [] => TI σ | _ => False
def poX1_good : SPo := fun _ σ as y τ => match as with | [] => y = m_good σ ∧ τ = σ | _ => False
def prX1_room : SPr := fun _ σ as => match as with | [w] => Wf σ ∧ 1 ≤ w ∧ w ≤ 4 | _ => False
def poX1_room : SPo := fun _ σ as y τ => match as with | [w] => y = m_roomP σ w ∧ τ = m_room σ w | _ => False
def prX1_release : SPr := fun _ _ as => match as with | [q] => 0 ≤ q ∧ q < 8 | _ => False
def poX1_release : SPo := fun _ σ as _ τ => match as with | [q] => τ = m_release σ q.toNat | _ => False
def prX1_move : SPr := fun _ σ as => match as with | [p] => Wf σ ∧ (0 ≤ p ∧ p < 128) ∧ σ 1 p.toNat = 1 | _ => False
def poX1_move : SPo := fun _ σ as y τ => match as with | [p] => y = m_roomP σ (σ 2 p.toNat + 1) ∧ τ = m_move σ p.toNat | _ => False
def prX1_mark : SPr := fun _ σ as => match as with | [p] => Wf σ ∧ (0 ≤ p ∧ p < 128) ∧ σ 1 p.toNat = 1 | _ => False
def poX1_mark : SPo := fun _ σ as _ τ => match as with | [p] => τ = m_mark σ p.toNat | _ => False
def prX1_heal : SPr := fun _ σ as => match as with | [s] => Wf σ ∧ (0 ≤ s ∧ s < 390) ∧ HR σ s.toNat | _ => False
def poX1_heal : SPo := fun _ σ as _ τ => match as with | [s] => τ = m_heal σ s.toNat | _ => False
def prX1_healRoots : SPr := fun _ σ as => match as with | [] => Hc σ 384 6 | _ => False
def poX1_healRoots : SPo := fun _ σ as _ τ => match as with | [] => τ = m_heals σ 384 6 | _ => False
def prX1_field : SPr := fun _ σ as => match as with | [r, f] => TI σ ∧ rg r ∧ rg f | _ => False
def poX1_field : SPo := fun _ σ as y τ => match as with | [r, f] => y = m_field σ r f ∧ τ = σ | _ => False
def prX1_copySlot : SPr := fun _ _ as => match as with | [t, s] => (0 ≤ t ∧ t < 390) ∧ 0 ≤ s ∧ s < 390 | _ => False
def poX1_copySlot : SPo := fun _ σ as _ τ => match as with | [t, s] => τ = m_copy σ t.toNat s.toNat | _ => False
def prX1_begin : SPr := fun _ σ as => match as with | [] => TI σ ∧ Hc (m_begin0 σ) 384 6 | _ => False
def poX1_begin : SPo := fun _ σ as _ τ => match as with | [] => τ = m_heals (m_begin0 σ) 384 6 | _ => False
def prX1_markedIn : SPr := fun _ σ as => match as with | [q, b] => (0 ≤ q ∧ q < 8) ∧ (b = 0 ∨ b = 1) ∧ (∀ j, σ 1 j = 0 ∨ σ 1 j = 1) ∧ ∀ j, σ 4 j = 0 ∨ σ 4 j = 1 | _ => False
def poX1_markedIn : SPo := fun _ σ as y τ => match as with | [q, b] => (y = if b = 1 then m_live σ q.toNat else m_markedIn σ q.toNat) ∧ τ = σ | _ => False
def prX1_markOne : SPr := fun _ σ as => match as with | [] => Wf σ ∧ 0 < σ 0 17 ∧ Hc (m_pop σ) (3 * m_top σ) (σ 2 (m_top σ)).toNat | _ => False
def poX1_markOne : SPo := fun _ σ as _ τ => match as with | [] => τ = m_heals (m_pop σ) (3 * m_top σ) (σ 2 (m_top σ)).toNat | _ => False
def prX1_choose : SPr := fun _ σ as => match as with | [] => Jc σ ∧ Hc (m_choose0 σ) 384 6 | _ => False
def poX1_choose : SPo := fun _ σ as _ τ => match as with | [] => τ = m_heals (m_choose0 σ) 384 6 | _ => False
def prX1_leastInSet : SPr := fun _ σ as => match as with | [] => ∀ j, σ 11 j = 0 ∨ σ 11 j = 1 | _ => False
def poX1_leastInSet : SPo := fun _ σ as y τ => match as with | [] => (y = if m_inSet σ = 8 then -1 else ((m_inSet σ : Nat) : Int)) ∧ τ = σ | _ => False
def prX1_relocate : SPr := fun _ σ as => match as with | [q] => Wf σ ∧ (0 ≤ q ∧ q < 8) ∧ Wf (m_reloc1 σ q.toNat) | _ => False
def poX1_relocate : SPo := fun _ σ as _ τ => match as with | [q] => τ = m_reloc σ q.toNat | _ => False
def prX1_step : SPr := fun _ σ as => match as with | [] => Gd σ ∧ σ 0 14 < 2147483640 | _ => False
def poX1_step : SPo := fun _ σ as _ τ => match as with | [] => τ = m_step σ | _ => False
def prX1_make : SPr := puP KR 3
def poX1_make : SPo := puQ KR f_make
def prX1_load : SPr := puP KR 3
def poX1_load : SPo := puQ KR f_load
def prX1_store : SPr := puP KR 3
def poX1_store : SPo := puQ KR f_store
def prX1_copy : SPr := puP KR 2
def poX1_copy : SPo := puQ KR f_copy
def prX1_drop : SPr := puP KR 1
def poX1_drop : SPo := puQ KR f_drop
def prX1_value : SPr := puP KR 1
def poX1_value : SPo := puQ KR f_value
def prX1_set : SPr := puP KR 2
def poX1_set : SPo := puQ KR f_set
def prX1_fields : SPr := puP KR 1
def poX1_fields : SPo := puQ KR f_fields
def prX1_place : SPr := puP KR 1
def poX1_place : SPo := puQ KR f_place
def prX1_colour : SPr := puP KR 2
def poX1_colour : SPo := puQ KR f_colour
def prX1_behind : SPr := puP KR 2
def poX1_behind : SPo := puQ KR f_behind
def prX1_collect : SPr := puP KR 1
def poX1_collect : SPo := puQ KR f_collect
def prX1_phase : SPr := puP KR 0
def poX1_phase : SPo := puQ KR (f_sc 13)
def prX1_stack : SPr := puP KR 0
def poX1_stack : SPo := puQ KR (f_sc 17)
def prX1_page : SPr := puP KR 2
def poX1_page : SPo := puQ KR f_page
def prX1_healed : SPr := puP KR 0
def poX1_healed : SPo := puQ KR (f_sc 15)
def prX1_moved : SPr := puP KR 0
def poX1_moved : SPo := puQ KR (f_sc 16)
def prX1_cycles : SPr := puP KR 0
def poX1_cycles : SPo := puQ KR (f_sc 14)

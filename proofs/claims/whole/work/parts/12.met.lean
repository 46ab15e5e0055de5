/-! A METHOD'S CONTRACT OUT OF RUNS OVER NUMBERS -/
def en_avs (stat : Bool) (as : List Int) : List AV := match stat with
  | true => as.map Sum.inl
  | false => .inr 0 :: as.map Sum.inl
def en_lo0 (stat : Bool) (as : List Int) (nL : Nat) : LoT := (en_avs stat as).map some ++ List.replicate (nL - (en_avs stat as).length) none
theorem en_av_eq {stat : Bool} {ad : Nat → Nat} {as : List Int} : en_av stat ad as = (en_avs stat as).map (en_cv ad) := by
  cases stat with
  | true => simp [en_av, en_avs, Function.comp_def, en_cv]
  | false => simp [en_av, en_avs, Function.comp_def, en_cv]
theorem en_args_mem {ad : Nat → Nat} : ∀ (vs : List AV) (k i : Nat) (v : AV), vs[i]? = some v → (k + i, en_cv ad v) ∈ lv_args k (vs.map (en_cv ad))
  | [], k, i, v, h => by simp at h
  | w :: vs, k, 0, v, h => by
    cases h
    exact List.mem_cons_self
  | w :: vs, k, i + 1, v, h => by
    have h1 : vs[i]? = some v := by simpa using h
    have h2 := en_args_mem (ad := ad) vs (k + 1) i v h1
    show _ ∈ (k, en_cv ad w) :: lv_args (if (en_cv ad w).category = 2 then k + 2 else k + 1) (vs.map (en_cv ad))
    rw [en_cat, if_neg (by decide)]
    rw [show k + (i + 1) = k + 1 + i by omega]
    exact List.mem_cons_of_mem _ h2
theorem en_sl_len {ad : Nat → Nat} (vs : List AV) : (lg_sl (vs.map (en_cv ad))).length = vs.length := by
  induction vs with
  | nil => rfl
  | cons w vs ih =>
    have e : lg_sl ((w :: vs).map (en_cv ad)) = [.val (en_cv ad w)] ++ lg_sl (vs.map (en_cv ad)) := by
      simp [lg_sl, en_cat]
    rw [e, List.length_append, ih]
    simp
    omega
theorem en_lo_entry {stat : Bool} {ad : Nat → Nat} {as : List Int} {nL : Nat} (h : (en_avs stat as).length ≤ nL) : en_lo ad ((lg_sl (en_av stat ad as) ++ List.replicate (nL - (lg_sl (en_av stat ad as)).length) Slot.unset).toArray) nL (en_lo0 stat as nL) := by
  have hl := lv_entry (en_av stat ad as) (n := nL) (by rw [en_av_eq, en_sl_len]; exact h)
  refine ⟨⟨⟨hl.1, hl.2.1, fun q hq => by cases hq⟩, ?_⟩, fun i v hv => ?_⟩
  · simp [en_lo0]
    omega
  · refine hl.2.2 (i, en_cv ad v) ?_
    rw [en_av_eq]
    have h1 : (en_avs stat as)[i]? = some v := by
      unfold en_lo0 at hv
      by_cases hi : i < (en_avs stat as).length
      · rw [List.getElem?_append_left (by simpa using hi), List.getElem?_map] at hv
        cases hz : (en_avs stat as)[i]? with
        | none => rw [hz] at hv; cases hv
        | some z => rw [hz] at hv; simpa using hv
      · rw [List.getElem?_append_right (by simpa using hi), List.getElem?_replicate] at hv
        split at hv
        · simp at hv
        · cases hv
    have h2 := en_args_mem (ad := ad) (en_avs stat as) 0 i v h1
    simpa using h2
theorem en_met {l : Launch} {S : List ShC} {cl : List vw_C} {y : MethodName} {ws ws' : List Cond} {rm : Room} (stat : Bool) {pre : Mo → Mo → List Int → Prop} {po : Mo → Mo → List Int → Int → Mo → Prop} {cc : ByteArray} {maxL ci0 N : Nat} (rk : Nat) {own : String} {TF : u_T} {tyF : Nat → FieldType} {fl fp : List (Nat × Nat)} {ct : List (Nat × CSp)} {T : List TbE}
    (hy : plainName y.cls = true) (hyc : y.cls = own) (hw : ws = Cond.code y cc maxL (en_rt rk) :: ws') (hO : en_Own cl ws own ci0 TF N tyF fl fp) (hct : ∀ i q, en_ct ct i = some q → en_CallOk l rm S cl ws own i q) (hS0 : ∃ fs, S[0]? = some (.inl (ci0, fs))) (hT : T.all (en_tb cc) = true)
    (h : ∀ (g : Mo) (σ : Mo) (as : List Int), pre g σ as → (en_avs stat as).length ≤ maxL ∧ ∀ K : Mo → Nat → LoT → List AV → Prop, en_Cl S ci0 fl fp ct T rk (po g σ as) K → K σ 0 (en_lo0 stat as maxL) []) :
    en_Met l S cl y ws rm stat (Nat.beq rk 0) pre po := by
  intro g D cI cZ ad σ sz as hpre
  obtain ⟨hlen, hrun⟩ := h g σ as hpre
  refine Met.ofW (cc := cc) (maxL := maxL) (ret := en_rt rk) (by exact hy) hw ?_
  intro p e s m args below meth c s₁ B hml hv
  obtain ⟨rfl, hsz, hP, hK, hD0⟩ := hv
  subst hsz
  have hts := atoms_spec (ws := ws) B.pre
  have hown : s.vm.findClass own = some m.cls := hyc ▸ findClass_of_methodNamed B.named
  have hD := hD0.self (sz := s.heap.size)
  have C : en_Cx p l rm s m (en_av stat ad as).toArray meth c S cl D cI cZ (va_A (en_w S ad cI cZ (rep σ)) s.heap.size) ws own cc maxL ci0 N rk TF tyF fl fp ct := ⟨B.exec, B.bytes, B.returns, hts, hown, B.notSynchronized, hml, hK, fun q h => Or.inr h, hO, hct, hS0⟩
  rw [lg_entry_eq]
  exact hrun _ (en_sound C hT) s.heap [] _ hP hD va_S.rf (en_lo_entry hlen)
theorem en_flN {P : Nat → Nat → Prop} : ∀ i f, en_fl [] i = some f → P i f := fun _ _ h => by cases h

/-! THE LAW'S CALLS, by program (wip/gen_law.py) -/
set_option maxHeartbeats 1500000 in
set_option maxRecDepth 100000 in
/-- make -/
theorem law_c0 {p : Program} {l : Launch} {e : Env} {s : State} {m : MethodId} {below : List Frame} {meth : Method} {c : Code} {b L : Nat} {xs : Nat → Int32} (hL : L ≤ 2049) (C0 : lw_At p s m meth c b L xs) {D : va_G} {cI cZ : ClassId} {ad0 ad1 : Nat → Nat} (hK : va_K D vwCl [(cI, .int), (cZ, .boolean)] s) {σ M : Mo} (hkc : KC M σ) (hgd : Gd M) (hcy : M 0 14 < 2147480000) {i : Nat} (hi : i + 3 < L) {H : Heap} {locs : List Loc} {ls : Array Slot} (hP0 : va_P D vwCl (en_w SX0 ad0 cI cZ (rep σ)) H) (hP1 : va_P D vwCl (en_w SX1 ad1 cI cZ (rep M)) H) (hD : va_D (fun q : Nat => s.heap.size ≤ q) (en_w SX0 ad0 cI cZ (rep σ) ++ en_w SX1 ad1 cI cZ (rep M))) (hS : va_S (fun q : Nat => s.heap.size ≤ q) s.heap H locs) (hl : lv_has ls 4 [(0, .ref b), (1, .ref (ad0 0)), (2, .ref (ad1 0)), (3, .int (oi (i : Int)))]) (nxt : ∀ (M' σ' : Mo) (H : Heap) (locs : List Loc), KC M' σ' → Gd M' → M' 0 14 ≤ M 0 14 + 100 → va_P D vwCl (en_w SX0 ad0 cI cZ (rep σ')) H → va_P D vwCl (en_w SX1 ad1 cI cZ (rep M')) H → va_D (fun q : Nat => s.heap.size ≤ q) (en_w SX0 ad0 cI cZ (rep σ') ++ en_w SX1 ad1 cI cZ (rep M')) → va_S (fun q : Nat => s.heap.size ≤ q) s.heap H locs → W p l e room_1 s m #[Value.ref b] below meth c H locs 24 2548 (lw_Z below #[Value.ref b] s) (F0 m 602 ls [])) : W p l e room_1 s m #[Value.ref b] below meth c H locs 24 2548 (lw_Z below #[Value.ref b] s) (F0 m 128 ls []) := by
  obtain ⟨hx, hb, hr, hml, hown, hts, hX, hbl, hlocks, hgv⟩ := C0
  have hts := fun w h => hts w (wsL_law_in w h)
  have hown : s.vm.findClass RL = some m.cls := hown
  have hA : ∀ q : Nat, s.heap.size ≤ q → (fun q : Nat => s.heap.size ≤ q) q := fun _ h => h
  have hbA : ¬ (fun q : Nat => s.heap.size ≤ q) b := Nat.not_le.mpr hbl
  have l0 := lv_at hl 0 rfl
  have l3 := lv_at hl 3 rfl
  have hrg : ∀ a ∈ ([(xs (i + 1)).toInt, (xs (i + 2)).toInt, (xs (i + 3)).toInt] : List Int), rg a := by
    intro a ha
    simp only [List.mem_cons, List.not_mem_nil, or_false] at ha
    rcases ha with rfl | rfl | rfl <;> exact (oi_of _).1
  refine lv_aload_n hx hb dL_law_128 rfl (lv_at hl 1 rfl) ?_
  refine lw_arg (k := 1) hx hb hX hbl hbA hS hL l0 l3 rfl (by omega) dL_law_129 dL_law_130 dL_law_131 dL_law_132 dL_law_133 ?_
  refine lw_arg (k := 2) hx hb hX hbl hbA hS hL l0 l3 rfl (by omega) dL_law_134 dL_law_135 dL_law_136 dL_law_137 dL_law_138 ?_
  refine lw_arg (k := 3) hx hb hX hbl hbA hS hL l0 l3 rfl (by omega) dL_law_139 dL_law_140 dL_law_141 dL_law_142 dL_law_143 ?_
  refine lw_call (rest := []) ⟨hx, hb, hml, hown, hts⟩ hK hP0 hP1 hD hS hA (mX0_make l) M [(xs (i + 1)).toInt, (xs (i + 2)).toInt, (xs (i + 3)).toInt] ⟨⟨hkc, hgd⟩, hcy, rfl, hrg⟩ rfl rfl (cwV 3 hts gL_law_X0_make rfl rfl rfl (by decide +kernel) ⟨Nat.le_of_ble_eq_true rfl, Nat.le_of_ble_eq_true rfl⟩) rfl hl.1 (Nat.le_of_ble_eq_true rfl) dL_law_144 ⟨Nat.le_of_ble_eq_true rfl, Nat.le_of_ble_eq_true rfl⟩ (fun r0 σ1 H locs hq0 hP0 hP1 hD hS => ?_)
  obtain ⟨e0, hkc1⟩ := hq0
  refine lv_aload_n hx hb dL_law_147 rfl (lv_at hl 2 rfl) ?_
  refine lw_arg (k := 1) hx hb hX hbl hbA hS hL l0 l3 rfl (by omega) dL_law_148 dL_law_149 dL_law_150 dL_law_151 dL_law_152 ?_
  refine lw_arg (k := 2) hx hb hX hbl hbA hS hL l0 l3 rfl (by omega) dL_law_153 dL_law_154 dL_law_155 dL_law_156 dL_law_157 ?_
  refine lw_arg (k := 3) hx hb hX hbl hbA hS hL l0 l3 rfl (by omega) dL_law_158 dL_law_159 dL_law_160 dL_law_161 dL_law_162 ?_
  refine lw_call (rest := [.int (oi r0)]) ⟨hx, hb, hml, hown, hts⟩ hK hP1 hP0 (da_c hD) hS hA (mX1_make l) M [(xs (i + 1)).toInt, (xs (i + 2)).toInt, (xs (i + 3)).toInt] ⟨⟨rfl, hgd⟩, hcy, rfl, hrg⟩ rfl rfl (cwV 3 hts gL_law_X1_make rfl rfl rfl (by decide +kernel) ⟨Nat.le_of_ble_eq_true rfl, Nat.le_of_ble_eq_true rfl⟩) rfl hl.1 (Nat.le_of_ble_eq_true rfl) dL_law_163 ⟨Nat.le_of_ble_eq_true rfl, Nat.le_of_ble_eq_true rfl⟩ (fun r1 τ1 H locs hq1 hP1 hP0 hD hS => ?_)
  obtain ⟨e1, hkr⟩ := hq1
  have hkr : τ1 = (f_make M [(xs (i + 1)).toInt, (xs (i + 2)).toInt, (xs (i + 3)).toInt]).2 := hkr
  subst hkr
  refine lv_icmp_eq (tgt := 602) hx hb dL_law_166 (by decide) (fun _ => ?_) (fun hne => absurd (by rw [e0, e1]) hne)
  obtain ⟨g2, c2⟩ := gd_make hgd hrg
  exact nxt _ σ1 H locs hkc1 g2 (by omega) hP0 hP1 (da_c hD) hS
set_option maxHeartbeats 1500000 in
set_option maxRecDepth 100000 in
/-- load -/
theorem law_c1 {p : Program} {l : Launch} {e : Env} {s : State} {m : MethodId} {below : List Frame} {meth : Method} {c : Code} {b L : Nat} {xs : Nat → Int32} (hL : L ≤ 2049) (C0 : lw_At p s m meth c b L xs) {D : va_G} {cI cZ : ClassId} {ad0 ad1 : Nat → Nat} (hK : va_K D vwCl [(cI, .int), (cZ, .boolean)] s) {σ M : Mo} (hkc : KC M σ) (hgd : Gd M) (hcy : M 0 14 < 2147480000) {i : Nat} (hi : i + 3 < L) {H : Heap} {locs : List Loc} {ls : Array Slot} (hP0 : va_P D vwCl (en_w SX0 ad0 cI cZ (rep σ)) H) (hP1 : va_P D vwCl (en_w SX1 ad1 cI cZ (rep M)) H) (hD : va_D (fun q : Nat => s.heap.size ≤ q) (en_w SX0 ad0 cI cZ (rep σ) ++ en_w SX1 ad1 cI cZ (rep M))) (hS : va_S (fun q : Nat => s.heap.size ≤ q) s.heap H locs) (hl : lv_has ls 4 [(0, .ref b), (1, .ref (ad0 0)), (2, .ref (ad1 0)), (3, .int (oi (i : Int)))]) (nxt : ∀ (M' σ' : Mo) (H : Heap) (locs : List Loc), KC M' σ' → Gd M' → M' 0 14 ≤ M 0 14 + 100 → va_P D vwCl (en_w SX0 ad0 cI cZ (rep σ')) H → va_P D vwCl (en_w SX1 ad1 cI cZ (rep M')) H → va_D (fun q : Nat => s.heap.size ≤ q) (en_w SX0 ad0 cI cZ (rep σ') ++ en_w SX1 ad1 cI cZ (rep M')) → va_S (fun q : Nat => s.heap.size ≤ q) s.heap H locs → W p l e room_1 s m #[Value.ref b] below meth c H locs 24 2548 (lw_Z below #[Value.ref b] s) (F0 m 602 ls [])) : W p l e room_1 s m #[Value.ref b] below meth c H locs 24 2548 (lw_Z below #[Value.ref b] s) (F0 m 171 ls []) := by
  obtain ⟨hx, hb, hr, hml, hown, hts, hX, hbl, hlocks, hgv⟩ := C0
  have hts := fun w h => hts w (wsL_law_in w h)
  have hown : s.vm.findClass RL = some m.cls := hown
  have hA : ∀ q : Nat, s.heap.size ≤ q → (fun q : Nat => s.heap.size ≤ q) q := fun _ h => h
  have hbA : ¬ (fun q : Nat => s.heap.size ≤ q) b := Nat.not_le.mpr hbl
  have l0 := lv_at hl 0 rfl
  have l3 := lv_at hl 3 rfl
  have hrg : ∀ a ∈ ([(xs (i + 1)).toInt, (xs (i + 2)).toInt, (xs (i + 3)).toInt] : List Int), rg a := by
    intro a ha
    simp only [List.mem_cons, List.not_mem_nil, or_false] at ha
    rcases ha with rfl | rfl | rfl <;> exact (oi_of _).1
  refine lv_aload_n hx hb dL_law_171 rfl (lv_at hl 1 rfl) ?_
  refine lw_arg (k := 1) hx hb hX hbl hbA hS hL l0 l3 rfl (by omega) dL_law_172 dL_law_173 dL_law_174 dL_law_175 dL_law_176 ?_
  refine lw_arg (k := 2) hx hb hX hbl hbA hS hL l0 l3 rfl (by omega) dL_law_177 dL_law_178 dL_law_179 dL_law_180 dL_law_181 ?_
  refine lw_arg (k := 3) hx hb hX hbl hbA hS hL l0 l3 rfl (by omega) dL_law_182 dL_law_183 dL_law_184 dL_law_185 dL_law_186 ?_
  refine lw_call (rest := []) ⟨hx, hb, hml, hown, hts⟩ hK hP0 hP1 hD hS hA (mX0_load l) M [(xs (i + 1)).toInt, (xs (i + 2)).toInt, (xs (i + 3)).toInt] ⟨⟨hkc, hgd⟩, hcy, rfl, hrg⟩ rfl rfl (cwV 3 hts gL_law_X0_load rfl rfl rfl (by decide +kernel) ⟨Nat.le_of_ble_eq_true rfl, Nat.le_of_ble_eq_true rfl⟩) rfl hl.1 (Nat.le_of_ble_eq_true rfl) dL_law_187 ⟨Nat.le_of_ble_eq_true rfl, Nat.le_of_ble_eq_true rfl⟩ (fun r0 σ1 H locs hq0 hP0 hP1 hD hS => ?_)
  obtain ⟨e0, hkc1⟩ := hq0
  refine lv_aload_n hx hb dL_law_190 rfl (lv_at hl 2 rfl) ?_
  refine lw_arg (k := 1) hx hb hX hbl hbA hS hL l0 l3 rfl (by omega) dL_law_191 dL_law_192 dL_law_193 dL_law_194 dL_law_195 ?_
  refine lw_arg (k := 2) hx hb hX hbl hbA hS hL l0 l3 rfl (by omega) dL_law_196 dL_law_197 dL_law_198 dL_law_199 dL_law_200 ?_
  refine lw_arg (k := 3) hx hb hX hbl hbA hS hL l0 l3 rfl (by omega) dL_law_201 dL_law_202 dL_law_203 dL_law_204 dL_law_205 ?_
  refine lw_call (rest := [.int (oi r0)]) ⟨hx, hb, hml, hown, hts⟩ hK hP1 hP0 (da_c hD) hS hA (mX1_load l) M [(xs (i + 1)).toInt, (xs (i + 2)).toInt, (xs (i + 3)).toInt] ⟨⟨rfl, hgd⟩, hcy, rfl, hrg⟩ rfl rfl (cwV 3 hts gL_law_X1_load rfl rfl rfl (by decide +kernel) ⟨Nat.le_of_ble_eq_true rfl, Nat.le_of_ble_eq_true rfl⟩) rfl hl.1 (Nat.le_of_ble_eq_true rfl) dL_law_206 ⟨Nat.le_of_ble_eq_true rfl, Nat.le_of_ble_eq_true rfl⟩ (fun r1 τ1 H locs hq1 hP1 hP0 hD hS => ?_)
  obtain ⟨e1, hkr⟩ := hq1
  have hkr : τ1 = (f_load M [(xs (i + 1)).toInt, (xs (i + 2)).toInt, (xs (i + 3)).toInt]).2 := hkr
  subst hkr
  refine lv_icmp_eq (tgt := 602) hx hb dL_law_209 (by decide) (fun _ => ?_) (fun hne => absurd (by rw [e0, e1]) hne)
  obtain ⟨g2, c2⟩ := gd_load hgd _
  exact nxt _ σ1 H locs hkc1 g2 (by omega) hP0 hP1 (da_c hD) hS
set_option maxHeartbeats 1500000 in
set_option maxRecDepth 100000 in
/-- store -/
theorem law_c2 {p : Program} {l : Launch} {e : Env} {s : State} {m : MethodId} {below : List Frame} {meth : Method} {c : Code} {b L : Nat} {xs : Nat → Int32} (hL : L ≤ 2049) (C0 : lw_At p s m meth c b L xs) {D : va_G} {cI cZ : ClassId} {ad0 ad1 : Nat → Nat} (hK : va_K D vwCl [(cI, .int), (cZ, .boolean)] s) {σ M : Mo} (hkc : KC M σ) (hgd : Gd M) (hcy : M 0 14 < 2147480000) {i : Nat} (hi : i + 3 < L) {H : Heap} {locs : List Loc} {ls : Array Slot} (hP0 : va_P D vwCl (en_w SX0 ad0 cI cZ (rep σ)) H) (hP1 : va_P D vwCl (en_w SX1 ad1 cI cZ (rep M)) H) (hD : va_D (fun q : Nat => s.heap.size ≤ q) (en_w SX0 ad0 cI cZ (rep σ) ++ en_w SX1 ad1 cI cZ (rep M))) (hS : va_S (fun q : Nat => s.heap.size ≤ q) s.heap H locs) (hl : lv_has ls 4 [(0, .ref b), (1, .ref (ad0 0)), (2, .ref (ad1 0)), (3, .int (oi (i : Int)))]) (nxt : ∀ (M' σ' : Mo) (H : Heap) (locs : List Loc), KC M' σ' → Gd M' → M' 0 14 ≤ M 0 14 + 100 → va_P D vwCl (en_w SX0 ad0 cI cZ (rep σ')) H → va_P D vwCl (en_w SX1 ad1 cI cZ (rep M')) H → va_D (fun q : Nat => s.heap.size ≤ q) (en_w SX0 ad0 cI cZ (rep σ') ++ en_w SX1 ad1 cI cZ (rep M')) → va_S (fun q : Nat => s.heap.size ≤ q) s.heap H locs → W p l e room_1 s m #[Value.ref b] below meth c H locs 24 2548 (lw_Z below #[Value.ref b] s) (F0 m 602 ls [])) : W p l e room_1 s m #[Value.ref b] below meth c H locs 24 2548 (lw_Z below #[Value.ref b] s) (F0 m 214 ls []) := by
  obtain ⟨hx, hb, hr, hml, hown, hts, hX, hbl, hlocks, hgv⟩ := C0
  have hts := fun w h => hts w (wsL_law_in w h)
  have hown : s.vm.findClass RL = some m.cls := hown
  have hA : ∀ q : Nat, s.heap.size ≤ q → (fun q : Nat => s.heap.size ≤ q) q := fun _ h => h
  have hbA : ¬ (fun q : Nat => s.heap.size ≤ q) b := Nat.not_le.mpr hbl
  have l0 := lv_at hl 0 rfl
  have l3 := lv_at hl 3 rfl
  have hrg : ∀ a ∈ ([(xs (i + 1)).toInt, (xs (i + 2)).toInt, (xs (i + 3)).toInt] : List Int), rg a := by
    intro a ha
    simp only [List.mem_cons, List.not_mem_nil, or_false] at ha
    rcases ha with rfl | rfl | rfl <;> exact (oi_of _).1
  refine lv_aload_n hx hb dL_law_214 rfl (lv_at hl 1 rfl) ?_
  refine lw_arg (k := 1) hx hb hX hbl hbA hS hL l0 l3 rfl (by omega) dL_law_215 dL_law_216 dL_law_217 dL_law_218 dL_law_219 ?_
  refine lw_arg (k := 2) hx hb hX hbl hbA hS hL l0 l3 rfl (by omega) dL_law_220 dL_law_221 dL_law_222 dL_law_223 dL_law_224 ?_
  refine lw_arg (k := 3) hx hb hX hbl hbA hS hL l0 l3 rfl (by omega) dL_law_225 dL_law_226 dL_law_227 dL_law_228 dL_law_229 ?_
  refine lw_call (rest := []) ⟨hx, hb, hml, hown, hts⟩ hK hP0 hP1 hD hS hA (mX0_store l) M [(xs (i + 1)).toInt, (xs (i + 2)).toInt, (xs (i + 3)).toInt] ⟨⟨hkc, hgd⟩, hcy, rfl, hrg⟩ rfl rfl (cwV 3 hts gL_law_X0_store rfl rfl rfl (by decide +kernel) ⟨Nat.le_of_ble_eq_true rfl, Nat.le_of_ble_eq_true rfl⟩) rfl hl.1 (Nat.le_of_ble_eq_true rfl) dL_law_230 ⟨Nat.le_of_ble_eq_true rfl, Nat.le_of_ble_eq_true rfl⟩ (fun r0 σ1 H locs hq0 hP0 hP1 hD hS => ?_)
  obtain ⟨e0, hkc1⟩ := hq0
  refine lv_aload_n hx hb dL_law_233 rfl (lv_at hl 2 rfl) ?_
  refine lw_arg (k := 1) hx hb hX hbl hbA hS hL l0 l3 rfl (by omega) dL_law_234 dL_law_235 dL_law_236 dL_law_237 dL_law_238 ?_
  refine lw_arg (k := 2) hx hb hX hbl hbA hS hL l0 l3 rfl (by omega) dL_law_239 dL_law_240 dL_law_241 dL_law_242 dL_law_243 ?_
  refine lw_arg (k := 3) hx hb hX hbl hbA hS hL l0 l3 rfl (by omega) dL_law_244 dL_law_245 dL_law_246 dL_law_247 dL_law_248 ?_
  refine lw_call (rest := [.int (oi r0)]) ⟨hx, hb, hml, hown, hts⟩ hK hP1 hP0 (da_c hD) hS hA (mX1_store l) M [(xs (i + 1)).toInt, (xs (i + 2)).toInt, (xs (i + 3)).toInt] ⟨⟨rfl, hgd⟩, hcy, rfl, hrg⟩ rfl rfl (cwV 3 hts gL_law_X1_store rfl rfl rfl (by decide +kernel) ⟨Nat.le_of_ble_eq_true rfl, Nat.le_of_ble_eq_true rfl⟩) rfl hl.1 (Nat.le_of_ble_eq_true rfl) dL_law_249 ⟨Nat.le_of_ble_eq_true rfl, Nat.le_of_ble_eq_true rfl⟩ (fun r1 τ1 H locs hq1 hP1 hP0 hD hS => ?_)
  obtain ⟨e1, hkr⟩ := hq1
  have hkr : τ1 = (f_store M [(xs (i + 1)).toInt, (xs (i + 2)).toInt, (xs (i + 3)).toInt]).2 := hkr
  subst hkr
  refine lv_icmp_eq (tgt := 602) hx hb dL_law_252 (by decide) (fun _ => ?_) (fun hne => absurd (by rw [e0, e1]) hne)
  obtain ⟨g2, c2⟩ := gd_store hgd _
  exact nxt _ σ1 H locs hkc1 g2 (by omega) hP0 hP1 (da_c hD) hS
set_option maxHeartbeats 1500000 in
set_option maxRecDepth 100000 in
/-- copy -/
theorem law_c3 {p : Program} {l : Launch} {e : Env} {s : State} {m : MethodId} {below : List Frame} {meth : Method} {c : Code} {b L : Nat} {xs : Nat → Int32} (hL : L ≤ 2049) (C0 : lw_At p s m meth c b L xs) {D : va_G} {cI cZ : ClassId} {ad0 ad1 : Nat → Nat} (hK : va_K D vwCl [(cI, .int), (cZ, .boolean)] s) {σ M : Mo} (hkc : KC M σ) (hgd : Gd M) (hcy : M 0 14 < 2147480000) {i : Nat} (hi : i + 3 < L) {H : Heap} {locs : List Loc} {ls : Array Slot} (hP0 : va_P D vwCl (en_w SX0 ad0 cI cZ (rep σ)) H) (hP1 : va_P D vwCl (en_w SX1 ad1 cI cZ (rep M)) H) (hD : va_D (fun q : Nat => s.heap.size ≤ q) (en_w SX0 ad0 cI cZ (rep σ) ++ en_w SX1 ad1 cI cZ (rep M))) (hS : va_S (fun q : Nat => s.heap.size ≤ q) s.heap H locs) (hl : lv_has ls 4 [(0, .ref b), (1, .ref (ad0 0)), (2, .ref (ad1 0)), (3, .int (oi (i : Int)))]) (nxt : ∀ (M' σ' : Mo) (H : Heap) (locs : List Loc), KC M' σ' → Gd M' → M' 0 14 ≤ M 0 14 + 100 → va_P D vwCl (en_w SX0 ad0 cI cZ (rep σ')) H → va_P D vwCl (en_w SX1 ad1 cI cZ (rep M')) H → va_D (fun q : Nat => s.heap.size ≤ q) (en_w SX0 ad0 cI cZ (rep σ') ++ en_w SX1 ad1 cI cZ (rep M')) → va_S (fun q : Nat => s.heap.size ≤ q) s.heap H locs → W p l e room_1 s m #[Value.ref b] below meth c H locs 24 2548 (lw_Z below #[Value.ref b] s) (F0 m 602 ls [])) : W p l e room_1 s m #[Value.ref b] below meth c H locs 24 2548 (lw_Z below #[Value.ref b] s) (F0 m 257 ls []) := by
  obtain ⟨hx, hb, hr, hml, hown, hts, hX, hbl, hlocks, hgv⟩ := C0
  have hts := fun w h => hts w (wsL_law_in w h)
  have hown : s.vm.findClass RL = some m.cls := hown
  have hA : ∀ q : Nat, s.heap.size ≤ q → (fun q : Nat => s.heap.size ≤ q) q := fun _ h => h
  have hbA : ¬ (fun q : Nat => s.heap.size ≤ q) b := Nat.not_le.mpr hbl
  have l0 := lv_at hl 0 rfl
  have l3 := lv_at hl 3 rfl
  have hrg : ∀ a ∈ ([(xs (i + 1)).toInt, (xs (i + 2)).toInt] : List Int), rg a := by
    intro a ha
    simp only [List.mem_cons, List.not_mem_nil, or_false] at ha
    rcases ha with rfl | rfl <;> exact (oi_of _).1
  refine lv_aload_n hx hb dL_law_257 rfl (lv_at hl 1 rfl) ?_
  refine lw_arg (k := 1) hx hb hX hbl hbA hS hL l0 l3 rfl (by omega) dL_law_258 dL_law_259 dL_law_260 dL_law_261 dL_law_262 ?_
  refine lw_arg (k := 2) hx hb hX hbl hbA hS hL l0 l3 rfl (by omega) dL_law_263 dL_law_264 dL_law_265 dL_law_266 dL_law_267 ?_
  refine lw_call (rest := []) ⟨hx, hb, hml, hown, hts⟩ hK hP0 hP1 hD hS hA (mX0_copy l) M [(xs (i + 1)).toInt, (xs (i + 2)).toInt] ⟨⟨hkc, hgd⟩, hcy, rfl, hrg⟩ rfl rfl (cwV 2 hts gL_law_X0_copy rfl rfl rfl (by decide +kernel) ⟨Nat.le_of_ble_eq_true rfl, Nat.le_of_ble_eq_true rfl⟩) rfl hl.1 (Nat.le_of_ble_eq_true rfl) dL_law_268 ⟨Nat.le_of_ble_eq_true rfl, Nat.le_of_ble_eq_true rfl⟩ (fun r0 σ1 H locs hq0 hP0 hP1 hD hS => ?_)
  obtain ⟨e0, hkc1⟩ := hq0
  refine lv_aload_n hx hb dL_law_271 rfl (lv_at hl 2 rfl) ?_
  refine lw_arg (k := 1) hx hb hX hbl hbA hS hL l0 l3 rfl (by omega) dL_law_272 dL_law_273 dL_law_274 dL_law_275 dL_law_276 ?_
  refine lw_arg (k := 2) hx hb hX hbl hbA hS hL l0 l3 rfl (by omega) dL_law_277 dL_law_278 dL_law_279 dL_law_280 dL_law_281 ?_
  refine lw_call (rest := [.int (oi r0)]) ⟨hx, hb, hml, hown, hts⟩ hK hP1 hP0 (da_c hD) hS hA (mX1_copy l) M [(xs (i + 1)).toInt, (xs (i + 2)).toInt] ⟨⟨rfl, hgd⟩, hcy, rfl, hrg⟩ rfl rfl (cwV 2 hts gL_law_X1_copy rfl rfl rfl (by decide +kernel) ⟨Nat.le_of_ble_eq_true rfl, Nat.le_of_ble_eq_true rfl⟩) rfl hl.1 (Nat.le_of_ble_eq_true rfl) dL_law_282 ⟨Nat.le_of_ble_eq_true rfl, Nat.le_of_ble_eq_true rfl⟩ (fun r1 τ1 H locs hq1 hP1 hP0 hD hS => ?_)
  obtain ⟨e1, hkr⟩ := hq1
  have hkr : τ1 = (f_copy M [(xs (i + 1)).toInt, (xs (i + 2)).toInt]).2 := hkr
  subst hkr
  refine lv_icmp_eq (tgt := 602) hx hb dL_law_285 (by decide) (fun _ => ?_) (fun hne => absurd (by rw [e0, e1]) hne)
  obtain ⟨g2, c2⟩ := gd_copy hgd _
  exact nxt _ σ1 H locs hkc1 g2 (by omega) hP0 hP1 (da_c hD) hS
set_option maxHeartbeats 1500000 in
set_option maxRecDepth 100000 in
/-- drop -/
theorem law_c4 {p : Program} {l : Launch} {e : Env} {s : State} {m : MethodId} {below : List Frame} {meth : Method} {c : Code} {b L : Nat} {xs : Nat → Int32} (hL : L ≤ 2049) (C0 : lw_At p s m meth c b L xs) {D : va_G} {cI cZ : ClassId} {ad0 ad1 : Nat → Nat} (hK : va_K D vwCl [(cI, .int), (cZ, .boolean)] s) {σ M : Mo} (hkc : KC M σ) (hgd : Gd M) (hcy : M 0 14 < 2147480000) {i : Nat} (hi : i + 3 < L) {H : Heap} {locs : List Loc} {ls : Array Slot} (hP0 : va_P D vwCl (en_w SX0 ad0 cI cZ (rep σ)) H) (hP1 : va_P D vwCl (en_w SX1 ad1 cI cZ (rep M)) H) (hD : va_D (fun q : Nat => s.heap.size ≤ q) (en_w SX0 ad0 cI cZ (rep σ) ++ en_w SX1 ad1 cI cZ (rep M))) (hS : va_S (fun q : Nat => s.heap.size ≤ q) s.heap H locs) (hl : lv_has ls 4 [(0, .ref b), (1, .ref (ad0 0)), (2, .ref (ad1 0)), (3, .int (oi (i : Int)))]) (nxt : ∀ (M' σ' : Mo) (H : Heap) (locs : List Loc), KC M' σ' → Gd M' → M' 0 14 ≤ M 0 14 + 100 → va_P D vwCl (en_w SX0 ad0 cI cZ (rep σ')) H → va_P D vwCl (en_w SX1 ad1 cI cZ (rep M')) H → va_D (fun q : Nat => s.heap.size ≤ q) (en_w SX0 ad0 cI cZ (rep σ') ++ en_w SX1 ad1 cI cZ (rep M')) → va_S (fun q : Nat => s.heap.size ≤ q) s.heap H locs → W p l e room_1 s m #[Value.ref b] below meth c H locs 24 2548 (lw_Z below #[Value.ref b] s) (F0 m 602 ls [])) : W p l e room_1 s m #[Value.ref b] below meth c H locs 24 2548 (lw_Z below #[Value.ref b] s) (F0 m 290 ls []) := by
  obtain ⟨hx, hb, hr, hml, hown, hts, hX, hbl, hlocks, hgv⟩ := C0
  have hts := fun w h => hts w (wsL_law_in w h)
  have hown : s.vm.findClass RL = some m.cls := hown
  have hA : ∀ q : Nat, s.heap.size ≤ q → (fun q : Nat => s.heap.size ≤ q) q := fun _ h => h
  have hbA : ¬ (fun q : Nat => s.heap.size ≤ q) b := Nat.not_le.mpr hbl
  have l0 := lv_at hl 0 rfl
  have l3 := lv_at hl 3 rfl
  have hrg : ∀ a ∈ ([(xs (i + 1)).toInt] : List Int), rg a := by
    intro a ha
    simp only [List.mem_cons, List.not_mem_nil, or_false] at ha
    rcases ha with rfl <;> exact (oi_of _).1
  refine lv_aload_n hx hb dL_law_290 rfl (lv_at hl 1 rfl) ?_
  refine lw_arg (k := 1) hx hb hX hbl hbA hS hL l0 l3 rfl (by omega) dL_law_291 dL_law_292 dL_law_293 dL_law_294 dL_law_295 ?_
  refine lw_call (rest := []) ⟨hx, hb, hml, hown, hts⟩ hK hP0 hP1 hD hS hA (mX0_drop l) M [(xs (i + 1)).toInt] ⟨⟨hkc, hgd⟩, hcy, rfl, hrg⟩ rfl rfl (cwV 1 hts gL_law_X0_drop rfl rfl rfl (by decide +kernel) ⟨Nat.le_of_ble_eq_true rfl, Nat.le_of_ble_eq_true rfl⟩) rfl hl.1 (Nat.le_of_ble_eq_true rfl) dL_law_296 ⟨Nat.le_of_ble_eq_true rfl, Nat.le_of_ble_eq_true rfl⟩ (fun r0 σ1 H locs hq0 hP0 hP1 hD hS => ?_)
  obtain ⟨e0, hkc1⟩ := hq0
  refine lv_aload_n hx hb dL_law_299 rfl (lv_at hl 2 rfl) ?_
  refine lw_arg (k := 1) hx hb hX hbl hbA hS hL l0 l3 rfl (by omega) dL_law_300 dL_law_301 dL_law_302 dL_law_303 dL_law_304 ?_
  refine lw_call (rest := [.int (oi r0)]) ⟨hx, hb, hml, hown, hts⟩ hK hP1 hP0 (da_c hD) hS hA (mX1_drop l) M [(xs (i + 1)).toInt] ⟨⟨rfl, hgd⟩, hcy, rfl, hrg⟩ rfl rfl (cwV 1 hts gL_law_X1_drop rfl rfl rfl (by decide +kernel) ⟨Nat.le_of_ble_eq_true rfl, Nat.le_of_ble_eq_true rfl⟩) rfl hl.1 (Nat.le_of_ble_eq_true rfl) dL_law_305 ⟨Nat.le_of_ble_eq_true rfl, Nat.le_of_ble_eq_true rfl⟩ (fun r1 τ1 H locs hq1 hP1 hP0 hD hS => ?_)
  obtain ⟨e1, hkr⟩ := hq1
  have hkr : τ1 = (f_drop M [(xs (i + 1)).toInt]).2 := hkr
  subst hkr
  refine lv_icmp_eq (tgt := 602) hx hb dL_law_308 (by decide) (fun _ => ?_) (fun hne => absurd (by rw [e0, e1]) hne)
  obtain ⟨g2, c2⟩ := gd_drop hgd _
  exact nxt _ σ1 H locs hkc1 g2 (by omega) hP0 hP1 (da_c hD) hS

set_option maxHeartbeats 4000000 in
set_option maxRecDepth 100000 in
theorem law_feed {p : Program} {l : Launch} {e : Env} {s : State} {m : MethodId} {below : List Frame} {meth : Method} {c : Code} {b L : Nat} {xs : Nat → Int32} {dC : Nat → ClassId} {dI : Nat → Nat → Nat} {cB cI cJ cZ : ClassId} {adK adV : Nat → Nat} (hL : L ≤ 3584) (C0 : LC p s m meth c b L xs dC dI cB cI cJ cZ adK adV) {i : Nat} (hi : i + 7 ≤ L) {x0 m0 : Nat} {wx wm wm1 : va_W} {wx1 : va_W} {r : Int32} {fx fm : List Value} (hx0 : wx[0]? = some (x0, .inr (7, fx))) (hm0 : wm[0]? = some (m0, .inr (8, fm))) (MX : ∀ sz, Met l yX8_feed wsX8_feed ({ frames := 1, cells := 0, slots := 0, locals := 23 }) (gP (dC, dI) (tyz cB cI cJ cZ) (E_X adK adV) wx sz [.ref x0, .long (((xs (i + 1)).toInt64 <<< ((32 : Int32).toInt64 &&& 63)) ||| ((xs (i + 2)).toInt64 &&& (4294967295 : Int64)))]) (gI (dC, dI) (tyz cB cI cJ cZ) wx1 (va_A wx sz) r) 0 0 (va_A wx sz)) (MM : ∀ sz, Met l yX9_feed wsX9_feed ({ frames := 0, cells := 0, slots := 0, locals := 0 }) (gP (dC, dI) (tyz cB cI cJ cZ) E_0 wm sz [.ref m0, .long (((xs (i + 1)).toInt64 <<< ((32 : Int32).toInt64 &&& 63)) ||| ((xs (i + 2)).toInt64 &&& (4294967295 : Int64)))]) (gI (dC, dI) (tyz cB cI cJ cZ) wm1 (va_A wm sz) r) 0 0 (va_A wm sz)) {H : Heap} {locs : List Loc} {ls : Array Slot} (hP : va_P (dC, dI) vwCl (wx ++ wm) H) (hD : va_D (fun q : Nat => s.heap.size ≤ q) (wx ++ wm)) (hS : va_S (fun q : Nat => s.heap.size ≤ q) s.heap H locs) (hl : lv_has ls 4 [(0, .ref b), (1, .ref x0), (2, .ref m0), (3, .int (nI i))]) (kk : ∀ (H1 : Heap) (locs1 : List Loc), va_P (dC, dI) vwCl (wx1 ++ wm1) H1 → va_D (fun q : Nat => s.heap.size ≤ q) (wx1 ++ wm1) → va_S (fun q : Nat => s.heap.size ≤ q) s.heap H1 locs1 → W p l e room_1 s m #[Value.ref b] below meth c H1 locs1 73 3097 (lw_Z below #[Value.ref b] s) (F0 m 1519 ls [])) : W p l e room_1 s m #[Value.ref b] below meth c H locs 73 3097 (lw_Z below #[Value.ref b] s) (F0 m 180 ls []) := by
  obtain ⟨hx, hb, hr, hml, hown, hts, hX, hbl, hlocks, hK, hE⟩ := id C0
  have hA : ∀ q : Nat, s.heap.size ≤ q → (fun q : Nat => s.heap.size ≤ q) q := fun _ h => h
  have hbA : ¬ (fun q : Nat => s.heap.size ≤ q) b := Nat.not_le.mpr hbl
  refine lv_aload_n hx hb dL_law_180 rfl (lv_at hl 1 rfl) ?_
  refine lv_aload_n hx hb dL_law_181 rfl (lv_at hl 0 rfl) ?_
  refine lv_iload_n hx hb dL_law_182 rfl (lv_at hl 3 rfl) ?_
  refine lv_iconst (v := 1) hx hb dL_law_183 (by decide) ?_
  refine lv_iadd hx hb dL_law_184 ?_
  refine ld_j (j := 1) hx hb hX hbl hbA hS rfl (by omega) hL dL_law_185 ?_
  refine lv_i2l hx hb dL_law_186 rfl ?_
  refine lv_bipush (v := 32) hx hb dL_law_187 (by decide) ?_
  refine lv_lshl hx hb dL_law_189 rfl ?_
  refine lv_aload_n hx hb dL_law_190 rfl (lv_at hl 0 rfl) ?_
  refine lv_iload_n hx hb dL_law_191 rfl (lv_at hl 3 rfl) ?_
  refine lv_iconst (v := 2) hx hb dL_law_192 (by decide) ?_
  refine lv_iadd hx hb dL_law_193 ?_
  refine ld_j (j := 2) hx hb hX hbl hbA hS rfl (by omega) hL dL_law_194 ?_
  refine lv_i2l hx hb dL_law_195 rfl ?_
  refine lv_ldc2 hx hb hown (hts (.constantLong RL 13 (4294967295)) (by decide +kernel)) dL_law_196 ?_
  refine lv_land hx hb dL_law_199 ?_
  refine lv_lor hx hb dL_law_200 ?_
  refine cl_l (As := [.long (((xs (i + 1)).toInt64 <<< ((32 : Int32).toInt64 &&& 63)) ||| ((xs (i + 2)).toInt64 &&& (4294967295 : Int64)))]) (rest := []) ⟨hx, hb, hml, hown, hts⟩ (MX H.size) (cwV 1 hts gL_law_X8_feed rfl rfl rfl (by decide +kernel) ⟨Nat.le_of_ble_eq_true rfl, Nat.le_of_ble_eq_true rfl⟩) EB_X hE hK hP hD hS hA 0 hx0 rfl rfl rfl hl.1 rfl (Nat.le_of_ble_eq_true rfl) dL_law_201 ⟨Nat.le_refl _, Nat.le_refl _⟩ (fun H locs hP hD hS => ?_)
  refine lv_aload_n hx hb dL_law_204 rfl (lv_at hl 2 rfl) ?_
  refine lv_aload_n hx hb dL_law_205 rfl (lv_at hl 0 rfl) ?_
  refine lv_iload_n hx hb dL_law_206 rfl (lv_at hl 3 rfl) ?_
  refine lv_iconst (v := 1) hx hb dL_law_207 (by decide) ?_
  refine lv_iadd hx hb dL_law_208 ?_
  refine ld_j (j := 1) hx hb hX hbl hbA hS rfl (by omega) hL dL_law_209 ?_
  refine lv_i2l hx hb dL_law_210 rfl ?_
  refine lv_bipush (v := 32) hx hb dL_law_211 (by decide) ?_
  refine lv_lshl hx hb dL_law_213 rfl ?_
  refine lv_aload_n hx hb dL_law_214 rfl (lv_at hl 0 rfl) ?_
  refine lv_iload_n hx hb dL_law_215 rfl (lv_at hl 3 rfl) ?_
  refine lv_iconst (v := 2) hx hb dL_law_216 (by decide) ?_
  refine lv_iadd hx hb dL_law_217 ?_
  refine ld_j (j := 2) hx hb hX hbl hbA hS rfl (by omega) hL dL_law_218 ?_
  refine lv_i2l hx hb dL_law_219 rfl ?_
  refine lv_ldc2 hx hb hown (hts (.constantLong RL 13 (4294967295)) (by decide +kernel)) dL_law_220 ?_
  refine lv_land hx hb dL_law_223 ?_
  refine lv_lor hx hb dL_law_224 ?_
  refine cl_r (As := [.long (((xs (i + 1)).toInt64 <<< ((32 : Int32).toInt64 &&& 63)) ||| ((xs (i + 2)).toInt64 &&& (4294967295 : Int64)))]) (rest := [.int r]) ⟨hx, hb, hml, hown, hts⟩ (MM H.size) (cwV 1 hts gL_law_X9_feed rfl rfl rfl (by decide +kernel) ⟨Nat.le_of_ble_eq_true rfl, Nat.le_of_ble_eq_true rfl⟩) EB_0 trivial hK hP hD hS hA 0 hm0 rfl rfl rfl hl.1 rfl (Nat.le_of_ble_eq_true rfl) dL_law_225 ⟨Nat.le_refl _, Nat.le_refl _⟩ (fun H locs hP hD hS => ?_)
  refine lv_icmp_eq (tgt := 1519) hx hb dL_law_228 (by decide) (fun cq => ?_) (fun cq => absurd rfl cq)
  exact kk H locs hP hD hS
set_option maxHeartbeats 4000000 in
set_option maxRecDepth 100000 in
theorem law_end {p : Program} {l : Launch} {e : Env} {s : State} {m : MethodId} {below : List Frame} {meth : Method} {c : Code} {b L : Nat} {xs : Nat → Int32} {dC : Nat → ClassId} {dI : Nat → Nat → Nat} {cB cI cJ cZ : ClassId} {adK adV : Nat → Nat} (hL : L ≤ 3584) (C0 : LC p s m meth c b L xs dC dI cB cI cJ cZ adK adV) {i : Nat} (hi : i + 7 ≤ L) {x0 m0 : Nat} {wx wm wm1 : va_W} {wx1 : va_W} {r : Int32} {fx fm : List Value} (hx0 : wx[0]? = some (x0, .inr (7, fx))) (hm0 : wm[0]? = some (m0, .inr (8, fm))) (MX : ∀ sz, Met l yX8_end wsX8_end ({ frames := 0, cells := 0, slots := 0, locals := 0 }) (gP (dC, dI) (tyz cB cI cJ cZ) (E_X adK adV) wx sz [.ref x0, .int (xs (i + 1))]) (gI (dC, dI) (tyz cB cI cJ cZ) wx1 (va_A wx sz) r) 0 0 (va_A wx sz)) (MM : ∀ sz, Met l yX9_end wsX9_end ({ frames := 1, cells := 0, slots := 0, locals := 25 }) (gP (dC, dI) (tyz cB cI cJ cZ) E_0 wm sz [.ref m0, .int (xs (i + 1))]) (gI (dC, dI) (tyz cB cI cJ cZ) wm1 (va_A wm sz) r) 0 0 (va_A wm sz)) {H : Heap} {locs : List Loc} {ls : Array Slot} (hP : va_P (dC, dI) vwCl (wx ++ wm) H) (hD : va_D (fun q : Nat => s.heap.size ≤ q) (wx ++ wm)) (hS : va_S (fun q : Nat => s.heap.size ≤ q) s.heap H locs) (hl : lv_has ls 4 [(0, .ref b), (1, .ref x0), (2, .ref m0), (3, .int (nI i))]) (kk : ∀ (H1 : Heap) (locs1 : List Loc), va_P (dC, dI) vwCl (wx1 ++ wm1) H1 → va_D (fun q : Nat => s.heap.size ≤ q) (wx1 ++ wm1) → va_S (fun q : Nat => s.heap.size ≤ q) s.heap H1 locs1 → W p l e room_1 s m #[Value.ref b] below meth c H1 locs1 73 3097 (lw_Z below #[Value.ref b] s) (F0 m 1519 ls [])) : W p l e room_1 s m #[Value.ref b] below meth c H locs 73 3097 (lw_Z below #[Value.ref b] s) (F0 m 233 ls []) := by
  obtain ⟨hx, hb, hr, hml, hown, hts, hX, hbl, hlocks, hK, hE⟩ := id C0
  have hA : ∀ q : Nat, s.heap.size ≤ q → (fun q : Nat => s.heap.size ≤ q) q := fun _ h => h
  have hbA : ¬ (fun q : Nat => s.heap.size ≤ q) b := Nat.not_le.mpr hbl
  refine lv_aload_n hx hb dL_law_233 rfl (lv_at hl 1 rfl) ?_
  refine lv_aload_n hx hb dL_law_234 rfl (lv_at hl 0 rfl) ?_
  refine lv_iload_n hx hb dL_law_235 rfl (lv_at hl 3 rfl) ?_
  refine lv_iconst (v := 1) hx hb dL_law_236 (by decide) ?_
  refine lv_iadd hx hb dL_law_237 ?_
  refine ld_j (j := 1) hx hb hX hbl hbA hS rfl (by omega) hL dL_law_238 ?_
  refine cl_l (As := [.int (xs (i + 1))]) (rest := []) ⟨hx, hb, hml, hown, hts⟩ (MX H.size) (cwV 1 hts gL_law_X8_end rfl rfl rfl (by decide +kernel) ⟨Nat.le_of_ble_eq_true rfl, Nat.le_of_ble_eq_true rfl⟩) EB_X hE hK hP hD hS hA 0 hx0 rfl rfl rfl hl.1 rfl (Nat.le_of_ble_eq_true rfl) dL_law_239 ⟨Nat.le_refl _, Nat.le_refl _⟩ (fun H locs hP hD hS => ?_)
  refine lv_aload_n hx hb dL_law_242 rfl (lv_at hl 2 rfl) ?_
  refine lv_aload_n hx hb dL_law_243 rfl (lv_at hl 0 rfl) ?_
  refine lv_iload_n hx hb dL_law_244 rfl (lv_at hl 3 rfl) ?_
  refine lv_iconst (v := 1) hx hb dL_law_245 (by decide) ?_
  refine lv_iadd hx hb dL_law_246 ?_
  refine ld_j (j := 1) hx hb hX hbl hbA hS rfl (by omega) hL dL_law_247 ?_
  refine cl_r (As := [.int (xs (i + 1))]) (rest := [.int r]) ⟨hx, hb, hml, hown, hts⟩ (MM H.size) (cwV 1 hts gL_law_X9_end rfl rfl rfl (by decide +kernel) ⟨Nat.le_of_ble_eq_true rfl, Nat.le_of_ble_eq_true rfl⟩) EB_0 trivial hK hP hD hS hA 0 hm0 rfl rfl rfl hl.1 rfl (Nat.le_of_ble_eq_true rfl) dL_law_248 ⟨Nat.le_refl _, Nat.le_refl _⟩ (fun H locs hP hD hS => ?_)
  refine lv_icmp_eq (tgt := 1519) hx hb dL_law_251 (by decide) (fun cq => ?_) (fun cq => absurd rfl cq)
  exact kk H locs hP hD hS
set_option maxHeartbeats 4000000 in
set_option maxRecDepth 100000 in
theorem law_tongue {p : Program} {l : Launch} {e : Env} {s : State} {m : MethodId} {below : List Frame} {meth : Method} {c : Code} {b L : Nat} {xs : Nat → Int32} {dC : Nat → ClassId} {dI : Nat → Nat → Nat} {cB cI cJ cZ : ClassId} {adK adV : Nat → Nat} (hL : L ≤ 3584) (C0 : LC p s m meth c b L xs dC dI cB cI cJ cZ adK adV) {i : Nat} (hi : i + 7 ≤ L) {x0 m0 : Nat} {wx wm wm1 : va_W} {wf : (Nat → Nat) → va_W} {r : Int32} {fx fm : List Value} (hx0 : wx[0]? = some (x0, .inr (7, fx))) (hm0 : wm[0]? = some (m0, .inr (8, fm))) (MX : ∀ sz, Met l yX8_tongue wsX8_tongue ({ frames := 7, cells := 0, slots := 0, locals := 148 }) (gP (dC, dI) (tyz cB cI cJ cZ) (E_X adK adV) wx sz [.ref x0]) (gT (dC, dI) (tyz cB cI cJ cZ) wf x0 (va_A wx sz) r) 0 0 (va_A wx sz)) (MM : ∀ sz, Met l yX9_tongue wsX9_tongue ({ frames := 4, cells := 0, slots := 0, locals := 90 }) (gP (dC, dI) (tyz cB cI cJ cZ) E_0 wm sz [.ref m0]) (gI (dC, dI) (tyz cB cI cJ cZ) wm1 (va_A wm sz) r) 0 0 (va_A wm sz)) {H : Heap} {locs : List Loc} {ls : Array Slot} (hP : va_P (dC, dI) vwCl (wx ++ wm) H) (hD : va_D (fun q : Nat => s.heap.size ≤ q) (wx ++ wm)) (hS : va_S (fun q : Nat => s.heap.size ≤ q) s.heap H locs) (hl : lv_has ls 4 [(0, .ref b), (1, .ref x0), (2, .ref m0), (3, .int (nI i))]) (kk : ∀ (a1 : Nat → Nat) (H1 : Heap) (locs1 : List Loc), a1 0 = x0 → va_P (dC, dI) vwCl (wf a1 ++ wm1) H1 → va_D (fun q : Nat => s.heap.size ≤ q) (wf a1 ++ wm1) → va_S (fun q : Nat => s.heap.size ≤ q) s.heap H1 locs1 → W p l e room_1 s m #[Value.ref b] below meth c H1 locs1 73 3097 (lw_Z below #[Value.ref b] s) (F0 m 1519 ls [])) : W p l e room_1 s m #[Value.ref b] below meth c H locs 73 3097 (lw_Z below #[Value.ref b] s) (F0 m 256 ls []) := by
  obtain ⟨hx, hb, hr, hml, hown, hts, hX, hbl, hlocks, hK, hE⟩ := id C0
  have hA : ∀ q : Nat, s.heap.size ≤ q → (fun q : Nat => s.heap.size ≤ q) q := fun _ h => h
  have hbA : ¬ (fun q : Nat => s.heap.size ≤ q) b := Nat.not_le.mpr hbl
  refine lv_aload_n hx hb dL_law_256 rfl (lv_at hl 1 rfl) ?_
  refine cl_t (As := []) (rest := []) ⟨hx, hb, hml, hown, hts⟩ (MX H.size) (cwV 0 hts gL_law_X8_tongue rfl rfl rfl (by decide +kernel) ⟨Nat.le_of_ble_eq_true rfl, Nat.le_of_ble_eq_true rfl⟩) EB_X hE hK hP hD hS hA 0 hx0 rfl rfl rfl hl.1 rfl (Nat.le_of_ble_eq_true rfl) dL_law_257 ⟨Nat.le_refl _, Nat.le_refl _⟩ (fun a1 H locs ha1 hP hD hS => ?_)
  refine lv_aload_n hx hb dL_law_260 rfl (lv_at hl 2 rfl) ?_
  refine cl_r (As := []) (rest := [.int r]) ⟨hx, hb, hml, hown, hts⟩ (MM H.size) (cwV 0 hts gL_law_X9_tongue rfl rfl rfl (by decide +kernel) ⟨Nat.le_of_ble_eq_true rfl, Nat.le_of_ble_eq_true rfl⟩) EB_0 trivial hK hP hD hS hA 0 hm0 rfl rfl rfl hl.1 rfl (Nat.le_of_ble_eq_true rfl) dL_law_261 ⟨Nat.le_refl _, Nat.le_refl _⟩ (fun H locs hP hD hS => ?_)
  refine lv_icmp_eq (tgt := 1519) hx hb dL_law_264 (by decide) (fun cq => ?_) (fun cq => absurd rfl cq)
  exact kk a1 H locs ha1 hP hD hS
set_option maxHeartbeats 4000000 in
set_option maxRecDepth 100000 in
theorem law_fault {p : Program} {l : Launch} {e : Env} {s : State} {m : MethodId} {below : List Frame} {meth : Method} {c : Code} {b L : Nat} {xs : Nat → Int32} {dC : Nat → ClassId} {dI : Nat → Nat → Nat} {cB cI cJ cZ : ClassId} {adK adV : Nat → Nat} (hL : L ≤ 3584) (C0 : LC p s m meth c b L xs dC dI cB cI cJ cZ adK adV) {i : Nat} (hi : i + 7 ≤ L) {x0 m0 : Nat} {wx wm wm1 : va_W} {wx1 : va_W} {r : Int32} {fx fm : List Value} (hx0 : wx[0]? = some (x0, .inr (7, fx))) (hm0 : wm[0]? = some (m0, .inr (8, fm))) (MX : ∀ sz, Met l yX8_fault wsX8_fault ({ frames := 0, cells := 0, slots := 0, locals := 0 }) (gP (dC, dI) (tyz cB cI cJ cZ) (E_X adK adV) wx sz [.ref x0]) (gI (dC, dI) (tyz cB cI cJ cZ) wx1 (va_A wx sz) r) 0 0 (va_A wx sz)) (MM : ∀ sz, Met l yX9_fault wsX9_fault ({ frames := 0, cells := 0, slots := 0, locals := 0 }) (gP (dC, dI) (tyz cB cI cJ cZ) E_0 wm sz [.ref m0]) (gI (dC, dI) (tyz cB cI cJ cZ) wm1 (va_A wm sz) r) 0 0 (va_A wm sz)) {H : Heap} {locs : List Loc} {ls : Array Slot} (hP : va_P (dC, dI) vwCl (wx ++ wm) H) (hD : va_D (fun q : Nat => s.heap.size ≤ q) (wx ++ wm)) (hS : va_S (fun q : Nat => s.heap.size ≤ q) s.heap H locs) (hl : lv_has ls 4 [(0, .ref b), (1, .ref x0), (2, .ref m0), (3, .int (nI i))]) (kk : ∀ (H1 : Heap) (locs1 : List Loc), va_P (dC, dI) vwCl (wx1 ++ wm1) H1 → va_D (fun q : Nat => s.heap.size ≤ q) (wx1 ++ wm1) → va_S (fun q : Nat => s.heap.size ≤ q) s.heap H1 locs1 → W p l e room_1 s m #[Value.ref b] below meth c H1 locs1 73 3097 (lw_Z below #[Value.ref b] s) (F0 m 1519 ls [])) : W p l e room_1 s m #[Value.ref b] below meth c H locs 73 3097 (lw_Z below #[Value.ref b] s) (F0 m 269 ls []) := by
  obtain ⟨hx, hb, hr, hml, hown, hts, hX, hbl, hlocks, hK, hE⟩ := id C0
  have hA : ∀ q : Nat, s.heap.size ≤ q → (fun q : Nat => s.heap.size ≤ q) q := fun _ h => h
  have hbA : ¬ (fun q : Nat => s.heap.size ≤ q) b := Nat.not_le.mpr hbl
  refine lv_aload_n hx hb dL_law_269 rfl (lv_at hl 1 rfl) ?_
  refine cl_l (As := []) (rest := []) ⟨hx, hb, hml, hown, hts⟩ (MX H.size) (cwV 0 hts gL_law_X8_fault rfl rfl rfl (by decide +kernel) ⟨Nat.le_of_ble_eq_true rfl, Nat.le_of_ble_eq_true rfl⟩) EB_X hE hK hP hD hS hA 0 hx0 rfl rfl rfl hl.1 rfl (Nat.le_of_ble_eq_true rfl) dL_law_270 ⟨Nat.le_refl _, Nat.le_refl _⟩ (fun H locs hP hD hS => ?_)
  refine lv_aload_n hx hb dL_law_273 rfl (lv_at hl 2 rfl) ?_
  refine cl_r (As := []) (rest := [.int r]) ⟨hx, hb, hml, hown, hts⟩ (MM H.size) (cwV 0 hts gL_law_X9_fault rfl rfl rfl (by decide +kernel) ⟨Nat.le_of_ble_eq_true rfl, Nat.le_of_ble_eq_true rfl⟩) EB_0 trivial hK hP hD hS hA 0 hm0 rfl rfl rfl hl.1 rfl (Nat.le_of_ble_eq_true rfl) dL_law_274 ⟨Nat.le_refl _, Nat.le_refl _⟩ (fun H locs hP hD hS => ?_)
  refine lv_icmp_eq (tgt := 1519) hx hb dL_law_277 (by decide) (fun cq => ?_) (fun cq => absurd rfl cq)
  exact kk H locs hP hD hS
set_option maxHeartbeats 4000000 in
set_option maxRecDepth 100000 in
theorem law_word {p : Program} {l : Launch} {e : Env} {s : State} {m : MethodId} {below : List Frame} {meth : Method} {c : Code} {b L : Nat} {xs : Nat → Int32} {dC : Nat → ClassId} {dI : Nat → Nat → Nat} {cB cI cJ cZ : ClassId} {adK adV : Nat → Nat} (hL : L ≤ 3584) (C0 : LC p s m meth c b L xs dC dI cB cI cJ cZ adK adV) {i : Nat} (hi : i + 7 ≤ L) {x0 m0 : Nat} {wx wm wm1 : va_W} {wx1 : va_W} {r : Int32} {fx fm : List Value} (hx0 : wx[0]? = some (x0, .inr (7, fx))) (hm0 : wm[0]? = some (m0, .inr (8, fm))) (MX : ∀ sz, Met l yX8_word wsX8_word ({ frames := 3, cells := 0, slots := 0, locals := 69 }) (gP (dC, dI) (tyz cB cI cJ cZ) (E_X adK adV) wx sz [.ref x0, .int (xs (i + 1)), .int (xs (i + 2))]) (gI (dC, dI) (tyz cB cI cJ cZ) wx1 (va_A wx sz) r) 0 0 (va_A wx sz)) (MM : ∀ sz, Met l yX9_word wsX9_word ({ frames := 2, cells := 0, slots := 0, locals := 47 }) (gP (dC, dI) (tyz cB cI cJ cZ) E_0 wm sz [.ref m0, .int (xs (i + 1)), .int (xs (i + 2))]) (gI (dC, dI) (tyz cB cI cJ cZ) wm1 (va_A wm sz) r) 0 0 (va_A wm sz)) {H : Heap} {locs : List Loc} {ls : Array Slot} (hP : va_P (dC, dI) vwCl (wx ++ wm) H) (hD : va_D (fun q : Nat => s.heap.size ≤ q) (wx ++ wm)) (hS : va_S (fun q : Nat => s.heap.size ≤ q) s.heap H locs) (hl : lv_has ls 4 [(0, .ref b), (1, .ref x0), (2, .ref m0), (3, .int (nI i))]) (kk : ∀ (H1 : Heap) (locs1 : List Loc), va_P (dC, dI) vwCl (wx1 ++ wm1) H1 → va_D (fun q : Nat => s.heap.size ≤ q) (wx1 ++ wm1) → va_S (fun q : Nat => s.heap.size ≤ q) s.heap H1 locs1 → W p l e room_1 s m #[Value.ref b] below meth c H1 locs1 73 3097 (lw_Z below #[Value.ref b] s) (F0 m 1519 ls [])) : W p l e room_1 s m #[Value.ref b] below meth c H locs 73 3097 (lw_Z below #[Value.ref b] s) (F0 m 282 ls []) := by
  obtain ⟨hx, hb, hr, hml, hown, hts, hX, hbl, hlocks, hK, hE⟩ := id C0
  have hA : ∀ q : Nat, s.heap.size ≤ q → (fun q : Nat => s.heap.size ≤ q) q := fun _ h => h
  have hbA : ¬ (fun q : Nat => s.heap.size ≤ q) b := Nat.not_le.mpr hbl
  refine lv_aload_n hx hb dL_law_282 rfl (lv_at hl 1 rfl) ?_
  refine lv_aload_n hx hb dL_law_283 rfl (lv_at hl 0 rfl) ?_
  refine lv_iload_n hx hb dL_law_284 rfl (lv_at hl 3 rfl) ?_
  refine lv_iconst (v := 1) hx hb dL_law_285 (by decide) ?_
  refine lv_iadd hx hb dL_law_286 ?_
  refine ld_j (j := 1) hx hb hX hbl hbA hS rfl (by omega) hL dL_law_287 ?_
  refine lv_aload_n hx hb dL_law_288 rfl (lv_at hl 0 rfl) ?_
  refine lv_iload_n hx hb dL_law_289 rfl (lv_at hl 3 rfl) ?_
  refine lv_iconst (v := 2) hx hb dL_law_290 (by decide) ?_
  refine lv_iadd hx hb dL_law_291 ?_
  refine ld_j (j := 2) hx hb hX hbl hbA hS rfl (by omega) hL dL_law_292 ?_
  refine cl_l (As := [.int (xs (i + 1)), .int (xs (i + 2))]) (rest := []) ⟨hx, hb, hml, hown, hts⟩ (MX H.size) (cwV 2 hts gL_law_X8_word rfl rfl rfl (by decide +kernel) ⟨Nat.le_of_ble_eq_true rfl, Nat.le_of_ble_eq_true rfl⟩) EB_X hE hK hP hD hS hA 0 hx0 rfl rfl rfl hl.1 rfl (Nat.le_of_ble_eq_true rfl) dL_law_293 ⟨Nat.le_refl _, Nat.le_refl _⟩ (fun H locs hP hD hS => ?_)
  refine lv_aload_n hx hb dL_law_296 rfl (lv_at hl 2 rfl) ?_
  refine lv_aload_n hx hb dL_law_297 rfl (lv_at hl 0 rfl) ?_
  refine lv_iload_n hx hb dL_law_298 rfl (lv_at hl 3 rfl) ?_
  refine lv_iconst (v := 1) hx hb dL_law_299 (by decide) ?_
  refine lv_iadd hx hb dL_law_300 ?_
  refine ld_j (j := 1) hx hb hX hbl hbA hS rfl (by omega) hL dL_law_301 ?_
  refine lv_aload_n hx hb dL_law_302 rfl (lv_at hl 0 rfl) ?_
  refine lv_iload_n hx hb dL_law_303 rfl (lv_at hl 3 rfl) ?_
  refine lv_iconst (v := 2) hx hb dL_law_304 (by decide) ?_
  refine lv_iadd hx hb dL_law_305 ?_
  refine ld_j (j := 2) hx hb hX hbl hbA hS rfl (by omega) hL dL_law_306 ?_
  refine cl_r (As := [.int (xs (i + 1)), .int (xs (i + 2))]) (rest := [.int r]) ⟨hx, hb, hml, hown, hts⟩ (MM H.size) (cwV 2 hts gL_law_X9_word rfl rfl rfl (by decide +kernel) ⟨Nat.le_of_ble_eq_true rfl, Nat.le_of_ble_eq_true rfl⟩) EB_0 trivial hK hP hD hS hA 0 hm0 rfl rfl rfl hl.1 rfl (Nat.le_of_ble_eq_true rfl) dL_law_307 ⟨Nat.le_refl _, Nat.le_refl _⟩ (fun H locs hP hD hS => ?_)
  refine lv_icmp_eq (tgt := 1519) hx hb dL_law_310 (by decide) (fun cq => ?_) (fun cq => absurd rfl cq)
  exact kk H locs hP hD hS
set_option maxHeartbeats 4000000 in
set_option maxRecDepth 100000 in
theorem law_ask {p : Program} {l : Launch} {e : Env} {s : State} {m : MethodId} {below : List Frame} {meth : Method} {c : Code} {b L : Nat} {xs : Nat → Int32} {dC : Nat → ClassId} {dI : Nat → Nat → Nat} {cB cI cJ cZ : ClassId} {adK adV : Nat → Nat} (hL : L ≤ 3584) (C0 : LC p s m meth c b L xs dC dI cB cI cJ cZ adK adV) {i : Nat} (hi : i + 7 ≤ L) {x0 m0 : Nat} {wx wm wm1 : va_W} {wx1 : va_W} {r : Int32} {fx fm : List Value} (hx0 : wx[0]? = some (x0, .inr (7, fx))) (hm0 : wm[0]? = some (m0, .inr (8, fm))) (MX : ∀ sz, Met l yX8_ask wsX8_ask ({ frames := 1, cells := 0, slots := 0, locals := 21 }) (gP (dC, dI) (tyz cB cI cJ cZ) (E_X adK adV) wx sz [.ref x0, .int (xs (i + 1)), .int (xs (i + 2))]) (gI (dC, dI) (tyz cB cI cJ cZ) wx1 (va_A wx sz) r) 0 0 (va_A wx sz)) (MM : ∀ sz, Met l yX9_ask wsX9_ask ({ frames := 2, cells := 0, slots := 0, locals := 46 }) (gP (dC, dI) (tyz cB cI cJ cZ) E_0 wm sz [.ref m0, .int (xs (i + 1)), .int (xs (i + 2))]) (gI (dC, dI) (tyz cB cI cJ cZ) wm1 (va_A wm sz) r) 0 0 (va_A wm sz)) {H : Heap} {locs : List Loc} {ls : Array Slot} (hP : va_P (dC, dI) vwCl (wx ++ wm) H) (hD : va_D (fun q : Nat => s.heap.size ≤ q) (wx ++ wm)) (hS : va_S (fun q : Nat => s.heap.size ≤ q) s.heap H locs) (hl : lv_has ls 4 [(0, .ref b), (1, .ref x0), (2, .ref m0), (3, .int (nI i))]) (kk : ∀ (H1 : Heap) (locs1 : List Loc), va_P (dC, dI) vwCl (wx1 ++ wm1) H1 → va_D (fun q : Nat => s.heap.size ≤ q) (wx1 ++ wm1) → va_S (fun q : Nat => s.heap.size ≤ q) s.heap H1 locs1 → W p l e room_1 s m #[Value.ref b] below meth c H1 locs1 73 3097 (lw_Z below #[Value.ref b] s) (F0 m 1519 ls [])) : W p l e room_1 s m #[Value.ref b] below meth c H locs 73 3097 (lw_Z below #[Value.ref b] s) (F0 m 315 ls []) := by
  obtain ⟨hx, hb, hr, hml, hown, hts, hX, hbl, hlocks, hK, hE⟩ := id C0
  have hA : ∀ q : Nat, s.heap.size ≤ q → (fun q : Nat => s.heap.size ≤ q) q := fun _ h => h
  have hbA : ¬ (fun q : Nat => s.heap.size ≤ q) b := Nat.not_le.mpr hbl
  refine lv_aload_n hx hb dL_law_315 rfl (lv_at hl 1 rfl) ?_
  refine lv_aload_n hx hb dL_law_316 rfl (lv_at hl 0 rfl) ?_
  refine lv_iload_n hx hb dL_law_317 rfl (lv_at hl 3 rfl) ?_
  refine lv_iconst (v := 1) hx hb dL_law_318 (by decide) ?_
  refine lv_iadd hx hb dL_law_319 ?_
  refine ld_j (j := 1) hx hb hX hbl hbA hS rfl (by omega) hL dL_law_320 ?_
  refine lv_aload_n hx hb dL_law_321 rfl (lv_at hl 0 rfl) ?_
  refine lv_iload_n hx hb dL_law_322 rfl (lv_at hl 3 rfl) ?_
  refine lv_iconst (v := 2) hx hb dL_law_323 (by decide) ?_
  refine lv_iadd hx hb dL_law_324 ?_
  refine ld_j (j := 2) hx hb hX hbl hbA hS rfl (by omega) hL dL_law_325 ?_
  refine cl_l (As := [.int (xs (i + 1)), .int (xs (i + 2))]) (rest := []) ⟨hx, hb, hml, hown, hts⟩ (MX H.size) (cwV 2 hts gL_law_X8_ask rfl rfl rfl (by decide +kernel) ⟨Nat.le_of_ble_eq_true rfl, Nat.le_of_ble_eq_true rfl⟩) EB_X hE hK hP hD hS hA 0 hx0 rfl rfl rfl hl.1 rfl (Nat.le_of_ble_eq_true rfl) dL_law_326 ⟨Nat.le_refl _, Nat.le_refl _⟩ (fun H locs hP hD hS => ?_)
  refine lv_aload_n hx hb dL_law_329 rfl (lv_at hl 2 rfl) ?_
  refine lv_aload_n hx hb dL_law_330 rfl (lv_at hl 0 rfl) ?_
  refine lv_iload_n hx hb dL_law_331 rfl (lv_at hl 3 rfl) ?_
  refine lv_iconst (v := 1) hx hb dL_law_332 (by decide) ?_
  refine lv_iadd hx hb dL_law_333 ?_
  refine ld_j (j := 1) hx hb hX hbl hbA hS rfl (by omega) hL dL_law_334 ?_
  refine lv_aload_n hx hb dL_law_335 rfl (lv_at hl 0 rfl) ?_
  refine lv_iload_n hx hb dL_law_336 rfl (lv_at hl 3 rfl) ?_
  refine lv_iconst (v := 2) hx hb dL_law_337 (by decide) ?_
  refine lv_iadd hx hb dL_law_338 ?_
  refine ld_j (j := 2) hx hb hX hbl hbA hS rfl (by omega) hL dL_law_339 ?_
  refine cl_r (As := [.int (xs (i + 1)), .int (xs (i + 2))]) (rest := [.int r]) ⟨hx, hb, hml, hown, hts⟩ (MM H.size) (cwV 2 hts gL_law_X9_ask rfl rfl rfl (by decide +kernel) ⟨Nat.le_of_ble_eq_true rfl, Nat.le_of_ble_eq_true rfl⟩) EB_0 trivial hK hP hD hS hA 0 hm0 rfl rfl rfl hl.1 rfl (Nat.le_of_ble_eq_true rfl) dL_law_340 ⟨Nat.le_refl _, Nat.le_refl _⟩ (fun H locs hP hD hS => ?_)
  refine lv_icmp_eq (tgt := 1519) hx hb dL_law_343 (by decide) (fun cq => ?_) (fun cq => absurd rfl cq)
  exact kk H locs hP hD hS
set_option maxHeartbeats 4000000 in
set_option maxRecDepth 100000 in
theorem law_blurred {p : Program} {l : Launch} {e : Env} {s : State} {m : MethodId} {below : List Frame} {meth : Method} {c : Code} {b L : Nat} {xs : Nat → Int32} {dC : Nat → ClassId} {dI : Nat → Nat → Nat} {cB cI cJ cZ : ClassId} {adK adV : Nat → Nat} (hL : L ≤ 3584) (C0 : LC p s m meth c b L xs dC dI cB cI cJ cZ adK adV) {i : Nat} (hi : i + 7 ≤ L) {x0 m0 : Nat} {wx wm wm1 : va_W} {wx1 : va_W} {r : Int32} {fx fm : List Value} (hx0 : wx[0]? = some (x0, .inr (7, fx))) (hm0 : wm[0]? = some (m0, .inr (8, fm))) (MX : ∀ sz, Met l yX8_blurred wsX8_blurred ({ frames := 1, cells := 0, slots := 0, locals := 23 }) (gP (dC, dI) (tyz cB cI cJ cZ) (E_X adK adV) wx sz [.ref x0, .int (xs (i + 1)), .int (xs (i + 2)), .int (xs (i + 3))]) (gI (dC, dI) (tyz cB cI cJ cZ) wx1 (va_A wx sz) r) 0 0 (va_A wx sz)) (MM : ∀ sz, Met l yX9_blurred wsX9_blurred ({ frames := 2, cells := 0, slots := 0, locals := 47 }) (gP (dC, dI) (tyz cB cI cJ cZ) E_0 wm sz [.ref m0, .int (xs (i + 1)), .int (xs (i + 2)), .int (xs (i + 3))]) (gI (dC, dI) (tyz cB cI cJ cZ) wm1 (va_A wm sz) r) 0 0 (va_A wm sz)) {H : Heap} {locs : List Loc} {ls : Array Slot} (hP : va_P (dC, dI) vwCl (wx ++ wm) H) (hD : va_D (fun q : Nat => s.heap.size ≤ q) (wx ++ wm)) (hS : va_S (fun q : Nat => s.heap.size ≤ q) s.heap H locs) (hl : lv_has ls 4 [(0, .ref b), (1, .ref x0), (2, .ref m0), (3, .int (nI i))]) (kk : ∀ (H1 : Heap) (locs1 : List Loc), va_P (dC, dI) vwCl (wx1 ++ wm1) H1 → va_D (fun q : Nat => s.heap.size ≤ q) (wx1 ++ wm1) → va_S (fun q : Nat => s.heap.size ≤ q) s.heap H1 locs1 → W p l e room_1 s m #[Value.ref b] below meth c H1 locs1 73 3097 (lw_Z below #[Value.ref b] s) (F0 m 1519 ls [])) : W p l e room_1 s m #[Value.ref b] below meth c H locs 73 3097 (lw_Z below #[Value.ref b] s) (F0 m 348 ls []) := by
  obtain ⟨hx, hb, hr, hml, hown, hts, hX, hbl, hlocks, hK, hE⟩ := id C0
  have hA : ∀ q : Nat, s.heap.size ≤ q → (fun q : Nat => s.heap.size ≤ q) q := fun _ h => h
  have hbA : ¬ (fun q : Nat => s.heap.size ≤ q) b := Nat.not_le.mpr hbl
  refine lv_aload_n hx hb dL_law_348 rfl (lv_at hl 1 rfl) ?_
  refine lv_aload_n hx hb dL_law_349 rfl (lv_at hl 0 rfl) ?_
  refine lv_iload_n hx hb dL_law_350 rfl (lv_at hl 3 rfl) ?_
  refine lv_iconst (v := 1) hx hb dL_law_351 (by decide) ?_
  refine lv_iadd hx hb dL_law_352 ?_
  refine ld_j (j := 1) hx hb hX hbl hbA hS rfl (by omega) hL dL_law_353 ?_
  refine lv_aload_n hx hb dL_law_354 rfl (lv_at hl 0 rfl) ?_
  refine lv_iload_n hx hb dL_law_355 rfl (lv_at hl 3 rfl) ?_
  refine lv_iconst (v := 2) hx hb dL_law_356 (by decide) ?_
  refine lv_iadd hx hb dL_law_357 ?_
  refine ld_j (j := 2) hx hb hX hbl hbA hS rfl (by omega) hL dL_law_358 ?_
  refine lv_aload_n hx hb dL_law_359 rfl (lv_at hl 0 rfl) ?_
  refine lv_iload_n hx hb dL_law_360 rfl (lv_at hl 3 rfl) ?_
  refine lv_iconst (v := 3) hx hb dL_law_361 (by decide) ?_
  refine lv_iadd hx hb dL_law_362 ?_
  refine ld_j (j := 3) hx hb hX hbl hbA hS rfl (by omega) hL dL_law_363 ?_
  refine cl_l (As := [.int (xs (i + 1)), .int (xs (i + 2)), .int (xs (i + 3))]) (rest := []) ⟨hx, hb, hml, hown, hts⟩ (MX H.size) (cwV 3 hts gL_law_X8_blurred rfl rfl rfl (by decide +kernel) ⟨Nat.le_of_ble_eq_true rfl, Nat.le_of_ble_eq_true rfl⟩) EB_X hE hK hP hD hS hA 0 hx0 rfl rfl rfl hl.1 rfl (Nat.le_of_ble_eq_true rfl) dL_law_364 ⟨Nat.le_refl _, Nat.le_refl _⟩ (fun H locs hP hD hS => ?_)
  refine lv_aload_n hx hb dL_law_367 rfl (lv_at hl 2 rfl) ?_
  refine lv_aload_n hx hb dL_law_368 rfl (lv_at hl 0 rfl) ?_
  refine lv_iload_n hx hb dL_law_369 rfl (lv_at hl 3 rfl) ?_
  refine lv_iconst (v := 1) hx hb dL_law_370 (by decide) ?_
  refine lv_iadd hx hb dL_law_371 ?_
  refine ld_j (j := 1) hx hb hX hbl hbA hS rfl (by omega) hL dL_law_372 ?_
  refine lv_aload_n hx hb dL_law_373 rfl (lv_at hl 0 rfl) ?_
  refine lv_iload_n hx hb dL_law_374 rfl (lv_at hl 3 rfl) ?_
  refine lv_iconst (v := 2) hx hb dL_law_375 (by decide) ?_
  refine lv_iadd hx hb dL_law_376 ?_
  refine ld_j (j := 2) hx hb hX hbl hbA hS rfl (by omega) hL dL_law_377 ?_
  refine lv_aload_n hx hb dL_law_378 rfl (lv_at hl 0 rfl) ?_
  refine lv_iload_n hx hb dL_law_379 rfl (lv_at hl 3 rfl) ?_
  refine lv_iconst (v := 3) hx hb dL_law_380 (by decide) ?_
  refine lv_iadd hx hb dL_law_381 ?_
  refine ld_j (j := 3) hx hb hX hbl hbA hS rfl (by omega) hL dL_law_382 ?_
  refine cl_r (As := [.int (xs (i + 1)), .int (xs (i + 2)), .int (xs (i + 3))]) (rest := [.int r]) ⟨hx, hb, hml, hown, hts⟩ (MM H.size) (cwV 3 hts gL_law_X9_blurred rfl rfl rfl (by decide +kernel) ⟨Nat.le_of_ble_eq_true rfl, Nat.le_of_ble_eq_true rfl⟩) EB_0 trivial hK hP hD hS hA 0 hm0 rfl rfl rfl hl.1 rfl (Nat.le_of_ble_eq_true rfl) dL_law_383 ⟨Nat.le_refl _, Nat.le_refl _⟩ (fun H locs hP hD hS => ?_)
  refine lv_icmp_eq (tgt := 1519) hx hb dL_law_386 (by decide) (fun cq => ?_) (fun cq => absurd rfl cq)
  exact kk H locs hP hD hS
set_option maxHeartbeats 4000000 in
set_option maxRecDepth 100000 in
theorem law_apart {p : Program} {l : Launch} {e : Env} {s : State} {m : MethodId} {below : List Frame} {meth : Method} {c : Code} {b L : Nat} {xs : Nat → Int32} {dC : Nat → ClassId} {dI : Nat → Nat → Nat} {cB cI cJ cZ : ClassId} {adK adV : Nat → Nat} (hL : L ≤ 3584) (C0 : LC p s m meth c b L xs dC dI cB cI cJ cZ adK adV) {i : Nat} (hi : i + 7 ≤ L) {x0 m0 : Nat} {wx wm wm1 : va_W} {wx1 : va_W} {r : Int32} {fx fm : List Value} (hx0 : wx[0]? = some (x0, .inr (7, fx))) (hm0 : wm[0]? = some (m0, .inr (8, fm))) (MX : ∀ sz, Met l yX8_apart wsX8_apart ({ frames := 2, cells := 0, slots := 0, locals := 45 }) (gP (dC, dI) (tyz cB cI cJ cZ) (E_X adK adV) wx sz [.ref x0, .int (xs (i + 1)), .int (xs (i + 2)), .int (xs (i + 3))]) (gI (dC, dI) (tyz cB cI cJ cZ) wx1 (va_A wx sz) r) 0 0 (va_A wx sz)) (MM : ∀ sz, Met l yX9_apart wsX9_apart ({ frames := 3, cells := 0, slots := 0, locals := 72 }) (gP (dC, dI) (tyz cB cI cJ cZ) E_0 wm sz [.ref m0, .int (xs (i + 1)), .int (xs (i + 2)), .int (xs (i + 3))]) (gI (dC, dI) (tyz cB cI cJ cZ) wm1 (va_A wm sz) r) 0 0 (va_A wm sz)) {H : Heap} {locs : List Loc} {ls : Array Slot} (hP : va_P (dC, dI) vwCl (wx ++ wm) H) (hD : va_D (fun q : Nat => s.heap.size ≤ q) (wx ++ wm)) (hS : va_S (fun q : Nat => s.heap.size ≤ q) s.heap H locs) (hl : lv_has ls 4 [(0, .ref b), (1, .ref x0), (2, .ref m0), (3, .int (nI i))]) (kk : ∀ (H1 : Heap) (locs1 : List Loc), va_P (dC, dI) vwCl (wx1 ++ wm1) H1 → va_D (fun q : Nat => s.heap.size ≤ q) (wx1 ++ wm1) → va_S (fun q : Nat => s.heap.size ≤ q) s.heap H1 locs1 → W p l e room_1 s m #[Value.ref b] below meth c H1 locs1 73 3097 (lw_Z below #[Value.ref b] s) (F0 m 1519 ls [])) : W p l e room_1 s m #[Value.ref b] below meth c H locs 73 3097 (lw_Z below #[Value.ref b] s) (F0 m 391 ls []) := by
  obtain ⟨hx, hb, hr, hml, hown, hts, hX, hbl, hlocks, hK, hE⟩ := id C0
  have hA : ∀ q : Nat, s.heap.size ≤ q → (fun q : Nat => s.heap.size ≤ q) q := fun _ h => h
  have hbA : ¬ (fun q : Nat => s.heap.size ≤ q) b := Nat.not_le.mpr hbl
  refine lv_aload_n hx hb dL_law_391 rfl (lv_at hl 1 rfl) ?_
  refine lv_aload_n hx hb dL_law_392 rfl (lv_at hl 0 rfl) ?_
  refine lv_iload_n hx hb dL_law_393 rfl (lv_at hl 3 rfl) ?_
  refine lv_iconst (v := 1) hx hb dL_law_394 (by decide) ?_
  refine lv_iadd hx hb dL_law_395 ?_
  refine ld_j (j := 1) hx hb hX hbl hbA hS rfl (by omega) hL dL_law_396 ?_
  refine lv_aload_n hx hb dL_law_397 rfl (lv_at hl 0 rfl) ?_
  refine lv_iload_n hx hb dL_law_398 rfl (lv_at hl 3 rfl) ?_
  refine lv_iconst (v := 2) hx hb dL_law_399 (by decide) ?_
  refine lv_iadd hx hb dL_law_400 ?_
  refine ld_j (j := 2) hx hb hX hbl hbA hS rfl (by omega) hL dL_law_401 ?_
  refine lv_aload_n hx hb dL_law_402 rfl (lv_at hl 0 rfl) ?_
  refine lv_iload_n hx hb dL_law_403 rfl (lv_at hl 3 rfl) ?_
  refine lv_iconst (v := 3) hx hb dL_law_404 (by decide) ?_
  refine lv_iadd hx hb dL_law_405 ?_
  refine ld_j (j := 3) hx hb hX hbl hbA hS rfl (by omega) hL dL_law_406 ?_
  refine cl_l (As := [.int (xs (i + 1)), .int (xs (i + 2)), .int (xs (i + 3))]) (rest := []) ⟨hx, hb, hml, hown, hts⟩ (MX H.size) (cwV 3 hts gL_law_X8_apart rfl rfl rfl (by decide +kernel) ⟨Nat.le_of_ble_eq_true rfl, Nat.le_of_ble_eq_true rfl⟩) EB_X hE hK hP hD hS hA 0 hx0 rfl rfl rfl hl.1 rfl (Nat.le_of_ble_eq_true rfl) dL_law_407 ⟨Nat.le_refl _, Nat.le_refl _⟩ (fun H locs hP hD hS => ?_)
  refine lv_aload_n hx hb dL_law_410 rfl (lv_at hl 2 rfl) ?_
  refine lv_aload_n hx hb dL_law_411 rfl (lv_at hl 0 rfl) ?_
  refine lv_iload_n hx hb dL_law_412 rfl (lv_at hl 3 rfl) ?_
  refine lv_iconst (v := 1) hx hb dL_law_413 (by decide) ?_
  refine lv_iadd hx hb dL_law_414 ?_
  refine ld_j (j := 1) hx hb hX hbl hbA hS rfl (by omega) hL dL_law_415 ?_
  refine lv_aload_n hx hb dL_law_416 rfl (lv_at hl 0 rfl) ?_
  refine lv_iload_n hx hb dL_law_417 rfl (lv_at hl 3 rfl) ?_
  refine lv_iconst (v := 2) hx hb dL_law_418 (by decide) ?_
  refine lv_iadd hx hb dL_law_419 ?_
  refine ld_j (j := 2) hx hb hX hbl hbA hS rfl (by omega) hL dL_law_420 ?_
  refine lv_aload_n hx hb dL_law_421 rfl (lv_at hl 0 rfl) ?_
  refine lv_iload_n hx hb dL_law_422 rfl (lv_at hl 3 rfl) ?_
  refine lv_iconst (v := 3) hx hb dL_law_423 (by decide) ?_
  refine lv_iadd hx hb dL_law_424 ?_
  refine ld_j (j := 3) hx hb hX hbl hbA hS rfl (by omega) hL dL_law_425 ?_
  refine cl_r (As := [.int (xs (i + 1)), .int (xs (i + 2)), .int (xs (i + 3))]) (rest := [.int r]) ⟨hx, hb, hml, hown, hts⟩ (MM H.size) (cwV 3 hts gL_law_X9_apart rfl rfl rfl (by decide +kernel) ⟨Nat.le_of_ble_eq_true rfl, Nat.le_of_ble_eq_true rfl⟩) EB_0 trivial hK hP hD hS hA 0 hm0 rfl rfl rfl hl.1 rfl (Nat.le_of_ble_eq_true rfl) dL_law_426 ⟨Nat.le_refl _, Nat.le_refl _⟩ (fun H locs hP hD hS => ?_)
  refine lv_icmp_eq (tgt := 1519) hx hb dL_law_429 (by decide) (fun cq => ?_) (fun cq => absurd rfl cq)
  exact kk H locs hP hD hS
set_option maxHeartbeats 4000000 in
set_option maxRecDepth 100000 in
theorem law_until {p : Program} {l : Launch} {e : Env} {s : State} {m : MethodId} {below : List Frame} {meth : Method} {c : Code} {b L : Nat} {xs : Nat → Int32} {dC : Nat → ClassId} {dI : Nat → Nat → Nat} {cB cI cJ cZ : ClassId} {adK adV : Nat → Nat} (hL : L ≤ 3584) (C0 : LC p s m meth c b L xs dC dI cB cI cJ cZ adK adV) {i : Nat} (hi : i + 7 ≤ L) {x0 m0 : Nat} {wx wm wm1 : va_W} {wx1 : va_W} {r : Int32} {fx fm : List Value} (hx0 : wx[0]? = some (x0, .inr (7, fx))) (hm0 : wm[0]? = some (m0, .inr (8, fm))) (MX : ∀ sz, Met l yX8_until wsX8_until ({ frames := 2, cells := 0, slots := 0, locals := 45 }) (gP (dC, dI) (tyz cB cI cJ cZ) (E_X adK adV) wx sz [.ref x0, .int (xs (i + 1)), .int (xs (i + 2))]) (gI (dC, dI) (tyz cB cI cJ cZ) wx1 (va_A wx sz) r) 0 0 (va_A wx sz)) (MM : ∀ sz, Met l yX9_until wsX9_until ({ frames := 3, cells := 0, slots := 0, locals := 72 }) (gP (dC, dI) (tyz cB cI cJ cZ) E_0 wm sz [.ref m0, .int (xs (i + 1)), .int (xs (i + 2))]) (gI (dC, dI) (tyz cB cI cJ cZ) wm1 (va_A wm sz) r) 0 0 (va_A wm sz)) {H : Heap} {locs : List Loc} {ls : Array Slot} (hP : va_P (dC, dI) vwCl (wx ++ wm) H) (hD : va_D (fun q : Nat => s.heap.size ≤ q) (wx ++ wm)) (hS : va_S (fun q : Nat => s.heap.size ≤ q) s.heap H locs) (hl : lv_has ls 4 [(0, .ref b), (1, .ref x0), (2, .ref m0), (3, .int (nI i))]) (kk : ∀ (H1 : Heap) (locs1 : List Loc), va_P (dC, dI) vwCl (wx1 ++ wm1) H1 → va_D (fun q : Nat => s.heap.size ≤ q) (wx1 ++ wm1) → va_S (fun q : Nat => s.heap.size ≤ q) s.heap H1 locs1 → W p l e room_1 s m #[Value.ref b] below meth c H1 locs1 73 3097 (lw_Z below #[Value.ref b] s) (F0 m 1519 ls [])) : W p l e room_1 s m #[Value.ref b] below meth c H locs 73 3097 (lw_Z below #[Value.ref b] s) (F0 m 434 ls []) := by
  obtain ⟨hx, hb, hr, hml, hown, hts, hX, hbl, hlocks, hK, hE⟩ := id C0
  have hA : ∀ q : Nat, s.heap.size ≤ q → (fun q : Nat => s.heap.size ≤ q) q := fun _ h => h
  have hbA : ¬ (fun q : Nat => s.heap.size ≤ q) b := Nat.not_le.mpr hbl
  refine lv_aload_n hx hb dL_law_434 rfl (lv_at hl 1 rfl) ?_
  refine lv_aload_n hx hb dL_law_435 rfl (lv_at hl 0 rfl) ?_
  refine lv_iload_n hx hb dL_law_436 rfl (lv_at hl 3 rfl) ?_
  refine lv_iconst (v := 1) hx hb dL_law_437 (by decide) ?_
  refine lv_iadd hx hb dL_law_438 ?_
  refine ld_j (j := 1) hx hb hX hbl hbA hS rfl (by omega) hL dL_law_439 ?_
  refine lv_aload_n hx hb dL_law_440 rfl (lv_at hl 0 rfl) ?_
  refine lv_iload_n hx hb dL_law_441 rfl (lv_at hl 3 rfl) ?_
  refine lv_iconst (v := 2) hx hb dL_law_442 (by decide) ?_
  refine lv_iadd hx hb dL_law_443 ?_
  refine ld_j (j := 2) hx hb hX hbl hbA hS rfl (by omega) hL dL_law_444 ?_
  refine cl_l (As := [.int (xs (i + 1)), .int (xs (i + 2))]) (rest := []) ⟨hx, hb, hml, hown, hts⟩ (MX H.size) (cwV 2 hts gL_law_X8_until rfl rfl rfl (by decide +kernel) ⟨Nat.le_of_ble_eq_true rfl, Nat.le_of_ble_eq_true rfl⟩) EB_X hE hK hP hD hS hA 0 hx0 rfl rfl rfl hl.1 rfl (Nat.le_of_ble_eq_true rfl) dL_law_445 ⟨Nat.le_refl _, Nat.le_refl _⟩ (fun H locs hP hD hS => ?_)
  refine lv_aload_n hx hb dL_law_448 rfl (lv_at hl 2 rfl) ?_
  refine lv_aload_n hx hb dL_law_449 rfl (lv_at hl 0 rfl) ?_
  refine lv_iload_n hx hb dL_law_450 rfl (lv_at hl 3 rfl) ?_
  refine lv_iconst (v := 1) hx hb dL_law_451 (by decide) ?_
  refine lv_iadd hx hb dL_law_452 ?_
  refine ld_j (j := 1) hx hb hX hbl hbA hS rfl (by omega) hL dL_law_453 ?_
  refine lv_aload_n hx hb dL_law_454 rfl (lv_at hl 0 rfl) ?_
  refine lv_iload_n hx hb dL_law_455 rfl (lv_at hl 3 rfl) ?_
  refine lv_iconst (v := 2) hx hb dL_law_456 (by decide) ?_
  refine lv_iadd hx hb dL_law_457 ?_
  refine ld_j (j := 2) hx hb hX hbl hbA hS rfl (by omega) hL dL_law_458 ?_
  refine cl_r (As := [.int (xs (i + 1)), .int (xs (i + 2))]) (rest := [.int r]) ⟨hx, hb, hml, hown, hts⟩ (MM H.size) (cwV 2 hts gL_law_X9_until rfl rfl rfl (by decide +kernel) ⟨Nat.le_of_ble_eq_true rfl, Nat.le_of_ble_eq_true rfl⟩) EB_0 trivial hK hP hD hS hA 0 hm0 rfl rfl rfl hl.1 rfl (Nat.le_of_ble_eq_true rfl) dL_law_459 ⟨Nat.le_refl _, Nat.le_refl _⟩ (fun H locs hP hD hS => ?_)
  refine lv_icmp_eq (tgt := 1519) hx hb dL_law_462 (by decide) (fun cq => ?_) (fun cq => absurd rfl cq)
  exact kk H locs hP hD hS
set_option maxHeartbeats 4000000 in
set_option maxRecDepth 100000 in
theorem law_cut {p : Program} {l : Launch} {e : Env} {s : State} {m : MethodId} {below : List Frame} {meth : Method} {c : Code} {b L : Nat} {xs : Nat → Int32} {dC : Nat → ClassId} {dI : Nat → Nat → Nat} {cB cI cJ cZ : ClassId} {adK adV : Nat → Nat} (hL : L ≤ 3584) (C0 : LC p s m meth c b L xs dC dI cB cI cJ cZ adK adV) {i : Nat} (hi : i + 7 ≤ L) {x0 m0 : Nat} {wx wm wm1 : va_W} {wx1 : va_W} {r : Int32} {fx fm : List Value} (hx0 : wx[0]? = some (x0, .inr (7, fx))) (hm0 : wm[0]? = some (m0, .inr (8, fm))) (MX : ∀ sz, Met l yX8_cut wsX8_cut ({ frames := 2, cells := 0, slots := 0, locals := 46 }) (gP (dC, dI) (tyz cB cI cJ cZ) (E_X adK adV) wx sz [.ref x0, .int (xs (i + 1)), .int (xs (i + 2)), .int (xs (i + 3))]) (gI (dC, dI) (tyz cB cI cJ cZ) wx1 (va_A wx sz) r) 0 0 (va_A wx sz)) (MM : ∀ sz, Met l yX9_cut wsX9_cut ({ frames := 3, cells := 0, slots := 0, locals := 72 }) (gP (dC, dI) (tyz cB cI cJ cZ) E_0 wm sz [.ref m0, .int (xs (i + 1)), .int (xs (i + 2)), .int (xs (i + 3))]) (gI (dC, dI) (tyz cB cI cJ cZ) wm1 (va_A wm sz) r) 0 0 (va_A wm sz)) {H : Heap} {locs : List Loc} {ls : Array Slot} (hP : va_P (dC, dI) vwCl (wx ++ wm) H) (hD : va_D (fun q : Nat => s.heap.size ≤ q) (wx ++ wm)) (hS : va_S (fun q : Nat => s.heap.size ≤ q) s.heap H locs) (hl : lv_has ls 4 [(0, .ref b), (1, .ref x0), (2, .ref m0), (3, .int (nI i))]) (kk : ∀ (H1 : Heap) (locs1 : List Loc), va_P (dC, dI) vwCl (wx1 ++ wm1) H1 → va_D (fun q : Nat => s.heap.size ≤ q) (wx1 ++ wm1) → va_S (fun q : Nat => s.heap.size ≤ q) s.heap H1 locs1 → W p l e room_1 s m #[Value.ref b] below meth c H1 locs1 73 3097 (lw_Z below #[Value.ref b] s) (F0 m 1519 ls [])) : W p l e room_1 s m #[Value.ref b] below meth c H locs 73 3097 (lw_Z below #[Value.ref b] s) (F0 m 467 ls []) := by
  obtain ⟨hx, hb, hr, hml, hown, hts, hX, hbl, hlocks, hK, hE⟩ := id C0
  have hA : ∀ q : Nat, s.heap.size ≤ q → (fun q : Nat => s.heap.size ≤ q) q := fun _ h => h
  have hbA : ¬ (fun q : Nat => s.heap.size ≤ q) b := Nat.not_le.mpr hbl
  refine lv_aload_n hx hb dL_law_467 rfl (lv_at hl 1 rfl) ?_
  refine lv_aload_n hx hb dL_law_468 rfl (lv_at hl 0 rfl) ?_
  refine lv_iload_n hx hb dL_law_469 rfl (lv_at hl 3 rfl) ?_
  refine lv_iconst (v := 1) hx hb dL_law_470 (by decide) ?_
  refine lv_iadd hx hb dL_law_471 ?_
  refine ld_j (j := 1) hx hb hX hbl hbA hS rfl (by omega) hL dL_law_472 ?_
  refine lv_aload_n hx hb dL_law_473 rfl (lv_at hl 0 rfl) ?_
  refine lv_iload_n hx hb dL_law_474 rfl (lv_at hl 3 rfl) ?_
  refine lv_iconst (v := 2) hx hb dL_law_475 (by decide) ?_
  refine lv_iadd hx hb dL_law_476 ?_
  refine ld_j (j := 2) hx hb hX hbl hbA hS rfl (by omega) hL dL_law_477 ?_
  refine lv_aload_n hx hb dL_law_478 rfl (lv_at hl 0 rfl) ?_
  refine lv_iload_n hx hb dL_law_479 rfl (lv_at hl 3 rfl) ?_
  refine lv_iconst (v := 3) hx hb dL_law_480 (by decide) ?_
  refine lv_iadd hx hb dL_law_481 ?_
  refine ld_j (j := 3) hx hb hX hbl hbA hS rfl (by omega) hL dL_law_482 ?_
  refine cl_l (As := [.int (xs (i + 1)), .int (xs (i + 2)), .int (xs (i + 3))]) (rest := []) ⟨hx, hb, hml, hown, hts⟩ (MX H.size) (cwV 3 hts gL_law_X8_cut rfl rfl rfl (by decide +kernel) ⟨Nat.le_of_ble_eq_true rfl, Nat.le_of_ble_eq_true rfl⟩) EB_X hE hK hP hD hS hA 0 hx0 rfl rfl rfl hl.1 rfl (Nat.le_of_ble_eq_true rfl) dL_law_483 ⟨Nat.le_refl _, Nat.le_refl _⟩ (fun H locs hP hD hS => ?_)
  refine lv_aload_n hx hb dL_law_486 rfl (lv_at hl 2 rfl) ?_
  refine lv_aload_n hx hb dL_law_487 rfl (lv_at hl 0 rfl) ?_
  refine lv_iload_n hx hb dL_law_488 rfl (lv_at hl 3 rfl) ?_
  refine lv_iconst (v := 1) hx hb dL_law_489 (by decide) ?_
  refine lv_iadd hx hb dL_law_490 ?_
  refine ld_j (j := 1) hx hb hX hbl hbA hS rfl (by omega) hL dL_law_491 ?_
  refine lv_aload_n hx hb dL_law_492 rfl (lv_at hl 0 rfl) ?_
  refine lv_iload_n hx hb dL_law_493 rfl (lv_at hl 3 rfl) ?_
  refine lv_iconst (v := 2) hx hb dL_law_494 (by decide) ?_
  refine lv_iadd hx hb dL_law_495 ?_
  refine ld_j (j := 2) hx hb hX hbl hbA hS rfl (by omega) hL dL_law_496 ?_
  refine lv_aload_n hx hb dL_law_497 rfl (lv_at hl 0 rfl) ?_
  refine lv_iload_n hx hb dL_law_498 rfl (lv_at hl 3 rfl) ?_
  refine lv_iconst (v := 3) hx hb dL_law_499 (by decide) ?_
  refine lv_iadd hx hb dL_law_500 ?_
  refine ld_j (j := 3) hx hb hX hbl hbA hS rfl (by omega) hL dL_law_501 ?_
  refine cl_r (As := [.int (xs (i + 1)), .int (xs (i + 2)), .int (xs (i + 3))]) (rest := [.int r]) ⟨hx, hb, hml, hown, hts⟩ (MM H.size) (cwV 3 hts gL_law_X9_cut rfl rfl rfl (by decide +kernel) ⟨Nat.le_of_ble_eq_true rfl, Nat.le_of_ble_eq_true rfl⟩) EB_0 trivial hK hP hD hS hA 0 hm0 rfl rfl rfl hl.1 rfl (Nat.le_of_ble_eq_true rfl) dL_law_502 ⟨Nat.le_refl _, Nat.le_refl _⟩ (fun H locs hP hD hS => ?_)
  refine lv_icmp_eq (tgt := 1519) hx hb dL_law_505 (by decide) (fun cq => ?_) (fun cq => absurd rfl cq)
  exact kk H locs hP hD hS
set_option maxHeartbeats 4000000 in
set_option maxRecDepth 100000 in
theorem law_means {p : Program} {l : Launch} {e : Env} {s : State} {m : MethodId} {below : List Frame} {meth : Method} {c : Code} {b L : Nat} {xs : Nat → Int32} {dC : Nat → ClassId} {dI : Nat → Nat → Nat} {cB cI cJ cZ : ClassId} {adK adV : Nat → Nat} (hL : L ≤ 3584) (C0 : LC p s m meth c b L xs dC dI cB cI cJ cZ adK adV) {i : Nat} (hi : i + 7 ≤ L) {x0 m0 : Nat} {wx wm wm1 : va_W} {wx1 : va_W} {r : Int32} {fx fm : List Value} (hx0 : wx[0]? = some (x0, .inr (7, fx))) (hm0 : wm[0]? = some (m0, .inr (8, fm))) (MX : ∀ sz, Met l yX8_means wsX8_means ({ frames := 3, cells := 0, slots := 0, locals := 71 }) (gP (dC, dI) (tyz cB cI cJ cZ) (E_X adK adV) wx sz [.ref x0, .int (xs (i + 1)), .int (xs (i + 2)), .int (xs (i + 3)), .int (xs (i + 4)), .int (xs (i + 5)), .int (xs (i + 6))]) (gI (dC, dI) (tyz cB cI cJ cZ) wx1 (va_A wx sz) r) 0 0 (va_A wx sz)) (MM : ∀ sz, Met l yX9_means wsX9_means ({ frames := 2, cells := 0, slots := 0, locals := 47 }) (gP (dC, dI) (tyz cB cI cJ cZ) E_0 wm sz [.ref m0, .int (xs (i + 1)), .int (xs (i + 2)), .int (xs (i + 3)), .int (xs (i + 4)), .int (xs (i + 5)), .int (xs (i + 6))]) (gI (dC, dI) (tyz cB cI cJ cZ) wm1 (va_A wm sz) r) 0 0 (va_A wm sz)) {H : Heap} {locs : List Loc} {ls : Array Slot} (hP : va_P (dC, dI) vwCl (wx ++ wm) H) (hD : va_D (fun q : Nat => s.heap.size ≤ q) (wx ++ wm)) (hS : va_S (fun q : Nat => s.heap.size ≤ q) s.heap H locs) (hl : lv_has ls 4 [(0, .ref b), (1, .ref x0), (2, .ref m0), (3, .int (nI i))]) (kk : ∀ (H1 : Heap) (locs1 : List Loc), va_P (dC, dI) vwCl (wx1 ++ wm1) H1 → va_D (fun q : Nat => s.heap.size ≤ q) (wx1 ++ wm1) → va_S (fun q : Nat => s.heap.size ≤ q) s.heap H1 locs1 → W p l e room_1 s m #[Value.ref b] below meth c H1 locs1 73 3097 (lw_Z below #[Value.ref b] s) (F0 m 1519 ls [])) : W p l e room_1 s m #[Value.ref b] below meth c H locs 73 3097 (lw_Z below #[Value.ref b] s) (F0 m 510 ls []) := by
  obtain ⟨hx, hb, hr, hml, hown, hts, hX, hbl, hlocks, hK, hE⟩ := id C0
  have hA : ∀ q : Nat, s.heap.size ≤ q → (fun q : Nat => s.heap.size ≤ q) q := fun _ h => h
  have hbA : ¬ (fun q : Nat => s.heap.size ≤ q) b := Nat.not_le.mpr hbl
  refine lv_aload_n hx hb dL_law_510 rfl (lv_at hl 1 rfl) ?_
  refine lv_aload_n hx hb dL_law_511 rfl (lv_at hl 0 rfl) ?_
  refine lv_iload_n hx hb dL_law_512 rfl (lv_at hl 3 rfl) ?_
  refine lv_iconst (v := 1) hx hb dL_law_513 (by decide) ?_
  refine lv_iadd hx hb dL_law_514 ?_
  refine ld_j (j := 1) hx hb hX hbl hbA hS rfl (by omega) hL dL_law_515 ?_
  refine lv_aload_n hx hb dL_law_516 rfl (lv_at hl 0 rfl) ?_
  refine lv_iload_n hx hb dL_law_517 rfl (lv_at hl 3 rfl) ?_
  refine lv_iconst (v := 2) hx hb dL_law_518 (by decide) ?_
  refine lv_iadd hx hb dL_law_519 ?_
  refine ld_j (j := 2) hx hb hX hbl hbA hS rfl (by omega) hL dL_law_520 ?_
  refine lv_aload_n hx hb dL_law_521 rfl (lv_at hl 0 rfl) ?_
  refine lv_iload_n hx hb dL_law_522 rfl (lv_at hl 3 rfl) ?_
  refine lv_iconst (v := 3) hx hb dL_law_523 (by decide) ?_
  refine lv_iadd hx hb dL_law_524 ?_
  refine ld_j (j := 3) hx hb hX hbl hbA hS rfl (by omega) hL dL_law_525 ?_
  refine lv_aload_n hx hb dL_law_526 rfl (lv_at hl 0 rfl) ?_
  refine lv_iload_n hx hb dL_law_527 rfl (lv_at hl 3 rfl) ?_
  refine lv_iconst (v := 4) hx hb dL_law_528 (by decide) ?_
  refine lv_iadd hx hb dL_law_529 ?_
  refine ld_j (j := 4) hx hb hX hbl hbA hS rfl (by omega) hL dL_law_530 ?_
  refine lv_aload_n hx hb dL_law_531 rfl (lv_at hl 0 rfl) ?_
  refine lv_iload_n hx hb dL_law_532 rfl (lv_at hl 3 rfl) ?_
  refine lv_iconst (v := 5) hx hb dL_law_533 (by decide) ?_
  refine lv_iadd hx hb dL_law_534 ?_
  refine ld_j (j := 5) hx hb hX hbl hbA hS rfl (by omega) hL dL_law_535 ?_
  refine lv_aload_n hx hb dL_law_536 rfl (lv_at hl 0 rfl) ?_
  refine lv_iload_n hx hb dL_law_537 rfl (lv_at hl 3 rfl) ?_
  refine lv_bipush (v := 6) hx hb dL_law_538 (by decide) ?_
  refine lv_iadd hx hb dL_law_540 ?_
  refine ld_j (j := 6) hx hb hX hbl hbA hS rfl (by omega) hL dL_law_541 ?_
  refine cl_l (As := [.int (xs (i + 1)), .int (xs (i + 2)), .int (xs (i + 3)), .int (xs (i + 4)), .int (xs (i + 5)), .int (xs (i + 6))]) (rest := []) ⟨hx, hb, hml, hown, hts⟩ (MX H.size) (cwV 6 hts gL_law_X8_means rfl rfl rfl (by decide +kernel) ⟨Nat.le_of_ble_eq_true rfl, Nat.le_of_ble_eq_true rfl⟩) EB_X hE hK hP hD hS hA 0 hx0 rfl rfl rfl hl.1 rfl (Nat.le_of_ble_eq_true rfl) dL_law_542 ⟨Nat.le_refl _, Nat.le_refl _⟩ (fun H locs hP hD hS => ?_)
  refine lv_aload_n hx hb dL_law_545 rfl (lv_at hl 2 rfl) ?_
  refine lv_aload_n hx hb dL_law_546 rfl (lv_at hl 0 rfl) ?_
  refine lv_iload_n hx hb dL_law_547 rfl (lv_at hl 3 rfl) ?_
  refine lv_iconst (v := 1) hx hb dL_law_548 (by decide) ?_
  refine lv_iadd hx hb dL_law_549 ?_
  refine ld_j (j := 1) hx hb hX hbl hbA hS rfl (by omega) hL dL_law_550 ?_
  refine lv_aload_n hx hb dL_law_551 rfl (lv_at hl 0 rfl) ?_
  refine lv_iload_n hx hb dL_law_552 rfl (lv_at hl 3 rfl) ?_
  refine lv_iconst (v := 2) hx hb dL_law_553 (by decide) ?_
  refine lv_iadd hx hb dL_law_554 ?_
  refine ld_j (j := 2) hx hb hX hbl hbA hS rfl (by omega) hL dL_law_555 ?_
  refine lv_aload_n hx hb dL_law_556 rfl (lv_at hl 0 rfl) ?_
  refine lv_iload_n hx hb dL_law_557 rfl (lv_at hl 3 rfl) ?_
  refine lv_iconst (v := 3) hx hb dL_law_558 (by decide) ?_
  refine lv_iadd hx hb dL_law_559 ?_
  refine ld_j (j := 3) hx hb hX hbl hbA hS rfl (by omega) hL dL_law_560 ?_
  refine lv_aload_n hx hb dL_law_561 rfl (lv_at hl 0 rfl) ?_
  refine lv_iload_n hx hb dL_law_562 rfl (lv_at hl 3 rfl) ?_
  refine lv_iconst (v := 4) hx hb dL_law_563 (by decide) ?_
  refine lv_iadd hx hb dL_law_564 ?_
  refine ld_j (j := 4) hx hb hX hbl hbA hS rfl (by omega) hL dL_law_565 ?_
  refine lv_aload_n hx hb dL_law_566 rfl (lv_at hl 0 rfl) ?_
  refine lv_iload_n hx hb dL_law_567 rfl (lv_at hl 3 rfl) ?_
  refine lv_iconst (v := 5) hx hb dL_law_568 (by decide) ?_
  refine lv_iadd hx hb dL_law_569 ?_
  refine ld_j (j := 5) hx hb hX hbl hbA hS rfl (by omega) hL dL_law_570 ?_
  refine lv_aload_n hx hb dL_law_571 rfl (lv_at hl 0 rfl) ?_
  refine lv_iload_n hx hb dL_law_572 rfl (lv_at hl 3 rfl) ?_
  refine lv_bipush (v := 6) hx hb dL_law_573 (by decide) ?_
  refine lv_iadd hx hb dL_law_575 ?_
  refine ld_j (j := 6) hx hb hX hbl hbA hS rfl (by omega) hL dL_law_576 ?_
  refine cl_r (As := [.int (xs (i + 1)), .int (xs (i + 2)), .int (xs (i + 3)), .int (xs (i + 4)), .int (xs (i + 5)), .int (xs (i + 6))]) (rest := [.int r]) ⟨hx, hb, hml, hown, hts⟩ (MM H.size) (cwV 6 hts gL_law_X9_means rfl rfl rfl (by decide +kernel) ⟨Nat.le_of_ble_eq_true rfl, Nat.le_of_ble_eq_true rfl⟩) EB_0 trivial hK hP hD hS hA 0 hm0 rfl rfl rfl hl.1 rfl (Nat.le_of_ble_eq_true rfl) dL_law_577 ⟨Nat.le_refl _, Nat.le_refl _⟩ (fun H locs hP hD hS => ?_)
  refine lv_icmp_eq (tgt := 1519) hx hb dL_law_580 (by decide) (fun cq => ?_) (fun cq => absurd rfl cq)
  exact kk H locs hP hD hS

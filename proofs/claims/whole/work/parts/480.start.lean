/-! THE LAW, from its entry -/
set_option maxHeartbeats 4000000 in
set_option maxRecDepth 100000 in
theorem inv_0 (cB cI cJ cZ : ClassId) (aX aM : Nat → Nat) : INV cB cI cJ cZ (aX 0) (aM 0) (wfX8 cB cI cJ cZ aX) (wfX9 cB cI cJ cZ aM) := by
  have hT : RT 0 (fun _ => 0) 0 (fun _ => 0) 0 := ⟨by decide, rfl, rfl, fun i _ => ⟨0, by decide, rfl, rfl⟩⟩
  have hL : Rld 0 0 (fun _ => 0) (fun _ => 0) (fun _ => 0) (fun _ => 0) (fun _ => 0) (fun _ => 0) (fun _ => 0) (fun _ => 0) (fun _ => 0) (fun _ => 0) 0 0 := ⟨by decide, by decide, rfl, rfl, (fun i h => absurd h (Nat.not_lt_zero i)), (fun i h => absurd h (Nat.not_lt_zero i))⟩
  have hS : RS (fun _ => 0) (fl 4 (-1)) (fun _ => 0) (fl 4 (-4)) (fun _ => 0) (fun _ => 0) := fun k hk => Or.inl ⟨if_pos hk, if_pos hk⟩
  have hX : okX 0 0 0 (fun _ => 0) (mLf (fun _ => 0) (fun _ _ => 0)) (fun _ => 0) (fun _ => 0) (fun _ => 0) (fun _ => 0) (fun _ => 0) (fun _ => 0) 0 0 0 := ⟨by decide, by decide, by decide, rfl, rfl, rfl, (fun i h => absurd h (Nat.not_lt_zero i)), (fun i h => absurd h (Nat.not_lt_zero i))⟩
  have hM : okMT 0 0 0 (fun _ => 0) (fun _ _ => 0) (fun _ => 0) (fl 26 (-1)) 0 (fun _ => 0) (fun _ => 0) 0 (fun _ => 0) := ⟨⟨by decide, (fun i h => absurd h (Nat.not_lt_zero i))⟩, by decide, rfl, rfl, (fun i h => absurd h (Nat.not_lt_zero i)), fb_ct_zero.mpr (fun k hk => decide_eq_false (fun h => h (if_pos hk)))⟩
  have hB : RB 0 0 0 0 (fun _ => 0) (fun _ => 0) (fun _ => 0) (fun _ => 0) (fun _ => 0) (fun _ => 0) (fun _ => 0) (fun _ => 0) (fun _ => 0) (fun _ => 0) (fun _ => 0) (fun _ => 0) (fun _ => 0) 0 0 (fun _ => 0) (fun _ => 0) (fun _ => 0) (fun _ => 0) (fun _ => 0) (fun _ => 0) (fun _ => 0) := ⟨by decide, rfl, rfl, (fun i h => absurd h (Nat.not_lt_zero i)), (fun i h => absurd h (Nat.not_lt_zero i)), (fun i h => absurd h (Nat.not_lt_zero i)), fun _ _ _ => rfl⟩
  have hN : RN 0 0 (fun _ _ => 0) (fun _ => 0) (fun _ => 0) 0 0 := ⟨by decide, rfl, rfl, (fun i h => absurd h (Nat.not_lt_zero i)), fun _ _ _ _ _ => rfl⟩
  exact INV_mk cB cI cJ cZ aX aM 0 (fun _ => 0) 0 0 0 0 0 0 0 (fl 26 (-1)) (fun _ => 0) (fun _ => 0) (fun _ => 0) (fun _ => 0) (fun _ => 0) (fun _ => 0) 0 0 0 (fun _ => 0) (fl 4 (-1)) (fun _ => 0) (fun _ => 0) (fun _ => 0) (fun _ => 0) (fun _ => 0) (fun _ => 0) (fun _ => 0) (fun _ => 0) (fun _ => 0) 0 0 0 0 (fun _ => 0) (fun _ => 0) (fun _ => 0) (fun _ => 0) (fun _ => 0) (fun _ => 0) (fun _ => 0) 0 (fun _ => 0) 0 (fl 26 (-1)) (fun _ => 0) (fun _ => 0) (fun _ => 0) (fun _ => 0) (fun _ => 0) (fun _ => 0) 0 0 0 (fl 26 (-1)) 0 (fun _ => 0) (fun _ => 0) 0 (fun _ => 0) (fun _ => 0) 0 (fun _ => 0) (fun _ => 0) 0 (fun _ => 0) (fun _ => 0) 0 0 0 0 0 0 0 0 (fun _ => 0) 0 (fun _ => 0) 0 (fun _ => 0) (fun _ => 0) (fun _ => 0) 0 (fun _ => 0) (fun _ => 0) (fl 4 (-4)) (fun _ => 0) (fun _ => 0) (fun _ => 0) 0 (fun _ => 0) (fun _ => 0) (fun _ => 0) (fun _ => 0) (fun _ => 0) (fun _ => 0) (fun _ => 0) 0 (fun _ => 0) (fun _ => 0) 0 0 0 0 0 0 0 0 (fun _ => 0) (fun _ => 0) (fun _ => 0) (fun _ => 0) (fun _ => 0) (fun _ => 0) (fun _ => 0) (fun _ => 0) (fun _ => 0) (fun _ => 0) (fun _ => 0) (fun _ => 0) (fun _ => 0) (fun _ _ => 0) (fun _ _ => 0) hT hL hL hS hX hM hB hN rfl
set_option maxHeartbeats 4000000 in
set_option maxRecDepth 100000 in
theorem whole_start {p : Program} {e : Env} {s : State} {m : MethodId} {below : List Frame} {meth : Method} {c : Code} (l : Launch) {b L : Nat} {xs : Nat → Int32} (hL : L ≤ 3584) (C0 : lw_At p s m meth c b L xs) : W p l e room_1 s m #[Value.ref b] below meth c s.heap [] 0 0 (lw_Z below #[Value.ref b] s) (entryFrame m ([Value.ref b] : List Value).toArray 4) := by
  obtain ⟨hx, hb, hr, hml, hown, hts, hX, hbl, hlocks, hgv⟩ := id C0
  have hA : ∀ q : Nat, s.heap.size ≤ q → (fun q : Nat => s.heap.size ≤ q) q := fun _ h => h
  have hbA : ¬ (fun q : Nat => s.heap.size ≤ q) b := Nat.not_le.mpr hbl
  obtain ⟨dC, dI, cB, cI, cJ, cZ, hK⟩ := known_K hts
  obtain ⟨adK, adV, hE⟩ := env_X hts hgv
  have C1 : LC p s m meth c b L xs dC dI cB cI cJ cZ adK adV := ⟨hx, hb, hr, hml, hown, hts, hX, hbl, hlocks, hK, hE⟩
  have hS : va_S (fun q : Nat => s.heap.size ≤ q) s.heap s.heap [] := va_S.rf
  have hP : va_P (dC, dI) vwCl [] s.heap := fun k q h => by simp at h
  have hD : va_D (fun q : Nat => s.heap.size ≤ q) [] := ⟨fun i j p q h => by simp at h, fun k q h => by simp at h⟩
  have hl := lv_entry ([.ref b]) (n := 4) (Nat.le_of_ble_eq_true rfl)
  rw [lg_entry_eq]
  generalize (lg_sl ([.ref b]) ++ List.replicate (4 - (lg_sl ([.ref b])).length) Slot.unset).toArray = ls at hl ⊢
  have hl : lv_has ls 4 [(0, .ref b)] := hl
  refine va_new (ci := 7) (fs := [.null, .null, .null, .null, .null, .null, .null, .int 0]) (C := RX8) (T := TX8) (N := 8) hx hb hts inX8 tyX8 tyX8_ok hown (hts (.classLink RL 7 RX8) (List.mem_of_getElem? (i := 65) (by decide +kernel))) (hts (.instantiable RX8 8) (List.mem_of_getElem? (i := 66) (by decide +kernel))) (hts (.initialized RX8) (List.mem_of_getElem? (i := 48) (by decide +kernel))) hK hP hD hS hA rfl (fun j hj => by rcases (show j = 0 ∨ j = 1 ∨ j = 2 ∨ j = 3 ∨ j = 4 ∨ j = 5 ∨ j = 6 ∨ j = 7 by omega) with rfl | rfl | rfl | rfl | rfl | rfl | rfl | rfl <;> rfl) (show 0 + 1 ≤ 73 from by decide) (show 0 + 8 ≤ 3097 from by decide) dL_law_0 (fun q0 H hP hD hS => ?_)
  have hP : va_P (dC, dI) vwCl ([] ++ [(q0, .inr (7, [.null, .null, .null, .null, .null, .null, .null, .int 0]))]) H := hP
  have hD : va_D (fun q : Nat => s.heap.size ≤ q) ([] ++ [(q0, .inr (7, [.null, .null, .null, .null, .null, .null, .null, .int 0]))]) := hD
  refine W.widen (k := 1) (n := 8) (Nat.le_refl _) (Nat.le_refl _) ?_
  refine lv_dup hx hb dL_law_3 rfl ?_
  refine ci_v (u := []) (As := []) (rest := [.ref q0]) ⟨hx, hb, hml, hown, hts⟩ (kX8_init l 1000 (Nat.le_refl _) dC dI cB cI cJ cZ q0 H.size) (cwI 0 hts gL_law_X8_init rfl rfl rfl (hts (.initialized RX8) (List.mem_of_getElem? (i := 48) (by decide +kernel))) (hts (.methodLink RL 9 yX8_init) (List.mem_of_getElem? (i := 67) (by decide +kernel))) (hts (.instanceMethod yX8_init) (List.mem_of_getElem? (i := 68) (by decide +kernel))) rfl (by decide +kernel) ⟨Nat.le_of_ble_eq_true rfl, Nat.le_of_ble_eq_true rfl⟩) hK hP hD hS hA rfl hl.1 rfl (Nat.le_of_ble_eq_true rfl) dL_law_4 ⟨show 1 + 42 ≤ 73 from by decide, show 8 + 1685 ≤ 3097 from by decide⟩ (fun tX H locs ht hPn hDn hSn => ?_)
  subst ht
  have hP : va_P (dC, dI) vwCl (wfX8 cB cI cJ cZ tX) H := hPn
  have hD : va_D (fun q : Nat => s.heap.size ≤ q) (wfX8 cB cI cJ cZ tX) := hDn
  have hS := hSn
  clear hPn hDn hSn
  refine W.widen (k := 43) (n := 1693) (Nat.le_refl _) (Nat.le_refl _) ?_
  refine lv_astore_n (lv' := [(1, .ref (tX 0)), (0, .ref b)]) hx hb dL_law_7 rfl hl (by decide) rfl (fun ls hl => ?_)
  refine va_new (ci := 8) (fs := [.null, .int 0, .null, .null, .int 0, .null, .null, .int 0, .null, .null, .int 0, .null, .null, .int 0, .int 0, .int 0, .int 0, .int 0, .int 0, .int 0, .int 0, .null, .int 0, .null, .int 0, .null, .null, .null, .int 0, .null, .null, .null, .null, .null, .null, .int 0, .null, .null, .null, .null, .null, .null, .null, .int 0, .null, .null]) (C := RX9) (T := TX9) (N := 46) hx hb hts inX9 tyX9 tyX9_ok hown (hts (.classLink RL 10 RX9) (List.mem_of_getElem? (i := 929) (by decide +kernel))) (hts (.instantiable RX9 46) (List.mem_of_getElem? (i := 930) (by decide +kernel))) (hts (.initialized RX9) (List.mem_of_getElem? (i := 57) (by decide +kernel))) hK hP hD hS hA rfl (fun j hj => by rcases (show j = 0 ∨ j = 1 ∨ j = 2 ∨ j = 3 ∨ j = 4 ∨ j = 5 ∨ j = 6 ∨ j = 7 ∨ j = 8 ∨ j = 9 ∨ j = 10 ∨ j = 11 ∨ j = 12 ∨ j = 13 ∨ j = 14 ∨ j = 15 ∨ j = 16 ∨ j = 17 ∨ j = 18 ∨ j = 19 ∨ j = 20 ∨ j = 21 ∨ j = 22 ∨ j = 23 ∨ j = 24 ∨ j = 25 ∨ j = 26 ∨ j = 27 ∨ j = 28 ∨ j = 29 ∨ j = 30 ∨ j = 31 ∨ j = 32 ∨ j = 33 ∨ j = 34 ∨ j = 35 ∨ j = 36 ∨ j = 37 ∨ j = 38 ∨ j = 39 ∨ j = 40 ∨ j = 41 ∨ j = 42 ∨ j = 43 ∨ j = 44 ∨ j = 45 by omega) with rfl | rfl | rfl | rfl | rfl | rfl | rfl | rfl | rfl | rfl | rfl | rfl | rfl | rfl | rfl | rfl | rfl | rfl | rfl | rfl | rfl | rfl | rfl | rfl | rfl | rfl | rfl | rfl | rfl | rfl | rfl | rfl | rfl | rfl | rfl | rfl | rfl | rfl | rfl | rfl | rfl | rfl | rfl | rfl | rfl | rfl <;> rfl) (show 43 + 1 ≤ 73 from by decide) (show 1693 + 46 ≤ 3097 from by decide) dL_law_8 (fun q1 H hP hD hS => ?_)
  refine W.widen (k := 44) (n := 1739) (Nat.le_refl _) (Nat.le_refl _) ?_
  refine lv_dup hx hb dL_law_11 rfl ?_
  refine ci_v (u := wfX8 cB cI cJ cZ tX) (As := []) (rest := [.ref q1]) ⟨hx, hb, hml, hown, hts⟩ (kX9_init l 1000 (Nat.le_refl _) dC dI cB cI cJ cZ q1 H.size) (cwI 0 hts gL_law_X9_init rfl rfl rfl (hts (.initialized RX9) (List.mem_of_getElem? (i := 57) (by decide +kernel))) (hts (.methodLink RL 12 yX9_init) (List.mem_of_getElem? (i := 931) (by decide +kernel))) (hts (.instanceMethod yX9_init) (List.mem_of_getElem? (i := 932) (by decide +kernel))) rfl (by decide +kernel) ⟨Nat.le_of_ble_eq_true rfl, Nat.le_of_ble_eq_true rfl⟩) hK hP hD hS hA rfl hl.1 rfl (Nat.le_of_ble_eq_true rfl) dL_law_12 ⟨show 44 + 29 ≤ 73 from by decide, show 1739 + 1358 ≤ 3097 from by decide⟩ (fun tM H locs ht hPn hDn hSn => ?_)
  subst ht
  have hP : va_P (dC, dI) vwCl (wfX8 cB cI cJ cZ tX ++ wfX9 cB cI cJ cZ tM) H := hPn
  have hD : va_D (fun q : Nat => s.heap.size ≤ q) (wfX8 cB cI cJ cZ tX ++ wfX9 cB cI cJ cZ tM) := hDn
  have hS := hSn
  clear hPn hDn hSn
  refine W.widen (k := 73) (n := 3097) (Nat.le_refl _) (Nat.le_refl _) ?_
  refine lv_astore_n (lv' := [(2, .ref (tM 0)), (1, .ref (tX 0)), (0, .ref b)]) hx hb dL_law_15 rfl hl (by decide) rfl (fun ls hl => ?_)
  refine lv_iconst (v := 0) hx hb dL_law_16 (by decide) ?_
  refine lv_istore_n (lv' := [(3, .int (nI 0)), (2, .ref (tM 0)), (1, .ref (tX 0)), (0, .ref b)]) hx hb dL_law_17 rfl hl (by decide) rfl (fun ls hl => ?_)
  exact law_loop hL C1 (L + 1) 0 _ _ _ _ ls (Nat.zero_le _) (by omega) (inv_0 cB cI cJ cZ tX tM) hP hD hS (lv_sub hl [3, 2, 1, 0] rfl)

set_option maxHeartbeats 4000000 in
set_option maxRecDepth 100000 in
theorem law_callOf {p : Program} {l : Launch} {e : Env} {s : State} {m : MethodId} {below : List Frame} {meth : Method} {c : Code} {b L : Nat} {xs : Nat → Int32} {dC : Nat → ClassId} {dI : Nat → Nat → Nat} {cB cI cJ cZ : ClassId} {adK adV : Nat → Nat} (hL : L ≤ 3584) (C0 : LC p s m meth c b L xs dC dI cB cI cJ cZ adK adV) {i : Nat} (hi : i + 7 ≤ L) {x0 m0 : Nat} {wx wm wm1 : va_W} {wx1 : va_W} {r : Int32} {fx fm : List Value} (hx0 : wx[0]? = some (x0, .inr (7, fx))) (hm0 : wm[0]? = some (m0, .inr (8, fm))) (MX : ∀ sz, Met l yX8_callOf wsX8_callOf ({ frames := 5, cells := 0, slots := 0, locals := 121 }) (gP (dC, dI) (tyz cB cI cJ cZ) (E_X adK adV) wx sz [.ref x0, .int (xs (i + 1)), .int (xs (i + 2))]) (gI (dC, dI) (tyz cB cI cJ cZ) wx1 (va_A wx sz) r) 0 0 (va_A wx sz)) (MM : ∀ sz, Met l yX9_callOf wsX9_callOf ({ frames := 5, cells := 0, slots := 0, locals := 119 }) (gP (dC, dI) (tyz cB cI cJ cZ) E_0 wm sz [.ref m0, .int (xs (i + 1)), .int (xs (i + 2))]) (gI (dC, dI) (tyz cB cI cJ cZ) wm1 (va_A wm sz) r) 0 0 (va_A wm sz)) {H : Heap} {locs : List Loc} {ls : Array Slot} (hP : va_P (dC, dI) vwCl (wx ++ wm) H) (hD : va_D (fun q : Nat => s.heap.size ≤ q) (wx ++ wm)) (hS : va_S (fun q : Nat => s.heap.size ≤ q) s.heap H locs) (hl : lv_has ls 4 [(0, .ref b), (1, .ref x0), (2, .ref m0), (3, .int (nI i))]) (kk : ∀ (H1 : Heap) (locs1 : List Loc), va_P (dC, dI) vwCl (wx1 ++ wm1) H1 → va_D (fun q : Nat => s.heap.size ≤ q) (wx1 ++ wm1) → va_S (fun q : Nat => s.heap.size ≤ q) s.heap H1 locs1 → W p l e room_1 s m #[Value.ref b] below meth c H1 locs1 73 3097 (lw_Z below #[Value.ref b] s) (F0 m 1519 ls [])) : W p l e room_1 s m #[Value.ref b] below meth c H locs 73 3097 (lw_Z below #[Value.ref b] s) (F0 m 1080 ls []) := by
  obtain ⟨hx, hb, hr, hml, hown, hts, hX, hbl, hlocks, hK, hE⟩ := id C0
  have hA : ∀ q : Nat, s.heap.size ≤ q → (fun q : Nat => s.heap.size ≤ q) q := fun _ h => h
  have hbA : ¬ (fun q : Nat => s.heap.size ≤ q) b := Nat.not_le.mpr hbl
  refine lv_aload_n hx hb dL_law_1080 rfl (lv_at hl 1 rfl) ?_
  refine lv_aload_n hx hb dL_law_1081 rfl (lv_at hl 0 rfl) ?_
  refine lv_iload_n hx hb dL_law_1082 rfl (lv_at hl 3 rfl) ?_
  refine lv_iconst (v := 1) hx hb dL_law_1083 (by decide) ?_
  refine lv_iadd hx hb dL_law_1084 ?_
  refine ld_j (j := 1) hx hb hX hbl hbA hS rfl (by omega) hL dL_law_1085 ?_
  refine lv_aload_n hx hb dL_law_1086 rfl (lv_at hl 0 rfl) ?_
  refine lv_iload_n hx hb dL_law_1087 rfl (lv_at hl 3 rfl) ?_
  refine lv_iconst (v := 2) hx hb dL_law_1088 (by decide) ?_
  refine lv_iadd hx hb dL_law_1089 ?_
  refine ld_j (j := 2) hx hb hX hbl hbA hS rfl (by omega) hL dL_law_1090 ?_
  refine cl_l (As := [.int (xs (i + 1)), .int (xs (i + 2))]) (rest := []) ⟨hx, hb, hml, hown, hts⟩ (MX H.size) (cwV 2 hts gL_law_X8_callOf rfl rfl rfl (by decide +kernel) ⟨Nat.le_of_ble_eq_true rfl, Nat.le_of_ble_eq_true rfl⟩) EB_X hE hK hP hD hS hA 0 hx0 rfl rfl rfl hl.1 rfl (Nat.le_of_ble_eq_true rfl) dL_law_1091 ⟨Nat.le_refl _, Nat.le_refl _⟩ (fun H locs hP hD hS => ?_)
  refine lv_aload_n hx hb dL_law_1094 rfl (lv_at hl 2 rfl) ?_
  refine lv_aload_n hx hb dL_law_1095 rfl (lv_at hl 0 rfl) ?_
  refine lv_iload_n hx hb dL_law_1096 rfl (lv_at hl 3 rfl) ?_
  refine lv_iconst (v := 1) hx hb dL_law_1097 (by decide) ?_
  refine lv_iadd hx hb dL_law_1098 ?_
  refine ld_j (j := 1) hx hb hX hbl hbA hS rfl (by omega) hL dL_law_1099 ?_
  refine lv_aload_n hx hb dL_law_1100 rfl (lv_at hl 0 rfl) ?_
  refine lv_iload_n hx hb dL_law_1101 rfl (lv_at hl 3 rfl) ?_
  refine lv_iconst (v := 2) hx hb dL_law_1102 (by decide) ?_
  refine lv_iadd hx hb dL_law_1103 ?_
  refine ld_j (j := 2) hx hb hX hbl hbA hS rfl (by omega) hL dL_law_1104 ?_
  refine cl_r (As := [.int (xs (i + 1)), .int (xs (i + 2))]) (rest := [.int r]) ⟨hx, hb, hml, hown, hts⟩ (MM H.size) (cwV 2 hts gL_law_X9_callOf rfl rfl rfl (by decide +kernel) ⟨Nat.le_of_ble_eq_true rfl, Nat.le_of_ble_eq_true rfl⟩) EB_0 trivial hK hP hD hS hA 0 hm0 rfl rfl rfl hl.1 rfl (Nat.le_of_ble_eq_true rfl) dL_law_1105 ⟨Nat.le_refl _, Nat.le_refl _⟩ (fun H locs hP hD hS => ?_)
  refine lv_icmp_eq (tgt := 1519) hx hb dL_law_1108 (by decide) (fun cq => ?_) (fun cq => absurd rfl cq)
  exact kk H locs hP hD hS
set_option maxHeartbeats 4000000 in
set_option maxRecDepth 100000 in
theorem law_lie {p : Program} {l : Launch} {e : Env} {s : State} {m : MethodId} {below : List Frame} {meth : Method} {c : Code} {b L : Nat} {xs : Nat → Int32} {dC : Nat → ClassId} {dI : Nat → Nat → Nat} {cB cI cJ cZ : ClassId} {adK adV : Nat → Nat} (hL : L ≤ 3584) (C0 : LC p s m meth c b L xs dC dI cB cI cJ cZ adK adV) {i : Nat} (hi : i + 7 ≤ L) {x0 m0 : Nat} {wx wm wm1 : va_W} {wx1 : va_W} {r : Int32} {fx fm : List Value} (hx0 : wx[0]? = some (x0, .inr (7, fx))) (hm0 : wm[0]? = some (m0, .inr (8, fm))) {z2 : Int32} (hz2 : z2 = if xs (i + 2) = 0 then 0 else 1) (MX : ∀ sz, Met l yX8_lie wsX8_lie ({ frames := 1, cells := 0, slots := 0, locals := 21 }) (gP (dC, dI) (tyz cB cI cJ cZ) (E_X adK adV) wx sz [.ref x0, .int (xs (i + 1)), .int z2]) (gI (dC, dI) (tyz cB cI cJ cZ) wx1 (va_A wx sz) r) 0 0 (va_A wx sz)) (MM : ∀ sz, Met l yX9_lie wsX9_lie ({ frames := 2, cells := 0, slots := 0, locals := 46 }) (gP (dC, dI) (tyz cB cI cJ cZ) E_0 wm sz [.ref m0, .int (xs (i + 1)), .int z2]) (gI (dC, dI) (tyz cB cI cJ cZ) wm1 (va_A wm sz) r) 0 0 (va_A wm sz)) {H : Heap} {locs : List Loc} {ls : Array Slot} (hP : va_P (dC, dI) vwCl (wx ++ wm) H) (hD : va_D (fun q : Nat => s.heap.size ≤ q) (wx ++ wm)) (hS : va_S (fun q : Nat => s.heap.size ≤ q) s.heap H locs) (hl : lv_has ls 4 [(0, .ref b), (1, .ref x0), (2, .ref m0), (3, .int (nI i))]) (kk : ∀ (H1 : Heap) (locs1 : List Loc), va_P (dC, dI) vwCl (wx1 ++ wm1) H1 → va_D (fun q : Nat => s.heap.size ≤ q) (wx1 ++ wm1) → va_S (fun q : Nat => s.heap.size ≤ q) s.heap H1 locs1 → W p l e room_1 s m #[Value.ref b] below meth c H1 locs1 73 3097 (lw_Z below #[Value.ref b] s) (F0 m 1519 ls [])) : W p l e room_1 s m #[Value.ref b] below meth c H locs 73 3097 (lw_Z below #[Value.ref b] s) (F0 m 1113 ls []) := by
  obtain ⟨hx, hb, hr, hml, hown, hts, hX, hbl, hlocks, hK, hE⟩ := id C0
  have hA : ∀ q : Nat, s.heap.size ≤ q → (fun q : Nat => s.heap.size ≤ q) q := fun _ h => h
  have hbA : ¬ (fun q : Nat => s.heap.size ≤ q) b := Nat.not_le.mpr hbl
  by_cases cz : xs (i + 2) = 0
  · rw [if_pos cz] at hz2
    subst hz2
    refine lv_aload_n hx hb dL_law_1113 rfl (lv_at hl 1 rfl) ?_
    refine lv_aload_n hx hb dL_law_1114 rfl (lv_at hl 0 rfl) ?_
    refine lv_iload_n hx hb dL_law_1115 rfl (lv_at hl 3 rfl) ?_
    refine lv_iconst (v := 1) hx hb dL_law_1116 (by decide) ?_
    refine lv_iadd hx hb dL_law_1117 ?_
    refine ld_j (j := 1) hx hb hX hbl hbA hS rfl (by omega) hL dL_law_1118 ?_
    refine lv_aload_n hx hb dL_law_1119 rfl (lv_at hl 0 rfl) ?_
    refine lv_iload_n hx hb dL_law_1120 rfl (lv_at hl 3 rfl) ?_
    refine lv_iconst (v := 2) hx hb dL_law_1121 (by decide) ?_
    refine lv_iadd hx hb dL_law_1122 ?_
    refine ld_j (j := 2) hx hb hX hbl hbA hS rfl (by omega) hL dL_law_1123 ?_
    refine lv_if_eq (tgt := 1131) hx hb dL_law_1124 (by decide) (fun cq => ?_) (fun cq => ?_)
    · refine lv_iconst (v := 0) hx hb dL_law_1131 (by decide) ?_
      refine cl_l (As := [.int (xs (i + 1)), .int 0]) (rest := []) ⟨hx, hb, hml, hown, hts⟩ (MX H.size) (cwV 2 hts gL_law_X8_lie rfl rfl rfl (by decide +kernel) ⟨Nat.le_of_ble_eq_true rfl, Nat.le_of_ble_eq_true rfl⟩) EB_X hE hK hP hD hS hA 0 hx0 rfl rfl rfl hl.1 rfl (Nat.le_of_ble_eq_true rfl) dL_law_1132 ⟨Nat.le_refl _, Nat.le_refl _⟩ (fun H locs hP hD hS => ?_)
      refine lv_aload_n hx hb dL_law_1135 rfl (lv_at hl 2 rfl) ?_
      refine lv_aload_n hx hb dL_law_1136 rfl (lv_at hl 0 rfl) ?_
      refine lv_iload_n hx hb dL_law_1137 rfl (lv_at hl 3 rfl) ?_
      refine lv_iconst (v := 1) hx hb dL_law_1138 (by decide) ?_
      refine lv_iadd hx hb dL_law_1139 ?_
      refine ld_j (j := 1) hx hb hX hbl hbA hS rfl (by omega) hL dL_law_1140 ?_
      refine lv_aload_n hx hb dL_law_1141 rfl (lv_at hl 0 rfl) ?_
      refine lv_iload_n hx hb dL_law_1142 rfl (lv_at hl 3 rfl) ?_
      refine lv_iconst (v := 2) hx hb dL_law_1143 (by decide) ?_
      refine lv_iadd hx hb dL_law_1144 ?_
      refine ld_j (j := 2) hx hb hX hbl hbA hS rfl (by omega) hL dL_law_1145 ?_
      refine lv_if_eq (tgt := 1153) hx hb dL_law_1146 (by decide) (fun cq => ?_) (fun cq => ?_)
      · refine lv_iconst (v := 0) hx hb dL_law_1153 (by decide) ?_
        refine cl_r (As := [.int (xs (i + 1)), .int 0]) (rest := [.int r]) ⟨hx, hb, hml, hown, hts⟩ (MM H.size) (cwV 2 hts gL_law_X9_lie rfl rfl rfl (by decide +kernel) ⟨Nat.le_of_ble_eq_true rfl, Nat.le_of_ble_eq_true rfl⟩) EB_0 trivial hK hP hD hS hA 0 hm0 rfl rfl rfl hl.1 rfl (Nat.le_of_ble_eq_true rfl) dL_law_1154 ⟨Nat.le_refl _, Nat.le_refl _⟩ (fun H locs hP hD hS => ?_)
        refine lv_icmp_eq (tgt := 1519) hx hb dL_law_1157 (by decide) (fun cq => ?_) (fun cq => absurd rfl cq)
        exact kk H locs hP hD hS
      · exact absurd cz cq
    · exact absurd cz cq
  · rw [if_neg cz] at hz2
    subst hz2
    refine lv_aload_n hx hb dL_law_1113 rfl (lv_at hl 1 rfl) ?_
    refine lv_aload_n hx hb dL_law_1114 rfl (lv_at hl 0 rfl) ?_
    refine lv_iload_n hx hb dL_law_1115 rfl (lv_at hl 3 rfl) ?_
    refine lv_iconst (v := 1) hx hb dL_law_1116 (by decide) ?_
    refine lv_iadd hx hb dL_law_1117 ?_
    refine ld_j (j := 1) hx hb hX hbl hbA hS rfl (by omega) hL dL_law_1118 ?_
    refine lv_aload_n hx hb dL_law_1119 rfl (lv_at hl 0 rfl) ?_
    refine lv_iload_n hx hb dL_law_1120 rfl (lv_at hl 3 rfl) ?_
    refine lv_iconst (v := 2) hx hb dL_law_1121 (by decide) ?_
    refine lv_iadd hx hb dL_law_1122 ?_
    refine ld_j (j := 2) hx hb hX hbl hbA hS rfl (by omega) hL dL_law_1123 ?_
    refine lv_if_eq (tgt := 1131) hx hb dL_law_1124 (by decide) (fun cq => ?_) (fun cq => ?_)
    · exact absurd cq cz
    · refine lv_iconst (v := 1) hx hb dL_law_1127 (by decide) ?_
      refine lv_goto (tgt := 1132) hx hb dL_law_1128 (by decide) ?_
      refine cl_l (As := [.int (xs (i + 1)), .int 1]) (rest := []) ⟨hx, hb, hml, hown, hts⟩ (MX H.size) (cwV 2 hts gL_law_X8_lie rfl rfl rfl (by decide +kernel) ⟨Nat.le_of_ble_eq_true rfl, Nat.le_of_ble_eq_true rfl⟩) EB_X hE hK hP hD hS hA 0 hx0 rfl rfl rfl hl.1 rfl (Nat.le_of_ble_eq_true rfl) dL_law_1132 ⟨Nat.le_refl _, Nat.le_refl _⟩ (fun H locs hP hD hS => ?_)
      refine lv_aload_n hx hb dL_law_1135 rfl (lv_at hl 2 rfl) ?_
      refine lv_aload_n hx hb dL_law_1136 rfl (lv_at hl 0 rfl) ?_
      refine lv_iload_n hx hb dL_law_1137 rfl (lv_at hl 3 rfl) ?_
      refine lv_iconst (v := 1) hx hb dL_law_1138 (by decide) ?_
      refine lv_iadd hx hb dL_law_1139 ?_
      refine ld_j (j := 1) hx hb hX hbl hbA hS rfl (by omega) hL dL_law_1140 ?_
      refine lv_aload_n hx hb dL_law_1141 rfl (lv_at hl 0 rfl) ?_
      refine lv_iload_n hx hb dL_law_1142 rfl (lv_at hl 3 rfl) ?_
      refine lv_iconst (v := 2) hx hb dL_law_1143 (by decide) ?_
      refine lv_iadd hx hb dL_law_1144 ?_
      refine ld_j (j := 2) hx hb hX hbl hbA hS rfl (by omega) hL dL_law_1145 ?_
      refine lv_if_eq (tgt := 1153) hx hb dL_law_1146 (by decide) (fun cq => ?_) (fun cq => ?_)
      · exact absurd cq cz
      · refine lv_iconst (v := 1) hx hb dL_law_1149 (by decide) ?_
        refine lv_goto (tgt := 1154) hx hb dL_law_1150 (by decide) ?_
        refine cl_r (As := [.int (xs (i + 1)), .int 1]) (rest := [.int r]) ⟨hx, hb, hml, hown, hts⟩ (MM H.size) (cwV 2 hts gL_law_X9_lie rfl rfl rfl (by decide +kernel) ⟨Nat.le_of_ble_eq_true rfl, Nat.le_of_ble_eq_true rfl⟩) EB_0 trivial hK hP hD hS hA 0 hm0 rfl rfl rfl hl.1 rfl (Nat.le_of_ble_eq_true rfl) dL_law_1154 ⟨Nat.le_refl _, Nat.le_refl _⟩ (fun H locs hP hD hS => ?_)
        refine lv_icmp_eq (tgt := 1519) hx hb dL_law_1157 (by decide) (fun cq => ?_) (fun cq => absurd rfl cq)
        exact kk H locs hP hD hS
set_option maxHeartbeats 4000000 in
set_option maxRecDepth 100000 in
theorem law_has {p : Program} {l : Launch} {e : Env} {s : State} {m : MethodId} {below : List Frame} {meth : Method} {c : Code} {b L : Nat} {xs : Nat → Int32} {dC : Nat → ClassId} {dI : Nat → Nat → Nat} {cB cI cJ cZ : ClassId} {adK adV : Nat → Nat} (hL : L ≤ 3584) (C0 : LC p s m meth c b L xs dC dI cB cI cJ cZ adK adV) {i : Nat} (hi : i + 7 ≤ L) {x0 m0 : Nat} {wx wm wm1 : va_W} {wx1 : va_W} {r : Int32} {fx fm : List Value} (hx0 : wx[0]? = some (x0, .inr (7, fx))) (hm0 : wm[0]? = some (m0, .inr (8, fm))) (MX : ∀ sz, Met l yX8_has wsX8_has ({ frames := 5, cells := 0, slots := 0, locals := 123 }) (gP (dC, dI) (tyz cB cI cJ cZ) (E_X adK adV) wx sz [.ref x0, .int (xs (i + 1)), .int (xs (i + 2)), .int (xs (i + 3)), .int (xs (i + 4))]) (gI (dC, dI) (tyz cB cI cJ cZ) wx1 (va_A wx sz) r) 0 0 (va_A wx sz)) (MM : ∀ sz, Met l yX9_has wsX9_has ({ frames := 6, cells := 0, slots := 0, locals := 145 }) (gP (dC, dI) (tyz cB cI cJ cZ) E_0 wm sz [.ref m0, .int (xs (i + 1)), .int (xs (i + 2)), .int (xs (i + 3)), .int (xs (i + 4))]) (gI (dC, dI) (tyz cB cI cJ cZ) wm1 (va_A wm sz) r) 0 0 (va_A wm sz)) {H : Heap} {locs : List Loc} {ls : Array Slot} (hP : va_P (dC, dI) vwCl (wx ++ wm) H) (hD : va_D (fun q : Nat => s.heap.size ≤ q) (wx ++ wm)) (hS : va_S (fun q : Nat => s.heap.size ≤ q) s.heap H locs) (hl : lv_has ls 4 [(0, .ref b), (1, .ref x0), (2, .ref m0), (3, .int (nI i))]) (kk : ∀ (H1 : Heap) (locs1 : List Loc), va_P (dC, dI) vwCl (wx1 ++ wm1) H1 → va_D (fun q : Nat => s.heap.size ≤ q) (wx1 ++ wm1) → va_S (fun q : Nat => s.heap.size ≤ q) s.heap H1 locs1 → W p l e room_1 s m #[Value.ref b] below meth c H1 locs1 73 3097 (lw_Z below #[Value.ref b] s) (F0 m 1519 ls [])) : W p l e room_1 s m #[Value.ref b] below meth c H locs 73 3097 (lw_Z below #[Value.ref b] s) (F0 m 1162 ls []) := by
  obtain ⟨hx, hb, hr, hml, hown, hts, hX, hbl, hlocks, hK, hE⟩ := id C0
  have hA : ∀ q : Nat, s.heap.size ≤ q → (fun q : Nat => s.heap.size ≤ q) q := fun _ h => h
  have hbA : ¬ (fun q : Nat => s.heap.size ≤ q) b := Nat.not_le.mpr hbl
  refine lv_aload_n hx hb dL_law_1162 rfl (lv_at hl 1 rfl) ?_
  refine lv_aload_n hx hb dL_law_1163 rfl (lv_at hl 0 rfl) ?_
  refine lv_iload_n hx hb dL_law_1164 rfl (lv_at hl 3 rfl) ?_
  refine lv_iconst (v := 1) hx hb dL_law_1165 (by decide) ?_
  refine lv_iadd hx hb dL_law_1166 ?_
  refine ld_j (j := 1) hx hb hX hbl hbA hS rfl (by omega) hL dL_law_1167 ?_
  refine lv_aload_n hx hb dL_law_1168 rfl (lv_at hl 0 rfl) ?_
  refine lv_iload_n hx hb dL_law_1169 rfl (lv_at hl 3 rfl) ?_
  refine lv_iconst (v := 2) hx hb dL_law_1170 (by decide) ?_
  refine lv_iadd hx hb dL_law_1171 ?_
  refine ld_j (j := 2) hx hb hX hbl hbA hS rfl (by omega) hL dL_law_1172 ?_
  refine lv_aload_n hx hb dL_law_1173 rfl (lv_at hl 0 rfl) ?_
  refine lv_iload_n hx hb dL_law_1174 rfl (lv_at hl 3 rfl) ?_
  refine lv_iconst (v := 3) hx hb dL_law_1175 (by decide) ?_
  refine lv_iadd hx hb dL_law_1176 ?_
  refine ld_j (j := 3) hx hb hX hbl hbA hS rfl (by omega) hL dL_law_1177 ?_
  refine lv_aload_n hx hb dL_law_1178 rfl (lv_at hl 0 rfl) ?_
  refine lv_iload_n hx hb dL_law_1179 rfl (lv_at hl 3 rfl) ?_
  refine lv_iconst (v := 4) hx hb dL_law_1180 (by decide) ?_
  refine lv_iadd hx hb dL_law_1181 ?_
  refine ld_j (j := 4) hx hb hX hbl hbA hS rfl (by omega) hL dL_law_1182 ?_
  refine cl_l (As := [.int (xs (i + 1)), .int (xs (i + 2)), .int (xs (i + 3)), .int (xs (i + 4))]) (rest := []) ⟨hx, hb, hml, hown, hts⟩ (MX H.size) (cwV 4 hts gL_law_X8_has rfl rfl rfl (by decide +kernel) ⟨Nat.le_of_ble_eq_true rfl, Nat.le_of_ble_eq_true rfl⟩) EB_X hE hK hP hD hS hA 0 hx0 rfl rfl rfl hl.1 rfl (Nat.le_of_ble_eq_true rfl) dL_law_1183 ⟨Nat.le_refl _, Nat.le_refl _⟩ (fun H locs hP hD hS => ?_)
  refine lv_aload_n hx hb dL_law_1186 rfl (lv_at hl 2 rfl) ?_
  refine lv_aload_n hx hb dL_law_1187 rfl (lv_at hl 0 rfl) ?_
  refine lv_iload_n hx hb dL_law_1188 rfl (lv_at hl 3 rfl) ?_
  refine lv_iconst (v := 1) hx hb dL_law_1189 (by decide) ?_
  refine lv_iadd hx hb dL_law_1190 ?_
  refine ld_j (j := 1) hx hb hX hbl hbA hS rfl (by omega) hL dL_law_1191 ?_
  refine lv_aload_n hx hb dL_law_1192 rfl (lv_at hl 0 rfl) ?_
  refine lv_iload_n hx hb dL_law_1193 rfl (lv_at hl 3 rfl) ?_
  refine lv_iconst (v := 2) hx hb dL_law_1194 (by decide) ?_
  refine lv_iadd hx hb dL_law_1195 ?_
  refine ld_j (j := 2) hx hb hX hbl hbA hS rfl (by omega) hL dL_law_1196 ?_
  refine lv_aload_n hx hb dL_law_1197 rfl (lv_at hl 0 rfl) ?_
  refine lv_iload_n hx hb dL_law_1198 rfl (lv_at hl 3 rfl) ?_
  refine lv_iconst (v := 3) hx hb dL_law_1199 (by decide) ?_
  refine lv_iadd hx hb dL_law_1200 ?_
  refine ld_j (j := 3) hx hb hX hbl hbA hS rfl (by omega) hL dL_law_1201 ?_
  refine lv_aload_n hx hb dL_law_1202 rfl (lv_at hl 0 rfl) ?_
  refine lv_iload_n hx hb dL_law_1203 rfl (lv_at hl 3 rfl) ?_
  refine lv_iconst (v := 4) hx hb dL_law_1204 (by decide) ?_
  refine lv_iadd hx hb dL_law_1205 ?_
  refine ld_j (j := 4) hx hb hX hbl hbA hS rfl (by omega) hL dL_law_1206 ?_
  refine cl_r (As := [.int (xs (i + 1)), .int (xs (i + 2)), .int (xs (i + 3)), .int (xs (i + 4))]) (rest := [.int r]) ⟨hx, hb, hml, hown, hts⟩ (MM H.size) (cwV 4 hts gL_law_X9_has rfl rfl rfl (by decide +kernel) ⟨Nat.le_of_ble_eq_true rfl, Nat.le_of_ble_eq_true rfl⟩) EB_0 trivial hK hP hD hS hA 0 hm0 rfl rfl rfl hl.1 rfl (Nat.le_of_ble_eq_true rfl) dL_law_1207 ⟨Nat.le_refl _, Nat.le_refl _⟩ (fun H locs hP hD hS => ?_)
  refine lv_icmp_eq (tgt := 1519) hx hb dL_law_1210 (by decide) (fun cq => ?_) (fun cq => absurd rfl cq)
  exact kk H locs hP hD hS
set_option maxHeartbeats 4000000 in
set_option maxRecDepth 100000 in
theorem law_knows {p : Program} {l : Launch} {e : Env} {s : State} {m : MethodId} {below : List Frame} {meth : Method} {c : Code} {b L : Nat} {xs : Nat → Int32} {dC : Nat → ClassId} {dI : Nat → Nat → Nat} {cB cI cJ cZ : ClassId} {adK adV : Nat → Nat} (hL : L ≤ 3584) (C0 : LC p s m meth c b L xs dC dI cB cI cJ cZ adK adV) {i : Nat} (hi : i + 7 ≤ L) {x0 m0 : Nat} {wx wm wm1 : va_W} {wx1 : va_W} {r : Int32} {fx fm : List Value} (hx0 : wx[0]? = some (x0, .inr (7, fx))) (hm0 : wm[0]? = some (m0, .inr (8, fm))) (MX : ∀ sz, Met l yX8_knows wsX8_knows ({ frames := 6, cells := 0, slots := 0, locals := 147 }) (gP (dC, dI) (tyz cB cI cJ cZ) (E_X adK adV) wx sz [.ref x0, .int (xs (i + 1)), .int (xs (i + 2)), .int (xs (i + 3)), .int (xs (i + 4))]) (gI (dC, dI) (tyz cB cI cJ cZ) wx1 (va_A wx sz) r) 0 0 (va_A wx sz)) (MM : ∀ sz, Met l yX9_knows wsX9_knows ({ frames := 7, cells := 0, slots := 0, locals := 171 }) (gP (dC, dI) (tyz cB cI cJ cZ) E_0 wm sz [.ref m0, .int (xs (i + 1)), .int (xs (i + 2)), .int (xs (i + 3)), .int (xs (i + 4))]) (gI (dC, dI) (tyz cB cI cJ cZ) wm1 (va_A wm sz) r) 0 0 (va_A wm sz)) {H : Heap} {locs : List Loc} {ls : Array Slot} (hP : va_P (dC, dI) vwCl (wx ++ wm) H) (hD : va_D (fun q : Nat => s.heap.size ≤ q) (wx ++ wm)) (hS : va_S (fun q : Nat => s.heap.size ≤ q) s.heap H locs) (hl : lv_has ls 4 [(0, .ref b), (1, .ref x0), (2, .ref m0), (3, .int (nI i))]) (kk : ∀ (H1 : Heap) (locs1 : List Loc), va_P (dC, dI) vwCl (wx1 ++ wm1) H1 → va_D (fun q : Nat => s.heap.size ≤ q) (wx1 ++ wm1) → va_S (fun q : Nat => s.heap.size ≤ q) s.heap H1 locs1 → W p l e room_1 s m #[Value.ref b] below meth c H1 locs1 73 3097 (lw_Z below #[Value.ref b] s) (F0 m 1519 ls [])) : W p l e room_1 s m #[Value.ref b] below meth c H locs 73 3097 (lw_Z below #[Value.ref b] s) (F0 m 1215 ls []) := by
  obtain ⟨hx, hb, hr, hml, hown, hts, hX, hbl, hlocks, hK, hE⟩ := id C0
  have hA : ∀ q : Nat, s.heap.size ≤ q → (fun q : Nat => s.heap.size ≤ q) q := fun _ h => h
  have hbA : ¬ (fun q : Nat => s.heap.size ≤ q) b := Nat.not_le.mpr hbl
  refine lv_aload_n hx hb dL_law_1215 rfl (lv_at hl 1 rfl) ?_
  refine lv_aload_n hx hb dL_law_1216 rfl (lv_at hl 0 rfl) ?_
  refine lv_iload_n hx hb dL_law_1217 rfl (lv_at hl 3 rfl) ?_
  refine lv_iconst (v := 1) hx hb dL_law_1218 (by decide) ?_
  refine lv_iadd hx hb dL_law_1219 ?_
  refine ld_j (j := 1) hx hb hX hbl hbA hS rfl (by omega) hL dL_law_1220 ?_
  refine lv_aload_n hx hb dL_law_1221 rfl (lv_at hl 0 rfl) ?_
  refine lv_iload_n hx hb dL_law_1222 rfl (lv_at hl 3 rfl) ?_
  refine lv_iconst (v := 2) hx hb dL_law_1223 (by decide) ?_
  refine lv_iadd hx hb dL_law_1224 ?_
  refine ld_j (j := 2) hx hb hX hbl hbA hS rfl (by omega) hL dL_law_1225 ?_
  refine lv_aload_n hx hb dL_law_1226 rfl (lv_at hl 0 rfl) ?_
  refine lv_iload_n hx hb dL_law_1227 rfl (lv_at hl 3 rfl) ?_
  refine lv_iconst (v := 3) hx hb dL_law_1228 (by decide) ?_
  refine lv_iadd hx hb dL_law_1229 ?_
  refine ld_j (j := 3) hx hb hX hbl hbA hS rfl (by omega) hL dL_law_1230 ?_
  refine lv_aload_n hx hb dL_law_1231 rfl (lv_at hl 0 rfl) ?_
  refine lv_iload_n hx hb dL_law_1232 rfl (lv_at hl 3 rfl) ?_
  refine lv_iconst (v := 4) hx hb dL_law_1233 (by decide) ?_
  refine lv_iadd hx hb dL_law_1234 ?_
  refine ld_j (j := 4) hx hb hX hbl hbA hS rfl (by omega) hL dL_law_1235 ?_
  refine cl_l (As := [.int (xs (i + 1)), .int (xs (i + 2)), .int (xs (i + 3)), .int (xs (i + 4))]) (rest := []) ⟨hx, hb, hml, hown, hts⟩ (MX H.size) (cwV 4 hts gL_law_X8_knows rfl rfl rfl (by decide +kernel) ⟨Nat.le_of_ble_eq_true rfl, Nat.le_of_ble_eq_true rfl⟩) EB_X hE hK hP hD hS hA 0 hx0 rfl rfl rfl hl.1 rfl (Nat.le_of_ble_eq_true rfl) dL_law_1236 ⟨Nat.le_refl _, Nat.le_refl _⟩ (fun H locs hP hD hS => ?_)
  refine lv_aload_n hx hb dL_law_1239 rfl (lv_at hl 2 rfl) ?_
  refine lv_aload_n hx hb dL_law_1240 rfl (lv_at hl 0 rfl) ?_
  refine lv_iload_n hx hb dL_law_1241 rfl (lv_at hl 3 rfl) ?_
  refine lv_iconst (v := 1) hx hb dL_law_1242 (by decide) ?_
  refine lv_iadd hx hb dL_law_1243 ?_
  refine ld_j (j := 1) hx hb hX hbl hbA hS rfl (by omega) hL dL_law_1244 ?_
  refine lv_aload_n hx hb dL_law_1245 rfl (lv_at hl 0 rfl) ?_
  refine lv_iload_n hx hb dL_law_1246 rfl (lv_at hl 3 rfl) ?_
  refine lv_iconst (v := 2) hx hb dL_law_1247 (by decide) ?_
  refine lv_iadd hx hb dL_law_1248 ?_
  refine ld_j (j := 2) hx hb hX hbl hbA hS rfl (by omega) hL dL_law_1249 ?_
  refine lv_aload_n hx hb dL_law_1250 rfl (lv_at hl 0 rfl) ?_
  refine lv_iload_n hx hb dL_law_1251 rfl (lv_at hl 3 rfl) ?_
  refine lv_iconst (v := 3) hx hb dL_law_1252 (by decide) ?_
  refine lv_iadd hx hb dL_law_1253 ?_
  refine ld_j (j := 3) hx hb hX hbl hbA hS rfl (by omega) hL dL_law_1254 ?_
  refine lv_aload_n hx hb dL_law_1255 rfl (lv_at hl 0 rfl) ?_
  refine lv_iload_n hx hb dL_law_1256 rfl (lv_at hl 3 rfl) ?_
  refine lv_iconst (v := 4) hx hb dL_law_1257 (by decide) ?_
  refine lv_iadd hx hb dL_law_1258 ?_
  refine ld_j (j := 4) hx hb hX hbl hbA hS rfl (by omega) hL dL_law_1259 ?_
  refine cl_r (As := [.int (xs (i + 1)), .int (xs (i + 2)), .int (xs (i + 3)), .int (xs (i + 4))]) (rest := [.int r]) ⟨hx, hb, hml, hown, hts⟩ (MM H.size) (cwV 4 hts gL_law_X9_knows rfl rfl rfl (by decide +kernel) ⟨Nat.le_of_ble_eq_true rfl, Nat.le_of_ble_eq_true rfl⟩) EB_0 trivial hK hP hD hS hA 0 hm0 rfl rfl rfl hl.1 rfl (Nat.le_of_ble_eq_true rfl) dL_law_1260 ⟨Nat.le_refl _, Nat.le_refl _⟩ (fun H locs hP hD hS => ?_)
  refine lv_icmp_eq (tgt := 1519) hx hb dL_law_1263 (by decide) (fun cq => ?_) (fun cq => absurd rfl cq)
  exact kk H locs hP hD hS
set_option maxHeartbeats 4000000 in
set_option maxRecDepth 100000 in
theorem law_since {p : Program} {l : Launch} {e : Env} {s : State} {m : MethodId} {below : List Frame} {meth : Method} {c : Code} {b L : Nat} {xs : Nat → Int32} {dC : Nat → ClassId} {dI : Nat → Nat → Nat} {cB cI cJ cZ : ClassId} {adK adV : Nat → Nat} (hL : L ≤ 3584) (C0 : LC p s m meth c b L xs dC dI cB cI cJ cZ adK adV) {i : Nat} (hi : i + 7 ≤ L) {x0 m0 : Nat} {wx wm wm1 : va_W} {wx1 : va_W} {r : Int32} {fx fm : List Value} (hx0 : wx[0]? = some (x0, .inr (7, fx))) (hm0 : wm[0]? = some (m0, .inr (8, fm))) (MX : ∀ sz, Met l yX8_since wsX8_since ({ frames := 6, cells := 0, slots := 0, locals := 146 }) (gP (dC, dI) (tyz cB cI cJ cZ) (E_X adK adV) wx sz [.ref x0, .int (xs (i + 1)), .int (xs (i + 2)), .int (xs (i + 3))]) (gI (dC, dI) (tyz cB cI cJ cZ) wx1 (va_A wx sz) r) 0 0 (va_A wx sz)) (MM : ∀ sz, Met l yX9_since wsX9_since ({ frames := 7, cells := 0, slots := 0, locals := 171 }) (gP (dC, dI) (tyz cB cI cJ cZ) E_0 wm sz [.ref m0, .int (xs (i + 1)), .int (xs (i + 2)), .int (xs (i + 3))]) (gI (dC, dI) (tyz cB cI cJ cZ) wm1 (va_A wm sz) r) 0 0 (va_A wm sz)) {H : Heap} {locs : List Loc} {ls : Array Slot} (hP : va_P (dC, dI) vwCl (wx ++ wm) H) (hD : va_D (fun q : Nat => s.heap.size ≤ q) (wx ++ wm)) (hS : va_S (fun q : Nat => s.heap.size ≤ q) s.heap H locs) (hl : lv_has ls 4 [(0, .ref b), (1, .ref x0), (2, .ref m0), (3, .int (nI i))]) (kk : ∀ (H1 : Heap) (locs1 : List Loc), va_P (dC, dI) vwCl (wx1 ++ wm1) H1 → va_D (fun q : Nat => s.heap.size ≤ q) (wx1 ++ wm1) → va_S (fun q : Nat => s.heap.size ≤ q) s.heap H1 locs1 → W p l e room_1 s m #[Value.ref b] below meth c H1 locs1 73 3097 (lw_Z below #[Value.ref b] s) (F0 m 1519 ls [])) : W p l e room_1 s m #[Value.ref b] below meth c H locs 73 3097 (lw_Z below #[Value.ref b] s) (F0 m 1268 ls []) := by
  obtain ⟨hx, hb, hr, hml, hown, hts, hX, hbl, hlocks, hK, hE⟩ := id C0
  have hA : ∀ q : Nat, s.heap.size ≤ q → (fun q : Nat => s.heap.size ≤ q) q := fun _ h => h
  have hbA : ¬ (fun q : Nat => s.heap.size ≤ q) b := Nat.not_le.mpr hbl
  refine lv_aload_n hx hb dL_law_1268 rfl (lv_at hl 1 rfl) ?_
  refine lv_aload_n hx hb dL_law_1269 rfl (lv_at hl 0 rfl) ?_
  refine lv_iload_n hx hb dL_law_1270 rfl (lv_at hl 3 rfl) ?_
  refine lv_iconst (v := 1) hx hb dL_law_1271 (by decide) ?_
  refine lv_iadd hx hb dL_law_1272 ?_
  refine ld_j (j := 1) hx hb hX hbl hbA hS rfl (by omega) hL dL_law_1273 ?_
  refine lv_aload_n hx hb dL_law_1274 rfl (lv_at hl 0 rfl) ?_
  refine lv_iload_n hx hb dL_law_1275 rfl (lv_at hl 3 rfl) ?_
  refine lv_iconst (v := 2) hx hb dL_law_1276 (by decide) ?_
  refine lv_iadd hx hb dL_law_1277 ?_
  refine ld_j (j := 2) hx hb hX hbl hbA hS rfl (by omega) hL dL_law_1278 ?_
  refine lv_aload_n hx hb dL_law_1279 rfl (lv_at hl 0 rfl) ?_
  refine lv_iload_n hx hb dL_law_1280 rfl (lv_at hl 3 rfl) ?_
  refine lv_iconst (v := 3) hx hb dL_law_1281 (by decide) ?_
  refine lv_iadd hx hb dL_law_1282 ?_
  refine ld_j (j := 3) hx hb hX hbl hbA hS rfl (by omega) hL dL_law_1283 ?_
  refine cl_l (As := [.int (xs (i + 1)), .int (xs (i + 2)), .int (xs (i + 3))]) (rest := []) ⟨hx, hb, hml, hown, hts⟩ (MX H.size) (cwV 3 hts gL_law_X8_since rfl rfl rfl (by decide +kernel) ⟨Nat.le_of_ble_eq_true rfl, Nat.le_of_ble_eq_true rfl⟩) EB_X hE hK hP hD hS hA 0 hx0 rfl rfl rfl hl.1 rfl (Nat.le_of_ble_eq_true rfl) dL_law_1284 ⟨Nat.le_refl _, Nat.le_refl _⟩ (fun H locs hP hD hS => ?_)
  refine lv_aload_n hx hb dL_law_1287 rfl (lv_at hl 2 rfl) ?_
  refine lv_aload_n hx hb dL_law_1288 rfl (lv_at hl 0 rfl) ?_
  refine lv_iload_n hx hb dL_law_1289 rfl (lv_at hl 3 rfl) ?_
  refine lv_iconst (v := 1) hx hb dL_law_1290 (by decide) ?_
  refine lv_iadd hx hb dL_law_1291 ?_
  refine ld_j (j := 1) hx hb hX hbl hbA hS rfl (by omega) hL dL_law_1292 ?_
  refine lv_aload_n hx hb dL_law_1293 rfl (lv_at hl 0 rfl) ?_
  refine lv_iload_n hx hb dL_law_1294 rfl (lv_at hl 3 rfl) ?_
  refine lv_iconst (v := 2) hx hb dL_law_1295 (by decide) ?_
  refine lv_iadd hx hb dL_law_1296 ?_
  refine ld_j (j := 2) hx hb hX hbl hbA hS rfl (by omega) hL dL_law_1297 ?_
  refine lv_aload_n hx hb dL_law_1298 rfl (lv_at hl 0 rfl) ?_
  refine lv_iload_n hx hb dL_law_1299 rfl (lv_at hl 3 rfl) ?_
  refine lv_iconst (v := 3) hx hb dL_law_1300 (by decide) ?_
  refine lv_iadd hx hb dL_law_1301 ?_
  refine ld_j (j := 3) hx hb hX hbl hbA hS rfl (by omega) hL dL_law_1302 ?_
  refine cl_r (As := [.int (xs (i + 1)), .int (xs (i + 2)), .int (xs (i + 3))]) (rest := [.int r]) ⟨hx, hb, hml, hown, hts⟩ (MM H.size) (cwV 3 hts gL_law_X9_since rfl rfl rfl (by decide +kernel) ⟨Nat.le_of_ble_eq_true rfl, Nat.le_of_ble_eq_true rfl⟩) EB_0 trivial hK hP hD hS hA 0 hm0 rfl rfl rfl hl.1 rfl (Nat.le_of_ble_eq_true rfl) dL_law_1303 ⟨Nat.le_refl _, Nat.le_refl _⟩ (fun H locs hP hD hS => ?_)
  refine lv_icmp_eq (tgt := 1519) hx hb dL_law_1306 (by decide) (fun cq => ?_) (fun cq => absurd rfl cq)
  exact kk H locs hP hD hS
set_option maxHeartbeats 4000000 in
set_option maxRecDepth 100000 in
theorem law_spread {p : Program} {l : Launch} {e : Env} {s : State} {m : MethodId} {below : List Frame} {meth : Method} {c : Code} {b L : Nat} {xs : Nat → Int32} {dC : Nat → ClassId} {dI : Nat → Nat → Nat} {cB cI cJ cZ : ClassId} {adK adV : Nat → Nat} (hL : L ≤ 3584) (C0 : LC p s m meth c b L xs dC dI cB cI cJ cZ adK adV) {i : Nat} (hi : i + 7 ≤ L) {x0 m0 : Nat} {wx wm wm1 : va_W} {wx1 : va_W} {r : Int32} {fx fm : List Value} (hx0 : wx[0]? = some (x0, .inr (7, fx))) (hm0 : wm[0]? = some (m0, .inr (8, fm))) (MX : ∀ sz, Met l yX8_spread wsX8_spread ({ frames := 6, cells := 0, slots := 0, locals := 147 }) (gP (dC, dI) (tyz cB cI cJ cZ) (E_X adK adV) wx sz [.ref x0, .int (xs (i + 1)), .int (xs (i + 2)), .int (xs (i + 3)), .int (xs (i + 4)), .int (xs (i + 5))]) (gI (dC, dI) (tyz cB cI cJ cZ) wx1 (va_A wx sz) r) 0 0 (va_A wx sz)) (MM : ∀ sz, Met l yX9_spread wsX9_spread ({ frames := 7, cells := 0, slots := 0, locals := 171 }) (gP (dC, dI) (tyz cB cI cJ cZ) E_0 wm sz [.ref m0, .int (xs (i + 1)), .int (xs (i + 2)), .int (xs (i + 3)), .int (xs (i + 4)), .int (xs (i + 5))]) (gI (dC, dI) (tyz cB cI cJ cZ) wm1 (va_A wm sz) r) 0 0 (va_A wm sz)) {H : Heap} {locs : List Loc} {ls : Array Slot} (hP : va_P (dC, dI) vwCl (wx ++ wm) H) (hD : va_D (fun q : Nat => s.heap.size ≤ q) (wx ++ wm)) (hS : va_S (fun q : Nat => s.heap.size ≤ q) s.heap H locs) (hl : lv_has ls 4 [(0, .ref b), (1, .ref x0), (2, .ref m0), (3, .int (nI i))]) (kk : ∀ (H1 : Heap) (locs1 : List Loc), va_P (dC, dI) vwCl (wx1 ++ wm1) H1 → va_D (fun q : Nat => s.heap.size ≤ q) (wx1 ++ wm1) → va_S (fun q : Nat => s.heap.size ≤ q) s.heap H1 locs1 → W p l e room_1 s m #[Value.ref b] below meth c H1 locs1 73 3097 (lw_Z below #[Value.ref b] s) (F0 m 1519 ls [])) : W p l e room_1 s m #[Value.ref b] below meth c H locs 73 3097 (lw_Z below #[Value.ref b] s) (F0 m 1311 ls []) := by
  obtain ⟨hx, hb, hr, hml, hown, hts, hX, hbl, hlocks, hK, hE⟩ := id C0
  have hA : ∀ q : Nat, s.heap.size ≤ q → (fun q : Nat => s.heap.size ≤ q) q := fun _ h => h
  have hbA : ¬ (fun q : Nat => s.heap.size ≤ q) b := Nat.not_le.mpr hbl
  refine lv_aload_n hx hb dL_law_1311 rfl (lv_at hl 1 rfl) ?_
  refine lv_aload_n hx hb dL_law_1312 rfl (lv_at hl 0 rfl) ?_
  refine lv_iload_n hx hb dL_law_1313 rfl (lv_at hl 3 rfl) ?_
  refine lv_iconst (v := 1) hx hb dL_law_1314 (by decide) ?_
  refine lv_iadd hx hb dL_law_1315 ?_
  refine ld_j (j := 1) hx hb hX hbl hbA hS rfl (by omega) hL dL_law_1316 ?_
  refine lv_aload_n hx hb dL_law_1317 rfl (lv_at hl 0 rfl) ?_
  refine lv_iload_n hx hb dL_law_1318 rfl (lv_at hl 3 rfl) ?_
  refine lv_iconst (v := 2) hx hb dL_law_1319 (by decide) ?_
  refine lv_iadd hx hb dL_law_1320 ?_
  refine ld_j (j := 2) hx hb hX hbl hbA hS rfl (by omega) hL dL_law_1321 ?_
  refine lv_aload_n hx hb dL_law_1322 rfl (lv_at hl 0 rfl) ?_
  refine lv_iload_n hx hb dL_law_1323 rfl (lv_at hl 3 rfl) ?_
  refine lv_iconst (v := 3) hx hb dL_law_1324 (by decide) ?_
  refine lv_iadd hx hb dL_law_1325 ?_
  refine ld_j (j := 3) hx hb hX hbl hbA hS rfl (by omega) hL dL_law_1326 ?_
  refine lv_aload_n hx hb dL_law_1327 rfl (lv_at hl 0 rfl) ?_
  refine lv_iload_n hx hb dL_law_1328 rfl (lv_at hl 3 rfl) ?_
  refine lv_iconst (v := 4) hx hb dL_law_1329 (by decide) ?_
  refine lv_iadd hx hb dL_law_1330 ?_
  refine ld_j (j := 4) hx hb hX hbl hbA hS rfl (by omega) hL dL_law_1331 ?_
  refine lv_aload_n hx hb dL_law_1332 rfl (lv_at hl 0 rfl) ?_
  refine lv_iload_n hx hb dL_law_1333 rfl (lv_at hl 3 rfl) ?_
  refine lv_iconst (v := 5) hx hb dL_law_1334 (by decide) ?_
  refine lv_iadd hx hb dL_law_1335 ?_
  refine ld_j (j := 5) hx hb hX hbl hbA hS rfl (by omega) hL dL_law_1336 ?_
  refine cl_l (As := [.int (xs (i + 1)), .int (xs (i + 2)), .int (xs (i + 3)), .int (xs (i + 4)), .int (xs (i + 5))]) (rest := []) ⟨hx, hb, hml, hown, hts⟩ (MX H.size) (cwV 5 hts gL_law_X8_spread rfl rfl rfl (by decide +kernel) ⟨Nat.le_of_ble_eq_true rfl, Nat.le_of_ble_eq_true rfl⟩) EB_X hE hK hP hD hS hA 0 hx0 rfl rfl rfl hl.1 rfl (Nat.le_of_ble_eq_true rfl) dL_law_1337 ⟨Nat.le_refl _, Nat.le_refl _⟩ (fun H locs hP hD hS => ?_)
  refine lv_aload_n hx hb dL_law_1340 rfl (lv_at hl 2 rfl) ?_
  refine lv_aload_n hx hb dL_law_1341 rfl (lv_at hl 0 rfl) ?_
  refine lv_iload_n hx hb dL_law_1342 rfl (lv_at hl 3 rfl) ?_
  refine lv_iconst (v := 1) hx hb dL_law_1343 (by decide) ?_
  refine lv_iadd hx hb dL_law_1344 ?_
  refine ld_j (j := 1) hx hb hX hbl hbA hS rfl (by omega) hL dL_law_1345 ?_
  refine lv_aload_n hx hb dL_law_1346 rfl (lv_at hl 0 rfl) ?_
  refine lv_iload_n hx hb dL_law_1347 rfl (lv_at hl 3 rfl) ?_
  refine lv_iconst (v := 2) hx hb dL_law_1348 (by decide) ?_
  refine lv_iadd hx hb dL_law_1349 ?_
  refine ld_j (j := 2) hx hb hX hbl hbA hS rfl (by omega) hL dL_law_1350 ?_
  refine lv_aload_n hx hb dL_law_1351 rfl (lv_at hl 0 rfl) ?_
  refine lv_iload_n hx hb dL_law_1352 rfl (lv_at hl 3 rfl) ?_
  refine lv_iconst (v := 3) hx hb dL_law_1353 (by decide) ?_
  refine lv_iadd hx hb dL_law_1354 ?_
  refine ld_j (j := 3) hx hb hX hbl hbA hS rfl (by omega) hL dL_law_1355 ?_
  refine lv_aload_n hx hb dL_law_1356 rfl (lv_at hl 0 rfl) ?_
  refine lv_iload_n hx hb dL_law_1357 rfl (lv_at hl 3 rfl) ?_
  refine lv_iconst (v := 4) hx hb dL_law_1358 (by decide) ?_
  refine lv_iadd hx hb dL_law_1359 ?_
  refine ld_j (j := 4) hx hb hX hbl hbA hS rfl (by omega) hL dL_law_1360 ?_
  refine lv_aload_n hx hb dL_law_1361 rfl (lv_at hl 0 rfl) ?_
  refine lv_iload_n hx hb dL_law_1362 rfl (lv_at hl 3 rfl) ?_
  refine lv_iconst (v := 5) hx hb dL_law_1363 (by decide) ?_
  refine lv_iadd hx hb dL_law_1364 ?_
  refine ld_j (j := 5) hx hb hX hbl hbA hS rfl (by omega) hL dL_law_1365 ?_
  refine cl_r (As := [.int (xs (i + 1)), .int (xs (i + 2)), .int (xs (i + 3)), .int (xs (i + 4)), .int (xs (i + 5))]) (rest := [.int r]) ⟨hx, hb, hml, hown, hts⟩ (MM H.size) (cwV 5 hts gL_law_X9_spread rfl rfl rfl (by decide +kernel) ⟨Nat.le_of_ble_eq_true rfl, Nat.le_of_ble_eq_true rfl⟩) EB_0 trivial hK hP hD hS hA 0 hm0 rfl rfl rfl hl.1 rfl (Nat.le_of_ble_eq_true rfl) dL_law_1366 ⟨Nat.le_refl _, Nat.le_refl _⟩ (fun H locs hP hD hS => ?_)
  refine lv_icmp_eq (tgt := 1519) hx hb dL_law_1369 (by decide) (fun cq => ?_) (fun cq => absurd rfl cq)
  exact kk H locs hP hD hS
set_option maxHeartbeats 4000000 in
set_option maxRecDepth 100000 in
theorem law_child {p : Program} {l : Launch} {e : Env} {s : State} {m : MethodId} {below : List Frame} {meth : Method} {c : Code} {b L : Nat} {xs : Nat → Int32} {dC : Nat → ClassId} {dI : Nat → Nat → Nat} {cB cI cJ cZ : ClassId} {adK adV : Nat → Nat} (hL : L ≤ 3584) (C0 : LC p s m meth c b L xs dC dI cB cI cJ cZ adK adV) {i : Nat} (hi : i + 7 ≤ L) {x0 m0 : Nat} {wx wm wm1 : va_W} {wx1 : va_W} {r : Int32} {fx fm : List Value} (hx0 : wx[0]? = some (x0, .inr (7, fx))) (hm0 : wm[0]? = some (m0, .inr (8, fm))) (MX : ∀ sz, Met l yX8_child wsX8_child ({ frames := 0, cells := 0, slots := 0, locals := 0 }) (gP (dC, dI) (tyz cB cI cJ cZ) (E_X adK adV) wx sz [.ref x0]) (gI (dC, dI) (tyz cB cI cJ cZ) wx1 (va_A wx sz) r) 0 0 (va_A wx sz)) (MM : ∀ sz, Met l yX9_child wsX9_child ({ frames := 0, cells := 0, slots := 0, locals := 0 }) (gP (dC, dI) (tyz cB cI cJ cZ) E_0 wm sz [.ref m0]) (gI (dC, dI) (tyz cB cI cJ cZ) wm1 (va_A wm sz) r) 0 0 (va_A wm sz)) {H : Heap} {locs : List Loc} {ls : Array Slot} (hP : va_P (dC, dI) vwCl (wx ++ wm) H) (hD : va_D (fun q : Nat => s.heap.size ≤ q) (wx ++ wm)) (hS : va_S (fun q : Nat => s.heap.size ≤ q) s.heap H locs) (hl : lv_has ls 4 [(0, .ref b), (1, .ref x0), (2, .ref m0), (3, .int (nI i))]) (kk : ∀ (H1 : Heap) (locs1 : List Loc), va_P (dC, dI) vwCl (wx1 ++ wm1) H1 → va_D (fun q : Nat => s.heap.size ≤ q) (wx1 ++ wm1) → va_S (fun q : Nat => s.heap.size ≤ q) s.heap H1 locs1 → W p l e room_1 s m #[Value.ref b] below meth c H1 locs1 73 3097 (lw_Z below #[Value.ref b] s) (F0 m 1519 ls [])) : W p l e room_1 s m #[Value.ref b] below meth c H locs 73 3097 (lw_Z below #[Value.ref b] s) (F0 m 1374 ls []) := by
  obtain ⟨hx, hb, hr, hml, hown, hts, hX, hbl, hlocks, hK, hE⟩ := id C0
  have hA : ∀ q : Nat, s.heap.size ≤ q → (fun q : Nat => s.heap.size ≤ q) q := fun _ h => h
  have hbA : ¬ (fun q : Nat => s.heap.size ≤ q) b := Nat.not_le.mpr hbl
  refine lv_aload_n hx hb dL_law_1374 rfl (lv_at hl 1 rfl) ?_
  refine cl_l (As := []) (rest := []) ⟨hx, hb, hml, hown, hts⟩ (MX H.size) (cwV 0 hts gL_law_X8_child rfl rfl rfl (by decide +kernel) ⟨Nat.le_of_ble_eq_true rfl, Nat.le_of_ble_eq_true rfl⟩) EB_X hE hK hP hD hS hA 0 hx0 rfl rfl rfl hl.1 rfl (Nat.le_of_ble_eq_true rfl) dL_law_1375 ⟨Nat.le_refl _, Nat.le_refl _⟩ (fun H locs hP hD hS => ?_)
  refine lv_aload_n hx hb dL_law_1378 rfl (lv_at hl 2 rfl) ?_
  refine cl_r (As := []) (rest := [.int r]) ⟨hx, hb, hml, hown, hts⟩ (MM H.size) (cwV 0 hts gL_law_X9_child rfl rfl rfl (by decide +kernel) ⟨Nat.le_of_ble_eq_true rfl, Nat.le_of_ble_eq_true rfl⟩) EB_0 trivial hK hP hD hS hA 0 hm0 rfl rfl rfl hl.1 rfl (Nat.le_of_ble_eq_true rfl) dL_law_1379 ⟨Nat.le_refl _, Nat.le_refl _⟩ (fun H locs hP hD hS => ?_)
  refine lv_icmp_eq (tgt := 1519) hx hb dL_law_1382 (by decide) (fun cq => ?_) (fun cq => absurd rfl cq)
  exact kk H locs hP hD hS
set_option maxHeartbeats 4000000 in
set_option maxRecDepth 100000 in
theorem law_learn {p : Program} {l : Launch} {e : Env} {s : State} {m : MethodId} {below : List Frame} {meth : Method} {c : Code} {b L : Nat} {xs : Nat → Int32} {dC : Nat → ClassId} {dI : Nat → Nat → Nat} {cB cI cJ cZ : ClassId} {adK adV : Nat → Nat} (hL : L ≤ 3584) (C0 : LC p s m meth c b L xs dC dI cB cI cJ cZ adK adV) {i : Nat} (hi : i + 7 ≤ L) {x0 m0 : Nat} {wx wm wm1 : va_W} {wx1 : va_W} {r : Int32} {fx fm : List Value} (hx0 : wx[0]? = some (x0, .inr (7, fx))) (hm0 : wm[0]? = some (m0, .inr (8, fm))) (MX : ∀ sz, Met l yX8_learn wsX8_learn ({ frames := 2, cells := 0, slots := 0, locals := 45 }) (gP (dC, dI) (tyz cB cI cJ cZ) (E_X adK adV) wx sz [.ref x0, .int (xs (i + 1)), .int (xs (i + 2)), .int (xs (i + 3))]) (gI (dC, dI) (tyz cB cI cJ cZ) wx1 (va_A wx sz) r) 0 0 (va_A wx sz)) (MM : ∀ sz, Met l yX9_learn wsX9_learn ({ frames := 2, cells := 0, slots := 0, locals := 46 }) (gP (dC, dI) (tyz cB cI cJ cZ) E_0 wm sz [.ref m0, .int (xs (i + 1)), .int (xs (i + 2)), .int (xs (i + 3))]) (gI (dC, dI) (tyz cB cI cJ cZ) wm1 (va_A wm sz) r) 0 0 (va_A wm sz)) {H : Heap} {locs : List Loc} {ls : Array Slot} (hP : va_P (dC, dI) vwCl (wx ++ wm) H) (hD : va_D (fun q : Nat => s.heap.size ≤ q) (wx ++ wm)) (hS : va_S (fun q : Nat => s.heap.size ≤ q) s.heap H locs) (hl : lv_has ls 4 [(0, .ref b), (1, .ref x0), (2, .ref m0), (3, .int (nI i))]) (kk : ∀ (H1 : Heap) (locs1 : List Loc), va_P (dC, dI) vwCl (wx1 ++ wm1) H1 → va_D (fun q : Nat => s.heap.size ≤ q) (wx1 ++ wm1) → va_S (fun q : Nat => s.heap.size ≤ q) s.heap H1 locs1 → W p l e room_1 s m #[Value.ref b] below meth c H1 locs1 73 3097 (lw_Z below #[Value.ref b] s) (F0 m 1519 ls [])) : W p l e room_1 s m #[Value.ref b] below meth c H locs 73 3097 (lw_Z below #[Value.ref b] s) (F0 m 1387 ls []) := by
  obtain ⟨hx, hb, hr, hml, hown, hts, hX, hbl, hlocks, hK, hE⟩ := id C0
  have hA : ∀ q : Nat, s.heap.size ≤ q → (fun q : Nat => s.heap.size ≤ q) q := fun _ h => h
  have hbA : ¬ (fun q : Nat => s.heap.size ≤ q) b := Nat.not_le.mpr hbl
  refine lv_aload_n hx hb dL_law_1387 rfl (lv_at hl 1 rfl) ?_
  refine lv_aload_n hx hb dL_law_1388 rfl (lv_at hl 0 rfl) ?_
  refine lv_iload_n hx hb dL_law_1389 rfl (lv_at hl 3 rfl) ?_
  refine lv_iconst (v := 1) hx hb dL_law_1390 (by decide) ?_
  refine lv_iadd hx hb dL_law_1391 ?_
  refine ld_j (j := 1) hx hb hX hbl hbA hS rfl (by omega) hL dL_law_1392 ?_
  refine lv_aload_n hx hb dL_law_1393 rfl (lv_at hl 0 rfl) ?_
  refine lv_iload_n hx hb dL_law_1394 rfl (lv_at hl 3 rfl) ?_
  refine lv_iconst (v := 2) hx hb dL_law_1395 (by decide) ?_
  refine lv_iadd hx hb dL_law_1396 ?_
  refine ld_j (j := 2) hx hb hX hbl hbA hS rfl (by omega) hL dL_law_1397 ?_
  refine lv_aload_n hx hb dL_law_1398 rfl (lv_at hl 0 rfl) ?_
  refine lv_iload_n hx hb dL_law_1399 rfl (lv_at hl 3 rfl) ?_
  refine lv_iconst (v := 3) hx hb dL_law_1400 (by decide) ?_
  refine lv_iadd hx hb dL_law_1401 ?_
  refine ld_j (j := 3) hx hb hX hbl hbA hS rfl (by omega) hL dL_law_1402 ?_
  refine cl_l (As := [.int (xs (i + 1)), .int (xs (i + 2)), .int (xs (i + 3))]) (rest := []) ⟨hx, hb, hml, hown, hts⟩ (MX H.size) (cwV 3 hts gL_law_X8_learn rfl rfl rfl (by decide +kernel) ⟨Nat.le_of_ble_eq_true rfl, Nat.le_of_ble_eq_true rfl⟩) EB_X hE hK hP hD hS hA 0 hx0 rfl rfl rfl hl.1 rfl (Nat.le_of_ble_eq_true rfl) dL_law_1403 ⟨Nat.le_refl _, Nat.le_refl _⟩ (fun H locs hP hD hS => ?_)
  refine lv_aload_n hx hb dL_law_1406 rfl (lv_at hl 2 rfl) ?_
  refine lv_aload_n hx hb dL_law_1407 rfl (lv_at hl 0 rfl) ?_
  refine lv_iload_n hx hb dL_law_1408 rfl (lv_at hl 3 rfl) ?_
  refine lv_iconst (v := 1) hx hb dL_law_1409 (by decide) ?_
  refine lv_iadd hx hb dL_law_1410 ?_
  refine ld_j (j := 1) hx hb hX hbl hbA hS rfl (by omega) hL dL_law_1411 ?_
  refine lv_aload_n hx hb dL_law_1412 rfl (lv_at hl 0 rfl) ?_
  refine lv_iload_n hx hb dL_law_1413 rfl (lv_at hl 3 rfl) ?_
  refine lv_iconst (v := 2) hx hb dL_law_1414 (by decide) ?_
  refine lv_iadd hx hb dL_law_1415 ?_
  refine ld_j (j := 2) hx hb hX hbl hbA hS rfl (by omega) hL dL_law_1416 ?_
  refine lv_aload_n hx hb dL_law_1417 rfl (lv_at hl 0 rfl) ?_
  refine lv_iload_n hx hb dL_law_1418 rfl (lv_at hl 3 rfl) ?_
  refine lv_iconst (v := 3) hx hb dL_law_1419 (by decide) ?_
  refine lv_iadd hx hb dL_law_1420 ?_
  refine ld_j (j := 3) hx hb hX hbl hbA hS rfl (by omega) hL dL_law_1421 ?_
  refine cl_r (As := [.int (xs (i + 1)), .int (xs (i + 2)), .int (xs (i + 3))]) (rest := [.int r]) ⟨hx, hb, hml, hown, hts⟩ (MM H.size) (cwV 3 hts gL_law_X9_learn rfl rfl rfl (by decide +kernel) ⟨Nat.le_of_ble_eq_true rfl, Nat.le_of_ble_eq_true rfl⟩) EB_0 trivial hK hP hD hS hA 0 hm0 rfl rfl rfl hl.1 rfl (Nat.le_of_ble_eq_true rfl) dL_law_1422 ⟨Nat.le_refl _, Nat.le_refl _⟩ (fun H locs hP hD hS => ?_)
  refine lv_icmp_eq (tgt := 1519) hx hb dL_law_1425 (by decide) (fun cq => ?_) (fun cq => absurd rfl cq)
  exact kk H locs hP hD hS
set_option maxHeartbeats 4000000 in
set_option maxRecDepth 100000 in
theorem law_childOf {p : Program} {l : Launch} {e : Env} {s : State} {m : MethodId} {below : List Frame} {meth : Method} {c : Code} {b L : Nat} {xs : Nat → Int32} {dC : Nat → ClassId} {dI : Nat → Nat → Nat} {cB cI cJ cZ : ClassId} {adK adV : Nat → Nat} (hL : L ≤ 3584) (C0 : LC p s m meth c b L xs dC dI cB cI cJ cZ adK adV) {i : Nat} (hi : i + 7 ≤ L) {x0 m0 : Nat} {wx wm wm1 : va_W} {wx1 : va_W} {r : Int32} {fx fm : List Value} (hx0 : wx[0]? = some (x0, .inr (7, fx))) (hm0 : wm[0]? = some (m0, .inr (8, fm))) (MX : ∀ sz, Met l yX8_childOf wsX8_childOf ({ frames := 3, cells := 0, slots := 0, locals := 74 }) (gP (dC, dI) (tyz cB cI cJ cZ) (E_X adK adV) wx sz [.ref x0, .int (xs (i + 1)), .int (xs (i + 2))]) (gI (dC, dI) (tyz cB cI cJ cZ) wx1 (va_A wx sz) r) 0 0 (va_A wx sz)) (MM : ∀ sz, Met l yX9_childOf wsX9_childOf ({ frames := 4, cells := 0, slots := 0, locals := 98 }) (gP (dC, dI) (tyz cB cI cJ cZ) E_0 wm sz [.ref m0, .int (xs (i + 1)), .int (xs (i + 2))]) (gI (dC, dI) (tyz cB cI cJ cZ) wm1 (va_A wm sz) r) 0 0 (va_A wm sz)) {H : Heap} {locs : List Loc} {ls : Array Slot} (hP : va_P (dC, dI) vwCl (wx ++ wm) H) (hD : va_D (fun q : Nat => s.heap.size ≤ q) (wx ++ wm)) (hS : va_S (fun q : Nat => s.heap.size ≤ q) s.heap H locs) (hl : lv_has ls 4 [(0, .ref b), (1, .ref x0), (2, .ref m0), (3, .int (nI i))]) (kk : ∀ (H1 : Heap) (locs1 : List Loc), va_P (dC, dI) vwCl (wx1 ++ wm1) H1 → va_D (fun q : Nat => s.heap.size ≤ q) (wx1 ++ wm1) → va_S (fun q : Nat => s.heap.size ≤ q) s.heap H1 locs1 → W p l e room_1 s m #[Value.ref b] below meth c H1 locs1 73 3097 (lw_Z below #[Value.ref b] s) (F0 m 1519 ls [])) : W p l e room_1 s m #[Value.ref b] below meth c H locs 73 3097 (lw_Z below #[Value.ref b] s) (F0 m 1430 ls []) := by
  obtain ⟨hx, hb, hr, hml, hown, hts, hX, hbl, hlocks, hK, hE⟩ := id C0
  have hA : ∀ q : Nat, s.heap.size ≤ q → (fun q : Nat => s.heap.size ≤ q) q := fun _ h => h
  have hbA : ¬ (fun q : Nat => s.heap.size ≤ q) b := Nat.not_le.mpr hbl
  refine lv_aload_n hx hb dL_law_1430 rfl (lv_at hl 1 rfl) ?_
  refine lv_aload_n hx hb dL_law_1431 rfl (lv_at hl 0 rfl) ?_
  refine lv_iload_n hx hb dL_law_1432 rfl (lv_at hl 3 rfl) ?_
  refine lv_iconst (v := 1) hx hb dL_law_1433 (by decide) ?_
  refine lv_iadd hx hb dL_law_1434 ?_
  refine ld_j (j := 1) hx hb hX hbl hbA hS rfl (by omega) hL dL_law_1435 ?_
  refine lv_aload_n hx hb dL_law_1436 rfl (lv_at hl 0 rfl) ?_
  refine lv_iload_n hx hb dL_law_1437 rfl (lv_at hl 3 rfl) ?_
  refine lv_iconst (v := 2) hx hb dL_law_1438 (by decide) ?_
  refine lv_iadd hx hb dL_law_1439 ?_
  refine ld_j (j := 2) hx hb hX hbl hbA hS rfl (by omega) hL dL_law_1440 ?_
  refine cl_l (As := [.int (xs (i + 1)), .int (xs (i + 2))]) (rest := []) ⟨hx, hb, hml, hown, hts⟩ (MX H.size) (cwV 2 hts gL_law_X8_childOf rfl rfl rfl (by decide +kernel) ⟨Nat.le_of_ble_eq_true rfl, Nat.le_of_ble_eq_true rfl⟩) EB_X hE hK hP hD hS hA 0 hx0 rfl rfl rfl hl.1 rfl (Nat.le_of_ble_eq_true rfl) dL_law_1441 ⟨Nat.le_refl _, Nat.le_refl _⟩ (fun H locs hP hD hS => ?_)
  refine lv_aload_n hx hb dL_law_1444 rfl (lv_at hl 2 rfl) ?_
  refine lv_aload_n hx hb dL_law_1445 rfl (lv_at hl 0 rfl) ?_
  refine lv_iload_n hx hb dL_law_1446 rfl (lv_at hl 3 rfl) ?_
  refine lv_iconst (v := 1) hx hb dL_law_1447 (by decide) ?_
  refine lv_iadd hx hb dL_law_1448 ?_
  refine ld_j (j := 1) hx hb hX hbl hbA hS rfl (by omega) hL dL_law_1449 ?_
  refine lv_aload_n hx hb dL_law_1450 rfl (lv_at hl 0 rfl) ?_
  refine lv_iload_n hx hb dL_law_1451 rfl (lv_at hl 3 rfl) ?_
  refine lv_iconst (v := 2) hx hb dL_law_1452 (by decide) ?_
  refine lv_iadd hx hb dL_law_1453 ?_
  refine ld_j (j := 2) hx hb hX hbl hbA hS rfl (by omega) hL dL_law_1454 ?_
  refine cl_r (As := [.int (xs (i + 1)), .int (xs (i + 2))]) (rest := [.int r]) ⟨hx, hb, hml, hown, hts⟩ (MM H.size) (cwV 2 hts gL_law_X9_childOf rfl rfl rfl (by decide +kernel) ⟨Nat.le_of_ble_eq_true rfl, Nat.le_of_ble_eq_true rfl⟩) EB_0 trivial hK hP hD hS hA 0 hm0 rfl rfl rfl hl.1 rfl (Nat.le_of_ble_eq_true rfl) dL_law_1455 ⟨Nat.le_refl _, Nat.le_refl _⟩ (fun H locs hP hD hS => ?_)
  refine lv_icmp_eq (tgt := 1519) hx hb dL_law_1458 (by decide) (fun cq => ?_) (fun cq => absurd rfl cq)
  exact kk H locs hP hD hS
set_option maxHeartbeats 4000000 in
set_option maxRecDepth 100000 in
theorem law_lessons {p : Program} {l : Launch} {e : Env} {s : State} {m : MethodId} {below : List Frame} {meth : Method} {c : Code} {b L : Nat} {xs : Nat → Int32} {dC : Nat → ClassId} {dI : Nat → Nat → Nat} {cB cI cJ cZ : ClassId} {adK adV : Nat → Nat} (hL : L ≤ 3584) (C0 : LC p s m meth c b L xs dC dI cB cI cJ cZ adK adV) {i : Nat} (hi : i + 7 ≤ L) {x0 m0 : Nat} {wx wm wm1 : va_W} {wx1 : va_W} {r : Int32} {fx fm : List Value} (hx0 : wx[0]? = some (x0, .inr (7, fx))) (hm0 : wm[0]? = some (m0, .inr (8, fm))) (MX : ∀ sz, Met l yX8_lessons wsX8_lessons ({ frames := 2, cells := 0, slots := 0, locals := 48 }) (gP (dC, dI) (tyz cB cI cJ cZ) (E_X adK adV) wx sz [.ref x0, .int (xs (i + 1)), .int (xs (i + 2))]) (gI (dC, dI) (tyz cB cI cJ cZ) wx1 (va_A wx sz) r) 0 0 (va_A wx sz)) (MM : ∀ sz, Met l yX9_lessons wsX9_lessons ({ frames := 3, cells := 0, slots := 0, locals := 72 }) (gP (dC, dI) (tyz cB cI cJ cZ) E_0 wm sz [.ref m0, .int (xs (i + 1)), .int (xs (i + 2))]) (gI (dC, dI) (tyz cB cI cJ cZ) wm1 (va_A wm sz) r) 0 0 (va_A wm sz)) {H : Heap} {locs : List Loc} {ls : Array Slot} (hP : va_P (dC, dI) vwCl (wx ++ wm) H) (hD : va_D (fun q : Nat => s.heap.size ≤ q) (wx ++ wm)) (hS : va_S (fun q : Nat => s.heap.size ≤ q) s.heap H locs) (hl : lv_has ls 4 [(0, .ref b), (1, .ref x0), (2, .ref m0), (3, .int (nI i))]) (kk : ∀ (H1 : Heap) (locs1 : List Loc), va_P (dC, dI) vwCl (wx1 ++ wm1) H1 → va_D (fun q : Nat => s.heap.size ≤ q) (wx1 ++ wm1) → va_S (fun q : Nat => s.heap.size ≤ q) s.heap H1 locs1 → W p l e room_1 s m #[Value.ref b] below meth c H1 locs1 73 3097 (lw_Z below #[Value.ref b] s) (F0 m 1519 ls [])) : W p l e room_1 s m #[Value.ref b] below meth c H locs 73 3097 (lw_Z below #[Value.ref b] s) (F0 m 1463 ls []) := by
  obtain ⟨hx, hb, hr, hml, hown, hts, hX, hbl, hlocks, hK, hE⟩ := id C0
  have hA : ∀ q : Nat, s.heap.size ≤ q → (fun q : Nat => s.heap.size ≤ q) q := fun _ h => h
  have hbA : ¬ (fun q : Nat => s.heap.size ≤ q) b := Nat.not_le.mpr hbl
  refine lv_aload_n hx hb dL_law_1463 rfl (lv_at hl 1 rfl) ?_
  refine lv_aload_n hx hb dL_law_1464 rfl (lv_at hl 0 rfl) ?_
  refine lv_iload_n hx hb dL_law_1465 rfl (lv_at hl 3 rfl) ?_
  refine lv_iconst (v := 1) hx hb dL_law_1466 (by decide) ?_
  refine lv_iadd hx hb dL_law_1467 ?_
  refine ld_j (j := 1) hx hb hX hbl hbA hS rfl (by omega) hL dL_law_1468 ?_
  refine lv_aload_n hx hb dL_law_1469 rfl (lv_at hl 0 rfl) ?_
  refine lv_iload_n hx hb dL_law_1470 rfl (lv_at hl 3 rfl) ?_
  refine lv_iconst (v := 2) hx hb dL_law_1471 (by decide) ?_
  refine lv_iadd hx hb dL_law_1472 ?_
  refine ld_j (j := 2) hx hb hX hbl hbA hS rfl (by omega) hL dL_law_1473 ?_
  refine cl_l (As := [.int (xs (i + 1)), .int (xs (i + 2))]) (rest := []) ⟨hx, hb, hml, hown, hts⟩ (MX H.size) (cwV 2 hts gL_law_X8_lessons rfl rfl rfl (by decide +kernel) ⟨Nat.le_of_ble_eq_true rfl, Nat.le_of_ble_eq_true rfl⟩) EB_X hE hK hP hD hS hA 0 hx0 rfl rfl rfl hl.1 rfl (Nat.le_of_ble_eq_true rfl) dL_law_1474 ⟨Nat.le_refl _, Nat.le_refl _⟩ (fun H locs hP hD hS => ?_)
  refine lv_aload_n hx hb dL_law_1477 rfl (lv_at hl 2 rfl) ?_
  refine lv_aload_n hx hb dL_law_1478 rfl (lv_at hl 0 rfl) ?_
  refine lv_iload_n hx hb dL_law_1479 rfl (lv_at hl 3 rfl) ?_
  refine lv_iconst (v := 1) hx hb dL_law_1480 (by decide) ?_
  refine lv_iadd hx hb dL_law_1481 ?_
  refine ld_j (j := 1) hx hb hX hbl hbA hS rfl (by omega) hL dL_law_1482 ?_
  refine lv_aload_n hx hb dL_law_1483 rfl (lv_at hl 0 rfl) ?_
  refine lv_iload_n hx hb dL_law_1484 rfl (lv_at hl 3 rfl) ?_
  refine lv_iconst (v := 2) hx hb dL_law_1485 (by decide) ?_
  refine lv_iadd hx hb dL_law_1486 ?_
  refine ld_j (j := 2) hx hb hX hbl hbA hS rfl (by omega) hL dL_law_1487 ?_
  refine cl_r (As := [.int (xs (i + 1)), .int (xs (i + 2))]) (rest := [.int r]) ⟨hx, hb, hml, hown, hts⟩ (MM H.size) (cwV 2 hts gL_law_X9_lessons rfl rfl rfl (by decide +kernel) ⟨Nat.le_of_ble_eq_true rfl, Nat.le_of_ble_eq_true rfl⟩) EB_0 trivial hK hP hD hS hA 0 hm0 rfl rfl rfl hl.1 rfl (Nat.le_of_ble_eq_true rfl) dL_law_1488 ⟨Nat.le_refl _, Nat.le_refl _⟩ (fun H locs hP hD hS => ?_)
  refine lv_icmp_eq (tgt := 1519) hx hb dL_law_1491 (by decide) (fun cq => ?_) (fun cq => absurd rfl cq)
  exact kk H locs hP hD hS
set_option maxHeartbeats 4000000 in
set_option maxRecDepth 100000 in
theorem law_count {p : Program} {l : Launch} {e : Env} {s : State} {m : MethodId} {below : List Frame} {meth : Method} {c : Code} {b L : Nat} {xs : Nat → Int32} {dC : Nat → ClassId} {dI : Nat → Nat → Nat} {cB cI cJ cZ : ClassId} {adK adV : Nat → Nat} (hL : L ≤ 3584) (C0 : LC p s m meth c b L xs dC dI cB cI cJ cZ adK adV) {i : Nat} (hi : i + 7 ≤ L) {x0 m0 : Nat} {wx wm wm1 : va_W} {wx1 : va_W} {r : Int32} {fx fm : List Value} (hx0 : wx[0]? = some (x0, .inr (7, fx))) (hm0 : wm[0]? = some (m0, .inr (8, fm))) (MX : ∀ sz, Met l yX8_count wsX8_count ({ frames := 2, cells := 0, slots := 0, locals := 43 }) (gP (dC, dI) (tyz cB cI cJ cZ) (E_X adK adV) wx sz [.ref x0, .int (xs (i + 1))]) (gI (dC, dI) (tyz cB cI cJ cZ) wx1 (va_A wx sz) r) 0 0 (va_A wx sz)) (MM : ∀ sz, Met l yX9_count wsX9_count ({ frames := 2, cells := 0, slots := 0, locals := 42 }) (gP (dC, dI) (tyz cB cI cJ cZ) E_0 wm sz [.ref m0, .int (xs (i + 1))]) (gI (dC, dI) (tyz cB cI cJ cZ) wm1 (va_A wm sz) r) 0 0 (va_A wm sz)) {H : Heap} {locs : List Loc} {ls : Array Slot} (hP : va_P (dC, dI) vwCl (wx ++ wm) H) (hD : va_D (fun q : Nat => s.heap.size ≤ q) (wx ++ wm)) (hS : va_S (fun q : Nat => s.heap.size ≤ q) s.heap H locs) (hl : lv_has ls 4 [(0, .ref b), (1, .ref x0), (2, .ref m0), (3, .int (nI i))]) (kk : ∀ (H1 : Heap) (locs1 : List Loc), va_P (dC, dI) vwCl (wx1 ++ wm1) H1 → va_D (fun q : Nat => s.heap.size ≤ q) (wx1 ++ wm1) → va_S (fun q : Nat => s.heap.size ≤ q) s.heap H1 locs1 → W p l e room_1 s m #[Value.ref b] below meth c H1 locs1 73 3097 (lw_Z below #[Value.ref b] s) (F0 m 1519 ls [])) : W p l e room_1 s m #[Value.ref b] below meth c H locs 73 3097 (lw_Z below #[Value.ref b] s) (F0 m 1496 ls []) := by
  obtain ⟨hx, hb, hr, hml, hown, hts, hX, hbl, hlocks, hK, hE⟩ := id C0
  have hA : ∀ q : Nat, s.heap.size ≤ q → (fun q : Nat => s.heap.size ≤ q) q := fun _ h => h
  have hbA : ¬ (fun q : Nat => s.heap.size ≤ q) b := Nat.not_le.mpr hbl
  refine lv_aload_n hx hb dL_law_1496 rfl (lv_at hl 1 rfl) ?_
  refine lv_aload_n hx hb dL_law_1497 rfl (lv_at hl 0 rfl) ?_
  refine lv_iload_n hx hb dL_law_1498 rfl (lv_at hl 3 rfl) ?_
  refine lv_iconst (v := 1) hx hb dL_law_1499 (by decide) ?_
  refine lv_iadd hx hb dL_law_1500 ?_
  refine ld_j (j := 1) hx hb hX hbl hbA hS rfl (by omega) hL dL_law_1501 ?_
  refine cl_l (As := [.int (xs (i + 1))]) (rest := []) ⟨hx, hb, hml, hown, hts⟩ (MX H.size) (cwV 1 hts gL_law_X8_count rfl rfl rfl (by decide +kernel) ⟨Nat.le_of_ble_eq_true rfl, Nat.le_of_ble_eq_true rfl⟩) EB_X hE hK hP hD hS hA 0 hx0 rfl rfl rfl hl.1 rfl (Nat.le_of_ble_eq_true rfl) dL_law_1502 ⟨Nat.le_refl _, Nat.le_refl _⟩ (fun H locs hP hD hS => ?_)
  refine lv_aload_n hx hb dL_law_1505 rfl (lv_at hl 2 rfl) ?_
  refine lv_aload_n hx hb dL_law_1506 rfl (lv_at hl 0 rfl) ?_
  refine lv_iload_n hx hb dL_law_1507 rfl (lv_at hl 3 rfl) ?_
  refine lv_iconst (v := 1) hx hb dL_law_1508 (by decide) ?_
  refine lv_iadd hx hb dL_law_1509 ?_
  refine ld_j (j := 1) hx hb hX hbl hbA hS rfl (by omega) hL dL_law_1510 ?_
  refine cl_r (As := [.int (xs (i + 1))]) (rest := [.int r]) ⟨hx, hb, hml, hown, hts⟩ (MM H.size) (cwV 1 hts gL_law_X9_count rfl rfl rfl (by decide +kernel) ⟨Nat.le_of_ble_eq_true rfl, Nat.le_of_ble_eq_true rfl⟩) EB_0 trivial hK hP hD hS hA 0 hm0 rfl rfl rfl hl.1 rfl (Nat.le_of_ble_eq_true rfl) dL_law_1511 ⟨Nat.le_refl _, Nat.le_refl _⟩ (fun H locs hP hD hS => ?_)
  refine lv_icmp_eq (tgt := 1519) hx hb dL_law_1514 (by decide) (fun cq => ?_) (fun cq => absurd rfl cq)
  exact kk H locs hP hD hS

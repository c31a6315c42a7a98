set_option maxHeartbeats 4000000 in
set_option maxRecDepth 100000 in
theorem kX9_isSheet (l : Launch) (n : Nat) (x0 : Int32) (x1 : Int32) (r0 : Int32) (h : fX9_isSheet n  x0 x1 = some r0) : Met l yX9_isSheet wsX9_isSheet ({ frames := 1, cells := 0, slots := 0, locals := 25 }) (pP [.int x0, .int x1]) (pI r0) 0 0 no_A := by
  refine Met.ofW (cc := cX9_isSheet) (maxL := 2) (ret := (some .boolean)) (by decide) rfl ?_
  intro p e s m args below meth c s₁ B hml hv
  obtain ⟨rfl, -⟩ := hv
  have hx := B.exec
  have hb := B.bytes
  have hr := B.returns
  have hts := atoms_spec (ws := wsX9_isSheet) B.pre
  have hown : s.vm.findClass RX9 = some m.cls := findClass_of_methodNamed B.named
  have hlocks := B.notSynchronized
  have hS : va_S no_A s.heap s.heap [] := va_S.rf
  have C0 : cxp cX9_isSheet (some .boolean) 2 RX9 wsX9_isSheet p s m ([.int x0, .int x1] : List Value).toArray meth c := ⟨hx, hb, hr, hml, hown, hts, hlocks⟩
  have hl := lv_entry ([.int x0, .int x1]) (n := 2) (Nat.le_of_ble_eq_true rfl)
  rw [lg_entry_eq]
  generalize (lg_sl ([.int x0, .int x1]) ++ List.replicate (2 - (lg_sl ([.int x0, .int x1])).length) Slot.unset).toArray = ls at hl ⊢
  have hl : lv_has ls 2 [(0, .int x0), (1, .int x1)] := hl
  have hw0 := hts (.constantLong RX9 151 (3)) (by decide +kernel)
  have hw1 := hts (.constantLong RX9 230 (2)) (by decide +kernel)
  unfold fX9_isSheet at h
  refine lv_iload_n hx hb dX9_isSheet_0 rfl (lv_at hl 0 rfl) ?_
  refine lv_i2l hx hb dX9_isSheet_1 rfl ?_
  refine lv_lconst (v := 0) hx hb dX9_isSheet_2 (by decide) ?_
  refine lv_ldc2 hx hb hown hw0 dX9_isSheet_3 ?_
  obtain ⟨v1, hc, h⟩ := bd1_use h
  refine cp_i (As := [.long x0.toInt64, .long (0 : Int64), .long (3 : Int64)]) (rest := []) ⟨hx, hb, hml, hown, hts⟩ (kX9_in l n x0.toInt64 (0 : Int64) (3 : Int64) v1 hc) (va_cwS 3 hts gX9_isSheet_X9_in rfl rfl rfl (by decide +kernel) ⟨Nat.le_of_ble_eq_true rfl, Nat.le_of_ble_eq_true rfl⟩) hS rfl hl.1 rfl (Nat.le_of_ble_eq_true rfl) dX9_isSheet_6 ⟨Nat.zero_le _, Nat.zero_le _⟩ (fun H locs hS => ?_)
  refine lv_if_eq (tgt := 28) hx hb dX9_isSheet_9 (by decide) (fun c2 => ?_) (fun c2 => ?_)
  · have h := it_use c2 h
    refine lv_iconst (v := 0) hx hb dX9_isSheet_28 (by decide) ?_
    obtain er := rt1_use h
    exact rp_z hx hb hr hlocks hS (Or.inl rfl) er dX9_isSheet_29
  · have h := ie_use c2 h
    refine lv_iload_n hx hb dX9_isSheet_12 rfl (lv_at hl 1 rfl) ?_
    refine lv_i2l hx hb dX9_isSheet_13 rfl ?_
    refine lv_lconst (v := 0) hx hb dX9_isSheet_14 (by decide) ?_
    refine lv_ldc2 hx hb hown hw1 dX9_isSheet_15 ?_
    obtain ⟨v3, hc, h⟩ := bd1_use h
    refine cp_i (As := [.long x1.toInt64, .long (0 : Int64), .long (2 : Int64)]) (rest := []) ⟨hx, hb, hml, hown, hts⟩ (kX9_in l n x1.toInt64 (0 : Int64) (2 : Int64) v3 hc) (va_cwS 3 hts gX9_isSheet_X9_in rfl rfl rfl (by decide +kernel) ⟨Nat.le_of_ble_eq_true rfl, Nat.le_of_ble_eq_true rfl⟩) hS rfl hl.1 rfl (Nat.le_of_ble_eq_true rfl) dX9_isSheet_18 ⟨Nat.zero_le _, Nat.zero_le _⟩ (fun H locs hS => ?_)
    refine lv_if_eq (tgt := 28) hx hb dX9_isSheet_21 (by decide) (fun c4 => ?_) (fun c4 => ?_)
    · have h := it_use c4 h
      refine lv_iconst (v := 0) hx hb dX9_isSheet_28 (by decide) ?_
      obtain er := rt1_use h
      exact rp_z hx hb hr hlocks hS (Or.inl rfl) er dX9_isSheet_29
    · have h := ie_use c4 h
      refine lv_iconst (v := 1) hx hb dX9_isSheet_24 (by decide) ?_
      refine lv_goto (tgt := 29) hx hb dX9_isSheet_25 (by decide) ?_
      obtain er := rt1_use h
      exact rp_z hx hb hr hlocks hS (Or.inr rfl) er dX9_isSheet_29
set_option maxHeartbeats 4000000 in
set_option maxRecDepth 100000 in
theorem kX9_means_p225 {p : Program} {l : Launch} {e : Env} {s : State} {m : MethodId} {args : Array Value} {below : List Frame} {meth : Method} {c : Code} {A : Nat → Prop} (dC : Nat → ClassId) (dI : Nat → Nat → Nat) (cB cI cJ cZ : ClassId) (a : Nat → Nat) (C0 : cxt cX9_means (some .int) 11 RX9 wsX9_means (dC, dI) (tyz cB cI cJ cZ) E_0 A p s m args meth c) (n : Nat) (m_letters : Nat → Int32) (m_words : Int32) (m_wMany : Nat → Int32) (m_wLetters : Nat → Int32) (m_asks : Int32) (m_aWords : Nat → Int32) (m_dLetters : Nat → Int32) (m_dWords : Int32) (m_dMany : Nat → Int32) (m_dText : Nat → Int32) (m_dAsks : Int32) (m_dAsk : Nat → Int32) (m_tape : Nat → Int32) (m_taped : Int32) (m_pos : Int32) (m_from : Int32) (m_sort : Int32) (m_value : Int32) (m_fault : Int32) (m_wrongAt : Int32) (m_manyA : Int32) (m_rowA : Nat → Int32) (m_manyB : Int32) (m_rowB : Nat → Int32) (m_places : Int32) (m_xs : Nat → Int32) (m_ys : Nat → Int32) (m_heights : Nat → Int32) (m_ridges : Int32) (m_rx : Nat → Int32) (m_rHeight : Nat → Int32) (m_lanes : Nat → Int32) (m_sizes : Nat → Int32) (m_cells : Nat → Int32) (m_left : Nat → Int32) (m_calls : Int32) (m_cDay : Nat → Int32) (m_cHour : Nat → Int32) (m_cFrom : Nat → Int32) (m_cAsk : Nat → Int32) (m_cWord : Nat → Int32) (m_cOf : Nat → Int32) (m_isLie : Nat → Int32) (m_children : Int32) (m_learned : Nat → Int32) (m_group : Nat → Int32)  (x1 : Int32) (x2 : Int32) (x3 : Int32) (x5 : Int32) (x6 : Int32) (x7 : Int32) (x8 : Int32) (x9 : Int32)  (r0 : Int32) (z_m_manyA : Int32) (z_m_rowA : Nat → Int32) (rec117 : Int32 → (Nat → Int32) → Int32 → Int32 → Option (Int32 × Int32 × (Nat → Int32))) (hrec117 : ∀ (y_m_manyA : Int32) (y_m_rowA : Nat → Int32) (y_x7 : Int32) (y_x8 : Int32) (H : Heap) (locs : List Loc) (ls : Array Slot), rec117 y_m_manyA y_m_rowA y_x7 y_x8 = some (r0, z_m_manyA, z_m_rowA) → va_P (dC, dI) vwCl (wM cB cI cJ cZ a m_letters m_words m_wMany m_wLetters m_asks m_aWords m_dLetters m_dWords m_dMany m_dText m_dAsks m_dAsk m_tape m_taped m_pos m_from m_sort m_value m_fault m_wrongAt y_m_manyA y_m_rowA m_manyB m_rowB m_places m_xs m_ys m_heights m_ridges m_rx m_rHeight m_lanes m_sizes m_cells m_left m_calls m_cDay m_cHour m_cFrom m_cAsk m_cWord m_cOf m_isLie m_children m_learned m_group) H → va_D A (wM cB cI cJ cZ a m_letters m_words m_wMany m_wLetters m_asks m_aWords m_dLetters m_dWords m_dMany m_dText m_dAsks m_dAsk m_tape m_taped m_pos m_from m_sort m_value m_fault m_wrongAt y_m_manyA y_m_rowA m_manyB m_rowB m_places m_xs m_ys m_heights m_ridges m_rx m_rHeight m_lanes m_sizes m_cells m_left m_calls m_cDay m_cHour m_cFrom m_cAsk m_cWord m_cOf m_isLie m_children m_learned m_group) → va_S A s.heap H locs → lv_has ls 11 [(0, .ref (a 0)), (1, .int x1), (2, .int x2), (3, .int x3), (5, .int x5), (6, .int x6), (7, .int y_x7), (8, .int y_x8)] → W p l e { frames := 2, cells := 0, slots := 0, locals := 47 } s m args below meth c H locs 0 0 (MQ below (gI (dC, dI) (tyz cB cI cJ cZ) (wM cB cI cJ cZ a m_letters m_words m_wMany m_wLetters m_asks m_aWords m_dLetters m_dWords m_dMany m_dText m_dAsks m_dAsk m_tape m_taped m_pos m_from m_sort m_value m_fault m_wrongAt z_m_manyA z_m_rowA m_manyB m_rowB m_places m_xs m_ys m_heights m_ridges m_rx m_rHeight m_lanes m_sizes m_cells m_left m_calls m_cDay m_cHour m_cFrom m_cAsk m_cWord m_cOf m_isLie m_children m_learned m_group) A r0) args s 0 0 A) (F0 m 117 ls [])) (H : Heap) (locs : List Loc) (ls : Array Slot) : fX9_means_p225 n m_letters m_words m_wMany m_wLetters m_aWords m_manyA m_rowA m_cells x1 x2 x3 x5 x6 x7 x8 x9 rec117 = some (r0, z_m_manyA, z_m_rowA) → va_P (dC, dI) vwCl (wM cB cI cJ cZ a m_letters m_words m_wMany m_wLetters m_asks m_aWords m_dLetters m_dWords m_dMany m_dText m_dAsks m_dAsk m_tape m_taped m_pos m_from m_sort m_value m_fault m_wrongAt m_manyA m_rowA m_manyB m_rowB m_places m_xs m_ys m_heights m_ridges m_rx m_rHeight m_lanes m_sizes m_cells m_left m_calls m_cDay m_cHour m_cFrom m_cAsk m_cWord m_cOf m_isLie m_children m_learned m_group) H → va_D A (wM cB cI cJ cZ a m_letters m_words m_wMany m_wLetters m_asks m_aWords m_dLetters m_dWords m_dMany m_dText m_dAsks m_dAsk m_tape m_taped m_pos m_from m_sort m_value m_fault m_wrongAt m_manyA m_rowA m_manyB m_rowB m_places m_xs m_ys m_heights m_ridges m_rx m_rHeight m_lanes m_sizes m_cells m_left m_calls m_cDay m_cHour m_cFrom m_cAsk m_cWord m_cOf m_isLie m_children m_learned m_group) → va_S A s.heap H locs → lv_has ls 11 [(0, .ref (a 0)), (1, .int x1), (2, .int x2), (3, .int x3), (5, .int x5), (6, .int x6), (7, .int x7), (8, .int x8), (9, .int x9)] → W p l e { frames := 2, cells := 0, slots := 0, locals := 47 } s m args below meth c H locs 0 0 (MQ below (gI (dC, dI) (tyz cB cI cJ cZ) (wM cB cI cJ cZ a m_letters m_words m_wMany m_wLetters m_asks m_aWords m_dLetters m_dWords m_dMany m_dText m_dAsks m_dAsk m_tape m_taped m_pos m_from m_sort m_value m_fault m_wrongAt z_m_manyA z_m_rowA m_manyB m_rowB m_places m_xs m_ys m_heights m_ridges m_rx m_rHeight m_lanes m_sizes m_cells m_left m_calls m_cDay m_cHour m_cFrom m_cAsk m_cWord m_cOf m_isLie m_children m_learned m_group) A r0) args s 0 0 A) (F0 m 225 ls []) := by
  intro h hP hD hS hl
  obtain ⟨hx, hb, hr, hml, hown, hts, hlocks, hK, hA, hE⟩ := id C0
  unfold fX9_means_p225 at h
  refine lv_iload hx hb dX9_means_225 (lv_at hl 6 rfl) ?_
  refine lv_iload hx hb dX9_means_227 (lv_at hl 8 rfl) ?_
  refine lv_if_eq (tgt := 239) hx hb dX9_means_229 (by decide) (fun c1 => ?_) (fun c1 => ?_)
  · have h := it_use c1 h
    refine lv_iconst (v := 0) hx hb dX9_means_239 (by decide) ?_
    refine lv_ior hx hb dX9_means_240 ?_
    refine lv_topi (fun v2 ev2 => ?_)
    have h := nm_use ev2 h
    refine lv_istore (lv' := [(7, .int v2), (0, .ref (a 0)), (1, .int x1), (2, .int x2), (3, .int x3), (5, .int x5), (6, .int x6), (8, .int x8), (9, .int x9)]) hx hb dX9_means_241 hl (by decide) rfl (fun ls hl => ?_)
    refine lv_iinc (v := x8 + 1) (lv' := [(8, .int (x8 + 1)), (7, .int v2), (0, .ref (a 0)), (1, .int x1), (2, .int x2), (3, .int x3), (5, .int x5), (6, .int x6), (9, .int x9)]) hx hb dX9_means_243 hl (k := 7) rfl rfl (by decide) rfl (fun ls hl => ?_)
    refine lv_goto (tgt := 117) hx hb dX9_means_246 (by decide) ?_
    exact hrec117 m_manyA m_rowA v2 (x8 + 1) _ _ ls h hP hD hS (lv_sub hl [2, 3, 4, 5, 6, 7, 1, 0] rfl)
  · have h := ie_use c1 h
    refine lv_iconst (v := 1) hx hb dX9_means_232 (by decide) ?_
    refine lv_iload hx hb dX9_means_233 (lv_at hl 7 rfl) ?_
    refine lv_ishl hx hb dX9_means_235 ?_
    refine lv_goto (tgt := 240) hx hb dX9_means_236 (by decide) ?_
    refine lv_ior hx hb dX9_means_240 ?_
    refine lv_topi (fun v3 ev3 => ?_)
    have h := nm_use ev3 h
    refine lv_istore (lv' := [(7, .int v3), (0, .ref (a 0)), (1, .int x1), (2, .int x2), (3, .int x3), (5, .int x5), (6, .int x6), (8, .int x8), (9, .int x9)]) hx hb dX9_means_241 hl (by decide) rfl (fun ls hl => ?_)
    refine lv_iinc (v := x8 + 1) (lv' := [(8, .int (x8 + 1)), (7, .int v3), (0, .ref (a 0)), (1, .int x1), (2, .int x2), (3, .int x3), (5, .int x5), (6, .int x6), (9, .int x9)]) hx hb dX9_means_243 hl (k := 7) rfl rfl (by decide) rfl (fun ls hl => ?_)
    refine lv_goto (tgt := 117) hx hb dX9_means_246 (by decide) ?_
    exact hrec117 m_manyA m_rowA v3 (x8 + 1) _ _ ls h hP hD hS (lv_sub hl [2, 3, 4, 5, 6, 7, 1, 0] rfl)
set_option maxHeartbeats 4000000 in
set_option maxRecDepth 100000 in
theorem kX9_means_p175_r {p : Program} {l : Launch} {e : Env} {s : State} {m : MethodId} {args : Array Value} {below : List Frame} {meth : Method} {c : Code} {A : Nat → Prop} (dC : Nat → ClassId) (dI : Nat → Nat → Nat) (cB cI cJ cZ : ClassId) (a : Nat → Nat) (C0 : cxt cX9_means (some .int) 11 RX9 wsX9_means (dC, dI) (tyz cB cI cJ cZ) E_0 A p s m args meth c) (n : Nat) (m_letters : Nat → Int32) (m_words : Int32) (m_wMany : Nat → Int32) (m_wLetters : Nat → Int32) (m_asks : Int32) (m_aWords : Nat → Int32) (m_dLetters : Nat → Int32) (m_dWords : Int32) (m_dMany : Nat → Int32) (m_dText : Nat → Int32) (m_dAsks : Int32) (m_dAsk : Nat → Int32) (m_tape : Nat → Int32) (m_taped : Int32) (m_pos : Int32) (m_from : Int32) (m_sort : Int32) (m_value : Int32) (m_fault : Int32) (m_wrongAt : Int32) (m_manyA : Int32) (m_rowA : Nat → Int32) (m_manyB : Int32) (m_rowB : Nat → Int32) (m_places : Int32) (m_xs : Nat → Int32) (m_ys : Nat → Int32) (m_heights : Nat → Int32) (m_ridges : Int32) (m_rx : Nat → Int32) (m_rHeight : Nat → Int32) (m_lanes : Nat → Int32) (m_sizes : Nat → Int32) (m_cells : Nat → Int32) (m_left : Nat → Int32) (m_calls : Int32) (m_cDay : Nat → Int32) (m_cHour : Nat → Int32) (m_cFrom : Nat → Int32) (m_cAsk : Nat → Int32) (m_cWord : Nat → Int32) (m_cOf : Nat → Int32) (m_isLie : Nat → Int32) (m_children : Int32) (m_learned : Nat → Int32) (m_group : Nat → Int32) (x1 : Int32) (x2 : Int32) (x3 : Int32) (x5 : Int32) (x6 : Int32) (x7 : Int32) (x8 : Int32) (r0 : Int32) (z_m_manyA : Int32) (z_m_rowA : Nat → Int32) (rec117 : Int32 → (Nat → Int32) → Int32 → Int32 → Option (Int32 × Int32 × (Nat → Int32))) (hrec117 : ∀ (y_m_manyA : Int32) (y_m_rowA : Nat → Int32) (y_x7 : Int32) (y_x8 : Int32) (H : Heap) (locs : List Loc) (ls : Array Slot), rec117 y_m_manyA y_m_rowA y_x7 y_x8 = some (r0, z_m_manyA, z_m_rowA) → va_P (dC, dI) vwCl (wM cB cI cJ cZ a m_letters m_words m_wMany m_wLetters m_asks m_aWords m_dLetters m_dWords m_dMany m_dText m_dAsks m_dAsk m_tape m_taped m_pos m_from m_sort m_value m_fault m_wrongAt y_m_manyA y_m_rowA m_manyB m_rowB m_places m_xs m_ys m_heights m_ridges m_rx m_rHeight m_lanes m_sizes m_cells m_left m_calls m_cDay m_cHour m_cFrom m_cAsk m_cWord m_cOf m_isLie m_children m_learned m_group) H → va_D A (wM cB cI cJ cZ a m_letters m_words m_wMany m_wLetters m_asks m_aWords m_dLetters m_dWords m_dMany m_dText m_dAsks m_dAsk m_tape m_taped m_pos m_from m_sort m_value m_fault m_wrongAt y_m_manyA y_m_rowA m_manyB m_rowB m_places m_xs m_ys m_heights m_ridges m_rx m_rHeight m_lanes m_sizes m_cells m_left m_calls m_cDay m_cHour m_cFrom m_cAsk m_cWord m_cOf m_isLie m_children m_learned m_group) → va_S A s.heap H locs → lv_has ls 11 [(0, .ref (a 0)), (1, .int x1), (2, .int x2), (3, .int x3), (5, .int x5), (6, .int x6), (7, .int y_x7), (8, .int y_x8)] → W p l e { frames := 2, cells := 0, slots := 0, locals := 47 } s m args below meth c H locs 0 0 (MQ below (gI (dC, dI) (tyz cB cI cJ cZ) (wM cB cI cJ cZ a m_letters m_words m_wMany m_wLetters m_asks m_aWords m_dLetters m_dWords m_dMany m_dText m_dAsks m_dAsk m_tape m_taped m_pos m_from m_sort m_value m_fault m_wrongAt z_m_manyA z_m_rowA m_manyB m_rowB m_places m_xs m_ys m_heights m_ridges m_rx m_rHeight m_lanes m_sizes m_cells m_left m_calls m_cDay m_cHour m_cFrom m_cAsk m_cWord m_cOf m_isLie m_children m_learned m_group) A r0) args s 0 0 A) (F0 m 117 ls [])) : ∀ (k : Nat) (x9 : Int32) (x10 : Int32) (H : Heap) (locs : List Loc) (ls : Array Slot), fX9_means_p175 n m_letters m_words m_wMany m_wLetters m_aWords m_manyA m_rowA m_cells x1 x2 x3 x5 x6 x7 x8 rec117 k x9 x10 = some (r0, z_m_manyA, z_m_rowA) → va_P (dC, dI) vwCl (wM cB cI cJ cZ a m_letters m_words m_wMany m_wLetters m_asks m_aWords m_dLetters m_dWords m_dMany m_dText m_dAsks m_dAsk m_tape m_taped m_pos m_from m_sort m_value m_fault m_wrongAt m_manyA m_rowA m_manyB m_rowB m_places m_xs m_ys m_heights m_ridges m_rx m_rHeight m_lanes m_sizes m_cells m_left m_calls m_cDay m_cHour m_cFrom m_cAsk m_cWord m_cOf m_isLie m_children m_learned m_group) H → va_D A (wM cB cI cJ cZ a m_letters m_words m_wMany m_wLetters m_asks m_aWords m_dLetters m_dWords m_dMany m_dText m_dAsks m_dAsk m_tape m_taped m_pos m_from m_sort m_value m_fault m_wrongAt m_manyA m_rowA m_manyB m_rowB m_places m_xs m_ys m_heights m_ridges m_rx m_rHeight m_lanes m_sizes m_cells m_left m_calls m_cDay m_cHour m_cFrom m_cAsk m_cWord m_cOf m_isLie m_children m_learned m_group) → va_S A s.heap H locs → lv_has ls 11 [(0, .ref (a 0)), (1, .int x1), (2, .int x2), (3, .int x3), (5, .int x5), (6, .int x6), (7, .int x7), (8, .int x8), (9, .int x9), (10, .int x10)] → W p l e { frames := 2, cells := 0, slots := 0, locals := 47 } s m args below meth c H locs 0 0 (MQ below (gI (dC, dI) (tyz cB cI cJ cZ) (wM cB cI cJ cZ a m_letters m_words m_wMany m_wLetters m_asks m_aWords m_dLetters m_dWords m_dMany m_dText m_dAsks m_dAsk m_tape m_taped m_pos m_from m_sort m_value m_fault m_wrongAt z_m_manyA z_m_rowA m_manyB m_rowB m_places m_xs m_ys m_heights m_ridges m_rx m_rHeight m_lanes m_sizes m_cells m_left m_calls m_cDay m_cHour m_cFrom m_cAsk m_cWord m_cOf m_isLie m_children m_learned m_group) A r0) args s 0 0 A) (F0 m 175 ls []) := by
  obtain ⟨hx, hb, hr, hml, hown, hts, hlocks, hK, hA, hE⟩ := id C0
  have hw0 := hts (.fieldLink RX9 37 "WhistledWordsModel" "rowA" "[I") (by decide +kernel)
  have hw1 := hts (.fieldLink RX9 64 "WhistledWordsModel" "cells" "[I") (by decide +kernel)
  have hnX9 : ∀ w ∈ u_ws RX9 TX9 46, w ∈ wsX9_means := fun _ h => List.mem_cons_of_mem _ (List.mem_append_right _ h)
  intro k
  induction k with
  | zero =>
    intro x9 x10 H locs ls h
    cases h
  | succ k ih =>
    intro x9 x10 H locs ls h hP hD hS hl
    rw [fX9_means_p175] at h
    refine lv_iload hx hb dX9_means_175 (lv_at hl 9 rfl) ?_
    refine lv_iload hx hb dX9_means_177 (lv_at hl 5 rfl) ?_
    refine lv_icmp_ge (tgt := 225) hx hb dX9_means_179 (by decide) (fun c1 => ?_) (fun c1 => ?_)
    · have h := it_use c1 h
      exact kX9_means_p225 dC dI cB cI cJ cZ a C0 n m_letters m_words m_wMany m_wLetters m_asks m_aWords m_dLetters m_dWords m_dMany m_dText m_dAsks m_dAsk m_tape m_taped m_pos m_from m_sort m_value m_fault m_wrongAt m_manyA m_rowA m_manyB m_rowB m_places m_xs m_ys m_heights m_ridges m_rx m_rHeight m_lanes m_sizes m_cells m_left m_calls m_cDay m_cHour m_cFrom m_cAsk m_cWord m_cOf m_isLie m_children m_learned m_group x1 x2 x3 x5 x6 x7 x8 x9  r0 z_m_manyA z_m_rowA (rec117) hrec117 _ _ ls h hP hD hS (lv_sub hl [0, 1, 2, 3, 4, 5, 6, 7, 8] rfl)
    · have h := ie_use c1 h
      refine lv_iload hx hb dX9_means_182 (lv_at hl 8 rfl) ?_
      refine lv_if_eq (tgt := 225) hx hb dX9_means_184 (by decide) (fun c2 => ?_) (fun c2 => ?_)
      · have h := it_use c2 h
        exact kX9_means_p225 dC dI cB cI cJ cZ a C0 n m_letters m_words m_wMany m_wLetters m_asks m_aWords m_dLetters m_dWords m_dMany m_dText m_dAsks m_dAsk m_tape m_taped m_pos m_from m_sort m_value m_fault m_wrongAt m_manyA m_rowA m_manyB m_rowB m_places m_xs m_ys m_heights m_ridges m_rx m_rHeight m_lanes m_sizes m_cells m_left m_calls m_cDay m_cHour m_cFrom m_cAsk m_cWord m_cOf m_isLie m_children m_learned m_group x1 x2 x3 x5 x6 x7 x8 x9  r0 z_m_manyA z_m_rowA (rec117) hrec117 _ _ ls h hP hD hS (lv_sub hl [0, 1, 2, 3, 4, 5, 6, 7, 8] rfl)
      · have h := ie_use c2 h
        refine lv_aload_n hx hb dX9_means_187 rfl (lv_at hl 0 rfl) ?_
        refine gM_mo_rowA hx hb hts hnX9 hown hK hP hw0 dX9_means_188 ?_
        refine lv_iload hx hb dX9_means_191 (lv_at hl 9 rfl) ?_
        obtain ⟨hiv3, h⟩ := ar_use h
        refine lM_mo_rowA hx hb hK hP hiv3 dX9_means_193 ?_
        refine lv_topi (fun v3 ev3 => ?_)
        have h := h v3 ev3
        refine lv_aload_n hx hb dX9_means_194 rfl (lv_at hl 0 rfl) ?_
        refine gM_mo_cells hx hb hts hnX9 hown hK hP hw1 dX9_means_195 ?_
        refine lv_bipush (v := 60) hx hb dX9_means_198 (by decide) ?_
        refine lv_iload_n hx hb dX9_means_200 rfl (lv_at hl 3 rfl) ?_
        refine lv_imul hx hb dX9_means_201 ?_
        refine lv_iload hx hb dX9_means_202 (lv_at hl 4 rfl) ?_
        refine lv_iadd hx hb dX9_means_204 ?_
        refine lv_iload hx hb dX9_means_205 (lv_at hl 9 rfl) ?_
        refine lv_iadd hx hb dX9_means_207 ?_
        obtain ⟨hiv4, h⟩ := ar_use h
        refine lM_mo_cells hx hb hK hP hiv4 dX9_means_208 ?_
        refine lv_topi (fun v4 ev4 => ?_)
        have h := h v4 ev4
        refine lv_icmp_ne (tgt := 216) hx hb dX9_means_209 (by decide) (fun c5 => ?_) (fun c5 => ?_)
        · have h := ie_use c5 h
          refine lv_iconst (v := 0) hx hb dX9_means_216 (by decide) ?_
          refine lv_istore (lv' := [(9, .int (0 : Int32)), (0, .ref (a 0)), (1, .int x1), (2, .int x2), (3, .int x3), (5, .int x5), (6, .int x6), (7, .int x7), (8, .int x8), (10, .int x10)]) hx hb dX9_means_217 hl (by decide) rfl (fun ls hl => ?_)
          refine lv_iinc (v := x10 + 1) (lv' := [(10, .int (x10 + 1)), (9, .int (0 : Int32)), (0, .ref (a 0)), (1, .int x1), (2, .int x2), (3, .int x3), (5, .int x5), (6, .int x6), (7, .int x7), (8, .int x8)]) hx hb dX9_means_219 hl (k := 9) rfl rfl (by decide) rfl (fun ls hl => ?_)
          refine lv_goto (tgt := 175) hx hb dX9_means_222 (by decide) ?_
          exact ih (0 : Int32) (x10 + 1) _ _ ls h hP hD hS (lv_sub hl [2, 3, 4, 5, 6, 7, 8, 9, 1, 0] rfl)
        · have h := it_use c5 h
          refine lv_iconst (v := 1) hx hb dX9_means_212 (by decide) ?_
          refine lv_goto (tgt := 217) hx hb dX9_means_213 (by decide) ?_
          refine lv_istore (lv' := [(9, .int (1 : Int32)), (0, .ref (a 0)), (1, .int x1), (2, .int x2), (3, .int x3), (5, .int x5), (6, .int x6), (7, .int x7), (8, .int x8), (10, .int x10)]) hx hb dX9_means_217 hl (by decide) rfl (fun ls hl => ?_)
          refine lv_iinc (v := x10 + 1) (lv' := [(10, .int (x10 + 1)), (9, .int (1 : Int32)), (0, .ref (a 0)), (1, .int x1), (2, .int x2), (3, .int x3), (5, .int x5), (6, .int x6), (7, .int x7), (8, .int x8)]) hx hb dX9_means_219 hl (k := 9) rfl rfl (by decide) rfl (fun ls hl => ?_)
          refine lv_goto (tgt := 175) hx hb dX9_means_222 (by decide) ?_
          exact ih (1 : Int32) (x10 + 1) _ _ ls h hP hD hS (lv_sub hl [2, 3, 4, 5, 6, 7, 8, 9, 1, 0] rfl)
theorem kX9_means_p175 {p : Program} {l : Launch} {e : Env} {s : State} {m : MethodId} {args : Array Value} {below : List Frame} {meth : Method} {c : Code} {A : Nat → Prop} (dC : Nat → ClassId) (dI : Nat → Nat → Nat) (cB cI cJ cZ : ClassId) (a : Nat → Nat) (C0 : cxt cX9_means (some .int) 11 RX9 wsX9_means (dC, dI) (tyz cB cI cJ cZ) E_0 A p s m args meth c) (n : Nat) (m_letters : Nat → Int32) (m_words : Int32) (m_wMany : Nat → Int32) (m_wLetters : Nat → Int32) (m_asks : Int32) (m_aWords : Nat → Int32) (m_dLetters : Nat → Int32) (m_dWords : Int32) (m_dMany : Nat → Int32) (m_dText : Nat → Int32) (m_dAsks : Int32) (m_dAsk : Nat → Int32) (m_tape : Nat → Int32) (m_taped : Int32) (m_pos : Int32) (m_from : Int32) (m_sort : Int32) (m_value : Int32) (m_fault : Int32) (m_wrongAt : Int32) (m_manyA : Int32) (m_rowA : Nat → Int32) (m_manyB : Int32) (m_rowB : Nat → Int32) (m_places : Int32) (m_xs : Nat → Int32) (m_ys : Nat → Int32) (m_heights : Nat → Int32) (m_ridges : Int32) (m_rx : Nat → Int32) (m_rHeight : Nat → Int32) (m_lanes : Nat → Int32) (m_sizes : Nat → Int32) (m_cells : Nat → Int32) (m_left : Nat → Int32) (m_calls : Int32) (m_cDay : Nat → Int32) (m_cHour : Nat → Int32) (m_cFrom : Nat → Int32) (m_cAsk : Nat → Int32) (m_cWord : Nat → Int32) (m_cOf : Nat → Int32) (m_isLie : Nat → Int32) (m_children : Int32) (m_learned : Nat → Int32) (m_group : Nat → Int32)  (x1 : Int32) (x2 : Int32) (x3 : Int32) (x5 : Int32) (x6 : Int32) (x7 : Int32) (x8 : Int32) (x9 : Int32) (x10 : Int32) (r0 : Int32) (z_m_manyA : Int32) (z_m_rowA : Nat → Int32) (rec117 : Int32 → (Nat → Int32) → Int32 → Int32 → Option (Int32 × Int32 × (Nat → Int32))) (hrec117 : ∀ (y_m_manyA : Int32) (y_m_rowA : Nat → Int32) (y_x7 : Int32) (y_x8 : Int32) (H : Heap) (locs : List Loc) (ls : Array Slot), rec117 y_m_manyA y_m_rowA y_x7 y_x8 = some (r0, z_m_manyA, z_m_rowA) → va_P (dC, dI) vwCl (wM cB cI cJ cZ a m_letters m_words m_wMany m_wLetters m_asks m_aWords m_dLetters m_dWords m_dMany m_dText m_dAsks m_dAsk m_tape m_taped m_pos m_from m_sort m_value m_fault m_wrongAt y_m_manyA y_m_rowA m_manyB m_rowB m_places m_xs m_ys m_heights m_ridges m_rx m_rHeight m_lanes m_sizes m_cells m_left m_calls m_cDay m_cHour m_cFrom m_cAsk m_cWord m_cOf m_isLie m_children m_learned m_group) H → va_D A (wM cB cI cJ cZ a m_letters m_words m_wMany m_wLetters m_asks m_aWords m_dLetters m_dWords m_dMany m_dText m_dAsks m_dAsk m_tape m_taped m_pos m_from m_sort m_value m_fault m_wrongAt y_m_manyA y_m_rowA m_manyB m_rowB m_places m_xs m_ys m_heights m_ridges m_rx m_rHeight m_lanes m_sizes m_cells m_left m_calls m_cDay m_cHour m_cFrom m_cAsk m_cWord m_cOf m_isLie m_children m_learned m_group) → va_S A s.heap H locs → lv_has ls 11 [(0, .ref (a 0)), (1, .int x1), (2, .int x2), (3, .int x3), (5, .int x5), (6, .int x6), (7, .int y_x7), (8, .int y_x8)] → W p l e { frames := 2, cells := 0, slots := 0, locals := 47 } s m args below meth c H locs 0 0 (MQ below (gI (dC, dI) (tyz cB cI cJ cZ) (wM cB cI cJ cZ a m_letters m_words m_wMany m_wLetters m_asks m_aWords m_dLetters m_dWords m_dMany m_dText m_dAsks m_dAsk m_tape m_taped m_pos m_from m_sort m_value m_fault m_wrongAt z_m_manyA z_m_rowA m_manyB m_rowB m_places m_xs m_ys m_heights m_ridges m_rx m_rHeight m_lanes m_sizes m_cells m_left m_calls m_cDay m_cHour m_cFrom m_cAsk m_cWord m_cOf m_isLie m_children m_learned m_group) A r0) args s 0 0 A) (F0 m 117 ls [])) (k : Nat) (H : Heap) (locs : List Loc) (ls : Array Slot) : fX9_means_p175 n m_letters m_words m_wMany m_wLetters m_aWords m_manyA m_rowA m_cells x1 x2 x3 x5 x6 x7 x8 rec117 k x9 x10 = some (r0, z_m_manyA, z_m_rowA) → va_P (dC, dI) vwCl (wM cB cI cJ cZ a m_letters m_words m_wMany m_wLetters m_asks m_aWords m_dLetters m_dWords m_dMany m_dText m_dAsks m_dAsk m_tape m_taped m_pos m_from m_sort m_value m_fault m_wrongAt m_manyA m_rowA m_manyB m_rowB m_places m_xs m_ys m_heights m_ridges m_rx m_rHeight m_lanes m_sizes m_cells m_left m_calls m_cDay m_cHour m_cFrom m_cAsk m_cWord m_cOf m_isLie m_children m_learned m_group) H → va_D A (wM cB cI cJ cZ a m_letters m_words m_wMany m_wLetters m_asks m_aWords m_dLetters m_dWords m_dMany m_dText m_dAsks m_dAsk m_tape m_taped m_pos m_from m_sort m_value m_fault m_wrongAt m_manyA m_rowA m_manyB m_rowB m_places m_xs m_ys m_heights m_ridges m_rx m_rHeight m_lanes m_sizes m_cells m_left m_calls m_cDay m_cHour m_cFrom m_cAsk m_cWord m_cOf m_isLie m_children m_learned m_group) → va_S A s.heap H locs → lv_has ls 11 [(0, .ref (a 0)), (1, .int x1), (2, .int x2), (3, .int x3), (5, .int x5), (6, .int x6), (7, .int x7), (8, .int x8), (9, .int x9), (10, .int x10)] → W p l e { frames := 2, cells := 0, slots := 0, locals := 47 } s m args below meth c H locs 0 0 (MQ below (gI (dC, dI) (tyz cB cI cJ cZ) (wM cB cI cJ cZ a m_letters m_words m_wMany m_wLetters m_asks m_aWords m_dLetters m_dWords m_dMany m_dText m_dAsks m_dAsk m_tape m_taped m_pos m_from m_sort m_value m_fault m_wrongAt z_m_manyA z_m_rowA m_manyB m_rowB m_places m_xs m_ys m_heights m_ridges m_rx m_rHeight m_lanes m_sizes m_cells m_left m_calls m_cDay m_cHour m_cFrom m_cAsk m_cWord m_cOf m_isLie m_children m_learned m_group) A r0) args s 0 0 A) (F0 m 175 ls []) :=
  kX9_means_p175_r dC dI cB cI cJ cZ a C0 n m_letters m_words m_wMany m_wLetters m_asks m_aWords m_dLetters m_dWords m_dMany m_dText m_dAsks m_dAsk m_tape m_taped m_pos m_from m_sort m_value m_fault m_wrongAt m_manyA m_rowA m_manyB m_rowB m_places m_xs m_ys m_heights m_ridges m_rx m_rHeight m_lanes m_sizes m_cells m_left m_calls m_cDay m_cHour m_cFrom m_cAsk m_cWord m_cOf m_isLie m_children m_learned m_group x1 x2 x3 x5 x6 x7 x8 r0 z_m_manyA z_m_rowA rec117 hrec117 k x9 x10 H locs ls
set_option maxHeartbeats 4000000 in
set_option maxRecDepth 100000 in
theorem kX9_means_p117_r {p : Program} {l : Launch} {e : Env} {s : State} {m : MethodId} {args : Array Value} {below : List Frame} {meth : Method} {c : Code} {A : Nat → Prop} (dC : Nat → ClassId) (dI : Nat → Nat → Nat) (cB cI cJ cZ : ClassId) (a : Nat → Nat) (C0 : cxt cX9_means (some .int) 11 RX9 wsX9_means (dC, dI) (tyz cB cI cJ cZ) E_0 A p s m args meth c) (n : Nat) (m_letters : Nat → Int32) (m_words : Int32) (m_wMany : Nat → Int32) (m_wLetters : Nat → Int32) (m_asks : Int32) (m_aWords : Nat → Int32) (m_dLetters : Nat → Int32) (m_dWords : Int32) (m_dMany : Nat → Int32) (m_dText : Nat → Int32) (m_dAsks : Int32) (m_dAsk : Nat → Int32) (m_tape : Nat → Int32) (m_taped : Int32) (m_pos : Int32) (m_from : Int32) (m_sort : Int32) (m_value : Int32) (m_fault : Int32) (m_wrongAt : Int32) (m_manyB : Int32) (m_rowB : Nat → Int32) (m_places : Int32) (m_xs : Nat → Int32) (m_ys : Nat → Int32) (m_heights : Nat → Int32) (m_ridges : Int32) (m_rx : Nat → Int32) (m_rHeight : Nat → Int32) (m_lanes : Nat → Int32) (m_sizes : Nat → Int32) (m_cells : Nat → Int32) (m_left : Nat → Int32) (m_calls : Int32) (m_cDay : Nat → Int32) (m_cHour : Nat → Int32) (m_cFrom : Nat → Int32) (m_cAsk : Nat → Int32) (m_cWord : Nat → Int32) (m_cOf : Nat → Int32) (m_isLie : Nat → Int32) (m_children : Int32) (m_learned : Nat → Int32) (m_group : Nat → Int32) (x1 : Int32) (x2 : Int32) (x3 : Int32) (x5 : Int32) (x6 : Int32) (r0 : Int32) (z_m_manyA : Int32) (z_m_rowA : Nat → Int32)  : ∀ (k : Nat) (m_manyA : Int32) (m_rowA : Nat → Int32) (x7 : Int32) (x8 : Int32) (H : Heap) (locs : List Loc) (ls : Array Slot), fX9_means_p117 n m_letters m_words m_wMany m_wLetters m_aWords m_cells x1 x2 x3 x5 x6 k m_manyA m_rowA x7 x8 = some (r0, z_m_manyA, z_m_rowA) → va_P (dC, dI) vwCl (wM cB cI cJ cZ a m_letters m_words m_wMany m_wLetters m_asks m_aWords m_dLetters m_dWords m_dMany m_dText m_dAsks m_dAsk m_tape m_taped m_pos m_from m_sort m_value m_fault m_wrongAt m_manyA m_rowA m_manyB m_rowB m_places m_xs m_ys m_heights m_ridges m_rx m_rHeight m_lanes m_sizes m_cells m_left m_calls m_cDay m_cHour m_cFrom m_cAsk m_cWord m_cOf m_isLie m_children m_learned m_group) H → va_D A (wM cB cI cJ cZ a m_letters m_words m_wMany m_wLetters m_asks m_aWords m_dLetters m_dWords m_dMany m_dText m_dAsks m_dAsk m_tape m_taped m_pos m_from m_sort m_value m_fault m_wrongAt m_manyA m_rowA m_manyB m_rowB m_places m_xs m_ys m_heights m_ridges m_rx m_rHeight m_lanes m_sizes m_cells m_left m_calls m_cDay m_cHour m_cFrom m_cAsk m_cWord m_cOf m_isLie m_children m_learned m_group) → va_S A s.heap H locs → lv_has ls 11 [(0, .ref (a 0)), (1, .int x1), (2, .int x2), (3, .int x3), (5, .int x5), (6, .int x6), (7, .int x7), (8, .int x8)] → W p l e { frames := 2, cells := 0, slots := 0, locals := 47 } s m args below meth c H locs 0 0 (MQ below (gI (dC, dI) (tyz cB cI cJ cZ) (wM cB cI cJ cZ a m_letters m_words m_wMany m_wLetters m_asks m_aWords m_dLetters m_dWords m_dMany m_dText m_dAsks m_dAsk m_tape m_taped m_pos m_from m_sort m_value m_fault m_wrongAt z_m_manyA z_m_rowA m_manyB m_rowB m_places m_xs m_ys m_heights m_ridges m_rx m_rHeight m_lanes m_sizes m_cells m_left m_calls m_cDay m_cHour m_cFrom m_cAsk m_cWord m_cOf m_isLie m_children m_learned m_group) A r0) args s 0 0 A) (F0 m 117 ls []) := by
  obtain ⟨hx, hb, hr, hml, hown, hts, hlocks, hK, hA, hE⟩ := id C0
  have hw0 := hts (.fieldLink RX9 186 "WhistledWordsModel" "words" "I") (by decide +kernel)
  have hw1 := hts (.fieldLink RX9 37 "WhistledWordsModel" "rowA" "[I") (by decide +kernel)
  have hw2 := hts (.fieldLink RX9 206 "WhistledWordsModel" "manyA" "I") (by decide +kernel)
  have hw3 := hts (.fieldLink RX9 19 "WhistledWordsModel" "aWords" "[I") (by decide +kernel)
  have hnX9 : ∀ w ∈ u_ws RX9 TX9 46, w ∈ wsX9_means := fun _ h => List.mem_cons_of_mem _ (List.mem_append_right _ h)
  intro k
  induction k with
  | zero =>
    intro m_manyA m_rowA x7 x8 H locs ls h
    cases h
  | succ k ih =>
    intro m_manyA m_rowA x7 x8 H locs ls h hP hD hS hl
    rw [fX9_means_p117] at h
    refine lv_iload hx hb dX9_means_117 (lv_at hl 7 rfl) ?_
    refine lv_aload_n hx hb dX9_means_119 rfl (lv_at hl 0 rfl) ?_
    refine gM_mo_words hx hb hts hnX9 hown hK hP hw0 dX9_means_120 ?_
    refine lv_icmp_ge (tgt := 249) hx hb dX9_means_123 (by decide) (fun c1 => ?_) (fun c1 => ?_)
    · have h := it_use c1 h
      refine lv_iload hx hb dX9_means_249 (lv_at hl 6 rfl) ?_
      obtain ⟨er, ez0, ez1⟩ := rt3_use h
      subst ez0
      subst ez1
      exact re_i hx hb hr hlocks hK hP hD hS er dX9_means_251
    · have h := ie_use c1 h
      refine lv_aload_n hx hb dX9_means_126 rfl (lv_at hl 0 rfl) ?_
      refine lv_aload_n hx hb dX9_means_127 rfl (lv_at hl 0 rfl) ?_
      refine lv_iload hx hb dX9_means_128 (lv_at hl 7 rfl) ?_
      refine lv_iload_n hx hb dX9_means_130 rfl (lv_at hl 2 rfl) ?_
      refine lv_aload_n hx hb dX9_means_131 rfl (lv_at hl 0 rfl) ?_
      refine gM_mo_rowA hx hb hts hnX9 hown hK hP hw1 dX9_means_132 ?_
      obtain ⟨v2, f3, hc, h⟩ := bd2_use h
      refine cv_i (As := [.int x8, .int x2, .ref (a 10)]) (rest := [.ref (a 0)]) ⟨hx, hb, hml, hown, hts⟩ (kX9_rowOf_rowA l n dC dI cB cI cJ cZ a _ m_letters m_words m_wMany m_wLetters m_asks m_aWords m_dLetters m_dWords m_dMany m_dText m_dAsks m_dAsk m_tape m_taped m_pos m_from m_sort m_value m_fault m_wrongAt m_manyA m_rowA m_manyB m_rowB m_places m_xs m_ys m_heights m_ridges m_rx m_rHeight m_lanes m_sizes m_cells m_left m_calls m_cDay m_cHour m_cFrom m_cAsk m_cWord m_cOf m_isLie m_children m_learned m_group x8 x2 v2 f3 hc) (cwV 3 hts gX9_means_X9_rowOf rfl rfl rfl (by decide +kernel) ⟨Nat.le_of_ble_eq_true rfl, Nat.le_of_ble_eq_true rfl⟩) EB_0 hE hK hP hD hS hA 0 (ci := 8) rfl rfl rfl rfl hl.1 rfl (Nat.le_of_ble_eq_true rfl) dX9_means_135 ⟨Nat.zero_le _, Nat.zero_le _⟩ (fun H locs hP hD hS => ?_)
      refine pM_mo_manyA hx hb hts hnX9 hown hK hP hD hS hw2 dX9_means_138 (fun H locs hP hD hS => ?_)
      refine lv_aload_n hx hb dX9_means_141 rfl (lv_at hl 0 rfl) ?_
      refine gM_mo_aWords hx hb hts hnX9 hown hK hP hw3 dX9_means_142 ?_
      refine lv_iload_n hx hb dX9_means_145 rfl (lv_at hl 1 rfl) ?_
      obtain ⟨hiv4, h⟩ := ar_use h
      refine lM_mo_aWords hx hb hK hP hiv4 dX9_means_146 ?_
      refine lv_topi (fun v4 ev4 => ?_)
      have h := h v4 ev4
      refine lv_iload hx hb dX9_means_147 (lv_at hl 7 rfl) ?_
      refine lv_ishr hx hb dX9_means_149 ?_
      refine lv_iconst (v := 1) hx hb dX9_means_150 (by decide) ?_
      refine lv_iand hx hb dX9_means_151 ?_
      refine lv_iconst (v := 1) hx hb dX9_means_152 (by decide) ?_
      refine lv_icmp_ne (tgt := 169) hx hb dX9_means_153 (by decide) (fun c5 => ?_) (fun c5 => ?_)
      · have h := ie_use c5 h
        refine lv_iconst (v := 0) hx hb dX9_means_169 (by decide) ?_
        refine lv_istore (lv' := [(9, .int (0 : Int32)), (0, .ref (a 0)), (1, .int x1), (2, .int x2), (3, .int x3), (5, .int x5), (6, .int x6), (7, .int x7), (8, .int x8)]) hx hb dX9_means_170 hl (by decide) rfl (fun ls hl => ?_)
        refine lv_iconst (v := 0) hx hb dX9_means_172 (by decide) ?_
        refine lv_istore (lv' := [(10, .int (0 : Int32)), (9, .int (0 : Int32)), (0, .ref (a 0)), (1, .int x1), (2, .int x2), (3, .int x3), (5, .int x5), (6, .int x6), (7, .int x7), (8, .int x8)]) hx hb dX9_means_173 hl (by decide) rfl (fun ls hl => ?_)
        exact kX9_means_p175 dC dI cB cI cJ cZ a C0 n m_letters m_words m_wMany m_wLetters m_asks m_aWords m_dLetters m_dWords m_dMany m_dText m_dAsks m_dAsk m_tape m_taped m_pos m_from m_sort m_value m_fault m_wrongAt v2 f3 m_manyB m_rowB m_places m_xs m_ys m_heights m_ridges m_rx m_rHeight m_lanes m_sizes m_cells m_left m_calls m_cDay m_cHour m_cFrom m_cAsk m_cWord m_cOf m_isLie m_children m_learned m_group x1 x2 x3 x5 x6 x7 x8 (0 : Int32) (0 : Int32) r0 z_m_manyA z_m_rowA (fX9_means_p117 n m_letters m_words m_wMany m_wLetters m_aWords m_cells x1 x2 x3 x5 x6 k) ih n _ _ ls h hP hD hS (lv_sub hl [2, 3, 4, 5, 6, 7, 8, 9, 1, 0] rfl)
      · have h := it_use c5 h
        refine lv_aload_n hx hb dX9_means_156 rfl (lv_at hl 0 rfl) ?_
        refine gM_mo_manyA hx hb hts hnX9 hown hK hP hw2 dX9_means_157 ?_
        refine lv_iload hx hb dX9_means_160 (lv_at hl 5 rfl) ?_
        refine lv_icmp_ne (tgt := 169) hx hb dX9_means_162 (by decide) (fun c6 => ?_) (fun c6 => ?_)
        · have h := ie_use c6 h
          refine lv_iconst (v := 0) hx hb dX9_means_169 (by decide) ?_
          refine lv_istore (lv' := [(9, .int (0 : Int32)), (0, .ref (a 0)), (1, .int x1), (2, .int x2), (3, .int x3), (5, .int x5), (6, .int x6), (7, .int x7), (8, .int x8)]) hx hb dX9_means_170 hl (by decide) rfl (fun ls hl => ?_)
          refine lv_iconst (v := 0) hx hb dX9_means_172 (by decide) ?_
          refine lv_istore (lv' := [(10, .int (0 : Int32)), (9, .int (0 : Int32)), (0, .ref (a 0)), (1, .int x1), (2, .int x2), (3, .int x3), (5, .int x5), (6, .int x6), (7, .int x7), (8, .int x8)]) hx hb dX9_means_173 hl (by decide) rfl (fun ls hl => ?_)
          exact kX9_means_p175 dC dI cB cI cJ cZ a C0 n m_letters m_words m_wMany m_wLetters m_asks m_aWords m_dLetters m_dWords m_dMany m_dText m_dAsks m_dAsk m_tape m_taped m_pos m_from m_sort m_value m_fault m_wrongAt v2 f3 m_manyB m_rowB m_places m_xs m_ys m_heights m_ridges m_rx m_rHeight m_lanes m_sizes m_cells m_left m_calls m_cDay m_cHour m_cFrom m_cAsk m_cWord m_cOf m_isLie m_children m_learned m_group x1 x2 x3 x5 x6 x7 x8 (0 : Int32) (0 : Int32) r0 z_m_manyA z_m_rowA (fX9_means_p117 n m_letters m_words m_wMany m_wLetters m_aWords m_cells x1 x2 x3 x5 x6 k) ih n _ _ ls h hP hD hS (lv_sub hl [2, 3, 4, 5, 6, 7, 8, 9, 1, 0] rfl)
        · have h := it_use c6 h
          refine lv_iconst (v := 1) hx hb dX9_means_165 (by decide) ?_
          refine lv_goto (tgt := 170) hx hb dX9_means_166 (by decide) ?_
          refine lv_istore (lv' := [(9, .int (1 : Int32)), (0, .ref (a 0)), (1, .int x1), (2, .int x2), (3, .int x3), (5, .int x5), (6, .int x6), (7, .int x7), (8, .int x8)]) hx hb dX9_means_170 hl (by decide) rfl (fun ls hl => ?_)
          refine lv_iconst (v := 0) hx hb dX9_means_172 (by decide) ?_
          refine lv_istore (lv' := [(10, .int (0 : Int32)), (9, .int (1 : Int32)), (0, .ref (a 0)), (1, .int x1), (2, .int x2), (3, .int x3), (5, .int x5), (6, .int x6), (7, .int x7), (8, .int x8)]) hx hb dX9_means_173 hl (by decide) rfl (fun ls hl => ?_)
          exact kX9_means_p175 dC dI cB cI cJ cZ a C0 n m_letters m_words m_wMany m_wLetters m_asks m_aWords m_dLetters m_dWords m_dMany m_dText m_dAsks m_dAsk m_tape m_taped m_pos m_from m_sort m_value m_fault m_wrongAt v2 f3 m_manyB m_rowB m_places m_xs m_ys m_heights m_ridges m_rx m_rHeight m_lanes m_sizes m_cells m_left m_calls m_cDay m_cHour m_cFrom m_cAsk m_cWord m_cOf m_isLie m_children m_learned m_group x1 x2 x3 x5 x6 x7 x8 (1 : Int32) (0 : Int32) r0 z_m_manyA z_m_rowA (fX9_means_p117 n m_letters m_words m_wMany m_wLetters m_aWords m_cells x1 x2 x3 x5 x6 k) ih n _ _ ls h hP hD hS (lv_sub hl [2, 3, 4, 5, 6, 7, 8, 9, 1, 0] rfl)
theorem kX9_means_p117 {p : Program} {l : Launch} {e : Env} {s : State} {m : MethodId} {args : Array Value} {below : List Frame} {meth : Method} {c : Code} {A : Nat → Prop} (dC : Nat → ClassId) (dI : Nat → Nat → Nat) (cB cI cJ cZ : ClassId) (a : Nat → Nat) (C0 : cxt cX9_means (some .int) 11 RX9 wsX9_means (dC, dI) (tyz cB cI cJ cZ) E_0 A p s m args meth c) (n : Nat) (m_letters : Nat → Int32) (m_words : Int32) (m_wMany : Nat → Int32) (m_wLetters : Nat → Int32) (m_asks : Int32) (m_aWords : Nat → Int32) (m_dLetters : Nat → Int32) (m_dWords : Int32) (m_dMany : Nat → Int32) (m_dText : Nat → Int32) (m_dAsks : Int32) (m_dAsk : Nat → Int32) (m_tape : Nat → Int32) (m_taped : Int32) (m_pos : Int32) (m_from : Int32) (m_sort : Int32) (m_value : Int32) (m_fault : Int32) (m_wrongAt : Int32) (m_manyA : Int32) (m_rowA : Nat → Int32) (m_manyB : Int32) (m_rowB : Nat → Int32) (m_places : Int32) (m_xs : Nat → Int32) (m_ys : Nat → Int32) (m_heights : Nat → Int32) (m_ridges : Int32) (m_rx : Nat → Int32) (m_rHeight : Nat → Int32) (m_lanes : Nat → Int32) (m_sizes : Nat → Int32) (m_cells : Nat → Int32) (m_left : Nat → Int32) (m_calls : Int32) (m_cDay : Nat → Int32) (m_cHour : Nat → Int32) (m_cFrom : Nat → Int32) (m_cAsk : Nat → Int32) (m_cWord : Nat → Int32) (m_cOf : Nat → Int32) (m_isLie : Nat → Int32) (m_children : Int32) (m_learned : Nat → Int32) (m_group : Nat → Int32)  (x1 : Int32) (x2 : Int32) (x3 : Int32) (x5 : Int32) (x6 : Int32) (x7 : Int32) (x8 : Int32) (r0 : Int32) (z_m_manyA : Int32) (z_m_rowA : Nat → Int32)  (k : Nat) (H : Heap) (locs : List Loc) (ls : Array Slot) : fX9_means_p117 n m_letters m_words m_wMany m_wLetters m_aWords m_cells x1 x2 x3 x5 x6 k m_manyA m_rowA x7 x8 = some (r0, z_m_manyA, z_m_rowA) → va_P (dC, dI) vwCl (wM cB cI cJ cZ a m_letters m_words m_wMany m_wLetters m_asks m_aWords m_dLetters m_dWords m_dMany m_dText m_dAsks m_dAsk m_tape m_taped m_pos m_from m_sort m_value m_fault m_wrongAt m_manyA m_rowA m_manyB m_rowB m_places m_xs m_ys m_heights m_ridges m_rx m_rHeight m_lanes m_sizes m_cells m_left m_calls m_cDay m_cHour m_cFrom m_cAsk m_cWord m_cOf m_isLie m_children m_learned m_group) H → va_D A (wM cB cI cJ cZ a m_letters m_words m_wMany m_wLetters m_asks m_aWords m_dLetters m_dWords m_dMany m_dText m_dAsks m_dAsk m_tape m_taped m_pos m_from m_sort m_value m_fault m_wrongAt m_manyA m_rowA m_manyB m_rowB m_places m_xs m_ys m_heights m_ridges m_rx m_rHeight m_lanes m_sizes m_cells m_left m_calls m_cDay m_cHour m_cFrom m_cAsk m_cWord m_cOf m_isLie m_children m_learned m_group) → va_S A s.heap H locs → lv_has ls 11 [(0, .ref (a 0)), (1, .int x1), (2, .int x2), (3, .int x3), (5, .int x5), (6, .int x6), (7, .int x7), (8, .int x8)] → W p l e { frames := 2, cells := 0, slots := 0, locals := 47 } s m args below meth c H locs 0 0 (MQ below (gI (dC, dI) (tyz cB cI cJ cZ) (wM cB cI cJ cZ a m_letters m_words m_wMany m_wLetters m_asks m_aWords m_dLetters m_dWords m_dMany m_dText m_dAsks m_dAsk m_tape m_taped m_pos m_from m_sort m_value m_fault m_wrongAt z_m_manyA z_m_rowA m_manyB m_rowB m_places m_xs m_ys m_heights m_ridges m_rx m_rHeight m_lanes m_sizes m_cells m_left m_calls m_cDay m_cHour m_cFrom m_cAsk m_cWord m_cOf m_isLie m_children m_learned m_group) A r0) args s 0 0 A) (F0 m 117 ls []) :=
  kX9_means_p117_r dC dI cB cI cJ cZ a C0 n m_letters m_words m_wMany m_wLetters m_asks m_aWords m_dLetters m_dWords m_dMany m_dText m_dAsks m_dAsk m_tape m_taped m_pos m_from m_sort m_value m_fault m_wrongAt m_manyB m_rowB m_places m_xs m_ys m_heights m_ridges m_rx m_rHeight m_lanes m_sizes m_cells m_left m_calls m_cDay m_cHour m_cFrom m_cAsk m_cWord m_cOf m_isLie m_children m_learned m_group x1 x2 x3 x5 x6 r0 z_m_manyA z_m_rowA  k m_manyA m_rowA x7 x8 H locs ls
set_option maxHeartbeats 4000000 in
set_option maxRecDepth 100000 in
theorem kX9_means_p72_r {p : Program} {l : Launch} {e : Env} {s : State} {m : MethodId} {args : Array Value} {below : List Frame} {meth : Method} {c : Code} {A : Nat → Prop} (dC : Nat → ClassId) (dI : Nat → Nat → Nat) (cB cI cJ cZ : ClassId) (a : Nat → Nat) (C0 : cxt cX9_means (some .int) 11 RX9 wsX9_means (dC, dI) (tyz cB cI cJ cZ) E_0 A p s m args meth c) (n : Nat) (m_letters : Nat → Int32) (m_words : Int32) (m_wMany : Nat → Int32) (m_wLetters : Nat → Int32) (m_asks : Int32) (m_aWords : Nat → Int32) (m_dLetters : Nat → Int32) (m_dWords : Int32) (m_dMany : Nat → Int32) (m_dText : Nat → Int32) (m_dAsks : Int32) (m_dAsk : Nat → Int32) (m_tape : Nat → Int32) (m_taped : Int32) (m_pos : Int32) (m_from : Int32) (m_sort : Int32) (m_value : Int32) (m_fault : Int32) (m_wrongAt : Int32) (m_manyA : Int32) (m_rowA : Nat → Int32) (m_manyB : Int32) (m_rowB : Nat → Int32) (m_places : Int32) (m_xs : Nat → Int32) (m_ys : Nat → Int32) (m_heights : Nat → Int32) (m_ridges : Int32) (m_rx : Nat → Int32) (m_rHeight : Nat → Int32) (m_lanes : Nat → Int32) (m_sizes : Nat → Int32) (m_cells : Nat → Int32) (m_left : Nat → Int32) (m_calls : Int32) (m_cDay : Nat → Int32) (m_cHour : Nat → Int32) (m_cFrom : Nat → Int32) (m_cAsk : Nat → Int32) (m_cWord : Nat → Int32) (m_cOf : Nat → Int32) (m_isLie : Nat → Int32) (m_children : Int32) (m_learned : Nat → Int32) (m_group : Nat → Int32) (x1 : Int32) (x2 : Int32) (x3 : Int32) (x5 : Int32) (x6 : Int32) (r0 : Int32) (z_m_manyA : Int32) (z_m_rowA : Nat → Int32)  : ∀ (k : Nat) (x7 : Int32) (H : Heap) (locs : List Loc) (ls : Array Slot), fX9_means_p72 n m_letters m_words m_wMany m_wLetters m_aWords m_manyA m_rowA m_sizes m_cells x1 x2 x3 x5 x6 k x7 = some (r0, z_m_manyA, z_m_rowA) → va_P (dC, dI) vwCl (wM cB cI cJ cZ a m_letters m_words m_wMany m_wLetters m_asks m_aWords m_dLetters m_dWords m_dMany m_dText m_dAsks m_dAsk m_tape m_taped m_pos m_from m_sort m_value m_fault m_wrongAt m_manyA m_rowA m_manyB m_rowB m_places m_xs m_ys m_heights m_ridges m_rx m_rHeight m_lanes m_sizes m_cells m_left m_calls m_cDay m_cHour m_cFrom m_cAsk m_cWord m_cOf m_isLie m_children m_learned m_group) H → va_D A (wM cB cI cJ cZ a m_letters m_words m_wMany m_wLetters m_asks m_aWords m_dLetters m_dWords m_dMany m_dText m_dAsks m_dAsk m_tape m_taped m_pos m_from m_sort m_value m_fault m_wrongAt m_manyA m_rowA m_manyB m_rowB m_places m_xs m_ys m_heights m_ridges m_rx m_rHeight m_lanes m_sizes m_cells m_left m_calls m_cDay m_cHour m_cFrom m_cAsk m_cWord m_cOf m_isLie m_children m_learned m_group) → va_S A s.heap H locs → lv_has ls 11 [(0, .ref (a 0)), (1, .int x1), (2, .int x2), (3, .int x3), (5, .int x5), (6, .int x6), (7, .int x7)] → W p l e { frames := 2, cells := 0, slots := 0, locals := 47 } s m args below meth c H locs 0 0 (MQ below (gI (dC, dI) (tyz cB cI cJ cZ) (wM cB cI cJ cZ a m_letters m_words m_wMany m_wLetters m_asks m_aWords m_dLetters m_dWords m_dMany m_dText m_dAsks m_dAsk m_tape m_taped m_pos m_from m_sort m_value m_fault m_wrongAt z_m_manyA z_m_rowA m_manyB m_rowB m_places m_xs m_ys m_heights m_ridges m_rx m_rHeight m_lanes m_sizes m_cells m_left m_calls m_cDay m_cHour m_cFrom m_cAsk m_cWord m_cOf m_isLie m_children m_learned m_group) A r0) args s 0 0 A) (F0 m 72 ls []) := by
  obtain ⟨hx, hb, hr, hml, hown, hts, hlocks, hK, hA, hE⟩ := id C0
  have hw0 := hts (.fieldLink RX9 61 "WhistledWordsModel" "sizes" "[I") (by decide +kernel)
  have hnX9 : ∀ w ∈ u_ws RX9 TX9 46, w ∈ wsX9_means := fun _ h => List.mem_cons_of_mem _ (List.mem_append_right _ h)
  intro k
  induction k with
  | zero =>
    intro x7 H locs ls h
    cases h
  | succ k ih =>
    intro x7 H locs ls h hP hD hS hl
    rw [fX9_means_p72] at h
    refine lv_iload hx hb dX9_means_72 (lv_at hl 6 rfl) ?_
    refine lv_iload hx hb dX9_means_74 (lv_at hl 5 rfl) ?_
    refine lv_icmp_ge (tgt := 111) hx hb dX9_means_76 (by decide) (fun c1 => ?_) (fun c1 => ?_)
    · have h := it_use c1 h
      refine lv_iconst (v := 0) hx hb dX9_means_111 (by decide) ?_
      refine lv_istore (lv' := [(7, .int (0 : Int32)), (0, .ref (a 0)), (1, .int x1), (2, .int x2), (3, .int x3), (5, .int x5), (6, .int x6)]) hx hb dX9_means_112 hl (by decide) rfl (fun ls hl => ?_)
      refine lv_iconst (v := 0) hx hb dX9_means_114 (by decide) ?_
      refine lv_istore (lv' := [(8, .int (0 : Int32)), (7, .int (0 : Int32)), (0, .ref (a 0)), (1, .int x1), (2, .int x2), (3, .int x3), (5, .int x5), (6, .int x6)]) hx hb dX9_means_115 hl (by decide) rfl (fun ls hl => ?_)
      exact kX9_means_p117 dC dI cB cI cJ cZ a C0 n m_letters m_words m_wMany m_wLetters m_asks m_aWords m_dLetters m_dWords m_dMany m_dText m_dAsks m_dAsk m_tape m_taped m_pos m_from m_sort m_value m_fault m_wrongAt m_manyA m_rowA m_manyB m_rowB m_places m_xs m_ys m_heights m_ridges m_rx m_rHeight m_lanes m_sizes m_cells m_left m_calls m_cDay m_cHour m_cFrom m_cAsk m_cWord m_cOf m_isLie m_children m_learned m_group x1 x2 x3 x5 x6 (0 : Int32) (0 : Int32) r0 z_m_manyA z_m_rowA  n _ _ ls h hP hD hS (lv_sub hl [2, 3, 4, 5, 6, 7, 1, 0] rfl)
    · have h := ie_use c1 h
      refine lv_iload hx hb dX9_means_79 (lv_at hl 4 rfl) ?_
      refine lv_i2l hx hb dX9_means_81 rfl ?_
      refine lv_iload hx hb dX9_means_82 (lv_at hl 6 rfl) ?_
      refine lv_i2l hx hb dX9_means_84 rfl ?_
      refine lv_ladd hx hb dX9_means_85 ?_
      refine lv_lconst (v := 0) hx hb dX9_means_86 (by decide) ?_
      refine lv_aload_n hx hb dX9_means_87 rfl (lv_at hl 0 rfl) ?_
      refine gM_mo_sizes hx hb hts hnX9 hown hK hP hw0 dX9_means_88 ?_
      refine lv_iload_n hx hb dX9_means_91 rfl (lv_at hl 3 rfl) ?_
      obtain ⟨hiv2, h⟩ := ar_use h
      refine lM_mo_sizes hx hb hK hP hiv2 dX9_means_92 ?_
      refine lv_topi (fun v2 ev2 => ?_)
      have h := h v2 ev2
      refine lv_iconst (v := 1) hx hb dX9_means_93 (by decide) ?_
      refine lv_isub hx hb dX9_means_94 ?_
      refine lv_i2l hx hb dX9_means_95 rfl ?_
      obtain ⟨v3, hc, h⟩ := bd1_use h
      refine cs_i (As := [.long (x5.toInt64 + x7.toInt64), .long (0 : Int64), .long ((v2 - (1 : Int32)).toInt64)]) (rest := []) ⟨hx, hb, hml, hown, hts⟩ (kX9_in l n (x5.toInt64 + x7.toInt64) (0 : Int64) ((v2 - (1 : Int32)).toInt64) v3 hc) (va_cwS 3 hts gX9_means_X9_in rfl rfl rfl (by decide +kernel) ⟨Nat.le_of_ble_eq_true rfl, Nat.le_of_ble_eq_true rfl⟩) hP hS rfl hl.1 rfl (Nat.le_of_ble_eq_true rfl) dX9_means_96 ⟨Nat.zero_le _, Nat.zero_le _⟩ (fun H locs hP hS => ?_)
      refine lv_if_ne (tgt := 105) hx hb dX9_means_99 (by decide) (fun c4 => ?_) (fun c4 => ?_)
      · have h := ie_use c4 h
        refine lv_iinc (v := x7 + 1) (lv' := [(7, .int (x7 + 1)), (0, .ref (a 0)), (1, .int x1), (2, .int x2), (3, .int x3), (5, .int x5), (6, .int x6)]) hx hb dX9_means_105 hl (k := 6) rfl rfl (by decide) rfl (fun ls hl => ?_)
        refine lv_goto (tgt := 72) hx hb dX9_means_108 (by decide) ?_
        exact ih (x7 + 1) _ _ ls h hP hD hS (lv_sub hl [1, 2, 3, 4, 5, 6, 0] rfl)
      · have h := it_use c4 h
        refine lv_bipush (v := -12) hx hb dX9_means_102 (by decide) ?_
        obtain ⟨er, ez0, ez1⟩ := rt3_use h
        subst ez0
        subst ez1
        exact re_i hx hb hr hlocks hK hP hD hS er dX9_means_104
theorem kX9_means_p72 {p : Program} {l : Launch} {e : Env} {s : State} {m : MethodId} {args : Array Value} {below : List Frame} {meth : Method} {c : Code} {A : Nat → Prop} (dC : Nat → ClassId) (dI : Nat → Nat → Nat) (cB cI cJ cZ : ClassId) (a : Nat → Nat) (C0 : cxt cX9_means (some .int) 11 RX9 wsX9_means (dC, dI) (tyz cB cI cJ cZ) E_0 A p s m args meth c) (n : Nat) (m_letters : Nat → Int32) (m_words : Int32) (m_wMany : Nat → Int32) (m_wLetters : Nat → Int32) (m_asks : Int32) (m_aWords : Nat → Int32) (m_dLetters : Nat → Int32) (m_dWords : Int32) (m_dMany : Nat → Int32) (m_dText : Nat → Int32) (m_dAsks : Int32) (m_dAsk : Nat → Int32) (m_tape : Nat → Int32) (m_taped : Int32) (m_pos : Int32) (m_from : Int32) (m_sort : Int32) (m_value : Int32) (m_fault : Int32) (m_wrongAt : Int32) (m_manyA : Int32) (m_rowA : Nat → Int32) (m_manyB : Int32) (m_rowB : Nat → Int32) (m_places : Int32) (m_xs : Nat → Int32) (m_ys : Nat → Int32) (m_heights : Nat → Int32) (m_ridges : Int32) (m_rx : Nat → Int32) (m_rHeight : Nat → Int32) (m_lanes : Nat → Int32) (m_sizes : Nat → Int32) (m_cells : Nat → Int32) (m_left : Nat → Int32) (m_calls : Int32) (m_cDay : Nat → Int32) (m_cHour : Nat → Int32) (m_cFrom : Nat → Int32) (m_cAsk : Nat → Int32) (m_cWord : Nat → Int32) (m_cOf : Nat → Int32) (m_isLie : Nat → Int32) (m_children : Int32) (m_learned : Nat → Int32) (m_group : Nat → Int32)  (x1 : Int32) (x2 : Int32) (x3 : Int32) (x5 : Int32) (x6 : Int32) (x7 : Int32) (r0 : Int32) (z_m_manyA : Int32) (z_m_rowA : Nat → Int32)  (k : Nat) (H : Heap) (locs : List Loc) (ls : Array Slot) : fX9_means_p72 n m_letters m_words m_wMany m_wLetters m_aWords m_manyA m_rowA m_sizes m_cells x1 x2 x3 x5 x6 k x7 = some (r0, z_m_manyA, z_m_rowA) → va_P (dC, dI) vwCl (wM cB cI cJ cZ a m_letters m_words m_wMany m_wLetters m_asks m_aWords m_dLetters m_dWords m_dMany m_dText m_dAsks m_dAsk m_tape m_taped m_pos m_from m_sort m_value m_fault m_wrongAt m_manyA m_rowA m_manyB m_rowB m_places m_xs m_ys m_heights m_ridges m_rx m_rHeight m_lanes m_sizes m_cells m_left m_calls m_cDay m_cHour m_cFrom m_cAsk m_cWord m_cOf m_isLie m_children m_learned m_group) H → va_D A (wM cB cI cJ cZ a m_letters m_words m_wMany m_wLetters m_asks m_aWords m_dLetters m_dWords m_dMany m_dText m_dAsks m_dAsk m_tape m_taped m_pos m_from m_sort m_value m_fault m_wrongAt m_manyA m_rowA m_manyB m_rowB m_places m_xs m_ys m_heights m_ridges m_rx m_rHeight m_lanes m_sizes m_cells m_left m_calls m_cDay m_cHour m_cFrom m_cAsk m_cWord m_cOf m_isLie m_children m_learned m_group) → va_S A s.heap H locs → lv_has ls 11 [(0, .ref (a 0)), (1, .int x1), (2, .int x2), (3, .int x3), (5, .int x5), (6, .int x6), (7, .int x7)] → W p l e { frames := 2, cells := 0, slots := 0, locals := 47 } s m args below meth c H locs 0 0 (MQ below (gI (dC, dI) (tyz cB cI cJ cZ) (wM cB cI cJ cZ a m_letters m_words m_wMany m_wLetters m_asks m_aWords m_dLetters m_dWords m_dMany m_dText m_dAsks m_dAsk m_tape m_taped m_pos m_from m_sort m_value m_fault m_wrongAt z_m_manyA z_m_rowA m_manyB m_rowB m_places m_xs m_ys m_heights m_ridges m_rx m_rHeight m_lanes m_sizes m_cells m_left m_calls m_cDay m_cHour m_cFrom m_cAsk m_cWord m_cOf m_isLie m_children m_learned m_group) A r0) args s 0 0 A) (F0 m 72 ls []) :=
  kX9_means_p72_r dC dI cB cI cJ cZ a C0 n m_letters m_words m_wMany m_wLetters m_asks m_aWords m_dLetters m_dWords m_dMany m_dText m_dAsks m_dAsk m_tape m_taped m_pos m_from m_sort m_value m_fault m_wrongAt m_manyA m_rowA m_manyB m_rowB m_places m_xs m_ys m_heights m_ridges m_rx m_rHeight m_lanes m_sizes m_cells m_left m_calls m_cDay m_cHour m_cFrom m_cAsk m_cWord m_cOf m_isLie m_children m_learned m_group x1 x2 x3 x5 x6 r0 z_m_manyA z_m_rowA  k x7 H locs ls
set_option maxHeartbeats 4000000 in
set_option maxRecDepth 100000 in
theorem kX9_means (l : Launch) (n : Nat) (dC : Nat → ClassId) (dI : Nat → Nat → Nat) (cB cI cJ cZ : ClassId) (a : Nat → Nat) (sz : Nat) (m_letters : Nat → Int32) (m_words : Int32) (m_wMany : Nat → Int32) (m_wLetters : Nat → Int32) (m_asks : Int32) (m_aWords : Nat → Int32) (m_dLetters : Nat → Int32) (m_dWords : Int32) (m_dMany : Nat → Int32) (m_dText : Nat → Int32) (m_dAsks : Int32) (m_dAsk : Nat → Int32) (m_tape : Nat → Int32) (m_taped : Int32) (m_pos : Int32) (m_from : Int32) (m_sort : Int32) (m_value : Int32) (m_fault : Int32) (m_wrongAt : Int32) (m_manyA : Int32) (m_rowA : Nat → Int32) (m_manyB : Int32) (m_rowB : Nat → Int32) (m_places : Int32) (m_xs : Nat → Int32) (m_ys : Nat → Int32) (m_heights : Nat → Int32) (m_ridges : Int32) (m_rx : Nat → Int32) (m_rHeight : Nat → Int32) (m_lanes : Nat → Int32) (m_sizes : Nat → Int32) (m_cells : Nat → Int32) (m_left : Nat → Int32) (m_calls : Int32) (m_cDay : Nat → Int32) (m_cHour : Nat → Int32) (m_cFrom : Nat → Int32) (m_cAsk : Nat → Int32) (m_cWord : Nat → Int32) (m_cOf : Nat → Int32) (m_isLie : Nat → Int32) (m_children : Int32) (m_learned : Nat → Int32) (m_group : Nat → Int32) (x1 : Int32) (x2 : Int32) (x3 : Int32) (x4 : Int32) (x5 : Int32) (x6 : Int32) (r0 : Int32) (z_m_manyA : Int32) (z_m_rowA : Nat → Int32) (h : fX9_means n m_letters m_words m_wMany m_wLetters m_asks m_aWords m_manyA m_rowA m_lanes m_sizes m_cells x1 x2 x3 x4 x5 x6 = some (r0, z_m_manyA, z_m_rowA)) : Met l yX9_means wsX9_means ({ frames := 2, cells := 0, slots := 0, locals := 47 }) (gP (dC, dI) (tyz cB cI cJ cZ) E_0 (wM cB cI cJ cZ a m_letters m_words m_wMany m_wLetters m_asks m_aWords m_dLetters m_dWords m_dMany m_dText m_dAsks m_dAsk m_tape m_taped m_pos m_from m_sort m_value m_fault m_wrongAt m_manyA m_rowA m_manyB m_rowB m_places m_xs m_ys m_heights m_ridges m_rx m_rHeight m_lanes m_sizes m_cells m_left m_calls m_cDay m_cHour m_cFrom m_cAsk m_cWord m_cOf m_isLie m_children m_learned m_group) sz [.ref (a 0), .int x1, .int x2, .int x3, .int x4, .int x5, .int x6]) (gI (dC, dI) (tyz cB cI cJ cZ) (wM cB cI cJ cZ a m_letters m_words m_wMany m_wLetters m_asks m_aWords m_dLetters m_dWords m_dMany m_dText m_dAsks m_dAsk m_tape m_taped m_pos m_from m_sort m_value m_fault m_wrongAt z_m_manyA z_m_rowA m_manyB m_rowB m_places m_xs m_ys m_heights m_ridges m_rx m_rHeight m_lanes m_sizes m_cells m_left m_calls m_cDay m_cHour m_cFrom m_cAsk m_cWord m_cOf m_isLie m_children m_learned m_group) (va_A (wM cB cI cJ cZ a m_letters m_words m_wMany m_wLetters m_asks m_aWords m_dLetters m_dWords m_dMany m_dText m_dAsks m_dAsk m_tape m_taped m_pos m_from m_sort m_value m_fault m_wrongAt m_manyA m_rowA m_manyB m_rowB m_places m_xs m_ys m_heights m_ridges m_rx m_rHeight m_lanes m_sizes m_cells m_left m_calls m_cDay m_cHour m_cFrom m_cAsk m_cWord m_cOf m_isLie m_children m_learned m_group) sz) r0) 0 0 (va_A (wM cB cI cJ cZ a m_letters m_words m_wMany m_wLetters m_asks m_aWords m_dLetters m_dWords m_dMany m_dText m_dAsks m_dAsk m_tape m_taped m_pos m_from m_sort m_value m_fault m_wrongAt m_manyA m_rowA m_manyB m_rowB m_places m_xs m_ys m_heights m_ridges m_rx m_rHeight m_lanes m_sizes m_cells m_left m_calls m_cDay m_cHour m_cFrom m_cAsk m_cWord m_cOf m_isLie m_children m_learned m_group) sz) := by
  refine Met.ofW (cc := cX9_means) (maxL := 11) (ret := (some .int)) (by decide) rfl ?_
  intro p e s m args below meth c s₁ B hml hv
  obtain ⟨rfl, hsz, hP, hK, hD0, hE⟩ := hv
  have hx := B.exec
  have hb := B.bytes
  have hr := B.returns
  have hts := atoms_spec (ws := wsX9_means) B.pre
  have hown : s.vm.findClass RX9 = some m.cls := findClass_of_methodNamed B.named
  have hlocks := B.notSynchronized
  subst hsz
  have hD := hD0.self (sz := s.heap.size)
  have hA : ∀ q : Nat, s.heap.size ≤ q → va_A (wM cB cI cJ cZ a m_letters m_words m_wMany m_wLetters m_asks m_aWords m_dLetters m_dWords m_dMany m_dText m_dAsks m_dAsk m_tape m_taped m_pos m_from m_sort m_value m_fault m_wrongAt m_manyA m_rowA m_manyB m_rowB m_places m_xs m_ys m_heights m_ridges m_rx m_rHeight m_lanes m_sizes m_cells m_left m_calls m_cDay m_cHour m_cFrom m_cAsk m_cWord m_cOf m_isLie m_children m_learned m_group) s.heap.size q := fun q h => Or.inr h
  generalize va_A (wM cB cI cJ cZ a m_letters m_words m_wMany m_wLetters m_asks m_aWords m_dLetters m_dWords m_dMany m_dText m_dAsks m_dAsk m_tape m_taped m_pos m_from m_sort m_value m_fault m_wrongAt m_manyA m_rowA m_manyB m_rowB m_places m_xs m_ys m_heights m_ridges m_rx m_rHeight m_lanes m_sizes m_cells m_left m_calls m_cDay m_cHour m_cFrom m_cAsk m_cWord m_cOf m_isLie m_children m_learned m_group) s.heap.size = A at hD hA hE ⊢
  have hS : va_S A s.heap s.heap [] := va_S.rf
  have C0 : cxt cX9_means (some .int) 11 RX9 wsX9_means (dC, dI) (tyz cB cI cJ cZ) E_0 A p s m ([.ref (a 0), .int x1, .int x2, .int x3, .int x4, .int x5, .int x6] : List Value).toArray meth c := ⟨hx, hb, hr, hml, hown, hts, hlocks, hK, hA, hE⟩
  have hl := lv_entry ([.ref (a 0), .int x1, .int x2, .int x3, .int x4, .int x5, .int x6]) (n := 11) (Nat.le_of_ble_eq_true rfl)
  rw [lg_entry_eq]
  generalize (lg_sl ([.ref (a 0), .int x1, .int x2, .int x3, .int x4, .int x5, .int x6]) ++ List.replicate (11 - (lg_sl ([.ref (a 0), .int x1, .int x2, .int x3, .int x4, .int x5, .int x6])).length) Slot.unset).toArray = ls at hl ⊢
  have hl : lv_has ls 11 [(0, .ref (a 0)), (1, .int x1), (2, .int x2), (3, .int x3), (4, .int x4), (5, .int x5), (6, .int x6)] := hl
  have hw0 := hts (.constantLong RX9 236 (8)) (by decide +kernel)
  have hw1 := hts (.fieldLink RX9 58 "WhistledWordsModel" "lanes" "[I") (by decide +kernel)
  have hnX9 : ∀ w ∈ u_ws RX9 TX9 46, w ∈ wsX9_means := fun _ h => List.mem_cons_of_mem _ (List.mem_append_right _ h)
  unfold fX9_means at h
  refine lv_aload_n hx hb dX9_means_0 rfl (lv_at hl 0 rfl) ?_
  refine lv_iload_n hx hb dX9_means_1 rfl (lv_at hl 1 rfl) ?_
  obtain ⟨v1, hc, h⟩ := bd1_use h
  refine cv_i (As := [.int x1]) (rest := []) ⟨hx, hb, hml, hown, hts⟩ (kX9_isAsk l n dC dI cB cI cJ cZ a _ m_letters m_words m_wMany m_wLetters m_asks m_aWords m_dLetters m_dWords m_dMany m_dText m_dAsks m_dAsk m_tape m_taped m_pos m_from m_sort m_value m_fault m_wrongAt m_manyA m_rowA m_manyB m_rowB m_places m_xs m_ys m_heights m_ridges m_rx m_rHeight m_lanes m_sizes m_cells m_left m_calls m_cDay m_cHour m_cFrom m_cAsk m_cWord m_cOf m_isLie m_children m_learned m_group x1 v1 hc) (cwV 1 hts gX9_means_X9_isAsk rfl rfl rfl (by decide +kernel) ⟨Nat.le_of_ble_eq_true rfl, Nat.le_of_ble_eq_true rfl⟩) EB_0 hE hK hP hD hS hA 0 (ci := 8) rfl rfl rfl rfl hl.1 rfl (Nat.le_of_ble_eq_true rfl) dX9_means_2 ⟨Nat.zero_le _, Nat.zero_le _⟩ (fun H locs hP hD hS => ?_)
  refine lv_if_eq (tgt := 37) hx hb dX9_means_5 (by decide) (fun c2 => ?_) (fun c2 => ?_)
  · have h := it_use c2 h
    refine lv_iconst (v := -1) hx hb dX9_means_37 (by decide) ?_
    obtain ⟨er, ez0, ez1⟩ := rt3_use h
    subst ez0
    subst ez1
    exact re_i hx hb hr hlocks hK hP hD hS er dX9_means_38
  · have h := ie_use c2 h
    refine lv_iload_n hx hb dX9_means_8 rfl (lv_at hl 2 rfl) ?_
    obtain ⟨v3, hc, h⟩ := bd1_use h
    refine cs_i (As := [.int x2]) (rest := []) ⟨hx, hb, hml, hown, hts⟩ (kX9_isBlur l n x2 v3 hc) (va_cwS 1 hts gX9_means_X9_isBlur rfl rfl rfl (by decide +kernel) ⟨Nat.le_of_ble_eq_true rfl, Nat.le_of_ble_eq_true rfl⟩) hP hS rfl hl.1 rfl (Nat.le_of_ble_eq_true rfl) dX9_means_9 ⟨Nat.zero_le _, Nat.zero_le _⟩ (fun H locs hP hS => ?_)
    refine lv_if_eq (tgt := 37) hx hb dX9_means_12 (by decide) (fun c4 => ?_) (fun c4 => ?_)
    · have h := it_use c4 h
      refine lv_iconst (v := -1) hx hb dX9_means_37 (by decide) ?_
      obtain ⟨er, ez0, ez1⟩ := rt3_use h
      subst ez0
      subst ez1
      exact re_i hx hb hr hlocks hK hP hD hS er dX9_means_38
    · have h := ie_use c4 h
      refine lv_iload_n hx hb dX9_means_15 rfl (lv_at hl 3 rfl) ?_
      refine lv_iload hx hb dX9_means_16 (lv_at hl 4 rfl) ?_
      obtain ⟨v5, hc, h⟩ := bd1_use h
      refine cs_i (As := [.int x3, .int x4]) (rest := []) ⟨hx, hb, hml, hown, hts⟩ (kX9_isSheet l n x3 x4 v5 hc) (va_cwS 2 hts gX9_means_X9_isSheet rfl rfl rfl (by decide +kernel) ⟨Nat.le_of_ble_eq_true rfl, Nat.le_of_ble_eq_true rfl⟩) hP hS rfl hl.1 rfl (Nat.le_of_ble_eq_true rfl) dX9_means_18 ⟨Nat.zero_le _, Nat.zero_le _⟩ (fun H locs hP hS => ?_)
      refine lv_if_eq (tgt := 37) hx hb dX9_means_21 (by decide) (fun c6 => ?_) (fun c6 => ?_)
      · have h := it_use c6 h
        refine lv_iconst (v := -1) hx hb dX9_means_37 (by decide) ?_
        obtain ⟨er, ez0, ez1⟩ := rt3_use h
        subst ez0
        subst ez1
        exact re_i hx hb hr hlocks hK hP hD hS er dX9_means_38
      · have h := ie_use c6 h
        refine lv_iload hx hb dX9_means_24 (lv_at hl 6 rfl) ?_
        refine lv_i2l hx hb dX9_means_26 rfl ?_
        refine lv_lconst (v := 0) hx hb dX9_means_27 (by decide) ?_
        refine lv_ldc2 hx hb hown hw0 dX9_means_28 ?_
        obtain ⟨v7, hc, h⟩ := bd1_use h
        refine cs_i (As := [.long x6.toInt64, .long (0 : Int64), .long (8 : Int64)]) (rest := []) ⟨hx, hb, hml, hown, hts⟩ (kX9_in l n x6.toInt64 (0 : Int64) (8 : Int64) v7 hc) (va_cwS 3 hts gX9_means_X9_in rfl rfl rfl (by decide +kernel) ⟨Nat.le_of_ble_eq_true rfl, Nat.le_of_ble_eq_true rfl⟩) hP hS rfl hl.1 rfl (Nat.le_of_ble_eq_true rfl) dX9_means_31 ⟨Nat.zero_le _, Nat.zero_le _⟩ (fun H locs hP hS => ?_)
        refine lv_if_ne (tgt := 39) hx hb dX9_means_34 (by decide) (fun c8 => ?_) (fun c8 => ?_)
        · have h := ie_use c8 h
          refine lv_aload_n hx hb dX9_means_39 rfl (lv_at hl 0 rfl) ?_
          refine gM_mo_lanes hx hb hts hnX9 hown hK hP hw1 dX9_means_40 ?_
          refine lv_iload_n hx hb dX9_means_43 rfl (lv_at hl 3 rfl) ?_
          obtain ⟨hiv9, h⟩ := ar_use h
          refine lM_mo_lanes hx hb hK hP hiv9 dX9_means_44 ?_
          refine lv_topi (fun v9 ev9 => ?_)
          have h := h v9 ev9
          refine lv_iload hx hb dX9_means_45 (lv_at hl 4 rfl) ?_
          refine lv_icmp_eq (tgt := 69) hx hb dX9_means_47 (by decide) (fun c10 => ?_) (fun c10 => ?_)
          · have h := it_use c10 h
            refine lv_iconst (v := 0) hx hb dX9_means_69 (by decide) ?_
            refine lv_istore (lv' := [(7, .int (0 : Int32)), (0, .ref (a 0)), (1, .int x1), (2, .int x2), (3, .int x3), (4, .int x4), (5, .int x5), (6, .int x6)]) hx hb dX9_means_70 hl (by decide) rfl (fun ls hl => ?_)
            exact kX9_means_p72 dC dI cB cI cJ cZ a C0 n m_letters m_words m_wMany m_wLetters m_asks m_aWords m_dLetters m_dWords m_dMany m_dText m_dAsks m_dAsk m_tape m_taped m_pos m_from m_sort m_value m_fault m_wrongAt m_manyA m_rowA m_manyB m_rowB m_places m_xs m_ys m_heights m_ridges m_rx m_rHeight m_lanes m_sizes m_cells m_left m_calls m_cDay m_cHour m_cFrom m_cAsk m_cWord m_cOf m_isLie m_children m_learned m_group x1 x2 x3 x5 x6 (0 : Int32) r0 z_m_manyA z_m_rowA  n _ _ ls h hP hD hS (lv_sub hl [1, 2, 3, 4, 6, 7, 0] rfl)
          · have h := ie_use c10 h
            refine lv_aload_n hx hb dX9_means_50 rfl (lv_at hl 0 rfl) ?_
            refine gM_mo_lanes hx hb hts hnX9 hown hK hP hw1 dX9_means_51 ?_
            refine lv_iload_n hx hb dX9_means_54 rfl (lv_at hl 3 rfl) ?_
            obtain ⟨hiv11, h⟩ := ar_use h
            refine lM_mo_lanes hx hb hK hP hiv11 dX9_means_55 ?_
            refine lv_topi (fun v11 ev11 => ?_)
            have h := h v11 ev11
            refine lv_bipush (v := -4) hx hb dX9_means_56 (by decide) ?_
            refine lv_icmp_ne (tgt := 66) hx hb dX9_means_58 (by decide) (fun c12 => ?_) (fun c12 => ?_)
            · have h := ie_use c12 h
              refine lv_bipush (v := -13) hx hb dX9_means_66 (by decide) ?_
              obtain ⟨er, ez0, ez1⟩ := rt3_use h
              subst ez0
              subst ez1
              exact re_i hx hb hr hlocks hK hP hD hS er dX9_means_68
            · have h := it_use c12 h
              refine lv_bipush (v := -11) hx hb dX9_means_61 (by decide) ?_
              refine lv_goto (tgt := 68) hx hb dX9_means_63 (by decide) ?_
              obtain ⟨er, ez0, ez1⟩ := rt3_use h
              subst ez0
              subst ez1
              exact re_i hx hb hr hlocks hK hP hD hS er dX9_means_68
        · have h := it_use c8 h
          refine lv_iconst (v := -1) hx hb dX9_means_37 (by decide) ?_
          obtain ⟨er, ez0, ez1⟩ := rt3_use h
          subst ez0
          subst ez1
          exact re_i hx hb hr hlocks hK hP hD hS er dX9_means_38
set_option maxHeartbeats 4000000 in
set_option maxRecDepth 100000 in
theorem kX9_fitsAsk (l : Launch) (n : Nat) (dC : Nat → ClassId) (dI : Nat → Nat → Nat) (cB cI cJ cZ : ClassId) (a : Nat → Nat) (sz : Nat) (m_letters : Nat → Int32) (m_words : Int32) (m_wMany : Nat → Int32) (m_wLetters : Nat → Int32) (m_asks : Int32) (m_aWords : Nat → Int32) (m_dLetters : Nat → Int32) (m_dWords : Int32) (m_dMany : Nat → Int32) (m_dText : Nat → Int32) (m_dAsks : Int32) (m_dAsk : Nat → Int32) (m_tape : Nat → Int32) (m_taped : Int32) (m_pos : Int32) (m_from : Int32) (m_sort : Int32) (m_value : Int32) (m_fault : Int32) (m_wrongAt : Int32) (m_manyA : Int32) (m_rowA : Nat → Int32) (m_manyB : Int32) (m_rowB : Nat → Int32) (m_places : Int32) (m_xs : Nat → Int32) (m_ys : Nat → Int32) (m_heights : Nat → Int32) (m_ridges : Int32) (m_rx : Nat → Int32) (m_rHeight : Nat → Int32) (m_lanes : Nat → Int32) (m_sizes : Nat → Int32) (m_cells : Nat → Int32) (m_left : Nat → Int32) (m_calls : Int32) (m_cDay : Nat → Int32) (m_cHour : Nat → Int32) (m_cFrom : Nat → Int32) (m_cAsk : Nat → Int32) (m_cWord : Nat → Int32) (m_cOf : Nat → Int32) (m_isLie : Nat → Int32) (m_children : Int32) (m_learned : Nat → Int32) (m_group : Nat → Int32) (x1 : Int32) (x2 : Int32) (r0 : Int32) (h : fX9_fitsAsk n m_words m_asks m_aWords x1 x2 = some r0) : Met l yX9_fitsAsk wsX9_fitsAsk ({ frames := 2, cells := 0, slots := 0, locals := 46 }) (gP (dC, dI) (tyz cB cI cJ cZ) E_0 (wM cB cI cJ cZ a m_letters m_words m_wMany m_wLetters m_asks m_aWords m_dLetters m_dWords m_dMany m_dText m_dAsks m_dAsk m_tape m_taped m_pos m_from m_sort m_value m_fault m_wrongAt m_manyA m_rowA m_manyB m_rowB m_places m_xs m_ys m_heights m_ridges m_rx m_rHeight m_lanes m_sizes m_cells m_left m_calls m_cDay m_cHour m_cFrom m_cAsk m_cWord m_cOf m_isLie m_children m_learned m_group) sz [.ref (a 0), .int x1, .int x2]) (gI (dC, dI) (tyz cB cI cJ cZ) (wM cB cI cJ cZ a m_letters m_words m_wMany m_wLetters m_asks m_aWords m_dLetters m_dWords m_dMany m_dText m_dAsks m_dAsk m_tape m_taped m_pos m_from m_sort m_value m_fault m_wrongAt m_manyA m_rowA m_manyB m_rowB m_places m_xs m_ys m_heights m_ridges m_rx m_rHeight m_lanes m_sizes m_cells m_left m_calls m_cDay m_cHour m_cFrom m_cAsk m_cWord m_cOf m_isLie m_children m_learned m_group) (va_A (wM cB cI cJ cZ a m_letters m_words m_wMany m_wLetters m_asks m_aWords m_dLetters m_dWords m_dMany m_dText m_dAsks m_dAsk m_tape m_taped m_pos m_from m_sort m_value m_fault m_wrongAt m_manyA m_rowA m_manyB m_rowB m_places m_xs m_ys m_heights m_ridges m_rx m_rHeight m_lanes m_sizes m_cells m_left m_calls m_cDay m_cHour m_cFrom m_cAsk m_cWord m_cOf m_isLie m_children m_learned m_group) sz) r0) 0 0 (va_A (wM cB cI cJ cZ a m_letters m_words m_wMany m_wLetters m_asks m_aWords m_dLetters m_dWords m_dMany m_dText m_dAsks m_dAsk m_tape m_taped m_pos m_from m_sort m_value m_fault m_wrongAt m_manyA m_rowA m_manyB m_rowB m_places m_xs m_ys m_heights m_ridges m_rx m_rHeight m_lanes m_sizes m_cells m_left m_calls m_cDay m_cHour m_cFrom m_cAsk m_cWord m_cOf m_isLie m_children m_learned m_group) sz) := by
  refine Met.ofW (cc := cX9_fitsAsk) (maxL := 3) (ret := (some .boolean)) (by decide) rfl ?_
  intro p e s m args below meth c s₁ B hml hv
  obtain ⟨rfl, hsz, hP, hK, hD0, hE⟩ := hv
  have hx := B.exec
  have hb := B.bytes
  have hr := B.returns
  have hts := atoms_spec (ws := wsX9_fitsAsk) B.pre
  have hown : s.vm.findClass RX9 = some m.cls := findClass_of_methodNamed B.named
  have hlocks := B.notSynchronized
  subst hsz
  have hD := hD0.self (sz := s.heap.size)
  have hA : ∀ q : Nat, s.heap.size ≤ q → va_A (wM cB cI cJ cZ a m_letters m_words m_wMany m_wLetters m_asks m_aWords m_dLetters m_dWords m_dMany m_dText m_dAsks m_dAsk m_tape m_taped m_pos m_from m_sort m_value m_fault m_wrongAt m_manyA m_rowA m_manyB m_rowB m_places m_xs m_ys m_heights m_ridges m_rx m_rHeight m_lanes m_sizes m_cells m_left m_calls m_cDay m_cHour m_cFrom m_cAsk m_cWord m_cOf m_isLie m_children m_learned m_group) s.heap.size q := fun q h => Or.inr h
  generalize va_A (wM cB cI cJ cZ a m_letters m_words m_wMany m_wLetters m_asks m_aWords m_dLetters m_dWords m_dMany m_dText m_dAsks m_dAsk m_tape m_taped m_pos m_from m_sort m_value m_fault m_wrongAt m_manyA m_rowA m_manyB m_rowB m_places m_xs m_ys m_heights m_ridges m_rx m_rHeight m_lanes m_sizes m_cells m_left m_calls m_cDay m_cHour m_cFrom m_cAsk m_cWord m_cOf m_isLie m_children m_learned m_group) s.heap.size = A at hD hA hE ⊢
  have hS : va_S A s.heap s.heap [] := va_S.rf
  have C0 : cxt cX9_fitsAsk (some .boolean) 3 RX9 wsX9_fitsAsk (dC, dI) (tyz cB cI cJ cZ) E_0 A p s m ([.ref (a 0), .int x1, .int x2] : List Value).toArray meth c := ⟨hx, hb, hr, hml, hown, hts, hlocks, hK, hA, hE⟩
  have hl := lv_entry ([.ref (a 0), .int x1, .int x2]) (n := 3) (Nat.le_of_ble_eq_true rfl)
  rw [lg_entry_eq]
  generalize (lg_sl ([.ref (a 0), .int x1, .int x2]) ++ List.replicate (3 - (lg_sl ([.ref (a 0), .int x1, .int x2])).length) Slot.unset).toArray = ls at hl ⊢
  have hl : lv_has ls 3 [(0, .ref (a 0)), (1, .int x1), (2, .int x2)] := hl
  have hw0 := hts (.fieldLink RX9 19 "WhistledWordsModel" "aWords" "[I") (by decide +kernel)
  have hnX9 : ∀ w ∈ u_ws RX9 TX9 46, w ∈ wsX9_fitsAsk := fun _ h => List.mem_cons_of_mem _ (List.mem_append_right _ h)
  unfold fX9_fitsAsk at h
  refine lv_aload_n hx hb dX9_fitsAsk_0 rfl (lv_at hl 0 rfl) ?_
  refine lv_iload_n hx hb dX9_fitsAsk_1 rfl (lv_at hl 1 rfl) ?_
  obtain ⟨v1, hc, h⟩ := bd1_use h
  refine cv_i (As := [.int x1]) (rest := []) ⟨hx, hb, hml, hown, hts⟩ (kX9_isAsk l n dC dI cB cI cJ cZ a _ m_letters m_words m_wMany m_wLetters m_asks m_aWords m_dLetters m_dWords m_dMany m_dText m_dAsks m_dAsk m_tape m_taped m_pos m_from m_sort m_value m_fault m_wrongAt m_manyA m_rowA m_manyB m_rowB m_places m_xs m_ys m_heights m_ridges m_rx m_rHeight m_lanes m_sizes m_cells m_left m_calls m_cDay m_cHour m_cFrom m_cAsk m_cWord m_cOf m_isLie m_children m_learned m_group x1 v1 hc) (cwV 1 hts gX9_fitsAsk_X9_isAsk rfl rfl rfl (by decide +kernel) ⟨Nat.le_of_ble_eq_true rfl, Nat.le_of_ble_eq_true rfl⟩) EB_0 hE hK hP hD hS hA 0 (ci := 8) rfl rfl rfl rfl hl.1 rfl (Nat.le_of_ble_eq_true rfl) dX9_fitsAsk_2 ⟨Nat.zero_le _, Nat.zero_le _⟩ (fun H locs hP hD hS => ?_)
  refine lv_if_eq (tgt := 34) hx hb dX9_fitsAsk_5 (by decide) (fun c2 => ?_) (fun c2 => ?_)
  · have h := it_use c2 h
    refine lv_iconst (v := 0) hx hb dX9_fitsAsk_34 (by decide) ?_
    obtain er := rt1_use h
    exact re_z hx hb hr hlocks hK hP hD hS (Or.inl rfl) er dX9_fitsAsk_35
  · have h := ie_use c2 h
    refine lv_aload_n hx hb dX9_fitsAsk_8 rfl (lv_at hl 0 rfl) ?_
    refine lv_iload_n hx hb dX9_fitsAsk_9 rfl (lv_at hl 2 rfl) ?_
    obtain ⟨v3, hc, h⟩ := bd1_use h
    refine cv_i (As := [.int x2]) (rest := []) ⟨hx, hb, hml, hown, hts⟩ (kX9_isWord l n dC dI cB cI cJ cZ a _ m_letters m_words m_wMany m_wLetters m_asks m_aWords m_dLetters m_dWords m_dMany m_dText m_dAsks m_dAsk m_tape m_taped m_pos m_from m_sort m_value m_fault m_wrongAt m_manyA m_rowA m_manyB m_rowB m_places m_xs m_ys m_heights m_ridges m_rx m_rHeight m_lanes m_sizes m_cells m_left m_calls m_cDay m_cHour m_cFrom m_cAsk m_cWord m_cOf m_isLie m_children m_learned m_group x2 v3 hc) (cwV 1 hts gX9_fitsAsk_X9_isWord rfl rfl rfl (by decide +kernel) ⟨Nat.le_of_ble_eq_true rfl, Nat.le_of_ble_eq_true rfl⟩) EB_0 hE hK hP hD hS hA 0 (ci := 8) rfl rfl rfl rfl hl.1 rfl (Nat.le_of_ble_eq_true rfl) dX9_fitsAsk_10 ⟨Nat.zero_le _, Nat.zero_le _⟩ (fun H locs hP hD hS => ?_)
    refine lv_if_eq (tgt := 34) hx hb dX9_fitsAsk_13 (by decide) (fun c4 => ?_) (fun c4 => ?_)
    · have h := it_use c4 h
      refine lv_iconst (v := 0) hx hb dX9_fitsAsk_34 (by decide) ?_
      obtain er := rt1_use h
      exact re_z hx hb hr hlocks hK hP hD hS (Or.inl rfl) er dX9_fitsAsk_35
    · have h := ie_use c4 h
      refine lv_aload_n hx hb dX9_fitsAsk_16 rfl (lv_at hl 0 rfl) ?_
      refine gM_mo_aWords hx hb hts hnX9 hown hK hP hw0 dX9_fitsAsk_17 ?_
      refine lv_iload_n hx hb dX9_fitsAsk_20 rfl (lv_at hl 1 rfl) ?_
      obtain ⟨hiv5, h⟩ := ar_use h
      refine lM_mo_aWords hx hb hK hP hiv5 dX9_fitsAsk_21 ?_
      refine lv_topi (fun v5 ev5 => ?_)
      have h := h v5 ev5
      refine lv_iload_n hx hb dX9_fitsAsk_22 rfl (lv_at hl 2 rfl) ?_
      refine lv_ishr hx hb dX9_fitsAsk_23 ?_
      refine lv_iconst (v := 1) hx hb dX9_fitsAsk_24 (by decide) ?_
      refine lv_iand hx hb dX9_fitsAsk_25 ?_
      refine lv_iconst (v := 1) hx hb dX9_fitsAsk_26 (by decide) ?_
      refine lv_icmp_ne (tgt := 34) hx hb dX9_fitsAsk_27 (by decide) (fun c6 => ?_) (fun c6 => ?_)
      · have h := ie_use c6 h
        refine lv_iconst (v := 0) hx hb dX9_fitsAsk_34 (by decide) ?_
        obtain er := rt1_use h
        exact re_z hx hb hr hlocks hK hP hD hS (Or.inl rfl) er dX9_fitsAsk_35
      · have h := it_use c6 h
        refine lv_iconst (v := 1) hx hb dX9_fitsAsk_30 (by decide) ?_
        refine lv_goto (tgt := 35) hx hb dX9_fitsAsk_31 (by decide) ?_
        obtain er := rt1_use h
        exact re_z hx hb hr hlocks hK hP hD hS (Or.inr rfl) er dX9_fitsAsk_35
set_option maxHeartbeats 4000000 in
set_option maxRecDepth 100000 in
theorem kX9_meaning_p6_r {p : Program} {l : Launch} {e : Env} {s : State} {m : MethodId} {args : Array Value} {below : List Frame} {meth : Method} {c : Code} {A : Nat → Prop} (dC : Nat → ClassId) (dI : Nat → Nat → Nat) (cB cI cJ cZ : ClassId) (a : Nat → Nat) (C0 : cxt cX9_meaning (some .int) 6 RX9 wsX9_meaning (dC, dI) (tyz cB cI cJ cZ) E_0 A p s m args meth c) (n : Nat) (m_letters : Nat → Int32) (m_words : Int32) (m_wMany : Nat → Int32) (m_wLetters : Nat → Int32) (m_asks : Int32) (m_aWords : Nat → Int32) (m_dLetters : Nat → Int32) (m_dWords : Int32) (m_dMany : Nat → Int32) (m_dText : Nat → Int32) (m_dAsks : Int32) (m_dAsk : Nat → Int32) (m_tape : Nat → Int32) (m_taped : Int32) (m_pos : Int32) (m_from : Int32) (m_sort : Int32) (m_value : Int32) (m_fault : Int32) (m_wrongAt : Int32) (m_places : Int32) (m_xs : Nat → Int32) (m_ys : Nat → Int32) (m_heights : Nat → Int32) (m_ridges : Int32) (m_rx : Nat → Int32) (m_rHeight : Nat → Int32) (m_lanes : Nat → Int32) (m_sizes : Nat → Int32) (m_cells : Nat → Int32) (m_left : Nat → Int32) (m_calls : Int32) (m_cDay : Nat → Int32) (m_cHour : Nat → Int32) (m_cFrom : Nat → Int32) (m_cAsk : Nat → Int32) (m_cWord : Nat → Int32) (m_cOf : Nat → Int32) (m_isLie : Nat → Int32) (m_children : Int32) (m_learned : Nat → Int32) (m_group : Nat → Int32) (x1 : Int32) (x2 : Int32) (x3 : Int32) (r0 : Int32) (z_m_manyA : Int32) (z_m_rowA : Nat → Int32) (z_m_manyB : Int32) (z_m_rowB : Nat → Int32)  : ∀ (k : Nat) (m_manyA : Int32) (m_rowA : Nat → Int32) (m_manyB : Int32) (m_rowB : Nat → Int32) (x4 : Int32) (x5 : Int32) (H : Heap) (locs : List Loc) (ls : Array Slot), fX9_meaning_p6 n m_letters m_words m_wMany m_wLetters m_aWords x1 x2 x3 k m_manyA m_rowA m_manyB m_rowB x4 x5 = some (r0, z_m_manyA, z_m_rowA, z_m_manyB, z_m_rowB) → va_P (dC, dI) vwCl (wM cB cI cJ cZ a m_letters m_words m_wMany m_wLetters m_asks m_aWords m_dLetters m_dWords m_dMany m_dText m_dAsks m_dAsk m_tape m_taped m_pos m_from m_sort m_value m_fault m_wrongAt m_manyA m_rowA m_manyB m_rowB m_places m_xs m_ys m_heights m_ridges m_rx m_rHeight m_lanes m_sizes m_cells m_left m_calls m_cDay m_cHour m_cFrom m_cAsk m_cWord m_cOf m_isLie m_children m_learned m_group) H → va_D A (wM cB cI cJ cZ a m_letters m_words m_wMany m_wLetters m_asks m_aWords m_dLetters m_dWords m_dMany m_dText m_dAsks m_dAsk m_tape m_taped m_pos m_from m_sort m_value m_fault m_wrongAt m_manyA m_rowA m_manyB m_rowB m_places m_xs m_ys m_heights m_ridges m_rx m_rHeight m_lanes m_sizes m_cells m_left m_calls m_cDay m_cHour m_cFrom m_cAsk m_cWord m_cOf m_isLie m_children m_learned m_group) → va_S A s.heap H locs → lv_has ls 6 [(0, .ref (a 0)), (1, .int x1), (2, .int x2), (3, .int x3), (4, .int x4), (5, .int x5)] → W p l e { frames := 3, cells := 0, slots := 0, locals := 72 } s m args below meth c H locs 0 0 (MQ below (gI (dC, dI) (tyz cB cI cJ cZ) (wM cB cI cJ cZ a m_letters m_words m_wMany m_wLetters m_asks m_aWords m_dLetters m_dWords m_dMany m_dText m_dAsks m_dAsk m_tape m_taped m_pos m_from m_sort m_value m_fault m_wrongAt z_m_manyA z_m_rowA z_m_manyB z_m_rowB m_places m_xs m_ys m_heights m_ridges m_rx m_rHeight m_lanes m_sizes m_cells m_left m_calls m_cDay m_cHour m_cFrom m_cAsk m_cWord m_cOf m_isLie m_children m_learned m_group) A r0) args s 0 0 A) (F0 m 6 ls []) := by
  obtain ⟨hx, hb, hr, hml, hown, hts, hlocks, hK, hA, hE⟩ := id C0
  have hw0 := hts (.fieldLink RX9 186 "WhistledWordsModel" "words" "I") (by decide +kernel)
  have hw1 := hts (.fieldLink RX9 19 "WhistledWordsModel" "aWords" "[I") (by decide +kernel)
  have hnX9 : ∀ w ∈ u_ws RX9 TX9 46, w ∈ wsX9_meaning := fun _ h => List.mem_cons_of_mem _ (List.mem_append_right _ h)
  intro k
  induction k with
  | zero =>
    intro m_manyA m_rowA m_manyB m_rowB x4 x5 H locs ls h
    cases h
  | succ k ih =>
    intro m_manyA m_rowA m_manyB m_rowB x4 x5 H locs ls h hP hD hS hl
    rw [fX9_meaning_p6] at h
    refine lv_iload hx hb dX9_meaning_6 (lv_at hl 5 rfl) ?_
    refine lv_aload_n hx hb dX9_meaning_8 rfl (lv_at hl 0 rfl) ?_
    refine gM_mo_words hx hb hts hnX9 hown hK hP hw0 dX9_meaning_9 ?_
    refine lv_icmp_ge (tgt := 60) hx hb dX9_meaning_12 (by decide) (fun c1 => ?_) (fun c1 => ?_)
    · have h := it_use c1 h
      refine lv_iload hx hb dX9_meaning_60 (lv_at hl 4 rfl) ?_
      obtain ⟨er, ez0, ez1, ez2, ez3⟩ := rt5_use h
      subst ez0
      subst ez1
      subst ez2
      subst ez3
      exact re_i hx hb hr hlocks hK hP hD hS er dX9_meaning_62
    · have h := ie_use c1 h
      refine lv_iload hx hb dX9_meaning_15 (lv_at hl 4 rfl) ?_
      refine lv_aload_n hx hb dX9_meaning_17 rfl (lv_at hl 0 rfl) ?_
      refine gM_mo_aWords hx hb hts hnX9 hown hK hP hw1 dX9_meaning_18 ?_
      refine lv_iload_n hx hb dX9_meaning_21 rfl (lv_at hl 1 rfl) ?_
      obtain ⟨hiv2, h⟩ := ar_use h
      refine lM_mo_aWords hx hb hK hP hiv2 dX9_meaning_22 ?_
      refine lv_topi (fun v2 ev2 => ?_)
      have h := h v2 ev2
      refine lv_iload hx hb dX9_meaning_23 (lv_at hl 5 rfl) ?_
      refine lv_ishr hx hb dX9_meaning_25 ?_
      refine lv_iconst (v := 1) hx hb dX9_meaning_26 (by decide) ?_
      refine lv_iand hx hb dX9_meaning_27 ?_
      refine lv_iconst (v := 1) hx hb dX9_meaning_28 (by decide) ?_
      refine lv_icmp_ne (tgt := 50) hx hb dX9_meaning_29 (by decide) (fun c3 => ?_) (fun c3 => ?_)
      · have h := ie_use c3 h
        refine lv_iconst (v := 0) hx hb dX9_meaning_50 (by decide) ?_
        refine lv_ior hx hb dX9_meaning_51 ?_
        refine lv_topi (fun v4 ev4 => ?_)
        have h := nm_use ev4 h
        refine lv_istore (lv' := [(4, .int v4), (0, .ref (a 0)), (1, .int x1), (2, .int x2), (3, .int x3), (5, .int x5)]) hx hb dX9_meaning_52 hl (by decide) rfl (fun ls hl => ?_)
        refine lv_iinc (v := x5 + 1) (lv' := [(5, .int (x5 + 1)), (4, .int v4), (0, .ref (a 0)), (1, .int x1), (2, .int x2), (3, .int x3)]) hx hb dX9_meaning_54 hl (k := 5) rfl rfl (by decide) rfl (fun ls hl => ?_)
        refine lv_goto (tgt := 6) hx hb dX9_meaning_57 (by decide) ?_
        exact ih m_manyA m_rowA m_manyB m_rowB v4 (x5 + 1) _ _ ls h hP hD hS (lv_sub hl [2, 3, 4, 5, 1, 0] rfl)
      · have h := it_use c3 h
        refine lv_aload_n hx hb dX9_meaning_32 rfl (lv_at hl 0 rfl) ?_
        refine lv_iload hx hb dX9_meaning_33 (lv_at hl 5 rfl) ?_
        refine lv_iload_n hx hb dX9_meaning_35 rfl (lv_at hl 2 rfl) ?_
        refine lv_iload_n hx hb dX9_meaning_36 rfl (lv_at hl 3 rfl) ?_
        obtain ⟨v5, v6, f7, v8, f9, hc, h⟩ := bd5_use h
        refine cv_i (As := [.int x5, .int x2, .int x3]) (rest := [.int x4]) ⟨hx, hb, hml, hown, hts⟩ (kX9_areOne l n dC dI cB cI cJ cZ a _ m_letters m_words m_wMany m_wLetters m_asks m_aWords m_dLetters m_dWords m_dMany m_dText m_dAsks m_dAsk m_tape m_taped m_pos m_from m_sort m_value m_fault m_wrongAt m_manyA m_rowA m_manyB m_rowB m_places m_xs m_ys m_heights m_ridges m_rx m_rHeight m_lanes m_sizes m_cells m_left m_calls m_cDay m_cHour m_cFrom m_cAsk m_cWord m_cOf m_isLie m_children m_learned m_group x5 x2 x3 v5 v6 f7 v8 f9 hc) (cwV 3 hts gX9_meaning_X9_areOne rfl rfl rfl (by decide +kernel) ⟨Nat.le_of_ble_eq_true rfl, Nat.le_of_ble_eq_true rfl⟩) EB_0 hE hK hP hD hS hA 0 (ci := 8) rfl rfl rfl rfl hl.1 rfl (Nat.le_of_ble_eq_true rfl) dX9_meaning_37 ⟨Nat.zero_le _, Nat.zero_le _⟩ (fun H locs hP hD hS => ?_)
        refine lv_if_eq (tgt := 50) hx hb dX9_meaning_40 (by decide) (fun c10 => ?_) (fun c10 => ?_)
        · have h := it_use c10 h
          refine lv_iconst (v := 0) hx hb dX9_meaning_50 (by decide) ?_
          refine lv_ior hx hb dX9_meaning_51 ?_
          refine lv_topi (fun v11 ev11 => ?_)
          have h := nm_use ev11 h
          refine lv_istore (lv' := [(4, .int v11), (0, .ref (a 0)), (1, .int x1), (2, .int x2), (3, .int x3), (5, .int x5)]) hx hb dX9_meaning_52 hl (by decide) rfl (fun ls hl => ?_)
          refine lv_iinc (v := x5 + 1) (lv' := [(5, .int (x5 + 1)), (4, .int v11), (0, .ref (a 0)), (1, .int x1), (2, .int x2), (3, .int x3)]) hx hb dX9_meaning_54 hl (k := 5) rfl rfl (by decide) rfl (fun ls hl => ?_)
          refine lv_goto (tgt := 6) hx hb dX9_meaning_57 (by decide) ?_
          exact ih v6 f7 v8 f9 v11 (x5 + 1) _ _ ls h hP hD hS (lv_sub hl [2, 3, 4, 5, 1, 0] rfl)
        · have h := ie_use c10 h
          refine lv_iconst (v := 1) hx hb dX9_meaning_43 (by decide) ?_
          refine lv_iload hx hb dX9_meaning_44 (lv_at hl 5 rfl) ?_
          refine lv_ishl hx hb dX9_meaning_46 ?_
          refine lv_goto (tgt := 51) hx hb dX9_meaning_47 (by decide) ?_
          refine lv_ior hx hb dX9_meaning_51 ?_
          refine lv_topi (fun v12 ev12 => ?_)
          have h := nm_use ev12 h
          refine lv_istore (lv' := [(4, .int v12), (0, .ref (a 0)), (1, .int x1), (2, .int x2), (3, .int x3), (5, .int x5)]) hx hb dX9_meaning_52 hl (by decide) rfl (fun ls hl => ?_)
          refine lv_iinc (v := x5 + 1) (lv' := [(5, .int (x5 + 1)), (4, .int v12), (0, .ref (a 0)), (1, .int x1), (2, .int x2), (3, .int x3)]) hx hb dX9_meaning_54 hl (k := 5) rfl rfl (by decide) rfl (fun ls hl => ?_)
          refine lv_goto (tgt := 6) hx hb dX9_meaning_57 (by decide) ?_
          exact ih v6 f7 v8 f9 v12 (x5 + 1) _ _ ls h hP hD hS (lv_sub hl [2, 3, 4, 5, 1, 0] rfl)
theorem kX9_meaning_p6 {p : Program} {l : Launch} {e : Env} {s : State} {m : MethodId} {args : Array Value} {below : List Frame} {meth : Method} {c : Code} {A : Nat → Prop} (dC : Nat → ClassId) (dI : Nat → Nat → Nat) (cB cI cJ cZ : ClassId) (a : Nat → Nat) (C0 : cxt cX9_meaning (some .int) 6 RX9 wsX9_meaning (dC, dI) (tyz cB cI cJ cZ) E_0 A p s m args meth c) (n : Nat) (m_letters : Nat → Int32) (m_words : Int32) (m_wMany : Nat → Int32) (m_wLetters : Nat → Int32) (m_asks : Int32) (m_aWords : Nat → Int32) (m_dLetters : Nat → Int32) (m_dWords : Int32) (m_dMany : Nat → Int32) (m_dText : Nat → Int32) (m_dAsks : Int32) (m_dAsk : Nat → Int32) (m_tape : Nat → Int32) (m_taped : Int32) (m_pos : Int32) (m_from : Int32) (m_sort : Int32) (m_value : Int32) (m_fault : Int32) (m_wrongAt : Int32) (m_manyA : Int32) (m_rowA : Nat → Int32) (m_manyB : Int32) (m_rowB : Nat → Int32) (m_places : Int32) (m_xs : Nat → Int32) (m_ys : Nat → Int32) (m_heights : Nat → Int32) (m_ridges : Int32) (m_rx : Nat → Int32) (m_rHeight : Nat → Int32) (m_lanes : Nat → Int32) (m_sizes : Nat → Int32) (m_cells : Nat → Int32) (m_left : Nat → Int32) (m_calls : Int32) (m_cDay : Nat → Int32) (m_cHour : Nat → Int32) (m_cFrom : Nat → Int32) (m_cAsk : Nat → Int32) (m_cWord : Nat → Int32) (m_cOf : Nat → Int32) (m_isLie : Nat → Int32) (m_children : Int32) (m_learned : Nat → Int32) (m_group : Nat → Int32)  (x1 : Int32) (x2 : Int32) (x3 : Int32) (x4 : Int32) (x5 : Int32) (r0 : Int32) (z_m_manyA : Int32) (z_m_rowA : Nat → Int32) (z_m_manyB : Int32) (z_m_rowB : Nat → Int32)  (k : Nat) (H : Heap) (locs : List Loc) (ls : Array Slot) : fX9_meaning_p6 n m_letters m_words m_wMany m_wLetters m_aWords x1 x2 x3 k m_manyA m_rowA m_manyB m_rowB x4 x5 = some (r0, z_m_manyA, z_m_rowA, z_m_manyB, z_m_rowB) → va_P (dC, dI) vwCl (wM cB cI cJ cZ a m_letters m_words m_wMany m_wLetters m_asks m_aWords m_dLetters m_dWords m_dMany m_dText m_dAsks m_dAsk m_tape m_taped m_pos m_from m_sort m_value m_fault m_wrongAt m_manyA m_rowA m_manyB m_rowB m_places m_xs m_ys m_heights m_ridges m_rx m_rHeight m_lanes m_sizes m_cells m_left m_calls m_cDay m_cHour m_cFrom m_cAsk m_cWord m_cOf m_isLie m_children m_learned m_group) H → va_D A (wM cB cI cJ cZ a m_letters m_words m_wMany m_wLetters m_asks m_aWords m_dLetters m_dWords m_dMany m_dText m_dAsks m_dAsk m_tape m_taped m_pos m_from m_sort m_value m_fault m_wrongAt m_manyA m_rowA m_manyB m_rowB m_places m_xs m_ys m_heights m_ridges m_rx m_rHeight m_lanes m_sizes m_cells m_left m_calls m_cDay m_cHour m_cFrom m_cAsk m_cWord m_cOf m_isLie m_children m_learned m_group) → va_S A s.heap H locs → lv_has ls 6 [(0, .ref (a 0)), (1, .int x1), (2, .int x2), (3, .int x3), (4, .int x4), (5, .int x5)] → W p l e { frames := 3, cells := 0, slots := 0, locals := 72 } s m args below meth c H locs 0 0 (MQ below (gI (dC, dI) (tyz cB cI cJ cZ) (wM cB cI cJ cZ a m_letters m_words m_wMany m_wLetters m_asks m_aWords m_dLetters m_dWords m_dMany m_dText m_dAsks m_dAsk m_tape m_taped m_pos m_from m_sort m_value m_fault m_wrongAt z_m_manyA z_m_rowA z_m_manyB z_m_rowB m_places m_xs m_ys m_heights m_ridges m_rx m_rHeight m_lanes m_sizes m_cells m_left m_calls m_cDay m_cHour m_cFrom m_cAsk m_cWord m_cOf m_isLie m_children m_learned m_group) A r0) args s 0 0 A) (F0 m 6 ls []) :=
  kX9_meaning_p6_r dC dI cB cI cJ cZ a C0 n m_letters m_words m_wMany m_wLetters m_asks m_aWords m_dLetters m_dWords m_dMany m_dText m_dAsks m_dAsk m_tape m_taped m_pos m_from m_sort m_value m_fault m_wrongAt m_places m_xs m_ys m_heights m_ridges m_rx m_rHeight m_lanes m_sizes m_cells m_left m_calls m_cDay m_cHour m_cFrom m_cAsk m_cWord m_cOf m_isLie m_children m_learned m_group x1 x2 x3 r0 z_m_manyA z_m_rowA z_m_manyB z_m_rowB  k m_manyA m_rowA m_manyB m_rowB x4 x5 H locs ls
set_option maxHeartbeats 4000000 in
set_option maxRecDepth 100000 in
theorem kX9_meaning (l : Launch) (n : Nat) (dC : Nat → ClassId) (dI : Nat → Nat → Nat) (cB cI cJ cZ : ClassId) (a : Nat → Nat) (sz : Nat) (m_letters : Nat → Int32) (m_words : Int32) (m_wMany : Nat → Int32) (m_wLetters : Nat → Int32) (m_asks : Int32) (m_aWords : Nat → Int32) (m_dLetters : Nat → Int32) (m_dWords : Int32) (m_dMany : Nat → Int32) (m_dText : Nat → Int32) (m_dAsks : Int32) (m_dAsk : Nat → Int32) (m_tape : Nat → Int32) (m_taped : Int32) (m_pos : Int32) (m_from : Int32) (m_sort : Int32) (m_value : Int32) (m_fault : Int32) (m_wrongAt : Int32) (m_manyA : Int32) (m_rowA : Nat → Int32) (m_manyB : Int32) (m_rowB : Nat → Int32) (m_places : Int32) (m_xs : Nat → Int32) (m_ys : Nat → Int32) (m_heights : Nat → Int32) (m_ridges : Int32) (m_rx : Nat → Int32) (m_rHeight : Nat → Int32) (m_lanes : Nat → Int32) (m_sizes : Nat → Int32) (m_cells : Nat → Int32) (m_left : Nat → Int32) (m_calls : Int32) (m_cDay : Nat → Int32) (m_cHour : Nat → Int32) (m_cFrom : Nat → Int32) (m_cAsk : Nat → Int32) (m_cWord : Nat → Int32) (m_cOf : Nat → Int32) (m_isLie : Nat → Int32) (m_children : Int32) (m_learned : Nat → Int32) (m_group : Nat → Int32) (x1 : Int32) (x2 : Int32) (x3 : Int32) (r0 : Int32) (z_m_manyA : Int32) (z_m_rowA : Nat → Int32) (z_m_manyB : Int32) (z_m_rowB : Nat → Int32) (h : fX9_meaning n m_letters m_words m_wMany m_wLetters m_aWords m_manyA m_rowA m_manyB m_rowB x1 x2 x3 = some (r0, z_m_manyA, z_m_rowA, z_m_manyB, z_m_rowB)) : Met l yX9_meaning wsX9_meaning ({ frames := 3, cells := 0, slots := 0, locals := 72 }) (gP (dC, dI) (tyz cB cI cJ cZ) E_0 (wM cB cI cJ cZ a m_letters m_words m_wMany m_wLetters m_asks m_aWords m_dLetters m_dWords m_dMany m_dText m_dAsks m_dAsk m_tape m_taped m_pos m_from m_sort m_value m_fault m_wrongAt m_manyA m_rowA m_manyB m_rowB m_places m_xs m_ys m_heights m_ridges m_rx m_rHeight m_lanes m_sizes m_cells m_left m_calls m_cDay m_cHour m_cFrom m_cAsk m_cWord m_cOf m_isLie m_children m_learned m_group) sz [.ref (a 0), .int x1, .int x2, .int x3]) (gI (dC, dI) (tyz cB cI cJ cZ) (wM cB cI cJ cZ a m_letters m_words m_wMany m_wLetters m_asks m_aWords m_dLetters m_dWords m_dMany m_dText m_dAsks m_dAsk m_tape m_taped m_pos m_from m_sort m_value m_fault m_wrongAt z_m_manyA z_m_rowA z_m_manyB z_m_rowB m_places m_xs m_ys m_heights m_ridges m_rx m_rHeight m_lanes m_sizes m_cells m_left m_calls m_cDay m_cHour m_cFrom m_cAsk m_cWord m_cOf m_isLie m_children m_learned m_group) (va_A (wM cB cI cJ cZ a m_letters m_words m_wMany m_wLetters m_asks m_aWords m_dLetters m_dWords m_dMany m_dText m_dAsks m_dAsk m_tape m_taped m_pos m_from m_sort m_value m_fault m_wrongAt m_manyA m_rowA m_manyB m_rowB m_places m_xs m_ys m_heights m_ridges m_rx m_rHeight m_lanes m_sizes m_cells m_left m_calls m_cDay m_cHour m_cFrom m_cAsk m_cWord m_cOf m_isLie m_children m_learned m_group) sz) r0) 0 0 (va_A (wM cB cI cJ cZ a m_letters m_words m_wMany m_wLetters m_asks m_aWords m_dLetters m_dWords m_dMany m_dText m_dAsks m_dAsk m_tape m_taped m_pos m_from m_sort m_value m_fault m_wrongAt m_manyA m_rowA m_manyB m_rowB m_places m_xs m_ys m_heights m_ridges m_rx m_rHeight m_lanes m_sizes m_cells m_left m_calls m_cDay m_cHour m_cFrom m_cAsk m_cWord m_cOf m_isLie m_children m_learned m_group) sz) := by
  refine Met.ofW (cc := cX9_meaning) (maxL := 6) (ret := (some .int)) (by decide) rfl ?_
  intro p e s m args below meth c s₁ B hml hv
  obtain ⟨rfl, hsz, hP, hK, hD0, hE⟩ := hv
  have hx := B.exec
  have hb := B.bytes
  have hr := B.returns
  have hts := atoms_spec (ws := wsX9_meaning) B.pre
  have hown : s.vm.findClass RX9 = some m.cls := findClass_of_methodNamed B.named
  have hlocks := B.notSynchronized
  subst hsz
  have hD := hD0.self (sz := s.heap.size)
  have hA : ∀ q : Nat, s.heap.size ≤ q → va_A (wM cB cI cJ cZ a m_letters m_words m_wMany m_wLetters m_asks m_aWords m_dLetters m_dWords m_dMany m_dText m_dAsks m_dAsk m_tape m_taped m_pos m_from m_sort m_value m_fault m_wrongAt m_manyA m_rowA m_manyB m_rowB m_places m_xs m_ys m_heights m_ridges m_rx m_rHeight m_lanes m_sizes m_cells m_left m_calls m_cDay m_cHour m_cFrom m_cAsk m_cWord m_cOf m_isLie m_children m_learned m_group) s.heap.size q := fun q h => Or.inr h
  generalize va_A (wM cB cI cJ cZ a m_letters m_words m_wMany m_wLetters m_asks m_aWords m_dLetters m_dWords m_dMany m_dText m_dAsks m_dAsk m_tape m_taped m_pos m_from m_sort m_value m_fault m_wrongAt m_manyA m_rowA m_manyB m_rowB m_places m_xs m_ys m_heights m_ridges m_rx m_rHeight m_lanes m_sizes m_cells m_left m_calls m_cDay m_cHour m_cFrom m_cAsk m_cWord m_cOf m_isLie m_children m_learned m_group) s.heap.size = A at hD hA hE ⊢
  have hS : va_S A s.heap s.heap [] := va_S.rf
  have C0 : cxt cX9_meaning (some .int) 6 RX9 wsX9_meaning (dC, dI) (tyz cB cI cJ cZ) E_0 A p s m ([.ref (a 0), .int x1, .int x2, .int x3] : List Value).toArray meth c := ⟨hx, hb, hr, hml, hown, hts, hlocks, hK, hA, hE⟩
  have hl := lv_entry ([.ref (a 0), .int x1, .int x2, .int x3]) (n := 6) (Nat.le_of_ble_eq_true rfl)
  rw [lg_entry_eq]
  generalize (lg_sl ([.ref (a 0), .int x1, .int x2, .int x3]) ++ List.replicate (6 - (lg_sl ([.ref (a 0), .int x1, .int x2, .int x3])).length) Slot.unset).toArray = ls at hl ⊢
  have hl : lv_has ls 6 [(0, .ref (a 0)), (1, .int x1), (2, .int x2), (3, .int x3)] := hl
  unfold fX9_meaning at h
  refine lv_iconst (v := 0) hx hb dX9_meaning_0 (by decide) ?_
  refine lv_istore (lv' := [(4, .int (0 : Int32)), (0, .ref (a 0)), (1, .int x1), (2, .int x2), (3, .int x3)]) hx hb dX9_meaning_1 hl (by decide) rfl (fun ls hl => ?_)
  refine lv_iconst (v := 0) hx hb dX9_meaning_3 (by decide) ?_
  refine lv_istore (lv' := [(5, .int (0 : Int32)), (4, .int (0 : Int32)), (0, .ref (a 0)), (1, .int x1), (2, .int x2), (3, .int x3)]) hx hb dX9_meaning_4 hl (by decide) rfl (fun ls hl => ?_)
  exact kX9_meaning_p6 dC dI cB cI cJ cZ a C0 n m_letters m_words m_wMany m_wLetters m_asks m_aWords m_dLetters m_dWords m_dMany m_dText m_dAsks m_dAsk m_tape m_taped m_pos m_from m_sort m_value m_fault m_wrongAt m_manyA m_rowA m_manyB m_rowB m_places m_xs m_ys m_heights m_ridges m_rx m_rHeight m_lanes m_sizes m_cells m_left m_calls m_cDay m_cHour m_cFrom m_cAsk m_cWord m_cOf m_isLie m_children m_learned m_group x1 x2 x3 (0 : Int32) (0 : Int32) r0 z_m_manyA z_m_rowA z_m_manyB z_m_rowB  n _ _ ls h hP hD hS (lv_sub hl [2, 3, 4, 5, 1, 0] rfl)
set_option maxHeartbeats 4000000 in
set_option maxRecDepth 100000 in
theorem kX9_both (l : Launch) (n : Nat) (dC : Nat → ClassId) (dI : Nat → Nat → Nat) (cB cI cJ cZ : ClassId) (a : Nat → Nat) (sz : Nat) (m_letters : Nat → Int32) (m_words : Int32) (m_wMany : Nat → Int32) (m_wLetters : Nat → Int32) (m_asks : Int32) (m_aWords : Nat → Int32) (m_dLetters : Nat → Int32) (m_dWords : Int32) (m_dMany : Nat → Int32) (m_dText : Nat → Int32) (m_dAsks : Int32) (m_dAsk : Nat → Int32) (m_tape : Nat → Int32) (m_taped : Int32) (m_pos : Int32) (m_from : Int32) (m_sort : Int32) (m_value : Int32) (m_fault : Int32) (m_wrongAt : Int32) (m_manyA : Int32) (m_rowA : Nat → Int32) (m_manyB : Int32) (m_rowB : Nat → Int32) (m_places : Int32) (m_xs : Nat → Int32) (m_ys : Nat → Int32) (m_heights : Nat → Int32) (m_ridges : Int32) (m_rx : Nat → Int32) (m_rHeight : Nat → Int32) (m_lanes : Nat → Int32) (m_sizes : Nat → Int32) (m_cells : Nat → Int32) (m_left : Nat → Int32) (m_calls : Int32) (m_cDay : Nat → Int32) (m_cHour : Nat → Int32) (m_cFrom : Nat → Int32) (m_cAsk : Nat → Int32) (m_cWord : Nat → Int32) (m_cOf : Nat → Int32) (m_isLie : Nat → Int32) (m_children : Int32) (m_learned : Nat → Int32) (m_group : Nat → Int32) (x1 : Int32) (x2 : Int32) (x3 : Int32) (x4 : Int32) (r0 : Int32) (z_m_manyA : Int32) (z_m_rowA : Nat → Int32) (z_m_manyB : Int32) (z_m_rowB : Nat → Int32) (h : fX9_both n m_letters m_words m_wMany m_wLetters m_asks m_aWords m_manyA m_rowA m_manyB m_rowB x1 x2 x3 x4 = some (r0, z_m_manyA, z_m_rowA, z_m_manyB, z_m_rowB)) : Met l yX9_both wsX9_both ({ frames := 4, cells := 0, slots := 0, locals := 97 }) (gP (dC, dI) (tyz cB cI cJ cZ) E_0 (wM cB cI cJ cZ a m_letters m_words m_wMany m_wLetters m_asks m_aWords m_dLetters m_dWords m_dMany m_dText m_dAsks m_dAsk m_tape m_taped m_pos m_from m_sort m_value m_fault m_wrongAt m_manyA m_rowA m_manyB m_rowB m_places m_xs m_ys m_heights m_ridges m_rx m_rHeight m_lanes m_sizes m_cells m_left m_calls m_cDay m_cHour m_cFrom m_cAsk m_cWord m_cOf m_isLie m_children m_learned m_group) sz [.ref (a 0), .int x1, .int x2, .int x3, .int x4]) (gI (dC, dI) (tyz cB cI cJ cZ) (wM cB cI cJ cZ a m_letters m_words m_wMany m_wLetters m_asks m_aWords m_dLetters m_dWords m_dMany m_dText m_dAsks m_dAsk m_tape m_taped m_pos m_from m_sort m_value m_fault m_wrongAt z_m_manyA z_m_rowA z_m_manyB z_m_rowB m_places m_xs m_ys m_heights m_ridges m_rx m_rHeight m_lanes m_sizes m_cells m_left m_calls m_cDay m_cHour m_cFrom m_cAsk m_cWord m_cOf m_isLie m_children m_learned m_group) (va_A (wM cB cI cJ cZ a m_letters m_words m_wMany m_wLetters m_asks m_aWords m_dLetters m_dWords m_dMany m_dText m_dAsks m_dAsk m_tape m_taped m_pos m_from m_sort m_value m_fault m_wrongAt m_manyA m_rowA m_manyB m_rowB m_places m_xs m_ys m_heights m_ridges m_rx m_rHeight m_lanes m_sizes m_cells m_left m_calls m_cDay m_cHour m_cFrom m_cAsk m_cWord m_cOf m_isLie m_children m_learned m_group) sz) r0) 0 0 (va_A (wM cB cI cJ cZ a m_letters m_words m_wMany m_wLetters m_asks m_aWords m_dLetters m_dWords m_dMany m_dText m_dAsks m_dAsk m_tape m_taped m_pos m_from m_sort m_value m_fault m_wrongAt m_manyA m_rowA m_manyB m_rowB m_places m_xs m_ys m_heights m_ridges m_rx m_rHeight m_lanes m_sizes m_cells m_left m_calls m_cDay m_cHour m_cFrom m_cAsk m_cWord m_cOf m_isLie m_children m_learned m_group) sz) := by
  refine Met.ofW (cc := cX9_both) (maxL := 5) (ret := (some .int)) (by decide) rfl ?_
  intro p e s m args below meth c s₁ B hml hv
  obtain ⟨rfl, hsz, hP, hK, hD0, hE⟩ := hv
  have hx := B.exec
  have hb := B.bytes
  have hr := B.returns
  have hts := atoms_spec (ws := wsX9_both) B.pre
  have hown : s.vm.findClass RX9 = some m.cls := findClass_of_methodNamed B.named
  have hlocks := B.notSynchronized
  subst hsz
  have hD := hD0.self (sz := s.heap.size)
  have hA : ∀ q : Nat, s.heap.size ≤ q → va_A (wM cB cI cJ cZ a m_letters m_words m_wMany m_wLetters m_asks m_aWords m_dLetters m_dWords m_dMany m_dText m_dAsks m_dAsk m_tape m_taped m_pos m_from m_sort m_value m_fault m_wrongAt m_manyA m_rowA m_manyB m_rowB m_places m_xs m_ys m_heights m_ridges m_rx m_rHeight m_lanes m_sizes m_cells m_left m_calls m_cDay m_cHour m_cFrom m_cAsk m_cWord m_cOf m_isLie m_children m_learned m_group) s.heap.size q := fun q h => Or.inr h
  generalize va_A (wM cB cI cJ cZ a m_letters m_words m_wMany m_wLetters m_asks m_aWords m_dLetters m_dWords m_dMany m_dText m_dAsks m_dAsk m_tape m_taped m_pos m_from m_sort m_value m_fault m_wrongAt m_manyA m_rowA m_manyB m_rowB m_places m_xs m_ys m_heights m_ridges m_rx m_rHeight m_lanes m_sizes m_cells m_left m_calls m_cDay m_cHour m_cFrom m_cAsk m_cWord m_cOf m_isLie m_children m_learned m_group) s.heap.size = A at hD hA hE ⊢
  have hS : va_S A s.heap s.heap [] := va_S.rf
  have C0 : cxt cX9_both (some .int) 5 RX9 wsX9_both (dC, dI) (tyz cB cI cJ cZ) E_0 A p s m ([.ref (a 0), .int x1, .int x2, .int x3, .int x4] : List Value).toArray meth c := ⟨hx, hb, hr, hml, hown, hts, hlocks, hK, hA, hE⟩
  have hl := lv_entry ([.ref (a 0), .int x1, .int x2, .int x3, .int x4]) (n := 5) (Nat.le_of_ble_eq_true rfl)
  rw [lg_entry_eq]
  generalize (lg_sl ([.ref (a 0), .int x1, .int x2, .int x3, .int x4]) ++ List.replicate (5 - (lg_sl ([.ref (a 0), .int x1, .int x2, .int x3, .int x4])).length) Slot.unset).toArray = ls at hl ⊢
  have hl : lv_has ls 5 [(0, .ref (a 0)), (1, .int x1), (2, .int x2), (3, .int x3), (4, .int x4)] := hl
  unfold fX9_both at h
  refine lv_aload_n hx hb dX9_both_0 rfl (lv_at hl 0 rfl) ?_
  refine lv_iload_n hx hb dX9_both_1 rfl (lv_at hl 1 rfl) ?_
  refine lv_iload_n hx hb dX9_both_2 rfl (lv_at hl 2 rfl) ?_
  obtain ⟨v1, hc, h⟩ := bd1_use h
  refine cv_i (As := [.int x1, .int x2]) (rest := []) ⟨hx, hb, hml, hown, hts⟩ (kX9_fitsAsk l n dC dI cB cI cJ cZ a _ m_letters m_words m_wMany m_wLetters m_asks m_aWords m_dLetters m_dWords m_dMany m_dText m_dAsks m_dAsk m_tape m_taped m_pos m_from m_sort m_value m_fault m_wrongAt m_manyA m_rowA m_manyB m_rowB m_places m_xs m_ys m_heights m_ridges m_rx m_rHeight m_lanes m_sizes m_cells m_left m_calls m_cDay m_cHour m_cFrom m_cAsk m_cWord m_cOf m_isLie m_children m_learned m_group x1 x2 v1 hc) (cwV 2 hts gX9_both_X9_fitsAsk rfl rfl rfl (by decide +kernel) ⟨Nat.le_of_ble_eq_true rfl, Nat.le_of_ble_eq_true rfl⟩) EB_0 hE hK hP hD hS hA 0 (ci := 8) rfl rfl rfl rfl hl.1 rfl (Nat.le_of_ble_eq_true rfl) dX9_both_3 ⟨Nat.zero_le _, Nat.zero_le _⟩ (fun H locs hP hD hS => ?_)
  refine lv_if_eq (tgt := 43) hx hb dX9_both_6 (by decide) (fun c2 => ?_) (fun c2 => ?_)
  · have h := it_use c2 h
    refine lv_iconst (v := -1) hx hb dX9_both_43 (by decide) ?_
    obtain ⟨er, ez0, ez1, ez2, ez3⟩ := rt5_use h
    subst ez0
    subst ez1
    subst ez2
    subst ez3
    exact re_i hx hb hr hlocks hK hP hD hS er dX9_both_44
  · have h := ie_use c2 h
    refine lv_iload_n hx hb dX9_both_9 rfl (lv_at hl 3 rfl) ?_
    obtain ⟨v3, hc, h⟩ := bd1_use h
    refine cs_i (As := [.int x3]) (rest := []) ⟨hx, hb, hml, hown, hts⟩ (kX9_isBlur l n x3 v3 hc) (va_cwS 1 hts gX9_both_X9_isBlur rfl rfl rfl (by decide +kernel) ⟨Nat.le_of_ble_eq_true rfl, Nat.le_of_ble_eq_true rfl⟩) hP hS rfl hl.1 rfl (Nat.le_of_ble_eq_true rfl) dX9_both_10 ⟨Nat.zero_le _, Nat.zero_le _⟩ (fun H locs hP hS => ?_)
    refine lv_if_eq (tgt := 43) hx hb dX9_both_13 (by decide) (fun c4 => ?_) (fun c4 => ?_)
    · have h := it_use c4 h
      refine lv_iconst (v := -1) hx hb dX9_both_43 (by decide) ?_
      obtain ⟨er, ez0, ez1, ez2, ez3⟩ := rt5_use h
      subst ez0
      subst ez1
      subst ez2
      subst ez3
      exact re_i hx hb hr hlocks hK hP hD hS er dX9_both_44
    · have h := ie_use c4 h
      refine lv_iload hx hb dX9_both_16 (lv_at hl 4 rfl) ?_
      obtain ⟨v5, hc, h⟩ := bd1_use h
      refine cs_i (As := [.int x4]) (rest := []) ⟨hx, hb, hml, hown, hts⟩ (kX9_isBlur l n x4 v5 hc) (va_cwS 1 hts gX9_both_X9_isBlur rfl rfl rfl (by decide +kernel) ⟨Nat.le_of_ble_eq_true rfl, Nat.le_of_ble_eq_true rfl⟩) hP hS rfl hl.1 rfl (Nat.le_of_ble_eq_true rfl) dX9_both_18 ⟨Nat.zero_le _, Nat.zero_le _⟩ (fun H locs hP hS => ?_)
      refine lv_if_eq (tgt := 43) hx hb dX9_both_21 (by decide) (fun c6 => ?_) (fun c6 => ?_)
      · have h := it_use c6 h
        refine lv_iconst (v := -1) hx hb dX9_both_43 (by decide) ?_
        obtain ⟨er, ez0, ez1, ez2, ez3⟩ := rt5_use h
        subst ez0
        subst ez1
        subst ez2
        subst ez3
        exact re_i hx hb hr hlocks hK hP hD hS er dX9_both_44
      · have h := ie_use c6 h
        refine lv_aload_n hx hb dX9_both_24 rfl (lv_at hl 0 rfl) ?_
        refine lv_iload_n hx hb dX9_both_25 rfl (lv_at hl 1 rfl) ?_
        refine lv_iload_n hx hb dX9_both_26 rfl (lv_at hl 2 rfl) ?_
        refine lv_iload_n hx hb dX9_both_27 rfl (lv_at hl 3 rfl) ?_
        obtain ⟨v7, v8, f9, v10, f11, hc, h⟩ := bd5_use h
        refine cv_i (As := [.int x1, .int x2, .int x3]) (rest := []) ⟨hx, hb, hml, hown, hts⟩ (kX9_meaning l n dC dI cB cI cJ cZ a _ m_letters m_words m_wMany m_wLetters m_asks m_aWords m_dLetters m_dWords m_dMany m_dText m_dAsks m_dAsk m_tape m_taped m_pos m_from m_sort m_value m_fault m_wrongAt m_manyA m_rowA m_manyB m_rowB m_places m_xs m_ys m_heights m_ridges m_rx m_rHeight m_lanes m_sizes m_cells m_left m_calls m_cDay m_cHour m_cFrom m_cAsk m_cWord m_cOf m_isLie m_children m_learned m_group x1 x2 x3 v7 v8 f9 v10 f11 hc) (cwV 3 hts gX9_both_X9_meaning rfl rfl rfl (by decide +kernel) ⟨Nat.le_of_ble_eq_true rfl, Nat.le_of_ble_eq_true rfl⟩) EB_0 hE hK hP hD hS hA 0 (ci := 8) rfl rfl rfl rfl hl.1 rfl (Nat.le_of_ble_eq_true rfl) dX9_both_28 ⟨Nat.zero_le _, Nat.zero_le _⟩ (fun H locs hP hD hS => ?_)
        refine lv_aload_n hx hb dX9_both_31 rfl (lv_at hl 0 rfl) ?_
        refine lv_iload_n hx hb dX9_both_32 rfl (lv_at hl 1 rfl) ?_
        refine lv_iload_n hx hb dX9_both_33 rfl (lv_at hl 2 rfl) ?_
        refine lv_iload hx hb dX9_both_34 (lv_at hl 4 rfl) ?_
        obtain ⟨v12, v13, f14, v15, f16, hc, h⟩ := bd5_use h
        refine cv_i (As := [.int x1, .int x2, .int x4]) (rest := [.int v7]) ⟨hx, hb, hml, hown, hts⟩ (kX9_meaning l n dC dI cB cI cJ cZ a _ m_letters m_words m_wMany m_wLetters m_asks m_aWords m_dLetters m_dWords m_dMany m_dText m_dAsks m_dAsk m_tape m_taped m_pos m_from m_sort m_value m_fault m_wrongAt v8 f9 v10 f11 m_places m_xs m_ys m_heights m_ridges m_rx m_rHeight m_lanes m_sizes m_cells m_left m_calls m_cDay m_cHour m_cFrom m_cAsk m_cWord m_cOf m_isLie m_children m_learned m_group x1 x2 x4 v12 v13 f14 v15 f16 hc) (cwV 3 hts gX9_both_X9_meaning rfl rfl rfl (by decide +kernel) ⟨Nat.le_of_ble_eq_true rfl, Nat.le_of_ble_eq_true rfl⟩) EB_0 hE hK hP hD hS hA 0 (ci := 8) rfl rfl rfl rfl hl.1 rfl (Nat.le_of_ble_eq_true rfl) dX9_both_36 ⟨Nat.zero_le _, Nat.zero_le _⟩ (fun H locs hP hD hS => ?_)
        refine lv_iand hx hb dX9_both_39 ?_
        refine lv_goto (tgt := 44) hx hb dX9_both_40 (by decide) ?_
        obtain ⟨er, ez0, ez1, ez2, ez3⟩ := rt5_use h
        subst ez0
        subst ez1
        subst ez2
        subst ez3
        exact re_i hx hb hr hlocks hK hP hD hS er dX9_both_44
set_option maxHeartbeats 4000000 in
set_option maxRecDepth 100000 in
theorem kX9_sure_p17_r {p : Program} {l : Launch} {e : Env} {s : State} {m : MethodId} {args : Array Value} {below : List Frame} {meth : Method} {c : Code} {A : Nat → Prop} (dC : Nat → ClassId) (dI : Nat → Nat → Nat) (cB cI cJ cZ : ClassId) (a : Nat → Nat) (C0 : cxt cX9_sure (some .int) 5 RX9 wsX9_sure (dC, dI) (tyz cB cI cJ cZ) E_0 A p s m args meth c) (n : Nat) (m_letters : Nat → Int32) (m_words : Int32) (m_wMany : Nat → Int32) (m_wLetters : Nat → Int32) (m_asks : Int32) (m_aWords : Nat → Int32) (m_dLetters : Nat → Int32) (m_dWords : Int32) (m_dMany : Nat → Int32) (m_dText : Nat → Int32) (m_dAsks : Int32) (m_dAsk : Nat → Int32) (m_tape : Nat → Int32) (m_taped : Int32) (m_pos : Int32) (m_from : Int32) (m_sort : Int32) (m_value : Int32) (m_fault : Int32) (m_wrongAt : Int32) (m_places : Int32) (m_xs : Nat → Int32) (m_ys : Nat → Int32) (m_heights : Nat → Int32) (m_ridges : Int32) (m_rx : Nat → Int32) (m_rHeight : Nat → Int32) (m_lanes : Nat → Int32) (m_sizes : Nat → Int32) (m_cells : Nat → Int32) (m_left : Nat → Int32) (m_calls : Int32) (m_cDay : Nat → Int32) (m_cHour : Nat → Int32) (m_cFrom : Nat → Int32) (m_cAsk : Nat → Int32) (m_cWord : Nat → Int32) (m_cOf : Nat → Int32) (m_isLie : Nat → Int32) (m_children : Int32) (m_learned : Nat → Int32) (m_group : Nat → Int32) (x1 : Int32) (x2 : Int32) (r0 : Int32) (z_m_manyA : Int32) (z_m_rowA : Nat → Int32) (z_m_manyB : Int32) (z_m_rowB : Nat → Int32)  : ∀ (k : Nat) (m_manyA : Int32) (m_rowA : Nat → Int32) (m_manyB : Int32) (m_rowB : Nat → Int32) (x3 : Int32) (x4 : Int32) (H : Heap) (locs : List Loc) (ls : Array Slot), fX9_sure_p17 n m_letters m_words m_wMany m_wLetters m_aWords x1 x2 k m_manyA m_rowA m_manyB m_rowB x3 x4 = some (r0, z_m_manyA, z_m_rowA, z_m_manyB, z_m_rowB) → va_P (dC, dI) vwCl (wM cB cI cJ cZ a m_letters m_words m_wMany m_wLetters m_asks m_aWords m_dLetters m_dWords m_dMany m_dText m_dAsks m_dAsk m_tape m_taped m_pos m_from m_sort m_value m_fault m_wrongAt m_manyA m_rowA m_manyB m_rowB m_places m_xs m_ys m_heights m_ridges m_rx m_rHeight m_lanes m_sizes m_cells m_left m_calls m_cDay m_cHour m_cFrom m_cAsk m_cWord m_cOf m_isLie m_children m_learned m_group) H → va_D A (wM cB cI cJ cZ a m_letters m_words m_wMany m_wLetters m_asks m_aWords m_dLetters m_dWords m_dMany m_dText m_dAsks m_dAsk m_tape m_taped m_pos m_from m_sort m_value m_fault m_wrongAt m_manyA m_rowA m_manyB m_rowB m_places m_xs m_ys m_heights m_ridges m_rx m_rHeight m_lanes m_sizes m_cells m_left m_calls m_cDay m_cHour m_cFrom m_cAsk m_cWord m_cOf m_isLie m_children m_learned m_group) → va_S A s.heap H locs → lv_has ls 5 [(0, .ref (a 0)), (1, .int x1), (2, .int x2), (3, .int x3), (4, .int x4)] → W p l e { frames := 4, cells := 0, slots := 0, locals := 97 } s m args below meth c H locs 0 0 (MQ below (gI (dC, dI) (tyz cB cI cJ cZ) (wM cB cI cJ cZ a m_letters m_words m_wMany m_wLetters m_asks m_aWords m_dLetters m_dWords m_dMany m_dText m_dAsks m_dAsk m_tape m_taped m_pos m_from m_sort m_value m_fault m_wrongAt z_m_manyA z_m_rowA z_m_manyB z_m_rowB m_places m_xs m_ys m_heights m_ridges m_rx m_rHeight m_lanes m_sizes m_cells m_left m_calls m_cDay m_cHour m_cFrom m_cAsk m_cWord m_cOf m_isLie m_children m_learned m_group) A r0) args s 0 0 A) (F0 m 17 ls []) := by
  obtain ⟨hx, hb, hr, hml, hown, hts, hlocks, hK, hA, hE⟩ := id C0
  intro k
  induction k with
  | zero =>
    intro m_manyA m_rowA m_manyB m_rowB x3 x4 H locs ls h
    cases h
  | succ k ih =>
    intro m_manyA m_rowA m_manyB m_rowB x3 x4 H locs ls h hP hD hS hl
    rw [fX9_sure_p17] at h
    refine lv_iload hx hb dX9_sure_17 (lv_at hl 4 rfl) ?_
    refine lv_iconst (v := 5) hx hb dX9_sure_19 (by decide) ?_
    refine lv_icmp_gt (tgt := 50) hx hb dX9_sure_20 (by decide) (fun c1 => ?_) (fun c1 => ?_)
    · have h := it_use c1 h
      refine lv_iload_n hx hb dX9_sure_50 rfl (lv_at hl 3 rfl) ?_
      obtain ⟨er, ez0, ez1, ez2, ez3⟩ := rt5_use h
      subst ez0
      subst ez1
      subst ez2
      subst ez3
      exact re_i hx hb hr hlocks hK hP hD hS er dX9_sure_51
    · have h := ie_use c1 h
      refine lv_aload_n hx hb dX9_sure_23 rfl (lv_at hl 0 rfl) ?_
      refine lv_iload_n hx hb dX9_sure_24 rfl (lv_at hl 1 rfl) ?_
      refine lv_iload_n hx hb dX9_sure_25 rfl (lv_at hl 2 rfl) ?_
      refine lv_iload hx hb dX9_sure_26 (lv_at hl 4 rfl) ?_
      obtain ⟨v2, v3, f4, v5, f6, hc, h⟩ := bd5_use h
      refine cv_i (As := [.int x1, .int x2, .int x4]) (rest := []) ⟨hx, hb, hml, hown, hts⟩ (kX9_meaning l n dC dI cB cI cJ cZ a _ m_letters m_words m_wMany m_wLetters m_asks m_aWords m_dLetters m_dWords m_dMany m_dText m_dAsks m_dAsk m_tape m_taped m_pos m_from m_sort m_value m_fault m_wrongAt m_manyA m_rowA m_manyB m_rowB m_places m_xs m_ys m_heights m_ridges m_rx m_rHeight m_lanes m_sizes m_cells m_left m_calls m_cDay m_cHour m_cFrom m_cAsk m_cWord m_cOf m_isLie m_children m_learned m_group x1 x2 x4 v2 v3 f4 v5 f6 hc) (cwV 3 hts gX9_sure_X9_meaning rfl rfl rfl (by decide +kernel) ⟨Nat.le_of_ble_eq_true rfl, Nat.le_of_ble_eq_true rfl⟩) EB_0 hE hK hP hD hS hA 0 (ci := 8) rfl rfl rfl rfl hl.1 rfl (Nat.le_of_ble_eq_true rfl) dX9_sure_28 ⟨Nat.zero_le _, Nat.zero_le _⟩ (fun H locs hP hD hS => ?_)
      refine lv_iconst (v := 1) hx hb dX9_sure_31 (by decide) ?_
      refine lv_iload_n hx hb dX9_sure_32 rfl (lv_at hl 2 rfl) ?_
      refine lv_ishl hx hb dX9_sure_33 ?_
      refine lv_icmp_ne (tgt := 42) hx hb dX9_sure_34 (by decide) (fun c7 => ?_) (fun c7 => ?_)
      · have h := ie_use c7 h
        refine lv_iload_n hx hb dX9_sure_42 rfl (lv_at hl 3 rfl) ?_
        refine lv_istore_n (lv' := [(3, .int x3), (0, .ref (a 0)), (1, .int x1), (2, .int x2), (4, .int x4)]) hx hb dX9_sure_43 rfl hl (by decide) rfl (fun ls hl => ?_)
        refine lv_iinc (v := x4 + 1) (lv' := [(4, .int (x4 + 1)), (3, .int x3), (0, .ref (a 0)), (1, .int x1), (2, .int x2)]) hx hb dX9_sure_44 hl (k := 4) rfl rfl (by decide) rfl (fun ls hl => ?_)
        refine lv_goto (tgt := 17) hx hb dX9_sure_47 (by decide) ?_
        exact ih v3 f4 v5 f6 x3 (x4 + 1) _ _ ls h hP hD hS (lv_sub hl [2, 3, 4, 1, 0] rfl)
      · have h := it_use c7 h
        refine lv_iload hx hb dX9_sure_37 (lv_at hl 4 rfl) ?_
        refine lv_goto (tgt := 43) hx hb dX9_sure_39 (by decide) ?_
        refine lv_istore_n (lv' := [(3, .int x4), (0, .ref (a 0)), (1, .int x1), (2, .int x2), (4, .int x4)]) hx hb dX9_sure_43 rfl hl (by decide) rfl (fun ls hl => ?_)
        refine lv_iinc (v := x4 + 1) (lv' := [(4, .int (x4 + 1)), (3, .int x4), (0, .ref (a 0)), (1, .int x1), (2, .int x2)]) hx hb dX9_sure_44 hl (k := 4) rfl rfl (by decide) rfl (fun ls hl => ?_)
        refine lv_goto (tgt := 17) hx hb dX9_sure_47 (by decide) ?_
        exact ih v3 f4 v5 f6 x4 (x4 + 1) _ _ ls h hP hD hS (lv_sub hl [2, 3, 4, 1, 0] rfl)
theorem kX9_sure_p17 {p : Program} {l : Launch} {e : Env} {s : State} {m : MethodId} {args : Array Value} {below : List Frame} {meth : Method} {c : Code} {A : Nat → Prop} (dC : Nat → ClassId) (dI : Nat → Nat → Nat) (cB cI cJ cZ : ClassId) (a : Nat → Nat) (C0 : cxt cX9_sure (some .int) 5 RX9 wsX9_sure (dC, dI) (tyz cB cI cJ cZ) E_0 A p s m args meth c) (n : Nat) (m_letters : Nat → Int32) (m_words : Int32) (m_wMany : Nat → Int32) (m_wLetters : Nat → Int32) (m_asks : Int32) (m_aWords : Nat → Int32) (m_dLetters : Nat → Int32) (m_dWords : Int32) (m_dMany : Nat → Int32) (m_dText : Nat → Int32) (m_dAsks : Int32) (m_dAsk : Nat → Int32) (m_tape : Nat → Int32) (m_taped : Int32) (m_pos : Int32) (m_from : Int32) (m_sort : Int32) (m_value : Int32) (m_fault : Int32) (m_wrongAt : Int32) (m_manyA : Int32) (m_rowA : Nat → Int32) (m_manyB : Int32) (m_rowB : Nat → Int32) (m_places : Int32) (m_xs : Nat → Int32) (m_ys : Nat → Int32) (m_heights : Nat → Int32) (m_ridges : Int32) (m_rx : Nat → Int32) (m_rHeight : Nat → Int32) (m_lanes : Nat → Int32) (m_sizes : Nat → Int32) (m_cells : Nat → Int32) (m_left : Nat → Int32) (m_calls : Int32) (m_cDay : Nat → Int32) (m_cHour : Nat → Int32) (m_cFrom : Nat → Int32) (m_cAsk : Nat → Int32) (m_cWord : Nat → Int32) (m_cOf : Nat → Int32) (m_isLie : Nat → Int32) (m_children : Int32) (m_learned : Nat → Int32) (m_group : Nat → Int32)  (x1 : Int32) (x2 : Int32) (x3 : Int32) (x4 : Int32) (r0 : Int32) (z_m_manyA : Int32) (z_m_rowA : Nat → Int32) (z_m_manyB : Int32) (z_m_rowB : Nat → Int32)  (k : Nat) (H : Heap) (locs : List Loc) (ls : Array Slot) : fX9_sure_p17 n m_letters m_words m_wMany m_wLetters m_aWords x1 x2 k m_manyA m_rowA m_manyB m_rowB x3 x4 = some (r0, z_m_manyA, z_m_rowA, z_m_manyB, z_m_rowB) → va_P (dC, dI) vwCl (wM cB cI cJ cZ a m_letters m_words m_wMany m_wLetters m_asks m_aWords m_dLetters m_dWords m_dMany m_dText m_dAsks m_dAsk m_tape m_taped m_pos m_from m_sort m_value m_fault m_wrongAt m_manyA m_rowA m_manyB m_rowB m_places m_xs m_ys m_heights m_ridges m_rx m_rHeight m_lanes m_sizes m_cells m_left m_calls m_cDay m_cHour m_cFrom m_cAsk m_cWord m_cOf m_isLie m_children m_learned m_group) H → va_D A (wM cB cI cJ cZ a m_letters m_words m_wMany m_wLetters m_asks m_aWords m_dLetters m_dWords m_dMany m_dText m_dAsks m_dAsk m_tape m_taped m_pos m_from m_sort m_value m_fault m_wrongAt m_manyA m_rowA m_manyB m_rowB m_places m_xs m_ys m_heights m_ridges m_rx m_rHeight m_lanes m_sizes m_cells m_left m_calls m_cDay m_cHour m_cFrom m_cAsk m_cWord m_cOf m_isLie m_children m_learned m_group) → va_S A s.heap H locs → lv_has ls 5 [(0, .ref (a 0)), (1, .int x1), (2, .int x2), (3, .int x3), (4, .int x4)] → W p l e { frames := 4, cells := 0, slots := 0, locals := 97 } s m args below meth c H locs 0 0 (MQ below (gI (dC, dI) (tyz cB cI cJ cZ) (wM cB cI cJ cZ a m_letters m_words m_wMany m_wLetters m_asks m_aWords m_dLetters m_dWords m_dMany m_dText m_dAsks m_dAsk m_tape m_taped m_pos m_from m_sort m_value m_fault m_wrongAt z_m_manyA z_m_rowA z_m_manyB z_m_rowB m_places m_xs m_ys m_heights m_ridges m_rx m_rHeight m_lanes m_sizes m_cells m_left m_calls m_cDay m_cHour m_cFrom m_cAsk m_cWord m_cOf m_isLie m_children m_learned m_group) A r0) args s 0 0 A) (F0 m 17 ls []) :=
  kX9_sure_p17_r dC dI cB cI cJ cZ a C0 n m_letters m_words m_wMany m_wLetters m_asks m_aWords m_dLetters m_dWords m_dMany m_dText m_dAsks m_dAsk m_tape m_taped m_pos m_from m_sort m_value m_fault m_wrongAt m_places m_xs m_ys m_heights m_ridges m_rx m_rHeight m_lanes m_sizes m_cells m_left m_calls m_cDay m_cHour m_cFrom m_cAsk m_cWord m_cOf m_isLie m_children m_learned m_group x1 x2 r0 z_m_manyA z_m_rowA z_m_manyB z_m_rowB  k m_manyA m_rowA m_manyB m_rowB x3 x4 H locs ls
set_option maxHeartbeats 4000000 in
set_option maxRecDepth 100000 in
theorem kX9_sure (l : Launch) (n : Nat) (dC : Nat → ClassId) (dI : Nat → Nat → Nat) (cB cI cJ cZ : ClassId) (a : Nat → Nat) (sz : Nat) (m_letters : Nat → Int32) (m_words : Int32) (m_wMany : Nat → Int32) (m_wLetters : Nat → Int32) (m_asks : Int32) (m_aWords : Nat → Int32) (m_dLetters : Nat → Int32) (m_dWords : Int32) (m_dMany : Nat → Int32) (m_dText : Nat → Int32) (m_dAsks : Int32) (m_dAsk : Nat → Int32) (m_tape : Nat → Int32) (m_taped : Int32) (m_pos : Int32) (m_from : Int32) (m_sort : Int32) (m_value : Int32) (m_fault : Int32) (m_wrongAt : Int32) (m_manyA : Int32) (m_rowA : Nat → Int32) (m_manyB : Int32) (m_rowB : Nat → Int32) (m_places : Int32) (m_xs : Nat → Int32) (m_ys : Nat → Int32) (m_heights : Nat → Int32) (m_ridges : Int32) (m_rx : Nat → Int32) (m_rHeight : Nat → Int32) (m_lanes : Nat → Int32) (m_sizes : Nat → Int32) (m_cells : Nat → Int32) (m_left : Nat → Int32) (m_calls : Int32) (m_cDay : Nat → Int32) (m_cHour : Nat → Int32) (m_cFrom : Nat → Int32) (m_cAsk : Nat → Int32) (m_cWord : Nat → Int32) (m_cOf : Nat → Int32) (m_isLie : Nat → Int32) (m_children : Int32) (m_learned : Nat → Int32) (m_group : Nat → Int32) (x1 : Int32) (x2 : Int32) (r0 : Int32) (z_m_manyA : Int32) (z_m_rowA : Nat → Int32) (z_m_manyB : Int32) (z_m_rowB : Nat → Int32) (h : fX9_sure n m_letters m_words m_wMany m_wLetters m_asks m_aWords m_manyA m_rowA m_manyB m_rowB x1 x2 = some (r0, z_m_manyA, z_m_rowA, z_m_manyB, z_m_rowB)) : Met l yX9_sure wsX9_sure ({ frames := 4, cells := 0, slots := 0, locals := 97 }) (gP (dC, dI) (tyz cB cI cJ cZ) E_0 (wM cB cI cJ cZ a m_letters m_words m_wMany m_wLetters m_asks m_aWords m_dLetters m_dWords m_dMany m_dText m_dAsks m_dAsk m_tape m_taped m_pos m_from m_sort m_value m_fault m_wrongAt m_manyA m_rowA m_manyB m_rowB m_places m_xs m_ys m_heights m_ridges m_rx m_rHeight m_lanes m_sizes m_cells m_left m_calls m_cDay m_cHour m_cFrom m_cAsk m_cWord m_cOf m_isLie m_children m_learned m_group) sz [.ref (a 0), .int x1, .int x2]) (gI (dC, dI) (tyz cB cI cJ cZ) (wM cB cI cJ cZ a m_letters m_words m_wMany m_wLetters m_asks m_aWords m_dLetters m_dWords m_dMany m_dText m_dAsks m_dAsk m_tape m_taped m_pos m_from m_sort m_value m_fault m_wrongAt z_m_manyA z_m_rowA z_m_manyB z_m_rowB m_places m_xs m_ys m_heights m_ridges m_rx m_rHeight m_lanes m_sizes m_cells m_left m_calls m_cDay m_cHour m_cFrom m_cAsk m_cWord m_cOf m_isLie m_children m_learned m_group) (va_A (wM cB cI cJ cZ a m_letters m_words m_wMany m_wLetters m_asks m_aWords m_dLetters m_dWords m_dMany m_dText m_dAsks m_dAsk m_tape m_taped m_pos m_from m_sort m_value m_fault m_wrongAt m_manyA m_rowA m_manyB m_rowB m_places m_xs m_ys m_heights m_ridges m_rx m_rHeight m_lanes m_sizes m_cells m_left m_calls m_cDay m_cHour m_cFrom m_cAsk m_cWord m_cOf m_isLie m_children m_learned m_group) sz) r0) 0 0 (va_A (wM cB cI cJ cZ a m_letters m_words m_wMany m_wLetters m_asks m_aWords m_dLetters m_dWords m_dMany m_dText m_dAsks m_dAsk m_tape m_taped m_pos m_from m_sort m_value m_fault m_wrongAt m_manyA m_rowA m_manyB m_rowB m_places m_xs m_ys m_heights m_ridges m_rx m_rHeight m_lanes m_sizes m_cells m_left m_calls m_cDay m_cHour m_cFrom m_cAsk m_cWord m_cOf m_isLie m_children m_learned m_group) sz) := by
  refine Met.ofW (cc := cX9_sure) (maxL := 5) (ret := (some .int)) (by decide) rfl ?_
  intro p e s m args below meth c s₁ B hml hv
  obtain ⟨rfl, hsz, hP, hK, hD0, hE⟩ := hv
  have hx := B.exec
  have hb := B.bytes
  have hr := B.returns
  have hts := atoms_spec (ws := wsX9_sure) B.pre
  have hown : s.vm.findClass RX9 = some m.cls := findClass_of_methodNamed B.named
  have hlocks := B.notSynchronized
  subst hsz
  have hD := hD0.self (sz := s.heap.size)
  have hA : ∀ q : Nat, s.heap.size ≤ q → va_A (wM cB cI cJ cZ a m_letters m_words m_wMany m_wLetters m_asks m_aWords m_dLetters m_dWords m_dMany m_dText m_dAsks m_dAsk m_tape m_taped m_pos m_from m_sort m_value m_fault m_wrongAt m_manyA m_rowA m_manyB m_rowB m_places m_xs m_ys m_heights m_ridges m_rx m_rHeight m_lanes m_sizes m_cells m_left m_calls m_cDay m_cHour m_cFrom m_cAsk m_cWord m_cOf m_isLie m_children m_learned m_group) s.heap.size q := fun q h => Or.inr h
  generalize va_A (wM cB cI cJ cZ a m_letters m_words m_wMany m_wLetters m_asks m_aWords m_dLetters m_dWords m_dMany m_dText m_dAsks m_dAsk m_tape m_taped m_pos m_from m_sort m_value m_fault m_wrongAt m_manyA m_rowA m_manyB m_rowB m_places m_xs m_ys m_heights m_ridges m_rx m_rHeight m_lanes m_sizes m_cells m_left m_calls m_cDay m_cHour m_cFrom m_cAsk m_cWord m_cOf m_isLie m_children m_learned m_group) s.heap.size = A at hD hA hE ⊢
  have hS : va_S A s.heap s.heap [] := va_S.rf
  have C0 : cxt cX9_sure (some .int) 5 RX9 wsX9_sure (dC, dI) (tyz cB cI cJ cZ) E_0 A p s m ([.ref (a 0), .int x1, .int x2] : List Value).toArray meth c := ⟨hx, hb, hr, hml, hown, hts, hlocks, hK, hA, hE⟩
  have hl := lv_entry ([.ref (a 0), .int x1, .int x2]) (n := 5) (Nat.le_of_ble_eq_true rfl)
  rw [lg_entry_eq]
  generalize (lg_sl ([.ref (a 0), .int x1, .int x2]) ++ List.replicate (5 - (lg_sl ([.ref (a 0), .int x1, .int x2])).length) Slot.unset).toArray = ls at hl ⊢
  have hl : lv_has ls 5 [(0, .ref (a 0)), (1, .int x1), (2, .int x2)] := hl
  unfold fX9_sure at h
  refine lv_aload_n hx hb dX9_sure_0 rfl (lv_at hl 0 rfl) ?_
  refine lv_iload_n hx hb dX9_sure_1 rfl (lv_at hl 1 rfl) ?_
  refine lv_iload_n hx hb dX9_sure_2 rfl (lv_at hl 2 rfl) ?_
  obtain ⟨v1, hc, h⟩ := bd1_use h
  refine cv_i (As := [.int x1, .int x2]) (rest := []) ⟨hx, hb, hml, hown, hts⟩ (kX9_fitsAsk l n dC dI cB cI cJ cZ a _ m_letters m_words m_wMany m_wLetters m_asks m_aWords m_dLetters m_dWords m_dMany m_dText m_dAsks m_dAsk m_tape m_taped m_pos m_from m_sort m_value m_fault m_wrongAt m_manyA m_rowA m_manyB m_rowB m_places m_xs m_ys m_heights m_ridges m_rx m_rHeight m_lanes m_sizes m_cells m_left m_calls m_cDay m_cHour m_cFrom m_cAsk m_cWord m_cOf m_isLie m_children m_learned m_group x1 x2 v1 hc) (cwV 2 hts gX9_sure_X9_fitsAsk rfl rfl rfl (by decide +kernel) ⟨Nat.le_of_ble_eq_true rfl, Nat.le_of_ble_eq_true rfl⟩) EB_0 hE hK hP hD hS hA 0 (ci := 8) rfl rfl rfl rfl hl.1 rfl (Nat.le_of_ble_eq_true rfl) dX9_sure_3 ⟨Nat.zero_le _, Nat.zero_le _⟩ (fun H locs hP hD hS => ?_)
  refine lv_if_ne (tgt := 11) hx hb dX9_sure_6 (by decide) (fun c2 => ?_) (fun c2 => ?_)
  · have h := ie_use c2 h
    refine lv_bipush (v := -4) hx hb dX9_sure_11 (by decide) ?_
    refine lv_istore_n (lv' := [(3, .int (-4 : Int32)), (0, .ref (a 0)), (1, .int x1), (2, .int x2)]) hx hb dX9_sure_13 rfl hl (by decide) rfl (fun ls hl => ?_)
    refine lv_iconst (v := 0) hx hb dX9_sure_14 (by decide) ?_
    refine lv_istore (lv' := [(4, .int (0 : Int32)), (3, .int (-4 : Int32)), (0, .ref (a 0)), (1, .int x1), (2, .int x2)]) hx hb dX9_sure_15 hl (by decide) rfl (fun ls hl => ?_)
    exact kX9_sure_p17 dC dI cB cI cJ cZ a C0 n m_letters m_words m_wMany m_wLetters m_asks m_aWords m_dLetters m_dWords m_dMany m_dText m_dAsks m_dAsk m_tape m_taped m_pos m_from m_sort m_value m_fault m_wrongAt m_manyA m_rowA m_manyB m_rowB m_places m_xs m_ys m_heights m_ridges m_rx m_rHeight m_lanes m_sizes m_cells m_left m_calls m_cDay m_cHour m_cFrom m_cAsk m_cWord m_cOf m_isLie m_children m_learned m_group x1 x2 (-4 : Int32) (0 : Int32) r0 z_m_manyA z_m_rowA z_m_manyB z_m_rowB  n _ _ ls h hP hD hS (lv_sub hl [2, 3, 4, 1, 0] rfl)
  · have h := it_use c2 h
    refine lv_iconst (v := -1) hx hb dX9_sure_9 (by decide) ?_
    obtain ⟨er, ez0, ez1, ez2, ez3⟩ := rt5_use h
    subst ez0
    subst ez1
    subst ez2
    subst ez3
    exact re_i hx hb hr hlocks hK hP hD hS er dX9_sure_10
set_option maxHeartbeats 4000000 in
set_option maxRecDepth 100000 in
theorem kX9_place (l : Launch) (n : Nat) (dC : Nat → ClassId) (dI : Nat → Nat → Nat) (cB cI cJ cZ : ClassId) (a : Nat → Nat) (sz : Nat) (m_letters : Nat → Int32) (m_words : Int32) (m_wMany : Nat → Int32) (m_wLetters : Nat → Int32) (m_asks : Int32) (m_aWords : Nat → Int32) (m_dLetters : Nat → Int32) (m_dWords : Int32) (m_dMany : Nat → Int32) (m_dText : Nat → Int32) (m_dAsks : Int32) (m_dAsk : Nat → Int32) (m_tape : Nat → Int32) (m_taped : Int32) (m_pos : Int32) (m_from : Int32) (m_sort : Int32) (m_value : Int32) (m_fault : Int32) (m_wrongAt : Int32) (m_manyA : Int32) (m_rowA : Nat → Int32) (m_manyB : Int32) (m_rowB : Nat → Int32) (m_places : Int32) (m_xs : Nat → Int32) (m_ys : Nat → Int32) (m_heights : Nat → Int32) (m_ridges : Int32) (m_rx : Nat → Int32) (m_rHeight : Nat → Int32) (m_lanes : Nat → Int32) (m_sizes : Nat → Int32) (m_cells : Nat → Int32) (m_left : Nat → Int32) (m_calls : Int32) (m_cDay : Nat → Int32) (m_cHour : Nat → Int32) (m_cFrom : Nat → Int32) (m_cAsk : Nat → Int32) (m_cWord : Nat → Int32) (m_cOf : Nat → Int32) (m_isLie : Nat → Int32) (m_children : Int32) (m_learned : Nat → Int32) (m_group : Nat → Int32) (x1 : Int32) (x2 : Int32) (x3 : Int32) (r0 : Int32) (z_m_places : Int32) (z_m_xs : Nat → Int32) (z_m_ys : Nat → Int32) (z_m_heights : Nat → Int32) (h : fX9_place n m_places m_xs m_ys m_heights x1 x2 x3 = some (r0, z_m_places, z_m_xs, z_m_ys, z_m_heights)) : Met l yX9_place wsX9_place ({ frames := 1, cells := 0, slots := 0, locals := 25 }) (gP (dC, dI) (tyz cB cI cJ cZ) E_0 (wM cB cI cJ cZ a m_letters m_words m_wMany m_wLetters m_asks m_aWords m_dLetters m_dWords m_dMany m_dText m_dAsks m_dAsk m_tape m_taped m_pos m_from m_sort m_value m_fault m_wrongAt m_manyA m_rowA m_manyB m_rowB m_places m_xs m_ys m_heights m_ridges m_rx m_rHeight m_lanes m_sizes m_cells m_left m_calls m_cDay m_cHour m_cFrom m_cAsk m_cWord m_cOf m_isLie m_children m_learned m_group) sz [.ref (a 0), .int x1, .int x2, .int x3]) (gI (dC, dI) (tyz cB cI cJ cZ) (wM cB cI cJ cZ a m_letters m_words m_wMany m_wLetters m_asks m_aWords m_dLetters m_dWords m_dMany m_dText m_dAsks m_dAsk m_tape m_taped m_pos m_from m_sort m_value m_fault m_wrongAt m_manyA m_rowA m_manyB m_rowB z_m_places z_m_xs z_m_ys z_m_heights m_ridges m_rx m_rHeight m_lanes m_sizes m_cells m_left m_calls m_cDay m_cHour m_cFrom m_cAsk m_cWord m_cOf m_isLie m_children m_learned m_group) (va_A (wM cB cI cJ cZ a m_letters m_words m_wMany m_wLetters m_asks m_aWords m_dLetters m_dWords m_dMany m_dText m_dAsks m_dAsk m_tape m_taped m_pos m_from m_sort m_value m_fault m_wrongAt m_manyA m_rowA m_manyB m_rowB m_places m_xs m_ys m_heights m_ridges m_rx m_rHeight m_lanes m_sizes m_cells m_left m_calls m_cDay m_cHour m_cFrom m_cAsk m_cWord m_cOf m_isLie m_children m_learned m_group) sz) r0) 0 0 (va_A (wM cB cI cJ cZ a m_letters m_words m_wMany m_wLetters m_asks m_aWords m_dLetters m_dWords m_dMany m_dText m_dAsks m_dAsk m_tape m_taped m_pos m_from m_sort m_value m_fault m_wrongAt m_manyA m_rowA m_manyB m_rowB m_places m_xs m_ys m_heights m_ridges m_rx m_rHeight m_lanes m_sizes m_cells m_left m_calls m_cDay m_cHour m_cFrom m_cAsk m_cWord m_cOf m_isLie m_children m_learned m_group) sz) := by
  refine Met.ofW (cc := cX9_place) (maxL := 4) (ret := (some .int)) (by decide) rfl ?_
  intro p e s m args below meth c s₁ B hml hv
  obtain ⟨rfl, hsz, hP, hK, hD0, hE⟩ := hv
  have hx := B.exec
  have hb := B.bytes
  have hr := B.returns
  have hts := atoms_spec (ws := wsX9_place) B.pre
  have hown : s.vm.findClass RX9 = some m.cls := findClass_of_methodNamed B.named
  have hlocks := B.notSynchronized
  subst hsz
  have hD := hD0.self (sz := s.heap.size)
  have hA : ∀ q : Nat, s.heap.size ≤ q → va_A (wM cB cI cJ cZ a m_letters m_words m_wMany m_wLetters m_asks m_aWords m_dLetters m_dWords m_dMany m_dText m_dAsks m_dAsk m_tape m_taped m_pos m_from m_sort m_value m_fault m_wrongAt m_manyA m_rowA m_manyB m_rowB m_places m_xs m_ys m_heights m_ridges m_rx m_rHeight m_lanes m_sizes m_cells m_left m_calls m_cDay m_cHour m_cFrom m_cAsk m_cWord m_cOf m_isLie m_children m_learned m_group) s.heap.size q := fun q h => Or.inr h
  generalize va_A (wM cB cI cJ cZ a m_letters m_words m_wMany m_wLetters m_asks m_aWords m_dLetters m_dWords m_dMany m_dText m_dAsks m_dAsk m_tape m_taped m_pos m_from m_sort m_value m_fault m_wrongAt m_manyA m_rowA m_manyB m_rowB m_places m_xs m_ys m_heights m_ridges m_rx m_rHeight m_lanes m_sizes m_cells m_left m_calls m_cDay m_cHour m_cFrom m_cAsk m_cWord m_cOf m_isLie m_children m_learned m_group) s.heap.size = A at hD hA hE ⊢
  have hS : va_S A s.heap s.heap [] := va_S.rf
  have C0 : cxt cX9_place (some .int) 4 RX9 wsX9_place (dC, dI) (tyz cB cI cJ cZ) E_0 A p s m ([.ref (a 0), .int x1, .int x2, .int x3] : List Value).toArray meth c := ⟨hx, hb, hr, hml, hown, hts, hlocks, hK, hA, hE⟩
  have hl := lv_entry ([.ref (a 0), .int x1, .int x2, .int x3]) (n := 4) (Nat.le_of_ble_eq_true rfl)
  rw [lg_entry_eq]
  generalize (lg_sl ([.ref (a 0), .int x1, .int x2, .int x3]) ++ List.replicate (4 - (lg_sl ([.ref (a 0), .int x1, .int x2, .int x3])).length) Slot.unset).toArray = ls at hl ⊢
  have hl : lv_has ls 4 [(0, .ref (a 0)), (1, .int x1), (2, .int x2), (3, .int x3)] := hl
  have hw0 := hts (.constantLong RX9 194 (99)) (by decide +kernel)
  have hw1 := hts (.fieldLink RX9 245 "WhistledWordsModel" "places" "I") (by decide +kernel)
  have hw2 := hts (.fieldLink RX9 43 "WhistledWordsModel" "xs" "[I") (by decide +kernel)
  have hw3 := hts (.fieldLink RX9 46 "WhistledWordsModel" "ys" "[I") (by decide +kernel)
  have hw4 := hts (.fieldLink RX9 49 "WhistledWordsModel" "heights" "[I") (by decide +kernel)
  have hnX9 : ∀ w ∈ u_ws RX9 TX9 46, w ∈ wsX9_place := fun _ h => List.mem_cons_of_mem _ (List.mem_append_right _ h)
  unfold fX9_place at h
  refine lv_iload_n hx hb dX9_place_0 rfl (lv_at hl 1 rfl) ?_
  refine lv_i2l hx hb dX9_place_1 rfl ?_
  refine lv_lconst (v := 0) hx hb dX9_place_2 (by decide) ?_
  refine lv_ldc2 hx hb hown hw0 dX9_place_3 ?_
  obtain ⟨v1, hc, h⟩ := bd1_use h
  refine cs_i (As := [.long x1.toInt64, .long (0 : Int64), .long (99 : Int64)]) (rest := []) ⟨hx, hb, hml, hown, hts⟩ (kX9_in l n x1.toInt64 (0 : Int64) (99 : Int64) v1 hc) (va_cwS 3 hts gX9_place_X9_in rfl rfl rfl (by decide +kernel) ⟨Nat.le_of_ble_eq_true rfl, Nat.le_of_ble_eq_true rfl⟩) hP hS rfl hl.1 rfl (Nat.le_of_ble_eq_true rfl) dX9_place_6 ⟨Nat.zero_le _, Nat.zero_le _⟩ (fun H locs hP hS => ?_)
  refine lv_if_eq (tgt := 36) hx hb dX9_place_9 (by decide) (fun c2 => ?_) (fun c2 => ?_)
  · have h := it_use c2 h
    refine lv_iconst (v := -1) hx hb dX9_place_36 (by decide) ?_
    obtain ⟨er, ez0, ez1, ez2, ez3⟩ := rt5_use h
    subst ez0
    subst ez1
    subst ez2
    subst ez3
    exact re_i hx hb hr hlocks hK hP hD hS er dX9_place_37
  · have h := ie_use c2 h
    refine lv_iload_n hx hb dX9_place_12 rfl (lv_at hl 2 rfl) ?_
    refine lv_i2l hx hb dX9_place_13 rfl ?_
    refine lv_lconst (v := 0) hx hb dX9_place_14 (by decide) ?_
    refine lv_ldc2 hx hb hown hw0 dX9_place_15 ?_
    obtain ⟨v3, hc, h⟩ := bd1_use h
    refine cs_i (As := [.long x2.toInt64, .long (0 : Int64), .long (99 : Int64)]) (rest := []) ⟨hx, hb, hml, hown, hts⟩ (kX9_in l n x2.toInt64 (0 : Int64) (99 : Int64) v3 hc) (va_cwS 3 hts gX9_place_X9_in rfl rfl rfl (by decide +kernel) ⟨Nat.le_of_ble_eq_true rfl, Nat.le_of_ble_eq_true rfl⟩) hP hS rfl hl.1 rfl (Nat.le_of_ble_eq_true rfl) dX9_place_18 ⟨Nat.zero_le _, Nat.zero_le _⟩ (fun H locs hP hS => ?_)
    refine lv_if_eq (tgt := 36) hx hb dX9_place_21 (by decide) (fun c4 => ?_) (fun c4 => ?_)
    · have h := it_use c4 h
      refine lv_iconst (v := -1) hx hb dX9_place_36 (by decide) ?_
      obtain ⟨er, ez0, ez1, ez2, ez3⟩ := rt5_use h
      subst ez0
      subst ez1
      subst ez2
      subst ez3
      exact re_i hx hb hr hlocks hK hP hD hS er dX9_place_37
    · have h := ie_use c4 h
      refine lv_iload_n hx hb dX9_place_24 rfl (lv_at hl 3 rfl) ?_
      refine lv_i2l hx hb dX9_place_25 rfl ?_
      refine lv_lconst (v := 0) hx hb dX9_place_26 (by decide) ?_
      refine lv_ldc2 hx hb hown hw0 dX9_place_27 ?_
      obtain ⟨v5, hc, h⟩ := bd1_use h
      refine cs_i (As := [.long x3.toInt64, .long (0 : Int64), .long (99 : Int64)]) (rest := []) ⟨hx, hb, hml, hown, hts⟩ (kX9_in l n x3.toInt64 (0 : Int64) (99 : Int64) v5 hc) (va_cwS 3 hts gX9_place_X9_in rfl rfl rfl (by decide +kernel) ⟨Nat.le_of_ble_eq_true rfl, Nat.le_of_ble_eq_true rfl⟩) hP hS rfl hl.1 rfl (Nat.le_of_ble_eq_true rfl) dX9_place_30 ⟨Nat.zero_le _, Nat.zero_le _⟩ (fun H locs hP hS => ?_)
      refine lv_if_ne (tgt := 38) hx hb dX9_place_33 (by decide) (fun c6 => ?_) (fun c6 => ?_)
      · have h := ie_use c6 h
        refine lv_aload_n hx hb dX9_place_38 rfl (lv_at hl 0 rfl) ?_
        refine gM_mo_places hx hb hts hnX9 hown hK hP hw1 dX9_place_39 ?_
        refine lv_bipush (v := 10) hx hb dX9_place_42 (by decide) ?_
        refine lv_icmp_ne (tgt := 50) hx hb dX9_place_44 (by decide) (fun c7 => ?_) (fun c7 => ?_)
        · have h := ie_use c7 h
          refine lv_aload_n hx hb dX9_place_50 rfl (lv_at hl 0 rfl) ?_
          refine gM_mo_xs hx hb hts hnX9 hown hK hP hw2 dX9_place_51 ?_
          refine lv_aload_n hx hb dX9_place_54 rfl (lv_at hl 0 rfl) ?_
          refine gM_mo_places hx hb hts hnX9 hown hK hP hw1 dX9_place_55 ?_
          refine lv_iload_n hx hb dX9_place_58 rfl (lv_at hl 1 rfl) ?_
          obtain ⟨hif8, f8, ef8, h⟩ := aw_use h
          refine sM_mo_xs hx hb hK hP hD hS hif8 ef8 dX9_place_59 (fun H locs hP hD hS => ?_)
          refine lv_aload_n hx hb dX9_place_60 rfl (lv_at hl 0 rfl) ?_
          refine gM_mo_ys hx hb hts hnX9 hown hK hP hw3 dX9_place_61 ?_
          refine lv_aload_n hx hb dX9_place_64 rfl (lv_at hl 0 rfl) ?_
          refine gM_mo_places hx hb hts hnX9 hown hK hP hw1 dX9_place_65 ?_
          refine lv_iload_n hx hb dX9_place_68 rfl (lv_at hl 2 rfl) ?_
          obtain ⟨hif9, f9, ef9, h⟩ := aw_use h
          refine sM_mo_ys hx hb hK hP hD hS hif9 ef9 dX9_place_69 (fun H locs hP hD hS => ?_)
          refine lv_aload_n hx hb dX9_place_70 rfl (lv_at hl 0 rfl) ?_
          refine gM_mo_heights hx hb hts hnX9 hown hK hP hw4 dX9_place_71 ?_
          refine lv_aload_n hx hb dX9_place_74 rfl (lv_at hl 0 rfl) ?_
          refine gM_mo_places hx hb hts hnX9 hown hK hP hw1 dX9_place_75 ?_
          refine lv_iload_n hx hb dX9_place_78 rfl (lv_at hl 3 rfl) ?_
          obtain ⟨hif10, f10, ef10, h⟩ := aw_use h
          refine sM_mo_heights hx hb hK hP hD hS hif10 ef10 dX9_place_79 (fun H locs hP hD hS => ?_)
          refine lv_aload_n hx hb dX9_place_80 rfl (lv_at hl 0 rfl) ?_
          refine lv_dup hx hb dX9_place_81 rfl ?_
          refine gM_mo_places hx hb hts hnX9 hown hK hP hw1 dX9_place_82 ?_
          refine lv_iconst (v := 1) hx hb dX9_place_85 (by decide) ?_
          refine lv_iadd hx hb dX9_place_86 ?_
          refine lv_topi (fun v11 ev11 => ?_)
          have h := nm_use ev11 h
          refine pM_mo_places hx hb hts hnX9 hown hK hP hD hS hw1 dX9_place_87 (fun H locs hP hD hS => ?_)
          refine lv_aload_n hx hb dX9_place_90 rfl (lv_at hl 0 rfl) ?_
          refine gM_mo_places hx hb hts hnX9 hown hK hP hw1 dX9_place_91 ?_
          refine lv_iconst (v := 1) hx hb dX9_place_94 (by decide) ?_
          refine lv_isub hx hb dX9_place_95 ?_
          obtain ⟨er, ez0, ez1, ez2, ez3⟩ := rt5_use h
          subst ez0
          subst ez1
          subst ez2
          subst ez3
          exact re_i hx hb hr hlocks hK hP hD hS er dX9_place_96
        · have h := it_use c7 h
          refine lv_bipush (v := -3) hx hb dX9_place_47 (by decide) ?_
          obtain ⟨er, ez0, ez1, ez2, ez3⟩ := rt5_use h
          subst ez0
          subst ez1
          subst ez2
          subst ez3
          exact re_i hx hb hr hlocks hK hP hD hS er dX9_place_49
      · have h := it_use c6 h
        refine lv_iconst (v := -1) hx hb dX9_place_36 (by decide) ?_
        obtain ⟨er, ez0, ez1, ez2, ez3⟩ := rt5_use h
        subst ez0
        subst ez1
        subst ez2
        subst ez3
        exact re_i hx hb hr hlocks hK hP hD hS er dX9_place_37
set_option maxHeartbeats 4000000 in
set_option maxRecDepth 100000 in
theorem kX9_ridge (l : Launch) (n : Nat) (dC : Nat → ClassId) (dI : Nat → Nat → Nat) (cB cI cJ cZ : ClassId) (a : Nat → Nat) (sz : Nat) (m_letters : Nat → Int32) (m_words : Int32) (m_wMany : Nat → Int32) (m_wLetters : Nat → Int32) (m_asks : Int32) (m_aWords : Nat → Int32) (m_dLetters : Nat → Int32) (m_dWords : Int32) (m_dMany : Nat → Int32) (m_dText : Nat → Int32) (m_dAsks : Int32) (m_dAsk : Nat → Int32) (m_tape : Nat → Int32) (m_taped : Int32) (m_pos : Int32) (m_from : Int32) (m_sort : Int32) (m_value : Int32) (m_fault : Int32) (m_wrongAt : Int32) (m_manyA : Int32) (m_rowA : Nat → Int32) (m_manyB : Int32) (m_rowB : Nat → Int32) (m_places : Int32) (m_xs : Nat → Int32) (m_ys : Nat → Int32) (m_heights : Nat → Int32) (m_ridges : Int32) (m_rx : Nat → Int32) (m_rHeight : Nat → Int32) (m_lanes : Nat → Int32) (m_sizes : Nat → Int32) (m_cells : Nat → Int32) (m_left : Nat → Int32) (m_calls : Int32) (m_cDay : Nat → Int32) (m_cHour : Nat → Int32) (m_cFrom : Nat → Int32) (m_cAsk : Nat → Int32) (m_cWord : Nat → Int32) (m_cOf : Nat → Int32) (m_isLie : Nat → Int32) (m_children : Int32) (m_learned : Nat → Int32) (m_group : Nat → Int32) (x1 : Int32) (x2 : Int32) (r0 : Int32) (z_m_ridges : Int32) (z_m_rx : Nat → Int32) (z_m_rHeight : Nat → Int32) (h : fX9_ridge n m_ridges m_rx m_rHeight x1 x2 = some (r0, z_m_ridges, z_m_rx, z_m_rHeight)) : Met l yX9_ridge wsX9_ridge ({ frames := 1, cells := 0, slots := 0, locals := 25 }) (gP (dC, dI) (tyz cB cI cJ cZ) E_0 (wM cB cI cJ cZ a m_letters m_words m_wMany m_wLetters m_asks m_aWords m_dLetters m_dWords m_dMany m_dText m_dAsks m_dAsk m_tape m_taped m_pos m_from m_sort m_value m_fault m_wrongAt m_manyA m_rowA m_manyB m_rowB m_places m_xs m_ys m_heights m_ridges m_rx m_rHeight m_lanes m_sizes m_cells m_left m_calls m_cDay m_cHour m_cFrom m_cAsk m_cWord m_cOf m_isLie m_children m_learned m_group) sz [.ref (a 0), .int x1, .int x2]) (gI (dC, dI) (tyz cB cI cJ cZ) (wM cB cI cJ cZ a m_letters m_words m_wMany m_wLetters m_asks m_aWords m_dLetters m_dWords m_dMany m_dText m_dAsks m_dAsk m_tape m_taped m_pos m_from m_sort m_value m_fault m_wrongAt m_manyA m_rowA m_manyB m_rowB m_places m_xs m_ys m_heights z_m_ridges z_m_rx z_m_rHeight m_lanes m_sizes m_cells m_left m_calls m_cDay m_cHour m_cFrom m_cAsk m_cWord m_cOf m_isLie m_children m_learned m_group) (va_A (wM cB cI cJ cZ a m_letters m_words m_wMany m_wLetters m_asks m_aWords m_dLetters m_dWords m_dMany m_dText m_dAsks m_dAsk m_tape m_taped m_pos m_from m_sort m_value m_fault m_wrongAt m_manyA m_rowA m_manyB m_rowB m_places m_xs m_ys m_heights m_ridges m_rx m_rHeight m_lanes m_sizes m_cells m_left m_calls m_cDay m_cHour m_cFrom m_cAsk m_cWord m_cOf m_isLie m_children m_learned m_group) sz) r0) 0 0 (va_A (wM cB cI cJ cZ a m_letters m_words m_wMany m_wLetters m_asks m_aWords m_dLetters m_dWords m_dMany m_dText m_dAsks m_dAsk m_tape m_taped m_pos m_from m_sort m_value m_fault m_wrongAt m_manyA m_rowA m_manyB m_rowB m_places m_xs m_ys m_heights m_ridges m_rx m_rHeight m_lanes m_sizes m_cells m_left m_calls m_cDay m_cHour m_cFrom m_cAsk m_cWord m_cOf m_isLie m_children m_learned m_group) sz) := by
  refine Met.ofW (cc := cX9_ridge) (maxL := 3) (ret := (some .int)) (by decide) rfl ?_
  intro p e s m args below meth c s₁ B hml hv
  obtain ⟨rfl, hsz, hP, hK, hD0, hE⟩ := hv
  have hx := B.exec
  have hb := B.bytes
  have hr := B.returns
  have hts := atoms_spec (ws := wsX9_ridge) B.pre
  have hown : s.vm.findClass RX9 = some m.cls := findClass_of_methodNamed B.named
  have hlocks := B.notSynchronized
  subst hsz
  have hD := hD0.self (sz := s.heap.size)
  have hA : ∀ q : Nat, s.heap.size ≤ q → va_A (wM cB cI cJ cZ a m_letters m_words m_wMany m_wLetters m_asks m_aWords m_dLetters m_dWords m_dMany m_dText m_dAsks m_dAsk m_tape m_taped m_pos m_from m_sort m_value m_fault m_wrongAt m_manyA m_rowA m_manyB m_rowB m_places m_xs m_ys m_heights m_ridges m_rx m_rHeight m_lanes m_sizes m_cells m_left m_calls m_cDay m_cHour m_cFrom m_cAsk m_cWord m_cOf m_isLie m_children m_learned m_group) s.heap.size q := fun q h => Or.inr h
  generalize va_A (wM cB cI cJ cZ a m_letters m_words m_wMany m_wLetters m_asks m_aWords m_dLetters m_dWords m_dMany m_dText m_dAsks m_dAsk m_tape m_taped m_pos m_from m_sort m_value m_fault m_wrongAt m_manyA m_rowA m_manyB m_rowB m_places m_xs m_ys m_heights m_ridges m_rx m_rHeight m_lanes m_sizes m_cells m_left m_calls m_cDay m_cHour m_cFrom m_cAsk m_cWord m_cOf m_isLie m_children m_learned m_group) s.heap.size = A at hD hA hE ⊢
  have hS : va_S A s.heap s.heap [] := va_S.rf
  have C0 : cxt cX9_ridge (some .int) 3 RX9 wsX9_ridge (dC, dI) (tyz cB cI cJ cZ) E_0 A p s m ([.ref (a 0), .int x1, .int x2] : List Value).toArray meth c := ⟨hx, hb, hr, hml, hown, hts, hlocks, hK, hA, hE⟩
  have hl := lv_entry ([.ref (a 0), .int x1, .int x2]) (n := 3) (Nat.le_of_ble_eq_true rfl)
  rw [lg_entry_eq]
  generalize (lg_sl ([.ref (a 0), .int x1, .int x2]) ++ List.replicate (3 - (lg_sl ([.ref (a 0), .int x1, .int x2])).length) Slot.unset).toArray = ls at hl ⊢
  have hl : lv_has ls 3 [(0, .ref (a 0)), (1, .int x1), (2, .int x2)] := hl
  have hw0 := hts (.constantLong RX9 194 (99)) (by decide +kernel)
  have hw1 := hts (.fieldLink RX9 248 "WhistledWordsModel" "ridges" "I") (by decide +kernel)
  have hw2 := hts (.fieldLink RX9 52 "WhistledWordsModel" "rx" "[I") (by decide +kernel)
  have hw3 := hts (.fieldLink RX9 55 "WhistledWordsModel" "rHeight" "[I") (by decide +kernel)
  have hnX9 : ∀ w ∈ u_ws RX9 TX9 46, w ∈ wsX9_ridge := fun _ h => List.mem_cons_of_mem _ (List.mem_append_right _ h)
  unfold fX9_ridge at h
  refine lv_iload_n hx hb dX9_ridge_0 rfl (lv_at hl 1 rfl) ?_
  refine lv_i2l hx hb dX9_ridge_1 rfl ?_
  refine lv_lconst (v := 0) hx hb dX9_ridge_2 (by decide) ?_
  refine lv_ldc2 hx hb hown hw0 dX9_ridge_3 ?_
  obtain ⟨v1, hc, h⟩ := bd1_use h
  refine cs_i (As := [.long x1.toInt64, .long (0 : Int64), .long (99 : Int64)]) (rest := []) ⟨hx, hb, hml, hown, hts⟩ (kX9_in l n x1.toInt64 (0 : Int64) (99 : Int64) v1 hc) (va_cwS 3 hts gX9_ridge_X9_in rfl rfl rfl (by decide +kernel) ⟨Nat.le_of_ble_eq_true rfl, Nat.le_of_ble_eq_true rfl⟩) hP hS rfl hl.1 rfl (Nat.le_of_ble_eq_true rfl) dX9_ridge_6 ⟨Nat.zero_le _, Nat.zero_le _⟩ (fun H locs hP hS => ?_)
  refine lv_if_eq (tgt := 24) hx hb dX9_ridge_9 (by decide) (fun c2 => ?_) (fun c2 => ?_)
  · have h := it_use c2 h
    refine lv_iconst (v := -1) hx hb dX9_ridge_24 (by decide) ?_
    obtain ⟨er, ez0, ez1, ez2⟩ := rt4_use h
    subst ez0
    subst ez1
    subst ez2
    exact re_i hx hb hr hlocks hK hP hD hS er dX9_ridge_25
  · have h := ie_use c2 h
    refine lv_iload_n hx hb dX9_ridge_12 rfl (lv_at hl 2 rfl) ?_
    refine lv_i2l hx hb dX9_ridge_13 rfl ?_
    refine lv_lconst (v := 0) hx hb dX9_ridge_14 (by decide) ?_
    refine lv_ldc2 hx hb hown hw0 dX9_ridge_15 ?_
    obtain ⟨v3, hc, h⟩ := bd1_use h
    refine cs_i (As := [.long x2.toInt64, .long (0 : Int64), .long (99 : Int64)]) (rest := []) ⟨hx, hb, hml, hown, hts⟩ (kX9_in l n x2.toInt64 (0 : Int64) (99 : Int64) v3 hc) (va_cwS 3 hts gX9_ridge_X9_in rfl rfl rfl (by decide +kernel) ⟨Nat.le_of_ble_eq_true rfl, Nat.le_of_ble_eq_true rfl⟩) hP hS rfl hl.1 rfl (Nat.le_of_ble_eq_true rfl) dX9_ridge_18 ⟨Nat.zero_le _, Nat.zero_le _⟩ (fun H locs hP hS => ?_)
    refine lv_if_ne (tgt := 26) hx hb dX9_ridge_21 (by decide) (fun c4 => ?_) (fun c4 => ?_)
    · have h := ie_use c4 h
      refine lv_aload_n hx hb dX9_ridge_26 rfl (lv_at hl 0 rfl) ?_
      refine gM_mo_ridges hx hb hts hnX9 hown hK hP hw1 dX9_ridge_27 ?_
      refine lv_bipush (v := 6) hx hb dX9_ridge_30 (by decide) ?_
      refine lv_icmp_ne (tgt := 38) hx hb dX9_ridge_32 (by decide) (fun c5 => ?_) (fun c5 => ?_)
      · have h := ie_use c5 h
        refine lv_aload_n hx hb dX9_ridge_38 rfl (lv_at hl 0 rfl) ?_
        refine gM_mo_rx hx hb hts hnX9 hown hK hP hw2 dX9_ridge_39 ?_
        refine lv_aload_n hx hb dX9_ridge_42 rfl (lv_at hl 0 rfl) ?_
        refine gM_mo_ridges hx hb hts hnX9 hown hK hP hw1 dX9_ridge_43 ?_
        refine lv_iload_n hx hb dX9_ridge_46 rfl (lv_at hl 1 rfl) ?_
        obtain ⟨hif6, f6, ef6, h⟩ := aw_use h
        refine sM_mo_rx hx hb hK hP hD hS hif6 ef6 dX9_ridge_47 (fun H locs hP hD hS => ?_)
        refine lv_aload_n hx hb dX9_ridge_48 rfl (lv_at hl 0 rfl) ?_
        refine gM_mo_rHeight hx hb hts hnX9 hown hK hP hw3 dX9_ridge_49 ?_
        refine lv_aload_n hx hb dX9_ridge_52 rfl (lv_at hl 0 rfl) ?_
        refine gM_mo_ridges hx hb hts hnX9 hown hK hP hw1 dX9_ridge_53 ?_
        refine lv_iload_n hx hb dX9_ridge_56 rfl (lv_at hl 2 rfl) ?_
        obtain ⟨hif7, f7, ef7, h⟩ := aw_use h
        refine sM_mo_rHeight hx hb hK hP hD hS hif7 ef7 dX9_ridge_57 (fun H locs hP hD hS => ?_)
        refine lv_aload_n hx hb dX9_ridge_58 rfl (lv_at hl 0 rfl) ?_
        refine lv_dup hx hb dX9_ridge_59 rfl ?_
        refine gM_mo_ridges hx hb hts hnX9 hown hK hP hw1 dX9_ridge_60 ?_
        refine lv_iconst (v := 1) hx hb dX9_ridge_63 (by decide) ?_
        refine lv_iadd hx hb dX9_ridge_64 ?_
        refine lv_topi (fun v8 ev8 => ?_)
        have h := nm_use ev8 h
        refine pM_mo_ridges hx hb hts hnX9 hown hK hP hD hS hw1 dX9_ridge_65 (fun H locs hP hD hS => ?_)
        refine lv_aload_n hx hb dX9_ridge_68 rfl (lv_at hl 0 rfl) ?_
        refine gM_mo_ridges hx hb hts hnX9 hown hK hP hw1 dX9_ridge_69 ?_
        obtain ⟨er, ez0, ez1, ez2⟩ := rt4_use h
        subst ez0
        subst ez1
        subst ez2
        exact re_i hx hb hr hlocks hK hP hD hS er dX9_ridge_72
      · have h := it_use c5 h
        refine lv_bipush (v := -3) hx hb dX9_ridge_35 (by decide) ?_
        obtain ⟨er, ez0, ez1, ez2⟩ := rt4_use h
        subst ez0
        subst ez1
        subst ez2
        exact re_i hx hb hr hlocks hK hP hD hS er dX9_ridge_37
    · have h := it_use c4 h
      refine lv_iconst (v := -1) hx hb dX9_ridge_24 (by decide) ?_
      obtain ⟨er, ez0, ez1, ez2⟩ := rt4_use h
      subst ez0
      subst ez1
      subst ez2
      exact re_i hx hb hr hlocks hK hP hD hS er dX9_ridge_25
set_option maxHeartbeats 4000000 in
set_option maxRecDepth 100000 in
theorem kX9_sheet_p40_r {p : Program} {l : Launch} {e : Env} {s : State} {m : MethodId} {args : Array Value} {below : List Frame} {meth : Method} {c : Code} {A : Nat → Prop} (dC : Nat → ClassId) (dI : Nat → Nat → Nat) (cB cI cJ cZ : ClassId) (a : Nat → Nat) (C0 : cxt cX9_sheet (some .int) 5 RX9 wsX9_sheet (dC, dI) (tyz cB cI cJ cZ) E_0 A p s m args meth c) (n : Nat) (m_letters : Nat → Int32) (m_words : Int32) (m_wMany : Nat → Int32) (m_wLetters : Nat → Int32) (m_asks : Int32) (m_aWords : Nat → Int32) (m_dLetters : Nat → Int32) (m_dWords : Int32) (m_dMany : Nat → Int32) (m_dText : Nat → Int32) (m_dAsks : Int32) (m_dAsk : Nat → Int32) (m_tape : Nat → Int32) (m_taped : Int32) (m_pos : Int32) (m_from : Int32) (m_sort : Int32) (m_value : Int32) (m_fault : Int32) (m_wrongAt : Int32) (m_manyA : Int32) (m_rowA : Nat → Int32) (m_manyB : Int32) (m_rowB : Nat → Int32) (m_places : Int32) (m_xs : Nat → Int32) (m_ys : Nat → Int32) (m_heights : Nat → Int32) (m_ridges : Int32) (m_rx : Nat → Int32) (m_rHeight : Nat → Int32) (m_lanes : Nat → Int32) (m_sizes : Nat → Int32) (m_left : Nat → Int32) (m_calls : Int32) (m_cDay : Nat → Int32) (m_cHour : Nat → Int32) (m_cFrom : Nat → Int32) (m_cAsk : Nat → Int32) (m_cWord : Nat → Int32) (m_cOf : Nat → Int32) (m_isLie : Nat → Int32) (m_children : Int32) (m_learned : Nat → Int32) (m_group : Nat → Int32) (x1 : Int32) (r0 : Int32) (z_m_lanes : Nat → Int32) (z_m_sizes : Nat → Int32) (z_m_cells : Nat → Int32)  : ∀ (k : Nat) (m_cells : Nat → Int32) (x4 : Int32) (H : Heap) (locs : List Loc) (ls : Array Slot), fX9_sheet_p40 n m_lanes m_sizes x1 k m_cells x4 = some (r0, z_m_lanes, z_m_sizes, z_m_cells) → va_P (dC, dI) vwCl (wM cB cI cJ cZ a m_letters m_words m_wMany m_wLetters m_asks m_aWords m_dLetters m_dWords m_dMany m_dText m_dAsks m_dAsk m_tape m_taped m_pos m_from m_sort m_value m_fault m_wrongAt m_manyA m_rowA m_manyB m_rowB m_places m_xs m_ys m_heights m_ridges m_rx m_rHeight m_lanes m_sizes m_cells m_left m_calls m_cDay m_cHour m_cFrom m_cAsk m_cWord m_cOf m_isLie m_children m_learned m_group) H → va_D A (wM cB cI cJ cZ a m_letters m_words m_wMany m_wLetters m_asks m_aWords m_dLetters m_dWords m_dMany m_dText m_dAsks m_dAsk m_tape m_taped m_pos m_from m_sort m_value m_fault m_wrongAt m_manyA m_rowA m_manyB m_rowB m_places m_xs m_ys m_heights m_ridges m_rx m_rHeight m_lanes m_sizes m_cells m_left m_calls m_cDay m_cHour m_cFrom m_cAsk m_cWord m_cOf m_isLie m_children m_learned m_group) → va_S A s.heap H locs → lv_has ls 5 [(0, .ref (a 0)), (1, .int x1), (4, .int x4)] → W p l e { frames := 2, cells := 0, slots := 0, locals := 46 } s m args below meth c H locs 0 0 (MQ below (gI (dC, dI) (tyz cB cI cJ cZ) (wM cB cI cJ cZ a m_letters m_words m_wMany m_wLetters m_asks m_aWords m_dLetters m_dWords m_dMany m_dText m_dAsks m_dAsk m_tape m_taped m_pos m_from m_sort m_value m_fault m_wrongAt m_manyA m_rowA m_manyB m_rowB m_places m_xs m_ys m_heights m_ridges m_rx m_rHeight z_m_lanes z_m_sizes z_m_cells m_left m_calls m_cDay m_cHour m_cFrom m_cAsk m_cWord m_cOf m_isLie m_children m_learned m_group) A r0) args s 0 0 A) (F0 m 40 ls []) := by
  obtain ⟨hx, hb, hr, hml, hown, hts, hlocks, hK, hA, hE⟩ := id C0
  have hw0 := hts (.fieldLink RX9 64 "WhistledWordsModel" "cells" "[I") (by decide +kernel)
  have hnX9 : ∀ w ∈ u_ws RX9 TX9 46, w ∈ wsX9_sheet := fun _ h => List.mem_cons_of_mem _ (List.mem_append_right _ h)
  intro k
  induction k with
  | zero =>
    intro m_cells x4 H locs ls h
    cases h
  | succ k ih =>
    intro m_cells x4 H locs ls h hP hD hS hl
    rw [fX9_sheet_p40] at h
    refine lv_iload hx hb dX9_sheet_40 (lv_at hl 2 rfl) ?_
    refine lv_bipush (v := 60) hx hb dX9_sheet_42 (by decide) ?_
    refine lv_icmp_ge (tgt := 66) hx hb dX9_sheet_44 (by decide) (fun c1 => ?_) (fun c1 => ?_)
    · have h := it_use c1 h
      refine lv_iconst (v := 1) hx hb dX9_sheet_66 (by decide) ?_
      obtain ⟨er, ez0, ez1, ez2⟩ := rt4_use h
      subst ez0
      subst ez1
      subst ez2
      exact re_i hx hb hr hlocks hK hP hD hS er dX9_sheet_67
    · have h := ie_use c1 h
      refine lv_aload_n hx hb dX9_sheet_47 rfl (lv_at hl 0 rfl) ?_
      refine gM_mo_cells hx hb hts hnX9 hown hK hP hw0 dX9_sheet_48 ?_
      refine lv_bipush (v := 60) hx hb dX9_sheet_51 (by decide) ?_
      refine lv_iload_n hx hb dX9_sheet_53 rfl (lv_at hl 1 rfl) ?_
      refine lv_imul hx hb dX9_sheet_54 ?_
      refine lv_iload hx hb dX9_sheet_55 (lv_at hl 2 rfl) ?_
      refine lv_iadd hx hb dX9_sheet_57 ?_
      refine lv_iconst (v := 0) hx hb dX9_sheet_58 (by decide) ?_
      obtain ⟨hif2, f2, ef2, h⟩ := aw_use h
      refine sM_mo_cells hx hb hK hP hD hS hif2 ef2 dX9_sheet_59 (fun H locs hP hD hS => ?_)
      refine lv_iinc (v := x4 + 1) (lv' := [(4, .int (x4 + 1)), (0, .ref (a 0)), (1, .int x1)]) hx hb dX9_sheet_60 hl (k := 2) rfl rfl (by decide) rfl (fun ls hl => ?_)
      refine lv_goto (tgt := 40) hx hb dX9_sheet_63 (by decide) ?_
      exact ih f2 (x4 + 1) _ _ ls h hP hD hS (lv_sub hl [1, 2, 0] rfl)
theorem kX9_sheet_p40 {p : Program} {l : Launch} {e : Env} {s : State} {m : MethodId} {args : Array Value} {below : List Frame} {meth : Method} {c : Code} {A : Nat → Prop} (dC : Nat → ClassId) (dI : Nat → Nat → Nat) (cB cI cJ cZ : ClassId) (a : Nat → Nat) (C0 : cxt cX9_sheet (some .int) 5 RX9 wsX9_sheet (dC, dI) (tyz cB cI cJ cZ) E_0 A p s m args meth c) (n : Nat) (m_letters : Nat → Int32) (m_words : Int32) (m_wMany : Nat → Int32) (m_wLetters : Nat → Int32) (m_asks : Int32) (m_aWords : Nat → Int32) (m_dLetters : Nat → Int32) (m_dWords : Int32) (m_dMany : Nat → Int32) (m_dText : Nat → Int32) (m_dAsks : Int32) (m_dAsk : Nat → Int32) (m_tape : Nat → Int32) (m_taped : Int32) (m_pos : Int32) (m_from : Int32) (m_sort : Int32) (m_value : Int32) (m_fault : Int32) (m_wrongAt : Int32) (m_manyA : Int32) (m_rowA : Nat → Int32) (m_manyB : Int32) (m_rowB : Nat → Int32) (m_places : Int32) (m_xs : Nat → Int32) (m_ys : Nat → Int32) (m_heights : Nat → Int32) (m_ridges : Int32) (m_rx : Nat → Int32) (m_rHeight : Nat → Int32) (m_lanes : Nat → Int32) (m_sizes : Nat → Int32) (m_cells : Nat → Int32) (m_left : Nat → Int32) (m_calls : Int32) (m_cDay : Nat → Int32) (m_cHour : Nat → Int32) (m_cFrom : Nat → Int32) (m_cAsk : Nat → Int32) (m_cWord : Nat → Int32) (m_cOf : Nat → Int32) (m_isLie : Nat → Int32) (m_children : Int32) (m_learned : Nat → Int32) (m_group : Nat → Int32)  (x1 : Int32) (x4 : Int32) (r0 : Int32) (z_m_lanes : Nat → Int32) (z_m_sizes : Nat → Int32) (z_m_cells : Nat → Int32)  (k : Nat) (H : Heap) (locs : List Loc) (ls : Array Slot) : fX9_sheet_p40 n m_lanes m_sizes x1 k m_cells x4 = some (r0, z_m_lanes, z_m_sizes, z_m_cells) → va_P (dC, dI) vwCl (wM cB cI cJ cZ a m_letters m_words m_wMany m_wLetters m_asks m_aWords m_dLetters m_dWords m_dMany m_dText m_dAsks m_dAsk m_tape m_taped m_pos m_from m_sort m_value m_fault m_wrongAt m_manyA m_rowA m_manyB m_rowB m_places m_xs m_ys m_heights m_ridges m_rx m_rHeight m_lanes m_sizes m_cells m_left m_calls m_cDay m_cHour m_cFrom m_cAsk m_cWord m_cOf m_isLie m_children m_learned m_group) H → va_D A (wM cB cI cJ cZ a m_letters m_words m_wMany m_wLetters m_asks m_aWords m_dLetters m_dWords m_dMany m_dText m_dAsks m_dAsk m_tape m_taped m_pos m_from m_sort m_value m_fault m_wrongAt m_manyA m_rowA m_manyB m_rowB m_places m_xs m_ys m_heights m_ridges m_rx m_rHeight m_lanes m_sizes m_cells m_left m_calls m_cDay m_cHour m_cFrom m_cAsk m_cWord m_cOf m_isLie m_children m_learned m_group) → va_S A s.heap H locs → lv_has ls 5 [(0, .ref (a 0)), (1, .int x1), (4, .int x4)] → W p l e { frames := 2, cells := 0, slots := 0, locals := 46 } s m args below meth c H locs 0 0 (MQ below (gI (dC, dI) (tyz cB cI cJ cZ) (wM cB cI cJ cZ a m_letters m_words m_wMany m_wLetters m_asks m_aWords m_dLetters m_dWords m_dMany m_dText m_dAsks m_dAsk m_tape m_taped m_pos m_from m_sort m_value m_fault m_wrongAt m_manyA m_rowA m_manyB m_rowB m_places m_xs m_ys m_heights m_ridges m_rx m_rHeight z_m_lanes z_m_sizes z_m_cells m_left m_calls m_cDay m_cHour m_cFrom m_cAsk m_cWord m_cOf m_isLie m_children m_learned m_group) A r0) args s 0 0 A) (F0 m 40 ls []) :=
  kX9_sheet_p40_r dC dI cB cI cJ cZ a C0 n m_letters m_words m_wMany m_wLetters m_asks m_aWords m_dLetters m_dWords m_dMany m_dText m_dAsks m_dAsk m_tape m_taped m_pos m_from m_sort m_value m_fault m_wrongAt m_manyA m_rowA m_manyB m_rowB m_places m_xs m_ys m_heights m_ridges m_rx m_rHeight m_lanes m_sizes m_left m_calls m_cDay m_cHour m_cFrom m_cAsk m_cWord m_cOf m_isLie m_children m_learned m_group x1 r0 z_m_lanes z_m_sizes z_m_cells  k m_cells x4 H locs ls
set_option maxHeartbeats 4000000 in
set_option maxRecDepth 100000 in
theorem kX9_sheet (l : Launch) (n : Nat) (dC : Nat → ClassId) (dI : Nat → Nat → Nat) (cB cI cJ cZ : ClassId) (a : Nat → Nat) (sz : Nat) (m_letters : Nat → Int32) (m_words : Int32) (m_wMany : Nat → Int32) (m_wLetters : Nat → Int32) (m_asks : Int32) (m_aWords : Nat → Int32) (m_dLetters : Nat → Int32) (m_dWords : Int32) (m_dMany : Nat → Int32) (m_dText : Nat → Int32) (m_dAsks : Int32) (m_dAsk : Nat → Int32) (m_tape : Nat → Int32) (m_taped : Int32) (m_pos : Int32) (m_from : Int32) (m_sort : Int32) (m_value : Int32) (m_fault : Int32) (m_wrongAt : Int32) (m_manyA : Int32) (m_rowA : Nat → Int32) (m_manyB : Int32) (m_rowB : Nat → Int32) (m_places : Int32) (m_xs : Nat → Int32) (m_ys : Nat → Int32) (m_heights : Nat → Int32) (m_ridges : Int32) (m_rx : Nat → Int32) (m_rHeight : Nat → Int32) (m_lanes : Nat → Int32) (m_sizes : Nat → Int32) (m_cells : Nat → Int32) (m_left : Nat → Int32) (m_calls : Int32) (m_cDay : Nat → Int32) (m_cHour : Nat → Int32) (m_cFrom : Nat → Int32) (m_cAsk : Nat → Int32) (m_cWord : Nat → Int32) (m_cOf : Nat → Int32) (m_isLie : Nat → Int32) (m_children : Int32) (m_learned : Nat → Int32) (m_group : Nat → Int32) (x1 : Int32) (x2 : Int32) (x3 : Int32) (r0 : Int32) (z_m_lanes : Nat → Int32) (z_m_sizes : Nat → Int32) (z_m_cells : Nat → Int32) (h : fX9_sheet n m_lanes m_sizes m_cells x1 x2 x3 = some (r0, z_m_lanes, z_m_sizes, z_m_cells)) : Met l yX9_sheet wsX9_sheet ({ frames := 2, cells := 0, slots := 0, locals := 46 }) (gP (dC, dI) (tyz cB cI cJ cZ) E_0 (wM cB cI cJ cZ a m_letters m_words m_wMany m_wLetters m_asks m_aWords m_dLetters m_dWords m_dMany m_dText m_dAsks m_dAsk m_tape m_taped m_pos m_from m_sort m_value m_fault m_wrongAt m_manyA m_rowA m_manyB m_rowB m_places m_xs m_ys m_heights m_ridges m_rx m_rHeight m_lanes m_sizes m_cells m_left m_calls m_cDay m_cHour m_cFrom m_cAsk m_cWord m_cOf m_isLie m_children m_learned m_group) sz [.ref (a 0), .int x1, .int x2, .int x3]) (gI (dC, dI) (tyz cB cI cJ cZ) (wM cB cI cJ cZ a m_letters m_words m_wMany m_wLetters m_asks m_aWords m_dLetters m_dWords m_dMany m_dText m_dAsks m_dAsk m_tape m_taped m_pos m_from m_sort m_value m_fault m_wrongAt m_manyA m_rowA m_manyB m_rowB m_places m_xs m_ys m_heights m_ridges m_rx m_rHeight z_m_lanes z_m_sizes z_m_cells m_left m_calls m_cDay m_cHour m_cFrom m_cAsk m_cWord m_cOf m_isLie m_children m_learned m_group) (va_A (wM cB cI cJ cZ a m_letters m_words m_wMany m_wLetters m_asks m_aWords m_dLetters m_dWords m_dMany m_dText m_dAsks m_dAsk m_tape m_taped m_pos m_from m_sort m_value m_fault m_wrongAt m_manyA m_rowA m_manyB m_rowB m_places m_xs m_ys m_heights m_ridges m_rx m_rHeight m_lanes m_sizes m_cells m_left m_calls m_cDay m_cHour m_cFrom m_cAsk m_cWord m_cOf m_isLie m_children m_learned m_group) sz) r0) 0 0 (va_A (wM cB cI cJ cZ a m_letters m_words m_wMany m_wLetters m_asks m_aWords m_dLetters m_dWords m_dMany m_dText m_dAsks m_dAsk m_tape m_taped m_pos m_from m_sort m_value m_fault m_wrongAt m_manyA m_rowA m_manyB m_rowB m_places m_xs m_ys m_heights m_ridges m_rx m_rHeight m_lanes m_sizes m_cells m_left m_calls m_cDay m_cHour m_cFrom m_cAsk m_cWord m_cOf m_isLie m_children m_learned m_group) sz) := by
  refine Met.ofW (cc := cX9_sheet) (maxL := 5) (ret := (some .int)) (by decide) rfl ?_
  intro p e s m args below meth c s₁ B hml hv
  obtain ⟨rfl, hsz, hP, hK, hD0, hE⟩ := hv
  have hx := B.exec
  have hb := B.bytes
  have hr := B.returns
  have hts := atoms_spec (ws := wsX9_sheet) B.pre
  have hown : s.vm.findClass RX9 = some m.cls := findClass_of_methodNamed B.named
  have hlocks := B.notSynchronized
  subst hsz
  have hD := hD0.self (sz := s.heap.size)
  have hA : ∀ q : Nat, s.heap.size ≤ q → va_A (wM cB cI cJ cZ a m_letters m_words m_wMany m_wLetters m_asks m_aWords m_dLetters m_dWords m_dMany m_dText m_dAsks m_dAsk m_tape m_taped m_pos m_from m_sort m_value m_fault m_wrongAt m_manyA m_rowA m_manyB m_rowB m_places m_xs m_ys m_heights m_ridges m_rx m_rHeight m_lanes m_sizes m_cells m_left m_calls m_cDay m_cHour m_cFrom m_cAsk m_cWord m_cOf m_isLie m_children m_learned m_group) s.heap.size q := fun q h => Or.inr h
  generalize va_A (wM cB cI cJ cZ a m_letters m_words m_wMany m_wLetters m_asks m_aWords m_dLetters m_dWords m_dMany m_dText m_dAsks m_dAsk m_tape m_taped m_pos m_from m_sort m_value m_fault m_wrongAt m_manyA m_rowA m_manyB m_rowB m_places m_xs m_ys m_heights m_ridges m_rx m_rHeight m_lanes m_sizes m_cells m_left m_calls m_cDay m_cHour m_cFrom m_cAsk m_cWord m_cOf m_isLie m_children m_learned m_group) s.heap.size = A at hD hA hE ⊢
  have hS : va_S A s.heap s.heap [] := va_S.rf
  have C0 : cxt cX9_sheet (some .int) 5 RX9 wsX9_sheet (dC, dI) (tyz cB cI cJ cZ) E_0 A p s m ([.ref (a 0), .int x1, .int x2, .int x3] : List Value).toArray meth c := ⟨hx, hb, hr, hml, hown, hts, hlocks, hK, hA, hE⟩
  have hl := lv_entry ([.ref (a 0), .int x1, .int x2, .int x3]) (n := 5) (Nat.le_of_ble_eq_true rfl)
  rw [lg_entry_eq]
  generalize (lg_sl ([.ref (a 0), .int x1, .int x2, .int x3]) ++ List.replicate (5 - (lg_sl ([.ref (a 0), .int x1, .int x2, .int x3])).length) Slot.unset).toArray = ls at hl ⊢
  have hl : lv_has ls 5 [(0, .ref (a 0)), (1, .int x1), (2, .int x2), (3, .int x3)] := hl
  have hw0 := hts (.fieldLink RX9 58 "WhistledWordsModel" "lanes" "[I") (by decide +kernel)
  have hw1 := hts (.fieldLink RX9 61 "WhistledWordsModel" "sizes" "[I") (by decide +kernel)
  have hnX9 : ∀ w ∈ u_ws RX9 TX9 46, w ∈ wsX9_sheet := fun _ h => List.mem_cons_of_mem _ (List.mem_append_right _ h)
  unfold fX9_sheet at h
  refine lv_iload_n hx hb dX9_sheet_0 rfl (lv_at hl 1 rfl) ?_
  refine lv_iload_n hx hb dX9_sheet_1 rfl (lv_at hl 2 rfl) ?_
  obtain ⟨v1, hc, h⟩ := bd1_use h
  refine cs_i (As := [.int x1, .int x2]) (rest := []) ⟨hx, hb, hml, hown, hts⟩ (kX9_isSheet l n x1 x2 v1 hc) (va_cwS 2 hts gX9_sheet_X9_isSheet rfl rfl rfl (by decide +kernel) ⟨Nat.le_of_ble_eq_true rfl, Nat.le_of_ble_eq_true rfl⟩) hP hS rfl hl.1 rfl (Nat.le_of_ble_eq_true rfl) dX9_sheet_2 ⟨Nat.zero_le _, Nat.zero_le _⟩ (fun H locs hP hS => ?_)
  refine lv_if_eq (tgt := 14) hx hb dX9_sheet_5 (by decide) (fun c2 => ?_) (fun c2 => ?_)
  · have h := it_use c2 h
    refine lv_iconst (v := -1) hx hb dX9_sheet_14 (by decide) ?_
    obtain ⟨er, ez0, ez1, ez2⟩ := rt4_use h
    subst ez0
    subst ez1
    subst ez2
    exact re_i hx hb hr hlocks hK hP hD hS er dX9_sheet_15
  · have h := ie_use c2 h
    refine lv_iload_n hx hb dX9_sheet_8 rfl (lv_at hl 3 rfl) ?_
    refine lv_bipush (v := 60) hx hb dX9_sheet_9 (by decide) ?_
    refine lv_icmp_le (tgt := 16) hx hb dX9_sheet_11 (by decide) (fun c3 => ?_) (fun c3 => ?_)
    · have h := it_use c3 h
      refine lv_iload_n hx hb dX9_sheet_16 rfl (lv_at hl 3 rfl) ?_
      refine lv_if_ge (tgt := 23) hx hb dX9_sheet_17 (by decide) (fun c4 => ?_) (fun c4 => ?_)
      · have h := it_use c4 h
        refine lv_aload_n hx hb dX9_sheet_23 rfl (lv_at hl 0 rfl) ?_
        refine gM_mo_lanes hx hb hts hnX9 hown hK hP hw0 dX9_sheet_24 ?_
        refine lv_iload_n hx hb dX9_sheet_27 rfl (lv_at hl 1 rfl) ?_
        refine lv_iload_n hx hb dX9_sheet_28 rfl (lv_at hl 2 rfl) ?_
        obtain ⟨hif5, f5, ef5, h⟩ := aw_use h
        refine sM_mo_lanes hx hb hK hP hD hS hif5 ef5 dX9_sheet_29 (fun H locs hP hD hS => ?_)
        refine lv_aload_n hx hb dX9_sheet_30 rfl (lv_at hl 0 rfl) ?_
        refine gM_mo_sizes hx hb hts hnX9 hown hK hP hw1 dX9_sheet_31 ?_
        refine lv_iload_n hx hb dX9_sheet_34 rfl (lv_at hl 1 rfl) ?_
        refine lv_iload_n hx hb dX9_sheet_35 rfl (lv_at hl 3 rfl) ?_
        obtain ⟨hif6, f6, ef6, h⟩ := aw_use h
        refine sM_mo_sizes hx hb hK hP hD hS hif6 ef6 dX9_sheet_36 (fun H locs hP hD hS => ?_)
        refine lv_iconst (v := 0) hx hb dX9_sheet_37 (by decide) ?_
        refine lv_istore (lv' := [(4, .int (0 : Int32)), (0, .ref (a 0)), (1, .int x1), (2, .int x2), (3, .int x3)]) hx hb dX9_sheet_38 hl (by decide) rfl (fun ls hl => ?_)
        exact kX9_sheet_p40 dC dI cB cI cJ cZ a C0 n m_letters m_words m_wMany m_wLetters m_asks m_aWords m_dLetters m_dWords m_dMany m_dText m_dAsks m_dAsk m_tape m_taped m_pos m_from m_sort m_value m_fault m_wrongAt m_manyA m_rowA m_manyB m_rowB m_places m_xs m_ys m_heights m_ridges m_rx m_rHeight f5 f6 m_cells m_left m_calls m_cDay m_cHour m_cFrom m_cAsk m_cWord m_cOf m_isLie m_children m_learned m_group x1 (0 : Int32) r0 z_m_lanes z_m_sizes z_m_cells  n _ _ ls h hP hD hS (lv_sub hl [1, 2, 0] rfl)
      · have h := ie_use c4 h
        refine lv_bipush (v := -14) hx hb dX9_sheet_20 (by decide) ?_
        obtain ⟨er, ez0, ez1, ez2⟩ := rt4_use h
        subst ez0
        subst ez1
        subst ez2
        exact re_i hx hb hr hlocks hK hP hD hS er dX9_sheet_22
    · have h := ie_use c3 h
      refine lv_iconst (v := -1) hx hb dX9_sheet_14 (by decide) ?_
      obtain ⟨er, ez0, ez1, ez2⟩ := rt4_use h
      subst ez0
      subst ez1
      subst ez2
      exact re_i hx hb hr hlocks hK hP hD hS er dX9_sheet_15
set_option maxHeartbeats 4000000 in
set_option maxRecDepth 100000 in
theorem kX9_lay (l : Launch) (n : Nat) (dC : Nat → ClassId) (dI : Nat → Nat → Nat) (cB cI cJ cZ : ClassId) (a : Nat → Nat) (sz : Nat) (m_letters : Nat → Int32) (m_words : Int32) (m_wMany : Nat → Int32) (m_wLetters : Nat → Int32) (m_asks : Int32) (m_aWords : Nat → Int32) (m_dLetters : Nat → Int32) (m_dWords : Int32) (m_dMany : Nat → Int32) (m_dText : Nat → Int32) (m_dAsks : Int32) (m_dAsk : Nat → Int32) (m_tape : Nat → Int32) (m_taped : Int32) (m_pos : Int32) (m_from : Int32) (m_sort : Int32) (m_value : Int32) (m_fault : Int32) (m_wrongAt : Int32) (m_manyA : Int32) (m_rowA : Nat → Int32) (m_manyB : Int32) (m_rowB : Nat → Int32) (m_places : Int32) (m_xs : Nat → Int32) (m_ys : Nat → Int32) (m_heights : Nat → Int32) (m_ridges : Int32) (m_rx : Nat → Int32) (m_rHeight : Nat → Int32) (m_lanes : Nat → Int32) (m_sizes : Nat → Int32) (m_cells : Nat → Int32) (m_left : Nat → Int32) (m_calls : Int32) (m_cDay : Nat → Int32) (m_cHour : Nat → Int32) (m_cFrom : Nat → Int32) (m_cAsk : Nat → Int32) (m_cWord : Nat → Int32) (m_cOf : Nat → Int32) (m_isLie : Nat → Int32) (m_children : Int32) (m_learned : Nat → Int32) (m_group : Nat → Int32) (x1 : Int32) (x2 : Int32) (x3 : Int32) (r0 : Int32) (z_m_cells : Nat → Int32) (h : fX9_lay n m_lanes m_sizes m_cells x1 x2 x3 = some (r0, z_m_cells)) : Met l yX9_lay wsX9_lay ({ frames := 2, cells := 0, slots := 0, locals := 46 }) (gP (dC, dI) (tyz cB cI cJ cZ) E_0 (wM cB cI cJ cZ a m_letters m_words m_wMany m_wLetters m_asks m_aWords m_dLetters m_dWords m_dMany m_dText m_dAsks m_dAsk m_tape m_taped m_pos m_from m_sort m_value m_fault m_wrongAt m_manyA m_rowA m_manyB m_rowB m_places m_xs m_ys m_heights m_ridges m_rx m_rHeight m_lanes m_sizes m_cells m_left m_calls m_cDay m_cHour m_cFrom m_cAsk m_cWord m_cOf m_isLie m_children m_learned m_group) sz [.ref (a 0), .int x1, .int x2, .int x3]) (gI (dC, dI) (tyz cB cI cJ cZ) (wM cB cI cJ cZ a m_letters m_words m_wMany m_wLetters m_asks m_aWords m_dLetters m_dWords m_dMany m_dText m_dAsks m_dAsk m_tape m_taped m_pos m_from m_sort m_value m_fault m_wrongAt m_manyA m_rowA m_manyB m_rowB m_places m_xs m_ys m_heights m_ridges m_rx m_rHeight m_lanes m_sizes z_m_cells m_left m_calls m_cDay m_cHour m_cFrom m_cAsk m_cWord m_cOf m_isLie m_children m_learned m_group) (va_A (wM cB cI cJ cZ a m_letters m_words m_wMany m_wLetters m_asks m_aWords m_dLetters m_dWords m_dMany m_dText m_dAsks m_dAsk m_tape m_taped m_pos m_from m_sort m_value m_fault m_wrongAt m_manyA m_rowA m_manyB m_rowB m_places m_xs m_ys m_heights m_ridges m_rx m_rHeight m_lanes m_sizes m_cells m_left m_calls m_cDay m_cHour m_cFrom m_cAsk m_cWord m_cOf m_isLie m_children m_learned m_group) sz) r0) 0 0 (va_A (wM cB cI cJ cZ a m_letters m_words m_wMany m_wLetters m_asks m_aWords m_dLetters m_dWords m_dMany m_dText m_dAsks m_dAsk m_tape m_taped m_pos m_from m_sort m_value m_fault m_wrongAt m_manyA m_rowA m_manyB m_rowB m_places m_xs m_ys m_heights m_ridges m_rx m_rHeight m_lanes m_sizes m_cells m_left m_calls m_cDay m_cHour m_cFrom m_cAsk m_cWord m_cOf m_isLie m_children m_learned m_group) sz) := by
  refine Met.ofW (cc := cX9_lay) (maxL := 4) (ret := (some .int)) (by decide) rfl ?_
  intro p e s m args below meth c s₁ B hml hv
  obtain ⟨rfl, hsz, hP, hK, hD0, hE⟩ := hv
  have hx := B.exec
  have hb := B.bytes
  have hr := B.returns
  have hts := atoms_spec (ws := wsX9_lay) B.pre
  have hown : s.vm.findClass RX9 = some m.cls := findClass_of_methodNamed B.named
  have hlocks := B.notSynchronized
  subst hsz
  have hD := hD0.self (sz := s.heap.size)
  have hA : ∀ q : Nat, s.heap.size ≤ q → va_A (wM cB cI cJ cZ a m_letters m_words m_wMany m_wLetters m_asks m_aWords m_dLetters m_dWords m_dMany m_dText m_dAsks m_dAsk m_tape m_taped m_pos m_from m_sort m_value m_fault m_wrongAt m_manyA m_rowA m_manyB m_rowB m_places m_xs m_ys m_heights m_ridges m_rx m_rHeight m_lanes m_sizes m_cells m_left m_calls m_cDay m_cHour m_cFrom m_cAsk m_cWord m_cOf m_isLie m_children m_learned m_group) s.heap.size q := fun q h => Or.inr h
  generalize va_A (wM cB cI cJ cZ a m_letters m_words m_wMany m_wLetters m_asks m_aWords m_dLetters m_dWords m_dMany m_dText m_dAsks m_dAsk m_tape m_taped m_pos m_from m_sort m_value m_fault m_wrongAt m_manyA m_rowA m_manyB m_rowB m_places m_xs m_ys m_heights m_ridges m_rx m_rHeight m_lanes m_sizes m_cells m_left m_calls m_cDay m_cHour m_cFrom m_cAsk m_cWord m_cOf m_isLie m_children m_learned m_group) s.heap.size = A at hD hA hE ⊢
  have hS : va_S A s.heap s.heap [] := va_S.rf
  have C0 : cxt cX9_lay (some .int) 4 RX9 wsX9_lay (dC, dI) (tyz cB cI cJ cZ) E_0 A p s m ([.ref (a 0), .int x1, .int x2, .int x3] : List Value).toArray meth c := ⟨hx, hb, hr, hml, hown, hts, hlocks, hK, hA, hE⟩
  have hl := lv_entry ([.ref (a 0), .int x1, .int x2, .int x3]) (n := 4) (Nat.le_of_ble_eq_true rfl)
  rw [lg_entry_eq]
  generalize (lg_sl ([.ref (a 0), .int x1, .int x2, .int x3]) ++ List.replicate (4 - (lg_sl ([.ref (a 0), .int x1, .int x2, .int x3])).length) Slot.unset).toArray = ls at hl ⊢
  have hl : lv_has ls 4 [(0, .ref (a 0)), (1, .int x1), (2, .int x2), (3, .int x3)] := hl
  have hw0 := hts (.fieldLink RX9 58 "WhistledWordsModel" "lanes" "[I") (by decide +kernel)
  have hw1 := hts (.fieldLink RX9 61 "WhistledWordsModel" "sizes" "[I") (by decide +kernel)
  have hw2 := hts (.fieldLink RX9 64 "WhistledWordsModel" "cells" "[I") (by decide +kernel)
  have hnX9 : ∀ w ∈ u_ws RX9 TX9 46, w ∈ wsX9_lay := fun _ h => List.mem_cons_of_mem _ (List.mem_append_right _ h)
  unfold fX9_lay at h
  refine lv_iload_n hx hb dX9_lay_0 rfl (lv_at hl 1 rfl) ?_
  refine lv_iconst (v := 0) hx hb dX9_lay_1 (by decide) ?_
  obtain ⟨v1, hc, h⟩ := bd1_use h
  refine cs_i (As := [.int x1, .int (0 : Int32)]) (rest := []) ⟨hx, hb, hml, hown, hts⟩ (kX9_isSheet l n x1 (0 : Int32) v1 hc) (va_cwS 2 hts gX9_lay_X9_isSheet rfl rfl rfl (by decide +kernel) ⟨Nat.le_of_ble_eq_true rfl, Nat.le_of_ble_eq_true rfl⟩) hP hS rfl hl.1 rfl (Nat.le_of_ble_eq_true rfl) dX9_lay_2 ⟨Nat.zero_le _, Nat.zero_le _⟩ (fun H locs hP hS => ?_)
  refine lv_if_ne (tgt := 10) hx hb dX9_lay_5 (by decide) (fun c2 => ?_) (fun c2 => ?_)
  · have h := ie_use c2 h
    refine lv_aload_n hx hb dX9_lay_10 rfl (lv_at hl 0 rfl) ?_
    refine gM_mo_lanes hx hb hts hnX9 hown hK hP hw0 dX9_lay_11 ?_
    refine lv_iload_n hx hb dX9_lay_14 rfl (lv_at hl 1 rfl) ?_
    obtain ⟨hiv3, h⟩ := ar_use h
    refine lM_mo_lanes hx hb hK hP hiv3 dX9_lay_15 ?_
    refine lv_topi (fun v3 ev3 => ?_)
    have h := h v3 ev3
    refine lv_bipush (v := -4) hx hb dX9_lay_16 (by decide) ?_
    refine lv_icmp_ne (tgt := 24) hx hb dX9_lay_18 (by decide) (fun c4 => ?_) (fun c4 => ?_)
    · have h := ie_use c4 h
      refine lv_iload_n hx hb dX9_lay_24 rfl (lv_at hl 2 rfl) ?_
      refine lv_i2l hx hb dX9_lay_25 rfl ?_
      refine lv_lconst (v := 0) hx hb dX9_lay_26 (by decide) ?_
      refine lv_aload_n hx hb dX9_lay_27 rfl (lv_at hl 0 rfl) ?_
      refine gM_mo_sizes hx hb hts hnX9 hown hK hP hw1 dX9_lay_28 ?_
      refine lv_iload_n hx hb dX9_lay_31 rfl (lv_at hl 1 rfl) ?_
      obtain ⟨hiv5, h⟩ := ar_use h
      refine lM_mo_sizes hx hb hK hP hiv5 dX9_lay_32 ?_
      refine lv_topi (fun v5 ev5 => ?_)
      have h := h v5 ev5
      refine lv_iconst (v := 1) hx hb dX9_lay_33 (by decide) ?_
      refine lv_isub hx hb dX9_lay_34 ?_
      refine lv_i2l hx hb dX9_lay_35 rfl ?_
      obtain ⟨v6, hc, h⟩ := bd1_use h
      refine cs_i (As := [.long x2.toInt64, .long (0 : Int64), .long ((v5 - (1 : Int32)).toInt64)]) (rest := []) ⟨hx, hb, hml, hown, hts⟩ (kX9_in l n x2.toInt64 (0 : Int64) ((v5 - (1 : Int32)).toInt64) v6 hc) (va_cwS 3 hts gX9_lay_X9_in rfl rfl rfl (by decide +kernel) ⟨Nat.le_of_ble_eq_true rfl, Nat.le_of_ble_eq_true rfl⟩) hP hS rfl hl.1 rfl (Nat.le_of_ble_eq_true rfl) dX9_lay_36 ⟨Nat.zero_le _, Nat.zero_le _⟩ (fun H locs hP hS => ?_)
      refine lv_if_ne (tgt := 45) hx hb dX9_lay_39 (by decide) (fun c7 => ?_) (fun c7 => ?_)
      · have h := ie_use c7 h
        refine lv_aload_n hx hb dX9_lay_45 rfl (lv_at hl 0 rfl) ?_
        refine gM_mo_cells hx hb hts hnX9 hown hK hP hw2 dX9_lay_46 ?_
        refine lv_bipush (v := 60) hx hb dX9_lay_49 (by decide) ?_
        refine lv_iload_n hx hb dX9_lay_51 rfl (lv_at hl 1 rfl) ?_
        refine lv_imul hx hb dX9_lay_52 ?_
        refine lv_iload_n hx hb dX9_lay_53 rfl (lv_at hl 2 rfl) ?_
        refine lv_iadd hx hb dX9_lay_54 ?_
        refine lv_aload_n hx hb dX9_lay_55 rfl (lv_at hl 0 rfl) ?_
        refine gM_mo_lanes hx hb hts hnX9 hown hK hP hw0 dX9_lay_56 ?_
        refine lv_iload_n hx hb dX9_lay_59 rfl (lv_at hl 1 rfl) ?_
        obtain ⟨hiv8, h⟩ := ar_use h
        refine lM_mo_lanes hx hb hK hP hiv8 dX9_lay_60 ?_
        refine lv_topi (fun v8 ev8 => ?_)
        have h := h v8 ev8
        refine lv_if_ne (tgt := 69) hx hb dX9_lay_61 (by decide) (fun c9 => ?_) (fun c9 => ?_)
        · have h := ie_use c9 h
          refine lv_aload_n hx hb dX9_lay_69 rfl (lv_at hl 0 rfl) ?_
          refine gM_mo_lanes hx hb hts hnX9 hown hK hP hw0 dX9_lay_70 ?_
          refine lv_iload_n hx hb dX9_lay_73 rfl (lv_at hl 1 rfl) ?_
          obtain ⟨hiv10, h⟩ := ar_use h
          refine lM_mo_lanes hx hb hK hP hiv10 dX9_lay_74 ?_
          refine lv_topi (fun v10 ev10 => ?_)
          have h := h v10 ev10
          refine lv_iconst (v := 1) hx hb dX9_lay_75 (by decide) ?_
          refine lv_icmp_ne (tgt := 84) hx hb dX9_lay_76 (by decide) (fun c11 => ?_) (fun c11 => ?_)
          · have h := ie_use c11 h
            refine lv_iload_n hx hb dX9_lay_84 rfl (lv_at hl 3 rfl) ?_
            obtain ⟨hif12, f12, ef12, h⟩ := aw_use h
            refine sM_mo_cells hx hb hK hP hD hS hif12 ef12 dX9_lay_85 (fun H locs hP hD hS => ?_)
            refine lv_iconst (v := 1) hx hb dX9_lay_86 (by decide) ?_
            obtain ⟨er, ez0⟩ := rt2_use h
            subst ez0
            exact re_i hx hb hr hlocks hK hP hD hS er dX9_lay_87
          · have h := it_use c11 h
            refine lv_iload_n hx hb dX9_lay_79 rfl (lv_at hl 3 rfl) ?_
            refine lv_i2s hx hb dX9_lay_80 rfl ?_
            refine lv_goto (tgt := 85) hx hb dX9_lay_81 (by decide) ?_
            obtain ⟨hif13, f13, ef13, h⟩ := aw_use h
            refine sM_mo_cells hx hb hK hP hD hS hif13 ef13 dX9_lay_85 (fun H locs hP hD hS => ?_)
            refine lv_iconst (v := 1) hx hb dX9_lay_86 (by decide) ?_
            obtain ⟨er, ez0⟩ := rt2_use h
            subst ez0
            exact re_i hx hb hr hlocks hK hP hD hS er dX9_lay_87
        · have h := it_use c9 h
          refine lv_iload_n hx hb dX9_lay_64 rfl (lv_at hl 3 rfl) ?_
          refine lv_i2b hx hb dX9_lay_65 rfl ?_
          refine lv_goto (tgt := 85) hx hb dX9_lay_66 (by decide) ?_
          obtain ⟨hif14, f14, ef14, h⟩ := aw_use h
          refine sM_mo_cells hx hb hK hP hD hS hif14 ef14 dX9_lay_85 (fun H locs hP hD hS => ?_)
          refine lv_iconst (v := 1) hx hb dX9_lay_86 (by decide) ?_
          obtain ⟨er, ez0⟩ := rt2_use h
          subst ez0
          exact re_i hx hb hr hlocks hK hP hD hS er dX9_lay_87
      · have h := it_use c7 h
        refine lv_bipush (v := -12) hx hb dX9_lay_42 (by decide) ?_
        obtain ⟨er, ez0⟩ := rt2_use h
        subst ez0
        exact re_i hx hb hr hlocks hK hP hD hS er dX9_lay_44
    · have h := it_use c4 h
      refine lv_bipush (v := -11) hx hb dX9_lay_21 (by decide) ?_
      obtain ⟨er, ez0⟩ := rt2_use h
      subst ez0
      exact re_i hx hb hr hlocks hK hP hD hS er dX9_lay_23
  · have h := it_use c2 h
    refine lv_iconst (v := -1) hx hb dX9_lay_8 (by decide) ?_
    obtain ⟨er, ez0⟩ := rt2_use h
    subst ez0
    exact re_i hx hb hr hlocks hK hP hD hS er dX9_lay_9
set_option maxHeartbeats 4000000 in
set_option maxRecDepth 100000 in
theorem kX9_windFault (l : Launch) (n : Nat) (dC : Nat → ClassId) (dI : Nat → Nat → Nat) (cB cI cJ cZ : ClassId) (a : Nat → Nat) (sz : Nat) (m_letters : Nat → Int32) (m_words : Int32) (m_wMany : Nat → Int32) (m_wLetters : Nat → Int32) (m_asks : Int32) (m_aWords : Nat → Int32) (m_dLetters : Nat → Int32) (m_dWords : Int32) (m_dMany : Nat → Int32) (m_dText : Nat → Int32) (m_dAsks : Int32) (m_dAsk : Nat → Int32) (m_tape : Nat → Int32) (m_taped : Int32) (m_pos : Int32) (m_from : Int32) (m_sort : Int32) (m_value : Int32) (m_fault : Int32) (m_wrongAt : Int32) (m_manyA : Int32) (m_rowA : Nat → Int32) (m_manyB : Int32) (m_rowB : Nat → Int32) (m_places : Int32) (m_xs : Nat → Int32) (m_ys : Nat → Int32) (m_heights : Nat → Int32) (m_ridges : Int32) (m_rx : Nat → Int32) (m_rHeight : Nat → Int32) (m_lanes : Nat → Int32) (m_sizes : Nat → Int32) (m_cells : Nat → Int32) (m_left : Nat → Int32) (m_calls : Int32) (m_cDay : Nat → Int32) (m_cHour : Nat → Int32) (m_cFrom : Nat → Int32) (m_cAsk : Nat → Int32) (m_cWord : Nat → Int32) (m_cOf : Nat → Int32) (m_isLie : Nat → Int32) (m_children : Int32) (m_learned : Nat → Int32) (m_group : Nat → Int32) (x1 : Int32) (r0 : Int32) (h : fX9_windFault n m_lanes m_sizes x1 = some r0) : Met l yX9_windFault wsX9_windFault ({ frames := 0, cells := 0, slots := 0, locals := 0 }) (gP (dC, dI) (tyz cB cI cJ cZ) E_0 (wM cB cI cJ cZ a m_letters m_words m_wMany m_wLetters m_asks m_aWords m_dLetters m_dWords m_dMany m_dText m_dAsks m_dAsk m_tape m_taped m_pos m_from m_sort m_value m_fault m_wrongAt m_manyA m_rowA m_manyB m_rowB m_places m_xs m_ys m_heights m_ridges m_rx m_rHeight m_lanes m_sizes m_cells m_left m_calls m_cDay m_cHour m_cFrom m_cAsk m_cWord m_cOf m_isLie m_children m_learned m_group) sz [.ref (a 0), .int x1]) (gI (dC, dI) (tyz cB cI cJ cZ) (wM cB cI cJ cZ a m_letters m_words m_wMany m_wLetters m_asks m_aWords m_dLetters m_dWords m_dMany m_dText m_dAsks m_dAsk m_tape m_taped m_pos m_from m_sort m_value m_fault m_wrongAt m_manyA m_rowA m_manyB m_rowB m_places m_xs m_ys m_heights m_ridges m_rx m_rHeight m_lanes m_sizes m_cells m_left m_calls m_cDay m_cHour m_cFrom m_cAsk m_cWord m_cOf m_isLie m_children m_learned m_group) (va_A (wM cB cI cJ cZ a m_letters m_words m_wMany m_wLetters m_asks m_aWords m_dLetters m_dWords m_dMany m_dText m_dAsks m_dAsk m_tape m_taped m_pos m_from m_sort m_value m_fault m_wrongAt m_manyA m_rowA m_manyB m_rowB m_places m_xs m_ys m_heights m_ridges m_rx m_rHeight m_lanes m_sizes m_cells m_left m_calls m_cDay m_cHour m_cFrom m_cAsk m_cWord m_cOf m_isLie m_children m_learned m_group) sz) r0) 0 0 (va_A (wM cB cI cJ cZ a m_letters m_words m_wMany m_wLetters m_asks m_aWords m_dLetters m_dWords m_dMany m_dText m_dAsks m_dAsk m_tape m_taped m_pos m_from m_sort m_value m_fault m_wrongAt m_manyA m_rowA m_manyB m_rowB m_places m_xs m_ys m_heights m_ridges m_rx m_rHeight m_lanes m_sizes m_cells m_left m_calls m_cDay m_cHour m_cFrom m_cAsk m_cWord m_cOf m_isLie m_children m_learned m_group) sz) := by
  refine Met.ofW (cc := cX9_windFault) (maxL := 2) (ret := (some .int)) (by decide) rfl ?_
  intro p e s m args below meth c s₁ B hml hv
  obtain ⟨rfl, hsz, hP, hK, hD0, hE⟩ := hv
  have hx := B.exec
  have hb := B.bytes
  have hr := B.returns
  have hts := atoms_spec (ws := wsX9_windFault) B.pre
  have hown : s.vm.findClass RX9 = some m.cls := findClass_of_methodNamed B.named
  have hlocks := B.notSynchronized
  subst hsz
  have hD := hD0.self (sz := s.heap.size)
  have hA : ∀ q : Nat, s.heap.size ≤ q → va_A (wM cB cI cJ cZ a m_letters m_words m_wMany m_wLetters m_asks m_aWords m_dLetters m_dWords m_dMany m_dText m_dAsks m_dAsk m_tape m_taped m_pos m_from m_sort m_value m_fault m_wrongAt m_manyA m_rowA m_manyB m_rowB m_places m_xs m_ys m_heights m_ridges m_rx m_rHeight m_lanes m_sizes m_cells m_left m_calls m_cDay m_cHour m_cFrom m_cAsk m_cWord m_cOf m_isLie m_children m_learned m_group) s.heap.size q := fun q h => Or.inr h
  generalize va_A (wM cB cI cJ cZ a m_letters m_words m_wMany m_wLetters m_asks m_aWords m_dLetters m_dWords m_dMany m_dText m_dAsks m_dAsk m_tape m_taped m_pos m_from m_sort m_value m_fault m_wrongAt m_manyA m_rowA m_manyB m_rowB m_places m_xs m_ys m_heights m_ridges m_rx m_rHeight m_lanes m_sizes m_cells m_left m_calls m_cDay m_cHour m_cFrom m_cAsk m_cWord m_cOf m_isLie m_children m_learned m_group) s.heap.size = A at hD hA hE ⊢
  have hS : va_S A s.heap s.heap [] := va_S.rf
  have C0 : cxt cX9_windFault (some .int) 2 RX9 wsX9_windFault (dC, dI) (tyz cB cI cJ cZ) E_0 A p s m ([.ref (a 0), .int x1] : List Value).toArray meth c := ⟨hx, hb, hr, hml, hown, hts, hlocks, hK, hA, hE⟩
  have hl := lv_entry ([.ref (a 0), .int x1]) (n := 2) (Nat.le_of_ble_eq_true rfl)
  rw [lg_entry_eq]
  generalize (lg_sl ([.ref (a 0), .int x1]) ++ List.replicate (2 - (lg_sl ([.ref (a 0), .int x1])).length) Slot.unset).toArray = ls at hl ⊢
  have hl : lv_has ls 2 [(0, .ref (a 0)), (1, .int x1)] := hl
  have hw0 := hts (.fieldLink RX9 58 "WhistledWordsModel" "lanes" "[I") (by decide +kernel)
  have hw1 := hts (.fieldLink RX9 61 "WhistledWordsModel" "sizes" "[I") (by decide +kernel)
  have hnX9 : ∀ w ∈ u_ws RX9 TX9 46, w ∈ wsX9_windFault := fun _ h => List.mem_cons_of_mem _ (List.mem_append_right _ h)
  unfold fX9_windFault at h
  refine lv_aload_n hx hb dX9_windFault_0 rfl (lv_at hl 0 rfl) ?_
  refine gM_mo_lanes hx hb hts hnX9 hown hK hP hw0 dX9_windFault_1 ?_
  refine lv_iconst (v := 0) hx hb dX9_windFault_4 (by decide) ?_
  obtain ⟨hiv1, h⟩ := ar_use h
  refine lM_mo_lanes hx hb hK hP hiv1 dX9_windFault_5 ?_
  refine lv_topi (fun v1 ev1 => ?_)
  have h := h v1 ev1
  refine lv_bipush (v := -4) hx hb dX9_windFault_6 (by decide) ?_
  refine lv_icmp_ne (tgt := 15) hx hb dX9_windFault_8 (by decide) (fun c2 => ?_) (fun c2 => ?_)
  · have h := ie_use c2 h
    refine lv_aload_n hx hb dX9_windFault_15 rfl (lv_at hl 0 rfl) ?_
    refine gM_mo_lanes hx hb hts hnX9 hown hK hP hw0 dX9_windFault_16 ?_
    refine lv_iconst (v := 0) hx hb dX9_windFault_19 (by decide) ?_
    obtain ⟨hiv3, h⟩ := ar_use h
    refine lM_mo_lanes hx hb hK hP hiv3 dX9_windFault_20 ?_
    refine lv_topi (fun v3 ev3 => ?_)
    have h := h v3 ev3
    refine lv_if_eq (tgt := 28) hx hb dX9_windFault_21 (by decide) (fun c4 => ?_) (fun c4 => ?_)
    · have h := it_use c4 h
      refine lv_iload_n hx hb dX9_windFault_28 rfl (lv_at hl 1 rfl) ?_
      refine lv_aload_n hx hb dX9_windFault_29 rfl (lv_at hl 0 rfl) ?_
      refine gM_mo_sizes hx hb hts hnX9 hown hK hP hw1 dX9_windFault_30 ?_
      refine lv_iconst (v := 0) hx hb dX9_windFault_33 (by decide) ?_
      obtain ⟨hiv5, h⟩ := ar_use h
      refine lM_mo_sizes hx hb hK hP hiv5 dX9_windFault_34 ?_
      refine lv_topi (fun v5 ev5 => ?_)
      have h := h v5 ev5
      refine lv_icmp_lt (tgt := 42) hx hb dX9_windFault_35 (by decide) (fun c6 => ?_) (fun c6 => ?_)
      · have h := it_use c6 h
        refine lv_iconst (v := 0) hx hb dX9_windFault_42 (by decide) ?_
        obtain er := rt1_use h
        exact re_i hx hb hr hlocks hK hP hD hS er dX9_windFault_43
      · have h := ie_use c6 h
        refine lv_iconst (v := 2) hx hb dX9_windFault_38 (by decide) ?_
        refine lv_goto (tgt := 43) hx hb dX9_windFault_39 (by decide) ?_
        obtain er := rt1_use h
        exact re_i hx hb hr hlocks hK hP hD hS er dX9_windFault_43
    · have h := ie_use c4 h
      refine lv_iconst (v := 3) hx hb dX9_windFault_24 (by decide) ?_
      refine lv_goto (tgt := 43) hx hb dX9_windFault_25 (by decide) ?_
      obtain er := rt1_use h
      exact re_i hx hb hr hlocks hK hP hD hS er dX9_windFault_43
  · have h := it_use c2 h
    refine lv_iconst (v := 1) hx hb dX9_windFault_11 (by decide) ?_
    refine lv_goto (tgt := 43) hx hb dX9_windFault_12 (by decide) ?_
    obtain er := rt1_use h
    exact re_i hx hb hr hlocks hK hP hD hS er dX9_windFault_43
set_option maxHeartbeats 4000000 in
set_option maxRecDepth 100000 in
theorem kX9_windOf (l : Launch) (n : Nat) (dC : Nat → ClassId) (dI : Nat → Nat → Nat) (cB cI cJ cZ : ClassId) (a : Nat → Nat) (sz : Nat) (m_letters : Nat → Int32) (m_words : Int32) (m_wMany : Nat → Int32) (m_wLetters : Nat → Int32) (m_asks : Int32) (m_aWords : Nat → Int32) (m_dLetters : Nat → Int32) (m_dWords : Int32) (m_dMany : Nat → Int32) (m_dText : Nat → Int32) (m_dAsks : Int32) (m_dAsk : Nat → Int32) (m_tape : Nat → Int32) (m_taped : Int32) (m_pos : Int32) (m_from : Int32) (m_sort : Int32) (m_value : Int32) (m_fault : Int32) (m_wrongAt : Int32) (m_manyA : Int32) (m_rowA : Nat → Int32) (m_manyB : Int32) (m_rowB : Nat → Int32) (m_places : Int32) (m_xs : Nat → Int32) (m_ys : Nat → Int32) (m_heights : Nat → Int32) (m_ridges : Int32) (m_rx : Nat → Int32) (m_rHeight : Nat → Int32) (m_lanes : Nat → Int32) (m_sizes : Nat → Int32) (m_cells : Nat → Int32) (m_left : Nat → Int32) (m_calls : Int32) (m_cDay : Nat → Int32) (m_cHour : Nat → Int32) (m_cFrom : Nat → Int32) (m_cAsk : Nat → Int32) (m_cWord : Nat → Int32) (m_cOf : Nat → Int32) (m_isLie : Nat → Int32) (m_children : Int32) (m_learned : Nat → Int32) (m_group : Nat → Int32) (x1 : Int32) (r0 : Int32) (h : fX9_windOf n m_lanes m_sizes m_cells x1 = some r0) : Met l yX9_windOf wsX9_windOf ({ frames := 1, cells := 0, slots := 0, locals := 21 }) (gP (dC, dI) (tyz cB cI cJ cZ) E_0 (wM cB cI cJ cZ a m_letters m_words m_wMany m_wLetters m_asks m_aWords m_dLetters m_dWords m_dMany m_dText m_dAsks m_dAsk m_tape m_taped m_pos m_from m_sort m_value m_fault m_wrongAt m_manyA m_rowA m_manyB m_rowB m_places m_xs m_ys m_heights m_ridges m_rx m_rHeight m_lanes m_sizes m_cells m_left m_calls m_cDay m_cHour m_cFrom m_cAsk m_cWord m_cOf m_isLie m_children m_learned m_group) sz [.ref (a 0), .int x1]) (gI (dC, dI) (tyz cB cI cJ cZ) (wM cB cI cJ cZ a m_letters m_words m_wMany m_wLetters m_asks m_aWords m_dLetters m_dWords m_dMany m_dText m_dAsks m_dAsk m_tape m_taped m_pos m_from m_sort m_value m_fault m_wrongAt m_manyA m_rowA m_manyB m_rowB m_places m_xs m_ys m_heights m_ridges m_rx m_rHeight m_lanes m_sizes m_cells m_left m_calls m_cDay m_cHour m_cFrom m_cAsk m_cWord m_cOf m_isLie m_children m_learned m_group) (va_A (wM cB cI cJ cZ a m_letters m_words m_wMany m_wLetters m_asks m_aWords m_dLetters m_dWords m_dMany m_dText m_dAsks m_dAsk m_tape m_taped m_pos m_from m_sort m_value m_fault m_wrongAt m_manyA m_rowA m_manyB m_rowB m_places m_xs m_ys m_heights m_ridges m_rx m_rHeight m_lanes m_sizes m_cells m_left m_calls m_cDay m_cHour m_cFrom m_cAsk m_cWord m_cOf m_isLie m_children m_learned m_group) sz) r0) 0 0 (va_A (wM cB cI cJ cZ a m_letters m_words m_wMany m_wLetters m_asks m_aWords m_dLetters m_dWords m_dMany m_dText m_dAsks m_dAsk m_tape m_taped m_pos m_from m_sort m_value m_fault m_wrongAt m_manyA m_rowA m_manyB m_rowB m_places m_xs m_ys m_heights m_ridges m_rx m_rHeight m_lanes m_sizes m_cells m_left m_calls m_cDay m_cHour m_cFrom m_cAsk m_cWord m_cOf m_isLie m_children m_learned m_group) sz) := by
  refine Met.ofW (cc := cX9_windOf) (maxL := 3) (ret := (some .int)) (by decide) rfl ?_
  intro p e s m args below meth c s₁ B hml hv
  obtain ⟨rfl, hsz, hP, hK, hD0, hE⟩ := hv
  have hx := B.exec
  have hb := B.bytes
  have hr := B.returns
  have hts := atoms_spec (ws := wsX9_windOf) B.pre
  have hown : s.vm.findClass RX9 = some m.cls := findClass_of_methodNamed B.named
  have hlocks := B.notSynchronized
  subst hsz
  have hD := hD0.self (sz := s.heap.size)
  have hA : ∀ q : Nat, s.heap.size ≤ q → va_A (wM cB cI cJ cZ a m_letters m_words m_wMany m_wLetters m_asks m_aWords m_dLetters m_dWords m_dMany m_dText m_dAsks m_dAsk m_tape m_taped m_pos m_from m_sort m_value m_fault m_wrongAt m_manyA m_rowA m_manyB m_rowB m_places m_xs m_ys m_heights m_ridges m_rx m_rHeight m_lanes m_sizes m_cells m_left m_calls m_cDay m_cHour m_cFrom m_cAsk m_cWord m_cOf m_isLie m_children m_learned m_group) s.heap.size q := fun q h => Or.inr h
  generalize va_A (wM cB cI cJ cZ a m_letters m_words m_wMany m_wLetters m_asks m_aWords m_dLetters m_dWords m_dMany m_dText m_dAsks m_dAsk m_tape m_taped m_pos m_from m_sort m_value m_fault m_wrongAt m_manyA m_rowA m_manyB m_rowB m_places m_xs m_ys m_heights m_ridges m_rx m_rHeight m_lanes m_sizes m_cells m_left m_calls m_cDay m_cHour m_cFrom m_cAsk m_cWord m_cOf m_isLie m_children m_learned m_group) s.heap.size = A at hD hA hE ⊢
  have hS : va_S A s.heap s.heap [] := va_S.rf
  have C0 : cxt cX9_windOf (some .int) 3 RX9 wsX9_windOf (dC, dI) (tyz cB cI cJ cZ) E_0 A p s m ([.ref (a 0), .int x1] : List Value).toArray meth c := ⟨hx, hb, hr, hml, hown, hts, hlocks, hK, hA, hE⟩
  have hl := lv_entry ([.ref (a 0), .int x1]) (n := 3) (Nat.le_of_ble_eq_true rfl)
  rw [lg_entry_eq]
  generalize (lg_sl ([.ref (a 0), .int x1]) ++ List.replicate (3 - (lg_sl ([.ref (a 0), .int x1])).length) Slot.unset).toArray = ls at hl ⊢
  have hl : lv_has ls 3 [(0, .ref (a 0)), (1, .int x1)] := hl
  have hw0 := hts (.fieldLink RX9 64 "WhistledWordsModel" "cells" "[I") (by decide +kernel)
  have hnX9 : ∀ w ∈ u_ws RX9 TX9 46, w ∈ wsX9_windOf := fun _ h => List.mem_cons_of_mem _ (List.mem_append_right _ h)
  unfold fX9_windOf at h
  refine lv_aload_n hx hb dX9_windOf_0 rfl (lv_at hl 0 rfl) ?_
  refine gM_mo_cells hx hb hts hnX9 hown hK hP hw0 dX9_windOf_1 ?_
  refine lv_iload_n hx hb dX9_windOf_4 rfl (lv_at hl 1 rfl) ?_
  obtain ⟨hiv1, h⟩ := ar_use h
  refine lM_mo_cells hx hb hK hP hiv1 dX9_windOf_5 ?_
  refine lv_topi (fun v1 ev1 => ?_)
  have h := h v1 ev1
  refine lv_istore_n (lv' := [(2, .int v1), (0, .ref (a 0)), (1, .int x1)]) hx hb dX9_windOf_6 rfl hl (by decide) rfl (fun ls hl => ?_)
  refine lv_aload_n hx hb dX9_windOf_7 rfl (lv_at hl 1 rfl) ?_
  refine lv_iload_n hx hb dX9_windOf_8 rfl (lv_at hl 2 rfl) ?_
  obtain ⟨v2, hc, h⟩ := bd1_use h
  refine cv_i (As := [.int x1]) (rest := []) ⟨hx, hb, hml, hown, hts⟩ (kX9_windFault l n dC dI cB cI cJ cZ a _ m_letters m_words m_wMany m_wLetters m_asks m_aWords m_dLetters m_dWords m_dMany m_dText m_dAsks m_dAsk m_tape m_taped m_pos m_from m_sort m_value m_fault m_wrongAt m_manyA m_rowA m_manyB m_rowB m_places m_xs m_ys m_heights m_ridges m_rx m_rHeight m_lanes m_sizes m_cells m_left m_calls m_cDay m_cHour m_cFrom m_cAsk m_cWord m_cOf m_isLie m_children m_learned m_group x1 v2 hc) (cwV 1 hts gX9_windOf_X9_windFault rfl rfl rfl (by decide +kernel) ⟨Nat.le_of_ble_eq_true rfl, Nat.le_of_ble_eq_true rfl⟩) EB_0 hE hK hP hD hS hA 0 (ci := 8) rfl rfl rfl rfl hl.1 rfl (Nat.le_of_ble_eq_true rfl) dX9_windOf_9 ⟨Nat.zero_le _, Nat.zero_le _⟩ (fun H locs hP hD hS => ?_)
  refine lv_if_le (tgt := 20) hx hb dX9_windOf_12 (by decide) (fun c3 => ?_) (fun c3 => ?_)
  · have h := it_use c3 h
    refine lv_iload_n hx hb dX9_windOf_20 rfl (lv_at hl 0 rfl) ?_
    refine lv_iconst (v := 2) hx hb dX9_windOf_21 (by decide) ?_
    refine lv_icmp_le (tgt := 29) hx hb dX9_windOf_22 (by decide) (fun c4 => ?_) (fun c4 => ?_)
    · have h := it_use c4 h
      refine lv_iload_n hx hb dX9_windOf_29 rfl (lv_at hl 0 rfl) ?_
      refine lv_bipush (v := -2) hx hb dX9_windOf_30 (by decide) ?_
      refine lv_icmp_ge (tgt := 40) hx hb dX9_windOf_32 (by decide) (fun c5 => ?_) (fun c5 => ?_)
      · have h := it_use c5 h
        refine lv_iload_n hx hb dX9_windOf_40 rfl (lv_at hl 0 rfl) ?_
        obtain er := rt1_use h
        exact re_i hx hb hr hlocks hK hP hD hS er dX9_windOf_41
      · have h := ie_use c5 h
        refine lv_bipush (v := -2) hx hb dX9_windOf_35 (by decide) ?_
        refine lv_goto (tgt := 41) hx hb dX9_windOf_37 (by decide) ?_
        obtain er := rt1_use h
        exact re_i hx hb hr hlocks hK hP hD hS er dX9_windOf_41
    · have h := ie_use c4 h
      refine lv_iconst (v := 2) hx hb dX9_windOf_25 (by decide) ?_
      refine lv_goto (tgt := 41) hx hb dX9_windOf_26 (by decide) ?_
      obtain er := rt1_use h
      exact re_i hx hb hr hlocks hK hP hD hS er dX9_windOf_41
  · have h := ie_use c3 h
    refine lv_bipush (v := 9) hx hb dX9_windOf_15 (by decide) ?_
    refine lv_goto (tgt := 41) hx hb dX9_windOf_17 (by decide) ?_
    obtain er := rt1_use h
    exact re_i hx hb hr hlocks hK hP hD hS er dX9_windOf_41
set_option maxHeartbeats 4000000 in
set_option maxRecDepth 100000 in
theorem kX9_wind (l : Launch) (n : Nat) (dC : Nat → ClassId) (dI : Nat → Nat → Nat) (cB cI cJ cZ : ClassId) (a : Nat → Nat) (sz : Nat) (m_letters : Nat → Int32) (m_words : Int32) (m_wMany : Nat → Int32) (m_wLetters : Nat → Int32) (m_asks : Int32) (m_aWords : Nat → Int32) (m_dLetters : Nat → Int32) (m_dWords : Int32) (m_dMany : Nat → Int32) (m_dText : Nat → Int32) (m_dAsks : Int32) (m_dAsk : Nat → Int32) (m_tape : Nat → Int32) (m_taped : Int32) (m_pos : Int32) (m_from : Int32) (m_sort : Int32) (m_value : Int32) (m_fault : Int32) (m_wrongAt : Int32) (m_manyA : Int32) (m_rowA : Nat → Int32) (m_manyB : Int32) (m_rowB : Nat → Int32) (m_places : Int32) (m_xs : Nat → Int32) (m_ys : Nat → Int32) (m_heights : Nat → Int32) (m_ridges : Int32) (m_rx : Nat → Int32) (m_rHeight : Nat → Int32) (m_lanes : Nat → Int32) (m_sizes : Nat → Int32) (m_cells : Nat → Int32) (m_left : Nat → Int32) (m_calls : Int32) (m_cDay : Nat → Int32) (m_cHour : Nat → Int32) (m_cFrom : Nat → Int32) (m_cAsk : Nat → Int32) (m_cWord : Nat → Int32) (m_cOf : Nat → Int32) (m_isLie : Nat → Int32) (m_children : Int32) (m_learned : Nat → Int32) (m_group : Nat → Int32) (x1 : Int32) (x2 : Int32) (r0 : Int32) (h : fX9_wind n m_lanes m_sizes m_cells x1 x2 = some r0) : Met l yX9_wind wsX9_wind ({ frames := 2, cells := 0, slots := 0, locals := 43 }) (gP (dC, dI) (tyz cB cI cJ cZ) E_0 (wM cB cI cJ cZ a m_letters m_words m_wMany m_wLetters m_asks m_aWords m_dLetters m_dWords m_dMany m_dText m_dAsks m_dAsk m_tape m_taped m_pos m_from m_sort m_value m_fault m_wrongAt m_manyA m_rowA m_manyB m_rowB m_places m_xs m_ys m_heights m_ridges m_rx m_rHeight m_lanes m_sizes m_cells m_left m_calls m_cDay m_cHour m_cFrom m_cAsk m_cWord m_cOf m_isLie m_children m_learned m_group) sz [.ref (a 0), .int x1, .int x2]) (gI (dC, dI) (tyz cB cI cJ cZ) (wM cB cI cJ cZ a m_letters m_words m_wMany m_wLetters m_asks m_aWords m_dLetters m_dWords m_dMany m_dText m_dAsks m_dAsk m_tape m_taped m_pos m_from m_sort m_value m_fault m_wrongAt m_manyA m_rowA m_manyB m_rowB m_places m_xs m_ys m_heights m_ridges m_rx m_rHeight m_lanes m_sizes m_cells m_left m_calls m_cDay m_cHour m_cFrom m_cAsk m_cWord m_cOf m_isLie m_children m_learned m_group) (va_A (wM cB cI cJ cZ a m_letters m_words m_wMany m_wLetters m_asks m_aWords m_dLetters m_dWords m_dMany m_dText m_dAsks m_dAsk m_tape m_taped m_pos m_from m_sort m_value m_fault m_wrongAt m_manyA m_rowA m_manyB m_rowB m_places m_xs m_ys m_heights m_ridges m_rx m_rHeight m_lanes m_sizes m_cells m_left m_calls m_cDay m_cHour m_cFrom m_cAsk m_cWord m_cOf m_isLie m_children m_learned m_group) sz) r0) 0 0 (va_A (wM cB cI cJ cZ a m_letters m_words m_wMany m_wLetters m_asks m_aWords m_dLetters m_dWords m_dMany m_dText m_dAsks m_dAsk m_tape m_taped m_pos m_from m_sort m_value m_fault m_wrongAt m_manyA m_rowA m_manyB m_rowB m_places m_xs m_ys m_heights m_ridges m_rx m_rHeight m_lanes m_sizes m_cells m_left m_calls m_cDay m_cHour m_cFrom m_cAsk m_cWord m_cOf m_isLie m_children m_learned m_group) sz) := by
  refine Met.ofW (cc := cX9_wind) (maxL := 3) (ret := (some .int)) (by decide) rfl ?_
  intro p e s m args below meth c s₁ B hml hv
  obtain ⟨rfl, hsz, hP, hK, hD0, hE⟩ := hv
  have hx := B.exec
  have hb := B.bytes
  have hr := B.returns
  have hts := atoms_spec (ws := wsX9_wind) B.pre
  have hown : s.vm.findClass RX9 = some m.cls := findClass_of_methodNamed B.named
  have hlocks := B.notSynchronized
  subst hsz
  have hD := hD0.self (sz := s.heap.size)
  have hA : ∀ q : Nat, s.heap.size ≤ q → va_A (wM cB cI cJ cZ a m_letters m_words m_wMany m_wLetters m_asks m_aWords m_dLetters m_dWords m_dMany m_dText m_dAsks m_dAsk m_tape m_taped m_pos m_from m_sort m_value m_fault m_wrongAt m_manyA m_rowA m_manyB m_rowB m_places m_xs m_ys m_heights m_ridges m_rx m_rHeight m_lanes m_sizes m_cells m_left m_calls m_cDay m_cHour m_cFrom m_cAsk m_cWord m_cOf m_isLie m_children m_learned m_group) s.heap.size q := fun q h => Or.inr h
  generalize va_A (wM cB cI cJ cZ a m_letters m_words m_wMany m_wLetters m_asks m_aWords m_dLetters m_dWords m_dMany m_dText m_dAsks m_dAsk m_tape m_taped m_pos m_from m_sort m_value m_fault m_wrongAt m_manyA m_rowA m_manyB m_rowB m_places m_xs m_ys m_heights m_ridges m_rx m_rHeight m_lanes m_sizes m_cells m_left m_calls m_cDay m_cHour m_cFrom m_cAsk m_cWord m_cOf m_isLie m_children m_learned m_group) s.heap.size = A at hD hA hE ⊢
  have hS : va_S A s.heap s.heap [] := va_S.rf
  have C0 : cxt cX9_wind (some .int) 3 RX9 wsX9_wind (dC, dI) (tyz cB cI cJ cZ) E_0 A p s m ([.ref (a 0), .int x1, .int x2] : List Value).toArray meth c := ⟨hx, hb, hr, hml, hown, hts, hlocks, hK, hA, hE⟩
  have hl := lv_entry ([.ref (a 0), .int x1, .int x2]) (n := 3) (Nat.le_of_ble_eq_true rfl)
  rw [lg_entry_eq]
  generalize (lg_sl ([.ref (a 0), .int x1, .int x2]) ++ List.replicate (3 - (lg_sl ([.ref (a 0), .int x1, .int x2])).length) Slot.unset).toArray = ls at hl ⊢
  have hl : lv_has ls 3 [(0, .ref (a 0)), (1, .int x1), (2, .int x2)] := hl
  have hw0 := hts (.constantLong RX9 196 (23)) (by decide +kernel)
  unfold fX9_wind at h
  refine lv_iload_n hx hb dX9_wind_0 rfl (lv_at hl 1 rfl) ?_
  refine lv_i2l hx hb dX9_wind_1 rfl ?_
  refine lv_lconst (v := 0) hx hb dX9_wind_2 (by decide) ?_
  refine lv_ldc2 hx hb hown hw0 dX9_wind_3 ?_
  obtain ⟨v1, hc, h⟩ := bd1_use h
  refine cs_i (As := [.long x1.toInt64, .long (0 : Int64), .long (23 : Int64)]) (rest := []) ⟨hx, hb, hml, hown, hts⟩ (kX9_in l n x1.toInt64 (0 : Int64) (23 : Int64) v1 hc) (va_cwS 3 hts gX9_wind_X9_in rfl rfl rfl (by decide +kernel) ⟨Nat.le_of_ble_eq_true rfl, Nat.le_of_ble_eq_true rfl⟩) hP hS rfl hl.1 rfl (Nat.le_of_ble_eq_true rfl) dX9_wind_6 ⟨Nat.zero_le _, Nat.zero_le _⟩ (fun H locs hP hS => ?_)
  refine lv_if_eq (tgt := 22) hx hb dX9_wind_9 (by decide) (fun c2 => ?_) (fun c2 => ?_)
  · have h := it_use c2 h
    refine lv_bipush (v := -10) hx hb dX9_wind_22 (by decide) ?_
    refine lv_goto (tgt := 44) hx hb dX9_wind_24 (by decide) ?_
    obtain er := rt1_use h
    exact re_i hx hb hr hlocks hK hP hD hS er dX9_wind_44
  · have h := ie_use c2 h
    refine lv_iload_n hx hb dX9_wind_12 rfl (lv_at hl 2 rfl) ?_
    refine lv_i2l hx hb dX9_wind_13 rfl ?_
    refine lv_lconst (v := 0) hx hb dX9_wind_14 (by decide) ?_
    refine lv_lconst (v := 1) hx hb dX9_wind_15 (by decide) ?_
    obtain ⟨v3, hc, h⟩ := bd1_use h
    refine cs_i (As := [.long x2.toInt64, .long (0 : Int64), .long (1 : Int64)]) (rest := []) ⟨hx, hb, hml, hown, hts⟩ (kX9_in l n x2.toInt64 (0 : Int64) (1 : Int64) v3 hc) (va_cwS 3 hts gX9_wind_X9_in rfl rfl rfl (by decide +kernel) ⟨Nat.le_of_ble_eq_true rfl, Nat.le_of_ble_eq_true rfl⟩) hP hS rfl hl.1 rfl (Nat.le_of_ble_eq_true rfl) dX9_wind_16 ⟨Nat.zero_le _, Nat.zero_le _⟩ (fun H locs hP hS => ?_)
    refine lv_if_ne (tgt := 27) hx hb dX9_wind_19 (by decide) (fun c4 => ?_) (fun c4 => ?_)
    · have h := ie_use c4 h
      refine lv_iload_n hx hb dX9_wind_27 rfl (lv_at hl 2 rfl) ?_
      refine lv_if_ne (tgt := 39) hx hb dX9_wind_28 (by decide) (fun c5 => ?_) (fun c5 => ?_)
      · have h := ie_use c5 h
        refine lv_aload_n hx hb dX9_wind_39 rfl (lv_at hl 0 rfl) ?_
        refine lv_iload_n hx hb dX9_wind_40 rfl (lv_at hl 1 rfl) ?_
        obtain ⟨v6, hc, h⟩ := bd1_use h
        refine cv_i (As := [.int x1]) (rest := []) ⟨hx, hb, hml, hown, hts⟩ (kX9_windFault l n dC dI cB cI cJ cZ a _ m_letters m_words m_wMany m_wLetters m_asks m_aWords m_dLetters m_dWords m_dMany m_dText m_dAsks m_dAsk m_tape m_taped m_pos m_from m_sort m_value m_fault m_wrongAt m_manyA m_rowA m_manyB m_rowB m_places m_xs m_ys m_heights m_ridges m_rx m_rHeight m_lanes m_sizes m_cells m_left m_calls m_cDay m_cHour m_cFrom m_cAsk m_cWord m_cOf m_isLie m_children m_learned m_group x1 v6 hc) (cwV 1 hts gX9_wind_X9_windFault rfl rfl rfl (by decide +kernel) ⟨Nat.le_of_ble_eq_true rfl, Nat.le_of_ble_eq_true rfl⟩) EB_0 hE hK hP hD hS hA 0 (ci := 8) rfl rfl rfl rfl hl.1 rfl (Nat.le_of_ble_eq_true rfl) dX9_wind_41 ⟨Nat.zero_le _, Nat.zero_le _⟩ (fun H locs hP hD hS => ?_)
        obtain er := rt1_use h
        exact re_i hx hb hr hlocks hK hP hD hS er dX9_wind_44
      · have h := it_use c5 h
        refine lv_aload_n hx hb dX9_wind_31 rfl (lv_at hl 0 rfl) ?_
        refine lv_iload_n hx hb dX9_wind_32 rfl (lv_at hl 1 rfl) ?_
        obtain ⟨v7, hc, h⟩ := bd1_use h
        refine cv_i (As := [.int x1]) (rest := []) ⟨hx, hb, hml, hown, hts⟩ (kX9_windOf l n dC dI cB cI cJ cZ a _ m_letters m_words m_wMany m_wLetters m_asks m_aWords m_dLetters m_dWords m_dMany m_dText m_dAsks m_dAsk m_tape m_taped m_pos m_from m_sort m_value m_fault m_wrongAt m_manyA m_rowA m_manyB m_rowB m_places m_xs m_ys m_heights m_ridges m_rx m_rHeight m_lanes m_sizes m_cells m_left m_calls m_cDay m_cHour m_cFrom m_cAsk m_cWord m_cOf m_isLie m_children m_learned m_group x1 v7 hc) (cwV 1 hts gX9_wind_X9_windOf rfl rfl rfl (by decide +kernel) ⟨Nat.le_of_ble_eq_true rfl, Nat.le_of_ble_eq_true rfl⟩) EB_0 hE hK hP hD hS hA 0 (ci := 8) rfl rfl rfl rfl hl.1 rfl (Nat.le_of_ble_eq_true rfl) dX9_wind_33 ⟨Nat.zero_le _, Nat.zero_le _⟩ (fun H locs hP hD hS => ?_)
        refine lv_goto (tgt := 44) hx hb dX9_wind_36 (by decide) ?_
        obtain er := rt1_use h
        exact re_i hx hb hr hlocks hK hP hD hS er dX9_wind_44
    · have h := it_use c4 h
      refine lv_bipush (v := -10) hx hb dX9_wind_22 (by decide) ?_
      refine lv_goto (tgt := 44) hx hb dX9_wind_24 (by decide) ?_
      obtain er := rt1_use h
      exact re_i hx hb hr hlocks hK hP hD hS er dX9_wind_44
set_option maxHeartbeats 4000000 in
set_option maxRecDepth 100000 in
theorem kX9_isPlace (l : Launch) (n : Nat) (dC : Nat → ClassId) (dI : Nat → Nat → Nat) (cB cI cJ cZ : ClassId) (a : Nat → Nat) (sz : Nat) (m_letters : Nat → Int32) (m_words : Int32) (m_wMany : Nat → Int32) (m_wLetters : Nat → Int32) (m_asks : Int32) (m_aWords : Nat → Int32) (m_dLetters : Nat → Int32) (m_dWords : Int32) (m_dMany : Nat → Int32) (m_dText : Nat → Int32) (m_dAsks : Int32) (m_dAsk : Nat → Int32) (m_tape : Nat → Int32) (m_taped : Int32) (m_pos : Int32) (m_from : Int32) (m_sort : Int32) (m_value : Int32) (m_fault : Int32) (m_wrongAt : Int32) (m_manyA : Int32) (m_rowA : Nat → Int32) (m_manyB : Int32) (m_rowB : Nat → Int32) (m_places : Int32) (m_xs : Nat → Int32) (m_ys : Nat → Int32) (m_heights : Nat → Int32) (m_ridges : Int32) (m_rx : Nat → Int32) (m_rHeight : Nat → Int32) (m_lanes : Nat → Int32) (m_sizes : Nat → Int32) (m_cells : Nat → Int32) (m_left : Nat → Int32) (m_calls : Int32) (m_cDay : Nat → Int32) (m_cHour : Nat → Int32) (m_cFrom : Nat → Int32) (m_cAsk : Nat → Int32) (m_cWord : Nat → Int32) (m_cOf : Nat → Int32) (m_isLie : Nat → Int32) (m_children : Int32) (m_learned : Nat → Int32) (m_group : Nat → Int32) (x1 : Int32) (r0 : Int32) (h : fX9_isPlace n m_places x1 = some r0) : Met l yX9_isPlace wsX9_isPlace ({ frames := 1, cells := 0, slots := 0, locals := 25 }) (gP (dC, dI) (tyz cB cI cJ cZ) E_0 (wM cB cI cJ cZ a m_letters m_words m_wMany m_wLetters m_asks m_aWords m_dLetters m_dWords m_dMany m_dText m_dAsks m_dAsk m_tape m_taped m_pos m_from m_sort m_value m_fault m_wrongAt m_manyA m_rowA m_manyB m_rowB m_places m_xs m_ys m_heights m_ridges m_rx m_rHeight m_lanes m_sizes m_cells m_left m_calls m_cDay m_cHour m_cFrom m_cAsk m_cWord m_cOf m_isLie m_children m_learned m_group) sz [.ref (a 0), .int x1]) (gI (dC, dI) (tyz cB cI cJ cZ) (wM cB cI cJ cZ a m_letters m_words m_wMany m_wLetters m_asks m_aWords m_dLetters m_dWords m_dMany m_dText m_dAsks m_dAsk m_tape m_taped m_pos m_from m_sort m_value m_fault m_wrongAt m_manyA m_rowA m_manyB m_rowB m_places m_xs m_ys m_heights m_ridges m_rx m_rHeight m_lanes m_sizes m_cells m_left m_calls m_cDay m_cHour m_cFrom m_cAsk m_cWord m_cOf m_isLie m_children m_learned m_group) (va_A (wM cB cI cJ cZ a m_letters m_words m_wMany m_wLetters m_asks m_aWords m_dLetters m_dWords m_dMany m_dText m_dAsks m_dAsk m_tape m_taped m_pos m_from m_sort m_value m_fault m_wrongAt m_manyA m_rowA m_manyB m_rowB m_places m_xs m_ys m_heights m_ridges m_rx m_rHeight m_lanes m_sizes m_cells m_left m_calls m_cDay m_cHour m_cFrom m_cAsk m_cWord m_cOf m_isLie m_children m_learned m_group) sz) r0) 0 0 (va_A (wM cB cI cJ cZ a m_letters m_words m_wMany m_wLetters m_asks m_aWords m_dLetters m_dWords m_dMany m_dText m_dAsks m_dAsk m_tape m_taped m_pos m_from m_sort m_value m_fault m_wrongAt m_manyA m_rowA m_manyB m_rowB m_places m_xs m_ys m_heights m_ridges m_rx m_rHeight m_lanes m_sizes m_cells m_left m_calls m_cDay m_cHour m_cFrom m_cAsk m_cWord m_cOf m_isLie m_children m_learned m_group) sz) := by
  refine Met.ofW (cc := cX9_isPlace) (maxL := 2) (ret := (some .boolean)) (by decide) rfl ?_
  intro p e s m args below meth c s₁ B hml hv
  obtain ⟨rfl, hsz, hP, hK, hD0, hE⟩ := hv
  have hx := B.exec
  have hb := B.bytes
  have hr := B.returns
  have hts := atoms_spec (ws := wsX9_isPlace) B.pre
  have hown : s.vm.findClass RX9 = some m.cls := findClass_of_methodNamed B.named
  have hlocks := B.notSynchronized
  subst hsz
  have hD := hD0.self (sz := s.heap.size)
  have hA : ∀ q : Nat, s.heap.size ≤ q → va_A (wM cB cI cJ cZ a m_letters m_words m_wMany m_wLetters m_asks m_aWords m_dLetters m_dWords m_dMany m_dText m_dAsks m_dAsk m_tape m_taped m_pos m_from m_sort m_value m_fault m_wrongAt m_manyA m_rowA m_manyB m_rowB m_places m_xs m_ys m_heights m_ridges m_rx m_rHeight m_lanes m_sizes m_cells m_left m_calls m_cDay m_cHour m_cFrom m_cAsk m_cWord m_cOf m_isLie m_children m_learned m_group) s.heap.size q := fun q h => Or.inr h
  generalize va_A (wM cB cI cJ cZ a m_letters m_words m_wMany m_wLetters m_asks m_aWords m_dLetters m_dWords m_dMany m_dText m_dAsks m_dAsk m_tape m_taped m_pos m_from m_sort m_value m_fault m_wrongAt m_manyA m_rowA m_manyB m_rowB m_places m_xs m_ys m_heights m_ridges m_rx m_rHeight m_lanes m_sizes m_cells m_left m_calls m_cDay m_cHour m_cFrom m_cAsk m_cWord m_cOf m_isLie m_children m_learned m_group) s.heap.size = A at hD hA hE ⊢
  have hS : va_S A s.heap s.heap [] := va_S.rf
  have C0 : cxt cX9_isPlace (some .boolean) 2 RX9 wsX9_isPlace (dC, dI) (tyz cB cI cJ cZ) E_0 A p s m ([.ref (a 0), .int x1] : List Value).toArray meth c := ⟨hx, hb, hr, hml, hown, hts, hlocks, hK, hA, hE⟩
  have hl := lv_entry ([.ref (a 0), .int x1]) (n := 2) (Nat.le_of_ble_eq_true rfl)
  rw [lg_entry_eq]
  generalize (lg_sl ([.ref (a 0), .int x1]) ++ List.replicate (2 - (lg_sl ([.ref (a 0), .int x1])).length) Slot.unset).toArray = ls at hl ⊢
  have hl : lv_has ls 2 [(0, .ref (a 0)), (1, .int x1)] := hl
  have hw0 := hts (.fieldLink RX9 245 "WhistledWordsModel" "places" "I") (by decide +kernel)
  have hnX9 : ∀ w ∈ u_ws RX9 TX9 46, w ∈ wsX9_isPlace := fun _ h => List.mem_cons_of_mem _ (List.mem_append_right _ h)
  unfold fX9_isPlace at h
  refine lv_iload_n hx hb dX9_isPlace_0 rfl (lv_at hl 1 rfl) ?_
  refine lv_i2l hx hb dX9_isPlace_1 rfl ?_
  refine lv_lconst (v := 0) hx hb dX9_isPlace_2 (by decide) ?_
  refine lv_aload_n hx hb dX9_isPlace_3 rfl (lv_at hl 0 rfl) ?_
  refine gM_mo_places hx hb hts hnX9 hown hK hP hw0 dX9_isPlace_4 ?_
  refine lv_iconst (v := 1) hx hb dX9_isPlace_7 (by decide) ?_
  refine lv_isub hx hb dX9_isPlace_8 ?_
  refine lv_i2l hx hb dX9_isPlace_9 rfl ?_
  obtain ⟨v1, hc, h⟩ := bd1_use h
  refine cs_i (As := [.long x1.toInt64, .long (0 : Int64), .long ((m_places - (1 : Int32)).toInt64)]) (rest := []) ⟨hx, hb, hml, hown, hts⟩ (kX9_in l n x1.toInt64 (0 : Int64) ((m_places - (1 : Int32)).toInt64) v1 hc) (va_cwS 3 hts gX9_isPlace_X9_in rfl rfl rfl (by decide +kernel) ⟨Nat.le_of_ble_eq_true rfl, Nat.le_of_ble_eq_true rfl⟩) hP hS rfl hl.1 rfl (Nat.le_of_ble_eq_true rfl) dX9_isPlace_10 ⟨Nat.zero_le _, Nat.zero_le _⟩ (fun H locs hP hS => ?_)
  obtain ⟨hzb, h⟩ := rb_use h
  obtain er := rt1_use h
  exact re_z hx hb hr hlocks hK hP hD hS hzb er dX9_isPlace_13
set_option maxHeartbeats 4000000 in
set_option maxRecDepth 100000 in
theorem kX9_plain (l : Launch) (n : Nat) (x0 : Int32) (r0 : Int32) (h : fX9_plain n  x0 = some r0) : Met l yX9_plain wsX9_plain ({ frames := 0, cells := 0, slots := 0, locals := 0 }) (pP [.int x0]) (pI r0) 0 0 no_A := by
  refine Met.ofW (cc := cX9_plain) (maxL := 1) (ret := (some .int)) (by decide) rfl ?_
  intro p e s m args below meth c s₁ B hml hv
  obtain ⟨rfl, -⟩ := hv
  have hx := B.exec
  have hb := B.bytes
  have hr := B.returns
  have hts := atoms_spec (ws := wsX9_plain) B.pre
  have hown : s.vm.findClass RX9 = some m.cls := findClass_of_methodNamed B.named
  have hlocks := B.notSynchronized
  have hS : va_S no_A s.heap s.heap [] := va_S.rf
  have C0 : cxp cX9_plain (some .int) 1 RX9 wsX9_plain p s m ([.int x0] : List Value).toArray meth c := ⟨hx, hb, hr, hml, hown, hts, hlocks⟩
  have hl := lv_entry ([.int x0]) (n := 1) (Nat.le_of_ble_eq_true rfl)
  rw [lg_entry_eq]
  generalize (lg_sl ([.int x0]) ++ List.replicate (1 - (lg_sl ([.int x0])).length) Slot.unset).toArray = ls at hl ⊢
  have hl : lv_has ls 1 [(0, .int x0)] := hl
  unfold fX9_plain at h
  refine lv_iload_n hx hb dX9_plain_0 rfl (lv_at hl 0 rfl) ?_
  refine lv_if_ge (tgt := 9) hx hb dX9_plain_1 (by decide) (fun c1 => ?_) (fun c1 => ?_)
  · have h := it_use c1 h
    refine lv_iload_n hx hb dX9_plain_9 rfl (lv_at hl 0 rfl) ?_
    obtain er := rt1_use h
    exact rp_i hx hb hr hlocks hS er dX9_plain_10
  · have h := ie_use c1 h
    refine lv_iload_n hx hb dX9_plain_4 rfl (lv_at hl 0 rfl) ?_
    refine lv_ineg hx hb dX9_plain_5 ?_
    refine lv_goto (tgt := 10) hx hb dX9_plain_6 (by decide) ?_
    obtain er := rt1_use h
    exact rp_i hx hb hr hlocks hS er dX9_plain_10
set_option maxHeartbeats 4000000 in
set_option maxRecDepth 100000 in
theorem kX9_blurOf_p168 {p : Program} {l : Launch} {e : Env} {s : State} {m : MethodId} {args : Array Value} {below : List Frame} {meth : Method} {c : Code} {A : Nat → Prop} (dC : Nat → ClassId) (dI : Nat → Nat → Nat) (cB cI cJ cZ : ClassId) (a : Nat → Nat) (C0 : cxt cX9_blurOf (some .int) 8 RX9 wsX9_blurOf (dC, dI) (tyz cB cI cJ cZ) E_0 A p s m args meth c) (n : Nat) (m_letters : Nat → Int32) (m_words : Int32) (m_wMany : Nat → Int32) (m_wLetters : Nat → Int32) (m_asks : Int32) (m_aWords : Nat → Int32) (m_dLetters : Nat → Int32) (m_dWords : Int32) (m_dMany : Nat → Int32) (m_dText : Nat → Int32) (m_dAsks : Int32) (m_dAsk : Nat → Int32) (m_tape : Nat → Int32) (m_taped : Int32) (m_pos : Int32) (m_from : Int32) (m_sort : Int32) (m_value : Int32) (m_fault : Int32) (m_wrongAt : Int32) (m_manyA : Int32) (m_rowA : Nat → Int32) (m_manyB : Int32) (m_rowB : Nat → Int32) (m_places : Int32) (m_xs : Nat → Int32) (m_ys : Nat → Int32) (m_heights : Nat → Int32) (m_ridges : Int32) (m_rx : Nat → Int32) (m_rHeight : Nat → Int32) (m_lanes : Nat → Int32) (m_sizes : Nat → Int32) (m_cells : Nat → Int32) (m_left : Nat → Int32) (m_calls : Int32) (m_cDay : Nat → Int32) (m_cHour : Nat → Int32) (m_cFrom : Nat → Int32) (m_cAsk : Nat → Int32) (m_cWord : Nat → Int32) (m_cOf : Nat → Int32) (m_isLie : Nat → Int32) (m_children : Int32) (m_learned : Nat → Int32) (m_group : Nat → Int32)  (x1 : Int32) (x2 : Int32) (x3 : Int32) (x5 : Int32) (x6 : Int32) (x7 : Int32) (s0 : Int32) (s1 : Int32) (r0 : Int32) (rec112 : Int32 → Int32 → Option (Int32)) (hrec112 : ∀ (y_x4 : Int32) (y_x7 : Int32) (H : Heap) (locs : List Loc) (ls : Array Slot), rec112 y_x4 y_x7 = some r0 → va_P (dC, dI) vwCl (wM cB cI cJ cZ a m_letters m_words m_wMany m_wLetters m_asks m_aWords m_dLetters m_dWords m_dMany m_dText m_dAsks m_dAsk m_tape m_taped m_pos m_from m_sort m_value m_fault m_wrongAt m_manyA m_rowA m_manyB m_rowB m_places m_xs m_ys m_heights m_ridges m_rx m_rHeight m_lanes m_sizes m_cells m_left m_calls m_cDay m_cHour m_cFrom m_cAsk m_cWord m_cOf m_isLie m_children m_learned m_group) H → va_D A (wM cB cI cJ cZ a m_letters m_words m_wMany m_wLetters m_asks m_aWords m_dLetters m_dWords m_dMany m_dText m_dAsks m_dAsk m_tape m_taped m_pos m_from m_sort m_value m_fault m_wrongAt m_manyA m_rowA m_manyB m_rowB m_places m_xs m_ys m_heights m_ridges m_rx m_rHeight m_lanes m_sizes m_cells m_left m_calls m_cDay m_cHour m_cFrom m_cAsk m_cWord m_cOf m_isLie m_children m_learned m_group) → va_S A s.heap H locs → lv_has ls 8 [(0, .ref (a 0)), (1, .int x1), (2, .int x2), (3, .int x3), (4, .int y_x4), (5, .int x5), (6, .int x6), (7, .int y_x7)] → W p l e { frames := 2, cells := 0, slots := 0, locals := 43 } s m args below meth c H locs 0 0 (MQ below (gI (dC, dI) (tyz cB cI cJ cZ) (wM cB cI cJ cZ a m_letters m_words m_wMany m_wLetters m_asks m_aWords m_dLetters m_dWords m_dMany m_dText m_dAsks m_dAsk m_tape m_taped m_pos m_from m_sort m_value m_fault m_wrongAt m_manyA m_rowA m_manyB m_rowB m_places m_xs m_ys m_heights m_ridges m_rx m_rHeight m_lanes m_sizes m_cells m_left m_calls m_cDay m_cHour m_cFrom m_cAsk m_cWord m_cOf m_isLie m_children m_learned m_group) A r0) args s 0 0 A) (F0 m 112 ls [])) (H : Heap) (locs : List Loc) (ls : Array Slot) : fX9_blurOf_p168 n m_xs m_heights m_ridges m_rx m_rHeight m_lanes m_sizes m_cells x1 x2 x3 x5 x6 x7 s0 s1 rec112 = some r0 → va_P (dC, dI) vwCl (wM cB cI cJ cZ a m_letters m_words m_wMany m_wLetters m_asks m_aWords m_dLetters m_dWords m_dMany m_dText m_dAsks m_dAsk m_tape m_taped m_pos m_from m_sort m_value m_fault m_wrongAt m_manyA m_rowA m_manyB m_rowB m_places m_xs m_ys m_heights m_ridges m_rx m_rHeight m_lanes m_sizes m_cells m_left m_calls m_cDay m_cHour m_cFrom m_cAsk m_cWord m_cOf m_isLie m_children m_learned m_group) H → va_D A (wM cB cI cJ cZ a m_letters m_words m_wMany m_wLetters m_asks m_aWords m_dLetters m_dWords m_dMany m_dText m_dAsks m_dAsk m_tape m_taped m_pos m_from m_sort m_value m_fault m_wrongAt m_manyA m_rowA m_manyB m_rowB m_places m_xs m_ys m_heights m_ridges m_rx m_rHeight m_lanes m_sizes m_cells m_left m_calls m_cDay m_cHour m_cFrom m_cAsk m_cWord m_cOf m_isLie m_children m_learned m_group) → va_S A s.heap H locs → lv_has ls 8 [(0, .ref (a 0)), (1, .int x1), (2, .int x2), (3, .int x3), (5, .int x5), (6, .int x6), (7, .int x7)] → W p l e { frames := 2, cells := 0, slots := 0, locals := 43 } s m args below meth c H locs 0 0 (MQ below (gI (dC, dI) (tyz cB cI cJ cZ) (wM cB cI cJ cZ a m_letters m_words m_wMany m_wLetters m_asks m_aWords m_dLetters m_dWords m_dMany m_dText m_dAsks m_dAsk m_tape m_taped m_pos m_from m_sort m_value m_fault m_wrongAt m_manyA m_rowA m_manyB m_rowB m_places m_xs m_ys m_heights m_ridges m_rx m_rHeight m_lanes m_sizes m_cells m_left m_calls m_cDay m_cHour m_cFrom m_cAsk m_cWord m_cOf m_isLie m_children m_learned m_group) A r0) args s 0 0 A) (F0 m 168 ls [.int s1, .int s0]) := by
  intro h hP hD hS hl
  obtain ⟨hx, hb, hr, hml, hown, hts, hlocks, hK, hA, hE⟩ := id C0
  have hw0 := hts (.fieldLink RX9 55 "WhistledWordsModel" "rHeight" "[I") (by decide +kernel)
  have hw1 := hts (.fieldLink RX9 49 "WhistledWordsModel" "heights" "[I") (by decide +kernel)
  have hnX9 : ∀ w ∈ u_ws RX9 TX9 46, w ∈ wsX9_blurOf := fun _ h => List.mem_cons_of_mem _ (List.mem_append_right _ h)
  unfold fX9_blurOf_p168 at h
  refine lv_aload_n hx hb dX9_blurOf_168 rfl (lv_at hl 0 rfl) ?_
  refine gM_mo_rHeight hx hb hts hnX9 hown hK hP hw0 dX9_blurOf_169 ?_
  refine lv_iload hx hb dX9_blurOf_172 (lv_at hl 6 rfl) ?_
  obtain ⟨hiv1, h⟩ := ar_use h
  refine lM_mo_rHeight hx hb hK hP hiv1 dX9_blurOf_174 ?_
  refine lv_topi (fun v1 ev1 => ?_)
  have h := h v1 ev1
  refine lv_aload_n hx hb dX9_blurOf_175 rfl (lv_at hl 0 rfl) ?_
  refine gM_mo_heights hx hb hts hnX9 hown hK hP hw1 dX9_blurOf_176 ?_
  refine lv_iload_n hx hb dX9_blurOf_179 rfl (lv_at hl 2 rfl) ?_
  obtain ⟨hiv2, h⟩ := ar_use h
  refine lM_mo_heights hx hb hK hP hiv2 dX9_blurOf_180 ?_
  refine lv_topi (fun v2 ev2 => ?_)
  have h := h v2 ev2
  refine lv_icmp_le (tgt := 188) hx hb dX9_blurOf_181 (by decide) (fun c3 => ?_) (fun c3 => ?_)
  · have h := it_use c3 h
    refine lv_iconst (v := 0) hx hb dX9_blurOf_188 (by decide) ?_
    refine lv_iadd hx hb dX9_blurOf_189 ?_
    refine lv_iadd hx hb dX9_blurOf_190 ?_
    refine lv_topi (fun v4 ev4 => ?_)
    have h := nm_use ev4 h
    refine lv_istore (lv' := [(4, .int v4), (0, .ref (a 0)), (1, .int x1), (2, .int x2), (3, .int x3), (5, .int x5), (6, .int x6), (7, .int x7)]) hx hb dX9_blurOf_191 hl (by decide) rfl (fun ls hl => ?_)
    refine lv_iinc (v := x7 + 1) (lv' := [(7, .int (x7 + 1)), (4, .int v4), (0, .ref (a 0)), (1, .int x1), (2, .int x2), (3, .int x3), (5, .int x5), (6, .int x6)]) hx hb dX9_blurOf_193 hl (k := 7) rfl rfl (by decide) rfl (fun ls hl => ?_)
    refine lv_goto (tgt := 112) hx hb dX9_blurOf_196 (by decide) ?_
    exact hrec112 v4 (x7 + 1) _ _ ls h hP hD hS (lv_sub hl [2, 3, 4, 5, 1, 6, 7, 0] rfl)
  · have h := ie_use c3 h
    refine lv_iconst (v := 1) hx hb dX9_blurOf_184 (by decide) ?_
    refine lv_goto (tgt := 189) hx hb dX9_blurOf_185 (by decide) ?_
    refine lv_iadd hx hb dX9_blurOf_189 ?_
    refine lv_iadd hx hb dX9_blurOf_190 ?_
    refine lv_topi (fun v5 ev5 => ?_)
    have h := nm_use ev5 h
    refine lv_istore (lv' := [(4, .int v5), (0, .ref (a 0)), (1, .int x1), (2, .int x2), (3, .int x3), (5, .int x5), (6, .int x6), (7, .int x7)]) hx hb dX9_blurOf_191 hl (by decide) rfl (fun ls hl => ?_)
    refine lv_iinc (v := x7 + 1) (lv' := [(7, .int (x7 + 1)), (4, .int v5), (0, .ref (a 0)), (1, .int x1), (2, .int x2), (3, .int x3), (5, .int x5), (6, .int x6)]) hx hb dX9_blurOf_193 hl (k := 7) rfl rfl (by decide) rfl (fun ls hl => ?_)
    refine lv_goto (tgt := 112) hx hb dX9_blurOf_196 (by decide) ?_
    exact hrec112 v5 (x7 + 1) _ _ ls h hP hD hS (lv_sub hl [2, 3, 4, 5, 1, 6, 7, 0] rfl)
set_option maxHeartbeats 4000000 in
set_option maxRecDepth 100000 in
theorem kX9_blurOf_p199 {p : Program} {l : Launch} {e : Env} {s : State} {m : MethodId} {args : Array Value} {below : List Frame} {meth : Method} {c : Code} {A : Nat → Prop} (dC : Nat → ClassId) (dI : Nat → Nat → Nat) (cB cI cJ cZ : ClassId) (a : Nat → Nat) (C0 : cxt cX9_blurOf (some .int) 8 RX9 wsX9_blurOf (dC, dI) (tyz cB cI cJ cZ) E_0 A p s m args meth c) (n : Nat) (m_letters : Nat → Int32) (m_words : Int32) (m_wMany : Nat → Int32) (m_wLetters : Nat → Int32) (m_asks : Int32) (m_aWords : Nat → Int32) (m_dLetters : Nat → Int32) (m_dWords : Int32) (m_dMany : Nat → Int32) (m_dText : Nat → Int32) (m_dAsks : Int32) (m_dAsk : Nat → Int32) (m_tape : Nat → Int32) (m_taped : Int32) (m_pos : Int32) (m_from : Int32) (m_sort : Int32) (m_value : Int32) (m_fault : Int32) (m_wrongAt : Int32) (m_manyA : Int32) (m_rowA : Nat → Int32) (m_manyB : Int32) (m_rowB : Nat → Int32) (m_places : Int32) (m_xs : Nat → Int32) (m_ys : Nat → Int32) (m_heights : Nat → Int32) (m_ridges : Int32) (m_rx : Nat → Int32) (m_rHeight : Nat → Int32) (m_lanes : Nat → Int32) (m_sizes : Nat → Int32) (m_cells : Nat → Int32) (m_left : Nat → Int32) (m_calls : Int32) (m_cDay : Nat → Int32) (m_cHour : Nat → Int32) (m_cFrom : Nat → Int32) (m_cAsk : Nat → Int32) (m_cWord : Nat → Int32) (m_cOf : Nat → Int32) (m_isLie : Nat → Int32) (m_children : Int32) (m_learned : Nat → Int32) (m_group : Nat → Int32)  (x1 : Int32) (x2 : Int32) (x3 : Int32) (x4 : Int32)  (r0 : Int32)  (H : Heap) (locs : List Loc) (ls : Array Slot) : fX9_blurOf_p199 n m_xs m_lanes m_sizes m_cells x1 x2 x3 x4 = some r0 → va_P (dC, dI) vwCl (wM cB cI cJ cZ a m_letters m_words m_wMany m_wLetters m_asks m_aWords m_dLetters m_dWords m_dMany m_dText m_dAsks m_dAsk m_tape m_taped m_pos m_from m_sort m_value m_fault m_wrongAt m_manyA m_rowA m_manyB m_rowB m_places m_xs m_ys m_heights m_ridges m_rx m_rHeight m_lanes m_sizes m_cells m_left m_calls m_cDay m_cHour m_cFrom m_cAsk m_cWord m_cOf m_isLie m_children m_learned m_group) H → va_D A (wM cB cI cJ cZ a m_letters m_words m_wMany m_wLetters m_asks m_aWords m_dLetters m_dWords m_dMany m_dText m_dAsks m_dAsk m_tape m_taped m_pos m_from m_sort m_value m_fault m_wrongAt m_manyA m_rowA m_manyB m_rowB m_places m_xs m_ys m_heights m_ridges m_rx m_rHeight m_lanes m_sizes m_cells m_left m_calls m_cDay m_cHour m_cFrom m_cAsk m_cWord m_cOf m_isLie m_children m_learned m_group) → va_S A s.heap H locs → lv_has ls 8 [(0, .ref (a 0)), (1, .int x1), (2, .int x2), (3, .int x3), (4, .int x4)] → W p l e { frames := 2, cells := 0, slots := 0, locals := 43 } s m args below meth c H locs 0 0 (MQ below (gI (dC, dI) (tyz cB cI cJ cZ) (wM cB cI cJ cZ a m_letters m_words m_wMany m_wLetters m_asks m_aWords m_dLetters m_dWords m_dMany m_dText m_dAsks m_dAsk m_tape m_taped m_pos m_from m_sort m_value m_fault m_wrongAt m_manyA m_rowA m_manyB m_rowB m_places m_xs m_ys m_heights m_ridges m_rx m_rHeight m_lanes m_sizes m_cells m_left m_calls m_cDay m_cHour m_cFrom m_cAsk m_cWord m_cOf m_isLie m_children m_learned m_group) A r0) args s 0 0 A) (F0 m 199 ls []) := by
  intro h hP hD hS hl
  obtain ⟨hx, hb, hr, hml, hown, hts, hlocks, hK, hA, hE⟩ := id C0
  have hw0 := hts (.fieldLink RX9 43 "WhistledWordsModel" "xs" "[I") (by decide +kernel)
  have hnX9 : ∀ w ∈ u_ws RX9 TX9 46, w ∈ wsX9_blurOf := fun _ h => List.mem_cons_of_mem _ (List.mem_append_right _ h)
  unfold fX9_blurOf_p199 at h
  refine lv_aload_n hx hb dX9_blurOf_199 rfl (lv_at hl 0 rfl) ?_
  refine lv_iload_n hx hb dX9_blurOf_200 rfl (lv_at hl 3 rfl) ?_
  obtain ⟨v1, hc, h⟩ := bd1_use h
  refine cv_i (As := [.int x3]) (rest := []) ⟨hx, hb, hml, hown, hts⟩ (kX9_windOf l n dC dI cB cI cJ cZ a _ m_letters m_words m_wMany m_wLetters m_asks m_aWords m_dLetters m_dWords m_dMany m_dText m_dAsks m_dAsk m_tape m_taped m_pos m_from m_sort m_value m_fault m_wrongAt m_manyA m_rowA m_manyB m_rowB m_places m_xs m_ys m_heights m_ridges m_rx m_rHeight m_lanes m_sizes m_cells m_left m_calls m_cDay m_cHour m_cFrom m_cAsk m_cWord m_cOf m_isLie m_children m_learned m_group x3 v1 hc) (cwV 1 hts gX9_blurOf_X9_windOf rfl rfl rfl (by decide +kernel) ⟨Nat.le_of_ble_eq_true rfl, Nat.le_of_ble_eq_true rfl⟩) EB_0 hE hK hP hD hS hA 0 (ci := 8) rfl rfl rfl rfl hl.1 rfl (Nat.le_of_ble_eq_true rfl) dX9_blurOf_201 ⟨Nat.zero_le _, Nat.zero_le _⟩ (fun H locs hP hD hS => ?_)
  refine lv_istore (lv' := [(7, .int v1), (0, .ref (a 0)), (1, .int x1), (2, .int x2), (3, .int x3), (4, .int x4)]) hx hb dX9_blurOf_204 hl (by decide) rfl (fun ls hl => ?_)
  refine lv_iload hx hb dX9_blurOf_206 (lv_at hl 0 rfl) ?_
  refine lv_bipush (v := 9) hx hb dX9_blurOf_208 (by decide) ?_
  refine lv_icmp_ne (tgt := 219) hx hb dX9_blurOf_210 (by decide) (fun c2 => ?_) (fun c2 => ?_)
  · have h := ie_use c2 h
    refine lv_aload_n hx hb dX9_blurOf_219 rfl (lv_at hl 1 rfl) ?_
    refine gM_mo_xs hx hb hts hnX9 hown hK hP hw0 dX9_blurOf_220 ?_
    refine lv_iload_n hx hb dX9_blurOf_223 rfl (lv_at hl 2 rfl) ?_
    obtain ⟨hiv3, h⟩ := ar_use h
    refine lM_mo_xs hx hb hK hP hiv3 dX9_blurOf_224 ?_
    refine lv_topi (fun v3 ev3 => ?_)
    have h := h v3 ev3
    refine lv_aload_n hx hb dX9_blurOf_225 rfl (lv_at hl 1 rfl) ?_
    refine gM_mo_xs hx hb hts hnX9 hown hK hP hw0 dX9_blurOf_226 ?_
    refine lv_iload_n hx hb dX9_blurOf_229 rfl (lv_at hl 3 rfl) ?_
    obtain ⟨hiv4, h⟩ := ar_use h
    refine lM_mo_xs hx hb hK hP hiv4 dX9_blurOf_230 ?_
    refine lv_topi (fun v4 ev4 => ?_)
    have h := h v4 ev4
    refine lv_icmp_eq (tgt := 262) hx hb dX9_blurOf_231 (by decide) (fun c5 => ?_) (fun c5 => ?_)
    · have h := it_use c5 h
      refine lv_iload hx hb dX9_blurOf_262 (lv_at hl 5 rfl) ?_
      refine lv_if_ge (tgt := 271) hx hb dX9_blurOf_264 (by decide) (fun c6 => ?_) (fun c6 => ?_)
      · have h := it_use c6 h
        refine lv_iload hx hb dX9_blurOf_271 (lv_at hl 5 rfl) ?_
        obtain er := rt1_use h
        exact re_i hx hb hr hlocks hK hP hD hS er dX9_blurOf_273
      · have h := ie_use c6 h
        refine lv_iconst (v := 0) hx hb dX9_blurOf_267 (by decide) ?_
        refine lv_goto (tgt := 273) hx hb dX9_blurOf_268 (by decide) ?_
        obtain er := rt1_use h
        exact re_i hx hb hr hlocks hK hP hD hS er dX9_blurOf_273
    · have h := ie_use c5 h
      refine lv_iload hx hb dX9_blurOf_234 (lv_at hl 5 rfl) ?_
      refine lv_aload_n hx hb dX9_blurOf_236 rfl (lv_at hl 1 rfl) ?_
      refine gM_mo_xs hx hb hts hnX9 hown hK hP hw0 dX9_blurOf_237 ?_
      refine lv_iload_n hx hb dX9_blurOf_240 rfl (lv_at hl 3 rfl) ?_
      obtain ⟨hiv7, h⟩ := ar_use h
      refine lM_mo_xs hx hb hK hP hiv7 dX9_blurOf_241 ?_
      refine lv_topi (fun v7 ev7 => ?_)
      have h := h v7 ev7
      refine lv_aload_n hx hb dX9_blurOf_242 rfl (lv_at hl 1 rfl) ?_
      refine gM_mo_xs hx hb hts hnX9 hown hK hP hw0 dX9_blurOf_243 ?_
      refine lv_iload_n hx hb dX9_blurOf_246 rfl (lv_at hl 2 rfl) ?_
      obtain ⟨hiv8, h⟩ := ar_use h
      refine lM_mo_xs hx hb hK hP hiv8 dX9_blurOf_247 ?_
      refine lv_topi (fun v8 ev8 => ?_)
      have h := h v8 ev8
      refine lv_icmp_le (tgt := 257) hx hb dX9_blurOf_248 (by decide) (fun c9 => ?_) (fun c9 => ?_)
      · have h := it_use c9 h
        refine lv_iload hx hb dX9_blurOf_257 (lv_at hl 0 rfl) ?_
        refine lv_iadd hx hb dX9_blurOf_259 ?_
        refine lv_topi (fun v10 ev10 => ?_)
        have h := nm_use ev10 h
        refine lv_istore (lv' := [(4, .int v10), (7, .int v1), (0, .ref (a 0)), (1, .int x1), (2, .int x2), (3, .int x3)]) hx hb dX9_blurOf_260 hl (by decide) rfl (fun ls hl => ?_)
        refine lv_iload hx hb dX9_blurOf_262 (lv_at hl 0 rfl) ?_
        refine lv_if_ge (tgt := 271) hx hb dX9_blurOf_264 (by decide) (fun c11 => ?_) (fun c11 => ?_)
        · have h := it_use c11 h
          refine lv_iload hx hb dX9_blurOf_271 (lv_at hl 0 rfl) ?_
          obtain er := rt1_use h
          exact re_i hx hb hr hlocks hK hP hD hS er dX9_blurOf_273
        · have h := ie_use c11 h
          refine lv_iconst (v := 0) hx hb dX9_blurOf_267 (by decide) ?_
          refine lv_goto (tgt := 273) hx hb dX9_blurOf_268 (by decide) ?_
          obtain er := rt1_use h
          exact re_i hx hb hr hlocks hK hP hD hS er dX9_blurOf_273
      · have h := ie_use c9 h
        refine lv_iload hx hb dX9_blurOf_251 (lv_at hl 0 rfl) ?_
        refine lv_ineg hx hb dX9_blurOf_253 ?_
        refine lv_goto (tgt := 259) hx hb dX9_blurOf_254 (by decide) ?_
        refine lv_iadd hx hb dX9_blurOf_259 ?_
        refine lv_topi (fun v12 ev12 => ?_)
        have h := nm_use ev12 h
        refine lv_istore (lv' := [(4, .int v12), (7, .int v1), (0, .ref (a 0)), (1, .int x1), (2, .int x2), (3, .int x3)]) hx hb dX9_blurOf_260 hl (by decide) rfl (fun ls hl => ?_)
        refine lv_iload hx hb dX9_blurOf_262 (lv_at hl 0 rfl) ?_
        refine lv_if_ge (tgt := 271) hx hb dX9_blurOf_264 (by decide) (fun c13 => ?_) (fun c13 => ?_)
        · have h := it_use c13 h
          refine lv_iload hx hb dX9_blurOf_271 (lv_at hl 0 rfl) ?_
          obtain er := rt1_use h
          exact re_i hx hb hr hlocks hK hP hD hS er dX9_blurOf_273
        · have h := ie_use c13 h
          refine lv_iconst (v := 0) hx hb dX9_blurOf_267 (by decide) ?_
          refine lv_goto (tgt := 273) hx hb dX9_blurOf_268 (by decide) ?_
          obtain er := rt1_use h
          exact re_i hx hb hr hlocks hK hP hD hS er dX9_blurOf_273
  · have h := it_use c2 h
    refine lv_iinc (v := x4 + 2) (lv' := [(4, .int (x4 + 2)), (7, .int v1), (0, .ref (a 0)), (1, .int x1), (2, .int x2), (3, .int x3)]) hx hb dX9_blurOf_213 hl (k := 5) rfl rfl (by decide) rfl (fun ls hl => ?_)
    refine lv_goto (tgt := 262) hx hb dX9_blurOf_216 (by decide) ?_
    refine lv_iload hx hb dX9_blurOf_262 (lv_at hl 0 rfl) ?_
    refine lv_if_ge (tgt := 271) hx hb dX9_blurOf_264 (by decide) (fun c14 => ?_) (fun c14 => ?_)
    · have h := it_use c14 h
      refine lv_iload hx hb dX9_blurOf_271 (lv_at hl 0 rfl) ?_
      obtain er := rt1_use h
      exact re_i hx hb hr hlocks hK hP hD hS er dX9_blurOf_273
    · have h := ie_use c14 h
      refine lv_iconst (v := 0) hx hb dX9_blurOf_267 (by decide) ?_
      refine lv_goto (tgt := 273) hx hb dX9_blurOf_268 (by decide) ?_
      obtain er := rt1_use h
      exact re_i hx hb hr hlocks hK hP hD hS er dX9_blurOf_273
set_option maxHeartbeats 4000000 in
set_option maxRecDepth 100000 in
theorem kX9_blurOf_p112_r {p : Program} {l : Launch} {e : Env} {s : State} {m : MethodId} {args : Array Value} {below : List Frame} {meth : Method} {c : Code} {A : Nat → Prop} (dC : Nat → ClassId) (dI : Nat → Nat → Nat) (cB cI cJ cZ : ClassId) (a : Nat → Nat) (C0 : cxt cX9_blurOf (some .int) 8 RX9 wsX9_blurOf (dC, dI) (tyz cB cI cJ cZ) E_0 A p s m args meth c) (n : Nat) (m_letters : Nat → Int32) (m_words : Int32) (m_wMany : Nat → Int32) (m_wLetters : Nat → Int32) (m_asks : Int32) (m_aWords : Nat → Int32) (m_dLetters : Nat → Int32) (m_dWords : Int32) (m_dMany : Nat → Int32) (m_dText : Nat → Int32) (m_dAsks : Int32) (m_dAsk : Nat → Int32) (m_tape : Nat → Int32) (m_taped : Int32) (m_pos : Int32) (m_from : Int32) (m_sort : Int32) (m_value : Int32) (m_fault : Int32) (m_wrongAt : Int32) (m_manyA : Int32) (m_rowA : Nat → Int32) (m_manyB : Int32) (m_rowB : Nat → Int32) (m_places : Int32) (m_xs : Nat → Int32) (m_ys : Nat → Int32) (m_heights : Nat → Int32) (m_ridges : Int32) (m_rx : Nat → Int32) (m_rHeight : Nat → Int32) (m_lanes : Nat → Int32) (m_sizes : Nat → Int32) (m_cells : Nat → Int32) (m_left : Nat → Int32) (m_calls : Int32) (m_cDay : Nat → Int32) (m_cHour : Nat → Int32) (m_cFrom : Nat → Int32) (m_cAsk : Nat → Int32) (m_cWord : Nat → Int32) (m_cOf : Nat → Int32) (m_isLie : Nat → Int32) (m_children : Int32) (m_learned : Nat → Int32) (m_group : Nat → Int32) (x1 : Int32) (x2 : Int32) (x3 : Int32) (x5 : Int32) (x6 : Int32) (r0 : Int32)  : ∀ (k : Nat) (x4 : Int32) (x7 : Int32) (H : Heap) (locs : List Loc) (ls : Array Slot), fX9_blurOf_p112 n m_xs m_heights m_ridges m_rx m_rHeight m_lanes m_sizes m_cells x1 x2 x3 x5 x6 k x4 x7 = some r0 → va_P (dC, dI) vwCl (wM cB cI cJ cZ a m_letters m_words m_wMany m_wLetters m_asks m_aWords m_dLetters m_dWords m_dMany m_dText m_dAsks m_dAsk m_tape m_taped m_pos m_from m_sort m_value m_fault m_wrongAt m_manyA m_rowA m_manyB m_rowB m_places m_xs m_ys m_heights m_ridges m_rx m_rHeight m_lanes m_sizes m_cells m_left m_calls m_cDay m_cHour m_cFrom m_cAsk m_cWord m_cOf m_isLie m_children m_learned m_group) H → va_D A (wM cB cI cJ cZ a m_letters m_words m_wMany m_wLetters m_asks m_aWords m_dLetters m_dWords m_dMany m_dText m_dAsks m_dAsk m_tape m_taped m_pos m_from m_sort m_value m_fault m_wrongAt m_manyA m_rowA m_manyB m_rowB m_places m_xs m_ys m_heights m_ridges m_rx m_rHeight m_lanes m_sizes m_cells m_left m_calls m_cDay m_cHour m_cFrom m_cAsk m_cWord m_cOf m_isLie m_children m_learned m_group) → va_S A s.heap H locs → lv_has ls 8 [(0, .ref (a 0)), (1, .int x1), (2, .int x2), (3, .int x3), (4, .int x4), (5, .int x5), (6, .int x6), (7, .int x7)] → W p l e { frames := 2, cells := 0, slots := 0, locals := 43 } s m args below meth c H locs 0 0 (MQ below (gI (dC, dI) (tyz cB cI cJ cZ) (wM cB cI cJ cZ a m_letters m_words m_wMany m_wLetters m_asks m_aWords m_dLetters m_dWords m_dMany m_dText m_dAsks m_dAsk m_tape m_taped m_pos m_from m_sort m_value m_fault m_wrongAt m_manyA m_rowA m_manyB m_rowB m_places m_xs m_ys m_heights m_ridges m_rx m_rHeight m_lanes m_sizes m_cells m_left m_calls m_cDay m_cHour m_cFrom m_cAsk m_cWord m_cOf m_isLie m_children m_learned m_group) A r0) args s 0 0 A) (F0 m 112 ls []) := by
  obtain ⟨hx, hb, hr, hml, hown, hts, hlocks, hK, hA, hE⟩ := id C0
  have hw0 := hts (.fieldLink RX9 248 "WhistledWordsModel" "ridges" "I") (by decide +kernel)
  have hw1 := hts (.fieldLink RX9 52 "WhistledWordsModel" "rx" "[I") (by decide +kernel)
  have hw2 := hts (.fieldLink RX9 55 "WhistledWordsModel" "rHeight" "[I") (by decide +kernel)
  have hw3 := hts (.fieldLink RX9 49 "WhistledWordsModel" "heights" "[I") (by decide +kernel)
  have hnX9 : ∀ w ∈ u_ws RX9 TX9 46, w ∈ wsX9_blurOf := fun _ h => List.mem_cons_of_mem _ (List.mem_append_right _ h)
  intro k
  induction k with
  | zero =>
    intro x4 x7 H locs ls h
    cases h
  | succ k ih =>
    intro x4 x7 H locs ls h hP hD hS hl
    rw [fX9_blurOf_p112] at h
    refine lv_iload hx hb dX9_blurOf_112 (lv_at hl 7 rfl) ?_
    refine lv_aload_n hx hb dX9_blurOf_114 rfl (lv_at hl 0 rfl) ?_
    refine gM_mo_ridges hx hb hts hnX9 hown hK hP hw0 dX9_blurOf_115 ?_
    refine lv_icmp_ge (tgt := 199) hx hb dX9_blurOf_118 (by decide) (fun c1 => ?_) (fun c1 => ?_)
    · have h := it_use c1 h
      exact kX9_blurOf_p199 dC dI cB cI cJ cZ a C0 n m_letters m_words m_wMany m_wLetters m_asks m_aWords m_dLetters m_dWords m_dMany m_dText m_dAsks m_dAsk m_tape m_taped m_pos m_from m_sort m_value m_fault m_wrongAt m_manyA m_rowA m_manyB m_rowB m_places m_xs m_ys m_heights m_ridges m_rx m_rHeight m_lanes m_sizes m_cells m_left m_calls m_cDay m_cHour m_cFrom m_cAsk m_cWord m_cOf m_isLie m_children m_learned m_group x1 x2 x3 x4  r0  _ _ ls h hP hD hS (lv_sub hl [0, 1, 2, 3, 4] rfl)
    · have h := ie_use c1 h
      refine lv_aload_n hx hb dX9_blurOf_121 rfl (lv_at hl 0 rfl) ?_
      refine gM_mo_rx hx hb hts hnX9 hown hK hP hw1 dX9_blurOf_122 ?_
      refine lv_iload hx hb dX9_blurOf_125 (lv_at hl 7 rfl) ?_
      obtain ⟨hiv2, h⟩ := ar_use h
      refine lM_mo_rx hx hb hK hP hiv2 dX9_blurOf_127 ?_
      refine lv_topi (fun v2 ev2 => ?_)
      have h := h v2 ev2
      refine lv_iload hx hb dX9_blurOf_128 (lv_at hl 5 rfl) ?_
      refine lv_icmp_le (tgt := 193) hx hb dX9_blurOf_130 (by decide) (fun c3 => ?_) (fun c3 => ?_)
      · have h := it_use c3 h
        refine lv_iinc (v := x7 + 1) (lv' := [(7, .int (x7 + 1)), (0, .ref (a 0)), (1, .int x1), (2, .int x2), (3, .int x3), (4, .int x4), (5, .int x5), (6, .int x6)]) hx hb dX9_blurOf_193 hl (k := 7) rfl rfl (by decide) rfl (fun ls hl => ?_)
        refine lv_goto (tgt := 112) hx hb dX9_blurOf_196 (by decide) ?_
        exact ih x4 (x7 + 1) _ _ ls h hP hD hS (lv_sub hl [1, 2, 3, 4, 5, 6, 7, 0] rfl)
      · have h := ie_use c3 h
        refine lv_aload_n hx hb dX9_blurOf_133 rfl (lv_at hl 0 rfl) ?_
        refine gM_mo_rx hx hb hts hnX9 hown hK hP hw1 dX9_blurOf_134 ?_
        refine lv_iload hx hb dX9_blurOf_137 (lv_at hl 7 rfl) ?_
        obtain ⟨hiv4, h⟩ := ar_use h
        refine lM_mo_rx hx hb hK hP hiv4 dX9_blurOf_139 ?_
        refine lv_topi (fun v4 ev4 => ?_)
        have h := h v4 ev4
        refine lv_iload hx hb dX9_blurOf_140 (lv_at hl 6 rfl) ?_
        refine lv_icmp_gt (tgt := 193) hx hb dX9_blurOf_142 (by decide) (fun c5 => ?_) (fun c5 => ?_)
        · have h := it_use c5 h
          refine lv_iinc (v := x7 + 1) (lv' := [(7, .int (x7 + 1)), (0, .ref (a 0)), (1, .int x1), (2, .int x2), (3, .int x3), (4, .int x4), (5, .int x5), (6, .int x6)]) hx hb dX9_blurOf_193 hl (k := 7) rfl rfl (by decide) rfl (fun ls hl => ?_)
          refine lv_goto (tgt := 112) hx hb dX9_blurOf_196 (by decide) ?_
          exact ih x4 (x7 + 1) _ _ ls h hP hD hS (lv_sub hl [1, 2, 3, 4, 5, 6, 7, 0] rfl)
        · have h := ie_use c5 h
          refine lv_iload hx hb dX9_blurOf_145 (lv_at hl 4 rfl) ?_
          refine lv_aload_n hx hb dX9_blurOf_147 rfl (lv_at hl 0 rfl) ?_
          refine gM_mo_rHeight hx hb hts hnX9 hown hK hP hw2 dX9_blurOf_148 ?_
          refine lv_iload hx hb dX9_blurOf_151 (lv_at hl 7 rfl) ?_
          obtain ⟨hiv6, h⟩ := ar_use h
          refine lM_mo_rHeight hx hb hK hP hiv6 dX9_blurOf_153 ?_
          refine lv_topi (fun v6 ev6 => ?_)
          have h := h v6 ev6
          refine lv_aload_n hx hb dX9_blurOf_154 rfl (lv_at hl 0 rfl) ?_
          refine gM_mo_heights hx hb hts hnX9 hown hK hP hw3 dX9_blurOf_155 ?_
          refine lv_iload_n hx hb dX9_blurOf_158 rfl (lv_at hl 1 rfl) ?_
          obtain ⟨hiv7, h⟩ := ar_use h
          refine lM_mo_heights hx hb hK hP hiv7 dX9_blurOf_159 ?_
          refine lv_topi (fun v7 ev7 => ?_)
          have h := h v7 ev7
          refine lv_icmp_le (tgt := 167) hx hb dX9_blurOf_160 (by decide) (fun c8 => ?_) (fun c8 => ?_)
          · have h := it_use c8 h
            refine lv_iconst (v := 0) hx hb dX9_blurOf_167 (by decide) ?_
            exact kX9_blurOf_p168 dC dI cB cI cJ cZ a C0 n m_letters m_words m_wMany m_wLetters m_asks m_aWords m_dLetters m_dWords m_dMany m_dText m_dAsks m_dAsk m_tape m_taped m_pos m_from m_sort m_value m_fault m_wrongAt m_manyA m_rowA m_manyB m_rowB m_places m_xs m_ys m_heights m_ridges m_rx m_rHeight m_lanes m_sizes m_cells m_left m_calls m_cDay m_cHour m_cFrom m_cAsk m_cWord m_cOf m_isLie m_children m_learned m_group x1 x2 x3 x5 x6 x7 x4 (0 : Int32) r0 (fX9_blurOf_p112 n m_xs m_heights m_ridges m_rx m_rHeight m_lanes m_sizes m_cells x1 x2 x3 x5 x6 k) ih _ _ ls h hP hD hS (lv_sub hl [0, 1, 2, 3, 5, 6, 7] rfl)
          · have h := ie_use c8 h
            refine lv_iconst (v := 1) hx hb dX9_blurOf_163 (by decide) ?_
            refine lv_goto (tgt := 168) hx hb dX9_blurOf_164 (by decide) ?_
            exact kX9_blurOf_p168 dC dI cB cI cJ cZ a C0 n m_letters m_words m_wMany m_wLetters m_asks m_aWords m_dLetters m_dWords m_dMany m_dText m_dAsks m_dAsk m_tape m_taped m_pos m_from m_sort m_value m_fault m_wrongAt m_manyA m_rowA m_manyB m_rowB m_places m_xs m_ys m_heights m_ridges m_rx m_rHeight m_lanes m_sizes m_cells m_left m_calls m_cDay m_cHour m_cFrom m_cAsk m_cWord m_cOf m_isLie m_children m_learned m_group x1 x2 x3 x5 x6 x7 x4 (1 : Int32) r0 (fX9_blurOf_p112 n m_xs m_heights m_ridges m_rx m_rHeight m_lanes m_sizes m_cells x1 x2 x3 x5 x6 k) ih _ _ ls h hP hD hS (lv_sub hl [0, 1, 2, 3, 5, 6, 7] rfl)
theorem kX9_blurOf_p112 {p : Program} {l : Launch} {e : Env} {s : State} {m : MethodId} {args : Array Value} {below : List Frame} {meth : Method} {c : Code} {A : Nat → Prop} (dC : Nat → ClassId) (dI : Nat → Nat → Nat) (cB cI cJ cZ : ClassId) (a : Nat → Nat) (C0 : cxt cX9_blurOf (some .int) 8 RX9 wsX9_blurOf (dC, dI) (tyz cB cI cJ cZ) E_0 A p s m args meth c) (n : Nat) (m_letters : Nat → Int32) (m_words : Int32) (m_wMany : Nat → Int32) (m_wLetters : Nat → Int32) (m_asks : Int32) (m_aWords : Nat → Int32) (m_dLetters : Nat → Int32) (m_dWords : Int32) (m_dMany : Nat → Int32) (m_dText : Nat → Int32) (m_dAsks : Int32) (m_dAsk : Nat → Int32) (m_tape : Nat → Int32) (m_taped : Int32) (m_pos : Int32) (m_from : Int32) (m_sort : Int32) (m_value : Int32) (m_fault : Int32) (m_wrongAt : Int32) (m_manyA : Int32) (m_rowA : Nat → Int32) (m_manyB : Int32) (m_rowB : Nat → Int32) (m_places : Int32) (m_xs : Nat → Int32) (m_ys : Nat → Int32) (m_heights : Nat → Int32) (m_ridges : Int32) (m_rx : Nat → Int32) (m_rHeight : Nat → Int32) (m_lanes : Nat → Int32) (m_sizes : Nat → Int32) (m_cells : Nat → Int32) (m_left : Nat → Int32) (m_calls : Int32) (m_cDay : Nat → Int32) (m_cHour : Nat → Int32) (m_cFrom : Nat → Int32) (m_cAsk : Nat → Int32) (m_cWord : Nat → Int32) (m_cOf : Nat → Int32) (m_isLie : Nat → Int32) (m_children : Int32) (m_learned : Nat → Int32) (m_group : Nat → Int32)  (x1 : Int32) (x2 : Int32) (x3 : Int32) (x4 : Int32) (x5 : Int32) (x6 : Int32) (x7 : Int32) (r0 : Int32)  (k : Nat) (H : Heap) (locs : List Loc) (ls : Array Slot) : fX9_blurOf_p112 n m_xs m_heights m_ridges m_rx m_rHeight m_lanes m_sizes m_cells x1 x2 x3 x5 x6 k x4 x7 = some r0 → va_P (dC, dI) vwCl (wM cB cI cJ cZ a m_letters m_words m_wMany m_wLetters m_asks m_aWords m_dLetters m_dWords m_dMany m_dText m_dAsks m_dAsk m_tape m_taped m_pos m_from m_sort m_value m_fault m_wrongAt m_manyA m_rowA m_manyB m_rowB m_places m_xs m_ys m_heights m_ridges m_rx m_rHeight m_lanes m_sizes m_cells m_left m_calls m_cDay m_cHour m_cFrom m_cAsk m_cWord m_cOf m_isLie m_children m_learned m_group) H → va_D A (wM cB cI cJ cZ a m_letters m_words m_wMany m_wLetters m_asks m_aWords m_dLetters m_dWords m_dMany m_dText m_dAsks m_dAsk m_tape m_taped m_pos m_from m_sort m_value m_fault m_wrongAt m_manyA m_rowA m_manyB m_rowB m_places m_xs m_ys m_heights m_ridges m_rx m_rHeight m_lanes m_sizes m_cells m_left m_calls m_cDay m_cHour m_cFrom m_cAsk m_cWord m_cOf m_isLie m_children m_learned m_group) → va_S A s.heap H locs → lv_has ls 8 [(0, .ref (a 0)), (1, .int x1), (2, .int x2), (3, .int x3), (4, .int x4), (5, .int x5), (6, .int x6), (7, .int x7)] → W p l e { frames := 2, cells := 0, slots := 0, locals := 43 } s m args below meth c H locs 0 0 (MQ below (gI (dC, dI) (tyz cB cI cJ cZ) (wM cB cI cJ cZ a m_letters m_words m_wMany m_wLetters m_asks m_aWords m_dLetters m_dWords m_dMany m_dText m_dAsks m_dAsk m_tape m_taped m_pos m_from m_sort m_value m_fault m_wrongAt m_manyA m_rowA m_manyB m_rowB m_places m_xs m_ys m_heights m_ridges m_rx m_rHeight m_lanes m_sizes m_cells m_left m_calls m_cDay m_cHour m_cFrom m_cAsk m_cWord m_cOf m_isLie m_children m_learned m_group) A r0) args s 0 0 A) (F0 m 112 ls []) :=
  kX9_blurOf_p112_r dC dI cB cI cJ cZ a C0 n m_letters m_words m_wMany m_wLetters m_asks m_aWords m_dLetters m_dWords m_dMany m_dText m_dAsks m_dAsk m_tape m_taped m_pos m_from m_sort m_value m_fault m_wrongAt m_manyA m_rowA m_manyB m_rowB m_places m_xs m_ys m_heights m_ridges m_rx m_rHeight m_lanes m_sizes m_cells m_left m_calls m_cDay m_cHour m_cFrom m_cAsk m_cWord m_cOf m_isLie m_children m_learned m_group x1 x2 x3 x5 x6 r0  k x4 x7 H locs ls
set_option maxHeartbeats 4000000 in
set_option maxRecDepth 100000 in
theorem kX9_blurOf_p75 {p : Program} {l : Launch} {e : Env} {s : State} {m : MethodId} {args : Array Value} {below : List Frame} {meth : Method} {c : Code} {A : Nat → Prop} (dC : Nat → ClassId) (dI : Nat → Nat → Nat) (cB cI cJ cZ : ClassId) (a : Nat → Nat) (C0 : cxt cX9_blurOf (some .int) 8 RX9 wsX9_blurOf (dC, dI) (tyz cB cI cJ cZ) E_0 A p s m args meth c) (n : Nat) (m_letters : Nat → Int32) (m_words : Int32) (m_wMany : Nat → Int32) (m_wLetters : Nat → Int32) (m_asks : Int32) (m_aWords : Nat → Int32) (m_dLetters : Nat → Int32) (m_dWords : Int32) (m_dMany : Nat → Int32) (m_dText : Nat → Int32) (m_dAsks : Int32) (m_dAsk : Nat → Int32) (m_tape : Nat → Int32) (m_taped : Int32) (m_pos : Int32) (m_from : Int32) (m_sort : Int32) (m_value : Int32) (m_fault : Int32) (m_wrongAt : Int32) (m_manyA : Int32) (m_rowA : Nat → Int32) (m_manyB : Int32) (m_rowB : Nat → Int32) (m_places : Int32) (m_xs : Nat → Int32) (m_ys : Nat → Int32) (m_heights : Nat → Int32) (m_ridges : Int32) (m_rx : Nat → Int32) (m_rHeight : Nat → Int32) (m_lanes : Nat → Int32) (m_sizes : Nat → Int32) (m_cells : Nat → Int32) (m_left : Nat → Int32) (m_calls : Int32) (m_cDay : Nat → Int32) (m_cHour : Nat → Int32) (m_cFrom : Nat → Int32) (m_cAsk : Nat → Int32) (m_cWord : Nat → Int32) (m_cOf : Nat → Int32) (m_isLie : Nat → Int32) (m_children : Int32) (m_learned : Nat → Int32) (m_group : Nat → Int32)  (x1 : Int32) (x2 : Int32) (x3 : Int32) (x4 : Int32) (s0 : Int32) (r0 : Int32)  (H : Heap) (locs : List Loc) (ls : Array Slot) : fX9_blurOf_p75 n m_xs m_heights m_ridges m_rx m_rHeight m_lanes m_sizes m_cells x1 x2 x3 x4 s0 = some r0 → va_P (dC, dI) vwCl (wM cB cI cJ cZ a m_letters m_words m_wMany m_wLetters m_asks m_aWords m_dLetters m_dWords m_dMany m_dText m_dAsks m_dAsk m_tape m_taped m_pos m_from m_sort m_value m_fault m_wrongAt m_manyA m_rowA m_manyB m_rowB m_places m_xs m_ys m_heights m_ridges m_rx m_rHeight m_lanes m_sizes m_cells m_left m_calls m_cDay m_cHour m_cFrom m_cAsk m_cWord m_cOf m_isLie m_children m_learned m_group) H → va_D A (wM cB cI cJ cZ a m_letters m_words m_wMany m_wLetters m_asks m_aWords m_dLetters m_dWords m_dMany m_dText m_dAsks m_dAsk m_tape m_taped m_pos m_from m_sort m_value m_fault m_wrongAt m_manyA m_rowA m_manyB m_rowB m_places m_xs m_ys m_heights m_ridges m_rx m_rHeight m_lanes m_sizes m_cells m_left m_calls m_cDay m_cHour m_cFrom m_cAsk m_cWord m_cOf m_isLie m_children m_learned m_group) → va_S A s.heap H locs → lv_has ls 8 [(0, .ref (a 0)), (1, .int x1), (2, .int x2), (3, .int x3), (4, .int x4)] → W p l e { frames := 2, cells := 0, slots := 0, locals := 43 } s m args below meth c H locs 0 0 (MQ below (gI (dC, dI) (tyz cB cI cJ cZ) (wM cB cI cJ cZ a m_letters m_words m_wMany m_wLetters m_asks m_aWords m_dLetters m_dWords m_dMany m_dText m_dAsks m_dAsk m_tape m_taped m_pos m_from m_sort m_value m_fault m_wrongAt m_manyA m_rowA m_manyB m_rowB m_places m_xs m_ys m_heights m_ridges m_rx m_rHeight m_lanes m_sizes m_cells m_left m_calls m_cDay m_cHour m_cFrom m_cAsk m_cWord m_cOf m_isLie m_children m_learned m_group) A r0) args s 0 0 A) (F0 m 75 ls [.int s0]) := by
  intro h hP hD hS hl
  obtain ⟨hx, hb, hr, hml, hown, hts, hlocks, hK, hA, hE⟩ := id C0
  have hw0 := hts (.fieldLink RX9 43 "WhistledWordsModel" "xs" "[I") (by decide +kernel)
  have hnX9 : ∀ w ∈ u_ws RX9 TX9 46, w ∈ wsX9_blurOf := fun _ h => List.mem_cons_of_mem _ (List.mem_append_right _ h)
  unfold fX9_blurOf_p75 at h
  refine lv_istore (lv' := [(5, .int s0), (0, .ref (a 0)), (1, .int x1), (2, .int x2), (3, .int x3), (4, .int x4)]) hx hb dX9_blurOf_75 hl (by decide) rfl (fun ls hl => ?_)
  refine lv_aload_n hx hb dX9_blurOf_77 rfl (lv_at hl 1 rfl) ?_
  refine gM_mo_xs hx hb hts hnX9 hown hK hP hw0 dX9_blurOf_78 ?_
  refine lv_iload_n hx hb dX9_blurOf_81 rfl (lv_at hl 2 rfl) ?_
  obtain ⟨hiv1, h⟩ := ar_use h
  refine lM_mo_xs hx hb hK hP hiv1 dX9_blurOf_82 ?_
  refine lv_topi (fun v1 ev1 => ?_)
  have h := h v1 ev1
  refine lv_aload_n hx hb dX9_blurOf_83 rfl (lv_at hl 1 rfl) ?_
  refine gM_mo_xs hx hb hts hnX9 hown hK hP hw0 dX9_blurOf_84 ?_
  refine lv_iload_n hx hb dX9_blurOf_87 rfl (lv_at hl 3 rfl) ?_
  obtain ⟨hiv2, h⟩ := ar_use h
  refine lM_mo_xs hx hb hK hP hiv2 dX9_blurOf_88 ?_
  refine lv_topi (fun v2 ev2 => ?_)
  have h := h v2 ev2
  refine lv_icmp_ge (tgt := 101) hx hb dX9_blurOf_89 (by decide) (fun c3 => ?_) (fun c3 => ?_)
  · have h := it_use c3 h
    refine lv_aload_n hx hb dX9_blurOf_101 rfl (lv_at hl 1 rfl) ?_
    refine gM_mo_xs hx hb hts hnX9 hown hK hP hw0 dX9_blurOf_102 ?_
    refine lv_iload_n hx hb dX9_blurOf_105 rfl (lv_at hl 2 rfl) ?_
    obtain ⟨hiv4, h⟩ := ar_use h
    refine lM_mo_xs hx hb hK hP hiv4 dX9_blurOf_106 ?_
    refine lv_topi (fun v4 ev4 => ?_)
    have h := h v4 ev4
    refine lv_istore (lv' := [(6, .int v4), (5, .int s0), (0, .ref (a 0)), (1, .int x1), (2, .int x2), (3, .int x3), (4, .int x4)]) hx hb dX9_blurOf_107 hl (by decide) rfl (fun ls hl => ?_)
    refine lv_iconst (v := 0) hx hb dX9_blurOf_109 (by decide) ?_
    refine lv_istore (lv' := [(7, .int (0 : Int32)), (6, .int v4), (5, .int s0), (0, .ref (a 0)), (1, .int x1), (2, .int x2), (3, .int x3), (4, .int x4)]) hx hb dX9_blurOf_110 hl (by decide) rfl (fun ls hl => ?_)
    exact kX9_blurOf_p112 dC dI cB cI cJ cZ a C0 n m_letters m_words m_wMany m_wLetters m_asks m_aWords m_dLetters m_dWords m_dMany m_dText m_dAsks m_dAsk m_tape m_taped m_pos m_from m_sort m_value m_fault m_wrongAt m_manyA m_rowA m_manyB m_rowB m_places m_xs m_ys m_heights m_ridges m_rx m_rHeight m_lanes m_sizes m_cells m_left m_calls m_cDay m_cHour m_cFrom m_cAsk m_cWord m_cOf m_isLie m_children m_learned m_group x1 x2 x3 x4 s0 v4 (0 : Int32) r0  n _ _ ls h hP hD hS (lv_sub hl [3, 4, 5, 6, 7, 2, 1, 0] rfl)
  · have h := ie_use c3 h
    refine lv_aload_n hx hb dX9_blurOf_92 rfl (lv_at hl 1 rfl) ?_
    refine gM_mo_xs hx hb hts hnX9 hown hK hP hw0 dX9_blurOf_93 ?_
    refine lv_iload_n hx hb dX9_blurOf_96 rfl (lv_at hl 3 rfl) ?_
    obtain ⟨hiv5, h⟩ := ar_use h
    refine lM_mo_xs hx hb hK hP hiv5 dX9_blurOf_97 ?_
    refine lv_topi (fun v5 ev5 => ?_)
    have h := h v5 ev5
    refine lv_goto (tgt := 107) hx hb dX9_blurOf_98 (by decide) ?_
    refine lv_istore (lv' := [(6, .int v5), (5, .int s0), (0, .ref (a 0)), (1, .int x1), (2, .int x2), (3, .int x3), (4, .int x4)]) hx hb dX9_blurOf_107 hl (by decide) rfl (fun ls hl => ?_)
    refine lv_iconst (v := 0) hx hb dX9_blurOf_109 (by decide) ?_
    refine lv_istore (lv' := [(7, .int (0 : Int32)), (6, .int v5), (5, .int s0), (0, .ref (a 0)), (1, .int x1), (2, .int x2), (3, .int x3), (4, .int x4)]) hx hb dX9_blurOf_110 hl (by decide) rfl (fun ls hl => ?_)
    exact kX9_blurOf_p112 dC dI cB cI cJ cZ a C0 n m_letters m_words m_wMany m_wLetters m_asks m_aWords m_dLetters m_dWords m_dMany m_dText m_dAsks m_dAsk m_tape m_taped m_pos m_from m_sort m_value m_fault m_wrongAt m_manyA m_rowA m_manyB m_rowB m_places m_xs m_ys m_heights m_ridges m_rx m_rHeight m_lanes m_sizes m_cells m_left m_calls m_cDay m_cHour m_cFrom m_cAsk m_cWord m_cOf m_isLie m_children m_learned m_group x1 x2 x3 x4 s0 v5 (0 : Int32) r0  n _ _ ls h hP hD hS (lv_sub hl [3, 4, 5, 6, 7, 2, 1, 0] rfl)
set_option maxHeartbeats 4000000 in
set_option maxRecDepth 100000 in
theorem kX9_blurOf (l : Launch) (n : Nat) (dC : Nat → ClassId) (dI : Nat → Nat → Nat) (cB cI cJ cZ : ClassId) (a : Nat → Nat) (sz : Nat) (m_letters : Nat → Int32) (m_words : Int32) (m_wMany : Nat → Int32) (m_wLetters : Nat → Int32) (m_asks : Int32) (m_aWords : Nat → Int32) (m_dLetters : Nat → Int32) (m_dWords : Int32) (m_dMany : Nat → Int32) (m_dText : Nat → Int32) (m_dAsks : Int32) (m_dAsk : Nat → Int32) (m_tape : Nat → Int32) (m_taped : Int32) (m_pos : Int32) (m_from : Int32) (m_sort : Int32) (m_value : Int32) (m_fault : Int32) (m_wrongAt : Int32) (m_manyA : Int32) (m_rowA : Nat → Int32) (m_manyB : Int32) (m_rowB : Nat → Int32) (m_places : Int32) (m_xs : Nat → Int32) (m_ys : Nat → Int32) (m_heights : Nat → Int32) (m_ridges : Int32) (m_rx : Nat → Int32) (m_rHeight : Nat → Int32) (m_lanes : Nat → Int32) (m_sizes : Nat → Int32) (m_cells : Nat → Int32) (m_left : Nat → Int32) (m_calls : Int32) (m_cDay : Nat → Int32) (m_cHour : Nat → Int32) (m_cFrom : Nat → Int32) (m_cAsk : Nat → Int32) (m_cWord : Nat → Int32) (m_cOf : Nat → Int32) (m_isLie : Nat → Int32) (m_children : Int32) (m_learned : Nat → Int32) (m_group : Nat → Int32) (x1 : Int32) (x2 : Int32) (x3 : Int32) (r0 : Int32) (h : fX9_blurOf n m_xs m_ys m_heights m_ridges m_rx m_rHeight m_lanes m_sizes m_cells x1 x2 x3 = some r0) : Met l yX9_blurOf wsX9_blurOf ({ frames := 2, cells := 0, slots := 0, locals := 43 }) (gP (dC, dI) (tyz cB cI cJ cZ) E_0 (wM cB cI cJ cZ a m_letters m_words m_wMany m_wLetters m_asks m_aWords m_dLetters m_dWords m_dMany m_dText m_dAsks m_dAsk m_tape m_taped m_pos m_from m_sort m_value m_fault m_wrongAt m_manyA m_rowA m_manyB m_rowB m_places m_xs m_ys m_heights m_ridges m_rx m_rHeight m_lanes m_sizes m_cells m_left m_calls m_cDay m_cHour m_cFrom m_cAsk m_cWord m_cOf m_isLie m_children m_learned m_group) sz [.ref (a 0), .int x1, .int x2, .int x3]) (gI (dC, dI) (tyz cB cI cJ cZ) (wM cB cI cJ cZ a m_letters m_words m_wMany m_wLetters m_asks m_aWords m_dLetters m_dWords m_dMany m_dText m_dAsks m_dAsk m_tape m_taped m_pos m_from m_sort m_value m_fault m_wrongAt m_manyA m_rowA m_manyB m_rowB m_places m_xs m_ys m_heights m_ridges m_rx m_rHeight m_lanes m_sizes m_cells m_left m_calls m_cDay m_cHour m_cFrom m_cAsk m_cWord m_cOf m_isLie m_children m_learned m_group) (va_A (wM cB cI cJ cZ a m_letters m_words m_wMany m_wLetters m_asks m_aWords m_dLetters m_dWords m_dMany m_dText m_dAsks m_dAsk m_tape m_taped m_pos m_from m_sort m_value m_fault m_wrongAt m_manyA m_rowA m_manyB m_rowB m_places m_xs m_ys m_heights m_ridges m_rx m_rHeight m_lanes m_sizes m_cells m_left m_calls m_cDay m_cHour m_cFrom m_cAsk m_cWord m_cOf m_isLie m_children m_learned m_group) sz) r0) 0 0 (va_A (wM cB cI cJ cZ a m_letters m_words m_wMany m_wLetters m_asks m_aWords m_dLetters m_dWords m_dMany m_dText m_dAsks m_dAsk m_tape m_taped m_pos m_from m_sort m_value m_fault m_wrongAt m_manyA m_rowA m_manyB m_rowB m_places m_xs m_ys m_heights m_ridges m_rx m_rHeight m_lanes m_sizes m_cells m_left m_calls m_cDay m_cHour m_cFrom m_cAsk m_cWord m_cOf m_isLie m_children m_learned m_group) sz) := by
  refine Met.ofW (cc := cX9_blurOf) (maxL := 8) (ret := (some .int)) (by decide) rfl ?_
  intro p e s m args below meth c s₁ B hml hv
  obtain ⟨rfl, hsz, hP, hK, hD0, hE⟩ := hv
  have hx := B.exec
  have hb := B.bytes
  have hr := B.returns
  have hts := atoms_spec (ws := wsX9_blurOf) B.pre
  have hown : s.vm.findClass RX9 = some m.cls := findClass_of_methodNamed B.named
  have hlocks := B.notSynchronized
  subst hsz
  have hD := hD0.self (sz := s.heap.size)
  have hA : ∀ q : Nat, s.heap.size ≤ q → va_A (wM cB cI cJ cZ a m_letters m_words m_wMany m_wLetters m_asks m_aWords m_dLetters m_dWords m_dMany m_dText m_dAsks m_dAsk m_tape m_taped m_pos m_from m_sort m_value m_fault m_wrongAt m_manyA m_rowA m_manyB m_rowB m_places m_xs m_ys m_heights m_ridges m_rx m_rHeight m_lanes m_sizes m_cells m_left m_calls m_cDay m_cHour m_cFrom m_cAsk m_cWord m_cOf m_isLie m_children m_learned m_group) s.heap.size q := fun q h => Or.inr h
  generalize va_A (wM cB cI cJ cZ a m_letters m_words m_wMany m_wLetters m_asks m_aWords m_dLetters m_dWords m_dMany m_dText m_dAsks m_dAsk m_tape m_taped m_pos m_from m_sort m_value m_fault m_wrongAt m_manyA m_rowA m_manyB m_rowB m_places m_xs m_ys m_heights m_ridges m_rx m_rHeight m_lanes m_sizes m_cells m_left m_calls m_cDay m_cHour m_cFrom m_cAsk m_cWord m_cOf m_isLie m_children m_learned m_group) s.heap.size = A at hD hA hE ⊢
  have hS : va_S A s.heap s.heap [] := va_S.rf
  have C0 : cxt cX9_blurOf (some .int) 8 RX9 wsX9_blurOf (dC, dI) (tyz cB cI cJ cZ) E_0 A p s m ([.ref (a 0), .int x1, .int x2, .int x3] : List Value).toArray meth c := ⟨hx, hb, hr, hml, hown, hts, hlocks, hK, hA, hE⟩
  have hl := lv_entry ([.ref (a 0), .int x1, .int x2, .int x3]) (n := 8) (Nat.le_of_ble_eq_true rfl)
  rw [lg_entry_eq]
  generalize (lg_sl ([.ref (a 0), .int x1, .int x2, .int x3]) ++ List.replicate (8 - (lg_sl ([.ref (a 0), .int x1, .int x2, .int x3])).length) Slot.unset).toArray = ls at hl ⊢
  have hl : lv_has ls 8 [(0, .ref (a 0)), (1, .int x1), (2, .int x2), (3, .int x3)] := hl
  have hw0 := hts (.fieldLink RX9 43 "WhistledWordsModel" "xs" "[I") (by decide +kernel)
  have hw1 := hts (.fieldLink RX9 46 "WhistledWordsModel" "ys" "[I") (by decide +kernel)
  have hnX9 : ∀ w ∈ u_ws RX9 TX9 46, w ∈ wsX9_blurOf := fun _ h => List.mem_cons_of_mem _ (List.mem_append_right _ h)
  unfold fX9_blurOf at h
  refine lv_iload_n hx hb dX9_blurOf_0 rfl (lv_at hl 1 rfl) ?_
  refine lv_iload_n hx hb dX9_blurOf_1 rfl (lv_at hl 2 rfl) ?_
  refine lv_icmp_ne (tgt := 7) hx hb dX9_blurOf_2 (by decide) (fun c1 => ?_) (fun c1 => ?_)
  · have h := ie_use c1 h
    refine lv_aload_n hx hb dX9_blurOf_7 rfl (lv_at hl 0 rfl) ?_
    refine gM_mo_xs hx hb hts hnX9 hown hK hP hw0 dX9_blurOf_8 ?_
    refine lv_iload_n hx hb dX9_blurOf_11 rfl (lv_at hl 1 rfl) ?_
    obtain ⟨hiv2, h⟩ := ar_use h
    refine lM_mo_xs hx hb hK hP hiv2 dX9_blurOf_12 ?_
    refine lv_topi (fun v2 ev2 => ?_)
    have h := h v2 ev2
    refine lv_aload_n hx hb dX9_blurOf_13 rfl (lv_at hl 0 rfl) ?_
    refine gM_mo_xs hx hb hts hnX9 hown hK hP hw0 dX9_blurOf_14 ?_
    refine lv_iload_n hx hb dX9_blurOf_17 rfl (lv_at hl 2 rfl) ?_
    obtain ⟨hiv3, h⟩ := ar_use h
    refine lM_mo_xs hx hb hK hP hiv3 dX9_blurOf_18 ?_
    refine lv_topi (fun v3 ev3 => ?_)
    have h := h v3 ev3
    refine lv_isub hx hb dX9_blurOf_19 ?_
    obtain ⟨v4, hc, h⟩ := bd1_use h
    refine cs_i (As := [.int (v2 - v3)]) (rest := []) ⟨hx, hb, hml, hown, hts⟩ (kX9_plain l n (v2 - v3) v4 hc) (va_cwS 1 hts gX9_blurOf_X9_plain rfl rfl rfl (by decide +kernel) ⟨Nat.le_of_ble_eq_true rfl, Nat.le_of_ble_eq_true rfl⟩) hP hS rfl hl.1 rfl (Nat.le_of_ble_eq_true rfl) dX9_blurOf_20 ⟨Nat.zero_le _, Nat.zero_le _⟩ (fun H locs hP hS => ?_)
    refine lv_aload_n hx hb dX9_blurOf_23 rfl (lv_at hl 0 rfl) ?_
    refine gM_mo_ys hx hb hts hnX9 hown hK hP hw1 dX9_blurOf_24 ?_
    refine lv_iload_n hx hb dX9_blurOf_27 rfl (lv_at hl 1 rfl) ?_
    obtain ⟨hiv5, h⟩ := ar_use h
    refine lM_mo_ys hx hb hK hP hiv5 dX9_blurOf_28 ?_
    refine lv_topi (fun v5 ev5 => ?_)
    have h := h v5 ev5
    refine lv_aload_n hx hb dX9_blurOf_29 rfl (lv_at hl 0 rfl) ?_
    refine gM_mo_ys hx hb hts hnX9 hown hK hP hw1 dX9_blurOf_30 ?_
    refine lv_iload_n hx hb dX9_blurOf_33 rfl (lv_at hl 2 rfl) ?_
    obtain ⟨hiv6, h⟩ := ar_use h
    refine lM_mo_ys hx hb hK hP hiv6 dX9_blurOf_34 ?_
    refine lv_topi (fun v6 ev6 => ?_)
    have h := h v6 ev6
    refine lv_isub hx hb dX9_blurOf_35 ?_
    obtain ⟨v7, hc, h⟩ := bd1_use h
    refine cs_i (As := [.int (v5 - v6)]) (rest := [.int v4]) ⟨hx, hb, hml, hown, hts⟩ (kX9_plain l n (v5 - v6) v7 hc) (va_cwS 1 hts gX9_blurOf_X9_plain rfl rfl rfl (by decide +kernel) ⟨Nat.le_of_ble_eq_true rfl, Nat.le_of_ble_eq_true rfl⟩) hP hS rfl hl.1 rfl (Nat.le_of_ble_eq_true rfl) dX9_blurOf_36 ⟨Nat.zero_le _, Nat.zero_le _⟩ (fun H locs hP hS => ?_)
    refine lv_iadd hx hb dX9_blurOf_39 ?_
    refine lv_bipush (v := 20) hx hb dX9_blurOf_40 (by decide) ?_
    refine lv_idiv hx hb dX9_blurOf_42 (by decide) ?_
    refine lv_topi (fun v8 ev8 => ?_)
    have h := nm_use ev8 h
    refine lv_istore (lv' := [(4, .int v8), (0, .ref (a 0)), (1, .int x1), (2, .int x2), (3, .int x3)]) hx hb dX9_blurOf_43 hl (by decide) rfl (fun ls hl => ?_)
    refine lv_aload_n hx hb dX9_blurOf_45 rfl (lv_at hl 1 rfl) ?_
    refine gM_mo_xs hx hb hts hnX9 hown hK hP hw0 dX9_blurOf_46 ?_
    refine lv_iload_n hx hb dX9_blurOf_49 rfl (lv_at hl 2 rfl) ?_
    obtain ⟨hiv9, h⟩ := ar_use h
    refine lM_mo_xs hx hb hK hP hiv9 dX9_blurOf_50 ?_
    refine lv_topi (fun v9 ev9 => ?_)
    have h := h v9 ev9
    refine lv_aload_n hx hb dX9_blurOf_51 rfl (lv_at hl 1 rfl) ?_
    refine gM_mo_xs hx hb hts hnX9 hown hK hP hw0 dX9_blurOf_52 ?_
    refine lv_iload_n hx hb dX9_blurOf_55 rfl (lv_at hl 3 rfl) ?_
    obtain ⟨hiv10, h⟩ := ar_use h
    refine lM_mo_xs hx hb hK hP hiv10 dX9_blurOf_56 ?_
    refine lv_topi (fun v10 ev10 => ?_)
    have h := h v10 ev10
    refine lv_icmp_ge (tgt := 69) hx hb dX9_blurOf_57 (by decide) (fun c11 => ?_) (fun c11 => ?_)
    · have h := it_use c11 h
      refine lv_aload_n hx hb dX9_blurOf_69 rfl (lv_at hl 1 rfl) ?_
      refine gM_mo_xs hx hb hts hnX9 hown hK hP hw0 dX9_blurOf_70 ?_
      refine lv_iload_n hx hb dX9_blurOf_73 rfl (lv_at hl 3 rfl) ?_
      obtain ⟨hiv12, h⟩ := ar_use h
      refine lM_mo_xs hx hb hK hP hiv12 dX9_blurOf_74 ?_
      refine lv_topi (fun v12 ev12 => ?_)
      have h := h v12 ev12
      exact kX9_blurOf_p75 dC dI cB cI cJ cZ a C0 n m_letters m_words m_wMany m_wLetters m_asks m_aWords m_dLetters m_dWords m_dMany m_dText m_dAsks m_dAsk m_tape m_taped m_pos m_from m_sort m_value m_fault m_wrongAt m_manyA m_rowA m_manyB m_rowB m_places m_xs m_ys m_heights m_ridges m_rx m_rHeight m_lanes m_sizes m_cells m_left m_calls m_cDay m_cHour m_cFrom m_cAsk m_cWord m_cOf m_isLie m_children m_learned m_group x1 x2 x3 v8 v12 r0  _ _ ls h hP hD hS (lv_sub hl [1, 2, 3, 4, 0] rfl)
    · have h := ie_use c11 h
      refine lv_aload_n hx hb dX9_blurOf_60 rfl (lv_at hl 1 rfl) ?_
      refine gM_mo_xs hx hb hts hnX9 hown hK hP hw0 dX9_blurOf_61 ?_
      refine lv_iload_n hx hb dX9_blurOf_64 rfl (lv_at hl 2 rfl) ?_
      obtain ⟨hiv13, h⟩ := ar_use h
      refine lM_mo_xs hx hb hK hP hiv13 dX9_blurOf_65 ?_
      refine lv_topi (fun v13 ev13 => ?_)
      have h := h v13 ev13
      refine lv_goto (tgt := 75) hx hb dX9_blurOf_66 (by decide) ?_
      exact kX9_blurOf_p75 dC dI cB cI cJ cZ a C0 n m_letters m_words m_wMany m_wLetters m_asks m_aWords m_dLetters m_dWords m_dMany m_dText m_dAsks m_dAsk m_tape m_taped m_pos m_from m_sort m_value m_fault m_wrongAt m_manyA m_rowA m_manyB m_rowB m_places m_xs m_ys m_heights m_ridges m_rx m_rHeight m_lanes m_sizes m_cells m_left m_calls m_cDay m_cHour m_cFrom m_cAsk m_cWord m_cOf m_isLie m_children m_learned m_group x1 x2 x3 v8 v13 r0  _ _ ls h hP hD hS (lv_sub hl [1, 2, 3, 4, 0] rfl)
  · have h := it_use c1 h
    refine lv_iconst (v := 0) hx hb dX9_blurOf_5 (by decide) ?_
    obtain er := rt1_use h
    exact re_i hx hb hr hlocks hK hP hD hS er dX9_blurOf_6

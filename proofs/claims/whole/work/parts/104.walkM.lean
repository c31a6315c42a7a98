set_option maxHeartbeats 4000000 in
set_option maxRecDepth 100000 in
theorem kX9_childOf_p157 {p : Program} {l : Launch} {e : Env} {s : State} {m : MethodId} {args : Array Value} {below : List Frame} {meth : Method} {c : Code} {A : Nat → Prop} (dC : Nat → ClassId) (dI : Nat → Nat → Nat) (cB cI cJ cZ : ClassId) (a : Nat → Nat) (C0 : cxt cX9_childOf (some .int) 10 RX9 wsX9_childOf (dC, dI) (tyz cB cI cJ cZ) E_0 A p s m args meth c) (n : Nat) (m_letters : Nat → Int32) (m_words : Int32) (m_wMany : Nat → Int32) (m_wLetters : Nat → Int32) (m_asks : Int32) (m_aWords : Nat → Int32) (m_dLetters : Nat → Int32) (m_dWords : Int32) (m_dMany : Nat → Int32) (m_dText : Nat → Int32) (m_dAsks : Int32) (m_dAsk : Nat → Int32) (m_tape : Nat → Int32) (m_taped : Int32) (m_pos : Int32) (m_from : Int32) (m_sort : Int32) (m_value : Int32) (m_fault : Int32) (m_wrongAt : Int32) (m_manyA : Int32) (m_rowA : Nat → Int32) (m_manyB : Int32) (m_rowB : Nat → Int32) (m_places : Int32) (m_xs : Nat → Int32) (m_ys : Nat → Int32) (m_heights : Nat → Int32) (m_ridges : Int32) (m_rx : Nat → Int32) (m_rHeight : Nat → Int32) (m_lanes : Nat → Int32) (m_sizes : Nat → Int32) (m_cells : Nat → Int32) (m_left : Nat → Int32) (m_calls : Int32) (m_cDay : Nat → Int32) (m_cHour : Nat → Int32) (m_cFrom : Nat → Int32) (m_cAsk : Nat → Int32) (m_cWord : Nat → Int32) (m_cOf : Nat → Int32) (m_isLie : Nat → Int32) (m_children : Int32) (m_learned : Nat → Int32) (m_group : Nat → Int32)  (x1 : Int32) (x2 : Int32) (x4 : Int32) (x5 : Int32) (x6 : Int32) (x7 : Int32) (x8 : Int32) (x9 : Int32) (s0 : Int32) (s1 : Int32) (r0 : Int32) (z_m_manyA : Int32) (z_m_rowA : Nat → Int32) (z_m_manyB : Int32) (z_m_rowB : Nat → Int32) (z_m_group : Nat → Int32) (rec60 : Int32 → (Nat → Int32) → Int32 → (Nat → Int32) → Int32 → Int32 → Int32 → Int32 → Int32 → Option (Int32 × Int32 × (Nat → Int32) × Int32 × (Nat → Int32) × (Nat → Int32))) (hrec60 : ∀ (y_m_manyA : Int32) (y_m_rowA : Nat → Int32) (y_m_manyB : Int32) (y_m_rowB : Nat → Int32) (y_x3 : Int32) (y_x4 : Int32) (y_x5 : Int32) (y_x6 : Int32) (y_x7 : Int32) (H : Heap) (locs : List Loc) (ls : Array Slot), rec60 y_m_manyA y_m_rowA y_m_manyB y_m_rowB y_x3 y_x4 y_x5 y_x6 y_x7 = some (r0, z_m_manyA, z_m_rowA, z_m_manyB, z_m_rowB, z_m_group) → va_P (dC, dI) vwCl (wM cB cI cJ cZ a m_letters m_words m_wMany m_wLetters m_asks m_aWords m_dLetters m_dWords m_dMany m_dText m_dAsks m_dAsk m_tape m_taped m_pos m_from m_sort m_value m_fault m_wrongAt y_m_manyA y_m_rowA y_m_manyB y_m_rowB m_places m_xs m_ys m_heights m_ridges m_rx m_rHeight m_lanes m_sizes m_cells m_left m_calls m_cDay m_cHour m_cFrom m_cAsk m_cWord m_cOf m_isLie m_children m_learned m_group) H → va_D A (wM cB cI cJ cZ a m_letters m_words m_wMany m_wLetters m_asks m_aWords m_dLetters m_dWords m_dMany m_dText m_dAsks m_dAsk m_tape m_taped m_pos m_from m_sort m_value m_fault m_wrongAt y_m_manyA y_m_rowA y_m_manyB y_m_rowB m_places m_xs m_ys m_heights m_ridges m_rx m_rHeight m_lanes m_sizes m_cells m_left m_calls m_cDay m_cHour m_cFrom m_cAsk m_cWord m_cOf m_isLie m_children m_learned m_group) → va_S A s.heap H locs → lv_has ls 10 [(0, .ref (a 0)), (1, .int x1), (2, .int x2), (3, .int y_x3), (4, .int y_x4), (5, .int y_x5), (6, .int y_x6), (7, .int y_x7)] → W p l e { frames := 4, cells := 0, slots := 0, locals := 98 } s m args below meth c H locs 0 0 (MQ below (gI (dC, dI) (tyz cB cI cJ cZ) (wM cB cI cJ cZ a m_letters m_words m_wMany m_wLetters m_asks m_aWords m_dLetters m_dWords m_dMany m_dText m_dAsks m_dAsk m_tape m_taped m_pos m_from m_sort m_value m_fault m_wrongAt z_m_manyA z_m_rowA z_m_manyB z_m_rowB m_places m_xs m_ys m_heights m_ridges m_rx m_rHeight m_lanes m_sizes m_cells m_left m_calls m_cDay m_cHour m_cFrom m_cAsk m_cWord m_cOf m_isLie m_children m_learned z_m_group) A r0) args s 0 0 A) (F0 m 60 ls [])) (rec97 : Int32 → (Nat → Int32) → Int32 → (Nat → Int32) → Int32 → Int32 → Int32 → Int32 → Option (Int32 × Int32 × (Nat → Int32) × Int32 × (Nat → Int32) × (Nat → Int32))) (hrec97 : ∀ (y_m_manyA : Int32) (y_m_rowA : Nat → Int32) (y_m_manyB : Int32) (y_m_rowB : Nat → Int32) (y_x3 : Int32) (y_x4 : Int32) (y_x8 : Int32) (y_x9 : Int32) (H : Heap) (locs : List Loc) (ls : Array Slot), rec97 y_m_manyA y_m_rowA y_m_manyB y_m_rowB y_x3 y_x4 y_x8 y_x9 = some (r0, z_m_manyA, z_m_rowA, z_m_manyB, z_m_rowB, z_m_group) → va_P (dC, dI) vwCl (wM cB cI cJ cZ a m_letters m_words m_wMany m_wLetters m_asks m_aWords m_dLetters m_dWords m_dMany m_dText m_dAsks m_dAsk m_tape m_taped m_pos m_from m_sort m_value m_fault m_wrongAt y_m_manyA y_m_rowA y_m_manyB y_m_rowB m_places m_xs m_ys m_heights m_ridges m_rx m_rHeight m_lanes m_sizes m_cells m_left m_calls m_cDay m_cHour m_cFrom m_cAsk m_cWord m_cOf m_isLie m_children m_learned m_group) H → va_D A (wM cB cI cJ cZ a m_letters m_words m_wMany m_wLetters m_asks m_aWords m_dLetters m_dWords m_dMany m_dText m_dAsks m_dAsk m_tape m_taped m_pos m_from m_sort m_value m_fault m_wrongAt y_m_manyA y_m_rowA y_m_manyB y_m_rowB m_places m_xs m_ys m_heights m_ridges m_rx m_rHeight m_lanes m_sizes m_cells m_left m_calls m_cDay m_cHour m_cFrom m_cAsk m_cWord m_cOf m_isLie m_children m_learned m_group) → va_S A s.heap H locs → lv_has ls 10 [(0, .ref (a 0)), (1, .int x1), (2, .int x2), (3, .int y_x3), (4, .int y_x4), (5, .int x5), (6, .int x6), (7, .int x7), (8, .int y_x8), (9, .int y_x9)] → W p l e { frames := 4, cells := 0, slots := 0, locals := 98 } s m args below meth c H locs 0 0 (MQ below (gI (dC, dI) (tyz cB cI cJ cZ) (wM cB cI cJ cZ a m_letters m_words m_wMany m_wLetters m_asks m_aWords m_dLetters m_dWords m_dMany m_dText m_dAsks m_dAsk m_tape m_taped m_pos m_from m_sort m_value m_fault m_wrongAt z_m_manyA z_m_rowA z_m_manyB z_m_rowB m_places m_xs m_ys m_heights m_ridges m_rx m_rHeight m_lanes m_sizes m_cells m_left m_calls m_cDay m_cHour m_cFrom m_cAsk m_cWord m_cOf m_isLie m_children m_learned z_m_group) A r0) args s 0 0 A) (F0 m 97 ls [])) (H : Heap) (locs : List Loc) (ls : Array Slot) : fX9_childOf_p157 n m_letters m_words m_wMany m_wLetters m_manyA m_rowA m_manyB m_rowB m_learned m_group x1 x2 x4 x5 x6 x7 x8 x9 s0 s1 rec60 rec97 = some (r0, z_m_manyA, z_m_rowA, z_m_manyB, z_m_rowB, z_m_group) → va_P (dC, dI) vwCl (wM cB cI cJ cZ a m_letters m_words m_wMany m_wLetters m_asks m_aWords m_dLetters m_dWords m_dMany m_dText m_dAsks m_dAsk m_tape m_taped m_pos m_from m_sort m_value m_fault m_wrongAt m_manyA m_rowA m_manyB m_rowB m_places m_xs m_ys m_heights m_ridges m_rx m_rHeight m_lanes m_sizes m_cells m_left m_calls m_cDay m_cHour m_cFrom m_cAsk m_cWord m_cOf m_isLie m_children m_learned m_group) H → va_D A (wM cB cI cJ cZ a m_letters m_words m_wMany m_wLetters m_asks m_aWords m_dLetters m_dWords m_dMany m_dText m_dAsks m_dAsk m_tape m_taped m_pos m_from m_sort m_value m_fault m_wrongAt m_manyA m_rowA m_manyB m_rowB m_places m_xs m_ys m_heights m_ridges m_rx m_rHeight m_lanes m_sizes m_cells m_left m_calls m_cDay m_cHour m_cFrom m_cAsk m_cWord m_cOf m_isLie m_children m_learned m_group) → va_S A s.heap H locs → lv_has ls 10 [(0, .ref (a 0)), (1, .int x1), (2, .int x2), (4, .int x4), (5, .int x5), (6, .int x6), (7, .int x7), (8, .int x8), (9, .int x9)] → W p l e { frames := 4, cells := 0, slots := 0, locals := 98 } s m args below meth c H locs 0 0 (MQ below (gI (dC, dI) (tyz cB cI cJ cZ) (wM cB cI cJ cZ a m_letters m_words m_wMany m_wLetters m_asks m_aWords m_dLetters m_dWords m_dMany m_dText m_dAsks m_dAsk m_tape m_taped m_pos m_from m_sort m_value m_fault m_wrongAt z_m_manyA z_m_rowA z_m_manyB z_m_rowB m_places m_xs m_ys m_heights m_ridges m_rx m_rHeight m_lanes m_sizes m_cells m_left m_calls m_cDay m_cHour m_cFrom m_cAsk m_cWord m_cOf m_isLie m_children m_learned z_m_group) A r0) args s 0 0 A) (F0 m 157 ls [.int s1, .int s0]) := by
  intro h hP hD hS hl
  obtain ⟨hx, hb, hr, hml, hown, hts, hlocks, hK, hA, hE⟩ := id C0
  unfold fX9_childOf_p157 at h
  refine lv_iadd hx hb dX9_childOf_157 ?_
  refine lv_topi (fun v1 ev1 => ?_)
  have h := nm_use ev1 h
  refine lv_istore_n (lv' := [(3, .int v1), (0, .ref (a 0)), (1, .int x1), (2, .int x2), (4, .int x4), (5, .int x5), (6, .int x6), (7, .int x7), (8, .int x8), (9, .int x9)]) hx hb dX9_childOf_158 rfl hl (by decide) rfl (fun ls hl => ?_)
  refine lv_iload hx hb dX9_childOf_159 (lv_at hl 4 rfl) ?_
  refine lv_iload hx hb dX9_childOf_161 (lv_at hl 9 rfl) ?_
  refine lv_iload hx hb dX9_childOf_163 (lv_at hl 7 rfl) ?_
  refine lv_icmp_ge (tgt := 184) hx hb dX9_childOf_165 (by decide) (fun c2 => ?_) (fun c2 => ?_)
  · have h := it_use c2 h
    refine lv_iconst (v := 0) hx hb dX9_childOf_184 (by decide) ?_
    refine lv_iadd hx hb dX9_childOf_185 ?_
    refine lv_topi (fun v3 ev3 => ?_)
    have h := nm_use ev3 h
    refine lv_istore (lv' := [(4, .int v3), (3, .int v1), (0, .ref (a 0)), (1, .int x1), (2, .int x2), (5, .int x5), (6, .int x6), (7, .int x7), (8, .int x8), (9, .int x9)]) hx hb dX9_childOf_186 hl (by decide) rfl (fun ls hl => ?_)
    refine lv_iinc (v := x9 + 1) (lv' := [(9, .int (x9 + 1)), (4, .int v3), (3, .int v1), (0, .ref (a 0)), (1, .int x1), (2, .int x2), (5, .int x5), (6, .int x6), (7, .int x7), (8, .int x8)]) hx hb dX9_childOf_188 hl (k := 9) rfl rfl (by decide) rfl (fun ls hl => ?_)
    refine lv_goto (tgt := 97) hx hb dX9_childOf_191 (by decide) ?_
    exact hrec97 m_manyA m_rowA m_manyB m_rowB v1 v3 x8 (x9 + 1) _ _ ls h hP hD hS (lv_sub hl [3, 4, 5, 2, 1, 6, 7, 8, 9, 0] rfl)
  · have h := ie_use c2 h
    refine lv_aload_n hx hb dX9_childOf_168 rfl (lv_at hl 1 rfl) ?_
    refine lv_iload_n hx hb dX9_childOf_169 rfl (lv_at hl 2 rfl) ?_
    refine lv_iload hx hb dX9_childOf_170 (lv_at hl 7 rfl) ?_
    refine lv_iload hx hb dX9_childOf_172 (lv_at hl 9 rfl) ?_
    obtain ⟨v4, v5, f6, v7, f8, hc, h⟩ := bd5_use h
    refine cv_i (As := [.int x1, .int x7, .int x9]) (rest := [.int x4]) ⟨hx, hb, hml, hown, hts⟩ (kX9_doesConfuse l n dC dI cB cI cJ cZ a _ m_letters m_words m_wMany m_wLetters m_asks m_aWords m_dLetters m_dWords m_dMany m_dText m_dAsks m_dAsk m_tape m_taped m_pos m_from m_sort m_value m_fault m_wrongAt m_manyA m_rowA m_manyB m_rowB m_places m_xs m_ys m_heights m_ridges m_rx m_rHeight m_lanes m_sizes m_cells m_left m_calls m_cDay m_cHour m_cFrom m_cAsk m_cWord m_cOf m_isLie m_children m_learned m_group x1 x7 x9 v4 v5 f6 v7 f8 hc) (cwV 3 hts gX9_childOf_X9_doesConfuse rfl rfl rfl (by decide +kernel) ⟨Nat.le_of_ble_eq_true rfl, Nat.le_of_ble_eq_true rfl⟩) EB_0 hE hK hP hD hS hA 0 (ci := 8) rfl rfl rfl rfl hl.1 rfl (Nat.le_of_ble_eq_true rfl) dX9_childOf_174 ⟨Nat.zero_le _, Nat.zero_le _⟩ (fun H locs hP hD hS => ?_)
    refine lv_if_eq (tgt := 184) hx hb dX9_childOf_177 (by decide) (fun c9 => ?_) (fun c9 => ?_)
    · have h := it_use c9 h
      refine lv_iconst (v := 0) hx hb dX9_childOf_184 (by decide) ?_
      refine lv_iadd hx hb dX9_childOf_185 ?_
      refine lv_topi (fun v10 ev10 => ?_)
      have h := nm_use ev10 h
      refine lv_istore (lv' := [(4, .int v10), (3, .int v1), (0, .ref (a 0)), (1, .int x1), (2, .int x2), (5, .int x5), (6, .int x6), (7, .int x7), (8, .int x8), (9, .int x9)]) hx hb dX9_childOf_186 hl (by decide) rfl (fun ls hl => ?_)
      refine lv_iinc (v := x9 + 1) (lv' := [(9, .int (x9 + 1)), (4, .int v10), (3, .int v1), (0, .ref (a 0)), (1, .int x1), (2, .int x2), (5, .int x5), (6, .int x6), (7, .int x7), (8, .int x8)]) hx hb dX9_childOf_188 hl (k := 9) rfl rfl (by decide) rfl (fun ls hl => ?_)
      refine lv_goto (tgt := 97) hx hb dX9_childOf_191 (by decide) ?_
      exact hrec97 v5 f6 v7 f8 v1 v10 x8 (x9 + 1) _ _ ls h hP hD hS (lv_sub hl [3, 4, 5, 2, 1, 6, 7, 8, 9, 0] rfl)
    · have h := ie_use c9 h
      refine lv_iconst (v := 1) hx hb dX9_childOf_180 (by decide) ?_
      refine lv_goto (tgt := 185) hx hb dX9_childOf_181 (by decide) ?_
      refine lv_iadd hx hb dX9_childOf_185 ?_
      refine lv_topi (fun v11 ev11 => ?_)
      have h := nm_use ev11 h
      refine lv_istore (lv' := [(4, .int v11), (3, .int v1), (0, .ref (a 0)), (1, .int x1), (2, .int x2), (5, .int x5), (6, .int x6), (7, .int x7), (8, .int x8), (9, .int x9)]) hx hb dX9_childOf_186 hl (by decide) rfl (fun ls hl => ?_)
      refine lv_iinc (v := x9 + 1) (lv' := [(9, .int (x9 + 1)), (4, .int v11), (3, .int v1), (0, .ref (a 0)), (1, .int x1), (2, .int x2), (5, .int x5), (6, .int x6), (7, .int x7), (8, .int x8)]) hx hb dX9_childOf_188 hl (k := 9) rfl rfl (by decide) rfl (fun ls hl => ?_)
      refine lv_goto (tgt := 97) hx hb dX9_childOf_191 (by decide) ?_
      exact hrec97 v5 f6 v7 f8 v1 v11 x8 (x9 + 1) _ _ ls h hP hD hS (lv_sub hl [3, 4, 5, 2, 1, 6, 7, 8, 9, 0] rfl)
set_option maxHeartbeats 4000000 in
set_option maxRecDepth 100000 in
theorem kX9_childOf_p125 {p : Program} {l : Launch} {e : Env} {s : State} {m : MethodId} {args : Array Value} {below : List Frame} {meth : Method} {c : Code} {A : Nat → Prop} (dC : Nat → ClassId) (dI : Nat → Nat → Nat) (cB cI cJ cZ : ClassId) (a : Nat → Nat) (C0 : cxt cX9_childOf (some .int) 10 RX9 wsX9_childOf (dC, dI) (tyz cB cI cJ cZ) E_0 A p s m args meth c) (n : Nat) (m_letters : Nat → Int32) (m_words : Int32) (m_wMany : Nat → Int32) (m_wLetters : Nat → Int32) (m_asks : Int32) (m_aWords : Nat → Int32) (m_dLetters : Nat → Int32) (m_dWords : Int32) (m_dMany : Nat → Int32) (m_dText : Nat → Int32) (m_dAsks : Int32) (m_dAsk : Nat → Int32) (m_tape : Nat → Int32) (m_taped : Int32) (m_pos : Int32) (m_from : Int32) (m_sort : Int32) (m_value : Int32) (m_fault : Int32) (m_wrongAt : Int32) (m_manyA : Int32) (m_rowA : Nat → Int32) (m_manyB : Int32) (m_rowB : Nat → Int32) (m_places : Int32) (m_xs : Nat → Int32) (m_ys : Nat → Int32) (m_heights : Nat → Int32) (m_ridges : Int32) (m_rx : Nat → Int32) (m_rHeight : Nat → Int32) (m_lanes : Nat → Int32) (m_sizes : Nat → Int32) (m_cells : Nat → Int32) (m_left : Nat → Int32) (m_calls : Int32) (m_cDay : Nat → Int32) (m_cHour : Nat → Int32) (m_cFrom : Nat → Int32) (m_cAsk : Nat → Int32) (m_cWord : Nat → Int32) (m_cOf : Nat → Int32) (m_isLie : Nat → Int32) (m_children : Int32) (m_learned : Nat → Int32) (m_group : Nat → Int32)  (x1 : Int32) (x2 : Int32) (x3 : Int32) (x4 : Int32) (x5 : Int32) (x6 : Int32) (x7 : Int32) (x9 : Int32) (s0 : Int32) (s1 : Int32) (r0 : Int32) (z_m_manyA : Int32) (z_m_rowA : Nat → Int32) (z_m_manyB : Int32) (z_m_rowB : Nat → Int32) (z_m_group : Nat → Int32) (rec60 : Int32 → (Nat → Int32) → Int32 → (Nat → Int32) → Int32 → Int32 → Int32 → Int32 → Int32 → Option (Int32 × Int32 × (Nat → Int32) × Int32 × (Nat → Int32) × (Nat → Int32))) (hrec60 : ∀ (y_m_manyA : Int32) (y_m_rowA : Nat → Int32) (y_m_manyB : Int32) (y_m_rowB : Nat → Int32) (y_x3 : Int32) (y_x4 : Int32) (y_x5 : Int32) (y_x6 : Int32) (y_x7 : Int32) (H : Heap) (locs : List Loc) (ls : Array Slot), rec60 y_m_manyA y_m_rowA y_m_manyB y_m_rowB y_x3 y_x4 y_x5 y_x6 y_x7 = some (r0, z_m_manyA, z_m_rowA, z_m_manyB, z_m_rowB, z_m_group) → va_P (dC, dI) vwCl (wM cB cI cJ cZ a m_letters m_words m_wMany m_wLetters m_asks m_aWords m_dLetters m_dWords m_dMany m_dText m_dAsks m_dAsk m_tape m_taped m_pos m_from m_sort m_value m_fault m_wrongAt y_m_manyA y_m_rowA y_m_manyB y_m_rowB m_places m_xs m_ys m_heights m_ridges m_rx m_rHeight m_lanes m_sizes m_cells m_left m_calls m_cDay m_cHour m_cFrom m_cAsk m_cWord m_cOf m_isLie m_children m_learned m_group) H → va_D A (wM cB cI cJ cZ a m_letters m_words m_wMany m_wLetters m_asks m_aWords m_dLetters m_dWords m_dMany m_dText m_dAsks m_dAsk m_tape m_taped m_pos m_from m_sort m_value m_fault m_wrongAt y_m_manyA y_m_rowA y_m_manyB y_m_rowB m_places m_xs m_ys m_heights m_ridges m_rx m_rHeight m_lanes m_sizes m_cells m_left m_calls m_cDay m_cHour m_cFrom m_cAsk m_cWord m_cOf m_isLie m_children m_learned m_group) → va_S A s.heap H locs → lv_has ls 10 [(0, .ref (a 0)), (1, .int x1), (2, .int x2), (3, .int y_x3), (4, .int y_x4), (5, .int y_x5), (6, .int y_x6), (7, .int y_x7)] → W p l e { frames := 4, cells := 0, slots := 0, locals := 98 } s m args below meth c H locs 0 0 (MQ below (gI (dC, dI) (tyz cB cI cJ cZ) (wM cB cI cJ cZ a m_letters m_words m_wMany m_wLetters m_asks m_aWords m_dLetters m_dWords m_dMany m_dText m_dAsks m_dAsk m_tape m_taped m_pos m_from m_sort m_value m_fault m_wrongAt z_m_manyA z_m_rowA z_m_manyB z_m_rowB m_places m_xs m_ys m_heights m_ridges m_rx m_rHeight m_lanes m_sizes m_cells m_left m_calls m_cDay m_cHour m_cFrom m_cAsk m_cWord m_cOf m_isLie m_children m_learned z_m_group) A r0) args s 0 0 A) (F0 m 60 ls [])) (rec97 : Int32 → (Nat → Int32) → Int32 → (Nat → Int32) → Int32 → Int32 → Int32 → Int32 → Option (Int32 × Int32 × (Nat → Int32) × Int32 × (Nat → Int32) × (Nat → Int32))) (hrec97 : ∀ (y_m_manyA : Int32) (y_m_rowA : Nat → Int32) (y_m_manyB : Int32) (y_m_rowB : Nat → Int32) (y_x3 : Int32) (y_x4 : Int32) (y_x8 : Int32) (y_x9 : Int32) (H : Heap) (locs : List Loc) (ls : Array Slot), rec97 y_m_manyA y_m_rowA y_m_manyB y_m_rowB y_x3 y_x4 y_x8 y_x9 = some (r0, z_m_manyA, z_m_rowA, z_m_manyB, z_m_rowB, z_m_group) → va_P (dC, dI) vwCl (wM cB cI cJ cZ a m_letters m_words m_wMany m_wLetters m_asks m_aWords m_dLetters m_dWords m_dMany m_dText m_dAsks m_dAsk m_tape m_taped m_pos m_from m_sort m_value m_fault m_wrongAt y_m_manyA y_m_rowA y_m_manyB y_m_rowB m_places m_xs m_ys m_heights m_ridges m_rx m_rHeight m_lanes m_sizes m_cells m_left m_calls m_cDay m_cHour m_cFrom m_cAsk m_cWord m_cOf m_isLie m_children m_learned m_group) H → va_D A (wM cB cI cJ cZ a m_letters m_words m_wMany m_wLetters m_asks m_aWords m_dLetters m_dWords m_dMany m_dText m_dAsks m_dAsk m_tape m_taped m_pos m_from m_sort m_value m_fault m_wrongAt y_m_manyA y_m_rowA y_m_manyB y_m_rowB m_places m_xs m_ys m_heights m_ridges m_rx m_rHeight m_lanes m_sizes m_cells m_left m_calls m_cDay m_cHour m_cFrom m_cAsk m_cWord m_cOf m_isLie m_children m_learned m_group) → va_S A s.heap H locs → lv_has ls 10 [(0, .ref (a 0)), (1, .int x1), (2, .int x2), (3, .int y_x3), (4, .int y_x4), (5, .int x5), (6, .int x6), (7, .int x7), (8, .int y_x8), (9, .int y_x9)] → W p l e { frames := 4, cells := 0, slots := 0, locals := 98 } s m args below meth c H locs 0 0 (MQ below (gI (dC, dI) (tyz cB cI cJ cZ) (wM cB cI cJ cZ a m_letters m_words m_wMany m_wLetters m_asks m_aWords m_dLetters m_dWords m_dMany m_dText m_dAsks m_dAsk m_tape m_taped m_pos m_from m_sort m_value m_fault m_wrongAt z_m_manyA z_m_rowA z_m_manyB z_m_rowB m_places m_xs m_ys m_heights m_ridges m_rx m_rHeight m_lanes m_sizes m_cells m_left m_calls m_cDay m_cHour m_cFrom m_cAsk m_cWord m_cOf m_isLie m_children m_learned z_m_group) A r0) args s 0 0 A) (F0 m 97 ls [])) (H : Heap) (locs : List Loc) (ls : Array Slot) : fX9_childOf_p125 n m_letters m_words m_wMany m_wLetters m_manyA m_rowA m_manyB m_rowB m_learned m_group x1 x2 x3 x4 x5 x6 x7 x9 s0 s1 rec60 rec97 = some (r0, z_m_manyA, z_m_rowA, z_m_manyB, z_m_rowB, z_m_group) → va_P (dC, dI) vwCl (wM cB cI cJ cZ a m_letters m_words m_wMany m_wLetters m_asks m_aWords m_dLetters m_dWords m_dMany m_dText m_dAsks m_dAsk m_tape m_taped m_pos m_from m_sort m_value m_fault m_wrongAt m_manyA m_rowA m_manyB m_rowB m_places m_xs m_ys m_heights m_ridges m_rx m_rHeight m_lanes m_sizes m_cells m_left m_calls m_cDay m_cHour m_cFrom m_cAsk m_cWord m_cOf m_isLie m_children m_learned m_group) H → va_D A (wM cB cI cJ cZ a m_letters m_words m_wMany m_wLetters m_asks m_aWords m_dLetters m_dWords m_dMany m_dText m_dAsks m_dAsk m_tape m_taped m_pos m_from m_sort m_value m_fault m_wrongAt m_manyA m_rowA m_manyB m_rowB m_places m_xs m_ys m_heights m_ridges m_rx m_rHeight m_lanes m_sizes m_cells m_left m_calls m_cDay m_cHour m_cFrom m_cAsk m_cWord m_cOf m_isLie m_children m_learned m_group) → va_S A s.heap H locs → lv_has ls 10 [(0, .ref (a 0)), (1, .int x1), (2, .int x2), (3, .int x3), (4, .int x4), (5, .int x5), (6, .int x6), (7, .int x7), (9, .int x9)] → W p l e { frames := 4, cells := 0, slots := 0, locals := 98 } s m args below meth c H locs 0 0 (MQ below (gI (dC, dI) (tyz cB cI cJ cZ) (wM cB cI cJ cZ a m_letters m_words m_wMany m_wLetters m_asks m_aWords m_dLetters m_dWords m_dMany m_dText m_dAsks m_dAsk m_tape m_taped m_pos m_from m_sort m_value m_fault m_wrongAt z_m_manyA z_m_rowA z_m_manyB z_m_rowB m_places m_xs m_ys m_heights m_ridges m_rx m_rHeight m_lanes m_sizes m_cells m_left m_calls m_cDay m_cHour m_cFrom m_cAsk m_cWord m_cOf m_isLie m_children m_learned z_m_group) A r0) args s 0 0 A) (F0 m 125 ls [.int s1, .int s0]) := by
  intro h hP hD hS hl
  obtain ⟨hx, hb, hr, hml, hown, hts, hlocks, hK, hA, hE⟩ := id C0
  have hw0 := hts (.fieldLink RX9 92 "WhistledWordsModel" "learned" "[I") (by decide +kernel)
  have hnX9 : ∀ w ∈ u_ws RX9 TX9 46, w ∈ wsX9_childOf := fun _ h => List.mem_cons_of_mem _ (List.mem_append_right _ h)
  unfold fX9_childOf_p125 at h
  refine lv_iadd hx hb dX9_childOf_125 ?_
  refine lv_topi (fun v1 ev1 => ?_)
  have h := nm_use ev1 h
  refine lv_istore (lv' := [(8, .int v1), (0, .ref (a 0)), (1, .int x1), (2, .int x2), (3, .int x3), (4, .int x4), (5, .int x5), (6, .int x6), (7, .int x7), (9, .int x9)]) hx hb dX9_childOf_126 hl (by decide) rfl (fun ls hl => ?_)
  refine lv_iload_n hx hb dX9_childOf_128 rfl (lv_at hl 4 rfl) ?_
  refine lv_iload hx hb dX9_childOf_129 (lv_at hl 9 rfl) ?_
  refine lv_iload hx hb dX9_childOf_131 (lv_at hl 8 rfl) ?_
  refine lv_icmp_ge (tgt := 156) hx hb dX9_childOf_133 (by decide) (fun c2 => ?_) (fun c2 => ?_)
  · have h := it_use c2 h
    refine lv_iconst (v := 0) hx hb dX9_childOf_156 (by decide) ?_
    exact kX9_childOf_p157 dC dI cB cI cJ cZ a C0 n m_letters m_words m_wMany m_wLetters m_asks m_aWords m_dLetters m_dWords m_dMany m_dText m_dAsks m_dAsk m_tape m_taped m_pos m_from m_sort m_value m_fault m_wrongAt m_manyA m_rowA m_manyB m_rowB m_places m_xs m_ys m_heights m_ridges m_rx m_rHeight m_lanes m_sizes m_cells m_left m_calls m_cDay m_cHour m_cFrom m_cAsk m_cWord m_cOf m_isLie m_children m_learned m_group x1 x2 x4 x5 x6 x7 v1 x9 x3 (0 : Int32) r0 z_m_manyA z_m_rowA z_m_manyB z_m_rowB z_m_group (rec60) hrec60 (rec97) hrec97 _ _ ls h hP hD hS (lv_sub hl [1, 2, 3, 5, 6, 7, 8, 0, 9] rfl)
  · have h := ie_use c2 h
    refine lv_aload_n hx hb dX9_childOf_136 rfl (lv_at hl 1 rfl) ?_
    refine gM_mo_learned hx hb hts hnX9 hown hK hP hw0 dX9_childOf_137 ?_
    refine lv_bipush (v := 16) hx hb dX9_childOf_140 (by decide) ?_
    refine lv_iload_n hx hb dX9_childOf_142 rfl (lv_at hl 2 rfl) ?_
    refine lv_imul hx hb dX9_childOf_143 ?_
    refine lv_iload hx hb dX9_childOf_144 (lv_at hl 8 rfl) ?_
    refine lv_iadd hx hb dX9_childOf_146 ?_
    obtain ⟨hiv3, h⟩ := ar_use h
    refine lM_mo_learned hx hb hK hP hiv3 dX9_childOf_147 ?_
    refine lv_topi (fun v3 ev3 => ?_)
    have h := h v3 ev3
    refine lv_iload hx hb dX9_childOf_148 (lv_at hl 9 rfl) ?_
    refine lv_ishr hx hb dX9_childOf_150 ?_
    refine lv_iconst (v := 1) hx hb dX9_childOf_151 (by decide) ?_
    refine lv_iand hx hb dX9_childOf_152 ?_
    refine lv_goto (tgt := 157) hx hb dX9_childOf_153 (by decide) ?_
    exact kX9_childOf_p157 dC dI cB cI cJ cZ a C0 n m_letters m_words m_wMany m_wLetters m_asks m_aWords m_dLetters m_dWords m_dMany m_dText m_dAsks m_dAsk m_tape m_taped m_pos m_from m_sort m_value m_fault m_wrongAt m_manyA m_rowA m_manyB m_rowB m_places m_xs m_ys m_heights m_ridges m_rx m_rHeight m_lanes m_sizes m_cells m_left m_calls m_cDay m_cHour m_cFrom m_cAsk m_cWord m_cOf m_isLie m_children m_learned m_group x1 x2 x4 x5 x6 x7 v1 x9 x3 ((v3 >>> (x9 &&& 31)) &&& (1 : Int32)) r0 z_m_manyA z_m_rowA z_m_manyB z_m_rowB z_m_group (rec60) hrec60 (rec97) hrec97 _ _ ls h hP hD hS (lv_sub hl [1, 2, 3, 5, 6, 7, 8, 0, 9] rfl)
set_option maxHeartbeats 4000000 in
set_option maxRecDepth 100000 in
theorem kX9_childOf_p194 {p : Program} {l : Launch} {e : Env} {s : State} {m : MethodId} {args : Array Value} {below : List Frame} {meth : Method} {c : Code} {A : Nat → Prop} (dC : Nat → ClassId) (dI : Nat → Nat → Nat) (cB cI cJ cZ : ClassId) (a : Nat → Nat) (C0 : cxt cX9_childOf (some .int) 10 RX9 wsX9_childOf (dC, dI) (tyz cB cI cJ cZ) E_0 A p s m args meth c) (n : Nat) (m_letters : Nat → Int32) (m_words : Int32) (m_wMany : Nat → Int32) (m_wLetters : Nat → Int32) (m_asks : Int32) (m_aWords : Nat → Int32) (m_dLetters : Nat → Int32) (m_dWords : Int32) (m_dMany : Nat → Int32) (m_dText : Nat → Int32) (m_dAsks : Int32) (m_dAsk : Nat → Int32) (m_tape : Nat → Int32) (m_taped : Int32) (m_pos : Int32) (m_from : Int32) (m_sort : Int32) (m_value : Int32) (m_fault : Int32) (m_wrongAt : Int32) (m_manyA : Int32) (m_rowA : Nat → Int32) (m_manyB : Int32) (m_rowB : Nat → Int32) (m_places : Int32) (m_xs : Nat → Int32) (m_ys : Nat → Int32) (m_heights : Nat → Int32) (m_ridges : Int32) (m_rx : Nat → Int32) (m_rHeight : Nat → Int32) (m_lanes : Nat → Int32) (m_sizes : Nat → Int32) (m_cells : Nat → Int32) (m_left : Nat → Int32) (m_calls : Int32) (m_cDay : Nat → Int32) (m_cHour : Nat → Int32) (m_cFrom : Nat → Int32) (m_cAsk : Nat → Int32) (m_cWord : Nat → Int32) (m_cOf : Nat → Int32) (m_isLie : Nat → Int32) (m_children : Int32) (m_learned : Nat → Int32) (m_group : Nat → Int32)  (x1 : Int32) (x2 : Int32) (x3 : Int32) (x4 : Int32) (x5 : Int32) (x6 : Int32) (x7 : Int32) (x8 : Int32)  (r0 : Int32) (z_m_manyA : Int32) (z_m_rowA : Nat → Int32) (z_m_manyB : Int32) (z_m_rowB : Nat → Int32) (z_m_group : Nat → Int32) (rec60 : Int32 → (Nat → Int32) → Int32 → (Nat → Int32) → Int32 → Int32 → Int32 → Int32 → Int32 → Option (Int32 × Int32 × (Nat → Int32) × Int32 × (Nat → Int32) × (Nat → Int32))) (hrec60 : ∀ (y_m_manyA : Int32) (y_m_rowA : Nat → Int32) (y_m_manyB : Int32) (y_m_rowB : Nat → Int32) (y_x3 : Int32) (y_x4 : Int32) (y_x5 : Int32) (y_x6 : Int32) (y_x7 : Int32) (H : Heap) (locs : List Loc) (ls : Array Slot), rec60 y_m_manyA y_m_rowA y_m_manyB y_m_rowB y_x3 y_x4 y_x5 y_x6 y_x7 = some (r0, z_m_manyA, z_m_rowA, z_m_manyB, z_m_rowB, z_m_group) → va_P (dC, dI) vwCl (wM cB cI cJ cZ a m_letters m_words m_wMany m_wLetters m_asks m_aWords m_dLetters m_dWords m_dMany m_dText m_dAsks m_dAsk m_tape m_taped m_pos m_from m_sort m_value m_fault m_wrongAt y_m_manyA y_m_rowA y_m_manyB y_m_rowB m_places m_xs m_ys m_heights m_ridges m_rx m_rHeight m_lanes m_sizes m_cells m_left m_calls m_cDay m_cHour m_cFrom m_cAsk m_cWord m_cOf m_isLie m_children m_learned m_group) H → va_D A (wM cB cI cJ cZ a m_letters m_words m_wMany m_wLetters m_asks m_aWords m_dLetters m_dWords m_dMany m_dText m_dAsks m_dAsk m_tape m_taped m_pos m_from m_sort m_value m_fault m_wrongAt y_m_manyA y_m_rowA y_m_manyB y_m_rowB m_places m_xs m_ys m_heights m_ridges m_rx m_rHeight m_lanes m_sizes m_cells m_left m_calls m_cDay m_cHour m_cFrom m_cAsk m_cWord m_cOf m_isLie m_children m_learned m_group) → va_S A s.heap H locs → lv_has ls 10 [(0, .ref (a 0)), (1, .int x1), (2, .int x2), (3, .int y_x3), (4, .int y_x4), (5, .int y_x5), (6, .int y_x6), (7, .int y_x7)] → W p l e { frames := 4, cells := 0, slots := 0, locals := 98 } s m args below meth c H locs 0 0 (MQ below (gI (dC, dI) (tyz cB cI cJ cZ) (wM cB cI cJ cZ a m_letters m_words m_wMany m_wLetters m_asks m_aWords m_dLetters m_dWords m_dMany m_dText m_dAsks m_dAsk m_tape m_taped m_pos m_from m_sort m_value m_fault m_wrongAt z_m_manyA z_m_rowA z_m_manyB z_m_rowB m_places m_xs m_ys m_heights m_ridges m_rx m_rHeight m_lanes m_sizes m_cells m_left m_calls m_cDay m_cHour m_cFrom m_cAsk m_cWord m_cOf m_isLie m_children m_learned z_m_group) A r0) args s 0 0 A) (F0 m 60 ls [])) (H : Heap) (locs : List Loc) (ls : Array Slot) : fX9_childOf_p194 n m_letters m_words m_wMany m_wLetters m_manyA m_rowA m_manyB m_rowB m_learned m_group x1 x2 x3 x4 x5 x6 x7 x8 rec60 = some (r0, z_m_manyA, z_m_rowA, z_m_manyB, z_m_rowB, z_m_group) → va_P (dC, dI) vwCl (wM cB cI cJ cZ a m_letters m_words m_wMany m_wLetters m_asks m_aWords m_dLetters m_dWords m_dMany m_dText m_dAsks m_dAsk m_tape m_taped m_pos m_from m_sort m_value m_fault m_wrongAt m_manyA m_rowA m_manyB m_rowB m_places m_xs m_ys m_heights m_ridges m_rx m_rHeight m_lanes m_sizes m_cells m_left m_calls m_cDay m_cHour m_cFrom m_cAsk m_cWord m_cOf m_isLie m_children m_learned m_group) H → va_D A (wM cB cI cJ cZ a m_letters m_words m_wMany m_wLetters m_asks m_aWords m_dLetters m_dWords m_dMany m_dText m_dAsks m_dAsk m_tape m_taped m_pos m_from m_sort m_value m_fault m_wrongAt m_manyA m_rowA m_manyB m_rowB m_places m_xs m_ys m_heights m_ridges m_rx m_rHeight m_lanes m_sizes m_cells m_left m_calls m_cDay m_cHour m_cFrom m_cAsk m_cWord m_cOf m_isLie m_children m_learned m_group) → va_S A s.heap H locs → lv_has ls 10 [(0, .ref (a 0)), (1, .int x1), (2, .int x2), (3, .int x3), (4, .int x4), (5, .int x5), (6, .int x6), (7, .int x7), (8, .int x8)] → W p l e { frames := 4, cells := 0, slots := 0, locals := 98 } s m args below meth c H locs 0 0 (MQ below (gI (dC, dI) (tyz cB cI cJ cZ) (wM cB cI cJ cZ a m_letters m_words m_wMany m_wLetters m_asks m_aWords m_dLetters m_dWords m_dMany m_dText m_dAsks m_dAsk m_tape m_taped m_pos m_from m_sort m_value m_fault m_wrongAt z_m_manyA z_m_rowA z_m_manyB z_m_rowB m_places m_xs m_ys m_heights m_ridges m_rx m_rHeight m_lanes m_sizes m_cells m_left m_calls m_cDay m_cHour m_cFrom m_cAsk m_cWord m_cOf m_isLie m_children m_learned z_m_group) A r0) args s 0 0 A) (F0 m 194 ls []) := by
  intro h hP hD hS hl
  obtain ⟨hx, hb, hr, hml, hown, hts, hlocks, hK, hA, hE⟩ := id C0
  unfold fX9_childOf_p194 at h
  refine lv_iload hx hb dX9_childOf_194 (lv_at hl 8 rfl) ?_
  refine lv_iload hx hb dX9_childOf_196 (lv_at hl 6 rfl) ?_
  refine lv_icmp_le (tgt := 206) hx hb dX9_childOf_198 (by decide) (fun c1 => ?_) (fun c1 => ?_)
  · have h := it_use c1 h
    refine lv_iload hx hb dX9_childOf_206 (lv_at hl 6 rfl) ?_
    refine lv_istore (lv' := [(6, .int x6), (0, .ref (a 0)), (1, .int x1), (2, .int x2), (3, .int x3), (4, .int x4), (5, .int x5), (7, .int x7), (8, .int x8)]) hx hb dX9_childOf_208 hl (by decide) rfl (fun ls hl => ?_)
    refine lv_iinc (v := x7 + 1) (lv' := [(7, .int (x7 + 1)), (6, .int x6), (0, .ref (a 0)), (1, .int x1), (2, .int x2), (3, .int x3), (4, .int x4), (5, .int x5), (8, .int x8)]) hx hb dX9_childOf_210 hl (k := 7) rfl rfl (by decide) rfl (fun ls hl => ?_)
    refine lv_goto (tgt := 60) hx hb dX9_childOf_213 (by decide) ?_
    exact hrec60 m_manyA m_rowA m_manyB m_rowB x3 x4 x5 x6 (x7 + 1) _ _ ls h hP hD hS (lv_sub hl [2, 3, 4, 5, 6, 7, 1, 0] rfl)
  · have h := ie_use c1 h
    refine lv_iload hx hb dX9_childOf_201 (lv_at hl 8 rfl) ?_
    refine lv_goto (tgt := 208) hx hb dX9_childOf_203 (by decide) ?_
    refine lv_istore (lv' := [(6, .int x8), (0, .ref (a 0)), (1, .int x1), (2, .int x2), (3, .int x3), (4, .int x4), (5, .int x5), (7, .int x7), (8, .int x8)]) hx hb dX9_childOf_208 hl (by decide) rfl (fun ls hl => ?_)
    refine lv_iinc (v := x7 + 1) (lv' := [(7, .int (x7 + 1)), (6, .int x8), (0, .ref (a 0)), (1, .int x1), (2, .int x2), (3, .int x3), (4, .int x4), (5, .int x5), (8, .int x8)]) hx hb dX9_childOf_210 hl (k := 7) rfl rfl (by decide) rfl (fun ls hl => ?_)
    refine lv_goto (tgt := 60) hx hb dX9_childOf_213 (by decide) ?_
    exact hrec60 m_manyA m_rowA m_manyB m_rowB x3 x4 x5 x8 (x7 + 1) _ _ ls h hP hD hS (lv_sub hl [2, 3, 4, 5, 6, 7, 1, 0] rfl)
set_option maxHeartbeats 4000000 in
set_option maxRecDepth 100000 in
theorem kX9_childOf_p97_r {p : Program} {l : Launch} {e : Env} {s : State} {m : MethodId} {args : Array Value} {below : List Frame} {meth : Method} {c : Code} {A : Nat → Prop} (dC : Nat → ClassId) (dI : Nat → Nat → Nat) (cB cI cJ cZ : ClassId) (a : Nat → Nat) (C0 : cxt cX9_childOf (some .int) 10 RX9 wsX9_childOf (dC, dI) (tyz cB cI cJ cZ) E_0 A p s m args meth c) (n : Nat) (m_letters : Nat → Int32) (m_words : Int32) (m_wMany : Nat → Int32) (m_wLetters : Nat → Int32) (m_asks : Int32) (m_aWords : Nat → Int32) (m_dLetters : Nat → Int32) (m_dWords : Int32) (m_dMany : Nat → Int32) (m_dText : Nat → Int32) (m_dAsks : Int32) (m_dAsk : Nat → Int32) (m_tape : Nat → Int32) (m_taped : Int32) (m_pos : Int32) (m_from : Int32) (m_sort : Int32) (m_value : Int32) (m_fault : Int32) (m_wrongAt : Int32) (m_places : Int32) (m_xs : Nat → Int32) (m_ys : Nat → Int32) (m_heights : Nat → Int32) (m_ridges : Int32) (m_rx : Nat → Int32) (m_rHeight : Nat → Int32) (m_lanes : Nat → Int32) (m_sizes : Nat → Int32) (m_cells : Nat → Int32) (m_left : Nat → Int32) (m_calls : Int32) (m_cDay : Nat → Int32) (m_cHour : Nat → Int32) (m_cFrom : Nat → Int32) (m_cAsk : Nat → Int32) (m_cWord : Nat → Int32) (m_cOf : Nat → Int32) (m_isLie : Nat → Int32) (m_children : Int32) (m_learned : Nat → Int32) (m_group : Nat → Int32) (x1 : Int32) (x2 : Int32) (x5 : Int32) (x6 : Int32) (x7 : Int32) (r0 : Int32) (z_m_manyA : Int32) (z_m_rowA : Nat → Int32) (z_m_manyB : Int32) (z_m_rowB : Nat → Int32) (z_m_group : Nat → Int32) (rec60 : Int32 → (Nat → Int32) → Int32 → (Nat → Int32) → Int32 → Int32 → Int32 → Int32 → Int32 → Option (Int32 × Int32 × (Nat → Int32) × Int32 × (Nat → Int32) × (Nat → Int32))) (hrec60 : ∀ (y_m_manyA : Int32) (y_m_rowA : Nat → Int32) (y_m_manyB : Int32) (y_m_rowB : Nat → Int32) (y_x3 : Int32) (y_x4 : Int32) (y_x5 : Int32) (y_x6 : Int32) (y_x7 : Int32) (H : Heap) (locs : List Loc) (ls : Array Slot), rec60 y_m_manyA y_m_rowA y_m_manyB y_m_rowB y_x3 y_x4 y_x5 y_x6 y_x7 = some (r0, z_m_manyA, z_m_rowA, z_m_manyB, z_m_rowB, z_m_group) → va_P (dC, dI) vwCl (wM cB cI cJ cZ a m_letters m_words m_wMany m_wLetters m_asks m_aWords m_dLetters m_dWords m_dMany m_dText m_dAsks m_dAsk m_tape m_taped m_pos m_from m_sort m_value m_fault m_wrongAt y_m_manyA y_m_rowA y_m_manyB y_m_rowB m_places m_xs m_ys m_heights m_ridges m_rx m_rHeight m_lanes m_sizes m_cells m_left m_calls m_cDay m_cHour m_cFrom m_cAsk m_cWord m_cOf m_isLie m_children m_learned m_group) H → va_D A (wM cB cI cJ cZ a m_letters m_words m_wMany m_wLetters m_asks m_aWords m_dLetters m_dWords m_dMany m_dText m_dAsks m_dAsk m_tape m_taped m_pos m_from m_sort m_value m_fault m_wrongAt y_m_manyA y_m_rowA y_m_manyB y_m_rowB m_places m_xs m_ys m_heights m_ridges m_rx m_rHeight m_lanes m_sizes m_cells m_left m_calls m_cDay m_cHour m_cFrom m_cAsk m_cWord m_cOf m_isLie m_children m_learned m_group) → va_S A s.heap H locs → lv_has ls 10 [(0, .ref (a 0)), (1, .int x1), (2, .int x2), (3, .int y_x3), (4, .int y_x4), (5, .int y_x5), (6, .int y_x6), (7, .int y_x7)] → W p l e { frames := 4, cells := 0, slots := 0, locals := 98 } s m args below meth c H locs 0 0 (MQ below (gI (dC, dI) (tyz cB cI cJ cZ) (wM cB cI cJ cZ a m_letters m_words m_wMany m_wLetters m_asks m_aWords m_dLetters m_dWords m_dMany m_dText m_dAsks m_dAsk m_tape m_taped m_pos m_from m_sort m_value m_fault m_wrongAt z_m_manyA z_m_rowA z_m_manyB z_m_rowB m_places m_xs m_ys m_heights m_ridges m_rx m_rHeight m_lanes m_sizes m_cells m_left m_calls m_cDay m_cHour m_cFrom m_cAsk m_cWord m_cOf m_isLie m_children m_learned z_m_group) A r0) args s 0 0 A) (F0 m 60 ls [])) : ∀ (k : Nat) (m_manyA : Int32) (m_rowA : Nat → Int32) (m_manyB : Int32) (m_rowB : Nat → Int32) (x3 : Int32) (x4 : Int32) (x8 : Int32) (x9 : Int32) (H : Heap) (locs : List Loc) (ls : Array Slot), fX9_childOf_p97 n m_letters m_words m_wMany m_wLetters m_learned m_group x1 x2 x5 x6 x7 rec60 k m_manyA m_rowA m_manyB m_rowB x3 x4 x8 x9 = some (r0, z_m_manyA, z_m_rowA, z_m_manyB, z_m_rowB, z_m_group) → va_P (dC, dI) vwCl (wM cB cI cJ cZ a m_letters m_words m_wMany m_wLetters m_asks m_aWords m_dLetters m_dWords m_dMany m_dText m_dAsks m_dAsk m_tape m_taped m_pos m_from m_sort m_value m_fault m_wrongAt m_manyA m_rowA m_manyB m_rowB m_places m_xs m_ys m_heights m_ridges m_rx m_rHeight m_lanes m_sizes m_cells m_left m_calls m_cDay m_cHour m_cFrom m_cAsk m_cWord m_cOf m_isLie m_children m_learned m_group) H → va_D A (wM cB cI cJ cZ a m_letters m_words m_wMany m_wLetters m_asks m_aWords m_dLetters m_dWords m_dMany m_dText m_dAsks m_dAsk m_tape m_taped m_pos m_from m_sort m_value m_fault m_wrongAt m_manyA m_rowA m_manyB m_rowB m_places m_xs m_ys m_heights m_ridges m_rx m_rHeight m_lanes m_sizes m_cells m_left m_calls m_cDay m_cHour m_cFrom m_cAsk m_cWord m_cOf m_isLie m_children m_learned m_group) → va_S A s.heap H locs → lv_has ls 10 [(0, .ref (a 0)), (1, .int x1), (2, .int x2), (3, .int x3), (4, .int x4), (5, .int x5), (6, .int x6), (7, .int x7), (8, .int x8), (9, .int x9)] → W p l e { frames := 4, cells := 0, slots := 0, locals := 98 } s m args below meth c H locs 0 0 (MQ below (gI (dC, dI) (tyz cB cI cJ cZ) (wM cB cI cJ cZ a m_letters m_words m_wMany m_wLetters m_asks m_aWords m_dLetters m_dWords m_dMany m_dText m_dAsks m_dAsk m_tape m_taped m_pos m_from m_sort m_value m_fault m_wrongAt z_m_manyA z_m_rowA z_m_manyB z_m_rowB m_places m_xs m_ys m_heights m_ridges m_rx m_rHeight m_lanes m_sizes m_cells m_left m_calls m_cDay m_cHour m_cFrom m_cAsk m_cWord m_cOf m_isLie m_children m_learned z_m_group) A r0) args s 0 0 A) (F0 m 97 ls []) := by
  obtain ⟨hx, hb, hr, hml, hown, hts, hlocks, hK, hA, hE⟩ := id C0
  have hw0 := hts (.fieldLink RX9 186 "WhistledWordsModel" "words" "I") (by decide +kernel)
  have hw1 := hts (.fieldLink RX9 95 "WhistledWordsModel" "group" "[I") (by decide +kernel)
  have hnX9 : ∀ w ∈ u_ws RX9 TX9 46, w ∈ wsX9_childOf := fun _ h => List.mem_cons_of_mem _ (List.mem_append_right _ h)
  intro k
  induction k with
  | zero =>
    intro m_manyA m_rowA m_manyB m_rowB x3 x4 x8 x9 H locs ls h
    cases h
  | succ k ih =>
    intro m_manyA m_rowA m_manyB m_rowB x3 x4 x8 x9 H locs ls h hP hD hS hl
    rw [fX9_childOf_p97] at h
    refine lv_iload hx hb dX9_childOf_97 (lv_at hl 9 rfl) ?_
    refine lv_aload_n hx hb dX9_childOf_99 rfl (lv_at hl 0 rfl) ?_
    refine gM_mo_words hx hb hts hnX9 hown hK hP hw0 dX9_childOf_100 ?_
    refine lv_icmp_ge (tgt := 194) hx hb dX9_childOf_103 (by decide) (fun c1 => ?_) (fun c1 => ?_)
    · have h := it_use c1 h
      exact kX9_childOf_p194 dC dI cB cI cJ cZ a C0 n m_letters m_words m_wMany m_wLetters m_asks m_aWords m_dLetters m_dWords m_dMany m_dText m_dAsks m_dAsk m_tape m_taped m_pos m_from m_sort m_value m_fault m_wrongAt m_manyA m_rowA m_manyB m_rowB m_places m_xs m_ys m_heights m_ridges m_rx m_rHeight m_lanes m_sizes m_cells m_left m_calls m_cDay m_cHour m_cFrom m_cAsk m_cWord m_cOf m_isLie m_children m_learned m_group x1 x2 x3 x4 x5 x6 x7 x8  r0 z_m_manyA z_m_rowA z_m_manyB z_m_rowB z_m_group (rec60) hrec60 _ _ ls h hP hD hS (lv_sub hl [0, 1, 2, 3, 4, 5, 6, 7, 8] rfl)
    · have h := ie_use c1 h
      refine lv_iload hx hb dX9_childOf_106 (lv_at hl 8 rfl) ?_
      refine lv_aload_n hx hb dX9_childOf_108 rfl (lv_at hl 0 rfl) ?_
      refine gM_mo_group hx hb hts hnX9 hown hK hP hw1 dX9_childOf_109 ?_
      refine lv_iload hx hb dX9_childOf_112 (lv_at hl 9 rfl) ?_
      obtain ⟨hiv2, h⟩ := ar_use h
      refine lM_mo_group hx hb hK hP hiv2 dX9_childOf_114 ?_
      refine lv_topi (fun v2 ev2 => ?_)
      have h := h v2 ev2
      refine lv_iload hx hb dX9_childOf_115 (lv_at hl 7 rfl) ?_
      refine lv_icmp_ne (tgt := 124) hx hb dX9_childOf_117 (by decide) (fun c3 => ?_) (fun c3 => ?_)
      · have h := ie_use c3 h
        refine lv_iconst (v := 0) hx hb dX9_childOf_124 (by decide) ?_
        exact kX9_childOf_p125 dC dI cB cI cJ cZ a C0 n m_letters m_words m_wMany m_wLetters m_asks m_aWords m_dLetters m_dWords m_dMany m_dText m_dAsks m_dAsk m_tape m_taped m_pos m_from m_sort m_value m_fault m_wrongAt m_manyA m_rowA m_manyB m_rowB m_places m_xs m_ys m_heights m_ridges m_rx m_rHeight m_lanes m_sizes m_cells m_left m_calls m_cDay m_cHour m_cFrom m_cAsk m_cWord m_cOf m_isLie m_children m_learned m_group x1 x2 x3 x4 x5 x6 x7 x9 x8 (0 : Int32) r0 z_m_manyA z_m_rowA z_m_manyB z_m_rowB z_m_group (rec60) hrec60 (fX9_childOf_p97 n m_letters m_words m_wMany m_wLetters m_learned m_group x1 x2 x5 x6 x7 rec60 k) ih _ _ ls h hP hD hS (lv_sub hl [0, 1, 2, 3, 4, 5, 6, 7, 9] rfl)
      · have h := it_use c3 h
        refine lv_iconst (v := 1) hx hb dX9_childOf_120 (by decide) ?_
        refine lv_goto (tgt := 125) hx hb dX9_childOf_121 (by decide) ?_
        exact kX9_childOf_p125 dC dI cB cI cJ cZ a C0 n m_letters m_words m_wMany m_wLetters m_asks m_aWords m_dLetters m_dWords m_dMany m_dText m_dAsks m_dAsk m_tape m_taped m_pos m_from m_sort m_value m_fault m_wrongAt m_manyA m_rowA m_manyB m_rowB m_places m_xs m_ys m_heights m_ridges m_rx m_rHeight m_lanes m_sizes m_cells m_left m_calls m_cDay m_cHour m_cFrom m_cAsk m_cWord m_cOf m_isLie m_children m_learned m_group x1 x2 x3 x4 x5 x6 x7 x9 x8 (1 : Int32) r0 z_m_manyA z_m_rowA z_m_manyB z_m_rowB z_m_group (rec60) hrec60 (fX9_childOf_p97 n m_letters m_words m_wMany m_wLetters m_learned m_group x1 x2 x5 x6 x7 rec60 k) ih _ _ ls h hP hD hS (lv_sub hl [0, 1, 2, 3, 4, 5, 6, 7, 9] rfl)
theorem kX9_childOf_p97 {p : Program} {l : Launch} {e : Env} {s : State} {m : MethodId} {args : Array Value} {below : List Frame} {meth : Method} {c : Code} {A : Nat → Prop} (dC : Nat → ClassId) (dI : Nat → Nat → Nat) (cB cI cJ cZ : ClassId) (a : Nat → Nat) (C0 : cxt cX9_childOf (some .int) 10 RX9 wsX9_childOf (dC, dI) (tyz cB cI cJ cZ) E_0 A p s m args meth c) (n : Nat) (m_letters : Nat → Int32) (m_words : Int32) (m_wMany : Nat → Int32) (m_wLetters : Nat → Int32) (m_asks : Int32) (m_aWords : Nat → Int32) (m_dLetters : Nat → Int32) (m_dWords : Int32) (m_dMany : Nat → Int32) (m_dText : Nat → Int32) (m_dAsks : Int32) (m_dAsk : Nat → Int32) (m_tape : Nat → Int32) (m_taped : Int32) (m_pos : Int32) (m_from : Int32) (m_sort : Int32) (m_value : Int32) (m_fault : Int32) (m_wrongAt : Int32) (m_manyA : Int32) (m_rowA : Nat → Int32) (m_manyB : Int32) (m_rowB : Nat → Int32) (m_places : Int32) (m_xs : Nat → Int32) (m_ys : Nat → Int32) (m_heights : Nat → Int32) (m_ridges : Int32) (m_rx : Nat → Int32) (m_rHeight : Nat → Int32) (m_lanes : Nat → Int32) (m_sizes : Nat → Int32) (m_cells : Nat → Int32) (m_left : Nat → Int32) (m_calls : Int32) (m_cDay : Nat → Int32) (m_cHour : Nat → Int32) (m_cFrom : Nat → Int32) (m_cAsk : Nat → Int32) (m_cWord : Nat → Int32) (m_cOf : Nat → Int32) (m_isLie : Nat → Int32) (m_children : Int32) (m_learned : Nat → Int32) (m_group : Nat → Int32)  (x1 : Int32) (x2 : Int32) (x3 : Int32) (x4 : Int32) (x5 : Int32) (x6 : Int32) (x7 : Int32) (x8 : Int32) (x9 : Int32) (r0 : Int32) (z_m_manyA : Int32) (z_m_rowA : Nat → Int32) (z_m_manyB : Int32) (z_m_rowB : Nat → Int32) (z_m_group : Nat → Int32) (rec60 : Int32 → (Nat → Int32) → Int32 → (Nat → Int32) → Int32 → Int32 → Int32 → Int32 → Int32 → Option (Int32 × Int32 × (Nat → Int32) × Int32 × (Nat → Int32) × (Nat → Int32))) (hrec60 : ∀ (y_m_manyA : Int32) (y_m_rowA : Nat → Int32) (y_m_manyB : Int32) (y_m_rowB : Nat → Int32) (y_x3 : Int32) (y_x4 : Int32) (y_x5 : Int32) (y_x6 : Int32) (y_x7 : Int32) (H : Heap) (locs : List Loc) (ls : Array Slot), rec60 y_m_manyA y_m_rowA y_m_manyB y_m_rowB y_x3 y_x4 y_x5 y_x6 y_x7 = some (r0, z_m_manyA, z_m_rowA, z_m_manyB, z_m_rowB, z_m_group) → va_P (dC, dI) vwCl (wM cB cI cJ cZ a m_letters m_words m_wMany m_wLetters m_asks m_aWords m_dLetters m_dWords m_dMany m_dText m_dAsks m_dAsk m_tape m_taped m_pos m_from m_sort m_value m_fault m_wrongAt y_m_manyA y_m_rowA y_m_manyB y_m_rowB m_places m_xs m_ys m_heights m_ridges m_rx m_rHeight m_lanes m_sizes m_cells m_left m_calls m_cDay m_cHour m_cFrom m_cAsk m_cWord m_cOf m_isLie m_children m_learned m_group) H → va_D A (wM cB cI cJ cZ a m_letters m_words m_wMany m_wLetters m_asks m_aWords m_dLetters m_dWords m_dMany m_dText m_dAsks m_dAsk m_tape m_taped m_pos m_from m_sort m_value m_fault m_wrongAt y_m_manyA y_m_rowA y_m_manyB y_m_rowB m_places m_xs m_ys m_heights m_ridges m_rx m_rHeight m_lanes m_sizes m_cells m_left m_calls m_cDay m_cHour m_cFrom m_cAsk m_cWord m_cOf m_isLie m_children m_learned m_group) → va_S A s.heap H locs → lv_has ls 10 [(0, .ref (a 0)), (1, .int x1), (2, .int x2), (3, .int y_x3), (4, .int y_x4), (5, .int y_x5), (6, .int y_x6), (7, .int y_x7)] → W p l e { frames := 4, cells := 0, slots := 0, locals := 98 } s m args below meth c H locs 0 0 (MQ below (gI (dC, dI) (tyz cB cI cJ cZ) (wM cB cI cJ cZ a m_letters m_words m_wMany m_wLetters m_asks m_aWords m_dLetters m_dWords m_dMany m_dText m_dAsks m_dAsk m_tape m_taped m_pos m_from m_sort m_value m_fault m_wrongAt z_m_manyA z_m_rowA z_m_manyB z_m_rowB m_places m_xs m_ys m_heights m_ridges m_rx m_rHeight m_lanes m_sizes m_cells m_left m_calls m_cDay m_cHour m_cFrom m_cAsk m_cWord m_cOf m_isLie m_children m_learned z_m_group) A r0) args s 0 0 A) (F0 m 60 ls [])) (k : Nat) (H : Heap) (locs : List Loc) (ls : Array Slot) : fX9_childOf_p97 n m_letters m_words m_wMany m_wLetters m_learned m_group x1 x2 x5 x6 x7 rec60 k m_manyA m_rowA m_manyB m_rowB x3 x4 x8 x9 = some (r0, z_m_manyA, z_m_rowA, z_m_manyB, z_m_rowB, z_m_group) → va_P (dC, dI) vwCl (wM cB cI cJ cZ a m_letters m_words m_wMany m_wLetters m_asks m_aWords m_dLetters m_dWords m_dMany m_dText m_dAsks m_dAsk m_tape m_taped m_pos m_from m_sort m_value m_fault m_wrongAt m_manyA m_rowA m_manyB m_rowB m_places m_xs m_ys m_heights m_ridges m_rx m_rHeight m_lanes m_sizes m_cells m_left m_calls m_cDay m_cHour m_cFrom m_cAsk m_cWord m_cOf m_isLie m_children m_learned m_group) H → va_D A (wM cB cI cJ cZ a m_letters m_words m_wMany m_wLetters m_asks m_aWords m_dLetters m_dWords m_dMany m_dText m_dAsks m_dAsk m_tape m_taped m_pos m_from m_sort m_value m_fault m_wrongAt m_manyA m_rowA m_manyB m_rowB m_places m_xs m_ys m_heights m_ridges m_rx m_rHeight m_lanes m_sizes m_cells m_left m_calls m_cDay m_cHour m_cFrom m_cAsk m_cWord m_cOf m_isLie m_children m_learned m_group) → va_S A s.heap H locs → lv_has ls 10 [(0, .ref (a 0)), (1, .int x1), (2, .int x2), (3, .int x3), (4, .int x4), (5, .int x5), (6, .int x6), (7, .int x7), (8, .int x8), (9, .int x9)] → W p l e { frames := 4, cells := 0, slots := 0, locals := 98 } s m args below meth c H locs 0 0 (MQ below (gI (dC, dI) (tyz cB cI cJ cZ) (wM cB cI cJ cZ a m_letters m_words m_wMany m_wLetters m_asks m_aWords m_dLetters m_dWords m_dMany m_dText m_dAsks m_dAsk m_tape m_taped m_pos m_from m_sort m_value m_fault m_wrongAt z_m_manyA z_m_rowA z_m_manyB z_m_rowB m_places m_xs m_ys m_heights m_ridges m_rx m_rHeight m_lanes m_sizes m_cells m_left m_calls m_cDay m_cHour m_cFrom m_cAsk m_cWord m_cOf m_isLie m_children m_learned z_m_group) A r0) args s 0 0 A) (F0 m 97 ls []) :=
  kX9_childOf_p97_r dC dI cB cI cJ cZ a C0 n m_letters m_words m_wMany m_wLetters m_asks m_aWords m_dLetters m_dWords m_dMany m_dText m_dAsks m_dAsk m_tape m_taped m_pos m_from m_sort m_value m_fault m_wrongAt m_places m_xs m_ys m_heights m_ridges m_rx m_rHeight m_lanes m_sizes m_cells m_left m_calls m_cDay m_cHour m_cFrom m_cAsk m_cWord m_cOf m_isLie m_children m_learned m_group x1 x2 x5 x6 x7 r0 z_m_manyA z_m_rowA z_m_manyB z_m_rowB z_m_group rec60 hrec60 k m_manyA m_rowA m_manyB m_rowB x3 x4 x8 x9 H locs ls
set_option maxHeartbeats 4000000 in
set_option maxRecDepth 100000 in
theorem kX9_childOf_p216 {p : Program} {l : Launch} {e : Env} {s : State} {m : MethodId} {args : Array Value} {below : List Frame} {meth : Method} {c : Code} {A : Nat → Prop} (dC : Nat → ClassId) (dI : Nat → Nat → Nat) (cB cI cJ cZ : ClassId) (a : Nat → Nat) (C0 : cxt cX9_childOf (some .int) 10 RX9 wsX9_childOf (dC, dI) (tyz cB cI cJ cZ) E_0 A p s m args meth c) (n : Nat) (m_letters : Nat → Int32) (m_words : Int32) (m_wMany : Nat → Int32) (m_wLetters : Nat → Int32) (m_asks : Int32) (m_aWords : Nat → Int32) (m_dLetters : Nat → Int32) (m_dWords : Int32) (m_dMany : Nat → Int32) (m_dText : Nat → Int32) (m_dAsks : Int32) (m_dAsk : Nat → Int32) (m_tape : Nat → Int32) (m_taped : Int32) (m_pos : Int32) (m_from : Int32) (m_sort : Int32) (m_value : Int32) (m_fault : Int32) (m_wrongAt : Int32) (m_manyA : Int32) (m_rowA : Nat → Int32) (m_manyB : Int32) (m_rowB : Nat → Int32) (m_places : Int32) (m_xs : Nat → Int32) (m_ys : Nat → Int32) (m_heights : Nat → Int32) (m_ridges : Int32) (m_rx : Nat → Int32) (m_rHeight : Nat → Int32) (m_lanes : Nat → Int32) (m_sizes : Nat → Int32) (m_cells : Nat → Int32) (m_left : Nat → Int32) (m_calls : Int32) (m_cDay : Nat → Int32) (m_cHour : Nat → Int32) (m_cFrom : Nat → Int32) (m_cAsk : Nat → Int32) (m_cWord : Nat → Int32) (m_cOf : Nat → Int32) (m_isLie : Nat → Int32) (m_children : Int32) (m_learned : Nat → Int32) (m_group : Nat → Int32)  (x2 : Int32) (x3 : Int32) (x4 : Int32) (x5 : Int32) (x6 : Int32)  (r0 : Int32) (z_m_manyA : Int32) (z_m_rowA : Nat → Int32) (z_m_manyB : Int32) (z_m_rowB : Nat → Int32) (z_m_group : Nat → Int32)  (H : Heap) (locs : List Loc) (ls : Array Slot) : fX9_childOf_p216 n m_manyA m_rowA m_manyB m_rowB m_group x2 x3 x4 x5 x6 = some (r0, z_m_manyA, z_m_rowA, z_m_manyB, z_m_rowB, z_m_group) → va_P (dC, dI) vwCl (wM cB cI cJ cZ a m_letters m_words m_wMany m_wLetters m_asks m_aWords m_dLetters m_dWords m_dMany m_dText m_dAsks m_dAsk m_tape m_taped m_pos m_from m_sort m_value m_fault m_wrongAt m_manyA m_rowA m_manyB m_rowB m_places m_xs m_ys m_heights m_ridges m_rx m_rHeight m_lanes m_sizes m_cells m_left m_calls m_cDay m_cHour m_cFrom m_cAsk m_cWord m_cOf m_isLie m_children m_learned m_group) H → va_D A (wM cB cI cJ cZ a m_letters m_words m_wMany m_wLetters m_asks m_aWords m_dLetters m_dWords m_dMany m_dText m_dAsks m_dAsk m_tape m_taped m_pos m_from m_sort m_value m_fault m_wrongAt m_manyA m_rowA m_manyB m_rowB m_places m_xs m_ys m_heights m_ridges m_rx m_rHeight m_lanes m_sizes m_cells m_left m_calls m_cDay m_cHour m_cFrom m_cAsk m_cWord m_cOf m_isLie m_children m_learned m_group) → va_S A s.heap H locs → lv_has ls 10 [(0, .ref (a 0)), (2, .int x2), (3, .int x3), (4, .int x4), (5, .int x5), (6, .int x6)] → W p l e { frames := 4, cells := 0, slots := 0, locals := 98 } s m args below meth c H locs 0 0 (MQ below (gI (dC, dI) (tyz cB cI cJ cZ) (wM cB cI cJ cZ a m_letters m_words m_wMany m_wLetters m_asks m_aWords m_dLetters m_dWords m_dMany m_dText m_dAsks m_dAsk m_tape m_taped m_pos m_from m_sort m_value m_fault m_wrongAt z_m_manyA z_m_rowA z_m_manyB z_m_rowB m_places m_xs m_ys m_heights m_ridges m_rx m_rHeight m_lanes m_sizes m_cells m_left m_calls m_cDay m_cHour m_cFrom m_cAsk m_cWord m_cOf m_isLie m_children m_learned z_m_group) A r0) args s 0 0 A) (F0 m 216 ls []) := by
  intro h hP hD hS hl
  obtain ⟨hx, hb, hr, hml, hown, hts, hlocks, hK, hA, hE⟩ := id C0
  have hw0 := hts (.fieldLink RX9 95 "WhistledWordsModel" "group" "[I") (by decide +kernel)
  have hnX9 : ∀ w ∈ u_ws RX9 TX9 46, w ∈ wsX9_childOf := fun _ h => List.mem_cons_of_mem _ (List.mem_append_right _ h)
  unfold fX9_childOf_p216 at h
  refine lv_iload_n hx hb dX9_childOf_216 rfl (lv_at hl 1 rfl) ?_
  refine lv_if_ne (tgt := 224) hx hb dX9_childOf_217 (by decide) (fun c1 => ?_) (fun c1 => ?_)
  · have h := ie_use c1 h
    refine lv_iload_n hx hb dX9_childOf_224 rfl (lv_at hl 1 rfl) ?_
    refine lv_iconst (v := 1) hx hb dX9_childOf_225 (by decide) ?_
    refine lv_icmp_ne (tgt := 234) hx hb dX9_childOf_226 (by decide) (fun c2 => ?_) (fun c2 => ?_)
    · have h := ie_use c2 h
      refine lv_iload_n hx hb dX9_childOf_234 rfl (lv_at hl 1 rfl) ?_
      refine lv_iconst (v := 2) hx hb dX9_childOf_235 (by decide) ?_
      refine lv_icmp_ne (tgt := 244) hx hb dX9_childOf_236 (by decide) (fun c3 => ?_) (fun c3 => ?_)
      · have h := ie_use c3 h
        refine lv_iload_n hx hb dX9_childOf_244 rfl (lv_at hl 1 rfl) ?_
        refine lv_iconst (v := 3) hx hb dX9_childOf_245 (by decide) ?_
        refine lv_icmp_ne (tgt := 254) hx hb dX9_childOf_246 (by decide) (fun c4 => ?_) (fun c4 => ?_)
        · have h := ie_use c4 h
          refine lv_aload_n hx hb dX9_childOf_254 rfl (lv_at hl 0 rfl) ?_
          refine gM_mo_group hx hb hts hnX9 hown hK hP hw0 dX9_childOf_255 ?_
          refine lv_iload_n hx hb dX9_childOf_258 rfl (lv_at hl 1 rfl) ?_
          refine lv_bipush (v := 10) hx hb dX9_childOf_259 (by decide) ?_
          refine lv_isub hx hb dX9_childOf_261 ?_
          obtain ⟨hiv5, h⟩ := ar_use h
          refine lM_mo_group hx hb hK hP hiv5 dX9_childOf_262 ?_
          refine lv_topi (fun v5 ev5 => ?_)
          have h := h v5 ev5
          obtain ⟨er, ez0, ez1, ez2, ez3, ez4⟩ := rt6_use h
          subst ez0
          subst ez1
          subst ez2
          subst ez3
          subst ez4
          exact re_i hx hb hr hlocks hK hP hD hS er dX9_childOf_263
        · have h := it_use c4 h
          refine lv_iload hx hb dX9_childOf_249 (lv_at hl 5 rfl) ?_
          refine lv_goto (tgt := 263) hx hb dX9_childOf_251 (by decide) ?_
          obtain ⟨er, ez0, ez1, ez2, ez3, ez4⟩ := rt6_use h
          subst ez0
          subst ez1
          subst ez2
          subst ez3
          subst ez4
          exact re_i hx hb hr hlocks hK hP hD hS er dX9_childOf_263
      · have h := it_use c3 h
        refine lv_iload hx hb dX9_childOf_239 (lv_at hl 4 rfl) ?_
        refine lv_goto (tgt := 263) hx hb dX9_childOf_241 (by decide) ?_
        obtain ⟨er, ez0, ez1, ez2, ez3, ez4⟩ := rt6_use h
        subst ez0
        subst ez1
        subst ez2
        subst ez3
        subst ez4
        exact re_i hx hb hr hlocks hK hP hD hS er dX9_childOf_263
    · have h := it_use c2 h
      refine lv_iload hx hb dX9_childOf_229 (lv_at hl 3 rfl) ?_
      refine lv_goto (tgt := 263) hx hb dX9_childOf_231 (by decide) ?_
      obtain ⟨er, ez0, ez1, ez2, ez3, ez4⟩ := rt6_use h
      subst ez0
      subst ez1
      subst ez2
      subst ez3
      subst ez4
      exact re_i hx hb hr hlocks hK hP hD hS er dX9_childOf_263
  · have h := it_use c1 h
    refine lv_iload_n hx hb dX9_childOf_220 rfl (lv_at hl 2 rfl) ?_
    refine lv_goto (tgt := 263) hx hb dX9_childOf_221 (by decide) ?_
    obtain ⟨er, ez0, ez1, ez2, ez3, ez4⟩ := rt6_use h
    subst ez0
    subst ez1
    subst ez2
    subst ez3
    subst ez4
    exact re_i hx hb hr hlocks hK hP hD hS er dX9_childOf_263
set_option maxHeartbeats 4000000 in
set_option maxRecDepth 100000 in
theorem kX9_childOf_p60_r {p : Program} {l : Launch} {e : Env} {s : State} {m : MethodId} {args : Array Value} {below : List Frame} {meth : Method} {c : Code} {A : Nat → Prop} (dC : Nat → ClassId) (dI : Nat → Nat → Nat) (cB cI cJ cZ : ClassId) (a : Nat → Nat) (C0 : cxt cX9_childOf (some .int) 10 RX9 wsX9_childOf (dC, dI) (tyz cB cI cJ cZ) E_0 A p s m args meth c) (n : Nat) (m_letters : Nat → Int32) (m_words : Int32) (m_wMany : Nat → Int32) (m_wLetters : Nat → Int32) (m_asks : Int32) (m_aWords : Nat → Int32) (m_dLetters : Nat → Int32) (m_dWords : Int32) (m_dMany : Nat → Int32) (m_dText : Nat → Int32) (m_dAsks : Int32) (m_dAsk : Nat → Int32) (m_tape : Nat → Int32) (m_taped : Int32) (m_pos : Int32) (m_from : Int32) (m_sort : Int32) (m_value : Int32) (m_fault : Int32) (m_wrongAt : Int32) (m_places : Int32) (m_xs : Nat → Int32) (m_ys : Nat → Int32) (m_heights : Nat → Int32) (m_ridges : Int32) (m_rx : Nat → Int32) (m_rHeight : Nat → Int32) (m_lanes : Nat → Int32) (m_sizes : Nat → Int32) (m_cells : Nat → Int32) (m_left : Nat → Int32) (m_calls : Int32) (m_cDay : Nat → Int32) (m_cHour : Nat → Int32) (m_cFrom : Nat → Int32) (m_cAsk : Nat → Int32) (m_cWord : Nat → Int32) (m_cOf : Nat → Int32) (m_isLie : Nat → Int32) (m_children : Int32) (m_learned : Nat → Int32) (m_group : Nat → Int32) (x1 : Int32) (x2 : Int32) (r0 : Int32) (z_m_manyA : Int32) (z_m_rowA : Nat → Int32) (z_m_manyB : Int32) (z_m_rowB : Nat → Int32) (z_m_group : Nat → Int32)  : ∀ (k : Nat) (m_manyA : Int32) (m_rowA : Nat → Int32) (m_manyB : Int32) (m_rowB : Nat → Int32) (x3 : Int32) (x4 : Int32) (x5 : Int32) (x6 : Int32) (x7 : Int32) (H : Heap) (locs : List Loc) (ls : Array Slot), fX9_childOf_p60 n m_letters m_words m_wMany m_wLetters m_learned m_group x1 x2 k m_manyA m_rowA m_manyB m_rowB x3 x4 x5 x6 x7 = some (r0, z_m_manyA, z_m_rowA, z_m_manyB, z_m_rowB, z_m_group) → va_P (dC, dI) vwCl (wM cB cI cJ cZ a m_letters m_words m_wMany m_wLetters m_asks m_aWords m_dLetters m_dWords m_dMany m_dText m_dAsks m_dAsk m_tape m_taped m_pos m_from m_sort m_value m_fault m_wrongAt m_manyA m_rowA m_manyB m_rowB m_places m_xs m_ys m_heights m_ridges m_rx m_rHeight m_lanes m_sizes m_cells m_left m_calls m_cDay m_cHour m_cFrom m_cAsk m_cWord m_cOf m_isLie m_children m_learned m_group) H → va_D A (wM cB cI cJ cZ a m_letters m_words m_wMany m_wLetters m_asks m_aWords m_dLetters m_dWords m_dMany m_dText m_dAsks m_dAsk m_tape m_taped m_pos m_from m_sort m_value m_fault m_wrongAt m_manyA m_rowA m_manyB m_rowB m_places m_xs m_ys m_heights m_ridges m_rx m_rHeight m_lanes m_sizes m_cells m_left m_calls m_cDay m_cHour m_cFrom m_cAsk m_cWord m_cOf m_isLie m_children m_learned m_group) → va_S A s.heap H locs → lv_has ls 10 [(0, .ref (a 0)), (1, .int x1), (2, .int x2), (3, .int x3), (4, .int x4), (5, .int x5), (6, .int x6), (7, .int x7)] → W p l e { frames := 4, cells := 0, slots := 0, locals := 98 } s m args below meth c H locs 0 0 (MQ below (gI (dC, dI) (tyz cB cI cJ cZ) (wM cB cI cJ cZ a m_letters m_words m_wMany m_wLetters m_asks m_aWords m_dLetters m_dWords m_dMany m_dText m_dAsks m_dAsk m_tape m_taped m_pos m_from m_sort m_value m_fault m_wrongAt z_m_manyA z_m_rowA z_m_manyB z_m_rowB m_places m_xs m_ys m_heights m_ridges m_rx m_rHeight m_lanes m_sizes m_cells m_left m_calls m_cDay m_cHour m_cFrom m_cAsk m_cWord m_cOf m_isLie m_children m_learned z_m_group) A r0) args s 0 0 A) (F0 m 60 ls []) := by
  obtain ⟨hx, hb, hr, hml, hown, hts, hlocks, hK, hA, hE⟩ := id C0
  have hw0 := hts (.fieldLink RX9 186 "WhistledWordsModel" "words" "I") (by decide +kernel)
  have hw1 := hts (.fieldLink RX9 95 "WhistledWordsModel" "group" "[I") (by decide +kernel)
  have hnX9 : ∀ w ∈ u_ws RX9 TX9 46, w ∈ wsX9_childOf := fun _ h => List.mem_cons_of_mem _ (List.mem_append_right _ h)
  intro k
  induction k with
  | zero =>
    intro m_manyA m_rowA m_manyB m_rowB x3 x4 x5 x6 x7 H locs ls h
    cases h
  | succ k ih =>
    intro m_manyA m_rowA m_manyB m_rowB x3 x4 x5 x6 x7 H locs ls h hP hD hS hl
    rw [fX9_childOf_p60] at h
    refine lv_iload hx hb dX9_childOf_60 (lv_at hl 7 rfl) ?_
    refine lv_aload_n hx hb dX9_childOf_62 rfl (lv_at hl 0 rfl) ?_
    refine gM_mo_words hx hb hts hnX9 hown hK hP hw0 dX9_childOf_63 ?_
    refine lv_icmp_ge (tgt := 216) hx hb dX9_childOf_66 (by decide) (fun c1 => ?_) (fun c1 => ?_)
    · have h := it_use c1 h
      exact kX9_childOf_p216 dC dI cB cI cJ cZ a C0 n m_letters m_words m_wMany m_wLetters m_asks m_aWords m_dLetters m_dWords m_dMany m_dText m_dAsks m_dAsk m_tape m_taped m_pos m_from m_sort m_value m_fault m_wrongAt m_manyA m_rowA m_manyB m_rowB m_places m_xs m_ys m_heights m_ridges m_rx m_rHeight m_lanes m_sizes m_cells m_left m_calls m_cDay m_cHour m_cFrom m_cAsk m_cWord m_cOf m_isLie m_children m_learned m_group x2 x3 x4 x5 x6  r0 z_m_manyA z_m_rowA z_m_manyB z_m_rowB z_m_group  _ _ ls h hP hD hS (lv_sub hl [0, 2, 3, 4, 5, 6] rfl)
    · have h := ie_use c1 h
      refine lv_iconst (v := 0) hx hb dX9_childOf_69 (by decide) ?_
      refine lv_istore (lv' := [(8, .int (0 : Int32)), (0, .ref (a 0)), (1, .int x1), (2, .int x2), (3, .int x3), (4, .int x4), (5, .int x5), (6, .int x6), (7, .int x7)]) hx hb dX9_childOf_70 hl (by decide) rfl (fun ls hl => ?_)
      refine lv_iload hx hb dX9_childOf_72 (lv_at hl 6 rfl) ?_
      refine lv_aload_n hx hb dX9_childOf_74 rfl (lv_at hl 1 rfl) ?_
      refine gM_mo_group hx hb hts hnX9 hown hK hP hw1 dX9_childOf_75 ?_
      refine lv_iload hx hb dX9_childOf_78 (lv_at hl 8 rfl) ?_
      obtain ⟨hiv2, h⟩ := ar_use h
      refine lM_mo_group hx hb hK hP hiv2 dX9_childOf_80 ?_
      refine lv_topi (fun v2 ev2 => ?_)
      have h := h v2 ev2
      refine lv_iload hx hb dX9_childOf_81 (lv_at hl 8 rfl) ?_
      refine lv_icmp_ne (tgt := 90) hx hb dX9_childOf_83 (by decide) (fun c3 => ?_) (fun c3 => ?_)
      · have h := ie_use c3 h
        refine lv_iconst (v := 0) hx hb dX9_childOf_90 (by decide) ?_
        refine lv_iadd hx hb dX9_childOf_91 ?_
        refine lv_topi (fun v4 ev4 => ?_)
        have h := nm_use ev4 h
        refine lv_istore (lv' := [(5, .int v4), (8, .int (0 : Int32)), (0, .ref (a 0)), (1, .int x1), (2, .int x2), (3, .int x3), (4, .int x4), (6, .int x6), (7, .int x7)]) hx hb dX9_childOf_92 hl (by decide) rfl (fun ls hl => ?_)
        refine lv_iconst (v := 0) hx hb dX9_childOf_94 (by decide) ?_
        refine lv_istore (lv' := [(9, .int (0 : Int32)), (5, .int v4), (8, .int (0 : Int32)), (0, .ref (a 0)), (1, .int x1), (2, .int x2), (3, .int x3), (4, .int x4), (6, .int x6), (7, .int x7)]) hx hb dX9_childOf_95 hl (by decide) rfl (fun ls hl => ?_)
        exact kX9_childOf_p97 dC dI cB cI cJ cZ a C0 n m_letters m_words m_wMany m_wLetters m_asks m_aWords m_dLetters m_dWords m_dMany m_dText m_dAsks m_dAsk m_tape m_taped m_pos m_from m_sort m_value m_fault m_wrongAt m_manyA m_rowA m_manyB m_rowB m_places m_xs m_ys m_heights m_ridges m_rx m_rHeight m_lanes m_sizes m_cells m_left m_calls m_cDay m_cHour m_cFrom m_cAsk m_cWord m_cOf m_isLie m_children m_learned m_group x1 x2 x3 x4 v4 x6 x7 (0 : Int32) (0 : Int32) r0 z_m_manyA z_m_rowA z_m_manyB z_m_rowB z_m_group (fX9_childOf_p60 n m_letters m_words m_wMany m_wLetters m_learned m_group x1 x2 k) ih n _ _ ls h hP hD hS (lv_sub hl [3, 4, 5, 6, 7, 1, 8, 9, 2, 0] rfl)
      · have h := it_use c3 h
        refine lv_iconst (v := 1) hx hb dX9_childOf_86 (by decide) ?_
        refine lv_goto (tgt := 91) hx hb dX9_childOf_87 (by decide) ?_
        refine lv_iadd hx hb dX9_childOf_91 ?_
        refine lv_topi (fun v5 ev5 => ?_)
        have h := nm_use ev5 h
        refine lv_istore (lv' := [(5, .int v5), (8, .int (0 : Int32)), (0, .ref (a 0)), (1, .int x1), (2, .int x2), (3, .int x3), (4, .int x4), (6, .int x6), (7, .int x7)]) hx hb dX9_childOf_92 hl (by decide) rfl (fun ls hl => ?_)
        refine lv_iconst (v := 0) hx hb dX9_childOf_94 (by decide) ?_
        refine lv_istore (lv' := [(9, .int (0 : Int32)), (5, .int v5), (8, .int (0 : Int32)), (0, .ref (a 0)), (1, .int x1), (2, .int x2), (3, .int x3), (4, .int x4), (6, .int x6), (7, .int x7)]) hx hb dX9_childOf_95 hl (by decide) rfl (fun ls hl => ?_)
        exact kX9_childOf_p97 dC dI cB cI cJ cZ a C0 n m_letters m_words m_wMany m_wLetters m_asks m_aWords m_dLetters m_dWords m_dMany m_dText m_dAsks m_dAsk m_tape m_taped m_pos m_from m_sort m_value m_fault m_wrongAt m_manyA m_rowA m_manyB m_rowB m_places m_xs m_ys m_heights m_ridges m_rx m_rHeight m_lanes m_sizes m_cells m_left m_calls m_cDay m_cHour m_cFrom m_cAsk m_cWord m_cOf m_isLie m_children m_learned m_group x1 x2 x3 x4 v5 x6 x7 (0 : Int32) (0 : Int32) r0 z_m_manyA z_m_rowA z_m_manyB z_m_rowB z_m_group (fX9_childOf_p60 n m_letters m_words m_wMany m_wLetters m_learned m_group x1 x2 k) ih n _ _ ls h hP hD hS (lv_sub hl [3, 4, 5, 6, 7, 1, 8, 9, 2, 0] rfl)
theorem kX9_childOf_p60 {p : Program} {l : Launch} {e : Env} {s : State} {m : MethodId} {args : Array Value} {below : List Frame} {meth : Method} {c : Code} {A : Nat → Prop} (dC : Nat → ClassId) (dI : Nat → Nat → Nat) (cB cI cJ cZ : ClassId) (a : Nat → Nat) (C0 : cxt cX9_childOf (some .int) 10 RX9 wsX9_childOf (dC, dI) (tyz cB cI cJ cZ) E_0 A p s m args meth c) (n : Nat) (m_letters : Nat → Int32) (m_words : Int32) (m_wMany : Nat → Int32) (m_wLetters : Nat → Int32) (m_asks : Int32) (m_aWords : Nat → Int32) (m_dLetters : Nat → Int32) (m_dWords : Int32) (m_dMany : Nat → Int32) (m_dText : Nat → Int32) (m_dAsks : Int32) (m_dAsk : Nat → Int32) (m_tape : Nat → Int32) (m_taped : Int32) (m_pos : Int32) (m_from : Int32) (m_sort : Int32) (m_value : Int32) (m_fault : Int32) (m_wrongAt : Int32) (m_manyA : Int32) (m_rowA : Nat → Int32) (m_manyB : Int32) (m_rowB : Nat → Int32) (m_places : Int32) (m_xs : Nat → Int32) (m_ys : Nat → Int32) (m_heights : Nat → Int32) (m_ridges : Int32) (m_rx : Nat → Int32) (m_rHeight : Nat → Int32) (m_lanes : Nat → Int32) (m_sizes : Nat → Int32) (m_cells : Nat → Int32) (m_left : Nat → Int32) (m_calls : Int32) (m_cDay : Nat → Int32) (m_cHour : Nat → Int32) (m_cFrom : Nat → Int32) (m_cAsk : Nat → Int32) (m_cWord : Nat → Int32) (m_cOf : Nat → Int32) (m_isLie : Nat → Int32) (m_children : Int32) (m_learned : Nat → Int32) (m_group : Nat → Int32)  (x1 : Int32) (x2 : Int32) (x3 : Int32) (x4 : Int32) (x5 : Int32) (x6 : Int32) (x7 : Int32) (r0 : Int32) (z_m_manyA : Int32) (z_m_rowA : Nat → Int32) (z_m_manyB : Int32) (z_m_rowB : Nat → Int32) (z_m_group : Nat → Int32)  (k : Nat) (H : Heap) (locs : List Loc) (ls : Array Slot) : fX9_childOf_p60 n m_letters m_words m_wMany m_wLetters m_learned m_group x1 x2 k m_manyA m_rowA m_manyB m_rowB x3 x4 x5 x6 x7 = some (r0, z_m_manyA, z_m_rowA, z_m_manyB, z_m_rowB, z_m_group) → va_P (dC, dI) vwCl (wM cB cI cJ cZ a m_letters m_words m_wMany m_wLetters m_asks m_aWords m_dLetters m_dWords m_dMany m_dText m_dAsks m_dAsk m_tape m_taped m_pos m_from m_sort m_value m_fault m_wrongAt m_manyA m_rowA m_manyB m_rowB m_places m_xs m_ys m_heights m_ridges m_rx m_rHeight m_lanes m_sizes m_cells m_left m_calls m_cDay m_cHour m_cFrom m_cAsk m_cWord m_cOf m_isLie m_children m_learned m_group) H → va_D A (wM cB cI cJ cZ a m_letters m_words m_wMany m_wLetters m_asks m_aWords m_dLetters m_dWords m_dMany m_dText m_dAsks m_dAsk m_tape m_taped m_pos m_from m_sort m_value m_fault m_wrongAt m_manyA m_rowA m_manyB m_rowB m_places m_xs m_ys m_heights m_ridges m_rx m_rHeight m_lanes m_sizes m_cells m_left m_calls m_cDay m_cHour m_cFrom m_cAsk m_cWord m_cOf m_isLie m_children m_learned m_group) → va_S A s.heap H locs → lv_has ls 10 [(0, .ref (a 0)), (1, .int x1), (2, .int x2), (3, .int x3), (4, .int x4), (5, .int x5), (6, .int x6), (7, .int x7)] → W p l e { frames := 4, cells := 0, slots := 0, locals := 98 } s m args below meth c H locs 0 0 (MQ below (gI (dC, dI) (tyz cB cI cJ cZ) (wM cB cI cJ cZ a m_letters m_words m_wMany m_wLetters m_asks m_aWords m_dLetters m_dWords m_dMany m_dText m_dAsks m_dAsk m_tape m_taped m_pos m_from m_sort m_value m_fault m_wrongAt z_m_manyA z_m_rowA z_m_manyB z_m_rowB m_places m_xs m_ys m_heights m_ridges m_rx m_rHeight m_lanes m_sizes m_cells m_left m_calls m_cDay m_cHour m_cFrom m_cAsk m_cWord m_cOf m_isLie m_children m_learned z_m_group) A r0) args s 0 0 A) (F0 m 60 ls []) :=
  kX9_childOf_p60_r dC dI cB cI cJ cZ a C0 n m_letters m_words m_wMany m_wLetters m_asks m_aWords m_dLetters m_dWords m_dMany m_dText m_dAsks m_dAsk m_tape m_taped m_pos m_from m_sort m_value m_fault m_wrongAt m_places m_xs m_ys m_heights m_ridges m_rx m_rHeight m_lanes m_sizes m_cells m_left m_calls m_cDay m_cHour m_cFrom m_cAsk m_cWord m_cOf m_isLie m_children m_learned m_group x1 x2 r0 z_m_manyA z_m_rowA z_m_manyB z_m_rowB z_m_group  k m_manyA m_rowA m_manyB m_rowB x3 x4 x5 x6 x7 H locs ls
set_option maxHeartbeats 4000000 in
set_option maxRecDepth 100000 in
theorem kX9_childOf_p41 {p : Program} {l : Launch} {e : Env} {s : State} {m : MethodId} {args : Array Value} {below : List Frame} {meth : Method} {c : Code} {A : Nat → Prop} (dC : Nat → ClassId) (dI : Nat → Nat → Nat) (cB cI cJ cZ : ClassId) (a : Nat → Nat) (C0 : cxt cX9_childOf (some .int) 10 RX9 wsX9_childOf (dC, dI) (tyz cB cI cJ cZ) E_0 A p s m args meth c) (n : Nat) (m_letters : Nat → Int32) (m_words : Int32) (m_wMany : Nat → Int32) (m_wLetters : Nat → Int32) (m_asks : Int32) (m_aWords : Nat → Int32) (m_dLetters : Nat → Int32) (m_dWords : Int32) (m_dMany : Nat → Int32) (m_dText : Nat → Int32) (m_dAsks : Int32) (m_dAsk : Nat → Int32) (m_tape : Nat → Int32) (m_taped : Int32) (m_pos : Int32) (m_from : Int32) (m_sort : Int32) (m_value : Int32) (m_fault : Int32) (m_wrongAt : Int32) (m_manyA : Int32) (m_rowA : Nat → Int32) (m_manyB : Int32) (m_rowB : Nat → Int32) (m_places : Int32) (m_xs : Nat → Int32) (m_ys : Nat → Int32) (m_heights : Nat → Int32) (m_ridges : Int32) (m_rx : Nat → Int32) (m_rHeight : Nat → Int32) (m_lanes : Nat → Int32) (m_sizes : Nat → Int32) (m_cells : Nat → Int32) (m_left : Nat → Int32) (m_calls : Int32) (m_cDay : Nat → Int32) (m_cHour : Nat → Int32) (m_cFrom : Nat → Int32) (m_cAsk : Nat → Int32) (m_cWord : Nat → Int32) (m_cOf : Nat → Int32) (m_isLie : Nat → Int32) (m_children : Int32) (m_learned : Nat → Int32) (m_group : Nat → Int32)  (x1 : Int32) (x2 : Int32)  (r0 : Int32) (z_m_manyA : Int32) (z_m_rowA : Nat → Int32) (z_m_manyB : Int32) (z_m_rowB : Nat → Int32) (z_m_group : Nat → Int32)  (H : Heap) (locs : List Loc) (ls : Array Slot) : fX9_childOf_p41 n m_letters m_words m_wMany m_wLetters m_manyA m_rowA m_manyB m_rowB m_learned m_group x1 x2 = some (r0, z_m_manyA, z_m_rowA, z_m_manyB, z_m_rowB, z_m_group) → va_P (dC, dI) vwCl (wM cB cI cJ cZ a m_letters m_words m_wMany m_wLetters m_asks m_aWords m_dLetters m_dWords m_dMany m_dText m_dAsks m_dAsk m_tape m_taped m_pos m_from m_sort m_value m_fault m_wrongAt m_manyA m_rowA m_manyB m_rowB m_places m_xs m_ys m_heights m_ridges m_rx m_rHeight m_lanes m_sizes m_cells m_left m_calls m_cDay m_cHour m_cFrom m_cAsk m_cWord m_cOf m_isLie m_children m_learned m_group) H → va_D A (wM cB cI cJ cZ a m_letters m_words m_wMany m_wLetters m_asks m_aWords m_dLetters m_dWords m_dMany m_dText m_dAsks m_dAsk m_tape m_taped m_pos m_from m_sort m_value m_fault m_wrongAt m_manyA m_rowA m_manyB m_rowB m_places m_xs m_ys m_heights m_ridges m_rx m_rHeight m_lanes m_sizes m_cells m_left m_calls m_cDay m_cHour m_cFrom m_cAsk m_cWord m_cOf m_isLie m_children m_learned m_group) → va_S A s.heap H locs → lv_has ls 10 [(0, .ref (a 0)), (1, .int x1), (2, .int x2)] → W p l e { frames := 4, cells := 0, slots := 0, locals := 98 } s m args below meth c H locs 0 0 (MQ below (gI (dC, dI) (tyz cB cI cJ cZ) (wM cB cI cJ cZ a m_letters m_words m_wMany m_wLetters m_asks m_aWords m_dLetters m_dWords m_dMany m_dText m_dAsks m_dAsk m_tape m_taped m_pos m_from m_sort m_value m_fault m_wrongAt z_m_manyA z_m_rowA z_m_manyB z_m_rowB m_places m_xs m_ys m_heights m_ridges m_rx m_rHeight m_lanes m_sizes m_cells m_left m_calls m_cDay m_cHour m_cFrom m_cAsk m_cWord m_cOf m_isLie m_children m_learned z_m_group) A r0) args s 0 0 A) (F0 m 41 ls []) := by
  intro h hP hD hS hl
  obtain ⟨hx, hb, hr, hml, hown, hts, hlocks, hK, hA, hE⟩ := id C0
  unfold fX9_childOf_p41 at h
  refine lv_aload_n hx hb dX9_childOf_41 rfl (lv_at hl 0 rfl) ?_
  refine lv_iload_n hx hb dX9_childOf_42 rfl (lv_at hl 1 rfl) ?_
  obtain ⟨v1, f2, v3, f4, f5, hc, h⟩ := bd5_use h
  refine cv_v (As := [.int x1]) (rest := []) ⟨hx, hb, hml, hown, hts⟩ (kX9_findGroups l n dC dI cB cI cJ cZ a _ m_letters m_words m_wMany m_wLetters m_asks m_aWords m_dLetters m_dWords m_dMany m_dText m_dAsks m_dAsk m_tape m_taped m_pos m_from m_sort m_value m_fault m_wrongAt m_manyA m_rowA m_manyB m_rowB m_places m_xs m_ys m_heights m_ridges m_rx m_rHeight m_lanes m_sizes m_cells m_left m_calls m_cDay m_cHour m_cFrom m_cAsk m_cWord m_cOf m_isLie m_children m_learned m_group x1 v1 f2 v3 f4 f5 hc) (cwV 1 hts gX9_childOf_X9_findGroups rfl rfl rfl (by decide +kernel) ⟨Nat.le_of_ble_eq_true rfl, Nat.le_of_ble_eq_true rfl⟩) EB_0 hE hK hP hD hS hA 0 (ci := 8) rfl rfl rfl rfl hl.1 rfl (Nat.le_of_ble_eq_true rfl) dX9_childOf_43 ⟨Nat.zero_le _, Nat.zero_le _⟩ (fun H locs hP hD hS => ?_)
  refine lv_iconst (v := 0) hx hb dX9_childOf_46 (by decide) ?_
  refine lv_istore_n (lv' := [(3, .int (0 : Int32)), (0, .ref (a 0)), (1, .int x1), (2, .int x2)]) hx hb dX9_childOf_47 rfl hl (by decide) rfl (fun ls hl => ?_)
  refine lv_iconst (v := 0) hx hb dX9_childOf_48 (by decide) ?_
  refine lv_istore (lv' := [(4, .int (0 : Int32)), (3, .int (0 : Int32)), (0, .ref (a 0)), (1, .int x1), (2, .int x2)]) hx hb dX9_childOf_49 hl (by decide) rfl (fun ls hl => ?_)
  refine lv_iconst (v := 0) hx hb dX9_childOf_51 (by decide) ?_
  refine lv_istore (lv' := [(5, .int (0 : Int32)), (4, .int (0 : Int32)), (3, .int (0 : Int32)), (0, .ref (a 0)), (1, .int x1), (2, .int x2)]) hx hb dX9_childOf_52 hl (by decide) rfl (fun ls hl => ?_)
  refine lv_iconst (v := 0) hx hb dX9_childOf_54 (by decide) ?_
  refine lv_istore (lv' := [(6, .int (0 : Int32)), (5, .int (0 : Int32)), (4, .int (0 : Int32)), (3, .int (0 : Int32)), (0, .ref (a 0)), (1, .int x1), (2, .int x2)]) hx hb dX9_childOf_55 hl (by decide) rfl (fun ls hl => ?_)
  refine lv_iconst (v := 0) hx hb dX9_childOf_57 (by decide) ?_
  refine lv_istore (lv' := [(7, .int (0 : Int32)), (6, .int (0 : Int32)), (5, .int (0 : Int32)), (4, .int (0 : Int32)), (3, .int (0 : Int32)), (0, .ref (a 0)), (1, .int x1), (2, .int x2)]) hx hb dX9_childOf_58 hl (by decide) rfl (fun ls hl => ?_)
  exact kX9_childOf_p60 dC dI cB cI cJ cZ a C0 n m_letters m_words m_wMany m_wLetters m_asks m_aWords m_dLetters m_dWords m_dMany m_dText m_dAsks m_dAsk m_tape m_taped m_pos m_from m_sort m_value m_fault m_wrongAt v1 f2 v3 f4 m_places m_xs m_ys m_heights m_ridges m_rx m_rHeight m_lanes m_sizes m_cells m_left m_calls m_cDay m_cHour m_cFrom m_cAsk m_cWord m_cOf m_isLie m_children m_learned f5 x1 x2 (0 : Int32) (0 : Int32) (0 : Int32) (0 : Int32) (0 : Int32) r0 z_m_manyA z_m_rowA z_m_manyB z_m_rowB z_m_group  n _ _ ls h hP hD hS (lv_sub hl [5, 6, 7, 4, 3, 2, 1, 0] rfl)
set_option maxHeartbeats 4000000 in
set_option maxRecDepth 100000 in
theorem kX9_childOf (l : Launch) (n : Nat) (dC : Nat → ClassId) (dI : Nat → Nat → Nat) (cB cI cJ cZ : ClassId) (a : Nat → Nat) (sz : Nat) (m_letters : Nat → Int32) (m_words : Int32) (m_wMany : Nat → Int32) (m_wLetters : Nat → Int32) (m_asks : Int32) (m_aWords : Nat → Int32) (m_dLetters : Nat → Int32) (m_dWords : Int32) (m_dMany : Nat → Int32) (m_dText : Nat → Int32) (m_dAsks : Int32) (m_dAsk : Nat → Int32) (m_tape : Nat → Int32) (m_taped : Int32) (m_pos : Int32) (m_from : Int32) (m_sort : Int32) (m_value : Int32) (m_fault : Int32) (m_wrongAt : Int32) (m_manyA : Int32) (m_rowA : Nat → Int32) (m_manyB : Int32) (m_rowB : Nat → Int32) (m_places : Int32) (m_xs : Nat → Int32) (m_ys : Nat → Int32) (m_heights : Nat → Int32) (m_ridges : Int32) (m_rx : Nat → Int32) (m_rHeight : Nat → Int32) (m_lanes : Nat → Int32) (m_sizes : Nat → Int32) (m_cells : Nat → Int32) (m_left : Nat → Int32) (m_calls : Int32) (m_cDay : Nat → Int32) (m_cHour : Nat → Int32) (m_cFrom : Nat → Int32) (m_cAsk : Nat → Int32) (m_cWord : Nat → Int32) (m_cOf : Nat → Int32) (m_isLie : Nat → Int32) (m_children : Int32) (m_learned : Nat → Int32) (m_group : Nat → Int32) (x1 : Int32) (x2 : Int32) (r0 : Int32) (z_m_manyA : Int32) (z_m_rowA : Nat → Int32) (z_m_manyB : Int32) (z_m_rowB : Nat → Int32) (z_m_group : Nat → Int32) (h : fX9_childOf n m_letters m_words m_wMany m_wLetters m_manyA m_rowA m_manyB m_rowB m_children m_learned m_group x1 x2 = some (r0, z_m_manyA, z_m_rowA, z_m_manyB, z_m_rowB, z_m_group)) : Met l yX9_childOf wsX9_childOf ({ frames := 4, cells := 0, slots := 0, locals := 98 }) (gP (dC, dI) (tyz cB cI cJ cZ) E_0 (wM cB cI cJ cZ a m_letters m_words m_wMany m_wLetters m_asks m_aWords m_dLetters m_dWords m_dMany m_dText m_dAsks m_dAsk m_tape m_taped m_pos m_from m_sort m_value m_fault m_wrongAt m_manyA m_rowA m_manyB m_rowB m_places m_xs m_ys m_heights m_ridges m_rx m_rHeight m_lanes m_sizes m_cells m_left m_calls m_cDay m_cHour m_cFrom m_cAsk m_cWord m_cOf m_isLie m_children m_learned m_group) sz [.ref (a 0), .int x1, .int x2]) (gI (dC, dI) (tyz cB cI cJ cZ) (wM cB cI cJ cZ a m_letters m_words m_wMany m_wLetters m_asks m_aWords m_dLetters m_dWords m_dMany m_dText m_dAsks m_dAsk m_tape m_taped m_pos m_from m_sort m_value m_fault m_wrongAt z_m_manyA z_m_rowA z_m_manyB z_m_rowB m_places m_xs m_ys m_heights m_ridges m_rx m_rHeight m_lanes m_sizes m_cells m_left m_calls m_cDay m_cHour m_cFrom m_cAsk m_cWord m_cOf m_isLie m_children m_learned z_m_group) (va_A (wM cB cI cJ cZ a m_letters m_words m_wMany m_wLetters m_asks m_aWords m_dLetters m_dWords m_dMany m_dText m_dAsks m_dAsk m_tape m_taped m_pos m_from m_sort m_value m_fault m_wrongAt m_manyA m_rowA m_manyB m_rowB m_places m_xs m_ys m_heights m_ridges m_rx m_rHeight m_lanes m_sizes m_cells m_left m_calls m_cDay m_cHour m_cFrom m_cAsk m_cWord m_cOf m_isLie m_children m_learned m_group) sz) r0) 0 0 (va_A (wM cB cI cJ cZ a m_letters m_words m_wMany m_wLetters m_asks m_aWords m_dLetters m_dWords m_dMany m_dText m_dAsks m_dAsk m_tape m_taped m_pos m_from m_sort m_value m_fault m_wrongAt m_manyA m_rowA m_manyB m_rowB m_places m_xs m_ys m_heights m_ridges m_rx m_rHeight m_lanes m_sizes m_cells m_left m_calls m_cDay m_cHour m_cFrom m_cAsk m_cWord m_cOf m_isLie m_children m_learned m_group) sz) := by
  refine Met.ofW (cc := cX9_childOf) (maxL := 10) (ret := (some .int)) (by decide) rfl ?_
  intro p e s m args below meth c s₁ B hml hv
  obtain ⟨rfl, hsz, hP, hK, hD0, hE⟩ := hv
  have hx := B.exec
  have hb := B.bytes
  have hr := B.returns
  have hts := atoms_spec (ws := wsX9_childOf) B.pre
  have hown : s.vm.findClass RX9 = some m.cls := findClass_of_methodNamed B.named
  have hlocks := B.notSynchronized
  subst hsz
  have hD := hD0.self (sz := s.heap.size)
  have hA : ∀ q : Nat, s.heap.size ≤ q → va_A (wM cB cI cJ cZ a m_letters m_words m_wMany m_wLetters m_asks m_aWords m_dLetters m_dWords m_dMany m_dText m_dAsks m_dAsk m_tape m_taped m_pos m_from m_sort m_value m_fault m_wrongAt m_manyA m_rowA m_manyB m_rowB m_places m_xs m_ys m_heights m_ridges m_rx m_rHeight m_lanes m_sizes m_cells m_left m_calls m_cDay m_cHour m_cFrom m_cAsk m_cWord m_cOf m_isLie m_children m_learned m_group) s.heap.size q := fun q h => Or.inr h
  generalize va_A (wM cB cI cJ cZ a m_letters m_words m_wMany m_wLetters m_asks m_aWords m_dLetters m_dWords m_dMany m_dText m_dAsks m_dAsk m_tape m_taped m_pos m_from m_sort m_value m_fault m_wrongAt m_manyA m_rowA m_manyB m_rowB m_places m_xs m_ys m_heights m_ridges m_rx m_rHeight m_lanes m_sizes m_cells m_left m_calls m_cDay m_cHour m_cFrom m_cAsk m_cWord m_cOf m_isLie m_children m_learned m_group) s.heap.size = A at hD hA hE ⊢
  have hS : va_S A s.heap s.heap [] := va_S.rf
  have C0 : cxt cX9_childOf (some .int) 10 RX9 wsX9_childOf (dC, dI) (tyz cB cI cJ cZ) E_0 A p s m ([.ref (a 0), .int x1, .int x2] : List Value).toArray meth c := ⟨hx, hb, hr, hml, hown, hts, hlocks, hK, hA, hE⟩
  have hl := lv_entry ([.ref (a 0), .int x1, .int x2]) (n := 10) (Nat.le_of_ble_eq_true rfl)
  rw [lg_entry_eq]
  generalize (lg_sl ([.ref (a 0), .int x1, .int x2]) ++ List.replicate (10 - (lg_sl ([.ref (a 0), .int x1, .int x2])).length) Slot.unset).toArray = ls at hl ⊢
  have hl : lv_has ls 10 [(0, .ref (a 0)), (1, .int x1), (2, .int x2)] := hl
  have hw0 := hts (.constantLong RX9 151 (3)) (by decide +kernel)
  have hw1 := hts (.constantLong RX9 215 (10)) (by decide +kernel)
  have hw2 := hts (.fieldLink RX9 186 "WhistledWordsModel" "words" "I") (by decide +kernel)
  have hnX9 : ∀ w ∈ u_ws RX9 TX9 46, w ∈ wsX9_childOf := fun _ h => List.mem_cons_of_mem _ (List.mem_append_right _ h)
  unfold fX9_childOf at h
  refine lv_aload_n hx hb dX9_childOf_0 rfl (lv_at hl 0 rfl) ?_
  refine lv_iload_n hx hb dX9_childOf_1 rfl (lv_at hl 1 rfl) ?_
  obtain ⟨v1, hc, h⟩ := bd1_use h
  refine cv_i (As := [.int x1]) (rest := []) ⟨hx, hb, hml, hown, hts⟩ (kX9_isChild l n dC dI cB cI cJ cZ a _ m_letters m_words m_wMany m_wLetters m_asks m_aWords m_dLetters m_dWords m_dMany m_dText m_dAsks m_dAsk m_tape m_taped m_pos m_from m_sort m_value m_fault m_wrongAt m_manyA m_rowA m_manyB m_rowB m_places m_xs m_ys m_heights m_ridges m_rx m_rHeight m_lanes m_sizes m_cells m_left m_calls m_cDay m_cHour m_cFrom m_cAsk m_cWord m_cOf m_isLie m_children m_learned m_group x1 v1 hc) (cwV 1 hts gX9_childOf_X9_isChild rfl rfl rfl (by decide +kernel) ⟨Nat.le_of_ble_eq_true rfl, Nat.le_of_ble_eq_true rfl⟩) EB_0 hE hK hP hD hS hA 0 (ci := 8) rfl rfl rfl rfl hl.1 rfl (Nat.le_of_ble_eq_true rfl) dX9_childOf_2 ⟨Nat.zero_le _, Nat.zero_le _⟩ (fun H locs hP hD hS => ?_)
  refine lv_if_eq (tgt := 39) hx hb dX9_childOf_5 (by decide) (fun c2 => ?_) (fun c2 => ?_)
  · have h := it_use c2 h
    refine lv_iconst (v := -1) hx hb dX9_childOf_39 (by decide) ?_
    obtain ⟨er, ez0, ez1, ez2, ez3, ez4⟩ := rt6_use h
    subst ez0
    subst ez1
    subst ez2
    subst ez3
    subst ez4
    exact re_i hx hb hr hlocks hK hP hD hS er dX9_childOf_40
  · have h := ie_use c2 h
    refine lv_iload_n hx hb dX9_childOf_8 rfl (lv_at hl 2 rfl) ?_
    refine lv_i2l hx hb dX9_childOf_9 rfl ?_
    refine lv_lconst (v := 0) hx hb dX9_childOf_10 (by decide) ?_
    refine lv_ldc2 hx hb hown hw0 dX9_childOf_11 ?_
    obtain ⟨v3, hc, h⟩ := bd1_use h
    refine cs_i (As := [.long x2.toInt64, .long (0 : Int64), .long (3 : Int64)]) (rest := []) ⟨hx, hb, hml, hown, hts⟩ (kX9_in l n x2.toInt64 (0 : Int64) (3 : Int64) v3 hc) (va_cwS 3 hts gX9_childOf_X9_in rfl rfl rfl (by decide +kernel) ⟨Nat.le_of_ble_eq_true rfl, Nat.le_of_ble_eq_true rfl⟩) hP hS rfl hl.1 rfl (Nat.le_of_ble_eq_true rfl) dX9_childOf_14 ⟨Nat.zero_le _, Nat.zero_le _⟩ (fun H locs hP hS => ?_)
    refine lv_if_ne (tgt := 41) hx hb dX9_childOf_17 (by decide) (fun c4 => ?_) (fun c4 => ?_)
    · have h := ie_use c4 h
      exact kX9_childOf_p41 dC dI cB cI cJ cZ a C0 n m_letters m_words m_wMany m_wLetters m_asks m_aWords m_dLetters m_dWords m_dMany m_dText m_dAsks m_dAsk m_tape m_taped m_pos m_from m_sort m_value m_fault m_wrongAt m_manyA m_rowA m_manyB m_rowB m_places m_xs m_ys m_heights m_ridges m_rx m_rHeight m_lanes m_sizes m_cells m_left m_calls m_cDay m_cHour m_cFrom m_cAsk m_cWord m_cOf m_isLie m_children m_learned m_group x1 x2  r0 z_m_manyA z_m_rowA z_m_manyB z_m_rowB z_m_group  _ _ ls h hP hD hS (lv_sub hl [0, 1, 2] rfl)
    · have h := it_use c4 h
      refine lv_iload_n hx hb dX9_childOf_20 rfl (lv_at hl 2 rfl) ?_
      refine lv_i2l hx hb dX9_childOf_21 rfl ?_
      refine lv_ldc2 hx hb hown hw1 dX9_childOf_22 ?_
      refine lv_bipush (v := 9) hx hb dX9_childOf_25 (by decide) ?_
      refine lv_aload_n hx hb dX9_childOf_27 rfl (lv_at hl 0 rfl) ?_
      refine gM_mo_words hx hb hts hnX9 hown hK hP hw2 dX9_childOf_28 ?_
      refine lv_iadd hx hb dX9_childOf_31 ?_
      refine lv_i2l hx hb dX9_childOf_32 rfl ?_
      obtain ⟨v5, hc, h⟩ := bd1_use h
      refine cs_i (As := [.long x2.toInt64, .long (10 : Int64), .long (((9 : Int32) + m_words).toInt64)]) (rest := []) ⟨hx, hb, hml, hown, hts⟩ (kX9_in l n x2.toInt64 (10 : Int64) (((9 : Int32) + m_words).toInt64) v5 hc) (va_cwS 3 hts gX9_childOf_X9_in rfl rfl rfl (by decide +kernel) ⟨Nat.le_of_ble_eq_true rfl, Nat.le_of_ble_eq_true rfl⟩) hP hS rfl hl.1 rfl (Nat.le_of_ble_eq_true rfl) dX9_childOf_33 ⟨Nat.zero_le _, Nat.zero_le _⟩ (fun H locs hP hS => ?_)
      refine lv_if_ne (tgt := 41) hx hb dX9_childOf_36 (by decide) (fun c6 => ?_) (fun c6 => ?_)
      · have h := ie_use c6 h
        exact kX9_childOf_p41 dC dI cB cI cJ cZ a C0 n m_letters m_words m_wMany m_wLetters m_asks m_aWords m_dLetters m_dWords m_dMany m_dText m_dAsks m_dAsk m_tape m_taped m_pos m_from m_sort m_value m_fault m_wrongAt m_manyA m_rowA m_manyB m_rowB m_places m_xs m_ys m_heights m_ridges m_rx m_rHeight m_lanes m_sizes m_cells m_left m_calls m_cDay m_cHour m_cFrom m_cAsk m_cWord m_cOf m_isLie m_children m_learned m_group x1 x2  r0 z_m_manyA z_m_rowA z_m_manyB z_m_rowB z_m_group  _ _ ls h hP hD hS (lv_sub hl [0, 1, 2] rfl)
      · have h := it_use c6 h
        refine lv_iconst (v := -1) hx hb dX9_childOf_39 (by decide) ?_
        obtain ⟨er, ez0, ez1, ez2, ez3, ez4⟩ := rt6_use h
        subst ez0
        subst ez1
        subst ez2
        subst ez3
        subst ez4
        exact re_i hx hb hr hlocks hK hP hD hS er dX9_childOf_40
set_option maxHeartbeats 4000000 in
set_option maxRecDepth 100000 in
theorem kX9_lessons_p35_r {p : Program} {l : Launch} {e : Env} {s : State} {m : MethodId} {args : Array Value} {below : List Frame} {meth : Method} {c : Code} {A : Nat → Prop} (dC : Nat → ClassId) (dI : Nat → Nat → Nat) (cB cI cJ cZ : ClassId) (a : Nat → Nat) (C0 : cxt cX9_lessons (some .int) 6 RX9 wsX9_lessons (dC, dI) (tyz cB cI cJ cZ) E_0 A p s m args meth c) (n : Nat) (m_letters : Nat → Int32) (m_words : Int32) (m_wMany : Nat → Int32) (m_wLetters : Nat → Int32) (m_asks : Int32) (m_aWords : Nat → Int32) (m_dLetters : Nat → Int32) (m_dWords : Int32) (m_dMany : Nat → Int32) (m_dText : Nat → Int32) (m_dAsks : Int32) (m_dAsk : Nat → Int32) (m_tape : Nat → Int32) (m_taped : Int32) (m_pos : Int32) (m_from : Int32) (m_sort : Int32) (m_value : Int32) (m_fault : Int32) (m_wrongAt : Int32) (m_places : Int32) (m_xs : Nat → Int32) (m_ys : Nat → Int32) (m_heights : Nat → Int32) (m_ridges : Int32) (m_rx : Nat → Int32) (m_rHeight : Nat → Int32) (m_lanes : Nat → Int32) (m_sizes : Nat → Int32) (m_cells : Nat → Int32) (m_left : Nat → Int32) (m_calls : Int32) (m_cDay : Nat → Int32) (m_cHour : Nat → Int32) (m_cFrom : Nat → Int32) (m_cAsk : Nat → Int32) (m_cWord : Nat → Int32) (m_cOf : Nat → Int32) (m_isLie : Nat → Int32) (m_children : Int32) (m_learned : Nat → Int32) (m_group : Nat → Int32) (x1 : Int32) (x2 : Int32) (x4 : Int32) (r0 : Int32) (z_m_manyA : Int32) (z_m_rowA : Nat → Int32) (z_m_manyB : Int32) (z_m_rowB : Nat → Int32) (rec23 : Int32 → (Nat → Int32) → Int32 → (Nat → Int32) → Int32 → Int32 → Option (Int32 × Int32 × (Nat → Int32) × Int32 × (Nat → Int32))) (hrec23 : ∀ (y_m_manyA : Int32) (y_m_rowA : Nat → Int32) (y_m_manyB : Int32) (y_m_rowB : Nat → Int32) (y_x3 : Int32) (y_x4 : Int32) (H : Heap) (locs : List Loc) (ls : Array Slot), rec23 y_m_manyA y_m_rowA y_m_manyB y_m_rowB y_x3 y_x4 = some (r0, z_m_manyA, z_m_rowA, z_m_manyB, z_m_rowB) → va_P (dC, dI) vwCl (wM cB cI cJ cZ a m_letters m_words m_wMany m_wLetters m_asks m_aWords m_dLetters m_dWords m_dMany m_dText m_dAsks m_dAsk m_tape m_taped m_pos m_from m_sort m_value m_fault m_wrongAt y_m_manyA y_m_rowA y_m_manyB y_m_rowB m_places m_xs m_ys m_heights m_ridges m_rx m_rHeight m_lanes m_sizes m_cells m_left m_calls m_cDay m_cHour m_cFrom m_cAsk m_cWord m_cOf m_isLie m_children m_learned m_group) H → va_D A (wM cB cI cJ cZ a m_letters m_words m_wMany m_wLetters m_asks m_aWords m_dLetters m_dWords m_dMany m_dText m_dAsks m_dAsk m_tape m_taped m_pos m_from m_sort m_value m_fault m_wrongAt y_m_manyA y_m_rowA y_m_manyB y_m_rowB m_places m_xs m_ys m_heights m_ridges m_rx m_rHeight m_lanes m_sizes m_cells m_left m_calls m_cDay m_cHour m_cFrom m_cAsk m_cWord m_cOf m_isLie m_children m_learned m_group) → va_S A s.heap H locs → lv_has ls 6 [(0, .ref (a 0)), (1, .int x1), (2, .int x2), (3, .int y_x3), (4, .int y_x4)] → W p l e { frames := 3, cells := 0, slots := 0, locals := 72 } s m args below meth c H locs 0 0 (MQ below (gI (dC, dI) (tyz cB cI cJ cZ) (wM cB cI cJ cZ a m_letters m_words m_wMany m_wLetters m_asks m_aWords m_dLetters m_dWords m_dMany m_dText m_dAsks m_dAsk m_tape m_taped m_pos m_from m_sort m_value m_fault m_wrongAt z_m_manyA z_m_rowA z_m_manyB z_m_rowB m_places m_xs m_ys m_heights m_ridges m_rx m_rHeight m_lanes m_sizes m_cells m_left m_calls m_cDay m_cHour m_cFrom m_cAsk m_cWord m_cOf m_isLie m_children m_learned m_group) A r0) args s 0 0 A) (F0 m 23 ls [])) : ∀ (k : Nat) (m_manyA : Int32) (m_rowA : Nat → Int32) (m_manyB : Int32) (m_rowB : Nat → Int32) (x3 : Int32) (x5 : Int32) (H : Heap) (locs : List Loc) (ls : Array Slot), fX9_lessons_p35 n m_letters m_words m_wMany m_wLetters m_aWords m_learned x1 x2 x4 rec23 k m_manyA m_rowA m_manyB m_rowB x3 x5 = some (r0, z_m_manyA, z_m_rowA, z_m_manyB, z_m_rowB) → va_P (dC, dI) vwCl (wM cB cI cJ cZ a m_letters m_words m_wMany m_wLetters m_asks m_aWords m_dLetters m_dWords m_dMany m_dText m_dAsks m_dAsk m_tape m_taped m_pos m_from m_sort m_value m_fault m_wrongAt m_manyA m_rowA m_manyB m_rowB m_places m_xs m_ys m_heights m_ridges m_rx m_rHeight m_lanes m_sizes m_cells m_left m_calls m_cDay m_cHour m_cFrom m_cAsk m_cWord m_cOf m_isLie m_children m_learned m_group) H → va_D A (wM cB cI cJ cZ a m_letters m_words m_wMany m_wLetters m_asks m_aWords m_dLetters m_dWords m_dMany m_dText m_dAsks m_dAsk m_tape m_taped m_pos m_from m_sort m_value m_fault m_wrongAt m_manyA m_rowA m_manyB m_rowB m_places m_xs m_ys m_heights m_ridges m_rx m_rHeight m_lanes m_sizes m_cells m_left m_calls m_cDay m_cHour m_cFrom m_cAsk m_cWord m_cOf m_isLie m_children m_learned m_group) → va_S A s.heap H locs → lv_has ls 6 [(0, .ref (a 0)), (1, .int x1), (2, .int x2), (3, .int x3), (4, .int x4), (5, .int x5)] → W p l e { frames := 3, cells := 0, slots := 0, locals := 72 } s m args below meth c H locs 0 0 (MQ below (gI (dC, dI) (tyz cB cI cJ cZ) (wM cB cI cJ cZ a m_letters m_words m_wMany m_wLetters m_asks m_aWords m_dLetters m_dWords m_dMany m_dText m_dAsks m_dAsk m_tape m_taped m_pos m_from m_sort m_value m_fault m_wrongAt z_m_manyA z_m_rowA z_m_manyB z_m_rowB m_places m_xs m_ys m_heights m_ridges m_rx m_rHeight m_lanes m_sizes m_cells m_left m_calls m_cDay m_cHour m_cFrom m_cAsk m_cWord m_cOf m_isLie m_children m_learned m_group) A r0) args s 0 0 A) (F0 m 35 ls []) := by
  obtain ⟨hx, hb, hr, hml, hown, hts, hlocks, hK, hA, hE⟩ := id C0
  have hw0 := hts (.fieldLink RX9 19 "WhistledWordsModel" "aWords" "[I") (by decide +kernel)
  have hnX9 : ∀ w ∈ u_ws RX9 TX9 46, w ∈ wsX9_lessons := fun _ h => List.mem_cons_of_mem _ (List.mem_append_right _ h)
  intro k
  induction k with
  | zero =>
    intro m_manyA m_rowA m_manyB m_rowB x3 x5 H locs ls h
    cases h
  | succ k ih =>
    intro m_manyA m_rowA m_manyB m_rowB x3 x5 H locs ls h hP hD hS hl
    rw [fX9_lessons_p35] at h
    refine lv_iload hx hb dX9_lessons_35 (lv_at hl 5 rfl) ?_
    refine lv_iload hx hb dX9_lessons_37 (lv_at hl 4 rfl) ?_
    refine lv_icmp_ge (tgt := 98) hx hb dX9_lessons_39 (by decide) (fun c1 => ?_) (fun c1 => ?_)
    · have h := it_use c1 h
      refine lv_iinc (v := x4 + 1) (lv' := [(4, .int (x4 + 1)), (0, .ref (a 0)), (1, .int x1), (2, .int x2), (3, .int x3), (5, .int x5)]) hx hb dX9_lessons_98 hl (k := 4) rfl rfl (by decide) rfl (fun ls hl => ?_)
      refine lv_goto (tgt := 23) hx hb dX9_lessons_101 (by decide) ?_
      exact hrec23 m_manyA m_rowA m_manyB m_rowB x3 (x4 + 1) _ _ ls h hP hD hS (lv_sub hl [1, 2, 3, 4, 0] rfl)
    · have h := ie_use c1 h
      refine lv_iload_n hx hb dX9_lessons_42 rfl (lv_at hl 3 rfl) ?_
      refine lv_aload_n hx hb dX9_lessons_43 rfl (lv_at hl 0 rfl) ?_
      refine gM_mo_aWords hx hb hts hnX9 hown hK hP hw0 dX9_lessons_44 ?_
      refine lv_iload_n hx hb dX9_lessons_47 rfl (lv_at hl 2 rfl) ?_
      obtain ⟨hiv2, h⟩ := ar_use h
      refine lM_mo_aWords hx hb hK hP hiv2 dX9_lessons_48 ?_
      refine lv_topi (fun v2 ev2 => ?_)
      have h := h v2 ev2
      refine lv_iload hx hb dX9_lessons_49 (lv_at hl 4 rfl) ?_
      refine lv_ishr hx hb dX9_lessons_51 ?_
      refine lv_iconst (v := 1) hx hb dX9_lessons_52 (by decide) ?_
      refine lv_iand hx hb dX9_lessons_53 ?_
      refine lv_iconst (v := 1) hx hb dX9_lessons_54 (by decide) ?_
      refine lv_icmp_ne (tgt := 89) hx hb dX9_lessons_55 (by decide) (fun c3 => ?_) (fun c3 => ?_)
      · have h := ie_use c3 h
        refine lv_iconst (v := 0) hx hb dX9_lessons_89 (by decide) ?_
        refine lv_iadd hx hb dX9_lessons_90 ?_
        refine lv_topi (fun v4 ev4 => ?_)
        have h := nm_use ev4 h
        refine lv_istore_n (lv' := [(3, .int v4), (0, .ref (a 0)), (1, .int x1), (2, .int x2), (4, .int x4), (5, .int x5)]) hx hb dX9_lessons_91 rfl hl (by decide) rfl (fun ls hl => ?_)
        refine lv_iinc (v := x5 + 1) (lv' := [(5, .int (x5 + 1)), (3, .int v4), (0, .ref (a 0)), (1, .int x1), (2, .int x2), (4, .int x4)]) hx hb dX9_lessons_92 hl (k := 5) rfl rfl (by decide) rfl (fun ls hl => ?_)
        refine lv_goto (tgt := 35) hx hb dX9_lessons_95 (by decide) ?_
        exact ih m_manyA m_rowA m_manyB m_rowB v4 (x5 + 1) _ _ ls h hP hD hS (lv_sub hl [2, 3, 4, 1, 5, 0] rfl)
      · have h := it_use c3 h
        refine lv_aload_n hx hb dX9_lessons_58 rfl (lv_at hl 0 rfl) ?_
        refine gM_mo_aWords hx hb hts hnX9 hown hK hP hw0 dX9_lessons_59 ?_
        refine lv_iload_n hx hb dX9_lessons_62 rfl (lv_at hl 2 rfl) ?_
        obtain ⟨hiv5, h⟩ := ar_use h
        refine lM_mo_aWords hx hb hK hP hiv5 dX9_lessons_63 ?_
        refine lv_topi (fun v5 ev5 => ?_)
        have h := h v5 ev5
        refine lv_iload hx hb dX9_lessons_64 (lv_at hl 5 rfl) ?_
        refine lv_ishr hx hb dX9_lessons_66 ?_
        refine lv_iconst (v := 1) hx hb dX9_lessons_67 (by decide) ?_
        refine lv_iand hx hb dX9_lessons_68 ?_
        refine lv_iconst (v := 1) hx hb dX9_lessons_69 (by decide) ?_
        refine lv_icmp_ne (tgt := 89) hx hb dX9_lessons_70 (by decide) (fun c6 => ?_) (fun c6 => ?_)
        · have h := ie_use c6 h
          refine lv_iconst (v := 0) hx hb dX9_lessons_89 (by decide) ?_
          refine lv_iadd hx hb dX9_lessons_90 ?_
          refine lv_topi (fun v7 ev7 => ?_)
          have h := nm_use ev7 h
          refine lv_istore_n (lv' := [(3, .int v7), (0, .ref (a 0)), (1, .int x1), (2, .int x2), (4, .int x4), (5, .int x5)]) hx hb dX9_lessons_91 rfl hl (by decide) rfl (fun ls hl => ?_)
          refine lv_iinc (v := x5 + 1) (lv' := [(5, .int (x5 + 1)), (3, .int v7), (0, .ref (a 0)), (1, .int x1), (2, .int x2), (4, .int x4)]) hx hb dX9_lessons_92 hl (k := 5) rfl rfl (by decide) rfl (fun ls hl => ?_)
          refine lv_goto (tgt := 35) hx hb dX9_lessons_95 (by decide) ?_
          exact ih m_manyA m_rowA m_manyB m_rowB v7 (x5 + 1) _ _ ls h hP hD hS (lv_sub hl [2, 3, 4, 1, 5, 0] rfl)
        · have h := it_use c6 h
          refine lv_aload_n hx hb dX9_lessons_73 rfl (lv_at hl 0 rfl) ?_
          refine lv_iload_n hx hb dX9_lessons_74 rfl (lv_at hl 1 rfl) ?_
          refine lv_iload hx hb dX9_lessons_75 (lv_at hl 4 rfl) ?_
          refine lv_iload hx hb dX9_lessons_77 (lv_at hl 5 rfl) ?_
          obtain ⟨v8, v9, f10, v11, f12, hc, h⟩ := bd5_use h
          refine cv_i (As := [.int x1, .int x4, .int x5]) (rest := [.int x3]) ⟨hx, hb, hml, hown, hts⟩ (kX9_doesConfuse l n dC dI cB cI cJ cZ a _ m_letters m_words m_wMany m_wLetters m_asks m_aWords m_dLetters m_dWords m_dMany m_dText m_dAsks m_dAsk m_tape m_taped m_pos m_from m_sort m_value m_fault m_wrongAt m_manyA m_rowA m_manyB m_rowB m_places m_xs m_ys m_heights m_ridges m_rx m_rHeight m_lanes m_sizes m_cells m_left m_calls m_cDay m_cHour m_cFrom m_cAsk m_cWord m_cOf m_isLie m_children m_learned m_group x1 x4 x5 v8 v9 f10 v11 f12 hc) (cwV 3 hts gX9_lessons_X9_doesConfuse rfl rfl rfl (by decide +kernel) ⟨Nat.le_of_ble_eq_true rfl, Nat.le_of_ble_eq_true rfl⟩) EB_0 hE hK hP hD hS hA 0 (ci := 8) rfl rfl rfl rfl hl.1 rfl (Nat.le_of_ble_eq_true rfl) dX9_lessons_79 ⟨Nat.zero_le _, Nat.zero_le _⟩ (fun H locs hP hD hS => ?_)
          refine lv_if_eq (tgt := 89) hx hb dX9_lessons_82 (by decide) (fun c13 => ?_) (fun c13 => ?_)
          · have h := it_use c13 h
            refine lv_iconst (v := 0) hx hb dX9_lessons_89 (by decide) ?_
            refine lv_iadd hx hb dX9_lessons_90 ?_
            refine lv_topi (fun v14 ev14 => ?_)
            have h := nm_use ev14 h
            refine lv_istore_n (lv' := [(3, .int v14), (0, .ref (a 0)), (1, .int x1), (2, .int x2), (4, .int x4), (5, .int x5)]) hx hb dX9_lessons_91 rfl hl (by decide) rfl (fun ls hl => ?_)
            refine lv_iinc (v := x5 + 1) (lv' := [(5, .int (x5 + 1)), (3, .int v14), (0, .ref (a 0)), (1, .int x1), (2, .int x2), (4, .int x4)]) hx hb dX9_lessons_92 hl (k := 5) rfl rfl (by decide) rfl (fun ls hl => ?_)
            refine lv_goto (tgt := 35) hx hb dX9_lessons_95 (by decide) ?_
            exact ih v9 f10 v11 f12 v14 (x5 + 1) _ _ ls h hP hD hS (lv_sub hl [2, 3, 4, 1, 5, 0] rfl)
          · have h := ie_use c13 h
            refine lv_iconst (v := 1) hx hb dX9_lessons_85 (by decide) ?_
            refine lv_goto (tgt := 90) hx hb dX9_lessons_86 (by decide) ?_
            refine lv_iadd hx hb dX9_lessons_90 ?_
            refine lv_topi (fun v15 ev15 => ?_)
            have h := nm_use ev15 h
            refine lv_istore_n (lv' := [(3, .int v15), (0, .ref (a 0)), (1, .int x1), (2, .int x2), (4, .int x4), (5, .int x5)]) hx hb dX9_lessons_91 rfl hl (by decide) rfl (fun ls hl => ?_)
            refine lv_iinc (v := x5 + 1) (lv' := [(5, .int (x5 + 1)), (3, .int v15), (0, .ref (a 0)), (1, .int x1), (2, .int x2), (4, .int x4)]) hx hb dX9_lessons_92 hl (k := 5) rfl rfl (by decide) rfl (fun ls hl => ?_)
            refine lv_goto (tgt := 35) hx hb dX9_lessons_95 (by decide) ?_
            exact ih v9 f10 v11 f12 v15 (x5 + 1) _ _ ls h hP hD hS (lv_sub hl [2, 3, 4, 1, 5, 0] rfl)
theorem kX9_lessons_p35 {p : Program} {l : Launch} {e : Env} {s : State} {m : MethodId} {args : Array Value} {below : List Frame} {meth : Method} {c : Code} {A : Nat → Prop} (dC : Nat → ClassId) (dI : Nat → Nat → Nat) (cB cI cJ cZ : ClassId) (a : Nat → Nat) (C0 : cxt cX9_lessons (some .int) 6 RX9 wsX9_lessons (dC, dI) (tyz cB cI cJ cZ) E_0 A p s m args meth c) (n : Nat) (m_letters : Nat → Int32) (m_words : Int32) (m_wMany : Nat → Int32) (m_wLetters : Nat → Int32) (m_asks : Int32) (m_aWords : Nat → Int32) (m_dLetters : Nat → Int32) (m_dWords : Int32) (m_dMany : Nat → Int32) (m_dText : Nat → Int32) (m_dAsks : Int32) (m_dAsk : Nat → Int32) (m_tape : Nat → Int32) (m_taped : Int32) (m_pos : Int32) (m_from : Int32) (m_sort : Int32) (m_value : Int32) (m_fault : Int32) (m_wrongAt : Int32) (m_manyA : Int32) (m_rowA : Nat → Int32) (m_manyB : Int32) (m_rowB : Nat → Int32) (m_places : Int32) (m_xs : Nat → Int32) (m_ys : Nat → Int32) (m_heights : Nat → Int32) (m_ridges : Int32) (m_rx : Nat → Int32) (m_rHeight : Nat → Int32) (m_lanes : Nat → Int32) (m_sizes : Nat → Int32) (m_cells : Nat → Int32) (m_left : Nat → Int32) (m_calls : Int32) (m_cDay : Nat → Int32) (m_cHour : Nat → Int32) (m_cFrom : Nat → Int32) (m_cAsk : Nat → Int32) (m_cWord : Nat → Int32) (m_cOf : Nat → Int32) (m_isLie : Nat → Int32) (m_children : Int32) (m_learned : Nat → Int32) (m_group : Nat → Int32)  (x1 : Int32) (x2 : Int32) (x3 : Int32) (x4 : Int32) (x5 : Int32) (r0 : Int32) (z_m_manyA : Int32) (z_m_rowA : Nat → Int32) (z_m_manyB : Int32) (z_m_rowB : Nat → Int32) (rec23 : Int32 → (Nat → Int32) → Int32 → (Nat → Int32) → Int32 → Int32 → Option (Int32 × Int32 × (Nat → Int32) × Int32 × (Nat → Int32))) (hrec23 : ∀ (y_m_manyA : Int32) (y_m_rowA : Nat → Int32) (y_m_manyB : Int32) (y_m_rowB : Nat → Int32) (y_x3 : Int32) (y_x4 : Int32) (H : Heap) (locs : List Loc) (ls : Array Slot), rec23 y_m_manyA y_m_rowA y_m_manyB y_m_rowB y_x3 y_x4 = some (r0, z_m_manyA, z_m_rowA, z_m_manyB, z_m_rowB) → va_P (dC, dI) vwCl (wM cB cI cJ cZ a m_letters m_words m_wMany m_wLetters m_asks m_aWords m_dLetters m_dWords m_dMany m_dText m_dAsks m_dAsk m_tape m_taped m_pos m_from m_sort m_value m_fault m_wrongAt y_m_manyA y_m_rowA y_m_manyB y_m_rowB m_places m_xs m_ys m_heights m_ridges m_rx m_rHeight m_lanes m_sizes m_cells m_left m_calls m_cDay m_cHour m_cFrom m_cAsk m_cWord m_cOf m_isLie m_children m_learned m_group) H → va_D A (wM cB cI cJ cZ a m_letters m_words m_wMany m_wLetters m_asks m_aWords m_dLetters m_dWords m_dMany m_dText m_dAsks m_dAsk m_tape m_taped m_pos m_from m_sort m_value m_fault m_wrongAt y_m_manyA y_m_rowA y_m_manyB y_m_rowB m_places m_xs m_ys m_heights m_ridges m_rx m_rHeight m_lanes m_sizes m_cells m_left m_calls m_cDay m_cHour m_cFrom m_cAsk m_cWord m_cOf m_isLie m_children m_learned m_group) → va_S A s.heap H locs → lv_has ls 6 [(0, .ref (a 0)), (1, .int x1), (2, .int x2), (3, .int y_x3), (4, .int y_x4)] → W p l e { frames := 3, cells := 0, slots := 0, locals := 72 } s m args below meth c H locs 0 0 (MQ below (gI (dC, dI) (tyz cB cI cJ cZ) (wM cB cI cJ cZ a m_letters m_words m_wMany m_wLetters m_asks m_aWords m_dLetters m_dWords m_dMany m_dText m_dAsks m_dAsk m_tape m_taped m_pos m_from m_sort m_value m_fault m_wrongAt z_m_manyA z_m_rowA z_m_manyB z_m_rowB m_places m_xs m_ys m_heights m_ridges m_rx m_rHeight m_lanes m_sizes m_cells m_left m_calls m_cDay m_cHour m_cFrom m_cAsk m_cWord m_cOf m_isLie m_children m_learned m_group) A r0) args s 0 0 A) (F0 m 23 ls [])) (k : Nat) (H : Heap) (locs : List Loc) (ls : Array Slot) : fX9_lessons_p35 n m_letters m_words m_wMany m_wLetters m_aWords m_learned x1 x2 x4 rec23 k m_manyA m_rowA m_manyB m_rowB x3 x5 = some (r0, z_m_manyA, z_m_rowA, z_m_manyB, z_m_rowB) → va_P (dC, dI) vwCl (wM cB cI cJ cZ a m_letters m_words m_wMany m_wLetters m_asks m_aWords m_dLetters m_dWords m_dMany m_dText m_dAsks m_dAsk m_tape m_taped m_pos m_from m_sort m_value m_fault m_wrongAt m_manyA m_rowA m_manyB m_rowB m_places m_xs m_ys m_heights m_ridges m_rx m_rHeight m_lanes m_sizes m_cells m_left m_calls m_cDay m_cHour m_cFrom m_cAsk m_cWord m_cOf m_isLie m_children m_learned m_group) H → va_D A (wM cB cI cJ cZ a m_letters m_words m_wMany m_wLetters m_asks m_aWords m_dLetters m_dWords m_dMany m_dText m_dAsks m_dAsk m_tape m_taped m_pos m_from m_sort m_value m_fault m_wrongAt m_manyA m_rowA m_manyB m_rowB m_places m_xs m_ys m_heights m_ridges m_rx m_rHeight m_lanes m_sizes m_cells m_left m_calls m_cDay m_cHour m_cFrom m_cAsk m_cWord m_cOf m_isLie m_children m_learned m_group) → va_S A s.heap H locs → lv_has ls 6 [(0, .ref (a 0)), (1, .int x1), (2, .int x2), (3, .int x3), (4, .int x4), (5, .int x5)] → W p l e { frames := 3, cells := 0, slots := 0, locals := 72 } s m args below meth c H locs 0 0 (MQ below (gI (dC, dI) (tyz cB cI cJ cZ) (wM cB cI cJ cZ a m_letters m_words m_wMany m_wLetters m_asks m_aWords m_dLetters m_dWords m_dMany m_dText m_dAsks m_dAsk m_tape m_taped m_pos m_from m_sort m_value m_fault m_wrongAt z_m_manyA z_m_rowA z_m_manyB z_m_rowB m_places m_xs m_ys m_heights m_ridges m_rx m_rHeight m_lanes m_sizes m_cells m_left m_calls m_cDay m_cHour m_cFrom m_cAsk m_cWord m_cOf m_isLie m_children m_learned m_group) A r0) args s 0 0 A) (F0 m 35 ls []) :=
  kX9_lessons_p35_r dC dI cB cI cJ cZ a C0 n m_letters m_words m_wMany m_wLetters m_asks m_aWords m_dLetters m_dWords m_dMany m_dText m_dAsks m_dAsk m_tape m_taped m_pos m_from m_sort m_value m_fault m_wrongAt m_places m_xs m_ys m_heights m_ridges m_rx m_rHeight m_lanes m_sizes m_cells m_left m_calls m_cDay m_cHour m_cFrom m_cAsk m_cWord m_cOf m_isLie m_children m_learned m_group x1 x2 x4 r0 z_m_manyA z_m_rowA z_m_manyB z_m_rowB rec23 hrec23 k m_manyA m_rowA m_manyB m_rowB x3 x5 H locs ls
set_option maxHeartbeats 4000000 in
set_option maxRecDepth 100000 in
theorem kX9_lessons_p23_r {p : Program} {l : Launch} {e : Env} {s : State} {m : MethodId} {args : Array Value} {below : List Frame} {meth : Method} {c : Code} {A : Nat → Prop} (dC : Nat → ClassId) (dI : Nat → Nat → Nat) (cB cI cJ cZ : ClassId) (a : Nat → Nat) (C0 : cxt cX9_lessons (some .int) 6 RX9 wsX9_lessons (dC, dI) (tyz cB cI cJ cZ) E_0 A p s m args meth c) (n : Nat) (m_letters : Nat → Int32) (m_words : Int32) (m_wMany : Nat → Int32) (m_wLetters : Nat → Int32) (m_asks : Int32) (m_aWords : Nat → Int32) (m_dLetters : Nat → Int32) (m_dWords : Int32) (m_dMany : Nat → Int32) (m_dText : Nat → Int32) (m_dAsks : Int32) (m_dAsk : Nat → Int32) (m_tape : Nat → Int32) (m_taped : Int32) (m_pos : Int32) (m_from : Int32) (m_sort : Int32) (m_value : Int32) (m_fault : Int32) (m_wrongAt : Int32) (m_places : Int32) (m_xs : Nat → Int32) (m_ys : Nat → Int32) (m_heights : Nat → Int32) (m_ridges : Int32) (m_rx : Nat → Int32) (m_rHeight : Nat → Int32) (m_lanes : Nat → Int32) (m_sizes : Nat → Int32) (m_cells : Nat → Int32) (m_left : Nat → Int32) (m_calls : Int32) (m_cDay : Nat → Int32) (m_cHour : Nat → Int32) (m_cFrom : Nat → Int32) (m_cAsk : Nat → Int32) (m_cWord : Nat → Int32) (m_cOf : Nat → Int32) (m_isLie : Nat → Int32) (m_children : Int32) (m_learned : Nat → Int32) (m_group : Nat → Int32) (x1 : Int32) (x2 : Int32) (r0 : Int32) (z_m_manyA : Int32) (z_m_rowA : Nat → Int32) (z_m_manyB : Int32) (z_m_rowB : Nat → Int32)  : ∀ (k : Nat) (m_manyA : Int32) (m_rowA : Nat → Int32) (m_manyB : Int32) (m_rowB : Nat → Int32) (x3 : Int32) (x4 : Int32) (H : Heap) (locs : List Loc) (ls : Array Slot), fX9_lessons_p23 n m_letters m_words m_wMany m_wLetters m_aWords m_learned x1 x2 k m_manyA m_rowA m_manyB m_rowB x3 x4 = some (r0, z_m_manyA, z_m_rowA, z_m_manyB, z_m_rowB) → va_P (dC, dI) vwCl (wM cB cI cJ cZ a m_letters m_words m_wMany m_wLetters m_asks m_aWords m_dLetters m_dWords m_dMany m_dText m_dAsks m_dAsk m_tape m_taped m_pos m_from m_sort m_value m_fault m_wrongAt m_manyA m_rowA m_manyB m_rowB m_places m_xs m_ys m_heights m_ridges m_rx m_rHeight m_lanes m_sizes m_cells m_left m_calls m_cDay m_cHour m_cFrom m_cAsk m_cWord m_cOf m_isLie m_children m_learned m_group) H → va_D A (wM cB cI cJ cZ a m_letters m_words m_wMany m_wLetters m_asks m_aWords m_dLetters m_dWords m_dMany m_dText m_dAsks m_dAsk m_tape m_taped m_pos m_from m_sort m_value m_fault m_wrongAt m_manyA m_rowA m_manyB m_rowB m_places m_xs m_ys m_heights m_ridges m_rx m_rHeight m_lanes m_sizes m_cells m_left m_calls m_cDay m_cHour m_cFrom m_cAsk m_cWord m_cOf m_isLie m_children m_learned m_group) → va_S A s.heap H locs → lv_has ls 6 [(0, .ref (a 0)), (1, .int x1), (2, .int x2), (3, .int x3), (4, .int x4)] → W p l e { frames := 3, cells := 0, slots := 0, locals := 72 } s m args below meth c H locs 0 0 (MQ below (gI (dC, dI) (tyz cB cI cJ cZ) (wM cB cI cJ cZ a m_letters m_words m_wMany m_wLetters m_asks m_aWords m_dLetters m_dWords m_dMany m_dText m_dAsks m_dAsk m_tape m_taped m_pos m_from m_sort m_value m_fault m_wrongAt z_m_manyA z_m_rowA z_m_manyB z_m_rowB m_places m_xs m_ys m_heights m_ridges m_rx m_rHeight m_lanes m_sizes m_cells m_left m_calls m_cDay m_cHour m_cFrom m_cAsk m_cWord m_cOf m_isLie m_children m_learned m_group) A r0) args s 0 0 A) (F0 m 23 ls []) := by
  obtain ⟨hx, hb, hr, hml, hown, hts, hlocks, hK, hA, hE⟩ := id C0
  have hw0 := hts (.fieldLink RX9 186 "WhistledWordsModel" "words" "I") (by decide +kernel)
  have hnX9 : ∀ w ∈ u_ws RX9 TX9 46, w ∈ wsX9_lessons := fun _ h => List.mem_cons_of_mem _ (List.mem_append_right _ h)
  intro k
  induction k with
  | zero =>
    intro m_manyA m_rowA m_manyB m_rowB x3 x4 H locs ls h
    cases h
  | succ k ih =>
    intro m_manyA m_rowA m_manyB m_rowB x3 x4 H locs ls h hP hD hS hl
    rw [fX9_lessons_p23] at h
    refine lv_iload hx hb dX9_lessons_23 (lv_at hl 4 rfl) ?_
    refine lv_aload_n hx hb dX9_lessons_25 rfl (lv_at hl 0 rfl) ?_
    refine gM_mo_words hx hb hts hnX9 hown hK hP hw0 dX9_lessons_26 ?_
    refine lv_icmp_ge (tgt := 104) hx hb dX9_lessons_29 (by decide) (fun c1 => ?_) (fun c1 => ?_)
    · have h := it_use c1 h
      refine lv_iload_n hx hb dX9_lessons_104 rfl (lv_at hl 3 rfl) ?_
      obtain ⟨er, ez0, ez1, ez2, ez3⟩ := rt5_use h
      subst ez0
      subst ez1
      subst ez2
      subst ez3
      exact re_i hx hb hr hlocks hK hP hD hS er dX9_lessons_105
    · have h := ie_use c1 h
      refine lv_iconst (v := 0) hx hb dX9_lessons_32 (by decide) ?_
      refine lv_istore (lv' := [(5, .int (0 : Int32)), (0, .ref (a 0)), (1, .int x1), (2, .int x2), (3, .int x3), (4, .int x4)]) hx hb dX9_lessons_33 hl (by decide) rfl (fun ls hl => ?_)
      exact kX9_lessons_p35 dC dI cB cI cJ cZ a C0 n m_letters m_words m_wMany m_wLetters m_asks m_aWords m_dLetters m_dWords m_dMany m_dText m_dAsks m_dAsk m_tape m_taped m_pos m_from m_sort m_value m_fault m_wrongAt m_manyA m_rowA m_manyB m_rowB m_places m_xs m_ys m_heights m_ridges m_rx m_rHeight m_lanes m_sizes m_cells m_left m_calls m_cDay m_cHour m_cFrom m_cAsk m_cWord m_cOf m_isLie m_children m_learned m_group x1 x2 x3 x4 (0 : Int32) r0 z_m_manyA z_m_rowA z_m_manyB z_m_rowB (fX9_lessons_p23 n m_letters m_words m_wMany m_wLetters m_aWords m_learned x1 x2 k) ih n _ _ ls h hP hD hS (lv_sub hl [1, 2, 3, 4, 5, 0] rfl)
theorem kX9_lessons_p23 {p : Program} {l : Launch} {e : Env} {s : State} {m : MethodId} {args : Array Value} {below : List Frame} {meth : Method} {c : Code} {A : Nat → Prop} (dC : Nat → ClassId) (dI : Nat → Nat → Nat) (cB cI cJ cZ : ClassId) (a : Nat → Nat) (C0 : cxt cX9_lessons (some .int) 6 RX9 wsX9_lessons (dC, dI) (tyz cB cI cJ cZ) E_0 A p s m args meth c) (n : Nat) (m_letters : Nat → Int32) (m_words : Int32) (m_wMany : Nat → Int32) (m_wLetters : Nat → Int32) (m_asks : Int32) (m_aWords : Nat → Int32) (m_dLetters : Nat → Int32) (m_dWords : Int32) (m_dMany : Nat → Int32) (m_dText : Nat → Int32) (m_dAsks : Int32) (m_dAsk : Nat → Int32) (m_tape : Nat → Int32) (m_taped : Int32) (m_pos : Int32) (m_from : Int32) (m_sort : Int32) (m_value : Int32) (m_fault : Int32) (m_wrongAt : Int32) (m_manyA : Int32) (m_rowA : Nat → Int32) (m_manyB : Int32) (m_rowB : Nat → Int32) (m_places : Int32) (m_xs : Nat → Int32) (m_ys : Nat → Int32) (m_heights : Nat → Int32) (m_ridges : Int32) (m_rx : Nat → Int32) (m_rHeight : Nat → Int32) (m_lanes : Nat → Int32) (m_sizes : Nat → Int32) (m_cells : Nat → Int32) (m_left : Nat → Int32) (m_calls : Int32) (m_cDay : Nat → Int32) (m_cHour : Nat → Int32) (m_cFrom : Nat → Int32) (m_cAsk : Nat → Int32) (m_cWord : Nat → Int32) (m_cOf : Nat → Int32) (m_isLie : Nat → Int32) (m_children : Int32) (m_learned : Nat → Int32) (m_group : Nat → Int32)  (x1 : Int32) (x2 : Int32) (x3 : Int32) (x4 : Int32) (r0 : Int32) (z_m_manyA : Int32) (z_m_rowA : Nat → Int32) (z_m_manyB : Int32) (z_m_rowB : Nat → Int32)  (k : Nat) (H : Heap) (locs : List Loc) (ls : Array Slot) : fX9_lessons_p23 n m_letters m_words m_wMany m_wLetters m_aWords m_learned x1 x2 k m_manyA m_rowA m_manyB m_rowB x3 x4 = some (r0, z_m_manyA, z_m_rowA, z_m_manyB, z_m_rowB) → va_P (dC, dI) vwCl (wM cB cI cJ cZ a m_letters m_words m_wMany m_wLetters m_asks m_aWords m_dLetters m_dWords m_dMany m_dText m_dAsks m_dAsk m_tape m_taped m_pos m_from m_sort m_value m_fault m_wrongAt m_manyA m_rowA m_manyB m_rowB m_places m_xs m_ys m_heights m_ridges m_rx m_rHeight m_lanes m_sizes m_cells m_left m_calls m_cDay m_cHour m_cFrom m_cAsk m_cWord m_cOf m_isLie m_children m_learned m_group) H → va_D A (wM cB cI cJ cZ a m_letters m_words m_wMany m_wLetters m_asks m_aWords m_dLetters m_dWords m_dMany m_dText m_dAsks m_dAsk m_tape m_taped m_pos m_from m_sort m_value m_fault m_wrongAt m_manyA m_rowA m_manyB m_rowB m_places m_xs m_ys m_heights m_ridges m_rx m_rHeight m_lanes m_sizes m_cells m_left m_calls m_cDay m_cHour m_cFrom m_cAsk m_cWord m_cOf m_isLie m_children m_learned m_group) → va_S A s.heap H locs → lv_has ls 6 [(0, .ref (a 0)), (1, .int x1), (2, .int x2), (3, .int x3), (4, .int x4)] → W p l e { frames := 3, cells := 0, slots := 0, locals := 72 } s m args below meth c H locs 0 0 (MQ below (gI (dC, dI) (tyz cB cI cJ cZ) (wM cB cI cJ cZ a m_letters m_words m_wMany m_wLetters m_asks m_aWords m_dLetters m_dWords m_dMany m_dText m_dAsks m_dAsk m_tape m_taped m_pos m_from m_sort m_value m_fault m_wrongAt z_m_manyA z_m_rowA z_m_manyB z_m_rowB m_places m_xs m_ys m_heights m_ridges m_rx m_rHeight m_lanes m_sizes m_cells m_left m_calls m_cDay m_cHour m_cFrom m_cAsk m_cWord m_cOf m_isLie m_children m_learned m_group) A r0) args s 0 0 A) (F0 m 23 ls []) :=
  kX9_lessons_p23_r dC dI cB cI cJ cZ a C0 n m_letters m_words m_wMany m_wLetters m_asks m_aWords m_dLetters m_dWords m_dMany m_dText m_dAsks m_dAsk m_tape m_taped m_pos m_from m_sort m_value m_fault m_wrongAt m_places m_xs m_ys m_heights m_ridges m_rx m_rHeight m_lanes m_sizes m_cells m_left m_calls m_cDay m_cHour m_cFrom m_cAsk m_cWord m_cOf m_isLie m_children m_learned m_group x1 x2 r0 z_m_manyA z_m_rowA z_m_manyB z_m_rowB  k m_manyA m_rowA m_manyB m_rowB x3 x4 H locs ls
set_option maxHeartbeats 4000000 in
set_option maxRecDepth 100000 in
theorem kX9_lessons (l : Launch) (n : Nat) (dC : Nat → ClassId) (dI : Nat → Nat → Nat) (cB cI cJ cZ : ClassId) (a : Nat → Nat) (sz : Nat) (m_letters : Nat → Int32) (m_words : Int32) (m_wMany : Nat → Int32) (m_wLetters : Nat → Int32) (m_asks : Int32) (m_aWords : Nat → Int32) (m_dLetters : Nat → Int32) (m_dWords : Int32) (m_dMany : Nat → Int32) (m_dText : Nat → Int32) (m_dAsks : Int32) (m_dAsk : Nat → Int32) (m_tape : Nat → Int32) (m_taped : Int32) (m_pos : Int32) (m_from : Int32) (m_sort : Int32) (m_value : Int32) (m_fault : Int32) (m_wrongAt : Int32) (m_manyA : Int32) (m_rowA : Nat → Int32) (m_manyB : Int32) (m_rowB : Nat → Int32) (m_places : Int32) (m_xs : Nat → Int32) (m_ys : Nat → Int32) (m_heights : Nat → Int32) (m_ridges : Int32) (m_rx : Nat → Int32) (m_rHeight : Nat → Int32) (m_lanes : Nat → Int32) (m_sizes : Nat → Int32) (m_cells : Nat → Int32) (m_left : Nat → Int32) (m_calls : Int32) (m_cDay : Nat → Int32) (m_cHour : Nat → Int32) (m_cFrom : Nat → Int32) (m_cAsk : Nat → Int32) (m_cWord : Nat → Int32) (m_cOf : Nat → Int32) (m_isLie : Nat → Int32) (m_children : Int32) (m_learned : Nat → Int32) (m_group : Nat → Int32) (x1 : Int32) (x2 : Int32) (r0 : Int32) (z_m_manyA : Int32) (z_m_rowA : Nat → Int32) (z_m_manyB : Int32) (z_m_rowB : Nat → Int32) (h : fX9_lessons n m_letters m_words m_wMany m_wLetters m_asks m_aWords m_manyA m_rowA m_manyB m_rowB m_children m_learned x1 x2 = some (r0, z_m_manyA, z_m_rowA, z_m_manyB, z_m_rowB)) : Met l yX9_lessons wsX9_lessons ({ frames := 3, cells := 0, slots := 0, locals := 72 }) (gP (dC, dI) (tyz cB cI cJ cZ) E_0 (wM cB cI cJ cZ a m_letters m_words m_wMany m_wLetters m_asks m_aWords m_dLetters m_dWords m_dMany m_dText m_dAsks m_dAsk m_tape m_taped m_pos m_from m_sort m_value m_fault m_wrongAt m_manyA m_rowA m_manyB m_rowB m_places m_xs m_ys m_heights m_ridges m_rx m_rHeight m_lanes m_sizes m_cells m_left m_calls m_cDay m_cHour m_cFrom m_cAsk m_cWord m_cOf m_isLie m_children m_learned m_group) sz [.ref (a 0), .int x1, .int x2]) (gI (dC, dI) (tyz cB cI cJ cZ) (wM cB cI cJ cZ a m_letters m_words m_wMany m_wLetters m_asks m_aWords m_dLetters m_dWords m_dMany m_dText m_dAsks m_dAsk m_tape m_taped m_pos m_from m_sort m_value m_fault m_wrongAt z_m_manyA z_m_rowA z_m_manyB z_m_rowB m_places m_xs m_ys m_heights m_ridges m_rx m_rHeight m_lanes m_sizes m_cells m_left m_calls m_cDay m_cHour m_cFrom m_cAsk m_cWord m_cOf m_isLie m_children m_learned m_group) (va_A (wM cB cI cJ cZ a m_letters m_words m_wMany m_wLetters m_asks m_aWords m_dLetters m_dWords m_dMany m_dText m_dAsks m_dAsk m_tape m_taped m_pos m_from m_sort m_value m_fault m_wrongAt m_manyA m_rowA m_manyB m_rowB m_places m_xs m_ys m_heights m_ridges m_rx m_rHeight m_lanes m_sizes m_cells m_left m_calls m_cDay m_cHour m_cFrom m_cAsk m_cWord m_cOf m_isLie m_children m_learned m_group) sz) r0) 0 0 (va_A (wM cB cI cJ cZ a m_letters m_words m_wMany m_wLetters m_asks m_aWords m_dLetters m_dWords m_dMany m_dText m_dAsks m_dAsk m_tape m_taped m_pos m_from m_sort m_value m_fault m_wrongAt m_manyA m_rowA m_manyB m_rowB m_places m_xs m_ys m_heights m_ridges m_rx m_rHeight m_lanes m_sizes m_cells m_left m_calls m_cDay m_cHour m_cFrom m_cAsk m_cWord m_cOf m_isLie m_children m_learned m_group) sz) := by
  refine Met.ofW (cc := cX9_lessons) (maxL := 6) (ret := (some .int)) (by decide) rfl ?_
  intro p e s m args below meth c s₁ B hml hv
  obtain ⟨rfl, hsz, hP, hK, hD0, hE⟩ := hv
  have hx := B.exec
  have hb := B.bytes
  have hr := B.returns
  have hts := atoms_spec (ws := wsX9_lessons) B.pre
  have hown : s.vm.findClass RX9 = some m.cls := findClass_of_methodNamed B.named
  have hlocks := B.notSynchronized
  subst hsz
  have hD := hD0.self (sz := s.heap.size)
  have hA : ∀ q : Nat, s.heap.size ≤ q → va_A (wM cB cI cJ cZ a m_letters m_words m_wMany m_wLetters m_asks m_aWords m_dLetters m_dWords m_dMany m_dText m_dAsks m_dAsk m_tape m_taped m_pos m_from m_sort m_value m_fault m_wrongAt m_manyA m_rowA m_manyB m_rowB m_places m_xs m_ys m_heights m_ridges m_rx m_rHeight m_lanes m_sizes m_cells m_left m_calls m_cDay m_cHour m_cFrom m_cAsk m_cWord m_cOf m_isLie m_children m_learned m_group) s.heap.size q := fun q h => Or.inr h
  generalize va_A (wM cB cI cJ cZ a m_letters m_words m_wMany m_wLetters m_asks m_aWords m_dLetters m_dWords m_dMany m_dText m_dAsks m_dAsk m_tape m_taped m_pos m_from m_sort m_value m_fault m_wrongAt m_manyA m_rowA m_manyB m_rowB m_places m_xs m_ys m_heights m_ridges m_rx m_rHeight m_lanes m_sizes m_cells m_left m_calls m_cDay m_cHour m_cFrom m_cAsk m_cWord m_cOf m_isLie m_children m_learned m_group) s.heap.size = A at hD hA hE ⊢
  have hS : va_S A s.heap s.heap [] := va_S.rf
  have C0 : cxt cX9_lessons (some .int) 6 RX9 wsX9_lessons (dC, dI) (tyz cB cI cJ cZ) E_0 A p s m ([.ref (a 0), .int x1, .int x2] : List Value).toArray meth c := ⟨hx, hb, hr, hml, hown, hts, hlocks, hK, hA, hE⟩
  have hl := lv_entry ([.ref (a 0), .int x1, .int x2]) (n := 6) (Nat.le_of_ble_eq_true rfl)
  rw [lg_entry_eq]
  generalize (lg_sl ([.ref (a 0), .int x1, .int x2]) ++ List.replicate (6 - (lg_sl ([.ref (a 0), .int x1, .int x2])).length) Slot.unset).toArray = ls at hl ⊢
  have hl : lv_has ls 6 [(0, .ref (a 0)), (1, .int x1), (2, .int x2)] := hl
  unfold fX9_lessons at h
  refine lv_aload_n hx hb dX9_lessons_0 rfl (lv_at hl 0 rfl) ?_
  refine lv_iload_n hx hb dX9_lessons_1 rfl (lv_at hl 1 rfl) ?_
  obtain ⟨v1, hc, h⟩ := bd1_use h
  refine cv_i (As := [.int x1]) (rest := []) ⟨hx, hb, hml, hown, hts⟩ (kX9_isChild l n dC dI cB cI cJ cZ a _ m_letters m_words m_wMany m_wLetters m_asks m_aWords m_dLetters m_dWords m_dMany m_dText m_dAsks m_dAsk m_tape m_taped m_pos m_from m_sort m_value m_fault m_wrongAt m_manyA m_rowA m_manyB m_rowB m_places m_xs m_ys m_heights m_ridges m_rx m_rHeight m_lanes m_sizes m_cells m_left m_calls m_cDay m_cHour m_cFrom m_cAsk m_cWord m_cOf m_isLie m_children m_learned m_group x1 v1 hc) (cwV 1 hts gX9_lessons_X9_isChild rfl rfl rfl (by decide +kernel) ⟨Nat.le_of_ble_eq_true rfl, Nat.le_of_ble_eq_true rfl⟩) EB_0 hE hK hP hD hS hA 0 (ci := 8) rfl rfl rfl rfl hl.1 rfl (Nat.le_of_ble_eq_true rfl) dX9_lessons_2 ⟨Nat.zero_le _, Nat.zero_le _⟩ (fun H locs hP hD hS => ?_)
  refine lv_if_eq (tgt := 16) hx hb dX9_lessons_5 (by decide) (fun c2 => ?_) (fun c2 => ?_)
  · have h := it_use c2 h
    refine lv_iconst (v := -1) hx hb dX9_lessons_16 (by decide) ?_
    obtain ⟨er, ez0, ez1, ez2, ez3⟩ := rt5_use h
    subst ez0
    subst ez1
    subst ez2
    subst ez3
    exact re_i hx hb hr hlocks hK hP hD hS er dX9_lessons_17
  · have h := ie_use c2 h
    refine lv_aload_n hx hb dX9_lessons_8 rfl (lv_at hl 0 rfl) ?_
    refine lv_iload_n hx hb dX9_lessons_9 rfl (lv_at hl 2 rfl) ?_
    obtain ⟨v3, hc, h⟩ := bd1_use h
    refine cv_i (As := [.int x2]) (rest := []) ⟨hx, hb, hml, hown, hts⟩ (kX9_isAsk l n dC dI cB cI cJ cZ a _ m_letters m_words m_wMany m_wLetters m_asks m_aWords m_dLetters m_dWords m_dMany m_dText m_dAsks m_dAsk m_tape m_taped m_pos m_from m_sort m_value m_fault m_wrongAt m_manyA m_rowA m_manyB m_rowB m_places m_xs m_ys m_heights m_ridges m_rx m_rHeight m_lanes m_sizes m_cells m_left m_calls m_cDay m_cHour m_cFrom m_cAsk m_cWord m_cOf m_isLie m_children m_learned m_group x2 v3 hc) (cwV 1 hts gX9_lessons_X9_isAsk rfl rfl rfl (by decide +kernel) ⟨Nat.le_of_ble_eq_true rfl, Nat.le_of_ble_eq_true rfl⟩) EB_0 hE hK hP hD hS hA 0 (ci := 8) rfl rfl rfl rfl hl.1 rfl (Nat.le_of_ble_eq_true rfl) dX9_lessons_10 ⟨Nat.zero_le _, Nat.zero_le _⟩ (fun H locs hP hD hS => ?_)
    refine lv_if_ne (tgt := 18) hx hb dX9_lessons_13 (by decide) (fun c4 => ?_) (fun c4 => ?_)
    · have h := ie_use c4 h
      refine lv_iconst (v := 0) hx hb dX9_lessons_18 (by decide) ?_
      refine lv_istore_n (lv' := [(3, .int (0 : Int32)), (0, .ref (a 0)), (1, .int x1), (2, .int x2)]) hx hb dX9_lessons_19 rfl hl (by decide) rfl (fun ls hl => ?_)
      refine lv_iconst (v := 0) hx hb dX9_lessons_20 (by decide) ?_
      refine lv_istore (lv' := [(4, .int (0 : Int32)), (3, .int (0 : Int32)), (0, .ref (a 0)), (1, .int x1), (2, .int x2)]) hx hb dX9_lessons_21 hl (by decide) rfl (fun ls hl => ?_)
      exact kX9_lessons_p23 dC dI cB cI cJ cZ a C0 n m_letters m_words m_wMany m_wLetters m_asks m_aWords m_dLetters m_dWords m_dMany m_dText m_dAsks m_dAsk m_tape m_taped m_pos m_from m_sort m_value m_fault m_wrongAt m_manyA m_rowA m_manyB m_rowB m_places m_xs m_ys m_heights m_ridges m_rx m_rHeight m_lanes m_sizes m_cells m_left m_calls m_cDay m_cHour m_cFrom m_cAsk m_cWord m_cOf m_isLie m_children m_learned m_group x1 x2 (0 : Int32) (0 : Int32) r0 z_m_manyA z_m_rowA z_m_manyB z_m_rowB  n _ _ ls h hP hD hS (lv_sub hl [2, 3, 4, 1, 0] rfl)
    · have h := it_use c4 h
      refine lv_iconst (v := -1) hx hb dX9_lessons_16 (by decide) ?_
      obtain ⟨er, ez0, ez1, ez2, ez3⟩ := rt5_use h
      subst ez0
      subst ez1
      subst ez2
      subst ez3
      exact re_i hx hb hr hlocks hK hP hD hS er dX9_lessons_17
set_option maxHeartbeats 4000000 in
set_option maxRecDepth 100000 in
theorem kX9_count_p71 {p : Program} {l : Launch} {e : Env} {s : State} {m : MethodId} {args : Array Value} {below : List Frame} {meth : Method} {c : Code} {A : Nat → Prop} (dC : Nat → ClassId) (dI : Nat → Nat → Nat) (cB cI cJ cZ : ClassId) (a : Nat → Nat) (C0 : cxt cX9_count (some .int) 5 RX9 wsX9_count (dC, dI) (tyz cB cI cJ cZ) E_0 A p s m args meth c) (n : Nat) (m_letters : Nat → Int32) (m_words : Int32) (m_wMany : Nat → Int32) (m_wLetters : Nat → Int32) (m_asks : Int32) (m_aWords : Nat → Int32) (m_dLetters : Nat → Int32) (m_dWords : Int32) (m_dMany : Nat → Int32) (m_dText : Nat → Int32) (m_dAsks : Int32) (m_dAsk : Nat → Int32) (m_tape : Nat → Int32) (m_taped : Int32) (m_pos : Int32) (m_from : Int32) (m_sort : Int32) (m_value : Int32) (m_fault : Int32) (m_wrongAt : Int32) (m_manyA : Int32) (m_rowA : Nat → Int32) (m_manyB : Int32) (m_rowB : Nat → Int32) (m_places : Int32) (m_xs : Nat → Int32) (m_ys : Nat → Int32) (m_heights : Nat → Int32) (m_ridges : Int32) (m_rx : Nat → Int32) (m_rHeight : Nat → Int32) (m_lanes : Nat → Int32) (m_sizes : Nat → Int32) (m_cells : Nat → Int32) (m_left : Nat → Int32) (m_calls : Int32) (m_cDay : Nat → Int32) (m_cHour : Nat → Int32) (m_cFrom : Nat → Int32) (m_cAsk : Nat → Int32) (m_cWord : Nat → Int32) (m_cOf : Nat → Int32) (m_isLie : Nat → Int32) (m_children : Int32) (m_learned : Nat → Int32) (m_group : Nat → Int32)  (x1 : Int32) (x2 : Int32) (x3 : Int32)  (r0 : Int32)  (H : Heap) (locs : List Loc) (ls : Array Slot) : fX9_count_p71 n m_words m_asks m_taped m_places m_ridges m_lanes m_sizes m_calls m_children x1 x2 x3 = some r0 → va_P (dC, dI) vwCl (wM cB cI cJ cZ a m_letters m_words m_wMany m_wLetters m_asks m_aWords m_dLetters m_dWords m_dMany m_dText m_dAsks m_dAsk m_tape m_taped m_pos m_from m_sort m_value m_fault m_wrongAt m_manyA m_rowA m_manyB m_rowB m_places m_xs m_ys m_heights m_ridges m_rx m_rHeight m_lanes m_sizes m_cells m_left m_calls m_cDay m_cHour m_cFrom m_cAsk m_cWord m_cOf m_isLie m_children m_learned m_group) H → va_D A (wM cB cI cJ cZ a m_letters m_words m_wMany m_wLetters m_asks m_aWords m_dLetters m_dWords m_dMany m_dText m_dAsks m_dAsk m_tape m_taped m_pos m_from m_sort m_value m_fault m_wrongAt m_manyA m_rowA m_manyB m_rowB m_places m_xs m_ys m_heights m_ridges m_rx m_rHeight m_lanes m_sizes m_cells m_left m_calls m_cDay m_cHour m_cFrom m_cAsk m_cWord m_cOf m_isLie m_children m_learned m_group) → va_S A s.heap H locs → lv_has ls 5 [(0, .ref (a 0)), (1, .int x1), (2, .int x2), (3, .int x3)] → W p l e { frames := 2, cells := 0, slots := 0, locals := 42 } s m args below meth c H locs 0 0 (MQ below (gI (dC, dI) (tyz cB cI cJ cZ) (wM cB cI cJ cZ a m_letters m_words m_wMany m_wLetters m_asks m_aWords m_dLetters m_dWords m_dMany m_dText m_dAsks m_dAsk m_tape m_taped m_pos m_from m_sort m_value m_fault m_wrongAt m_manyA m_rowA m_manyB m_rowB m_places m_xs m_ys m_heights m_ridges m_rx m_rHeight m_lanes m_sizes m_cells m_left m_calls m_cDay m_cHour m_cFrom m_cAsk m_cWord m_cOf m_isLie m_children m_learned m_group) A r0) args s 0 0 A) (F0 m 71 ls []) := by
  intro h hP hD hS hl
  obtain ⟨hx, hb, hr, hml, hown, hts, hlocks, hK, hA, hE⟩ := id C0
  have hw0 := hts (.fieldLink RX9 186 "WhistledWordsModel" "words" "I") (by decide +kernel)
  have hw1 := hts (.fieldLink RX9 189 "WhistledWordsModel" "asks" "I") (by decide +kernel)
  have hw2 := hts (.fieldLink RX9 245 "WhistledWordsModel" "places" "I") (by decide +kernel)
  have hw3 := hts (.fieldLink RX9 248 "WhistledWordsModel" "ridges" "I") (by decide +kernel)
  have hw4 := hts (.fieldLink RX9 177 "WhistledWordsModel" "calls" "I") (by decide +kernel)
  have hw5 := hts (.fieldLink RX9 180 "WhistledWordsModel" "children" "I") (by decide +kernel)
  have hw6 := hts (.fieldLink RX9 98 "WhistledWordsModel" "taped" "I") (by decide +kernel)
  have hw7 := hts (.fieldLink RX9 58 "WhistledWordsModel" "lanes" "[I") (by decide +kernel)
  have hw8 := hts (.fieldLink RX9 61 "WhistledWordsModel" "sizes" "[I") (by decide +kernel)
  have hnX9 : ∀ w ∈ u_ws RX9 TX9 46, w ∈ wsX9_count := fun _ h => List.mem_cons_of_mem _ (List.mem_append_right _ h)
  unfold fX9_count_p71 at h
  refine lv_iload_n hx hb dX9_count_71 rfl (lv_at hl 1 rfl) ?_
  by_cases c1 : x1 = 0
  · have h := it_use c1 h
    refine lv_tableIn (tgt := 128) hx hb dX9_count_72 (by rw [c1]; decide) (by rw [c1]; decide) (by rw [c1]; rfl) (by decide) ?_
    refine lv_aload_n hx hb dX9_count_128 rfl (lv_at hl 0 rfl) ?_
    refine gM_mo_words hx hb hts hnX9 hown hK hP hw0 dX9_count_129 ?_
    obtain er := rt1_use h
    exact re_i hx hb hr hlocks hK hP hD hS er dX9_count_132
  · have h := ie_use c1 h
    have nc1 := sw_ne c1
    by_cases c2 : x1 = 1
    · have h := it_use c2 h
      refine lv_tableIn (tgt := 133) hx hb dX9_count_72 (by rw [c2]; decide) (by rw [c2]; decide) (by rw [c2]; rfl) (by decide) ?_
      refine lv_aload_n hx hb dX9_count_133 rfl (lv_at hl 0 rfl) ?_
      refine gM_mo_asks hx hb hts hnX9 hown hK hP hw1 dX9_count_134 ?_
      obtain er := rt1_use h
      exact re_i hx hb hr hlocks hK hP hD hS er dX9_count_137
    · have h := ie_use c2 h
      have nc2 := sw_ne c2
      by_cases c3 : x1 = 2
      · have h := it_use c3 h
        refine lv_tableIn (tgt := 138) hx hb dX9_count_72 (by rw [c3]; decide) (by rw [c3]; decide) (by rw [c3]; rfl) (by decide) ?_
        refine lv_iload_n hx hb dX9_count_138 rfl (lv_at hl 2 rfl) ?_
        obtain er := rt1_use h
        exact re_i hx hb hr hlocks hK hP hD hS er dX9_count_139
      · have h := ie_use c3 h
        have nc3 := sw_ne c3
        by_cases c4 : x1 = 3
        · have h := it_use c4 h
          refine lv_tableIn (tgt := 140) hx hb dX9_count_72 (by rw [c4]; decide) (by rw [c4]; decide) (by rw [c4]; rfl) (by decide) ?_
          refine lv_aload_n hx hb dX9_count_140 rfl (lv_at hl 0 rfl) ?_
          refine gM_mo_places hx hb hts hnX9 hown hK hP hw2 dX9_count_141 ?_
          obtain er := rt1_use h
          exact re_i hx hb hr hlocks hK hP hD hS er dX9_count_144
        · have h := ie_use c4 h
          have nc4 := sw_ne c4
          by_cases c5 : x1 = 4
          · have h := it_use c5 h
            refine lv_tableIn (tgt := 145) hx hb dX9_count_72 (by rw [c5]; decide) (by rw [c5]; decide) (by rw [c5]; rfl) (by decide) ?_
            refine lv_aload_n hx hb dX9_count_145 rfl (lv_at hl 0 rfl) ?_
            refine gM_mo_ridges hx hb hts hnX9 hown hK hP hw3 dX9_count_146 ?_
            obtain er := rt1_use h
            exact re_i hx hb hr hlocks hK hP hD hS er dX9_count_149
          · have h := ie_use c5 h
            have nc5 := sw_ne c5
            by_cases c6 : x1 = 5
            · have h := it_use c6 h
              refine lv_tableIn (tgt := 150) hx hb dX9_count_72 (by rw [c6]; decide) (by rw [c6]; decide) (by rw [c6]; rfl) (by decide) ?_
              refine lv_aload_n hx hb dX9_count_150 rfl (lv_at hl 0 rfl) ?_
              refine gM_mo_calls hx hb hts hnX9 hown hK hP hw4 dX9_count_151 ?_
              obtain er := rt1_use h
              exact re_i hx hb hr hlocks hK hP hD hS er dX9_count_154
            · have h := ie_use c6 h
              have nc6 := sw_ne c6
              by_cases c7 : x1 = 6
              · have h := it_use c7 h
                refine lv_tableIn (tgt := 155) hx hb dX9_count_72 (by rw [c7]; decide) (by rw [c7]; decide) (by rw [c7]; rfl) (by decide) ?_
                refine lv_iload_n hx hb dX9_count_155 rfl (lv_at hl 3 rfl) ?_
                obtain er := rt1_use h
                exact re_i hx hb hr hlocks hK hP hD hS er dX9_count_156
              · have h := ie_use c7 h
                have nc7 := sw_ne c7
                by_cases c8 : x1 = 7
                · have h := it_use c8 h
                  refine lv_tableIn (tgt := 157) hx hb dX9_count_72 (by rw [c8]; decide) (by rw [c8]; decide) (by rw [c8]; rfl) (by decide) ?_
                  refine lv_aload_n hx hb dX9_count_157 rfl (lv_at hl 0 rfl) ?_
                  refine gM_mo_children hx hb hts hnX9 hown hK hP hw5 dX9_count_158 ?_
                  obtain er := rt1_use h
                  exact re_i hx hb hr hlocks hK hP hD hS er dX9_count_161
                · have h := ie_use c8 h
                  have nc8 := sw_ne c8
                  by_cases c9 : x1 = 8
                  · have h := it_use c9 h
                    refine lv_tableIn (tgt := 162) hx hb dX9_count_72 (by rw [c9]; decide) (by rw [c9]; decide) (by rw [c9]; rfl) (by decide) ?_
                    refine lv_aload_n hx hb dX9_count_162 rfl (lv_at hl 0 rfl) ?_
                    refine gM_mo_taped hx hb hts hnX9 hown hK hP hw6 dX9_count_163 ?_
                    obtain er := rt1_use h
                    exact re_i hx hb hr hlocks hK hP hD hS er dX9_count_166
                  · have h := ie_use c9 h
                    have nc9 := sw_ne c9
                    by_cases c10 : x1 = 9
                    · have h := it_use c10 h
                      refine lv_tableIn (tgt := 167) hx hb dX9_count_72 (by rw [c10]; decide) (by rw [c10]; decide) (by rw [c10]; rfl) (by decide) ?_
                      refine lv_aload_n hx hb dX9_count_167 rfl (lv_at hl 0 rfl) ?_
                      refine gM_mo_lanes hx hb hts hnX9 hown hK hP hw7 dX9_count_168 ?_
                      refine lv_iconst (v := 0) hx hb dX9_count_171 (by decide) ?_
                      obtain ⟨hiv11, h⟩ := ar_use h
                      refine lM_mo_lanes hx hb hK hP hiv11 dX9_count_172 ?_
                      refine lv_topi (fun v11 ev11 => ?_)
                      have h := h v11 ev11
                      refine lv_bipush (v := -4) hx hb dX9_count_173 (by decide) ?_
                      refine lv_icmp_ne (tgt := 183) hx hb dX9_count_175 (by decide) (fun c12 => ?_) (fun c12 => ?_)
                      · have h := ie_use c12 h
                        refine lv_aload_n hx hb dX9_count_183 rfl (lv_at hl 0 rfl) ?_
                        refine gM_mo_sizes hx hb hts hnX9 hown hK hP hw8 dX9_count_184 ?_
                        refine lv_iconst (v := 0) hx hb dX9_count_187 (by decide) ?_
                        obtain ⟨hiv13, h⟩ := ar_use h
                        refine lM_mo_sizes hx hb hK hP hiv13 dX9_count_188 ?_
                        refine lv_topi (fun v13 ev13 => ?_)
                        have h := h v13 ev13
                        obtain er := rt1_use h
                        exact re_i hx hb hr hlocks hK hP hD hS er dX9_count_189
                      · have h := it_use c12 h
                        refine lv_bipush (v := -4) hx hb dX9_count_178 (by decide) ?_
                        refine lv_goto (tgt := 189) hx hb dX9_count_180 (by decide) ?_
                        obtain er := rt1_use h
                        exact re_i hx hb hr hlocks hK hP hD hS er dX9_count_189
                    · have h := ie_use c10 h
                      have nc10 := sw_ne c10
                      rw [show (0 : Int32).toInt = 0 from by decide] at nc1
                      rw [show (1 : Int32).toInt = 1 from by decide] at nc2
                      rw [show (2 : Int32).toInt = 2 from by decide] at nc3
                      rw [show (3 : Int32).toInt = 3 from by decide] at nc4
                      rw [show (4 : Int32).toInt = 4 from by decide] at nc5
                      rw [show (5 : Int32).toInt = 5 from by decide] at nc6
                      rw [show (6 : Int32).toInt = 6 from by decide] at nc7
                      rw [show (7 : Int32).toInt = 7 from by decide] at nc8
                      rw [show (8 : Int32).toInt = 8 from by decide] at nc9
                      rw [show (9 : Int32).toInt = 9 from by decide] at nc10
                      refine lv_tableOut (tgt := 190) hx hb dX9_count_72 (by omega) (by decide) ?_
                      refine lv_iconst (v := -1) hx hb dX9_count_190 (by decide) ?_
                      obtain er := rt1_use h
                      exact re_i hx hb hr hlocks hK hP hD hS er dX9_count_191
set_option maxHeartbeats 4000000 in
set_option maxRecDepth 100000 in
theorem kX9_count_p39_r {p : Program} {l : Launch} {e : Env} {s : State} {m : MethodId} {args : Array Value} {below : List Frame} {meth : Method} {c : Code} {A : Nat → Prop} (dC : Nat → ClassId) (dI : Nat → Nat → Nat) (cB cI cJ cZ : ClassId) (a : Nat → Nat) (C0 : cxt cX9_count (some .int) 5 RX9 wsX9_count (dC, dI) (tyz cB cI cJ cZ) E_0 A p s m args meth c) (n : Nat) (m_letters : Nat → Int32) (m_words : Int32) (m_wMany : Nat → Int32) (m_wLetters : Nat → Int32) (m_asks : Int32) (m_aWords : Nat → Int32) (m_dLetters : Nat → Int32) (m_dWords : Int32) (m_dMany : Nat → Int32) (m_dText : Nat → Int32) (m_dAsks : Int32) (m_dAsk : Nat → Int32) (m_tape : Nat → Int32) (m_taped : Int32) (m_pos : Int32) (m_from : Int32) (m_sort : Int32) (m_value : Int32) (m_fault : Int32) (m_wrongAt : Int32) (m_manyA : Int32) (m_rowA : Nat → Int32) (m_manyB : Int32) (m_rowB : Nat → Int32) (m_places : Int32) (m_xs : Nat → Int32) (m_ys : Nat → Int32) (m_heights : Nat → Int32) (m_ridges : Int32) (m_rx : Nat → Int32) (m_rHeight : Nat → Int32) (m_lanes : Nat → Int32) (m_sizes : Nat → Int32) (m_cells : Nat → Int32) (m_left : Nat → Int32) (m_calls : Int32) (m_cDay : Nat → Int32) (m_cHour : Nat → Int32) (m_cFrom : Nat → Int32) (m_cAsk : Nat → Int32) (m_cWord : Nat → Int32) (m_cOf : Nat → Int32) (m_isLie : Nat → Int32) (m_children : Int32) (m_learned : Nat → Int32) (m_group : Nat → Int32) (x1 : Int32) (x2 : Int32) (r0 : Int32)  : ∀ (k : Nat) (x3 : Int32) (x4 : Int32) (H : Heap) (locs : List Loc) (ls : Array Slot), fX9_count_p39 n m_words m_asks m_taped m_places m_ridges m_lanes m_sizes m_calls m_cOf m_isLie m_children x1 x2 k x3 x4 = some r0 → va_P (dC, dI) vwCl (wM cB cI cJ cZ a m_letters m_words m_wMany m_wLetters m_asks m_aWords m_dLetters m_dWords m_dMany m_dText m_dAsks m_dAsk m_tape m_taped m_pos m_from m_sort m_value m_fault m_wrongAt m_manyA m_rowA m_manyB m_rowB m_places m_xs m_ys m_heights m_ridges m_rx m_rHeight m_lanes m_sizes m_cells m_left m_calls m_cDay m_cHour m_cFrom m_cAsk m_cWord m_cOf m_isLie m_children m_learned m_group) H → va_D A (wM cB cI cJ cZ a m_letters m_words m_wMany m_wLetters m_asks m_aWords m_dLetters m_dWords m_dMany m_dText m_dAsks m_dAsk m_tape m_taped m_pos m_from m_sort m_value m_fault m_wrongAt m_manyA m_rowA m_manyB m_rowB m_places m_xs m_ys m_heights m_ridges m_rx m_rHeight m_lanes m_sizes m_cells m_left m_calls m_cDay m_cHour m_cFrom m_cAsk m_cWord m_cOf m_isLie m_children m_learned m_group) → va_S A s.heap H locs → lv_has ls 5 [(0, .ref (a 0)), (1, .int x1), (2, .int x2), (3, .int x3), (4, .int x4)] → W p l e { frames := 2, cells := 0, slots := 0, locals := 42 } s m args below meth c H locs 0 0 (MQ below (gI (dC, dI) (tyz cB cI cJ cZ) (wM cB cI cJ cZ a m_letters m_words m_wMany m_wLetters m_asks m_aWords m_dLetters m_dWords m_dMany m_dText m_dAsks m_dAsk m_tape m_taped m_pos m_from m_sort m_value m_fault m_wrongAt m_manyA m_rowA m_manyB m_rowB m_places m_xs m_ys m_heights m_ridges m_rx m_rHeight m_lanes m_sizes m_cells m_left m_calls m_cDay m_cHour m_cFrom m_cAsk m_cWord m_cOf m_isLie m_children m_learned m_group) A r0) args s 0 0 A) (F0 m 39 ls []) := by
  obtain ⟨hx, hb, hr, hml, hown, hts, hlocks, hK, hA, hE⟩ := id C0
  have hw0 := hts (.fieldLink RX9 177 "WhistledWordsModel" "calls" "I") (by decide +kernel)
  have hnX9 : ∀ w ∈ u_ws RX9 TX9 46, w ∈ wsX9_count := fun _ h => List.mem_cons_of_mem _ (List.mem_append_right _ h)
  intro k
  induction k with
  | zero =>
    intro x3 x4 H locs ls h
    cases h
  | succ k ih =>
    intro x3 x4 H locs ls h hP hD hS hl
    rw [fX9_count_p39] at h
    refine lv_iload hx hb dX9_count_39 (lv_at hl 4 rfl) ?_
    refine lv_aload_n hx hb dX9_count_41 rfl (lv_at hl 0 rfl) ?_
    refine gM_mo_calls hx hb hts hnX9 hown hK hP hw0 dX9_count_42 ?_
    refine lv_icmp_ge (tgt := 71) hx hb dX9_count_45 (by decide) (fun c1 => ?_) (fun c1 => ?_)
    · have h := it_use c1 h
      exact kX9_count_p71 dC dI cB cI cJ cZ a C0 n m_letters m_words m_wMany m_wLetters m_asks m_aWords m_dLetters m_dWords m_dMany m_dText m_dAsks m_dAsk m_tape m_taped m_pos m_from m_sort m_value m_fault m_wrongAt m_manyA m_rowA m_manyB m_rowB m_places m_xs m_ys m_heights m_ridges m_rx m_rHeight m_lanes m_sizes m_cells m_left m_calls m_cDay m_cHour m_cFrom m_cAsk m_cWord m_cOf m_isLie m_children m_learned m_group x1 x2 x3  r0  _ _ ls h hP hD hS (lv_sub hl [0, 1, 2, 3] rfl)
    · have h := ie_use c1 h
      refine lv_iload_n hx hb dX9_count_48 rfl (lv_at hl 3 rfl) ?_
      refine lv_aload_n hx hb dX9_count_49 rfl (lv_at hl 0 rfl) ?_
      refine lv_iload hx hb dX9_count_50 (lv_at hl 4 rfl) ?_
      obtain ⟨v2, hc, h⟩ := bd1_use h
      refine cv_i (As := [.int x4]) (rest := [.int x3]) ⟨hx, hb, hml, hown, hts⟩ (kX9_isFalse l n dC dI cB cI cJ cZ a _ m_letters m_words m_wMany m_wLetters m_asks m_aWords m_dLetters m_dWords m_dMany m_dText m_dAsks m_dAsk m_tape m_taped m_pos m_from m_sort m_value m_fault m_wrongAt m_manyA m_rowA m_manyB m_rowB m_places m_xs m_ys m_heights m_ridges m_rx m_rHeight m_lanes m_sizes m_cells m_left m_calls m_cDay m_cHour m_cFrom m_cAsk m_cWord m_cOf m_isLie m_children m_learned m_group x4 v2 hc) (cwV 1 hts gX9_count_X9_isFalse rfl rfl rfl (by decide +kernel) ⟨Nat.le_of_ble_eq_true rfl, Nat.le_of_ble_eq_true rfl⟩) EB_0 hE hK hP hD hS hA 0 (ci := 8) rfl rfl rfl rfl hl.1 rfl (Nat.le_of_ble_eq_true rfl) dX9_count_52 ⟨Nat.zero_le _, Nat.zero_le _⟩ (fun H locs hP hD hS => ?_)
      refine lv_if_eq (tgt := 62) hx hb dX9_count_55 (by decide) (fun c3 => ?_) (fun c3 => ?_)
      · have h := it_use c3 h
        refine lv_iconst (v := 0) hx hb dX9_count_62 (by decide) ?_
        refine lv_iadd hx hb dX9_count_63 ?_
        refine lv_topi (fun v4 ev4 => ?_)
        have h := nm_use ev4 h
        refine lv_istore_n (lv' := [(3, .int v4), (0, .ref (a 0)), (1, .int x1), (2, .int x2), (4, .int x4)]) hx hb dX9_count_64 rfl hl (by decide) rfl (fun ls hl => ?_)
        refine lv_iinc (v := x4 + 1) (lv' := [(4, .int (x4 + 1)), (3, .int v4), (0, .ref (a 0)), (1, .int x1), (2, .int x2)]) hx hb dX9_count_65 hl (k := 4) rfl rfl (by decide) rfl (fun ls hl => ?_)
        refine lv_goto (tgt := 39) hx hb dX9_count_68 (by decide) ?_
        exact ih v4 (x4 + 1) _ _ ls h hP hD hS (lv_sub hl [2, 3, 4, 1, 0] rfl)
      · have h := ie_use c3 h
        refine lv_iconst (v := 1) hx hb dX9_count_58 (by decide) ?_
        refine lv_goto (tgt := 63) hx hb dX9_count_59 (by decide) ?_
        refine lv_iadd hx hb dX9_count_63 ?_
        refine lv_topi (fun v5 ev5 => ?_)
        have h := nm_use ev5 h
        refine lv_istore_n (lv' := [(3, .int v5), (0, .ref (a 0)), (1, .int x1), (2, .int x2), (4, .int x4)]) hx hb dX9_count_64 rfl hl (by decide) rfl (fun ls hl => ?_)
        refine lv_iinc (v := x4 + 1) (lv' := [(4, .int (x4 + 1)), (3, .int v5), (0, .ref (a 0)), (1, .int x1), (2, .int x2)]) hx hb dX9_count_65 hl (k := 4) rfl rfl (by decide) rfl (fun ls hl => ?_)
        refine lv_goto (tgt := 39) hx hb dX9_count_68 (by decide) ?_
        exact ih v5 (x4 + 1) _ _ ls h hP hD hS (lv_sub hl [2, 3, 4, 1, 0] rfl)
theorem kX9_count_p39 {p : Program} {l : Launch} {e : Env} {s : State} {m : MethodId} {args : Array Value} {below : List Frame} {meth : Method} {c : Code} {A : Nat → Prop} (dC : Nat → ClassId) (dI : Nat → Nat → Nat) (cB cI cJ cZ : ClassId) (a : Nat → Nat) (C0 : cxt cX9_count (some .int) 5 RX9 wsX9_count (dC, dI) (tyz cB cI cJ cZ) E_0 A p s m args meth c) (n : Nat) (m_letters : Nat → Int32) (m_words : Int32) (m_wMany : Nat → Int32) (m_wLetters : Nat → Int32) (m_asks : Int32) (m_aWords : Nat → Int32) (m_dLetters : Nat → Int32) (m_dWords : Int32) (m_dMany : Nat → Int32) (m_dText : Nat → Int32) (m_dAsks : Int32) (m_dAsk : Nat → Int32) (m_tape : Nat → Int32) (m_taped : Int32) (m_pos : Int32) (m_from : Int32) (m_sort : Int32) (m_value : Int32) (m_fault : Int32) (m_wrongAt : Int32) (m_manyA : Int32) (m_rowA : Nat → Int32) (m_manyB : Int32) (m_rowB : Nat → Int32) (m_places : Int32) (m_xs : Nat → Int32) (m_ys : Nat → Int32) (m_heights : Nat → Int32) (m_ridges : Int32) (m_rx : Nat → Int32) (m_rHeight : Nat → Int32) (m_lanes : Nat → Int32) (m_sizes : Nat → Int32) (m_cells : Nat → Int32) (m_left : Nat → Int32) (m_calls : Int32) (m_cDay : Nat → Int32) (m_cHour : Nat → Int32) (m_cFrom : Nat → Int32) (m_cAsk : Nat → Int32) (m_cWord : Nat → Int32) (m_cOf : Nat → Int32) (m_isLie : Nat → Int32) (m_children : Int32) (m_learned : Nat → Int32) (m_group : Nat → Int32)  (x1 : Int32) (x2 : Int32) (x3 : Int32) (x4 : Int32) (r0 : Int32)  (k : Nat) (H : Heap) (locs : List Loc) (ls : Array Slot) : fX9_count_p39 n m_words m_asks m_taped m_places m_ridges m_lanes m_sizes m_calls m_cOf m_isLie m_children x1 x2 k x3 x4 = some r0 → va_P (dC, dI) vwCl (wM cB cI cJ cZ a m_letters m_words m_wMany m_wLetters m_asks m_aWords m_dLetters m_dWords m_dMany m_dText m_dAsks m_dAsk m_tape m_taped m_pos m_from m_sort m_value m_fault m_wrongAt m_manyA m_rowA m_manyB m_rowB m_places m_xs m_ys m_heights m_ridges m_rx m_rHeight m_lanes m_sizes m_cells m_left m_calls m_cDay m_cHour m_cFrom m_cAsk m_cWord m_cOf m_isLie m_children m_learned m_group) H → va_D A (wM cB cI cJ cZ a m_letters m_words m_wMany m_wLetters m_asks m_aWords m_dLetters m_dWords m_dMany m_dText m_dAsks m_dAsk m_tape m_taped m_pos m_from m_sort m_value m_fault m_wrongAt m_manyA m_rowA m_manyB m_rowB m_places m_xs m_ys m_heights m_ridges m_rx m_rHeight m_lanes m_sizes m_cells m_left m_calls m_cDay m_cHour m_cFrom m_cAsk m_cWord m_cOf m_isLie m_children m_learned m_group) → va_S A s.heap H locs → lv_has ls 5 [(0, .ref (a 0)), (1, .int x1), (2, .int x2), (3, .int x3), (4, .int x4)] → W p l e { frames := 2, cells := 0, slots := 0, locals := 42 } s m args below meth c H locs 0 0 (MQ below (gI (dC, dI) (tyz cB cI cJ cZ) (wM cB cI cJ cZ a m_letters m_words m_wMany m_wLetters m_asks m_aWords m_dLetters m_dWords m_dMany m_dText m_dAsks m_dAsk m_tape m_taped m_pos m_from m_sort m_value m_fault m_wrongAt m_manyA m_rowA m_manyB m_rowB m_places m_xs m_ys m_heights m_ridges m_rx m_rHeight m_lanes m_sizes m_cells m_left m_calls m_cDay m_cHour m_cFrom m_cAsk m_cWord m_cOf m_isLie m_children m_learned m_group) A r0) args s 0 0 A) (F0 m 39 ls []) :=
  kX9_count_p39_r dC dI cB cI cJ cZ a C0 n m_letters m_words m_wMany m_wLetters m_asks m_aWords m_dLetters m_dWords m_dMany m_dText m_dAsks m_dAsk m_tape m_taped m_pos m_from m_sort m_value m_fault m_wrongAt m_manyA m_rowA m_manyB m_rowB m_places m_xs m_ys m_heights m_ridges m_rx m_rHeight m_lanes m_sizes m_cells m_left m_calls m_cDay m_cHour m_cFrom m_cAsk m_cWord m_cOf m_isLie m_children m_learned m_group x1 x2 r0  k x3 x4 H locs ls
set_option maxHeartbeats 4000000 in
set_option maxRecDepth 100000 in
theorem kX9_count_p4_r {p : Program} {l : Launch} {e : Env} {s : State} {m : MethodId} {args : Array Value} {below : List Frame} {meth : Method} {c : Code} {A : Nat → Prop} (dC : Nat → ClassId) (dI : Nat → Nat → Nat) (cB cI cJ cZ : ClassId) (a : Nat → Nat) (C0 : cxt cX9_count (some .int) 5 RX9 wsX9_count (dC, dI) (tyz cB cI cJ cZ) E_0 A p s m args meth c) (n : Nat) (m_letters : Nat → Int32) (m_words : Int32) (m_wMany : Nat → Int32) (m_wLetters : Nat → Int32) (m_asks : Int32) (m_aWords : Nat → Int32) (m_dLetters : Nat → Int32) (m_dWords : Int32) (m_dMany : Nat → Int32) (m_dText : Nat → Int32) (m_dAsks : Int32) (m_dAsk : Nat → Int32) (m_tape : Nat → Int32) (m_taped : Int32) (m_pos : Int32) (m_from : Int32) (m_sort : Int32) (m_value : Int32) (m_fault : Int32) (m_wrongAt : Int32) (m_manyA : Int32) (m_rowA : Nat → Int32) (m_manyB : Int32) (m_rowB : Nat → Int32) (m_places : Int32) (m_xs : Nat → Int32) (m_ys : Nat → Int32) (m_heights : Nat → Int32) (m_ridges : Int32) (m_rx : Nat → Int32) (m_rHeight : Nat → Int32) (m_lanes : Nat → Int32) (m_sizes : Nat → Int32) (m_cells : Nat → Int32) (m_left : Nat → Int32) (m_calls : Int32) (m_cDay : Nat → Int32) (m_cHour : Nat → Int32) (m_cFrom : Nat → Int32) (m_cAsk : Nat → Int32) (m_cWord : Nat → Int32) (m_cOf : Nat → Int32) (m_isLie : Nat → Int32) (m_children : Int32) (m_learned : Nat → Int32) (m_group : Nat → Int32) (x1 : Int32) (r0 : Int32)  : ∀ (k : Nat) (x2 : Int32) (x3 : Int32) (H : Heap) (locs : List Loc) (ls : Array Slot), fX9_count_p4 n m_letters m_words m_asks m_taped m_places m_ridges m_lanes m_sizes m_calls m_cOf m_isLie m_children x1 k x2 x3 = some r0 → va_P (dC, dI) vwCl (wM cB cI cJ cZ a m_letters m_words m_wMany m_wLetters m_asks m_aWords m_dLetters m_dWords m_dMany m_dText m_dAsks m_dAsk m_tape m_taped m_pos m_from m_sort m_value m_fault m_wrongAt m_manyA m_rowA m_manyB m_rowB m_places m_xs m_ys m_heights m_ridges m_rx m_rHeight m_lanes m_sizes m_cells m_left m_calls m_cDay m_cHour m_cFrom m_cAsk m_cWord m_cOf m_isLie m_children m_learned m_group) H → va_D A (wM cB cI cJ cZ a m_letters m_words m_wMany m_wLetters m_asks m_aWords m_dLetters m_dWords m_dMany m_dText m_dAsks m_dAsk m_tape m_taped m_pos m_from m_sort m_value m_fault m_wrongAt m_manyA m_rowA m_manyB m_rowB m_places m_xs m_ys m_heights m_ridges m_rx m_rHeight m_lanes m_sizes m_cells m_left m_calls m_cDay m_cHour m_cFrom m_cAsk m_cWord m_cOf m_isLie m_children m_learned m_group) → va_S A s.heap H locs → lv_has ls 5 [(0, .ref (a 0)), (1, .int x1), (2, .int x2), (3, .int x3)] → W p l e { frames := 2, cells := 0, slots := 0, locals := 42 } s m args below meth c H locs 0 0 (MQ below (gI (dC, dI) (tyz cB cI cJ cZ) (wM cB cI cJ cZ a m_letters m_words m_wMany m_wLetters m_asks m_aWords m_dLetters m_dWords m_dMany m_dText m_dAsks m_dAsk m_tape m_taped m_pos m_from m_sort m_value m_fault m_wrongAt m_manyA m_rowA m_manyB m_rowB m_places m_xs m_ys m_heights m_ridges m_rx m_rHeight m_lanes m_sizes m_cells m_left m_calls m_cDay m_cHour m_cFrom m_cAsk m_cWord m_cOf m_isLie m_children m_learned m_group) A r0) args s 0 0 A) (F0 m 4 ls []) := by
  obtain ⟨hx, hb, hr, hml, hown, hts, hlocks, hK, hA, hE⟩ := id C0
  have hw0 := hts (.fieldLink RX9 7 "WhistledWordsModel" "letters" "[I") (by decide +kernel)
  have hnX9 : ∀ w ∈ u_ws RX9 TX9 46, w ∈ wsX9_count := fun _ h => List.mem_cons_of_mem _ (List.mem_append_right _ h)
  intro k
  induction k with
  | zero =>
    intro x2 x3 H locs ls h
    cases h
  | succ k ih =>
    intro x2 x3 H locs ls h hP hD hS hl
    rw [fX9_count_p4] at h
    refine lv_iload_n hx hb dX9_count_4 rfl (lv_at hl 3 rfl) ?_
    refine lv_bipush (v := 26) hx hb dX9_count_5 (by decide) ?_
    refine lv_icmp_ge (tgt := 34) hx hb dX9_count_7 (by decide) (fun c1 => ?_) (fun c1 => ?_)
    · have h := it_use c1 h
      refine lv_iconst (v := 0) hx hb dX9_count_34 (by decide) ?_
      refine lv_istore_n (lv' := [(3, .int (0 : Int32)), (0, .ref (a 0)), (1, .int x1), (2, .int x2)]) hx hb dX9_count_35 rfl hl (by decide) rfl (fun ls hl => ?_)
      refine lv_iconst (v := 0) hx hb dX9_count_36 (by decide) ?_
      refine lv_istore (lv' := [(4, .int (0 : Int32)), (3, .int (0 : Int32)), (0, .ref (a 0)), (1, .int x1), (2, .int x2)]) hx hb dX9_count_37 hl (by decide) rfl (fun ls hl => ?_)
      exact kX9_count_p39 dC dI cB cI cJ cZ a C0 n m_letters m_words m_wMany m_wLetters m_asks m_aWords m_dLetters m_dWords m_dMany m_dText m_dAsks m_dAsk m_tape m_taped m_pos m_from m_sort m_value m_fault m_wrongAt m_manyA m_rowA m_manyB m_rowB m_places m_xs m_ys m_heights m_ridges m_rx m_rHeight m_lanes m_sizes m_cells m_left m_calls m_cDay m_cHour m_cFrom m_cAsk m_cWord m_cOf m_isLie m_children m_learned m_group x1 x2 (0 : Int32) (0 : Int32) r0  n _ _ ls h hP hD hS (lv_sub hl [2, 3, 4, 1, 0] rfl)
    · have h := ie_use c1 h
      refine lv_iload_n hx hb dX9_count_10 rfl (lv_at hl 2 rfl) ?_
      refine lv_aload_n hx hb dX9_count_11 rfl (lv_at hl 0 rfl) ?_
      refine gM_mo_letters hx hb hts hnX9 hown hK hP hw0 dX9_count_12 ?_
      refine lv_iload_n hx hb dX9_count_15 rfl (lv_at hl 3 rfl) ?_
      obtain ⟨hiv2, h⟩ := ar_use h
      refine lM_mo_letters hx hb hK hP hiv2 dX9_count_16 ?_
      refine lv_topi (fun v2 ev2 => ?_)
      have h := h v2 ev2
      refine lv_iconst (v := -1) hx hb dX9_count_17 (by decide) ?_
      refine lv_icmp_ne (tgt := 25) hx hb dX9_count_18 (by decide) (fun c3 => ?_) (fun c3 => ?_)
      · have h := ie_use c3 h
        refine lv_iconst (v := 1) hx hb dX9_count_25 (by decide) ?_
        refine lv_iadd hx hb dX9_count_26 ?_
        refine lv_topi (fun v4 ev4 => ?_)
        have h := nm_use ev4 h
        refine lv_istore_n (lv' := [(2, .int v4), (0, .ref (a 0)), (1, .int x1), (3, .int x3)]) hx hb dX9_count_27 rfl hl (by decide) rfl (fun ls hl => ?_)
        refine lv_iinc (v := x3 + 1) (lv' := [(3, .int (x3 + 1)), (2, .int v4), (0, .ref (a 0)), (1, .int x1)]) hx hb dX9_count_28 hl (k := 3) rfl rfl (by decide) rfl (fun ls hl => ?_)
        refine lv_goto (tgt := 4) hx hb dX9_count_31 (by decide) ?_
        exact ih v4 (x3 + 1) _ _ ls h hP hD hS (lv_sub hl [2, 3, 1, 0] rfl)
      · have h := it_use c3 h
        refine lv_iconst (v := 0) hx hb dX9_count_21 (by decide) ?_
        refine lv_goto (tgt := 26) hx hb dX9_count_22 (by decide) ?_
        refine lv_iadd hx hb dX9_count_26 ?_
        refine lv_topi (fun v5 ev5 => ?_)
        have h := nm_use ev5 h
        refine lv_istore_n (lv' := [(2, .int v5), (0, .ref (a 0)), (1, .int x1), (3, .int x3)]) hx hb dX9_count_27 rfl hl (by decide) rfl (fun ls hl => ?_)
        refine lv_iinc (v := x3 + 1) (lv' := [(3, .int (x3 + 1)), (2, .int v5), (0, .ref (a 0)), (1, .int x1)]) hx hb dX9_count_28 hl (k := 3) rfl rfl (by decide) rfl (fun ls hl => ?_)
        refine lv_goto (tgt := 4) hx hb dX9_count_31 (by decide) ?_
        exact ih v5 (x3 + 1) _ _ ls h hP hD hS (lv_sub hl [2, 3, 1, 0] rfl)
theorem kX9_count_p4 {p : Program} {l : Launch} {e : Env} {s : State} {m : MethodId} {args : Array Value} {below : List Frame} {meth : Method} {c : Code} {A : Nat → Prop} (dC : Nat → ClassId) (dI : Nat → Nat → Nat) (cB cI cJ cZ : ClassId) (a : Nat → Nat) (C0 : cxt cX9_count (some .int) 5 RX9 wsX9_count (dC, dI) (tyz cB cI cJ cZ) E_0 A p s m args meth c) (n : Nat) (m_letters : Nat → Int32) (m_words : Int32) (m_wMany : Nat → Int32) (m_wLetters : Nat → Int32) (m_asks : Int32) (m_aWords : Nat → Int32) (m_dLetters : Nat → Int32) (m_dWords : Int32) (m_dMany : Nat → Int32) (m_dText : Nat → Int32) (m_dAsks : Int32) (m_dAsk : Nat → Int32) (m_tape : Nat → Int32) (m_taped : Int32) (m_pos : Int32) (m_from : Int32) (m_sort : Int32) (m_value : Int32) (m_fault : Int32) (m_wrongAt : Int32) (m_manyA : Int32) (m_rowA : Nat → Int32) (m_manyB : Int32) (m_rowB : Nat → Int32) (m_places : Int32) (m_xs : Nat → Int32) (m_ys : Nat → Int32) (m_heights : Nat → Int32) (m_ridges : Int32) (m_rx : Nat → Int32) (m_rHeight : Nat → Int32) (m_lanes : Nat → Int32) (m_sizes : Nat → Int32) (m_cells : Nat → Int32) (m_left : Nat → Int32) (m_calls : Int32) (m_cDay : Nat → Int32) (m_cHour : Nat → Int32) (m_cFrom : Nat → Int32) (m_cAsk : Nat → Int32) (m_cWord : Nat → Int32) (m_cOf : Nat → Int32) (m_isLie : Nat → Int32) (m_children : Int32) (m_learned : Nat → Int32) (m_group : Nat → Int32)  (x1 : Int32) (x2 : Int32) (x3 : Int32) (r0 : Int32)  (k : Nat) (H : Heap) (locs : List Loc) (ls : Array Slot) : fX9_count_p4 n m_letters m_words m_asks m_taped m_places m_ridges m_lanes m_sizes m_calls m_cOf m_isLie m_children x1 k x2 x3 = some r0 → va_P (dC, dI) vwCl (wM cB cI cJ cZ a m_letters m_words m_wMany m_wLetters m_asks m_aWords m_dLetters m_dWords m_dMany m_dText m_dAsks m_dAsk m_tape m_taped m_pos m_from m_sort m_value m_fault m_wrongAt m_manyA m_rowA m_manyB m_rowB m_places m_xs m_ys m_heights m_ridges m_rx m_rHeight m_lanes m_sizes m_cells m_left m_calls m_cDay m_cHour m_cFrom m_cAsk m_cWord m_cOf m_isLie m_children m_learned m_group) H → va_D A (wM cB cI cJ cZ a m_letters m_words m_wMany m_wLetters m_asks m_aWords m_dLetters m_dWords m_dMany m_dText m_dAsks m_dAsk m_tape m_taped m_pos m_from m_sort m_value m_fault m_wrongAt m_manyA m_rowA m_manyB m_rowB m_places m_xs m_ys m_heights m_ridges m_rx m_rHeight m_lanes m_sizes m_cells m_left m_calls m_cDay m_cHour m_cFrom m_cAsk m_cWord m_cOf m_isLie m_children m_learned m_group) → va_S A s.heap H locs → lv_has ls 5 [(0, .ref (a 0)), (1, .int x1), (2, .int x2), (3, .int x3)] → W p l e { frames := 2, cells := 0, slots := 0, locals := 42 } s m args below meth c H locs 0 0 (MQ below (gI (dC, dI) (tyz cB cI cJ cZ) (wM cB cI cJ cZ a m_letters m_words m_wMany m_wLetters m_asks m_aWords m_dLetters m_dWords m_dMany m_dText m_dAsks m_dAsk m_tape m_taped m_pos m_from m_sort m_value m_fault m_wrongAt m_manyA m_rowA m_manyB m_rowB m_places m_xs m_ys m_heights m_ridges m_rx m_rHeight m_lanes m_sizes m_cells m_left m_calls m_cDay m_cHour m_cFrom m_cAsk m_cWord m_cOf m_isLie m_children m_learned m_group) A r0) args s 0 0 A) (F0 m 4 ls []) :=
  kX9_count_p4_r dC dI cB cI cJ cZ a C0 n m_letters m_words m_wMany m_wLetters m_asks m_aWords m_dLetters m_dWords m_dMany m_dText m_dAsks m_dAsk m_tape m_taped m_pos m_from m_sort m_value m_fault m_wrongAt m_manyA m_rowA m_manyB m_rowB m_places m_xs m_ys m_heights m_ridges m_rx m_rHeight m_lanes m_sizes m_cells m_left m_calls m_cDay m_cHour m_cFrom m_cAsk m_cWord m_cOf m_isLie m_children m_learned m_group x1 r0  k x2 x3 H locs ls
set_option maxHeartbeats 4000000 in
set_option maxRecDepth 100000 in
theorem kX9_count (l : Launch) (n : Nat) (dC : Nat → ClassId) (dI : Nat → Nat → Nat) (cB cI cJ cZ : ClassId) (a : Nat → Nat) (sz : Nat) (m_letters : Nat → Int32) (m_words : Int32) (m_wMany : Nat → Int32) (m_wLetters : Nat → Int32) (m_asks : Int32) (m_aWords : Nat → Int32) (m_dLetters : Nat → Int32) (m_dWords : Int32) (m_dMany : Nat → Int32) (m_dText : Nat → Int32) (m_dAsks : Int32) (m_dAsk : Nat → Int32) (m_tape : Nat → Int32) (m_taped : Int32) (m_pos : Int32) (m_from : Int32) (m_sort : Int32) (m_value : Int32) (m_fault : Int32) (m_wrongAt : Int32) (m_manyA : Int32) (m_rowA : Nat → Int32) (m_manyB : Int32) (m_rowB : Nat → Int32) (m_places : Int32) (m_xs : Nat → Int32) (m_ys : Nat → Int32) (m_heights : Nat → Int32) (m_ridges : Int32) (m_rx : Nat → Int32) (m_rHeight : Nat → Int32) (m_lanes : Nat → Int32) (m_sizes : Nat → Int32) (m_cells : Nat → Int32) (m_left : Nat → Int32) (m_calls : Int32) (m_cDay : Nat → Int32) (m_cHour : Nat → Int32) (m_cFrom : Nat → Int32) (m_cAsk : Nat → Int32) (m_cWord : Nat → Int32) (m_cOf : Nat → Int32) (m_isLie : Nat → Int32) (m_children : Int32) (m_learned : Nat → Int32) (m_group : Nat → Int32) (x1 : Int32) (r0 : Int32) (h : fX9_count n m_letters m_words m_asks m_taped m_places m_ridges m_lanes m_sizes m_calls m_cOf m_isLie m_children x1 = some r0) : Met l yX9_count wsX9_count ({ frames := 2, cells := 0, slots := 0, locals := 42 }) (gP (dC, dI) (tyz cB cI cJ cZ) E_0 (wM cB cI cJ cZ a m_letters m_words m_wMany m_wLetters m_asks m_aWords m_dLetters m_dWords m_dMany m_dText m_dAsks m_dAsk m_tape m_taped m_pos m_from m_sort m_value m_fault m_wrongAt m_manyA m_rowA m_manyB m_rowB m_places m_xs m_ys m_heights m_ridges m_rx m_rHeight m_lanes m_sizes m_cells m_left m_calls m_cDay m_cHour m_cFrom m_cAsk m_cWord m_cOf m_isLie m_children m_learned m_group) sz [.ref (a 0), .int x1]) (gI (dC, dI) (tyz cB cI cJ cZ) (wM cB cI cJ cZ a m_letters m_words m_wMany m_wLetters m_asks m_aWords m_dLetters m_dWords m_dMany m_dText m_dAsks m_dAsk m_tape m_taped m_pos m_from m_sort m_value m_fault m_wrongAt m_manyA m_rowA m_manyB m_rowB m_places m_xs m_ys m_heights m_ridges m_rx m_rHeight m_lanes m_sizes m_cells m_left m_calls m_cDay m_cHour m_cFrom m_cAsk m_cWord m_cOf m_isLie m_children m_learned m_group) (va_A (wM cB cI cJ cZ a m_letters m_words m_wMany m_wLetters m_asks m_aWords m_dLetters m_dWords m_dMany m_dText m_dAsks m_dAsk m_tape m_taped m_pos m_from m_sort m_value m_fault m_wrongAt m_manyA m_rowA m_manyB m_rowB m_places m_xs m_ys m_heights m_ridges m_rx m_rHeight m_lanes m_sizes m_cells m_left m_calls m_cDay m_cHour m_cFrom m_cAsk m_cWord m_cOf m_isLie m_children m_learned m_group) sz) r0) 0 0 (va_A (wM cB cI cJ cZ a m_letters m_words m_wMany m_wLetters m_asks m_aWords m_dLetters m_dWords m_dMany m_dText m_dAsks m_dAsk m_tape m_taped m_pos m_from m_sort m_value m_fault m_wrongAt m_manyA m_rowA m_manyB m_rowB m_places m_xs m_ys m_heights m_ridges m_rx m_rHeight m_lanes m_sizes m_cells m_left m_calls m_cDay m_cHour m_cFrom m_cAsk m_cWord m_cOf m_isLie m_children m_learned m_group) sz) := by
  refine Met.ofW (cc := cX9_count) (maxL := 5) (ret := (some .int)) (by decide) rfl ?_
  intro p e s m args below meth c s₁ B hml hv
  obtain ⟨rfl, hsz, hP, hK, hD0, hE⟩ := hv
  have hx := B.exec
  have hb := B.bytes
  have hr := B.returns
  have hts := atoms_spec (ws := wsX9_count) B.pre
  have hown : s.vm.findClass RX9 = some m.cls := findClass_of_methodNamed B.named
  have hlocks := B.notSynchronized
  subst hsz
  have hD := hD0.self (sz := s.heap.size)
  have hA : ∀ q : Nat, s.heap.size ≤ q → va_A (wM cB cI cJ cZ a m_letters m_words m_wMany m_wLetters m_asks m_aWords m_dLetters m_dWords m_dMany m_dText m_dAsks m_dAsk m_tape m_taped m_pos m_from m_sort m_value m_fault m_wrongAt m_manyA m_rowA m_manyB m_rowB m_places m_xs m_ys m_heights m_ridges m_rx m_rHeight m_lanes m_sizes m_cells m_left m_calls m_cDay m_cHour m_cFrom m_cAsk m_cWord m_cOf m_isLie m_children m_learned m_group) s.heap.size q := fun q h => Or.inr h
  generalize va_A (wM cB cI cJ cZ a m_letters m_words m_wMany m_wLetters m_asks m_aWords m_dLetters m_dWords m_dMany m_dText m_dAsks m_dAsk m_tape m_taped m_pos m_from m_sort m_value m_fault m_wrongAt m_manyA m_rowA m_manyB m_rowB m_places m_xs m_ys m_heights m_ridges m_rx m_rHeight m_lanes m_sizes m_cells m_left m_calls m_cDay m_cHour m_cFrom m_cAsk m_cWord m_cOf m_isLie m_children m_learned m_group) s.heap.size = A at hD hA hE ⊢
  have hS : va_S A s.heap s.heap [] := va_S.rf
  have C0 : cxt cX9_count (some .int) 5 RX9 wsX9_count (dC, dI) (tyz cB cI cJ cZ) E_0 A p s m ([.ref (a 0), .int x1] : List Value).toArray meth c := ⟨hx, hb, hr, hml, hown, hts, hlocks, hK, hA, hE⟩
  have hl := lv_entry ([.ref (a 0), .int x1]) (n := 5) (Nat.le_of_ble_eq_true rfl)
  rw [lg_entry_eq]
  generalize (lg_sl ([.ref (a 0), .int x1]) ++ List.replicate (5 - (lg_sl ([.ref (a 0), .int x1])).length) Slot.unset).toArray = ls at hl ⊢
  have hl : lv_has ls 5 [(0, .ref (a 0)), (1, .int x1)] := hl
  unfold fX9_count at h
  refine lv_iconst (v := 0) hx hb dX9_count_0 (by decide) ?_
  refine lv_istore_n (lv' := [(2, .int (0 : Int32)), (0, .ref (a 0)), (1, .int x1)]) hx hb dX9_count_1 rfl hl (by decide) rfl (fun ls hl => ?_)
  refine lv_iconst (v := 0) hx hb dX9_count_2 (by decide) ?_
  refine lv_istore_n (lv' := [(3, .int (0 : Int32)), (2, .int (0 : Int32)), (0, .ref (a 0)), (1, .int x1)]) hx hb dX9_count_3 rfl hl (by decide) rfl (fun ls hl => ?_)
  exact kX9_count_p4 dC dI cB cI cJ cZ a C0 n m_letters m_words m_wMany m_wLetters m_asks m_aWords m_dLetters m_dWords m_dMany m_dText m_dAsks m_dAsk m_tape m_taped m_pos m_from m_sort m_value m_fault m_wrongAt m_manyA m_rowA m_manyB m_rowB m_places m_xs m_ys m_heights m_ridges m_rx m_rHeight m_lanes m_sizes m_cells m_left m_calls m_cDay m_cHour m_cFrom m_cAsk m_cWord m_cOf m_isLie m_children m_learned m_group x1 (0 : Int32) (0 : Int32) r0  n _ _ ls h hP hD hS (lv_sub hl [2, 3, 1, 0] rfl)
set_option maxHeartbeats 4000000 in
set_option maxRecDepth 100000 in
theorem kX9_look (l : Launch) (n : Nat) (dC : Nat → ClassId) (dI : Nat → Nat → Nat) (cB cI cJ cZ : ClassId) (a : Nat → Nat) (sz : Nat) (m_letters : Nat → Int32) (m_words : Int32) (m_wMany : Nat → Int32) (m_wLetters : Nat → Int32) (m_asks : Int32) (m_aWords : Nat → Int32) (m_dLetters : Nat → Int32) (m_dWords : Int32) (m_dMany : Nat → Int32) (m_dText : Nat → Int32) (m_dAsks : Int32) (m_dAsk : Nat → Int32) (m_tape : Nat → Int32) (m_taped : Int32) (m_pos : Int32) (m_from : Int32) (m_sort : Int32) (m_value : Int32) (m_fault : Int32) (m_wrongAt : Int32) (m_manyA : Int32) (m_rowA : Nat → Int32) (m_manyB : Int32) (m_rowB : Nat → Int32) (m_places : Int32) (m_xs : Nat → Int32) (m_ys : Nat → Int32) (m_heights : Nat → Int32) (m_ridges : Int32) (m_rx : Nat → Int32) (m_rHeight : Nat → Int32) (m_lanes : Nat → Int32) (m_sizes : Nat → Int32) (m_cells : Nat → Int32) (m_left : Nat → Int32) (m_calls : Int32) (m_cDay : Nat → Int32) (m_cHour : Nat → Int32) (m_cFrom : Nat → Int32) (m_cAsk : Nat → Int32) (m_cWord : Nat → Int32) (m_cOf : Nat → Int32) (m_isLie : Nat → Int32) (m_children : Int32) (m_learned : Nat → Int32) (m_group : Nat → Int32) (x1 : Int32) (r0 : Int32) (h : fX9_look n m_tape m_taped x1 = some r0) : Met l yX9_look wsX9_look ({ frames := 0, cells := 0, slots := 0, locals := 0 }) (gP (dC, dI) (tyz cB cI cJ cZ) E_0 (wM cB cI cJ cZ a m_letters m_words m_wMany m_wLetters m_asks m_aWords m_dLetters m_dWords m_dMany m_dText m_dAsks m_dAsk m_tape m_taped m_pos m_from m_sort m_value m_fault m_wrongAt m_manyA m_rowA m_manyB m_rowB m_places m_xs m_ys m_heights m_ridges m_rx m_rHeight m_lanes m_sizes m_cells m_left m_calls m_cDay m_cHour m_cFrom m_cAsk m_cWord m_cOf m_isLie m_children m_learned m_group) sz [.ref (a 0), .int x1]) (gI (dC, dI) (tyz cB cI cJ cZ) (wM cB cI cJ cZ a m_letters m_words m_wMany m_wLetters m_asks m_aWords m_dLetters m_dWords m_dMany m_dText m_dAsks m_dAsk m_tape m_taped m_pos m_from m_sort m_value m_fault m_wrongAt m_manyA m_rowA m_manyB m_rowB m_places m_xs m_ys m_heights m_ridges m_rx m_rHeight m_lanes m_sizes m_cells m_left m_calls m_cDay m_cHour m_cFrom m_cAsk m_cWord m_cOf m_isLie m_children m_learned m_group) (va_A (wM cB cI cJ cZ a m_letters m_words m_wMany m_wLetters m_asks m_aWords m_dLetters m_dWords m_dMany m_dText m_dAsks m_dAsk m_tape m_taped m_pos m_from m_sort m_value m_fault m_wrongAt m_manyA m_rowA m_manyB m_rowB m_places m_xs m_ys m_heights m_ridges m_rx m_rHeight m_lanes m_sizes m_cells m_left m_calls m_cDay m_cHour m_cFrom m_cAsk m_cWord m_cOf m_isLie m_children m_learned m_group) sz) r0) 0 0 (va_A (wM cB cI cJ cZ a m_letters m_words m_wMany m_wLetters m_asks m_aWords m_dLetters m_dWords m_dMany m_dText m_dAsks m_dAsk m_tape m_taped m_pos m_from m_sort m_value m_fault m_wrongAt m_manyA m_rowA m_manyB m_rowB m_places m_xs m_ys m_heights m_ridges m_rx m_rHeight m_lanes m_sizes m_cells m_left m_calls m_cDay m_cHour m_cFrom m_cAsk m_cWord m_cOf m_isLie m_children m_learned m_group) sz) := by
  refine Met.ofW (cc := cX9_look) (maxL := 2) (ret := (some .int)) (by decide) rfl ?_
  intro p e s m args below meth c s₁ B hml hv
  obtain ⟨rfl, hsz, hP, hK, hD0, hE⟩ := hv
  have hx := B.exec
  have hb := B.bytes
  have hr := B.returns
  have hts := atoms_spec (ws := wsX9_look) B.pre
  have hown : s.vm.findClass RX9 = some m.cls := findClass_of_methodNamed B.named
  have hlocks := B.notSynchronized
  subst hsz
  have hD := hD0.self (sz := s.heap.size)
  have hA : ∀ q : Nat, s.heap.size ≤ q → va_A (wM cB cI cJ cZ a m_letters m_words m_wMany m_wLetters m_asks m_aWords m_dLetters m_dWords m_dMany m_dText m_dAsks m_dAsk m_tape m_taped m_pos m_from m_sort m_value m_fault m_wrongAt m_manyA m_rowA m_manyB m_rowB m_places m_xs m_ys m_heights m_ridges m_rx m_rHeight m_lanes m_sizes m_cells m_left m_calls m_cDay m_cHour m_cFrom m_cAsk m_cWord m_cOf m_isLie m_children m_learned m_group) s.heap.size q := fun q h => Or.inr h
  generalize va_A (wM cB cI cJ cZ a m_letters m_words m_wMany m_wLetters m_asks m_aWords m_dLetters m_dWords m_dMany m_dText m_dAsks m_dAsk m_tape m_taped m_pos m_from m_sort m_value m_fault m_wrongAt m_manyA m_rowA m_manyB m_rowB m_places m_xs m_ys m_heights m_ridges m_rx m_rHeight m_lanes m_sizes m_cells m_left m_calls m_cDay m_cHour m_cFrom m_cAsk m_cWord m_cOf m_isLie m_children m_learned m_group) s.heap.size = A at hD hA hE ⊢
  have hS : va_S A s.heap s.heap [] := va_S.rf
  have C0 : cxt cX9_look (some .int) 2 RX9 wsX9_look (dC, dI) (tyz cB cI cJ cZ) E_0 A p s m ([.ref (a 0), .int x1] : List Value).toArray meth c := ⟨hx, hb, hr, hml, hown, hts, hlocks, hK, hA, hE⟩
  have hl := lv_entry ([.ref (a 0), .int x1]) (n := 2) (Nat.le_of_ble_eq_true rfl)
  rw [lg_entry_eq]
  generalize (lg_sl ([.ref (a 0), .int x1]) ++ List.replicate (2 - (lg_sl ([.ref (a 0), .int x1])).length) Slot.unset).toArray = ls at hl ⊢
  have hl : lv_has ls 2 [(0, .ref (a 0)), (1, .int x1)] := hl
  have hw0 := hts (.fieldLink RX9 98 "WhistledWordsModel" "taped" "I") (by decide +kernel)
  have hw1 := hts (.fieldLink RX9 34 "WhistledWordsModel" "tape" "[I") (by decide +kernel)
  have hnX9 : ∀ w ∈ u_ws RX9 TX9 46, w ∈ wsX9_look := fun _ h => List.mem_cons_of_mem _ (List.mem_append_right _ h)
  unfold fX9_look at h
  refine lv_iload_n hx hb dX9_look_0 rfl (lv_at hl 1 rfl) ?_
  refine lv_aload_n hx hb dX9_look_1 rfl (lv_at hl 0 rfl) ?_
  refine gM_mo_taped hx hb hts hnX9 hown hK hP hw0 dX9_look_2 ?_
  refine lv_icmp_ge (tgt := 17) hx hb dX9_look_5 (by decide) (fun c1 => ?_) (fun c1 => ?_)
  · have h := it_use c1 h
    refine lv_iconst (v := -1) hx hb dX9_look_17 (by decide) ?_
    obtain er := rt1_use h
    exact re_i hx hb hr hlocks hK hP hD hS er dX9_look_18
  · have h := ie_use c1 h
    refine lv_aload_n hx hb dX9_look_8 rfl (lv_at hl 0 rfl) ?_
    refine gM_mo_tape hx hb hts hnX9 hown hK hP hw1 dX9_look_9 ?_
    refine lv_iload_n hx hb dX9_look_12 rfl (lv_at hl 1 rfl) ?_
    obtain ⟨hiv2, h⟩ := ar_use h
    refine lM_mo_tape hx hb hK hP hiv2 dX9_look_13 ?_
    refine lv_topi (fun v2 ev2 => ?_)
    have h := h v2 ev2
    refine lv_goto (tgt := 18) hx hb dX9_look_14 (by decide) ?_
    obtain er := rt1_use h
    exact re_i hx hb hr hlocks hK hP hD hS er dX9_look_18
set_option maxHeartbeats 4000000 in
set_option maxRecDepth 100000 in
theorem kX9_wants (l : Launch) (n : Nat) (dC : Nat → ClassId) (dI : Nat → Nat → Nat) (cB cI cJ cZ : ClassId) (a : Nat → Nat) (sz : Nat) (m_letters : Nat → Int32) (m_words : Int32) (m_wMany : Nat → Int32) (m_wLetters : Nat → Int32) (m_asks : Int32) (m_aWords : Nat → Int32) (m_dLetters : Nat → Int32) (m_dWords : Int32) (m_dMany : Nat → Int32) (m_dText : Nat → Int32) (m_dAsks : Int32) (m_dAsk : Nat → Int32) (m_tape : Nat → Int32) (m_taped : Int32) (m_pos : Int32) (m_from : Int32) (m_sort : Int32) (m_value : Int32) (m_fault : Int32) (m_wrongAt : Int32) (m_manyA : Int32) (m_rowA : Nat → Int32) (m_manyB : Int32) (m_rowB : Nat → Int32) (m_places : Int32) (m_xs : Nat → Int32) (m_ys : Nat → Int32) (m_heights : Nat → Int32) (m_ridges : Int32) (m_rx : Nat → Int32) (m_rHeight : Nat → Int32) (m_lanes : Nat → Int32) (m_sizes : Nat → Int32) (m_cells : Nat → Int32) (m_left : Nat → Int32) (m_calls : Int32) (m_cDay : Nat → Int32) (m_cHour : Nat → Int32) (m_cFrom : Nat → Int32) (m_cAsk : Nat → Int32) (m_cWord : Nat → Int32) (m_cOf : Nat → Int32) (m_isLie : Nat → Int32) (m_children : Int32) (m_learned : Nat → Int32) (m_group : Nat → Int32) (x1 : Int32) (x2 : Int32) (z_m_fault : Int32) (z_m_wrongAt : Int32) (h : fX9_wants n m_from m_fault m_wrongAt x1 x2 = some (z_m_fault, z_m_wrongAt)) : Met l yX9_wants wsX9_wants ({ frames := 0, cells := 0, slots := 0, locals := 0 }) (gP (dC, dI) (tyz cB cI cJ cZ) E_0 (wM cB cI cJ cZ a m_letters m_words m_wMany m_wLetters m_asks m_aWords m_dLetters m_dWords m_dMany m_dText m_dAsks m_dAsk m_tape m_taped m_pos m_from m_sort m_value m_fault m_wrongAt m_manyA m_rowA m_manyB m_rowB m_places m_xs m_ys m_heights m_ridges m_rx m_rHeight m_lanes m_sizes m_cells m_left m_calls m_cDay m_cHour m_cFrom m_cAsk m_cWord m_cOf m_isLie m_children m_learned m_group) sz [.ref (a 0), .int x1, .int x2]) (gV (dC, dI) (tyz cB cI cJ cZ) (wM cB cI cJ cZ a m_letters m_words m_wMany m_wLetters m_asks m_aWords m_dLetters m_dWords m_dMany m_dText m_dAsks m_dAsk m_tape m_taped m_pos m_from m_sort m_value z_m_fault z_m_wrongAt m_manyA m_rowA m_manyB m_rowB m_places m_xs m_ys m_heights m_ridges m_rx m_rHeight m_lanes m_sizes m_cells m_left m_calls m_cDay m_cHour m_cFrom m_cAsk m_cWord m_cOf m_isLie m_children m_learned m_group) (va_A (wM cB cI cJ cZ a m_letters m_words m_wMany m_wLetters m_asks m_aWords m_dLetters m_dWords m_dMany m_dText m_dAsks m_dAsk m_tape m_taped m_pos m_from m_sort m_value m_fault m_wrongAt m_manyA m_rowA m_manyB m_rowB m_places m_xs m_ys m_heights m_ridges m_rx m_rHeight m_lanes m_sizes m_cells m_left m_calls m_cDay m_cHour m_cFrom m_cAsk m_cWord m_cOf m_isLie m_children m_learned m_group) sz)) 0 0 (va_A (wM cB cI cJ cZ a m_letters m_words m_wMany m_wLetters m_asks m_aWords m_dLetters m_dWords m_dMany m_dText m_dAsks m_dAsk m_tape m_taped m_pos m_from m_sort m_value m_fault m_wrongAt m_manyA m_rowA m_manyB m_rowB m_places m_xs m_ys m_heights m_ridges m_rx m_rHeight m_lanes m_sizes m_cells m_left m_calls m_cDay m_cHour m_cFrom m_cAsk m_cWord m_cOf m_isLie m_children m_learned m_group) sz) := by
  refine Met.ofW (cc := cX9_wants) (maxL := 3) (ret := none) (by decide) rfl ?_
  intro p e s m args below meth c s₁ B hml hv
  obtain ⟨rfl, hsz, hP, hK, hD0, hE⟩ := hv
  have hx := B.exec
  have hb := B.bytes
  have hr := B.returns
  have hts := atoms_spec (ws := wsX9_wants) B.pre
  have hown : s.vm.findClass RX9 = some m.cls := findClass_of_methodNamed B.named
  have hlocks := B.notSynchronized
  subst hsz
  have hD := hD0.self (sz := s.heap.size)
  have hA : ∀ q : Nat, s.heap.size ≤ q → va_A (wM cB cI cJ cZ a m_letters m_words m_wMany m_wLetters m_asks m_aWords m_dLetters m_dWords m_dMany m_dText m_dAsks m_dAsk m_tape m_taped m_pos m_from m_sort m_value m_fault m_wrongAt m_manyA m_rowA m_manyB m_rowB m_places m_xs m_ys m_heights m_ridges m_rx m_rHeight m_lanes m_sizes m_cells m_left m_calls m_cDay m_cHour m_cFrom m_cAsk m_cWord m_cOf m_isLie m_children m_learned m_group) s.heap.size q := fun q h => Or.inr h
  generalize va_A (wM cB cI cJ cZ a m_letters m_words m_wMany m_wLetters m_asks m_aWords m_dLetters m_dWords m_dMany m_dText m_dAsks m_dAsk m_tape m_taped m_pos m_from m_sort m_value m_fault m_wrongAt m_manyA m_rowA m_manyB m_rowB m_places m_xs m_ys m_heights m_ridges m_rx m_rHeight m_lanes m_sizes m_cells m_left m_calls m_cDay m_cHour m_cFrom m_cAsk m_cWord m_cOf m_isLie m_children m_learned m_group) s.heap.size = A at hD hA hE ⊢
  have hS : va_S A s.heap s.heap [] := va_S.rf
  have C0 : cxt cX9_wants none 3 RX9 wsX9_wants (dC, dI) (tyz cB cI cJ cZ) E_0 A p s m ([.ref (a 0), .int x1, .int x2] : List Value).toArray meth c := ⟨hx, hb, hr, hml, hown, hts, hlocks, hK, hA, hE⟩
  have hl := lv_entry ([.ref (a 0), .int x1, .int x2]) (n := 3) (Nat.le_of_ble_eq_true rfl)
  rw [lg_entry_eq]
  generalize (lg_sl ([.ref (a 0), .int x1, .int x2]) ++ List.replicate (3 - (lg_sl ([.ref (a 0), .int x1, .int x2])).length) Slot.unset).toArray = ls at hl ⊢
  have hl : lv_has ls 3 [(0, .ref (a 0)), (1, .int x1), (2, .int x2)] := hl
  have hw0 := hts (.fieldLink RX9 108 "WhistledWordsModel" "fault" "I") (by decide +kernel)
  have hw1 := hts (.fieldLink RX9 111 "WhistledWordsModel" "from" "I") (by decide +kernel)
  have hw2 := hts (.fieldLink RX9 114 "WhistledWordsModel" "wrongAt" "I") (by decide +kernel)
  have hnX9 : ∀ w ∈ u_ws RX9 TX9 46, w ∈ wsX9_wants := fun _ h => List.mem_cons_of_mem _ (List.mem_append_right _ h)
  unfold fX9_wants at h
  refine lv_iload_n hx hb dX9_wants_0 rfl (lv_at hl 1 rfl) ?_
  refine lv_if_ne (tgt := 24) hx hb dX9_wants_1 (by decide) (fun c1 => ?_) (fun c1 => ?_)
  · have h := ie_use c1 h
    obtain ⟨ez0, ez1⟩ := rt2_use h
    subst ez0
    subst ez1
    exact re_v hx hb hr hlocks hK hP hD hS dX9_wants_24
  · have h := it_use c1 h
    refine lv_aload_n hx hb dX9_wants_4 rfl (lv_at hl 0 rfl) ?_
    refine gM_mo_fault hx hb hts hnX9 hown hK hP hw0 dX9_wants_5 ?_
    refine lv_if_ne (tgt := 24) hx hb dX9_wants_8 (by decide) (fun c2 => ?_) (fun c2 => ?_)
    · have h := ie_use c2 h
      obtain ⟨ez0, ez1⟩ := rt2_use h
      subst ez0
      subst ez1
      exact re_v hx hb hr hlocks hK hP hD hS dX9_wants_24
    · have h := it_use c2 h
      refine lv_aload_n hx hb dX9_wants_11 rfl (lv_at hl 0 rfl) ?_
      refine lv_iload_n hx hb dX9_wants_12 rfl (lv_at hl 2 rfl) ?_
      refine pM_mo_fault hx hb hts hnX9 hown hK hP hD hS hw0 dX9_wants_13 (fun H locs hP hD hS => ?_)
      refine lv_aload_n hx hb dX9_wants_16 rfl (lv_at hl 0 rfl) ?_
      refine lv_aload_n hx hb dX9_wants_17 rfl (lv_at hl 0 rfl) ?_
      refine gM_mo_from hx hb hts hnX9 hown hK hP hw1 dX9_wants_18 ?_
      refine pM_mo_wrongAt hx hb hts hnX9 hown hK hP hD hS hw2 dX9_wants_21 (fun H locs hP hD hS => ?_)
      obtain ⟨ez0, ez1⟩ := rt2_use h
      subst ez0
      subst ez1
      exact re_v hx hb hr hlocks hK hP hD hS dX9_wants_24
set_option maxHeartbeats 4000000 in
set_option maxRecDepth 100000 in
theorem kX9_next_p82_r {p : Program} {l : Launch} {e : Env} {s : State} {m : MethodId} {args : Array Value} {below : List Frame} {meth : Method} {c : Code} {A : Nat → Prop} (dC : Nat → ClassId) (dI : Nat → Nat → Nat) (cB cI cJ cZ : ClassId) (a : Nat → Nat) (C0 : cxt cX9_next none 2 RX9 wsX9_next (dC, dI) (tyz cB cI cJ cZ) E_0 A p s m args meth c) (n : Nat) (m_letters : Nat → Int32) (m_words : Int32) (m_wMany : Nat → Int32) (m_wLetters : Nat → Int32) (m_asks : Int32) (m_aWords : Nat → Int32) (m_dLetters : Nat → Int32) (m_dWords : Int32) (m_dMany : Nat → Int32) (m_dText : Nat → Int32) (m_dAsks : Int32) (m_dAsk : Nat → Int32) (m_tape : Nat → Int32) (m_taped : Int32) (m_from : Int32) (m_sort : Int32) (m_value : Int32) (m_fault : Int32) (m_wrongAt : Int32) (m_manyA : Int32) (m_rowA : Nat → Int32) (m_manyB : Int32) (m_rowB : Nat → Int32) (m_places : Int32) (m_xs : Nat → Int32) (m_ys : Nat → Int32) (m_heights : Nat → Int32) (m_ridges : Int32) (m_rx : Nat → Int32) (m_rHeight : Nat → Int32) (m_lanes : Nat → Int32) (m_sizes : Nat → Int32) (m_cells : Nat → Int32) (m_left : Nat → Int32) (m_calls : Int32) (m_cDay : Nat → Int32) (m_cHour : Nat → Int32) (m_cFrom : Nat → Int32) (m_cAsk : Nat → Int32) (m_cWord : Nat → Int32) (m_cOf : Nat → Int32) (m_isLie : Nat → Int32) (m_children : Int32) (m_learned : Nat → Int32) (m_group : Nat → Int32)  (z_m_pos : Int32) (z_m_from : Int32) (z_m_sort : Int32) (z_m_value : Int32) (z_m_fault : Int32) (z_m_wrongAt : Int32)  : ∀ (k : Nat) (m_pos : Int32) (H : Heap) (locs : List Loc) (ls : Array Slot), fX9_next_p82 n m_tape m_taped m_from m_sort m_value m_fault m_wrongAt k m_pos = some (z_m_pos, z_m_from, z_m_sort, z_m_value, z_m_fault, z_m_wrongAt) → va_P (dC, dI) vwCl (wM cB cI cJ cZ a m_letters m_words m_wMany m_wLetters m_asks m_aWords m_dLetters m_dWords m_dMany m_dText m_dAsks m_dAsk m_tape m_taped m_pos m_from m_sort m_value m_fault m_wrongAt m_manyA m_rowA m_manyB m_rowB m_places m_xs m_ys m_heights m_ridges m_rx m_rHeight m_lanes m_sizes m_cells m_left m_calls m_cDay m_cHour m_cFrom m_cAsk m_cWord m_cOf m_isLie m_children m_learned m_group) H → va_D A (wM cB cI cJ cZ a m_letters m_words m_wMany m_wLetters m_asks m_aWords m_dLetters m_dWords m_dMany m_dText m_dAsks m_dAsk m_tape m_taped m_pos m_from m_sort m_value m_fault m_wrongAt m_manyA m_rowA m_manyB m_rowB m_places m_xs m_ys m_heights m_ridges m_rx m_rHeight m_lanes m_sizes m_cells m_left m_calls m_cDay m_cHour m_cFrom m_cAsk m_cWord m_cOf m_isLie m_children m_learned m_group) → va_S A s.heap H locs → lv_has ls 2 [(0, .ref (a 0))] → W p l e { frames := 1, cells := 0, slots := 0, locals := 25 } s m args below meth c H locs 0 0 (MQ below (gV (dC, dI) (tyz cB cI cJ cZ) (wM cB cI cJ cZ a m_letters m_words m_wMany m_wLetters m_asks m_aWords m_dLetters m_dWords m_dMany m_dText m_dAsks m_dAsk m_tape m_taped z_m_pos z_m_from z_m_sort z_m_value z_m_fault z_m_wrongAt m_manyA m_rowA m_manyB m_rowB m_places m_xs m_ys m_heights m_ridges m_rx m_rHeight m_lanes m_sizes m_cells m_left m_calls m_cDay m_cHour m_cFrom m_cAsk m_cWord m_cOf m_isLie m_children m_learned m_group) A) args s 0 0 A) (F0 m 82 ls []) := by
  obtain ⟨hx, hb, hr, hml, hown, hts, hlocks, hK, hA, hE⟩ := id C0
  have hw0 := hts (.fieldLink RX9 117 "WhistledWordsModel" "pos" "I") (by decide +kernel)
  have hw1 := hts (.constantLong RX9 127 (97)) (by decide +kernel)
  have hw2 := hts (.constantLong RX9 129 (122)) (by decide +kernel)
  have hnX9 : ∀ w ∈ u_ws RX9 TX9 46, w ∈ wsX9_next := fun _ h => List.mem_cons_of_mem _ (List.mem_append_right _ h)
  intro k
  induction k with
  | zero =>
    intro m_pos H locs ls h
    cases h
  | succ k ih =>
    intro m_pos H locs ls h hP hD hS hl
    rw [fX9_next_p82] at h
    refine lv_aload_n hx hb dX9_next_82 rfl (lv_at hl 0 rfl) ?_
    refine lv_aload_n hx hb dX9_next_83 rfl (lv_at hl 0 rfl) ?_
    refine gM_mo_pos hx hb hts hnX9 hown hK hP hw0 dX9_next_84 ?_
    obtain ⟨v1, hc, h⟩ := bd1_use h
    refine cv_i (As := [.int m_pos]) (rest := []) ⟨hx, hb, hml, hown, hts⟩ (kX9_look l n dC dI cB cI cJ cZ a _ m_letters m_words m_wMany m_wLetters m_asks m_aWords m_dLetters m_dWords m_dMany m_dText m_dAsks m_dAsk m_tape m_taped m_pos m_from m_sort m_value m_fault m_wrongAt m_manyA m_rowA m_manyB m_rowB m_places m_xs m_ys m_heights m_ridges m_rx m_rHeight m_lanes m_sizes m_cells m_left m_calls m_cDay m_cHour m_cFrom m_cAsk m_cWord m_cOf m_isLie m_children m_learned m_group m_pos v1 hc) (cwV 1 hts gX9_next_X9_look rfl rfl rfl (by decide +kernel) ⟨Nat.le_of_ble_eq_true rfl, Nat.le_of_ble_eq_true rfl⟩) EB_0 hE hK hP hD hS hA 0 (ci := 8) rfl rfl rfl rfl hl.1 rfl (Nat.le_of_ble_eq_true rfl) dX9_next_87 ⟨Nat.zero_le _, Nat.zero_le _⟩ (fun H locs hP hD hS => ?_)
    refine lv_i2l hx hb dX9_next_90 rfl ?_
    refine lv_ldc2 hx hb hown hw1 dX9_next_91 ?_
    refine lv_ldc2 hx hb hown hw2 dX9_next_94 ?_
    obtain ⟨v2, hc, h⟩ := bd1_use h
    refine cs_i (As := [.long v1.toInt64, .long (97 : Int64), .long (122 : Int64)]) (rest := []) ⟨hx, hb, hml, hown, hts⟩ (kX9_in l n v1.toInt64 (97 : Int64) (122 : Int64) v2 hc) (va_cwS 3 hts gX9_next_X9_in rfl rfl rfl (by decide +kernel) ⟨Nat.le_of_ble_eq_true rfl, Nat.le_of_ble_eq_true rfl⟩) hP hS rfl hl.1 rfl (Nat.le_of_ble_eq_true rfl) dX9_next_97 ⟨Nat.zero_le _, Nat.zero_le _⟩ (fun H locs hP hS => ?_)
    refine lv_if_eq (tgt := 290) hx hb dX9_next_100 (by decide) (fun c3 => ?_) (fun c3 => ?_)
    · have h := it_use c3 h
      obtain ⟨ez0, ez1, ez2, ez3, ez4, ez5⟩ := rt6_use h
      subst ez0
      subst ez1
      subst ez2
      subst ez3
      subst ez4
      subst ez5
      exact re_v hx hb hr hlocks hK hP hD hS dX9_next_290
    · have h := ie_use c3 h
      refine lv_aload_n hx hb dX9_next_103 rfl (lv_at hl 0 rfl) ?_
      refine lv_dup hx hb dX9_next_104 rfl ?_
      refine gM_mo_pos hx hb hts hnX9 hown hK hP hw0 dX9_next_105 ?_
      refine lv_iconst (v := 1) hx hb dX9_next_108 (by decide) ?_
      refine lv_iadd hx hb dX9_next_109 ?_
      refine lv_topi (fun v4 ev4 => ?_)
      have h := nm_use ev4 h
      refine pM_mo_pos hx hb hts hnX9 hown hK hP hD hS hw0 dX9_next_110 (fun H locs hP hD hS => ?_)
      refine lv_goto (tgt := 82) hx hb dX9_next_113 (by decide) ?_
      exact ih v4 _ _ ls h hP hD hS (lv_sub hl [0] rfl)
theorem kX9_next_p82 {p : Program} {l : Launch} {e : Env} {s : State} {m : MethodId} {args : Array Value} {below : List Frame} {meth : Method} {c : Code} {A : Nat → Prop} (dC : Nat → ClassId) (dI : Nat → Nat → Nat) (cB cI cJ cZ : ClassId) (a : Nat → Nat) (C0 : cxt cX9_next none 2 RX9 wsX9_next (dC, dI) (tyz cB cI cJ cZ) E_0 A p s m args meth c) (n : Nat) (m_letters : Nat → Int32) (m_words : Int32) (m_wMany : Nat → Int32) (m_wLetters : Nat → Int32) (m_asks : Int32) (m_aWords : Nat → Int32) (m_dLetters : Nat → Int32) (m_dWords : Int32) (m_dMany : Nat → Int32) (m_dText : Nat → Int32) (m_dAsks : Int32) (m_dAsk : Nat → Int32) (m_tape : Nat → Int32) (m_taped : Int32) (m_pos : Int32) (m_from : Int32) (m_sort : Int32) (m_value : Int32) (m_fault : Int32) (m_wrongAt : Int32) (m_manyA : Int32) (m_rowA : Nat → Int32) (m_manyB : Int32) (m_rowB : Nat → Int32) (m_places : Int32) (m_xs : Nat → Int32) (m_ys : Nat → Int32) (m_heights : Nat → Int32) (m_ridges : Int32) (m_rx : Nat → Int32) (m_rHeight : Nat → Int32) (m_lanes : Nat → Int32) (m_sizes : Nat → Int32) (m_cells : Nat → Int32) (m_left : Nat → Int32) (m_calls : Int32) (m_cDay : Nat → Int32) (m_cHour : Nat → Int32) (m_cFrom : Nat → Int32) (m_cAsk : Nat → Int32) (m_cWord : Nat → Int32) (m_cOf : Nat → Int32) (m_isLie : Nat → Int32) (m_children : Int32) (m_learned : Nat → Int32) (m_group : Nat → Int32)   (z_m_pos : Int32) (z_m_from : Int32) (z_m_sort : Int32) (z_m_value : Int32) (z_m_fault : Int32) (z_m_wrongAt : Int32)  (k : Nat) (H : Heap) (locs : List Loc) (ls : Array Slot) : fX9_next_p82 n m_tape m_taped m_from m_sort m_value m_fault m_wrongAt k m_pos = some (z_m_pos, z_m_from, z_m_sort, z_m_value, z_m_fault, z_m_wrongAt) → va_P (dC, dI) vwCl (wM cB cI cJ cZ a m_letters m_words m_wMany m_wLetters m_asks m_aWords m_dLetters m_dWords m_dMany m_dText m_dAsks m_dAsk m_tape m_taped m_pos m_from m_sort m_value m_fault m_wrongAt m_manyA m_rowA m_manyB m_rowB m_places m_xs m_ys m_heights m_ridges m_rx m_rHeight m_lanes m_sizes m_cells m_left m_calls m_cDay m_cHour m_cFrom m_cAsk m_cWord m_cOf m_isLie m_children m_learned m_group) H → va_D A (wM cB cI cJ cZ a m_letters m_words m_wMany m_wLetters m_asks m_aWords m_dLetters m_dWords m_dMany m_dText m_dAsks m_dAsk m_tape m_taped m_pos m_from m_sort m_value m_fault m_wrongAt m_manyA m_rowA m_manyB m_rowB m_places m_xs m_ys m_heights m_ridges m_rx m_rHeight m_lanes m_sizes m_cells m_left m_calls m_cDay m_cHour m_cFrom m_cAsk m_cWord m_cOf m_isLie m_children m_learned m_group) → va_S A s.heap H locs → lv_has ls 2 [(0, .ref (a 0))] → W p l e { frames := 1, cells := 0, slots := 0, locals := 25 } s m args below meth c H locs 0 0 (MQ below (gV (dC, dI) (tyz cB cI cJ cZ) (wM cB cI cJ cZ a m_letters m_words m_wMany m_wLetters m_asks m_aWords m_dLetters m_dWords m_dMany m_dText m_dAsks m_dAsk m_tape m_taped z_m_pos z_m_from z_m_sort z_m_value z_m_fault z_m_wrongAt m_manyA m_rowA m_manyB m_rowB m_places m_xs m_ys m_heights m_ridges m_rx m_rHeight m_lanes m_sizes m_cells m_left m_calls m_cDay m_cHour m_cFrom m_cAsk m_cWord m_cOf m_isLie m_children m_learned m_group) A) args s 0 0 A) (F0 m 82 ls []) :=
  kX9_next_p82_r dC dI cB cI cJ cZ a C0 n m_letters m_words m_wMany m_wLetters m_asks m_aWords m_dLetters m_dWords m_dMany m_dText m_dAsks m_dAsk m_tape m_taped m_from m_sort m_value m_fault m_wrongAt m_manyA m_rowA m_manyB m_rowB m_places m_xs m_ys m_heights m_ridges m_rx m_rHeight m_lanes m_sizes m_cells m_left m_calls m_cDay m_cHour m_cFrom m_cAsk m_cWord m_cOf m_isLie m_children m_learned m_group  z_m_pos z_m_from z_m_sort z_m_value z_m_fault z_m_wrongAt  k m_pos H locs ls
set_option maxHeartbeats 4000000 in
set_option maxRecDepth 100000 in
theorem kX9_next_p217 {p : Program} {l : Launch} {e : Env} {s : State} {m : MethodId} {args : Array Value} {below : List Frame} {meth : Method} {c : Code} {A : Nat → Prop} (dC : Nat → ClassId) (dI : Nat → Nat → Nat) (cB cI cJ cZ : ClassId) (a : Nat → Nat) (C0 : cxt cX9_next none 2 RX9 wsX9_next (dC, dI) (tyz cB cI cJ cZ) E_0 A p s m args meth c) (n : Nat) (m_letters : Nat → Int32) (m_words : Int32) (m_wMany : Nat → Int32) (m_wLetters : Nat → Int32) (m_asks : Int32) (m_aWords : Nat → Int32) (m_dLetters : Nat → Int32) (m_dWords : Int32) (m_dMany : Nat → Int32) (m_dText : Nat → Int32) (m_dAsks : Int32) (m_dAsk : Nat → Int32) (m_tape : Nat → Int32) (m_taped : Int32) (m_pos : Int32) (m_from : Int32) (m_sort : Int32) (m_value : Int32) (m_fault : Int32) (m_wrongAt : Int32) (m_manyA : Int32) (m_rowA : Nat → Int32) (m_manyB : Int32) (m_rowB : Nat → Int32) (m_places : Int32) (m_xs : Nat → Int32) (m_ys : Nat → Int32) (m_heights : Nat → Int32) (m_ridges : Int32) (m_rx : Nat → Int32) (m_rHeight : Nat → Int32) (m_lanes : Nat → Int32) (m_sizes : Nat → Int32) (m_cells : Nat → Int32) (m_left : Nat → Int32) (m_calls : Int32) (m_cDay : Nat → Int32) (m_cHour : Nat → Int32) (m_cFrom : Nat → Int32) (m_cAsk : Nat → Int32) (m_cWord : Nat → Int32) (m_cOf : Nat → Int32) (m_isLie : Nat → Int32) (m_children : Int32) (m_learned : Nat → Int32) (m_group : Nat → Int32)    (z_m_pos : Int32) (z_m_from : Int32) (z_m_sort : Int32) (z_m_value : Int32) (z_m_fault : Int32) (z_m_wrongAt : Int32)  (H : Heap) (locs : List Loc) (ls : Array Slot) : fX9_next_p217 n m_pos m_from m_sort m_value m_fault m_wrongAt = some (z_m_pos, z_m_from, z_m_sort, z_m_value, z_m_fault, z_m_wrongAt) → va_P (dC, dI) vwCl (wM cB cI cJ cZ a m_letters m_words m_wMany m_wLetters m_asks m_aWords m_dLetters m_dWords m_dMany m_dText m_dAsks m_dAsk m_tape m_taped m_pos m_from m_sort m_value m_fault m_wrongAt m_manyA m_rowA m_manyB m_rowB m_places m_xs m_ys m_heights m_ridges m_rx m_rHeight m_lanes m_sizes m_cells m_left m_calls m_cDay m_cHour m_cFrom m_cAsk m_cWord m_cOf m_isLie m_children m_learned m_group) H → va_D A (wM cB cI cJ cZ a m_letters m_words m_wMany m_wLetters m_asks m_aWords m_dLetters m_dWords m_dMany m_dText m_dAsks m_dAsk m_tape m_taped m_pos m_from m_sort m_value m_fault m_wrongAt m_manyA m_rowA m_manyB m_rowB m_places m_xs m_ys m_heights m_ridges m_rx m_rHeight m_lanes m_sizes m_cells m_left m_calls m_cDay m_cHour m_cFrom m_cAsk m_cWord m_cOf m_isLie m_children m_learned m_group) → va_S A s.heap H locs → lv_has ls 2 [(0, .ref (a 0))] → W p l e { frames := 1, cells := 0, slots := 0, locals := 25 } s m args below meth c H locs 0 0 (MQ below (gV (dC, dI) (tyz cB cI cJ cZ) (wM cB cI cJ cZ a m_letters m_words m_wMany m_wLetters m_asks m_aWords m_dLetters m_dWords m_dMany m_dText m_dAsks m_dAsk m_tape m_taped z_m_pos z_m_from z_m_sort z_m_value z_m_fault z_m_wrongAt m_manyA m_rowA m_manyB m_rowB m_places m_xs m_ys m_heights m_ridges m_rx m_rHeight m_lanes m_sizes m_cells m_left m_calls m_cDay m_cHour m_cFrom m_cAsk m_cWord m_cOf m_isLie m_children m_learned m_group) A) args s 0 0 A) (F0 m 217 ls []) := by
  intro h hP hD hS hl
  obtain ⟨hx, hb, hr, hml, hown, hts, hlocks, hK, hA, hE⟩ := id C0
  have hw0 := hts (.fieldLink RX9 117 "WhistledWordsModel" "pos" "I") (by decide +kernel)
  have hw1 := hts (.fieldLink RX9 111 "WhistledWordsModel" "from" "I") (by decide +kernel)
  have hnX9 : ∀ w ∈ u_ws RX9 TX9 46, w ∈ wsX9_next := fun _ h => List.mem_cons_of_mem _ (List.mem_append_right _ h)
  unfold fX9_next_p217 at h
  refine lv_aload_n hx hb dX9_next_217 rfl (lv_at hl 0 rfl) ?_
  refine lv_aload_n hx hb dX9_next_218 rfl (lv_at hl 0 rfl) ?_
  refine gM_mo_pos hx hb hts hnX9 hown hK hP hw0 dX9_next_219 ?_
  refine lv_aload_n hx hb dX9_next_222 rfl (lv_at hl 0 rfl) ?_
  refine gM_mo_from hx hb hts hnX9 hown hK hP hw1 dX9_next_223 ?_
  refine lv_isub hx hb dX9_next_226 ?_
  refine lv_iconst (v := 2) hx hb dX9_next_227 (by decide) ?_
  refine lv_icmp_gt (tgt := 235) hx hb dX9_next_228 (by decide) (fun c1 => ?_) (fun c1 => ?_)
  · have h := it_use c1 h
    refine lv_iconst (v := 0) hx hb dX9_next_235 (by decide) ?_
    refine lv_iconst (v := 1) hx hb dX9_next_236 (by decide) ?_
    obtain ⟨v2, v3, hc, h⟩ := bd2_use h
    refine cv_v (As := [.int (0 : Int32), .int (1 : Int32)]) (rest := []) ⟨hx, hb, hml, hown, hts⟩ (kX9_wants l n dC dI cB cI cJ cZ a _ m_letters m_words m_wMany m_wLetters m_asks m_aWords m_dLetters m_dWords m_dMany m_dText m_dAsks m_dAsk m_tape m_taped m_pos m_from m_sort m_value m_fault m_wrongAt m_manyA m_rowA m_manyB m_rowB m_places m_xs m_ys m_heights m_ridges m_rx m_rHeight m_lanes m_sizes m_cells m_left m_calls m_cDay m_cHour m_cFrom m_cAsk m_cWord m_cOf m_isLie m_children m_learned m_group (0 : Int32) (1 : Int32) v2 v3 hc) (cwV 2 hts gX9_next_X9_wants rfl rfl rfl (by decide +kernel) ⟨Nat.le_of_ble_eq_true rfl, Nat.le_of_ble_eq_true rfl⟩) EB_0 hE hK hP hD hS hA 0 (ci := 8) rfl rfl rfl rfl hl.1 rfl (Nat.le_of_ble_eq_true rfl) dX9_next_237 ⟨Nat.zero_le _, Nat.zero_le _⟩ (fun H locs hP hD hS => ?_)
    refine lv_goto (tgt := 290) hx hb dX9_next_240 (by decide) ?_
    obtain ⟨ez0, ez1, ez2, ez3, ez4, ez5⟩ := rt6_use h
    subst ez0
    subst ez1
    subst ez2
    subst ez3
    subst ez4
    subst ez5
    exact re_v hx hb hr hlocks hK hP hD hS dX9_next_290
  · have h := ie_use c1 h
    refine lv_iconst (v := 1) hx hb dX9_next_231 (by decide) ?_
    refine lv_goto (tgt := 236) hx hb dX9_next_232 (by decide) ?_
    refine lv_iconst (v := 1) hx hb dX9_next_236 (by decide) ?_
    obtain ⟨v4, v5, hc, h⟩ := bd2_use h
    refine cv_v (As := [.int (1 : Int32), .int (1 : Int32)]) (rest := []) ⟨hx, hb, hml, hown, hts⟩ (kX9_wants l n dC dI cB cI cJ cZ a _ m_letters m_words m_wMany m_wLetters m_asks m_aWords m_dLetters m_dWords m_dMany m_dText m_dAsks m_dAsk m_tape m_taped m_pos m_from m_sort m_value m_fault m_wrongAt m_manyA m_rowA m_manyB m_rowB m_places m_xs m_ys m_heights m_ridges m_rx m_rHeight m_lanes m_sizes m_cells m_left m_calls m_cDay m_cHour m_cFrom m_cAsk m_cWord m_cOf m_isLie m_children m_learned m_group (1 : Int32) (1 : Int32) v4 v5 hc) (cwV 2 hts gX9_next_X9_wants rfl rfl rfl (by decide +kernel) ⟨Nat.le_of_ble_eq_true rfl, Nat.le_of_ble_eq_true rfl⟩) EB_0 hE hK hP hD hS hA 0 (ci := 8) rfl rfl rfl rfl hl.1 rfl (Nat.le_of_ble_eq_true rfl) dX9_next_237 ⟨Nat.zero_le _, Nat.zero_le _⟩ (fun H locs hP hD hS => ?_)
    refine lv_goto (tgt := 290) hx hb dX9_next_240 (by decide) ?_
    obtain ⟨ez0, ez1, ez2, ez3, ez4, ez5⟩ := rt6_use h
    subst ez0
    subst ez1
    subst ez2
    subst ez3
    subst ez4
    subst ez5
    exact re_v hx hb hr hlocks hK hP hD hS dX9_next_290
set_option maxHeartbeats 4000000 in
set_option maxRecDepth 100000 in
theorem kX9_next_p140_r {p : Program} {l : Launch} {e : Env} {s : State} {m : MethodId} {args : Array Value} {below : List Frame} {meth : Method} {c : Code} {A : Nat → Prop} (dC : Nat → ClassId) (dI : Nat → Nat → Nat) (cB cI cJ cZ : ClassId) (a : Nat → Nat) (C0 : cxt cX9_next none 2 RX9 wsX9_next (dC, dI) (tyz cB cI cJ cZ) E_0 A p s m args meth c) (n : Nat) (m_letters : Nat → Int32) (m_words : Int32) (m_wMany : Nat → Int32) (m_wLetters : Nat → Int32) (m_asks : Int32) (m_aWords : Nat → Int32) (m_dLetters : Nat → Int32) (m_dWords : Int32) (m_dMany : Nat → Int32) (m_dText : Nat → Int32) (m_dAsks : Int32) (m_dAsk : Nat → Int32) (m_tape : Nat → Int32) (m_taped : Int32) (m_from : Int32) (m_sort : Int32) (m_fault : Int32) (m_wrongAt : Int32) (m_manyA : Int32) (m_rowA : Nat → Int32) (m_manyB : Int32) (m_rowB : Nat → Int32) (m_places : Int32) (m_xs : Nat → Int32) (m_ys : Nat → Int32) (m_heights : Nat → Int32) (m_ridges : Int32) (m_rx : Nat → Int32) (m_rHeight : Nat → Int32) (m_lanes : Nat → Int32) (m_sizes : Nat → Int32) (m_cells : Nat → Int32) (m_left : Nat → Int32) (m_calls : Int32) (m_cDay : Nat → Int32) (m_cHour : Nat → Int32) (m_cFrom : Nat → Int32) (m_cAsk : Nat → Int32) (m_cWord : Nat → Int32) (m_cOf : Nat → Int32) (m_isLie : Nat → Int32) (m_children : Int32) (m_learned : Nat → Int32) (m_group : Nat → Int32)  (z_m_pos : Int32) (z_m_from : Int32) (z_m_sort : Int32) (z_m_value : Int32) (z_m_fault : Int32) (z_m_wrongAt : Int32)  : ∀ (k : Nat) (m_pos : Int32) (m_value : Int32) (H : Heap) (locs : List Loc) (ls : Array Slot), fX9_next_p140 n m_tape m_taped m_from m_sort m_fault m_wrongAt k m_pos m_value = some (z_m_pos, z_m_from, z_m_sort, z_m_value, z_m_fault, z_m_wrongAt) → va_P (dC, dI) vwCl (wM cB cI cJ cZ a m_letters m_words m_wMany m_wLetters m_asks m_aWords m_dLetters m_dWords m_dMany m_dText m_dAsks m_dAsk m_tape m_taped m_pos m_from m_sort m_value m_fault m_wrongAt m_manyA m_rowA m_manyB m_rowB m_places m_xs m_ys m_heights m_ridges m_rx m_rHeight m_lanes m_sizes m_cells m_left m_calls m_cDay m_cHour m_cFrom m_cAsk m_cWord m_cOf m_isLie m_children m_learned m_group) H → va_D A (wM cB cI cJ cZ a m_letters m_words m_wMany m_wLetters m_asks m_aWords m_dLetters m_dWords m_dMany m_dText m_dAsks m_dAsk m_tape m_taped m_pos m_from m_sort m_value m_fault m_wrongAt m_manyA m_rowA m_manyB m_rowB m_places m_xs m_ys m_heights m_ridges m_rx m_rHeight m_lanes m_sizes m_cells m_left m_calls m_cDay m_cHour m_cFrom m_cAsk m_cWord m_cOf m_isLie m_children m_learned m_group) → va_S A s.heap H locs → lv_has ls 2 [(0, .ref (a 0))] → W p l e { frames := 1, cells := 0, slots := 0, locals := 25 } s m args below meth c H locs 0 0 (MQ below (gV (dC, dI) (tyz cB cI cJ cZ) (wM cB cI cJ cZ a m_letters m_words m_wMany m_wLetters m_asks m_aWords m_dLetters m_dWords m_dMany m_dText m_dAsks m_dAsk m_tape m_taped z_m_pos z_m_from z_m_sort z_m_value z_m_fault z_m_wrongAt m_manyA m_rowA m_manyB m_rowB m_places m_xs m_ys m_heights m_ridges m_rx m_rHeight m_lanes m_sizes m_cells m_left m_calls m_cDay m_cHour m_cFrom m_cAsk m_cWord m_cOf m_isLie m_children m_learned m_group) A) args s 0 0 A) (F0 m 140 ls []) := by
  obtain ⟨hx, hb, hr, hml, hown, hts, hlocks, hK, hA, hE⟩ := id C0
  have hw0 := hts (.fieldLink RX9 117 "WhistledWordsModel" "pos" "I") (by decide +kernel)
  have hw1 := hts (.constantLong RX9 131 (48)) (by decide +kernel)
  have hw2 := hts (.constantLong RX9 133 (57)) (by decide +kernel)
  have hw3 := hts (.fieldLink RX9 111 "WhistledWordsModel" "from" "I") (by decide +kernel)
  have hw4 := hts (.fieldLink RX9 135 "WhistledWordsModel" "value" "I") (by decide +kernel)
  have hnX9 : ∀ w ∈ u_ws RX9 TX9 46, w ∈ wsX9_next := fun _ h => List.mem_cons_of_mem _ (List.mem_append_right _ h)
  intro k
  induction k with
  | zero =>
    intro m_pos m_value H locs ls h
    cases h
  | succ k ih =>
    intro m_pos m_value H locs ls h hP hD hS hl
    rw [fX9_next_p140] at h
    refine lv_aload_n hx hb dX9_next_140 rfl (lv_at hl 0 rfl) ?_
    refine lv_aload_n hx hb dX9_next_141 rfl (lv_at hl 0 rfl) ?_
    refine gM_mo_pos hx hb hts hnX9 hown hK hP hw0 dX9_next_142 ?_
    obtain ⟨v1, hc, h⟩ := bd1_use h
    refine cv_i (As := [.int m_pos]) (rest := []) ⟨hx, hb, hml, hown, hts⟩ (kX9_look l n dC dI cB cI cJ cZ a _ m_letters m_words m_wMany m_wLetters m_asks m_aWords m_dLetters m_dWords m_dMany m_dText m_dAsks m_dAsk m_tape m_taped m_pos m_from m_sort m_value m_fault m_wrongAt m_manyA m_rowA m_manyB m_rowB m_places m_xs m_ys m_heights m_ridges m_rx m_rHeight m_lanes m_sizes m_cells m_left m_calls m_cDay m_cHour m_cFrom m_cAsk m_cWord m_cOf m_isLie m_children m_learned m_group m_pos v1 hc) (cwV 1 hts gX9_next_X9_look rfl rfl rfl (by decide +kernel) ⟨Nat.le_of_ble_eq_true rfl, Nat.le_of_ble_eq_true rfl⟩) EB_0 hE hK hP hD hS hA 0 (ci := 8) rfl rfl rfl rfl hl.1 rfl (Nat.le_of_ble_eq_true rfl) dX9_next_145 ⟨Nat.zero_le _, Nat.zero_le _⟩ (fun H locs hP hD hS => ?_)
    refine lv_i2l hx hb dX9_next_148 rfl ?_
    refine lv_ldc2 hx hb hown hw1 dX9_next_149 ?_
    refine lv_ldc2 hx hb hown hw2 dX9_next_152 ?_
    obtain ⟨v2, hc, h⟩ := bd1_use h
    refine cs_i (As := [.long v1.toInt64, .long (48 : Int64), .long (57 : Int64)]) (rest := []) ⟨hx, hb, hml, hown, hts⟩ (kX9_in l n v1.toInt64 (48 : Int64) (57 : Int64) v2 hc) (va_cwS 3 hts gX9_next_X9_in rfl rfl rfl (by decide +kernel) ⟨Nat.le_of_ble_eq_true rfl, Nat.le_of_ble_eq_true rfl⟩) hP hS rfl hl.1 rfl (Nat.le_of_ble_eq_true rfl) dX9_next_155 ⟨Nat.zero_le _, Nat.zero_le _⟩ (fun H locs hP hS => ?_)
    refine lv_if_eq (tgt := 217) hx hb dX9_next_158 (by decide) (fun c3 => ?_) (fun c3 => ?_)
    · have h := it_use c3 h
      exact kX9_next_p217 dC dI cB cI cJ cZ a C0 n m_letters m_words m_wMany m_wLetters m_asks m_aWords m_dLetters m_dWords m_dMany m_dText m_dAsks m_dAsk m_tape m_taped m_pos m_from m_sort m_value m_fault m_wrongAt m_manyA m_rowA m_manyB m_rowB m_places m_xs m_ys m_heights m_ridges m_rx m_rHeight m_lanes m_sizes m_cells m_left m_calls m_cDay m_cHour m_cFrom m_cAsk m_cWord m_cOf m_isLie m_children m_learned m_group   z_m_pos z_m_from z_m_sort z_m_value z_m_fault z_m_wrongAt  _ _ ls h hP hD hS (lv_sub hl [0] rfl)
    · have h := ie_use c3 h
      refine lv_aload_n hx hb dX9_next_161 rfl (lv_at hl 0 rfl) ?_
      refine lv_aload_n hx hb dX9_next_162 rfl (lv_at hl 0 rfl) ?_
      refine gM_mo_pos hx hb hts hnX9 hown hK hP hw0 dX9_next_163 ?_
      refine lv_aload_n hx hb dX9_next_166 rfl (lv_at hl 0 rfl) ?_
      refine gM_mo_from hx hb hts hnX9 hown hK hP hw3 dX9_next_167 ?_
      refine lv_isub hx hb dX9_next_170 ?_
      refine lv_iconst (v := 2) hx hb dX9_next_171 (by decide) ?_
      refine lv_icmp_ge (tgt := 197) hx hb dX9_next_172 (by decide) (fun c4 => ?_) (fun c4 => ?_)
      · have h := it_use c4 h
        refine lv_aload_n hx hb dX9_next_197 rfl (lv_at hl 0 rfl) ?_
        refine gM_mo_value hx hb hts hnX9 hown hK hP hw4 dX9_next_198 ?_
        refine pM_mo_value hx hb hts hnX9 hown hK hP hD hS hw4 dX9_next_201 (fun H locs hP hD hS => ?_)
        refine lv_aload_n hx hb dX9_next_204 rfl (lv_at hl 0 rfl) ?_
        refine lv_dup hx hb dX9_next_205 rfl ?_
        refine gM_mo_pos hx hb hts hnX9 hown hK hP hw0 dX9_next_206 ?_
        refine lv_iconst (v := 1) hx hb dX9_next_209 (by decide) ?_
        refine lv_iadd hx hb dX9_next_210 ?_
        refine lv_topi (fun v5 ev5 => ?_)
        have h := nm_use ev5 h
        refine pM_mo_pos hx hb hts hnX9 hown hK hP hD hS hw0 dX9_next_211 (fun H locs hP hD hS => ?_)
        refine lv_goto (tgt := 140) hx hb dX9_next_214 (by decide) ?_
        exact ih v5 m_value _ _ ls h hP hD hS (lv_sub hl [0] rfl)
      · have h := ie_use c4 h
        refine lv_bipush (v := 10) hx hb dX9_next_175 (by decide) ?_
        refine lv_aload_n hx hb dX9_next_177 rfl (lv_at hl 0 rfl) ?_
        refine gM_mo_value hx hb hts hnX9 hown hK hP hw4 dX9_next_178 ?_
        refine lv_imul hx hb dX9_next_181 ?_
        refine lv_aload_n hx hb dX9_next_182 rfl (lv_at hl 0 rfl) ?_
        refine lv_aload_n hx hb dX9_next_183 rfl (lv_at hl 0 rfl) ?_
        refine gM_mo_pos hx hb hts hnX9 hown hK hP hw0 dX9_next_184 ?_
        obtain ⟨v6, hc, h⟩ := bd1_use h
        refine cv_i (As := [.int m_pos]) (rest := [.int ((10 : Int32) * m_value), .ref (a 0)]) ⟨hx, hb, hml, hown, hts⟩ (kX9_look l n dC dI cB cI cJ cZ a _ m_letters m_words m_wMany m_wLetters m_asks m_aWords m_dLetters m_dWords m_dMany m_dText m_dAsks m_dAsk m_tape m_taped m_pos m_from m_sort m_value m_fault m_wrongAt m_manyA m_rowA m_manyB m_rowB m_places m_xs m_ys m_heights m_ridges m_rx m_rHeight m_lanes m_sizes m_cells m_left m_calls m_cDay m_cHour m_cFrom m_cAsk m_cWord m_cOf m_isLie m_children m_learned m_group m_pos v6 hc) (cwV 1 hts gX9_next_X9_look rfl rfl rfl (by decide +kernel) ⟨Nat.le_of_ble_eq_true rfl, Nat.le_of_ble_eq_true rfl⟩) EB_0 hE hK hP hD hS hA 0 (ci := 8) rfl rfl rfl rfl hl.1 rfl (Nat.le_of_ble_eq_true rfl) dX9_next_187 ⟨Nat.zero_le _, Nat.zero_le _⟩ (fun H locs hP hD hS => ?_)
        refine lv_iadd hx hb dX9_next_190 ?_
        refine lv_bipush (v := 48) hx hb dX9_next_191 (by decide) ?_
        refine lv_isub hx hb dX9_next_193 ?_
        refine lv_goto (tgt := 201) hx hb dX9_next_194 (by decide) ?_
        refine lv_topi (fun v7 ev7 => ?_)
        have h := nm_use ev7 h
        refine pM_mo_value hx hb hts hnX9 hown hK hP hD hS hw4 dX9_next_201 (fun H locs hP hD hS => ?_)
        refine lv_aload_n hx hb dX9_next_204 rfl (lv_at hl 0 rfl) ?_
        refine lv_dup hx hb dX9_next_205 rfl ?_
        refine gM_mo_pos hx hb hts hnX9 hown hK hP hw0 dX9_next_206 ?_
        refine lv_iconst (v := 1) hx hb dX9_next_209 (by decide) ?_
        refine lv_iadd hx hb dX9_next_210 ?_
        refine lv_topi (fun v8 ev8 => ?_)
        have h := nm_use ev8 h
        refine pM_mo_pos hx hb hts hnX9 hown hK hP hD hS hw0 dX9_next_211 (fun H locs hP hD hS => ?_)
        refine lv_goto (tgt := 140) hx hb dX9_next_214 (by decide) ?_
        exact ih v8 v7 _ _ ls h hP hD hS (lv_sub hl [0] rfl)
theorem kX9_next_p140 {p : Program} {l : Launch} {e : Env} {s : State} {m : MethodId} {args : Array Value} {below : List Frame} {meth : Method} {c : Code} {A : Nat → Prop} (dC : Nat → ClassId) (dI : Nat → Nat → Nat) (cB cI cJ cZ : ClassId) (a : Nat → Nat) (C0 : cxt cX9_next none 2 RX9 wsX9_next (dC, dI) (tyz cB cI cJ cZ) E_0 A p s m args meth c) (n : Nat) (m_letters : Nat → Int32) (m_words : Int32) (m_wMany : Nat → Int32) (m_wLetters : Nat → Int32) (m_asks : Int32) (m_aWords : Nat → Int32) (m_dLetters : Nat → Int32) (m_dWords : Int32) (m_dMany : Nat → Int32) (m_dText : Nat → Int32) (m_dAsks : Int32) (m_dAsk : Nat → Int32) (m_tape : Nat → Int32) (m_taped : Int32) (m_pos : Int32) (m_from : Int32) (m_sort : Int32) (m_value : Int32) (m_fault : Int32) (m_wrongAt : Int32) (m_manyA : Int32) (m_rowA : Nat → Int32) (m_manyB : Int32) (m_rowB : Nat → Int32) (m_places : Int32) (m_xs : Nat → Int32) (m_ys : Nat → Int32) (m_heights : Nat → Int32) (m_ridges : Int32) (m_rx : Nat → Int32) (m_rHeight : Nat → Int32) (m_lanes : Nat → Int32) (m_sizes : Nat → Int32) (m_cells : Nat → Int32) (m_left : Nat → Int32) (m_calls : Int32) (m_cDay : Nat → Int32) (m_cHour : Nat → Int32) (m_cFrom : Nat → Int32) (m_cAsk : Nat → Int32) (m_cWord : Nat → Int32) (m_cOf : Nat → Int32) (m_isLie : Nat → Int32) (m_children : Int32) (m_learned : Nat → Int32) (m_group : Nat → Int32)   (z_m_pos : Int32) (z_m_from : Int32) (z_m_sort : Int32) (z_m_value : Int32) (z_m_fault : Int32) (z_m_wrongAt : Int32)  (k : Nat) (H : Heap) (locs : List Loc) (ls : Array Slot) : fX9_next_p140 n m_tape m_taped m_from m_sort m_fault m_wrongAt k m_pos m_value = some (z_m_pos, z_m_from, z_m_sort, z_m_value, z_m_fault, z_m_wrongAt) → va_P (dC, dI) vwCl (wM cB cI cJ cZ a m_letters m_words m_wMany m_wLetters m_asks m_aWords m_dLetters m_dWords m_dMany m_dText m_dAsks m_dAsk m_tape m_taped m_pos m_from m_sort m_value m_fault m_wrongAt m_manyA m_rowA m_manyB m_rowB m_places m_xs m_ys m_heights m_ridges m_rx m_rHeight m_lanes m_sizes m_cells m_left m_calls m_cDay m_cHour m_cFrom m_cAsk m_cWord m_cOf m_isLie m_children m_learned m_group) H → va_D A (wM cB cI cJ cZ a m_letters m_words m_wMany m_wLetters m_asks m_aWords m_dLetters m_dWords m_dMany m_dText m_dAsks m_dAsk m_tape m_taped m_pos m_from m_sort m_value m_fault m_wrongAt m_manyA m_rowA m_manyB m_rowB m_places m_xs m_ys m_heights m_ridges m_rx m_rHeight m_lanes m_sizes m_cells m_left m_calls m_cDay m_cHour m_cFrom m_cAsk m_cWord m_cOf m_isLie m_children m_learned m_group) → va_S A s.heap H locs → lv_has ls 2 [(0, .ref (a 0))] → W p l e { frames := 1, cells := 0, slots := 0, locals := 25 } s m args below meth c H locs 0 0 (MQ below (gV (dC, dI) (tyz cB cI cJ cZ) (wM cB cI cJ cZ a m_letters m_words m_wMany m_wLetters m_asks m_aWords m_dLetters m_dWords m_dMany m_dText m_dAsks m_dAsk m_tape m_taped z_m_pos z_m_from z_m_sort z_m_value z_m_fault z_m_wrongAt m_manyA m_rowA m_manyB m_rowB m_places m_xs m_ys m_heights m_ridges m_rx m_rHeight m_lanes m_sizes m_cells m_left m_calls m_cDay m_cHour m_cFrom m_cAsk m_cWord m_cOf m_isLie m_children m_learned m_group) A) args s 0 0 A) (F0 m 140 ls []) :=
  kX9_next_p140_r dC dI cB cI cJ cZ a C0 n m_letters m_words m_wMany m_wLetters m_asks m_aWords m_dLetters m_dWords m_dMany m_dText m_dAsks m_dAsk m_tape m_taped m_from m_sort m_fault m_wrongAt m_manyA m_rowA m_manyB m_rowB m_places m_xs m_ys m_heights m_ridges m_rx m_rHeight m_lanes m_sizes m_cells m_left m_calls m_cDay m_cHour m_cFrom m_cAsk m_cWord m_cOf m_isLie m_children m_learned m_group  z_m_pos z_m_from z_m_sort z_m_value z_m_fault z_m_wrongAt  k m_pos m_value H locs ls
set_option maxHeartbeats 4000000 in
set_option maxRecDepth 100000 in
theorem kX9_next_p255 {p : Program} {l : Launch} {e : Env} {s : State} {m : MethodId} {args : Array Value} {below : List Frame} {meth : Method} {c : Code} {A : Nat → Prop} (dC : Nat → ClassId) (dI : Nat → Nat → Nat) (cB cI cJ cZ : ClassId) (a : Nat → Nat) (C0 : cxt cX9_next none 2 RX9 wsX9_next (dC, dI) (tyz cB cI cJ cZ) E_0 A p s m args meth c) (n : Nat) (m_letters : Nat → Int32) (m_words : Int32) (m_wMany : Nat → Int32) (m_wLetters : Nat → Int32) (m_asks : Int32) (m_aWords : Nat → Int32) (m_dLetters : Nat → Int32) (m_dWords : Int32) (m_dMany : Nat → Int32) (m_dText : Nat → Int32) (m_dAsks : Int32) (m_dAsk : Nat → Int32) (m_tape : Nat → Int32) (m_taped : Int32) (m_pos : Int32) (m_from : Int32) (m_sort : Int32) (m_value : Int32) (m_fault : Int32) (m_wrongAt : Int32) (m_manyA : Int32) (m_rowA : Nat → Int32) (m_manyB : Int32) (m_rowB : Nat → Int32) (m_places : Int32) (m_xs : Nat → Int32) (m_ys : Nat → Int32) (m_heights : Nat → Int32) (m_ridges : Int32) (m_rx : Nat → Int32) (m_rHeight : Nat → Int32) (m_lanes : Nat → Int32) (m_sizes : Nat → Int32) (m_cells : Nat → Int32) (m_left : Nat → Int32) (m_calls : Int32) (m_cDay : Nat → Int32) (m_cHour : Nat → Int32) (m_cFrom : Nat → Int32) (m_cAsk : Nat → Int32) (m_cWord : Nat → Int32) (m_cOf : Nat → Int32) (m_isLie : Nat → Int32) (m_children : Int32) (m_learned : Nat → Int32) (m_group : Nat → Int32)  (x1 : Int32) (s1 : Int32) (z_m_pos : Int32) (z_m_from : Int32) (z_m_sort : Int32) (z_m_value : Int32) (z_m_fault : Int32) (z_m_wrongAt : Int32)  (H : Heap) (locs : List Loc) (ls : Array Slot) : fX9_next_p255 n m_pos m_from m_sort m_value m_fault m_wrongAt x1 s1 = some (z_m_pos, z_m_from, z_m_sort, z_m_value, z_m_fault, z_m_wrongAt) → va_P (dC, dI) vwCl (wM cB cI cJ cZ a m_letters m_words m_wMany m_wLetters m_asks m_aWords m_dLetters m_dWords m_dMany m_dText m_dAsks m_dAsk m_tape m_taped m_pos m_from m_sort m_value m_fault m_wrongAt m_manyA m_rowA m_manyB m_rowB m_places m_xs m_ys m_heights m_ridges m_rx m_rHeight m_lanes m_sizes m_cells m_left m_calls m_cDay m_cHour m_cFrom m_cAsk m_cWord m_cOf m_isLie m_children m_learned m_group) H → va_D A (wM cB cI cJ cZ a m_letters m_words m_wMany m_wLetters m_asks m_aWords m_dLetters m_dWords m_dMany m_dText m_dAsks m_dAsk m_tape m_taped m_pos m_from m_sort m_value m_fault m_wrongAt m_manyA m_rowA m_manyB m_rowB m_places m_xs m_ys m_heights m_ridges m_rx m_rHeight m_lanes m_sizes m_cells m_left m_calls m_cDay m_cHour m_cFrom m_cAsk m_cWord m_cOf m_isLie m_children m_learned m_group) → va_S A s.heap H locs → lv_has ls 2 [(0, .ref (a 0)), (1, .int x1)] → W p l e { frames := 1, cells := 0, slots := 0, locals := 25 } s m args below meth c H locs 0 0 (MQ below (gV (dC, dI) (tyz cB cI cJ cZ) (wM cB cI cJ cZ a m_letters m_words m_wMany m_wLetters m_asks m_aWords m_dLetters m_dWords m_dMany m_dText m_dAsks m_dAsk m_tape m_taped z_m_pos z_m_from z_m_sort z_m_value z_m_fault z_m_wrongAt m_manyA m_rowA m_manyB m_rowB m_places m_xs m_ys m_heights m_ridges m_rx m_rHeight m_lanes m_sizes m_cells m_left m_calls m_cDay m_cHour m_cFrom m_cAsk m_cWord m_cOf m_isLie m_children m_learned m_group) A) args s 0 0 A) (F0 m 255 ls [.int s1, .ref (a 0)]) := by
  intro h hP hD hS hl
  obtain ⟨hx, hb, hr, hml, hown, hts, hlocks, hK, hA, hE⟩ := id C0
  have hw0 := hts (.fieldLink RX9 124 "WhistledWordsModel" "sort" "I") (by decide +kernel)
  have hw1 := hts (.fieldLink RX9 117 "WhistledWordsModel" "pos" "I") (by decide +kernel)
  have hnX9 : ∀ w ∈ u_ws RX9 TX9 46, w ∈ wsX9_next := fun _ h => List.mem_cons_of_mem _ (List.mem_append_right _ h)
  unfold fX9_next_p255 at h
  refine pM_mo_sort hx hb hts hnX9 hown hK hP hD hS hw0 dX9_next_255 (fun H locs hP hD hS => ?_)
  refine lv_aload_n hx hb dX9_next_258 rfl (lv_at hl 0 rfl) ?_
  refine lv_iload_n hx hb dX9_next_259 rfl (lv_at hl 1 rfl) ?_
  refine lv_bipush (v := 59) hx hb dX9_next_260 (by decide) ?_
  refine lv_icmp_eq (tgt := 271) hx hb dX9_next_262 (by decide) (fun c1 => ?_) (fun c1 => ?_)
  · have h := it_use c1 h
    refine lv_iconst (v := 1) hx hb dX9_next_271 (by decide) ?_
    refine lv_goto (tgt := 276) hx hb dX9_next_272 (by decide) ?_
    refine lv_iconst (v := 1) hx hb dX9_next_276 (by decide) ?_
    obtain ⟨v2, v3, hc, h⟩ := bd2_use h
    refine cv_v (As := [.int (1 : Int32), .int (1 : Int32)]) (rest := []) ⟨hx, hb, hml, hown, hts⟩ (kX9_wants l n dC dI cB cI cJ cZ a _ m_letters m_words m_wMany m_wLetters m_asks m_aWords m_dLetters m_dWords m_dMany m_dText m_dAsks m_dAsk m_tape m_taped m_pos m_from s1 m_value m_fault m_wrongAt m_manyA m_rowA m_manyB m_rowB m_places m_xs m_ys m_heights m_ridges m_rx m_rHeight m_lanes m_sizes m_cells m_left m_calls m_cDay m_cHour m_cFrom m_cAsk m_cWord m_cOf m_isLie m_children m_learned m_group (1 : Int32) (1 : Int32) v2 v3 hc) (cwV 2 hts gX9_next_X9_wants rfl rfl rfl (by decide +kernel) ⟨Nat.le_of_ble_eq_true rfl, Nat.le_of_ble_eq_true rfl⟩) EB_0 hE hK hP hD hS hA 0 (ci := 8) rfl rfl rfl rfl hl.1 rfl (Nat.le_of_ble_eq_true rfl) dX9_next_277 ⟨Nat.zero_le _, Nat.zero_le _⟩ (fun H locs hP hD hS => ?_)
    refine lv_aload_n hx hb dX9_next_280 rfl (lv_at hl 0 rfl) ?_
    refine lv_dup hx hb dX9_next_281 rfl ?_
    refine gM_mo_pos hx hb hts hnX9 hown hK hP hw1 dX9_next_282 ?_
    refine lv_iconst (v := 1) hx hb dX9_next_285 (by decide) ?_
    refine lv_iadd hx hb dX9_next_286 ?_
    refine lv_topi (fun v4 ev4 => ?_)
    have h := nm_use ev4 h
    refine pM_mo_pos hx hb hts hnX9 hown hK hP hD hS hw1 dX9_next_287 (fun H locs hP hD hS => ?_)
    obtain ⟨ez0, ez1, ez2, ez3, ez4, ez5⟩ := rt6_use h
    subst ez0
    subst ez1
    subst ez2
    subst ez3
    subst ez4
    subst ez5
    exact re_v hx hb hr hlocks hK hP hD hS dX9_next_290
  · have h := ie_use c1 h
    refine lv_iload_n hx hb dX9_next_265 rfl (lv_at hl 1 rfl) ?_
    refine lv_bipush (v := 44) hx hb dX9_next_266 (by decide) ?_
    refine lv_icmp_ne (tgt := 275) hx hb dX9_next_268 (by decide) (fun c5 => ?_) (fun c5 => ?_)
    · have h := ie_use c5 h
      refine lv_iconst (v := 0) hx hb dX9_next_275 (by decide) ?_
      refine lv_iconst (v := 1) hx hb dX9_next_276 (by decide) ?_
      obtain ⟨v6, v7, hc, h⟩ := bd2_use h
      refine cv_v (As := [.int (0 : Int32), .int (1 : Int32)]) (rest := []) ⟨hx, hb, hml, hown, hts⟩ (kX9_wants l n dC dI cB cI cJ cZ a _ m_letters m_words m_wMany m_wLetters m_asks m_aWords m_dLetters m_dWords m_dMany m_dText m_dAsks m_dAsk m_tape m_taped m_pos m_from s1 m_value m_fault m_wrongAt m_manyA m_rowA m_manyB m_rowB m_places m_xs m_ys m_heights m_ridges m_rx m_rHeight m_lanes m_sizes m_cells m_left m_calls m_cDay m_cHour m_cFrom m_cAsk m_cWord m_cOf m_isLie m_children m_learned m_group (0 : Int32) (1 : Int32) v6 v7 hc) (cwV 2 hts gX9_next_X9_wants rfl rfl rfl (by decide +kernel) ⟨Nat.le_of_ble_eq_true rfl, Nat.le_of_ble_eq_true rfl⟩) EB_0 hE hK hP hD hS hA 0 (ci := 8) rfl rfl rfl rfl hl.1 rfl (Nat.le_of_ble_eq_true rfl) dX9_next_277 ⟨Nat.zero_le _, Nat.zero_le _⟩ (fun H locs hP hD hS => ?_)
      refine lv_aload_n hx hb dX9_next_280 rfl (lv_at hl 0 rfl) ?_
      refine lv_dup hx hb dX9_next_281 rfl ?_
      refine gM_mo_pos hx hb hts hnX9 hown hK hP hw1 dX9_next_282 ?_
      refine lv_iconst (v := 1) hx hb dX9_next_285 (by decide) ?_
      refine lv_iadd hx hb dX9_next_286 ?_
      refine lv_topi (fun v8 ev8 => ?_)
      have h := nm_use ev8 h
      refine pM_mo_pos hx hb hts hnX9 hown hK hP hD hS hw1 dX9_next_287 (fun H locs hP hD hS => ?_)
      obtain ⟨ez0, ez1, ez2, ez3, ez4, ez5⟩ := rt6_use h
      subst ez0
      subst ez1
      subst ez2
      subst ez3
      subst ez4
      subst ez5
      exact re_v hx hb hr hlocks hK hP hD hS dX9_next_290
    · have h := it_use c5 h
      refine lv_iconst (v := 1) hx hb dX9_next_271 (by decide) ?_
      refine lv_goto (tgt := 276) hx hb dX9_next_272 (by decide) ?_
      refine lv_iconst (v := 1) hx hb dX9_next_276 (by decide) ?_
      obtain ⟨v9, v10, hc, h⟩ := bd2_use h
      refine cv_v (As := [.int (1 : Int32), .int (1 : Int32)]) (rest := []) ⟨hx, hb, hml, hown, hts⟩ (kX9_wants l n dC dI cB cI cJ cZ a _ m_letters m_words m_wMany m_wLetters m_asks m_aWords m_dLetters m_dWords m_dMany m_dText m_dAsks m_dAsk m_tape m_taped m_pos m_from s1 m_value m_fault m_wrongAt m_manyA m_rowA m_manyB m_rowB m_places m_xs m_ys m_heights m_ridges m_rx m_rHeight m_lanes m_sizes m_cells m_left m_calls m_cDay m_cHour m_cFrom m_cAsk m_cWord m_cOf m_isLie m_children m_learned m_group (1 : Int32) (1 : Int32) v9 v10 hc) (cwV 2 hts gX9_next_X9_wants rfl rfl rfl (by decide +kernel) ⟨Nat.le_of_ble_eq_true rfl, Nat.le_of_ble_eq_true rfl⟩) EB_0 hE hK hP hD hS hA 0 (ci := 8) rfl rfl rfl rfl hl.1 rfl (Nat.le_of_ble_eq_true rfl) dX9_next_277 ⟨Nat.zero_le _, Nat.zero_le _⟩ (fun H locs hP hD hS => ?_)
      refine lv_aload_n hx hb dX9_next_280 rfl (lv_at hl 0 rfl) ?_
      refine lv_dup hx hb dX9_next_281 rfl ?_
      refine gM_mo_pos hx hb hts hnX9 hown hK hP hw1 dX9_next_282 ?_
      refine lv_iconst (v := 1) hx hb dX9_next_285 (by decide) ?_
      refine lv_iadd hx hb dX9_next_286 ?_
      refine lv_topi (fun v11 ev11 => ?_)
      have h := nm_use ev11 h
      refine pM_mo_pos hx hb hts hnX9 hown hK hP hD hS hw1 dX9_next_287 (fun H locs hP hD hS => ?_)
      obtain ⟨ez0, ez1, ez2, ez3, ez4, ez5⟩ := rt6_use h
      subst ez0
      subst ez1
      subst ez2
      subst ez3
      subst ez4
      subst ez5
      exact re_v hx hb hr hlocks hK hP hD hS dX9_next_290
set_option maxHeartbeats 4000000 in
set_option maxRecDepth 100000 in
theorem kX9_next_p34 {p : Program} {l : Launch} {e : Env} {s : State} {m : MethodId} {args : Array Value} {below : List Frame} {meth : Method} {c : Code} {A : Nat → Prop} (dC : Nat → ClassId) (dI : Nat → Nat → Nat) (cB cI cJ cZ : ClassId) (a : Nat → Nat) (C0 : cxt cX9_next none 2 RX9 wsX9_next (dC, dI) (tyz cB cI cJ cZ) E_0 A p s m args meth c) (n : Nat) (m_letters : Nat → Int32) (m_words : Int32) (m_wMany : Nat → Int32) (m_wLetters : Nat → Int32) (m_asks : Int32) (m_aWords : Nat → Int32) (m_dLetters : Nat → Int32) (m_dWords : Int32) (m_dMany : Nat → Int32) (m_dText : Nat → Int32) (m_dAsks : Int32) (m_dAsk : Nat → Int32) (m_tape : Nat → Int32) (m_taped : Int32) (m_pos : Int32) (m_from : Int32) (m_sort : Int32) (m_value : Int32) (m_fault : Int32) (m_wrongAt : Int32) (m_manyA : Int32) (m_rowA : Nat → Int32) (m_manyB : Int32) (m_rowB : Nat → Int32) (m_places : Int32) (m_xs : Nat → Int32) (m_ys : Nat → Int32) (m_heights : Nat → Int32) (m_ridges : Int32) (m_rx : Nat → Int32) (m_rHeight : Nat → Int32) (m_lanes : Nat → Int32) (m_sizes : Nat → Int32) (m_cells : Nat → Int32) (m_left : Nat → Int32) (m_calls : Int32) (m_cDay : Nat → Int32) (m_cHour : Nat → Int32) (m_cFrom : Nat → Int32) (m_cAsk : Nat → Int32) (m_cWord : Nat → Int32) (m_cOf : Nat → Int32) (m_isLie : Nat → Int32) (m_children : Int32) (m_learned : Nat → Int32) (m_group : Nat → Int32)    (z_m_pos : Int32) (z_m_from : Int32) (z_m_sort : Int32) (z_m_value : Int32) (z_m_fault : Int32) (z_m_wrongAt : Int32)  (H : Heap) (locs : List Loc) (ls : Array Slot) : fX9_next_p34 n m_tape m_taped m_pos m_from m_sort m_value m_fault m_wrongAt = some (z_m_pos, z_m_from, z_m_sort, z_m_value, z_m_fault, z_m_wrongAt) → va_P (dC, dI) vwCl (wM cB cI cJ cZ a m_letters m_words m_wMany m_wLetters m_asks m_aWords m_dLetters m_dWords m_dMany m_dText m_dAsks m_dAsk m_tape m_taped m_pos m_from m_sort m_value m_fault m_wrongAt m_manyA m_rowA m_manyB m_rowB m_places m_xs m_ys m_heights m_ridges m_rx m_rHeight m_lanes m_sizes m_cells m_left m_calls m_cDay m_cHour m_cFrom m_cAsk m_cWord m_cOf m_isLie m_children m_learned m_group) H → va_D A (wM cB cI cJ cZ a m_letters m_words m_wMany m_wLetters m_asks m_aWords m_dLetters m_dWords m_dMany m_dText m_dAsks m_dAsk m_tape m_taped m_pos m_from m_sort m_value m_fault m_wrongAt m_manyA m_rowA m_manyB m_rowB m_places m_xs m_ys m_heights m_ridges m_rx m_rHeight m_lanes m_sizes m_cells m_left m_calls m_cDay m_cHour m_cFrom m_cAsk m_cWord m_cOf m_isLie m_children m_learned m_group) → va_S A s.heap H locs → lv_has ls 2 [(0, .ref (a 0))] → W p l e { frames := 1, cells := 0, slots := 0, locals := 25 } s m args below meth c H locs 0 0 (MQ below (gV (dC, dI) (tyz cB cI cJ cZ) (wM cB cI cJ cZ a m_letters m_words m_wMany m_wLetters m_asks m_aWords m_dLetters m_dWords m_dMany m_dText m_dAsks m_dAsk m_tape m_taped z_m_pos z_m_from z_m_sort z_m_value z_m_fault z_m_wrongAt m_manyA m_rowA m_manyB m_rowB m_places m_xs m_ys m_heights m_ridges m_rx m_rHeight m_lanes m_sizes m_cells m_left m_calls m_cDay m_cHour m_cFrom m_cAsk m_cWord m_cOf m_isLie m_children m_learned m_group) A) args s 0 0 A) (F0 m 34 ls []) := by
  intro h hP hD hS hl
  obtain ⟨hx, hb, hr, hml, hown, hts, hlocks, hK, hA, hE⟩ := id C0
  have hw0 := hts (.fieldLink RX9 117 "WhistledWordsModel" "pos" "I") (by decide +kernel)
  have hw1 := hts (.fieldLink RX9 111 "WhistledWordsModel" "from" "I") (by decide +kernel)
  have hw2 := hts (.constantLong RX9 127 (97)) (by decide +kernel)
  have hw3 := hts (.constantLong RX9 129 (122)) (by decide +kernel)
  have hw4 := hts (.constantLong RX9 131 (48)) (by decide +kernel)
  have hw5 := hts (.constantLong RX9 133 (57)) (by decide +kernel)
  have hw6 := hts (.fieldLink RX9 124 "WhistledWordsModel" "sort" "I") (by decide +kernel)
  have hw7 := hts (.fieldLink RX9 135 "WhistledWordsModel" "value" "I") (by decide +kernel)
  have hnX9 : ∀ w ∈ u_ws RX9 TX9 46, w ∈ wsX9_next := fun _ h => List.mem_cons_of_mem _ (List.mem_append_right _ h)
  unfold fX9_next_p34 at h
  refine lv_aload_n hx hb dX9_next_34 rfl (lv_at hl 0 rfl) ?_
  refine lv_aload_n hx hb dX9_next_35 rfl (lv_at hl 0 rfl) ?_
  refine gM_mo_pos hx hb hts hnX9 hown hK hP hw0 dX9_next_36 ?_
  refine pM_mo_from hx hb hts hnX9 hown hK hP hD hS hw1 dX9_next_39 (fun H locs hP hD hS => ?_)
  refine lv_aload_n hx hb dX9_next_42 rfl (lv_at hl 0 rfl) ?_
  refine lv_aload_n hx hb dX9_next_43 rfl (lv_at hl 0 rfl) ?_
  refine gM_mo_pos hx hb hts hnX9 hown hK hP hw0 dX9_next_44 ?_
  obtain ⟨v1, hc, h⟩ := bd1_use h
  refine cv_i (As := [.int m_pos]) (rest := []) ⟨hx, hb, hml, hown, hts⟩ (kX9_look l n dC dI cB cI cJ cZ a _ m_letters m_words m_wMany m_wLetters m_asks m_aWords m_dLetters m_dWords m_dMany m_dText m_dAsks m_dAsk m_tape m_taped m_pos m_pos m_sort m_value m_fault m_wrongAt m_manyA m_rowA m_manyB m_rowB m_places m_xs m_ys m_heights m_ridges m_rx m_rHeight m_lanes m_sizes m_cells m_left m_calls m_cDay m_cHour m_cFrom m_cAsk m_cWord m_cOf m_isLie m_children m_learned m_group m_pos v1 hc) (cwV 1 hts gX9_next_X9_look rfl rfl rfl (by decide +kernel) ⟨Nat.le_of_ble_eq_true rfl, Nat.le_of_ble_eq_true rfl⟩) EB_0 hE hK hP hD hS hA 0 (ci := 8) rfl rfl rfl rfl hl.1 rfl (Nat.le_of_ble_eq_true rfl) dX9_next_47 ⟨Nat.zero_le _, Nat.zero_le _⟩ (fun H locs hP hD hS => ?_)
  refine lv_istore_n (lv' := [(1, .int v1), (0, .ref (a 0))]) hx hb dX9_next_50 rfl hl (by decide) rfl (fun ls hl => ?_)
  refine lv_iload_n hx hb dX9_next_51 rfl (lv_at hl 0 rfl) ?_
  refine lv_if_ge (tgt := 63) hx hb dX9_next_52 (by decide) (fun c2 => ?_) (fun c2 => ?_)
  · have h := it_use c2 h
    refine lv_iload_n hx hb dX9_next_63 rfl (lv_at hl 0 rfl) ?_
    refine lv_i2l hx hb dX9_next_64 rfl ?_
    refine lv_ldc2 hx hb hown hw2 dX9_next_65 ?_
    refine lv_ldc2 hx hb hown hw3 dX9_next_68 ?_
    obtain ⟨v3, hc, h⟩ := bd1_use h
    refine cs_i (As := [.long v1.toInt64, .long (97 : Int64), .long (122 : Int64)]) (rest := []) ⟨hx, hb, hml, hown, hts⟩ (kX9_in l n v1.toInt64 (97 : Int64) (122 : Int64) v3 hc) (va_cwS 3 hts gX9_next_X9_in rfl rfl rfl (by decide +kernel) ⟨Nat.le_of_ble_eq_true rfl, Nat.le_of_ble_eq_true rfl⟩) hP hS rfl hl.1 rfl (Nat.le_of_ble_eq_true rfl) dX9_next_71 ⟨Nat.zero_le _, Nat.zero_le _⟩ (fun H locs hP hS => ?_)
    refine lv_if_eq (tgt := 116) hx hb dX9_next_74 (by decide) (fun c4 => ?_) (fun c4 => ?_)
    · have h := it_use c4 h
      refine lv_iload_n hx hb dX9_next_116 rfl (lv_at hl 0 rfl) ?_
      refine lv_i2l hx hb dX9_next_117 rfl ?_
      refine lv_ldc2 hx hb hown hw4 dX9_next_118 ?_
      refine lv_ldc2 hx hb hown hw5 dX9_next_121 ?_
      obtain ⟨v5, hc, h⟩ := bd1_use h
      refine cs_i (As := [.long v1.toInt64, .long (48 : Int64), .long (57 : Int64)]) (rest := []) ⟨hx, hb, hml, hown, hts⟩ (kX9_in l n v1.toInt64 (48 : Int64) (57 : Int64) v5 hc) (va_cwS 3 hts gX9_next_X9_in rfl rfl rfl (by decide +kernel) ⟨Nat.le_of_ble_eq_true rfl, Nat.le_of_ble_eq_true rfl⟩) hP hS rfl hl.1 rfl (Nat.le_of_ble_eq_true rfl) dX9_next_124 ⟨Nat.zero_le _, Nat.zero_le _⟩ (fun H locs hP hS => ?_)
      refine lv_if_eq (tgt := 243) hx hb dX9_next_127 (by decide) (fun c6 => ?_) (fun c6 => ?_)
      · have h := it_use c6 h
        refine lv_aload_n hx hb dX9_next_243 rfl (lv_at hl 1 rfl) ?_
        refine lv_iload_n hx hb dX9_next_244 rfl (lv_at hl 0 rfl) ?_
        refine lv_bipush (v := 59) hx hb dX9_next_245 (by decide) ?_
        refine lv_icmp_ne (tgt := 254) hx hb dX9_next_247 (by decide) (fun c7 => ?_) (fun c7 => ?_)
        · have h := ie_use c7 h
          refine lv_iconst (v := 4) hx hb dX9_next_254 (by decide) ?_
          exact kX9_next_p255 dC dI cB cI cJ cZ a C0 n m_letters m_words m_wMany m_wLetters m_asks m_aWords m_dLetters m_dWords m_dMany m_dText m_dAsks m_dAsk m_tape m_taped m_pos m_pos m_sort m_value m_fault m_wrongAt m_manyA m_rowA m_manyB m_rowB m_places m_xs m_ys m_heights m_ridges m_rx m_rHeight m_lanes m_sizes m_cells m_left m_calls m_cDay m_cHour m_cFrom m_cAsk m_cWord m_cOf m_isLie m_children m_learned m_group v1 (4 : Int32) z_m_pos z_m_from z_m_sort z_m_value z_m_fault z_m_wrongAt  _ _ ls h hP hD hS (lv_sub hl [1, 0] rfl)
        · have h := it_use c7 h
          refine lv_iconst (v := 3) hx hb dX9_next_250 (by decide) ?_
          refine lv_goto (tgt := 255) hx hb dX9_next_251 (by decide) ?_
          exact kX9_next_p255 dC dI cB cI cJ cZ a C0 n m_letters m_words m_wMany m_wLetters m_asks m_aWords m_dLetters m_dWords m_dMany m_dText m_dAsks m_dAsk m_tape m_taped m_pos m_pos m_sort m_value m_fault m_wrongAt m_manyA m_rowA m_manyB m_rowB m_places m_xs m_ys m_heights m_ridges m_rx m_rHeight m_lanes m_sizes m_cells m_left m_calls m_cDay m_cHour m_cFrom m_cAsk m_cWord m_cOf m_isLie m_children m_learned m_group v1 (3 : Int32) z_m_pos z_m_from z_m_sort z_m_value z_m_fault z_m_wrongAt  _ _ ls h hP hD hS (lv_sub hl [1, 0] rfl)
      · have h := ie_use c6 h
        refine lv_aload_n hx hb dX9_next_130 rfl (lv_at hl 1 rfl) ?_
        refine lv_iconst (v := 2) hx hb dX9_next_131 (by decide) ?_
        refine pM_mo_sort hx hb hts hnX9 hown hK hP hD hS hw6 dX9_next_132 (fun H locs hP hD hS => ?_)
        refine lv_aload_n hx hb dX9_next_135 rfl (lv_at hl 1 rfl) ?_
        refine lv_iconst (v := 0) hx hb dX9_next_136 (by decide) ?_
        refine pM_mo_value hx hb hts hnX9 hown hK hP hD hS hw7 dX9_next_137 (fun H locs hP hD hS => ?_)
        exact kX9_next_p140 dC dI cB cI cJ cZ a C0 n m_letters m_words m_wMany m_wLetters m_asks m_aWords m_dLetters m_dWords m_dMany m_dText m_dAsks m_dAsk m_tape m_taped m_pos m_pos (2 : Int32) (0 : Int32) m_fault m_wrongAt m_manyA m_rowA m_manyB m_rowB m_places m_xs m_ys m_heights m_ridges m_rx m_rHeight m_lanes m_sizes m_cells m_left m_calls m_cDay m_cHour m_cFrom m_cAsk m_cWord m_cOf m_isLie m_children m_learned m_group  z_m_pos z_m_from z_m_sort z_m_value z_m_fault z_m_wrongAt  n _ _ ls h hP hD hS (lv_sub hl [1] rfl)
    · have h := ie_use c4 h
      refine lv_aload_n hx hb dX9_next_77 rfl (lv_at hl 1 rfl) ?_
      refine lv_iconst (v := 1) hx hb dX9_next_78 (by decide) ?_
      refine pM_mo_sort hx hb hts hnX9 hown hK hP hD hS hw6 dX9_next_79 (fun H locs hP hD hS => ?_)
      exact kX9_next_p82 dC dI cB cI cJ cZ a C0 n m_letters m_words m_wMany m_wLetters m_asks m_aWords m_dLetters m_dWords m_dMany m_dText m_dAsks m_dAsk m_tape m_taped m_pos m_pos (1 : Int32) m_value m_fault m_wrongAt m_manyA m_rowA m_manyB m_rowB m_places m_xs m_ys m_heights m_ridges m_rx m_rHeight m_lanes m_sizes m_cells m_left m_calls m_cDay m_cHour m_cFrom m_cAsk m_cWord m_cOf m_isLie m_children m_learned m_group  z_m_pos z_m_from z_m_sort z_m_value z_m_fault z_m_wrongAt  n _ _ ls h hP hD hS (lv_sub hl [1] rfl)
  · have h := ie_use c2 h
    refine lv_aload_n hx hb dX9_next_55 rfl (lv_at hl 1 rfl) ?_
    refine lv_iconst (v := 0) hx hb dX9_next_56 (by decide) ?_
    refine pM_mo_sort hx hb hts hnX9 hown hK hP hD hS hw6 dX9_next_57 (fun H locs hP hD hS => ?_)
    refine lv_goto (tgt := 290) hx hb dX9_next_60 (by decide) ?_
    obtain ⟨ez0, ez1, ez2, ez3, ez4, ez5⟩ := rt6_use h
    subst ez0
    subst ez1
    subst ez2
    subst ez3
    subst ez4
    subst ez5
    exact re_v hx hb hr hlocks hK hP hD hS dX9_next_290
set_option maxHeartbeats 4000000 in
set_option maxRecDepth 100000 in
theorem kX9_next_p8_r {p : Program} {l : Launch} {e : Env} {s : State} {m : MethodId} {args : Array Value} {below : List Frame} {meth : Method} {c : Code} {A : Nat → Prop} (dC : Nat → ClassId) (dI : Nat → Nat → Nat) (cB cI cJ cZ : ClassId) (a : Nat → Nat) (C0 : cxt cX9_next none 2 RX9 wsX9_next (dC, dI) (tyz cB cI cJ cZ) E_0 A p s m args meth c) (n : Nat) (m_letters : Nat → Int32) (m_words : Int32) (m_wMany : Nat → Int32) (m_wLetters : Nat → Int32) (m_asks : Int32) (m_aWords : Nat → Int32) (m_dLetters : Nat → Int32) (m_dWords : Int32) (m_dMany : Nat → Int32) (m_dText : Nat → Int32) (m_dAsks : Int32) (m_dAsk : Nat → Int32) (m_tape : Nat → Int32) (m_taped : Int32) (m_from : Int32) (m_sort : Int32) (m_value : Int32) (m_fault : Int32) (m_wrongAt : Int32) (m_manyA : Int32) (m_rowA : Nat → Int32) (m_manyB : Int32) (m_rowB : Nat → Int32) (m_places : Int32) (m_xs : Nat → Int32) (m_ys : Nat → Int32) (m_heights : Nat → Int32) (m_ridges : Int32) (m_rx : Nat → Int32) (m_rHeight : Nat → Int32) (m_lanes : Nat → Int32) (m_sizes : Nat → Int32) (m_cells : Nat → Int32) (m_left : Nat → Int32) (m_calls : Int32) (m_cDay : Nat → Int32) (m_cHour : Nat → Int32) (m_cFrom : Nat → Int32) (m_cAsk : Nat → Int32) (m_cWord : Nat → Int32) (m_cOf : Nat → Int32) (m_isLie : Nat → Int32) (m_children : Int32) (m_learned : Nat → Int32) (m_group : Nat → Int32)  (z_m_pos : Int32) (z_m_from : Int32) (z_m_sort : Int32) (z_m_value : Int32) (z_m_fault : Int32) (z_m_wrongAt : Int32)  : ∀ (k : Nat) (m_pos : Int32) (H : Heap) (locs : List Loc) (ls : Array Slot), fX9_next_p8 n m_tape m_taped m_from m_sort m_value m_fault m_wrongAt k m_pos = some (z_m_pos, z_m_from, z_m_sort, z_m_value, z_m_fault, z_m_wrongAt) → va_P (dC, dI) vwCl (wM cB cI cJ cZ a m_letters m_words m_wMany m_wLetters m_asks m_aWords m_dLetters m_dWords m_dMany m_dText m_dAsks m_dAsk m_tape m_taped m_pos m_from m_sort m_value m_fault m_wrongAt m_manyA m_rowA m_manyB m_rowB m_places m_xs m_ys m_heights m_ridges m_rx m_rHeight m_lanes m_sizes m_cells m_left m_calls m_cDay m_cHour m_cFrom m_cAsk m_cWord m_cOf m_isLie m_children m_learned m_group) H → va_D A (wM cB cI cJ cZ a m_letters m_words m_wMany m_wLetters m_asks m_aWords m_dLetters m_dWords m_dMany m_dText m_dAsks m_dAsk m_tape m_taped m_pos m_from m_sort m_value m_fault m_wrongAt m_manyA m_rowA m_manyB m_rowB m_places m_xs m_ys m_heights m_ridges m_rx m_rHeight m_lanes m_sizes m_cells m_left m_calls m_cDay m_cHour m_cFrom m_cAsk m_cWord m_cOf m_isLie m_children m_learned m_group) → va_S A s.heap H locs → lv_has ls 2 [(0, .ref (a 0))] → W p l e { frames := 1, cells := 0, slots := 0, locals := 25 } s m args below meth c H locs 0 0 (MQ below (gV (dC, dI) (tyz cB cI cJ cZ) (wM cB cI cJ cZ a m_letters m_words m_wMany m_wLetters m_asks m_aWords m_dLetters m_dWords m_dMany m_dText m_dAsks m_dAsk m_tape m_taped z_m_pos z_m_from z_m_sort z_m_value z_m_fault z_m_wrongAt m_manyA m_rowA m_manyB m_rowB m_places m_xs m_ys m_heights m_ridges m_rx m_rHeight m_lanes m_sizes m_cells m_left m_calls m_cDay m_cHour m_cFrom m_cAsk m_cWord m_cOf m_isLie m_children m_learned m_group) A) args s 0 0 A) (F0 m 8 ls []) := by
  obtain ⟨hx, hb, hr, hml, hown, hts, hlocks, hK, hA, hE⟩ := id C0
  have hw0 := hts (.fieldLink RX9 117 "WhistledWordsModel" "pos" "I") (by decide +kernel)
  have hnX9 : ∀ w ∈ u_ws RX9 TX9 46, w ∈ wsX9_next := fun _ h => List.mem_cons_of_mem _ (List.mem_append_right _ h)
  intro k
  induction k with
  | zero =>
    intro m_pos H locs ls h
    cases h
  | succ k ih =>
    intro m_pos H locs ls h hP hD hS hl
    rw [fX9_next_p8] at h
    refine lv_aload_n hx hb dX9_next_8 rfl (lv_at hl 0 rfl) ?_
    refine lv_aload_n hx hb dX9_next_9 rfl (lv_at hl 0 rfl) ?_
    refine gM_mo_pos hx hb hts hnX9 hown hK hP hw0 dX9_next_10 ?_
    obtain ⟨v1, hc, h⟩ := bd1_use h
    refine cv_i (As := [.int m_pos]) (rest := []) ⟨hx, hb, hml, hown, hts⟩ (kX9_look l n dC dI cB cI cJ cZ a _ m_letters m_words m_wMany m_wLetters m_asks m_aWords m_dLetters m_dWords m_dMany m_dText m_dAsks m_dAsk m_tape m_taped m_pos m_from m_sort m_value m_fault m_wrongAt m_manyA m_rowA m_manyB m_rowB m_places m_xs m_ys m_heights m_ridges m_rx m_rHeight m_lanes m_sizes m_cells m_left m_calls m_cDay m_cHour m_cFrom m_cAsk m_cWord m_cOf m_isLie m_children m_learned m_group m_pos v1 hc) (cwV 1 hts gX9_next_X9_look rfl rfl rfl (by decide +kernel) ⟨Nat.le_of_ble_eq_true rfl, Nat.le_of_ble_eq_true rfl⟩) EB_0 hE hK hP hD hS hA 0 (ci := 8) rfl rfl rfl rfl hl.1 rfl (Nat.le_of_ble_eq_true rfl) dX9_next_13 ⟨Nat.zero_le _, Nat.zero_le _⟩ (fun H locs hP hD hS => ?_)
    refine lv_bipush (v := 32) hx hb dX9_next_16 (by decide) ?_
    refine lv_icmp_ne (tgt := 34) hx hb dX9_next_18 (by decide) (fun c2 => ?_) (fun c2 => ?_)
    · have h := ie_use c2 h
      exact kX9_next_p34 dC dI cB cI cJ cZ a C0 n m_letters m_words m_wMany m_wLetters m_asks m_aWords m_dLetters m_dWords m_dMany m_dText m_dAsks m_dAsk m_tape m_taped m_pos m_from m_sort m_value m_fault m_wrongAt m_manyA m_rowA m_manyB m_rowB m_places m_xs m_ys m_heights m_ridges m_rx m_rHeight m_lanes m_sizes m_cells m_left m_calls m_cDay m_cHour m_cFrom m_cAsk m_cWord m_cOf m_isLie m_children m_learned m_group   z_m_pos z_m_from z_m_sort z_m_value z_m_fault z_m_wrongAt  _ _ ls h hP hD hS (lv_sub hl [0] rfl)
    · have h := it_use c2 h
      refine lv_aload_n hx hb dX9_next_21 rfl (lv_at hl 0 rfl) ?_
      refine lv_dup hx hb dX9_next_22 rfl ?_
      refine gM_mo_pos hx hb hts hnX9 hown hK hP hw0 dX9_next_23 ?_
      refine lv_iconst (v := 1) hx hb dX9_next_26 (by decide) ?_
      refine lv_iadd hx hb dX9_next_27 ?_
      refine lv_topi (fun v3 ev3 => ?_)
      have h := nm_use ev3 h
      refine pM_mo_pos hx hb hts hnX9 hown hK hP hD hS hw0 dX9_next_28 (fun H locs hP hD hS => ?_)
      refine lv_goto (tgt := 8) hx hb dX9_next_31 (by decide) ?_
      exact ih v3 _ _ ls h hP hD hS (lv_sub hl [0] rfl)
theorem kX9_next_p8 {p : Program} {l : Launch} {e : Env} {s : State} {m : MethodId} {args : Array Value} {below : List Frame} {meth : Method} {c : Code} {A : Nat → Prop} (dC : Nat → ClassId) (dI : Nat → Nat → Nat) (cB cI cJ cZ : ClassId) (a : Nat → Nat) (C0 : cxt cX9_next none 2 RX9 wsX9_next (dC, dI) (tyz cB cI cJ cZ) E_0 A p s m args meth c) (n : Nat) (m_letters : Nat → Int32) (m_words : Int32) (m_wMany : Nat → Int32) (m_wLetters : Nat → Int32) (m_asks : Int32) (m_aWords : Nat → Int32) (m_dLetters : Nat → Int32) (m_dWords : Int32) (m_dMany : Nat → Int32) (m_dText : Nat → Int32) (m_dAsks : Int32) (m_dAsk : Nat → Int32) (m_tape : Nat → Int32) (m_taped : Int32) (m_pos : Int32) (m_from : Int32) (m_sort : Int32) (m_value : Int32) (m_fault : Int32) (m_wrongAt : Int32) (m_manyA : Int32) (m_rowA : Nat → Int32) (m_manyB : Int32) (m_rowB : Nat → Int32) (m_places : Int32) (m_xs : Nat → Int32) (m_ys : Nat → Int32) (m_heights : Nat → Int32) (m_ridges : Int32) (m_rx : Nat → Int32) (m_rHeight : Nat → Int32) (m_lanes : Nat → Int32) (m_sizes : Nat → Int32) (m_cells : Nat → Int32) (m_left : Nat → Int32) (m_calls : Int32) (m_cDay : Nat → Int32) (m_cHour : Nat → Int32) (m_cFrom : Nat → Int32) (m_cAsk : Nat → Int32) (m_cWord : Nat → Int32) (m_cOf : Nat → Int32) (m_isLie : Nat → Int32) (m_children : Int32) (m_learned : Nat → Int32) (m_group : Nat → Int32)   (z_m_pos : Int32) (z_m_from : Int32) (z_m_sort : Int32) (z_m_value : Int32) (z_m_fault : Int32) (z_m_wrongAt : Int32)  (k : Nat) (H : Heap) (locs : List Loc) (ls : Array Slot) : fX9_next_p8 n m_tape m_taped m_from m_sort m_value m_fault m_wrongAt k m_pos = some (z_m_pos, z_m_from, z_m_sort, z_m_value, z_m_fault, z_m_wrongAt) → va_P (dC, dI) vwCl (wM cB cI cJ cZ a m_letters m_words m_wMany m_wLetters m_asks m_aWords m_dLetters m_dWords m_dMany m_dText m_dAsks m_dAsk m_tape m_taped m_pos m_from m_sort m_value m_fault m_wrongAt m_manyA m_rowA m_manyB m_rowB m_places m_xs m_ys m_heights m_ridges m_rx m_rHeight m_lanes m_sizes m_cells m_left m_calls m_cDay m_cHour m_cFrom m_cAsk m_cWord m_cOf m_isLie m_children m_learned m_group) H → va_D A (wM cB cI cJ cZ a m_letters m_words m_wMany m_wLetters m_asks m_aWords m_dLetters m_dWords m_dMany m_dText m_dAsks m_dAsk m_tape m_taped m_pos m_from m_sort m_value m_fault m_wrongAt m_manyA m_rowA m_manyB m_rowB m_places m_xs m_ys m_heights m_ridges m_rx m_rHeight m_lanes m_sizes m_cells m_left m_calls m_cDay m_cHour m_cFrom m_cAsk m_cWord m_cOf m_isLie m_children m_learned m_group) → va_S A s.heap H locs → lv_has ls 2 [(0, .ref (a 0))] → W p l e { frames := 1, cells := 0, slots := 0, locals := 25 } s m args below meth c H locs 0 0 (MQ below (gV (dC, dI) (tyz cB cI cJ cZ) (wM cB cI cJ cZ a m_letters m_words m_wMany m_wLetters m_asks m_aWords m_dLetters m_dWords m_dMany m_dText m_dAsks m_dAsk m_tape m_taped z_m_pos z_m_from z_m_sort z_m_value z_m_fault z_m_wrongAt m_manyA m_rowA m_manyB m_rowB m_places m_xs m_ys m_heights m_ridges m_rx m_rHeight m_lanes m_sizes m_cells m_left m_calls m_cDay m_cHour m_cFrom m_cAsk m_cWord m_cOf m_isLie m_children m_learned m_group) A) args s 0 0 A) (F0 m 8 ls []) :=
  kX9_next_p8_r dC dI cB cI cJ cZ a C0 n m_letters m_words m_wMany m_wLetters m_asks m_aWords m_dLetters m_dWords m_dMany m_dText m_dAsks m_dAsk m_tape m_taped m_from m_sort m_value m_fault m_wrongAt m_manyA m_rowA m_manyB m_rowB m_places m_xs m_ys m_heights m_ridges m_rx m_rHeight m_lanes m_sizes m_cells m_left m_calls m_cDay m_cHour m_cFrom m_cAsk m_cWord m_cOf m_isLie m_children m_learned m_group  z_m_pos z_m_from z_m_sort z_m_value z_m_fault z_m_wrongAt  k m_pos H locs ls
set_option maxHeartbeats 4000000 in
set_option maxRecDepth 100000 in
theorem kX9_next (l : Launch) (n : Nat) (dC : Nat → ClassId) (dI : Nat → Nat → Nat) (cB cI cJ cZ : ClassId) (a : Nat → Nat) (sz : Nat) (m_letters : Nat → Int32) (m_words : Int32) (m_wMany : Nat → Int32) (m_wLetters : Nat → Int32) (m_asks : Int32) (m_aWords : Nat → Int32) (m_dLetters : Nat → Int32) (m_dWords : Int32) (m_dMany : Nat → Int32) (m_dText : Nat → Int32) (m_dAsks : Int32) (m_dAsk : Nat → Int32) (m_tape : Nat → Int32) (m_taped : Int32) (m_pos : Int32) (m_from : Int32) (m_sort : Int32) (m_value : Int32) (m_fault : Int32) (m_wrongAt : Int32) (m_manyA : Int32) (m_rowA : Nat → Int32) (m_manyB : Int32) (m_rowB : Nat → Int32) (m_places : Int32) (m_xs : Nat → Int32) (m_ys : Nat → Int32) (m_heights : Nat → Int32) (m_ridges : Int32) (m_rx : Nat → Int32) (m_rHeight : Nat → Int32) (m_lanes : Nat → Int32) (m_sizes : Nat → Int32) (m_cells : Nat → Int32) (m_left : Nat → Int32) (m_calls : Int32) (m_cDay : Nat → Int32) (m_cHour : Nat → Int32) (m_cFrom : Nat → Int32) (m_cAsk : Nat → Int32) (m_cWord : Nat → Int32) (m_cOf : Nat → Int32) (m_isLie : Nat → Int32) (m_children : Int32) (m_learned : Nat → Int32) (m_group : Nat → Int32)  (z_m_pos : Int32) (z_m_from : Int32) (z_m_sort : Int32) (z_m_value : Int32) (z_m_fault : Int32) (z_m_wrongAt : Int32) (h : fX9_next n m_tape m_taped m_pos m_from m_sort m_value m_fault m_wrongAt = some (z_m_pos, z_m_from, z_m_sort, z_m_value, z_m_fault, z_m_wrongAt)) : Met l yX9_next wsX9_next ({ frames := 1, cells := 0, slots := 0, locals := 25 }) (gP (dC, dI) (tyz cB cI cJ cZ) E_0 (wM cB cI cJ cZ a m_letters m_words m_wMany m_wLetters m_asks m_aWords m_dLetters m_dWords m_dMany m_dText m_dAsks m_dAsk m_tape m_taped m_pos m_from m_sort m_value m_fault m_wrongAt m_manyA m_rowA m_manyB m_rowB m_places m_xs m_ys m_heights m_ridges m_rx m_rHeight m_lanes m_sizes m_cells m_left m_calls m_cDay m_cHour m_cFrom m_cAsk m_cWord m_cOf m_isLie m_children m_learned m_group) sz [.ref (a 0)]) (gV (dC, dI) (tyz cB cI cJ cZ) (wM cB cI cJ cZ a m_letters m_words m_wMany m_wLetters m_asks m_aWords m_dLetters m_dWords m_dMany m_dText m_dAsks m_dAsk m_tape m_taped z_m_pos z_m_from z_m_sort z_m_value z_m_fault z_m_wrongAt m_manyA m_rowA m_manyB m_rowB m_places m_xs m_ys m_heights m_ridges m_rx m_rHeight m_lanes m_sizes m_cells m_left m_calls m_cDay m_cHour m_cFrom m_cAsk m_cWord m_cOf m_isLie m_children m_learned m_group) (va_A (wM cB cI cJ cZ a m_letters m_words m_wMany m_wLetters m_asks m_aWords m_dLetters m_dWords m_dMany m_dText m_dAsks m_dAsk m_tape m_taped m_pos m_from m_sort m_value m_fault m_wrongAt m_manyA m_rowA m_manyB m_rowB m_places m_xs m_ys m_heights m_ridges m_rx m_rHeight m_lanes m_sizes m_cells m_left m_calls m_cDay m_cHour m_cFrom m_cAsk m_cWord m_cOf m_isLie m_children m_learned m_group) sz)) 0 0 (va_A (wM cB cI cJ cZ a m_letters m_words m_wMany m_wLetters m_asks m_aWords m_dLetters m_dWords m_dMany m_dText m_dAsks m_dAsk m_tape m_taped m_pos m_from m_sort m_value m_fault m_wrongAt m_manyA m_rowA m_manyB m_rowB m_places m_xs m_ys m_heights m_ridges m_rx m_rHeight m_lanes m_sizes m_cells m_left m_calls m_cDay m_cHour m_cFrom m_cAsk m_cWord m_cOf m_isLie m_children m_learned m_group) sz) := by
  refine Met.ofW (cc := cX9_next) (maxL := 2) (ret := none) (by decide) rfl ?_
  intro p e s m args below meth c s₁ B hml hv
  obtain ⟨rfl, hsz, hP, hK, hD0, hE⟩ := hv
  have hx := B.exec
  have hb := B.bytes
  have hr := B.returns
  have hts := atoms_spec (ws := wsX9_next) B.pre
  have hown : s.vm.findClass RX9 = some m.cls := findClass_of_methodNamed B.named
  have hlocks := B.notSynchronized
  subst hsz
  have hD := hD0.self (sz := s.heap.size)
  have hA : ∀ q : Nat, s.heap.size ≤ q → va_A (wM cB cI cJ cZ a m_letters m_words m_wMany m_wLetters m_asks m_aWords m_dLetters m_dWords m_dMany m_dText m_dAsks m_dAsk m_tape m_taped m_pos m_from m_sort m_value m_fault m_wrongAt m_manyA m_rowA m_manyB m_rowB m_places m_xs m_ys m_heights m_ridges m_rx m_rHeight m_lanes m_sizes m_cells m_left m_calls m_cDay m_cHour m_cFrom m_cAsk m_cWord m_cOf m_isLie m_children m_learned m_group) s.heap.size q := fun q h => Or.inr h
  generalize va_A (wM cB cI cJ cZ a m_letters m_words m_wMany m_wLetters m_asks m_aWords m_dLetters m_dWords m_dMany m_dText m_dAsks m_dAsk m_tape m_taped m_pos m_from m_sort m_value m_fault m_wrongAt m_manyA m_rowA m_manyB m_rowB m_places m_xs m_ys m_heights m_ridges m_rx m_rHeight m_lanes m_sizes m_cells m_left m_calls m_cDay m_cHour m_cFrom m_cAsk m_cWord m_cOf m_isLie m_children m_learned m_group) s.heap.size = A at hD hA hE ⊢
  have hS : va_S A s.heap s.heap [] := va_S.rf
  have C0 : cxt cX9_next none 2 RX9 wsX9_next (dC, dI) (tyz cB cI cJ cZ) E_0 A p s m ([.ref (a 0)] : List Value).toArray meth c := ⟨hx, hb, hr, hml, hown, hts, hlocks, hK, hA, hE⟩
  have hl := lv_entry ([.ref (a 0)]) (n := 2) (Nat.le_of_ble_eq_true rfl)
  rw [lg_entry_eq]
  generalize (lg_sl ([.ref (a 0)]) ++ List.replicate (2 - (lg_sl ([.ref (a 0)])).length) Slot.unset).toArray = ls at hl ⊢
  have hl : lv_has ls 2 [(0, .ref (a 0))] := hl
  have hw0 := hts (.fieldLink RX9 108 "WhistledWordsModel" "fault" "I") (by decide +kernel)
  have hnX9 : ∀ w ∈ u_ws RX9 TX9 46, w ∈ wsX9_next := fun _ h => List.mem_cons_of_mem _ (List.mem_append_right _ h)
  unfold fX9_next at h
  refine lv_aload_n hx hb dX9_next_0 rfl (lv_at hl 0 rfl) ?_
  refine gM_mo_fault hx hb hts hnX9 hown hK hP hw0 dX9_next_1 ?_
  refine lv_if_le (tgt := 8) hx hb dX9_next_4 (by decide) (fun c1 => ?_) (fun c1 => ?_)
  · have h := it_use c1 h
    exact kX9_next_p8 dC dI cB cI cJ cZ a C0 n m_letters m_words m_wMany m_wLetters m_asks m_aWords m_dLetters m_dWords m_dMany m_dText m_dAsks m_dAsk m_tape m_taped m_pos m_from m_sort m_value m_fault m_wrongAt m_manyA m_rowA m_manyB m_rowB m_places m_xs m_ys m_heights m_ridges m_rx m_rHeight m_lanes m_sizes m_cells m_left m_calls m_cDay m_cHour m_cFrom m_cAsk m_cWord m_cOf m_isLie m_children m_learned m_group  z_m_pos z_m_from z_m_sort z_m_value z_m_fault z_m_wrongAt  n _ _ ls h hP hD hS (lv_sub hl [0] rfl)
  · have h := ie_use c1 h
    obtain ⟨ez0, ez1, ez2, ez3, ez4, ez5⟩ := rt6_use h
    subst ez0
    subst ez1
    subst ez2
    subst ez3
    subst ez4
    subst ez5
    exact re_v hx hb hr hlocks hK hP hD hS dX9_next_7
set_option maxHeartbeats 4000000 in
set_option maxRecDepth 100000 in
theorem kX9_is (l : Launch) (n : Nat) (dC : Nat → ClassId) (dI : Nat → Nat → Nat) (cB cI cJ cZ : ClassId) (a : Nat → Nat) (sz : Nat) (m_letters : Nat → Int32) (m_words : Int32) (m_wMany : Nat → Int32) (m_wLetters : Nat → Int32) (m_asks : Int32) (m_aWords : Nat → Int32) (m_dLetters : Nat → Int32) (m_dWords : Int32) (m_dMany : Nat → Int32) (m_dText : Nat → Int32) (m_dAsks : Int32) (m_dAsk : Nat → Int32) (m_tape : Nat → Int32) (m_taped : Int32) (m_pos : Int32) (m_from : Int32) (m_sort : Int32) (m_value : Int32) (m_fault : Int32) (m_wrongAt : Int32) (m_manyA : Int32) (m_rowA : Nat → Int32) (m_manyB : Int32) (m_rowB : Nat → Int32) (m_places : Int32) (m_xs : Nat → Int32) (m_ys : Nat → Int32) (m_heights : Nat → Int32) (m_ridges : Int32) (m_rx : Nat → Int32) (m_rHeight : Nat → Int32) (m_lanes : Nat → Int32) (m_sizes : Nat → Int32) (m_cells : Nat → Int32) (m_left : Nat → Int32) (m_calls : Int32) (m_cDay : Nat → Int32) (m_cHour : Nat → Int32) (m_cFrom : Nat → Int32) (m_cAsk : Nat → Int32) (m_cWord : Nat → Int32) (m_cOf : Nat → Int32) (m_isLie : Nat → Int32) (m_children : Int32) (m_learned : Nat → Int32) (m_group : Nat → Int32) (x1 : Int32) (x2 : Int32) (x3 : Int32) (x4 : Int32) (x5 : Int32) (r0 : Int32) (h : fX9_is n m_tape m_taped m_pos m_from m_sort x1 x2 x3 x4 x5 = some r0) : Met l yX9_is wsX9_is ({ frames := 1, cells := 0, slots := 0, locals := 21 }) (gP (dC, dI) (tyz cB cI cJ cZ) E_0 (wM cB cI cJ cZ a m_letters m_words m_wMany m_wLetters m_asks m_aWords m_dLetters m_dWords m_dMany m_dText m_dAsks m_dAsk m_tape m_taped m_pos m_from m_sort m_value m_fault m_wrongAt m_manyA m_rowA m_manyB m_rowB m_places m_xs m_ys m_heights m_ridges m_rx m_rHeight m_lanes m_sizes m_cells m_left m_calls m_cDay m_cHour m_cFrom m_cAsk m_cWord m_cOf m_isLie m_children m_learned m_group) sz [.ref (a 0), .int x1, .int x2, .int x3, .int x4, .int x5]) (gI (dC, dI) (tyz cB cI cJ cZ) (wM cB cI cJ cZ a m_letters m_words m_wMany m_wLetters m_asks m_aWords m_dLetters m_dWords m_dMany m_dText m_dAsks m_dAsk m_tape m_taped m_pos m_from m_sort m_value m_fault m_wrongAt m_manyA m_rowA m_manyB m_rowB m_places m_xs m_ys m_heights m_ridges m_rx m_rHeight m_lanes m_sizes m_cells m_left m_calls m_cDay m_cHour m_cFrom m_cAsk m_cWord m_cOf m_isLie m_children m_learned m_group) (va_A (wM cB cI cJ cZ a m_letters m_words m_wMany m_wLetters m_asks m_aWords m_dLetters m_dWords m_dMany m_dText m_dAsks m_dAsk m_tape m_taped m_pos m_from m_sort m_value m_fault m_wrongAt m_manyA m_rowA m_manyB m_rowB m_places m_xs m_ys m_heights m_ridges m_rx m_rHeight m_lanes m_sizes m_cells m_left m_calls m_cDay m_cHour m_cFrom m_cAsk m_cWord m_cOf m_isLie m_children m_learned m_group) sz) r0) 0 0 (va_A (wM cB cI cJ cZ a m_letters m_words m_wMany m_wLetters m_asks m_aWords m_dLetters m_dWords m_dMany m_dText m_dAsks m_dAsk m_tape m_taped m_pos m_from m_sort m_value m_fault m_wrongAt m_manyA m_rowA m_manyB m_rowB m_places m_xs m_ys m_heights m_ridges m_rx m_rHeight m_lanes m_sizes m_cells m_left m_calls m_cDay m_cHour m_cFrom m_cAsk m_cWord m_cOf m_isLie m_children m_learned m_group) sz) := by
  refine Met.ofW (cc := cX9_is) (maxL := 6) (ret := (some .boolean)) (by decide) rfl ?_
  intro p e s m args below meth c s₁ B hml hv
  obtain ⟨rfl, hsz, hP, hK, hD0, hE⟩ := hv
  have hx := B.exec
  have hb := B.bytes
  have hr := B.returns
  have hts := atoms_spec (ws := wsX9_is) B.pre
  have hown : s.vm.findClass RX9 = some m.cls := findClass_of_methodNamed B.named
  have hlocks := B.notSynchronized
  subst hsz
  have hD := hD0.self (sz := s.heap.size)
  have hA : ∀ q : Nat, s.heap.size ≤ q → va_A (wM cB cI cJ cZ a m_letters m_words m_wMany m_wLetters m_asks m_aWords m_dLetters m_dWords m_dMany m_dText m_dAsks m_dAsk m_tape m_taped m_pos m_from m_sort m_value m_fault m_wrongAt m_manyA m_rowA m_manyB m_rowB m_places m_xs m_ys m_heights m_ridges m_rx m_rHeight m_lanes m_sizes m_cells m_left m_calls m_cDay m_cHour m_cFrom m_cAsk m_cWord m_cOf m_isLie m_children m_learned m_group) s.heap.size q := fun q h => Or.inr h
  generalize va_A (wM cB cI cJ cZ a m_letters m_words m_wMany m_wLetters m_asks m_aWords m_dLetters m_dWords m_dMany m_dText m_dAsks m_dAsk m_tape m_taped m_pos m_from m_sort m_value m_fault m_wrongAt m_manyA m_rowA m_manyB m_rowB m_places m_xs m_ys m_heights m_ridges m_rx m_rHeight m_lanes m_sizes m_cells m_left m_calls m_cDay m_cHour m_cFrom m_cAsk m_cWord m_cOf m_isLie m_children m_learned m_group) s.heap.size = A at hD hA hE ⊢
  have hS : va_S A s.heap s.heap [] := va_S.rf
  have C0 : cxt cX9_is (some .boolean) 6 RX9 wsX9_is (dC, dI) (tyz cB cI cJ cZ) E_0 A p s m ([.ref (a 0), .int x1, .int x2, .int x3, .int x4, .int x5] : List Value).toArray meth c := ⟨hx, hb, hr, hml, hown, hts, hlocks, hK, hA, hE⟩
  have hl := lv_entry ([.ref (a 0), .int x1, .int x2, .int x3, .int x4, .int x5]) (n := 6) (Nat.le_of_ble_eq_true rfl)
  rw [lg_entry_eq]
  generalize (lg_sl ([.ref (a 0), .int x1, .int x2, .int x3, .int x4, .int x5]) ++ List.replicate (6 - (lg_sl ([.ref (a 0), .int x1, .int x2, .int x3, .int x4, .int x5])).length) Slot.unset).toArray = ls at hl ⊢
  have hl : lv_has ls 6 [(0, .ref (a 0)), (1, .int x1), (2, .int x2), (3, .int x3), (4, .int x4), (5, .int x5)] := hl
  have hw0 := hts (.fieldLink RX9 124 "WhistledWordsModel" "sort" "I") (by decide +kernel)
  have hw1 := hts (.fieldLink RX9 117 "WhistledWordsModel" "pos" "I") (by decide +kernel)
  have hw2 := hts (.fieldLink RX9 111 "WhistledWordsModel" "from" "I") (by decide +kernel)
  have hnX9 : ∀ w ∈ u_ws RX9 TX9 46, w ∈ wsX9_is := fun _ h => List.mem_cons_of_mem _ (List.mem_append_right _ h)
  unfold fX9_is at h
  refine lv_aload_n hx hb dX9_is_0 rfl (lv_at hl 0 rfl) ?_
  refine gM_mo_sort hx hb hts hnX9 hown hK hP hw0 dX9_is_1 ?_
  refine lv_iconst (v := 1) hx hb dX9_is_4 (by decide) ?_
  refine lv_icmp_ne (tgt := 86) hx hb dX9_is_5 (by decide) (fun c1 => ?_) (fun c1 => ?_)
  · have h := ie_use c1 h
    refine lv_iconst (v := 0) hx hb dX9_is_86 (by decide) ?_
    obtain er := rt1_use h
    exact re_z hx hb hr hlocks hK hP hD hS (Or.inl rfl) er dX9_is_87
  · have h := it_use c1 h
    refine lv_aload_n hx hb dX9_is_8 rfl (lv_at hl 0 rfl) ?_
    refine gM_mo_pos hx hb hts hnX9 hown hK hP hw1 dX9_is_9 ?_
    refine lv_aload_n hx hb dX9_is_12 rfl (lv_at hl 0 rfl) ?_
    refine gM_mo_from hx hb hts hnX9 hown hK hP hw2 dX9_is_13 ?_
    refine lv_isub hx hb dX9_is_16 ?_
    refine lv_iload_n hx hb dX9_is_17 rfl (lv_at hl 1 rfl) ?_
    refine lv_icmp_ne (tgt := 86) hx hb dX9_is_18 (by decide) (fun c2 => ?_) (fun c2 => ?_)
    · have h := ie_use c2 h
      refine lv_iconst (v := 0) hx hb dX9_is_86 (by decide) ?_
      obtain er := rt1_use h
      exact re_z hx hb hr hlocks hK hP hD hS (Or.inl rfl) er dX9_is_87
    · have h := it_use c2 h
      refine lv_aload_n hx hb dX9_is_21 rfl (lv_at hl 0 rfl) ?_
      refine lv_aload_n hx hb dX9_is_22 rfl (lv_at hl 0 rfl) ?_
      refine gM_mo_from hx hb hts hnX9 hown hK hP hw2 dX9_is_23 ?_
      obtain ⟨v3, hc, h⟩ := bd1_use h
      refine cv_i (As := [.int m_from]) (rest := []) ⟨hx, hb, hml, hown, hts⟩ (kX9_look l n dC dI cB cI cJ cZ a _ m_letters m_words m_wMany m_wLetters m_asks m_aWords m_dLetters m_dWords m_dMany m_dText m_dAsks m_dAsk m_tape m_taped m_pos m_from m_sort m_value m_fault m_wrongAt m_manyA m_rowA m_manyB m_rowB m_places m_xs m_ys m_heights m_ridges m_rx m_rHeight m_lanes m_sizes m_cells m_left m_calls m_cDay m_cHour m_cFrom m_cAsk m_cWord m_cOf m_isLie m_children m_learned m_group m_from v3 hc) (cwV 1 hts gX9_is_X9_look rfl rfl rfl (by decide +kernel) ⟨Nat.le_of_ble_eq_true rfl, Nat.le_of_ble_eq_true rfl⟩) EB_0 hE hK hP hD hS hA 0 (ci := 8) rfl rfl rfl rfl hl.1 rfl (Nat.le_of_ble_eq_true rfl) dX9_is_26 ⟨Nat.zero_le _, Nat.zero_le _⟩ (fun H locs hP hD hS => ?_)
      refine lv_iload_n hx hb dX9_is_29 rfl (lv_at hl 2 rfl) ?_
      refine lv_icmp_ne (tgt := 86) hx hb dX9_is_30 (by decide) (fun c4 => ?_) (fun c4 => ?_)
      · have h := ie_use c4 h
        refine lv_iconst (v := 0) hx hb dX9_is_86 (by decide) ?_
        obtain er := rt1_use h
        exact re_z hx hb hr hlocks hK hP hD hS (Or.inl rfl) er dX9_is_87
      · have h := it_use c4 h
        refine lv_aload_n hx hb dX9_is_33 rfl (lv_at hl 0 rfl) ?_
        refine lv_aload_n hx hb dX9_is_34 rfl (lv_at hl 0 rfl) ?_
        refine gM_mo_from hx hb hts hnX9 hown hK hP hw2 dX9_is_35 ?_
        refine lv_iconst (v := 1) hx hb dX9_is_38 (by decide) ?_
        refine lv_iadd hx hb dX9_is_39 ?_
        obtain ⟨v5, hc, h⟩ := bd1_use h
        refine cv_i (As := [.int (m_from + (1 : Int32))]) (rest := []) ⟨hx, hb, hml, hown, hts⟩ (kX9_look l n dC dI cB cI cJ cZ a _ m_letters m_words m_wMany m_wLetters m_asks m_aWords m_dLetters m_dWords m_dMany m_dText m_dAsks m_dAsk m_tape m_taped m_pos m_from m_sort m_value m_fault m_wrongAt m_manyA m_rowA m_manyB m_rowB m_places m_xs m_ys m_heights m_ridges m_rx m_rHeight m_lanes m_sizes m_cells m_left m_calls m_cDay m_cHour m_cFrom m_cAsk m_cWord m_cOf m_isLie m_children m_learned m_group (m_from + (1 : Int32)) v5 hc) (cwV 1 hts gX9_is_X9_look rfl rfl rfl (by decide +kernel) ⟨Nat.le_of_ble_eq_true rfl, Nat.le_of_ble_eq_true rfl⟩) EB_0 hE hK hP hD hS hA 0 (ci := 8) rfl rfl rfl rfl hl.1 rfl (Nat.le_of_ble_eq_true rfl) dX9_is_40 ⟨Nat.zero_le _, Nat.zero_le _⟩ (fun H locs hP hD hS => ?_)
        refine lv_iload_n hx hb dX9_is_43 rfl (lv_at hl 3 rfl) ?_
        refine lv_icmp_ne (tgt := 86) hx hb dX9_is_44 (by decide) (fun c6 => ?_) (fun c6 => ?_)
        · have h := ie_use c6 h
          refine lv_iconst (v := 0) hx hb dX9_is_86 (by decide) ?_
          obtain er := rt1_use h
          exact re_z hx hb hr hlocks hK hP hD hS (Or.inl rfl) er dX9_is_87
        · have h := it_use c6 h
          refine lv_aload_n hx hb dX9_is_47 rfl (lv_at hl 0 rfl) ?_
          refine lv_aload_n hx hb dX9_is_48 rfl (lv_at hl 0 rfl) ?_
          refine gM_mo_from hx hb hts hnX9 hown hK hP hw2 dX9_is_49 ?_
          refine lv_iconst (v := 2) hx hb dX9_is_52 (by decide) ?_
          refine lv_iadd hx hb dX9_is_53 ?_
          obtain ⟨v7, hc, h⟩ := bd1_use h
          refine cv_i (As := [.int (m_from + (2 : Int32))]) (rest := []) ⟨hx, hb, hml, hown, hts⟩ (kX9_look l n dC dI cB cI cJ cZ a _ m_letters m_words m_wMany m_wLetters m_asks m_aWords m_dLetters m_dWords m_dMany m_dText m_dAsks m_dAsk m_tape m_taped m_pos m_from m_sort m_value m_fault m_wrongAt m_manyA m_rowA m_manyB m_rowB m_places m_xs m_ys m_heights m_ridges m_rx m_rHeight m_lanes m_sizes m_cells m_left m_calls m_cDay m_cHour m_cFrom m_cAsk m_cWord m_cOf m_isLie m_children m_learned m_group (m_from + (2 : Int32)) v7 hc) (cwV 1 hts gX9_is_X9_look rfl rfl rfl (by decide +kernel) ⟨Nat.le_of_ble_eq_true rfl, Nat.le_of_ble_eq_true rfl⟩) EB_0 hE hK hP hD hS hA 0 (ci := 8) rfl rfl rfl rfl hl.1 rfl (Nat.le_of_ble_eq_true rfl) dX9_is_54 ⟨Nat.zero_le _, Nat.zero_le _⟩ (fun H locs hP hD hS => ?_)
          refine lv_iload hx hb dX9_is_57 (lv_at hl 4 rfl) ?_
          refine lv_icmp_ne (tgt := 86) hx hb dX9_is_59 (by decide) (fun c8 => ?_) (fun c8 => ?_)
          · have h := ie_use c8 h
            refine lv_iconst (v := 0) hx hb dX9_is_86 (by decide) ?_
            obtain er := rt1_use h
            exact re_z hx hb hr hlocks hK hP hD hS (Or.inl rfl) er dX9_is_87
          · have h := it_use c8 h
            refine lv_iload_n hx hb dX9_is_62 rfl (lv_at hl 1 rfl) ?_
            refine lv_iconst (v := 4) hx hb dX9_is_63 (by decide) ?_
            refine lv_icmp_lt (tgt := 82) hx hb dX9_is_64 (by decide) (fun c9 => ?_) (fun c9 => ?_)
            · have h := it_use c9 h
              refine lv_iconst (v := 1) hx hb dX9_is_82 (by decide) ?_
              refine lv_goto (tgt := 87) hx hb dX9_is_83 (by decide) ?_
              obtain er := rt1_use h
              exact re_z hx hb hr hlocks hK hP hD hS (Or.inr rfl) er dX9_is_87
            · have h := ie_use c9 h
              refine lv_aload_n hx hb dX9_is_67 rfl (lv_at hl 0 rfl) ?_
              refine lv_aload_n hx hb dX9_is_68 rfl (lv_at hl 0 rfl) ?_
              refine gM_mo_from hx hb hts hnX9 hown hK hP hw2 dX9_is_69 ?_
              refine lv_iconst (v := 3) hx hb dX9_is_72 (by decide) ?_
              refine lv_iadd hx hb dX9_is_73 ?_
              obtain ⟨v10, hc, h⟩ := bd1_use h
              refine cv_i (As := [.int (m_from + (3 : Int32))]) (rest := []) ⟨hx, hb, hml, hown, hts⟩ (kX9_look l n dC dI cB cI cJ cZ a _ m_letters m_words m_wMany m_wLetters m_asks m_aWords m_dLetters m_dWords m_dMany m_dText m_dAsks m_dAsk m_tape m_taped m_pos m_from m_sort m_value m_fault m_wrongAt m_manyA m_rowA m_manyB m_rowB m_places m_xs m_ys m_heights m_ridges m_rx m_rHeight m_lanes m_sizes m_cells m_left m_calls m_cDay m_cHour m_cFrom m_cAsk m_cWord m_cOf m_isLie m_children m_learned m_group (m_from + (3 : Int32)) v10 hc) (cwV 1 hts gX9_is_X9_look rfl rfl rfl (by decide +kernel) ⟨Nat.le_of_ble_eq_true rfl, Nat.le_of_ble_eq_true rfl⟩) EB_0 hE hK hP hD hS hA 0 (ci := 8) rfl rfl rfl rfl hl.1 rfl (Nat.le_of_ble_eq_true rfl) dX9_is_74 ⟨Nat.zero_le _, Nat.zero_le _⟩ (fun H locs hP hD hS => ?_)
              refine lv_iload hx hb dX9_is_77 (lv_at hl 5 rfl) ?_
              refine lv_icmp_ne (tgt := 86) hx hb dX9_is_79 (by decide) (fun c11 => ?_) (fun c11 => ?_)
              · have h := ie_use c11 h
                refine lv_iconst (v := 0) hx hb dX9_is_86 (by decide) ?_
                obtain er := rt1_use h
                exact re_z hx hb hr hlocks hK hP hD hS (Or.inl rfl) er dX9_is_87
              · have h := it_use c11 h
                refine lv_iconst (v := 1) hx hb dX9_is_82 (by decide) ?_
                refine lv_goto (tgt := 87) hx hb dX9_is_83 (by decide) ?_
                obtain er := rt1_use h
                exact re_z hx hb hr hlocks hK hP hD hS (Or.inr rfl) er dX9_is_87

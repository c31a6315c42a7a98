set_option maxHeartbeats 4000000 in
set_option maxRecDepth 100000 in
theorem kX9_lineNow_p69 {p : Program} {l : Launch} {e : Env} {s : State} {m : MethodId} {args : Array Value} {below : List Frame} {meth : Method} {c : Code} {A : Nat → Prop} (dC : Nat → ClassId) (dI : Nat → Nat → Nat) (cB cI cJ cZ : ClassId) (a : Nat → Nat) (C0 : cxt cX9_lineNow (some .int) 1 RX9 wsX9_lineNow (dC, dI) (tyz cB cI cJ cZ) E_0 A p s m args meth c) (n : Nat) (m_letters : Nat → Int32) (m_words : Int32) (m_wMany : Nat → Int32) (m_wLetters : Nat → Int32) (m_asks : Int32) (m_aWords : Nat → Int32) (m_dLetters : Nat → Int32) (m_dWords : Int32) (m_dMany : Nat → Int32) (m_dText : Nat → Int32) (m_dAsks : Int32) (m_dAsk : Nat → Int32) (m_tape : Nat → Int32) (m_taped : Int32) (m_pos : Int32) (m_from : Int32) (m_sort : Int32) (m_value : Int32) (m_fault : Int32) (m_wrongAt : Int32) (m_manyA : Int32) (m_rowA : Nat → Int32) (m_manyB : Int32) (m_rowB : Nat → Int32) (m_places : Int32) (m_xs : Nat → Int32) (m_ys : Nat → Int32) (m_heights : Nat → Int32) (m_ridges : Int32) (m_rx : Nat → Int32) (m_rHeight : Nat → Int32) (m_lanes : Nat → Int32) (m_sizes : Nat → Int32) (m_cells : Nat → Int32) (m_left : Nat → Int32) (m_calls : Int32) (m_cDay : Nat → Int32) (m_cHour : Nat → Int32) (m_cFrom : Nat → Int32) (m_cAsk : Nat → Int32) (m_cWord : Nat → Int32) (m_cOf : Nat → Int32) (m_isLie : Nat → Int32) (m_children : Int32) (m_learned : Nat → Int32) (m_group : Nat → Int32)    (r0 : Int32)  (H : Heap) (locs : List Loc) (ls : Array Slot) : fX9_lineNow_p69 n m_tape m_taped m_pos m_from m_sort = some r0 → va_P (dC, dI) vwCl (wM cB cI cJ cZ a m_letters m_words m_wMany m_wLetters m_asks m_aWords m_dLetters m_dWords m_dMany m_dText m_dAsks m_dAsk m_tape m_taped m_pos m_from m_sort m_value m_fault m_wrongAt m_manyA m_rowA m_manyB m_rowB m_places m_xs m_ys m_heights m_ridges m_rx m_rHeight m_lanes m_sizes m_cells m_left m_calls m_cDay m_cHour m_cFrom m_cAsk m_cWord m_cOf m_isLie m_children m_learned m_group) H → va_D A (wM cB cI cJ cZ a m_letters m_words m_wMany m_wLetters m_asks m_aWords m_dLetters m_dWords m_dMany m_dText m_dAsks m_dAsk m_tape m_taped m_pos m_from m_sort m_value m_fault m_wrongAt m_manyA m_rowA m_manyB m_rowB m_places m_xs m_ys m_heights m_ridges m_rx m_rHeight m_lanes m_sizes m_cells m_left m_calls m_cDay m_cHour m_cFrom m_cAsk m_cWord m_cOf m_isLie m_children m_learned m_group) → va_S A s.heap H locs → lv_has ls 1 [(0, .ref (a 0))] → W p l e { frames := 2, cells := 0, slots := 0, locals := 46 } s m args below meth c H locs 0 0 (MQ below (gI (dC, dI) (tyz cB cI cJ cZ) (wM cB cI cJ cZ a m_letters m_words m_wMany m_wLetters m_asks m_aWords m_dLetters m_dWords m_dMany m_dText m_dAsks m_dAsk m_tape m_taped m_pos m_from m_sort m_value m_fault m_wrongAt m_manyA m_rowA m_manyB m_rowB m_places m_xs m_ys m_heights m_ridges m_rx m_rHeight m_lanes m_sizes m_cells m_left m_calls m_cDay m_cHour m_cFrom m_cAsk m_cWord m_cOf m_isLie m_children m_learned m_group) A r0) args s 0 0 A) (F0 m 69 ls []) := by
  intro h hP hD hS hl
  obtain ⟨hx, hb, hr, hml, hown, hts, hlocks, hK, hA, hE⟩ := id C0
  unfold fX9_lineNow_p69 at h
  refine lv_aload_n hx hb dX9_lineNow_69 rfl (lv_at hl 0 rfl) ?_
  refine lv_iconst (v := 4) hx hb dX9_lineNow_70 (by decide) ?_
  refine lv_bipush (v := 109) hx hb dX9_lineNow_71 (by decide) ?_
  refine lv_bipush (v := 117) hx hb dX9_lineNow_73 (by decide) ?_
  refine lv_bipush (v := 116) hx hb dX9_lineNow_75 (by decide) ?_
  refine lv_bipush (v := 101) hx hb dX9_lineNow_77 (by decide) ?_
  obtain ⟨v1, hc, h⟩ := bd1_use h
  refine cv_i (As := [.int (4 : Int32), .int (109 : Int32), .int (117 : Int32), .int (116 : Int32), .int (101 : Int32)]) (rest := []) ⟨hx, hb, hml, hown, hts⟩ (kX9_is l n dC dI cB cI cJ cZ a _ m_letters m_words m_wMany m_wLetters m_asks m_aWords m_dLetters m_dWords m_dMany m_dText m_dAsks m_dAsk m_tape m_taped m_pos m_from m_sort m_value m_fault m_wrongAt m_manyA m_rowA m_manyB m_rowB m_places m_xs m_ys m_heights m_ridges m_rx m_rHeight m_lanes m_sizes m_cells m_left m_calls m_cDay m_cHour m_cFrom m_cAsk m_cWord m_cOf m_isLie m_children m_learned m_group (4 : Int32) (109 : Int32) (117 : Int32) (116 : Int32) (101 : Int32) v1 hc) (cwV 5 hts gX9_lineNow_X9_is rfl rfl rfl (by decide +kernel) ⟨Nat.le_of_ble_eq_true rfl, Nat.le_of_ble_eq_true rfl⟩) EB_0 hE hK hP hD hS hA 0 (ci := 8) rfl rfl rfl rfl hl.1 rfl (Nat.le_of_ble_eq_true rfl) dX9_lineNow_79 ⟨Nat.zero_le _, Nat.zero_le _⟩ (fun H locs hP hD hS => ?_)
  refine lv_if_eq (tgt := 87) hx hb dX9_lineNow_82 (by decide) (fun c2 => ?_) (fun c2 => ?_)
  · have h := it_use c2 h
    refine lv_aload_n hx hb dX9_lineNow_87 rfl (lv_at hl 0 rfl) ?_
    refine lv_iconst (v := 4) hx hb dX9_lineNow_88 (by decide) ?_
    refine lv_bipush (v := 119) hx hb dX9_lineNow_89 (by decide) ?_
    refine lv_bipush (v := 111) hx hb dX9_lineNow_91 (by decide) ?_
    refine lv_bipush (v := 114) hx hb dX9_lineNow_93 (by decide) ?_
    refine lv_bipush (v := 100) hx hb dX9_lineNow_95 (by decide) ?_
    obtain ⟨v3, hc, h⟩ := bd1_use h
    refine cv_i (As := [.int (4 : Int32), .int (119 : Int32), .int (111 : Int32), .int (114 : Int32), .int (100 : Int32)]) (rest := []) ⟨hx, hb, hml, hown, hts⟩ (kX9_is l n dC dI cB cI cJ cZ a _ m_letters m_words m_wMany m_wLetters m_asks m_aWords m_dLetters m_dWords m_dMany m_dText m_dAsks m_dAsk m_tape m_taped m_pos m_from m_sort m_value m_fault m_wrongAt m_manyA m_rowA m_manyB m_rowB m_places m_xs m_ys m_heights m_ridges m_rx m_rHeight m_lanes m_sizes m_cells m_left m_calls m_cDay m_cHour m_cFrom m_cAsk m_cWord m_cOf m_isLie m_children m_learned m_group (4 : Int32) (119 : Int32) (111 : Int32) (114 : Int32) (100 : Int32) v3 hc) (cwV 5 hts gX9_lineNow_X9_is rfl rfl rfl (by decide +kernel) ⟨Nat.le_of_ble_eq_true rfl, Nat.le_of_ble_eq_true rfl⟩) EB_0 hE hK hP hD hS hA 0 (ci := 8) rfl rfl rfl rfl hl.1 rfl (Nat.le_of_ble_eq_true rfl) dX9_lineNow_97 ⟨Nat.zero_le _, Nat.zero_le _⟩ (fun H locs hP hD hS => ?_)
    refine lv_if_eq (tgt := 107) hx hb dX9_lineNow_100 (by decide) (fun c4 => ?_) (fun c4 => ?_)
    · have h := it_use c4 h
      refine lv_aload_n hx hb dX9_lineNow_107 rfl (lv_at hl 0 rfl) ?_
      refine lv_iconst (v := 3) hx hb dX9_lineNow_108 (by decide) ?_
      refine lv_bipush (v := 97) hx hb dX9_lineNow_109 (by decide) ?_
      refine lv_bipush (v := 115) hx hb dX9_lineNow_111 (by decide) ?_
      refine lv_bipush (v := 107) hx hb dX9_lineNow_113 (by decide) ?_
      refine lv_iconst (v := 0) hx hb dX9_lineNow_115 (by decide) ?_
      obtain ⟨v5, hc, h⟩ := bd1_use h
      refine cv_i (As := [.int (3 : Int32), .int (97 : Int32), .int (115 : Int32), .int (107 : Int32), .int (0 : Int32)]) (rest := []) ⟨hx, hb, hml, hown, hts⟩ (kX9_is l n dC dI cB cI cJ cZ a _ m_letters m_words m_wMany m_wLetters m_asks m_aWords m_dLetters m_dWords m_dMany m_dText m_dAsks m_dAsk m_tape m_taped m_pos m_from m_sort m_value m_fault m_wrongAt m_manyA m_rowA m_manyB m_rowB m_places m_xs m_ys m_heights m_ridges m_rx m_rHeight m_lanes m_sizes m_cells m_left m_calls m_cDay m_cHour m_cFrom m_cAsk m_cWord m_cOf m_isLie m_children m_learned m_group (3 : Int32) (97 : Int32) (115 : Int32) (107 : Int32) (0 : Int32) v5 hc) (cwV 5 hts gX9_lineNow_X9_is rfl rfl rfl (by decide +kernel) ⟨Nat.le_of_ble_eq_true rfl, Nat.le_of_ble_eq_true rfl⟩) EB_0 hE hK hP hD hS hA 0 (ci := 8) rfl rfl rfl rfl hl.1 rfl (Nat.le_of_ble_eq_true rfl) dX9_lineNow_116 ⟨Nat.zero_le _, Nat.zero_le _⟩ (fun H locs hP hD hS => ?_)
      refine lv_if_eq (tgt := 126) hx hb dX9_lineNow_119 (by decide) (fun c6 => ?_) (fun c6 => ?_)
      · have h := it_use c6 h
        refine lv_bipush (v := -4) hx hb dX9_lineNow_126 (by decide) ?_
        obtain er := rt1_use h
        exact re_i hx hb hr hlocks hK hP hD hS er dX9_lineNow_128
      · have h := ie_use c6 h
        refine lv_iconst (v := 5) hx hb dX9_lineNow_122 (by decide) ?_
        refine lv_goto (tgt := 128) hx hb dX9_lineNow_123 (by decide) ?_
        obtain er := rt1_use h
        exact re_i hx hb hr hlocks hK hP hD hS er dX9_lineNow_128
    · have h := ie_use c4 h
      refine lv_iconst (v := 4) hx hb dX9_lineNow_103 (by decide) ?_
      refine lv_goto (tgt := 128) hx hb dX9_lineNow_104 (by decide) ?_
      obtain er := rt1_use h
      exact re_i hx hb hr hlocks hK hP hD hS er dX9_lineNow_128
  · have h := ie_use c2 h
    refine lv_iconst (v := 3) hx hb dX9_lineNow_85 (by decide) ?_
    obtain er := rt1_use h
    exact re_i hx hb hr hlocks hK hP hD hS er dX9_lineNow_86
set_option maxHeartbeats 4000000 in
set_option maxRecDepth 100000 in
theorem kX9_lineNow (l : Launch) (n : Nat) (dC : Nat → ClassId) (dI : Nat → Nat → Nat) (cB cI cJ cZ : ClassId) (a : Nat → Nat) (sz : Nat) (m_letters : Nat → Int32) (m_words : Int32) (m_wMany : Nat → Int32) (m_wLetters : Nat → Int32) (m_asks : Int32) (m_aWords : Nat → Int32) (m_dLetters : Nat → Int32) (m_dWords : Int32) (m_dMany : Nat → Int32) (m_dText : Nat → Int32) (m_dAsks : Int32) (m_dAsk : Nat → Int32) (m_tape : Nat → Int32) (m_taped : Int32) (m_pos : Int32) (m_from : Int32) (m_sort : Int32) (m_value : Int32) (m_fault : Int32) (m_wrongAt : Int32) (m_manyA : Int32) (m_rowA : Nat → Int32) (m_manyB : Int32) (m_rowB : Nat → Int32) (m_places : Int32) (m_xs : Nat → Int32) (m_ys : Nat → Int32) (m_heights : Nat → Int32) (m_ridges : Int32) (m_rx : Nat → Int32) (m_rHeight : Nat → Int32) (m_lanes : Nat → Int32) (m_sizes : Nat → Int32) (m_cells : Nat → Int32) (m_left : Nat → Int32) (m_calls : Int32) (m_cDay : Nat → Int32) (m_cHour : Nat → Int32) (m_cFrom : Nat → Int32) (m_cAsk : Nat → Int32) (m_cWord : Nat → Int32) (m_cOf : Nat → Int32) (m_isLie : Nat → Int32) (m_children : Int32) (m_learned : Nat → Int32) (m_group : Nat → Int32)  (r0 : Int32) (h : fX9_lineNow n m_tape m_taped m_pos m_from m_sort = some r0) : Met l yX9_lineNow wsX9_lineNow ({ frames := 2, cells := 0, slots := 0, locals := 46 }) (gP (dC, dI) (tyz cB cI cJ cZ) E_0 (wM cB cI cJ cZ a m_letters m_words m_wMany m_wLetters m_asks m_aWords m_dLetters m_dWords m_dMany m_dText m_dAsks m_dAsk m_tape m_taped m_pos m_from m_sort m_value m_fault m_wrongAt m_manyA m_rowA m_manyB m_rowB m_places m_xs m_ys m_heights m_ridges m_rx m_rHeight m_lanes m_sizes m_cells m_left m_calls m_cDay m_cHour m_cFrom m_cAsk m_cWord m_cOf m_isLie m_children m_learned m_group) sz [.ref (a 0)]) (gI (dC, dI) (tyz cB cI cJ cZ) (wM cB cI cJ cZ a m_letters m_words m_wMany m_wLetters m_asks m_aWords m_dLetters m_dWords m_dMany m_dText m_dAsks m_dAsk m_tape m_taped m_pos m_from m_sort m_value m_fault m_wrongAt m_manyA m_rowA m_manyB m_rowB m_places m_xs m_ys m_heights m_ridges m_rx m_rHeight m_lanes m_sizes m_cells m_left m_calls m_cDay m_cHour m_cFrom m_cAsk m_cWord m_cOf m_isLie m_children m_learned m_group) (va_A (wM cB cI cJ cZ a m_letters m_words m_wMany m_wLetters m_asks m_aWords m_dLetters m_dWords m_dMany m_dText m_dAsks m_dAsk m_tape m_taped m_pos m_from m_sort m_value m_fault m_wrongAt m_manyA m_rowA m_manyB m_rowB m_places m_xs m_ys m_heights m_ridges m_rx m_rHeight m_lanes m_sizes m_cells m_left m_calls m_cDay m_cHour m_cFrom m_cAsk m_cWord m_cOf m_isLie m_children m_learned m_group) sz) r0) 0 0 (va_A (wM cB cI cJ cZ a m_letters m_words m_wMany m_wLetters m_asks m_aWords m_dLetters m_dWords m_dMany m_dText m_dAsks m_dAsk m_tape m_taped m_pos m_from m_sort m_value m_fault m_wrongAt m_manyA m_rowA m_manyB m_rowB m_places m_xs m_ys m_heights m_ridges m_rx m_rHeight m_lanes m_sizes m_cells m_left m_calls m_cDay m_cHour m_cFrom m_cAsk m_cWord m_cOf m_isLie m_children m_learned m_group) sz) := by
  refine Met.ofW (cc := cX9_lineNow) (maxL := 1) (ret := (some .int)) (by decide) rfl ?_
  intro p e s m args below meth c s₁ B hml hv
  obtain ⟨rfl, hsz, hP, hK, hD0, hE⟩ := hv
  have hx := B.exec
  have hb := B.bytes
  have hr := B.returns
  have hts := atoms_spec (ws := wsX9_lineNow) B.pre
  have hown : s.vm.findClass RX9 = some m.cls := findClass_of_methodNamed B.named
  have hlocks := B.notSynchronized
  subst hsz
  have hD := hD0.self (sz := s.heap.size)
  have hA : ∀ q : Nat, s.heap.size ≤ q → va_A (wM cB cI cJ cZ a m_letters m_words m_wMany m_wLetters m_asks m_aWords m_dLetters m_dWords m_dMany m_dText m_dAsks m_dAsk m_tape m_taped m_pos m_from m_sort m_value m_fault m_wrongAt m_manyA m_rowA m_manyB m_rowB m_places m_xs m_ys m_heights m_ridges m_rx m_rHeight m_lanes m_sizes m_cells m_left m_calls m_cDay m_cHour m_cFrom m_cAsk m_cWord m_cOf m_isLie m_children m_learned m_group) s.heap.size q := fun q h => Or.inr h
  generalize va_A (wM cB cI cJ cZ a m_letters m_words m_wMany m_wLetters m_asks m_aWords m_dLetters m_dWords m_dMany m_dText m_dAsks m_dAsk m_tape m_taped m_pos m_from m_sort m_value m_fault m_wrongAt m_manyA m_rowA m_manyB m_rowB m_places m_xs m_ys m_heights m_ridges m_rx m_rHeight m_lanes m_sizes m_cells m_left m_calls m_cDay m_cHour m_cFrom m_cAsk m_cWord m_cOf m_isLie m_children m_learned m_group) s.heap.size = A at hD hA hE ⊢
  have hS : va_S A s.heap s.heap [] := va_S.rf
  have C0 : cxt cX9_lineNow (some .int) 1 RX9 wsX9_lineNow (dC, dI) (tyz cB cI cJ cZ) E_0 A p s m ([.ref (a 0)] : List Value).toArray meth c := ⟨hx, hb, hr, hml, hown, hts, hlocks, hK, hA, hE⟩
  have hl := lv_entry ([.ref (a 0)]) (n := 1) (Nat.le_of_ble_eq_true rfl)
  rw [lg_entry_eq]
  generalize (lg_sl ([.ref (a 0)]) ++ List.replicate (1 - (lg_sl ([.ref (a 0)])).length) Slot.unset).toArray = ls at hl ⊢
  have hl : lv_has ls 1 [(0, .ref (a 0))] := hl
  have hw0 := hts (.fieldLink RX9 111 "WhistledWordsModel" "from" "I") (by decide +kernel)
  have hnX9 : ∀ w ∈ u_ws RX9 TX9 46, w ∈ wsX9_lineNow := fun _ h => List.mem_cons_of_mem _ (List.mem_append_right _ h)
  unfold fX9_lineNow at h
  refine lv_aload_n hx hb dX9_lineNow_0 rfl (lv_at hl 0 rfl) ?_
  refine lv_iconst (v := 4) hx hb dX9_lineNow_1 (by decide) ?_
  refine lv_bipush (v := 104) hx hb dX9_lineNow_2 (by decide) ?_
  refine lv_bipush (v := 105) hx hb dX9_lineNow_4 (by decide) ?_
  refine lv_bipush (v := 103) hx hb dX9_lineNow_6 (by decide) ?_
  refine lv_bipush (v := 104) hx hb dX9_lineNow_8 (by decide) ?_
  obtain ⟨v1, hc, h⟩ := bd1_use h
  refine cv_i (As := [.int (4 : Int32), .int (104 : Int32), .int (105 : Int32), .int (103 : Int32), .int (104 : Int32)]) (rest := []) ⟨hx, hb, hml, hown, hts⟩ (kX9_is l n dC dI cB cI cJ cZ a _ m_letters m_words m_wMany m_wLetters m_asks m_aWords m_dLetters m_dWords m_dMany m_dText m_dAsks m_dAsk m_tape m_taped m_pos m_from m_sort m_value m_fault m_wrongAt m_manyA m_rowA m_manyB m_rowB m_places m_xs m_ys m_heights m_ridges m_rx m_rHeight m_lanes m_sizes m_cells m_left m_calls m_cDay m_cHour m_cFrom m_cAsk m_cWord m_cOf m_isLie m_children m_learned m_group (4 : Int32) (104 : Int32) (105 : Int32) (103 : Int32) (104 : Int32) v1 hc) (cwV 5 hts gX9_lineNow_X9_is rfl rfl rfl (by decide +kernel) ⟨Nat.le_of_ble_eq_true rfl, Nat.le_of_ble_eq_true rfl⟩) EB_0 hE hK hP hD hS hA 0 (ci := 8) rfl rfl rfl rfl hl.1 rfl (Nat.le_of_ble_eq_true rfl) dX9_lineNow_10 ⟨Nat.zero_le _, Nat.zero_le _⟩ (fun H locs hP hD hS => ?_)
  refine lv_if_eq (tgt := 18) hx hb dX9_lineNow_13 (by decide) (fun c2 => ?_) (fun c2 => ?_)
  · have h := it_use c2 h
    refine lv_aload_n hx hb dX9_lineNow_18 rfl (lv_at hl 0 rfl) ?_
    refine lv_iconst (v := 4) hx hb dX9_lineNow_19 (by decide) ?_
    refine lv_bipush (v := 115) hx hb dX9_lineNow_20 (by decide) ?_
    refine lv_bipush (v := 116) hx hb dX9_lineNow_22 (by decide) ?_
    refine lv_bipush (v := 111) hx hb dX9_lineNow_24 (by decide) ?_
    refine lv_bipush (v := 112) hx hb dX9_lineNow_26 (by decide) ?_
    obtain ⟨v3, hc, h⟩ := bd1_use h
    refine cv_i (As := [.int (4 : Int32), .int (115 : Int32), .int (116 : Int32), .int (111 : Int32), .int (112 : Int32)]) (rest := []) ⟨hx, hb, hml, hown, hts⟩ (kX9_is l n dC dI cB cI cJ cZ a _ m_letters m_words m_wMany m_wLetters m_asks m_aWords m_dLetters m_dWords m_dMany m_dText m_dAsks m_dAsk m_tape m_taped m_pos m_from m_sort m_value m_fault m_wrongAt m_manyA m_rowA m_manyB m_rowB m_places m_xs m_ys m_heights m_ridges m_rx m_rHeight m_lanes m_sizes m_cells m_left m_calls m_cDay m_cHour m_cFrom m_cAsk m_cWord m_cOf m_isLie m_children m_learned m_group (4 : Int32) (115 : Int32) (116 : Int32) (111 : Int32) (112 : Int32) v3 hc) (cwV 5 hts gX9_lineNow_X9_is rfl rfl rfl (by decide +kernel) ⟨Nat.le_of_ble_eq_true rfl, Nat.le_of_ble_eq_true rfl⟩) EB_0 hE hK hP hD hS hA 0 (ci := 8) rfl rfl rfl rfl hl.1 rfl (Nat.le_of_ble_eq_true rfl) dX9_lineNow_28 ⟨Nat.zero_le _, Nat.zero_le _⟩ (fun H locs hP hD hS => ?_)
    refine lv_if_eq (tgt := 36) hx hb dX9_lineNow_31 (by decide) (fun c4 => ?_) (fun c4 => ?_)
    · have h := it_use c4 h
      refine lv_aload_n hx hb dX9_lineNow_36 rfl (lv_at hl 0 rfl) ?_
      refine lv_iconst (v := 5) hx hb dX9_lineNow_37 (by decide) ?_
      refine lv_bipush (v := 103) hx hb dX9_lineNow_38 (by decide) ?_
      refine lv_bipush (v := 108) hx hb dX9_lineNow_40 (by decide) ?_
      refine lv_bipush (v := 105) hx hb dX9_lineNow_42 (by decide) ?_
      refine lv_bipush (v := 100) hx hb dX9_lineNow_44 (by decide) ?_
      obtain ⟨v5, hc, h⟩ := bd1_use h
      refine cv_i (As := [.int (5 : Int32), .int (103 : Int32), .int (108 : Int32), .int (105 : Int32), .int (100 : Int32)]) (rest := []) ⟨hx, hb, hml, hown, hts⟩ (kX9_is l n dC dI cB cI cJ cZ a _ m_letters m_words m_wMany m_wLetters m_asks m_aWords m_dLetters m_dWords m_dMany m_dText m_dAsks m_dAsk m_tape m_taped m_pos m_from m_sort m_value m_fault m_wrongAt m_manyA m_rowA m_manyB m_rowB m_places m_xs m_ys m_heights m_ridges m_rx m_rHeight m_lanes m_sizes m_cells m_left m_calls m_cDay m_cHour m_cFrom m_cAsk m_cWord m_cOf m_isLie m_children m_learned m_group (5 : Int32) (103 : Int32) (108 : Int32) (105 : Int32) (100 : Int32) v5 hc) (cwV 5 hts gX9_lineNow_X9_is rfl rfl rfl (by decide +kernel) ⟨Nat.le_of_ble_eq_true rfl, Nat.le_of_ble_eq_true rfl⟩) EB_0 hE hK hP hD hS hA 0 (ci := 8) rfl rfl rfl rfl hl.1 rfl (Nat.le_of_ble_eq_true rfl) dX9_lineNow_46 ⟨Nat.zero_le _, Nat.zero_le _⟩ (fun H locs hP hD hS => ?_)
      refine lv_if_eq (tgt := 69) hx hb dX9_lineNow_49 (by decide) (fun c6 => ?_) (fun c6 => ?_)
      · have h := it_use c6 h
        exact kX9_lineNow_p69 dC dI cB cI cJ cZ a C0 n m_letters m_words m_wMany m_wLetters m_asks m_aWords m_dLetters m_dWords m_dMany m_dText m_dAsks m_dAsk m_tape m_taped m_pos m_from m_sort m_value m_fault m_wrongAt m_manyA m_rowA m_manyB m_rowB m_places m_xs m_ys m_heights m_ridges m_rx m_rHeight m_lanes m_sizes m_cells m_left m_calls m_cDay m_cHour m_cFrom m_cAsk m_cWord m_cOf m_isLie m_children m_learned m_group   r0  _ _ ls h hP hD hS (lv_sub hl [0] rfl)
      · have h := ie_use c6 h
        refine lv_aload_n hx hb dX9_lineNow_52 rfl (lv_at hl 0 rfl) ?_
        refine lv_aload_n hx hb dX9_lineNow_53 rfl (lv_at hl 0 rfl) ?_
        refine gM_mo_from hx hb hts hnX9 hown hK hP hw0 dX9_lineNow_54 ?_
        refine lv_iconst (v := 4) hx hb dX9_lineNow_57 (by decide) ?_
        refine lv_iadd hx hb dX9_lineNow_58 ?_
        obtain ⟨v7, hc, h⟩ := bd1_use h
        refine cv_i (As := [.int (m_from + (4 : Int32))]) (rest := []) ⟨hx, hb, hml, hown, hts⟩ (kX9_look l n dC dI cB cI cJ cZ a _ m_letters m_words m_wMany m_wLetters m_asks m_aWords m_dLetters m_dWords m_dMany m_dText m_dAsks m_dAsk m_tape m_taped m_pos m_from m_sort m_value m_fault m_wrongAt m_manyA m_rowA m_manyB m_rowB m_places m_xs m_ys m_heights m_ridges m_rx m_rHeight m_lanes m_sizes m_cells m_left m_calls m_cDay m_cHour m_cFrom m_cAsk m_cWord m_cOf m_isLie m_children m_learned m_group (m_from + (4 : Int32)) v7 hc) (cwV 1 hts gX9_lineNow_X9_look rfl rfl rfl (by decide +kernel) ⟨Nat.le_of_ble_eq_true rfl, Nat.le_of_ble_eq_true rfl⟩) EB_0 hE hK hP hD hS hA 0 (ci := 8) rfl rfl rfl rfl hl.1 rfl (Nat.le_of_ble_eq_true rfl) dX9_lineNow_59 ⟨Nat.zero_le _, Nat.zero_le _⟩ (fun H locs hP hD hS => ?_)
        refine lv_bipush (v := 101) hx hb dX9_lineNow_62 (by decide) ?_
        refine lv_icmp_ne (tgt := 69) hx hb dX9_lineNow_64 (by decide) (fun c8 => ?_) (fun c8 => ?_)
        · have h := ie_use c8 h
          exact kX9_lineNow_p69 dC dI cB cI cJ cZ a C0 n m_letters m_words m_wMany m_wLetters m_asks m_aWords m_dLetters m_dWords m_dMany m_dText m_dAsks m_dAsk m_tape m_taped m_pos m_from m_sort m_value m_fault m_wrongAt m_manyA m_rowA m_manyB m_rowB m_places m_xs m_ys m_heights m_ridges m_rx m_rHeight m_lanes m_sizes m_cells m_left m_calls m_cDay m_cHour m_cFrom m_cAsk m_cWord m_cOf m_isLie m_children m_learned m_group   r0  _ _ ls h hP hD hS (lv_sub hl [0] rfl)
        · have h := it_use c8 h
          refine lv_iconst (v := 2) hx hb dX9_lineNow_67 (by decide) ?_
          obtain er := rt1_use h
          exact re_i hx hb hr hlocks hK hP hD hS er dX9_lineNow_68
    · have h := ie_use c4 h
      refine lv_iconst (v := 1) hx hb dX9_lineNow_34 (by decide) ?_
      obtain er := rt1_use h
      exact re_i hx hb hr hlocks hK hP hD hS er dX9_lineNow_35
  · have h := ie_use c2 h
    refine lv_iconst (v := 0) hx hb dX9_lineNow_16 (by decide) ?_
    obtain er := rt1_use h
    exact re_i hx hb hr hlocks hK hP hD hS er dX9_lineNow_17
set_option maxHeartbeats 4000000 in
set_option maxRecDepth 100000 in
theorem kX9_readLetter_p177 {p : Program} {l : Launch} {e : Env} {s : State} {m : MethodId} {args : Array Value} {below : List Frame} {meth : Method} {c : Code} {A : Nat → Prop} (dC : Nat → ClassId) (dI : Nat → Nat → Nat) (cB cI cJ cZ : ClassId) (a : Nat → Nat) (C0 : cxt cX9_readLetter none 4 RX9 wsX9_readLetter (dC, dI) (tyz cB cI cJ cZ) E_0 A p s m args meth c) (n : Nat) (m_letters : Nat → Int32) (m_words : Int32) (m_wMany : Nat → Int32) (m_wLetters : Nat → Int32) (m_asks : Int32) (m_aWords : Nat → Int32) (m_dLetters : Nat → Int32) (m_dWords : Int32) (m_dMany : Nat → Int32) (m_dText : Nat → Int32) (m_dAsks : Int32) (m_dAsk : Nat → Int32) (m_tape : Nat → Int32) (m_taped : Int32) (m_pos : Int32) (m_from : Int32) (m_sort : Int32) (m_value : Int32) (m_fault : Int32) (m_wrongAt : Int32) (m_manyA : Int32) (m_rowA : Nat → Int32) (m_manyB : Int32) (m_rowB : Nat → Int32) (m_places : Int32) (m_xs : Nat → Int32) (m_ys : Nat → Int32) (m_heights : Nat → Int32) (m_ridges : Int32) (m_rx : Nat → Int32) (m_rHeight : Nat → Int32) (m_lanes : Nat → Int32) (m_sizes : Nat → Int32) (m_cells : Nat → Int32) (m_left : Nat → Int32) (m_calls : Int32) (m_cDay : Nat → Int32) (m_cHour : Nat → Int32) (m_cFrom : Nat → Int32) (m_cAsk : Nat → Int32) (m_cWord : Nat → Int32) (m_cOf : Nat → Int32) (m_isLie : Nat → Int32) (m_children : Int32) (m_learned : Nat → Int32) (m_group : Nat → Int32)  (x2 : Int32) (s0 : Int32) (z_m_dLetters : Nat → Int32) (z_m_pos : Int32) (z_m_from : Int32) (z_m_sort : Int32) (z_m_value : Int32) (z_m_fault : Int32) (z_m_wrongAt : Int32)  (H : Heap) (locs : List Loc) (ls : Array Slot) : fX9_readLetter_p177 n m_dLetters m_tape m_taped m_pos m_from m_sort m_value m_fault m_wrongAt x2 s0 = some (z_m_dLetters, z_m_pos, z_m_from, z_m_sort, z_m_value, z_m_fault, z_m_wrongAt) → va_P (dC, dI) vwCl (wM cB cI cJ cZ a m_letters m_words m_wMany m_wLetters m_asks m_aWords m_dLetters m_dWords m_dMany m_dText m_dAsks m_dAsk m_tape m_taped m_pos m_from m_sort m_value m_fault m_wrongAt m_manyA m_rowA m_manyB m_rowB m_places m_xs m_ys m_heights m_ridges m_rx m_rHeight m_lanes m_sizes m_cells m_left m_calls m_cDay m_cHour m_cFrom m_cAsk m_cWord m_cOf m_isLie m_children m_learned m_group) H → va_D A (wM cB cI cJ cZ a m_letters m_words m_wMany m_wLetters m_asks m_aWords m_dLetters m_dWords m_dMany m_dText m_dAsks m_dAsk m_tape m_taped m_pos m_from m_sort m_value m_fault m_wrongAt m_manyA m_rowA m_manyB m_rowB m_places m_xs m_ys m_heights m_ridges m_rx m_rHeight m_lanes m_sizes m_cells m_left m_calls m_cDay m_cHour m_cFrom m_cAsk m_cWord m_cOf m_isLie m_children m_learned m_group) → va_S A s.heap H locs → lv_has ls 4 [(0, .ref (a 0)), (2, .int x2)] → W p l e { frames := 2, cells := 0, slots := 0, locals := 46 } s m args below meth c H locs 0 0 (MQ below (gV (dC, dI) (tyz cB cI cJ cZ) (wM cB cI cJ cZ a m_letters m_words m_wMany m_wLetters m_asks m_aWords z_m_dLetters m_dWords m_dMany m_dText m_dAsks m_dAsk m_tape m_taped z_m_pos z_m_from z_m_sort z_m_value z_m_fault z_m_wrongAt m_manyA m_rowA m_manyB m_rowB m_places m_xs m_ys m_heights m_ridges m_rx m_rHeight m_lanes m_sizes m_cells m_left m_calls m_cDay m_cHour m_cFrom m_cAsk m_cWord m_cOf m_isLie m_children m_learned m_group) A) args s 0 0 A) (F0 m 177 ls [.int s0]) := by
  intro h hP hD hS hl
  obtain ⟨hx, hb, hr, hml, hown, hts, hlocks, hK, hA, hE⟩ := id C0
  have hw0 := hts (.fieldLink RX9 108 "WhistledWordsModel" "fault" "I") (by decide +kernel)
  have hw1 := hts (.fieldLink RX9 22 "WhistledWordsModel" "dLetters" "[I") (by decide +kernel)
  have hnX9 : ∀ w ∈ u_ws RX9 TX9 46, w ∈ wsX9_readLetter := fun _ h => List.mem_cons_of_mem _ (List.mem_append_right _ h)
  unfold fX9_readLetter_p177 at h
  refine lv_istore_n (lv' := [(3, .int s0), (0, .ref (a 0)), (2, .int x2)]) hx hb dX9_readLetter_177 rfl hl (by decide) rfl (fun ls hl => ?_)
  refine lv_aload_n hx hb dX9_readLetter_178 rfl (lv_at hl 1 rfl) ?_
  obtain ⟨v1, v2, v3, v4, v5, v6, hc, h⟩ := bd6_use h
  refine cv_v (As := []) (rest := []) ⟨hx, hb, hml, hown, hts⟩ (kX9_next l n dC dI cB cI cJ cZ a _ m_letters m_words m_wMany m_wLetters m_asks m_aWords m_dLetters m_dWords m_dMany m_dText m_dAsks m_dAsk m_tape m_taped m_pos m_from m_sort m_value m_fault m_wrongAt m_manyA m_rowA m_manyB m_rowB m_places m_xs m_ys m_heights m_ridges m_rx m_rHeight m_lanes m_sizes m_cells m_left m_calls m_cDay m_cHour m_cFrom m_cAsk m_cWord m_cOf m_isLie m_children m_learned m_group  v1 v2 v3 v4 v5 v6 hc) (cwV 0 hts gX9_readLetter_X9_next rfl rfl rfl (by decide +kernel) ⟨Nat.le_of_ble_eq_true rfl, Nat.le_of_ble_eq_true rfl⟩) EB_0 hE hK hP hD hS hA 0 (ci := 8) rfl rfl rfl rfl hl.1 rfl (Nat.le_of_ble_eq_true rfl) dX9_readLetter_179 ⟨Nat.zero_le _, Nat.zero_le _⟩ (fun H locs hP hD hS => ?_)
  refine lv_aload_n hx hb dX9_readLetter_182 rfl (lv_at hl 1 rfl) ?_
  refine gM_mo_fault hx hb hts hnX9 hown hK hP hw0 dX9_readLetter_183 ?_
  refine lv_if_ne (tgt := 196) hx hb dX9_readLetter_186 (by decide) (fun c7 => ?_) (fun c7 => ?_)
  · have h := ie_use c7 h
    obtain ⟨ez0, ez1, ez2, ez3, ez4, ez5, ez6⟩ := rt7_use h
    subst ez0
    subst ez1
    subst ez2
    subst ez3
    subst ez4
    subst ez5
    subst ez6
    exact re_v hx hb hr hlocks hK hP hD hS dX9_readLetter_196
  · have h := it_use c7 h
    refine lv_aload_n hx hb dX9_readLetter_189 rfl (lv_at hl 1 rfl) ?_
    refine gM_mo_dLetters hx hb hts hnX9 hown hK hP hw1 dX9_readLetter_190 ?_
    refine lv_iload_n hx hb dX9_readLetter_193 rfl (lv_at hl 2 rfl) ?_
    refine lv_iload_n hx hb dX9_readLetter_194 rfl (lv_at hl 0 rfl) ?_
    obtain ⟨hif8, f8, ef8, h⟩ := aw_use h
    refine sM_mo_dLetters hx hb hK hP hD hS hif8 ef8 dX9_readLetter_195 (fun H locs hP hD hS => ?_)
    obtain ⟨ez0, ez1, ez2, ez3, ez4, ez5, ez6⟩ := rt7_use h
    subst ez0
    subst ez1
    subst ez2
    subst ez3
    subst ez4
    subst ez5
    subst ez6
    exact re_v hx hb hr hlocks hK hP hD hS dX9_readLetter_196
set_option maxHeartbeats 4000000 in
set_option maxRecDepth 100000 in
theorem kX9_readLetter_p152 {p : Program} {l : Launch} {e : Env} {s : State} {m : MethodId} {args : Array Value} {below : List Frame} {meth : Method} {c : Code} {A : Nat → Prop} (dC : Nat → ClassId) (dI : Nat → Nat → Nat) (cB cI cJ cZ : ClassId) (a : Nat → Nat) (C0 : cxt cX9_readLetter none 4 RX9 wsX9_readLetter (dC, dI) (tyz cB cI cJ cZ) E_0 A p s m args meth c) (n : Nat) (m_letters : Nat → Int32) (m_words : Int32) (m_wMany : Nat → Int32) (m_wLetters : Nat → Int32) (m_asks : Int32) (m_aWords : Nat → Int32) (m_dLetters : Nat → Int32) (m_dWords : Int32) (m_dMany : Nat → Int32) (m_dText : Nat → Int32) (m_dAsks : Int32) (m_dAsk : Nat → Int32) (m_tape : Nat → Int32) (m_taped : Int32) (m_pos : Int32) (m_from : Int32) (m_sort : Int32) (m_value : Int32) (m_fault : Int32) (m_wrongAt : Int32) (m_manyA : Int32) (m_rowA : Nat → Int32) (m_manyB : Int32) (m_rowB : Nat → Int32) (m_places : Int32) (m_xs : Nat → Int32) (m_ys : Nat → Int32) (m_heights : Nat → Int32) (m_ridges : Int32) (m_rx : Nat → Int32) (m_rHeight : Nat → Int32) (m_lanes : Nat → Int32) (m_sizes : Nat → Int32) (m_cells : Nat → Int32) (m_left : Nat → Int32) (m_calls : Int32) (m_cDay : Nat → Int32) (m_cHour : Nat → Int32) (m_cFrom : Nat → Int32) (m_cAsk : Nat → Int32) (m_cWord : Nat → Int32) (m_cOf : Nat → Int32) (m_isLie : Nat → Int32) (m_children : Int32) (m_learned : Nat → Int32) (m_group : Nat → Int32)  (x1 : Int32) (x2 : Int32) (s1 : Int64) (s2 : Int64) (s3 : Int64) (z_m_dLetters : Nat → Int32) (z_m_pos : Int32) (z_m_from : Int32) (z_m_sort : Int32) (z_m_value : Int32) (z_m_fault : Int32) (z_m_wrongAt : Int32)  (H : Heap) (locs : List Loc) (ls : Array Slot) : fX9_readLetter_p152 n m_dLetters m_tape m_taped m_pos m_from m_sort m_value m_fault m_wrongAt x1 x2 s1 s2 s3 = some (z_m_dLetters, z_m_pos, z_m_from, z_m_sort, z_m_value, z_m_fault, z_m_wrongAt) → va_P (dC, dI) vwCl (wM cB cI cJ cZ a m_letters m_words m_wMany m_wLetters m_asks m_aWords m_dLetters m_dWords m_dMany m_dText m_dAsks m_dAsk m_tape m_taped m_pos m_from m_sort m_value m_fault m_wrongAt m_manyA m_rowA m_manyB m_rowB m_places m_xs m_ys m_heights m_ridges m_rx m_rHeight m_lanes m_sizes m_cells m_left m_calls m_cDay m_cHour m_cFrom m_cAsk m_cWord m_cOf m_isLie m_children m_learned m_group) H → va_D A (wM cB cI cJ cZ a m_letters m_words m_wMany m_wLetters m_asks m_aWords m_dLetters m_dWords m_dMany m_dText m_dAsks m_dAsk m_tape m_taped m_pos m_from m_sort m_value m_fault m_wrongAt m_manyA m_rowA m_manyB m_rowB m_places m_xs m_ys m_heights m_ridges m_rx m_rHeight m_lanes m_sizes m_cells m_left m_calls m_cDay m_cHour m_cFrom m_cAsk m_cWord m_cOf m_isLie m_children m_learned m_group) → va_S A s.heap H locs → lv_has ls 4 [(0, .ref (a 0)), (1, .int x1), (2, .int x2)] → W p l e { frames := 2, cells := 0, slots := 0, locals := 46 } s m args below meth c H locs 0 0 (MQ below (gV (dC, dI) (tyz cB cI cJ cZ) (wM cB cI cJ cZ a m_letters m_words m_wMany m_wLetters m_asks m_aWords z_m_dLetters m_dWords m_dMany m_dText m_dAsks m_dAsk m_tape m_taped z_m_pos z_m_from z_m_sort z_m_value z_m_fault z_m_wrongAt m_manyA m_rowA m_manyB m_rowB m_places m_xs m_ys m_heights m_ridges m_rx m_rHeight m_lanes m_sizes m_cells m_left m_calls m_cDay m_cHour m_cFrom m_cAsk m_cWord m_cOf m_isLie m_children m_learned m_group) A) args s 0 0 A) (F0 m 152 ls [.long s3, .long s2, .long s1, .ref (a 0)]) := by
  intro h hP hD hS hl
  obtain ⟨hx, hb, hr, hml, hown, hts, hlocks, hK, hA, hE⟩ := id C0
  have hw0 := hts (.fieldLink RX9 135 "WhistledWordsModel" "value" "I") (by decide +kernel)
  have hnX9 : ∀ w ∈ u_ws RX9 TX9 46, w ∈ wsX9_readLetter := fun _ h => List.mem_cons_of_mem _ (List.mem_append_right _ h)
  unfold fX9_readLetter_p152 at h
  obtain ⟨v1, hc, h⟩ := bd1_use h
  refine cs_i (As := [.long s1, .long s2, .long s3]) (rest := [.ref (a 0)]) ⟨hx, hb, hml, hown, hts⟩ (kX9_in l n s1 s2 s3 v1 hc) (va_cwS 3 hts gX9_readLetter_X9_in rfl rfl rfl (by decide +kernel) ⟨Nat.le_of_ble_eq_true rfl, Nat.le_of_ble_eq_true rfl⟩) hP hS rfl hl.1 rfl (Nat.le_of_ble_eq_true rfl) dX9_readLetter_152 ⟨Nat.zero_le _, Nat.zero_le _⟩ (fun H locs hP hS => ?_)
  refine lv_iconst (v := 3) hx hb dX9_readLetter_155 (by decide) ?_
  obtain ⟨v2, v3, hc, h⟩ := bd2_use h
  refine cv_v (As := [.int v1, .int (3 : Int32)]) (rest := []) ⟨hx, hb, hml, hown, hts⟩ (kX9_wants l n dC dI cB cI cJ cZ a _ m_letters m_words m_wMany m_wLetters m_asks m_aWords m_dLetters m_dWords m_dMany m_dText m_dAsks m_dAsk m_tape m_taped m_pos m_from m_sort m_value m_fault m_wrongAt m_manyA m_rowA m_manyB m_rowB m_places m_xs m_ys m_heights m_ridges m_rx m_rHeight m_lanes m_sizes m_cells m_left m_calls m_cDay m_cHour m_cFrom m_cAsk m_cWord m_cOf m_isLie m_children m_learned m_group v1 (3 : Int32) v2 v3 hc) (cwV 2 hts gX9_readLetter_X9_wants rfl rfl rfl (by decide +kernel) ⟨Nat.le_of_ble_eq_true rfl, Nat.le_of_ble_eq_true rfl⟩) EB_0 hE hK hP hD hS hA 0 (ci := 8) rfl rfl rfl rfl hl.1 rfl (Nat.le_of_ble_eq_true rfl) dX9_readLetter_156 ⟨Nat.zero_le _, Nat.zero_le _⟩ (fun H locs hP hD hS => ?_)
  refine lv_iload_n hx hb dX9_readLetter_159 rfl (lv_at hl 1 rfl) ?_
  refine lv_if_ne (tgt := 170) hx hb dX9_readLetter_160 (by decide) (fun c4 => ?_) (fun c4 => ?_)
  · have h := ie_use c4 h
    refine lv_bipush (v := 16) hx hb dX9_readLetter_170 (by decide) ?_
    refine lv_aload_n hx hb dX9_readLetter_172 rfl (lv_at hl 0 rfl) ?_
    refine gM_mo_value hx hb hts hnX9 hown hK hP hw0 dX9_readLetter_173 ?_
    refine lv_iadd hx hb dX9_readLetter_176 ?_
    exact kX9_readLetter_p177 dC dI cB cI cJ cZ a C0 n m_letters m_words m_wMany m_wLetters m_asks m_aWords m_dLetters m_dWords m_dMany m_dText m_dAsks m_dAsk m_tape m_taped m_pos m_from m_sort m_value v2 v3 m_manyA m_rowA m_manyB m_rowB m_places m_xs m_ys m_heights m_ridges m_rx m_rHeight m_lanes m_sizes m_cells m_left m_calls m_cDay m_cHour m_cFrom m_cAsk m_cWord m_cOf m_isLie m_children m_learned m_group x2 ((16 : Int32) + m_value) z_m_dLetters z_m_pos z_m_from z_m_sort z_m_value z_m_fault z_m_wrongAt  _ _ ls h hP hD hS (lv_sub hl [0, 2] rfl)
  · have h := it_use c4 h
    refine lv_aload_n hx hb dX9_readLetter_163 rfl (lv_at hl 0 rfl) ?_
    refine gM_mo_value hx hb hts hnX9 hown hK hP hw0 dX9_readLetter_164 ?_
    refine lv_goto (tgt := 177) hx hb dX9_readLetter_167 (by decide) ?_
    exact kX9_readLetter_p177 dC dI cB cI cJ cZ a C0 n m_letters m_words m_wMany m_wLetters m_asks m_aWords m_dLetters m_dWords m_dMany m_dText m_dAsks m_dAsk m_tape m_taped m_pos m_from m_sort m_value v2 v3 m_manyA m_rowA m_manyB m_rowB m_places m_xs m_ys m_heights m_ridges m_rx m_rHeight m_lanes m_sizes m_cells m_left m_calls m_cDay m_cHour m_cFrom m_cAsk m_cWord m_cOf m_isLie m_children m_learned m_group x2 m_value z_m_dLetters z_m_pos z_m_from z_m_sort z_m_value z_m_fault z_m_wrongAt  _ _ ls h hP hD hS (lv_sub hl [0, 2] rfl)
set_option maxHeartbeats 4000000 in
set_option maxRecDepth 100000 in
theorem kX9_readLetter_p121 {p : Program} {l : Launch} {e : Env} {s : State} {m : MethodId} {args : Array Value} {below : List Frame} {meth : Method} {c : Code} {A : Nat → Prop} (dC : Nat → ClassId) (dI : Nat → Nat → Nat) (cB cI cJ cZ : ClassId) (a : Nat → Nat) (C0 : cxt cX9_readLetter none 4 RX9 wsX9_readLetter (dC, dI) (tyz cB cI cJ cZ) E_0 A p s m args meth c) (n : Nat) (m_letters : Nat → Int32) (m_words : Int32) (m_wMany : Nat → Int32) (m_wLetters : Nat → Int32) (m_asks : Int32) (m_aWords : Nat → Int32) (m_dLetters : Nat → Int32) (m_dWords : Int32) (m_dMany : Nat → Int32) (m_dText : Nat → Int32) (m_dAsks : Int32) (m_dAsk : Nat → Int32) (m_tape : Nat → Int32) (m_taped : Int32) (m_pos : Int32) (m_from : Int32) (m_sort : Int32) (m_value : Int32) (m_fault : Int32) (m_wrongAt : Int32) (m_manyA : Int32) (m_rowA : Nat → Int32) (m_manyB : Int32) (m_rowB : Nat → Int32) (m_places : Int32) (m_xs : Nat → Int32) (m_ys : Nat → Int32) (m_heights : Nat → Int32) (m_ridges : Int32) (m_rx : Nat → Int32) (m_rHeight : Nat → Int32) (m_lanes : Nat → Int32) (m_sizes : Nat → Int32) (m_cells : Nat → Int32) (m_left : Nat → Int32) (m_calls : Int32) (m_cDay : Nat → Int32) (m_cHour : Nat → Int32) (m_cFrom : Nat → Int32) (m_cAsk : Nat → Int32) (m_cWord : Nat → Int32) (m_cOf : Nat → Int32) (m_isLie : Nat → Int32) (m_children : Int32) (m_learned : Nat → Int32) (m_group : Nat → Int32)  (x1 : Int32) (x2 : Int32) (s1 : Int32) (z_m_dLetters : Nat → Int32) (z_m_pos : Int32) (z_m_from : Int32) (z_m_sort : Int32) (z_m_value : Int32) (z_m_fault : Int32) (z_m_wrongAt : Int32)  (H : Heap) (locs : List Loc) (ls : Array Slot) : fX9_readLetter_p121 n m_dLetters m_tape m_taped m_pos m_from m_sort m_value m_fault m_wrongAt x1 x2 s1 = some (z_m_dLetters, z_m_pos, z_m_from, z_m_sort, z_m_value, z_m_fault, z_m_wrongAt) → va_P (dC, dI) vwCl (wM cB cI cJ cZ a m_letters m_words m_wMany m_wLetters m_asks m_aWords m_dLetters m_dWords m_dMany m_dText m_dAsks m_dAsk m_tape m_taped m_pos m_from m_sort m_value m_fault m_wrongAt m_manyA m_rowA m_manyB m_rowB m_places m_xs m_ys m_heights m_ridges m_rx m_rHeight m_lanes m_sizes m_cells m_left m_calls m_cDay m_cHour m_cFrom m_cAsk m_cWord m_cOf m_isLie m_children m_learned m_group) H → va_D A (wM cB cI cJ cZ a m_letters m_words m_wMany m_wLetters m_asks m_aWords m_dLetters m_dWords m_dMany m_dText m_dAsks m_dAsk m_tape m_taped m_pos m_from m_sort m_value m_fault m_wrongAt m_manyA m_rowA m_manyB m_rowB m_places m_xs m_ys m_heights m_ridges m_rx m_rHeight m_lanes m_sizes m_cells m_left m_calls m_cDay m_cHour m_cFrom m_cAsk m_cWord m_cOf m_isLie m_children m_learned m_group) → va_S A s.heap H locs → lv_has ls 4 [(0, .ref (a 0)), (1, .int x1), (2, .int x2)] → W p l e { frames := 2, cells := 0, slots := 0, locals := 46 } s m args below meth c H locs 0 0 (MQ below (gV (dC, dI) (tyz cB cI cJ cZ) (wM cB cI cJ cZ a m_letters m_words m_wMany m_wLetters m_asks m_aWords z_m_dLetters m_dWords m_dMany m_dText m_dAsks m_dAsk m_tape m_taped z_m_pos z_m_from z_m_sort z_m_value z_m_fault z_m_wrongAt m_manyA m_rowA m_manyB m_rowB m_places m_xs m_ys m_heights m_ridges m_rx m_rHeight m_lanes m_sizes m_cells m_left m_calls m_cDay m_cHour m_cFrom m_cAsk m_cWord m_cOf m_isLie m_children m_learned m_group) A) args s 0 0 A) (F0 m 121 ls [.int s1, .ref (a 0)]) := by
  intro h hP hD hS hl
  obtain ⟨hx, hb, hr, hml, hown, hts, hlocks, hK, hA, hE⟩ := id C0
  have hw0 := hts (.fieldLink RX9 108 "WhistledWordsModel" "fault" "I") (by decide +kernel)
  have hw1 := hts (.fieldLink RX9 135 "WhistledWordsModel" "value" "I") (by decide +kernel)
  have hw2 := hts (.constantLong RX9 151 (3)) (by decide +kernel)
  have hw3 := hts (.constantLong RX9 149 (15)) (by decide +kernel)
  have hnX9 : ∀ w ∈ u_ws RX9 TX9 46, w ∈ wsX9_readLetter := fun _ h => List.mem_cons_of_mem _ (List.mem_append_right _ h)
  unfold fX9_readLetter_p121 at h
  refine lv_iconst (v := 2) hx hb dX9_readLetter_121 (by decide) ?_
  obtain ⟨v1, v2, hc, h⟩ := bd2_use h
  refine cv_v (As := [.int s1, .int (2 : Int32)]) (rest := []) ⟨hx, hb, hml, hown, hts⟩ (kX9_wants l n dC dI cB cI cJ cZ a _ m_letters m_words m_wMany m_wLetters m_asks m_aWords m_dLetters m_dWords m_dMany m_dText m_dAsks m_dAsk m_tape m_taped m_pos m_from m_sort m_value m_fault m_wrongAt m_manyA m_rowA m_manyB m_rowB m_places m_xs m_ys m_heights m_ridges m_rx m_rHeight m_lanes m_sizes m_cells m_left m_calls m_cDay m_cHour m_cFrom m_cAsk m_cWord m_cOf m_isLie m_children m_learned m_group s1 (2 : Int32) v1 v2 hc) (cwV 2 hts gX9_readLetter_X9_wants rfl rfl rfl (by decide +kernel) ⟨Nat.le_of_ble_eq_true rfl, Nat.le_of_ble_eq_true rfl⟩) EB_0 hE hK hP hD hS hA 0 (ci := 8) rfl rfl rfl rfl hl.1 rfl (Nat.le_of_ble_eq_true rfl) dX9_readLetter_122 ⟨Nat.zero_le _, Nat.zero_le _⟩ (fun H locs hP hD hS => ?_)
  refine lv_aload_n hx hb dX9_readLetter_125 rfl (lv_at hl 0 rfl) ?_
  refine gM_mo_fault hx hb hts hnX9 hown hK hP hw0 dX9_readLetter_126 ?_
  refine lv_if_ne (tgt := 159) hx hb dX9_readLetter_129 (by decide) (fun c3 => ?_) (fun c3 => ?_)
  · have h := ie_use c3 h
    refine lv_iload_n hx hb dX9_readLetter_159 rfl (lv_at hl 1 rfl) ?_
    refine lv_if_ne (tgt := 170) hx hb dX9_readLetter_160 (by decide) (fun c4 => ?_) (fun c4 => ?_)
    · have h := ie_use c4 h
      refine lv_bipush (v := 16) hx hb dX9_readLetter_170 (by decide) ?_
      refine lv_aload_n hx hb dX9_readLetter_172 rfl (lv_at hl 0 rfl) ?_
      refine gM_mo_value hx hb hts hnX9 hown hK hP hw1 dX9_readLetter_173 ?_
      refine lv_iadd hx hb dX9_readLetter_176 ?_
      exact kX9_readLetter_p177 dC dI cB cI cJ cZ a C0 n m_letters m_words m_wMany m_wLetters m_asks m_aWords m_dLetters m_dWords m_dMany m_dText m_dAsks m_dAsk m_tape m_taped m_pos m_from m_sort m_value v1 v2 m_manyA m_rowA m_manyB m_rowB m_places m_xs m_ys m_heights m_ridges m_rx m_rHeight m_lanes m_sizes m_cells m_left m_calls m_cDay m_cHour m_cFrom m_cAsk m_cWord m_cOf m_isLie m_children m_learned m_group x2 ((16 : Int32) + m_value) z_m_dLetters z_m_pos z_m_from z_m_sort z_m_value z_m_fault z_m_wrongAt  _ _ ls h hP hD hS (lv_sub hl [0, 2] rfl)
    · have h := it_use c4 h
      refine lv_aload_n hx hb dX9_readLetter_163 rfl (lv_at hl 0 rfl) ?_
      refine gM_mo_value hx hb hts hnX9 hown hK hP hw1 dX9_readLetter_164 ?_
      refine lv_goto (tgt := 177) hx hb dX9_readLetter_167 (by decide) ?_
      exact kX9_readLetter_p177 dC dI cB cI cJ cZ a C0 n m_letters m_words m_wMany m_wLetters m_asks m_aWords m_dLetters m_dWords m_dMany m_dText m_dAsks m_dAsk m_tape m_taped m_pos m_from m_sort m_value v1 v2 m_manyA m_rowA m_manyB m_rowB m_places m_xs m_ys m_heights m_ridges m_rx m_rHeight m_lanes m_sizes m_cells m_left m_calls m_cDay m_cHour m_cFrom m_cAsk m_cWord m_cOf m_isLie m_children m_learned m_group x2 m_value z_m_dLetters z_m_pos z_m_from z_m_sort z_m_value z_m_fault z_m_wrongAt  _ _ ls h hP hD hS (lv_sub hl [0, 2] rfl)
  · have h := it_use c3 h
    refine lv_aload_n hx hb dX9_readLetter_132 rfl (lv_at hl 0 rfl) ?_
    refine lv_aload_n hx hb dX9_readLetter_133 rfl (lv_at hl 0 rfl) ?_
    refine gM_mo_value hx hb hts hnX9 hown hK hP hw1 dX9_readLetter_134 ?_
    refine lv_i2l hx hb dX9_readLetter_137 rfl ?_
    refine lv_lconst (v := 0) hx hb dX9_readLetter_138 (by decide) ?_
    refine lv_iload_n hx hb dX9_readLetter_139 rfl (lv_at hl 1 rfl) ?_
    refine lv_if_ne (tgt := 149) hx hb dX9_readLetter_140 (by decide) (fun c5 => ?_) (fun c5 => ?_)
    · have h := ie_use c5 h
      refine lv_ldc2 hx hb hown hw2 dX9_readLetter_149 ?_
      exact kX9_readLetter_p152 dC dI cB cI cJ cZ a C0 n m_letters m_words m_wMany m_wLetters m_asks m_aWords m_dLetters m_dWords m_dMany m_dText m_dAsks m_dAsk m_tape m_taped m_pos m_from m_sort m_value v1 v2 m_manyA m_rowA m_manyB m_rowB m_places m_xs m_ys m_heights m_ridges m_rx m_rHeight m_lanes m_sizes m_cells m_left m_calls m_cDay m_cHour m_cFrom m_cAsk m_cWord m_cOf m_isLie m_children m_learned m_group x1 x2 m_value.toInt64 (0 : Int64) (3 : Int64) z_m_dLetters z_m_pos z_m_from z_m_sort z_m_value z_m_fault z_m_wrongAt  _ _ ls h hP hD hS (lv_sub hl [0, 1, 2] rfl)
    · have h := it_use c5 h
      refine lv_ldc2 hx hb hown hw3 dX9_readLetter_143 ?_
      refine lv_goto (tgt := 152) hx hb dX9_readLetter_146 (by decide) ?_
      exact kX9_readLetter_p152 dC dI cB cI cJ cZ a C0 n m_letters m_words m_wMany m_wLetters m_asks m_aWords m_dLetters m_dWords m_dMany m_dText m_dAsks m_dAsk m_tape m_taped m_pos m_from m_sort m_value v1 v2 m_manyA m_rowA m_manyB m_rowB m_places m_xs m_ys m_heights m_ridges m_rx m_rHeight m_lanes m_sizes m_cells m_left m_calls m_cDay m_cHour m_cFrom m_cAsk m_cWord m_cOf m_isLie m_children m_learned m_group x1 x2 m_value.toInt64 (0 : Int64) (15 : Int64) z_m_dLetters z_m_pos z_m_from z_m_sort z_m_value z_m_fault z_m_wrongAt  _ _ ls h hP hD hS (lv_sub hl [0, 1, 2] rfl)
set_option maxHeartbeats 4000000 in
set_option maxRecDepth 100000 in
theorem kX9_readLetter_p97 {p : Program} {l : Launch} {e : Env} {s : State} {m : MethodId} {args : Array Value} {below : List Frame} {meth : Method} {c : Code} {A : Nat → Prop} (dC : Nat → ClassId) (dI : Nat → Nat → Nat) (cB cI cJ cZ : ClassId) (a : Nat → Nat) (C0 : cxt cX9_readLetter none 4 RX9 wsX9_readLetter (dC, dI) (tyz cB cI cJ cZ) E_0 A p s m args meth c) (n : Nat) (m_letters : Nat → Int32) (m_words : Int32) (m_wMany : Nat → Int32) (m_wLetters : Nat → Int32) (m_asks : Int32) (m_aWords : Nat → Int32) (m_dLetters : Nat → Int32) (m_dWords : Int32) (m_dMany : Nat → Int32) (m_dText : Nat → Int32) (m_dAsks : Int32) (m_dAsk : Nat → Int32) (m_tape : Nat → Int32) (m_taped : Int32) (m_pos : Int32) (m_from : Int32) (m_sort : Int32) (m_value : Int32) (m_fault : Int32) (m_wrongAt : Int32) (m_manyA : Int32) (m_rowA : Nat → Int32) (m_manyB : Int32) (m_rowB : Nat → Int32) (m_places : Int32) (m_xs : Nat → Int32) (m_ys : Nat → Int32) (m_heights : Nat → Int32) (m_ridges : Int32) (m_rx : Nat → Int32) (m_rHeight : Nat → Int32) (m_lanes : Nat → Int32) (m_sizes : Nat → Int32) (m_cells : Nat → Int32) (m_left : Nat → Int32) (m_calls : Int32) (m_cDay : Nat → Int32) (m_cHour : Nat → Int32) (m_cFrom : Nat → Int32) (m_cAsk : Nat → Int32) (m_cWord : Nat → Int32) (m_cOf : Nat → Int32) (m_isLie : Nat → Int32) (m_children : Int32) (m_learned : Nat → Int32) (m_group : Nat → Int32)  (x1 : Int32) (x2 : Int32) (s0 : Int32) (z_m_dLetters : Nat → Int32) (z_m_pos : Int32) (z_m_from : Int32) (z_m_sort : Int32) (z_m_value : Int32) (z_m_fault : Int32) (z_m_wrongAt : Int32)  (H : Heap) (locs : List Loc) (ls : Array Slot) : fX9_readLetter_p97 n m_dLetters m_tape m_taped m_pos m_from m_sort m_value m_fault m_wrongAt x1 x2 s0 = some (z_m_dLetters, z_m_pos, z_m_from, z_m_sort, z_m_value, z_m_fault, z_m_wrongAt) → va_P (dC, dI) vwCl (wM cB cI cJ cZ a m_letters m_words m_wMany m_wLetters m_asks m_aWords m_dLetters m_dWords m_dMany m_dText m_dAsks m_dAsk m_tape m_taped m_pos m_from m_sort m_value m_fault m_wrongAt m_manyA m_rowA m_manyB m_rowB m_places m_xs m_ys m_heights m_ridges m_rx m_rHeight m_lanes m_sizes m_cells m_left m_calls m_cDay m_cHour m_cFrom m_cAsk m_cWord m_cOf m_isLie m_children m_learned m_group) H → va_D A (wM cB cI cJ cZ a m_letters m_words m_wMany m_wLetters m_asks m_aWords m_dLetters m_dWords m_dMany m_dText m_dAsks m_dAsk m_tape m_taped m_pos m_from m_sort m_value m_fault m_wrongAt m_manyA m_rowA m_manyB m_rowB m_places m_xs m_ys m_heights m_ridges m_rx m_rHeight m_lanes m_sizes m_cells m_left m_calls m_cDay m_cHour m_cFrom m_cAsk m_cWord m_cOf m_isLie m_children m_learned m_group) → va_S A s.heap H locs → lv_has ls 4 [(0, .ref (a 0)), (1, .int x1), (2, .int x2)] → W p l e { frames := 2, cells := 0, slots := 0, locals := 46 } s m args below meth c H locs 0 0 (MQ below (gV (dC, dI) (tyz cB cI cJ cZ) (wM cB cI cJ cZ a m_letters m_words m_wMany m_wLetters m_asks m_aWords z_m_dLetters m_dWords m_dMany m_dText m_dAsks m_dAsk m_tape m_taped z_m_pos z_m_from z_m_sort z_m_value z_m_fault z_m_wrongAt m_manyA m_rowA m_manyB m_rowB m_places m_xs m_ys m_heights m_ridges m_rx m_rHeight m_lanes m_sizes m_cells m_left m_calls m_cDay m_cHour m_cFrom m_cAsk m_cWord m_cOf m_isLie m_children m_learned m_group) A) args s 0 0 A) (F0 m 97 ls [.int s0]) := by
  intro h hP hD hS hl
  obtain ⟨hx, hb, hr, hml, hown, hts, hlocks, hK, hA, hE⟩ := id C0
  have hw0 := hts (.fieldLink RX9 124 "WhistledWordsModel" "sort" "I") (by decide +kernel)
  have hw1 := hts (.fieldLink RX9 108 "WhistledWordsModel" "fault" "I") (by decide +kernel)
  have hw2 := hts (.fieldLink RX9 22 "WhistledWordsModel" "dLetters" "[I") (by decide +kernel)
  have hnX9 : ∀ w ∈ u_ws RX9 TX9 46, w ∈ wsX9_readLetter := fun _ h => List.mem_cons_of_mem _ (List.mem_append_right _ h)
  unfold fX9_readLetter_p97 at h
  refine lv_istore_n (lv' := [(3, .int s0), (0, .ref (a 0)), (1, .int x1), (2, .int x2)]) hx hb dX9_readLetter_97 rfl hl (by decide) rfl (fun ls hl => ?_)
  refine lv_iload_n hx hb dX9_readLetter_98 rfl (lv_at hl 2 rfl) ?_
  refine lv_if_eq (tgt := 107) hx hb dX9_readLetter_99 (by decide) (fun c1 => ?_) (fun c1 => ?_)
  · have h := it_use c1 h
    refine lv_aload_n hx hb dX9_readLetter_107 rfl (lv_at hl 1 rfl) ?_
    refine lv_aload_n hx hb dX9_readLetter_108 rfl (lv_at hl 1 rfl) ?_
    refine gM_mo_sort hx hb hts hnX9 hown hK hP hw0 dX9_readLetter_109 ?_
    refine lv_iconst (v := 2) hx hb dX9_readLetter_112 (by decide) ?_
    refine lv_icmp_ne (tgt := 120) hx hb dX9_readLetter_113 (by decide) (fun c2 => ?_) (fun c2 => ?_)
    · have h := ie_use c2 h
      refine lv_iconst (v := 0) hx hb dX9_readLetter_120 (by decide) ?_
      exact kX9_readLetter_p121 dC dI cB cI cJ cZ a C0 n m_letters m_words m_wMany m_wLetters m_asks m_aWords m_dLetters m_dWords m_dMany m_dText m_dAsks m_dAsk m_tape m_taped m_pos m_from m_sort m_value m_fault m_wrongAt m_manyA m_rowA m_manyB m_rowB m_places m_xs m_ys m_heights m_ridges m_rx m_rHeight m_lanes m_sizes m_cells m_left m_calls m_cDay m_cHour m_cFrom m_cAsk m_cWord m_cOf m_isLie m_children m_learned m_group x1 x2 (0 : Int32) z_m_dLetters z_m_pos z_m_from z_m_sort z_m_value z_m_fault z_m_wrongAt  _ _ ls h hP hD hS (lv_sub hl [1, 2, 3] rfl)
    · have h := it_use c2 h
      refine lv_iconst (v := 1) hx hb dX9_readLetter_116 (by decide) ?_
      refine lv_goto (tgt := 121) hx hb dX9_readLetter_117 (by decide) ?_
      exact kX9_readLetter_p121 dC dI cB cI cJ cZ a C0 n m_letters m_words m_wMany m_wLetters m_asks m_aWords m_dLetters m_dWords m_dMany m_dText m_dAsks m_dAsk m_tape m_taped m_pos m_from m_sort m_value m_fault m_wrongAt m_manyA m_rowA m_manyB m_rowB m_places m_xs m_ys m_heights m_ridges m_rx m_rHeight m_lanes m_sizes m_cells m_left m_calls m_cDay m_cHour m_cFrom m_cAsk m_cWord m_cOf m_isLie m_children m_learned m_group x1 x2 (1 : Int32) z_m_dLetters z_m_pos z_m_from z_m_sort z_m_value z_m_fault z_m_wrongAt  _ _ ls h hP hD hS (lv_sub hl [1, 2, 3] rfl)
  · have h := ie_use c1 h
    refine lv_iload_n hx hb dX9_readLetter_102 rfl (lv_at hl 2 rfl) ?_
    refine lv_iconst (v := 1) hx hb dX9_readLetter_103 (by decide) ?_
    refine lv_icmp_ne (tgt := 182) hx hb dX9_readLetter_104 (by decide) (fun c3 => ?_) (fun c3 => ?_)
    · have h := ie_use c3 h
      refine lv_aload_n hx hb dX9_readLetter_182 rfl (lv_at hl 1 rfl) ?_
      refine gM_mo_fault hx hb hts hnX9 hown hK hP hw1 dX9_readLetter_183 ?_
      refine lv_if_ne (tgt := 196) hx hb dX9_readLetter_186 (by decide) (fun c4 => ?_) (fun c4 => ?_)
      · have h := ie_use c4 h
        obtain ⟨ez0, ez1, ez2, ez3, ez4, ez5, ez6⟩ := rt7_use h
        subst ez0
        subst ez1
        subst ez2
        subst ez3
        subst ez4
        subst ez5
        subst ez6
        exact re_v hx hb hr hlocks hK hP hD hS dX9_readLetter_196
      · have h := it_use c4 h
        refine lv_aload_n hx hb dX9_readLetter_189 rfl (lv_at hl 1 rfl) ?_
        refine gM_mo_dLetters hx hb hts hnX9 hown hK hP hw2 dX9_readLetter_190 ?_
        refine lv_iload_n hx hb dX9_readLetter_193 rfl (lv_at hl 3 rfl) ?_
        refine lv_iload_n hx hb dX9_readLetter_194 rfl (lv_at hl 0 rfl) ?_
        obtain ⟨hif5, f5, ef5, h⟩ := aw_use h
        refine sM_mo_dLetters hx hb hK hP hD hS hif5 ef5 dX9_readLetter_195 (fun H locs hP hD hS => ?_)
        obtain ⟨ez0, ez1, ez2, ez3, ez4, ez5, ez6⟩ := rt7_use h
        subst ez0
        subst ez1
        subst ez2
        subst ez3
        subst ez4
        subst ez5
        subst ez6
        exact re_v hx hb hr hlocks hK hP hD hS dX9_readLetter_196
    · have h := it_use c3 h
      refine lv_aload_n hx hb dX9_readLetter_107 rfl (lv_at hl 1 rfl) ?_
      refine lv_aload_n hx hb dX9_readLetter_108 rfl (lv_at hl 1 rfl) ?_
      refine gM_mo_sort hx hb hts hnX9 hown hK hP hw0 dX9_readLetter_109 ?_
      refine lv_iconst (v := 2) hx hb dX9_readLetter_112 (by decide) ?_
      refine lv_icmp_ne (tgt := 120) hx hb dX9_readLetter_113 (by decide) (fun c6 => ?_) (fun c6 => ?_)
      · have h := ie_use c6 h
        refine lv_iconst (v := 0) hx hb dX9_readLetter_120 (by decide) ?_
        exact kX9_readLetter_p121 dC dI cB cI cJ cZ a C0 n m_letters m_words m_wMany m_wLetters m_asks m_aWords m_dLetters m_dWords m_dMany m_dText m_dAsks m_dAsk m_tape m_taped m_pos m_from m_sort m_value m_fault m_wrongAt m_manyA m_rowA m_manyB m_rowB m_places m_xs m_ys m_heights m_ridges m_rx m_rHeight m_lanes m_sizes m_cells m_left m_calls m_cDay m_cHour m_cFrom m_cAsk m_cWord m_cOf m_isLie m_children m_learned m_group x1 x2 (0 : Int32) z_m_dLetters z_m_pos z_m_from z_m_sort z_m_value z_m_fault z_m_wrongAt  _ _ ls h hP hD hS (lv_sub hl [1, 2, 3] rfl)
      · have h := it_use c6 h
        refine lv_iconst (v := 1) hx hb dX9_readLetter_116 (by decide) ?_
        refine lv_goto (tgt := 121) hx hb dX9_readLetter_117 (by decide) ?_
        exact kX9_readLetter_p121 dC dI cB cI cJ cZ a C0 n m_letters m_words m_wMany m_wLetters m_asks m_aWords m_dLetters m_dWords m_dMany m_dText m_dAsks m_dAsk m_tape m_taped m_pos m_from m_sort m_value m_fault m_wrongAt m_manyA m_rowA m_manyB m_rowB m_places m_xs m_ys m_heights m_ridges m_rx m_rHeight m_lanes m_sizes m_cells m_left m_calls m_cDay m_cHour m_cFrom m_cAsk m_cWord m_cOf m_isLie m_children m_learned m_group x1 x2 (1 : Int32) z_m_dLetters z_m_pos z_m_from z_m_sort z_m_value z_m_fault z_m_wrongAt  _ _ ls h hP hD hS (lv_sub hl [1, 2, 3] rfl)
set_option maxHeartbeats 4000000 in
set_option maxRecDepth 100000 in
theorem kX9_readLetter_p53 {p : Program} {l : Launch} {e : Env} {s : State} {m : MethodId} {args : Array Value} {below : List Frame} {meth : Method} {c : Code} {A : Nat → Prop} (dC : Nat → ClassId) (dI : Nat → Nat → Nat) (cB cI cJ cZ : ClassId) (a : Nat → Nat) (C0 : cxt cX9_readLetter none 4 RX9 wsX9_readLetter (dC, dI) (tyz cB cI cJ cZ) E_0 A p s m args meth c) (n : Nat) (m_letters : Nat → Int32) (m_words : Int32) (m_wMany : Nat → Int32) (m_wLetters : Nat → Int32) (m_asks : Int32) (m_aWords : Nat → Int32) (m_dLetters : Nat → Int32) (m_dWords : Int32) (m_dMany : Nat → Int32) (m_dText : Nat → Int32) (m_dAsks : Int32) (m_dAsk : Nat → Int32) (m_tape : Nat → Int32) (m_taped : Int32) (m_pos : Int32) (m_from : Int32) (m_sort : Int32) (m_value : Int32) (m_fault : Int32) (m_wrongAt : Int32) (m_manyA : Int32) (m_rowA : Nat → Int32) (m_manyB : Int32) (m_rowB : Nat → Int32) (m_places : Int32) (m_xs : Nat → Int32) (m_ys : Nat → Int32) (m_heights : Nat → Int32) (m_ridges : Int32) (m_rx : Nat → Int32) (m_rHeight : Nat → Int32) (m_lanes : Nat → Int32) (m_sizes : Nat → Int32) (m_cells : Nat → Int32) (m_left : Nat → Int32) (m_calls : Int32) (m_cDay : Nat → Int32) (m_cHour : Nat → Int32) (m_cFrom : Nat → Int32) (m_cAsk : Nat → Int32) (m_cWord : Nat → Int32) (m_cOf : Nat → Int32) (m_isLie : Nat → Int32) (m_children : Int32) (m_learned : Nat → Int32) (m_group : Nat → Int32)  (x1 : Int32) (s0 : Int32) (z_m_dLetters : Nat → Int32) (z_m_pos : Int32) (z_m_from : Int32) (z_m_sort : Int32) (z_m_value : Int32) (z_m_fault : Int32) (z_m_wrongAt : Int32)  (H : Heap) (locs : List Loc) (ls : Array Slot) : fX9_readLetter_p53 n m_dLetters m_tape m_taped m_pos m_from m_sort m_value m_fault m_wrongAt x1 s0 = some (z_m_dLetters, z_m_pos, z_m_from, z_m_sort, z_m_value, z_m_fault, z_m_wrongAt) → va_P (dC, dI) vwCl (wM cB cI cJ cZ a m_letters m_words m_wMany m_wLetters m_asks m_aWords m_dLetters m_dWords m_dMany m_dText m_dAsks m_dAsk m_tape m_taped m_pos m_from m_sort m_value m_fault m_wrongAt m_manyA m_rowA m_manyB m_rowB m_places m_xs m_ys m_heights m_ridges m_rx m_rHeight m_lanes m_sizes m_cells m_left m_calls m_cDay m_cHour m_cFrom m_cAsk m_cWord m_cOf m_isLie m_children m_learned m_group) H → va_D A (wM cB cI cJ cZ a m_letters m_words m_wMany m_wLetters m_asks m_aWords m_dLetters m_dWords m_dMany m_dText m_dAsks m_dAsk m_tape m_taped m_pos m_from m_sort m_value m_fault m_wrongAt m_manyA m_rowA m_manyB m_rowB m_places m_xs m_ys m_heights m_ridges m_rx m_rHeight m_lanes m_sizes m_cells m_left m_calls m_cDay m_cHour m_cFrom m_cAsk m_cWord m_cOf m_isLie m_children m_learned m_group) → va_S A s.heap H locs → lv_has ls 4 [(0, .ref (a 0)), (1, .int x1)] → W p l e { frames := 2, cells := 0, slots := 0, locals := 46 } s m args below meth c H locs 0 0 (MQ below (gV (dC, dI) (tyz cB cI cJ cZ) (wM cB cI cJ cZ a m_letters m_words m_wMany m_wLetters m_asks m_aWords z_m_dLetters m_dWords m_dMany m_dText m_dAsks m_dAsk m_tape m_taped z_m_pos z_m_from z_m_sort z_m_value z_m_fault z_m_wrongAt m_manyA m_rowA m_manyB m_rowB m_places m_xs m_ys m_heights m_ridges m_rx m_rHeight m_lanes m_sizes m_cells m_left m_calls m_cDay m_cHour m_cFrom m_cAsk m_cWord m_cOf m_isLie m_children m_learned m_group) A) args s 0 0 A) (F0 m 53 ls [.int s0]) := by
  intro h hP hD hS hl
  obtain ⟨hx, hb, hr, hml, hown, hts, hlocks, hK, hA, hE⟩ := id C0
  have hw0 := hts (.fieldLink RX9 108 "WhistledWordsModel" "fault" "I") (by decide +kernel)
  have hw1 := hts (.fieldLink RX9 22 "WhistledWordsModel" "dLetters" "[I") (by decide +kernel)
  have hnX9 : ∀ w ∈ u_ws RX9 TX9 46, w ∈ wsX9_readLetter := fun _ h => List.mem_cons_of_mem _ (List.mem_append_right _ h)
  unfold fX9_readLetter_p53 at h
  refine lv_istore_n (lv' := [(2, .int s0), (0, .ref (a 0)), (1, .int x1)]) hx hb dX9_readLetter_53 rfl hl (by decide) rfl (fun ls hl => ?_)
  refine lv_aload_n hx hb dX9_readLetter_54 rfl (lv_at hl 1 rfl) ?_
  refine gM_mo_fault hx hb hts hnX9 hown hK hP hw0 dX9_readLetter_55 ?_
  refine lv_if_ne (tgt := 81) hx hb dX9_readLetter_58 (by decide) (fun c1 => ?_) (fun c1 => ?_)
  · have h := ie_use c1 h
    refine lv_aload_n hx hb dX9_readLetter_81 rfl (lv_at hl 1 rfl) ?_
    obtain ⟨v2, v3, v4, v5, v6, v7, hc, h⟩ := bd6_use h
    refine cv_v (As := []) (rest := []) ⟨hx, hb, hml, hown, hts⟩ (kX9_next l n dC dI cB cI cJ cZ a _ m_letters m_words m_wMany m_wLetters m_asks m_aWords m_dLetters m_dWords m_dMany m_dText m_dAsks m_dAsk m_tape m_taped m_pos m_from m_sort m_value m_fault m_wrongAt m_manyA m_rowA m_manyB m_rowB m_places m_xs m_ys m_heights m_ridges m_rx m_rHeight m_lanes m_sizes m_cells m_left m_calls m_cDay m_cHour m_cFrom m_cAsk m_cWord m_cOf m_isLie m_children m_learned m_group  v2 v3 v4 v5 v6 v7 hc) (cwV 0 hts gX9_readLetter_X9_next rfl rfl rfl (by decide +kernel) ⟨Nat.le_of_ble_eq_true rfl, Nat.le_of_ble_eq_true rfl⟩) EB_0 hE hK hP hD hS hA 0 (ci := 8) rfl rfl rfl rfl hl.1 rfl (Nat.le_of_ble_eq_true rfl) dX9_readLetter_82 ⟨Nat.zero_le _, Nat.zero_le _⟩ (fun H locs hP hD hS => ?_)
    refine lv_iload_n hx hb dX9_readLetter_85 rfl (lv_at hl 2 rfl) ?_
    refine lv_iconst (v := 2) hx hb dX9_readLetter_86 (by decide) ?_
    refine lv_icmp_ne (tgt := 95) hx hb dX9_readLetter_87 (by decide) (fun c8 => ?_) (fun c8 => ?_)
    · have h := ie_use c8 h
      refine lv_bipush (v := 30) hx hb dX9_readLetter_95 (by decide) ?_
      exact kX9_readLetter_p97 dC dI cB cI cJ cZ a C0 n m_letters m_words m_wMany m_wLetters m_asks m_aWords m_dLetters m_dWords m_dMany m_dText m_dAsks m_dAsk m_tape m_taped v2 v3 v4 v5 v6 v7 m_manyA m_rowA m_manyB m_rowB m_places m_xs m_ys m_heights m_ridges m_rx m_rHeight m_lanes m_sizes m_cells m_left m_calls m_cDay m_cHour m_cFrom m_cAsk m_cWord m_cOf m_isLie m_children m_learned m_group x1 s0 (30 : Int32) z_m_dLetters z_m_pos z_m_from z_m_sort z_m_value z_m_fault z_m_wrongAt  _ _ ls h hP hD hS (lv_sub hl [1, 2, 0] rfl)
    · have h := it_use c8 h
      refine lv_bipush (v := 20) hx hb dX9_readLetter_90 (by decide) ?_
      refine lv_goto (tgt := 97) hx hb dX9_readLetter_92 (by decide) ?_
      exact kX9_readLetter_p97 dC dI cB cI cJ cZ a C0 n m_letters m_words m_wMany m_wLetters m_asks m_aWords m_dLetters m_dWords m_dMany m_dText m_dAsks m_dAsk m_tape m_taped v2 v3 v4 v5 v6 v7 m_manyA m_rowA m_manyB m_rowB m_places m_xs m_ys m_heights m_ridges m_rx m_rHeight m_lanes m_sizes m_cells m_left m_calls m_cDay m_cHour m_cFrom m_cAsk m_cWord m_cOf m_isLie m_children m_learned m_group x1 s0 (20 : Int32) z_m_dLetters z_m_pos z_m_from z_m_sort z_m_value z_m_fault z_m_wrongAt  _ _ ls h hP hD hS (lv_sub hl [1, 2, 0] rfl)
  · have h := it_use c1 h
    refine lv_aload_n hx hb dX9_readLetter_61 rfl (lv_at hl 1 rfl) ?_
    refine lv_aload_n hx hb dX9_readLetter_62 rfl (lv_at hl 1 rfl) ?_
    refine gM_mo_dLetters hx hb hts hnX9 hown hK hP hw1 dX9_readLetter_63 ?_
    refine lv_iload_n hx hb dX9_readLetter_66 rfl (lv_at hl 0 rfl) ?_
    obtain ⟨hiv9, h⟩ := ar_use h
    refine lM_mo_dLetters hx hb hK hP hiv9 dX9_readLetter_67 ?_
    refine lv_topi (fun v9 ev9 => ?_)
    have h := h v9 ev9
    refine lv_iconst (v := -1) hx hb dX9_readLetter_68 (by decide) ?_
    refine lv_icmp_ne (tgt := 76) hx hb dX9_readLetter_69 (by decide) (fun c10 => ?_) (fun c10 => ?_)
    · have h := ie_use c10 h
      refine lv_iconst (v := 0) hx hb dX9_readLetter_76 (by decide) ?_
      refine lv_iconst (v := 4) hx hb dX9_readLetter_77 (by decide) ?_
      obtain ⟨v11, v12, hc, h⟩ := bd2_use h
      refine cv_v (As := [.int (0 : Int32), .int (4 : Int32)]) (rest := []) ⟨hx, hb, hml, hown, hts⟩ (kX9_wants l n dC dI cB cI cJ cZ a _ m_letters m_words m_wMany m_wLetters m_asks m_aWords m_dLetters m_dWords m_dMany m_dText m_dAsks m_dAsk m_tape m_taped m_pos m_from m_sort m_value m_fault m_wrongAt m_manyA m_rowA m_manyB m_rowB m_places m_xs m_ys m_heights m_ridges m_rx m_rHeight m_lanes m_sizes m_cells m_left m_calls m_cDay m_cHour m_cFrom m_cAsk m_cWord m_cOf m_isLie m_children m_learned m_group (0 : Int32) (4 : Int32) v11 v12 hc) (cwV 2 hts gX9_readLetter_X9_wants rfl rfl rfl (by decide +kernel) ⟨Nat.le_of_ble_eq_true rfl, Nat.le_of_ble_eq_true rfl⟩) EB_0 hE hK hP hD hS hA 0 (ci := 8) rfl rfl rfl rfl hl.1 rfl (Nat.le_of_ble_eq_true rfl) dX9_readLetter_78 ⟨Nat.zero_le _, Nat.zero_le _⟩ (fun H locs hP hD hS => ?_)
      refine lv_aload_n hx hb dX9_readLetter_81 rfl (lv_at hl 1 rfl) ?_
      obtain ⟨v13, v14, v15, v16, v17, v18, hc, h⟩ := bd6_use h
      refine cv_v (As := []) (rest := []) ⟨hx, hb, hml, hown, hts⟩ (kX9_next l n dC dI cB cI cJ cZ a _ m_letters m_words m_wMany m_wLetters m_asks m_aWords m_dLetters m_dWords m_dMany m_dText m_dAsks m_dAsk m_tape m_taped m_pos m_from m_sort m_value v11 v12 m_manyA m_rowA m_manyB m_rowB m_places m_xs m_ys m_heights m_ridges m_rx m_rHeight m_lanes m_sizes m_cells m_left m_calls m_cDay m_cHour m_cFrom m_cAsk m_cWord m_cOf m_isLie m_children m_learned m_group  v13 v14 v15 v16 v17 v18 hc) (cwV 0 hts gX9_readLetter_X9_next rfl rfl rfl (by decide +kernel) ⟨Nat.le_of_ble_eq_true rfl, Nat.le_of_ble_eq_true rfl⟩) EB_0 hE hK hP hD hS hA 0 (ci := 8) rfl rfl rfl rfl hl.1 rfl (Nat.le_of_ble_eq_true rfl) dX9_readLetter_82 ⟨Nat.zero_le _, Nat.zero_le _⟩ (fun H locs hP hD hS => ?_)
      refine lv_iload_n hx hb dX9_readLetter_85 rfl (lv_at hl 2 rfl) ?_
      refine lv_iconst (v := 2) hx hb dX9_readLetter_86 (by decide) ?_
      refine lv_icmp_ne (tgt := 95) hx hb dX9_readLetter_87 (by decide) (fun c19 => ?_) (fun c19 => ?_)
      · have h := ie_use c19 h
        refine lv_bipush (v := 30) hx hb dX9_readLetter_95 (by decide) ?_
        exact kX9_readLetter_p97 dC dI cB cI cJ cZ a C0 n m_letters m_words m_wMany m_wLetters m_asks m_aWords m_dLetters m_dWords m_dMany m_dText m_dAsks m_dAsk m_tape m_taped v13 v14 v15 v16 v17 v18 m_manyA m_rowA m_manyB m_rowB m_places m_xs m_ys m_heights m_ridges m_rx m_rHeight m_lanes m_sizes m_cells m_left m_calls m_cDay m_cHour m_cFrom m_cAsk m_cWord m_cOf m_isLie m_children m_learned m_group x1 s0 (30 : Int32) z_m_dLetters z_m_pos z_m_from z_m_sort z_m_value z_m_fault z_m_wrongAt  _ _ ls h hP hD hS (lv_sub hl [1, 2, 0] rfl)
      · have h := it_use c19 h
        refine lv_bipush (v := 20) hx hb dX9_readLetter_90 (by decide) ?_
        refine lv_goto (tgt := 97) hx hb dX9_readLetter_92 (by decide) ?_
        exact kX9_readLetter_p97 dC dI cB cI cJ cZ a C0 n m_letters m_words m_wMany m_wLetters m_asks m_aWords m_dLetters m_dWords m_dMany m_dText m_dAsks m_dAsk m_tape m_taped v13 v14 v15 v16 v17 v18 m_manyA m_rowA m_manyB m_rowB m_places m_xs m_ys m_heights m_ridges m_rx m_rHeight m_lanes m_sizes m_cells m_left m_calls m_cDay m_cHour m_cFrom m_cAsk m_cWord m_cOf m_isLie m_children m_learned m_group x1 s0 (20 : Int32) z_m_dLetters z_m_pos z_m_from z_m_sort z_m_value z_m_fault z_m_wrongAt  _ _ ls h hP hD hS (lv_sub hl [1, 2, 0] rfl)
    · have h := it_use c10 h
      refine lv_iconst (v := 1) hx hb dX9_readLetter_72 (by decide) ?_
      refine lv_goto (tgt := 77) hx hb dX9_readLetter_73 (by decide) ?_
      refine lv_iconst (v := 4) hx hb dX9_readLetter_77 (by decide) ?_
      obtain ⟨v20, v21, hc, h⟩ := bd2_use h
      refine cv_v (As := [.int (1 : Int32), .int (4 : Int32)]) (rest := []) ⟨hx, hb, hml, hown, hts⟩ (kX9_wants l n dC dI cB cI cJ cZ a _ m_letters m_words m_wMany m_wLetters m_asks m_aWords m_dLetters m_dWords m_dMany m_dText m_dAsks m_dAsk m_tape m_taped m_pos m_from m_sort m_value m_fault m_wrongAt m_manyA m_rowA m_manyB m_rowB m_places m_xs m_ys m_heights m_ridges m_rx m_rHeight m_lanes m_sizes m_cells m_left m_calls m_cDay m_cHour m_cFrom m_cAsk m_cWord m_cOf m_isLie m_children m_learned m_group (1 : Int32) (4 : Int32) v20 v21 hc) (cwV 2 hts gX9_readLetter_X9_wants rfl rfl rfl (by decide +kernel) ⟨Nat.le_of_ble_eq_true rfl, Nat.le_of_ble_eq_true rfl⟩) EB_0 hE hK hP hD hS hA 0 (ci := 8) rfl rfl rfl rfl hl.1 rfl (Nat.le_of_ble_eq_true rfl) dX9_readLetter_78 ⟨Nat.zero_le _, Nat.zero_le _⟩ (fun H locs hP hD hS => ?_)
      refine lv_aload_n hx hb dX9_readLetter_81 rfl (lv_at hl 1 rfl) ?_
      obtain ⟨v22, v23, v24, v25, v26, v27, hc, h⟩ := bd6_use h
      refine cv_v (As := []) (rest := []) ⟨hx, hb, hml, hown, hts⟩ (kX9_next l n dC dI cB cI cJ cZ a _ m_letters m_words m_wMany m_wLetters m_asks m_aWords m_dLetters m_dWords m_dMany m_dText m_dAsks m_dAsk m_tape m_taped m_pos m_from m_sort m_value v20 v21 m_manyA m_rowA m_manyB m_rowB m_places m_xs m_ys m_heights m_ridges m_rx m_rHeight m_lanes m_sizes m_cells m_left m_calls m_cDay m_cHour m_cFrom m_cAsk m_cWord m_cOf m_isLie m_children m_learned m_group  v22 v23 v24 v25 v26 v27 hc) (cwV 0 hts gX9_readLetter_X9_next rfl rfl rfl (by decide +kernel) ⟨Nat.le_of_ble_eq_true rfl, Nat.le_of_ble_eq_true rfl⟩) EB_0 hE hK hP hD hS hA 0 (ci := 8) rfl rfl rfl rfl hl.1 rfl (Nat.le_of_ble_eq_true rfl) dX9_readLetter_82 ⟨Nat.zero_le _, Nat.zero_le _⟩ (fun H locs hP hD hS => ?_)
      refine lv_iload_n hx hb dX9_readLetter_85 rfl (lv_at hl 2 rfl) ?_
      refine lv_iconst (v := 2) hx hb dX9_readLetter_86 (by decide) ?_
      refine lv_icmp_ne (tgt := 95) hx hb dX9_readLetter_87 (by decide) (fun c28 => ?_) (fun c28 => ?_)
      · have h := ie_use c28 h
        refine lv_bipush (v := 30) hx hb dX9_readLetter_95 (by decide) ?_
        exact kX9_readLetter_p97 dC dI cB cI cJ cZ a C0 n m_letters m_words m_wMany m_wLetters m_asks m_aWords m_dLetters m_dWords m_dMany m_dText m_dAsks m_dAsk m_tape m_taped v22 v23 v24 v25 v26 v27 m_manyA m_rowA m_manyB m_rowB m_places m_xs m_ys m_heights m_ridges m_rx m_rHeight m_lanes m_sizes m_cells m_left m_calls m_cDay m_cHour m_cFrom m_cAsk m_cWord m_cOf m_isLie m_children m_learned m_group x1 s0 (30 : Int32) z_m_dLetters z_m_pos z_m_from z_m_sort z_m_value z_m_fault z_m_wrongAt  _ _ ls h hP hD hS (lv_sub hl [1, 2, 0] rfl)
      · have h := it_use c28 h
        refine lv_bipush (v := 20) hx hb dX9_readLetter_90 (by decide) ?_
        refine lv_goto (tgt := 97) hx hb dX9_readLetter_92 (by decide) ?_
        exact kX9_readLetter_p97 dC dI cB cI cJ cZ a C0 n m_letters m_words m_wMany m_wLetters m_asks m_aWords m_dLetters m_dWords m_dMany m_dText m_dAsks m_dAsk m_tape m_taped v22 v23 v24 v25 v26 v27 m_manyA m_rowA m_manyB m_rowB m_places m_xs m_ys m_heights m_ridges m_rx m_rHeight m_lanes m_sizes m_cells m_left m_calls m_cDay m_cHour m_cFrom m_cAsk m_cWord m_cOf m_isLie m_children m_learned m_group x1 s0 (20 : Int32) z_m_dLetters z_m_pos z_m_from z_m_sort z_m_value z_m_fault z_m_wrongAt  _ _ ls h hP hD hS (lv_sub hl [1, 2, 0] rfl)
set_option maxHeartbeats 4000000 in
set_option maxRecDepth 100000 in
theorem kX9_readLetter_p27 {p : Program} {l : Launch} {e : Env} {s : State} {m : MethodId} {args : Array Value} {below : List Frame} {meth : Method} {c : Code} {A : Nat → Prop} (dC : Nat → ClassId) (dI : Nat → Nat → Nat) (cB cI cJ cZ : ClassId) (a : Nat → Nat) (C0 : cxt cX9_readLetter none 4 RX9 wsX9_readLetter (dC, dI) (tyz cB cI cJ cZ) E_0 A p s m args meth c) (n : Nat) (m_letters : Nat → Int32) (m_words : Int32) (m_wMany : Nat → Int32) (m_wLetters : Nat → Int32) (m_asks : Int32) (m_aWords : Nat → Int32) (m_dLetters : Nat → Int32) (m_dWords : Int32) (m_dMany : Nat → Int32) (m_dText : Nat → Int32) (m_dAsks : Int32) (m_dAsk : Nat → Int32) (m_tape : Nat → Int32) (m_taped : Int32) (m_pos : Int32) (m_from : Int32) (m_sort : Int32) (m_value : Int32) (m_fault : Int32) (m_wrongAt : Int32) (m_manyA : Int32) (m_rowA : Nat → Int32) (m_manyB : Int32) (m_rowB : Nat → Int32) (m_places : Int32) (m_xs : Nat → Int32) (m_ys : Nat → Int32) (m_heights : Nat → Int32) (m_ridges : Int32) (m_rx : Nat → Int32) (m_rHeight : Nat → Int32) (m_lanes : Nat → Int32) (m_sizes : Nat → Int32) (m_cells : Nat → Int32) (m_left : Nat → Int32) (m_calls : Int32) (m_cDay : Nat → Int32) (m_cHour : Nat → Int32) (m_cFrom : Nat → Int32) (m_cAsk : Nat → Int32) (m_cWord : Nat → Int32) (m_cOf : Nat → Int32) (m_isLie : Nat → Int32) (m_children : Int32) (m_learned : Nat → Int32) (m_group : Nat → Int32)  (x1 : Int32) (s1 : Int32) (z_m_dLetters : Nat → Int32) (z_m_pos : Int32) (z_m_from : Int32) (z_m_sort : Int32) (z_m_value : Int32) (z_m_fault : Int32) (z_m_wrongAt : Int32)  (H : Heap) (locs : List Loc) (ls : Array Slot) : fX9_readLetter_p27 n m_dLetters m_tape m_taped m_pos m_from m_sort m_value m_fault m_wrongAt x1 s1 = some (z_m_dLetters, z_m_pos, z_m_from, z_m_sort, z_m_value, z_m_fault, z_m_wrongAt) → va_P (dC, dI) vwCl (wM cB cI cJ cZ a m_letters m_words m_wMany m_wLetters m_asks m_aWords m_dLetters m_dWords m_dMany m_dText m_dAsks m_dAsk m_tape m_taped m_pos m_from m_sort m_value m_fault m_wrongAt m_manyA m_rowA m_manyB m_rowB m_places m_xs m_ys m_heights m_ridges m_rx m_rHeight m_lanes m_sizes m_cells m_left m_calls m_cDay m_cHour m_cFrom m_cAsk m_cWord m_cOf m_isLie m_children m_learned m_group) H → va_D A (wM cB cI cJ cZ a m_letters m_words m_wMany m_wLetters m_asks m_aWords m_dLetters m_dWords m_dMany m_dText m_dAsks m_dAsk m_tape m_taped m_pos m_from m_sort m_value m_fault m_wrongAt m_manyA m_rowA m_manyB m_rowB m_places m_xs m_ys m_heights m_ridges m_rx m_rHeight m_lanes m_sizes m_cells m_left m_calls m_cDay m_cHour m_cFrom m_cAsk m_cWord m_cOf m_isLie m_children m_learned m_group) → va_S A s.heap H locs → lv_has ls 4 [(0, .ref (a 0)), (1, .int x1)] → W p l e { frames := 2, cells := 0, slots := 0, locals := 46 } s m args below meth c H locs 0 0 (MQ below (gV (dC, dI) (tyz cB cI cJ cZ) (wM cB cI cJ cZ a m_letters m_words m_wMany m_wLetters m_asks m_aWords z_m_dLetters m_dWords m_dMany m_dText m_dAsks m_dAsk m_tape m_taped z_m_pos z_m_from z_m_sort z_m_value z_m_fault z_m_wrongAt m_manyA m_rowA m_manyB m_rowB m_places m_xs m_ys m_heights m_ridges m_rx m_rHeight m_lanes m_sizes m_cells m_left m_calls m_cDay m_cHour m_cFrom m_cAsk m_cWord m_cOf m_isLie m_children m_learned m_group) A) args s 0 0 A) (F0 m 27 ls [.int s1, .ref (a 0)]) := by
  intro h hP hD hS hl
  obtain ⟨hx, hb, hr, hml, hown, hts, hlocks, hK, hA, hE⟩ := id C0
  have hw0 := hts (.fieldLink RX9 108 "WhistledWordsModel" "fault" "I") (by decide +kernel)
  have hw1 := hts (.fieldLink RX9 111 "WhistledWordsModel" "from" "I") (by decide +kernel)
  have hnX9 : ∀ w ∈ u_ws RX9 TX9 46, w ∈ wsX9_readLetter := fun _ h => List.mem_cons_of_mem _ (List.mem_append_right _ h)
  unfold fX9_readLetter_p27 at h
  refine lv_iconst (v := 2) hx hb dX9_readLetter_27 (by decide) ?_
  obtain ⟨v1, v2, hc, h⟩ := bd2_use h
  refine cv_v (As := [.int s1, .int (2 : Int32)]) (rest := []) ⟨hx, hb, hml, hown, hts⟩ (kX9_wants l n dC dI cB cI cJ cZ a _ m_letters m_words m_wMany m_wLetters m_asks m_aWords m_dLetters m_dWords m_dMany m_dText m_dAsks m_dAsk m_tape m_taped m_pos m_from m_sort m_value m_fault m_wrongAt m_manyA m_rowA m_manyB m_rowB m_places m_xs m_ys m_heights m_ridges m_rx m_rHeight m_lanes m_sizes m_cells m_left m_calls m_cDay m_cHour m_cFrom m_cAsk m_cWord m_cOf m_isLie m_children m_learned m_group s1 (2 : Int32) v1 v2 hc) (cwV 2 hts gX9_readLetter_X9_wants rfl rfl rfl (by decide +kernel) ⟨Nat.le_of_ble_eq_true rfl, Nat.le_of_ble_eq_true rfl⟩) EB_0 hE hK hP hD hS hA 0 (ci := 8) rfl rfl rfl rfl hl.1 rfl (Nat.le_of_ble_eq_true rfl) dX9_readLetter_28 ⟨Nat.zero_le _, Nat.zero_le _⟩ (fun H locs hP hD hS => ?_)
  refine lv_aload_n hx hb dX9_readLetter_31 rfl (lv_at hl 0 rfl) ?_
  refine gM_mo_fault hx hb hts hnX9 hown hK hP hw0 dX9_readLetter_32 ?_
  refine lv_if_ne (tgt := 52) hx hb dX9_readLetter_35 (by decide) (fun c3 => ?_) (fun c3 => ?_)
  · have h := ie_use c3 h
    refine lv_iconst (v := 0) hx hb dX9_readLetter_52 (by decide) ?_
    exact kX9_readLetter_p53 dC dI cB cI cJ cZ a C0 n m_letters m_words m_wMany m_wLetters m_asks m_aWords m_dLetters m_dWords m_dMany m_dText m_dAsks m_dAsk m_tape m_taped m_pos m_from m_sort m_value v1 v2 m_manyA m_rowA m_manyB m_rowB m_places m_xs m_ys m_heights m_ridges m_rx m_rHeight m_lanes m_sizes m_cells m_left m_calls m_cDay m_cHour m_cFrom m_cAsk m_cWord m_cOf m_isLie m_children m_learned m_group x1 (0 : Int32) z_m_dLetters z_m_pos z_m_from z_m_sort z_m_value z_m_fault z_m_wrongAt  _ _ ls h hP hD hS (lv_sub hl [0, 1] rfl)
  · have h := it_use c3 h
    refine lv_aload_n hx hb dX9_readLetter_38 rfl (lv_at hl 0 rfl) ?_
    refine lv_aload_n hx hb dX9_readLetter_39 rfl (lv_at hl 0 rfl) ?_
    refine gM_mo_from hx hb hts hnX9 hown hK hP hw1 dX9_readLetter_40 ?_
    obtain ⟨v4, hc, h⟩ := bd1_use h
    refine cv_i (As := [.int m_from]) (rest := []) ⟨hx, hb, hml, hown, hts⟩ (kX9_look l n dC dI cB cI cJ cZ a _ m_letters m_words m_wMany m_wLetters m_asks m_aWords m_dLetters m_dWords m_dMany m_dText m_dAsks m_dAsk m_tape m_taped m_pos m_from m_sort m_value v1 v2 m_manyA m_rowA m_manyB m_rowB m_places m_xs m_ys m_heights m_ridges m_rx m_rHeight m_lanes m_sizes m_cells m_left m_calls m_cDay m_cHour m_cFrom m_cAsk m_cWord m_cOf m_isLie m_children m_learned m_group m_from v4 hc) (cwV 1 hts gX9_readLetter_X9_look rfl rfl rfl (by decide +kernel) ⟨Nat.le_of_ble_eq_true rfl, Nat.le_of_ble_eq_true rfl⟩) EB_0 hE hK hP hD hS hA 0 (ci := 8) rfl rfl rfl rfl hl.1 rfl (Nat.le_of_ble_eq_true rfl) dX9_readLetter_43 ⟨Nat.zero_le _, Nat.zero_le _⟩ (fun H locs hP hD hS => ?_)
    refine lv_bipush (v := 97) hx hb dX9_readLetter_46 (by decide) ?_
    refine lv_isub hx hb dX9_readLetter_48 ?_
    refine lv_goto (tgt := 53) hx hb dX9_readLetter_49 (by decide) ?_
    exact kX9_readLetter_p53 dC dI cB cI cJ cZ a C0 n m_letters m_words m_wMany m_wLetters m_asks m_aWords m_dLetters m_dWords m_dMany m_dText m_dAsks m_dAsk m_tape m_taped m_pos m_from m_sort m_value v1 v2 m_manyA m_rowA m_manyB m_rowB m_places m_xs m_ys m_heights m_ridges m_rx m_rHeight m_lanes m_sizes m_cells m_left m_calls m_cDay m_cHour m_cFrom m_cAsk m_cWord m_cOf m_isLie m_children m_learned m_group x1 (v4 - (97 : Int32)) z_m_dLetters z_m_pos z_m_from z_m_sort z_m_value z_m_fault z_m_wrongAt  _ _ ls h hP hD hS (lv_sub hl [0, 1] rfl)
set_option maxHeartbeats 4000000 in
set_option maxRecDepth 100000 in
theorem kX9_readLetter (l : Launch) (n : Nat) (dC : Nat → ClassId) (dI : Nat → Nat → Nat) (cB cI cJ cZ : ClassId) (a : Nat → Nat) (sz : Nat) (m_letters : Nat → Int32) (m_words : Int32) (m_wMany : Nat → Int32) (m_wLetters : Nat → Int32) (m_asks : Int32) (m_aWords : Nat → Int32) (m_dLetters : Nat → Int32) (m_dWords : Int32) (m_dMany : Nat → Int32) (m_dText : Nat → Int32) (m_dAsks : Int32) (m_dAsk : Nat → Int32) (m_tape : Nat → Int32) (m_taped : Int32) (m_pos : Int32) (m_from : Int32) (m_sort : Int32) (m_value : Int32) (m_fault : Int32) (m_wrongAt : Int32) (m_manyA : Int32) (m_rowA : Nat → Int32) (m_manyB : Int32) (m_rowB : Nat → Int32) (m_places : Int32) (m_xs : Nat → Int32) (m_ys : Nat → Int32) (m_heights : Nat → Int32) (m_ridges : Int32) (m_rx : Nat → Int32) (m_rHeight : Nat → Int32) (m_lanes : Nat → Int32) (m_sizes : Nat → Int32) (m_cells : Nat → Int32) (m_left : Nat → Int32) (m_calls : Int32) (m_cDay : Nat → Int32) (m_cHour : Nat → Int32) (m_cFrom : Nat → Int32) (m_cAsk : Nat → Int32) (m_cWord : Nat → Int32) (m_cOf : Nat → Int32) (m_isLie : Nat → Int32) (m_children : Int32) (m_learned : Nat → Int32) (m_group : Nat → Int32) (x1 : Int32) (z_m_dLetters : Nat → Int32) (z_m_pos : Int32) (z_m_from : Int32) (z_m_sort : Int32) (z_m_value : Int32) (z_m_fault : Int32) (z_m_wrongAt : Int32) (h : fX9_readLetter n m_dLetters m_tape m_taped m_pos m_from m_sort m_value m_fault m_wrongAt x1 = some (z_m_dLetters, z_m_pos, z_m_from, z_m_sort, z_m_value, z_m_fault, z_m_wrongAt)) : Met l yX9_readLetter wsX9_readLetter ({ frames := 2, cells := 0, slots := 0, locals := 46 }) (gP (dC, dI) (tyz cB cI cJ cZ) E_0 (wM cB cI cJ cZ a m_letters m_words m_wMany m_wLetters m_asks m_aWords m_dLetters m_dWords m_dMany m_dText m_dAsks m_dAsk m_tape m_taped m_pos m_from m_sort m_value m_fault m_wrongAt m_manyA m_rowA m_manyB m_rowB m_places m_xs m_ys m_heights m_ridges m_rx m_rHeight m_lanes m_sizes m_cells m_left m_calls m_cDay m_cHour m_cFrom m_cAsk m_cWord m_cOf m_isLie m_children m_learned m_group) sz [.ref (a 0), .int x1]) (gV (dC, dI) (tyz cB cI cJ cZ) (wM cB cI cJ cZ a m_letters m_words m_wMany m_wLetters m_asks m_aWords z_m_dLetters m_dWords m_dMany m_dText m_dAsks m_dAsk m_tape m_taped z_m_pos z_m_from z_m_sort z_m_value z_m_fault z_m_wrongAt m_manyA m_rowA m_manyB m_rowB m_places m_xs m_ys m_heights m_ridges m_rx m_rHeight m_lanes m_sizes m_cells m_left m_calls m_cDay m_cHour m_cFrom m_cAsk m_cWord m_cOf m_isLie m_children m_learned m_group) (va_A (wM cB cI cJ cZ a m_letters m_words m_wMany m_wLetters m_asks m_aWords m_dLetters m_dWords m_dMany m_dText m_dAsks m_dAsk m_tape m_taped m_pos m_from m_sort m_value m_fault m_wrongAt m_manyA m_rowA m_manyB m_rowB m_places m_xs m_ys m_heights m_ridges m_rx m_rHeight m_lanes m_sizes m_cells m_left m_calls m_cDay m_cHour m_cFrom m_cAsk m_cWord m_cOf m_isLie m_children m_learned m_group) sz)) 0 0 (va_A (wM cB cI cJ cZ a m_letters m_words m_wMany m_wLetters m_asks m_aWords m_dLetters m_dWords m_dMany m_dText m_dAsks m_dAsk m_tape m_taped m_pos m_from m_sort m_value m_fault m_wrongAt m_manyA m_rowA m_manyB m_rowB m_places m_xs m_ys m_heights m_ridges m_rx m_rHeight m_lanes m_sizes m_cells m_left m_calls m_cDay m_cHour m_cFrom m_cAsk m_cWord m_cOf m_isLie m_children m_learned m_group) sz) := by
  refine Met.ofW (cc := cX9_readLetter) (maxL := 4) (ret := none) (by decide) rfl ?_
  intro p e s m args below meth c s₁ B hml hv
  obtain ⟨rfl, hsz, hP, hK, hD0, hE⟩ := hv
  have hx := B.exec
  have hb := B.bytes
  have hr := B.returns
  have hts := atoms_spec (ws := wsX9_readLetter) B.pre
  have hown : s.vm.findClass RX9 = some m.cls := findClass_of_methodNamed B.named
  have hlocks := B.notSynchronized
  subst hsz
  have hD := hD0.self (sz := s.heap.size)
  have hA : ∀ q : Nat, s.heap.size ≤ q → va_A (wM cB cI cJ cZ a m_letters m_words m_wMany m_wLetters m_asks m_aWords m_dLetters m_dWords m_dMany m_dText m_dAsks m_dAsk m_tape m_taped m_pos m_from m_sort m_value m_fault m_wrongAt m_manyA m_rowA m_manyB m_rowB m_places m_xs m_ys m_heights m_ridges m_rx m_rHeight m_lanes m_sizes m_cells m_left m_calls m_cDay m_cHour m_cFrom m_cAsk m_cWord m_cOf m_isLie m_children m_learned m_group) s.heap.size q := fun q h => Or.inr h
  generalize va_A (wM cB cI cJ cZ a m_letters m_words m_wMany m_wLetters m_asks m_aWords m_dLetters m_dWords m_dMany m_dText m_dAsks m_dAsk m_tape m_taped m_pos m_from m_sort m_value m_fault m_wrongAt m_manyA m_rowA m_manyB m_rowB m_places m_xs m_ys m_heights m_ridges m_rx m_rHeight m_lanes m_sizes m_cells m_left m_calls m_cDay m_cHour m_cFrom m_cAsk m_cWord m_cOf m_isLie m_children m_learned m_group) s.heap.size = A at hD hA hE ⊢
  have hS : va_S A s.heap s.heap [] := va_S.rf
  have C0 : cxt cX9_readLetter none 4 RX9 wsX9_readLetter (dC, dI) (tyz cB cI cJ cZ) E_0 A p s m ([.ref (a 0), .int x1] : List Value).toArray meth c := ⟨hx, hb, hr, hml, hown, hts, hlocks, hK, hA, hE⟩
  have hl := lv_entry ([.ref (a 0), .int x1]) (n := 4) (Nat.le_of_ble_eq_true rfl)
  rw [lg_entry_eq]
  generalize (lg_sl ([.ref (a 0), .int x1]) ++ List.replicate (4 - (lg_sl ([.ref (a 0), .int x1])).length) Slot.unset).toArray = ls at hl ⊢
  have hl : lv_has ls 4 [(0, .ref (a 0)), (1, .int x1)] := hl
  have hw0 := hts (.fieldLink RX9 124 "WhistledWordsModel" "sort" "I") (by decide +kernel)
  have hw1 := hts (.fieldLink RX9 117 "WhistledWordsModel" "pos" "I") (by decide +kernel)
  have hw2 := hts (.fieldLink RX9 111 "WhistledWordsModel" "from" "I") (by decide +kernel)
  have hnX9 : ∀ w ∈ u_ws RX9 TX9 46, w ∈ wsX9_readLetter := fun _ h => List.mem_cons_of_mem _ (List.mem_append_right _ h)
  unfold fX9_readLetter at h
  refine lv_aload_n hx hb dX9_readLetter_0 rfl (lv_at hl 0 rfl) ?_
  refine lv_aload_n hx hb dX9_readLetter_1 rfl (lv_at hl 0 rfl) ?_
  refine gM_mo_sort hx hb hts hnX9 hown hK hP hw0 dX9_readLetter_2 ?_
  refine lv_iconst (v := 1) hx hb dX9_readLetter_5 (by decide) ?_
  refine lv_icmp_ne (tgt := 26) hx hb dX9_readLetter_6 (by decide) (fun c1 => ?_) (fun c1 => ?_)
  · have h := ie_use c1 h
    refine lv_iconst (v := 0) hx hb dX9_readLetter_26 (by decide) ?_
    exact kX9_readLetter_p27 dC dI cB cI cJ cZ a C0 n m_letters m_words m_wMany m_wLetters m_asks m_aWords m_dLetters m_dWords m_dMany m_dText m_dAsks m_dAsk m_tape m_taped m_pos m_from m_sort m_value m_fault m_wrongAt m_manyA m_rowA m_manyB m_rowB m_places m_xs m_ys m_heights m_ridges m_rx m_rHeight m_lanes m_sizes m_cells m_left m_calls m_cDay m_cHour m_cFrom m_cAsk m_cWord m_cOf m_isLie m_children m_learned m_group x1 (0 : Int32) z_m_dLetters z_m_pos z_m_from z_m_sort z_m_value z_m_fault z_m_wrongAt  _ _ ls h hP hD hS (lv_sub hl [0, 1] rfl)
  · have h := it_use c1 h
    refine lv_aload_n hx hb dX9_readLetter_9 rfl (lv_at hl 0 rfl) ?_
    refine gM_mo_pos hx hb hts hnX9 hown hK hP hw1 dX9_readLetter_10 ?_
    refine lv_aload_n hx hb dX9_readLetter_13 rfl (lv_at hl 0 rfl) ?_
    refine gM_mo_from hx hb hts hnX9 hown hK hP hw2 dX9_readLetter_14 ?_
    refine lv_isub hx hb dX9_readLetter_17 ?_
    refine lv_iconst (v := 1) hx hb dX9_readLetter_18 (by decide) ?_
    refine lv_icmp_ne (tgt := 26) hx hb dX9_readLetter_19 (by decide) (fun c2 => ?_) (fun c2 => ?_)
    · have h := ie_use c2 h
      refine lv_iconst (v := 0) hx hb dX9_readLetter_26 (by decide) ?_
      exact kX9_readLetter_p27 dC dI cB cI cJ cZ a C0 n m_letters m_words m_wMany m_wLetters m_asks m_aWords m_dLetters m_dWords m_dMany m_dText m_dAsks m_dAsk m_tape m_taped m_pos m_from m_sort m_value m_fault m_wrongAt m_manyA m_rowA m_manyB m_rowB m_places m_xs m_ys m_heights m_ridges m_rx m_rHeight m_lanes m_sizes m_cells m_left m_calls m_cDay m_cHour m_cFrom m_cAsk m_cWord m_cOf m_isLie m_children m_learned m_group x1 (0 : Int32) z_m_dLetters z_m_pos z_m_from z_m_sort z_m_value z_m_fault z_m_wrongAt  _ _ ls h hP hD hS (lv_sub hl [0, 1] rfl)
    · have h := it_use c2 h
      refine lv_iconst (v := 1) hx hb dX9_readLetter_22 (by decide) ?_
      refine lv_goto (tgt := 27) hx hb dX9_readLetter_23 (by decide) ?_
      exact kX9_readLetter_p27 dC dI cB cI cJ cZ a C0 n m_letters m_words m_wMany m_wLetters m_asks m_aWords m_dLetters m_dWords m_dMany m_dText m_dAsks m_dAsk m_tape m_taped m_pos m_from m_sort m_value m_fault m_wrongAt m_manyA m_rowA m_manyB m_rowB m_places m_xs m_ys m_heights m_ridges m_rx m_rHeight m_lanes m_sizes m_cells m_left m_calls m_cDay m_cHour m_cFrom m_cAsk m_cWord m_cOf m_isLie m_children m_learned m_group x1 (1 : Int32) z_m_dLetters z_m_pos z_m_from z_m_sort z_m_value z_m_fault z_m_wrongAt  _ _ ls h hP hD hS (lv_sub hl [0, 1] rfl)
set_option maxHeartbeats 4000000 in
set_option maxRecDepth 100000 in
theorem kX9_isSameWord_p26_r {p : Program} {l : Launch} {e : Env} {s : State} {m : MethodId} {args : Array Value} {below : List Frame} {meth : Method} {c : Code} {A : Nat → Prop} (dC : Nat → ClassId) (dI : Nat → Nat → Nat) (cB cI cJ cZ : ClassId) (a : Nat → Nat) (C0 : cxt cX9_isSameWord (some .boolean) 4 RX9 wsX9_isSameWord (dC, dI) (tyz cB cI cJ cZ) E_0 A p s m args meth c) (n : Nat) (m_letters : Nat → Int32) (m_words : Int32) (m_wMany : Nat → Int32) (m_wLetters : Nat → Int32) (m_asks : Int32) (m_aWords : Nat → Int32) (m_dLetters : Nat → Int32) (m_dWords : Int32) (m_dMany : Nat → Int32) (m_dText : Nat → Int32) (m_dAsks : Int32) (m_dAsk : Nat → Int32) (m_tape : Nat → Int32) (m_taped : Int32) (m_pos : Int32) (m_from : Int32) (m_sort : Int32) (m_value : Int32) (m_fault : Int32) (m_wrongAt : Int32) (m_manyA : Int32) (m_rowA : Nat → Int32) (m_manyB : Int32) (m_rowB : Nat → Int32) (m_places : Int32) (m_xs : Nat → Int32) (m_ys : Nat → Int32) (m_heights : Nat → Int32) (m_ridges : Int32) (m_rx : Nat → Int32) (m_rHeight : Nat → Int32) (m_lanes : Nat → Int32) (m_sizes : Nat → Int32) (m_cells : Nat → Int32) (m_left : Nat → Int32) (m_calls : Int32) (m_cDay : Nat → Int32) (m_cHour : Nat → Int32) (m_cFrom : Nat → Int32) (m_cAsk : Nat → Int32) (m_cWord : Nat → Int32) (m_cOf : Nat → Int32) (m_isLie : Nat → Int32) (m_children : Int32) (m_learned : Nat → Int32) (m_group : Nat → Int32) (x1 : Int32) (r0 : Int32)  : ∀ (k : Nat) (x2 : Int32) (x3 : Int32) (H : Heap) (locs : List Loc) (ls : Array Slot), fX9_isSameWord_p26 n m_dMany m_dText m_tape m_taped m_from x1 k x2 x3 = some r0 → va_P (dC, dI) vwCl (wM cB cI cJ cZ a m_letters m_words m_wMany m_wLetters m_asks m_aWords m_dLetters m_dWords m_dMany m_dText m_dAsks m_dAsk m_tape m_taped m_pos m_from m_sort m_value m_fault m_wrongAt m_manyA m_rowA m_manyB m_rowB m_places m_xs m_ys m_heights m_ridges m_rx m_rHeight m_lanes m_sizes m_cells m_left m_calls m_cDay m_cHour m_cFrom m_cAsk m_cWord m_cOf m_isLie m_children m_learned m_group) H → va_D A (wM cB cI cJ cZ a m_letters m_words m_wMany m_wLetters m_asks m_aWords m_dLetters m_dWords m_dMany m_dText m_dAsks m_dAsk m_tape m_taped m_pos m_from m_sort m_value m_fault m_wrongAt m_manyA m_rowA m_manyB m_rowB m_places m_xs m_ys m_heights m_ridges m_rx m_rHeight m_lanes m_sizes m_cells m_left m_calls m_cDay m_cHour m_cFrom m_cAsk m_cWord m_cOf m_isLie m_children m_learned m_group) → va_S A s.heap H locs → lv_has ls 4 [(0, .ref (a 0)), (1, .int x1), (2, .int x2), (3, .int x3)] → W p l e { frames := 1, cells := 0, slots := 0, locals := 21 } s m args below meth c H locs 0 0 (MQ below (gI (dC, dI) (tyz cB cI cJ cZ) (wM cB cI cJ cZ a m_letters m_words m_wMany m_wLetters m_asks m_aWords m_dLetters m_dWords m_dMany m_dText m_dAsks m_dAsk m_tape m_taped m_pos m_from m_sort m_value m_fault m_wrongAt m_manyA m_rowA m_manyB m_rowB m_places m_xs m_ys m_heights m_ridges m_rx m_rHeight m_lanes m_sizes m_cells m_left m_calls m_cDay m_cHour m_cFrom m_cAsk m_cWord m_cOf m_isLie m_children m_learned m_group) A r0) args s 0 0 A) (F0 m 26 ls []) := by
  obtain ⟨hx, hb, hr, hml, hown, hts, hlocks, hK, hA, hE⟩ := id C0
  have hw0 := hts (.fieldLink RX9 25 "WhistledWordsModel" "dMany" "[I") (by decide +kernel)
  have hw1 := hts (.fieldLink RX9 28 "WhistledWordsModel" "dText" "[I") (by decide +kernel)
  have hw2 := hts (.fieldLink RX9 111 "WhistledWordsModel" "from" "I") (by decide +kernel)
  have hnX9 : ∀ w ∈ u_ws RX9 TX9 46, w ∈ wsX9_isSameWord := fun _ h => List.mem_cons_of_mem _ (List.mem_append_right _ h)
  intro k
  induction k with
  | zero =>
    intro x2 x3 H locs ls h
    cases h
  | succ k ih =>
    intro x2 x3 H locs ls h hP hD hS hl
    rw [fX9_isSameWord_p26] at h
    refine lv_iload_n hx hb dX9_isSameWord_26 rfl (lv_at hl 3 rfl) ?_
    refine lv_aload_n hx hb dX9_isSameWord_27 rfl (lv_at hl 0 rfl) ?_
    refine gM_mo_dMany hx hb hts hnX9 hown hK hP hw0 dX9_isSameWord_28 ?_
    refine lv_iload_n hx hb dX9_isSameWord_31 rfl (lv_at hl 1 rfl) ?_
    obtain ⟨hiv1, h⟩ := ar_use h
    refine lM_mo_dMany hx hb hK hP hiv1 dX9_isSameWord_32 ?_
    refine lv_topi (fun v1 ev1 => ?_)
    have h := h v1 ev1
    refine lv_icmp_ge (tgt := 79) hx hb dX9_isSameWord_33 (by decide) (fun c2 => ?_) (fun c2 => ?_)
    · have h := it_use c2 h
      refine lv_iload_n hx hb dX9_isSameWord_79 rfl (lv_at hl 2 rfl) ?_
      obtain ⟨hzb, h⟩ := rb_use h
      obtain er := rt1_use h
      exact re_z hx hb hr hlocks hK hP hD hS hzb er dX9_isSameWord_80
    · have h := ie_use c2 h
      refine lv_iload_n hx hb dX9_isSameWord_36 rfl (lv_at hl 2 rfl) ?_
      refine lv_if_eq (tgt := 79) hx hb dX9_isSameWord_37 (by decide) (fun c3 => ?_) (fun c3 => ?_)
      · have h := it_use c3 h
        refine lv_iload_n hx hb dX9_isSameWord_79 rfl (lv_at hl 2 rfl) ?_
        obtain ⟨hzb, h⟩ := rb_use h
        obtain er := rt1_use h
        exact re_z hx hb hr hlocks hK hP hD hS hzb er dX9_isSameWord_80
      · have h := ie_use c3 h
        refine lv_aload_n hx hb dX9_isSameWord_40 rfl (lv_at hl 0 rfl) ?_
        refine gM_mo_dText hx hb hts hnX9 hown hK hP hw1 dX9_isSameWord_41 ?_
        refine lv_bipush (v := 8) hx hb dX9_isSameWord_44 (by decide) ?_
        refine lv_iload_n hx hb dX9_isSameWord_46 rfl (lv_at hl 1 rfl) ?_
        refine lv_imul hx hb dX9_isSameWord_47 ?_
        refine lv_iload_n hx hb dX9_isSameWord_48 rfl (lv_at hl 3 rfl) ?_
        refine lv_iadd hx hb dX9_isSameWord_49 ?_
        obtain ⟨hiv4, h⟩ := ar_use h
        refine lM_mo_dText hx hb hK hP hiv4 dX9_isSameWord_50 ?_
        refine lv_topi (fun v4 ev4 => ?_)
        have h := h v4 ev4
        refine lv_aload_n hx hb dX9_isSameWord_51 rfl (lv_at hl 0 rfl) ?_
        refine lv_aload_n hx hb dX9_isSameWord_52 rfl (lv_at hl 0 rfl) ?_
        refine gM_mo_from hx hb hts hnX9 hown hK hP hw2 dX9_isSameWord_53 ?_
        refine lv_iload_n hx hb dX9_isSameWord_56 rfl (lv_at hl 3 rfl) ?_
        refine lv_iadd hx hb dX9_isSameWord_57 ?_
        obtain ⟨v5, hc, h⟩ := bd1_use h
        refine cv_i (As := [.int (m_from + x3)]) (rest := [.int v4]) ⟨hx, hb, hml, hown, hts⟩ (kX9_look l n dC dI cB cI cJ cZ a _ m_letters m_words m_wMany m_wLetters m_asks m_aWords m_dLetters m_dWords m_dMany m_dText m_dAsks m_dAsk m_tape m_taped m_pos m_from m_sort m_value m_fault m_wrongAt m_manyA m_rowA m_manyB m_rowB m_places m_xs m_ys m_heights m_ridges m_rx m_rHeight m_lanes m_sizes m_cells m_left m_calls m_cDay m_cHour m_cFrom m_cAsk m_cWord m_cOf m_isLie m_children m_learned m_group (m_from + x3) v5 hc) (cwV 1 hts gX9_isSameWord_X9_look rfl rfl rfl (by decide +kernel) ⟨Nat.le_of_ble_eq_true rfl, Nat.le_of_ble_eq_true rfl⟩) EB_0 hE hK hP hD hS hA 0 (ci := 8) rfl rfl rfl rfl hl.1 rfl (Nat.le_of_ble_eq_true rfl) dX9_isSameWord_58 ⟨Nat.zero_le _, Nat.zero_le _⟩ (fun H locs hP hD hS => ?_)
        refine lv_bipush (v := 97) hx hb dX9_isSameWord_61 (by decide) ?_
        refine lv_isub hx hb dX9_isSameWord_63 ?_
        refine lv_icmp_ne (tgt := 71) hx hb dX9_isSameWord_64 (by decide) (fun c6 => ?_) (fun c6 => ?_)
        · have h := ie_use c6 h
          refine lv_iconst (v := 0) hx hb dX9_isSameWord_71 (by decide) ?_
          refine lv_istore_n (lv' := [(2, .int (0 : Int32)), (0, .ref (a 0)), (1, .int x1), (3, .int x3)]) hx hb dX9_isSameWord_72 rfl hl (by decide) rfl (fun ls hl => ?_)
          refine lv_iinc (v := x3 + 1) (lv' := [(3, .int (x3 + 1)), (2, .int (0 : Int32)), (0, .ref (a 0)), (1, .int x1)]) hx hb dX9_isSameWord_73 hl (k := 3) rfl rfl (by decide) rfl (fun ls hl => ?_)
          refine lv_goto (tgt := 26) hx hb dX9_isSameWord_76 (by decide) ?_
          exact ih (0 : Int32) (x3 + 1) _ _ ls h hP hD hS (lv_sub hl [2, 3, 1, 0] rfl)
        · have h := it_use c6 h
          refine lv_iconst (v := 1) hx hb dX9_isSameWord_67 (by decide) ?_
          refine lv_goto (tgt := 72) hx hb dX9_isSameWord_68 (by decide) ?_
          refine lv_istore_n (lv' := [(2, .int (1 : Int32)), (0, .ref (a 0)), (1, .int x1), (3, .int x3)]) hx hb dX9_isSameWord_72 rfl hl (by decide) rfl (fun ls hl => ?_)
          refine lv_iinc (v := x3 + 1) (lv' := [(3, .int (x3 + 1)), (2, .int (1 : Int32)), (0, .ref (a 0)), (1, .int x1)]) hx hb dX9_isSameWord_73 hl (k := 3) rfl rfl (by decide) rfl (fun ls hl => ?_)
          refine lv_goto (tgt := 26) hx hb dX9_isSameWord_76 (by decide) ?_
          exact ih (1 : Int32) (x3 + 1) _ _ ls h hP hD hS (lv_sub hl [2, 3, 1, 0] rfl)
theorem kX9_isSameWord_p26 {p : Program} {l : Launch} {e : Env} {s : State} {m : MethodId} {args : Array Value} {below : List Frame} {meth : Method} {c : Code} {A : Nat → Prop} (dC : Nat → ClassId) (dI : Nat → Nat → Nat) (cB cI cJ cZ : ClassId) (a : Nat → Nat) (C0 : cxt cX9_isSameWord (some .boolean) 4 RX9 wsX9_isSameWord (dC, dI) (tyz cB cI cJ cZ) E_0 A p s m args meth c) (n : Nat) (m_letters : Nat → Int32) (m_words : Int32) (m_wMany : Nat → Int32) (m_wLetters : Nat → Int32) (m_asks : Int32) (m_aWords : Nat → Int32) (m_dLetters : Nat → Int32) (m_dWords : Int32) (m_dMany : Nat → Int32) (m_dText : Nat → Int32) (m_dAsks : Int32) (m_dAsk : Nat → Int32) (m_tape : Nat → Int32) (m_taped : Int32) (m_pos : Int32) (m_from : Int32) (m_sort : Int32) (m_value : Int32) (m_fault : Int32) (m_wrongAt : Int32) (m_manyA : Int32) (m_rowA : Nat → Int32) (m_manyB : Int32) (m_rowB : Nat → Int32) (m_places : Int32) (m_xs : Nat → Int32) (m_ys : Nat → Int32) (m_heights : Nat → Int32) (m_ridges : Int32) (m_rx : Nat → Int32) (m_rHeight : Nat → Int32) (m_lanes : Nat → Int32) (m_sizes : Nat → Int32) (m_cells : Nat → Int32) (m_left : Nat → Int32) (m_calls : Int32) (m_cDay : Nat → Int32) (m_cHour : Nat → Int32) (m_cFrom : Nat → Int32) (m_cAsk : Nat → Int32) (m_cWord : Nat → Int32) (m_cOf : Nat → Int32) (m_isLie : Nat → Int32) (m_children : Int32) (m_learned : Nat → Int32) (m_group : Nat → Int32)  (x1 : Int32) (x2 : Int32) (x3 : Int32) (r0 : Int32)  (k : Nat) (H : Heap) (locs : List Loc) (ls : Array Slot) : fX9_isSameWord_p26 n m_dMany m_dText m_tape m_taped m_from x1 k x2 x3 = some r0 → va_P (dC, dI) vwCl (wM cB cI cJ cZ a m_letters m_words m_wMany m_wLetters m_asks m_aWords m_dLetters m_dWords m_dMany m_dText m_dAsks m_dAsk m_tape m_taped m_pos m_from m_sort m_value m_fault m_wrongAt m_manyA m_rowA m_manyB m_rowB m_places m_xs m_ys m_heights m_ridges m_rx m_rHeight m_lanes m_sizes m_cells m_left m_calls m_cDay m_cHour m_cFrom m_cAsk m_cWord m_cOf m_isLie m_children m_learned m_group) H → va_D A (wM cB cI cJ cZ a m_letters m_words m_wMany m_wLetters m_asks m_aWords m_dLetters m_dWords m_dMany m_dText m_dAsks m_dAsk m_tape m_taped m_pos m_from m_sort m_value m_fault m_wrongAt m_manyA m_rowA m_manyB m_rowB m_places m_xs m_ys m_heights m_ridges m_rx m_rHeight m_lanes m_sizes m_cells m_left m_calls m_cDay m_cHour m_cFrom m_cAsk m_cWord m_cOf m_isLie m_children m_learned m_group) → va_S A s.heap H locs → lv_has ls 4 [(0, .ref (a 0)), (1, .int x1), (2, .int x2), (3, .int x3)] → W p l e { frames := 1, cells := 0, slots := 0, locals := 21 } s m args below meth c H locs 0 0 (MQ below (gI (dC, dI) (tyz cB cI cJ cZ) (wM cB cI cJ cZ a m_letters m_words m_wMany m_wLetters m_asks m_aWords m_dLetters m_dWords m_dMany m_dText m_dAsks m_dAsk m_tape m_taped m_pos m_from m_sort m_value m_fault m_wrongAt m_manyA m_rowA m_manyB m_rowB m_places m_xs m_ys m_heights m_ridges m_rx m_rHeight m_lanes m_sizes m_cells m_left m_calls m_cDay m_cHour m_cFrom m_cAsk m_cWord m_cOf m_isLie m_children m_learned m_group) A r0) args s 0 0 A) (F0 m 26 ls []) :=
  kX9_isSameWord_p26_r dC dI cB cI cJ cZ a C0 n m_letters m_words m_wMany m_wLetters m_asks m_aWords m_dLetters m_dWords m_dMany m_dText m_dAsks m_dAsk m_tape m_taped m_pos m_from m_sort m_value m_fault m_wrongAt m_manyA m_rowA m_manyB m_rowB m_places m_xs m_ys m_heights m_ridges m_rx m_rHeight m_lanes m_sizes m_cells m_left m_calls m_cDay m_cHour m_cFrom m_cAsk m_cWord m_cOf m_isLie m_children m_learned m_group x1 r0  k x2 x3 H locs ls
set_option maxHeartbeats 4000000 in
set_option maxRecDepth 100000 in
theorem kX9_isSameWord (l : Launch) (n : Nat) (dC : Nat → ClassId) (dI : Nat → Nat → Nat) (cB cI cJ cZ : ClassId) (a : Nat → Nat) (sz : Nat) (m_letters : Nat → Int32) (m_words : Int32) (m_wMany : Nat → Int32) (m_wLetters : Nat → Int32) (m_asks : Int32) (m_aWords : Nat → Int32) (m_dLetters : Nat → Int32) (m_dWords : Int32) (m_dMany : Nat → Int32) (m_dText : Nat → Int32) (m_dAsks : Int32) (m_dAsk : Nat → Int32) (m_tape : Nat → Int32) (m_taped : Int32) (m_pos : Int32) (m_from : Int32) (m_sort : Int32) (m_value : Int32) (m_fault : Int32) (m_wrongAt : Int32) (m_manyA : Int32) (m_rowA : Nat → Int32) (m_manyB : Int32) (m_rowB : Nat → Int32) (m_places : Int32) (m_xs : Nat → Int32) (m_ys : Nat → Int32) (m_heights : Nat → Int32) (m_ridges : Int32) (m_rx : Nat → Int32) (m_rHeight : Nat → Int32) (m_lanes : Nat → Int32) (m_sizes : Nat → Int32) (m_cells : Nat → Int32) (m_left : Nat → Int32) (m_calls : Int32) (m_cDay : Nat → Int32) (m_cHour : Nat → Int32) (m_cFrom : Nat → Int32) (m_cAsk : Nat → Int32) (m_cWord : Nat → Int32) (m_cOf : Nat → Int32) (m_isLie : Nat → Int32) (m_children : Int32) (m_learned : Nat → Int32) (m_group : Nat → Int32) (x1 : Int32) (r0 : Int32) (h : fX9_isSameWord n m_dMany m_dText m_tape m_taped m_pos m_from x1 = some r0) : Met l yX9_isSameWord wsX9_isSameWord ({ frames := 1, cells := 0, slots := 0, locals := 21 }) (gP (dC, dI) (tyz cB cI cJ cZ) E_0 (wM cB cI cJ cZ a m_letters m_words m_wMany m_wLetters m_asks m_aWords m_dLetters m_dWords m_dMany m_dText m_dAsks m_dAsk m_tape m_taped m_pos m_from m_sort m_value m_fault m_wrongAt m_manyA m_rowA m_manyB m_rowB m_places m_xs m_ys m_heights m_ridges m_rx m_rHeight m_lanes m_sizes m_cells m_left m_calls m_cDay m_cHour m_cFrom m_cAsk m_cWord m_cOf m_isLie m_children m_learned m_group) sz [.ref (a 0), .int x1]) (gI (dC, dI) (tyz cB cI cJ cZ) (wM cB cI cJ cZ a m_letters m_words m_wMany m_wLetters m_asks m_aWords m_dLetters m_dWords m_dMany m_dText m_dAsks m_dAsk m_tape m_taped m_pos m_from m_sort m_value m_fault m_wrongAt m_manyA m_rowA m_manyB m_rowB m_places m_xs m_ys m_heights m_ridges m_rx m_rHeight m_lanes m_sizes m_cells m_left m_calls m_cDay m_cHour m_cFrom m_cAsk m_cWord m_cOf m_isLie m_children m_learned m_group) (va_A (wM cB cI cJ cZ a m_letters m_words m_wMany m_wLetters m_asks m_aWords m_dLetters m_dWords m_dMany m_dText m_dAsks m_dAsk m_tape m_taped m_pos m_from m_sort m_value m_fault m_wrongAt m_manyA m_rowA m_manyB m_rowB m_places m_xs m_ys m_heights m_ridges m_rx m_rHeight m_lanes m_sizes m_cells m_left m_calls m_cDay m_cHour m_cFrom m_cAsk m_cWord m_cOf m_isLie m_children m_learned m_group) sz) r0) 0 0 (va_A (wM cB cI cJ cZ a m_letters m_words m_wMany m_wLetters m_asks m_aWords m_dLetters m_dWords m_dMany m_dText m_dAsks m_dAsk m_tape m_taped m_pos m_from m_sort m_value m_fault m_wrongAt m_manyA m_rowA m_manyB m_rowB m_places m_xs m_ys m_heights m_ridges m_rx m_rHeight m_lanes m_sizes m_cells m_left m_calls m_cDay m_cHour m_cFrom m_cAsk m_cWord m_cOf m_isLie m_children m_learned m_group) sz) := by
  refine Met.ofW (cc := cX9_isSameWord) (maxL := 4) (ret := (some .boolean)) (by decide) rfl ?_
  intro p e s m args below meth c s₁ B hml hv
  obtain ⟨rfl, hsz, hP, hK, hD0, hE⟩ := hv
  have hx := B.exec
  have hb := B.bytes
  have hr := B.returns
  have hts := atoms_spec (ws := wsX9_isSameWord) B.pre
  have hown : s.vm.findClass RX9 = some m.cls := findClass_of_methodNamed B.named
  have hlocks := B.notSynchronized
  subst hsz
  have hD := hD0.self (sz := s.heap.size)
  have hA : ∀ q : Nat, s.heap.size ≤ q → va_A (wM cB cI cJ cZ a m_letters m_words m_wMany m_wLetters m_asks m_aWords m_dLetters m_dWords m_dMany m_dText m_dAsks m_dAsk m_tape m_taped m_pos m_from m_sort m_value m_fault m_wrongAt m_manyA m_rowA m_manyB m_rowB m_places m_xs m_ys m_heights m_ridges m_rx m_rHeight m_lanes m_sizes m_cells m_left m_calls m_cDay m_cHour m_cFrom m_cAsk m_cWord m_cOf m_isLie m_children m_learned m_group) s.heap.size q := fun q h => Or.inr h
  generalize va_A (wM cB cI cJ cZ a m_letters m_words m_wMany m_wLetters m_asks m_aWords m_dLetters m_dWords m_dMany m_dText m_dAsks m_dAsk m_tape m_taped m_pos m_from m_sort m_value m_fault m_wrongAt m_manyA m_rowA m_manyB m_rowB m_places m_xs m_ys m_heights m_ridges m_rx m_rHeight m_lanes m_sizes m_cells m_left m_calls m_cDay m_cHour m_cFrom m_cAsk m_cWord m_cOf m_isLie m_children m_learned m_group) s.heap.size = A at hD hA hE ⊢
  have hS : va_S A s.heap s.heap [] := va_S.rf
  have C0 : cxt cX9_isSameWord (some .boolean) 4 RX9 wsX9_isSameWord (dC, dI) (tyz cB cI cJ cZ) E_0 A p s m ([.ref (a 0), .int x1] : List Value).toArray meth c := ⟨hx, hb, hr, hml, hown, hts, hlocks, hK, hA, hE⟩
  have hl := lv_entry ([.ref (a 0), .int x1]) (n := 4) (Nat.le_of_ble_eq_true rfl)
  rw [lg_entry_eq]
  generalize (lg_sl ([.ref (a 0), .int x1]) ++ List.replicate (4 - (lg_sl ([.ref (a 0), .int x1])).length) Slot.unset).toArray = ls at hl ⊢
  have hl : lv_has ls 4 [(0, .ref (a 0)), (1, .int x1)] := hl
  have hw0 := hts (.fieldLink RX9 25 "WhistledWordsModel" "dMany" "[I") (by decide +kernel)
  have hw1 := hts (.fieldLink RX9 117 "WhistledWordsModel" "pos" "I") (by decide +kernel)
  have hw2 := hts (.fieldLink RX9 111 "WhistledWordsModel" "from" "I") (by decide +kernel)
  have hnX9 : ∀ w ∈ u_ws RX9 TX9 46, w ∈ wsX9_isSameWord := fun _ h => List.mem_cons_of_mem _ (List.mem_append_right _ h)
  unfold fX9_isSameWord at h
  refine lv_aload_n hx hb dX9_isSameWord_0 rfl (lv_at hl 0 rfl) ?_
  refine gM_mo_dMany hx hb hts hnX9 hown hK hP hw0 dX9_isSameWord_1 ?_
  refine lv_iload_n hx hb dX9_isSameWord_4 rfl (lv_at hl 1 rfl) ?_
  obtain ⟨hiv1, h⟩ := ar_use h
  refine lM_mo_dMany hx hb hK hP hiv1 dX9_isSameWord_5 ?_
  refine lv_topi (fun v1 ev1 => ?_)
  have h := h v1 ev1
  refine lv_aload_n hx hb dX9_isSameWord_6 rfl (lv_at hl 0 rfl) ?_
  refine gM_mo_pos hx hb hts hnX9 hown hK hP hw1 dX9_isSameWord_7 ?_
  refine lv_aload_n hx hb dX9_isSameWord_10 rfl (lv_at hl 0 rfl) ?_
  refine gM_mo_from hx hb hts hnX9 hown hK hP hw2 dX9_isSameWord_11 ?_
  refine lv_isub hx hb dX9_isSameWord_14 ?_
  refine lv_icmp_ne (tgt := 22) hx hb dX9_isSameWord_15 (by decide) (fun c2 => ?_) (fun c2 => ?_)
  · have h := ie_use c2 h
    refine lv_iconst (v := 0) hx hb dX9_isSameWord_22 (by decide) ?_
    refine lv_istore_n (lv' := [(2, .int (0 : Int32)), (0, .ref (a 0)), (1, .int x1)]) hx hb dX9_isSameWord_23 rfl hl (by decide) rfl (fun ls hl => ?_)
    refine lv_iconst (v := 0) hx hb dX9_isSameWord_24 (by decide) ?_
    refine lv_istore_n (lv' := [(3, .int (0 : Int32)), (2, .int (0 : Int32)), (0, .ref (a 0)), (1, .int x1)]) hx hb dX9_isSameWord_25 rfl hl (by decide) rfl (fun ls hl => ?_)
    exact kX9_isSameWord_p26 dC dI cB cI cJ cZ a C0 n m_letters m_words m_wMany m_wLetters m_asks m_aWords m_dLetters m_dWords m_dMany m_dText m_dAsks m_dAsk m_tape m_taped m_pos m_from m_sort m_value m_fault m_wrongAt m_manyA m_rowA m_manyB m_rowB m_places m_xs m_ys m_heights m_ridges m_rx m_rHeight m_lanes m_sizes m_cells m_left m_calls m_cDay m_cHour m_cFrom m_cAsk m_cWord m_cOf m_isLie m_children m_learned m_group x1 (0 : Int32) (0 : Int32) r0  n _ _ ls h hP hD hS (lv_sub hl [2, 3, 1, 0] rfl)
  · have h := it_use c2 h
    refine lv_iconst (v := 1) hx hb dX9_isSameWord_18 (by decide) ?_
    refine lv_goto (tgt := 23) hx hb dX9_isSameWord_19 (by decide) ?_
    refine lv_istore_n (lv' := [(2, .int (1 : Int32)), (0, .ref (a 0)), (1, .int x1)]) hx hb dX9_isSameWord_23 rfl hl (by decide) rfl (fun ls hl => ?_)
    refine lv_iconst (v := 0) hx hb dX9_isSameWord_24 (by decide) ?_
    refine lv_istore_n (lv' := [(3, .int (0 : Int32)), (2, .int (1 : Int32)), (0, .ref (a 0)), (1, .int x1)]) hx hb dX9_isSameWord_25 rfl hl (by decide) rfl (fun ls hl => ?_)
    exact kX9_isSameWord_p26 dC dI cB cI cJ cZ a C0 n m_letters m_words m_wMany m_wLetters m_asks m_aWords m_dLetters m_dWords m_dMany m_dText m_dAsks m_dAsk m_tape m_taped m_pos m_from m_sort m_value m_fault m_wrongAt m_manyA m_rowA m_manyB m_rowB m_places m_xs m_ys m_heights m_ridges m_rx m_rHeight m_lanes m_sizes m_cells m_left m_calls m_cDay m_cHour m_cFrom m_cAsk m_cWord m_cOf m_isLie m_children m_learned m_group x1 (1 : Int32) (0 : Int32) r0  n _ _ ls h hP hD hS (lv_sub hl [2, 3, 1, 0] rfl)
set_option maxHeartbeats 4000000 in
set_option maxRecDepth 100000 in
theorem kX9_readWord_p191 {p : Program} {l : Launch} {e : Env} {s : State} {m : MethodId} {args : Array Value} {below : List Frame} {meth : Method} {c : Code} {A : Nat → Prop} (dC : Nat → ClassId) (dI : Nat → Nat → Nat) (cB cI cJ cZ : ClassId) (a : Nat → Nat) (C0 : cxt cX9_readWord none 3 RX9 wsX9_readWord (dC, dI) (tyz cB cI cJ cZ) E_0 A p s m args meth c) (n : Nat) (m_letters : Nat → Int32) (m_words : Int32) (m_wMany : Nat → Int32) (m_wLetters : Nat → Int32) (m_asks : Int32) (m_aWords : Nat → Int32) (m_dLetters : Nat → Int32) (m_dWords : Int32) (m_dMany : Nat → Int32) (m_dText : Nat → Int32) (m_dAsks : Int32) (m_dAsk : Nat → Int32) (m_tape : Nat → Int32) (m_taped : Int32) (m_pos : Int32) (m_from : Int32) (m_sort : Int32) (m_value : Int32) (m_fault : Int32) (m_wrongAt : Int32) (m_manyA : Int32) (m_rowA : Nat → Int32) (m_manyB : Int32) (m_rowB : Nat → Int32) (m_places : Int32) (m_xs : Nat → Int32) (m_ys : Nat → Int32) (m_heights : Nat → Int32) (m_ridges : Int32) (m_rx : Nat → Int32) (m_rHeight : Nat → Int32) (m_lanes : Nat → Int32) (m_sizes : Nat → Int32) (m_cells : Nat → Int32) (m_left : Nat → Int32) (m_calls : Int32) (m_cDay : Nat → Int32) (m_cHour : Nat → Int32) (m_cFrom : Nat → Int32) (m_cAsk : Nat → Int32) (m_cWord : Nat → Int32) (m_cOf : Nat → Int32) (m_isLie : Nat → Int32) (m_children : Int32) (m_learned : Nat → Int32) (m_group : Nat → Int32)  (x1 : Int32)  (z_m_dWords : Int32) (z_m_dMany : Nat → Int32) (z_m_dText : Nat → Int32) (z_m_pos : Int32) (z_m_from : Int32) (z_m_sort : Int32) (z_m_value : Int32) (z_m_fault : Int32) (z_m_wrongAt : Int32)  (H : Heap) (locs : List Loc) (ls : Array Slot) : fX9_readWord_p191 n m_dWords m_dMany m_dText m_tape m_taped m_pos m_from m_sort m_value m_fault m_wrongAt x1 = some (z_m_dWords, z_m_dMany, z_m_dText, z_m_pos, z_m_from, z_m_sort, z_m_value, z_m_fault, z_m_wrongAt) → va_P (dC, dI) vwCl (wM cB cI cJ cZ a m_letters m_words m_wMany m_wLetters m_asks m_aWords m_dLetters m_dWords m_dMany m_dText m_dAsks m_dAsk m_tape m_taped m_pos m_from m_sort m_value m_fault m_wrongAt m_manyA m_rowA m_manyB m_rowB m_places m_xs m_ys m_heights m_ridges m_rx m_rHeight m_lanes m_sizes m_cells m_left m_calls m_cDay m_cHour m_cFrom m_cAsk m_cWord m_cOf m_isLie m_children m_learned m_group) H → va_D A (wM cB cI cJ cZ a m_letters m_words m_wMany m_wLetters m_asks m_aWords m_dLetters m_dWords m_dMany m_dText m_dAsks m_dAsk m_tape m_taped m_pos m_from m_sort m_value m_fault m_wrongAt m_manyA m_rowA m_manyB m_rowB m_places m_xs m_ys m_heights m_ridges m_rx m_rHeight m_lanes m_sizes m_cells m_left m_calls m_cDay m_cHour m_cFrom m_cAsk m_cWord m_cOf m_isLie m_children m_learned m_group) → va_S A s.heap H locs → lv_has ls 3 [(0, .ref (a 0)), (1, .int x1)] → W p l e { frames := 2, cells := 0, slots := 0, locals := 46 } s m args below meth c H locs 0 0 (MQ below (gV (dC, dI) (tyz cB cI cJ cZ) (wM cB cI cJ cZ a m_letters m_words m_wMany m_wLetters m_asks m_aWords m_dLetters z_m_dWords z_m_dMany z_m_dText m_dAsks m_dAsk m_tape m_taped z_m_pos z_m_from z_m_sort z_m_value z_m_fault z_m_wrongAt m_manyA m_rowA m_manyB m_rowB m_places m_xs m_ys m_heights m_ridges m_rx m_rHeight m_lanes m_sizes m_cells m_left m_calls m_cDay m_cHour m_cFrom m_cAsk m_cWord m_cOf m_isLie m_children m_learned m_group) A) args s 0 0 A) (F0 m 191 ls []) := by
  intro h hP hD hS hl
  obtain ⟨hx, hb, hr, hml, hown, hts, hlocks, hK, hA, hE⟩ := id C0
  have hw0 := hts (.fieldLink RX9 25 "WhistledWordsModel" "dMany" "[I") (by decide +kernel)
  have hw1 := hts (.fieldLink RX9 153 "WhistledWordsModel" "dWords" "I") (by decide +kernel)
  have hnX9 : ∀ w ∈ u_ws RX9 TX9 46, w ∈ wsX9_readWord := fun _ h => List.mem_cons_of_mem _ (List.mem_append_right _ h)
  unfold fX9_readWord_p191 at h
  refine lv_aload_n hx hb dX9_readWord_191 rfl (lv_at hl 0 rfl) ?_
  refine gM_mo_dMany hx hb hts hnX9 hown hK hP hw0 dX9_readWord_192 ?_
  refine lv_aload_n hx hb dX9_readWord_195 rfl (lv_at hl 0 rfl) ?_
  refine gM_mo_dWords hx hb hts hnX9 hown hK hP hw1 dX9_readWord_196 ?_
  refine lv_iload_n hx hb dX9_readWord_199 rfl (lv_at hl 1 rfl) ?_
  obtain ⟨hif1, f1, ef1, h⟩ := aw_use h
  refine sM_mo_dMany hx hb hK hP hD hS hif1 ef1 dX9_readWord_200 (fun H locs hP hD hS => ?_)
  refine lv_aload_n hx hb dX9_readWord_201 rfl (lv_at hl 0 rfl) ?_
  refine lv_dup hx hb dX9_readWord_202 rfl ?_
  refine gM_mo_dWords hx hb hts hnX9 hown hK hP hw1 dX9_readWord_203 ?_
  refine lv_iconst (v := 1) hx hb dX9_readWord_206 (by decide) ?_
  refine lv_iadd hx hb dX9_readWord_207 ?_
  refine lv_topi (fun v2 ev2 => ?_)
  have h := nm_use ev2 h
  refine pM_mo_dWords hx hb hts hnX9 hown hK hP hD hS hw1 dX9_readWord_208 (fun H locs hP hD hS => ?_)
  refine lv_aload_n hx hb dX9_readWord_211 rfl (lv_at hl 0 rfl) ?_
  obtain ⟨v3, v4, v5, v6, v7, v8, hc, h⟩ := bd6_use h
  refine cv_v (As := []) (rest := []) ⟨hx, hb, hml, hown, hts⟩ (kX9_next l n dC dI cB cI cJ cZ a _ m_letters m_words m_wMany m_wLetters m_asks m_aWords m_dLetters v2 f1 m_dText m_dAsks m_dAsk m_tape m_taped m_pos m_from m_sort m_value m_fault m_wrongAt m_manyA m_rowA m_manyB m_rowB m_places m_xs m_ys m_heights m_ridges m_rx m_rHeight m_lanes m_sizes m_cells m_left m_calls m_cDay m_cHour m_cFrom m_cAsk m_cWord m_cOf m_isLie m_children m_learned m_group  v3 v4 v5 v6 v7 v8 hc) (cwV 0 hts gX9_readWord_X9_next rfl rfl rfl (by decide +kernel) ⟨Nat.le_of_ble_eq_true rfl, Nat.le_of_ble_eq_true rfl⟩) EB_0 hE hK hP hD hS hA 0 (ci := 8) rfl rfl rfl rfl hl.1 rfl (Nat.le_of_ble_eq_true rfl) dX9_readWord_212 ⟨Nat.zero_le _, Nat.zero_le _⟩ (fun H locs hP hD hS => ?_)
  obtain ⟨ez0, ez1, ez2, ez3, ez4, ez5, ez6, ez7, ez8⟩ := rt9_use h
  subst ez0
  subst ez1
  subst ez2
  subst ez3
  subst ez4
  subst ez5
  subst ez6
  subst ez7
  subst ez8
  exact re_v hx hb hr hlocks hK hP hD hS dX9_readWord_215
set_option maxHeartbeats 4000000 in
set_option maxRecDepth 100000 in
theorem kX9_readWord_p153_r {p : Program} {l : Launch} {e : Env} {s : State} {m : MethodId} {args : Array Value} {below : List Frame} {meth : Method} {c : Code} {A : Nat → Prop} (dC : Nat → ClassId) (dI : Nat → Nat → Nat) (cB cI cJ cZ : ClassId) (a : Nat → Nat) (C0 : cxt cX9_readWord none 3 RX9 wsX9_readWord (dC, dI) (tyz cB cI cJ cZ) E_0 A p s m args meth c) (n : Nat) (m_letters : Nat → Int32) (m_words : Int32) (m_wMany : Nat → Int32) (m_wLetters : Nat → Int32) (m_asks : Int32) (m_aWords : Nat → Int32) (m_dLetters : Nat → Int32) (m_dWords : Int32) (m_dMany : Nat → Int32) (m_dAsks : Int32) (m_dAsk : Nat → Int32) (m_tape : Nat → Int32) (m_taped : Int32) (m_pos : Int32) (m_from : Int32) (m_sort : Int32) (m_value : Int32) (m_fault : Int32) (m_wrongAt : Int32) (m_manyA : Int32) (m_rowA : Nat → Int32) (m_manyB : Int32) (m_rowB : Nat → Int32) (m_places : Int32) (m_xs : Nat → Int32) (m_ys : Nat → Int32) (m_heights : Nat → Int32) (m_ridges : Int32) (m_rx : Nat → Int32) (m_rHeight : Nat → Int32) (m_lanes : Nat → Int32) (m_sizes : Nat → Int32) (m_cells : Nat → Int32) (m_left : Nat → Int32) (m_calls : Int32) (m_cDay : Nat → Int32) (m_cHour : Nat → Int32) (m_cFrom : Nat → Int32) (m_cAsk : Nat → Int32) (m_cWord : Nat → Int32) (m_cOf : Nat → Int32) (m_isLie : Nat → Int32) (m_children : Int32) (m_learned : Nat → Int32) (m_group : Nat → Int32) (x1 : Int32) (z_m_dWords : Int32) (z_m_dMany : Nat → Int32) (z_m_dText : Nat → Int32) (z_m_pos : Int32) (z_m_from : Int32) (z_m_sort : Int32) (z_m_value : Int32) (z_m_fault : Int32) (z_m_wrongAt : Int32)  : ∀ (k : Nat) (m_dText : Nat → Int32) (x2 : Int32) (H : Heap) (locs : List Loc) (ls : Array Slot), fX9_readWord_p153 n m_dWords m_dMany m_tape m_taped m_pos m_from m_sort m_value m_fault m_wrongAt x1 k m_dText x2 = some (z_m_dWords, z_m_dMany, z_m_dText, z_m_pos, z_m_from, z_m_sort, z_m_value, z_m_fault, z_m_wrongAt) → va_P (dC, dI) vwCl (wM cB cI cJ cZ a m_letters m_words m_wMany m_wLetters m_asks m_aWords m_dLetters m_dWords m_dMany m_dText m_dAsks m_dAsk m_tape m_taped m_pos m_from m_sort m_value m_fault m_wrongAt m_manyA m_rowA m_manyB m_rowB m_places m_xs m_ys m_heights m_ridges m_rx m_rHeight m_lanes m_sizes m_cells m_left m_calls m_cDay m_cHour m_cFrom m_cAsk m_cWord m_cOf m_isLie m_children m_learned m_group) H → va_D A (wM cB cI cJ cZ a m_letters m_words m_wMany m_wLetters m_asks m_aWords m_dLetters m_dWords m_dMany m_dText m_dAsks m_dAsk m_tape m_taped m_pos m_from m_sort m_value m_fault m_wrongAt m_manyA m_rowA m_manyB m_rowB m_places m_xs m_ys m_heights m_ridges m_rx m_rHeight m_lanes m_sizes m_cells m_left m_calls m_cDay m_cHour m_cFrom m_cAsk m_cWord m_cOf m_isLie m_children m_learned m_group) → va_S A s.heap H locs → lv_has ls 3 [(0, .ref (a 0)), (1, .int x1), (2, .int x2)] → W p l e { frames := 2, cells := 0, slots := 0, locals := 46 } s m args below meth c H locs 0 0 (MQ below (gV (dC, dI) (tyz cB cI cJ cZ) (wM cB cI cJ cZ a m_letters m_words m_wMany m_wLetters m_asks m_aWords m_dLetters z_m_dWords z_m_dMany z_m_dText m_dAsks m_dAsk m_tape m_taped z_m_pos z_m_from z_m_sort z_m_value z_m_fault z_m_wrongAt m_manyA m_rowA m_manyB m_rowB m_places m_xs m_ys m_heights m_ridges m_rx m_rHeight m_lanes m_sizes m_cells m_left m_calls m_cDay m_cHour m_cFrom m_cAsk m_cWord m_cOf m_isLie m_children m_learned m_group) A) args s 0 0 A) (F0 m 153 ls []) := by
  obtain ⟨hx, hb, hr, hml, hown, hts, hlocks, hK, hA, hE⟩ := id C0
  have hw0 := hts (.fieldLink RX9 28 "WhistledWordsModel" "dText" "[I") (by decide +kernel)
  have hw1 := hts (.fieldLink RX9 153 "WhistledWordsModel" "dWords" "I") (by decide +kernel)
  have hw2 := hts (.fieldLink RX9 111 "WhistledWordsModel" "from" "I") (by decide +kernel)
  have hnX9 : ∀ w ∈ u_ws RX9 TX9 46, w ∈ wsX9_readWord := fun _ h => List.mem_cons_of_mem _ (List.mem_append_right _ h)
  intro k
  induction k with
  | zero =>
    intro m_dText x2 H locs ls h
    cases h
  | succ k ih =>
    intro m_dText x2 H locs ls h hP hD hS hl
    rw [fX9_readWord_p153] at h
    refine lv_iload_n hx hb dX9_readWord_153 rfl (lv_at hl 2 rfl) ?_
    refine lv_iload_n hx hb dX9_readWord_154 rfl (lv_at hl 1 rfl) ?_
    refine lv_icmp_ge (tgt := 191) hx hb dX9_readWord_155 (by decide) (fun c1 => ?_) (fun c1 => ?_)
    · have h := it_use c1 h
      exact kX9_readWord_p191 dC dI cB cI cJ cZ a C0 n m_letters m_words m_wMany m_wLetters m_asks m_aWords m_dLetters m_dWords m_dMany m_dText m_dAsks m_dAsk m_tape m_taped m_pos m_from m_sort m_value m_fault m_wrongAt m_manyA m_rowA m_manyB m_rowB m_places m_xs m_ys m_heights m_ridges m_rx m_rHeight m_lanes m_sizes m_cells m_left m_calls m_cDay m_cHour m_cFrom m_cAsk m_cWord m_cOf m_isLie m_children m_learned m_group x1  z_m_dWords z_m_dMany z_m_dText z_m_pos z_m_from z_m_sort z_m_value z_m_fault z_m_wrongAt  _ _ ls h hP hD hS (lv_sub hl [0, 1] rfl)
    · have h := ie_use c1 h
      refine lv_aload_n hx hb dX9_readWord_158 rfl (lv_at hl 0 rfl) ?_
      refine gM_mo_dText hx hb hts hnX9 hown hK hP hw0 dX9_readWord_159 ?_
      refine lv_bipush (v := 8) hx hb dX9_readWord_162 (by decide) ?_
      refine lv_aload_n hx hb dX9_readWord_164 rfl (lv_at hl 0 rfl) ?_
      refine gM_mo_dWords hx hb hts hnX9 hown hK hP hw1 dX9_readWord_165 ?_
      refine lv_imul hx hb dX9_readWord_168 ?_
      refine lv_iload_n hx hb dX9_readWord_169 rfl (lv_at hl 2 rfl) ?_
      refine lv_iadd hx hb dX9_readWord_170 ?_
      refine lv_aload_n hx hb dX9_readWord_171 rfl (lv_at hl 0 rfl) ?_
      refine lv_aload_n hx hb dX9_readWord_172 rfl (lv_at hl 0 rfl) ?_
      refine gM_mo_from hx hb hts hnX9 hown hK hP hw2 dX9_readWord_173 ?_
      refine lv_iload_n hx hb dX9_readWord_176 rfl (lv_at hl 2 rfl) ?_
      refine lv_iadd hx hb dX9_readWord_177 ?_
      obtain ⟨v2, hc, h⟩ := bd1_use h
      refine cv_i (As := [.int (m_from + x2)]) (rest := [.int (((8 : Int32) * m_dWords) + x2), .ref (a 7)]) ⟨hx, hb, hml, hown, hts⟩ (kX9_look l n dC dI cB cI cJ cZ a _ m_letters m_words m_wMany m_wLetters m_asks m_aWords m_dLetters m_dWords m_dMany m_dText m_dAsks m_dAsk m_tape m_taped m_pos m_from m_sort m_value m_fault m_wrongAt m_manyA m_rowA m_manyB m_rowB m_places m_xs m_ys m_heights m_ridges m_rx m_rHeight m_lanes m_sizes m_cells m_left m_calls m_cDay m_cHour m_cFrom m_cAsk m_cWord m_cOf m_isLie m_children m_learned m_group (m_from + x2) v2 hc) (cwV 1 hts gX9_readWord_X9_look rfl rfl rfl (by decide +kernel) ⟨Nat.le_of_ble_eq_true rfl, Nat.le_of_ble_eq_true rfl⟩) EB_0 hE hK hP hD hS hA 0 (ci := 8) rfl rfl rfl rfl hl.1 rfl (Nat.le_of_ble_eq_true rfl) dX9_readWord_178 ⟨Nat.zero_le _, Nat.zero_le _⟩ (fun H locs hP hD hS => ?_)
      refine lv_bipush (v := 97) hx hb dX9_readWord_181 (by decide) ?_
      refine lv_isub hx hb dX9_readWord_183 ?_
      obtain ⟨hif3, f3, ef3, h⟩ := aw_use h
      refine sM_mo_dText hx hb hK hP hD hS hif3 ef3 dX9_readWord_184 (fun H locs hP hD hS => ?_)
      refine lv_iinc (v := x2 + 1) (lv' := [(2, .int (x2 + 1)), (0, .ref (a 0)), (1, .int x1)]) hx hb dX9_readWord_185 hl (k := 2) rfl rfl (by decide) rfl (fun ls hl => ?_)
      refine lv_goto (tgt := 153) hx hb dX9_readWord_188 (by decide) ?_
      exact ih f3 (x2 + 1) _ _ ls h hP hD hS (lv_sub hl [1, 2, 0] rfl)
theorem kX9_readWord_p153 {p : Program} {l : Launch} {e : Env} {s : State} {m : MethodId} {args : Array Value} {below : List Frame} {meth : Method} {c : Code} {A : Nat → Prop} (dC : Nat → ClassId) (dI : Nat → Nat → Nat) (cB cI cJ cZ : ClassId) (a : Nat → Nat) (C0 : cxt cX9_readWord none 3 RX9 wsX9_readWord (dC, dI) (tyz cB cI cJ cZ) E_0 A p s m args meth c) (n : Nat) (m_letters : Nat → Int32) (m_words : Int32) (m_wMany : Nat → Int32) (m_wLetters : Nat → Int32) (m_asks : Int32) (m_aWords : Nat → Int32) (m_dLetters : Nat → Int32) (m_dWords : Int32) (m_dMany : Nat → Int32) (m_dText : Nat → Int32) (m_dAsks : Int32) (m_dAsk : Nat → Int32) (m_tape : Nat → Int32) (m_taped : Int32) (m_pos : Int32) (m_from : Int32) (m_sort : Int32) (m_value : Int32) (m_fault : Int32) (m_wrongAt : Int32) (m_manyA : Int32) (m_rowA : Nat → Int32) (m_manyB : Int32) (m_rowB : Nat → Int32) (m_places : Int32) (m_xs : Nat → Int32) (m_ys : Nat → Int32) (m_heights : Nat → Int32) (m_ridges : Int32) (m_rx : Nat → Int32) (m_rHeight : Nat → Int32) (m_lanes : Nat → Int32) (m_sizes : Nat → Int32) (m_cells : Nat → Int32) (m_left : Nat → Int32) (m_calls : Int32) (m_cDay : Nat → Int32) (m_cHour : Nat → Int32) (m_cFrom : Nat → Int32) (m_cAsk : Nat → Int32) (m_cWord : Nat → Int32) (m_cOf : Nat → Int32) (m_isLie : Nat → Int32) (m_children : Int32) (m_learned : Nat → Int32) (m_group : Nat → Int32)  (x1 : Int32) (x2 : Int32) (z_m_dWords : Int32) (z_m_dMany : Nat → Int32) (z_m_dText : Nat → Int32) (z_m_pos : Int32) (z_m_from : Int32) (z_m_sort : Int32) (z_m_value : Int32) (z_m_fault : Int32) (z_m_wrongAt : Int32)  (k : Nat) (H : Heap) (locs : List Loc) (ls : Array Slot) : fX9_readWord_p153 n m_dWords m_dMany m_tape m_taped m_pos m_from m_sort m_value m_fault m_wrongAt x1 k m_dText x2 = some (z_m_dWords, z_m_dMany, z_m_dText, z_m_pos, z_m_from, z_m_sort, z_m_value, z_m_fault, z_m_wrongAt) → va_P (dC, dI) vwCl (wM cB cI cJ cZ a m_letters m_words m_wMany m_wLetters m_asks m_aWords m_dLetters m_dWords m_dMany m_dText m_dAsks m_dAsk m_tape m_taped m_pos m_from m_sort m_value m_fault m_wrongAt m_manyA m_rowA m_manyB m_rowB m_places m_xs m_ys m_heights m_ridges m_rx m_rHeight m_lanes m_sizes m_cells m_left m_calls m_cDay m_cHour m_cFrom m_cAsk m_cWord m_cOf m_isLie m_children m_learned m_group) H → va_D A (wM cB cI cJ cZ a m_letters m_words m_wMany m_wLetters m_asks m_aWords m_dLetters m_dWords m_dMany m_dText m_dAsks m_dAsk m_tape m_taped m_pos m_from m_sort m_value m_fault m_wrongAt m_manyA m_rowA m_manyB m_rowB m_places m_xs m_ys m_heights m_ridges m_rx m_rHeight m_lanes m_sizes m_cells m_left m_calls m_cDay m_cHour m_cFrom m_cAsk m_cWord m_cOf m_isLie m_children m_learned m_group) → va_S A s.heap H locs → lv_has ls 3 [(0, .ref (a 0)), (1, .int x1), (2, .int x2)] → W p l e { frames := 2, cells := 0, slots := 0, locals := 46 } s m args below meth c H locs 0 0 (MQ below (gV (dC, dI) (tyz cB cI cJ cZ) (wM cB cI cJ cZ a m_letters m_words m_wMany m_wLetters m_asks m_aWords m_dLetters z_m_dWords z_m_dMany z_m_dText m_dAsks m_dAsk m_tape m_taped z_m_pos z_m_from z_m_sort z_m_value z_m_fault z_m_wrongAt m_manyA m_rowA m_manyB m_rowB m_places m_xs m_ys m_heights m_ridges m_rx m_rHeight m_lanes m_sizes m_cells m_left m_calls m_cDay m_cHour m_cFrom m_cAsk m_cWord m_cOf m_isLie m_children m_learned m_group) A) args s 0 0 A) (F0 m 153 ls []) :=
  kX9_readWord_p153_r dC dI cB cI cJ cZ a C0 n m_letters m_words m_wMany m_wLetters m_asks m_aWords m_dLetters m_dWords m_dMany m_dAsks m_dAsk m_tape m_taped m_pos m_from m_sort m_value m_fault m_wrongAt m_manyA m_rowA m_manyB m_rowB m_places m_xs m_ys m_heights m_ridges m_rx m_rHeight m_lanes m_sizes m_cells m_left m_calls m_cDay m_cHour m_cFrom m_cAsk m_cWord m_cOf m_isLie m_children m_learned m_group x1 z_m_dWords z_m_dMany z_m_dText z_m_pos z_m_from z_m_sort z_m_value z_m_fault z_m_wrongAt  k m_dText x2 H locs ls
set_option maxHeartbeats 4000000 in
set_option maxRecDepth 100000 in
theorem kX9_readWord_p105_r {p : Program} {l : Launch} {e : Env} {s : State} {m : MethodId} {args : Array Value} {below : List Frame} {meth : Method} {c : Code} {A : Nat → Prop} (dC : Nat → ClassId) (dI : Nat → Nat → Nat) (cB cI cJ cZ : ClassId) (a : Nat → Nat) (C0 : cxt cX9_readWord none 3 RX9 wsX9_readWord (dC, dI) (tyz cB cI cJ cZ) E_0 A p s m args meth c) (n : Nat) (m_letters : Nat → Int32) (m_words : Int32) (m_wMany : Nat → Int32) (m_wLetters : Nat → Int32) (m_asks : Int32) (m_aWords : Nat → Int32) (m_dLetters : Nat → Int32) (m_dWords : Int32) (m_dMany : Nat → Int32) (m_dText : Nat → Int32) (m_dAsks : Int32) (m_dAsk : Nat → Int32) (m_tape : Nat → Int32) (m_taped : Int32) (m_pos : Int32) (m_from : Int32) (m_sort : Int32) (m_value : Int32) (m_manyA : Int32) (m_rowA : Nat → Int32) (m_manyB : Int32) (m_rowB : Nat → Int32) (m_places : Int32) (m_xs : Nat → Int32) (m_ys : Nat → Int32) (m_heights : Nat → Int32) (m_ridges : Int32) (m_rx : Nat → Int32) (m_rHeight : Nat → Int32) (m_lanes : Nat → Int32) (m_sizes : Nat → Int32) (m_cells : Nat → Int32) (m_left : Nat → Int32) (m_calls : Int32) (m_cDay : Nat → Int32) (m_cHour : Nat → Int32) (m_cFrom : Nat → Int32) (m_cAsk : Nat → Int32) (m_cWord : Nat → Int32) (m_cOf : Nat → Int32) (m_isLie : Nat → Int32) (m_children : Int32) (m_learned : Nat → Int32) (m_group : Nat → Int32) (x1 : Int32) (z_m_dWords : Int32) (z_m_dMany : Nat → Int32) (z_m_dText : Nat → Int32) (z_m_pos : Int32) (z_m_from : Int32) (z_m_sort : Int32) (z_m_value : Int32) (z_m_fault : Int32) (z_m_wrongAt : Int32)  : ∀ (k : Nat) (m_fault : Int32) (m_wrongAt : Int32) (x2 : Int32) (H : Heap) (locs : List Loc) (ls : Array Slot), fX9_readWord_p105 n m_dWords m_dMany m_dText m_tape m_taped m_pos m_from m_sort m_value x1 k m_fault m_wrongAt x2 = some (z_m_dWords, z_m_dMany, z_m_dText, z_m_pos, z_m_from, z_m_sort, z_m_value, z_m_fault, z_m_wrongAt) → va_P (dC, dI) vwCl (wM cB cI cJ cZ a m_letters m_words m_wMany m_wLetters m_asks m_aWords m_dLetters m_dWords m_dMany m_dText m_dAsks m_dAsk m_tape m_taped m_pos m_from m_sort m_value m_fault m_wrongAt m_manyA m_rowA m_manyB m_rowB m_places m_xs m_ys m_heights m_ridges m_rx m_rHeight m_lanes m_sizes m_cells m_left m_calls m_cDay m_cHour m_cFrom m_cAsk m_cWord m_cOf m_isLie m_children m_learned m_group) H → va_D A (wM cB cI cJ cZ a m_letters m_words m_wMany m_wLetters m_asks m_aWords m_dLetters m_dWords m_dMany m_dText m_dAsks m_dAsk m_tape m_taped m_pos m_from m_sort m_value m_fault m_wrongAt m_manyA m_rowA m_manyB m_rowB m_places m_xs m_ys m_heights m_ridges m_rx m_rHeight m_lanes m_sizes m_cells m_left m_calls m_cDay m_cHour m_cFrom m_cAsk m_cWord m_cOf m_isLie m_children m_learned m_group) → va_S A s.heap H locs → lv_has ls 3 [(0, .ref (a 0)), (1, .int x1), (2, .int x2)] → W p l e { frames := 2, cells := 0, slots := 0, locals := 46 } s m args below meth c H locs 0 0 (MQ below (gV (dC, dI) (tyz cB cI cJ cZ) (wM cB cI cJ cZ a m_letters m_words m_wMany m_wLetters m_asks m_aWords m_dLetters z_m_dWords z_m_dMany z_m_dText m_dAsks m_dAsk m_tape m_taped z_m_pos z_m_from z_m_sort z_m_value z_m_fault z_m_wrongAt m_manyA m_rowA m_manyB m_rowB m_places m_xs m_ys m_heights m_ridges m_rx m_rHeight m_lanes m_sizes m_cells m_left m_calls m_cDay m_cHour m_cFrom m_cAsk m_cWord m_cOf m_isLie m_children m_learned m_group) A) args s 0 0 A) (F0 m 105 ls []) := by
  obtain ⟨hx, hb, hr, hml, hown, hts, hlocks, hK, hA, hE⟩ := id C0
  have hw0 := hts (.fieldLink RX9 153 "WhistledWordsModel" "dWords" "I") (by decide +kernel)
  have hw1 := hts (.fieldLink RX9 108 "WhistledWordsModel" "fault" "I") (by decide +kernel)
  have hnX9 : ∀ w ∈ u_ws RX9 TX9 46, w ∈ wsX9_readWord := fun _ h => List.mem_cons_of_mem _ (List.mem_append_right _ h)
  intro k
  induction k with
  | zero =>
    intro m_fault m_wrongAt x2 H locs ls h
    cases h
  | succ k ih =>
    intro m_fault m_wrongAt x2 H locs ls h hP hD hS hl
    rw [fX9_readWord_p105] at h
    refine lv_iload_n hx hb dX9_readWord_105 rfl (lv_at hl 2 rfl) ?_
    refine lv_aload_n hx hb dX9_readWord_106 rfl (lv_at hl 0 rfl) ?_
    refine gM_mo_dWords hx hb hts hnX9 hown hK hP hw0 dX9_readWord_107 ?_
    refine lv_icmp_ge (tgt := 144) hx hb dX9_readWord_110 (by decide) (fun c1 => ?_) (fun c1 => ?_)
    · have h := it_use c1 h
      refine lv_aload_n hx hb dX9_readWord_144 rfl (lv_at hl 0 rfl) ?_
      refine gM_mo_fault hx hb hts hnX9 hown hK hP hw1 dX9_readWord_145 ?_
      refine lv_if_ne (tgt := 211) hx hb dX9_readWord_148 (by decide) (fun c2 => ?_) (fun c2 => ?_)
      · have h := ie_use c2 h
        refine lv_aload_n hx hb dX9_readWord_211 rfl (lv_at hl 0 rfl) ?_
        obtain ⟨v3, v4, v5, v6, v7, v8, hc, h⟩ := bd6_use h
        refine cv_v (As := []) (rest := []) ⟨hx, hb, hml, hown, hts⟩ (kX9_next l n dC dI cB cI cJ cZ a _ m_letters m_words m_wMany m_wLetters m_asks m_aWords m_dLetters m_dWords m_dMany m_dText m_dAsks m_dAsk m_tape m_taped m_pos m_from m_sort m_value m_fault m_wrongAt m_manyA m_rowA m_manyB m_rowB m_places m_xs m_ys m_heights m_ridges m_rx m_rHeight m_lanes m_sizes m_cells m_left m_calls m_cDay m_cHour m_cFrom m_cAsk m_cWord m_cOf m_isLie m_children m_learned m_group  v3 v4 v5 v6 v7 v8 hc) (cwV 0 hts gX9_readWord_X9_next rfl rfl rfl (by decide +kernel) ⟨Nat.le_of_ble_eq_true rfl, Nat.le_of_ble_eq_true rfl⟩) EB_0 hE hK hP hD hS hA 0 (ci := 8) rfl rfl rfl rfl hl.1 rfl (Nat.le_of_ble_eq_true rfl) dX9_readWord_212 ⟨Nat.zero_le _, Nat.zero_le _⟩ (fun H locs hP hD hS => ?_)
        obtain ⟨ez0, ez1, ez2, ez3, ez4, ez5, ez6, ez7, ez8⟩ := rt9_use h
        subst ez0
        subst ez1
        subst ez2
        subst ez3
        subst ez4
        subst ez5
        subst ez6
        subst ez7
        subst ez8
        exact re_v hx hb hr hlocks hK hP hD hS dX9_readWord_215
      · have h := it_use c2 h
        refine lv_iconst (v := 0) hx hb dX9_readWord_151 (by decide) ?_
        refine lv_istore_n (lv' := [(2, .int (0 : Int32)), (0, .ref (a 0)), (1, .int x1)]) hx hb dX9_readWord_152 rfl hl (by decide) rfl (fun ls hl => ?_)
        exact kX9_readWord_p153 dC dI cB cI cJ cZ a C0 n m_letters m_words m_wMany m_wLetters m_asks m_aWords m_dLetters m_dWords m_dMany m_dText m_dAsks m_dAsk m_tape m_taped m_pos m_from m_sort m_value m_fault m_wrongAt m_manyA m_rowA m_manyB m_rowB m_places m_xs m_ys m_heights m_ridges m_rx m_rHeight m_lanes m_sizes m_cells m_left m_calls m_cDay m_cHour m_cFrom m_cAsk m_cWord m_cOf m_isLie m_children m_learned m_group x1 (0 : Int32) z_m_dWords z_m_dMany z_m_dText z_m_pos z_m_from z_m_sort z_m_value z_m_fault z_m_wrongAt  n _ _ ls h hP hD hS (lv_sub hl [1, 2, 0] rfl)
    · have h := ie_use c1 h
      refine lv_aload_n hx hb dX9_readWord_113 rfl (lv_at hl 0 rfl) ?_
      refine gM_mo_fault hx hb hts hnX9 hown hK hP hw1 dX9_readWord_114 ?_
      refine lv_if_ne (tgt := 144) hx hb dX9_readWord_117 (by decide) (fun c9 => ?_) (fun c9 => ?_)
      · have h := ie_use c9 h
        refine lv_aload_n hx hb dX9_readWord_144 rfl (lv_at hl 0 rfl) ?_
        refine gM_mo_fault hx hb hts hnX9 hown hK hP hw1 dX9_readWord_145 ?_
        refine lv_if_ne (tgt := 211) hx hb dX9_readWord_148 (by decide) (fun c10 => ?_) (fun c10 => ?_)
        · have h := ie_use c10 h
          refine lv_aload_n hx hb dX9_readWord_211 rfl (lv_at hl 0 rfl) ?_
          obtain ⟨v11, v12, v13, v14, v15, v16, hc, h⟩ := bd6_use h
          refine cv_v (As := []) (rest := []) ⟨hx, hb, hml, hown, hts⟩ (kX9_next l n dC dI cB cI cJ cZ a _ m_letters m_words m_wMany m_wLetters m_asks m_aWords m_dLetters m_dWords m_dMany m_dText m_dAsks m_dAsk m_tape m_taped m_pos m_from m_sort m_value m_fault m_wrongAt m_manyA m_rowA m_manyB m_rowB m_places m_xs m_ys m_heights m_ridges m_rx m_rHeight m_lanes m_sizes m_cells m_left m_calls m_cDay m_cHour m_cFrom m_cAsk m_cWord m_cOf m_isLie m_children m_learned m_group  v11 v12 v13 v14 v15 v16 hc) (cwV 0 hts gX9_readWord_X9_next rfl rfl rfl (by decide +kernel) ⟨Nat.le_of_ble_eq_true rfl, Nat.le_of_ble_eq_true rfl⟩) EB_0 hE hK hP hD hS hA 0 (ci := 8) rfl rfl rfl rfl hl.1 rfl (Nat.le_of_ble_eq_true rfl) dX9_readWord_212 ⟨Nat.zero_le _, Nat.zero_le _⟩ (fun H locs hP hD hS => ?_)
          obtain ⟨ez0, ez1, ez2, ez3, ez4, ez5, ez6, ez7, ez8⟩ := rt9_use h
          subst ez0
          subst ez1
          subst ez2
          subst ez3
          subst ez4
          subst ez5
          subst ez6
          subst ez7
          subst ez8
          exact re_v hx hb hr hlocks hK hP hD hS dX9_readWord_215
        · have h := it_use c10 h
          refine lv_iconst (v := 0) hx hb dX9_readWord_151 (by decide) ?_
          refine lv_istore_n (lv' := [(2, .int (0 : Int32)), (0, .ref (a 0)), (1, .int x1)]) hx hb dX9_readWord_152 rfl hl (by decide) rfl (fun ls hl => ?_)
          exact kX9_readWord_p153 dC dI cB cI cJ cZ a C0 n m_letters m_words m_wMany m_wLetters m_asks m_aWords m_dLetters m_dWords m_dMany m_dText m_dAsks m_dAsk m_tape m_taped m_pos m_from m_sort m_value m_fault m_wrongAt m_manyA m_rowA m_manyB m_rowB m_places m_xs m_ys m_heights m_ridges m_rx m_rHeight m_lanes m_sizes m_cells m_left m_calls m_cDay m_cHour m_cFrom m_cAsk m_cWord m_cOf m_isLie m_children m_learned m_group x1 (0 : Int32) z_m_dWords z_m_dMany z_m_dText z_m_pos z_m_from z_m_sort z_m_value z_m_fault z_m_wrongAt  n _ _ ls h hP hD hS (lv_sub hl [1, 2, 0] rfl)
      · have h := it_use c9 h
        refine lv_aload_n hx hb dX9_readWord_120 rfl (lv_at hl 0 rfl) ?_
        refine lv_aload_n hx hb dX9_readWord_121 rfl (lv_at hl 0 rfl) ?_
        refine lv_iload_n hx hb dX9_readWord_122 rfl (lv_at hl 2 rfl) ?_
        obtain ⟨v17, hc, h⟩ := bd1_use h
        refine cv_i (As := [.int x2]) (rest := [.ref (a 0)]) ⟨hx, hb, hml, hown, hts⟩ (kX9_isSameWord l n dC dI cB cI cJ cZ a _ m_letters m_words m_wMany m_wLetters m_asks m_aWords m_dLetters m_dWords m_dMany m_dText m_dAsks m_dAsk m_tape m_taped m_pos m_from m_sort m_value m_fault m_wrongAt m_manyA m_rowA m_manyB m_rowB m_places m_xs m_ys m_heights m_ridges m_rx m_rHeight m_lanes m_sizes m_cells m_left m_calls m_cDay m_cHour m_cFrom m_cAsk m_cWord m_cOf m_isLie m_children m_learned m_group x2 v17 hc) (cwV 1 hts gX9_readWord_X9_isSameWord rfl rfl rfl (by decide +kernel) ⟨Nat.le_of_ble_eq_true rfl, Nat.le_of_ble_eq_true rfl⟩) EB_0 hE hK hP hD hS hA 0 (ci := 8) rfl rfl rfl rfl hl.1 rfl (Nat.le_of_ble_eq_true rfl) dX9_readWord_123 ⟨Nat.zero_le _, Nat.zero_le _⟩ (fun H locs hP hD hS => ?_)
        refine lv_if_ne (tgt := 133) hx hb dX9_readWord_126 (by decide) (fun c18 => ?_) (fun c18 => ?_)
        · have h := ie_use c18 h
          refine lv_iconst (v := 0) hx hb dX9_readWord_133 (by decide) ?_
          refine lv_iconst (v := 4) hx hb dX9_readWord_134 (by decide) ?_
          obtain ⟨v19, v20, hc, h⟩ := bd2_use h
          refine cv_v (As := [.int (0 : Int32), .int (4 : Int32)]) (rest := []) ⟨hx, hb, hml, hown, hts⟩ (kX9_wants l n dC dI cB cI cJ cZ a _ m_letters m_words m_wMany m_wLetters m_asks m_aWords m_dLetters m_dWords m_dMany m_dText m_dAsks m_dAsk m_tape m_taped m_pos m_from m_sort m_value m_fault m_wrongAt m_manyA m_rowA m_manyB m_rowB m_places m_xs m_ys m_heights m_ridges m_rx m_rHeight m_lanes m_sizes m_cells m_left m_calls m_cDay m_cHour m_cFrom m_cAsk m_cWord m_cOf m_isLie m_children m_learned m_group (0 : Int32) (4 : Int32) v19 v20 hc) (cwV 2 hts gX9_readWord_X9_wants rfl rfl rfl (by decide +kernel) ⟨Nat.le_of_ble_eq_true rfl, Nat.le_of_ble_eq_true rfl⟩) EB_0 hE hK hP hD hS hA 0 (ci := 8) rfl rfl rfl rfl hl.1 rfl (Nat.le_of_ble_eq_true rfl) dX9_readWord_135 ⟨Nat.zero_le _, Nat.zero_le _⟩ (fun H locs hP hD hS => ?_)
          refine lv_iinc (v := x2 + 1) (lv' := [(2, .int (x2 + 1)), (0, .ref (a 0)), (1, .int x1)]) hx hb dX9_readWord_138 hl (k := 2) rfl rfl (by decide) rfl (fun ls hl => ?_)
          refine lv_goto (tgt := 105) hx hb dX9_readWord_141 (by decide) ?_
          exact ih v19 v20 (x2 + 1) _ _ ls h hP hD hS (lv_sub hl [1, 2, 0] rfl)
        · have h := it_use c18 h
          refine lv_iconst (v := 1) hx hb dX9_readWord_129 (by decide) ?_
          refine lv_goto (tgt := 134) hx hb dX9_readWord_130 (by decide) ?_
          refine lv_iconst (v := 4) hx hb dX9_readWord_134 (by decide) ?_
          obtain ⟨v21, v22, hc, h⟩ := bd2_use h
          refine cv_v (As := [.int (1 : Int32), .int (4 : Int32)]) (rest := []) ⟨hx, hb, hml, hown, hts⟩ (kX9_wants l n dC dI cB cI cJ cZ a _ m_letters m_words m_wMany m_wLetters m_asks m_aWords m_dLetters m_dWords m_dMany m_dText m_dAsks m_dAsk m_tape m_taped m_pos m_from m_sort m_value m_fault m_wrongAt m_manyA m_rowA m_manyB m_rowB m_places m_xs m_ys m_heights m_ridges m_rx m_rHeight m_lanes m_sizes m_cells m_left m_calls m_cDay m_cHour m_cFrom m_cAsk m_cWord m_cOf m_isLie m_children m_learned m_group (1 : Int32) (4 : Int32) v21 v22 hc) (cwV 2 hts gX9_readWord_X9_wants rfl rfl rfl (by decide +kernel) ⟨Nat.le_of_ble_eq_true rfl, Nat.le_of_ble_eq_true rfl⟩) EB_0 hE hK hP hD hS hA 0 (ci := 8) rfl rfl rfl rfl hl.1 rfl (Nat.le_of_ble_eq_true rfl) dX9_readWord_135 ⟨Nat.zero_le _, Nat.zero_le _⟩ (fun H locs hP hD hS => ?_)
          refine lv_iinc (v := x2 + 1) (lv' := [(2, .int (x2 + 1)), (0, .ref (a 0)), (1, .int x1)]) hx hb dX9_readWord_138 hl (k := 2) rfl rfl (by decide) rfl (fun ls hl => ?_)
          refine lv_goto (tgt := 105) hx hb dX9_readWord_141 (by decide) ?_
          exact ih v21 v22 (x2 + 1) _ _ ls h hP hD hS (lv_sub hl [1, 2, 0] rfl)
theorem kX9_readWord_p105 {p : Program} {l : Launch} {e : Env} {s : State} {m : MethodId} {args : Array Value} {below : List Frame} {meth : Method} {c : Code} {A : Nat → Prop} (dC : Nat → ClassId) (dI : Nat → Nat → Nat) (cB cI cJ cZ : ClassId) (a : Nat → Nat) (C0 : cxt cX9_readWord none 3 RX9 wsX9_readWord (dC, dI) (tyz cB cI cJ cZ) E_0 A p s m args meth c) (n : Nat) (m_letters : Nat → Int32) (m_words : Int32) (m_wMany : Nat → Int32) (m_wLetters : Nat → Int32) (m_asks : Int32) (m_aWords : Nat → Int32) (m_dLetters : Nat → Int32) (m_dWords : Int32) (m_dMany : Nat → Int32) (m_dText : Nat → Int32) (m_dAsks : Int32) (m_dAsk : Nat → Int32) (m_tape : Nat → Int32) (m_taped : Int32) (m_pos : Int32) (m_from : Int32) (m_sort : Int32) (m_value : Int32) (m_fault : Int32) (m_wrongAt : Int32) (m_manyA : Int32) (m_rowA : Nat → Int32) (m_manyB : Int32) (m_rowB : Nat → Int32) (m_places : Int32) (m_xs : Nat → Int32) (m_ys : Nat → Int32) (m_heights : Nat → Int32) (m_ridges : Int32) (m_rx : Nat → Int32) (m_rHeight : Nat → Int32) (m_lanes : Nat → Int32) (m_sizes : Nat → Int32) (m_cells : Nat → Int32) (m_left : Nat → Int32) (m_calls : Int32) (m_cDay : Nat → Int32) (m_cHour : Nat → Int32) (m_cFrom : Nat → Int32) (m_cAsk : Nat → Int32) (m_cWord : Nat → Int32) (m_cOf : Nat → Int32) (m_isLie : Nat → Int32) (m_children : Int32) (m_learned : Nat → Int32) (m_group : Nat → Int32)  (x1 : Int32) (x2 : Int32) (z_m_dWords : Int32) (z_m_dMany : Nat → Int32) (z_m_dText : Nat → Int32) (z_m_pos : Int32) (z_m_from : Int32) (z_m_sort : Int32) (z_m_value : Int32) (z_m_fault : Int32) (z_m_wrongAt : Int32)  (k : Nat) (H : Heap) (locs : List Loc) (ls : Array Slot) : fX9_readWord_p105 n m_dWords m_dMany m_dText m_tape m_taped m_pos m_from m_sort m_value x1 k m_fault m_wrongAt x2 = some (z_m_dWords, z_m_dMany, z_m_dText, z_m_pos, z_m_from, z_m_sort, z_m_value, z_m_fault, z_m_wrongAt) → va_P (dC, dI) vwCl (wM cB cI cJ cZ a m_letters m_words m_wMany m_wLetters m_asks m_aWords m_dLetters m_dWords m_dMany m_dText m_dAsks m_dAsk m_tape m_taped m_pos m_from m_sort m_value m_fault m_wrongAt m_manyA m_rowA m_manyB m_rowB m_places m_xs m_ys m_heights m_ridges m_rx m_rHeight m_lanes m_sizes m_cells m_left m_calls m_cDay m_cHour m_cFrom m_cAsk m_cWord m_cOf m_isLie m_children m_learned m_group) H → va_D A (wM cB cI cJ cZ a m_letters m_words m_wMany m_wLetters m_asks m_aWords m_dLetters m_dWords m_dMany m_dText m_dAsks m_dAsk m_tape m_taped m_pos m_from m_sort m_value m_fault m_wrongAt m_manyA m_rowA m_manyB m_rowB m_places m_xs m_ys m_heights m_ridges m_rx m_rHeight m_lanes m_sizes m_cells m_left m_calls m_cDay m_cHour m_cFrom m_cAsk m_cWord m_cOf m_isLie m_children m_learned m_group) → va_S A s.heap H locs → lv_has ls 3 [(0, .ref (a 0)), (1, .int x1), (2, .int x2)] → W p l e { frames := 2, cells := 0, slots := 0, locals := 46 } s m args below meth c H locs 0 0 (MQ below (gV (dC, dI) (tyz cB cI cJ cZ) (wM cB cI cJ cZ a m_letters m_words m_wMany m_wLetters m_asks m_aWords m_dLetters z_m_dWords z_m_dMany z_m_dText m_dAsks m_dAsk m_tape m_taped z_m_pos z_m_from z_m_sort z_m_value z_m_fault z_m_wrongAt m_manyA m_rowA m_manyB m_rowB m_places m_xs m_ys m_heights m_ridges m_rx m_rHeight m_lanes m_sizes m_cells m_left m_calls m_cDay m_cHour m_cFrom m_cAsk m_cWord m_cOf m_isLie m_children m_learned m_group) A) args s 0 0 A) (F0 m 105 ls []) :=
  kX9_readWord_p105_r dC dI cB cI cJ cZ a C0 n m_letters m_words m_wMany m_wLetters m_asks m_aWords m_dLetters m_dWords m_dMany m_dText m_dAsks m_dAsk m_tape m_taped m_pos m_from m_sort m_value m_manyA m_rowA m_manyB m_rowB m_places m_xs m_ys m_heights m_ridges m_rx m_rHeight m_lanes m_sizes m_cells m_left m_calls m_cDay m_cHour m_cFrom m_cAsk m_cWord m_cOf m_isLie m_children m_learned m_group x1 z_m_dWords z_m_dMany z_m_dText z_m_pos z_m_from z_m_sort z_m_value z_m_fault z_m_wrongAt  k m_fault m_wrongAt x2 H locs ls
set_option maxHeartbeats 4000000 in
set_option maxRecDepth 100000 in
theorem kX9_readWord_p53_r {p : Program} {l : Launch} {e : Env} {s : State} {m : MethodId} {args : Array Value} {below : List Frame} {meth : Method} {c : Code} {A : Nat → Prop} (dC : Nat → ClassId) (dI : Nat → Nat → Nat) (cB cI cJ cZ : ClassId) (a : Nat → Nat) (C0 : cxt cX9_readWord none 3 RX9 wsX9_readWord (dC, dI) (tyz cB cI cJ cZ) E_0 A p s m args meth c) (n : Nat) (m_letters : Nat → Int32) (m_words : Int32) (m_wMany : Nat → Int32) (m_wLetters : Nat → Int32) (m_asks : Int32) (m_aWords : Nat → Int32) (m_dLetters : Nat → Int32) (m_dWords : Int32) (m_dMany : Nat → Int32) (m_dText : Nat → Int32) (m_dAsks : Int32) (m_dAsk : Nat → Int32) (m_tape : Nat → Int32) (m_taped : Int32) (m_pos : Int32) (m_from : Int32) (m_sort : Int32) (m_value : Int32) (m_manyA : Int32) (m_rowA : Nat → Int32) (m_manyB : Int32) (m_rowB : Nat → Int32) (m_places : Int32) (m_xs : Nat → Int32) (m_ys : Nat → Int32) (m_heights : Nat → Int32) (m_ridges : Int32) (m_rx : Nat → Int32) (m_rHeight : Nat → Int32) (m_lanes : Nat → Int32) (m_sizes : Nat → Int32) (m_cells : Nat → Int32) (m_left : Nat → Int32) (m_calls : Int32) (m_cDay : Nat → Int32) (m_cHour : Nat → Int32) (m_cFrom : Nat → Int32) (m_cAsk : Nat → Int32) (m_cWord : Nat → Int32) (m_cOf : Nat → Int32) (m_isLie : Nat → Int32) (m_children : Int32) (m_learned : Nat → Int32) (m_group : Nat → Int32) (x1 : Int32) (z_m_dWords : Int32) (z_m_dMany : Nat → Int32) (z_m_dText : Nat → Int32) (z_m_pos : Int32) (z_m_from : Int32) (z_m_sort : Int32) (z_m_value : Int32) (z_m_fault : Int32) (z_m_wrongAt : Int32)  : ∀ (k : Nat) (m_fault : Int32) (m_wrongAt : Int32) (x2 : Int32) (H : Heap) (locs : List Loc) (ls : Array Slot), fX9_readWord_p53 n m_dLetters m_dWords m_dMany m_dText m_tape m_taped m_pos m_from m_sort m_value x1 k m_fault m_wrongAt x2 = some (z_m_dWords, z_m_dMany, z_m_dText, z_m_pos, z_m_from, z_m_sort, z_m_value, z_m_fault, z_m_wrongAt) → va_P (dC, dI) vwCl (wM cB cI cJ cZ a m_letters m_words m_wMany m_wLetters m_asks m_aWords m_dLetters m_dWords m_dMany m_dText m_dAsks m_dAsk m_tape m_taped m_pos m_from m_sort m_value m_fault m_wrongAt m_manyA m_rowA m_manyB m_rowB m_places m_xs m_ys m_heights m_ridges m_rx m_rHeight m_lanes m_sizes m_cells m_left m_calls m_cDay m_cHour m_cFrom m_cAsk m_cWord m_cOf m_isLie m_children m_learned m_group) H → va_D A (wM cB cI cJ cZ a m_letters m_words m_wMany m_wLetters m_asks m_aWords m_dLetters m_dWords m_dMany m_dText m_dAsks m_dAsk m_tape m_taped m_pos m_from m_sort m_value m_fault m_wrongAt m_manyA m_rowA m_manyB m_rowB m_places m_xs m_ys m_heights m_ridges m_rx m_rHeight m_lanes m_sizes m_cells m_left m_calls m_cDay m_cHour m_cFrom m_cAsk m_cWord m_cOf m_isLie m_children m_learned m_group) → va_S A s.heap H locs → lv_has ls 3 [(0, .ref (a 0)), (1, .int x1), (2, .int x2)] → W p l e { frames := 2, cells := 0, slots := 0, locals := 46 } s m args below meth c H locs 0 0 (MQ below (gV (dC, dI) (tyz cB cI cJ cZ) (wM cB cI cJ cZ a m_letters m_words m_wMany m_wLetters m_asks m_aWords m_dLetters z_m_dWords z_m_dMany z_m_dText m_dAsks m_dAsk m_tape m_taped z_m_pos z_m_from z_m_sort z_m_value z_m_fault z_m_wrongAt m_manyA m_rowA m_manyB m_rowB m_places m_xs m_ys m_heights m_ridges m_rx m_rHeight m_lanes m_sizes m_cells m_left m_calls m_cDay m_cHour m_cFrom m_cAsk m_cWord m_cOf m_isLie m_children m_learned m_group) A) args s 0 0 A) (F0 m 53 ls []) := by
  obtain ⟨hx, hb, hr, hml, hown, hts, hlocks, hK, hA, hE⟩ := id C0
  have hw0 := hts (.fieldLink RX9 108 "WhistledWordsModel" "fault" "I") (by decide +kernel)
  have hw1 := hts (.fieldLink RX9 22 "WhistledWordsModel" "dLetters" "[I") (by decide +kernel)
  have hw2 := hts (.fieldLink RX9 111 "WhistledWordsModel" "from" "I") (by decide +kernel)
  have hnX9 : ∀ w ∈ u_ws RX9 TX9 46, w ∈ wsX9_readWord := fun _ h => List.mem_cons_of_mem _ (List.mem_append_right _ h)
  intro k
  induction k with
  | zero =>
    intro m_fault m_wrongAt x2 H locs ls h
    cases h
  | succ k ih =>
    intro m_fault m_wrongAt x2 H locs ls h hP hD hS hl
    rw [fX9_readWord_p53] at h
    refine lv_iload_n hx hb dX9_readWord_53 rfl (lv_at hl 2 rfl) ?_
    refine lv_iload_n hx hb dX9_readWord_54 rfl (lv_at hl 1 rfl) ?_
    refine lv_icmp_ge (tgt := 103) hx hb dX9_readWord_55 (by decide) (fun c1 => ?_) (fun c1 => ?_)
    · have h := it_use c1 h
      refine lv_iconst (v := 0) hx hb dX9_readWord_103 (by decide) ?_
      refine lv_istore_n (lv' := [(2, .int (0 : Int32)), (0, .ref (a 0)), (1, .int x1)]) hx hb dX9_readWord_104 rfl hl (by decide) rfl (fun ls hl => ?_)
      exact kX9_readWord_p105 dC dI cB cI cJ cZ a C0 n m_letters m_words m_wMany m_wLetters m_asks m_aWords m_dLetters m_dWords m_dMany m_dText m_dAsks m_dAsk m_tape m_taped m_pos m_from m_sort m_value m_fault m_wrongAt m_manyA m_rowA m_manyB m_rowB m_places m_xs m_ys m_heights m_ridges m_rx m_rHeight m_lanes m_sizes m_cells m_left m_calls m_cDay m_cHour m_cFrom m_cAsk m_cWord m_cOf m_isLie m_children m_learned m_group x1 (0 : Int32) z_m_dWords z_m_dMany z_m_dText z_m_pos z_m_from z_m_sort z_m_value z_m_fault z_m_wrongAt  n _ _ ls h hP hD hS (lv_sub hl [1, 2, 0] rfl)
    · have h := ie_use c1 h
      refine lv_aload_n hx hb dX9_readWord_58 rfl (lv_at hl 0 rfl) ?_
      refine gM_mo_fault hx hb hts hnX9 hown hK hP hw0 dX9_readWord_59 ?_
      refine lv_if_ne (tgt := 103) hx hb dX9_readWord_62 (by decide) (fun c2 => ?_) (fun c2 => ?_)
      · have h := ie_use c2 h
        refine lv_iconst (v := 0) hx hb dX9_readWord_103 (by decide) ?_
        refine lv_istore_n (lv' := [(2, .int (0 : Int32)), (0, .ref (a 0)), (1, .int x1)]) hx hb dX9_readWord_104 rfl hl (by decide) rfl (fun ls hl => ?_)
        exact kX9_readWord_p105 dC dI cB cI cJ cZ a C0 n m_letters m_words m_wMany m_wLetters m_asks m_aWords m_dLetters m_dWords m_dMany m_dText m_dAsks m_dAsk m_tape m_taped m_pos m_from m_sort m_value m_fault m_wrongAt m_manyA m_rowA m_manyB m_rowB m_places m_xs m_ys m_heights m_ridges m_rx m_rHeight m_lanes m_sizes m_cells m_left m_calls m_cDay m_cHour m_cFrom m_cAsk m_cWord m_cOf m_isLie m_children m_learned m_group x1 (0 : Int32) z_m_dWords z_m_dMany z_m_dText z_m_pos z_m_from z_m_sort z_m_value z_m_fault z_m_wrongAt  n _ _ ls h hP hD hS (lv_sub hl [1, 2, 0] rfl)
      · have h := it_use c2 h
        refine lv_aload_n hx hb dX9_readWord_65 rfl (lv_at hl 0 rfl) ?_
        refine lv_aload_n hx hb dX9_readWord_66 rfl (lv_at hl 0 rfl) ?_
        refine gM_mo_dLetters hx hb hts hnX9 hown hK hP hw1 dX9_readWord_67 ?_
        refine lv_aload_n hx hb dX9_readWord_70 rfl (lv_at hl 0 rfl) ?_
        refine lv_aload_n hx hb dX9_readWord_71 rfl (lv_at hl 0 rfl) ?_
        refine gM_mo_from hx hb hts hnX9 hown hK hP hw2 dX9_readWord_72 ?_
        refine lv_iload_n hx hb dX9_readWord_75 rfl (lv_at hl 2 rfl) ?_
        refine lv_iadd hx hb dX9_readWord_76 ?_
        obtain ⟨v3, hc, h⟩ := bd1_use h
        refine cv_i (As := [.int (m_from + x2)]) (rest := [.ref (a 5), .ref (a 0)]) ⟨hx, hb, hml, hown, hts⟩ (kX9_look l n dC dI cB cI cJ cZ a _ m_letters m_words m_wMany m_wLetters m_asks m_aWords m_dLetters m_dWords m_dMany m_dText m_dAsks m_dAsk m_tape m_taped m_pos m_from m_sort m_value m_fault m_wrongAt m_manyA m_rowA m_manyB m_rowB m_places m_xs m_ys m_heights m_ridges m_rx m_rHeight m_lanes m_sizes m_cells m_left m_calls m_cDay m_cHour m_cFrom m_cAsk m_cWord m_cOf m_isLie m_children m_learned m_group (m_from + x2) v3 hc) (cwV 1 hts gX9_readWord_X9_look rfl rfl rfl (by decide +kernel) ⟨Nat.le_of_ble_eq_true rfl, Nat.le_of_ble_eq_true rfl⟩) EB_0 hE hK hP hD hS hA 0 (ci := 8) rfl rfl rfl rfl hl.1 rfl (Nat.le_of_ble_eq_true rfl) dX9_readWord_77 ⟨Nat.zero_le _, Nat.zero_le _⟩ (fun H locs hP hD hS => ?_)
        refine lv_bipush (v := 97) hx hb dX9_readWord_80 (by decide) ?_
        refine lv_isub hx hb dX9_readWord_82 ?_
        obtain ⟨hiv4, h⟩ := ar_use h
        refine lM_mo_dLetters hx hb hK hP hiv4 dX9_readWord_83 ?_
        refine lv_topi (fun v4 ev4 => ?_)
        have h := h v4 ev4
        refine lv_iconst (v := -1) hx hb dX9_readWord_84 (by decide) ?_
        refine lv_icmp_eq (tgt := 92) hx hb dX9_readWord_85 (by decide) (fun c5 => ?_) (fun c5 => ?_)
        · have h := it_use c5 h
          refine lv_iconst (v := 0) hx hb dX9_readWord_92 (by decide) ?_
          refine lv_iconst (v := 5) hx hb dX9_readWord_93 (by decide) ?_
          obtain ⟨v6, v7, hc, h⟩ := bd2_use h
          refine cv_v (As := [.int (0 : Int32), .int (5 : Int32)]) (rest := []) ⟨hx, hb, hml, hown, hts⟩ (kX9_wants l n dC dI cB cI cJ cZ a _ m_letters m_words m_wMany m_wLetters m_asks m_aWords m_dLetters m_dWords m_dMany m_dText m_dAsks m_dAsk m_tape m_taped m_pos m_from m_sort m_value m_fault m_wrongAt m_manyA m_rowA m_manyB m_rowB m_places m_xs m_ys m_heights m_ridges m_rx m_rHeight m_lanes m_sizes m_cells m_left m_calls m_cDay m_cHour m_cFrom m_cAsk m_cWord m_cOf m_isLie m_children m_learned m_group (0 : Int32) (5 : Int32) v6 v7 hc) (cwV 2 hts gX9_readWord_X9_wants rfl rfl rfl (by decide +kernel) ⟨Nat.le_of_ble_eq_true rfl, Nat.le_of_ble_eq_true rfl⟩) EB_0 hE hK hP hD hS hA 0 (ci := 8) rfl rfl rfl rfl hl.1 rfl (Nat.le_of_ble_eq_true rfl) dX9_readWord_94 ⟨Nat.zero_le _, Nat.zero_le _⟩ (fun H locs hP hD hS => ?_)
          refine lv_iinc (v := x2 + 1) (lv' := [(2, .int (x2 + 1)), (0, .ref (a 0)), (1, .int x1)]) hx hb dX9_readWord_97 hl (k := 2) rfl rfl (by decide) rfl (fun ls hl => ?_)
          refine lv_goto (tgt := 53) hx hb dX9_readWord_100 (by decide) ?_
          exact ih v6 v7 (x2 + 1) _ _ ls h hP hD hS (lv_sub hl [1, 2, 0] rfl)
        · have h := ie_use c5 h
          refine lv_iconst (v := 1) hx hb dX9_readWord_88 (by decide) ?_
          refine lv_goto (tgt := 93) hx hb dX9_readWord_89 (by decide) ?_
          refine lv_iconst (v := 5) hx hb dX9_readWord_93 (by decide) ?_
          obtain ⟨v8, v9, hc, h⟩ := bd2_use h
          refine cv_v (As := [.int (1 : Int32), .int (5 : Int32)]) (rest := []) ⟨hx, hb, hml, hown, hts⟩ (kX9_wants l n dC dI cB cI cJ cZ a _ m_letters m_words m_wMany m_wLetters m_asks m_aWords m_dLetters m_dWords m_dMany m_dText m_dAsks m_dAsk m_tape m_taped m_pos m_from m_sort m_value m_fault m_wrongAt m_manyA m_rowA m_manyB m_rowB m_places m_xs m_ys m_heights m_ridges m_rx m_rHeight m_lanes m_sizes m_cells m_left m_calls m_cDay m_cHour m_cFrom m_cAsk m_cWord m_cOf m_isLie m_children m_learned m_group (1 : Int32) (5 : Int32) v8 v9 hc) (cwV 2 hts gX9_readWord_X9_wants rfl rfl rfl (by decide +kernel) ⟨Nat.le_of_ble_eq_true rfl, Nat.le_of_ble_eq_true rfl⟩) EB_0 hE hK hP hD hS hA 0 (ci := 8) rfl rfl rfl rfl hl.1 rfl (Nat.le_of_ble_eq_true rfl) dX9_readWord_94 ⟨Nat.zero_le _, Nat.zero_le _⟩ (fun H locs hP hD hS => ?_)
          refine lv_iinc (v := x2 + 1) (lv' := [(2, .int (x2 + 1)), (0, .ref (a 0)), (1, .int x1)]) hx hb dX9_readWord_97 hl (k := 2) rfl rfl (by decide) rfl (fun ls hl => ?_)
          refine lv_goto (tgt := 53) hx hb dX9_readWord_100 (by decide) ?_
          exact ih v8 v9 (x2 + 1) _ _ ls h hP hD hS (lv_sub hl [1, 2, 0] rfl)
theorem kX9_readWord_p53 {p : Program} {l : Launch} {e : Env} {s : State} {m : MethodId} {args : Array Value} {below : List Frame} {meth : Method} {c : Code} {A : Nat → Prop} (dC : Nat → ClassId) (dI : Nat → Nat → Nat) (cB cI cJ cZ : ClassId) (a : Nat → Nat) (C0 : cxt cX9_readWord none 3 RX9 wsX9_readWord (dC, dI) (tyz cB cI cJ cZ) E_0 A p s m args meth c) (n : Nat) (m_letters : Nat → Int32) (m_words : Int32) (m_wMany : Nat → Int32) (m_wLetters : Nat → Int32) (m_asks : Int32) (m_aWords : Nat → Int32) (m_dLetters : Nat → Int32) (m_dWords : Int32) (m_dMany : Nat → Int32) (m_dText : Nat → Int32) (m_dAsks : Int32) (m_dAsk : Nat → Int32) (m_tape : Nat → Int32) (m_taped : Int32) (m_pos : Int32) (m_from : Int32) (m_sort : Int32) (m_value : Int32) (m_fault : Int32) (m_wrongAt : Int32) (m_manyA : Int32) (m_rowA : Nat → Int32) (m_manyB : Int32) (m_rowB : Nat → Int32) (m_places : Int32) (m_xs : Nat → Int32) (m_ys : Nat → Int32) (m_heights : Nat → Int32) (m_ridges : Int32) (m_rx : Nat → Int32) (m_rHeight : Nat → Int32) (m_lanes : Nat → Int32) (m_sizes : Nat → Int32) (m_cells : Nat → Int32) (m_left : Nat → Int32) (m_calls : Int32) (m_cDay : Nat → Int32) (m_cHour : Nat → Int32) (m_cFrom : Nat → Int32) (m_cAsk : Nat → Int32) (m_cWord : Nat → Int32) (m_cOf : Nat → Int32) (m_isLie : Nat → Int32) (m_children : Int32) (m_learned : Nat → Int32) (m_group : Nat → Int32)  (x1 : Int32) (x2 : Int32) (z_m_dWords : Int32) (z_m_dMany : Nat → Int32) (z_m_dText : Nat → Int32) (z_m_pos : Int32) (z_m_from : Int32) (z_m_sort : Int32) (z_m_value : Int32) (z_m_fault : Int32) (z_m_wrongAt : Int32)  (k : Nat) (H : Heap) (locs : List Loc) (ls : Array Slot) : fX9_readWord_p53 n m_dLetters m_dWords m_dMany m_dText m_tape m_taped m_pos m_from m_sort m_value x1 k m_fault m_wrongAt x2 = some (z_m_dWords, z_m_dMany, z_m_dText, z_m_pos, z_m_from, z_m_sort, z_m_value, z_m_fault, z_m_wrongAt) → va_P (dC, dI) vwCl (wM cB cI cJ cZ a m_letters m_words m_wMany m_wLetters m_asks m_aWords m_dLetters m_dWords m_dMany m_dText m_dAsks m_dAsk m_tape m_taped m_pos m_from m_sort m_value m_fault m_wrongAt m_manyA m_rowA m_manyB m_rowB m_places m_xs m_ys m_heights m_ridges m_rx m_rHeight m_lanes m_sizes m_cells m_left m_calls m_cDay m_cHour m_cFrom m_cAsk m_cWord m_cOf m_isLie m_children m_learned m_group) H → va_D A (wM cB cI cJ cZ a m_letters m_words m_wMany m_wLetters m_asks m_aWords m_dLetters m_dWords m_dMany m_dText m_dAsks m_dAsk m_tape m_taped m_pos m_from m_sort m_value m_fault m_wrongAt m_manyA m_rowA m_manyB m_rowB m_places m_xs m_ys m_heights m_ridges m_rx m_rHeight m_lanes m_sizes m_cells m_left m_calls m_cDay m_cHour m_cFrom m_cAsk m_cWord m_cOf m_isLie m_children m_learned m_group) → va_S A s.heap H locs → lv_has ls 3 [(0, .ref (a 0)), (1, .int x1), (2, .int x2)] → W p l e { frames := 2, cells := 0, slots := 0, locals := 46 } s m args below meth c H locs 0 0 (MQ below (gV (dC, dI) (tyz cB cI cJ cZ) (wM cB cI cJ cZ a m_letters m_words m_wMany m_wLetters m_asks m_aWords m_dLetters z_m_dWords z_m_dMany z_m_dText m_dAsks m_dAsk m_tape m_taped z_m_pos z_m_from z_m_sort z_m_value z_m_fault z_m_wrongAt m_manyA m_rowA m_manyB m_rowB m_places m_xs m_ys m_heights m_ridges m_rx m_rHeight m_lanes m_sizes m_cells m_left m_calls m_cDay m_cHour m_cFrom m_cAsk m_cWord m_cOf m_isLie m_children m_learned m_group) A) args s 0 0 A) (F0 m 53 ls []) :=
  kX9_readWord_p53_r dC dI cB cI cJ cZ a C0 n m_letters m_words m_wMany m_wLetters m_asks m_aWords m_dLetters m_dWords m_dMany m_dText m_dAsks m_dAsk m_tape m_taped m_pos m_from m_sort m_value m_manyA m_rowA m_manyB m_rowB m_places m_xs m_ys m_heights m_ridges m_rx m_rHeight m_lanes m_sizes m_cells m_left m_calls m_cDay m_cHour m_cFrom m_cAsk m_cWord m_cOf m_isLie m_children m_learned m_group x1 z_m_dWords z_m_dMany z_m_dText z_m_pos z_m_from z_m_sort z_m_value z_m_fault z_m_wrongAt  k m_fault m_wrongAt x2 H locs ls
set_option maxHeartbeats 4000000 in
set_option maxRecDepth 100000 in
theorem kX9_readWord_p14 {p : Program} {l : Launch} {e : Env} {s : State} {m : MethodId} {args : Array Value} {below : List Frame} {meth : Method} {c : Code} {A : Nat → Prop} (dC : Nat → ClassId) (dI : Nat → Nat → Nat) (cB cI cJ cZ : ClassId) (a : Nat → Nat) (C0 : cxt cX9_readWord none 3 RX9 wsX9_readWord (dC, dI) (tyz cB cI cJ cZ) E_0 A p s m args meth c) (n : Nat) (m_letters : Nat → Int32) (m_words : Int32) (m_wMany : Nat → Int32) (m_wLetters : Nat → Int32) (m_asks : Int32) (m_aWords : Nat → Int32) (m_dLetters : Nat → Int32) (m_dWords : Int32) (m_dMany : Nat → Int32) (m_dText : Nat → Int32) (m_dAsks : Int32) (m_dAsk : Nat → Int32) (m_tape : Nat → Int32) (m_taped : Int32) (m_pos : Int32) (m_from : Int32) (m_sort : Int32) (m_value : Int32) (m_fault : Int32) (m_wrongAt : Int32) (m_manyA : Int32) (m_rowA : Nat → Int32) (m_manyB : Int32) (m_rowB : Nat → Int32) (m_places : Int32) (m_xs : Nat → Int32) (m_ys : Nat → Int32) (m_heights : Nat → Int32) (m_ridges : Int32) (m_rx : Nat → Int32) (m_rHeight : Nat → Int32) (m_lanes : Nat → Int32) (m_sizes : Nat → Int32) (m_cells : Nat → Int32) (m_left : Nat → Int32) (m_calls : Int32) (m_cDay : Nat → Int32) (m_cHour : Nat → Int32) (m_cFrom : Nat → Int32) (m_cAsk : Nat → Int32) (m_cWord : Nat → Int32) (m_cOf : Nat → Int32) (m_isLie : Nat → Int32) (m_children : Int32) (m_learned : Nat → Int32) (m_group : Nat → Int32)   (s1 : Int32) (z_m_dWords : Int32) (z_m_dMany : Nat → Int32) (z_m_dText : Nat → Int32) (z_m_pos : Int32) (z_m_from : Int32) (z_m_sort : Int32) (z_m_value : Int32) (z_m_fault : Int32) (z_m_wrongAt : Int32)  (H : Heap) (locs : List Loc) (ls : Array Slot) : fX9_readWord_p14 n m_dLetters m_dWords m_dMany m_dText m_tape m_taped m_pos m_from m_sort m_value m_fault m_wrongAt s1 = some (z_m_dWords, z_m_dMany, z_m_dText, z_m_pos, z_m_from, z_m_sort, z_m_value, z_m_fault, z_m_wrongAt) → va_P (dC, dI) vwCl (wM cB cI cJ cZ a m_letters m_words m_wMany m_wLetters m_asks m_aWords m_dLetters m_dWords m_dMany m_dText m_dAsks m_dAsk m_tape m_taped m_pos m_from m_sort m_value m_fault m_wrongAt m_manyA m_rowA m_manyB m_rowB m_places m_xs m_ys m_heights m_ridges m_rx m_rHeight m_lanes m_sizes m_cells m_left m_calls m_cDay m_cHour m_cFrom m_cAsk m_cWord m_cOf m_isLie m_children m_learned m_group) H → va_D A (wM cB cI cJ cZ a m_letters m_words m_wMany m_wLetters m_asks m_aWords m_dLetters m_dWords m_dMany m_dText m_dAsks m_dAsk m_tape m_taped m_pos m_from m_sort m_value m_fault m_wrongAt m_manyA m_rowA m_manyB m_rowB m_places m_xs m_ys m_heights m_ridges m_rx m_rHeight m_lanes m_sizes m_cells m_left m_calls m_cDay m_cHour m_cFrom m_cAsk m_cWord m_cOf m_isLie m_children m_learned m_group) → va_S A s.heap H locs → lv_has ls 3 [(0, .ref (a 0))] → W p l e { frames := 2, cells := 0, slots := 0, locals := 46 } s m args below meth c H locs 0 0 (MQ below (gV (dC, dI) (tyz cB cI cJ cZ) (wM cB cI cJ cZ a m_letters m_words m_wMany m_wLetters m_asks m_aWords m_dLetters z_m_dWords z_m_dMany z_m_dText m_dAsks m_dAsk m_tape m_taped z_m_pos z_m_from z_m_sort z_m_value z_m_fault z_m_wrongAt m_manyA m_rowA m_manyB m_rowB m_places m_xs m_ys m_heights m_ridges m_rx m_rHeight m_lanes m_sizes m_cells m_left m_calls m_cDay m_cHour m_cFrom m_cAsk m_cWord m_cOf m_isLie m_children m_learned m_group) A) args s 0 0 A) (F0 m 14 ls [.int s1, .ref (a 0)]) := by
  intro h hP hD hS hl
  obtain ⟨hx, hb, hr, hml, hown, hts, hlocks, hK, hA, hE⟩ := id C0
  have hw0 := hts (.fieldLink RX9 117 "WhistledWordsModel" "pos" "I") (by decide +kernel)
  have hw1 := hts (.fieldLink RX9 111 "WhistledWordsModel" "from" "I") (by decide +kernel)
  have hw2 := hts (.fieldLink RX9 108 "WhistledWordsModel" "fault" "I") (by decide +kernel)
  have hnX9 : ∀ w ∈ u_ws RX9 TX9 46, w ∈ wsX9_readWord := fun _ h => List.mem_cons_of_mem _ (List.mem_append_right _ h)
  unfold fX9_readWord_p14 at h
  refine lv_iconst (v := 2) hx hb dX9_readWord_14 (by decide) ?_
  obtain ⟨v1, v2, hc, h⟩ := bd2_use h
  refine cv_v (As := [.int s1, .int (2 : Int32)]) (rest := []) ⟨hx, hb, hml, hown, hts⟩ (kX9_wants l n dC dI cB cI cJ cZ a _ m_letters m_words m_wMany m_wLetters m_asks m_aWords m_dLetters m_dWords m_dMany m_dText m_dAsks m_dAsk m_tape m_taped m_pos m_from m_sort m_value m_fault m_wrongAt m_manyA m_rowA m_manyB m_rowB m_places m_xs m_ys m_heights m_ridges m_rx m_rHeight m_lanes m_sizes m_cells m_left m_calls m_cDay m_cHour m_cFrom m_cAsk m_cWord m_cOf m_isLie m_children m_learned m_group s1 (2 : Int32) v1 v2 hc) (cwV 2 hts gX9_readWord_X9_wants rfl rfl rfl (by decide +kernel) ⟨Nat.le_of_ble_eq_true rfl, Nat.le_of_ble_eq_true rfl⟩) EB_0 hE hK hP hD hS hA 0 (ci := 8) rfl rfl rfl rfl hl.1 rfl (Nat.le_of_ble_eq_true rfl) dX9_readWord_15 ⟨Nat.zero_le _, Nat.zero_le _⟩ (fun H locs hP hD hS => ?_)
  refine lv_aload_n hx hb dX9_readWord_18 rfl (lv_at hl 0 rfl) ?_
  refine gM_mo_pos hx hb hts hnX9 hown hK hP hw0 dX9_readWord_19 ?_
  refine lv_aload_n hx hb dX9_readWord_22 rfl (lv_at hl 0 rfl) ?_
  refine gM_mo_from hx hb hts hnX9 hown hK hP hw1 dX9_readWord_23 ?_
  refine lv_isub hx hb dX9_readWord_26 ?_
  refine lv_topi (fun v3 ev3 => ?_)
  have h := nm_use ev3 h
  refine lv_istore_n (lv' := [(1, .int v3), (0, .ref (a 0))]) hx hb dX9_readWord_27 rfl hl (by decide) rfl (fun ls hl => ?_)
  refine lv_aload_n hx hb dX9_readWord_28 rfl (lv_at hl 1 rfl) ?_
  refine gM_mo_fault hx hb hts hnX9 hown hK hP hw2 dX9_readWord_29 ?_
  refine lv_if_ne (tgt := 51) hx hb dX9_readWord_32 (by decide) (fun c4 => ?_) (fun c4 => ?_)
  · have h := ie_use c4 h
    refine lv_iconst (v := 0) hx hb dX9_readWord_51 (by decide) ?_
    refine lv_istore_n (lv' := [(2, .int (0 : Int32)), (1, .int v3), (0, .ref (a 0))]) hx hb dX9_readWord_52 rfl hl (by decide) rfl (fun ls hl => ?_)
    exact kX9_readWord_p53 dC dI cB cI cJ cZ a C0 n m_letters m_words m_wMany m_wLetters m_asks m_aWords m_dLetters m_dWords m_dMany m_dText m_dAsks m_dAsk m_tape m_taped m_pos m_from m_sort m_value v1 v2 m_manyA m_rowA m_manyB m_rowB m_places m_xs m_ys m_heights m_ridges m_rx m_rHeight m_lanes m_sizes m_cells m_left m_calls m_cDay m_cHour m_cFrom m_cAsk m_cWord m_cOf m_isLie m_children m_learned m_group v3 (0 : Int32) z_m_dWords z_m_dMany z_m_dText z_m_pos z_m_from z_m_sort z_m_value z_m_fault z_m_wrongAt  n _ _ ls h hP hD hS (lv_sub hl [2, 1, 0] rfl)
  · have h := it_use c4 h
    refine lv_aload_n hx hb dX9_readWord_35 rfl (lv_at hl 1 rfl) ?_
    refine lv_iload_n hx hb dX9_readWord_36 rfl (lv_at hl 0 rfl) ?_
    refine lv_bipush (v := 8) hx hb dX9_readWord_37 (by decide) ?_
    refine lv_icmp_gt (tgt := 46) hx hb dX9_readWord_39 (by decide) (fun c5 => ?_) (fun c5 => ?_)
    · have h := it_use c5 h
      refine lv_iconst (v := 0) hx hb dX9_readWord_46 (by decide) ?_
      refine lv_iconst (v := 5) hx hb dX9_readWord_47 (by decide) ?_
      obtain ⟨v6, v7, hc, h⟩ := bd2_use h
      refine cv_v (As := [.int (0 : Int32), .int (5 : Int32)]) (rest := []) ⟨hx, hb, hml, hown, hts⟩ (kX9_wants l n dC dI cB cI cJ cZ a _ m_letters m_words m_wMany m_wLetters m_asks m_aWords m_dLetters m_dWords m_dMany m_dText m_dAsks m_dAsk m_tape m_taped m_pos m_from m_sort m_value v1 v2 m_manyA m_rowA m_manyB m_rowB m_places m_xs m_ys m_heights m_ridges m_rx m_rHeight m_lanes m_sizes m_cells m_left m_calls m_cDay m_cHour m_cFrom m_cAsk m_cWord m_cOf m_isLie m_children m_learned m_group (0 : Int32) (5 : Int32) v6 v7 hc) (cwV 2 hts gX9_readWord_X9_wants rfl rfl rfl (by decide +kernel) ⟨Nat.le_of_ble_eq_true rfl, Nat.le_of_ble_eq_true rfl⟩) EB_0 hE hK hP hD hS hA 0 (ci := 8) rfl rfl rfl rfl hl.1 rfl (Nat.le_of_ble_eq_true rfl) dX9_readWord_48 ⟨Nat.zero_le _, Nat.zero_le _⟩ (fun H locs hP hD hS => ?_)
      refine lv_iconst (v := 0) hx hb dX9_readWord_51 (by decide) ?_
      refine lv_istore_n (lv' := [(2, .int (0 : Int32)), (1, .int v3), (0, .ref (a 0))]) hx hb dX9_readWord_52 rfl hl (by decide) rfl (fun ls hl => ?_)
      exact kX9_readWord_p53 dC dI cB cI cJ cZ a C0 n m_letters m_words m_wMany m_wLetters m_asks m_aWords m_dLetters m_dWords m_dMany m_dText m_dAsks m_dAsk m_tape m_taped m_pos m_from m_sort m_value v6 v7 m_manyA m_rowA m_manyB m_rowB m_places m_xs m_ys m_heights m_ridges m_rx m_rHeight m_lanes m_sizes m_cells m_left m_calls m_cDay m_cHour m_cFrom m_cAsk m_cWord m_cOf m_isLie m_children m_learned m_group v3 (0 : Int32) z_m_dWords z_m_dMany z_m_dText z_m_pos z_m_from z_m_sort z_m_value z_m_fault z_m_wrongAt  n _ _ ls h hP hD hS (lv_sub hl [2, 1, 0] rfl)
    · have h := ie_use c5 h
      refine lv_iconst (v := 1) hx hb dX9_readWord_42 (by decide) ?_
      refine lv_goto (tgt := 47) hx hb dX9_readWord_43 (by decide) ?_
      refine lv_iconst (v := 5) hx hb dX9_readWord_47 (by decide) ?_
      obtain ⟨v8, v9, hc, h⟩ := bd2_use h
      refine cv_v (As := [.int (1 : Int32), .int (5 : Int32)]) (rest := []) ⟨hx, hb, hml, hown, hts⟩ (kX9_wants l n dC dI cB cI cJ cZ a _ m_letters m_words m_wMany m_wLetters m_asks m_aWords m_dLetters m_dWords m_dMany m_dText m_dAsks m_dAsk m_tape m_taped m_pos m_from m_sort m_value v1 v2 m_manyA m_rowA m_manyB m_rowB m_places m_xs m_ys m_heights m_ridges m_rx m_rHeight m_lanes m_sizes m_cells m_left m_calls m_cDay m_cHour m_cFrom m_cAsk m_cWord m_cOf m_isLie m_children m_learned m_group (1 : Int32) (5 : Int32) v8 v9 hc) (cwV 2 hts gX9_readWord_X9_wants rfl rfl rfl (by decide +kernel) ⟨Nat.le_of_ble_eq_true rfl, Nat.le_of_ble_eq_true rfl⟩) EB_0 hE hK hP hD hS hA 0 (ci := 8) rfl rfl rfl rfl hl.1 rfl (Nat.le_of_ble_eq_true rfl) dX9_readWord_48 ⟨Nat.zero_le _, Nat.zero_le _⟩ (fun H locs hP hD hS => ?_)
      refine lv_iconst (v := 0) hx hb dX9_readWord_51 (by decide) ?_
      refine lv_istore_n (lv' := [(2, .int (0 : Int32)), (1, .int v3), (0, .ref (a 0))]) hx hb dX9_readWord_52 rfl hl (by decide) rfl (fun ls hl => ?_)
      exact kX9_readWord_p53 dC dI cB cI cJ cZ a C0 n m_letters m_words m_wMany m_wLetters m_asks m_aWords m_dLetters m_dWords m_dMany m_dText m_dAsks m_dAsk m_tape m_taped m_pos m_from m_sort m_value v8 v9 m_manyA m_rowA m_manyB m_rowB m_places m_xs m_ys m_heights m_ridges m_rx m_rHeight m_lanes m_sizes m_cells m_left m_calls m_cDay m_cHour m_cFrom m_cAsk m_cWord m_cOf m_isLie m_children m_learned m_group v3 (0 : Int32) z_m_dWords z_m_dMany z_m_dText z_m_pos z_m_from z_m_sort z_m_value z_m_fault z_m_wrongAt  n _ _ ls h hP hD hS (lv_sub hl [2, 1, 0] rfl)
set_option maxHeartbeats 4000000 in
set_option maxRecDepth 100000 in
theorem kX9_readWord (l : Launch) (n : Nat) (dC : Nat → ClassId) (dI : Nat → Nat → Nat) (cB cI cJ cZ : ClassId) (a : Nat → Nat) (sz : Nat) (m_letters : Nat → Int32) (m_words : Int32) (m_wMany : Nat → Int32) (m_wLetters : Nat → Int32) (m_asks : Int32) (m_aWords : Nat → Int32) (m_dLetters : Nat → Int32) (m_dWords : Int32) (m_dMany : Nat → Int32) (m_dText : Nat → Int32) (m_dAsks : Int32) (m_dAsk : Nat → Int32) (m_tape : Nat → Int32) (m_taped : Int32) (m_pos : Int32) (m_from : Int32) (m_sort : Int32) (m_value : Int32) (m_fault : Int32) (m_wrongAt : Int32) (m_manyA : Int32) (m_rowA : Nat → Int32) (m_manyB : Int32) (m_rowB : Nat → Int32) (m_places : Int32) (m_xs : Nat → Int32) (m_ys : Nat → Int32) (m_heights : Nat → Int32) (m_ridges : Int32) (m_rx : Nat → Int32) (m_rHeight : Nat → Int32) (m_lanes : Nat → Int32) (m_sizes : Nat → Int32) (m_cells : Nat → Int32) (m_left : Nat → Int32) (m_calls : Int32) (m_cDay : Nat → Int32) (m_cHour : Nat → Int32) (m_cFrom : Nat → Int32) (m_cAsk : Nat → Int32) (m_cWord : Nat → Int32) (m_cOf : Nat → Int32) (m_isLie : Nat → Int32) (m_children : Int32) (m_learned : Nat → Int32) (m_group : Nat → Int32)  (z_m_dWords : Int32) (z_m_dMany : Nat → Int32) (z_m_dText : Nat → Int32) (z_m_pos : Int32) (z_m_from : Int32) (z_m_sort : Int32) (z_m_value : Int32) (z_m_fault : Int32) (z_m_wrongAt : Int32) (h : fX9_readWord n m_dLetters m_dWords m_dMany m_dText m_tape m_taped m_pos m_from m_sort m_value m_fault m_wrongAt = some (z_m_dWords, z_m_dMany, z_m_dText, z_m_pos, z_m_from, z_m_sort, z_m_value, z_m_fault, z_m_wrongAt)) : Met l yX9_readWord wsX9_readWord ({ frames := 2, cells := 0, slots := 0, locals := 46 }) (gP (dC, dI) (tyz cB cI cJ cZ) E_0 (wM cB cI cJ cZ a m_letters m_words m_wMany m_wLetters m_asks m_aWords m_dLetters m_dWords m_dMany m_dText m_dAsks m_dAsk m_tape m_taped m_pos m_from m_sort m_value m_fault m_wrongAt m_manyA m_rowA m_manyB m_rowB m_places m_xs m_ys m_heights m_ridges m_rx m_rHeight m_lanes m_sizes m_cells m_left m_calls m_cDay m_cHour m_cFrom m_cAsk m_cWord m_cOf m_isLie m_children m_learned m_group) sz [.ref (a 0)]) (gV (dC, dI) (tyz cB cI cJ cZ) (wM cB cI cJ cZ a m_letters m_words m_wMany m_wLetters m_asks m_aWords m_dLetters z_m_dWords z_m_dMany z_m_dText m_dAsks m_dAsk m_tape m_taped z_m_pos z_m_from z_m_sort z_m_value z_m_fault z_m_wrongAt m_manyA m_rowA m_manyB m_rowB m_places m_xs m_ys m_heights m_ridges m_rx m_rHeight m_lanes m_sizes m_cells m_left m_calls m_cDay m_cHour m_cFrom m_cAsk m_cWord m_cOf m_isLie m_children m_learned m_group) (va_A (wM cB cI cJ cZ a m_letters m_words m_wMany m_wLetters m_asks m_aWords m_dLetters m_dWords m_dMany m_dText m_dAsks m_dAsk m_tape m_taped m_pos m_from m_sort m_value m_fault m_wrongAt m_manyA m_rowA m_manyB m_rowB m_places m_xs m_ys m_heights m_ridges m_rx m_rHeight m_lanes m_sizes m_cells m_left m_calls m_cDay m_cHour m_cFrom m_cAsk m_cWord m_cOf m_isLie m_children m_learned m_group) sz)) 0 0 (va_A (wM cB cI cJ cZ a m_letters m_words m_wMany m_wLetters m_asks m_aWords m_dLetters m_dWords m_dMany m_dText m_dAsks m_dAsk m_tape m_taped m_pos m_from m_sort m_value m_fault m_wrongAt m_manyA m_rowA m_manyB m_rowB m_places m_xs m_ys m_heights m_ridges m_rx m_rHeight m_lanes m_sizes m_cells m_left m_calls m_cDay m_cHour m_cFrom m_cAsk m_cWord m_cOf m_isLie m_children m_learned m_group) sz) := by
  refine Met.ofW (cc := cX9_readWord) (maxL := 3) (ret := none) (by decide) rfl ?_
  intro p e s m args below meth c s₁ B hml hv
  obtain ⟨rfl, hsz, hP, hK, hD0, hE⟩ := hv
  have hx := B.exec
  have hb := B.bytes
  have hr := B.returns
  have hts := atoms_spec (ws := wsX9_readWord) B.pre
  have hown : s.vm.findClass RX9 = some m.cls := findClass_of_methodNamed B.named
  have hlocks := B.notSynchronized
  subst hsz
  have hD := hD0.self (sz := s.heap.size)
  have hA : ∀ q : Nat, s.heap.size ≤ q → va_A (wM cB cI cJ cZ a m_letters m_words m_wMany m_wLetters m_asks m_aWords m_dLetters m_dWords m_dMany m_dText m_dAsks m_dAsk m_tape m_taped m_pos m_from m_sort m_value m_fault m_wrongAt m_manyA m_rowA m_manyB m_rowB m_places m_xs m_ys m_heights m_ridges m_rx m_rHeight m_lanes m_sizes m_cells m_left m_calls m_cDay m_cHour m_cFrom m_cAsk m_cWord m_cOf m_isLie m_children m_learned m_group) s.heap.size q := fun q h => Or.inr h
  generalize va_A (wM cB cI cJ cZ a m_letters m_words m_wMany m_wLetters m_asks m_aWords m_dLetters m_dWords m_dMany m_dText m_dAsks m_dAsk m_tape m_taped m_pos m_from m_sort m_value m_fault m_wrongAt m_manyA m_rowA m_manyB m_rowB m_places m_xs m_ys m_heights m_ridges m_rx m_rHeight m_lanes m_sizes m_cells m_left m_calls m_cDay m_cHour m_cFrom m_cAsk m_cWord m_cOf m_isLie m_children m_learned m_group) s.heap.size = A at hD hA hE ⊢
  have hS : va_S A s.heap s.heap [] := va_S.rf
  have C0 : cxt cX9_readWord none 3 RX9 wsX9_readWord (dC, dI) (tyz cB cI cJ cZ) E_0 A p s m ([.ref (a 0)] : List Value).toArray meth c := ⟨hx, hb, hr, hml, hown, hts, hlocks, hK, hA, hE⟩
  have hl := lv_entry ([.ref (a 0)]) (n := 3) (Nat.le_of_ble_eq_true rfl)
  rw [lg_entry_eq]
  generalize (lg_sl ([.ref (a 0)]) ++ List.replicate (3 - (lg_sl ([.ref (a 0)])).length) Slot.unset).toArray = ls at hl ⊢
  have hl : lv_has ls 3 [(0, .ref (a 0))] := hl
  have hw0 := hts (.fieldLink RX9 124 "WhistledWordsModel" "sort" "I") (by decide +kernel)
  have hnX9 : ∀ w ∈ u_ws RX9 TX9 46, w ∈ wsX9_readWord := fun _ h => List.mem_cons_of_mem _ (List.mem_append_right _ h)
  unfold fX9_readWord at h
  refine lv_aload_n hx hb dX9_readWord_0 rfl (lv_at hl 0 rfl) ?_
  refine lv_aload_n hx hb dX9_readWord_1 rfl (lv_at hl 0 rfl) ?_
  refine gM_mo_sort hx hb hts hnX9 hown hK hP hw0 dX9_readWord_2 ?_
  refine lv_iconst (v := 1) hx hb dX9_readWord_5 (by decide) ?_
  refine lv_icmp_ne (tgt := 13) hx hb dX9_readWord_6 (by decide) (fun c1 => ?_) (fun c1 => ?_)
  · have h := ie_use c1 h
    refine lv_iconst (v := 0) hx hb dX9_readWord_13 (by decide) ?_
    exact kX9_readWord_p14 dC dI cB cI cJ cZ a C0 n m_letters m_words m_wMany m_wLetters m_asks m_aWords m_dLetters m_dWords m_dMany m_dText m_dAsks m_dAsk m_tape m_taped m_pos m_from m_sort m_value m_fault m_wrongAt m_manyA m_rowA m_manyB m_rowB m_places m_xs m_ys m_heights m_ridges m_rx m_rHeight m_lanes m_sizes m_cells m_left m_calls m_cDay m_cHour m_cFrom m_cAsk m_cWord m_cOf m_isLie m_children m_learned m_group  (0 : Int32) z_m_dWords z_m_dMany z_m_dText z_m_pos z_m_from z_m_sort z_m_value z_m_fault z_m_wrongAt  _ _ ls h hP hD hS (lv_sub hl [0] rfl)
  · have h := it_use c1 h
    refine lv_iconst (v := 1) hx hb dX9_readWord_9 (by decide) ?_
    refine lv_goto (tgt := 14) hx hb dX9_readWord_10 (by decide) ?_
    exact kX9_readWord_p14 dC dI cB cI cJ cZ a C0 n m_letters m_words m_wMany m_wLetters m_asks m_aWords m_dLetters m_dWords m_dMany m_dText m_dAsks m_dAsk m_tape m_taped m_pos m_from m_sort m_value m_fault m_wrongAt m_manyA m_rowA m_manyB m_rowB m_places m_xs m_ys m_heights m_ridges m_rx m_rHeight m_lanes m_sizes m_cells m_left m_calls m_cDay m_cHour m_cFrom m_cAsk m_cWord m_cOf m_isLie m_children m_learned m_group  (1 : Int32) z_m_dWords z_m_dMany z_m_dText z_m_pos z_m_from z_m_sort z_m_value z_m_fault z_m_wrongAt  _ _ ls h hP hD hS (lv_sub hl [0] rfl)
set_option maxHeartbeats 4000000 in
set_option maxRecDepth 100000 in
theorem kX9_readAsk_p90 {p : Program} {l : Launch} {e : Env} {s : State} {m : MethodId} {args : Array Value} {below : List Frame} {meth : Method} {c : Code} {A : Nat → Prop} (dC : Nat → ClassId) (dI : Nat → Nat → Nat) (cB cI cJ cZ : ClassId) (a : Nat → Nat) (C0 : cxt cX9_readAsk none 3 RX9 wsX9_readAsk (dC, dI) (tyz cB cI cJ cZ) E_0 A p s m args meth c) (n : Nat) (m_letters : Nat → Int32) (m_words : Int32) (m_wMany : Nat → Int32) (m_wLetters : Nat → Int32) (m_asks : Int32) (m_aWords : Nat → Int32) (m_dLetters : Nat → Int32) (m_dWords : Int32) (m_dMany : Nat → Int32) (m_dText : Nat → Int32) (m_dAsks : Int32) (m_dAsk : Nat → Int32) (m_tape : Nat → Int32) (m_taped : Int32) (m_pos : Int32) (m_from : Int32) (m_sort : Int32) (m_value : Int32) (m_fault : Int32) (m_wrongAt : Int32) (m_manyA : Int32) (m_rowA : Nat → Int32) (m_manyB : Int32) (m_rowB : Nat → Int32) (m_places : Int32) (m_xs : Nat → Int32) (m_ys : Nat → Int32) (m_heights : Nat → Int32) (m_ridges : Int32) (m_rx : Nat → Int32) (m_rHeight : Nat → Int32) (m_lanes : Nat → Int32) (m_sizes : Nat → Int32) (m_cells : Nat → Int32) (m_left : Nat → Int32) (m_calls : Int32) (m_cDay : Nat → Int32) (m_cHour : Nat → Int32) (m_cFrom : Nat → Int32) (m_cAsk : Nat → Int32) (m_cWord : Nat → Int32) (m_cOf : Nat → Int32) (m_isLie : Nat → Int32) (m_children : Int32) (m_learned : Nat → Int32) (m_group : Nat → Int32)   (s0 : Int32) (s1 : Int32) (z_m_dAsks : Int32) (z_m_dAsk : Nat → Int32) (z_m_pos : Int32) (z_m_from : Int32) (z_m_sort : Int32) (z_m_value : Int32) (z_m_fault : Int32) (z_m_wrongAt : Int32) (rec4 : Int32 → Int32 → Int32 → Int32 → Int32 → Int32 → Int32 → Int32 → Option (Int32 × (Nat → Int32) × Int32 × Int32 × Int32 × Int32 × Int32 × Int32)) (hrec4 : ∀ (y_m_pos : Int32) (y_m_from : Int32) (y_m_sort : Int32) (y_m_value : Int32) (y_m_fault : Int32) (y_m_wrongAt : Int32) (y_x1 : Int32) (y_x2 : Int32) (H : Heap) (locs : List Loc) (ls : Array Slot), rec4 y_m_pos y_m_from y_m_sort y_m_value y_m_fault y_m_wrongAt y_x1 y_x2 = some (z_m_dAsks, z_m_dAsk, z_m_pos, z_m_from, z_m_sort, z_m_value, z_m_fault, z_m_wrongAt) → va_P (dC, dI) vwCl (wM cB cI cJ cZ a m_letters m_words m_wMany m_wLetters m_asks m_aWords m_dLetters m_dWords m_dMany m_dText m_dAsks m_dAsk m_tape m_taped y_m_pos y_m_from y_m_sort y_m_value y_m_fault y_m_wrongAt m_manyA m_rowA m_manyB m_rowB m_places m_xs m_ys m_heights m_ridges m_rx m_rHeight m_lanes m_sizes m_cells m_left m_calls m_cDay m_cHour m_cFrom m_cAsk m_cWord m_cOf m_isLie m_children m_learned m_group) H → va_D A (wM cB cI cJ cZ a m_letters m_words m_wMany m_wLetters m_asks m_aWords m_dLetters m_dWords m_dMany m_dText m_dAsks m_dAsk m_tape m_taped y_m_pos y_m_from y_m_sort y_m_value y_m_fault y_m_wrongAt m_manyA m_rowA m_manyB m_rowB m_places m_xs m_ys m_heights m_ridges m_rx m_rHeight m_lanes m_sizes m_cells m_left m_calls m_cDay m_cHour m_cFrom m_cAsk m_cWord m_cOf m_isLie m_children m_learned m_group) → va_S A s.heap H locs → lv_has ls 3 [(0, .ref (a 0)), (1, .int y_x1), (2, .int y_x2)] → W p l e { frames := 2, cells := 0, slots := 0, locals := 46 } s m args below meth c H locs 0 0 (MQ below (gV (dC, dI) (tyz cB cI cJ cZ) (wM cB cI cJ cZ a m_letters m_words m_wMany m_wLetters m_asks m_aWords m_dLetters m_dWords m_dMany m_dText z_m_dAsks z_m_dAsk m_tape m_taped z_m_pos z_m_from z_m_sort z_m_value z_m_fault z_m_wrongAt m_manyA m_rowA m_manyB m_rowB m_places m_xs m_ys m_heights m_ridges m_rx m_rHeight m_lanes m_sizes m_cells m_left m_calls m_cDay m_cHour m_cFrom m_cAsk m_cWord m_cOf m_isLie m_children m_learned m_group) A) args s 0 0 A) (F0 m 4 ls [])) (H : Heap) (locs : List Loc) (ls : Array Slot) : fX9_readAsk_p90 n m_dWords m_dAsks m_dAsk m_tape m_taped m_pos m_from m_sort m_value m_fault m_wrongAt s0 s1 rec4 = some (z_m_dAsks, z_m_dAsk, z_m_pos, z_m_from, z_m_sort, z_m_value, z_m_fault, z_m_wrongAt) → va_P (dC, dI) vwCl (wM cB cI cJ cZ a m_letters m_words m_wMany m_wLetters m_asks m_aWords m_dLetters m_dWords m_dMany m_dText m_dAsks m_dAsk m_tape m_taped m_pos m_from m_sort m_value m_fault m_wrongAt m_manyA m_rowA m_manyB m_rowB m_places m_xs m_ys m_heights m_ridges m_rx m_rHeight m_lanes m_sizes m_cells m_left m_calls m_cDay m_cHour m_cFrom m_cAsk m_cWord m_cOf m_isLie m_children m_learned m_group) H → va_D A (wM cB cI cJ cZ a m_letters m_words m_wMany m_wLetters m_asks m_aWords m_dLetters m_dWords m_dMany m_dText m_dAsks m_dAsk m_tape m_taped m_pos m_from m_sort m_value m_fault m_wrongAt m_manyA m_rowA m_manyB m_rowB m_places m_xs m_ys m_heights m_ridges m_rx m_rHeight m_lanes m_sizes m_cells m_left m_calls m_cDay m_cHour m_cFrom m_cAsk m_cWord m_cOf m_isLie m_children m_learned m_group) → va_S A s.heap H locs → lv_has ls 3 [(0, .ref (a 0))] → W p l e { frames := 2, cells := 0, slots := 0, locals := 46 } s m args below meth c H locs 0 0 (MQ below (gV (dC, dI) (tyz cB cI cJ cZ) (wM cB cI cJ cZ a m_letters m_words m_wMany m_wLetters m_asks m_aWords m_dLetters m_dWords m_dMany m_dText z_m_dAsks z_m_dAsk m_tape m_taped z_m_pos z_m_from z_m_sort z_m_value z_m_fault z_m_wrongAt m_manyA m_rowA m_manyB m_rowB m_places m_xs m_ys m_heights m_ridges m_rx m_rHeight m_lanes m_sizes m_cells m_left m_calls m_cDay m_cHour m_cFrom m_cAsk m_cWord m_cOf m_isLie m_children m_learned m_group) A) args s 0 0 A) (F0 m 90 ls [.int s1, .int s0]) := by
  intro h hP hD hS hl
  obtain ⟨hx, hb, hr, hml, hown, hts, hlocks, hK, hA, hE⟩ := id C0
  have hw0 := hts (.fieldLink RX9 124 "WhistledWordsModel" "sort" "I") (by decide +kernel)
  have hnX9 : ∀ w ∈ u_ws RX9 TX9 46, w ∈ wsX9_readAsk := fun _ h => List.mem_cons_of_mem _ (List.mem_append_right _ h)
  unfold fX9_readAsk_p90 at h
  refine lv_ior hx hb dX9_readAsk_90 ?_
  refine lv_topi (fun v1 ev1 => ?_)
  have h := nm_use ev1 h
  refine lv_istore_n (lv' := [(1, .int v1), (0, .ref (a 0))]) hx hb dX9_readAsk_91 rfl hl (by decide) rfl (fun ls hl => ?_)
  refine lv_aload_n hx hb dX9_readAsk_92 rfl (lv_at hl 1 rfl) ?_
  obtain ⟨v2, v3, v4, v5, v6, v7, hc, h⟩ := bd6_use h
  refine cv_v (As := []) (rest := []) ⟨hx, hb, hml, hown, hts⟩ (kX9_next l n dC dI cB cI cJ cZ a _ m_letters m_words m_wMany m_wLetters m_asks m_aWords m_dLetters m_dWords m_dMany m_dText m_dAsks m_dAsk m_tape m_taped m_pos m_from m_sort m_value m_fault m_wrongAt m_manyA m_rowA m_manyB m_rowB m_places m_xs m_ys m_heights m_ridges m_rx m_rHeight m_lanes m_sizes m_cells m_left m_calls m_cDay m_cHour m_cFrom m_cAsk m_cWord m_cOf m_isLie m_children m_learned m_group  v2 v3 v4 v5 v6 v7 hc) (cwV 0 hts gX9_readAsk_X9_next rfl rfl rfl (by decide +kernel) ⟨Nat.le_of_ble_eq_true rfl, Nat.le_of_ble_eq_true rfl⟩) EB_0 hE hK hP hD hS hA 0 (ci := 8) rfl rfl rfl rfl hl.1 rfl (Nat.le_of_ble_eq_true rfl) dX9_readAsk_93 ⟨Nat.zero_le _, Nat.zero_le _⟩ (fun H locs hP hD hS => ?_)
  refine lv_aload_n hx hb dX9_readAsk_96 rfl (lv_at hl 1 rfl) ?_
  refine gM_mo_sort hx hb hts hnX9 hown hK hP hw0 dX9_readAsk_97 ?_
  refine lv_iconst (v := 4) hx hb dX9_readAsk_100 (by decide) ?_
  refine lv_icmp_ne (tgt := 108) hx hb dX9_readAsk_101 (by decide) (fun c8 => ?_) (fun c8 => ?_)
  · have h := ie_use c8 h
    refine lv_iconst (v := 0) hx hb dX9_readAsk_108 (by decide) ?_
    refine lv_istore_n (lv' := [(2, .int (0 : Int32)), (1, .int v1), (0, .ref (a 0))]) hx hb dX9_readAsk_109 rfl hl (by decide) rfl (fun ls hl => ?_)
    refine lv_iload_n hx hb dX9_readAsk_110 rfl (lv_at hl 0 rfl) ?_
    refine lv_if_eq (tgt := 4) hx hb dX9_readAsk_111 (by decide) (fun c9 => ?_) (fun c9 => ?_)
    · have h := it_use c9 h
      exact hrec4 v2 v3 v4 v5 v6 v7 v1 (0 : Int32) _ _ ls h hP hD hS (lv_sub hl [2, 1, 0] rfl)
    · have h := ie_use c9 h
      refine lv_aload_n hx hb dX9_readAsk_114 rfl (lv_at hl 2 rfl) ?_
      obtain ⟨v10, v11, v12, v13, v14, v15, hc, h⟩ := bd6_use h
      refine cv_v (As := []) (rest := []) ⟨hx, hb, hml, hown, hts⟩ (kX9_next l n dC dI cB cI cJ cZ a _ m_letters m_words m_wMany m_wLetters m_asks m_aWords m_dLetters m_dWords m_dMany m_dText m_dAsks m_dAsk m_tape m_taped v2 v3 v4 v5 v6 v7 m_manyA m_rowA m_manyB m_rowB m_places m_xs m_ys m_heights m_ridges m_rx m_rHeight m_lanes m_sizes m_cells m_left m_calls m_cDay m_cHour m_cFrom m_cAsk m_cWord m_cOf m_isLie m_children m_learned m_group  v10 v11 v12 v13 v14 v15 hc) (cwV 0 hts gX9_readAsk_X9_next rfl rfl rfl (by decide +kernel) ⟨Nat.le_of_ble_eq_true rfl, Nat.le_of_ble_eq_true rfl⟩) EB_0 hE hK hP hD hS hA 0 (ci := 8) rfl rfl rfl rfl hl.1 rfl (Nat.le_of_ble_eq_true rfl) dX9_readAsk_115 ⟨Nat.zero_le _, Nat.zero_le _⟩ (fun H locs hP hD hS => ?_)
      refine lv_goto (tgt := 4) hx hb dX9_readAsk_118 (by decide) ?_
      exact hrec4 v10 v11 v12 v13 v14 v15 v1 (0 : Int32) _ _ ls h hP hD hS (lv_sub hl [2, 1, 0] rfl)
  · have h := it_use c8 h
    refine lv_iconst (v := 1) hx hb dX9_readAsk_104 (by decide) ?_
    refine lv_goto (tgt := 109) hx hb dX9_readAsk_105 (by decide) ?_
    refine lv_istore_n (lv' := [(2, .int (1 : Int32)), (1, .int v1), (0, .ref (a 0))]) hx hb dX9_readAsk_109 rfl hl (by decide) rfl (fun ls hl => ?_)
    refine lv_iload_n hx hb dX9_readAsk_110 rfl (lv_at hl 0 rfl) ?_
    refine lv_if_eq (tgt := 4) hx hb dX9_readAsk_111 (by decide) (fun c16 => ?_) (fun c16 => ?_)
    · have h := it_use c16 h
      exact hrec4 v2 v3 v4 v5 v6 v7 v1 (1 : Int32) _ _ ls h hP hD hS (lv_sub hl [2, 1, 0] rfl)
    · have h := ie_use c16 h
      refine lv_aload_n hx hb dX9_readAsk_114 rfl (lv_at hl 2 rfl) ?_
      obtain ⟨v17, v18, v19, v20, v21, v22, hc, h⟩ := bd6_use h
      refine cv_v (As := []) (rest := []) ⟨hx, hb, hml, hown, hts⟩ (kX9_next l n dC dI cB cI cJ cZ a _ m_letters m_words m_wMany m_wLetters m_asks m_aWords m_dLetters m_dWords m_dMany m_dText m_dAsks m_dAsk m_tape m_taped v2 v3 v4 v5 v6 v7 m_manyA m_rowA m_manyB m_rowB m_places m_xs m_ys m_heights m_ridges m_rx m_rHeight m_lanes m_sizes m_cells m_left m_calls m_cDay m_cHour m_cFrom m_cAsk m_cWord m_cOf m_isLie m_children m_learned m_group  v17 v18 v19 v20 v21 v22 hc) (cwV 0 hts gX9_readAsk_X9_next rfl rfl rfl (by decide +kernel) ⟨Nat.le_of_ble_eq_true rfl, Nat.le_of_ble_eq_true rfl⟩) EB_0 hE hK hP hD hS hA 0 (ci := 8) rfl rfl rfl rfl hl.1 rfl (Nat.le_of_ble_eq_true rfl) dX9_readAsk_115 ⟨Nat.zero_le _, Nat.zero_le _⟩ (fun H locs hP hD hS => ?_)
      refine lv_goto (tgt := 4) hx hb dX9_readAsk_118 (by decide) ?_
      exact hrec4 v17 v18 v19 v20 v21 v22 v1 (1 : Int32) _ _ ls h hP hD hS (lv_sub hl [2, 1, 0] rfl)
set_option maxHeartbeats 4000000 in
set_option maxRecDepth 100000 in
theorem kX9_readAsk_p68 {p : Program} {l : Launch} {e : Env} {s : State} {m : MethodId} {args : Array Value} {below : List Frame} {meth : Method} {c : Code} {A : Nat → Prop} (dC : Nat → ClassId) (dI : Nat → Nat → Nat) (cB cI cJ cZ : ClassId) (a : Nat → Nat) (C0 : cxt cX9_readAsk none 3 RX9 wsX9_readAsk (dC, dI) (tyz cB cI cJ cZ) E_0 A p s m args meth c) (n : Nat) (m_letters : Nat → Int32) (m_words : Int32) (m_wMany : Nat → Int32) (m_wLetters : Nat → Int32) (m_asks : Int32) (m_aWords : Nat → Int32) (m_dLetters : Nat → Int32) (m_dWords : Int32) (m_dMany : Nat → Int32) (m_dText : Nat → Int32) (m_dAsks : Int32) (m_dAsk : Nat → Int32) (m_tape : Nat → Int32) (m_taped : Int32) (m_pos : Int32) (m_from : Int32) (m_sort : Int32) (m_value : Int32) (m_fault : Int32) (m_wrongAt : Int32) (m_manyA : Int32) (m_rowA : Nat → Int32) (m_manyB : Int32) (m_rowB : Nat → Int32) (m_places : Int32) (m_xs : Nat → Int32) (m_ys : Nat → Int32) (m_heights : Nat → Int32) (m_ridges : Int32) (m_rx : Nat → Int32) (m_rHeight : Nat → Int32) (m_lanes : Nat → Int32) (m_sizes : Nat → Int32) (m_cells : Nat → Int32) (m_left : Nat → Int32) (m_calls : Int32) (m_cDay : Nat → Int32) (m_cHour : Nat → Int32) (m_cFrom : Nat → Int32) (m_cAsk : Nat → Int32) (m_cWord : Nat → Int32) (m_cOf : Nat → Int32) (m_isLie : Nat → Int32) (m_children : Int32) (m_learned : Nat → Int32) (m_group : Nat → Int32)  (x1 : Int32) (s1 : Int32) (z_m_dAsks : Int32) (z_m_dAsk : Nat → Int32) (z_m_pos : Int32) (z_m_from : Int32) (z_m_sort : Int32) (z_m_value : Int32) (z_m_fault : Int32) (z_m_wrongAt : Int32) (rec4 : Int32 → Int32 → Int32 → Int32 → Int32 → Int32 → Int32 → Int32 → Option (Int32 × (Nat → Int32) × Int32 × Int32 × Int32 × Int32 × Int32 × Int32)) (hrec4 : ∀ (y_m_pos : Int32) (y_m_from : Int32) (y_m_sort : Int32) (y_m_value : Int32) (y_m_fault : Int32) (y_m_wrongAt : Int32) (y_x1 : Int32) (y_x2 : Int32) (H : Heap) (locs : List Loc) (ls : Array Slot), rec4 y_m_pos y_m_from y_m_sort y_m_value y_m_fault y_m_wrongAt y_x1 y_x2 = some (z_m_dAsks, z_m_dAsk, z_m_pos, z_m_from, z_m_sort, z_m_value, z_m_fault, z_m_wrongAt) → va_P (dC, dI) vwCl (wM cB cI cJ cZ a m_letters m_words m_wMany m_wLetters m_asks m_aWords m_dLetters m_dWords m_dMany m_dText m_dAsks m_dAsk m_tape m_taped y_m_pos y_m_from y_m_sort y_m_value y_m_fault y_m_wrongAt m_manyA m_rowA m_manyB m_rowB m_places m_xs m_ys m_heights m_ridges m_rx m_rHeight m_lanes m_sizes m_cells m_left m_calls m_cDay m_cHour m_cFrom m_cAsk m_cWord m_cOf m_isLie m_children m_learned m_group) H → va_D A (wM cB cI cJ cZ a m_letters m_words m_wMany m_wLetters m_asks m_aWords m_dLetters m_dWords m_dMany m_dText m_dAsks m_dAsk m_tape m_taped y_m_pos y_m_from y_m_sort y_m_value y_m_fault y_m_wrongAt m_manyA m_rowA m_manyB m_rowB m_places m_xs m_ys m_heights m_ridges m_rx m_rHeight m_lanes m_sizes m_cells m_left m_calls m_cDay m_cHour m_cFrom m_cAsk m_cWord m_cOf m_isLie m_children m_learned m_group) → va_S A s.heap H locs → lv_has ls 3 [(0, .ref (a 0)), (1, .int y_x1), (2, .int y_x2)] → W p l e { frames := 2, cells := 0, slots := 0, locals := 46 } s m args below meth c H locs 0 0 (MQ below (gV (dC, dI) (tyz cB cI cJ cZ) (wM cB cI cJ cZ a m_letters m_words m_wMany m_wLetters m_asks m_aWords m_dLetters m_dWords m_dMany m_dText z_m_dAsks z_m_dAsk m_tape m_taped z_m_pos z_m_from z_m_sort z_m_value z_m_fault z_m_wrongAt m_manyA m_rowA m_manyB m_rowB m_places m_xs m_ys m_heights m_ridges m_rx m_rHeight m_lanes m_sizes m_cells m_left m_calls m_cDay m_cHour m_cFrom m_cAsk m_cWord m_cOf m_isLie m_children m_learned m_group) A) args s 0 0 A) (F0 m 4 ls [])) (H : Heap) (locs : List Loc) (ls : Array Slot) : fX9_readAsk_p68 n m_dWords m_dAsks m_dAsk m_tape m_taped m_pos m_from m_sort m_value m_fault m_wrongAt x1 s1 rec4 = some (z_m_dAsks, z_m_dAsk, z_m_pos, z_m_from, z_m_sort, z_m_value, z_m_fault, z_m_wrongAt) → va_P (dC, dI) vwCl (wM cB cI cJ cZ a m_letters m_words m_wMany m_wLetters m_asks m_aWords m_dLetters m_dWords m_dMany m_dText m_dAsks m_dAsk m_tape m_taped m_pos m_from m_sort m_value m_fault m_wrongAt m_manyA m_rowA m_manyB m_rowB m_places m_xs m_ys m_heights m_ridges m_rx m_rHeight m_lanes m_sizes m_cells m_left m_calls m_cDay m_cHour m_cFrom m_cAsk m_cWord m_cOf m_isLie m_children m_learned m_group) H → va_D A (wM cB cI cJ cZ a m_letters m_words m_wMany m_wLetters m_asks m_aWords m_dLetters m_dWords m_dMany m_dText m_dAsks m_dAsk m_tape m_taped m_pos m_from m_sort m_value m_fault m_wrongAt m_manyA m_rowA m_manyB m_rowB m_places m_xs m_ys m_heights m_ridges m_rx m_rHeight m_lanes m_sizes m_cells m_left m_calls m_cDay m_cHour m_cFrom m_cAsk m_cWord m_cOf m_isLie m_children m_learned m_group) → va_S A s.heap H locs → lv_has ls 3 [(0, .ref (a 0)), (1, .int x1)] → W p l e { frames := 2, cells := 0, slots := 0, locals := 46 } s m args below meth c H locs 0 0 (MQ below (gV (dC, dI) (tyz cB cI cJ cZ) (wM cB cI cJ cZ a m_letters m_words m_wMany m_wLetters m_asks m_aWords m_dLetters m_dWords m_dMany m_dText z_m_dAsks z_m_dAsk m_tape m_taped z_m_pos z_m_from z_m_sort z_m_value z_m_fault z_m_wrongAt m_manyA m_rowA m_manyB m_rowB m_places m_xs m_ys m_heights m_ridges m_rx m_rHeight m_lanes m_sizes m_cells m_left m_calls m_cDay m_cHour m_cFrom m_cAsk m_cWord m_cOf m_isLie m_children m_learned m_group) A) args s 0 0 A) (F0 m 68 ls [.int s1, .ref (a 0)]) := by
  intro h hP hD hS hl
  obtain ⟨hx, hb, hr, hml, hown, hts, hlocks, hK, hA, hE⟩ := id C0
  have hw0 := hts (.fieldLink RX9 108 "WhistledWordsModel" "fault" "I") (by decide +kernel)
  have hw1 := hts (.fieldLink RX9 135 "WhistledWordsModel" "value" "I") (by decide +kernel)
  have hnX9 : ∀ w ∈ u_ws RX9 TX9 46, w ∈ wsX9_readAsk := fun _ h => List.mem_cons_of_mem _ (List.mem_append_right _ h)
  unfold fX9_readAsk_p68 at h
  refine lv_iconst (v := 3) hx hb dX9_readAsk_68 (by decide) ?_
  obtain ⟨v1, v2, hc, h⟩ := bd2_use h
  refine cv_v (As := [.int s1, .int (3 : Int32)]) (rest := []) ⟨hx, hb, hml, hown, hts⟩ (kX9_wants l n dC dI cB cI cJ cZ a _ m_letters m_words m_wMany m_wLetters m_asks m_aWords m_dLetters m_dWords m_dMany m_dText m_dAsks m_dAsk m_tape m_taped m_pos m_from m_sort m_value m_fault m_wrongAt m_manyA m_rowA m_manyB m_rowB m_places m_xs m_ys m_heights m_ridges m_rx m_rHeight m_lanes m_sizes m_cells m_left m_calls m_cDay m_cHour m_cFrom m_cAsk m_cWord m_cOf m_isLie m_children m_learned m_group s1 (3 : Int32) v1 v2 hc) (cwV 2 hts gX9_readAsk_X9_wants rfl rfl rfl (by decide +kernel) ⟨Nat.le_of_ble_eq_true rfl, Nat.le_of_ble_eq_true rfl⟩) EB_0 hE hK hP hD hS hA 0 (ci := 8) rfl rfl rfl rfl hl.1 rfl (Nat.le_of_ble_eq_true rfl) dX9_readAsk_69 ⟨Nat.zero_le _, Nat.zero_le _⟩ (fun H locs hP hD hS => ?_)
  refine lv_iload_n hx hb dX9_readAsk_72 rfl (lv_at hl 1 rfl) ?_
  refine lv_aload_n hx hb dX9_readAsk_73 rfl (lv_at hl 0 rfl) ?_
  refine gM_mo_fault hx hb hts hnX9 hown hK hP hw0 dX9_readAsk_74 ?_
  refine lv_if_ne (tgt := 89) hx hb dX9_readAsk_77 (by decide) (fun c3 => ?_) (fun c3 => ?_)
  · have h := ie_use c3 h
    refine lv_iconst (v := 0) hx hb dX9_readAsk_89 (by decide) ?_
    exact kX9_readAsk_p90 dC dI cB cI cJ cZ a C0 n m_letters m_words m_wMany m_wLetters m_asks m_aWords m_dLetters m_dWords m_dMany m_dText m_dAsks m_dAsk m_tape m_taped m_pos m_from m_sort m_value v1 v2 m_manyA m_rowA m_manyB m_rowB m_places m_xs m_ys m_heights m_ridges m_rx m_rHeight m_lanes m_sizes m_cells m_left m_calls m_cDay m_cHour m_cFrom m_cAsk m_cWord m_cOf m_isLie m_children m_learned m_group  x1 (0 : Int32) z_m_dAsks z_m_dAsk z_m_pos z_m_from z_m_sort z_m_value z_m_fault z_m_wrongAt (rec4) hrec4 _ _ ls h hP hD hS (lv_sub hl [0] rfl)
  · have h := it_use c3 h
    refine lv_iconst (v := 1) hx hb dX9_readAsk_80 (by decide) ?_
    refine lv_aload_n hx hb dX9_readAsk_81 rfl (lv_at hl 0 rfl) ?_
    refine gM_mo_value hx hb hts hnX9 hown hK hP hw1 dX9_readAsk_82 ?_
    refine lv_ishl hx hb dX9_readAsk_85 ?_
    refine lv_goto (tgt := 90) hx hb dX9_readAsk_86 (by decide) ?_
    exact kX9_readAsk_p90 dC dI cB cI cJ cZ a C0 n m_letters m_words m_wMany m_wLetters m_asks m_aWords m_dLetters m_dWords m_dMany m_dText m_dAsks m_dAsk m_tape m_taped m_pos m_from m_sort m_value v1 v2 m_manyA m_rowA m_manyB m_rowB m_places m_xs m_ys m_heights m_ridges m_rx m_rHeight m_lanes m_sizes m_cells m_left m_calls m_cDay m_cHour m_cFrom m_cAsk m_cWord m_cOf m_isLie m_children m_learned m_group  x1 ((1 : Int32) <<< (m_value &&& 31)) z_m_dAsks z_m_dAsk z_m_pos z_m_from z_m_sort z_m_value z_m_fault z_m_wrongAt (rec4) hrec4 _ _ ls h hP hD hS (lv_sub hl [0] rfl)
set_option maxHeartbeats 4000000 in
set_option maxRecDepth 100000 in
theorem kX9_readAsk_p29 {p : Program} {l : Launch} {e : Env} {s : State} {m : MethodId} {args : Array Value} {below : List Frame} {meth : Method} {c : Code} {A : Nat → Prop} (dC : Nat → ClassId) (dI : Nat → Nat → Nat) (cB cI cJ cZ : ClassId) (a : Nat → Nat) (C0 : cxt cX9_readAsk none 3 RX9 wsX9_readAsk (dC, dI) (tyz cB cI cJ cZ) E_0 A p s m args meth c) (n : Nat) (m_letters : Nat → Int32) (m_words : Int32) (m_wMany : Nat → Int32) (m_wLetters : Nat → Int32) (m_asks : Int32) (m_aWords : Nat → Int32) (m_dLetters : Nat → Int32) (m_dWords : Int32) (m_dMany : Nat → Int32) (m_dText : Nat → Int32) (m_dAsks : Int32) (m_dAsk : Nat → Int32) (m_tape : Nat → Int32) (m_taped : Int32) (m_pos : Int32) (m_from : Int32) (m_sort : Int32) (m_value : Int32) (m_fault : Int32) (m_wrongAt : Int32) (m_manyA : Int32) (m_rowA : Nat → Int32) (m_manyB : Int32) (m_rowB : Nat → Int32) (m_places : Int32) (m_xs : Nat → Int32) (m_ys : Nat → Int32) (m_heights : Nat → Int32) (m_ridges : Int32) (m_rx : Nat → Int32) (m_rHeight : Nat → Int32) (m_lanes : Nat → Int32) (m_sizes : Nat → Int32) (m_cells : Nat → Int32) (m_left : Nat → Int32) (m_calls : Int32) (m_cDay : Nat → Int32) (m_cHour : Nat → Int32) (m_cFrom : Nat → Int32) (m_cAsk : Nat → Int32) (m_cWord : Nat → Int32) (m_cOf : Nat → Int32) (m_isLie : Nat → Int32) (m_children : Int32) (m_learned : Nat → Int32) (m_group : Nat → Int32)  (x1 : Int32) (s1 : Int32) (z_m_dAsks : Int32) (z_m_dAsk : Nat → Int32) (z_m_pos : Int32) (z_m_from : Int32) (z_m_sort : Int32) (z_m_value : Int32) (z_m_fault : Int32) (z_m_wrongAt : Int32) (rec4 : Int32 → Int32 → Int32 → Int32 → Int32 → Int32 → Int32 → Int32 → Option (Int32 × (Nat → Int32) × Int32 × Int32 × Int32 × Int32 × Int32 × Int32)) (hrec4 : ∀ (y_m_pos : Int32) (y_m_from : Int32) (y_m_sort : Int32) (y_m_value : Int32) (y_m_fault : Int32) (y_m_wrongAt : Int32) (y_x1 : Int32) (y_x2 : Int32) (H : Heap) (locs : List Loc) (ls : Array Slot), rec4 y_m_pos y_m_from y_m_sort y_m_value y_m_fault y_m_wrongAt y_x1 y_x2 = some (z_m_dAsks, z_m_dAsk, z_m_pos, z_m_from, z_m_sort, z_m_value, z_m_fault, z_m_wrongAt) → va_P (dC, dI) vwCl (wM cB cI cJ cZ a m_letters m_words m_wMany m_wLetters m_asks m_aWords m_dLetters m_dWords m_dMany m_dText m_dAsks m_dAsk m_tape m_taped y_m_pos y_m_from y_m_sort y_m_value y_m_fault y_m_wrongAt m_manyA m_rowA m_manyB m_rowB m_places m_xs m_ys m_heights m_ridges m_rx m_rHeight m_lanes m_sizes m_cells m_left m_calls m_cDay m_cHour m_cFrom m_cAsk m_cWord m_cOf m_isLie m_children m_learned m_group) H → va_D A (wM cB cI cJ cZ a m_letters m_words m_wMany m_wLetters m_asks m_aWords m_dLetters m_dWords m_dMany m_dText m_dAsks m_dAsk m_tape m_taped y_m_pos y_m_from y_m_sort y_m_value y_m_fault y_m_wrongAt m_manyA m_rowA m_manyB m_rowB m_places m_xs m_ys m_heights m_ridges m_rx m_rHeight m_lanes m_sizes m_cells m_left m_calls m_cDay m_cHour m_cFrom m_cAsk m_cWord m_cOf m_isLie m_children m_learned m_group) → va_S A s.heap H locs → lv_has ls 3 [(0, .ref (a 0)), (1, .int y_x1), (2, .int y_x2)] → W p l e { frames := 2, cells := 0, slots := 0, locals := 46 } s m args below meth c H locs 0 0 (MQ below (gV (dC, dI) (tyz cB cI cJ cZ) (wM cB cI cJ cZ a m_letters m_words m_wMany m_wLetters m_asks m_aWords m_dLetters m_dWords m_dMany m_dText z_m_dAsks z_m_dAsk m_tape m_taped z_m_pos z_m_from z_m_sort z_m_value z_m_fault z_m_wrongAt m_manyA m_rowA m_manyB m_rowB m_places m_xs m_ys m_heights m_ridges m_rx m_rHeight m_lanes m_sizes m_cells m_left m_calls m_cDay m_cHour m_cFrom m_cAsk m_cWord m_cOf m_isLie m_children m_learned m_group) A) args s 0 0 A) (F0 m 4 ls [])) (H : Heap) (locs : List Loc) (ls : Array Slot) : fX9_readAsk_p29 n m_dWords m_dAsks m_dAsk m_tape m_taped m_pos m_from m_sort m_value m_fault m_wrongAt x1 s1 rec4 = some (z_m_dAsks, z_m_dAsk, z_m_pos, z_m_from, z_m_sort, z_m_value, z_m_fault, z_m_wrongAt) → va_P (dC, dI) vwCl (wM cB cI cJ cZ a m_letters m_words m_wMany m_wLetters m_asks m_aWords m_dLetters m_dWords m_dMany m_dText m_dAsks m_dAsk m_tape m_taped m_pos m_from m_sort m_value m_fault m_wrongAt m_manyA m_rowA m_manyB m_rowB m_places m_xs m_ys m_heights m_ridges m_rx m_rHeight m_lanes m_sizes m_cells m_left m_calls m_cDay m_cHour m_cFrom m_cAsk m_cWord m_cOf m_isLie m_children m_learned m_group) H → va_D A (wM cB cI cJ cZ a m_letters m_words m_wMany m_wLetters m_asks m_aWords m_dLetters m_dWords m_dMany m_dText m_dAsks m_dAsk m_tape m_taped m_pos m_from m_sort m_value m_fault m_wrongAt m_manyA m_rowA m_manyB m_rowB m_places m_xs m_ys m_heights m_ridges m_rx m_rHeight m_lanes m_sizes m_cells m_left m_calls m_cDay m_cHour m_cFrom m_cAsk m_cWord m_cOf m_isLie m_children m_learned m_group) → va_S A s.heap H locs → lv_has ls 3 [(0, .ref (a 0)), (1, .int x1)] → W p l e { frames := 2, cells := 0, slots := 0, locals := 46 } s m args below meth c H locs 0 0 (MQ below (gV (dC, dI) (tyz cB cI cJ cZ) (wM cB cI cJ cZ a m_letters m_words m_wMany m_wLetters m_asks m_aWords m_dLetters m_dWords m_dMany m_dText z_m_dAsks z_m_dAsk m_tape m_taped z_m_pos z_m_from z_m_sort z_m_value z_m_fault z_m_wrongAt m_manyA m_rowA m_manyB m_rowB m_places m_xs m_ys m_heights m_ridges m_rx m_rHeight m_lanes m_sizes m_cells m_left m_calls m_cDay m_cHour m_cFrom m_cAsk m_cWord m_cOf m_isLie m_children m_learned m_group) A) args s 0 0 A) (F0 m 29 ls [.int s1, .ref (a 0)]) := by
  intro h hP hD hS hl
  obtain ⟨hx, hb, hr, hml, hown, hts, hlocks, hK, hA, hE⟩ := id C0
  have hw0 := hts (.fieldLink RX9 108 "WhistledWordsModel" "fault" "I") (by decide +kernel)
  have hw1 := hts (.fieldLink RX9 135 "WhistledWordsModel" "value" "I") (by decide +kernel)
  have hw2 := hts (.fieldLink RX9 153 "WhistledWordsModel" "dWords" "I") (by decide +kernel)
  have hnX9 : ∀ w ∈ u_ws RX9 TX9 46, w ∈ wsX9_readAsk := fun _ h => List.mem_cons_of_mem _ (List.mem_append_right _ h)
  unfold fX9_readAsk_p29 at h
  refine lv_iconst (v := 2) hx hb dX9_readAsk_29 (by decide) ?_
  obtain ⟨v1, v2, hc, h⟩ := bd2_use h
  refine cv_v (As := [.int s1, .int (2 : Int32)]) (rest := []) ⟨hx, hb, hml, hown, hts⟩ (kX9_wants l n dC dI cB cI cJ cZ a _ m_letters m_words m_wMany m_wLetters m_asks m_aWords m_dLetters m_dWords m_dMany m_dText m_dAsks m_dAsk m_tape m_taped m_pos m_from m_sort m_value m_fault m_wrongAt m_manyA m_rowA m_manyB m_rowB m_places m_xs m_ys m_heights m_ridges m_rx m_rHeight m_lanes m_sizes m_cells m_left m_calls m_cDay m_cHour m_cFrom m_cAsk m_cWord m_cOf m_isLie m_children m_learned m_group s1 (2 : Int32) v1 v2 hc) (cwV 2 hts gX9_readAsk_X9_wants rfl rfl rfl (by decide +kernel) ⟨Nat.le_of_ble_eq_true rfl, Nat.le_of_ble_eq_true rfl⟩) EB_0 hE hK hP hD hS hA 0 (ci := 8) rfl rfl rfl rfl hl.1 rfl (Nat.le_of_ble_eq_true rfl) dX9_readAsk_30 ⟨Nat.zero_le _, Nat.zero_le _⟩ (fun H locs hP hD hS => ?_)
  refine lv_aload_n hx hb dX9_readAsk_33 rfl (lv_at hl 0 rfl) ?_
  refine gM_mo_fault hx hb hts hnX9 hown hK hP hw0 dX9_readAsk_34 ?_
  refine lv_if_ne (tgt := 72) hx hb dX9_readAsk_37 (by decide) (fun c3 => ?_) (fun c3 => ?_)
  · have h := ie_use c3 h
    refine lv_iload_n hx hb dX9_readAsk_72 rfl (lv_at hl 1 rfl) ?_
    refine lv_aload_n hx hb dX9_readAsk_73 rfl (lv_at hl 0 rfl) ?_
    refine gM_mo_fault hx hb hts hnX9 hown hK hP hw0 dX9_readAsk_74 ?_
    refine lv_if_ne (tgt := 89) hx hb dX9_readAsk_77 (by decide) (fun c4 => ?_) (fun c4 => ?_)
    · have h := ie_use c4 h
      refine lv_iconst (v := 0) hx hb dX9_readAsk_89 (by decide) ?_
      exact kX9_readAsk_p90 dC dI cB cI cJ cZ a C0 n m_letters m_words m_wMany m_wLetters m_asks m_aWords m_dLetters m_dWords m_dMany m_dText m_dAsks m_dAsk m_tape m_taped m_pos m_from m_sort m_value v1 v2 m_manyA m_rowA m_manyB m_rowB m_places m_xs m_ys m_heights m_ridges m_rx m_rHeight m_lanes m_sizes m_cells m_left m_calls m_cDay m_cHour m_cFrom m_cAsk m_cWord m_cOf m_isLie m_children m_learned m_group  x1 (0 : Int32) z_m_dAsks z_m_dAsk z_m_pos z_m_from z_m_sort z_m_value z_m_fault z_m_wrongAt (rec4) hrec4 _ _ ls h hP hD hS (lv_sub hl [0] rfl)
    · have h := it_use c4 h
      refine lv_iconst (v := 1) hx hb dX9_readAsk_80 (by decide) ?_
      refine lv_aload_n hx hb dX9_readAsk_81 rfl (lv_at hl 0 rfl) ?_
      refine gM_mo_value hx hb hts hnX9 hown hK hP hw1 dX9_readAsk_82 ?_
      refine lv_ishl hx hb dX9_readAsk_85 ?_
      refine lv_goto (tgt := 90) hx hb dX9_readAsk_86 (by decide) ?_
      exact kX9_readAsk_p90 dC dI cB cI cJ cZ a C0 n m_letters m_words m_wMany m_wLetters m_asks m_aWords m_dLetters m_dWords m_dMany m_dText m_dAsks m_dAsk m_tape m_taped m_pos m_from m_sort m_value v1 v2 m_manyA m_rowA m_manyB m_rowB m_places m_xs m_ys m_heights m_ridges m_rx m_rHeight m_lanes m_sizes m_cells m_left m_calls m_cDay m_cHour m_cFrom m_cAsk m_cWord m_cOf m_isLie m_children m_learned m_group  x1 ((1 : Int32) <<< (m_value &&& 31)) z_m_dAsks z_m_dAsk z_m_pos z_m_from z_m_sort z_m_value z_m_fault z_m_wrongAt (rec4) hrec4 _ _ ls h hP hD hS (lv_sub hl [0] rfl)
  · have h := it_use c3 h
    refine lv_aload_n hx hb dX9_readAsk_40 rfl (lv_at hl 0 rfl) ?_
    refine lv_aload_n hx hb dX9_readAsk_41 rfl (lv_at hl 0 rfl) ?_
    refine gM_mo_value hx hb hts hnX9 hown hK hP hw1 dX9_readAsk_42 ?_
    refine lv_aload_n hx hb dX9_readAsk_45 rfl (lv_at hl 0 rfl) ?_
    refine gM_mo_dWords hx hb hts hnX9 hown hK hP hw2 dX9_readAsk_46 ?_
    refine lv_icmp_ge (tgt := 67) hx hb dX9_readAsk_49 (by decide) (fun c5 => ?_) (fun c5 => ?_)
    · have h := it_use c5 h
      refine lv_iconst (v := 0) hx hb dX9_readAsk_67 (by decide) ?_
      exact kX9_readAsk_p68 dC dI cB cI cJ cZ a C0 n m_letters m_words m_wMany m_wLetters m_asks m_aWords m_dLetters m_dWords m_dMany m_dText m_dAsks m_dAsk m_tape m_taped m_pos m_from m_sort m_value v1 v2 m_manyA m_rowA m_manyB m_rowB m_places m_xs m_ys m_heights m_ridges m_rx m_rHeight m_lanes m_sizes m_cells m_left m_calls m_cDay m_cHour m_cFrom m_cAsk m_cWord m_cOf m_isLie m_children m_learned m_group x1 (0 : Int32) z_m_dAsks z_m_dAsk z_m_pos z_m_from z_m_sort z_m_value z_m_fault z_m_wrongAt (rec4) hrec4 _ _ ls h hP hD hS (lv_sub hl [0, 1] rfl)
    · have h := ie_use c5 h
      refine lv_iload_n hx hb dX9_readAsk_52 rfl (lv_at hl 1 rfl) ?_
      refine lv_aload_n hx hb dX9_readAsk_53 rfl (lv_at hl 0 rfl) ?_
      refine gM_mo_value hx hb hts hnX9 hown hK hP hw1 dX9_readAsk_54 ?_
      refine lv_ishr hx hb dX9_readAsk_57 ?_
      refine lv_iconst (v := 1) hx hb dX9_readAsk_58 (by decide) ?_
      refine lv_iand hx hb dX9_readAsk_59 ?_
      refine lv_if_ne (tgt := 67) hx hb dX9_readAsk_60 (by decide) (fun c6 => ?_) (fun c6 => ?_)
      · have h := ie_use c6 h
        refine lv_iconst (v := 0) hx hb dX9_readAsk_67 (by decide) ?_
        exact kX9_readAsk_p68 dC dI cB cI cJ cZ a C0 n m_letters m_words m_wMany m_wLetters m_asks m_aWords m_dLetters m_dWords m_dMany m_dText m_dAsks m_dAsk m_tape m_taped m_pos m_from m_sort m_value v1 v2 m_manyA m_rowA m_manyB m_rowB m_places m_xs m_ys m_heights m_ridges m_rx m_rHeight m_lanes m_sizes m_cells m_left m_calls m_cDay m_cHour m_cFrom m_cAsk m_cWord m_cOf m_isLie m_children m_learned m_group x1 (0 : Int32) z_m_dAsks z_m_dAsk z_m_pos z_m_from z_m_sort z_m_value z_m_fault z_m_wrongAt (rec4) hrec4 _ _ ls h hP hD hS (lv_sub hl [0, 1] rfl)
      · have h := it_use c6 h
        refine lv_iconst (v := 1) hx hb dX9_readAsk_63 (by decide) ?_
        refine lv_goto (tgt := 68) hx hb dX9_readAsk_64 (by decide) ?_
        exact kX9_readAsk_p68 dC dI cB cI cJ cZ a C0 n m_letters m_words m_wMany m_wLetters m_asks m_aWords m_dLetters m_dWords m_dMany m_dText m_dAsks m_dAsk m_tape m_taped m_pos m_from m_sort m_value v1 v2 m_manyA m_rowA m_manyB m_rowB m_places m_xs m_ys m_heights m_ridges m_rx m_rHeight m_lanes m_sizes m_cells m_left m_calls m_cDay m_cHour m_cFrom m_cAsk m_cWord m_cOf m_isLie m_children m_learned m_group x1 (1 : Int32) z_m_dAsks z_m_dAsk z_m_pos z_m_from z_m_sort z_m_value z_m_fault z_m_wrongAt (rec4) hrec4 _ _ ls h hP hD hS (lv_sub hl [0, 1] rfl)
set_option maxHeartbeats 4000000 in
set_option maxRecDepth 100000 in
theorem kX9_readAsk_p121 {p : Program} {l : Launch} {e : Env} {s : State} {m : MethodId} {args : Array Value} {below : List Frame} {meth : Method} {c : Code} {A : Nat → Prop} (dC : Nat → ClassId) (dI : Nat → Nat → Nat) (cB cI cJ cZ : ClassId) (a : Nat → Nat) (C0 : cxt cX9_readAsk none 3 RX9 wsX9_readAsk (dC, dI) (tyz cB cI cJ cZ) E_0 A p s m args meth c) (n : Nat) (m_letters : Nat → Int32) (m_words : Int32) (m_wMany : Nat → Int32) (m_wLetters : Nat → Int32) (m_asks : Int32) (m_aWords : Nat → Int32) (m_dLetters : Nat → Int32) (m_dWords : Int32) (m_dMany : Nat → Int32) (m_dText : Nat → Int32) (m_dAsks : Int32) (m_dAsk : Nat → Int32) (m_tape : Nat → Int32) (m_taped : Int32) (m_pos : Int32) (m_from : Int32) (m_sort : Int32) (m_value : Int32) (m_fault : Int32) (m_wrongAt : Int32) (m_manyA : Int32) (m_rowA : Nat → Int32) (m_manyB : Int32) (m_rowB : Nat → Int32) (m_places : Int32) (m_xs : Nat → Int32) (m_ys : Nat → Int32) (m_heights : Nat → Int32) (m_ridges : Int32) (m_rx : Nat → Int32) (m_rHeight : Nat → Int32) (m_lanes : Nat → Int32) (m_sizes : Nat → Int32) (m_cells : Nat → Int32) (m_left : Nat → Int32) (m_calls : Int32) (m_cDay : Nat → Int32) (m_cHour : Nat → Int32) (m_cFrom : Nat → Int32) (m_cAsk : Nat → Int32) (m_cWord : Nat → Int32) (m_cOf : Nat → Int32) (m_isLie : Nat → Int32) (m_children : Int32) (m_learned : Nat → Int32) (m_group : Nat → Int32)  (x1 : Int32)  (z_m_dAsks : Int32) (z_m_dAsk : Nat → Int32) (z_m_pos : Int32) (z_m_from : Int32) (z_m_sort : Int32) (z_m_value : Int32) (z_m_fault : Int32) (z_m_wrongAt : Int32)  (H : Heap) (locs : List Loc) (ls : Array Slot) : fX9_readAsk_p121 n m_dAsks m_dAsk m_pos m_from m_sort m_value m_fault m_wrongAt x1 = some (z_m_dAsks, z_m_dAsk, z_m_pos, z_m_from, z_m_sort, z_m_value, z_m_fault, z_m_wrongAt) → va_P (dC, dI) vwCl (wM cB cI cJ cZ a m_letters m_words m_wMany m_wLetters m_asks m_aWords m_dLetters m_dWords m_dMany m_dText m_dAsks m_dAsk m_tape m_taped m_pos m_from m_sort m_value m_fault m_wrongAt m_manyA m_rowA m_manyB m_rowB m_places m_xs m_ys m_heights m_ridges m_rx m_rHeight m_lanes m_sizes m_cells m_left m_calls m_cDay m_cHour m_cFrom m_cAsk m_cWord m_cOf m_isLie m_children m_learned m_group) H → va_D A (wM cB cI cJ cZ a m_letters m_words m_wMany m_wLetters m_asks m_aWords m_dLetters m_dWords m_dMany m_dText m_dAsks m_dAsk m_tape m_taped m_pos m_from m_sort m_value m_fault m_wrongAt m_manyA m_rowA m_manyB m_rowB m_places m_xs m_ys m_heights m_ridges m_rx m_rHeight m_lanes m_sizes m_cells m_left m_calls m_cDay m_cHour m_cFrom m_cAsk m_cWord m_cOf m_isLie m_children m_learned m_group) → va_S A s.heap H locs → lv_has ls 3 [(0, .ref (a 0)), (1, .int x1)] → W p l e { frames := 2, cells := 0, slots := 0, locals := 46 } s m args below meth c H locs 0 0 (MQ below (gV (dC, dI) (tyz cB cI cJ cZ) (wM cB cI cJ cZ a m_letters m_words m_wMany m_wLetters m_asks m_aWords m_dLetters m_dWords m_dMany m_dText z_m_dAsks z_m_dAsk m_tape m_taped z_m_pos z_m_from z_m_sort z_m_value z_m_fault z_m_wrongAt m_manyA m_rowA m_manyB m_rowB m_places m_xs m_ys m_heights m_ridges m_rx m_rHeight m_lanes m_sizes m_cells m_left m_calls m_cDay m_cHour m_cFrom m_cAsk m_cWord m_cOf m_isLie m_children m_learned m_group) A) args s 0 0 A) (F0 m 121 ls []) := by
  intro h hP hD hS hl
  obtain ⟨hx, hb, hr, hml, hown, hts, hlocks, hK, hA, hE⟩ := id C0
  have hw0 := hts (.fieldLink RX9 108 "WhistledWordsModel" "fault" "I") (by decide +kernel)
  have hw1 := hts (.fieldLink RX9 31 "WhistledWordsModel" "dAsk" "[I") (by decide +kernel)
  have hw2 := hts (.fieldLink RX9 160 "WhistledWordsModel" "dAsks" "I") (by decide +kernel)
  have hnX9 : ∀ w ∈ u_ws RX9 TX9 46, w ∈ wsX9_readAsk := fun _ h => List.mem_cons_of_mem _ (List.mem_append_right _ h)
  unfold fX9_readAsk_p121 at h
  refine lv_aload_n hx hb dX9_readAsk_121 rfl (lv_at hl 0 rfl) ?_
  refine gM_mo_fault hx hb hts hnX9 hown hK hP hw0 dX9_readAsk_122 ?_
  refine lv_if_ne (tgt := 148) hx hb dX9_readAsk_125 (by decide) (fun c1 => ?_) (fun c1 => ?_)
  · have h := ie_use c1 h
    obtain ⟨ez0, ez1, ez2, ez3, ez4, ez5, ez6, ez7⟩ := rt8_use h
    subst ez0
    subst ez1
    subst ez2
    subst ez3
    subst ez4
    subst ez5
    subst ez6
    subst ez7
    exact re_v hx hb hr hlocks hK hP hD hS dX9_readAsk_148
  · have h := it_use c1 h
    refine lv_aload_n hx hb dX9_readAsk_128 rfl (lv_at hl 0 rfl) ?_
    refine gM_mo_dAsk hx hb hts hnX9 hown hK hP hw1 dX9_readAsk_129 ?_
    refine lv_aload_n hx hb dX9_readAsk_132 rfl (lv_at hl 0 rfl) ?_
    refine gM_mo_dAsks hx hb hts hnX9 hown hK hP hw2 dX9_readAsk_133 ?_
    refine lv_iload_n hx hb dX9_readAsk_136 rfl (lv_at hl 1 rfl) ?_
    obtain ⟨hif2, f2, ef2, h⟩ := aw_use h
    refine sM_mo_dAsk hx hb hK hP hD hS hif2 ef2 dX9_readAsk_137 (fun H locs hP hD hS => ?_)
    refine lv_aload_n hx hb dX9_readAsk_138 rfl (lv_at hl 0 rfl) ?_
    refine lv_dup hx hb dX9_readAsk_139 rfl ?_
    refine gM_mo_dAsks hx hb hts hnX9 hown hK hP hw2 dX9_readAsk_140 ?_
    refine lv_iconst (v := 1) hx hb dX9_readAsk_143 (by decide) ?_
    refine lv_iadd hx hb dX9_readAsk_144 ?_
    refine lv_topi (fun v3 ev3 => ?_)
    have h := nm_use ev3 h
    refine pM_mo_dAsks hx hb hts hnX9 hown hK hP hD hS hw2 dX9_readAsk_145 (fun H locs hP hD hS => ?_)
    obtain ⟨ez0, ez1, ez2, ez3, ez4, ez5, ez6, ez7⟩ := rt8_use h
    subst ez0
    subst ez1
    subst ez2
    subst ez3
    subst ez4
    subst ez5
    subst ez6
    subst ez7
    exact re_v hx hb hr hlocks hK hP hD hS dX9_readAsk_148
set_option maxHeartbeats 4000000 in
set_option maxRecDepth 100000 in
theorem kX9_readAsk_p4_r {p : Program} {l : Launch} {e : Env} {s : State} {m : MethodId} {args : Array Value} {below : List Frame} {meth : Method} {c : Code} {A : Nat → Prop} (dC : Nat → ClassId) (dI : Nat → Nat → Nat) (cB cI cJ cZ : ClassId) (a : Nat → Nat) (C0 : cxt cX9_readAsk none 3 RX9 wsX9_readAsk (dC, dI) (tyz cB cI cJ cZ) E_0 A p s m args meth c) (n : Nat) (m_letters : Nat → Int32) (m_words : Int32) (m_wMany : Nat → Int32) (m_wLetters : Nat → Int32) (m_asks : Int32) (m_aWords : Nat → Int32) (m_dLetters : Nat → Int32) (m_dWords : Int32) (m_dMany : Nat → Int32) (m_dText : Nat → Int32) (m_dAsks : Int32) (m_dAsk : Nat → Int32) (m_tape : Nat → Int32) (m_taped : Int32) (m_manyA : Int32) (m_rowA : Nat → Int32) (m_manyB : Int32) (m_rowB : Nat → Int32) (m_places : Int32) (m_xs : Nat → Int32) (m_ys : Nat → Int32) (m_heights : Nat → Int32) (m_ridges : Int32) (m_rx : Nat → Int32) (m_rHeight : Nat → Int32) (m_lanes : Nat → Int32) (m_sizes : Nat → Int32) (m_cells : Nat → Int32) (m_left : Nat → Int32) (m_calls : Int32) (m_cDay : Nat → Int32) (m_cHour : Nat → Int32) (m_cFrom : Nat → Int32) (m_cAsk : Nat → Int32) (m_cWord : Nat → Int32) (m_cOf : Nat → Int32) (m_isLie : Nat → Int32) (m_children : Int32) (m_learned : Nat → Int32) (m_group : Nat → Int32)  (z_m_dAsks : Int32) (z_m_dAsk : Nat → Int32) (z_m_pos : Int32) (z_m_from : Int32) (z_m_sort : Int32) (z_m_value : Int32) (z_m_fault : Int32) (z_m_wrongAt : Int32)  : ∀ (k : Nat) (m_pos : Int32) (m_from : Int32) (m_sort : Int32) (m_value : Int32) (m_fault : Int32) (m_wrongAt : Int32) (x1 : Int32) (x2 : Int32) (H : Heap) (locs : List Loc) (ls : Array Slot), fX9_readAsk_p4 n m_dWords m_dAsks m_dAsk m_tape m_taped k m_pos m_from m_sort m_value m_fault m_wrongAt x1 x2 = some (z_m_dAsks, z_m_dAsk, z_m_pos, z_m_from, z_m_sort, z_m_value, z_m_fault, z_m_wrongAt) → va_P (dC, dI) vwCl (wM cB cI cJ cZ a m_letters m_words m_wMany m_wLetters m_asks m_aWords m_dLetters m_dWords m_dMany m_dText m_dAsks m_dAsk m_tape m_taped m_pos m_from m_sort m_value m_fault m_wrongAt m_manyA m_rowA m_manyB m_rowB m_places m_xs m_ys m_heights m_ridges m_rx m_rHeight m_lanes m_sizes m_cells m_left m_calls m_cDay m_cHour m_cFrom m_cAsk m_cWord m_cOf m_isLie m_children m_learned m_group) H → va_D A (wM cB cI cJ cZ a m_letters m_words m_wMany m_wLetters m_asks m_aWords m_dLetters m_dWords m_dMany m_dText m_dAsks m_dAsk m_tape m_taped m_pos m_from m_sort m_value m_fault m_wrongAt m_manyA m_rowA m_manyB m_rowB m_places m_xs m_ys m_heights m_ridges m_rx m_rHeight m_lanes m_sizes m_cells m_left m_calls m_cDay m_cHour m_cFrom m_cAsk m_cWord m_cOf m_isLie m_children m_learned m_group) → va_S A s.heap H locs → lv_has ls 3 [(0, .ref (a 0)), (1, .int x1), (2, .int x2)] → W p l e { frames := 2, cells := 0, slots := 0, locals := 46 } s m args below meth c H locs 0 0 (MQ below (gV (dC, dI) (tyz cB cI cJ cZ) (wM cB cI cJ cZ a m_letters m_words m_wMany m_wLetters m_asks m_aWords m_dLetters m_dWords m_dMany m_dText z_m_dAsks z_m_dAsk m_tape m_taped z_m_pos z_m_from z_m_sort z_m_value z_m_fault z_m_wrongAt m_manyA m_rowA m_manyB m_rowB m_places m_xs m_ys m_heights m_ridges m_rx m_rHeight m_lanes m_sizes m_cells m_left m_calls m_cDay m_cHour m_cFrom m_cAsk m_cWord m_cOf m_isLie m_children m_learned m_group) A) args s 0 0 A) (F0 m 4 ls []) := by
  obtain ⟨hx, hb, hr, hml, hown, hts, hlocks, hK, hA, hE⟩ := id C0
  have hw0 := hts (.fieldLink RX9 108 "WhistledWordsModel" "fault" "I") (by decide +kernel)
  have hw1 := hts (.fieldLink RX9 124 "WhistledWordsModel" "sort" "I") (by decide +kernel)
  have hnX9 : ∀ w ∈ u_ws RX9 TX9 46, w ∈ wsX9_readAsk := fun _ h => List.mem_cons_of_mem _ (List.mem_append_right _ h)
  intro k
  induction k with
  | zero =>
    intro m_pos m_from m_sort m_value m_fault m_wrongAt x1 x2 H locs ls h
    cases h
  | succ k ih =>
    intro m_pos m_from m_sort m_value m_fault m_wrongAt x1 x2 H locs ls h hP hD hS hl
    rw [fX9_readAsk_p4] at h
    refine lv_iload_n hx hb dX9_readAsk_4 rfl (lv_at hl 2 rfl) ?_
    refine lv_if_eq (tgt := 121) hx hb dX9_readAsk_5 (by decide) (fun c1 => ?_) (fun c1 => ?_)
    · have h := it_use c1 h
      exact kX9_readAsk_p121 dC dI cB cI cJ cZ a C0 n m_letters m_words m_wMany m_wLetters m_asks m_aWords m_dLetters m_dWords m_dMany m_dText m_dAsks m_dAsk m_tape m_taped m_pos m_from m_sort m_value m_fault m_wrongAt m_manyA m_rowA m_manyB m_rowB m_places m_xs m_ys m_heights m_ridges m_rx m_rHeight m_lanes m_sizes m_cells m_left m_calls m_cDay m_cHour m_cFrom m_cAsk m_cWord m_cOf m_isLie m_children m_learned m_group x1  z_m_dAsks z_m_dAsk z_m_pos z_m_from z_m_sort z_m_value z_m_fault z_m_wrongAt  _ _ ls h hP hD hS (lv_sub hl [0, 1] rfl)
    · have h := ie_use c1 h
      refine lv_aload_n hx hb dX9_readAsk_8 rfl (lv_at hl 0 rfl) ?_
      refine gM_mo_fault hx hb hts hnX9 hown hK hP hw0 dX9_readAsk_9 ?_
      refine lv_if_ne (tgt := 121) hx hb dX9_readAsk_12 (by decide) (fun c2 => ?_) (fun c2 => ?_)
      · have h := ie_use c2 h
        exact kX9_readAsk_p121 dC dI cB cI cJ cZ a C0 n m_letters m_words m_wMany m_wLetters m_asks m_aWords m_dLetters m_dWords m_dMany m_dText m_dAsks m_dAsk m_tape m_taped m_pos m_from m_sort m_value m_fault m_wrongAt m_manyA m_rowA m_manyB m_rowB m_places m_xs m_ys m_heights m_ridges m_rx m_rHeight m_lanes m_sizes m_cells m_left m_calls m_cDay m_cHour m_cFrom m_cAsk m_cWord m_cOf m_isLie m_children m_learned m_group x1  z_m_dAsks z_m_dAsk z_m_pos z_m_from z_m_sort z_m_value z_m_fault z_m_wrongAt  _ _ ls h hP hD hS (lv_sub hl [0, 1] rfl)
      · have h := it_use c2 h
        refine lv_aload_n hx hb dX9_readAsk_15 rfl (lv_at hl 0 rfl) ?_
        refine lv_aload_n hx hb dX9_readAsk_16 rfl (lv_at hl 0 rfl) ?_
        refine gM_mo_sort hx hb hts hnX9 hown hK hP hw1 dX9_readAsk_17 ?_
        refine lv_iconst (v := 2) hx hb dX9_readAsk_20 (by decide) ?_
        refine lv_icmp_ne (tgt := 28) hx hb dX9_readAsk_21 (by decide) (fun c3 => ?_) (fun c3 => ?_)
        · have h := ie_use c3 h
          refine lv_iconst (v := 0) hx hb dX9_readAsk_28 (by decide) ?_
          exact kX9_readAsk_p29 dC dI cB cI cJ cZ a C0 n m_letters m_words m_wMany m_wLetters m_asks m_aWords m_dLetters m_dWords m_dMany m_dText m_dAsks m_dAsk m_tape m_taped m_pos m_from m_sort m_value m_fault m_wrongAt m_manyA m_rowA m_manyB m_rowB m_places m_xs m_ys m_heights m_ridges m_rx m_rHeight m_lanes m_sizes m_cells m_left m_calls m_cDay m_cHour m_cFrom m_cAsk m_cWord m_cOf m_isLie m_children m_learned m_group x1 (0 : Int32) z_m_dAsks z_m_dAsk z_m_pos z_m_from z_m_sort z_m_value z_m_fault z_m_wrongAt (fX9_readAsk_p4 n m_dWords m_dAsks m_dAsk m_tape m_taped k) ih _ _ ls h hP hD hS (lv_sub hl [0, 1] rfl)
        · have h := it_use c3 h
          refine lv_iconst (v := 1) hx hb dX9_readAsk_24 (by decide) ?_
          refine lv_goto (tgt := 29) hx hb dX9_readAsk_25 (by decide) ?_
          exact kX9_readAsk_p29 dC dI cB cI cJ cZ a C0 n m_letters m_words m_wMany m_wLetters m_asks m_aWords m_dLetters m_dWords m_dMany m_dText m_dAsks m_dAsk m_tape m_taped m_pos m_from m_sort m_value m_fault m_wrongAt m_manyA m_rowA m_manyB m_rowB m_places m_xs m_ys m_heights m_ridges m_rx m_rHeight m_lanes m_sizes m_cells m_left m_calls m_cDay m_cHour m_cFrom m_cAsk m_cWord m_cOf m_isLie m_children m_learned m_group x1 (1 : Int32) z_m_dAsks z_m_dAsk z_m_pos z_m_from z_m_sort z_m_value z_m_fault z_m_wrongAt (fX9_readAsk_p4 n m_dWords m_dAsks m_dAsk m_tape m_taped k) ih _ _ ls h hP hD hS (lv_sub hl [0, 1] rfl)
theorem kX9_readAsk_p4 {p : Program} {l : Launch} {e : Env} {s : State} {m : MethodId} {args : Array Value} {below : List Frame} {meth : Method} {c : Code} {A : Nat → Prop} (dC : Nat → ClassId) (dI : Nat → Nat → Nat) (cB cI cJ cZ : ClassId) (a : Nat → Nat) (C0 : cxt cX9_readAsk none 3 RX9 wsX9_readAsk (dC, dI) (tyz cB cI cJ cZ) E_0 A p s m args meth c) (n : Nat) (m_letters : Nat → Int32) (m_words : Int32) (m_wMany : Nat → Int32) (m_wLetters : Nat → Int32) (m_asks : Int32) (m_aWords : Nat → Int32) (m_dLetters : Nat → Int32) (m_dWords : Int32) (m_dMany : Nat → Int32) (m_dText : Nat → Int32) (m_dAsks : Int32) (m_dAsk : Nat → Int32) (m_tape : Nat → Int32) (m_taped : Int32) (m_pos : Int32) (m_from : Int32) (m_sort : Int32) (m_value : Int32) (m_fault : Int32) (m_wrongAt : Int32) (m_manyA : Int32) (m_rowA : Nat → Int32) (m_manyB : Int32) (m_rowB : Nat → Int32) (m_places : Int32) (m_xs : Nat → Int32) (m_ys : Nat → Int32) (m_heights : Nat → Int32) (m_ridges : Int32) (m_rx : Nat → Int32) (m_rHeight : Nat → Int32) (m_lanes : Nat → Int32) (m_sizes : Nat → Int32) (m_cells : Nat → Int32) (m_left : Nat → Int32) (m_calls : Int32) (m_cDay : Nat → Int32) (m_cHour : Nat → Int32) (m_cFrom : Nat → Int32) (m_cAsk : Nat → Int32) (m_cWord : Nat → Int32) (m_cOf : Nat → Int32) (m_isLie : Nat → Int32) (m_children : Int32) (m_learned : Nat → Int32) (m_group : Nat → Int32)  (x1 : Int32) (x2 : Int32) (z_m_dAsks : Int32) (z_m_dAsk : Nat → Int32) (z_m_pos : Int32) (z_m_from : Int32) (z_m_sort : Int32) (z_m_value : Int32) (z_m_fault : Int32) (z_m_wrongAt : Int32)  (k : Nat) (H : Heap) (locs : List Loc) (ls : Array Slot) : fX9_readAsk_p4 n m_dWords m_dAsks m_dAsk m_tape m_taped k m_pos m_from m_sort m_value m_fault m_wrongAt x1 x2 = some (z_m_dAsks, z_m_dAsk, z_m_pos, z_m_from, z_m_sort, z_m_value, z_m_fault, z_m_wrongAt) → va_P (dC, dI) vwCl (wM cB cI cJ cZ a m_letters m_words m_wMany m_wLetters m_asks m_aWords m_dLetters m_dWords m_dMany m_dText m_dAsks m_dAsk m_tape m_taped m_pos m_from m_sort m_value m_fault m_wrongAt m_manyA m_rowA m_manyB m_rowB m_places m_xs m_ys m_heights m_ridges m_rx m_rHeight m_lanes m_sizes m_cells m_left m_calls m_cDay m_cHour m_cFrom m_cAsk m_cWord m_cOf m_isLie m_children m_learned m_group) H → va_D A (wM cB cI cJ cZ a m_letters m_words m_wMany m_wLetters m_asks m_aWords m_dLetters m_dWords m_dMany m_dText m_dAsks m_dAsk m_tape m_taped m_pos m_from m_sort m_value m_fault m_wrongAt m_manyA m_rowA m_manyB m_rowB m_places m_xs m_ys m_heights m_ridges m_rx m_rHeight m_lanes m_sizes m_cells m_left m_calls m_cDay m_cHour m_cFrom m_cAsk m_cWord m_cOf m_isLie m_children m_learned m_group) → va_S A s.heap H locs → lv_has ls 3 [(0, .ref (a 0)), (1, .int x1), (2, .int x2)] → W p l e { frames := 2, cells := 0, slots := 0, locals := 46 } s m args below meth c H locs 0 0 (MQ below (gV (dC, dI) (tyz cB cI cJ cZ) (wM cB cI cJ cZ a m_letters m_words m_wMany m_wLetters m_asks m_aWords m_dLetters m_dWords m_dMany m_dText z_m_dAsks z_m_dAsk m_tape m_taped z_m_pos z_m_from z_m_sort z_m_value z_m_fault z_m_wrongAt m_manyA m_rowA m_manyB m_rowB m_places m_xs m_ys m_heights m_ridges m_rx m_rHeight m_lanes m_sizes m_cells m_left m_calls m_cDay m_cHour m_cFrom m_cAsk m_cWord m_cOf m_isLie m_children m_learned m_group) A) args s 0 0 A) (F0 m 4 ls []) :=
  kX9_readAsk_p4_r dC dI cB cI cJ cZ a C0 n m_letters m_words m_wMany m_wLetters m_asks m_aWords m_dLetters m_dWords m_dMany m_dText m_dAsks m_dAsk m_tape m_taped m_manyA m_rowA m_manyB m_rowB m_places m_xs m_ys m_heights m_ridges m_rx m_rHeight m_lanes m_sizes m_cells m_left m_calls m_cDay m_cHour m_cFrom m_cAsk m_cWord m_cOf m_isLie m_children m_learned m_group  z_m_dAsks z_m_dAsk z_m_pos z_m_from z_m_sort z_m_value z_m_fault z_m_wrongAt  k m_pos m_from m_sort m_value m_fault m_wrongAt x1 x2 H locs ls
set_option maxHeartbeats 4000000 in
set_option maxRecDepth 100000 in
theorem kX9_readAsk (l : Launch) (n : Nat) (dC : Nat → ClassId) (dI : Nat → Nat → Nat) (cB cI cJ cZ : ClassId) (a : Nat → Nat) (sz : Nat) (m_letters : Nat → Int32) (m_words : Int32) (m_wMany : Nat → Int32) (m_wLetters : Nat → Int32) (m_asks : Int32) (m_aWords : Nat → Int32) (m_dLetters : Nat → Int32) (m_dWords : Int32) (m_dMany : Nat → Int32) (m_dText : Nat → Int32) (m_dAsks : Int32) (m_dAsk : Nat → Int32) (m_tape : Nat → Int32) (m_taped : Int32) (m_pos : Int32) (m_from : Int32) (m_sort : Int32) (m_value : Int32) (m_fault : Int32) (m_wrongAt : Int32) (m_manyA : Int32) (m_rowA : Nat → Int32) (m_manyB : Int32) (m_rowB : Nat → Int32) (m_places : Int32) (m_xs : Nat → Int32) (m_ys : Nat → Int32) (m_heights : Nat → Int32) (m_ridges : Int32) (m_rx : Nat → Int32) (m_rHeight : Nat → Int32) (m_lanes : Nat → Int32) (m_sizes : Nat → Int32) (m_cells : Nat → Int32) (m_left : Nat → Int32) (m_calls : Int32) (m_cDay : Nat → Int32) (m_cHour : Nat → Int32) (m_cFrom : Nat → Int32) (m_cAsk : Nat → Int32) (m_cWord : Nat → Int32) (m_cOf : Nat → Int32) (m_isLie : Nat → Int32) (m_children : Int32) (m_learned : Nat → Int32) (m_group : Nat → Int32)  (z_m_dAsks : Int32) (z_m_dAsk : Nat → Int32) (z_m_pos : Int32) (z_m_from : Int32) (z_m_sort : Int32) (z_m_value : Int32) (z_m_fault : Int32) (z_m_wrongAt : Int32) (h : fX9_readAsk n m_dWords m_dAsks m_dAsk m_tape m_taped m_pos m_from m_sort m_value m_fault m_wrongAt = some (z_m_dAsks, z_m_dAsk, z_m_pos, z_m_from, z_m_sort, z_m_value, z_m_fault, z_m_wrongAt)) : Met l yX9_readAsk wsX9_readAsk ({ frames := 2, cells := 0, slots := 0, locals := 46 }) (gP (dC, dI) (tyz cB cI cJ cZ) E_0 (wM cB cI cJ cZ a m_letters m_words m_wMany m_wLetters m_asks m_aWords m_dLetters m_dWords m_dMany m_dText m_dAsks m_dAsk m_tape m_taped m_pos m_from m_sort m_value m_fault m_wrongAt m_manyA m_rowA m_manyB m_rowB m_places m_xs m_ys m_heights m_ridges m_rx m_rHeight m_lanes m_sizes m_cells m_left m_calls m_cDay m_cHour m_cFrom m_cAsk m_cWord m_cOf m_isLie m_children m_learned m_group) sz [.ref (a 0)]) (gV (dC, dI) (tyz cB cI cJ cZ) (wM cB cI cJ cZ a m_letters m_words m_wMany m_wLetters m_asks m_aWords m_dLetters m_dWords m_dMany m_dText z_m_dAsks z_m_dAsk m_tape m_taped z_m_pos z_m_from z_m_sort z_m_value z_m_fault z_m_wrongAt m_manyA m_rowA m_manyB m_rowB m_places m_xs m_ys m_heights m_ridges m_rx m_rHeight m_lanes m_sizes m_cells m_left m_calls m_cDay m_cHour m_cFrom m_cAsk m_cWord m_cOf m_isLie m_children m_learned m_group) (va_A (wM cB cI cJ cZ a m_letters m_words m_wMany m_wLetters m_asks m_aWords m_dLetters m_dWords m_dMany m_dText m_dAsks m_dAsk m_tape m_taped m_pos m_from m_sort m_value m_fault m_wrongAt m_manyA m_rowA m_manyB m_rowB m_places m_xs m_ys m_heights m_ridges m_rx m_rHeight m_lanes m_sizes m_cells m_left m_calls m_cDay m_cHour m_cFrom m_cAsk m_cWord m_cOf m_isLie m_children m_learned m_group) sz)) 0 0 (va_A (wM cB cI cJ cZ a m_letters m_words m_wMany m_wLetters m_asks m_aWords m_dLetters m_dWords m_dMany m_dText m_dAsks m_dAsk m_tape m_taped m_pos m_from m_sort m_value m_fault m_wrongAt m_manyA m_rowA m_manyB m_rowB m_places m_xs m_ys m_heights m_ridges m_rx m_rHeight m_lanes m_sizes m_cells m_left m_calls m_cDay m_cHour m_cFrom m_cAsk m_cWord m_cOf m_isLie m_children m_learned m_group) sz) := by
  refine Met.ofW (cc := cX9_readAsk) (maxL := 3) (ret := none) (by decide) rfl ?_
  intro p e s m args below meth c s₁ B hml hv
  obtain ⟨rfl, hsz, hP, hK, hD0, hE⟩ := hv
  have hx := B.exec
  have hb := B.bytes
  have hr := B.returns
  have hts := atoms_spec (ws := wsX9_readAsk) B.pre
  have hown : s.vm.findClass RX9 = some m.cls := findClass_of_methodNamed B.named
  have hlocks := B.notSynchronized
  subst hsz
  have hD := hD0.self (sz := s.heap.size)
  have hA : ∀ q : Nat, s.heap.size ≤ q → va_A (wM cB cI cJ cZ a m_letters m_words m_wMany m_wLetters m_asks m_aWords m_dLetters m_dWords m_dMany m_dText m_dAsks m_dAsk m_tape m_taped m_pos m_from m_sort m_value m_fault m_wrongAt m_manyA m_rowA m_manyB m_rowB m_places m_xs m_ys m_heights m_ridges m_rx m_rHeight m_lanes m_sizes m_cells m_left m_calls m_cDay m_cHour m_cFrom m_cAsk m_cWord m_cOf m_isLie m_children m_learned m_group) s.heap.size q := fun q h => Or.inr h
  generalize va_A (wM cB cI cJ cZ a m_letters m_words m_wMany m_wLetters m_asks m_aWords m_dLetters m_dWords m_dMany m_dText m_dAsks m_dAsk m_tape m_taped m_pos m_from m_sort m_value m_fault m_wrongAt m_manyA m_rowA m_manyB m_rowB m_places m_xs m_ys m_heights m_ridges m_rx m_rHeight m_lanes m_sizes m_cells m_left m_calls m_cDay m_cHour m_cFrom m_cAsk m_cWord m_cOf m_isLie m_children m_learned m_group) s.heap.size = A at hD hA hE ⊢
  have hS : va_S A s.heap s.heap [] := va_S.rf
  have C0 : cxt cX9_readAsk none 3 RX9 wsX9_readAsk (dC, dI) (tyz cB cI cJ cZ) E_0 A p s m ([.ref (a 0)] : List Value).toArray meth c := ⟨hx, hb, hr, hml, hown, hts, hlocks, hK, hA, hE⟩
  have hl := lv_entry ([.ref (a 0)]) (n := 3) (Nat.le_of_ble_eq_true rfl)
  rw [lg_entry_eq]
  generalize (lg_sl ([.ref (a 0)]) ++ List.replicate (3 - (lg_sl ([.ref (a 0)])).length) Slot.unset).toArray = ls at hl ⊢
  have hl : lv_has ls 3 [(0, .ref (a 0))] := hl
  unfold fX9_readAsk at h
  refine lv_iconst (v := 0) hx hb dX9_readAsk_0 (by decide) ?_
  refine lv_istore_n (lv' := [(1, .int (0 : Int32)), (0, .ref (a 0))]) hx hb dX9_readAsk_1 rfl hl (by decide) rfl (fun ls hl => ?_)
  refine lv_iconst (v := 1) hx hb dX9_readAsk_2 (by decide) ?_
  refine lv_istore_n (lv' := [(2, .int (1 : Int32)), (1, .int (0 : Int32)), (0, .ref (a 0))]) hx hb dX9_readAsk_3 rfl hl (by decide) rfl (fun ls hl => ?_)
  exact kX9_readAsk_p4 dC dI cB cI cJ cZ a C0 n m_letters m_words m_wMany m_wLetters m_asks m_aWords m_dLetters m_dWords m_dMany m_dText m_dAsks m_dAsk m_tape m_taped m_pos m_from m_sort m_value m_fault m_wrongAt m_manyA m_rowA m_manyB m_rowB m_places m_xs m_ys m_heights m_ridges m_rx m_rHeight m_lanes m_sizes m_cells m_left m_calls m_cDay m_cHour m_cFrom m_cAsk m_cWord m_cOf m_isLie m_children m_learned m_group (0 : Int32) (1 : Int32) z_m_dAsks z_m_dAsk z_m_pos z_m_from z_m_sort z_m_value z_m_fault z_m_wrongAt  n _ _ ls h hP hD hS (lv_sub hl [2, 1, 0] rfl)
set_option maxHeartbeats 4000000 in
set_option maxRecDepth 100000 in
theorem kX9_readLine_p138 {p : Program} {l : Launch} {e : Env} {s : State} {m : MethodId} {args : Array Value} {below : List Frame} {meth : Method} {c : Code} {A : Nat → Prop} (dC : Nat → ClassId) (dI : Nat → Nat → Nat) (cB cI cJ cZ : ClassId) (a : Nat → Nat) (C0 : cxt cX9_readLine none 2 RX9 wsX9_readLine (dC, dI) (tyz cB cI cJ cZ) E_0 A p s m args meth c) (n : Nat) (m_letters : Nat → Int32) (m_words : Int32) (m_wMany : Nat → Int32) (m_wLetters : Nat → Int32) (m_asks : Int32) (m_aWords : Nat → Int32) (m_dLetters : Nat → Int32) (m_dWords : Int32) (m_dMany : Nat → Int32) (m_dText : Nat → Int32) (m_dAsks : Int32) (m_dAsk : Nat → Int32) (m_tape : Nat → Int32) (m_taped : Int32) (m_pos : Int32) (m_from : Int32) (m_sort : Int32) (m_value : Int32) (m_fault : Int32) (m_wrongAt : Int32) (m_manyA : Int32) (m_rowA : Nat → Int32) (m_manyB : Int32) (m_rowB : Nat → Int32) (m_places : Int32) (m_xs : Nat → Int32) (m_ys : Nat → Int32) (m_heights : Nat → Int32) (m_ridges : Int32) (m_rx : Nat → Int32) (m_rHeight : Nat → Int32) (m_lanes : Nat → Int32) (m_sizes : Nat → Int32) (m_cells : Nat → Int32) (m_left : Nat → Int32) (m_calls : Int32) (m_cDay : Nat → Int32) (m_cHour : Nat → Int32) (m_cFrom : Nat → Int32) (m_cAsk : Nat → Int32) (m_cWord : Nat → Int32) (m_cOf : Nat → Int32) (m_isLie : Nat → Int32) (m_children : Int32) (m_learned : Nat → Int32) (m_group : Nat → Int32)    (z_m_dLetters : Nat → Int32) (z_m_dWords : Int32) (z_m_dMany : Nat → Int32) (z_m_dText : Nat → Int32) (z_m_dAsks : Int32) (z_m_dAsk : Nat → Int32) (z_m_pos : Int32) (z_m_from : Int32) (z_m_sort : Int32) (z_m_value : Int32) (z_m_fault : Int32) (z_m_wrongAt : Int32)  (H : Heap) (locs : List Loc) (ls : Array Slot) : fX9_readLine_p138 n m_dLetters m_dWords m_dMany m_dText m_dAsks m_dAsk m_tape m_taped m_pos m_from m_sort m_value m_fault m_wrongAt = some (z_m_dLetters, z_m_dWords, z_m_dMany, z_m_dText, z_m_dAsks, z_m_dAsk, z_m_pos, z_m_from, z_m_sort, z_m_value, z_m_fault, z_m_wrongAt) → va_P (dC, dI) vwCl (wM cB cI cJ cZ a m_letters m_words m_wMany m_wLetters m_asks m_aWords m_dLetters m_dWords m_dMany m_dText m_dAsks m_dAsk m_tape m_taped m_pos m_from m_sort m_value m_fault m_wrongAt m_manyA m_rowA m_manyB m_rowB m_places m_xs m_ys m_heights m_ridges m_rx m_rHeight m_lanes m_sizes m_cells m_left m_calls m_cDay m_cHour m_cFrom m_cAsk m_cWord m_cOf m_isLie m_children m_learned m_group) H → va_D A (wM cB cI cJ cZ a m_letters m_words m_wMany m_wLetters m_asks m_aWords m_dLetters m_dWords m_dMany m_dText m_dAsks m_dAsk m_tape m_taped m_pos m_from m_sort m_value m_fault m_wrongAt m_manyA m_rowA m_manyB m_rowB m_places m_xs m_ys m_heights m_ridges m_rx m_rHeight m_lanes m_sizes m_cells m_left m_calls m_cDay m_cHour m_cFrom m_cAsk m_cWord m_cOf m_isLie m_children m_learned m_group) → va_S A s.heap H locs → lv_has ls 2 [(0, .ref (a 0))] → W p l e { frames := 3, cells := 0, slots := 0, locals := 69 } s m args below meth c H locs 0 0 (MQ below (gV (dC, dI) (tyz cB cI cJ cZ) (wM cB cI cJ cZ a m_letters m_words m_wMany m_wLetters m_asks m_aWords z_m_dLetters z_m_dWords z_m_dMany z_m_dText z_m_dAsks z_m_dAsk m_tape m_taped z_m_pos z_m_from z_m_sort z_m_value z_m_fault z_m_wrongAt m_manyA m_rowA m_manyB m_rowB m_places m_xs m_ys m_heights m_ridges m_rx m_rHeight m_lanes m_sizes m_cells m_left m_calls m_cDay m_cHour m_cFrom m_cAsk m_cWord m_cOf m_isLie m_children m_learned m_group) A) args s 0 0 A) (F0 m 138 ls []) := by
  intro h hP hD hS hl
  obtain ⟨hx, hb, hr, hml, hown, hts, hlocks, hK, hA, hE⟩ := id C0
  have hw0 := hts (.fieldLink RX9 108 "WhistledWordsModel" "fault" "I") (by decide +kernel)
  have hw1 := hts (.fieldLink RX9 124 "WhistledWordsModel" "sort" "I") (by decide +kernel)
  have hnX9 : ∀ w ∈ u_ws RX9 TX9 46, w ∈ wsX9_readLine := fun _ h => List.mem_cons_of_mem _ (List.mem_append_right _ h)
  unfold fX9_readLine_p138 at h
  refine lv_aload_n hx hb dX9_readLine_138 rfl (lv_at hl 0 rfl) ?_
  refine gM_mo_fault hx hb hts hnX9 hown hK hP hw0 dX9_readLine_139 ?_
  refine lv_if_ne (tgt := 163) hx hb dX9_readLine_142 (by decide) (fun c1 => ?_) (fun c1 => ?_)
  · have h := ie_use c1 h
    refine lv_aload_n hx hb dX9_readLine_163 rfl (lv_at hl 0 rfl) ?_
    obtain ⟨v2, v3, v4, v5, v6, v7, hc, h⟩ := bd6_use h
    refine cv_v (As := []) (rest := []) ⟨hx, hb, hml, hown, hts⟩ (kX9_next l n dC dI cB cI cJ cZ a _ m_letters m_words m_wMany m_wLetters m_asks m_aWords m_dLetters m_dWords m_dMany m_dText m_dAsks m_dAsk m_tape m_taped m_pos m_from m_sort m_value m_fault m_wrongAt m_manyA m_rowA m_manyB m_rowB m_places m_xs m_ys m_heights m_ridges m_rx m_rHeight m_lanes m_sizes m_cells m_left m_calls m_cDay m_cHour m_cFrom m_cAsk m_cWord m_cOf m_isLie m_children m_learned m_group  v2 v3 v4 v5 v6 v7 hc) (cwV 0 hts gX9_readLine_X9_next rfl rfl rfl (by decide +kernel) ⟨Nat.le_of_ble_eq_true rfl, Nat.le_of_ble_eq_true rfl⟩) EB_0 hE hK hP hD hS hA 0 (ci := 8) rfl rfl rfl rfl hl.1 rfl (Nat.le_of_ble_eq_true rfl) dX9_readLine_164 ⟨Nat.zero_le _, Nat.zero_le _⟩ (fun H locs hP hD hS => ?_)
    obtain ⟨ez0, ez1, ez2, ez3, ez4, ez5, ez6, ez7, ez8, ez9, ez10, ez11⟩ := rt12_use h
    subst ez0
    subst ez1
    subst ez2
    subst ez3
    subst ez4
    subst ez5
    subst ez6
    subst ez7
    subst ez8
    subst ez9
    subst ez10
    subst ez11
    exact re_v hx hb hr hlocks hK hP hD hS dX9_readLine_167
  · have h := it_use c1 h
    refine lv_aload_n hx hb dX9_readLine_145 rfl (lv_at hl 0 rfl) ?_
    refine lv_aload_n hx hb dX9_readLine_146 rfl (lv_at hl 0 rfl) ?_
    refine gM_mo_sort hx hb hts hnX9 hown hK hP hw1 dX9_readLine_147 ?_
    refine lv_iconst (v := 3) hx hb dX9_readLine_150 (by decide) ?_
    refine lv_icmp_ne (tgt := 158) hx hb dX9_readLine_151 (by decide) (fun c8 => ?_) (fun c8 => ?_)
    · have h := ie_use c8 h
      refine lv_iconst (v := 0) hx hb dX9_readLine_158 (by decide) ?_
      refine lv_iconst (v := 2) hx hb dX9_readLine_159 (by decide) ?_
      obtain ⟨v9, v10, hc, h⟩ := bd2_use h
      refine cv_v (As := [.int (0 : Int32), .int (2 : Int32)]) (rest := []) ⟨hx, hb, hml, hown, hts⟩ (kX9_wants l n dC dI cB cI cJ cZ a _ m_letters m_words m_wMany m_wLetters m_asks m_aWords m_dLetters m_dWords m_dMany m_dText m_dAsks m_dAsk m_tape m_taped m_pos m_from m_sort m_value m_fault m_wrongAt m_manyA m_rowA m_manyB m_rowB m_places m_xs m_ys m_heights m_ridges m_rx m_rHeight m_lanes m_sizes m_cells m_left m_calls m_cDay m_cHour m_cFrom m_cAsk m_cWord m_cOf m_isLie m_children m_learned m_group (0 : Int32) (2 : Int32) v9 v10 hc) (cwV 2 hts gX9_readLine_X9_wants rfl rfl rfl (by decide +kernel) ⟨Nat.le_of_ble_eq_true rfl, Nat.le_of_ble_eq_true rfl⟩) EB_0 hE hK hP hD hS hA 0 (ci := 8) rfl rfl rfl rfl hl.1 rfl (Nat.le_of_ble_eq_true rfl) dX9_readLine_160 ⟨Nat.zero_le _, Nat.zero_le _⟩ (fun H locs hP hD hS => ?_)
      refine lv_aload_n hx hb dX9_readLine_163 rfl (lv_at hl 0 rfl) ?_
      obtain ⟨v11, v12, v13, v14, v15, v16, hc, h⟩ := bd6_use h
      refine cv_v (As := []) (rest := []) ⟨hx, hb, hml, hown, hts⟩ (kX9_next l n dC dI cB cI cJ cZ a _ m_letters m_words m_wMany m_wLetters m_asks m_aWords m_dLetters m_dWords m_dMany m_dText m_dAsks m_dAsk m_tape m_taped m_pos m_from m_sort m_value v9 v10 m_manyA m_rowA m_manyB m_rowB m_places m_xs m_ys m_heights m_ridges m_rx m_rHeight m_lanes m_sizes m_cells m_left m_calls m_cDay m_cHour m_cFrom m_cAsk m_cWord m_cOf m_isLie m_children m_learned m_group  v11 v12 v13 v14 v15 v16 hc) (cwV 0 hts gX9_readLine_X9_next rfl rfl rfl (by decide +kernel) ⟨Nat.le_of_ble_eq_true rfl, Nat.le_of_ble_eq_true rfl⟩) EB_0 hE hK hP hD hS hA 0 (ci := 8) rfl rfl rfl rfl hl.1 rfl (Nat.le_of_ble_eq_true rfl) dX9_readLine_164 ⟨Nat.zero_le _, Nat.zero_le _⟩ (fun H locs hP hD hS => ?_)
      obtain ⟨ez0, ez1, ez2, ez3, ez4, ez5, ez6, ez7, ez8, ez9, ez10, ez11⟩ := rt12_use h
      subst ez0
      subst ez1
      subst ez2
      subst ez3
      subst ez4
      subst ez5
      subst ez6
      subst ez7
      subst ez8
      subst ez9
      subst ez10
      subst ez11
      exact re_v hx hb hr hlocks hK hP hD hS dX9_readLine_167
    · have h := it_use c8 h
      refine lv_iconst (v := 1) hx hb dX9_readLine_154 (by decide) ?_
      refine lv_goto (tgt := 159) hx hb dX9_readLine_155 (by decide) ?_
      refine lv_iconst (v := 2) hx hb dX9_readLine_159 (by decide) ?_
      obtain ⟨v17, v18, hc, h⟩ := bd2_use h
      refine cv_v (As := [.int (1 : Int32), .int (2 : Int32)]) (rest := []) ⟨hx, hb, hml, hown, hts⟩ (kX9_wants l n dC dI cB cI cJ cZ a _ m_letters m_words m_wMany m_wLetters m_asks m_aWords m_dLetters m_dWords m_dMany m_dText m_dAsks m_dAsk m_tape m_taped m_pos m_from m_sort m_value m_fault m_wrongAt m_manyA m_rowA m_manyB m_rowB m_places m_xs m_ys m_heights m_ridges m_rx m_rHeight m_lanes m_sizes m_cells m_left m_calls m_cDay m_cHour m_cFrom m_cAsk m_cWord m_cOf m_isLie m_children m_learned m_group (1 : Int32) (2 : Int32) v17 v18 hc) (cwV 2 hts gX9_readLine_X9_wants rfl rfl rfl (by decide +kernel) ⟨Nat.le_of_ble_eq_true rfl, Nat.le_of_ble_eq_true rfl⟩) EB_0 hE hK hP hD hS hA 0 (ci := 8) rfl rfl rfl rfl hl.1 rfl (Nat.le_of_ble_eq_true rfl) dX9_readLine_160 ⟨Nat.zero_le _, Nat.zero_le _⟩ (fun H locs hP hD hS => ?_)
      refine lv_aload_n hx hb dX9_readLine_163 rfl (lv_at hl 0 rfl) ?_
      obtain ⟨v19, v20, v21, v22, v23, v24, hc, h⟩ := bd6_use h
      refine cv_v (As := []) (rest := []) ⟨hx, hb, hml, hown, hts⟩ (kX9_next l n dC dI cB cI cJ cZ a _ m_letters m_words m_wMany m_wLetters m_asks m_aWords m_dLetters m_dWords m_dMany m_dText m_dAsks m_dAsk m_tape m_taped m_pos m_from m_sort m_value v17 v18 m_manyA m_rowA m_manyB m_rowB m_places m_xs m_ys m_heights m_ridges m_rx m_rHeight m_lanes m_sizes m_cells m_left m_calls m_cDay m_cHour m_cFrom m_cAsk m_cWord m_cOf m_isLie m_children m_learned m_group  v19 v20 v21 v22 v23 v24 hc) (cwV 0 hts gX9_readLine_X9_next rfl rfl rfl (by decide +kernel) ⟨Nat.le_of_ble_eq_true rfl, Nat.le_of_ble_eq_true rfl⟩) EB_0 hE hK hP hD hS hA 0 (ci := 8) rfl rfl rfl rfl hl.1 rfl (Nat.le_of_ble_eq_true rfl) dX9_readLine_164 ⟨Nat.zero_le _, Nat.zero_le _⟩ (fun H locs hP hD hS => ?_)
      obtain ⟨ez0, ez1, ez2, ez3, ez4, ez5, ez6, ez7, ez8, ez9, ez10, ez11⟩ := rt12_use h
      subst ez0
      subst ez1
      subst ez2
      subst ez3
      subst ez4
      subst ez5
      subst ez6
      subst ez7
      subst ez8
      subst ez9
      subst ez10
      subst ez11
      exact re_v hx hb hr hlocks hK hP hD hS dX9_readLine_167
set_option maxHeartbeats 4000000 in
set_option maxRecDepth 100000 in
theorem kX9_readLine_p108 {p : Program} {l : Launch} {e : Env} {s : State} {m : MethodId} {args : Array Value} {below : List Frame} {meth : Method} {c : Code} {A : Nat → Prop} (dC : Nat → ClassId) (dI : Nat → Nat → Nat) (cB cI cJ cZ : ClassId) (a : Nat → Nat) (C0 : cxt cX9_readLine none 2 RX9 wsX9_readLine (dC, dI) (tyz cB cI cJ cZ) E_0 A p s m args meth c) (n : Nat) (m_letters : Nat → Int32) (m_words : Int32) (m_wMany : Nat → Int32) (m_wLetters : Nat → Int32) (m_asks : Int32) (m_aWords : Nat → Int32) (m_dLetters : Nat → Int32) (m_dWords : Int32) (m_dMany : Nat → Int32) (m_dText : Nat → Int32) (m_dAsks : Int32) (m_dAsk : Nat → Int32) (m_tape : Nat → Int32) (m_taped : Int32) (m_pos : Int32) (m_from : Int32) (m_sort : Int32) (m_value : Int32) (m_fault : Int32) (m_wrongAt : Int32) (m_manyA : Int32) (m_rowA : Nat → Int32) (m_manyB : Int32) (m_rowB : Nat → Int32) (m_places : Int32) (m_xs : Nat → Int32) (m_ys : Nat → Int32) (m_heights : Nat → Int32) (m_ridges : Int32) (m_rx : Nat → Int32) (m_rHeight : Nat → Int32) (m_lanes : Nat → Int32) (m_sizes : Nat → Int32) (m_cells : Nat → Int32) (m_left : Nat → Int32) (m_calls : Int32) (m_cDay : Nat → Int32) (m_cHour : Nat → Int32) (m_cFrom : Nat → Int32) (m_cAsk : Nat → Int32) (m_cWord : Nat → Int32) (m_cOf : Nat → Int32) (m_isLie : Nat → Int32) (m_children : Int32) (m_learned : Nat → Int32) (m_group : Nat → Int32)  (x1 : Int32)  (z_m_dLetters : Nat → Int32) (z_m_dWords : Int32) (z_m_dMany : Nat → Int32) (z_m_dText : Nat → Int32) (z_m_dAsks : Int32) (z_m_dAsk : Nat → Int32) (z_m_pos : Int32) (z_m_from : Int32) (z_m_sort : Int32) (z_m_value : Int32) (z_m_fault : Int32) (z_m_wrongAt : Int32)  (H : Heap) (locs : List Loc) (ls : Array Slot) : fX9_readLine_p108 n m_dLetters m_dWords m_dMany m_dText m_dAsks m_dAsk m_tape m_taped m_pos m_from m_sort m_value m_fault m_wrongAt x1 = some (z_m_dLetters, z_m_dWords, z_m_dMany, z_m_dText, z_m_dAsks, z_m_dAsk, z_m_pos, z_m_from, z_m_sort, z_m_value, z_m_fault, z_m_wrongAt) → va_P (dC, dI) vwCl (wM cB cI cJ cZ a m_letters m_words m_wMany m_wLetters m_asks m_aWords m_dLetters m_dWords m_dMany m_dText m_dAsks m_dAsk m_tape m_taped m_pos m_from m_sort m_value m_fault m_wrongAt m_manyA m_rowA m_manyB m_rowB m_places m_xs m_ys m_heights m_ridges m_rx m_rHeight m_lanes m_sizes m_cells m_left m_calls m_cDay m_cHour m_cFrom m_cAsk m_cWord m_cOf m_isLie m_children m_learned m_group) H → va_D A (wM cB cI cJ cZ a m_letters m_words m_wMany m_wLetters m_asks m_aWords m_dLetters m_dWords m_dMany m_dText m_dAsks m_dAsk m_tape m_taped m_pos m_from m_sort m_value m_fault m_wrongAt m_manyA m_rowA m_manyB m_rowB m_places m_xs m_ys m_heights m_ridges m_rx m_rHeight m_lanes m_sizes m_cells m_left m_calls m_cDay m_cHour m_cFrom m_cAsk m_cWord m_cOf m_isLie m_children m_learned m_group) → va_S A s.heap H locs → lv_has ls 2 [(0, .ref (a 0)), (1, .int x1)] → W p l e { frames := 3, cells := 0, slots := 0, locals := 69 } s m args below meth c H locs 0 0 (MQ below (gV (dC, dI) (tyz cB cI cJ cZ) (wM cB cI cJ cZ a m_letters m_words m_wMany m_wLetters m_asks m_aWords z_m_dLetters z_m_dWords z_m_dMany z_m_dText z_m_dAsks z_m_dAsk m_tape m_taped z_m_pos z_m_from z_m_sort z_m_value z_m_fault z_m_wrongAt m_manyA m_rowA m_manyB m_rowB m_places m_xs m_ys m_heights m_ridges m_rx m_rHeight m_lanes m_sizes m_cells m_left m_calls m_cDay m_cHour m_cFrom m_cAsk m_cWord m_cOf m_isLie m_children m_learned m_group) A) args s 0 0 A) (F0 m 108 ls []) := by
  intro h hP hD hS hl
  obtain ⟨hx, hb, hr, hml, hown, hts, hlocks, hK, hA, hE⟩ := id C0
  have hw0 := hts (.fieldLink RX9 108 "WhistledWordsModel" "fault" "I") (by decide +kernel)
  have hnX9 : ∀ w ∈ u_ws RX9 TX9 46, w ∈ wsX9_readLine := fun _ h => List.mem_cons_of_mem _ (List.mem_append_right _ h)
  unfold fX9_readLine_p108 at h
  refine lv_aload_n hx hb dX9_readLine_108 rfl (lv_at hl 0 rfl) ?_
  refine gM_mo_fault hx hb hts hnX9 hown hK hP hw0 dX9_readLine_109 ?_
  refine lv_if_ne (tgt := 127) hx hb dX9_readLine_112 (by decide) (fun c1 => ?_) (fun c1 => ?_)
  · have h := ie_use c1 h
    refine lv_aload_n hx hb dX9_readLine_127 rfl (lv_at hl 0 rfl) ?_
    refine gM_mo_fault hx hb hts hnX9 hown hK hP hw0 dX9_readLine_128 ?_
    refine lv_if_ne (tgt := 138) hx hb dX9_readLine_131 (by decide) (fun c2 => ?_) (fun c2 => ?_)
    · have h := ie_use c2 h
      exact kX9_readLine_p138 dC dI cB cI cJ cZ a C0 n m_letters m_words m_wMany m_wLetters m_asks m_aWords m_dLetters m_dWords m_dMany m_dText m_dAsks m_dAsk m_tape m_taped m_pos m_from m_sort m_value m_fault m_wrongAt m_manyA m_rowA m_manyB m_rowB m_places m_xs m_ys m_heights m_ridges m_rx m_rHeight m_lanes m_sizes m_cells m_left m_calls m_cDay m_cHour m_cFrom m_cAsk m_cWord m_cOf m_isLie m_children m_learned m_group   z_m_dLetters z_m_dWords z_m_dMany z_m_dText z_m_dAsks z_m_dAsk z_m_pos z_m_from z_m_sort z_m_value z_m_fault z_m_wrongAt  _ _ ls h hP hD hS (lv_sub hl [0] rfl)
    · have h := it_use c2 h
      refine lv_aload_n hx hb dX9_readLine_134 rfl (lv_at hl 0 rfl) ?_
      obtain ⟨v3, f4, v5, v6, v7, v8, v9, v10, hc, h⟩ := bd8_use h
      refine cv_v (As := []) (rest := []) ⟨hx, hb, hml, hown, hts⟩ (kX9_readAsk l n dC dI cB cI cJ cZ a _ m_letters m_words m_wMany m_wLetters m_asks m_aWords m_dLetters m_dWords m_dMany m_dText m_dAsks m_dAsk m_tape m_taped m_pos m_from m_sort m_value m_fault m_wrongAt m_manyA m_rowA m_manyB m_rowB m_places m_xs m_ys m_heights m_ridges m_rx m_rHeight m_lanes m_sizes m_cells m_left m_calls m_cDay m_cHour m_cFrom m_cAsk m_cWord m_cOf m_isLie m_children m_learned m_group  v3 f4 v5 v6 v7 v8 v9 v10 hc) (cwV 0 hts gX9_readLine_X9_readAsk rfl rfl rfl (by decide +kernel) ⟨Nat.le_of_ble_eq_true rfl, Nat.le_of_ble_eq_true rfl⟩) EB_0 hE hK hP hD hS hA 0 (ci := 8) rfl rfl rfl rfl hl.1 rfl (Nat.le_of_ble_eq_true rfl) dX9_readLine_135 ⟨Nat.zero_le _, Nat.zero_le _⟩ (fun H locs hP hD hS => ?_)
      exact kX9_readLine_p138 dC dI cB cI cJ cZ a C0 n m_letters m_words m_wMany m_wLetters m_asks m_aWords m_dLetters m_dWords m_dMany m_dText v3 f4 m_tape m_taped v5 v6 v7 v8 v9 v10 m_manyA m_rowA m_manyB m_rowB m_places m_xs m_ys m_heights m_ridges m_rx m_rHeight m_lanes m_sizes m_cells m_left m_calls m_cDay m_cHour m_cFrom m_cAsk m_cWord m_cOf m_isLie m_children m_learned m_group   z_m_dLetters z_m_dWords z_m_dMany z_m_dText z_m_dAsks z_m_dAsk z_m_pos z_m_from z_m_sort z_m_value z_m_fault z_m_wrongAt  _ _ ls h hP hD hS (lv_sub hl [0] rfl)
  · have h := it_use c1 h
    refine lv_iload_n hx hb dX9_readLine_115 rfl (lv_at hl 1 rfl) ?_
    refine lv_iconst (v := 4) hx hb dX9_readLine_116 (by decide) ?_
    refine lv_icmp_ne (tgt := 127) hx hb dX9_readLine_117 (by decide) (fun c11 => ?_) (fun c11 => ?_)
    · have h := ie_use c11 h
      refine lv_aload_n hx hb dX9_readLine_127 rfl (lv_at hl 0 rfl) ?_
      refine gM_mo_fault hx hb hts hnX9 hown hK hP hw0 dX9_readLine_128 ?_
      refine lv_if_ne (tgt := 138) hx hb dX9_readLine_131 (by decide) (fun c12 => ?_) (fun c12 => ?_)
      · have h := ie_use c12 h
        exact kX9_readLine_p138 dC dI cB cI cJ cZ a C0 n m_letters m_words m_wMany m_wLetters m_asks m_aWords m_dLetters m_dWords m_dMany m_dText m_dAsks m_dAsk m_tape m_taped m_pos m_from m_sort m_value m_fault m_wrongAt m_manyA m_rowA m_manyB m_rowB m_places m_xs m_ys m_heights m_ridges m_rx m_rHeight m_lanes m_sizes m_cells m_left m_calls m_cDay m_cHour m_cFrom m_cAsk m_cWord m_cOf m_isLie m_children m_learned m_group   z_m_dLetters z_m_dWords z_m_dMany z_m_dText z_m_dAsks z_m_dAsk z_m_pos z_m_from z_m_sort z_m_value z_m_fault z_m_wrongAt  _ _ ls h hP hD hS (lv_sub hl [0] rfl)
      · have h := it_use c12 h
        refine lv_aload_n hx hb dX9_readLine_134 rfl (lv_at hl 0 rfl) ?_
        obtain ⟨v13, f14, v15, v16, v17, v18, v19, v20, hc, h⟩ := bd8_use h
        refine cv_v (As := []) (rest := []) ⟨hx, hb, hml, hown, hts⟩ (kX9_readAsk l n dC dI cB cI cJ cZ a _ m_letters m_words m_wMany m_wLetters m_asks m_aWords m_dLetters m_dWords m_dMany m_dText m_dAsks m_dAsk m_tape m_taped m_pos m_from m_sort m_value m_fault m_wrongAt m_manyA m_rowA m_manyB m_rowB m_places m_xs m_ys m_heights m_ridges m_rx m_rHeight m_lanes m_sizes m_cells m_left m_calls m_cDay m_cHour m_cFrom m_cAsk m_cWord m_cOf m_isLie m_children m_learned m_group  v13 f14 v15 v16 v17 v18 v19 v20 hc) (cwV 0 hts gX9_readLine_X9_readAsk rfl rfl rfl (by decide +kernel) ⟨Nat.le_of_ble_eq_true rfl, Nat.le_of_ble_eq_true rfl⟩) EB_0 hE hK hP hD hS hA 0 (ci := 8) rfl rfl rfl rfl hl.1 rfl (Nat.le_of_ble_eq_true rfl) dX9_readLine_135 ⟨Nat.zero_le _, Nat.zero_le _⟩ (fun H locs hP hD hS => ?_)
        exact kX9_readLine_p138 dC dI cB cI cJ cZ a C0 n m_letters m_words m_wMany m_wLetters m_asks m_aWords m_dLetters m_dWords m_dMany m_dText v13 f14 m_tape m_taped v15 v16 v17 v18 v19 v20 m_manyA m_rowA m_manyB m_rowB m_places m_xs m_ys m_heights m_ridges m_rx m_rHeight m_lanes m_sizes m_cells m_left m_calls m_cDay m_cHour m_cFrom m_cAsk m_cWord m_cOf m_isLie m_children m_learned m_group   z_m_dLetters z_m_dWords z_m_dMany z_m_dText z_m_dAsks z_m_dAsk z_m_pos z_m_from z_m_sort z_m_value z_m_fault z_m_wrongAt  _ _ ls h hP hD hS (lv_sub hl [0] rfl)
    · have h := it_use c11 h
      refine lv_aload_n hx hb dX9_readLine_120 rfl (lv_at hl 0 rfl) ?_
      obtain ⟨v21, f22, f23, v24, v25, v26, v27, v28, v29, hc, h⟩ := bd9_use h
      refine cv_v (As := []) (rest := []) ⟨hx, hb, hml, hown, hts⟩ (kX9_readWord l n dC dI cB cI cJ cZ a _ m_letters m_words m_wMany m_wLetters m_asks m_aWords m_dLetters m_dWords m_dMany m_dText m_dAsks m_dAsk m_tape m_taped m_pos m_from m_sort m_value m_fault m_wrongAt m_manyA m_rowA m_manyB m_rowB m_places m_xs m_ys m_heights m_ridges m_rx m_rHeight m_lanes m_sizes m_cells m_left m_calls m_cDay m_cHour m_cFrom m_cAsk m_cWord m_cOf m_isLie m_children m_learned m_group  v21 f22 f23 v24 v25 v26 v27 v28 v29 hc) (cwV 0 hts gX9_readLine_X9_readWord rfl rfl rfl (by decide +kernel) ⟨Nat.le_of_ble_eq_true rfl, Nat.le_of_ble_eq_true rfl⟩) EB_0 hE hK hP hD hS hA 0 (ci := 8) rfl rfl rfl rfl hl.1 rfl (Nat.le_of_ble_eq_true rfl) dX9_readLine_121 ⟨Nat.zero_le _, Nat.zero_le _⟩ (fun H locs hP hD hS => ?_)
      refine lv_goto (tgt := 138) hx hb dX9_readLine_124 (by decide) ?_
      exact kX9_readLine_p138 dC dI cB cI cJ cZ a C0 n m_letters m_words m_wMany m_wLetters m_asks m_aWords m_dLetters v21 f22 f23 m_dAsks m_dAsk m_tape m_taped v24 v25 v26 v27 v28 v29 m_manyA m_rowA m_manyB m_rowB m_places m_xs m_ys m_heights m_ridges m_rx m_rHeight m_lanes m_sizes m_cells m_left m_calls m_cDay m_cHour m_cFrom m_cAsk m_cWord m_cOf m_isLie m_children m_learned m_group   z_m_dLetters z_m_dWords z_m_dMany z_m_dText z_m_dAsks z_m_dAsk z_m_pos z_m_from z_m_sort z_m_value z_m_fault z_m_wrongAt  _ _ ls h hP hD hS (lv_sub hl [0] rfl)
set_option maxHeartbeats 4000000 in
set_option maxRecDepth 100000 in
theorem kX9_readLine_p79 {p : Program} {l : Launch} {e : Env} {s : State} {m : MethodId} {args : Array Value} {below : List Frame} {meth : Method} {c : Code} {A : Nat → Prop} (dC : Nat → ClassId) (dI : Nat → Nat → Nat) (cB cI cJ cZ : ClassId) (a : Nat → Nat) (C0 : cxt cX9_readLine none 2 RX9 wsX9_readLine (dC, dI) (tyz cB cI cJ cZ) E_0 A p s m args meth c) (n : Nat) (m_letters : Nat → Int32) (m_words : Int32) (m_wMany : Nat → Int32) (m_wLetters : Nat → Int32) (m_asks : Int32) (m_aWords : Nat → Int32) (m_dLetters : Nat → Int32) (m_dWords : Int32) (m_dMany : Nat → Int32) (m_dText : Nat → Int32) (m_dAsks : Int32) (m_dAsk : Nat → Int32) (m_tape : Nat → Int32) (m_taped : Int32) (m_pos : Int32) (m_from : Int32) (m_sort : Int32) (m_value : Int32) (m_fault : Int32) (m_wrongAt : Int32) (m_manyA : Int32) (m_rowA : Nat → Int32) (m_manyB : Int32) (m_rowB : Nat → Int32) (m_places : Int32) (m_xs : Nat → Int32) (m_ys : Nat → Int32) (m_heights : Nat → Int32) (m_ridges : Int32) (m_rx : Nat → Int32) (m_rHeight : Nat → Int32) (m_lanes : Nat → Int32) (m_sizes : Nat → Int32) (m_cells : Nat → Int32) (m_left : Nat → Int32) (m_calls : Int32) (m_cDay : Nat → Int32) (m_cHour : Nat → Int32) (m_cFrom : Nat → Int32) (m_cAsk : Nat → Int32) (m_cWord : Nat → Int32) (m_cOf : Nat → Int32) (m_isLie : Nat → Int32) (m_children : Int32) (m_learned : Nat → Int32) (m_group : Nat → Int32)  (x1 : Int32) (s1 : Int32) (z_m_dLetters : Nat → Int32) (z_m_dWords : Int32) (z_m_dMany : Nat → Int32) (z_m_dText : Nat → Int32) (z_m_dAsks : Int32) (z_m_dAsk : Nat → Int32) (z_m_pos : Int32) (z_m_from : Int32) (z_m_sort : Int32) (z_m_value : Int32) (z_m_fault : Int32) (z_m_wrongAt : Int32)  (H : Heap) (locs : List Loc) (ls : Array Slot) : fX9_readLine_p79 n m_dLetters m_dWords m_dMany m_dText m_dAsks m_dAsk m_tape m_taped m_pos m_from m_sort m_value m_fault m_wrongAt x1 s1 = some (z_m_dLetters, z_m_dWords, z_m_dMany, z_m_dText, z_m_dAsks, z_m_dAsk, z_m_pos, z_m_from, z_m_sort, z_m_value, z_m_fault, z_m_wrongAt) → va_P (dC, dI) vwCl (wM cB cI cJ cZ a m_letters m_words m_wMany m_wLetters m_asks m_aWords m_dLetters m_dWords m_dMany m_dText m_dAsks m_dAsk m_tape m_taped m_pos m_from m_sort m_value m_fault m_wrongAt m_manyA m_rowA m_manyB m_rowB m_places m_xs m_ys m_heights m_ridges m_rx m_rHeight m_lanes m_sizes m_cells m_left m_calls m_cDay m_cHour m_cFrom m_cAsk m_cWord m_cOf m_isLie m_children m_learned m_group) H → va_D A (wM cB cI cJ cZ a m_letters m_words m_wMany m_wLetters m_asks m_aWords m_dLetters m_dWords m_dMany m_dText m_dAsks m_dAsk m_tape m_taped m_pos m_from m_sort m_value m_fault m_wrongAt m_manyA m_rowA m_manyB m_rowB m_places m_xs m_ys m_heights m_ridges m_rx m_rHeight m_lanes m_sizes m_cells m_left m_calls m_cDay m_cHour m_cFrom m_cAsk m_cWord m_cOf m_isLie m_children m_learned m_group) → va_S A s.heap H locs → lv_has ls 2 [(0, .ref (a 0)), (1, .int x1)] → W p l e { frames := 3, cells := 0, slots := 0, locals := 69 } s m args below meth c H locs 0 0 (MQ below (gV (dC, dI) (tyz cB cI cJ cZ) (wM cB cI cJ cZ a m_letters m_words m_wMany m_wLetters m_asks m_aWords z_m_dLetters z_m_dWords z_m_dMany z_m_dText z_m_dAsks z_m_dAsk m_tape m_taped z_m_pos z_m_from z_m_sort z_m_value z_m_fault z_m_wrongAt m_manyA m_rowA m_manyB m_rowB m_places m_xs m_ys m_heights m_ridges m_rx m_rHeight m_lanes m_sizes m_cells m_left m_calls m_cDay m_cHour m_cFrom m_cAsk m_cWord m_cOf m_isLie m_children m_learned m_group) A) args s 0 0 A) (F0 m 79 ls [.int s1, .ref (a 0)]) := by
  intro h hP hD hS hl
  obtain ⟨hx, hb, hr, hml, hown, hts, hlocks, hK, hA, hE⟩ := id C0
  have hw0 := hts (.fieldLink RX9 108 "WhistledWordsModel" "fault" "I") (by decide +kernel)
  have hnX9 : ∀ w ∈ u_ws RX9 TX9 46, w ∈ wsX9_readLine := fun _ h => List.mem_cons_of_mem _ (List.mem_append_right _ h)
  unfold fX9_readLine_p79 at h
  refine lv_bipush (v := 6) hx hb dX9_readLine_79 (by decide) ?_
  obtain ⟨v1, v2, hc, h⟩ := bd2_use h
  refine cv_v (As := [.int s1, .int (6 : Int32)]) (rest := []) ⟨hx, hb, hml, hown, hts⟩ (kX9_wants l n dC dI cB cI cJ cZ a _ m_letters m_words m_wMany m_wLetters m_asks m_aWords m_dLetters m_dWords m_dMany m_dText m_dAsks m_dAsk m_tape m_taped m_pos m_from m_sort m_value m_fault m_wrongAt m_manyA m_rowA m_manyB m_rowB m_places m_xs m_ys m_heights m_ridges m_rx m_rHeight m_lanes m_sizes m_cells m_left m_calls m_cDay m_cHour m_cFrom m_cAsk m_cWord m_cOf m_isLie m_children m_learned m_group s1 (6 : Int32) v1 v2 hc) (cwV 2 hts gX9_readLine_X9_wants rfl rfl rfl (by decide +kernel) ⟨Nat.le_of_ble_eq_true rfl, Nat.le_of_ble_eq_true rfl⟩) EB_0 hE hK hP hD hS hA 0 (ci := 8) rfl rfl rfl rfl hl.1 rfl (Nat.le_of_ble_eq_true rfl) dX9_readLine_81 ⟨Nat.zero_le _, Nat.zero_le _⟩ (fun H locs hP hD hS => ?_)
  refine lv_aload_n hx hb dX9_readLine_84 rfl (lv_at hl 0 rfl) ?_
  obtain ⟨v3, v4, v5, v6, v7, v8, hc, h⟩ := bd6_use h
  refine cv_v (As := []) (rest := []) ⟨hx, hb, hml, hown, hts⟩ (kX9_next l n dC dI cB cI cJ cZ a _ m_letters m_words m_wMany m_wLetters m_asks m_aWords m_dLetters m_dWords m_dMany m_dText m_dAsks m_dAsk m_tape m_taped m_pos m_from m_sort m_value v1 v2 m_manyA m_rowA m_manyB m_rowB m_places m_xs m_ys m_heights m_ridges m_rx m_rHeight m_lanes m_sizes m_cells m_left m_calls m_cDay m_cHour m_cFrom m_cAsk m_cWord m_cOf m_isLie m_children m_learned m_group  v3 v4 v5 v6 v7 v8 hc) (cwV 0 hts gX9_readLine_X9_next rfl rfl rfl (by decide +kernel) ⟨Nat.le_of_ble_eq_true rfl, Nat.le_of_ble_eq_true rfl⟩) EB_0 hE hK hP hD hS hA 0 (ci := 8) rfl rfl rfl rfl hl.1 rfl (Nat.le_of_ble_eq_true rfl) dX9_readLine_85 ⟨Nat.zero_le _, Nat.zero_le _⟩ (fun H locs hP hD hS => ?_)
  refine lv_aload_n hx hb dX9_readLine_88 rfl (lv_at hl 0 rfl) ?_
  refine gM_mo_fault hx hb hts hnX9 hown hK hP hw0 dX9_readLine_89 ?_
  refine lv_if_ne (tgt := 108) hx hb dX9_readLine_92 (by decide) (fun c9 => ?_) (fun c9 => ?_)
  · have h := ie_use c9 h
    exact kX9_readLine_p108 dC dI cB cI cJ cZ a C0 n m_letters m_words m_wMany m_wLetters m_asks m_aWords m_dLetters m_dWords m_dMany m_dText m_dAsks m_dAsk m_tape m_taped v3 v4 v5 v6 v7 v8 m_manyA m_rowA m_manyB m_rowB m_places m_xs m_ys m_heights m_ridges m_rx m_rHeight m_lanes m_sizes m_cells m_left m_calls m_cDay m_cHour m_cFrom m_cAsk m_cWord m_cOf m_isLie m_children m_learned m_group x1  z_m_dLetters z_m_dWords z_m_dMany z_m_dText z_m_dAsks z_m_dAsk z_m_pos z_m_from z_m_sort z_m_value z_m_fault z_m_wrongAt  _ _ ls h hP hD hS (lv_sub hl [0, 1] rfl)
  · have h := it_use c9 h
    refine lv_iload_n hx hb dX9_readLine_95 rfl (lv_at hl 1 rfl) ?_
    refine lv_iconst (v := 3) hx hb dX9_readLine_96 (by decide) ?_
    refine lv_icmp_gt (tgt := 108) hx hb dX9_readLine_97 (by decide) (fun c10 => ?_) (fun c10 => ?_)
    · have h := it_use c10 h
      exact kX9_readLine_p108 dC dI cB cI cJ cZ a C0 n m_letters m_words m_wMany m_wLetters m_asks m_aWords m_dLetters m_dWords m_dMany m_dText m_dAsks m_dAsk m_tape m_taped v3 v4 v5 v6 v7 v8 m_manyA m_rowA m_manyB m_rowB m_places m_xs m_ys m_heights m_ridges m_rx m_rHeight m_lanes m_sizes m_cells m_left m_calls m_cDay m_cHour m_cFrom m_cAsk m_cWord m_cOf m_isLie m_children m_learned m_group x1  z_m_dLetters z_m_dWords z_m_dMany z_m_dText z_m_dAsks z_m_dAsk z_m_pos z_m_from z_m_sort z_m_value z_m_fault z_m_wrongAt  _ _ ls h hP hD hS (lv_sub hl [0, 1] rfl)
    · have h := ie_use c10 h
      refine lv_aload_n hx hb dX9_readLine_100 rfl (lv_at hl 0 rfl) ?_
      refine lv_iload_n hx hb dX9_readLine_101 rfl (lv_at hl 1 rfl) ?_
      obtain ⟨f11, v12, v13, v14, v15, v16, v17, hc, h⟩ := bd7_use h
      refine cv_v (As := [.int x1]) (rest := []) ⟨hx, hb, hml, hown, hts⟩ (kX9_readLetter l n dC dI cB cI cJ cZ a _ m_letters m_words m_wMany m_wLetters m_asks m_aWords m_dLetters m_dWords m_dMany m_dText m_dAsks m_dAsk m_tape m_taped v3 v4 v5 v6 v7 v8 m_manyA m_rowA m_manyB m_rowB m_places m_xs m_ys m_heights m_ridges m_rx m_rHeight m_lanes m_sizes m_cells m_left m_calls m_cDay m_cHour m_cFrom m_cAsk m_cWord m_cOf m_isLie m_children m_learned m_group x1 f11 v12 v13 v14 v15 v16 v17 hc) (cwV 1 hts gX9_readLine_X9_readLetter rfl rfl rfl (by decide +kernel) ⟨Nat.le_of_ble_eq_true rfl, Nat.le_of_ble_eq_true rfl⟩) EB_0 hE hK hP hD hS hA 0 (ci := 8) rfl rfl rfl rfl hl.1 rfl (Nat.le_of_ble_eq_true rfl) dX9_readLine_102 ⟨Nat.zero_le _, Nat.zero_le _⟩ (fun H locs hP hD hS => ?_)
      refine lv_goto (tgt := 138) hx hb dX9_readLine_105 (by decide) ?_
      exact kX9_readLine_p138 dC dI cB cI cJ cZ a C0 n m_letters m_words m_wMany m_wLetters m_asks m_aWords f11 m_dWords m_dMany m_dText m_dAsks m_dAsk m_tape m_taped v12 v13 v14 v15 v16 v17 m_manyA m_rowA m_manyB m_rowB m_places m_xs m_ys m_heights m_ridges m_rx m_rHeight m_lanes m_sizes m_cells m_left m_calls m_cDay m_cHour m_cFrom m_cAsk m_cWord m_cOf m_isLie m_children m_learned m_group   z_m_dLetters z_m_dWords z_m_dMany z_m_dText z_m_dAsks z_m_dAsk z_m_pos z_m_from z_m_sort z_m_value z_m_fault z_m_wrongAt  _ _ ls h hP hD hS (lv_sub hl [0] rfl)
set_option maxHeartbeats 4000000 in
set_option maxRecDepth 100000 in
theorem kX9_readLine_p54 {p : Program} {l : Launch} {e : Env} {s : State} {m : MethodId} {args : Array Value} {below : List Frame} {meth : Method} {c : Code} {A : Nat → Prop} (dC : Nat → ClassId) (dI : Nat → Nat → Nat) (cB cI cJ cZ : ClassId) (a : Nat → Nat) (C0 : cxt cX9_readLine none 2 RX9 wsX9_readLine (dC, dI) (tyz cB cI cJ cZ) E_0 A p s m args meth c) (n : Nat) (m_letters : Nat → Int32) (m_words : Int32) (m_wMany : Nat → Int32) (m_wLetters : Nat → Int32) (m_asks : Int32) (m_aWords : Nat → Int32) (m_dLetters : Nat → Int32) (m_dWords : Int32) (m_dMany : Nat → Int32) (m_dText : Nat → Int32) (m_dAsks : Int32) (m_dAsk : Nat → Int32) (m_tape : Nat → Int32) (m_taped : Int32) (m_pos : Int32) (m_from : Int32) (m_sort : Int32) (m_value : Int32) (m_fault : Int32) (m_wrongAt : Int32) (m_manyA : Int32) (m_rowA : Nat → Int32) (m_manyB : Int32) (m_rowB : Nat → Int32) (m_places : Int32) (m_xs : Nat → Int32) (m_ys : Nat → Int32) (m_heights : Nat → Int32) (m_ridges : Int32) (m_rx : Nat → Int32) (m_rHeight : Nat → Int32) (m_lanes : Nat → Int32) (m_sizes : Nat → Int32) (m_cells : Nat → Int32) (m_left : Nat → Int32) (m_calls : Int32) (m_cDay : Nat → Int32) (m_cHour : Nat → Int32) (m_cFrom : Nat → Int32) (m_cAsk : Nat → Int32) (m_cWord : Nat → Int32) (m_cOf : Nat → Int32) (m_isLie : Nat → Int32) (m_children : Int32) (m_learned : Nat → Int32) (m_group : Nat → Int32)  (x1 : Int32) (s1 : Int32) (z_m_dLetters : Nat → Int32) (z_m_dWords : Int32) (z_m_dMany : Nat → Int32) (z_m_dText : Nat → Int32) (z_m_dAsks : Int32) (z_m_dAsk : Nat → Int32) (z_m_pos : Int32) (z_m_from : Int32) (z_m_sort : Int32) (z_m_value : Int32) (z_m_fault : Int32) (z_m_wrongAt : Int32)  (H : Heap) (locs : List Loc) (ls : Array Slot) : fX9_readLine_p54 n m_dLetters m_dWords m_dMany m_dText m_dAsks m_dAsk m_tape m_taped m_pos m_from m_sort m_value m_fault m_wrongAt x1 s1 = some (z_m_dLetters, z_m_dWords, z_m_dMany, z_m_dText, z_m_dAsks, z_m_dAsk, z_m_pos, z_m_from, z_m_sort, z_m_value, z_m_fault, z_m_wrongAt) → va_P (dC, dI) vwCl (wM cB cI cJ cZ a m_letters m_words m_wMany m_wLetters m_asks m_aWords m_dLetters m_dWords m_dMany m_dText m_dAsks m_dAsk m_tape m_taped m_pos m_from m_sort m_value m_fault m_wrongAt m_manyA m_rowA m_manyB m_rowB m_places m_xs m_ys m_heights m_ridges m_rx m_rHeight m_lanes m_sizes m_cells m_left m_calls m_cDay m_cHour m_cFrom m_cAsk m_cWord m_cOf m_isLie m_children m_learned m_group) H → va_D A (wM cB cI cJ cZ a m_letters m_words m_wMany m_wLetters m_asks m_aWords m_dLetters m_dWords m_dMany m_dText m_dAsks m_dAsk m_tape m_taped m_pos m_from m_sort m_value m_fault m_wrongAt m_manyA m_rowA m_manyB m_rowB m_places m_xs m_ys m_heights m_ridges m_rx m_rHeight m_lanes m_sizes m_cells m_left m_calls m_cDay m_cHour m_cFrom m_cAsk m_cWord m_cOf m_isLie m_children m_learned m_group) → va_S A s.heap H locs → lv_has ls 2 [(0, .ref (a 0)), (1, .int x1)] → W p l e { frames := 3, cells := 0, slots := 0, locals := 69 } s m args below meth c H locs 0 0 (MQ below (gV (dC, dI) (tyz cB cI cJ cZ) (wM cB cI cJ cZ a m_letters m_words m_wMany m_wLetters m_asks m_aWords z_m_dLetters z_m_dWords z_m_dMany z_m_dText z_m_dAsks z_m_dAsk m_tape m_taped z_m_pos z_m_from z_m_sort z_m_value z_m_fault z_m_wrongAt m_manyA m_rowA m_manyB m_rowB m_places m_xs m_ys m_heights m_ridges m_rx m_rHeight m_lanes m_sizes m_cells m_left m_calls m_cDay m_cHour m_cFrom m_cAsk m_cWord m_cOf m_isLie m_children m_learned m_group) A) args s 0 0 A) (F0 m 54 ls [.int s1, .ref (a 0)]) := by
  intro h hP hD hS hl
  obtain ⟨hx, hb, hr, hml, hown, hts, hlocks, hK, hA, hE⟩ := id C0
  have hw0 := hts (.fieldLink RX9 160 "WhistledWordsModel" "dAsks" "I") (by decide +kernel)
  have hnX9 : ∀ w ∈ u_ws RX9 TX9 46, w ∈ wsX9_readLine := fun _ h => List.mem_cons_of_mem _ (List.mem_append_right _ h)
  unfold fX9_readLine_p54 at h
  refine lv_bipush (v := 6) hx hb dX9_readLine_54 (by decide) ?_
  obtain ⟨v1, v2, hc, h⟩ := bd2_use h
  refine cv_v (As := [.int s1, .int (6 : Int32)]) (rest := []) ⟨hx, hb, hml, hown, hts⟩ (kX9_wants l n dC dI cB cI cJ cZ a _ m_letters m_words m_wMany m_wLetters m_asks m_aWords m_dLetters m_dWords m_dMany m_dText m_dAsks m_dAsk m_tape m_taped m_pos m_from m_sort m_value m_fault m_wrongAt m_manyA m_rowA m_manyB m_rowB m_places m_xs m_ys m_heights m_ridges m_rx m_rHeight m_lanes m_sizes m_cells m_left m_calls m_cDay m_cHour m_cFrom m_cAsk m_cWord m_cOf m_isLie m_children m_learned m_group s1 (6 : Int32) v1 v2 hc) (cwV 2 hts gX9_readLine_X9_wants rfl rfl rfl (by decide +kernel) ⟨Nat.le_of_ble_eq_true rfl, Nat.le_of_ble_eq_true rfl⟩) EB_0 hE hK hP hD hS hA 0 (ci := 8) rfl rfl rfl rfl hl.1 rfl (Nat.le_of_ble_eq_true rfl) dX9_readLine_56 ⟨Nat.zero_le _, Nat.zero_le _⟩ (fun H locs hP hD hS => ?_)
  refine lv_aload_n hx hb dX9_readLine_59 rfl (lv_at hl 0 rfl) ?_
  refine lv_iload_n hx hb dX9_readLine_60 rfl (lv_at hl 1 rfl) ?_
  refine lv_iconst (v := 5) hx hb dX9_readLine_61 (by decide) ?_
  refine lv_icmp_ne (tgt := 74) hx hb dX9_readLine_62 (by decide) (fun c3 => ?_) (fun c3 => ?_)
  · have h := ie_use c3 h
    refine lv_iconst (v := 1) hx hb dX9_readLine_74 (by decide) ?_
    refine lv_goto (tgt := 79) hx hb dX9_readLine_75 (by decide) ?_
    exact kX9_readLine_p79 dC dI cB cI cJ cZ a C0 n m_letters m_words m_wMany m_wLetters m_asks m_aWords m_dLetters m_dWords m_dMany m_dText m_dAsks m_dAsk m_tape m_taped m_pos m_from m_sort m_value v1 v2 m_manyA m_rowA m_manyB m_rowB m_places m_xs m_ys m_heights m_ridges m_rx m_rHeight m_lanes m_sizes m_cells m_left m_calls m_cDay m_cHour m_cFrom m_cAsk m_cWord m_cOf m_isLie m_children m_learned m_group x1 (1 : Int32) z_m_dLetters z_m_dWords z_m_dMany z_m_dText z_m_dAsks z_m_dAsk z_m_pos z_m_from z_m_sort z_m_value z_m_fault z_m_wrongAt  _ _ ls h hP hD hS (lv_sub hl [0, 1] rfl)
  · have h := it_use c3 h
    refine lv_aload_n hx hb dX9_readLine_65 rfl (lv_at hl 0 rfl) ?_
    refine gM_mo_dAsks hx hb hts hnX9 hown hK hP hw0 dX9_readLine_66 ?_
    refine lv_bipush (v := 6) hx hb dX9_readLine_69 (by decide) ?_
    refine lv_icmp_ge (tgt := 78) hx hb dX9_readLine_71 (by decide) (fun c4 => ?_) (fun c4 => ?_)
    · have h := it_use c4 h
      refine lv_iconst (v := 0) hx hb dX9_readLine_78 (by decide) ?_
      exact kX9_readLine_p79 dC dI cB cI cJ cZ a C0 n m_letters m_words m_wMany m_wLetters m_asks m_aWords m_dLetters m_dWords m_dMany m_dText m_dAsks m_dAsk m_tape m_taped m_pos m_from m_sort m_value v1 v2 m_manyA m_rowA m_manyB m_rowB m_places m_xs m_ys m_heights m_ridges m_rx m_rHeight m_lanes m_sizes m_cells m_left m_calls m_cDay m_cHour m_cFrom m_cAsk m_cWord m_cOf m_isLie m_children m_learned m_group x1 (0 : Int32) z_m_dLetters z_m_dWords z_m_dMany z_m_dText z_m_dAsks z_m_dAsk z_m_pos z_m_from z_m_sort z_m_value z_m_fault z_m_wrongAt  _ _ ls h hP hD hS (lv_sub hl [0, 1] rfl)
    · have h := ie_use c4 h
      refine lv_iconst (v := 1) hx hb dX9_readLine_74 (by decide) ?_
      refine lv_goto (tgt := 79) hx hb dX9_readLine_75 (by decide) ?_
      exact kX9_readLine_p79 dC dI cB cI cJ cZ a C0 n m_letters m_words m_wMany m_wLetters m_asks m_aWords m_dLetters m_dWords m_dMany m_dText m_dAsks m_dAsk m_tape m_taped m_pos m_from m_sort m_value v1 v2 m_manyA m_rowA m_manyB m_rowB m_places m_xs m_ys m_heights m_ridges m_rx m_rHeight m_lanes m_sizes m_cells m_left m_calls m_cDay m_cHour m_cFrom m_cAsk m_cWord m_cOf m_isLie m_children m_learned m_group x1 (1 : Int32) z_m_dLetters z_m_dWords z_m_dMany z_m_dText z_m_dAsks z_m_dAsk z_m_pos z_m_from z_m_sort z_m_value z_m_fault z_m_wrongAt  _ _ ls h hP hD hS (lv_sub hl [0, 1] rfl)
set_option maxHeartbeats 4000000 in
set_option maxRecDepth 100000 in
theorem kX9_readLine_p30 {p : Program} {l : Launch} {e : Env} {s : State} {m : MethodId} {args : Array Value} {below : List Frame} {meth : Method} {c : Code} {A : Nat → Prop} (dC : Nat → ClassId) (dI : Nat → Nat → Nat) (cB cI cJ cZ : ClassId) (a : Nat → Nat) (C0 : cxt cX9_readLine none 2 RX9 wsX9_readLine (dC, dI) (tyz cB cI cJ cZ) E_0 A p s m args meth c) (n : Nat) (m_letters : Nat → Int32) (m_words : Int32) (m_wMany : Nat → Int32) (m_wLetters : Nat → Int32) (m_asks : Int32) (m_aWords : Nat → Int32) (m_dLetters : Nat → Int32) (m_dWords : Int32) (m_dMany : Nat → Int32) (m_dText : Nat → Int32) (m_dAsks : Int32) (m_dAsk : Nat → Int32) (m_tape : Nat → Int32) (m_taped : Int32) (m_pos : Int32) (m_from : Int32) (m_sort : Int32) (m_value : Int32) (m_fault : Int32) (m_wrongAt : Int32) (m_manyA : Int32) (m_rowA : Nat → Int32) (m_manyB : Int32) (m_rowB : Nat → Int32) (m_places : Int32) (m_xs : Nat → Int32) (m_ys : Nat → Int32) (m_heights : Nat → Int32) (m_ridges : Int32) (m_rx : Nat → Int32) (m_rHeight : Nat → Int32) (m_lanes : Nat → Int32) (m_sizes : Nat → Int32) (m_cells : Nat → Int32) (m_left : Nat → Int32) (m_calls : Int32) (m_cDay : Nat → Int32) (m_cHour : Nat → Int32) (m_cFrom : Nat → Int32) (m_cAsk : Nat → Int32) (m_cWord : Nat → Int32) (m_cOf : Nat → Int32) (m_isLie : Nat → Int32) (m_children : Int32) (m_learned : Nat → Int32) (m_group : Nat → Int32)  (x1 : Int32) (s1 : Int32) (z_m_dLetters : Nat → Int32) (z_m_dWords : Int32) (z_m_dMany : Nat → Int32) (z_m_dText : Nat → Int32) (z_m_dAsks : Int32) (z_m_dAsk : Nat → Int32) (z_m_pos : Int32) (z_m_from : Int32) (z_m_sort : Int32) (z_m_value : Int32) (z_m_fault : Int32) (z_m_wrongAt : Int32)  (H : Heap) (locs : List Loc) (ls : Array Slot) : fX9_readLine_p30 n m_dLetters m_dWords m_dMany m_dText m_dAsks m_dAsk m_tape m_taped m_pos m_from m_sort m_value m_fault m_wrongAt x1 s1 = some (z_m_dLetters, z_m_dWords, z_m_dMany, z_m_dText, z_m_dAsks, z_m_dAsk, z_m_pos, z_m_from, z_m_sort, z_m_value, z_m_fault, z_m_wrongAt) → va_P (dC, dI) vwCl (wM cB cI cJ cZ a m_letters m_words m_wMany m_wLetters m_asks m_aWords m_dLetters m_dWords m_dMany m_dText m_dAsks m_dAsk m_tape m_taped m_pos m_from m_sort m_value m_fault m_wrongAt m_manyA m_rowA m_manyB m_rowB m_places m_xs m_ys m_heights m_ridges m_rx m_rHeight m_lanes m_sizes m_cells m_left m_calls m_cDay m_cHour m_cFrom m_cAsk m_cWord m_cOf m_isLie m_children m_learned m_group) H → va_D A (wM cB cI cJ cZ a m_letters m_words m_wMany m_wLetters m_asks m_aWords m_dLetters m_dWords m_dMany m_dText m_dAsks m_dAsk m_tape m_taped m_pos m_from m_sort m_value m_fault m_wrongAt m_manyA m_rowA m_manyB m_rowB m_places m_xs m_ys m_heights m_ridges m_rx m_rHeight m_lanes m_sizes m_cells m_left m_calls m_cDay m_cHour m_cFrom m_cAsk m_cWord m_cOf m_isLie m_children m_learned m_group) → va_S A s.heap H locs → lv_has ls 2 [(0, .ref (a 0)), (1, .int x1)] → W p l e { frames := 3, cells := 0, slots := 0, locals := 69 } s m args below meth c H locs 0 0 (MQ below (gV (dC, dI) (tyz cB cI cJ cZ) (wM cB cI cJ cZ a m_letters m_words m_wMany m_wLetters m_asks m_aWords z_m_dLetters z_m_dWords z_m_dMany z_m_dText z_m_dAsks z_m_dAsk m_tape m_taped z_m_pos z_m_from z_m_sort z_m_value z_m_fault z_m_wrongAt m_manyA m_rowA m_manyB m_rowB m_places m_xs m_ys m_heights m_ridges m_rx m_rHeight m_lanes m_sizes m_cells m_left m_calls m_cDay m_cHour m_cFrom m_cAsk m_cWord m_cOf m_isLie m_children m_learned m_group) A) args s 0 0 A) (F0 m 30 ls [.int s1, .ref (a 0)]) := by
  intro h hP hD hS hl
  obtain ⟨hx, hb, hr, hml, hown, hts, hlocks, hK, hA, hE⟩ := id C0
  have hw0 := hts (.fieldLink RX9 153 "WhistledWordsModel" "dWords" "I") (by decide +kernel)
  have hnX9 : ∀ w ∈ u_ws RX9 TX9 46, w ∈ wsX9_readLine := fun _ h => List.mem_cons_of_mem _ (List.mem_append_right _ h)
  unfold fX9_readLine_p30 at h
  refine lv_iconst (v := 2) hx hb dX9_readLine_30 (by decide) ?_
  obtain ⟨v1, v2, hc, h⟩ := bd2_use h
  refine cv_v (As := [.int s1, .int (2 : Int32)]) (rest := []) ⟨hx, hb, hml, hown, hts⟩ (kX9_wants l n dC dI cB cI cJ cZ a _ m_letters m_words m_wMany m_wLetters m_asks m_aWords m_dLetters m_dWords m_dMany m_dText m_dAsks m_dAsk m_tape m_taped m_pos m_from m_sort m_value m_fault m_wrongAt m_manyA m_rowA m_manyB m_rowB m_places m_xs m_ys m_heights m_ridges m_rx m_rHeight m_lanes m_sizes m_cells m_left m_calls m_cDay m_cHour m_cFrom m_cAsk m_cWord m_cOf m_isLie m_children m_learned m_group s1 (2 : Int32) v1 v2 hc) (cwV 2 hts gX9_readLine_X9_wants rfl rfl rfl (by decide +kernel) ⟨Nat.le_of_ble_eq_true rfl, Nat.le_of_ble_eq_true rfl⟩) EB_0 hE hK hP hD hS hA 0 (ci := 8) rfl rfl rfl rfl hl.1 rfl (Nat.le_of_ble_eq_true rfl) dX9_readLine_31 ⟨Nat.zero_le _, Nat.zero_le _⟩ (fun H locs hP hD hS => ?_)
  refine lv_aload_n hx hb dX9_readLine_34 rfl (lv_at hl 0 rfl) ?_
  refine lv_iload_n hx hb dX9_readLine_35 rfl (lv_at hl 1 rfl) ?_
  refine lv_iconst (v := 4) hx hb dX9_readLine_36 (by decide) ?_
  refine lv_icmp_ne (tgt := 49) hx hb dX9_readLine_37 (by decide) (fun c3 => ?_) (fun c3 => ?_)
  · have h := ie_use c3 h
    refine lv_iconst (v := 1) hx hb dX9_readLine_49 (by decide) ?_
    refine lv_goto (tgt := 54) hx hb dX9_readLine_50 (by decide) ?_
    exact kX9_readLine_p54 dC dI cB cI cJ cZ a C0 n m_letters m_words m_wMany m_wLetters m_asks m_aWords m_dLetters m_dWords m_dMany m_dText m_dAsks m_dAsk m_tape m_taped m_pos m_from m_sort m_value v1 v2 m_manyA m_rowA m_manyB m_rowB m_places m_xs m_ys m_heights m_ridges m_rx m_rHeight m_lanes m_sizes m_cells m_left m_calls m_cDay m_cHour m_cFrom m_cAsk m_cWord m_cOf m_isLie m_children m_learned m_group x1 (1 : Int32) z_m_dLetters z_m_dWords z_m_dMany z_m_dText z_m_dAsks z_m_dAsk z_m_pos z_m_from z_m_sort z_m_value z_m_fault z_m_wrongAt  _ _ ls h hP hD hS (lv_sub hl [0, 1] rfl)
  · have h := it_use c3 h
    refine lv_aload_n hx hb dX9_readLine_40 rfl (lv_at hl 0 rfl) ?_
    refine gM_mo_dWords hx hb hts hnX9 hown hK hP hw0 dX9_readLine_41 ?_
    refine lv_bipush (v := 16) hx hb dX9_readLine_44 (by decide) ?_
    refine lv_icmp_ge (tgt := 53) hx hb dX9_readLine_46 (by decide) (fun c4 => ?_) (fun c4 => ?_)
    · have h := it_use c4 h
      refine lv_iconst (v := 0) hx hb dX9_readLine_53 (by decide) ?_
      exact kX9_readLine_p54 dC dI cB cI cJ cZ a C0 n m_letters m_words m_wMany m_wLetters m_asks m_aWords m_dLetters m_dWords m_dMany m_dText m_dAsks m_dAsk m_tape m_taped m_pos m_from m_sort m_value v1 v2 m_manyA m_rowA m_manyB m_rowB m_places m_xs m_ys m_heights m_ridges m_rx m_rHeight m_lanes m_sizes m_cells m_left m_calls m_cDay m_cHour m_cFrom m_cAsk m_cWord m_cOf m_isLie m_children m_learned m_group x1 (0 : Int32) z_m_dLetters z_m_dWords z_m_dMany z_m_dText z_m_dAsks z_m_dAsk z_m_pos z_m_from z_m_sort z_m_value z_m_fault z_m_wrongAt  _ _ ls h hP hD hS (lv_sub hl [0, 1] rfl)
    · have h := ie_use c4 h
      refine lv_iconst (v := 1) hx hb dX9_readLine_49 (by decide) ?_
      refine lv_goto (tgt := 54) hx hb dX9_readLine_50 (by decide) ?_
      exact kX9_readLine_p54 dC dI cB cI cJ cZ a C0 n m_letters m_words m_wMany m_wLetters m_asks m_aWords m_dLetters m_dWords m_dMany m_dText m_dAsks m_dAsk m_tape m_taped m_pos m_from m_sort m_value v1 v2 m_manyA m_rowA m_manyB m_rowB m_places m_xs m_ys m_heights m_ridges m_rx m_rHeight m_lanes m_sizes m_cells m_left m_calls m_cDay m_cHour m_cFrom m_cAsk m_cWord m_cOf m_isLie m_children m_learned m_group x1 (1 : Int32) z_m_dLetters z_m_dWords z_m_dMany z_m_dText z_m_dAsks z_m_dAsk z_m_pos z_m_from z_m_sort z_m_value z_m_fault z_m_wrongAt  _ _ ls h hP hD hS (lv_sub hl [0, 1] rfl)
set_option maxHeartbeats 4000000 in
set_option maxRecDepth 100000 in
theorem kX9_readLine (l : Launch) (n : Nat) (dC : Nat → ClassId) (dI : Nat → Nat → Nat) (cB cI cJ cZ : ClassId) (a : Nat → Nat) (sz : Nat) (m_letters : Nat → Int32) (m_words : Int32) (m_wMany : Nat → Int32) (m_wLetters : Nat → Int32) (m_asks : Int32) (m_aWords : Nat → Int32) (m_dLetters : Nat → Int32) (m_dWords : Int32) (m_dMany : Nat → Int32) (m_dText : Nat → Int32) (m_dAsks : Int32) (m_dAsk : Nat → Int32) (m_tape : Nat → Int32) (m_taped : Int32) (m_pos : Int32) (m_from : Int32) (m_sort : Int32) (m_value : Int32) (m_fault : Int32) (m_wrongAt : Int32) (m_manyA : Int32) (m_rowA : Nat → Int32) (m_manyB : Int32) (m_rowB : Nat → Int32) (m_places : Int32) (m_xs : Nat → Int32) (m_ys : Nat → Int32) (m_heights : Nat → Int32) (m_ridges : Int32) (m_rx : Nat → Int32) (m_rHeight : Nat → Int32) (m_lanes : Nat → Int32) (m_sizes : Nat → Int32) (m_cells : Nat → Int32) (m_left : Nat → Int32) (m_calls : Int32) (m_cDay : Nat → Int32) (m_cHour : Nat → Int32) (m_cFrom : Nat → Int32) (m_cAsk : Nat → Int32) (m_cWord : Nat → Int32) (m_cOf : Nat → Int32) (m_isLie : Nat → Int32) (m_children : Int32) (m_learned : Nat → Int32) (m_group : Nat → Int32)  (z_m_dLetters : Nat → Int32) (z_m_dWords : Int32) (z_m_dMany : Nat → Int32) (z_m_dText : Nat → Int32) (z_m_dAsks : Int32) (z_m_dAsk : Nat → Int32) (z_m_pos : Int32) (z_m_from : Int32) (z_m_sort : Int32) (z_m_value : Int32) (z_m_fault : Int32) (z_m_wrongAt : Int32) (h : fX9_readLine n m_dLetters m_dWords m_dMany m_dText m_dAsks m_dAsk m_tape m_taped m_pos m_from m_sort m_value m_fault m_wrongAt = some (z_m_dLetters, z_m_dWords, z_m_dMany, z_m_dText, z_m_dAsks, z_m_dAsk, z_m_pos, z_m_from, z_m_sort, z_m_value, z_m_fault, z_m_wrongAt)) : Met l yX9_readLine wsX9_readLine ({ frames := 3, cells := 0, slots := 0, locals := 69 }) (gP (dC, dI) (tyz cB cI cJ cZ) E_0 (wM cB cI cJ cZ a m_letters m_words m_wMany m_wLetters m_asks m_aWords m_dLetters m_dWords m_dMany m_dText m_dAsks m_dAsk m_tape m_taped m_pos m_from m_sort m_value m_fault m_wrongAt m_manyA m_rowA m_manyB m_rowB m_places m_xs m_ys m_heights m_ridges m_rx m_rHeight m_lanes m_sizes m_cells m_left m_calls m_cDay m_cHour m_cFrom m_cAsk m_cWord m_cOf m_isLie m_children m_learned m_group) sz [.ref (a 0)]) (gV (dC, dI) (tyz cB cI cJ cZ) (wM cB cI cJ cZ a m_letters m_words m_wMany m_wLetters m_asks m_aWords z_m_dLetters z_m_dWords z_m_dMany z_m_dText z_m_dAsks z_m_dAsk m_tape m_taped z_m_pos z_m_from z_m_sort z_m_value z_m_fault z_m_wrongAt m_manyA m_rowA m_manyB m_rowB m_places m_xs m_ys m_heights m_ridges m_rx m_rHeight m_lanes m_sizes m_cells m_left m_calls m_cDay m_cHour m_cFrom m_cAsk m_cWord m_cOf m_isLie m_children m_learned m_group) (va_A (wM cB cI cJ cZ a m_letters m_words m_wMany m_wLetters m_asks m_aWords m_dLetters m_dWords m_dMany m_dText m_dAsks m_dAsk m_tape m_taped m_pos m_from m_sort m_value m_fault m_wrongAt m_manyA m_rowA m_manyB m_rowB m_places m_xs m_ys m_heights m_ridges m_rx m_rHeight m_lanes m_sizes m_cells m_left m_calls m_cDay m_cHour m_cFrom m_cAsk m_cWord m_cOf m_isLie m_children m_learned m_group) sz)) 0 0 (va_A (wM cB cI cJ cZ a m_letters m_words m_wMany m_wLetters m_asks m_aWords m_dLetters m_dWords m_dMany m_dText m_dAsks m_dAsk m_tape m_taped m_pos m_from m_sort m_value m_fault m_wrongAt m_manyA m_rowA m_manyB m_rowB m_places m_xs m_ys m_heights m_ridges m_rx m_rHeight m_lanes m_sizes m_cells m_left m_calls m_cDay m_cHour m_cFrom m_cAsk m_cWord m_cOf m_isLie m_children m_learned m_group) sz) := by
  refine Met.ofW (cc := cX9_readLine) (maxL := 2) (ret := none) (by decide) rfl ?_
  intro p e s m args below meth c s₁ B hml hv
  obtain ⟨rfl, hsz, hP, hK, hD0, hE⟩ := hv
  have hx := B.exec
  have hb := B.bytes
  have hr := B.returns
  have hts := atoms_spec (ws := wsX9_readLine) B.pre
  have hown : s.vm.findClass RX9 = some m.cls := findClass_of_methodNamed B.named
  have hlocks := B.notSynchronized
  subst hsz
  have hD := hD0.self (sz := s.heap.size)
  have hA : ∀ q : Nat, s.heap.size ≤ q → va_A (wM cB cI cJ cZ a m_letters m_words m_wMany m_wLetters m_asks m_aWords m_dLetters m_dWords m_dMany m_dText m_dAsks m_dAsk m_tape m_taped m_pos m_from m_sort m_value m_fault m_wrongAt m_manyA m_rowA m_manyB m_rowB m_places m_xs m_ys m_heights m_ridges m_rx m_rHeight m_lanes m_sizes m_cells m_left m_calls m_cDay m_cHour m_cFrom m_cAsk m_cWord m_cOf m_isLie m_children m_learned m_group) s.heap.size q := fun q h => Or.inr h
  generalize va_A (wM cB cI cJ cZ a m_letters m_words m_wMany m_wLetters m_asks m_aWords m_dLetters m_dWords m_dMany m_dText m_dAsks m_dAsk m_tape m_taped m_pos m_from m_sort m_value m_fault m_wrongAt m_manyA m_rowA m_manyB m_rowB m_places m_xs m_ys m_heights m_ridges m_rx m_rHeight m_lanes m_sizes m_cells m_left m_calls m_cDay m_cHour m_cFrom m_cAsk m_cWord m_cOf m_isLie m_children m_learned m_group) s.heap.size = A at hD hA hE ⊢
  have hS : va_S A s.heap s.heap [] := va_S.rf
  have C0 : cxt cX9_readLine none 2 RX9 wsX9_readLine (dC, dI) (tyz cB cI cJ cZ) E_0 A p s m ([.ref (a 0)] : List Value).toArray meth c := ⟨hx, hb, hr, hml, hown, hts, hlocks, hK, hA, hE⟩
  have hl := lv_entry ([.ref (a 0)]) (n := 2) (Nat.le_of_ble_eq_true rfl)
  rw [lg_entry_eq]
  generalize (lg_sl ([.ref (a 0)]) ++ List.replicate (2 - (lg_sl ([.ref (a 0)])).length) Slot.unset).toArray = ls at hl ⊢
  have hl : lv_has ls 2 [(0, .ref (a 0))] := hl
  have hw0 := hts (.fieldLink RX9 124 "WhistledWordsModel" "sort" "I") (by decide +kernel)
  have hnX9 : ∀ w ∈ u_ws RX9 TX9 46, w ∈ wsX9_readLine := fun _ h => List.mem_cons_of_mem _ (List.mem_append_right _ h)
  unfold fX9_readLine at h
  refine lv_aload_n hx hb dX9_readLine_0 rfl (lv_at hl 0 rfl) ?_
  refine gM_mo_sort hx hb hts hnX9 hown hK hP hw0 dX9_readLine_1 ?_
  refine lv_iconst (v := 1) hx hb dX9_readLine_4 (by decide) ?_
  refine lv_icmp_ne (tgt := 15) hx hb dX9_readLine_5 (by decide) (fun c1 => ?_) (fun c1 => ?_)
  · have h := ie_use c1 h
    refine lv_bipush (v := -4) hx hb dX9_readLine_15 (by decide) ?_
    refine lv_istore_n (lv' := [(1, .int (-4 : Int32)), (0, .ref (a 0))]) hx hb dX9_readLine_17 rfl hl (by decide) rfl (fun ls hl => ?_)
    refine lv_aload_n hx hb dX9_readLine_18 rfl (lv_at hl 1 rfl) ?_
    refine lv_iload_n hx hb dX9_readLine_19 rfl (lv_at hl 0 rfl) ?_
    refine lv_bipush (v := -4) hx hb dX9_readLine_20 (by decide) ?_
    refine lv_icmp_eq (tgt := 29) hx hb dX9_readLine_22 (by decide) (fun c2 => ?_) (fun c2 => ?_)
    · have h := it_use c2 h
      refine lv_iconst (v := 0) hx hb dX9_readLine_29 (by decide) ?_
      exact kX9_readLine_p30 dC dI cB cI cJ cZ a C0 n m_letters m_words m_wMany m_wLetters m_asks m_aWords m_dLetters m_dWords m_dMany m_dText m_dAsks m_dAsk m_tape m_taped m_pos m_from m_sort m_value m_fault m_wrongAt m_manyA m_rowA m_manyB m_rowB m_places m_xs m_ys m_heights m_ridges m_rx m_rHeight m_lanes m_sizes m_cells m_left m_calls m_cDay m_cHour m_cFrom m_cAsk m_cWord m_cOf m_isLie m_children m_learned m_group (-4 : Int32) (0 : Int32) z_m_dLetters z_m_dWords z_m_dMany z_m_dText z_m_dAsks z_m_dAsk z_m_pos z_m_from z_m_sort z_m_value z_m_fault z_m_wrongAt  _ _ ls h hP hD hS (lv_sub hl [1, 0] rfl)
    · have h := ie_use c2 h
      refine lv_iconst (v := 1) hx hb dX9_readLine_25 (by decide) ?_
      refine lv_goto (tgt := 30) hx hb dX9_readLine_26 (by decide) ?_
      exact kX9_readLine_p30 dC dI cB cI cJ cZ a C0 n m_letters m_words m_wMany m_wLetters m_asks m_aWords m_dLetters m_dWords m_dMany m_dText m_dAsks m_dAsk m_tape m_taped m_pos m_from m_sort m_value m_fault m_wrongAt m_manyA m_rowA m_manyB m_rowB m_places m_xs m_ys m_heights m_ridges m_rx m_rHeight m_lanes m_sizes m_cells m_left m_calls m_cDay m_cHour m_cFrom m_cAsk m_cWord m_cOf m_isLie m_children m_learned m_group (-4 : Int32) (1 : Int32) z_m_dLetters z_m_dWords z_m_dMany z_m_dText z_m_dAsks z_m_dAsk z_m_pos z_m_from z_m_sort z_m_value z_m_fault z_m_wrongAt  _ _ ls h hP hD hS (lv_sub hl [1, 0] rfl)
  · have h := it_use c1 h
    refine lv_aload_n hx hb dX9_readLine_8 rfl (lv_at hl 0 rfl) ?_
    obtain ⟨v3, hc, h⟩ := bd1_use h
    refine cv_i (As := []) (rest := []) ⟨hx, hb, hml, hown, hts⟩ (kX9_lineNow l n dC dI cB cI cJ cZ a _ m_letters m_words m_wMany m_wLetters m_asks m_aWords m_dLetters m_dWords m_dMany m_dText m_dAsks m_dAsk m_tape m_taped m_pos m_from m_sort m_value m_fault m_wrongAt m_manyA m_rowA m_manyB m_rowB m_places m_xs m_ys m_heights m_ridges m_rx m_rHeight m_lanes m_sizes m_cells m_left m_calls m_cDay m_cHour m_cFrom m_cAsk m_cWord m_cOf m_isLie m_children m_learned m_group  v3 hc) (cwV 0 hts gX9_readLine_X9_lineNow rfl rfl rfl (by decide +kernel) ⟨Nat.le_of_ble_eq_true rfl, Nat.le_of_ble_eq_true rfl⟩) EB_0 hE hK hP hD hS hA 0 (ci := 8) rfl rfl rfl rfl hl.1 rfl (Nat.le_of_ble_eq_true rfl) dX9_readLine_9 ⟨Nat.zero_le _, Nat.zero_le _⟩ (fun H locs hP hD hS => ?_)
    refine lv_goto (tgt := 17) hx hb dX9_readLine_12 (by decide) ?_
    refine lv_istore_n (lv' := [(1, .int v3), (0, .ref (a 0))]) hx hb dX9_readLine_17 rfl hl (by decide) rfl (fun ls hl => ?_)
    refine lv_aload_n hx hb dX9_readLine_18 rfl (lv_at hl 1 rfl) ?_
    refine lv_iload_n hx hb dX9_readLine_19 rfl (lv_at hl 0 rfl) ?_
    refine lv_bipush (v := -4) hx hb dX9_readLine_20 (by decide) ?_
    refine lv_icmp_eq (tgt := 29) hx hb dX9_readLine_22 (by decide) (fun c4 => ?_) (fun c4 => ?_)
    · have h := it_use c4 h
      refine lv_iconst (v := 0) hx hb dX9_readLine_29 (by decide) ?_
      exact kX9_readLine_p30 dC dI cB cI cJ cZ a C0 n m_letters m_words m_wMany m_wLetters m_asks m_aWords m_dLetters m_dWords m_dMany m_dText m_dAsks m_dAsk m_tape m_taped m_pos m_from m_sort m_value m_fault m_wrongAt m_manyA m_rowA m_manyB m_rowB m_places m_xs m_ys m_heights m_ridges m_rx m_rHeight m_lanes m_sizes m_cells m_left m_calls m_cDay m_cHour m_cFrom m_cAsk m_cWord m_cOf m_isLie m_children m_learned m_group v3 (0 : Int32) z_m_dLetters z_m_dWords z_m_dMany z_m_dText z_m_dAsks z_m_dAsk z_m_pos z_m_from z_m_sort z_m_value z_m_fault z_m_wrongAt  _ _ ls h hP hD hS (lv_sub hl [1, 0] rfl)
    · have h := ie_use c4 h
      refine lv_iconst (v := 1) hx hb dX9_readLine_25 (by decide) ?_
      refine lv_goto (tgt := 30) hx hb dX9_readLine_26 (by decide) ?_
      exact kX9_readLine_p30 dC dI cB cI cJ cZ a C0 n m_letters m_words m_wMany m_wLetters m_asks m_aWords m_dLetters m_dWords m_dMany m_dText m_dAsks m_dAsk m_tape m_taped m_pos m_from m_sort m_value m_fault m_wrongAt m_manyA m_rowA m_manyB m_rowB m_places m_xs m_ys m_heights m_ridges m_rx m_rHeight m_lanes m_sizes m_cells m_left m_calls m_cDay m_cHour m_cFrom m_cAsk m_cWord m_cOf m_isLie m_children m_learned m_group v3 (1 : Int32) z_m_dLetters z_m_dWords z_m_dMany z_m_dText z_m_dAsks z_m_dAsk z_m_pos z_m_from z_m_sort z_m_value z_m_fault z_m_wrongAt  _ _ ls h hP hD hS (lv_sub hl [1, 0] rfl)

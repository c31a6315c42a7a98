set_option maxHeartbeats 4000000 in
set_option maxRecDepth 100000 in
theorem kX9_lie (l : Launch) (n : Nat) (dC : Nat → ClassId) (dI : Nat → Nat → Nat) (cB cI cJ cZ : ClassId) (a : Nat → Nat) (sz : Nat) (m_letters : Nat → Int32) (m_words : Int32) (m_wMany : Nat → Int32) (m_wLetters : Nat → Int32) (m_asks : Int32) (m_aWords : Nat → Int32) (m_dLetters : Nat → Int32) (m_dWords : Int32) (m_dMany : Nat → Int32) (m_dText : Nat → Int32) (m_dAsks : Int32) (m_dAsk : Nat → Int32) (m_tape : Nat → Int32) (m_taped : Int32) (m_pos : Int32) (m_from : Int32) (m_sort : Int32) (m_value : Int32) (m_fault : Int32) (m_wrongAt : Int32) (m_manyA : Int32) (m_rowA : Nat → Int32) (m_manyB : Int32) (m_rowB : Nat → Int32) (m_places : Int32) (m_xs : Nat → Int32) (m_ys : Nat → Int32) (m_heights : Nat → Int32) (m_ridges : Int32) (m_rx : Nat → Int32) (m_rHeight : Nat → Int32) (m_lanes : Nat → Int32) (m_sizes : Nat → Int32) (m_cells : Nat → Int32) (m_left : Nat → Int32) (m_calls : Int32) (m_cDay : Nat → Int32) (m_cHour : Nat → Int32) (m_cFrom : Nat → Int32) (m_cAsk : Nat → Int32) (m_cWord : Nat → Int32) (m_cOf : Nat → Int32) (m_isLie : Nat → Int32) (m_children : Int32) (m_learned : Nat → Int32) (m_group : Nat → Int32) (x1 : Int32) (x2 : Int32) (r0 : Int32) (z_m_isLie : Nat → Int32) (h : fX9_lie n m_calls m_cOf m_isLie x1 x2 = some (r0, z_m_isLie)) : Met l yX9_lie wsX9_lie ({ frames := 2, cells := 0, slots := 0, locals := 46 }) (gP (dC, dI) (tyz cB cI cJ cZ) E_0 (wM cB cI cJ cZ a m_letters m_words m_wMany m_wLetters m_asks m_aWords m_dLetters m_dWords m_dMany m_dText m_dAsks m_dAsk m_tape m_taped m_pos m_from m_sort m_value m_fault m_wrongAt m_manyA m_rowA m_manyB m_rowB m_places m_xs m_ys m_heights m_ridges m_rx m_rHeight m_lanes m_sizes m_cells m_left m_calls m_cDay m_cHour m_cFrom m_cAsk m_cWord m_cOf m_isLie m_children m_learned m_group) sz [.ref (a 0), .int x1, .int x2]) (gI (dC, dI) (tyz cB cI cJ cZ) (wM cB cI cJ cZ a m_letters m_words m_wMany m_wLetters m_asks m_aWords m_dLetters m_dWords m_dMany m_dText m_dAsks m_dAsk m_tape m_taped m_pos m_from m_sort m_value m_fault m_wrongAt m_manyA m_rowA m_manyB m_rowB m_places m_xs m_ys m_heights m_ridges m_rx m_rHeight m_lanes m_sizes m_cells m_left m_calls m_cDay m_cHour m_cFrom m_cAsk m_cWord m_cOf z_m_isLie m_children m_learned m_group) (va_A (wM cB cI cJ cZ a m_letters m_words m_wMany m_wLetters m_asks m_aWords m_dLetters m_dWords m_dMany m_dText m_dAsks m_dAsk m_tape m_taped m_pos m_from m_sort m_value m_fault m_wrongAt m_manyA m_rowA m_manyB m_rowB m_places m_xs m_ys m_heights m_ridges m_rx m_rHeight m_lanes m_sizes m_cells m_left m_calls m_cDay m_cHour m_cFrom m_cAsk m_cWord m_cOf m_isLie m_children m_learned m_group) sz) r0) 0 0 (va_A (wM cB cI cJ cZ a m_letters m_words m_wMany m_wLetters m_asks m_aWords m_dLetters m_dWords m_dMany m_dText m_dAsks m_dAsk m_tape m_taped m_pos m_from m_sort m_value m_fault m_wrongAt m_manyA m_rowA m_manyB m_rowB m_places m_xs m_ys m_heights m_ridges m_rx m_rHeight m_lanes m_sizes m_cells m_left m_calls m_cDay m_cHour m_cFrom m_cAsk m_cWord m_cOf m_isLie m_children m_learned m_group) sz) := by
  refine Met.ofW (cc := cX9_lie) (maxL := 4) (ret := (some .int)) (by decide) rfl ?_
  intro p e s m args below meth c s₁ B hml hv
  obtain ⟨rfl, hsz, hP, hK, hD0, hE⟩ := hv
  have hx := B.exec
  have hb := B.bytes
  have hr := B.returns
  have hts := atoms_spec (ws := wsX9_lie) B.pre
  have hown : s.vm.findClass RX9 = some m.cls := findClass_of_methodNamed B.named
  have hlocks := B.notSynchronized
  subst hsz
  have hD := hD0.self (sz := s.heap.size)
  have hA : ∀ q : Nat, s.heap.size ≤ q → va_A (wM cB cI cJ cZ a m_letters m_words m_wMany m_wLetters m_asks m_aWords m_dLetters m_dWords m_dMany m_dText m_dAsks m_dAsk m_tape m_taped m_pos m_from m_sort m_value m_fault m_wrongAt m_manyA m_rowA m_manyB m_rowB m_places m_xs m_ys m_heights m_ridges m_rx m_rHeight m_lanes m_sizes m_cells m_left m_calls m_cDay m_cHour m_cFrom m_cAsk m_cWord m_cOf m_isLie m_children m_learned m_group) s.heap.size q := fun q h => Or.inr h
  generalize va_A (wM cB cI cJ cZ a m_letters m_words m_wMany m_wLetters m_asks m_aWords m_dLetters m_dWords m_dMany m_dText m_dAsks m_dAsk m_tape m_taped m_pos m_from m_sort m_value m_fault m_wrongAt m_manyA m_rowA m_manyB m_rowB m_places m_xs m_ys m_heights m_ridges m_rx m_rHeight m_lanes m_sizes m_cells m_left m_calls m_cDay m_cHour m_cFrom m_cAsk m_cWord m_cOf m_isLie m_children m_learned m_group) s.heap.size = A at hD hA hE ⊢
  have hS : va_S A s.heap s.heap [] := va_S.rf
  have C0 : cxt cX9_lie (some .int) 4 RX9 wsX9_lie (dC, dI) (tyz cB cI cJ cZ) E_0 A p s m ([.ref (a 0), .int x1, .int x2] : List Value).toArray meth c := ⟨hx, hb, hr, hml, hown, hts, hlocks, hK, hA, hE⟩
  have hl := lv_entry ([.ref (a 0), .int x1, .int x2]) (n := 4) (Nat.le_of_ble_eq_true rfl)
  rw [lg_entry_eq]
  generalize (lg_sl ([.ref (a 0), .int x1, .int x2]) ++ List.replicate (4 - (lg_sl ([.ref (a 0), .int x1, .int x2])).length) Slot.unset).toArray = ls at hl ⊢
  have hl : lv_has ls 4 [(0, .ref (a 0)), (1, .int x1), (2, .int x2)] := hl
  have hw0 := hts (.fieldLink RX9 85 "WhistledWordsModel" "cOf" "[I") (by decide +kernel)
  have hw1 := hts (.fieldLink RX9 88 "WhistledWordsModel" "isLie" "[Z") (by decide +kernel)
  have hnX9 : ∀ w ∈ u_ws RX9 TX9 46, w ∈ wsX9_lie := fun _ h => List.mem_cons_of_mem _ (List.mem_append_right _ h)
  unfold fX9_lie at h
  refine lv_aload_n hx hb dX9_lie_0 rfl (lv_at hl 0 rfl) ?_
  refine lv_iload_n hx hb dX9_lie_1 rfl (lv_at hl 1 rfl) ?_
  obtain ⟨v1, hc, h⟩ := bd1_use h
  refine cv_i (As := [.int x1]) (rest := []) ⟨hx, hb, hml, hown, hts⟩ (kX9_isCall l n dC dI cB cI cJ cZ a _ m_letters m_words m_wMany m_wLetters m_asks m_aWords m_dLetters m_dWords m_dMany m_dText m_dAsks m_dAsk m_tape m_taped m_pos m_from m_sort m_value m_fault m_wrongAt m_manyA m_rowA m_manyB m_rowB m_places m_xs m_ys m_heights m_ridges m_rx m_rHeight m_lanes m_sizes m_cells m_left m_calls m_cDay m_cHour m_cFrom m_cAsk m_cWord m_cOf m_isLie m_children m_learned m_group x1 v1 hc) (cwV 1 hts gX9_lie_X9_isCall rfl rfl rfl (by decide +kernel) ⟨Nat.le_of_ble_eq_true rfl, Nat.le_of_ble_eq_true rfl⟩) EB_0 hE hK hP hD hS hA 0 (ci := 8) rfl rfl rfl rfl hl.1 rfl (Nat.le_of_ble_eq_true rfl) dX9_lie_2 ⟨Nat.zero_le _, Nat.zero_le _⟩ (fun H locs hP hD hS => ?_)
  refine lv_if_ne (tgt := 10) hx hb dX9_lie_5 (by decide) (fun c2 => ?_) (fun c2 => ?_)
  · have h := ie_use c2 h
    refine lv_aload_n hx hb dX9_lie_10 rfl (lv_at hl 0 rfl) ?_
    refine gM_mo_cOf hx hb hts hnX9 hown hK hP hw0 dX9_lie_11 ?_
    refine lv_iload_n hx hb dX9_lie_14 rfl (lv_at hl 1 rfl) ?_
    obtain ⟨hiv3, h⟩ := ar_use h
    refine lM_mo_cOf hx hb hK hP hiv3 dX9_lie_15 ?_
    refine lv_topi (fun v3 ev3 => ?_)
    have h := h v3 ev3
    refine lv_bipush (v := -4) hx hb dX9_lie_16 (by decide) ?_
    refine lv_icmp_eq (tgt := 24) hx hb dX9_lie_18 (by decide) (fun c4 => ?_) (fun c4 => ?_)
    · have h := it_use c4 h
      refine lv_aload_n hx hb dX9_lie_24 rfl (lv_at hl 0 rfl) ?_
      refine gM_mo_isLie hx hb hts hnX9 hown hK hP hw1 dX9_lie_25 ?_
      refine lv_iload_n hx hb dX9_lie_28 rfl (lv_at hl 1 rfl) ?_
      obtain ⟨hiv5, h⟩ := ar_use h
      refine lM_mo_isLie hx hb hK hP hiv5 dX9_lie_29 ?_
      refine lv_topi (fun v5 ev5 => ?_)
      have h := h v5 ev5
      refine lv_if_eq (tgt := 37) hx hb dX9_lie_30 (by decide) (fun c6 => ?_) (fun c6 => ?_)
      · have h := it_use c6 h
        refine lv_iconst (v := 0) hx hb dX9_lie_37 (by decide) ?_
        refine lv_istore_n (lv' := [(3, .int (0 : Int32)), (0, .ref (a 0)), (1, .int x1), (2, .int x2)]) hx hb dX9_lie_38 rfl hl (by decide) rfl (fun ls hl => ?_)
        refine lv_aload_n hx hb dX9_lie_39 rfl (lv_at hl 1 rfl) ?_
        refine gM_mo_isLie hx hb hts hnX9 hown hK hP hw1 dX9_lie_40 ?_
        refine lv_iload_n hx hb dX9_lie_43 rfl (lv_at hl 2 rfl) ?_
        refine lv_iload_n hx hb dX9_lie_44 rfl (lv_at hl 3 rfl) ?_
        obtain ⟨hif7, f7, ef7, h⟩ := aw_use h
        refine sM_mo_isLie hx hb hK hP hD hS hif7 ef7 dX9_lie_45 (fun H locs hP hD hS => ?_)
        refine lv_iload_n hx hb dX9_lie_46 rfl (lv_at hl 0 rfl) ?_
        obtain ⟨er, ez0⟩ := rt2_use h
        subst ez0
        exact re_i hx hb hr hlocks hK hP hD hS er dX9_lie_47
      · have h := ie_use c6 h
        refine lv_iconst (v := 1) hx hb dX9_lie_33 (by decide) ?_
        refine lv_goto (tgt := 38) hx hb dX9_lie_34 (by decide) ?_
        refine lv_istore_n (lv' := [(3, .int (1 : Int32)), (0, .ref (a 0)), (1, .int x1), (2, .int x2)]) hx hb dX9_lie_38 rfl hl (by decide) rfl (fun ls hl => ?_)
        refine lv_aload_n hx hb dX9_lie_39 rfl (lv_at hl 1 rfl) ?_
        refine gM_mo_isLie hx hb hts hnX9 hown hK hP hw1 dX9_lie_40 ?_
        refine lv_iload_n hx hb dX9_lie_43 rfl (lv_at hl 2 rfl) ?_
        refine lv_iload_n hx hb dX9_lie_44 rfl (lv_at hl 3 rfl) ?_
        obtain ⟨hif8, f8, ef8, h⟩ := aw_use h
        refine sM_mo_isLie hx hb hK hP hD hS hif8 ef8 dX9_lie_45 (fun H locs hP hD hS => ?_)
        refine lv_iload_n hx hb dX9_lie_46 rfl (lv_at hl 0 rfl) ?_
        obtain ⟨er, ez0⟩ := rt2_use h
        subst ez0
        exact re_i hx hb hr hlocks hK hP hD hS er dX9_lie_47
    · have h := ie_use c4 h
      refine lv_bipush (v := -2) hx hb dX9_lie_21 (by decide) ?_
      obtain ⟨er, ez0⟩ := rt2_use h
      subst ez0
      exact re_i hx hb hr hlocks hK hP hD hS er dX9_lie_23
  · have h := it_use c2 h
    refine lv_iconst (v := -1) hx hb dX9_lie_8 (by decide) ?_
    obtain ⟨er, ez0⟩ := rt2_use h
    subst ez0
    exact re_i hx hb hr hlocks hK hP hD hS er dX9_lie_9
set_option maxHeartbeats 4000000 in
set_option maxRecDepth 100000 in
theorem kX9_upTo_p2_r {p : Program} {l : Launch} {e : Env} {s : State} {m : MethodId} {args : Array Value} {below : List Frame} {meth : Method} {c : Code} {A : Nat → Prop} (dC : Nat → ClassId) (dI : Nat → Nat → Nat) (cB cI cJ cZ : ClassId) (a : Nat → Nat) (C0 : cxt cX9_upTo (some .int) 4 RX9 wsX9_upTo (dC, dI) (tyz cB cI cJ cZ) E_0 A p s m args meth c) (n : Nat) (m_letters : Nat → Int32) (m_words : Int32) (m_wMany : Nat → Int32) (m_wLetters : Nat → Int32) (m_asks : Int32) (m_aWords : Nat → Int32) (m_dLetters : Nat → Int32) (m_dWords : Int32) (m_dMany : Nat → Int32) (m_dText : Nat → Int32) (m_dAsks : Int32) (m_dAsk : Nat → Int32) (m_tape : Nat → Int32) (m_taped : Int32) (m_pos : Int32) (m_from : Int32) (m_sort : Int32) (m_value : Int32) (m_fault : Int32) (m_wrongAt : Int32) (m_manyA : Int32) (m_rowA : Nat → Int32) (m_manyB : Int32) (m_rowB : Nat → Int32) (m_places : Int32) (m_xs : Nat → Int32) (m_ys : Nat → Int32) (m_heights : Nat → Int32) (m_ridges : Int32) (m_rx : Nat → Int32) (m_rHeight : Nat → Int32) (m_lanes : Nat → Int32) (m_sizes : Nat → Int32) (m_cells : Nat → Int32) (m_left : Nat → Int32) (m_calls : Int32) (m_cDay : Nat → Int32) (m_cHour : Nat → Int32) (m_cFrom : Nat → Int32) (m_cAsk : Nat → Int32) (m_cWord : Nat → Int32) (m_cOf : Nat → Int32) (m_isLie : Nat → Int32) (m_children : Int32) (m_learned : Nat → Int32) (m_group : Nat → Int32) (x1 : Int32) (x2 : Int32) (r0 : Int32)  : ∀ (k : Nat) (x3 : Int32) (H : Heap) (locs : List Loc) (ls : Array Slot), fX9_upTo_p2 n m_calls m_cDay m_cHour x1 x2 k x3 = some r0 → va_P (dC, dI) vwCl (wM cB cI cJ cZ a m_letters m_words m_wMany m_wLetters m_asks m_aWords m_dLetters m_dWords m_dMany m_dText m_dAsks m_dAsk m_tape m_taped m_pos m_from m_sort m_value m_fault m_wrongAt m_manyA m_rowA m_manyB m_rowB m_places m_xs m_ys m_heights m_ridges m_rx m_rHeight m_lanes m_sizes m_cells m_left m_calls m_cDay m_cHour m_cFrom m_cAsk m_cWord m_cOf m_isLie m_children m_learned m_group) H → va_D A (wM cB cI cJ cZ a m_letters m_words m_wMany m_wLetters m_asks m_aWords m_dLetters m_dWords m_dMany m_dText m_dAsks m_dAsk m_tape m_taped m_pos m_from m_sort m_value m_fault m_wrongAt m_manyA m_rowA m_manyB m_rowB m_places m_xs m_ys m_heights m_ridges m_rx m_rHeight m_lanes m_sizes m_cells m_left m_calls m_cDay m_cHour m_cFrom m_cAsk m_cWord m_cOf m_isLie m_children m_learned m_group) → va_S A s.heap H locs → lv_has ls 4 [(0, .ref (a 0)), (1, .int x1), (2, .int x2), (3, .int x3)] → W p l e { frames := 0, cells := 0, slots := 0, locals := 0 } s m args below meth c H locs 0 0 (MQ below (gI (dC, dI) (tyz cB cI cJ cZ) (wM cB cI cJ cZ a m_letters m_words m_wMany m_wLetters m_asks m_aWords m_dLetters m_dWords m_dMany m_dText m_dAsks m_dAsk m_tape m_taped m_pos m_from m_sort m_value m_fault m_wrongAt m_manyA m_rowA m_manyB m_rowB m_places m_xs m_ys m_heights m_ridges m_rx m_rHeight m_lanes m_sizes m_cells m_left m_calls m_cDay m_cHour m_cFrom m_cAsk m_cWord m_cOf m_isLie m_children m_learned m_group) A r0) args s 0 0 A) (F0 m 2 ls []) := by
  obtain ⟨hx, hb, hr, hml, hown, hts, hlocks, hK, hA, hE⟩ := id C0
  have hw0 := hts (.fieldLink RX9 177 "WhistledWordsModel" "calls" "I") (by decide +kernel)
  have hw1 := hts (.fieldLink RX9 70 "WhistledWordsModel" "cDay" "[I") (by decide +kernel)
  have hw2 := hts (.fieldLink RX9 73 "WhistledWordsModel" "cHour" "[I") (by decide +kernel)
  have hnX9 : ∀ w ∈ u_ws RX9 TX9 46, w ∈ wsX9_upTo := fun _ h => List.mem_cons_of_mem _ (List.mem_append_right _ h)
  intro k
  induction k with
  | zero =>
    intro x3 H locs ls h
    cases h
  | succ k ih =>
    intro x3 H locs ls h hP hD hS hl
    rw [fX9_upTo_p2] at h
    refine lv_iload_n hx hb dX9_upTo_2 rfl (lv_at hl 3 rfl) ?_
    refine lv_aload_n hx hb dX9_upTo_3 rfl (lv_at hl 0 rfl) ?_
    refine gM_mo_calls hx hb hts hnX9 hown hK hP hw0 dX9_upTo_4 ?_
    refine lv_icmp_ge (tgt := 41) hx hb dX9_upTo_7 (by decide) (fun c1 => ?_) (fun c1 => ?_)
    · have h := it_use c1 h
      refine lv_iload_n hx hb dX9_upTo_41 rfl (lv_at hl 3 rfl) ?_
      obtain er := rt1_use h
      exact re_i hx hb hr hlocks hK hP hD hS er dX9_upTo_42
    · have h := ie_use c1 h
      refine lv_bipush (v := 24) hx hb dX9_upTo_10 (by decide) ?_
      refine lv_aload_n hx hb dX9_upTo_12 rfl (lv_at hl 0 rfl) ?_
      refine gM_mo_cDay hx hb hts hnX9 hown hK hP hw1 dX9_upTo_13 ?_
      refine lv_iload_n hx hb dX9_upTo_16 rfl (lv_at hl 3 rfl) ?_
      obtain ⟨hiv2, h⟩ := ar_use h
      refine lM_mo_cDay hx hb hK hP hiv2 dX9_upTo_17 ?_
      refine lv_topi (fun v2 ev2 => ?_)
      have h := h v2 ev2
      refine lv_imul hx hb dX9_upTo_18 ?_
      refine lv_aload_n hx hb dX9_upTo_19 rfl (lv_at hl 0 rfl) ?_
      refine gM_mo_cHour hx hb hts hnX9 hown hK hP hw2 dX9_upTo_20 ?_
      refine lv_iload_n hx hb dX9_upTo_23 rfl (lv_at hl 3 rfl) ?_
      obtain ⟨hiv3, h⟩ := ar_use h
      refine lM_mo_cHour hx hb hK hP hiv3 dX9_upTo_24 ?_
      refine lv_topi (fun v3 ev3 => ?_)
      have h := h v3 ev3
      refine lv_iadd hx hb dX9_upTo_25 ?_
      refine lv_bipush (v := 24) hx hb dX9_upTo_26 (by decide) ?_
      refine lv_iload_n hx hb dX9_upTo_28 rfl (lv_at hl 1 rfl) ?_
      refine lv_imul hx hb dX9_upTo_29 ?_
      refine lv_iload_n hx hb dX9_upTo_30 rfl (lv_at hl 2 rfl) ?_
      refine lv_iadd hx hb dX9_upTo_31 ?_
      refine lv_icmp_gt (tgt := 41) hx hb dX9_upTo_32 (by decide) (fun c4 => ?_) (fun c4 => ?_)
      · have h := it_use c4 h
        refine lv_iload_n hx hb dX9_upTo_41 rfl (lv_at hl 3 rfl) ?_
        obtain er := rt1_use h
        exact re_i hx hb hr hlocks hK hP hD hS er dX9_upTo_42
      · have h := ie_use c4 h
        refine lv_iinc (v := x3 + 1) (lv' := [(3, .int (x3 + 1)), (0, .ref (a 0)), (1, .int x1), (2, .int x2)]) hx hb dX9_upTo_35 hl (k := 3) rfl rfl (by decide) rfl (fun ls hl => ?_)
        refine lv_goto (tgt := 2) hx hb dX9_upTo_38 (by decide) ?_
        exact ih (x3 + 1) _ _ ls h hP hD hS (lv_sub hl [1, 2, 3, 0] rfl)
theorem kX9_upTo_p2 {p : Program} {l : Launch} {e : Env} {s : State} {m : MethodId} {args : Array Value} {below : List Frame} {meth : Method} {c : Code} {A : Nat → Prop} (dC : Nat → ClassId) (dI : Nat → Nat → Nat) (cB cI cJ cZ : ClassId) (a : Nat → Nat) (C0 : cxt cX9_upTo (some .int) 4 RX9 wsX9_upTo (dC, dI) (tyz cB cI cJ cZ) E_0 A p s m args meth c) (n : Nat) (m_letters : Nat → Int32) (m_words : Int32) (m_wMany : Nat → Int32) (m_wLetters : Nat → Int32) (m_asks : Int32) (m_aWords : Nat → Int32) (m_dLetters : Nat → Int32) (m_dWords : Int32) (m_dMany : Nat → Int32) (m_dText : Nat → Int32) (m_dAsks : Int32) (m_dAsk : Nat → Int32) (m_tape : Nat → Int32) (m_taped : Int32) (m_pos : Int32) (m_from : Int32) (m_sort : Int32) (m_value : Int32) (m_fault : Int32) (m_wrongAt : Int32) (m_manyA : Int32) (m_rowA : Nat → Int32) (m_manyB : Int32) (m_rowB : Nat → Int32) (m_places : Int32) (m_xs : Nat → Int32) (m_ys : Nat → Int32) (m_heights : Nat → Int32) (m_ridges : Int32) (m_rx : Nat → Int32) (m_rHeight : Nat → Int32) (m_lanes : Nat → Int32) (m_sizes : Nat → Int32) (m_cells : Nat → Int32) (m_left : Nat → Int32) (m_calls : Int32) (m_cDay : Nat → Int32) (m_cHour : Nat → Int32) (m_cFrom : Nat → Int32) (m_cAsk : Nat → Int32) (m_cWord : Nat → Int32) (m_cOf : Nat → Int32) (m_isLie : Nat → Int32) (m_children : Int32) (m_learned : Nat → Int32) (m_group : Nat → Int32)  (x1 : Int32) (x2 : Int32) (x3 : Int32) (r0 : Int32)  (k : Nat) (H : Heap) (locs : List Loc) (ls : Array Slot) : fX9_upTo_p2 n m_calls m_cDay m_cHour x1 x2 k x3 = some r0 → va_P (dC, dI) vwCl (wM cB cI cJ cZ a m_letters m_words m_wMany m_wLetters m_asks m_aWords m_dLetters m_dWords m_dMany m_dText m_dAsks m_dAsk m_tape m_taped m_pos m_from m_sort m_value m_fault m_wrongAt m_manyA m_rowA m_manyB m_rowB m_places m_xs m_ys m_heights m_ridges m_rx m_rHeight m_lanes m_sizes m_cells m_left m_calls m_cDay m_cHour m_cFrom m_cAsk m_cWord m_cOf m_isLie m_children m_learned m_group) H → va_D A (wM cB cI cJ cZ a m_letters m_words m_wMany m_wLetters m_asks m_aWords m_dLetters m_dWords m_dMany m_dText m_dAsks m_dAsk m_tape m_taped m_pos m_from m_sort m_value m_fault m_wrongAt m_manyA m_rowA m_manyB m_rowB m_places m_xs m_ys m_heights m_ridges m_rx m_rHeight m_lanes m_sizes m_cells m_left m_calls m_cDay m_cHour m_cFrom m_cAsk m_cWord m_cOf m_isLie m_children m_learned m_group) → va_S A s.heap H locs → lv_has ls 4 [(0, .ref (a 0)), (1, .int x1), (2, .int x2), (3, .int x3)] → W p l e { frames := 0, cells := 0, slots := 0, locals := 0 } s m args below meth c H locs 0 0 (MQ below (gI (dC, dI) (tyz cB cI cJ cZ) (wM cB cI cJ cZ a m_letters m_words m_wMany m_wLetters m_asks m_aWords m_dLetters m_dWords m_dMany m_dText m_dAsks m_dAsk m_tape m_taped m_pos m_from m_sort m_value m_fault m_wrongAt m_manyA m_rowA m_manyB m_rowB m_places m_xs m_ys m_heights m_ridges m_rx m_rHeight m_lanes m_sizes m_cells m_left m_calls m_cDay m_cHour m_cFrom m_cAsk m_cWord m_cOf m_isLie m_children m_learned m_group) A r0) args s 0 0 A) (F0 m 2 ls []) :=
  kX9_upTo_p2_r dC dI cB cI cJ cZ a C0 n m_letters m_words m_wMany m_wLetters m_asks m_aWords m_dLetters m_dWords m_dMany m_dText m_dAsks m_dAsk m_tape m_taped m_pos m_from m_sort m_value m_fault m_wrongAt m_manyA m_rowA m_manyB m_rowB m_places m_xs m_ys m_heights m_ridges m_rx m_rHeight m_lanes m_sizes m_cells m_left m_calls m_cDay m_cHour m_cFrom m_cAsk m_cWord m_cOf m_isLie m_children m_learned m_group x1 x2 r0  k x3 H locs ls
set_option maxHeartbeats 4000000 in
set_option maxRecDepth 100000 in
theorem kX9_upTo (l : Launch) (n : Nat) (dC : Nat → ClassId) (dI : Nat → Nat → Nat) (cB cI cJ cZ : ClassId) (a : Nat → Nat) (sz : Nat) (m_letters : Nat → Int32) (m_words : Int32) (m_wMany : Nat → Int32) (m_wLetters : Nat → Int32) (m_asks : Int32) (m_aWords : Nat → Int32) (m_dLetters : Nat → Int32) (m_dWords : Int32) (m_dMany : Nat → Int32) (m_dText : Nat → Int32) (m_dAsks : Int32) (m_dAsk : Nat → Int32) (m_tape : Nat → Int32) (m_taped : Int32) (m_pos : Int32) (m_from : Int32) (m_sort : Int32) (m_value : Int32) (m_fault : Int32) (m_wrongAt : Int32) (m_manyA : Int32) (m_rowA : Nat → Int32) (m_manyB : Int32) (m_rowB : Nat → Int32) (m_places : Int32) (m_xs : Nat → Int32) (m_ys : Nat → Int32) (m_heights : Nat → Int32) (m_ridges : Int32) (m_rx : Nat → Int32) (m_rHeight : Nat → Int32) (m_lanes : Nat → Int32) (m_sizes : Nat → Int32) (m_cells : Nat → Int32) (m_left : Nat → Int32) (m_calls : Int32) (m_cDay : Nat → Int32) (m_cHour : Nat → Int32) (m_cFrom : Nat → Int32) (m_cAsk : Nat → Int32) (m_cWord : Nat → Int32) (m_cOf : Nat → Int32) (m_isLie : Nat → Int32) (m_children : Int32) (m_learned : Nat → Int32) (m_group : Nat → Int32) (x1 : Int32) (x2 : Int32) (r0 : Int32) (h : fX9_upTo n m_calls m_cDay m_cHour x1 x2 = some r0) : Met l yX9_upTo wsX9_upTo ({ frames := 0, cells := 0, slots := 0, locals := 0 }) (gP (dC, dI) (tyz cB cI cJ cZ) E_0 (wM cB cI cJ cZ a m_letters m_words m_wMany m_wLetters m_asks m_aWords m_dLetters m_dWords m_dMany m_dText m_dAsks m_dAsk m_tape m_taped m_pos m_from m_sort m_value m_fault m_wrongAt m_manyA m_rowA m_manyB m_rowB m_places m_xs m_ys m_heights m_ridges m_rx m_rHeight m_lanes m_sizes m_cells m_left m_calls m_cDay m_cHour m_cFrom m_cAsk m_cWord m_cOf m_isLie m_children m_learned m_group) sz [.ref (a 0), .int x1, .int x2]) (gI (dC, dI) (tyz cB cI cJ cZ) (wM cB cI cJ cZ a m_letters m_words m_wMany m_wLetters m_asks m_aWords m_dLetters m_dWords m_dMany m_dText m_dAsks m_dAsk m_tape m_taped m_pos m_from m_sort m_value m_fault m_wrongAt m_manyA m_rowA m_manyB m_rowB m_places m_xs m_ys m_heights m_ridges m_rx m_rHeight m_lanes m_sizes m_cells m_left m_calls m_cDay m_cHour m_cFrom m_cAsk m_cWord m_cOf m_isLie m_children m_learned m_group) (va_A (wM cB cI cJ cZ a m_letters m_words m_wMany m_wLetters m_asks m_aWords m_dLetters m_dWords m_dMany m_dText m_dAsks m_dAsk m_tape m_taped m_pos m_from m_sort m_value m_fault m_wrongAt m_manyA m_rowA m_manyB m_rowB m_places m_xs m_ys m_heights m_ridges m_rx m_rHeight m_lanes m_sizes m_cells m_left m_calls m_cDay m_cHour m_cFrom m_cAsk m_cWord m_cOf m_isLie m_children m_learned m_group) sz) r0) 0 0 (va_A (wM cB cI cJ cZ a m_letters m_words m_wMany m_wLetters m_asks m_aWords m_dLetters m_dWords m_dMany m_dText m_dAsks m_dAsk m_tape m_taped m_pos m_from m_sort m_value m_fault m_wrongAt m_manyA m_rowA m_manyB m_rowB m_places m_xs m_ys m_heights m_ridges m_rx m_rHeight m_lanes m_sizes m_cells m_left m_calls m_cDay m_cHour m_cFrom m_cAsk m_cWord m_cOf m_isLie m_children m_learned m_group) sz) := by
  refine Met.ofW (cc := cX9_upTo) (maxL := 4) (ret := (some .int)) (by decide) rfl ?_
  intro p e s m args below meth c s₁ B hml hv
  obtain ⟨rfl, hsz, hP, hK, hD0, hE⟩ := hv
  have hx := B.exec
  have hb := B.bytes
  have hr := B.returns
  have hts := atoms_spec (ws := wsX9_upTo) B.pre
  have hown : s.vm.findClass RX9 = some m.cls := findClass_of_methodNamed B.named
  have hlocks := B.notSynchronized
  subst hsz
  have hD := hD0.self (sz := s.heap.size)
  have hA : ∀ q : Nat, s.heap.size ≤ q → va_A (wM cB cI cJ cZ a m_letters m_words m_wMany m_wLetters m_asks m_aWords m_dLetters m_dWords m_dMany m_dText m_dAsks m_dAsk m_tape m_taped m_pos m_from m_sort m_value m_fault m_wrongAt m_manyA m_rowA m_manyB m_rowB m_places m_xs m_ys m_heights m_ridges m_rx m_rHeight m_lanes m_sizes m_cells m_left m_calls m_cDay m_cHour m_cFrom m_cAsk m_cWord m_cOf m_isLie m_children m_learned m_group) s.heap.size q := fun q h => Or.inr h
  generalize va_A (wM cB cI cJ cZ a m_letters m_words m_wMany m_wLetters m_asks m_aWords m_dLetters m_dWords m_dMany m_dText m_dAsks m_dAsk m_tape m_taped m_pos m_from m_sort m_value m_fault m_wrongAt m_manyA m_rowA m_manyB m_rowB m_places m_xs m_ys m_heights m_ridges m_rx m_rHeight m_lanes m_sizes m_cells m_left m_calls m_cDay m_cHour m_cFrom m_cAsk m_cWord m_cOf m_isLie m_children m_learned m_group) s.heap.size = A at hD hA hE ⊢
  have hS : va_S A s.heap s.heap [] := va_S.rf
  have C0 : cxt cX9_upTo (some .int) 4 RX9 wsX9_upTo (dC, dI) (tyz cB cI cJ cZ) E_0 A p s m ([.ref (a 0), .int x1, .int x2] : List Value).toArray meth c := ⟨hx, hb, hr, hml, hown, hts, hlocks, hK, hA, hE⟩
  have hl := lv_entry ([.ref (a 0), .int x1, .int x2]) (n := 4) (Nat.le_of_ble_eq_true rfl)
  rw [lg_entry_eq]
  generalize (lg_sl ([.ref (a 0), .int x1, .int x2]) ++ List.replicate (4 - (lg_sl ([.ref (a 0), .int x1, .int x2])).length) Slot.unset).toArray = ls at hl ⊢
  have hl : lv_has ls 4 [(0, .ref (a 0)), (1, .int x1), (2, .int x2)] := hl
  unfold fX9_upTo at h
  refine lv_iconst (v := 0) hx hb dX9_upTo_0 (by decide) ?_
  refine lv_istore_n (lv' := [(3, .int (0 : Int32)), (0, .ref (a 0)), (1, .int x1), (2, .int x2)]) hx hb dX9_upTo_1 rfl hl (by decide) rfl (fun ls hl => ?_)
  exact kX9_upTo_p2 dC dI cB cI cJ cZ a C0 n m_letters m_words m_wMany m_wLetters m_asks m_aWords m_dLetters m_dWords m_dMany m_dText m_dAsks m_dAsk m_tape m_taped m_pos m_from m_sort m_value m_fault m_wrongAt m_manyA m_rowA m_manyB m_rowB m_places m_xs m_ys m_heights m_ridges m_rx m_rHeight m_lanes m_sizes m_cells m_left m_calls m_cDay m_cHour m_cFrom m_cAsk m_cWord m_cOf m_isLie m_children m_learned m_group x1 x2 (0 : Int32) r0  n _ _ ls h hP hD hS (lv_sub hl [1, 2, 3, 0] rfl)
set_option maxHeartbeats 4000000 in
set_option maxRecDepth 100000 in
theorem kX9_hasAll_p7_r {p : Program} {l : Launch} {e : Env} {s : State} {m : MethodId} {args : Array Value} {below : List Frame} {meth : Method} {c : Code} {A : Nat → Prop} (dC : Nat → ClassId) (dI : Nat → Nat → Nat) (cB cI cJ cZ : ClassId) (a : Nat → Nat) (C0 : cxt cX9_hasAll (some .int) 7 RX9 wsX9_hasAll (dC, dI) (tyz cB cI cJ cZ) E_0 A p s m args meth c) (n : Nat) (m_letters : Nat → Int32) (m_words : Int32) (m_wMany : Nat → Int32) (m_wLetters : Nat → Int32) (m_asks : Int32) (m_aWords : Nat → Int32) (m_dLetters : Nat → Int32) (m_dWords : Int32) (m_dMany : Nat → Int32) (m_dText : Nat → Int32) (m_dAsks : Int32) (m_dAsk : Nat → Int32) (m_tape : Nat → Int32) (m_taped : Int32) (m_pos : Int32) (m_from : Int32) (m_sort : Int32) (m_value : Int32) (m_fault : Int32) (m_wrongAt : Int32) (m_places : Int32) (m_xs : Nat → Int32) (m_ys : Nat → Int32) (m_heights : Nat → Int32) (m_ridges : Int32) (m_rx : Nat → Int32) (m_rHeight : Nat → Int32) (m_lanes : Nat → Int32) (m_sizes : Nat → Int32) (m_cells : Nat → Int32) (m_left : Nat → Int32) (m_calls : Int32) (m_cDay : Nat → Int32) (m_cHour : Nat → Int32) (m_cFrom : Nat → Int32) (m_cAsk : Nat → Int32) (m_cWord : Nat → Int32) (m_cOf : Nat → Int32) (m_isLie : Nat → Int32) (m_children : Int32) (m_learned : Nat → Int32) (m_group : Nat → Int32) (x1 : Int32) (x2 : Int32) (x3 : Int32) (r0 : Int32) (z_m_manyA : Int32) (z_m_rowA : Nat → Int32) (z_m_manyB : Int32) (z_m_rowB : Nat → Int32)  : ∀ (k : Nat) (m_manyA : Int32) (m_rowA : Nat → Int32) (m_manyB : Int32) (m_rowB : Nat → Int32) (x4 : Int32) (x5 : Int32) (H : Heap) (locs : List Loc) (ls : Array Slot), fX9_hasAll_p7 n m_letters m_words m_wMany m_wLetters m_aWords m_xs m_ys m_heights m_ridges m_rx m_rHeight m_lanes m_sizes m_cells m_cHour m_cFrom m_cAsk m_cWord m_cOf x1 x2 x3 k m_manyA m_rowA m_manyB m_rowB x4 x5 = some (r0, z_m_manyA, z_m_rowA, z_m_manyB, z_m_rowB) → va_P (dC, dI) vwCl (wM cB cI cJ cZ a m_letters m_words m_wMany m_wLetters m_asks m_aWords m_dLetters m_dWords m_dMany m_dText m_dAsks m_dAsk m_tape m_taped m_pos m_from m_sort m_value m_fault m_wrongAt m_manyA m_rowA m_manyB m_rowB m_places m_xs m_ys m_heights m_ridges m_rx m_rHeight m_lanes m_sizes m_cells m_left m_calls m_cDay m_cHour m_cFrom m_cAsk m_cWord m_cOf m_isLie m_children m_learned m_group) H → va_D A (wM cB cI cJ cZ a m_letters m_words m_wMany m_wLetters m_asks m_aWords m_dLetters m_dWords m_dMany m_dText m_dAsks m_dAsk m_tape m_taped m_pos m_from m_sort m_value m_fault m_wrongAt m_manyA m_rowA m_manyB m_rowB m_places m_xs m_ys m_heights m_ridges m_rx m_rHeight m_lanes m_sizes m_cells m_left m_calls m_cDay m_cHour m_cFrom m_cAsk m_cWord m_cOf m_isLie m_children m_learned m_group) → va_S A s.heap H locs → lv_has ls 7 [(0, .ref (a 0)), (1, .int x1), (2, .int x2), (3, .int x3), (4, .int x4), (5, .int x5)] → W p l e { frames := 5, cells := 0, slots := 0, locals := 119 } s m args below meth c H locs 0 0 (MQ below (gI (dC, dI) (tyz cB cI cJ cZ) (wM cB cI cJ cZ a m_letters m_words m_wMany m_wLetters m_asks m_aWords m_dLetters m_dWords m_dMany m_dText m_dAsks m_dAsk m_tape m_taped m_pos m_from m_sort m_value m_fault m_wrongAt z_m_manyA z_m_rowA z_m_manyB z_m_rowB m_places m_xs m_ys m_heights m_ridges m_rx m_rHeight m_lanes m_sizes m_cells m_left m_calls m_cDay m_cHour m_cFrom m_cAsk m_cWord m_cOf m_isLie m_children m_learned m_group) A r0) args s 0 0 A) (F0 m 7 ls []) := by
  obtain ⟨hx, hb, hr, hml, hown, hts, hlocks, hK, hA, hE⟩ := id C0
  intro k
  induction k with
  | zero =>
    intro m_manyA m_rowA m_manyB m_rowB x4 x5 H locs ls h
    cases h
  | succ k ih =>
    intro m_manyA m_rowA m_manyB m_rowB x4 x5 H locs ls h hP hD hS hl
    rw [fX9_hasAll_p7] at h
    refine lv_iload hx hb dX9_hasAll_7 (lv_at hl 5 rfl) ?_
    refine lv_iload_n hx hb dX9_hasAll_9 rfl (lv_at hl 3 rfl) ?_
    refine lv_icmp_ge (tgt := 69) hx hb dX9_hasAll_10 (by decide) (fun c1 => ?_) (fun c1 => ?_)
    · have h := it_use c1 h
      refine lv_iload hx hb dX9_hasAll_69 (lv_at hl 4 rfl) ?_
      obtain ⟨er, ez0, ez1, ez2, ez3⟩ := rt5_use h
      subst ez0
      subst ez1
      subst ez2
      subst ez3
      exact re_i hx hb hr hlocks hK hP hD hS er dX9_hasAll_71
    · have h := ie_use c1 h
      refine lv_aload_n hx hb dX9_hasAll_13 rfl (lv_at hl 0 rfl) ?_
      refine lv_iload hx hb dX9_hasAll_14 (lv_at hl 5 rfl) ?_
      obtain ⟨v2, hc, h⟩ := bd1_use h
      refine cv_i (As := [.int x5]) (rest := []) ⟨hx, hb, hml, hown, hts⟩ (kX9_firstOf l n dC dI cB cI cJ cZ a _ m_letters m_words m_wMany m_wLetters m_asks m_aWords m_dLetters m_dWords m_dMany m_dText m_dAsks m_dAsk m_tape m_taped m_pos m_from m_sort m_value m_fault m_wrongAt m_manyA m_rowA m_manyB m_rowB m_places m_xs m_ys m_heights m_ridges m_rx m_rHeight m_lanes m_sizes m_cells m_left m_calls m_cDay m_cHour m_cFrom m_cAsk m_cWord m_cOf m_isLie m_children m_learned m_group x5 v2 hc) (cwV 1 hts gX9_hasAll_X9_firstOf rfl rfl rfl (by decide +kernel) ⟨Nat.le_of_ble_eq_true rfl, Nat.le_of_ble_eq_true rfl⟩) EB_0 hE hK hP hD hS hA 0 (ci := 8) rfl rfl rfl rfl hl.1 rfl (Nat.le_of_ble_eq_true rfl) dX9_hasAll_16 ⟨Nat.zero_le _, Nat.zero_le _⟩ (fun H locs hP hD hS => ?_)
      refine lv_iload_n hx hb dX9_hasAll_19 rfl (lv_at hl 2 rfl) ?_
      refine lv_icmp_ne (tgt := 63) hx hb dX9_hasAll_20 (by decide) (fun c3 => ?_) (fun c3 => ?_)
      · have h := ie_use c3 h
        refine lv_iinc (v := x5 + 1) (lv' := [(5, .int (x5 + 1)), (0, .ref (a 0)), (1, .int x1), (2, .int x2), (3, .int x3), (4, .int x4)]) hx hb dX9_hasAll_63 hl (k := 5) rfl rfl (by decide) rfl (fun ls hl => ?_)
        refine lv_goto (tgt := 7) hx hb dX9_hasAll_66 (by decide) ?_
        exact ih m_manyA m_rowA m_manyB m_rowB x4 (x5 + 1) _ _ ls h hP hD hS (lv_sub hl [1, 2, 3, 4, 5, 0] rfl)
      · have h := it_use c3 h
        refine lv_aload_n hx hb dX9_hasAll_23 rfl (lv_at hl 0 rfl) ?_
        refine lv_iload_n hx hb dX9_hasAll_24 rfl (lv_at hl 1 rfl) ?_
        refine lv_iload hx hb dX9_hasAll_25 (lv_at hl 5 rfl) ?_
        obtain ⟨v4, v5, f6, v7, f8, hc, h⟩ := bd5_use h
        refine cv_i (As := [.int x1, .int x5]) (rest := []) ⟨hx, hb, hml, hown, hts⟩ (kX9_hasOne l n dC dI cB cI cJ cZ a _ m_letters m_words m_wMany m_wLetters m_asks m_aWords m_dLetters m_dWords m_dMany m_dText m_dAsks m_dAsk m_tape m_taped m_pos m_from m_sort m_value m_fault m_wrongAt m_manyA m_rowA m_manyB m_rowB m_places m_xs m_ys m_heights m_ridges m_rx m_rHeight m_lanes m_sizes m_cells m_left m_calls m_cDay m_cHour m_cFrom m_cAsk m_cWord m_cOf m_isLie m_children m_learned m_group x1 x5 v4 v5 f6 v7 f8 hc) (cwV 2 hts gX9_hasAll_X9_hasOne rfl rfl rfl (by decide +kernel) ⟨Nat.le_of_ble_eq_true rfl, Nat.le_of_ble_eq_true rfl⟩) EB_0 hE hK hP hD hS hA 0 (ci := 8) rfl rfl rfl rfl hl.1 rfl (Nat.le_of_ble_eq_true rfl) dX9_hasAll_27 ⟨Nat.zero_le _, Nat.zero_le _⟩ (fun H locs hP hD hS => ?_)
        refine lv_istore (lv' := [(6, .int v4), (0, .ref (a 0)), (1, .int x1), (2, .int x2), (3, .int x3), (4, .int x4), (5, .int x5)]) hx hb dX9_hasAll_30 hl (by decide) rfl (fun ls hl => ?_)
        refine lv_iload hx hb dX9_hasAll_32 (lv_at hl 0 rfl) ?_
        refine lv_bipush (v := -4) hx hb dX9_hasAll_34 (by decide) ?_
        refine lv_icmp_ne (tgt := 44) hx hb dX9_hasAll_36 (by decide) (fun c9 => ?_) (fun c9 => ?_)
        · have h := ie_use c9 h
          refine lv_iload hx hb dX9_hasAll_44 (lv_at hl 5 rfl) ?_
          refine lv_bipush (v := -4) hx hb dX9_hasAll_46 (by decide) ?_
          refine lv_icmp_ne (tgt := 56) hx hb dX9_hasAll_48 (by decide) (fun c10 => ?_) (fun c10 => ?_)
          · have h := ie_use c10 h
            refine lv_iload hx hb dX9_hasAll_56 (lv_at hl 5 rfl) ?_
            refine lv_iload hx hb dX9_hasAll_58 (lv_at hl 0 rfl) ?_
            refine lv_iand hx hb dX9_hasAll_60 ?_
            refine lv_topi (fun v11 ev11 => ?_)
            have h := nm_use ev11 h
            refine lv_istore (lv' := [(4, .int v11), (6, .int v4), (0, .ref (a 0)), (1, .int x1), (2, .int x2), (3, .int x3), (5, .int x5)]) hx hb dX9_hasAll_61 hl (by decide) rfl (fun ls hl => ?_)
            refine lv_iinc (v := x5 + 1) (lv' := [(5, .int (x5 + 1)), (4, .int v11), (6, .int v4), (0, .ref (a 0)), (1, .int x1), (2, .int x2), (3, .int x3)]) hx hb dX9_hasAll_63 hl (k := 6) rfl rfl (by decide) rfl (fun ls hl => ?_)
            refine lv_goto (tgt := 7) hx hb dX9_hasAll_66 (by decide) ?_
            exact ih v5 f6 v7 f8 v11 (x5 + 1) _ _ ls h hP hD hS (lv_sub hl [3, 4, 5, 6, 1, 0] rfl)
          · have h := it_use c10 h
            refine lv_iload hx hb dX9_hasAll_51 (lv_at hl 0 rfl) ?_
            refine lv_goto (tgt := 61) hx hb dX9_hasAll_53 (by decide) ?_
            refine lv_istore (lv' := [(4, .int v4), (6, .int v4), (0, .ref (a 0)), (1, .int x1), (2, .int x2), (3, .int x3), (5, .int x5)]) hx hb dX9_hasAll_61 hl (by decide) rfl (fun ls hl => ?_)
            refine lv_iinc (v := x5 + 1) (lv' := [(5, .int (x5 + 1)), (4, .int v4), (6, .int v4), (0, .ref (a 0)), (1, .int x1), (2, .int x2), (3, .int x3)]) hx hb dX9_hasAll_63 hl (k := 6) rfl rfl (by decide) rfl (fun ls hl => ?_)
            refine lv_goto (tgt := 7) hx hb dX9_hasAll_66 (by decide) ?_
            exact ih v5 f6 v7 f8 v4 (x5 + 1) _ _ ls h hP hD hS (lv_sub hl [3, 4, 5, 6, 1, 0] rfl)
        · have h := it_use c9 h
          refine lv_iload hx hb dX9_hasAll_39 (lv_at hl 5 rfl) ?_
          refine lv_goto (tgt := 61) hx hb dX9_hasAll_41 (by decide) ?_
          refine lv_istore (lv' := [(4, .int x4), (6, .int v4), (0, .ref (a 0)), (1, .int x1), (2, .int x2), (3, .int x3), (5, .int x5)]) hx hb dX9_hasAll_61 hl (by decide) rfl (fun ls hl => ?_)
          refine lv_iinc (v := x5 + 1) (lv' := [(5, .int (x5 + 1)), (4, .int x4), (6, .int v4), (0, .ref (a 0)), (1, .int x1), (2, .int x2), (3, .int x3)]) hx hb dX9_hasAll_63 hl (k := 6) rfl rfl (by decide) rfl (fun ls hl => ?_)
          refine lv_goto (tgt := 7) hx hb dX9_hasAll_66 (by decide) ?_
          exact ih v5 f6 v7 f8 x4 (x5 + 1) _ _ ls h hP hD hS (lv_sub hl [3, 4, 5, 6, 1, 0] rfl)
theorem kX9_hasAll_p7 {p : Program} {l : Launch} {e : Env} {s : State} {m : MethodId} {args : Array Value} {below : List Frame} {meth : Method} {c : Code} {A : Nat → Prop} (dC : Nat → ClassId) (dI : Nat → Nat → Nat) (cB cI cJ cZ : ClassId) (a : Nat → Nat) (C0 : cxt cX9_hasAll (some .int) 7 RX9 wsX9_hasAll (dC, dI) (tyz cB cI cJ cZ) E_0 A p s m args meth c) (n : Nat) (m_letters : Nat → Int32) (m_words : Int32) (m_wMany : Nat → Int32) (m_wLetters : Nat → Int32) (m_asks : Int32) (m_aWords : Nat → Int32) (m_dLetters : Nat → Int32) (m_dWords : Int32) (m_dMany : Nat → Int32) (m_dText : Nat → Int32) (m_dAsks : Int32) (m_dAsk : Nat → Int32) (m_tape : Nat → Int32) (m_taped : Int32) (m_pos : Int32) (m_from : Int32) (m_sort : Int32) (m_value : Int32) (m_fault : Int32) (m_wrongAt : Int32) (m_manyA : Int32) (m_rowA : Nat → Int32) (m_manyB : Int32) (m_rowB : Nat → Int32) (m_places : Int32) (m_xs : Nat → Int32) (m_ys : Nat → Int32) (m_heights : Nat → Int32) (m_ridges : Int32) (m_rx : Nat → Int32) (m_rHeight : Nat → Int32) (m_lanes : Nat → Int32) (m_sizes : Nat → Int32) (m_cells : Nat → Int32) (m_left : Nat → Int32) (m_calls : Int32) (m_cDay : Nat → Int32) (m_cHour : Nat → Int32) (m_cFrom : Nat → Int32) (m_cAsk : Nat → Int32) (m_cWord : Nat → Int32) (m_cOf : Nat → Int32) (m_isLie : Nat → Int32) (m_children : Int32) (m_learned : Nat → Int32) (m_group : Nat → Int32)  (x1 : Int32) (x2 : Int32) (x3 : Int32) (x4 : Int32) (x5 : Int32) (r0 : Int32) (z_m_manyA : Int32) (z_m_rowA : Nat → Int32) (z_m_manyB : Int32) (z_m_rowB : Nat → Int32)  (k : Nat) (H : Heap) (locs : List Loc) (ls : Array Slot) : fX9_hasAll_p7 n m_letters m_words m_wMany m_wLetters m_aWords m_xs m_ys m_heights m_ridges m_rx m_rHeight m_lanes m_sizes m_cells m_cHour m_cFrom m_cAsk m_cWord m_cOf x1 x2 x3 k m_manyA m_rowA m_manyB m_rowB x4 x5 = some (r0, z_m_manyA, z_m_rowA, z_m_manyB, z_m_rowB) → va_P (dC, dI) vwCl (wM cB cI cJ cZ a m_letters m_words m_wMany m_wLetters m_asks m_aWords m_dLetters m_dWords m_dMany m_dText m_dAsks m_dAsk m_tape m_taped m_pos m_from m_sort m_value m_fault m_wrongAt m_manyA m_rowA m_manyB m_rowB m_places m_xs m_ys m_heights m_ridges m_rx m_rHeight m_lanes m_sizes m_cells m_left m_calls m_cDay m_cHour m_cFrom m_cAsk m_cWord m_cOf m_isLie m_children m_learned m_group) H → va_D A (wM cB cI cJ cZ a m_letters m_words m_wMany m_wLetters m_asks m_aWords m_dLetters m_dWords m_dMany m_dText m_dAsks m_dAsk m_tape m_taped m_pos m_from m_sort m_value m_fault m_wrongAt m_manyA m_rowA m_manyB m_rowB m_places m_xs m_ys m_heights m_ridges m_rx m_rHeight m_lanes m_sizes m_cells m_left m_calls m_cDay m_cHour m_cFrom m_cAsk m_cWord m_cOf m_isLie m_children m_learned m_group) → va_S A s.heap H locs → lv_has ls 7 [(0, .ref (a 0)), (1, .int x1), (2, .int x2), (3, .int x3), (4, .int x4), (5, .int x5)] → W p l e { frames := 5, cells := 0, slots := 0, locals := 119 } s m args below meth c H locs 0 0 (MQ below (gI (dC, dI) (tyz cB cI cJ cZ) (wM cB cI cJ cZ a m_letters m_words m_wMany m_wLetters m_asks m_aWords m_dLetters m_dWords m_dMany m_dText m_dAsks m_dAsk m_tape m_taped m_pos m_from m_sort m_value m_fault m_wrongAt z_m_manyA z_m_rowA z_m_manyB z_m_rowB m_places m_xs m_ys m_heights m_ridges m_rx m_rHeight m_lanes m_sizes m_cells m_left m_calls m_cDay m_cHour m_cFrom m_cAsk m_cWord m_cOf m_isLie m_children m_learned m_group) A r0) args s 0 0 A) (F0 m 7 ls []) :=
  kX9_hasAll_p7_r dC dI cB cI cJ cZ a C0 n m_letters m_words m_wMany m_wLetters m_asks m_aWords m_dLetters m_dWords m_dMany m_dText m_dAsks m_dAsk m_tape m_taped m_pos m_from m_sort m_value m_fault m_wrongAt m_places m_xs m_ys m_heights m_ridges m_rx m_rHeight m_lanes m_sizes m_cells m_left m_calls m_cDay m_cHour m_cFrom m_cAsk m_cWord m_cOf m_isLie m_children m_learned m_group x1 x2 x3 r0 z_m_manyA z_m_rowA z_m_manyB z_m_rowB  k m_manyA m_rowA m_manyB m_rowB x4 x5 H locs ls
set_option maxHeartbeats 4000000 in
set_option maxRecDepth 100000 in
theorem kX9_hasAll (l : Launch) (n : Nat) (dC : Nat → ClassId) (dI : Nat → Nat → Nat) (cB cI cJ cZ : ClassId) (a : Nat → Nat) (sz : Nat) (m_letters : Nat → Int32) (m_words : Int32) (m_wMany : Nat → Int32) (m_wLetters : Nat → Int32) (m_asks : Int32) (m_aWords : Nat → Int32) (m_dLetters : Nat → Int32) (m_dWords : Int32) (m_dMany : Nat → Int32) (m_dText : Nat → Int32) (m_dAsks : Int32) (m_dAsk : Nat → Int32) (m_tape : Nat → Int32) (m_taped : Int32) (m_pos : Int32) (m_from : Int32) (m_sort : Int32) (m_value : Int32) (m_fault : Int32) (m_wrongAt : Int32) (m_manyA : Int32) (m_rowA : Nat → Int32) (m_manyB : Int32) (m_rowB : Nat → Int32) (m_places : Int32) (m_xs : Nat → Int32) (m_ys : Nat → Int32) (m_heights : Nat → Int32) (m_ridges : Int32) (m_rx : Nat → Int32) (m_rHeight : Nat → Int32) (m_lanes : Nat → Int32) (m_sizes : Nat → Int32) (m_cells : Nat → Int32) (m_left : Nat → Int32) (m_calls : Int32) (m_cDay : Nat → Int32) (m_cHour : Nat → Int32) (m_cFrom : Nat → Int32) (m_cAsk : Nat → Int32) (m_cWord : Nat → Int32) (m_cOf : Nat → Int32) (m_isLie : Nat → Int32) (m_children : Int32) (m_learned : Nat → Int32) (m_group : Nat → Int32) (x1 : Int32) (x2 : Int32) (x3 : Int32) (r0 : Int32) (z_m_manyA : Int32) (z_m_rowA : Nat → Int32) (z_m_manyB : Int32) (z_m_rowB : Nat → Int32) (h : fX9_hasAll n m_letters m_words m_wMany m_wLetters m_aWords m_manyA m_rowA m_manyB m_rowB m_xs m_ys m_heights m_ridges m_rx m_rHeight m_lanes m_sizes m_cells m_cHour m_cFrom m_cAsk m_cWord m_cOf x1 x2 x3 = some (r0, z_m_manyA, z_m_rowA, z_m_manyB, z_m_rowB)) : Met l yX9_hasAll wsX9_hasAll ({ frames := 5, cells := 0, slots := 0, locals := 119 }) (gP (dC, dI) (tyz cB cI cJ cZ) E_0 (wM cB cI cJ cZ a m_letters m_words m_wMany m_wLetters m_asks m_aWords m_dLetters m_dWords m_dMany m_dText m_dAsks m_dAsk m_tape m_taped m_pos m_from m_sort m_value m_fault m_wrongAt m_manyA m_rowA m_manyB m_rowB m_places m_xs m_ys m_heights m_ridges m_rx m_rHeight m_lanes m_sizes m_cells m_left m_calls m_cDay m_cHour m_cFrom m_cAsk m_cWord m_cOf m_isLie m_children m_learned m_group) sz [.ref (a 0), .int x1, .int x2, .int x3]) (gI (dC, dI) (tyz cB cI cJ cZ) (wM cB cI cJ cZ a m_letters m_words m_wMany m_wLetters m_asks m_aWords m_dLetters m_dWords m_dMany m_dText m_dAsks m_dAsk m_tape m_taped m_pos m_from m_sort m_value m_fault m_wrongAt z_m_manyA z_m_rowA z_m_manyB z_m_rowB m_places m_xs m_ys m_heights m_ridges m_rx m_rHeight m_lanes m_sizes m_cells m_left m_calls m_cDay m_cHour m_cFrom m_cAsk m_cWord m_cOf m_isLie m_children m_learned m_group) (va_A (wM cB cI cJ cZ a m_letters m_words m_wMany m_wLetters m_asks m_aWords m_dLetters m_dWords m_dMany m_dText m_dAsks m_dAsk m_tape m_taped m_pos m_from m_sort m_value m_fault m_wrongAt m_manyA m_rowA m_manyB m_rowB m_places m_xs m_ys m_heights m_ridges m_rx m_rHeight m_lanes m_sizes m_cells m_left m_calls m_cDay m_cHour m_cFrom m_cAsk m_cWord m_cOf m_isLie m_children m_learned m_group) sz) r0) 0 0 (va_A (wM cB cI cJ cZ a m_letters m_words m_wMany m_wLetters m_asks m_aWords m_dLetters m_dWords m_dMany m_dText m_dAsks m_dAsk m_tape m_taped m_pos m_from m_sort m_value m_fault m_wrongAt m_manyA m_rowA m_manyB m_rowB m_places m_xs m_ys m_heights m_ridges m_rx m_rHeight m_lanes m_sizes m_cells m_left m_calls m_cDay m_cHour m_cFrom m_cAsk m_cWord m_cOf m_isLie m_children m_learned m_group) sz) := by
  refine Met.ofW (cc := cX9_hasAll) (maxL := 7) (ret := (some .int)) (by decide) rfl ?_
  intro p e s m args below meth c s₁ B hml hv
  obtain ⟨rfl, hsz, hP, hK, hD0, hE⟩ := hv
  have hx := B.exec
  have hb := B.bytes
  have hr := B.returns
  have hts := atoms_spec (ws := wsX9_hasAll) B.pre
  have hown : s.vm.findClass RX9 = some m.cls := findClass_of_methodNamed B.named
  have hlocks := B.notSynchronized
  subst hsz
  have hD := hD0.self (sz := s.heap.size)
  have hA : ∀ q : Nat, s.heap.size ≤ q → va_A (wM cB cI cJ cZ a m_letters m_words m_wMany m_wLetters m_asks m_aWords m_dLetters m_dWords m_dMany m_dText m_dAsks m_dAsk m_tape m_taped m_pos m_from m_sort m_value m_fault m_wrongAt m_manyA m_rowA m_manyB m_rowB m_places m_xs m_ys m_heights m_ridges m_rx m_rHeight m_lanes m_sizes m_cells m_left m_calls m_cDay m_cHour m_cFrom m_cAsk m_cWord m_cOf m_isLie m_children m_learned m_group) s.heap.size q := fun q h => Or.inr h
  generalize va_A (wM cB cI cJ cZ a m_letters m_words m_wMany m_wLetters m_asks m_aWords m_dLetters m_dWords m_dMany m_dText m_dAsks m_dAsk m_tape m_taped m_pos m_from m_sort m_value m_fault m_wrongAt m_manyA m_rowA m_manyB m_rowB m_places m_xs m_ys m_heights m_ridges m_rx m_rHeight m_lanes m_sizes m_cells m_left m_calls m_cDay m_cHour m_cFrom m_cAsk m_cWord m_cOf m_isLie m_children m_learned m_group) s.heap.size = A at hD hA hE ⊢
  have hS : va_S A s.heap s.heap [] := va_S.rf
  have C0 : cxt cX9_hasAll (some .int) 7 RX9 wsX9_hasAll (dC, dI) (tyz cB cI cJ cZ) E_0 A p s m ([.ref (a 0), .int x1, .int x2, .int x3] : List Value).toArray meth c := ⟨hx, hb, hr, hml, hown, hts, hlocks, hK, hA, hE⟩
  have hl := lv_entry ([.ref (a 0), .int x1, .int x2, .int x3]) (n := 7) (Nat.le_of_ble_eq_true rfl)
  rw [lg_entry_eq]
  generalize (lg_sl ([.ref (a 0), .int x1, .int x2, .int x3]) ++ List.replicate (7 - (lg_sl ([.ref (a 0), .int x1, .int x2, .int x3])).length) Slot.unset).toArray = ls at hl ⊢
  have hl : lv_has ls 7 [(0, .ref (a 0)), (1, .int x1), (2, .int x2), (3, .int x3)] := hl
  unfold fX9_hasAll at h
  refine lv_bipush (v := -4) hx hb dX9_hasAll_0 (by decide) ?_
  refine lv_istore (lv' := [(4, .int (-4 : Int32)), (0, .ref (a 0)), (1, .int x1), (2, .int x2), (3, .int x3)]) hx hb dX9_hasAll_2 hl (by decide) rfl (fun ls hl => ?_)
  refine lv_iload_n hx hb dX9_hasAll_4 rfl (lv_at hl 3 rfl) ?_
  refine lv_istore (lv' := [(5, .int x2), (4, .int (-4 : Int32)), (0, .ref (a 0)), (1, .int x1), (2, .int x2), (3, .int x3)]) hx hb dX9_hasAll_5 hl (by decide) rfl (fun ls hl => ?_)
  exact kX9_hasAll_p7 dC dI cB cI cJ cZ a C0 n m_letters m_words m_wMany m_wLetters m_asks m_aWords m_dLetters m_dWords m_dMany m_dText m_dAsks m_dAsk m_tape m_taped m_pos m_from m_sort m_value m_fault m_wrongAt m_manyA m_rowA m_manyB m_rowB m_places m_xs m_ys m_heights m_ridges m_rx m_rHeight m_lanes m_sizes m_cells m_left m_calls m_cDay m_cHour m_cFrom m_cAsk m_cWord m_cOf m_isLie m_children m_learned m_group x1 x2 x3 (-4 : Int32) x2 r0 z_m_manyA z_m_rowA z_m_manyB z_m_rowB  n _ _ ls h hP hD hS (lv_sub hl [2, 3, 4, 5, 1, 0] rfl)
set_option maxHeartbeats 4000000 in
set_option maxRecDepth 100000 in
theorem kX9_has (l : Launch) (n : Nat) (dC : Nat → ClassId) (dI : Nat → Nat → Nat) (cB cI cJ cZ : ClassId) (a : Nat → Nat) (sz : Nat) (m_letters : Nat → Int32) (m_words : Int32) (m_wMany : Nat → Int32) (m_wLetters : Nat → Int32) (m_asks : Int32) (m_aWords : Nat → Int32) (m_dLetters : Nat → Int32) (m_dWords : Int32) (m_dMany : Nat → Int32) (m_dText : Nat → Int32) (m_dAsks : Int32) (m_dAsk : Nat → Int32) (m_tape : Nat → Int32) (m_taped : Int32) (m_pos : Int32) (m_from : Int32) (m_sort : Int32) (m_value : Int32) (m_fault : Int32) (m_wrongAt : Int32) (m_manyA : Int32) (m_rowA : Nat → Int32) (m_manyB : Int32) (m_rowB : Nat → Int32) (m_places : Int32) (m_xs : Nat → Int32) (m_ys : Nat → Int32) (m_heights : Nat → Int32) (m_ridges : Int32) (m_rx : Nat → Int32) (m_rHeight : Nat → Int32) (m_lanes : Nat → Int32) (m_sizes : Nat → Int32) (m_cells : Nat → Int32) (m_left : Nat → Int32) (m_calls : Int32) (m_cDay : Nat → Int32) (m_cHour : Nat → Int32) (m_cFrom : Nat → Int32) (m_cAsk : Nat → Int32) (m_cWord : Nat → Int32) (m_cOf : Nat → Int32) (m_isLie : Nat → Int32) (m_children : Int32) (m_learned : Nat → Int32) (m_group : Nat → Int32) (x1 : Int32) (x2 : Int32) (x3 : Int32) (x4 : Int32) (r0 : Int32) (z_m_manyA : Int32) (z_m_rowA : Nat → Int32) (z_m_manyB : Int32) (z_m_rowB : Nat → Int32) (h : fX9_has n m_letters m_words m_wMany m_wLetters m_aWords m_manyA m_rowA m_manyB m_rowB m_places m_xs m_ys m_heights m_ridges m_rx m_rHeight m_lanes m_sizes m_cells m_calls m_cDay m_cHour m_cFrom m_cAsk m_cWord m_cOf x1 x2 x3 x4 = some (r0, z_m_manyA, z_m_rowA, z_m_manyB, z_m_rowB)) : Met l yX9_has wsX9_has ({ frames := 6, cells := 0, slots := 0, locals := 145 }) (gP (dC, dI) (tyz cB cI cJ cZ) E_0 (wM cB cI cJ cZ a m_letters m_words m_wMany m_wLetters m_asks m_aWords m_dLetters m_dWords m_dMany m_dText m_dAsks m_dAsk m_tape m_taped m_pos m_from m_sort m_value m_fault m_wrongAt m_manyA m_rowA m_manyB m_rowB m_places m_xs m_ys m_heights m_ridges m_rx m_rHeight m_lanes m_sizes m_cells m_left m_calls m_cDay m_cHour m_cFrom m_cAsk m_cWord m_cOf m_isLie m_children m_learned m_group) sz [.ref (a 0), .int x1, .int x2, .int x3, .int x4]) (gI (dC, dI) (tyz cB cI cJ cZ) (wM cB cI cJ cZ a m_letters m_words m_wMany m_wLetters m_asks m_aWords m_dLetters m_dWords m_dMany m_dText m_dAsks m_dAsk m_tape m_taped m_pos m_from m_sort m_value m_fault m_wrongAt z_m_manyA z_m_rowA z_m_manyB z_m_rowB m_places m_xs m_ys m_heights m_ridges m_rx m_rHeight m_lanes m_sizes m_cells m_left m_calls m_cDay m_cHour m_cFrom m_cAsk m_cWord m_cOf m_isLie m_children m_learned m_group) (va_A (wM cB cI cJ cZ a m_letters m_words m_wMany m_wLetters m_asks m_aWords m_dLetters m_dWords m_dMany m_dText m_dAsks m_dAsk m_tape m_taped m_pos m_from m_sort m_value m_fault m_wrongAt m_manyA m_rowA m_manyB m_rowB m_places m_xs m_ys m_heights m_ridges m_rx m_rHeight m_lanes m_sizes m_cells m_left m_calls m_cDay m_cHour m_cFrom m_cAsk m_cWord m_cOf m_isLie m_children m_learned m_group) sz) r0) 0 0 (va_A (wM cB cI cJ cZ a m_letters m_words m_wMany m_wLetters m_asks m_aWords m_dLetters m_dWords m_dMany m_dText m_dAsks m_dAsk m_tape m_taped m_pos m_from m_sort m_value m_fault m_wrongAt m_manyA m_rowA m_manyB m_rowB m_places m_xs m_ys m_heights m_ridges m_rx m_rHeight m_lanes m_sizes m_cells m_left m_calls m_cDay m_cHour m_cFrom m_cAsk m_cWord m_cOf m_isLie m_children m_learned m_group) sz) := by
  refine Met.ofW (cc := cX9_has) (maxL := 5) (ret := (some .int)) (by decide) rfl ?_
  intro p e s m args below meth c s₁ B hml hv
  obtain ⟨rfl, hsz, hP, hK, hD0, hE⟩ := hv
  have hx := B.exec
  have hb := B.bytes
  have hr := B.returns
  have hts := atoms_spec (ws := wsX9_has) B.pre
  have hown : s.vm.findClass RX9 = some m.cls := findClass_of_methodNamed B.named
  have hlocks := B.notSynchronized
  subst hsz
  have hD := hD0.self (sz := s.heap.size)
  have hA : ∀ q : Nat, s.heap.size ≤ q → va_A (wM cB cI cJ cZ a m_letters m_words m_wMany m_wLetters m_asks m_aWords m_dLetters m_dWords m_dMany m_dText m_dAsks m_dAsk m_tape m_taped m_pos m_from m_sort m_value m_fault m_wrongAt m_manyA m_rowA m_manyB m_rowB m_places m_xs m_ys m_heights m_ridges m_rx m_rHeight m_lanes m_sizes m_cells m_left m_calls m_cDay m_cHour m_cFrom m_cAsk m_cWord m_cOf m_isLie m_children m_learned m_group) s.heap.size q := fun q h => Or.inr h
  generalize va_A (wM cB cI cJ cZ a m_letters m_words m_wMany m_wLetters m_asks m_aWords m_dLetters m_dWords m_dMany m_dText m_dAsks m_dAsk m_tape m_taped m_pos m_from m_sort m_value m_fault m_wrongAt m_manyA m_rowA m_manyB m_rowB m_places m_xs m_ys m_heights m_ridges m_rx m_rHeight m_lanes m_sizes m_cells m_left m_calls m_cDay m_cHour m_cFrom m_cAsk m_cWord m_cOf m_isLie m_children m_learned m_group) s.heap.size = A at hD hA hE ⊢
  have hS : va_S A s.heap s.heap [] := va_S.rf
  have C0 : cxt cX9_has (some .int) 5 RX9 wsX9_has (dC, dI) (tyz cB cI cJ cZ) E_0 A p s m ([.ref (a 0), .int x1, .int x2, .int x3, .int x4] : List Value).toArray meth c := ⟨hx, hb, hr, hml, hown, hts, hlocks, hK, hA, hE⟩
  have hl := lv_entry ([.ref (a 0), .int x1, .int x2, .int x3, .int x4]) (n := 5) (Nat.le_of_ble_eq_true rfl)
  rw [lg_entry_eq]
  generalize (lg_sl ([.ref (a 0), .int x1, .int x2, .int x3, .int x4]) ++ List.replicate (5 - (lg_sl ([.ref (a 0), .int x1, .int x2, .int x3, .int x4])).length) Slot.unset).toArray = ls at hl ⊢
  have hl : lv_has ls 5 [(0, .ref (a 0)), (1, .int x1), (2, .int x2), (3, .int x3), (4, .int x4)] := hl
  have hw0 := hts (.fieldLink RX9 85 "WhistledWordsModel" "cOf" "[I") (by decide +kernel)
  have hnX9 : ∀ w ∈ u_ws RX9 TX9 46, w ∈ wsX9_has := fun _ h => List.mem_cons_of_mem _ (List.mem_append_right _ h)
  unfold fX9_has at h
  refine lv_aload_n hx hb dX9_has_0 rfl (lv_at hl 0 rfl) ?_
  refine lv_iload_n hx hb dX9_has_1 rfl (lv_at hl 1 rfl) ?_
  obtain ⟨v1, hc, h⟩ := bd1_use h
  refine cv_i (As := [.int x1]) (rest := []) ⟨hx, hb, hml, hown, hts⟩ (kX9_isPlace l n dC dI cB cI cJ cZ a _ m_letters m_words m_wMany m_wLetters m_asks m_aWords m_dLetters m_dWords m_dMany m_dText m_dAsks m_dAsk m_tape m_taped m_pos m_from m_sort m_value m_fault m_wrongAt m_manyA m_rowA m_manyB m_rowB m_places m_xs m_ys m_heights m_ridges m_rx m_rHeight m_lanes m_sizes m_cells m_left m_calls m_cDay m_cHour m_cFrom m_cAsk m_cWord m_cOf m_isLie m_children m_learned m_group x1 v1 hc) (cwV 1 hts gX9_has_X9_isPlace rfl rfl rfl (by decide +kernel) ⟨Nat.le_of_ble_eq_true rfl, Nat.le_of_ble_eq_true rfl⟩) EB_0 hE hK hP hD hS hA 0 (ci := 8) rfl rfl rfl rfl hl.1 rfl (Nat.le_of_ble_eq_true rfl) dX9_has_2 ⟨Nat.zero_le _, Nat.zero_le _⟩ (fun H locs hP hD hS => ?_)
  refine lv_if_eq (tgt := 25) hx hb dX9_has_5 (by decide) (fun c2 => ?_) (fun c2 => ?_)
  · have h := it_use c2 h
    refine lv_iconst (v := -1) hx hb dX9_has_25 (by decide) ?_
    obtain ⟨er, ez0, ez1, ez2, ez3⟩ := rt5_use h
    subst ez0
    subst ez1
    subst ez2
    subst ez3
    exact re_i hx hb hr hlocks hK hP hD hS er dX9_has_26
  · have h := ie_use c2 h
    refine lv_aload_n hx hb dX9_has_8 rfl (lv_at hl 0 rfl) ?_
    refine lv_iload_n hx hb dX9_has_9 rfl (lv_at hl 2 rfl) ?_
    obtain ⟨v3, hc, h⟩ := bd1_use h
    refine cv_i (As := [.int x2]) (rest := []) ⟨hx, hb, hml, hown, hts⟩ (kX9_isCall l n dC dI cB cI cJ cZ a _ m_letters m_words m_wMany m_wLetters m_asks m_aWords m_dLetters m_dWords m_dMany m_dText m_dAsks m_dAsk m_tape m_taped m_pos m_from m_sort m_value m_fault m_wrongAt m_manyA m_rowA m_manyB m_rowB m_places m_xs m_ys m_heights m_ridges m_rx m_rHeight m_lanes m_sizes m_cells m_left m_calls m_cDay m_cHour m_cFrom m_cAsk m_cWord m_cOf m_isLie m_children m_learned m_group x2 v3 hc) (cwV 1 hts gX9_has_X9_isCall rfl rfl rfl (by decide +kernel) ⟨Nat.le_of_ble_eq_true rfl, Nat.le_of_ble_eq_true rfl⟩) EB_0 hE hK hP hD hS hA 0 (ci := 8) rfl rfl rfl rfl hl.1 rfl (Nat.le_of_ble_eq_true rfl) dX9_has_10 ⟨Nat.zero_le _, Nat.zero_le _⟩ (fun H locs hP hD hS => ?_)
    refine lv_if_eq (tgt := 25) hx hb dX9_has_13 (by decide) (fun c4 => ?_) (fun c4 => ?_)
    · have h := it_use c4 h
      refine lv_iconst (v := -1) hx hb dX9_has_25 (by decide) ?_
      obtain ⟨er, ez0, ez1, ez2, ez3⟩ := rt5_use h
      subst ez0
      subst ez1
      subst ez2
      subst ez3
      exact re_i hx hb hr hlocks hK hP hD hS er dX9_has_26
    · have h := ie_use c4 h
      refine lv_iload_n hx hb dX9_has_16 rfl (lv_at hl 3 rfl) ?_
      refine lv_iload hx hb dX9_has_17 (lv_at hl 4 rfl) ?_
      obtain ⟨v5, hc, h⟩ := bd1_use h
      refine cs_i (As := [.int x3, .int x4]) (rest := []) ⟨hx, hb, hml, hown, hts⟩ (kX9_isTime l n x3 x4 v5 hc) (va_cwS 2 hts gX9_has_X9_isTime rfl rfl rfl (by decide +kernel) ⟨Nat.le_of_ble_eq_true rfl, Nat.le_of_ble_eq_true rfl⟩) hP hS rfl hl.1 rfl (Nat.le_of_ble_eq_true rfl) dX9_has_19 ⟨Nat.zero_le _, Nat.zero_le _⟩ (fun H locs hP hS => ?_)
      refine lv_if_ne (tgt := 27) hx hb dX9_has_22 (by decide) (fun c6 => ?_) (fun c6 => ?_)
      · have h := ie_use c6 h
        refine lv_aload_n hx hb dX9_has_27 rfl (lv_at hl 0 rfl) ?_
        refine gM_mo_cOf hx hb hts hnX9 hown hK hP hw0 dX9_has_28 ?_
        refine lv_iload_n hx hb dX9_has_31 rfl (lv_at hl 2 rfl) ?_
        obtain ⟨hiv7, h⟩ := ar_use h
        refine lM_mo_cOf hx hb hK hP hiv7 dX9_has_32 ?_
        refine lv_topi (fun v7 ev7 => ?_)
        have h := h v7 ev7
        refine lv_bipush (v := -4) hx hb dX9_has_33 (by decide) ?_
        refine lv_icmp_eq (tgt := 43) hx hb dX9_has_35 (by decide) (fun c8 => ?_) (fun c8 => ?_)
        · have h := it_use c8 h
          refine lv_aload_n hx hb dX9_has_43 rfl (lv_at hl 0 rfl) ?_
          refine lv_iload_n hx hb dX9_has_44 rfl (lv_at hl 1 rfl) ?_
          refine lv_iload_n hx hb dX9_has_45 rfl (lv_at hl 2 rfl) ?_
          refine lv_aload_n hx hb dX9_has_46 rfl (lv_at hl 0 rfl) ?_
          refine lv_iload_n hx hb dX9_has_47 rfl (lv_at hl 3 rfl) ?_
          refine lv_iload hx hb dX9_has_48 (lv_at hl 4 rfl) ?_
          obtain ⟨v9, hc, h⟩ := bd1_use h
          refine cv_i (As := [.int x3, .int x4]) (rest := [.int x2, .int x1, .ref (a 0)]) ⟨hx, hb, hml, hown, hts⟩ (kX9_upTo l n dC dI cB cI cJ cZ a _ m_letters m_words m_wMany m_wLetters m_asks m_aWords m_dLetters m_dWords m_dMany m_dText m_dAsks m_dAsk m_tape m_taped m_pos m_from m_sort m_value m_fault m_wrongAt m_manyA m_rowA m_manyB m_rowB m_places m_xs m_ys m_heights m_ridges m_rx m_rHeight m_lanes m_sizes m_cells m_left m_calls m_cDay m_cHour m_cFrom m_cAsk m_cWord m_cOf m_isLie m_children m_learned m_group x3 x4 v9 hc) (cwV 2 hts gX9_has_X9_upTo rfl rfl rfl (by decide +kernel) ⟨Nat.le_of_ble_eq_true rfl, Nat.le_of_ble_eq_true rfl⟩) EB_0 hE hK hP hD hS hA 0 (ci := 8) rfl rfl rfl rfl hl.1 rfl (Nat.le_of_ble_eq_true rfl) dX9_has_50 ⟨Nat.zero_le _, Nat.zero_le _⟩ (fun H locs hP hD hS => ?_)
          obtain ⟨v10, v11, f12, v13, f14, hc, h⟩ := bd5_use h
          refine cv_i (As := [.int x1, .int x2, .int v9]) (rest := []) ⟨hx, hb, hml, hown, hts⟩ (kX9_hasAll l n dC dI cB cI cJ cZ a _ m_letters m_words m_wMany m_wLetters m_asks m_aWords m_dLetters m_dWords m_dMany m_dText m_dAsks m_dAsk m_tape m_taped m_pos m_from m_sort m_value m_fault m_wrongAt m_manyA m_rowA m_manyB m_rowB m_places m_xs m_ys m_heights m_ridges m_rx m_rHeight m_lanes m_sizes m_cells m_left m_calls m_cDay m_cHour m_cFrom m_cAsk m_cWord m_cOf m_isLie m_children m_learned m_group x1 x2 v9 v10 v11 f12 v13 f14 hc) (cwV 3 hts gX9_has_X9_hasAll rfl rfl rfl (by decide +kernel) ⟨Nat.le_of_ble_eq_true rfl, Nat.le_of_ble_eq_true rfl⟩) EB_0 hE hK hP hD hS hA 0 (ci := 8) rfl rfl rfl rfl hl.1 rfl (Nat.le_of_ble_eq_true rfl) dX9_has_53 ⟨Nat.zero_le _, Nat.zero_le _⟩ (fun H locs hP hD hS => ?_)
          obtain ⟨er, ez0, ez1, ez2, ez3⟩ := rt5_use h
          subst ez0
          subst ez1
          subst ez2
          subst ez3
          exact re_i hx hb hr hlocks hK hP hD hS er dX9_has_56
        · have h := ie_use c8 h
          refine lv_bipush (v := -2) hx hb dX9_has_38 (by decide) ?_
          refine lv_goto (tgt := 56) hx hb dX9_has_40 (by decide) ?_
          obtain ⟨er, ez0, ez1, ez2, ez3⟩ := rt5_use h
          subst ez0
          subst ez1
          subst ez2
          subst ez3
          exact re_i hx hb hr hlocks hK hP hD hS er dX9_has_56
      · have h := it_use c6 h
        refine lv_iconst (v := -1) hx hb dX9_has_25 (by decide) ?_
        obtain ⟨er, ez0, ez1, ez2, ez3⟩ := rt5_use h
        subst ez0
        subst ez1
        subst ez2
        subst ez3
        exact re_i hx hb hr hlocks hK hP hD hS er dX9_has_26
set_option maxHeartbeats 4000000 in
set_option maxRecDepth 100000 in
theorem kX9_knowsBy_p85 {p : Program} {l : Launch} {e : Env} {s : State} {m : MethodId} {args : Array Value} {below : List Frame} {meth : Method} {c : Code} {A : Nat → Prop} (dC : Nat → ClassId) (dI : Nat → Nat → Nat) (cB cI cJ cZ : ClassId) (a : Nat → Nat) (C0 : cxt cX9_knowsBy (some .int) 7 RX9 wsX9_knowsBy (dC, dI) (tyz cB cI cJ cZ) E_0 A p s m args meth c) (n : Nat) (m_letters : Nat → Int32) (m_words : Int32) (m_wMany : Nat → Int32) (m_wLetters : Nat → Int32) (m_asks : Int32) (m_aWords : Nat → Int32) (m_dLetters : Nat → Int32) (m_dWords : Int32) (m_dMany : Nat → Int32) (m_dText : Nat → Int32) (m_dAsks : Int32) (m_dAsk : Nat → Int32) (m_tape : Nat → Int32) (m_taped : Int32) (m_pos : Int32) (m_from : Int32) (m_sort : Int32) (m_value : Int32) (m_fault : Int32) (m_wrongAt : Int32) (m_manyA : Int32) (m_rowA : Nat → Int32) (m_manyB : Int32) (m_rowB : Nat → Int32) (m_places : Int32) (m_xs : Nat → Int32) (m_ys : Nat → Int32) (m_heights : Nat → Int32) (m_ridges : Int32) (m_rx : Nat → Int32) (m_rHeight : Nat → Int32) (m_lanes : Nat → Int32) (m_sizes : Nat → Int32) (m_cells : Nat → Int32) (m_left : Nat → Int32) (m_calls : Int32) (m_cDay : Nat → Int32) (m_cHour : Nat → Int32) (m_cFrom : Nat → Int32) (m_cAsk : Nat → Int32) (m_cWord : Nat → Int32) (m_cOf : Nat → Int32) (m_isLie : Nat → Int32) (m_children : Int32) (m_learned : Nat → Int32) (m_group : Nat → Int32)  (x1 : Int32) (x2 : Int32) (x3 : Int32) (x5 : Int32) (x6 : Int32) (s0 : Int32) (s1 : Int32) (r0 : Int32) (z_m_manyA : Int32) (z_m_rowA : Nat → Int32) (z_m_manyB : Int32) (z_m_rowB : Nat → Int32) (rec6 : Int32 → (Nat → Int32) → Int32 → (Nat → Int32) → Int32 → Int32 → Option (Int32 × Int32 × (Nat → Int32) × Int32 × (Nat → Int32))) (hrec6 : ∀ (y_m_manyA : Int32) (y_m_rowA : Nat → Int32) (y_m_manyB : Int32) (y_m_rowB : Nat → Int32) (y_x4 : Int32) (y_x5 : Int32) (H : Heap) (locs : List Loc) (ls : Array Slot), rec6 y_m_manyA y_m_rowA y_m_manyB y_m_rowB y_x4 y_x5 = some (r0, z_m_manyA, z_m_rowA, z_m_manyB, z_m_rowB) → va_P (dC, dI) vwCl (wM cB cI cJ cZ a m_letters m_words m_wMany m_wLetters m_asks m_aWords m_dLetters m_dWords m_dMany m_dText m_dAsks m_dAsk m_tape m_taped m_pos m_from m_sort m_value m_fault m_wrongAt y_m_manyA y_m_rowA y_m_manyB y_m_rowB m_places m_xs m_ys m_heights m_ridges m_rx m_rHeight m_lanes m_sizes m_cells m_left m_calls m_cDay m_cHour m_cFrom m_cAsk m_cWord m_cOf m_isLie m_children m_learned m_group) H → va_D A (wM cB cI cJ cZ a m_letters m_words m_wMany m_wLetters m_asks m_aWords m_dLetters m_dWords m_dMany m_dText m_dAsks m_dAsk m_tape m_taped m_pos m_from m_sort m_value m_fault m_wrongAt y_m_manyA y_m_rowA y_m_manyB y_m_rowB m_places m_xs m_ys m_heights m_ridges m_rx m_rHeight m_lanes m_sizes m_cells m_left m_calls m_cDay m_cHour m_cFrom m_cAsk m_cWord m_cOf m_isLie m_children m_learned m_group) → va_S A s.heap H locs → lv_has ls 7 [(0, .ref (a 0)), (1, .int x1), (2, .int x2), (3, .int x3), (4, .int y_x4), (5, .int y_x5)] → W p l e { frames := 6, cells := 0, slots := 0, locals := 145 } s m args below meth c H locs 0 0 (MQ below (gI (dC, dI) (tyz cB cI cJ cZ) (wM cB cI cJ cZ a m_letters m_words m_wMany m_wLetters m_asks m_aWords m_dLetters m_dWords m_dMany m_dText m_dAsks m_dAsk m_tape m_taped m_pos m_from m_sort m_value m_fault m_wrongAt z_m_manyA z_m_rowA z_m_manyB z_m_rowB m_places m_xs m_ys m_heights m_ridges m_rx m_rHeight m_lanes m_sizes m_cells m_left m_calls m_cDay m_cHour m_cFrom m_cAsk m_cWord m_cOf m_isLie m_children m_learned m_group) A r0) args s 0 0 A) (F0 m 6 ls [])) (H : Heap) (locs : List Loc) (ls : Array Slot) : fX9_knowsBy_p85 n m_letters m_words m_wMany m_wLetters m_aWords m_manyA m_rowA m_manyB m_rowB m_xs m_ys m_heights m_ridges m_rx m_rHeight m_lanes m_sizes m_cells m_cHour m_cFrom m_cAsk m_cWord m_cOf m_isLie x1 x2 x3 x5 x6 s0 s1 rec6 = some (r0, z_m_manyA, z_m_rowA, z_m_manyB, z_m_rowB) → va_P (dC, dI) vwCl (wM cB cI cJ cZ a m_letters m_words m_wMany m_wLetters m_asks m_aWords m_dLetters m_dWords m_dMany m_dText m_dAsks m_dAsk m_tape m_taped m_pos m_from m_sort m_value m_fault m_wrongAt m_manyA m_rowA m_manyB m_rowB m_places m_xs m_ys m_heights m_ridges m_rx m_rHeight m_lanes m_sizes m_cells m_left m_calls m_cDay m_cHour m_cFrom m_cAsk m_cWord m_cOf m_isLie m_children m_learned m_group) H → va_D A (wM cB cI cJ cZ a m_letters m_words m_wMany m_wLetters m_asks m_aWords m_dLetters m_dWords m_dMany m_dText m_dAsks m_dAsk m_tape m_taped m_pos m_from m_sort m_value m_fault m_wrongAt m_manyA m_rowA m_manyB m_rowB m_places m_xs m_ys m_heights m_ridges m_rx m_rHeight m_lanes m_sizes m_cells m_left m_calls m_cDay m_cHour m_cFrom m_cAsk m_cWord m_cOf m_isLie m_children m_learned m_group) → va_S A s.heap H locs → lv_has ls 7 [(0, .ref (a 0)), (1, .int x1), (2, .int x2), (3, .int x3), (5, .int x5), (6, .int x6)] → W p l e { frames := 6, cells := 0, slots := 0, locals := 145 } s m args below meth c H locs 0 0 (MQ below (gI (dC, dI) (tyz cB cI cJ cZ) (wM cB cI cJ cZ a m_letters m_words m_wMany m_wLetters m_asks m_aWords m_dLetters m_dWords m_dMany m_dText m_dAsks m_dAsk m_tape m_taped m_pos m_from m_sort m_value m_fault m_wrongAt z_m_manyA z_m_rowA z_m_manyB z_m_rowB m_places m_xs m_ys m_heights m_ridges m_rx m_rHeight m_lanes m_sizes m_cells m_left m_calls m_cDay m_cHour m_cFrom m_cAsk m_cWord m_cOf m_isLie m_children m_learned m_group) A r0) args s 0 0 A) (F0 m 85 ls [.int s1, .int s0]) := by
  intro h hP hD hS hl
  obtain ⟨hx, hb, hr, hml, hown, hts, hlocks, hK, hA, hE⟩ := id C0
  unfold fX9_knowsBy_p85 at h
  refine lv_ior hx hb dX9_knowsBy_85 ?_
  refine lv_topi (fun v1 ev1 => ?_)
  have h := nm_use ev1 h
  refine lv_istore (lv' := [(4, .int v1), (0, .ref (a 0)), (1, .int x1), (2, .int x2), (3, .int x3), (5, .int x5), (6, .int x6)]) hx hb dX9_knowsBy_86 hl (by decide) rfl (fun ls hl => ?_)
  refine lv_iload hx hb dX9_knowsBy_88 (lv_at hl 0 rfl) ?_
  refine lv_iload hx hb dX9_knowsBy_90 (lv_at hl 6 rfl) ?_
  refine lv_bipush (v := -4) hx hb dX9_knowsBy_92 (by decide) ?_
  refine lv_icmp_eq (tgt := 111) hx hb dX9_knowsBy_94 (by decide) (fun c2 => ?_) (fun c2 => ?_)
  · have h := it_use c2 h
    refine lv_iconst (v := 0) hx hb dX9_knowsBy_111 (by decide) ?_
    refine lv_ior hx hb dX9_knowsBy_112 ?_
    refine lv_topi (fun v3 ev3 => ?_)
    have h := nm_use ev3 h
    refine lv_istore (lv' := [(4, .int v3), (0, .ref (a 0)), (1, .int x1), (2, .int x2), (3, .int x3), (5, .int x5), (6, .int x6)]) hx hb dX9_knowsBy_113 hl (by decide) rfl (fun ls hl => ?_)
    refine lv_iinc (v := x5 + 1) (lv' := [(5, .int (x5 + 1)), (4, .int v3), (0, .ref (a 0)), (1, .int x1), (2, .int x2), (3, .int x3), (6, .int x6)]) hx hb dX9_knowsBy_115 hl (k := 5) rfl rfl (by decide) rfl (fun ls hl => ?_)
    refine lv_goto (tgt := 6) hx hb dX9_knowsBy_118 (by decide) ?_
    exact hrec6 m_manyA m_rowA m_manyB m_rowB v3 (x5 + 1) _ _ ls h hP hD hS (lv_sub hl [2, 3, 4, 5, 1, 0] rfl)
  · have h := ie_use c2 h
    refine lv_iload hx hb dX9_knowsBy_97 (lv_at hl 6 rfl) ?_
    obtain ⟨v4, hc, h⟩ := bd1_use h
    refine cs_i (As := [.int x6]) (rest := [.int v1]) ⟨hx, hb, hml, hown, hts⟩ (kX9_bits l n x6 v4 hc) (va_cwS 1 hts gX9_knowsBy_X9_bits rfl rfl rfl (by decide +kernel) ⟨Nat.le_of_ble_eq_true rfl, Nat.le_of_ble_eq_true rfl⟩) hP hS rfl hl.1 rfl (Nat.le_of_ble_eq_true rfl) dX9_knowsBy_99 ⟨Nat.zero_le _, Nat.zero_le _⟩ (fun H locs hP hS => ?_)
    refine lv_iconst (v := 1) hx hb dX9_knowsBy_102 (by decide) ?_
    refine lv_icmp_ne (tgt := 111) hx hb dX9_knowsBy_103 (by decide) (fun c5 => ?_) (fun c5 => ?_)
    · have h := ie_use c5 h
      refine lv_iconst (v := 0) hx hb dX9_knowsBy_111 (by decide) ?_
      refine lv_ior hx hb dX9_knowsBy_112 ?_
      refine lv_topi (fun v6 ev6 => ?_)
      have h := nm_use ev6 h
      refine lv_istore (lv' := [(4, .int v6), (0, .ref (a 0)), (1, .int x1), (2, .int x2), (3, .int x3), (5, .int x5), (6, .int x6)]) hx hb dX9_knowsBy_113 hl (by decide) rfl (fun ls hl => ?_)
      refine lv_iinc (v := x5 + 1) (lv' := [(5, .int (x5 + 1)), (4, .int v6), (0, .ref (a 0)), (1, .int x1), (2, .int x2), (3, .int x3), (6, .int x6)]) hx hb dX9_knowsBy_115 hl (k := 5) rfl rfl (by decide) rfl (fun ls hl => ?_)
      refine lv_goto (tgt := 6) hx hb dX9_knowsBy_118 (by decide) ?_
      exact hrec6 m_manyA m_rowA m_manyB m_rowB v6 (x5 + 1) _ _ ls h hP hD hS (lv_sub hl [2, 3, 4, 5, 1, 0] rfl)
    · have h := it_use c5 h
      refine lv_iload hx hb dX9_knowsBy_106 (lv_at hl 6 rfl) ?_
      refine lv_goto (tgt := 112) hx hb dX9_knowsBy_108 (by decide) ?_
      refine lv_ior hx hb dX9_knowsBy_112 ?_
      refine lv_topi (fun v7 ev7 => ?_)
      have h := nm_use ev7 h
      refine lv_istore (lv' := [(4, .int v7), (0, .ref (a 0)), (1, .int x1), (2, .int x2), (3, .int x3), (5, .int x5), (6, .int x6)]) hx hb dX9_knowsBy_113 hl (by decide) rfl (fun ls hl => ?_)
      refine lv_iinc (v := x5 + 1) (lv' := [(5, .int (x5 + 1)), (4, .int v7), (0, .ref (a 0)), (1, .int x1), (2, .int x2), (3, .int x3), (6, .int x6)]) hx hb dX9_knowsBy_115 hl (k := 5) rfl rfl (by decide) rfl (fun ls hl => ?_)
      refine lv_goto (tgt := 6) hx hb dX9_knowsBy_118 (by decide) ?_
      exact hrec6 m_manyA m_rowA m_manyB m_rowB v7 (x5 + 1) _ _ ls h hP hD hS (lv_sub hl [2, 3, 4, 5, 1, 0] rfl)
set_option maxHeartbeats 4000000 in
set_option maxRecDepth 100000 in
theorem kX9_knowsBy_p57 {p : Program} {l : Launch} {e : Env} {s : State} {m : MethodId} {args : Array Value} {below : List Frame} {meth : Method} {c : Code} {A : Nat → Prop} (dC : Nat → ClassId) (dI : Nat → Nat → Nat) (cB cI cJ cZ : ClassId) (a : Nat → Nat) (C0 : cxt cX9_knowsBy (some .int) 7 RX9 wsX9_knowsBy (dC, dI) (tyz cB cI cJ cZ) E_0 A p s m args meth c) (n : Nat) (m_letters : Nat → Int32) (m_words : Int32) (m_wMany : Nat → Int32) (m_wLetters : Nat → Int32) (m_asks : Int32) (m_aWords : Nat → Int32) (m_dLetters : Nat → Int32) (m_dWords : Int32) (m_dMany : Nat → Int32) (m_dText : Nat → Int32) (m_dAsks : Int32) (m_dAsk : Nat → Int32) (m_tape : Nat → Int32) (m_taped : Int32) (m_pos : Int32) (m_from : Int32) (m_sort : Int32) (m_value : Int32) (m_fault : Int32) (m_wrongAt : Int32) (m_manyA : Int32) (m_rowA : Nat → Int32) (m_manyB : Int32) (m_rowB : Nat → Int32) (m_places : Int32) (m_xs : Nat → Int32) (m_ys : Nat → Int32) (m_heights : Nat → Int32) (m_ridges : Int32) (m_rx : Nat → Int32) (m_rHeight : Nat → Int32) (m_lanes : Nat → Int32) (m_sizes : Nat → Int32) (m_cells : Nat → Int32) (m_left : Nat → Int32) (m_calls : Int32) (m_cDay : Nat → Int32) (m_cHour : Nat → Int32) (m_cFrom : Nat → Int32) (m_cAsk : Nat → Int32) (m_cWord : Nat → Int32) (m_cOf : Nat → Int32) (m_isLie : Nat → Int32) (m_children : Int32) (m_learned : Nat → Int32) (m_group : Nat → Int32)  (x1 : Int32) (x2 : Int32) (x3 : Int32) (x4 : Int32) (x5 : Int32) (s0 : Int32) (r0 : Int32) (z_m_manyA : Int32) (z_m_rowA : Nat → Int32) (z_m_manyB : Int32) (z_m_rowB : Nat → Int32) (rec6 : Int32 → (Nat → Int32) → Int32 → (Nat → Int32) → Int32 → Int32 → Option (Int32 × Int32 × (Nat → Int32) × Int32 × (Nat → Int32))) (hrec6 : ∀ (y_m_manyA : Int32) (y_m_rowA : Nat → Int32) (y_m_manyB : Int32) (y_m_rowB : Nat → Int32) (y_x4 : Int32) (y_x5 : Int32) (H : Heap) (locs : List Loc) (ls : Array Slot), rec6 y_m_manyA y_m_rowA y_m_manyB y_m_rowB y_x4 y_x5 = some (r0, z_m_manyA, z_m_rowA, z_m_manyB, z_m_rowB) → va_P (dC, dI) vwCl (wM cB cI cJ cZ a m_letters m_words m_wMany m_wLetters m_asks m_aWords m_dLetters m_dWords m_dMany m_dText m_dAsks m_dAsk m_tape m_taped m_pos m_from m_sort m_value m_fault m_wrongAt y_m_manyA y_m_rowA y_m_manyB y_m_rowB m_places m_xs m_ys m_heights m_ridges m_rx m_rHeight m_lanes m_sizes m_cells m_left m_calls m_cDay m_cHour m_cFrom m_cAsk m_cWord m_cOf m_isLie m_children m_learned m_group) H → va_D A (wM cB cI cJ cZ a m_letters m_words m_wMany m_wLetters m_asks m_aWords m_dLetters m_dWords m_dMany m_dText m_dAsks m_dAsk m_tape m_taped m_pos m_from m_sort m_value m_fault m_wrongAt y_m_manyA y_m_rowA y_m_manyB y_m_rowB m_places m_xs m_ys m_heights m_ridges m_rx m_rHeight m_lanes m_sizes m_cells m_left m_calls m_cDay m_cHour m_cFrom m_cAsk m_cWord m_cOf m_isLie m_children m_learned m_group) → va_S A s.heap H locs → lv_has ls 7 [(0, .ref (a 0)), (1, .int x1), (2, .int x2), (3, .int x3), (4, .int y_x4), (5, .int y_x5)] → W p l e { frames := 6, cells := 0, slots := 0, locals := 145 } s m args below meth c H locs 0 0 (MQ below (gI (dC, dI) (tyz cB cI cJ cZ) (wM cB cI cJ cZ a m_letters m_words m_wMany m_wLetters m_asks m_aWords m_dLetters m_dWords m_dMany m_dText m_dAsks m_dAsk m_tape m_taped m_pos m_from m_sort m_value m_fault m_wrongAt z_m_manyA z_m_rowA z_m_manyB z_m_rowB m_places m_xs m_ys m_heights m_ridges m_rx m_rHeight m_lanes m_sizes m_cells m_left m_calls m_cDay m_cHour m_cFrom m_cAsk m_cWord m_cOf m_isLie m_children m_learned m_group) A r0) args s 0 0 A) (F0 m 6 ls [])) (H : Heap) (locs : List Loc) (ls : Array Slot) : fX9_knowsBy_p57 n m_letters m_words m_wMany m_wLetters m_aWords m_manyA m_rowA m_manyB m_rowB m_xs m_ys m_heights m_ridges m_rx m_rHeight m_lanes m_sizes m_cells m_cHour m_cFrom m_cAsk m_cWord m_cOf m_isLie x1 x2 x3 x4 x5 s0 rec6 = some (r0, z_m_manyA, z_m_rowA, z_m_manyB, z_m_rowB) → va_P (dC, dI) vwCl (wM cB cI cJ cZ a m_letters m_words m_wMany m_wLetters m_asks m_aWords m_dLetters m_dWords m_dMany m_dText m_dAsks m_dAsk m_tape m_taped m_pos m_from m_sort m_value m_fault m_wrongAt m_manyA m_rowA m_manyB m_rowB m_places m_xs m_ys m_heights m_ridges m_rx m_rHeight m_lanes m_sizes m_cells m_left m_calls m_cDay m_cHour m_cFrom m_cAsk m_cWord m_cOf m_isLie m_children m_learned m_group) H → va_D A (wM cB cI cJ cZ a m_letters m_words m_wMany m_wLetters m_asks m_aWords m_dLetters m_dWords m_dMany m_dText m_dAsks m_dAsk m_tape m_taped m_pos m_from m_sort m_value m_fault m_wrongAt m_manyA m_rowA m_manyB m_rowB m_places m_xs m_ys m_heights m_ridges m_rx m_rHeight m_lanes m_sizes m_cells m_left m_calls m_cDay m_cHour m_cFrom m_cAsk m_cWord m_cOf m_isLie m_children m_learned m_group) → va_S A s.heap H locs → lv_has ls 7 [(0, .ref (a 0)), (1, .int x1), (2, .int x2), (3, .int x3), (4, .int x4), (5, .int x5)] → W p l e { frames := 6, cells := 0, slots := 0, locals := 145 } s m args below meth c H locs 0 0 (MQ below (gI (dC, dI) (tyz cB cI cJ cZ) (wM cB cI cJ cZ a m_letters m_words m_wMany m_wLetters m_asks m_aWords m_dLetters m_dWords m_dMany m_dText m_dAsks m_dAsk m_tape m_taped m_pos m_from m_sort m_value m_fault m_wrongAt z_m_manyA z_m_rowA z_m_manyB z_m_rowB m_places m_xs m_ys m_heights m_ridges m_rx m_rHeight m_lanes m_sizes m_cells m_left m_calls m_cDay m_cHour m_cFrom m_cAsk m_cWord m_cOf m_isLie m_children m_learned m_group) A r0) args s 0 0 A) (F0 m 57 ls [.int s0]) := by
  intro h hP hD hS hl
  obtain ⟨hx, hb, hr, hml, hown, hts, hlocks, hK, hA, hE⟩ := id C0
  have hw0 := hts (.fieldLink RX9 76 "WhistledWordsModel" "cFrom" "[I") (by decide +kernel)
  have hw1 := hts (.fieldLink RX9 82 "WhistledWordsModel" "cWord" "[I") (by decide +kernel)
  have hnX9 : ∀ w ∈ u_ws RX9 TX9 46, w ∈ wsX9_knowsBy := fun _ h => List.mem_cons_of_mem _ (List.mem_append_right _ h)
  unfold fX9_knowsBy_p57 at h
  refine lv_istore (lv' := [(6, .int s0), (0, .ref (a 0)), (1, .int x1), (2, .int x2), (3, .int x3), (4, .int x4), (5, .int x5)]) hx hb dX9_knowsBy_57 hl (by decide) rfl (fun ls hl => ?_)
  refine lv_iload hx hb dX9_knowsBy_59 (lv_at hl 5 rfl) ?_
  refine lv_aload_n hx hb dX9_knowsBy_61 rfl (lv_at hl 1 rfl) ?_
  refine gM_mo_cFrom hx hb hts hnX9 hown hK hP hw0 dX9_knowsBy_62 ?_
  refine lv_iload hx hb dX9_knowsBy_65 (lv_at hl 6 rfl) ?_
  obtain ⟨hiv1, h⟩ := ar_use h
  refine lM_mo_cFrom hx hb hK hP hiv1 dX9_knowsBy_67 ?_
  refine lv_topi (fun v1 ev1 => ?_)
  have h := h v1 ev1
  refine lv_iload_n hx hb dX9_knowsBy_68 rfl (lv_at hl 2 rfl) ?_
  refine lv_icmp_ne (tgt := 84) hx hb dX9_knowsBy_69 (by decide) (fun c2 => ?_) (fun c2 => ?_)
  · have h := ie_use c2 h
    refine lv_iconst (v := 0) hx hb dX9_knowsBy_84 (by decide) ?_
    exact kX9_knowsBy_p85 dC dI cB cI cJ cZ a C0 n m_letters m_words m_wMany m_wLetters m_asks m_aWords m_dLetters m_dWords m_dMany m_dText m_dAsks m_dAsk m_tape m_taped m_pos m_from m_sort m_value m_fault m_wrongAt m_manyA m_rowA m_manyB m_rowB m_places m_xs m_ys m_heights m_ridges m_rx m_rHeight m_lanes m_sizes m_cells m_left m_calls m_cDay m_cHour m_cFrom m_cAsk m_cWord m_cOf m_isLie m_children m_learned m_group x1 x2 x3 x5 s0 x4 (0 : Int32) r0 z_m_manyA z_m_rowA z_m_manyB z_m_rowB (rec6) hrec6 _ _ ls h hP hD hS (lv_sub hl [1, 2, 3, 4, 6, 0] rfl)
  · have h := it_use c2 h
    refine lv_iconst (v := 1) hx hb dX9_knowsBy_72 (by decide) ?_
    refine lv_aload_n hx hb dX9_knowsBy_73 rfl (lv_at hl 1 rfl) ?_
    refine gM_mo_cWord hx hb hts hnX9 hown hK hP hw1 dX9_knowsBy_74 ?_
    refine lv_iload hx hb dX9_knowsBy_77 (lv_at hl 6 rfl) ?_
    obtain ⟨hiv3, h⟩ := ar_use h
    refine lM_mo_cWord hx hb hK hP hiv3 dX9_knowsBy_79 ?_
    refine lv_topi (fun v3 ev3 => ?_)
    have h := h v3 ev3
    refine lv_ishl hx hb dX9_knowsBy_80 ?_
    refine lv_goto (tgt := 85) hx hb dX9_knowsBy_81 (by decide) ?_
    exact kX9_knowsBy_p85 dC dI cB cI cJ cZ a C0 n m_letters m_words m_wMany m_wLetters m_asks m_aWords m_dLetters m_dWords m_dMany m_dText m_dAsks m_dAsk m_tape m_taped m_pos m_from m_sort m_value m_fault m_wrongAt m_manyA m_rowA m_manyB m_rowB m_places m_xs m_ys m_heights m_ridges m_rx m_rHeight m_lanes m_sizes m_cells m_left m_calls m_cDay m_cHour m_cFrom m_cAsk m_cWord m_cOf m_isLie m_children m_learned m_group x1 x2 x3 x5 s0 x4 ((1 : Int32) <<< (v3 &&& 31)) r0 z_m_manyA z_m_rowA z_m_manyB z_m_rowB (rec6) hrec6 _ _ ls h hP hD hS (lv_sub hl [1, 2, 3, 4, 6, 0] rfl)
set_option maxHeartbeats 4000000 in
set_option maxRecDepth 100000 in
theorem kX9_knowsBy_p6_r {p : Program} {l : Launch} {e : Env} {s : State} {m : MethodId} {args : Array Value} {below : List Frame} {meth : Method} {c : Code} {A : Nat → Prop} (dC : Nat → ClassId) (dI : Nat → Nat → Nat) (cB cI cJ cZ : ClassId) (a : Nat → Nat) (C0 : cxt cX9_knowsBy (some .int) 7 RX9 wsX9_knowsBy (dC, dI) (tyz cB cI cJ cZ) E_0 A p s m args meth c) (n : Nat) (m_letters : Nat → Int32) (m_words : Int32) (m_wMany : Nat → Int32) (m_wLetters : Nat → Int32) (m_asks : Int32) (m_aWords : Nat → Int32) (m_dLetters : Nat → Int32) (m_dWords : Int32) (m_dMany : Nat → Int32) (m_dText : Nat → Int32) (m_dAsks : Int32) (m_dAsk : Nat → Int32) (m_tape : Nat → Int32) (m_taped : Int32) (m_pos : Int32) (m_from : Int32) (m_sort : Int32) (m_value : Int32) (m_fault : Int32) (m_wrongAt : Int32) (m_places : Int32) (m_xs : Nat → Int32) (m_ys : Nat → Int32) (m_heights : Nat → Int32) (m_ridges : Int32) (m_rx : Nat → Int32) (m_rHeight : Nat → Int32) (m_lanes : Nat → Int32) (m_sizes : Nat → Int32) (m_cells : Nat → Int32) (m_left : Nat → Int32) (m_calls : Int32) (m_cDay : Nat → Int32) (m_cHour : Nat → Int32) (m_cFrom : Nat → Int32) (m_cAsk : Nat → Int32) (m_cWord : Nat → Int32) (m_cOf : Nat → Int32) (m_isLie : Nat → Int32) (m_children : Int32) (m_learned : Nat → Int32) (m_group : Nat → Int32) (x1 : Int32) (x2 : Int32) (x3 : Int32) (r0 : Int32) (z_m_manyA : Int32) (z_m_rowA : Nat → Int32) (z_m_manyB : Int32) (z_m_rowB : Nat → Int32)  : ∀ (k : Nat) (m_manyA : Int32) (m_rowA : Nat → Int32) (m_manyB : Int32) (m_rowB : Nat → Int32) (x4 : Int32) (x5 : Int32) (H : Heap) (locs : List Loc) (ls : Array Slot), fX9_knowsBy_p6 n m_letters m_words m_wMany m_wLetters m_aWords m_xs m_ys m_heights m_ridges m_rx m_rHeight m_lanes m_sizes m_cells m_cHour m_cFrom m_cAsk m_cWord m_cOf m_isLie x1 x2 x3 k m_manyA m_rowA m_manyB m_rowB x4 x5 = some (r0, z_m_manyA, z_m_rowA, z_m_manyB, z_m_rowB) → va_P (dC, dI) vwCl (wM cB cI cJ cZ a m_letters m_words m_wMany m_wLetters m_asks m_aWords m_dLetters m_dWords m_dMany m_dText m_dAsks m_dAsk m_tape m_taped m_pos m_from m_sort m_value m_fault m_wrongAt m_manyA m_rowA m_manyB m_rowB m_places m_xs m_ys m_heights m_ridges m_rx m_rHeight m_lanes m_sizes m_cells m_left m_calls m_cDay m_cHour m_cFrom m_cAsk m_cWord m_cOf m_isLie m_children m_learned m_group) H → va_D A (wM cB cI cJ cZ a m_letters m_words m_wMany m_wLetters m_asks m_aWords m_dLetters m_dWords m_dMany m_dText m_dAsks m_dAsk m_tape m_taped m_pos m_from m_sort m_value m_fault m_wrongAt m_manyA m_rowA m_manyB m_rowB m_places m_xs m_ys m_heights m_ridges m_rx m_rHeight m_lanes m_sizes m_cells m_left m_calls m_cDay m_cHour m_cFrom m_cAsk m_cWord m_cOf m_isLie m_children m_learned m_group) → va_S A s.heap H locs → lv_has ls 7 [(0, .ref (a 0)), (1, .int x1), (2, .int x2), (3, .int x3), (4, .int x4), (5, .int x5)] → W p l e { frames := 6, cells := 0, slots := 0, locals := 145 } s m args below meth c H locs 0 0 (MQ below (gI (dC, dI) (tyz cB cI cJ cZ) (wM cB cI cJ cZ a m_letters m_words m_wMany m_wLetters m_asks m_aWords m_dLetters m_dWords m_dMany m_dText m_dAsks m_dAsk m_tape m_taped m_pos m_from m_sort m_value m_fault m_wrongAt z_m_manyA z_m_rowA z_m_manyB z_m_rowB m_places m_xs m_ys m_heights m_ridges m_rx m_rHeight m_lanes m_sizes m_cells m_left m_calls m_cDay m_cHour m_cFrom m_cAsk m_cWord m_cOf m_isLie m_children m_learned m_group) A r0) args s 0 0 A) (F0 m 6 ls []) := by
  obtain ⟨hx, hb, hr, hml, hown, hts, hlocks, hK, hA, hE⟩ := id C0
  have hw0 := hts (.fieldLink RX9 79 "WhistledWordsModel" "cAsk" "[I") (by decide +kernel)
  have hw1 := hts (.fieldLink RX9 85 "WhistledWordsModel" "cOf" "[I") (by decide +kernel)
  have hnX9 : ∀ w ∈ u_ws RX9 TX9 46, w ∈ wsX9_knowsBy := fun _ h => List.mem_cons_of_mem _ (List.mem_append_right _ h)
  intro k
  induction k with
  | zero =>
    intro m_manyA m_rowA m_manyB m_rowB x4 x5 H locs ls h
    cases h
  | succ k ih =>
    intro m_manyA m_rowA m_manyB m_rowB x4 x5 H locs ls h hP hD hS hl
    rw [fX9_knowsBy_p6] at h
    refine lv_iload hx hb dX9_knowsBy_6 (lv_at hl 5 rfl) ?_
    refine lv_iload_n hx hb dX9_knowsBy_8 rfl (lv_at hl 3 rfl) ?_
    refine lv_icmp_ge (tgt := 121) hx hb dX9_knowsBy_9 (by decide) (fun c1 => ?_) (fun c1 => ?_)
    · have h := it_use c1 h
      refine lv_iload hx hb dX9_knowsBy_121 (lv_at hl 4 rfl) ?_
      obtain ⟨er, ez0, ez1, ez2, ez3⟩ := rt5_use h
      subst ez0
      subst ez1
      subst ez2
      subst ez3
      exact re_i hx hb hr hlocks hK hP hD hS er dX9_knowsBy_123
    · have h := ie_use c1 h
      refine lv_aload_n hx hb dX9_knowsBy_12 rfl (lv_at hl 0 rfl) ?_
      refine gM_mo_cAsk hx hb hts hnX9 hown hK hP hw0 dX9_knowsBy_13 ?_
      refine lv_iload hx hb dX9_knowsBy_16 (lv_at hl 5 rfl) ?_
      obtain ⟨hiv2, h⟩ := ar_use h
      refine lM_mo_cAsk hx hb hK hP hiv2 dX9_knowsBy_18 ?_
      refine lv_topi (fun v2 ev2 => ?_)
      have h := h v2 ev2
      refine lv_iload_n hx hb dX9_knowsBy_19 rfl (lv_at hl 2 rfl) ?_
      refine lv_icmp_ne (tgt := 115) hx hb dX9_knowsBy_20 (by decide) (fun c3 => ?_) (fun c3 => ?_)
      · have h := ie_use c3 h
        refine lv_iinc (v := x5 + 1) (lv' := [(5, .int (x5 + 1)), (0, .ref (a 0)), (1, .int x1), (2, .int x2), (3, .int x3), (4, .int x4)]) hx hb dX9_knowsBy_115 hl (k := 5) rfl rfl (by decide) rfl (fun ls hl => ?_)
        refine lv_goto (tgt := 6) hx hb dX9_knowsBy_118 (by decide) ?_
        exact ih m_manyA m_rowA m_manyB m_rowB x4 (x5 + 1) _ _ ls h hP hD hS (lv_sub hl [1, 2, 3, 4, 5, 0] rfl)
      · have h := it_use c3 h
        refine lv_aload_n hx hb dX9_knowsBy_23 rfl (lv_at hl 0 rfl) ?_
        refine lv_iload hx hb dX9_knowsBy_24 (lv_at hl 5 rfl) ?_
        obtain ⟨v4, hc, h⟩ := bd1_use h
        refine cv_i (As := [.int x5]) (rest := []) ⟨hx, hb, hml, hown, hts⟩ (kX9_isFalse l n dC dI cB cI cJ cZ a _ m_letters m_words m_wMany m_wLetters m_asks m_aWords m_dLetters m_dWords m_dMany m_dText m_dAsks m_dAsk m_tape m_taped m_pos m_from m_sort m_value m_fault m_wrongAt m_manyA m_rowA m_manyB m_rowB m_places m_xs m_ys m_heights m_ridges m_rx m_rHeight m_lanes m_sizes m_cells m_left m_calls m_cDay m_cHour m_cFrom m_cAsk m_cWord m_cOf m_isLie m_children m_learned m_group x5 v4 hc) (cwV 1 hts gX9_knowsBy_X9_isFalse rfl rfl rfl (by decide +kernel) ⟨Nat.le_of_ble_eq_true rfl, Nat.le_of_ble_eq_true rfl⟩) EB_0 hE hK hP hD hS hA 0 (ci := 8) rfl rfl rfl rfl hl.1 rfl (Nat.le_of_ble_eq_true rfl) dX9_knowsBy_26 ⟨Nat.zero_le _, Nat.zero_le _⟩ (fun H locs hP hD hS => ?_)
        refine lv_if_ne (tgt := 115) hx hb dX9_knowsBy_29 (by decide) (fun c5 => ?_) (fun c5 => ?_)
        · have h := ie_use c5 h
          refine lv_iinc (v := x5 + 1) (lv' := [(5, .int (x5 + 1)), (0, .ref (a 0)), (1, .int x1), (2, .int x2), (3, .int x3), (4, .int x4)]) hx hb dX9_knowsBy_115 hl (k := 5) rfl rfl (by decide) rfl (fun ls hl => ?_)
          refine lv_goto (tgt := 6) hx hb dX9_knowsBy_118 (by decide) ?_
          exact ih m_manyA m_rowA m_manyB m_rowB x4 (x5 + 1) _ _ ls h hP hD hS (lv_sub hl [1, 2, 3, 4, 5, 0] rfl)
        · have h := it_use c5 h
          refine lv_aload_n hx hb dX9_knowsBy_32 rfl (lv_at hl 0 rfl) ?_
          refine gM_mo_cOf hx hb hts hnX9 hown hK hP hw1 dX9_knowsBy_33 ?_
          refine lv_iload hx hb dX9_knowsBy_36 (lv_at hl 5 rfl) ?_
          obtain ⟨hiv6, h⟩ := ar_use h
          refine lM_mo_cOf hx hb hK hP hiv6 dX9_knowsBy_38 ?_
          refine lv_topi (fun v6 ev6 => ?_)
          have h := h v6 ev6
          refine lv_bipush (v := -4) hx hb dX9_knowsBy_39 (by decide) ?_
          refine lv_icmp_ne (tgt := 55) hx hb dX9_knowsBy_41 (by decide) (fun c7 => ?_) (fun c7 => ?_)
          · have h := ie_use c7 h
            refine lv_bipush (v := -4) hx hb dX9_knowsBy_55 (by decide) ?_
            exact kX9_knowsBy_p57 dC dI cB cI cJ cZ a C0 n m_letters m_words m_wMany m_wLetters m_asks m_aWords m_dLetters m_dWords m_dMany m_dText m_dAsks m_dAsk m_tape m_taped m_pos m_from m_sort m_value m_fault m_wrongAt m_manyA m_rowA m_manyB m_rowB m_places m_xs m_ys m_heights m_ridges m_rx m_rHeight m_lanes m_sizes m_cells m_left m_calls m_cDay m_cHour m_cFrom m_cAsk m_cWord m_cOf m_isLie m_children m_learned m_group x1 x2 x3 x4 x5 (-4 : Int32) r0 z_m_manyA z_m_rowA z_m_manyB z_m_rowB (fX9_knowsBy_p6 n m_letters m_words m_wMany m_wLetters m_aWords m_xs m_ys m_heights m_ridges m_rx m_rHeight m_lanes m_sizes m_cells m_cHour m_cFrom m_cAsk m_cWord m_cOf m_isLie x1 x2 x3 k) ih _ _ ls h hP hD hS (lv_sub hl [0, 1, 2, 3, 4, 5] rfl)
          · have h := it_use c7 h
            refine lv_aload_n hx hb dX9_knowsBy_44 rfl (lv_at hl 0 rfl) ?_
            refine lv_iload_n hx hb dX9_knowsBy_45 rfl (lv_at hl 1 rfl) ?_
            refine lv_iload hx hb dX9_knowsBy_46 (lv_at hl 5 rfl) ?_
            refine lv_iload_n hx hb dX9_knowsBy_48 rfl (lv_at hl 3 rfl) ?_
            obtain ⟨v8, v9, f10, v11, f12, hc, h⟩ := bd5_use h
            refine cv_i (As := [.int x1, .int x5, .int x3]) (rest := []) ⟨hx, hb, hml, hown, hts⟩ (kX9_hasAll l n dC dI cB cI cJ cZ a _ m_letters m_words m_wMany m_wLetters m_asks m_aWords m_dLetters m_dWords m_dMany m_dText m_dAsks m_dAsk m_tape m_taped m_pos m_from m_sort m_value m_fault m_wrongAt m_manyA m_rowA m_manyB m_rowB m_places m_xs m_ys m_heights m_ridges m_rx m_rHeight m_lanes m_sizes m_cells m_left m_calls m_cDay m_cHour m_cFrom m_cAsk m_cWord m_cOf m_isLie m_children m_learned m_group x1 x5 x3 v8 v9 f10 v11 f12 hc) (cwV 3 hts gX9_knowsBy_X9_hasAll rfl rfl rfl (by decide +kernel) ⟨Nat.le_of_ble_eq_true rfl, Nat.le_of_ble_eq_true rfl⟩) EB_0 hE hK hP hD hS hA 0 (ci := 8) rfl rfl rfl rfl hl.1 rfl (Nat.le_of_ble_eq_true rfl) dX9_knowsBy_49 ⟨Nat.zero_le _, Nat.zero_le _⟩ (fun H locs hP hD hS => ?_)
            refine lv_goto (tgt := 57) hx hb dX9_knowsBy_52 (by decide) ?_
            exact kX9_knowsBy_p57 dC dI cB cI cJ cZ a C0 n m_letters m_words m_wMany m_wLetters m_asks m_aWords m_dLetters m_dWords m_dMany m_dText m_dAsks m_dAsk m_tape m_taped m_pos m_from m_sort m_value m_fault m_wrongAt v9 f10 v11 f12 m_places m_xs m_ys m_heights m_ridges m_rx m_rHeight m_lanes m_sizes m_cells m_left m_calls m_cDay m_cHour m_cFrom m_cAsk m_cWord m_cOf m_isLie m_children m_learned m_group x1 x2 x3 x4 x5 v8 r0 z_m_manyA z_m_rowA z_m_manyB z_m_rowB (fX9_knowsBy_p6 n m_letters m_words m_wMany m_wLetters m_aWords m_xs m_ys m_heights m_ridges m_rx m_rHeight m_lanes m_sizes m_cells m_cHour m_cFrom m_cAsk m_cWord m_cOf m_isLie x1 x2 x3 k) ih _ _ ls h hP hD hS (lv_sub hl [0, 1, 2, 3, 4, 5] rfl)
theorem kX9_knowsBy_p6 {p : Program} {l : Launch} {e : Env} {s : State} {m : MethodId} {args : Array Value} {below : List Frame} {meth : Method} {c : Code} {A : Nat → Prop} (dC : Nat → ClassId) (dI : Nat → Nat → Nat) (cB cI cJ cZ : ClassId) (a : Nat → Nat) (C0 : cxt cX9_knowsBy (some .int) 7 RX9 wsX9_knowsBy (dC, dI) (tyz cB cI cJ cZ) E_0 A p s m args meth c) (n : Nat) (m_letters : Nat → Int32) (m_words : Int32) (m_wMany : Nat → Int32) (m_wLetters : Nat → Int32) (m_asks : Int32) (m_aWords : Nat → Int32) (m_dLetters : Nat → Int32) (m_dWords : Int32) (m_dMany : Nat → Int32) (m_dText : Nat → Int32) (m_dAsks : Int32) (m_dAsk : Nat → Int32) (m_tape : Nat → Int32) (m_taped : Int32) (m_pos : Int32) (m_from : Int32) (m_sort : Int32) (m_value : Int32) (m_fault : Int32) (m_wrongAt : Int32) (m_manyA : Int32) (m_rowA : Nat → Int32) (m_manyB : Int32) (m_rowB : Nat → Int32) (m_places : Int32) (m_xs : Nat → Int32) (m_ys : Nat → Int32) (m_heights : Nat → Int32) (m_ridges : Int32) (m_rx : Nat → Int32) (m_rHeight : Nat → Int32) (m_lanes : Nat → Int32) (m_sizes : Nat → Int32) (m_cells : Nat → Int32) (m_left : Nat → Int32) (m_calls : Int32) (m_cDay : Nat → Int32) (m_cHour : Nat → Int32) (m_cFrom : Nat → Int32) (m_cAsk : Nat → Int32) (m_cWord : Nat → Int32) (m_cOf : Nat → Int32) (m_isLie : Nat → Int32) (m_children : Int32) (m_learned : Nat → Int32) (m_group : Nat → Int32)  (x1 : Int32) (x2 : Int32) (x3 : Int32) (x4 : Int32) (x5 : Int32) (r0 : Int32) (z_m_manyA : Int32) (z_m_rowA : Nat → Int32) (z_m_manyB : Int32) (z_m_rowB : Nat → Int32)  (k : Nat) (H : Heap) (locs : List Loc) (ls : Array Slot) : fX9_knowsBy_p6 n m_letters m_words m_wMany m_wLetters m_aWords m_xs m_ys m_heights m_ridges m_rx m_rHeight m_lanes m_sizes m_cells m_cHour m_cFrom m_cAsk m_cWord m_cOf m_isLie x1 x2 x3 k m_manyA m_rowA m_manyB m_rowB x4 x5 = some (r0, z_m_manyA, z_m_rowA, z_m_manyB, z_m_rowB) → va_P (dC, dI) vwCl (wM cB cI cJ cZ a m_letters m_words m_wMany m_wLetters m_asks m_aWords m_dLetters m_dWords m_dMany m_dText m_dAsks m_dAsk m_tape m_taped m_pos m_from m_sort m_value m_fault m_wrongAt m_manyA m_rowA m_manyB m_rowB m_places m_xs m_ys m_heights m_ridges m_rx m_rHeight m_lanes m_sizes m_cells m_left m_calls m_cDay m_cHour m_cFrom m_cAsk m_cWord m_cOf m_isLie m_children m_learned m_group) H → va_D A (wM cB cI cJ cZ a m_letters m_words m_wMany m_wLetters m_asks m_aWords m_dLetters m_dWords m_dMany m_dText m_dAsks m_dAsk m_tape m_taped m_pos m_from m_sort m_value m_fault m_wrongAt m_manyA m_rowA m_manyB m_rowB m_places m_xs m_ys m_heights m_ridges m_rx m_rHeight m_lanes m_sizes m_cells m_left m_calls m_cDay m_cHour m_cFrom m_cAsk m_cWord m_cOf m_isLie m_children m_learned m_group) → va_S A s.heap H locs → lv_has ls 7 [(0, .ref (a 0)), (1, .int x1), (2, .int x2), (3, .int x3), (4, .int x4), (5, .int x5)] → W p l e { frames := 6, cells := 0, slots := 0, locals := 145 } s m args below meth c H locs 0 0 (MQ below (gI (dC, dI) (tyz cB cI cJ cZ) (wM cB cI cJ cZ a m_letters m_words m_wMany m_wLetters m_asks m_aWords m_dLetters m_dWords m_dMany m_dText m_dAsks m_dAsk m_tape m_taped m_pos m_from m_sort m_value m_fault m_wrongAt z_m_manyA z_m_rowA z_m_manyB z_m_rowB m_places m_xs m_ys m_heights m_ridges m_rx m_rHeight m_lanes m_sizes m_cells m_left m_calls m_cDay m_cHour m_cFrom m_cAsk m_cWord m_cOf m_isLie m_children m_learned m_group) A r0) args s 0 0 A) (F0 m 6 ls []) :=
  kX9_knowsBy_p6_r dC dI cB cI cJ cZ a C0 n m_letters m_words m_wMany m_wLetters m_asks m_aWords m_dLetters m_dWords m_dMany m_dText m_dAsks m_dAsk m_tape m_taped m_pos m_from m_sort m_value m_fault m_wrongAt m_places m_xs m_ys m_heights m_ridges m_rx m_rHeight m_lanes m_sizes m_cells m_left m_calls m_cDay m_cHour m_cFrom m_cAsk m_cWord m_cOf m_isLie m_children m_learned m_group x1 x2 x3 r0 z_m_manyA z_m_rowA z_m_manyB z_m_rowB  k m_manyA m_rowA m_manyB m_rowB x4 x5 H locs ls
set_option maxHeartbeats 4000000 in
set_option maxRecDepth 100000 in
theorem kX9_knowsBy (l : Launch) (n : Nat) (dC : Nat → ClassId) (dI : Nat → Nat → Nat) (cB cI cJ cZ : ClassId) (a : Nat → Nat) (sz : Nat) (m_letters : Nat → Int32) (m_words : Int32) (m_wMany : Nat → Int32) (m_wLetters : Nat → Int32) (m_asks : Int32) (m_aWords : Nat → Int32) (m_dLetters : Nat → Int32) (m_dWords : Int32) (m_dMany : Nat → Int32) (m_dText : Nat → Int32) (m_dAsks : Int32) (m_dAsk : Nat → Int32) (m_tape : Nat → Int32) (m_taped : Int32) (m_pos : Int32) (m_from : Int32) (m_sort : Int32) (m_value : Int32) (m_fault : Int32) (m_wrongAt : Int32) (m_manyA : Int32) (m_rowA : Nat → Int32) (m_manyB : Int32) (m_rowB : Nat → Int32) (m_places : Int32) (m_xs : Nat → Int32) (m_ys : Nat → Int32) (m_heights : Nat → Int32) (m_ridges : Int32) (m_rx : Nat → Int32) (m_rHeight : Nat → Int32) (m_lanes : Nat → Int32) (m_sizes : Nat → Int32) (m_cells : Nat → Int32) (m_left : Nat → Int32) (m_calls : Int32) (m_cDay : Nat → Int32) (m_cHour : Nat → Int32) (m_cFrom : Nat → Int32) (m_cAsk : Nat → Int32) (m_cWord : Nat → Int32) (m_cOf : Nat → Int32) (m_isLie : Nat → Int32) (m_children : Int32) (m_learned : Nat → Int32) (m_group : Nat → Int32) (x1 : Int32) (x2 : Int32) (x3 : Int32) (r0 : Int32) (z_m_manyA : Int32) (z_m_rowA : Nat → Int32) (z_m_manyB : Int32) (z_m_rowB : Nat → Int32) (h : fX9_knowsBy n m_letters m_words m_wMany m_wLetters m_aWords m_manyA m_rowA m_manyB m_rowB m_xs m_ys m_heights m_ridges m_rx m_rHeight m_lanes m_sizes m_cells m_cHour m_cFrom m_cAsk m_cWord m_cOf m_isLie x1 x2 x3 = some (r0, z_m_manyA, z_m_rowA, z_m_manyB, z_m_rowB)) : Met l yX9_knowsBy wsX9_knowsBy ({ frames := 6, cells := 0, slots := 0, locals := 145 }) (gP (dC, dI) (tyz cB cI cJ cZ) E_0 (wM cB cI cJ cZ a m_letters m_words m_wMany m_wLetters m_asks m_aWords m_dLetters m_dWords m_dMany m_dText m_dAsks m_dAsk m_tape m_taped m_pos m_from m_sort m_value m_fault m_wrongAt m_manyA m_rowA m_manyB m_rowB m_places m_xs m_ys m_heights m_ridges m_rx m_rHeight m_lanes m_sizes m_cells m_left m_calls m_cDay m_cHour m_cFrom m_cAsk m_cWord m_cOf m_isLie m_children m_learned m_group) sz [.ref (a 0), .int x1, .int x2, .int x3]) (gI (dC, dI) (tyz cB cI cJ cZ) (wM cB cI cJ cZ a m_letters m_words m_wMany m_wLetters m_asks m_aWords m_dLetters m_dWords m_dMany m_dText m_dAsks m_dAsk m_tape m_taped m_pos m_from m_sort m_value m_fault m_wrongAt z_m_manyA z_m_rowA z_m_manyB z_m_rowB m_places m_xs m_ys m_heights m_ridges m_rx m_rHeight m_lanes m_sizes m_cells m_left m_calls m_cDay m_cHour m_cFrom m_cAsk m_cWord m_cOf m_isLie m_children m_learned m_group) (va_A (wM cB cI cJ cZ a m_letters m_words m_wMany m_wLetters m_asks m_aWords m_dLetters m_dWords m_dMany m_dText m_dAsks m_dAsk m_tape m_taped m_pos m_from m_sort m_value m_fault m_wrongAt m_manyA m_rowA m_manyB m_rowB m_places m_xs m_ys m_heights m_ridges m_rx m_rHeight m_lanes m_sizes m_cells m_left m_calls m_cDay m_cHour m_cFrom m_cAsk m_cWord m_cOf m_isLie m_children m_learned m_group) sz) r0) 0 0 (va_A (wM cB cI cJ cZ a m_letters m_words m_wMany m_wLetters m_asks m_aWords m_dLetters m_dWords m_dMany m_dText m_dAsks m_dAsk m_tape m_taped m_pos m_from m_sort m_value m_fault m_wrongAt m_manyA m_rowA m_manyB m_rowB m_places m_xs m_ys m_heights m_ridges m_rx m_rHeight m_lanes m_sizes m_cells m_left m_calls m_cDay m_cHour m_cFrom m_cAsk m_cWord m_cOf m_isLie m_children m_learned m_group) sz) := by
  refine Met.ofW (cc := cX9_knowsBy) (maxL := 7) (ret := (some .int)) (by decide) rfl ?_
  intro p e s m args below meth c s₁ B hml hv
  obtain ⟨rfl, hsz, hP, hK, hD0, hE⟩ := hv
  have hx := B.exec
  have hb := B.bytes
  have hr := B.returns
  have hts := atoms_spec (ws := wsX9_knowsBy) B.pre
  have hown : s.vm.findClass RX9 = some m.cls := findClass_of_methodNamed B.named
  have hlocks := B.notSynchronized
  subst hsz
  have hD := hD0.self (sz := s.heap.size)
  have hA : ∀ q : Nat, s.heap.size ≤ q → va_A (wM cB cI cJ cZ a m_letters m_words m_wMany m_wLetters m_asks m_aWords m_dLetters m_dWords m_dMany m_dText m_dAsks m_dAsk m_tape m_taped m_pos m_from m_sort m_value m_fault m_wrongAt m_manyA m_rowA m_manyB m_rowB m_places m_xs m_ys m_heights m_ridges m_rx m_rHeight m_lanes m_sizes m_cells m_left m_calls m_cDay m_cHour m_cFrom m_cAsk m_cWord m_cOf m_isLie m_children m_learned m_group) s.heap.size q := fun q h => Or.inr h
  generalize va_A (wM cB cI cJ cZ a m_letters m_words m_wMany m_wLetters m_asks m_aWords m_dLetters m_dWords m_dMany m_dText m_dAsks m_dAsk m_tape m_taped m_pos m_from m_sort m_value m_fault m_wrongAt m_manyA m_rowA m_manyB m_rowB m_places m_xs m_ys m_heights m_ridges m_rx m_rHeight m_lanes m_sizes m_cells m_left m_calls m_cDay m_cHour m_cFrom m_cAsk m_cWord m_cOf m_isLie m_children m_learned m_group) s.heap.size = A at hD hA hE ⊢
  have hS : va_S A s.heap s.heap [] := va_S.rf
  have C0 : cxt cX9_knowsBy (some .int) 7 RX9 wsX9_knowsBy (dC, dI) (tyz cB cI cJ cZ) E_0 A p s m ([.ref (a 0), .int x1, .int x2, .int x3] : List Value).toArray meth c := ⟨hx, hb, hr, hml, hown, hts, hlocks, hK, hA, hE⟩
  have hl := lv_entry ([.ref (a 0), .int x1, .int x2, .int x3]) (n := 7) (Nat.le_of_ble_eq_true rfl)
  rw [lg_entry_eq]
  generalize (lg_sl ([.ref (a 0), .int x1, .int x2, .int x3]) ++ List.replicate (7 - (lg_sl ([.ref (a 0), .int x1, .int x2, .int x3])).length) Slot.unset).toArray = ls at hl ⊢
  have hl : lv_has ls 7 [(0, .ref (a 0)), (1, .int x1), (2, .int x2), (3, .int x3)] := hl
  unfold fX9_knowsBy at h
  refine lv_iconst (v := 0) hx hb dX9_knowsBy_0 (by decide) ?_
  refine lv_istore (lv' := [(4, .int (0 : Int32)), (0, .ref (a 0)), (1, .int x1), (2, .int x2), (3, .int x3)]) hx hb dX9_knowsBy_1 hl (by decide) rfl (fun ls hl => ?_)
  refine lv_iconst (v := 0) hx hb dX9_knowsBy_3 (by decide) ?_
  refine lv_istore (lv' := [(5, .int (0 : Int32)), (4, .int (0 : Int32)), (0, .ref (a 0)), (1, .int x1), (2, .int x2), (3, .int x3)]) hx hb dX9_knowsBy_4 hl (by decide) rfl (fun ls hl => ?_)
  exact kX9_knowsBy_p6 dC dI cB cI cJ cZ a C0 n m_letters m_words m_wMany m_wLetters m_asks m_aWords m_dLetters m_dWords m_dMany m_dText m_dAsks m_dAsk m_tape m_taped m_pos m_from m_sort m_value m_fault m_wrongAt m_manyA m_rowA m_manyB m_rowB m_places m_xs m_ys m_heights m_ridges m_rx m_rHeight m_lanes m_sizes m_cells m_left m_calls m_cDay m_cHour m_cFrom m_cAsk m_cWord m_cOf m_isLie m_children m_learned m_group x1 x2 x3 (0 : Int32) (0 : Int32) r0 z_m_manyA z_m_rowA z_m_manyB z_m_rowB  n _ _ ls h hP hD hS (lv_sub hl [2, 3, 4, 5, 1, 0] rfl)
set_option maxHeartbeats 4000000 in
set_option maxRecDepth 100000 in
theorem kX9_knows (l : Launch) (n : Nat) (dC : Nat → ClassId) (dI : Nat → Nat → Nat) (cB cI cJ cZ : ClassId) (a : Nat → Nat) (sz : Nat) (m_letters : Nat → Int32) (m_words : Int32) (m_wMany : Nat → Int32) (m_wLetters : Nat → Int32) (m_asks : Int32) (m_aWords : Nat → Int32) (m_dLetters : Nat → Int32) (m_dWords : Int32) (m_dMany : Nat → Int32) (m_dText : Nat → Int32) (m_dAsks : Int32) (m_dAsk : Nat → Int32) (m_tape : Nat → Int32) (m_taped : Int32) (m_pos : Int32) (m_from : Int32) (m_sort : Int32) (m_value : Int32) (m_fault : Int32) (m_wrongAt : Int32) (m_manyA : Int32) (m_rowA : Nat → Int32) (m_manyB : Int32) (m_rowB : Nat → Int32) (m_places : Int32) (m_xs : Nat → Int32) (m_ys : Nat → Int32) (m_heights : Nat → Int32) (m_ridges : Int32) (m_rx : Nat → Int32) (m_rHeight : Nat → Int32) (m_lanes : Nat → Int32) (m_sizes : Nat → Int32) (m_cells : Nat → Int32) (m_left : Nat → Int32) (m_calls : Int32) (m_cDay : Nat → Int32) (m_cHour : Nat → Int32) (m_cFrom : Nat → Int32) (m_cAsk : Nat → Int32) (m_cWord : Nat → Int32) (m_cOf : Nat → Int32) (m_isLie : Nat → Int32) (m_children : Int32) (m_learned : Nat → Int32) (m_group : Nat → Int32) (x1 : Int32) (x2 : Int32) (x3 : Int32) (x4 : Int32) (r0 : Int32) (z_m_manyA : Int32) (z_m_rowA : Nat → Int32) (z_m_manyB : Int32) (z_m_rowB : Nat → Int32) (h : fX9_knows n m_letters m_words m_wMany m_wLetters m_asks m_aWords m_manyA m_rowA m_manyB m_rowB m_places m_xs m_ys m_heights m_ridges m_rx m_rHeight m_lanes m_sizes m_cells m_calls m_cDay m_cHour m_cFrom m_cAsk m_cWord m_cOf m_isLie x1 x2 x3 x4 = some (r0, z_m_manyA, z_m_rowA, z_m_manyB, z_m_rowB)) : Met l yX9_knows wsX9_knows ({ frames := 7, cells := 0, slots := 0, locals := 171 }) (gP (dC, dI) (tyz cB cI cJ cZ) E_0 (wM cB cI cJ cZ a m_letters m_words m_wMany m_wLetters m_asks m_aWords m_dLetters m_dWords m_dMany m_dText m_dAsks m_dAsk m_tape m_taped m_pos m_from m_sort m_value m_fault m_wrongAt m_manyA m_rowA m_manyB m_rowB m_places m_xs m_ys m_heights m_ridges m_rx m_rHeight m_lanes m_sizes m_cells m_left m_calls m_cDay m_cHour m_cFrom m_cAsk m_cWord m_cOf m_isLie m_children m_learned m_group) sz [.ref (a 0), .int x1, .int x2, .int x3, .int x4]) (gI (dC, dI) (tyz cB cI cJ cZ) (wM cB cI cJ cZ a m_letters m_words m_wMany m_wLetters m_asks m_aWords m_dLetters m_dWords m_dMany m_dText m_dAsks m_dAsk m_tape m_taped m_pos m_from m_sort m_value m_fault m_wrongAt z_m_manyA z_m_rowA z_m_manyB z_m_rowB m_places m_xs m_ys m_heights m_ridges m_rx m_rHeight m_lanes m_sizes m_cells m_left m_calls m_cDay m_cHour m_cFrom m_cAsk m_cWord m_cOf m_isLie m_children m_learned m_group) (va_A (wM cB cI cJ cZ a m_letters m_words m_wMany m_wLetters m_asks m_aWords m_dLetters m_dWords m_dMany m_dText m_dAsks m_dAsk m_tape m_taped m_pos m_from m_sort m_value m_fault m_wrongAt m_manyA m_rowA m_manyB m_rowB m_places m_xs m_ys m_heights m_ridges m_rx m_rHeight m_lanes m_sizes m_cells m_left m_calls m_cDay m_cHour m_cFrom m_cAsk m_cWord m_cOf m_isLie m_children m_learned m_group) sz) r0) 0 0 (va_A (wM cB cI cJ cZ a m_letters m_words m_wMany m_wLetters m_asks m_aWords m_dLetters m_dWords m_dMany m_dText m_dAsks m_dAsk m_tape m_taped m_pos m_from m_sort m_value m_fault m_wrongAt m_manyA m_rowA m_manyB m_rowB m_places m_xs m_ys m_heights m_ridges m_rx m_rHeight m_lanes m_sizes m_cells m_left m_calls m_cDay m_cHour m_cFrom m_cAsk m_cWord m_cOf m_isLie m_children m_learned m_group) sz) := by
  refine Met.ofW (cc := cX9_knows) (maxL := 5) (ret := (some .int)) (by decide) rfl ?_
  intro p e s m args below meth c s₁ B hml hv
  obtain ⟨rfl, hsz, hP, hK, hD0, hE⟩ := hv
  have hx := B.exec
  have hb := B.bytes
  have hr := B.returns
  have hts := atoms_spec (ws := wsX9_knows) B.pre
  have hown : s.vm.findClass RX9 = some m.cls := findClass_of_methodNamed B.named
  have hlocks := B.notSynchronized
  subst hsz
  have hD := hD0.self (sz := s.heap.size)
  have hA : ∀ q : Nat, s.heap.size ≤ q → va_A (wM cB cI cJ cZ a m_letters m_words m_wMany m_wLetters m_asks m_aWords m_dLetters m_dWords m_dMany m_dText m_dAsks m_dAsk m_tape m_taped m_pos m_from m_sort m_value m_fault m_wrongAt m_manyA m_rowA m_manyB m_rowB m_places m_xs m_ys m_heights m_ridges m_rx m_rHeight m_lanes m_sizes m_cells m_left m_calls m_cDay m_cHour m_cFrom m_cAsk m_cWord m_cOf m_isLie m_children m_learned m_group) s.heap.size q := fun q h => Or.inr h
  generalize va_A (wM cB cI cJ cZ a m_letters m_words m_wMany m_wLetters m_asks m_aWords m_dLetters m_dWords m_dMany m_dText m_dAsks m_dAsk m_tape m_taped m_pos m_from m_sort m_value m_fault m_wrongAt m_manyA m_rowA m_manyB m_rowB m_places m_xs m_ys m_heights m_ridges m_rx m_rHeight m_lanes m_sizes m_cells m_left m_calls m_cDay m_cHour m_cFrom m_cAsk m_cWord m_cOf m_isLie m_children m_learned m_group) s.heap.size = A at hD hA hE ⊢
  have hS : va_S A s.heap s.heap [] := va_S.rf
  have C0 : cxt cX9_knows (some .int) 5 RX9 wsX9_knows (dC, dI) (tyz cB cI cJ cZ) E_0 A p s m ([.ref (a 0), .int x1, .int x2, .int x3, .int x4] : List Value).toArray meth c := ⟨hx, hb, hr, hml, hown, hts, hlocks, hK, hA, hE⟩
  have hl := lv_entry ([.ref (a 0), .int x1, .int x2, .int x3, .int x4]) (n := 5) (Nat.le_of_ble_eq_true rfl)
  rw [lg_entry_eq]
  generalize (lg_sl ([.ref (a 0), .int x1, .int x2, .int x3, .int x4]) ++ List.replicate (5 - (lg_sl ([.ref (a 0), .int x1, .int x2, .int x3, .int x4])).length) Slot.unset).toArray = ls at hl ⊢
  have hl : lv_has ls 5 [(0, .ref (a 0)), (1, .int x1), (2, .int x2), (3, .int x3), (4, .int x4)] := hl
  unfold fX9_knows at h
  refine lv_aload_n hx hb dX9_knows_0 rfl (lv_at hl 0 rfl) ?_
  refine lv_iload_n hx hb dX9_knows_1 rfl (lv_at hl 1 rfl) ?_
  obtain ⟨v1, hc, h⟩ := bd1_use h
  refine cv_i (As := [.int x1]) (rest := []) ⟨hx, hb, hml, hown, hts⟩ (kX9_isPlace l n dC dI cB cI cJ cZ a _ m_letters m_words m_wMany m_wLetters m_asks m_aWords m_dLetters m_dWords m_dMany m_dText m_dAsks m_dAsk m_tape m_taped m_pos m_from m_sort m_value m_fault m_wrongAt m_manyA m_rowA m_manyB m_rowB m_places m_xs m_ys m_heights m_ridges m_rx m_rHeight m_lanes m_sizes m_cells m_left m_calls m_cDay m_cHour m_cFrom m_cAsk m_cWord m_cOf m_isLie m_children m_learned m_group x1 v1 hc) (cwV 1 hts gX9_knows_X9_isPlace rfl rfl rfl (by decide +kernel) ⟨Nat.le_of_ble_eq_true rfl, Nat.le_of_ble_eq_true rfl⟩) EB_0 hE hK hP hD hS hA 0 (ci := 8) rfl rfl rfl rfl hl.1 rfl (Nat.le_of_ble_eq_true rfl) dX9_knows_2 ⟨Nat.zero_le _, Nat.zero_le _⟩ (fun H locs hP hD hS => ?_)
  refine lv_if_eq (tgt := 41) hx hb dX9_knows_5 (by decide) (fun c2 => ?_) (fun c2 => ?_)
  · have h := it_use c2 h
    refine lv_iconst (v := -1) hx hb dX9_knows_41 (by decide) ?_
    obtain ⟨er, ez0, ez1, ez2, ez3⟩ := rt5_use h
    subst ez0
    subst ez1
    subst ez2
    subst ez3
    exact re_i hx hb hr hlocks hK hP hD hS er dX9_knows_42
  · have h := ie_use c2 h
    refine lv_aload_n hx hb dX9_knows_8 rfl (lv_at hl 0 rfl) ?_
    refine lv_iload_n hx hb dX9_knows_9 rfl (lv_at hl 2 rfl) ?_
    obtain ⟨v3, hc, h⟩ := bd1_use h
    refine cv_i (As := [.int x2]) (rest := []) ⟨hx, hb, hml, hown, hts⟩ (kX9_isAsk l n dC dI cB cI cJ cZ a _ m_letters m_words m_wMany m_wLetters m_asks m_aWords m_dLetters m_dWords m_dMany m_dText m_dAsks m_dAsk m_tape m_taped m_pos m_from m_sort m_value m_fault m_wrongAt m_manyA m_rowA m_manyB m_rowB m_places m_xs m_ys m_heights m_ridges m_rx m_rHeight m_lanes m_sizes m_cells m_left m_calls m_cDay m_cHour m_cFrom m_cAsk m_cWord m_cOf m_isLie m_children m_learned m_group x2 v3 hc) (cwV 1 hts gX9_knows_X9_isAsk rfl rfl rfl (by decide +kernel) ⟨Nat.le_of_ble_eq_true rfl, Nat.le_of_ble_eq_true rfl⟩) EB_0 hE hK hP hD hS hA 0 (ci := 8) rfl rfl rfl rfl hl.1 rfl (Nat.le_of_ble_eq_true rfl) dX9_knows_10 ⟨Nat.zero_le _, Nat.zero_le _⟩ (fun H locs hP hD hS => ?_)
    refine lv_if_eq (tgt := 41) hx hb dX9_knows_13 (by decide) (fun c4 => ?_) (fun c4 => ?_)
    · have h := it_use c4 h
      refine lv_iconst (v := -1) hx hb dX9_knows_41 (by decide) ?_
      obtain ⟨er, ez0, ez1, ez2, ez3⟩ := rt5_use h
      subst ez0
      subst ez1
      subst ez2
      subst ez3
      exact re_i hx hb hr hlocks hK hP hD hS er dX9_knows_42
    · have h := ie_use c4 h
      refine lv_iload_n hx hb dX9_knows_16 rfl (lv_at hl 3 rfl) ?_
      refine lv_iload hx hb dX9_knows_17 (lv_at hl 4 rfl) ?_
      obtain ⟨v5, hc, h⟩ := bd1_use h
      refine cs_i (As := [.int x3, .int x4]) (rest := []) ⟨hx, hb, hml, hown, hts⟩ (kX9_isTime l n x3 x4 v5 hc) (va_cwS 2 hts gX9_knows_X9_isTime rfl rfl rfl (by decide +kernel) ⟨Nat.le_of_ble_eq_true rfl, Nat.le_of_ble_eq_true rfl⟩) hP hS rfl hl.1 rfl (Nat.le_of_ble_eq_true rfl) dX9_knows_19 ⟨Nat.zero_le _, Nat.zero_le _⟩ (fun H locs hP hS => ?_)
      refine lv_if_eq (tgt := 41) hx hb dX9_knows_22 (by decide) (fun c6 => ?_) (fun c6 => ?_)
      · have h := it_use c6 h
        refine lv_iconst (v := -1) hx hb dX9_knows_41 (by decide) ?_
        obtain ⟨er, ez0, ez1, ez2, ez3⟩ := rt5_use h
        subst ez0
        subst ez1
        subst ez2
        subst ez3
        exact re_i hx hb hr hlocks hK hP hD hS er dX9_knows_42
      · have h := ie_use c6 h
        refine lv_aload_n hx hb dX9_knows_25 rfl (lv_at hl 0 rfl) ?_
        refine lv_iload_n hx hb dX9_knows_26 rfl (lv_at hl 1 rfl) ?_
        refine lv_iload_n hx hb dX9_knows_27 rfl (lv_at hl 2 rfl) ?_
        refine lv_aload_n hx hb dX9_knows_28 rfl (lv_at hl 0 rfl) ?_
        refine lv_iload_n hx hb dX9_knows_29 rfl (lv_at hl 3 rfl) ?_
        refine lv_iload hx hb dX9_knows_30 (lv_at hl 4 rfl) ?_
        obtain ⟨v7, hc, h⟩ := bd1_use h
        refine cv_i (As := [.int x3, .int x4]) (rest := [.int x2, .int x1, .ref (a 0)]) ⟨hx, hb, hml, hown, hts⟩ (kX9_upTo l n dC dI cB cI cJ cZ a _ m_letters m_words m_wMany m_wLetters m_asks m_aWords m_dLetters m_dWords m_dMany m_dText m_dAsks m_dAsk m_tape m_taped m_pos m_from m_sort m_value m_fault m_wrongAt m_manyA m_rowA m_manyB m_rowB m_places m_xs m_ys m_heights m_ridges m_rx m_rHeight m_lanes m_sizes m_cells m_left m_calls m_cDay m_cHour m_cFrom m_cAsk m_cWord m_cOf m_isLie m_children m_learned m_group x3 x4 v7 hc) (cwV 2 hts gX9_knows_X9_upTo rfl rfl rfl (by decide +kernel) ⟨Nat.le_of_ble_eq_true rfl, Nat.le_of_ble_eq_true rfl⟩) EB_0 hE hK hP hD hS hA 0 (ci := 8) rfl rfl rfl rfl hl.1 rfl (Nat.le_of_ble_eq_true rfl) dX9_knows_32 ⟨Nat.zero_le _, Nat.zero_le _⟩ (fun H locs hP hD hS => ?_)
        obtain ⟨v8, v9, f10, v11, f12, hc, h⟩ := bd5_use h
        refine cv_i (As := [.int x1, .int x2, .int v7]) (rest := []) ⟨hx, hb, hml, hown, hts⟩ (kX9_knowsBy l n dC dI cB cI cJ cZ a _ m_letters m_words m_wMany m_wLetters m_asks m_aWords m_dLetters m_dWords m_dMany m_dText m_dAsks m_dAsk m_tape m_taped m_pos m_from m_sort m_value m_fault m_wrongAt m_manyA m_rowA m_manyB m_rowB m_places m_xs m_ys m_heights m_ridges m_rx m_rHeight m_lanes m_sizes m_cells m_left m_calls m_cDay m_cHour m_cFrom m_cAsk m_cWord m_cOf m_isLie m_children m_learned m_group x1 x2 v7 v8 v9 f10 v11 f12 hc) (cwV 3 hts gX9_knows_X9_knowsBy rfl rfl rfl (by decide +kernel) ⟨Nat.le_of_ble_eq_true rfl, Nat.le_of_ble_eq_true rfl⟩) EB_0 hE hK hP hD hS hA 0 (ci := 8) rfl rfl rfl rfl hl.1 rfl (Nat.le_of_ble_eq_true rfl) dX9_knows_35 ⟨Nat.zero_le _, Nat.zero_le _⟩ (fun H locs hP hD hS => ?_)
        refine lv_goto (tgt := 42) hx hb dX9_knows_38 (by decide) ?_
        obtain ⟨er, ez0, ez1, ez2, ez3⟩ := rt5_use h
        subst ez0
        subst ez1
        subst ez2
        subst ez3
        exact re_i hx hb hr hlocks hK hP hD hS er dX9_knows_42
set_option maxHeartbeats 4000000 in
set_option maxRecDepth 100000 in
theorem kX9_since_p22_r {p : Program} {l : Launch} {e : Env} {s : State} {m : MethodId} {args : Array Value} {below : List Frame} {meth : Method} {c : Code} {A : Nat → Prop} (dC : Nat → ClassId) (dI : Nat → Nat → Nat) (cB cI cJ cZ : ClassId) (a : Nat → Nat) (C0 : cxt cX9_since (some .int) 5 RX9 wsX9_since (dC, dI) (tyz cB cI cJ cZ) E_0 A p s m args meth c) (n : Nat) (m_letters : Nat → Int32) (m_words : Int32) (m_wMany : Nat → Int32) (m_wLetters : Nat → Int32) (m_asks : Int32) (m_aWords : Nat → Int32) (m_dLetters : Nat → Int32) (m_dWords : Int32) (m_dMany : Nat → Int32) (m_dText : Nat → Int32) (m_dAsks : Int32) (m_dAsk : Nat → Int32) (m_tape : Nat → Int32) (m_taped : Int32) (m_pos : Int32) (m_from : Int32) (m_sort : Int32) (m_value : Int32) (m_fault : Int32) (m_wrongAt : Int32) (m_places : Int32) (m_xs : Nat → Int32) (m_ys : Nat → Int32) (m_heights : Nat → Int32) (m_ridges : Int32) (m_rx : Nat → Int32) (m_rHeight : Nat → Int32) (m_lanes : Nat → Int32) (m_sizes : Nat → Int32) (m_cells : Nat → Int32) (m_left : Nat → Int32) (m_calls : Int32) (m_cDay : Nat → Int32) (m_cHour : Nat → Int32) (m_cFrom : Nat → Int32) (m_cAsk : Nat → Int32) (m_cWord : Nat → Int32) (m_cOf : Nat → Int32) (m_isLie : Nat → Int32) (m_children : Int32) (m_learned : Nat → Int32) (m_group : Nat → Int32) (x1 : Int32) (x2 : Int32) (x3 : Int32) (r0 : Int32) (z_m_manyA : Int32) (z_m_rowA : Nat → Int32) (z_m_manyB : Int32) (z_m_rowB : Nat → Int32)  : ∀ (k : Nat) (m_manyA : Int32) (m_rowA : Nat → Int32) (m_manyB : Int32) (m_rowB : Nat → Int32) (x4 : Int32) (H : Heap) (locs : List Loc) (ls : Array Slot), fX9_since_p22 n m_letters m_words m_wMany m_wLetters m_aWords m_xs m_ys m_heights m_ridges m_rx m_rHeight m_lanes m_sizes m_cells m_calls m_cHour m_cFrom m_cAsk m_cWord m_cOf m_isLie x1 x2 x3 k m_manyA m_rowA m_manyB m_rowB x4 = some (r0, z_m_manyA, z_m_rowA, z_m_manyB, z_m_rowB) → va_P (dC, dI) vwCl (wM cB cI cJ cZ a m_letters m_words m_wMany m_wLetters m_asks m_aWords m_dLetters m_dWords m_dMany m_dText m_dAsks m_dAsk m_tape m_taped m_pos m_from m_sort m_value m_fault m_wrongAt m_manyA m_rowA m_manyB m_rowB m_places m_xs m_ys m_heights m_ridges m_rx m_rHeight m_lanes m_sizes m_cells m_left m_calls m_cDay m_cHour m_cFrom m_cAsk m_cWord m_cOf m_isLie m_children m_learned m_group) H → va_D A (wM cB cI cJ cZ a m_letters m_words m_wMany m_wLetters m_asks m_aWords m_dLetters m_dWords m_dMany m_dText m_dAsks m_dAsk m_tape m_taped m_pos m_from m_sort m_value m_fault m_wrongAt m_manyA m_rowA m_manyB m_rowB m_places m_xs m_ys m_heights m_ridges m_rx m_rHeight m_lanes m_sizes m_cells m_left m_calls m_cDay m_cHour m_cFrom m_cAsk m_cWord m_cOf m_isLie m_children m_learned m_group) → va_S A s.heap H locs → lv_has ls 5 [(0, .ref (a 0)), (1, .int x1), (2, .int x2), (3, .int x3), (4, .int x4)] → W p l e { frames := 7, cells := 0, slots := 0, locals := 171 } s m args below meth c H locs 0 0 (MQ below (gI (dC, dI) (tyz cB cI cJ cZ) (wM cB cI cJ cZ a m_letters m_words m_wMany m_wLetters m_asks m_aWords m_dLetters m_dWords m_dMany m_dText m_dAsks m_dAsk m_tape m_taped m_pos m_from m_sort m_value m_fault m_wrongAt z_m_manyA z_m_rowA z_m_manyB z_m_rowB m_places m_xs m_ys m_heights m_ridges m_rx m_rHeight m_lanes m_sizes m_cells m_left m_calls m_cDay m_cHour m_cFrom m_cAsk m_cWord m_cOf m_isLie m_children m_learned m_group) A r0) args s 0 0 A) (F0 m 22 ls []) := by
  obtain ⟨hx, hb, hr, hml, hown, hts, hlocks, hK, hA, hE⟩ := id C0
  have hw0 := hts (.fieldLink RX9 177 "WhistledWordsModel" "calls" "I") (by decide +kernel)
  have hnX9 : ∀ w ∈ u_ws RX9 TX9 46, w ∈ wsX9_since := fun _ h => List.mem_cons_of_mem _ (List.mem_append_right _ h)
  intro k
  induction k with
  | zero =>
    intro m_manyA m_rowA m_manyB m_rowB x4 H locs ls h
    cases h
  | succ k ih =>
    intro m_manyA m_rowA m_manyB m_rowB x4 H locs ls h hP hD hS hl
    rw [fX9_since_p22] at h
    refine lv_iload hx hb dX9_since_22 (lv_at hl 4 rfl) ?_
    refine lv_aload_n hx hb dX9_since_24 rfl (lv_at hl 0 rfl) ?_
    refine gM_mo_calls hx hb hts hnX9 hown hK hP hw0 dX9_since_25 ?_
    refine lv_icmp_ge (tgt := 58) hx hb dX9_since_28 (by decide) (fun c1 => ?_) (fun c1 => ?_)
    · have h := it_use c1 h
      refine lv_bipush (v := -4) hx hb dX9_since_58 (by decide) ?_
      obtain ⟨er, ez0, ez1, ez2, ez3⟩ := rt5_use h
      subst ez0
      subst ez1
      subst ez2
      subst ez3
      exact re_i hx hb hr hlocks hK hP hD hS er dX9_since_60
    · have h := ie_use c1 h
      refine lv_aload_n hx hb dX9_since_31 rfl (lv_at hl 0 rfl) ?_
      refine lv_iload_n hx hb dX9_since_32 rfl (lv_at hl 1 rfl) ?_
      refine lv_iload_n hx hb dX9_since_33 rfl (lv_at hl 2 rfl) ?_
      refine lv_iload hx hb dX9_since_34 (lv_at hl 4 rfl) ?_
      refine lv_iconst (v := 1) hx hb dX9_since_36 (by decide) ?_
      refine lv_iadd hx hb dX9_since_37 ?_
      obtain ⟨v2, v3, f4, v5, f6, hc, h⟩ := bd5_use h
      refine cv_i (As := [.int x1, .int x2, .int (x4 + (1 : Int32))]) (rest := []) ⟨hx, hb, hml, hown, hts⟩ (kX9_knowsBy l n dC dI cB cI cJ cZ a _ m_letters m_words m_wMany m_wLetters m_asks m_aWords m_dLetters m_dWords m_dMany m_dText m_dAsks m_dAsk m_tape m_taped m_pos m_from m_sort m_value m_fault m_wrongAt m_manyA m_rowA m_manyB m_rowB m_places m_xs m_ys m_heights m_ridges m_rx m_rHeight m_lanes m_sizes m_cells m_left m_calls m_cDay m_cHour m_cFrom m_cAsk m_cWord m_cOf m_isLie m_children m_learned m_group x1 x2 (x4 + (1 : Int32)) v2 v3 f4 v5 f6 hc) (cwV 3 hts gX9_since_X9_knowsBy rfl rfl rfl (by decide +kernel) ⟨Nat.le_of_ble_eq_true rfl, Nat.le_of_ble_eq_true rfl⟩) EB_0 hE hK hP hD hS hA 0 (ci := 8) rfl rfl rfl rfl hl.1 rfl (Nat.le_of_ble_eq_true rfl) dX9_since_38 ⟨Nat.zero_le _, Nat.zero_le _⟩ (fun H locs hP hD hS => ?_)
      refine lv_iload_n hx hb dX9_since_41 rfl (lv_at hl 3 rfl) ?_
      refine lv_ishr hx hb dX9_since_42 ?_
      refine lv_iconst (v := 1) hx hb dX9_since_43 (by decide) ?_
      refine lv_iand hx hb dX9_since_44 ?_
      refine lv_iconst (v := 1) hx hb dX9_since_45 (by decide) ?_
      refine lv_icmp_ne (tgt := 52) hx hb dX9_since_46 (by decide) (fun c7 => ?_) (fun c7 => ?_)
      · have h := ie_use c7 h
        refine lv_iinc (v := x4 + 1) (lv' := [(4, .int (x4 + 1)), (0, .ref (a 0)), (1, .int x1), (2, .int x2), (3, .int x3)]) hx hb dX9_since_52 hl (k := 4) rfl rfl (by decide) rfl (fun ls hl => ?_)
        refine lv_goto (tgt := 22) hx hb dX9_since_55 (by decide) ?_
        exact ih v3 f4 v5 f6 (x4 + 1) _ _ ls h hP hD hS (lv_sub hl [1, 2, 3, 4, 0] rfl)
      · have h := it_use c7 h
        refine lv_iload hx hb dX9_since_49 (lv_at hl 4 rfl) ?_
        obtain ⟨er, ez0, ez1, ez2, ez3⟩ := rt5_use h
        subst ez0
        subst ez1
        subst ez2
        subst ez3
        exact re_i hx hb hr hlocks hK hP hD hS er dX9_since_51
theorem kX9_since_p22 {p : Program} {l : Launch} {e : Env} {s : State} {m : MethodId} {args : Array Value} {below : List Frame} {meth : Method} {c : Code} {A : Nat → Prop} (dC : Nat → ClassId) (dI : Nat → Nat → Nat) (cB cI cJ cZ : ClassId) (a : Nat → Nat) (C0 : cxt cX9_since (some .int) 5 RX9 wsX9_since (dC, dI) (tyz cB cI cJ cZ) E_0 A p s m args meth c) (n : Nat) (m_letters : Nat → Int32) (m_words : Int32) (m_wMany : Nat → Int32) (m_wLetters : Nat → Int32) (m_asks : Int32) (m_aWords : Nat → Int32) (m_dLetters : Nat → Int32) (m_dWords : Int32) (m_dMany : Nat → Int32) (m_dText : Nat → Int32) (m_dAsks : Int32) (m_dAsk : Nat → Int32) (m_tape : Nat → Int32) (m_taped : Int32) (m_pos : Int32) (m_from : Int32) (m_sort : Int32) (m_value : Int32) (m_fault : Int32) (m_wrongAt : Int32) (m_manyA : Int32) (m_rowA : Nat → Int32) (m_manyB : Int32) (m_rowB : Nat → Int32) (m_places : Int32) (m_xs : Nat → Int32) (m_ys : Nat → Int32) (m_heights : Nat → Int32) (m_ridges : Int32) (m_rx : Nat → Int32) (m_rHeight : Nat → Int32) (m_lanes : Nat → Int32) (m_sizes : Nat → Int32) (m_cells : Nat → Int32) (m_left : Nat → Int32) (m_calls : Int32) (m_cDay : Nat → Int32) (m_cHour : Nat → Int32) (m_cFrom : Nat → Int32) (m_cAsk : Nat → Int32) (m_cWord : Nat → Int32) (m_cOf : Nat → Int32) (m_isLie : Nat → Int32) (m_children : Int32) (m_learned : Nat → Int32) (m_group : Nat → Int32)  (x1 : Int32) (x2 : Int32) (x3 : Int32) (x4 : Int32) (r0 : Int32) (z_m_manyA : Int32) (z_m_rowA : Nat → Int32) (z_m_manyB : Int32) (z_m_rowB : Nat → Int32)  (k : Nat) (H : Heap) (locs : List Loc) (ls : Array Slot) : fX9_since_p22 n m_letters m_words m_wMany m_wLetters m_aWords m_xs m_ys m_heights m_ridges m_rx m_rHeight m_lanes m_sizes m_cells m_calls m_cHour m_cFrom m_cAsk m_cWord m_cOf m_isLie x1 x2 x3 k m_manyA m_rowA m_manyB m_rowB x4 = some (r0, z_m_manyA, z_m_rowA, z_m_manyB, z_m_rowB) → va_P (dC, dI) vwCl (wM cB cI cJ cZ a m_letters m_words m_wMany m_wLetters m_asks m_aWords m_dLetters m_dWords m_dMany m_dText m_dAsks m_dAsk m_tape m_taped m_pos m_from m_sort m_value m_fault m_wrongAt m_manyA m_rowA m_manyB m_rowB m_places m_xs m_ys m_heights m_ridges m_rx m_rHeight m_lanes m_sizes m_cells m_left m_calls m_cDay m_cHour m_cFrom m_cAsk m_cWord m_cOf m_isLie m_children m_learned m_group) H → va_D A (wM cB cI cJ cZ a m_letters m_words m_wMany m_wLetters m_asks m_aWords m_dLetters m_dWords m_dMany m_dText m_dAsks m_dAsk m_tape m_taped m_pos m_from m_sort m_value m_fault m_wrongAt m_manyA m_rowA m_manyB m_rowB m_places m_xs m_ys m_heights m_ridges m_rx m_rHeight m_lanes m_sizes m_cells m_left m_calls m_cDay m_cHour m_cFrom m_cAsk m_cWord m_cOf m_isLie m_children m_learned m_group) → va_S A s.heap H locs → lv_has ls 5 [(0, .ref (a 0)), (1, .int x1), (2, .int x2), (3, .int x3), (4, .int x4)] → W p l e { frames := 7, cells := 0, slots := 0, locals := 171 } s m args below meth c H locs 0 0 (MQ below (gI (dC, dI) (tyz cB cI cJ cZ) (wM cB cI cJ cZ a m_letters m_words m_wMany m_wLetters m_asks m_aWords m_dLetters m_dWords m_dMany m_dText m_dAsks m_dAsk m_tape m_taped m_pos m_from m_sort m_value m_fault m_wrongAt z_m_manyA z_m_rowA z_m_manyB z_m_rowB m_places m_xs m_ys m_heights m_ridges m_rx m_rHeight m_lanes m_sizes m_cells m_left m_calls m_cDay m_cHour m_cFrom m_cAsk m_cWord m_cOf m_isLie m_children m_learned m_group) A r0) args s 0 0 A) (F0 m 22 ls []) :=
  kX9_since_p22_r dC dI cB cI cJ cZ a C0 n m_letters m_words m_wMany m_wLetters m_asks m_aWords m_dLetters m_dWords m_dMany m_dText m_dAsks m_dAsk m_tape m_taped m_pos m_from m_sort m_value m_fault m_wrongAt m_places m_xs m_ys m_heights m_ridges m_rx m_rHeight m_lanes m_sizes m_cells m_left m_calls m_cDay m_cHour m_cFrom m_cAsk m_cWord m_cOf m_isLie m_children m_learned m_group x1 x2 x3 r0 z_m_manyA z_m_rowA z_m_manyB z_m_rowB  k m_manyA m_rowA m_manyB m_rowB x4 H locs ls
set_option maxHeartbeats 4000000 in
set_option maxRecDepth 100000 in
theorem kX9_since (l : Launch) (n : Nat) (dC : Nat → ClassId) (dI : Nat → Nat → Nat) (cB cI cJ cZ : ClassId) (a : Nat → Nat) (sz : Nat) (m_letters : Nat → Int32) (m_words : Int32) (m_wMany : Nat → Int32) (m_wLetters : Nat → Int32) (m_asks : Int32) (m_aWords : Nat → Int32) (m_dLetters : Nat → Int32) (m_dWords : Int32) (m_dMany : Nat → Int32) (m_dText : Nat → Int32) (m_dAsks : Int32) (m_dAsk : Nat → Int32) (m_tape : Nat → Int32) (m_taped : Int32) (m_pos : Int32) (m_from : Int32) (m_sort : Int32) (m_value : Int32) (m_fault : Int32) (m_wrongAt : Int32) (m_manyA : Int32) (m_rowA : Nat → Int32) (m_manyB : Int32) (m_rowB : Nat → Int32) (m_places : Int32) (m_xs : Nat → Int32) (m_ys : Nat → Int32) (m_heights : Nat → Int32) (m_ridges : Int32) (m_rx : Nat → Int32) (m_rHeight : Nat → Int32) (m_lanes : Nat → Int32) (m_sizes : Nat → Int32) (m_cells : Nat → Int32) (m_left : Nat → Int32) (m_calls : Int32) (m_cDay : Nat → Int32) (m_cHour : Nat → Int32) (m_cFrom : Nat → Int32) (m_cAsk : Nat → Int32) (m_cWord : Nat → Int32) (m_cOf : Nat → Int32) (m_isLie : Nat → Int32) (m_children : Int32) (m_learned : Nat → Int32) (m_group : Nat → Int32) (x1 : Int32) (x2 : Int32) (x3 : Int32) (r0 : Int32) (z_m_manyA : Int32) (z_m_rowA : Nat → Int32) (z_m_manyB : Int32) (z_m_rowB : Nat → Int32) (h : fX9_since n m_letters m_words m_wMany m_wLetters m_asks m_aWords m_manyA m_rowA m_manyB m_rowB m_places m_xs m_ys m_heights m_ridges m_rx m_rHeight m_lanes m_sizes m_cells m_calls m_cHour m_cFrom m_cAsk m_cWord m_cOf m_isLie x1 x2 x3 = some (r0, z_m_manyA, z_m_rowA, z_m_manyB, z_m_rowB)) : Met l yX9_since wsX9_since ({ frames := 7, cells := 0, slots := 0, locals := 171 }) (gP (dC, dI) (tyz cB cI cJ cZ) E_0 (wM cB cI cJ cZ a m_letters m_words m_wMany m_wLetters m_asks m_aWords m_dLetters m_dWords m_dMany m_dText m_dAsks m_dAsk m_tape m_taped m_pos m_from m_sort m_value m_fault m_wrongAt m_manyA m_rowA m_manyB m_rowB m_places m_xs m_ys m_heights m_ridges m_rx m_rHeight m_lanes m_sizes m_cells m_left m_calls m_cDay m_cHour m_cFrom m_cAsk m_cWord m_cOf m_isLie m_children m_learned m_group) sz [.ref (a 0), .int x1, .int x2, .int x3]) (gI (dC, dI) (tyz cB cI cJ cZ) (wM cB cI cJ cZ a m_letters m_words m_wMany m_wLetters m_asks m_aWords m_dLetters m_dWords m_dMany m_dText m_dAsks m_dAsk m_tape m_taped m_pos m_from m_sort m_value m_fault m_wrongAt z_m_manyA z_m_rowA z_m_manyB z_m_rowB m_places m_xs m_ys m_heights m_ridges m_rx m_rHeight m_lanes m_sizes m_cells m_left m_calls m_cDay m_cHour m_cFrom m_cAsk m_cWord m_cOf m_isLie m_children m_learned m_group) (va_A (wM cB cI cJ cZ a m_letters m_words m_wMany m_wLetters m_asks m_aWords m_dLetters m_dWords m_dMany m_dText m_dAsks m_dAsk m_tape m_taped m_pos m_from m_sort m_value m_fault m_wrongAt m_manyA m_rowA m_manyB m_rowB m_places m_xs m_ys m_heights m_ridges m_rx m_rHeight m_lanes m_sizes m_cells m_left m_calls m_cDay m_cHour m_cFrom m_cAsk m_cWord m_cOf m_isLie m_children m_learned m_group) sz) r0) 0 0 (va_A (wM cB cI cJ cZ a m_letters m_words m_wMany m_wLetters m_asks m_aWords m_dLetters m_dWords m_dMany m_dText m_dAsks m_dAsk m_tape m_taped m_pos m_from m_sort m_value m_fault m_wrongAt m_manyA m_rowA m_manyB m_rowB m_places m_xs m_ys m_heights m_ridges m_rx m_rHeight m_lanes m_sizes m_cells m_left m_calls m_cDay m_cHour m_cFrom m_cAsk m_cWord m_cOf m_isLie m_children m_learned m_group) sz) := by
  refine Met.ofW (cc := cX9_since) (maxL := 5) (ret := (some .int)) (by decide) rfl ?_
  intro p e s m args below meth c s₁ B hml hv
  obtain ⟨rfl, hsz, hP, hK, hD0, hE⟩ := hv
  have hx := B.exec
  have hb := B.bytes
  have hr := B.returns
  have hts := atoms_spec (ws := wsX9_since) B.pre
  have hown : s.vm.findClass RX9 = some m.cls := findClass_of_methodNamed B.named
  have hlocks := B.notSynchronized
  subst hsz
  have hD := hD0.self (sz := s.heap.size)
  have hA : ∀ q : Nat, s.heap.size ≤ q → va_A (wM cB cI cJ cZ a m_letters m_words m_wMany m_wLetters m_asks m_aWords m_dLetters m_dWords m_dMany m_dText m_dAsks m_dAsk m_tape m_taped m_pos m_from m_sort m_value m_fault m_wrongAt m_manyA m_rowA m_manyB m_rowB m_places m_xs m_ys m_heights m_ridges m_rx m_rHeight m_lanes m_sizes m_cells m_left m_calls m_cDay m_cHour m_cFrom m_cAsk m_cWord m_cOf m_isLie m_children m_learned m_group) s.heap.size q := fun q h => Or.inr h
  generalize va_A (wM cB cI cJ cZ a m_letters m_words m_wMany m_wLetters m_asks m_aWords m_dLetters m_dWords m_dMany m_dText m_dAsks m_dAsk m_tape m_taped m_pos m_from m_sort m_value m_fault m_wrongAt m_manyA m_rowA m_manyB m_rowB m_places m_xs m_ys m_heights m_ridges m_rx m_rHeight m_lanes m_sizes m_cells m_left m_calls m_cDay m_cHour m_cFrom m_cAsk m_cWord m_cOf m_isLie m_children m_learned m_group) s.heap.size = A at hD hA hE ⊢
  have hS : va_S A s.heap s.heap [] := va_S.rf
  have C0 : cxt cX9_since (some .int) 5 RX9 wsX9_since (dC, dI) (tyz cB cI cJ cZ) E_0 A p s m ([.ref (a 0), .int x1, .int x2, .int x3] : List Value).toArray meth c := ⟨hx, hb, hr, hml, hown, hts, hlocks, hK, hA, hE⟩
  have hl := lv_entry ([.ref (a 0), .int x1, .int x2, .int x3]) (n := 5) (Nat.le_of_ble_eq_true rfl)
  rw [lg_entry_eq]
  generalize (lg_sl ([.ref (a 0), .int x1, .int x2, .int x3]) ++ List.replicate (5 - (lg_sl ([.ref (a 0), .int x1, .int x2, .int x3])).length) Slot.unset).toArray = ls at hl ⊢
  have hl : lv_has ls 5 [(0, .ref (a 0)), (1, .int x1), (2, .int x2), (3, .int x3)] := hl
  unfold fX9_since at h
  refine lv_aload_n hx hb dX9_since_0 rfl (lv_at hl 0 rfl) ?_
  refine lv_iload_n hx hb dX9_since_1 rfl (lv_at hl 1 rfl) ?_
  obtain ⟨v1, hc, h⟩ := bd1_use h
  refine cv_i (As := [.int x1]) (rest := []) ⟨hx, hb, hml, hown, hts⟩ (kX9_isPlace l n dC dI cB cI cJ cZ a _ m_letters m_words m_wMany m_wLetters m_asks m_aWords m_dLetters m_dWords m_dMany m_dText m_dAsks m_dAsk m_tape m_taped m_pos m_from m_sort m_value m_fault m_wrongAt m_manyA m_rowA m_manyB m_rowB m_places m_xs m_ys m_heights m_ridges m_rx m_rHeight m_lanes m_sizes m_cells m_left m_calls m_cDay m_cHour m_cFrom m_cAsk m_cWord m_cOf m_isLie m_children m_learned m_group x1 v1 hc) (cwV 1 hts gX9_since_X9_isPlace rfl rfl rfl (by decide +kernel) ⟨Nat.le_of_ble_eq_true rfl, Nat.le_of_ble_eq_true rfl⟩) EB_0 hE hK hP hD hS hA 0 (ci := 8) rfl rfl rfl rfl hl.1 rfl (Nat.le_of_ble_eq_true rfl) dX9_since_2 ⟨Nat.zero_le _, Nat.zero_le _⟩ (fun H locs hP hD hS => ?_)
  refine lv_if_eq (tgt := 17) hx hb dX9_since_5 (by decide) (fun c2 => ?_) (fun c2 => ?_)
  · have h := it_use c2 h
    refine lv_iconst (v := -1) hx hb dX9_since_17 (by decide) ?_
    obtain ⟨er, ez0, ez1, ez2, ez3⟩ := rt5_use h
    subst ez0
    subst ez1
    subst ez2
    subst ez3
    exact re_i hx hb hr hlocks hK hP hD hS er dX9_since_18
  · have h := ie_use c2 h
    refine lv_aload_n hx hb dX9_since_8 rfl (lv_at hl 0 rfl) ?_
    refine lv_iload_n hx hb dX9_since_9 rfl (lv_at hl 2 rfl) ?_
    refine lv_iload_n hx hb dX9_since_10 rfl (lv_at hl 3 rfl) ?_
    obtain ⟨v3, hc, h⟩ := bd1_use h
    refine cv_i (As := [.int x2, .int x3]) (rest := []) ⟨hx, hb, hml, hown, hts⟩ (kX9_fitsAsk l n dC dI cB cI cJ cZ a _ m_letters m_words m_wMany m_wLetters m_asks m_aWords m_dLetters m_dWords m_dMany m_dText m_dAsks m_dAsk m_tape m_taped m_pos m_from m_sort m_value m_fault m_wrongAt m_manyA m_rowA m_manyB m_rowB m_places m_xs m_ys m_heights m_ridges m_rx m_rHeight m_lanes m_sizes m_cells m_left m_calls m_cDay m_cHour m_cFrom m_cAsk m_cWord m_cOf m_isLie m_children m_learned m_group x2 x3 v3 hc) (cwV 2 hts gX9_since_X9_fitsAsk rfl rfl rfl (by decide +kernel) ⟨Nat.le_of_ble_eq_true rfl, Nat.le_of_ble_eq_true rfl⟩) EB_0 hE hK hP hD hS hA 0 (ci := 8) rfl rfl rfl rfl hl.1 rfl (Nat.le_of_ble_eq_true rfl) dX9_since_11 ⟨Nat.zero_le _, Nat.zero_le _⟩ (fun H locs hP hD hS => ?_)
    refine lv_if_ne (tgt := 19) hx hb dX9_since_14 (by decide) (fun c4 => ?_) (fun c4 => ?_)
    · have h := ie_use c4 h
      refine lv_iconst (v := 0) hx hb dX9_since_19 (by decide) ?_
      refine lv_istore (lv' := [(4, .int (0 : Int32)), (0, .ref (a 0)), (1, .int x1), (2, .int x2), (3, .int x3)]) hx hb dX9_since_20 hl (by decide) rfl (fun ls hl => ?_)
      exact kX9_since_p22 dC dI cB cI cJ cZ a C0 n m_letters m_words m_wMany m_wLetters m_asks m_aWords m_dLetters m_dWords m_dMany m_dText m_dAsks m_dAsk m_tape m_taped m_pos m_from m_sort m_value m_fault m_wrongAt m_manyA m_rowA m_manyB m_rowB m_places m_xs m_ys m_heights m_ridges m_rx m_rHeight m_lanes m_sizes m_cells m_left m_calls m_cDay m_cHour m_cFrom m_cAsk m_cWord m_cOf m_isLie m_children m_learned m_group x1 x2 x3 (0 : Int32) r0 z_m_manyA z_m_rowA z_m_manyB z_m_rowB  n _ _ ls h hP hD hS (lv_sub hl [1, 2, 3, 4, 0] rfl)
    · have h := it_use c4 h
      refine lv_iconst (v := -1) hx hb dX9_since_17 (by decide) ?_
      obtain ⟨er, ez0, ez1, ez2, ez3⟩ := rt5_use h
      subst ez0
      subst ez1
      subst ez2
      subst ez3
      exact re_i hx hb hr hlocks hK hP hD hS er dX9_since_18
set_option maxHeartbeats 4000000 in
set_option maxRecDepth 100000 in
theorem kX9_spread_p37_r {p : Program} {l : Launch} {e : Env} {s : State} {m : MethodId} {args : Array Value} {below : List Frame} {meth : Method} {c : Code} {A : Nat → Prop} (dC : Nat → ClassId) (dI : Nat → Nat → Nat) (cB cI cJ cZ : ClassId) (a : Nat → Nat) (C0 : cxt cX9_spread (some .int) 8 RX9 wsX9_spread (dC, dI) (tyz cB cI cJ cZ) E_0 A p s m args meth c) (n : Nat) (m_letters : Nat → Int32) (m_words : Int32) (m_wMany : Nat → Int32) (m_wLetters : Nat → Int32) (m_asks : Int32) (m_aWords : Nat → Int32) (m_dLetters : Nat → Int32) (m_dWords : Int32) (m_dMany : Nat → Int32) (m_dText : Nat → Int32) (m_dAsks : Int32) (m_dAsk : Nat → Int32) (m_tape : Nat → Int32) (m_taped : Int32) (m_pos : Int32) (m_from : Int32) (m_sort : Int32) (m_value : Int32) (m_fault : Int32) (m_wrongAt : Int32) (m_places : Int32) (m_xs : Nat → Int32) (m_ys : Nat → Int32) (m_heights : Nat → Int32) (m_ridges : Int32) (m_rx : Nat → Int32) (m_rHeight : Nat → Int32) (m_lanes : Nat → Int32) (m_sizes : Nat → Int32) (m_cells : Nat → Int32) (m_left : Nat → Int32) (m_calls : Int32) (m_cDay : Nat → Int32) (m_cHour : Nat → Int32) (m_cFrom : Nat → Int32) (m_cAsk : Nat → Int32) (m_cWord : Nat → Int32) (m_cOf : Nat → Int32) (m_isLie : Nat → Int32) (m_children : Int32) (m_learned : Nat → Int32) (m_group : Nat → Int32) (x1 : Int32) (x2 : Int32) (x3 : Int32) (x4 : Int32) (x5 : Int32) (r0 : Int32) (z_m_manyA : Int32) (z_m_rowA : Nat → Int32) (z_m_manyB : Int32) (z_m_rowB : Nat → Int32)  : ∀ (k : Nat) (m_manyA : Int32) (m_rowA : Nat → Int32) (m_manyB : Int32) (m_rowB : Nat → Int32) (x6 : Int32) (x7 : Int32) (H : Heap) (locs : List Loc) (ls : Array Slot), fX9_spread_p37 n m_letters m_words m_wMany m_wLetters m_aWords m_places m_xs m_ys m_heights m_ridges m_rx m_rHeight m_lanes m_sizes m_cells m_calls m_cDay m_cHour m_cFrom m_cAsk m_cWord m_cOf m_isLie x1 x2 x3 x4 x5 k m_manyA m_rowA m_manyB m_rowB x6 x7 = some (r0, z_m_manyA, z_m_rowA, z_m_manyB, z_m_rowB) → va_P (dC, dI) vwCl (wM cB cI cJ cZ a m_letters m_words m_wMany m_wLetters m_asks m_aWords m_dLetters m_dWords m_dMany m_dText m_dAsks m_dAsk m_tape m_taped m_pos m_from m_sort m_value m_fault m_wrongAt m_manyA m_rowA m_manyB m_rowB m_places m_xs m_ys m_heights m_ridges m_rx m_rHeight m_lanes m_sizes m_cells m_left m_calls m_cDay m_cHour m_cFrom m_cAsk m_cWord m_cOf m_isLie m_children m_learned m_group) H → va_D A (wM cB cI cJ cZ a m_letters m_words m_wMany m_wLetters m_asks m_aWords m_dLetters m_dWords m_dMany m_dText m_dAsks m_dAsk m_tape m_taped m_pos m_from m_sort m_value m_fault m_wrongAt m_manyA m_rowA m_manyB m_rowB m_places m_xs m_ys m_heights m_ridges m_rx m_rHeight m_lanes m_sizes m_cells m_left m_calls m_cDay m_cHour m_cFrom m_cAsk m_cWord m_cOf m_isLie m_children m_learned m_group) → va_S A s.heap H locs → lv_has ls 8 [(0, .ref (a 0)), (1, .int x1), (2, .int x2), (3, .int x3), (4, .int x4), (5, .int x5), (6, .int x6), (7, .int x7)] → W p l e { frames := 7, cells := 0, slots := 0, locals := 171 } s m args below meth c H locs 0 0 (MQ below (gI (dC, dI) (tyz cB cI cJ cZ) (wM cB cI cJ cZ a m_letters m_words m_wMany m_wLetters m_asks m_aWords m_dLetters m_dWords m_dMany m_dText m_dAsks m_dAsk m_tape m_taped m_pos m_from m_sort m_value m_fault m_wrongAt z_m_manyA z_m_rowA z_m_manyB z_m_rowB m_places m_xs m_ys m_heights m_ridges m_rx m_rHeight m_lanes m_sizes m_cells m_left m_calls m_cDay m_cHour m_cFrom m_cAsk m_cWord m_cOf m_isLie m_children m_learned m_group) A r0) args s 0 0 A) (F0 m 37 ls []) := by
  obtain ⟨hx, hb, hr, hml, hown, hts, hlocks, hK, hA, hE⟩ := id C0
  have hw0 := hts (.fieldLink RX9 245 "WhistledWordsModel" "places" "I") (by decide +kernel)
  have hnX9 : ∀ w ∈ u_ws RX9 TX9 46, w ∈ wsX9_spread := fun _ h => List.mem_cons_of_mem _ (List.mem_append_right _ h)
  intro k
  induction k with
  | zero =>
    intro m_manyA m_rowA m_manyB m_rowB x6 x7 H locs ls h
    cases h
  | succ k ih =>
    intro m_manyA m_rowA m_manyB m_rowB x6 x7 H locs ls h hP hD hS hl
    rw [fX9_spread_p37] at h
    refine lv_iload hx hb dX9_spread_37 (lv_at hl 7 rfl) ?_
    refine lv_aload_n hx hb dX9_spread_39 rfl (lv_at hl 0 rfl) ?_
    refine gM_mo_places hx hb hts hnX9 hown hK hP hw0 dX9_spread_40 ?_
    refine lv_icmp_ge (tgt := 87) hx hb dX9_spread_43 (by decide) (fun c1 => ?_) (fun c1 => ?_)
    · have h := it_use c1 h
      refine lv_iload hx hb dX9_spread_87 (lv_at hl 5 rfl) ?_
      refine lv_if_ne (tgt := 100) hx hb dX9_spread_89 (by decide) (fun c2 => ?_) (fun c2 => ?_)
      · have h := ie_use c2 h
        refine lv_iload hx hb dX9_spread_100 (lv_at hl 6 rfl) ?_
        obtain ⟨er, ez0, ez1, ez2, ez3⟩ := rt5_use h
        subst ez0
        subst ez1
        subst ez2
        subst ez3
        exact re_i hx hb hr hlocks hK hP hD hS er dX9_spread_102
      · have h := it_use c2 h
        refine lv_iload hx hb dX9_spread_92 (lv_at hl 6 rfl) ?_
        obtain ⟨v3, hc, h⟩ := bd1_use h
        refine cs_i (As := [.int x6]) (rest := []) ⟨hx, hb, hml, hown, hts⟩ (kX9_bits l n x6 v3 hc) (va_cwS 1 hts gX9_spread_X9_bits rfl rfl rfl (by decide +kernel) ⟨Nat.le_of_ble_eq_true rfl, Nat.le_of_ble_eq_true rfl⟩) hP hS rfl hl.1 rfl (Nat.le_of_ble_eq_true rfl) dX9_spread_94 ⟨Nat.zero_le _, Nat.zero_le _⟩ (fun H locs hP hS => ?_)
        refine lv_goto (tgt := 102) hx hb dX9_spread_97 (by decide) ?_
        obtain ⟨er, ez0, ez1, ez2, ez3⟩ := rt5_use h
        subst ez0
        subst ez1
        subst ez2
        subst ez3
        exact re_i hx hb hr hlocks hK hP hD hS er dX9_spread_102
    · have h := ie_use c1 h
      refine lv_iload hx hb dX9_spread_46 (lv_at hl 6 rfl) ?_
      refine lv_aload_n hx hb dX9_spread_48 rfl (lv_at hl 0 rfl) ?_
      refine lv_iload hx hb dX9_spread_49 (lv_at hl 7 rfl) ?_
      refine lv_iload_n hx hb dX9_spread_51 rfl (lv_at hl 1 rfl) ?_
      refine lv_aload_n hx hb dX9_spread_52 rfl (lv_at hl 0 rfl) ?_
      refine lv_iload_n hx hb dX9_spread_53 rfl (lv_at hl 3 rfl) ?_
      refine lv_iload hx hb dX9_spread_54 (lv_at hl 4 rfl) ?_
      obtain ⟨v4, hc, h⟩ := bd1_use h
      refine cv_i (As := [.int x3, .int x4]) (rest := [.int x1, .int x7, .ref (a 0), .int x6]) ⟨hx, hb, hml, hown, hts⟩ (kX9_upTo l n dC dI cB cI cJ cZ a _ m_letters m_words m_wMany m_wLetters m_asks m_aWords m_dLetters m_dWords m_dMany m_dText m_dAsks m_dAsk m_tape m_taped m_pos m_from m_sort m_value m_fault m_wrongAt m_manyA m_rowA m_manyB m_rowB m_places m_xs m_ys m_heights m_ridges m_rx m_rHeight m_lanes m_sizes m_cells m_left m_calls m_cDay m_cHour m_cFrom m_cAsk m_cWord m_cOf m_isLie m_children m_learned m_group x3 x4 v4 hc) (cwV 2 hts gX9_spread_X9_upTo rfl rfl rfl (by decide +kernel) ⟨Nat.le_of_ble_eq_true rfl, Nat.le_of_ble_eq_true rfl⟩) EB_0 hE hK hP hD hS hA 0 (ci := 8) rfl rfl rfl rfl hl.1 rfl (Nat.le_of_ble_eq_true rfl) dX9_spread_56 ⟨Nat.zero_le _, Nat.zero_le _⟩ (fun H locs hP hD hS => ?_)
      obtain ⟨v5, v6, f7, v8, f9, hc, h⟩ := bd5_use h
      refine cv_i (As := [.int x7, .int x1, .int v4]) (rest := [.int x6]) ⟨hx, hb, hml, hown, hts⟩ (kX9_knowsBy l n dC dI cB cI cJ cZ a _ m_letters m_words m_wMany m_wLetters m_asks m_aWords m_dLetters m_dWords m_dMany m_dText m_dAsks m_dAsk m_tape m_taped m_pos m_from m_sort m_value m_fault m_wrongAt m_manyA m_rowA m_manyB m_rowB m_places m_xs m_ys m_heights m_ridges m_rx m_rHeight m_lanes m_sizes m_cells m_left m_calls m_cDay m_cHour m_cFrom m_cAsk m_cWord m_cOf m_isLie m_children m_learned m_group x7 x1 v4 v5 v6 f7 v8 f9 hc) (cwV 3 hts gX9_spread_X9_knowsBy rfl rfl rfl (by decide +kernel) ⟨Nat.le_of_ble_eq_true rfl, Nat.le_of_ble_eq_true rfl⟩) EB_0 hE hK hP hD hS hA 0 (ci := 8) rfl rfl rfl rfl hl.1 rfl (Nat.le_of_ble_eq_true rfl) dX9_spread_59 ⟨Nat.zero_le _, Nat.zero_le _⟩ (fun H locs hP hD hS => ?_)
      refine lv_iload_n hx hb dX9_spread_62 rfl (lv_at hl 2 rfl) ?_
      refine lv_ishr hx hb dX9_spread_63 ?_
      refine lv_iconst (v := 1) hx hb dX9_spread_64 (by decide) ?_
      refine lv_iand hx hb dX9_spread_65 ?_
      refine lv_iconst (v := 1) hx hb dX9_spread_66 (by decide) ?_
      refine lv_icmp_ne (tgt := 77) hx hb dX9_spread_67 (by decide) (fun c10 => ?_) (fun c10 => ?_)
      · have h := ie_use c10 h
        refine lv_iconst (v := 0) hx hb dX9_spread_77 (by decide) ?_
        refine lv_ior hx hb dX9_spread_78 ?_
        refine lv_topi (fun v11 ev11 => ?_)
        have h := nm_use ev11 h
        refine lv_istore (lv' := [(6, .int v11), (0, .ref (a 0)), (1, .int x1), (2, .int x2), (3, .int x3), (4, .int x4), (5, .int x5), (7, .int x7)]) hx hb dX9_spread_79 hl (by decide) rfl (fun ls hl => ?_)
        refine lv_iinc (v := x7 + 1) (lv' := [(7, .int (x7 + 1)), (6, .int v11), (0, .ref (a 0)), (1, .int x1), (2, .int x2), (3, .int x3), (4, .int x4), (5, .int x5)]) hx hb dX9_spread_81 hl (k := 7) rfl rfl (by decide) rfl (fun ls hl => ?_)
        refine lv_goto (tgt := 37) hx hb dX9_spread_84 (by decide) ?_
        exact ih v6 f7 v8 f9 v11 (x7 + 1) _ _ ls h hP hD hS (lv_sub hl [2, 3, 4, 5, 6, 7, 1, 0] rfl)
      · have h := it_use c10 h
        refine lv_iconst (v := 1) hx hb dX9_spread_70 (by decide) ?_
        refine lv_iload hx hb dX9_spread_71 (lv_at hl 7 rfl) ?_
        refine lv_ishl hx hb dX9_spread_73 ?_
        refine lv_goto (tgt := 78) hx hb dX9_spread_74 (by decide) ?_
        refine lv_ior hx hb dX9_spread_78 ?_
        refine lv_topi (fun v12 ev12 => ?_)
        have h := nm_use ev12 h
        refine lv_istore (lv' := [(6, .int v12), (0, .ref (a 0)), (1, .int x1), (2, .int x2), (3, .int x3), (4, .int x4), (5, .int x5), (7, .int x7)]) hx hb dX9_spread_79 hl (by decide) rfl (fun ls hl => ?_)
        refine lv_iinc (v := x7 + 1) (lv' := [(7, .int (x7 + 1)), (6, .int v12), (0, .ref (a 0)), (1, .int x1), (2, .int x2), (3, .int x3), (4, .int x4), (5, .int x5)]) hx hb dX9_spread_81 hl (k := 7) rfl rfl (by decide) rfl (fun ls hl => ?_)
        refine lv_goto (tgt := 37) hx hb dX9_spread_84 (by decide) ?_
        exact ih v6 f7 v8 f9 v12 (x7 + 1) _ _ ls h hP hD hS (lv_sub hl [2, 3, 4, 5, 6, 7, 1, 0] rfl)
theorem kX9_spread_p37 {p : Program} {l : Launch} {e : Env} {s : State} {m : MethodId} {args : Array Value} {below : List Frame} {meth : Method} {c : Code} {A : Nat → Prop} (dC : Nat → ClassId) (dI : Nat → Nat → Nat) (cB cI cJ cZ : ClassId) (a : Nat → Nat) (C0 : cxt cX9_spread (some .int) 8 RX9 wsX9_spread (dC, dI) (tyz cB cI cJ cZ) E_0 A p s m args meth c) (n : Nat) (m_letters : Nat → Int32) (m_words : Int32) (m_wMany : Nat → Int32) (m_wLetters : Nat → Int32) (m_asks : Int32) (m_aWords : Nat → Int32) (m_dLetters : Nat → Int32) (m_dWords : Int32) (m_dMany : Nat → Int32) (m_dText : Nat → Int32) (m_dAsks : Int32) (m_dAsk : Nat → Int32) (m_tape : Nat → Int32) (m_taped : Int32) (m_pos : Int32) (m_from : Int32) (m_sort : Int32) (m_value : Int32) (m_fault : Int32) (m_wrongAt : Int32) (m_manyA : Int32) (m_rowA : Nat → Int32) (m_manyB : Int32) (m_rowB : Nat → Int32) (m_places : Int32) (m_xs : Nat → Int32) (m_ys : Nat → Int32) (m_heights : Nat → Int32) (m_ridges : Int32) (m_rx : Nat → Int32) (m_rHeight : Nat → Int32) (m_lanes : Nat → Int32) (m_sizes : Nat → Int32) (m_cells : Nat → Int32) (m_left : Nat → Int32) (m_calls : Int32) (m_cDay : Nat → Int32) (m_cHour : Nat → Int32) (m_cFrom : Nat → Int32) (m_cAsk : Nat → Int32) (m_cWord : Nat → Int32) (m_cOf : Nat → Int32) (m_isLie : Nat → Int32) (m_children : Int32) (m_learned : Nat → Int32) (m_group : Nat → Int32)  (x1 : Int32) (x2 : Int32) (x3 : Int32) (x4 : Int32) (x5 : Int32) (x6 : Int32) (x7 : Int32) (r0 : Int32) (z_m_manyA : Int32) (z_m_rowA : Nat → Int32) (z_m_manyB : Int32) (z_m_rowB : Nat → Int32)  (k : Nat) (H : Heap) (locs : List Loc) (ls : Array Slot) : fX9_spread_p37 n m_letters m_words m_wMany m_wLetters m_aWords m_places m_xs m_ys m_heights m_ridges m_rx m_rHeight m_lanes m_sizes m_cells m_calls m_cDay m_cHour m_cFrom m_cAsk m_cWord m_cOf m_isLie x1 x2 x3 x4 x5 k m_manyA m_rowA m_manyB m_rowB x6 x7 = some (r0, z_m_manyA, z_m_rowA, z_m_manyB, z_m_rowB) → va_P (dC, dI) vwCl (wM cB cI cJ cZ a m_letters m_words m_wMany m_wLetters m_asks m_aWords m_dLetters m_dWords m_dMany m_dText m_dAsks m_dAsk m_tape m_taped m_pos m_from m_sort m_value m_fault m_wrongAt m_manyA m_rowA m_manyB m_rowB m_places m_xs m_ys m_heights m_ridges m_rx m_rHeight m_lanes m_sizes m_cells m_left m_calls m_cDay m_cHour m_cFrom m_cAsk m_cWord m_cOf m_isLie m_children m_learned m_group) H → va_D A (wM cB cI cJ cZ a m_letters m_words m_wMany m_wLetters m_asks m_aWords m_dLetters m_dWords m_dMany m_dText m_dAsks m_dAsk m_tape m_taped m_pos m_from m_sort m_value m_fault m_wrongAt m_manyA m_rowA m_manyB m_rowB m_places m_xs m_ys m_heights m_ridges m_rx m_rHeight m_lanes m_sizes m_cells m_left m_calls m_cDay m_cHour m_cFrom m_cAsk m_cWord m_cOf m_isLie m_children m_learned m_group) → va_S A s.heap H locs → lv_has ls 8 [(0, .ref (a 0)), (1, .int x1), (2, .int x2), (3, .int x3), (4, .int x4), (5, .int x5), (6, .int x6), (7, .int x7)] → W p l e { frames := 7, cells := 0, slots := 0, locals := 171 } s m args below meth c H locs 0 0 (MQ below (gI (dC, dI) (tyz cB cI cJ cZ) (wM cB cI cJ cZ a m_letters m_words m_wMany m_wLetters m_asks m_aWords m_dLetters m_dWords m_dMany m_dText m_dAsks m_dAsk m_tape m_taped m_pos m_from m_sort m_value m_fault m_wrongAt z_m_manyA z_m_rowA z_m_manyB z_m_rowB m_places m_xs m_ys m_heights m_ridges m_rx m_rHeight m_lanes m_sizes m_cells m_left m_calls m_cDay m_cHour m_cFrom m_cAsk m_cWord m_cOf m_isLie m_children m_learned m_group) A r0) args s 0 0 A) (F0 m 37 ls []) :=
  kX9_spread_p37_r dC dI cB cI cJ cZ a C0 n m_letters m_words m_wMany m_wLetters m_asks m_aWords m_dLetters m_dWords m_dMany m_dText m_dAsks m_dAsk m_tape m_taped m_pos m_from m_sort m_value m_fault m_wrongAt m_places m_xs m_ys m_heights m_ridges m_rx m_rHeight m_lanes m_sizes m_cells m_left m_calls m_cDay m_cHour m_cFrom m_cAsk m_cWord m_cOf m_isLie m_children m_learned m_group x1 x2 x3 x4 x5 r0 z_m_manyA z_m_rowA z_m_manyB z_m_rowB  k m_manyA m_rowA m_manyB m_rowB x6 x7 H locs ls
set_option maxHeartbeats 4000000 in
set_option maxRecDepth 100000 in
theorem kX9_spread (l : Launch) (n : Nat) (dC : Nat → ClassId) (dI : Nat → Nat → Nat) (cB cI cJ cZ : ClassId) (a : Nat → Nat) (sz : Nat) (m_letters : Nat → Int32) (m_words : Int32) (m_wMany : Nat → Int32) (m_wLetters : Nat → Int32) (m_asks : Int32) (m_aWords : Nat → Int32) (m_dLetters : Nat → Int32) (m_dWords : Int32) (m_dMany : Nat → Int32) (m_dText : Nat → Int32) (m_dAsks : Int32) (m_dAsk : Nat → Int32) (m_tape : Nat → Int32) (m_taped : Int32) (m_pos : Int32) (m_from : Int32) (m_sort : Int32) (m_value : Int32) (m_fault : Int32) (m_wrongAt : Int32) (m_manyA : Int32) (m_rowA : Nat → Int32) (m_manyB : Int32) (m_rowB : Nat → Int32) (m_places : Int32) (m_xs : Nat → Int32) (m_ys : Nat → Int32) (m_heights : Nat → Int32) (m_ridges : Int32) (m_rx : Nat → Int32) (m_rHeight : Nat → Int32) (m_lanes : Nat → Int32) (m_sizes : Nat → Int32) (m_cells : Nat → Int32) (m_left : Nat → Int32) (m_calls : Int32) (m_cDay : Nat → Int32) (m_cHour : Nat → Int32) (m_cFrom : Nat → Int32) (m_cAsk : Nat → Int32) (m_cWord : Nat → Int32) (m_cOf : Nat → Int32) (m_isLie : Nat → Int32) (m_children : Int32) (m_learned : Nat → Int32) (m_group : Nat → Int32) (x1 : Int32) (x2 : Int32) (x3 : Int32) (x4 : Int32) (x5 : Int32) (r0 : Int32) (z_m_manyA : Int32) (z_m_rowA : Nat → Int32) (z_m_manyB : Int32) (z_m_rowB : Nat → Int32) (h : fX9_spread n m_letters m_words m_wMany m_wLetters m_asks m_aWords m_manyA m_rowA m_manyB m_rowB m_places m_xs m_ys m_heights m_ridges m_rx m_rHeight m_lanes m_sizes m_cells m_calls m_cDay m_cHour m_cFrom m_cAsk m_cWord m_cOf m_isLie x1 x2 x3 x4 x5 = some (r0, z_m_manyA, z_m_rowA, z_m_manyB, z_m_rowB)) : Met l yX9_spread wsX9_spread ({ frames := 7, cells := 0, slots := 0, locals := 171 }) (gP (dC, dI) (tyz cB cI cJ cZ) E_0 (wM cB cI cJ cZ a m_letters m_words m_wMany m_wLetters m_asks m_aWords m_dLetters m_dWords m_dMany m_dText m_dAsks m_dAsk m_tape m_taped m_pos m_from m_sort m_value m_fault m_wrongAt m_manyA m_rowA m_manyB m_rowB m_places m_xs m_ys m_heights m_ridges m_rx m_rHeight m_lanes m_sizes m_cells m_left m_calls m_cDay m_cHour m_cFrom m_cAsk m_cWord m_cOf m_isLie m_children m_learned m_group) sz [.ref (a 0), .int x1, .int x2, .int x3, .int x4, .int x5]) (gI (dC, dI) (tyz cB cI cJ cZ) (wM cB cI cJ cZ a m_letters m_words m_wMany m_wLetters m_asks m_aWords m_dLetters m_dWords m_dMany m_dText m_dAsks m_dAsk m_tape m_taped m_pos m_from m_sort m_value m_fault m_wrongAt z_m_manyA z_m_rowA z_m_manyB z_m_rowB m_places m_xs m_ys m_heights m_ridges m_rx m_rHeight m_lanes m_sizes m_cells m_left m_calls m_cDay m_cHour m_cFrom m_cAsk m_cWord m_cOf m_isLie m_children m_learned m_group) (va_A (wM cB cI cJ cZ a m_letters m_words m_wMany m_wLetters m_asks m_aWords m_dLetters m_dWords m_dMany m_dText m_dAsks m_dAsk m_tape m_taped m_pos m_from m_sort m_value m_fault m_wrongAt m_manyA m_rowA m_manyB m_rowB m_places m_xs m_ys m_heights m_ridges m_rx m_rHeight m_lanes m_sizes m_cells m_left m_calls m_cDay m_cHour m_cFrom m_cAsk m_cWord m_cOf m_isLie m_children m_learned m_group) sz) r0) 0 0 (va_A (wM cB cI cJ cZ a m_letters m_words m_wMany m_wLetters m_asks m_aWords m_dLetters m_dWords m_dMany m_dText m_dAsks m_dAsk m_tape m_taped m_pos m_from m_sort m_value m_fault m_wrongAt m_manyA m_rowA m_manyB m_rowB m_places m_xs m_ys m_heights m_ridges m_rx m_rHeight m_lanes m_sizes m_cells m_left m_calls m_cDay m_cHour m_cFrom m_cAsk m_cWord m_cOf m_isLie m_children m_learned m_group) sz) := by
  refine Met.ofW (cc := cX9_spread) (maxL := 8) (ret := (some .int)) (by decide) rfl ?_
  intro p e s m args below meth c s₁ B hml hv
  obtain ⟨rfl, hsz, hP, hK, hD0, hE⟩ := hv
  have hx := B.exec
  have hb := B.bytes
  have hr := B.returns
  have hts := atoms_spec (ws := wsX9_spread) B.pre
  have hown : s.vm.findClass RX9 = some m.cls := findClass_of_methodNamed B.named
  have hlocks := B.notSynchronized
  subst hsz
  have hD := hD0.self (sz := s.heap.size)
  have hA : ∀ q : Nat, s.heap.size ≤ q → va_A (wM cB cI cJ cZ a m_letters m_words m_wMany m_wLetters m_asks m_aWords m_dLetters m_dWords m_dMany m_dText m_dAsks m_dAsk m_tape m_taped m_pos m_from m_sort m_value m_fault m_wrongAt m_manyA m_rowA m_manyB m_rowB m_places m_xs m_ys m_heights m_ridges m_rx m_rHeight m_lanes m_sizes m_cells m_left m_calls m_cDay m_cHour m_cFrom m_cAsk m_cWord m_cOf m_isLie m_children m_learned m_group) s.heap.size q := fun q h => Or.inr h
  generalize va_A (wM cB cI cJ cZ a m_letters m_words m_wMany m_wLetters m_asks m_aWords m_dLetters m_dWords m_dMany m_dText m_dAsks m_dAsk m_tape m_taped m_pos m_from m_sort m_value m_fault m_wrongAt m_manyA m_rowA m_manyB m_rowB m_places m_xs m_ys m_heights m_ridges m_rx m_rHeight m_lanes m_sizes m_cells m_left m_calls m_cDay m_cHour m_cFrom m_cAsk m_cWord m_cOf m_isLie m_children m_learned m_group) s.heap.size = A at hD hA hE ⊢
  have hS : va_S A s.heap s.heap [] := va_S.rf
  have C0 : cxt cX9_spread (some .int) 8 RX9 wsX9_spread (dC, dI) (tyz cB cI cJ cZ) E_0 A p s m ([.ref (a 0), .int x1, .int x2, .int x3, .int x4, .int x5] : List Value).toArray meth c := ⟨hx, hb, hr, hml, hown, hts, hlocks, hK, hA, hE⟩
  have hl := lv_entry ([.ref (a 0), .int x1, .int x2, .int x3, .int x4, .int x5]) (n := 8) (Nat.le_of_ble_eq_true rfl)
  rw [lg_entry_eq]
  generalize (lg_sl ([.ref (a 0), .int x1, .int x2, .int x3, .int x4, .int x5]) ++ List.replicate (8 - (lg_sl ([.ref (a 0), .int x1, .int x2, .int x3, .int x4, .int x5])).length) Slot.unset).toArray = ls at hl ⊢
  have hl : lv_has ls 8 [(0, .ref (a 0)), (1, .int x1), (2, .int x2), (3, .int x3), (4, .int x4), (5, .int x5)] := hl
  unfold fX9_spread at h
  refine lv_aload_n hx hb dX9_spread_0 rfl (lv_at hl 0 rfl) ?_
  refine lv_iload_n hx hb dX9_spread_1 rfl (lv_at hl 1 rfl) ?_
  refine lv_iload_n hx hb dX9_spread_2 rfl (lv_at hl 2 rfl) ?_
  obtain ⟨v1, hc, h⟩ := bd1_use h
  refine cv_i (As := [.int x1, .int x2]) (rest := []) ⟨hx, hb, hml, hown, hts⟩ (kX9_fitsAsk l n dC dI cB cI cJ cZ a _ m_letters m_words m_wMany m_wLetters m_asks m_aWords m_dLetters m_dWords m_dMany m_dText m_dAsks m_dAsk m_tape m_taped m_pos m_from m_sort m_value m_fault m_wrongAt m_manyA m_rowA m_manyB m_rowB m_places m_xs m_ys m_heights m_ridges m_rx m_rHeight m_lanes m_sizes m_cells m_left m_calls m_cDay m_cHour m_cFrom m_cAsk m_cWord m_cOf m_isLie m_children m_learned m_group x1 x2 v1 hc) (cwV 2 hts gX9_spread_X9_fitsAsk rfl rfl rfl (by decide +kernel) ⟨Nat.le_of_ble_eq_true rfl, Nat.le_of_ble_eq_true rfl⟩) EB_0 hE hK hP hD hS hA 0 (ci := 8) rfl rfl rfl rfl hl.1 rfl (Nat.le_of_ble_eq_true rfl) dX9_spread_3 ⟨Nat.zero_le _, Nat.zero_le _⟩ (fun H locs hP hD hS => ?_)
  refine lv_if_eq (tgt := 29) hx hb dX9_spread_6 (by decide) (fun c2 => ?_) (fun c2 => ?_)
  · have h := it_use c2 h
    refine lv_iconst (v := -1) hx hb dX9_spread_29 (by decide) ?_
    obtain ⟨er, ez0, ez1, ez2, ez3⟩ := rt5_use h
    subst ez0
    subst ez1
    subst ez2
    subst ez3
    exact re_i hx hb hr hlocks hK hP hD hS er dX9_spread_30
  · have h := ie_use c2 h
    refine lv_iload_n hx hb dX9_spread_9 rfl (lv_at hl 3 rfl) ?_
    refine lv_iload hx hb dX9_spread_10 (lv_at hl 4 rfl) ?_
    obtain ⟨v3, hc, h⟩ := bd1_use h
    refine cs_i (As := [.int x3, .int x4]) (rest := []) ⟨hx, hb, hml, hown, hts⟩ (kX9_isTime l n x3 x4 v3 hc) (va_cwS 2 hts gX9_spread_X9_isTime rfl rfl rfl (by decide +kernel) ⟨Nat.le_of_ble_eq_true rfl, Nat.le_of_ble_eq_true rfl⟩) hP hS rfl hl.1 rfl (Nat.le_of_ble_eq_true rfl) dX9_spread_12 ⟨Nat.zero_le _, Nat.zero_le _⟩ (fun H locs hP hS => ?_)
    refine lv_if_eq (tgt := 29) hx hb dX9_spread_15 (by decide) (fun c4 => ?_) (fun c4 => ?_)
    · have h := it_use c4 h
      refine lv_iconst (v := -1) hx hb dX9_spread_29 (by decide) ?_
      obtain ⟨er, ez0, ez1, ez2, ez3⟩ := rt5_use h
      subst ez0
      subst ez1
      subst ez2
      subst ez3
      exact re_i hx hb hr hlocks hK hP hD hS er dX9_spread_30
    · have h := ie_use c4 h
      refine lv_iload hx hb dX9_spread_18 (lv_at hl 5 rfl) ?_
      refine lv_i2l hx hb dX9_spread_20 rfl ?_
      refine lv_lconst (v := 0) hx hb dX9_spread_21 (by decide) ?_
      refine lv_lconst (v := 1) hx hb dX9_spread_22 (by decide) ?_
      obtain ⟨v5, hc, h⟩ := bd1_use h
      refine cs_i (As := [.long x5.toInt64, .long (0 : Int64), .long (1 : Int64)]) (rest := []) ⟨hx, hb, hml, hown, hts⟩ (kX9_in l n x5.toInt64 (0 : Int64) (1 : Int64) v5 hc) (va_cwS 3 hts gX9_spread_X9_in rfl rfl rfl (by decide +kernel) ⟨Nat.le_of_ble_eq_true rfl, Nat.le_of_ble_eq_true rfl⟩) hP hS rfl hl.1 rfl (Nat.le_of_ble_eq_true rfl) dX9_spread_23 ⟨Nat.zero_le _, Nat.zero_le _⟩ (fun H locs hP hS => ?_)
      refine lv_if_ne (tgt := 31) hx hb dX9_spread_26 (by decide) (fun c6 => ?_) (fun c6 => ?_)
      · have h := ie_use c6 h
        refine lv_iconst (v := 0) hx hb dX9_spread_31 (by decide) ?_
        refine lv_istore (lv' := [(6, .int (0 : Int32)), (0, .ref (a 0)), (1, .int x1), (2, .int x2), (3, .int x3), (4, .int x4), (5, .int x5)]) hx hb dX9_spread_32 hl (by decide) rfl (fun ls hl => ?_)
        refine lv_iconst (v := 0) hx hb dX9_spread_34 (by decide) ?_
        refine lv_istore (lv' := [(7, .int (0 : Int32)), (6, .int (0 : Int32)), (0, .ref (a 0)), (1, .int x1), (2, .int x2), (3, .int x3), (4, .int x4), (5, .int x5)]) hx hb dX9_spread_35 hl (by decide) rfl (fun ls hl => ?_)
        exact kX9_spread_p37 dC dI cB cI cJ cZ a C0 n m_letters m_words m_wMany m_wLetters m_asks m_aWords m_dLetters m_dWords m_dMany m_dText m_dAsks m_dAsk m_tape m_taped m_pos m_from m_sort m_value m_fault m_wrongAt m_manyA m_rowA m_manyB m_rowB m_places m_xs m_ys m_heights m_ridges m_rx m_rHeight m_lanes m_sizes m_cells m_left m_calls m_cDay m_cHour m_cFrom m_cAsk m_cWord m_cOf m_isLie m_children m_learned m_group x1 x2 x3 x4 x5 (0 : Int32) (0 : Int32) r0 z_m_manyA z_m_rowA z_m_manyB z_m_rowB  n _ _ ls h hP hD hS (lv_sub hl [2, 3, 4, 5, 6, 7, 1, 0] rfl)
      · have h := it_use c6 h
        refine lv_iconst (v := -1) hx hb dX9_spread_29 (by decide) ?_
        obtain ⟨er, ez0, ez1, ez2, ez3⟩ := rt5_use h
        subst ez0
        subst ez1
        subst ez2
        subst ez3
        exact re_i hx hb hr hlocks hK hP hD hS er dX9_spread_30
set_option maxHeartbeats 4000000 in
set_option maxRecDepth 100000 in
theorem kX9_child_p13_r {p : Program} {l : Launch} {e : Env} {s : State} {m : MethodId} {args : Array Value} {below : List Frame} {meth : Method} {c : Code} {A : Nat → Prop} (dC : Nat → ClassId) (dI : Nat → Nat → Nat) (cB cI cJ cZ : ClassId) (a : Nat → Nat) (C0 : cxt cX9_child (some .int) 2 RX9 wsX9_child (dC, dI) (tyz cB cI cJ cZ) E_0 A p s m args meth c) (n : Nat) (m_letters : Nat → Int32) (m_words : Int32) (m_wMany : Nat → Int32) (m_wLetters : Nat → Int32) (m_asks : Int32) (m_aWords : Nat → Int32) (m_dLetters : Nat → Int32) (m_dWords : Int32) (m_dMany : Nat → Int32) (m_dText : Nat → Int32) (m_dAsks : Int32) (m_dAsk : Nat → Int32) (m_tape : Nat → Int32) (m_taped : Int32) (m_pos : Int32) (m_from : Int32) (m_sort : Int32) (m_value : Int32) (m_fault : Int32) (m_wrongAt : Int32) (m_manyA : Int32) (m_rowA : Nat → Int32) (m_manyB : Int32) (m_rowB : Nat → Int32) (m_places : Int32) (m_xs : Nat → Int32) (m_ys : Nat → Int32) (m_heights : Nat → Int32) (m_ridges : Int32) (m_rx : Nat → Int32) (m_rHeight : Nat → Int32) (m_lanes : Nat → Int32) (m_sizes : Nat → Int32) (m_cells : Nat → Int32) (m_left : Nat → Int32) (m_calls : Int32) (m_cDay : Nat → Int32) (m_cHour : Nat → Int32) (m_cFrom : Nat → Int32) (m_cAsk : Nat → Int32) (m_cWord : Nat → Int32) (m_cOf : Nat → Int32) (m_isLie : Nat → Int32) (m_children : Int32) (m_group : Nat → Int32)  (r0 : Int32) (z_m_children : Int32) (z_m_learned : Nat → Int32)  : ∀ (k : Nat) (m_learned : Nat → Int32) (x1 : Int32) (H : Heap) (locs : List Loc) (ls : Array Slot), fX9_child_p13 n m_children k m_learned x1 = some (r0, z_m_children, z_m_learned) → va_P (dC, dI) vwCl (wM cB cI cJ cZ a m_letters m_words m_wMany m_wLetters m_asks m_aWords m_dLetters m_dWords m_dMany m_dText m_dAsks m_dAsk m_tape m_taped m_pos m_from m_sort m_value m_fault m_wrongAt m_manyA m_rowA m_manyB m_rowB m_places m_xs m_ys m_heights m_ridges m_rx m_rHeight m_lanes m_sizes m_cells m_left m_calls m_cDay m_cHour m_cFrom m_cAsk m_cWord m_cOf m_isLie m_children m_learned m_group) H → va_D A (wM cB cI cJ cZ a m_letters m_words m_wMany m_wLetters m_asks m_aWords m_dLetters m_dWords m_dMany m_dText m_dAsks m_dAsk m_tape m_taped m_pos m_from m_sort m_value m_fault m_wrongAt m_manyA m_rowA m_manyB m_rowB m_places m_xs m_ys m_heights m_ridges m_rx m_rHeight m_lanes m_sizes m_cells m_left m_calls m_cDay m_cHour m_cFrom m_cAsk m_cWord m_cOf m_isLie m_children m_learned m_group) → va_S A s.heap H locs → lv_has ls 2 [(0, .ref (a 0)), (1, .int x1)] → W p l e { frames := 0, cells := 0, slots := 0, locals := 0 } s m args below meth c H locs 0 0 (MQ below (gI (dC, dI) (tyz cB cI cJ cZ) (wM cB cI cJ cZ a m_letters m_words m_wMany m_wLetters m_asks m_aWords m_dLetters m_dWords m_dMany m_dText m_dAsks m_dAsk m_tape m_taped m_pos m_from m_sort m_value m_fault m_wrongAt m_manyA m_rowA m_manyB m_rowB m_places m_xs m_ys m_heights m_ridges m_rx m_rHeight m_lanes m_sizes m_cells m_left m_calls m_cDay m_cHour m_cFrom m_cAsk m_cWord m_cOf m_isLie z_m_children z_m_learned m_group) A r0) args s 0 0 A) (F0 m 13 ls []) := by
  obtain ⟨hx, hb, hr, hml, hown, hts, hlocks, hK, hA, hE⟩ := id C0
  have hw0 := hts (.fieldLink RX9 180 "WhistledWordsModel" "children" "I") (by decide +kernel)
  have hw1 := hts (.fieldLink RX9 92 "WhistledWordsModel" "learned" "[I") (by decide +kernel)
  have hnX9 : ∀ w ∈ u_ws RX9 TX9 46, w ∈ wsX9_child := fun _ h => List.mem_cons_of_mem _ (List.mem_append_right _ h)
  intro k
  induction k with
  | zero =>
    intro m_learned x1 H locs ls h
    cases h
  | succ k ih =>
    intro m_learned x1 H locs ls h hP hD hS hl
    rw [fX9_child_p13] at h
    refine lv_iload_n hx hb dX9_child_13 rfl (lv_at hl 1 rfl) ?_
    refine lv_bipush (v := 16) hx hb dX9_child_14 (by decide) ?_
    refine lv_icmp_ge (tgt := 40) hx hb dX9_child_16 (by decide) (fun c1 => ?_) (fun c1 => ?_)
    · have h := it_use c1 h
      refine lv_aload_n hx hb dX9_child_40 rfl (lv_at hl 0 rfl) ?_
      refine lv_dup hx hb dX9_child_41 rfl ?_
      refine gM_mo_children hx hb hts hnX9 hown hK hP hw0 dX9_child_42 ?_
      refine lv_iconst (v := 1) hx hb dX9_child_45 (by decide) ?_
      refine lv_iadd hx hb dX9_child_46 ?_
      refine lv_topi (fun v2 ev2 => ?_)
      have h := nm_use ev2 h
      refine pM_mo_children hx hb hts hnX9 hown hK hP hD hS hw0 dX9_child_47 (fun H locs hP hD hS => ?_)
      refine lv_aload_n hx hb dX9_child_50 rfl (lv_at hl 0 rfl) ?_
      refine gM_mo_children hx hb hts hnX9 hown hK hP hw0 dX9_child_51 ?_
      refine lv_iconst (v := 1) hx hb dX9_child_54 (by decide) ?_
      refine lv_isub hx hb dX9_child_55 ?_
      obtain ⟨er, ez0, ez1⟩ := rt3_use h
      subst ez0
      subst ez1
      exact re_i hx hb hr hlocks hK hP hD hS er dX9_child_56
    · have h := ie_use c1 h
      refine lv_aload_n hx hb dX9_child_19 rfl (lv_at hl 0 rfl) ?_
      refine gM_mo_learned hx hb hts hnX9 hown hK hP hw1 dX9_child_20 ?_
      refine lv_bipush (v := 16) hx hb dX9_child_23 (by decide) ?_
      refine lv_aload_n hx hb dX9_child_25 rfl (lv_at hl 0 rfl) ?_
      refine gM_mo_children hx hb hts hnX9 hown hK hP hw0 dX9_child_26 ?_
      refine lv_imul hx hb dX9_child_29 ?_
      refine lv_iload_n hx hb dX9_child_30 rfl (lv_at hl 1 rfl) ?_
      refine lv_iadd hx hb dX9_child_31 ?_
      refine lv_iconst (v := 0) hx hb dX9_child_32 (by decide) ?_
      obtain ⟨hif3, f3, ef3, h⟩ := aw_use h
      refine sM_mo_learned hx hb hK hP hD hS hif3 ef3 dX9_child_33 (fun H locs hP hD hS => ?_)
      refine lv_iinc (v := x1 + 1) (lv' := [(1, .int (x1 + 1)), (0, .ref (a 0))]) hx hb dX9_child_34 hl (k := 1) rfl rfl (by decide) rfl (fun ls hl => ?_)
      refine lv_goto (tgt := 13) hx hb dX9_child_37 (by decide) ?_
      exact ih f3 (x1 + 1) _ _ ls h hP hD hS (lv_sub hl [1, 0] rfl)
theorem kX9_child_p13 {p : Program} {l : Launch} {e : Env} {s : State} {m : MethodId} {args : Array Value} {below : List Frame} {meth : Method} {c : Code} {A : Nat → Prop} (dC : Nat → ClassId) (dI : Nat → Nat → Nat) (cB cI cJ cZ : ClassId) (a : Nat → Nat) (C0 : cxt cX9_child (some .int) 2 RX9 wsX9_child (dC, dI) (tyz cB cI cJ cZ) E_0 A p s m args meth c) (n : Nat) (m_letters : Nat → Int32) (m_words : Int32) (m_wMany : Nat → Int32) (m_wLetters : Nat → Int32) (m_asks : Int32) (m_aWords : Nat → Int32) (m_dLetters : Nat → Int32) (m_dWords : Int32) (m_dMany : Nat → Int32) (m_dText : Nat → Int32) (m_dAsks : Int32) (m_dAsk : Nat → Int32) (m_tape : Nat → Int32) (m_taped : Int32) (m_pos : Int32) (m_from : Int32) (m_sort : Int32) (m_value : Int32) (m_fault : Int32) (m_wrongAt : Int32) (m_manyA : Int32) (m_rowA : Nat → Int32) (m_manyB : Int32) (m_rowB : Nat → Int32) (m_places : Int32) (m_xs : Nat → Int32) (m_ys : Nat → Int32) (m_heights : Nat → Int32) (m_ridges : Int32) (m_rx : Nat → Int32) (m_rHeight : Nat → Int32) (m_lanes : Nat → Int32) (m_sizes : Nat → Int32) (m_cells : Nat → Int32) (m_left : Nat → Int32) (m_calls : Int32) (m_cDay : Nat → Int32) (m_cHour : Nat → Int32) (m_cFrom : Nat → Int32) (m_cAsk : Nat → Int32) (m_cWord : Nat → Int32) (m_cOf : Nat → Int32) (m_isLie : Nat → Int32) (m_children : Int32) (m_learned : Nat → Int32) (m_group : Nat → Int32)  (x1 : Int32) (r0 : Int32) (z_m_children : Int32) (z_m_learned : Nat → Int32)  (k : Nat) (H : Heap) (locs : List Loc) (ls : Array Slot) : fX9_child_p13 n m_children k m_learned x1 = some (r0, z_m_children, z_m_learned) → va_P (dC, dI) vwCl (wM cB cI cJ cZ a m_letters m_words m_wMany m_wLetters m_asks m_aWords m_dLetters m_dWords m_dMany m_dText m_dAsks m_dAsk m_tape m_taped m_pos m_from m_sort m_value m_fault m_wrongAt m_manyA m_rowA m_manyB m_rowB m_places m_xs m_ys m_heights m_ridges m_rx m_rHeight m_lanes m_sizes m_cells m_left m_calls m_cDay m_cHour m_cFrom m_cAsk m_cWord m_cOf m_isLie m_children m_learned m_group) H → va_D A (wM cB cI cJ cZ a m_letters m_words m_wMany m_wLetters m_asks m_aWords m_dLetters m_dWords m_dMany m_dText m_dAsks m_dAsk m_tape m_taped m_pos m_from m_sort m_value m_fault m_wrongAt m_manyA m_rowA m_manyB m_rowB m_places m_xs m_ys m_heights m_ridges m_rx m_rHeight m_lanes m_sizes m_cells m_left m_calls m_cDay m_cHour m_cFrom m_cAsk m_cWord m_cOf m_isLie m_children m_learned m_group) → va_S A s.heap H locs → lv_has ls 2 [(0, .ref (a 0)), (1, .int x1)] → W p l e { frames := 0, cells := 0, slots := 0, locals := 0 } s m args below meth c H locs 0 0 (MQ below (gI (dC, dI) (tyz cB cI cJ cZ) (wM cB cI cJ cZ a m_letters m_words m_wMany m_wLetters m_asks m_aWords m_dLetters m_dWords m_dMany m_dText m_dAsks m_dAsk m_tape m_taped m_pos m_from m_sort m_value m_fault m_wrongAt m_manyA m_rowA m_manyB m_rowB m_places m_xs m_ys m_heights m_ridges m_rx m_rHeight m_lanes m_sizes m_cells m_left m_calls m_cDay m_cHour m_cFrom m_cAsk m_cWord m_cOf m_isLie z_m_children z_m_learned m_group) A r0) args s 0 0 A) (F0 m 13 ls []) :=
  kX9_child_p13_r dC dI cB cI cJ cZ a C0 n m_letters m_words m_wMany m_wLetters m_asks m_aWords m_dLetters m_dWords m_dMany m_dText m_dAsks m_dAsk m_tape m_taped m_pos m_from m_sort m_value m_fault m_wrongAt m_manyA m_rowA m_manyB m_rowB m_places m_xs m_ys m_heights m_ridges m_rx m_rHeight m_lanes m_sizes m_cells m_left m_calls m_cDay m_cHour m_cFrom m_cAsk m_cWord m_cOf m_isLie m_children m_group  r0 z_m_children z_m_learned  k m_learned x1 H locs ls
set_option maxHeartbeats 4000000 in
set_option maxRecDepth 100000 in
theorem kX9_child (l : Launch) (n : Nat) (dC : Nat → ClassId) (dI : Nat → Nat → Nat) (cB cI cJ cZ : ClassId) (a : Nat → Nat) (sz : Nat) (m_letters : Nat → Int32) (m_words : Int32) (m_wMany : Nat → Int32) (m_wLetters : Nat → Int32) (m_asks : Int32) (m_aWords : Nat → Int32) (m_dLetters : Nat → Int32) (m_dWords : Int32) (m_dMany : Nat → Int32) (m_dText : Nat → Int32) (m_dAsks : Int32) (m_dAsk : Nat → Int32) (m_tape : Nat → Int32) (m_taped : Int32) (m_pos : Int32) (m_from : Int32) (m_sort : Int32) (m_value : Int32) (m_fault : Int32) (m_wrongAt : Int32) (m_manyA : Int32) (m_rowA : Nat → Int32) (m_manyB : Int32) (m_rowB : Nat → Int32) (m_places : Int32) (m_xs : Nat → Int32) (m_ys : Nat → Int32) (m_heights : Nat → Int32) (m_ridges : Int32) (m_rx : Nat → Int32) (m_rHeight : Nat → Int32) (m_lanes : Nat → Int32) (m_sizes : Nat → Int32) (m_cells : Nat → Int32) (m_left : Nat → Int32) (m_calls : Int32) (m_cDay : Nat → Int32) (m_cHour : Nat → Int32) (m_cFrom : Nat → Int32) (m_cAsk : Nat → Int32) (m_cWord : Nat → Int32) (m_cOf : Nat → Int32) (m_isLie : Nat → Int32) (m_children : Int32) (m_learned : Nat → Int32) (m_group : Nat → Int32)  (r0 : Int32) (z_m_children : Int32) (z_m_learned : Nat → Int32) (h : fX9_child n m_children m_learned = some (r0, z_m_children, z_m_learned)) : Met l yX9_child wsX9_child ({ frames := 0, cells := 0, slots := 0, locals := 0 }) (gP (dC, dI) (tyz cB cI cJ cZ) E_0 (wM cB cI cJ cZ a m_letters m_words m_wMany m_wLetters m_asks m_aWords m_dLetters m_dWords m_dMany m_dText m_dAsks m_dAsk m_tape m_taped m_pos m_from m_sort m_value m_fault m_wrongAt m_manyA m_rowA m_manyB m_rowB m_places m_xs m_ys m_heights m_ridges m_rx m_rHeight m_lanes m_sizes m_cells m_left m_calls m_cDay m_cHour m_cFrom m_cAsk m_cWord m_cOf m_isLie m_children m_learned m_group) sz [.ref (a 0)]) (gI (dC, dI) (tyz cB cI cJ cZ) (wM cB cI cJ cZ a m_letters m_words m_wMany m_wLetters m_asks m_aWords m_dLetters m_dWords m_dMany m_dText m_dAsks m_dAsk m_tape m_taped m_pos m_from m_sort m_value m_fault m_wrongAt m_manyA m_rowA m_manyB m_rowB m_places m_xs m_ys m_heights m_ridges m_rx m_rHeight m_lanes m_sizes m_cells m_left m_calls m_cDay m_cHour m_cFrom m_cAsk m_cWord m_cOf m_isLie z_m_children z_m_learned m_group) (va_A (wM cB cI cJ cZ a m_letters m_words m_wMany m_wLetters m_asks m_aWords m_dLetters m_dWords m_dMany m_dText m_dAsks m_dAsk m_tape m_taped m_pos m_from m_sort m_value m_fault m_wrongAt m_manyA m_rowA m_manyB m_rowB m_places m_xs m_ys m_heights m_ridges m_rx m_rHeight m_lanes m_sizes m_cells m_left m_calls m_cDay m_cHour m_cFrom m_cAsk m_cWord m_cOf m_isLie m_children m_learned m_group) sz) r0) 0 0 (va_A (wM cB cI cJ cZ a m_letters m_words m_wMany m_wLetters m_asks m_aWords m_dLetters m_dWords m_dMany m_dText m_dAsks m_dAsk m_tape m_taped m_pos m_from m_sort m_value m_fault m_wrongAt m_manyA m_rowA m_manyB m_rowB m_places m_xs m_ys m_heights m_ridges m_rx m_rHeight m_lanes m_sizes m_cells m_left m_calls m_cDay m_cHour m_cFrom m_cAsk m_cWord m_cOf m_isLie m_children m_learned m_group) sz) := by
  refine Met.ofW (cc := cX9_child) (maxL := 2) (ret := (some .int)) (by decide) rfl ?_
  intro p e s m args below meth c s₁ B hml hv
  obtain ⟨rfl, hsz, hP, hK, hD0, hE⟩ := hv
  have hx := B.exec
  have hb := B.bytes
  have hr := B.returns
  have hts := atoms_spec (ws := wsX9_child) B.pre
  have hown : s.vm.findClass RX9 = some m.cls := findClass_of_methodNamed B.named
  have hlocks := B.notSynchronized
  subst hsz
  have hD := hD0.self (sz := s.heap.size)
  have hA : ∀ q : Nat, s.heap.size ≤ q → va_A (wM cB cI cJ cZ a m_letters m_words m_wMany m_wLetters m_asks m_aWords m_dLetters m_dWords m_dMany m_dText m_dAsks m_dAsk m_tape m_taped m_pos m_from m_sort m_value m_fault m_wrongAt m_manyA m_rowA m_manyB m_rowB m_places m_xs m_ys m_heights m_ridges m_rx m_rHeight m_lanes m_sizes m_cells m_left m_calls m_cDay m_cHour m_cFrom m_cAsk m_cWord m_cOf m_isLie m_children m_learned m_group) s.heap.size q := fun q h => Or.inr h
  generalize va_A (wM cB cI cJ cZ a m_letters m_words m_wMany m_wLetters m_asks m_aWords m_dLetters m_dWords m_dMany m_dText m_dAsks m_dAsk m_tape m_taped m_pos m_from m_sort m_value m_fault m_wrongAt m_manyA m_rowA m_manyB m_rowB m_places m_xs m_ys m_heights m_ridges m_rx m_rHeight m_lanes m_sizes m_cells m_left m_calls m_cDay m_cHour m_cFrom m_cAsk m_cWord m_cOf m_isLie m_children m_learned m_group) s.heap.size = A at hD hA hE ⊢
  have hS : va_S A s.heap s.heap [] := va_S.rf
  have C0 : cxt cX9_child (some .int) 2 RX9 wsX9_child (dC, dI) (tyz cB cI cJ cZ) E_0 A p s m ([.ref (a 0)] : List Value).toArray meth c := ⟨hx, hb, hr, hml, hown, hts, hlocks, hK, hA, hE⟩
  have hl := lv_entry ([.ref (a 0)]) (n := 2) (Nat.le_of_ble_eq_true rfl)
  rw [lg_entry_eq]
  generalize (lg_sl ([.ref (a 0)]) ++ List.replicate (2 - (lg_sl ([.ref (a 0)])).length) Slot.unset).toArray = ls at hl ⊢
  have hl : lv_has ls 2 [(0, .ref (a 0))] := hl
  have hw0 := hts (.fieldLink RX9 180 "WhistledWordsModel" "children" "I") (by decide +kernel)
  have hnX9 : ∀ w ∈ u_ws RX9 TX9 46, w ∈ wsX9_child := fun _ h => List.mem_cons_of_mem _ (List.mem_append_right _ h)
  unfold fX9_child at h
  refine lv_aload_n hx hb dX9_child_0 rfl (lv_at hl 0 rfl) ?_
  refine gM_mo_children hx hb hts hnX9 hown hK hP hw0 dX9_child_1 ?_
  refine lv_iconst (v := 4) hx hb dX9_child_4 (by decide) ?_
  refine lv_icmp_ne (tgt := 11) hx hb dX9_child_5 (by decide) (fun c1 => ?_) (fun c1 => ?_)
  · have h := ie_use c1 h
    refine lv_iconst (v := 0) hx hb dX9_child_11 (by decide) ?_
    refine lv_istore_n (lv' := [(1, .int (0 : Int32)), (0, .ref (a 0))]) hx hb dX9_child_12 rfl hl (by decide) rfl (fun ls hl => ?_)
    exact kX9_child_p13 dC dI cB cI cJ cZ a C0 n m_letters m_words m_wMany m_wLetters m_asks m_aWords m_dLetters m_dWords m_dMany m_dText m_dAsks m_dAsk m_tape m_taped m_pos m_from m_sort m_value m_fault m_wrongAt m_manyA m_rowA m_manyB m_rowB m_places m_xs m_ys m_heights m_ridges m_rx m_rHeight m_lanes m_sizes m_cells m_left m_calls m_cDay m_cHour m_cFrom m_cAsk m_cWord m_cOf m_isLie m_children m_learned m_group (0 : Int32) r0 z_m_children z_m_learned  n _ _ ls h hP hD hS (lv_sub hl [1, 0] rfl)
  · have h := it_use c1 h
    refine lv_bipush (v := -3) hx hb dX9_child_8 (by decide) ?_
    obtain ⟨er, ez0, ez1⟩ := rt3_use h
    subst ez0
    subst ez1
    exact re_i hx hb hr hlocks hK hP hD hS er dX9_child_10
set_option maxHeartbeats 4000000 in
set_option maxRecDepth 100000 in
theorem kX9_isChild (l : Launch) (n : Nat) (dC : Nat → ClassId) (dI : Nat → Nat → Nat) (cB cI cJ cZ : ClassId) (a : Nat → Nat) (sz : Nat) (m_letters : Nat → Int32) (m_words : Int32) (m_wMany : Nat → Int32) (m_wLetters : Nat → Int32) (m_asks : Int32) (m_aWords : Nat → Int32) (m_dLetters : Nat → Int32) (m_dWords : Int32) (m_dMany : Nat → Int32) (m_dText : Nat → Int32) (m_dAsks : Int32) (m_dAsk : Nat → Int32) (m_tape : Nat → Int32) (m_taped : Int32) (m_pos : Int32) (m_from : Int32) (m_sort : Int32) (m_value : Int32) (m_fault : Int32) (m_wrongAt : Int32) (m_manyA : Int32) (m_rowA : Nat → Int32) (m_manyB : Int32) (m_rowB : Nat → Int32) (m_places : Int32) (m_xs : Nat → Int32) (m_ys : Nat → Int32) (m_heights : Nat → Int32) (m_ridges : Int32) (m_rx : Nat → Int32) (m_rHeight : Nat → Int32) (m_lanes : Nat → Int32) (m_sizes : Nat → Int32) (m_cells : Nat → Int32) (m_left : Nat → Int32) (m_calls : Int32) (m_cDay : Nat → Int32) (m_cHour : Nat → Int32) (m_cFrom : Nat → Int32) (m_cAsk : Nat → Int32) (m_cWord : Nat → Int32) (m_cOf : Nat → Int32) (m_isLie : Nat → Int32) (m_children : Int32) (m_learned : Nat → Int32) (m_group : Nat → Int32) (x1 : Int32) (r0 : Int32) (h : fX9_isChild n m_children x1 = some r0) : Met l yX9_isChild wsX9_isChild ({ frames := 1, cells := 0, slots := 0, locals := 25 }) (gP (dC, dI) (tyz cB cI cJ cZ) E_0 (wM cB cI cJ cZ a m_letters m_words m_wMany m_wLetters m_asks m_aWords m_dLetters m_dWords m_dMany m_dText m_dAsks m_dAsk m_tape m_taped m_pos m_from m_sort m_value m_fault m_wrongAt m_manyA m_rowA m_manyB m_rowB m_places m_xs m_ys m_heights m_ridges m_rx m_rHeight m_lanes m_sizes m_cells m_left m_calls m_cDay m_cHour m_cFrom m_cAsk m_cWord m_cOf m_isLie m_children m_learned m_group) sz [.ref (a 0), .int x1]) (gI (dC, dI) (tyz cB cI cJ cZ) (wM cB cI cJ cZ a m_letters m_words m_wMany m_wLetters m_asks m_aWords m_dLetters m_dWords m_dMany m_dText m_dAsks m_dAsk m_tape m_taped m_pos m_from m_sort m_value m_fault m_wrongAt m_manyA m_rowA m_manyB m_rowB m_places m_xs m_ys m_heights m_ridges m_rx m_rHeight m_lanes m_sizes m_cells m_left m_calls m_cDay m_cHour m_cFrom m_cAsk m_cWord m_cOf m_isLie m_children m_learned m_group) (va_A (wM cB cI cJ cZ a m_letters m_words m_wMany m_wLetters m_asks m_aWords m_dLetters m_dWords m_dMany m_dText m_dAsks m_dAsk m_tape m_taped m_pos m_from m_sort m_value m_fault m_wrongAt m_manyA m_rowA m_manyB m_rowB m_places m_xs m_ys m_heights m_ridges m_rx m_rHeight m_lanes m_sizes m_cells m_left m_calls m_cDay m_cHour m_cFrom m_cAsk m_cWord m_cOf m_isLie m_children m_learned m_group) sz) r0) 0 0 (va_A (wM cB cI cJ cZ a m_letters m_words m_wMany m_wLetters m_asks m_aWords m_dLetters m_dWords m_dMany m_dText m_dAsks m_dAsk m_tape m_taped m_pos m_from m_sort m_value m_fault m_wrongAt m_manyA m_rowA m_manyB m_rowB m_places m_xs m_ys m_heights m_ridges m_rx m_rHeight m_lanes m_sizes m_cells m_left m_calls m_cDay m_cHour m_cFrom m_cAsk m_cWord m_cOf m_isLie m_children m_learned m_group) sz) := by
  refine Met.ofW (cc := cX9_isChild) (maxL := 2) (ret := (some .boolean)) (by decide) rfl ?_
  intro p e s m args below meth c s₁ B hml hv
  obtain ⟨rfl, hsz, hP, hK, hD0, hE⟩ := hv
  have hx := B.exec
  have hb := B.bytes
  have hr := B.returns
  have hts := atoms_spec (ws := wsX9_isChild) B.pre
  have hown : s.vm.findClass RX9 = some m.cls := findClass_of_methodNamed B.named
  have hlocks := B.notSynchronized
  subst hsz
  have hD := hD0.self (sz := s.heap.size)
  have hA : ∀ q : Nat, s.heap.size ≤ q → va_A (wM cB cI cJ cZ a m_letters m_words m_wMany m_wLetters m_asks m_aWords m_dLetters m_dWords m_dMany m_dText m_dAsks m_dAsk m_tape m_taped m_pos m_from m_sort m_value m_fault m_wrongAt m_manyA m_rowA m_manyB m_rowB m_places m_xs m_ys m_heights m_ridges m_rx m_rHeight m_lanes m_sizes m_cells m_left m_calls m_cDay m_cHour m_cFrom m_cAsk m_cWord m_cOf m_isLie m_children m_learned m_group) s.heap.size q := fun q h => Or.inr h
  generalize va_A (wM cB cI cJ cZ a m_letters m_words m_wMany m_wLetters m_asks m_aWords m_dLetters m_dWords m_dMany m_dText m_dAsks m_dAsk m_tape m_taped m_pos m_from m_sort m_value m_fault m_wrongAt m_manyA m_rowA m_manyB m_rowB m_places m_xs m_ys m_heights m_ridges m_rx m_rHeight m_lanes m_sizes m_cells m_left m_calls m_cDay m_cHour m_cFrom m_cAsk m_cWord m_cOf m_isLie m_children m_learned m_group) s.heap.size = A at hD hA hE ⊢
  have hS : va_S A s.heap s.heap [] := va_S.rf
  have C0 : cxt cX9_isChild (some .boolean) 2 RX9 wsX9_isChild (dC, dI) (tyz cB cI cJ cZ) E_0 A p s m ([.ref (a 0), .int x1] : List Value).toArray meth c := ⟨hx, hb, hr, hml, hown, hts, hlocks, hK, hA, hE⟩
  have hl := lv_entry ([.ref (a 0), .int x1]) (n := 2) (Nat.le_of_ble_eq_true rfl)
  rw [lg_entry_eq]
  generalize (lg_sl ([.ref (a 0), .int x1]) ++ List.replicate (2 - (lg_sl ([.ref (a 0), .int x1])).length) Slot.unset).toArray = ls at hl ⊢
  have hl : lv_has ls 2 [(0, .ref (a 0)), (1, .int x1)] := hl
  have hw0 := hts (.fieldLink RX9 180 "WhistledWordsModel" "children" "I") (by decide +kernel)
  have hnX9 : ∀ w ∈ u_ws RX9 TX9 46, w ∈ wsX9_isChild := fun _ h => List.mem_cons_of_mem _ (List.mem_append_right _ h)
  unfold fX9_isChild at h
  refine lv_iload_n hx hb dX9_isChild_0 rfl (lv_at hl 1 rfl) ?_
  refine lv_i2l hx hb dX9_isChild_1 rfl ?_
  refine lv_lconst (v := 0) hx hb dX9_isChild_2 (by decide) ?_
  refine lv_aload_n hx hb dX9_isChild_3 rfl (lv_at hl 0 rfl) ?_
  refine gM_mo_children hx hb hts hnX9 hown hK hP hw0 dX9_isChild_4 ?_
  refine lv_iconst (v := 1) hx hb dX9_isChild_7 (by decide) ?_
  refine lv_isub hx hb dX9_isChild_8 ?_
  refine lv_i2l hx hb dX9_isChild_9 rfl ?_
  obtain ⟨v1, hc, h⟩ := bd1_use h
  refine cs_i (As := [.long x1.toInt64, .long (0 : Int64), .long ((m_children - (1 : Int32)).toInt64)]) (rest := []) ⟨hx, hb, hml, hown, hts⟩ (kX9_in l n x1.toInt64 (0 : Int64) ((m_children - (1 : Int32)).toInt64) v1 hc) (va_cwS 3 hts gX9_isChild_X9_in rfl rfl rfl (by decide +kernel) ⟨Nat.le_of_ble_eq_true rfl, Nat.le_of_ble_eq_true rfl⟩) hP hS rfl hl.1 rfl (Nat.le_of_ble_eq_true rfl) dX9_isChild_10 ⟨Nat.zero_le _, Nat.zero_le _⟩ (fun H locs hP hS => ?_)
  obtain ⟨hzb, h⟩ := rb_use h
  obtain er := rt1_use h
  exact re_z hx hb hr hlocks hK hP hD hS hzb er dX9_isChild_13
set_option maxHeartbeats 4000000 in
set_option maxRecDepth 100000 in
theorem kX9_learn (l : Launch) (n : Nat) (dC : Nat → ClassId) (dI : Nat → Nat → Nat) (cB cI cJ cZ : ClassId) (a : Nat → Nat) (sz : Nat) (m_letters : Nat → Int32) (m_words : Int32) (m_wMany : Nat → Int32) (m_wLetters : Nat → Int32) (m_asks : Int32) (m_aWords : Nat → Int32) (m_dLetters : Nat → Int32) (m_dWords : Int32) (m_dMany : Nat → Int32) (m_dText : Nat → Int32) (m_dAsks : Int32) (m_dAsk : Nat → Int32) (m_tape : Nat → Int32) (m_taped : Int32) (m_pos : Int32) (m_from : Int32) (m_sort : Int32) (m_value : Int32) (m_fault : Int32) (m_wrongAt : Int32) (m_manyA : Int32) (m_rowA : Nat → Int32) (m_manyB : Int32) (m_rowB : Nat → Int32) (m_places : Int32) (m_xs : Nat → Int32) (m_ys : Nat → Int32) (m_heights : Nat → Int32) (m_ridges : Int32) (m_rx : Nat → Int32) (m_rHeight : Nat → Int32) (m_lanes : Nat → Int32) (m_sizes : Nat → Int32) (m_cells : Nat → Int32) (m_left : Nat → Int32) (m_calls : Int32) (m_cDay : Nat → Int32) (m_cHour : Nat → Int32) (m_cFrom : Nat → Int32) (m_cAsk : Nat → Int32) (m_cWord : Nat → Int32) (m_cOf : Nat → Int32) (m_isLie : Nat → Int32) (m_children : Int32) (m_learned : Nat → Int32) (m_group : Nat → Int32) (x1 : Int32) (x2 : Int32) (x3 : Int32) (r0 : Int32) (z_m_learned : Nat → Int32) (h : fX9_learn n m_words m_children m_learned x1 x2 x3 = some (r0, z_m_learned)) : Met l yX9_learn wsX9_learn ({ frames := 2, cells := 0, slots := 0, locals := 46 }) (gP (dC, dI) (tyz cB cI cJ cZ) E_0 (wM cB cI cJ cZ a m_letters m_words m_wMany m_wLetters m_asks m_aWords m_dLetters m_dWords m_dMany m_dText m_dAsks m_dAsk m_tape m_taped m_pos m_from m_sort m_value m_fault m_wrongAt m_manyA m_rowA m_manyB m_rowB m_places m_xs m_ys m_heights m_ridges m_rx m_rHeight m_lanes m_sizes m_cells m_left m_calls m_cDay m_cHour m_cFrom m_cAsk m_cWord m_cOf m_isLie m_children m_learned m_group) sz [.ref (a 0), .int x1, .int x2, .int x3]) (gI (dC, dI) (tyz cB cI cJ cZ) (wM cB cI cJ cZ a m_letters m_words m_wMany m_wLetters m_asks m_aWords m_dLetters m_dWords m_dMany m_dText m_dAsks m_dAsk m_tape m_taped m_pos m_from m_sort m_value m_fault m_wrongAt m_manyA m_rowA m_manyB m_rowB m_places m_xs m_ys m_heights m_ridges m_rx m_rHeight m_lanes m_sizes m_cells m_left m_calls m_cDay m_cHour m_cFrom m_cAsk m_cWord m_cOf m_isLie m_children z_m_learned m_group) (va_A (wM cB cI cJ cZ a m_letters m_words m_wMany m_wLetters m_asks m_aWords m_dLetters m_dWords m_dMany m_dText m_dAsks m_dAsk m_tape m_taped m_pos m_from m_sort m_value m_fault m_wrongAt m_manyA m_rowA m_manyB m_rowB m_places m_xs m_ys m_heights m_ridges m_rx m_rHeight m_lanes m_sizes m_cells m_left m_calls m_cDay m_cHour m_cFrom m_cAsk m_cWord m_cOf m_isLie m_children m_learned m_group) sz) r0) 0 0 (va_A (wM cB cI cJ cZ a m_letters m_words m_wMany m_wLetters m_asks m_aWords m_dLetters m_dWords m_dMany m_dText m_dAsks m_dAsk m_tape m_taped m_pos m_from m_sort m_value m_fault m_wrongAt m_manyA m_rowA m_manyB m_rowB m_places m_xs m_ys m_heights m_ridges m_rx m_rHeight m_lanes m_sizes m_cells m_left m_calls m_cDay m_cHour m_cFrom m_cAsk m_cWord m_cOf m_isLie m_children m_learned m_group) sz) := by
  refine Met.ofW (cc := cX9_learn) (maxL := 5) (ret := (some .int)) (by decide) rfl ?_
  intro p e s m args below meth c s₁ B hml hv
  obtain ⟨rfl, hsz, hP, hK, hD0, hE⟩ := hv
  have hx := B.exec
  have hb := B.bytes
  have hr := B.returns
  have hts := atoms_spec (ws := wsX9_learn) B.pre
  have hown : s.vm.findClass RX9 = some m.cls := findClass_of_methodNamed B.named
  have hlocks := B.notSynchronized
  subst hsz
  have hD := hD0.self (sz := s.heap.size)
  have hA : ∀ q : Nat, s.heap.size ≤ q → va_A (wM cB cI cJ cZ a m_letters m_words m_wMany m_wLetters m_asks m_aWords m_dLetters m_dWords m_dMany m_dText m_dAsks m_dAsk m_tape m_taped m_pos m_from m_sort m_value m_fault m_wrongAt m_manyA m_rowA m_manyB m_rowB m_places m_xs m_ys m_heights m_ridges m_rx m_rHeight m_lanes m_sizes m_cells m_left m_calls m_cDay m_cHour m_cFrom m_cAsk m_cWord m_cOf m_isLie m_children m_learned m_group) s.heap.size q := fun q h => Or.inr h
  generalize va_A (wM cB cI cJ cZ a m_letters m_words m_wMany m_wLetters m_asks m_aWords m_dLetters m_dWords m_dMany m_dText m_dAsks m_dAsk m_tape m_taped m_pos m_from m_sort m_value m_fault m_wrongAt m_manyA m_rowA m_manyB m_rowB m_places m_xs m_ys m_heights m_ridges m_rx m_rHeight m_lanes m_sizes m_cells m_left m_calls m_cDay m_cHour m_cFrom m_cAsk m_cWord m_cOf m_isLie m_children m_learned m_group) s.heap.size = A at hD hA hE ⊢
  have hS : va_S A s.heap s.heap [] := va_S.rf
  have C0 : cxt cX9_learn (some .int) 5 RX9 wsX9_learn (dC, dI) (tyz cB cI cJ cZ) E_0 A p s m ([.ref (a 0), .int x1, .int x2, .int x3] : List Value).toArray meth c := ⟨hx, hb, hr, hml, hown, hts, hlocks, hK, hA, hE⟩
  have hl := lv_entry ([.ref (a 0), .int x1, .int x2, .int x3]) (n := 5) (Nat.le_of_ble_eq_true rfl)
  rw [lg_entry_eq]
  generalize (lg_sl ([.ref (a 0), .int x1, .int x2, .int x3]) ++ List.replicate (5 - (lg_sl ([.ref (a 0), .int x1, .int x2, .int x3])).length) Slot.unset).toArray = ls at hl ⊢
  have hl : lv_has ls 5 [(0, .ref (a 0)), (1, .int x1), (2, .int x2), (3, .int x3)] := hl
  have hw0 := hts (.fieldLink RX9 92 "WhistledWordsModel" "learned" "[I") (by decide +kernel)
  have hnX9 : ∀ w ∈ u_ws RX9 TX9 46, w ∈ wsX9_learn := fun _ h => List.mem_cons_of_mem _ (List.mem_append_right _ h)
  unfold fX9_learn at h
  refine lv_aload_n hx hb dX9_learn_0 rfl (lv_at hl 0 rfl) ?_
  refine lv_iload_n hx hb dX9_learn_1 rfl (lv_at hl 1 rfl) ?_
  obtain ⟨v1, hc, h⟩ := bd1_use h
  refine cv_i (As := [.int x1]) (rest := []) ⟨hx, hb, hml, hown, hts⟩ (kX9_isChild l n dC dI cB cI cJ cZ a _ m_letters m_words m_wMany m_wLetters m_asks m_aWords m_dLetters m_dWords m_dMany m_dText m_dAsks m_dAsk m_tape m_taped m_pos m_from m_sort m_value m_fault m_wrongAt m_manyA m_rowA m_manyB m_rowB m_places m_xs m_ys m_heights m_ridges m_rx m_rHeight m_lanes m_sizes m_cells m_left m_calls m_cDay m_cHour m_cFrom m_cAsk m_cWord m_cOf m_isLie m_children m_learned m_group x1 v1 hc) (cwV 1 hts gX9_learn_X9_isChild rfl rfl rfl (by decide +kernel) ⟨Nat.le_of_ble_eq_true rfl, Nat.le_of_ble_eq_true rfl⟩) EB_0 hE hK hP hD hS hA 0 (ci := 8) rfl rfl rfl rfl hl.1 rfl (Nat.le_of_ble_eq_true rfl) dX9_learn_2 ⟨Nat.zero_le _, Nat.zero_le _⟩ (fun H locs hP hD hS => ?_)
  refine lv_if_eq (tgt := 29) hx hb dX9_learn_5 (by decide) (fun c2 => ?_) (fun c2 => ?_)
  · have h := it_use c2 h
    refine lv_iconst (v := -1) hx hb dX9_learn_29 (by decide) ?_
    obtain ⟨er, ez0⟩ := rt2_use h
    subst ez0
    exact re_i hx hb hr hlocks hK hP hD hS er dX9_learn_30
  · have h := ie_use c2 h
    refine lv_aload_n hx hb dX9_learn_8 rfl (lv_at hl 0 rfl) ?_
    refine lv_iload_n hx hb dX9_learn_9 rfl (lv_at hl 2 rfl) ?_
    obtain ⟨v3, hc, h⟩ := bd1_use h
    refine cv_i (As := [.int x2]) (rest := []) ⟨hx, hb, hml, hown, hts⟩ (kX9_isWord l n dC dI cB cI cJ cZ a _ m_letters m_words m_wMany m_wLetters m_asks m_aWords m_dLetters m_dWords m_dMany m_dText m_dAsks m_dAsk m_tape m_taped m_pos m_from m_sort m_value m_fault m_wrongAt m_manyA m_rowA m_manyB m_rowB m_places m_xs m_ys m_heights m_ridges m_rx m_rHeight m_lanes m_sizes m_cells m_left m_calls m_cDay m_cHour m_cFrom m_cAsk m_cWord m_cOf m_isLie m_children m_learned m_group x2 v3 hc) (cwV 1 hts gX9_learn_X9_isWord rfl rfl rfl (by decide +kernel) ⟨Nat.le_of_ble_eq_true rfl, Nat.le_of_ble_eq_true rfl⟩) EB_0 hE hK hP hD hS hA 0 (ci := 8) rfl rfl rfl rfl hl.1 rfl (Nat.le_of_ble_eq_true rfl) dX9_learn_10 ⟨Nat.zero_le _, Nat.zero_le _⟩ (fun H locs hP hD hS => ?_)
    refine lv_if_eq (tgt := 29) hx hb dX9_learn_13 (by decide) (fun c4 => ?_) (fun c4 => ?_)
    · have h := it_use c4 h
      refine lv_iconst (v := -1) hx hb dX9_learn_29 (by decide) ?_
      obtain ⟨er, ez0⟩ := rt2_use h
      subst ez0
      exact re_i hx hb hr hlocks hK hP hD hS er dX9_learn_30
    · have h := ie_use c4 h
      refine lv_aload_n hx hb dX9_learn_16 rfl (lv_at hl 0 rfl) ?_
      refine lv_iload_n hx hb dX9_learn_17 rfl (lv_at hl 3 rfl) ?_
      obtain ⟨v5, hc, h⟩ := bd1_use h
      refine cv_i (As := [.int x3]) (rest := []) ⟨hx, hb, hml, hown, hts⟩ (kX9_isWord l n dC dI cB cI cJ cZ a _ m_letters m_words m_wMany m_wLetters m_asks m_aWords m_dLetters m_dWords m_dMany m_dText m_dAsks m_dAsk m_tape m_taped m_pos m_from m_sort m_value m_fault m_wrongAt m_manyA m_rowA m_manyB m_rowB m_places m_xs m_ys m_heights m_ridges m_rx m_rHeight m_lanes m_sizes m_cells m_left m_calls m_cDay m_cHour m_cFrom m_cAsk m_cWord m_cOf m_isLie m_children m_learned m_group x3 v5 hc) (cwV 1 hts gX9_learn_X9_isWord rfl rfl rfl (by decide +kernel) ⟨Nat.le_of_ble_eq_true rfl, Nat.le_of_ble_eq_true rfl⟩) EB_0 hE hK hP hD hS hA 0 (ci := 8) rfl rfl rfl rfl hl.1 rfl (Nat.le_of_ble_eq_true rfl) dX9_learn_18 ⟨Nat.zero_le _, Nat.zero_le _⟩ (fun H locs hP hD hS => ?_)
      refine lv_if_eq (tgt := 29) hx hb dX9_learn_21 (by decide) (fun c6 => ?_) (fun c6 => ?_)
      · have h := it_use c6 h
        refine lv_iconst (v := -1) hx hb dX9_learn_29 (by decide) ?_
        obtain ⟨er, ez0⟩ := rt2_use h
        subst ez0
        exact re_i hx hb hr hlocks hK hP hD hS er dX9_learn_30
      · have h := ie_use c6 h
        refine lv_iload_n hx hb dX9_learn_24 rfl (lv_at hl 2 rfl) ?_
        refine lv_iload_n hx hb dX9_learn_25 rfl (lv_at hl 3 rfl) ?_
        refine lv_icmp_ne (tgt := 31) hx hb dX9_learn_26 (by decide) (fun c7 => ?_) (fun c7 => ?_)
        · have h := ie_use c7 h
          refine lv_aload_n hx hb dX9_learn_31 rfl (lv_at hl 0 rfl) ?_
          refine gM_mo_learned hx hb hts hnX9 hown hK hP hw0 dX9_learn_32 ?_
          refine lv_bipush (v := 16) hx hb dX9_learn_35 (by decide) ?_
          refine lv_iload_n hx hb dX9_learn_37 rfl (lv_at hl 1 rfl) ?_
          refine lv_imul hx hb dX9_learn_38 ?_
          refine lv_iload_n hx hb dX9_learn_39 rfl (lv_at hl 2 rfl) ?_
          refine lv_iadd hx hb dX9_learn_40 ?_
          obtain ⟨hiv8, h⟩ := ar_use h
          refine lM_mo_learned hx hb hK hP hiv8 dX9_learn_41 ?_
          refine lv_topi (fun v8 ev8 => ?_)
          have h := h v8 ev8
          refine lv_iload_n hx hb dX9_learn_42 rfl (lv_at hl 3 rfl) ?_
          refine lv_ishr hx hb dX9_learn_43 ?_
          refine lv_iconst (v := 1) hx hb dX9_learn_44 (by decide) ?_
          refine lv_iand hx hb dX9_learn_45 ?_
          refine lv_topi (fun v9 ev9 => ?_)
          have h := nm_use ev9 h
          refine lv_istore (lv' := [(4, .int v9), (0, .ref (a 0)), (1, .int x1), (2, .int x2), (3, .int x3)]) hx hb dX9_learn_46 hl (by decide) rfl (fun ls hl => ?_)
          refine lv_aload_n hx hb dX9_learn_48 rfl (lv_at hl 1 rfl) ?_
          refine gM_mo_learned hx hb hts hnX9 hown hK hP hw0 dX9_learn_49 ?_
          refine lv_bipush (v := 16) hx hb dX9_learn_52 (by decide) ?_
          refine lv_iload_n hx hb dX9_learn_54 rfl (lv_at hl 2 rfl) ?_
          refine lv_imul hx hb dX9_learn_55 ?_
          refine lv_iload_n hx hb dX9_learn_56 rfl (lv_at hl 3 rfl) ?_
          refine lv_iadd hx hb dX9_learn_57 ?_
          refine lv_dup2_11 hx hb dX9_learn_58 rfl rfl ?_
          obtain ⟨hiv10, h⟩ := ar_use h
          refine lM_mo_learned hx hb hK hP hiv10 dX9_learn_59 ?_
          refine lv_topi (fun v10 ev10 => ?_)
          have h := h v10 ev10
          refine lv_iconst (v := 1) hx hb dX9_learn_60 (by decide) ?_
          refine lv_iload_n hx hb dX9_learn_61 rfl (lv_at hl 4 rfl) ?_
          refine lv_ishl hx hb dX9_learn_62 ?_
          refine lv_ior hx hb dX9_learn_63 ?_
          obtain ⟨hif11, f11, ef11, h⟩ := aw_use h
          refine sM_mo_learned hx hb hK hP hD hS hif11 ef11 dX9_learn_64 (fun H locs hP hD hS => ?_)
          refine lv_aload_n hx hb dX9_learn_65 rfl (lv_at hl 1 rfl) ?_
          refine gM_mo_learned hx hb hts hnX9 hown hK hP hw0 dX9_learn_66 ?_
          refine lv_bipush (v := 16) hx hb dX9_learn_69 (by decide) ?_
          refine lv_iload_n hx hb dX9_learn_71 rfl (lv_at hl 2 rfl) ?_
          refine lv_imul hx hb dX9_learn_72 ?_
          refine lv_iload_n hx hb dX9_learn_73 rfl (lv_at hl 4 rfl) ?_
          refine lv_iadd hx hb dX9_learn_74 ?_
          refine lv_dup2_11 hx hb dX9_learn_75 rfl rfl ?_
          obtain ⟨hiv12, h⟩ := ar_use h
          refine lM_mo_learned hx hb hK hP hiv12 dX9_learn_76 ?_
          refine lv_topi (fun v12 ev12 => ?_)
          have h := h v12 ev12
          refine lv_iconst (v := 1) hx hb dX9_learn_77 (by decide) ?_
          refine lv_iload_n hx hb dX9_learn_78 rfl (lv_at hl 3 rfl) ?_
          refine lv_ishl hx hb dX9_learn_79 ?_
          refine lv_ior hx hb dX9_learn_80 ?_
          obtain ⟨hif13, f13, ef13, h⟩ := aw_use h
          refine sM_mo_learned hx hb hK hP hD hS hif13 ef13 dX9_learn_81 (fun H locs hP hD hS => ?_)
          refine lv_iconst (v := 1) hx hb dX9_learn_82 (by decide) ?_
          refine lv_iload hx hb dX9_learn_83 (lv_at hl 0 rfl) ?_
          refine lv_isub hx hb dX9_learn_85 ?_
          obtain ⟨er, ez0⟩ := rt2_use h
          subst ez0
          exact re_i hx hb hr hlocks hK hP hD hS er dX9_learn_86
        · have h := it_use c7 h
          refine lv_iconst (v := -1) hx hb dX9_learn_29 (by decide) ?_
          obtain ⟨er, ez0⟩ := rt2_use h
          subst ez0
          exact re_i hx hb hr hlocks hK hP hD hS er dX9_learn_30
set_option maxHeartbeats 4000000 in
set_option maxRecDepth 100000 in
theorem kX9_doesConfuse_p60_r {p : Program} {l : Launch} {e : Env} {s : State} {m : MethodId} {args : Array Value} {below : List Frame} {meth : Method} {c : Code} {A : Nat → Prop} (dC : Nat → ClassId) (dI : Nat → Nat → Nat) (cB cI cJ cZ : ClassId) (a : Nat → Nat) (C0 : cxt cX9_doesConfuse (some .boolean) 6 RX9 wsX9_doesConfuse (dC, dI) (tyz cB cI cJ cZ) E_0 A p s m args meth c) (n : Nat) (m_letters : Nat → Int32) (m_words : Int32) (m_wMany : Nat → Int32) (m_wLetters : Nat → Int32) (m_asks : Int32) (m_aWords : Nat → Int32) (m_dLetters : Nat → Int32) (m_dWords : Int32) (m_dMany : Nat → Int32) (m_dText : Nat → Int32) (m_dAsks : Int32) (m_dAsk : Nat → Int32) (m_tape : Nat → Int32) (m_taped : Int32) (m_pos : Int32) (m_from : Int32) (m_sort : Int32) (m_value : Int32) (m_fault : Int32) (m_wrongAt : Int32) (m_manyA : Int32) (m_rowA : Nat → Int32) (m_manyB : Int32) (m_rowB : Nat → Int32) (m_places : Int32) (m_xs : Nat → Int32) (m_ys : Nat → Int32) (m_heights : Nat → Int32) (m_ridges : Int32) (m_rx : Nat → Int32) (m_rHeight : Nat → Int32) (m_lanes : Nat → Int32) (m_sizes : Nat → Int32) (m_cells : Nat → Int32) (m_left : Nat → Int32) (m_calls : Int32) (m_cDay : Nat → Int32) (m_cHour : Nat → Int32) (m_cFrom : Nat → Int32) (m_cAsk : Nat → Int32) (m_cWord : Nat → Int32) (m_cOf : Nat → Int32) (m_isLie : Nat → Int32) (m_children : Int32) (m_learned : Nat → Int32) (m_group : Nat → Int32)  (r0 : Int32) (z_m_manyA : Int32) (z_m_rowA : Nat → Int32) (z_m_manyB : Int32) (z_m_rowB : Nat → Int32)  : ∀ (k : Nat) (x4 : Int32) (x5 : Int32) (H : Heap) (locs : List Loc) (ls : Array Slot), fX9_doesConfuse_p60 n m_manyA m_rowA m_manyB m_rowB k x4 x5 = some (r0, z_m_manyA, z_m_rowA, z_m_manyB, z_m_rowB) → va_P (dC, dI) vwCl (wM cB cI cJ cZ a m_letters m_words m_wMany m_wLetters m_asks m_aWords m_dLetters m_dWords m_dMany m_dText m_dAsks m_dAsk m_tape m_taped m_pos m_from m_sort m_value m_fault m_wrongAt m_manyA m_rowA m_manyB m_rowB m_places m_xs m_ys m_heights m_ridges m_rx m_rHeight m_lanes m_sizes m_cells m_left m_calls m_cDay m_cHour m_cFrom m_cAsk m_cWord m_cOf m_isLie m_children m_learned m_group) H → va_D A (wM cB cI cJ cZ a m_letters m_words m_wMany m_wLetters m_asks m_aWords m_dLetters m_dWords m_dMany m_dText m_dAsks m_dAsk m_tape m_taped m_pos m_from m_sort m_value m_fault m_wrongAt m_manyA m_rowA m_manyB m_rowB m_places m_xs m_ys m_heights m_ridges m_rx m_rHeight m_lanes m_sizes m_cells m_left m_calls m_cDay m_cHour m_cFrom m_cAsk m_cWord m_cOf m_isLie m_children m_learned m_group) → va_S A s.heap H locs → lv_has ls 6 [(0, .ref (a 0)), (4, .int x4), (5, .int x5)] → W p l e { frames := 2, cells := 0, slots := 0, locals := 47 } s m args below meth c H locs 0 0 (MQ below (gI (dC, dI) (tyz cB cI cJ cZ) (wM cB cI cJ cZ a m_letters m_words m_wMany m_wLetters m_asks m_aWords m_dLetters m_dWords m_dMany m_dText m_dAsks m_dAsk m_tape m_taped m_pos m_from m_sort m_value m_fault m_wrongAt z_m_manyA z_m_rowA z_m_manyB z_m_rowB m_places m_xs m_ys m_heights m_ridges m_rx m_rHeight m_lanes m_sizes m_cells m_left m_calls m_cDay m_cHour m_cFrom m_cAsk m_cWord m_cOf m_isLie m_children m_learned m_group) A r0) args s 0 0 A) (F0 m 60 ls []) := by
  obtain ⟨hx, hb, hr, hml, hown, hts, hlocks, hK, hA, hE⟩ := id C0
  have hw0 := hts (.fieldLink RX9 206 "WhistledWordsModel" "manyA" "I") (by decide +kernel)
  have hw1 := hts (.fieldLink RX9 209 "WhistledWordsModel" "manyB" "I") (by decide +kernel)
  have hw2 := hts (.fieldLink RX9 37 "WhistledWordsModel" "rowA" "[I") (by decide +kernel)
  have hw3 := hts (.fieldLink RX9 40 "WhistledWordsModel" "rowB" "[I") (by decide +kernel)
  have hnX9 : ∀ w ∈ u_ws RX9 TX9 46, w ∈ wsX9_doesConfuse := fun _ h => List.mem_cons_of_mem _ (List.mem_append_right _ h)
  intro k
  induction k with
  | zero =>
    intro x4 x5 H locs ls h
    cases h
  | succ k ih =>
    intro x4 x5 H locs ls h hP hD hS hl
    rw [fX9_doesConfuse_p60] at h
    refine lv_iload hx hb dX9_doesConfuse_60 (lv_at hl 2 rfl) ?_
    refine lv_aload_n hx hb dX9_doesConfuse_62 rfl (lv_at hl 0 rfl) ?_
    refine gM_mo_manyA hx hb hts hnX9 hown hK hP hw0 dX9_doesConfuse_63 ?_
    refine lv_icmp_ge (tgt := 113) hx hb dX9_doesConfuse_66 (by decide) (fun c1 => ?_) (fun c1 => ?_)
    · have h := it_use c1 h
      refine lv_iload hx hb dX9_doesConfuse_113 (lv_at hl 1 rfl) ?_
      refine lv_iconst (v := 1) hx hb dX9_doesConfuse_115 (by decide) ?_
      refine lv_icmp_ne (tgt := 123) hx hb dX9_doesConfuse_116 (by decide) (fun c2 => ?_) (fun c2 => ?_)
      · have h := ie_use c2 h
        refine lv_iconst (v := 0) hx hb dX9_doesConfuse_123 (by decide) ?_
        obtain ⟨er, ez0, ez1, ez2, ez3⟩ := rt5_use h
        subst ez0
        subst ez1
        subst ez2
        subst ez3
        exact re_z hx hb hr hlocks hK hP hD hS (Or.inl rfl) er dX9_doesConfuse_124
      · have h := it_use c2 h
        refine lv_iconst (v := 1) hx hb dX9_doesConfuse_119 (by decide) ?_
        refine lv_goto (tgt := 124) hx hb dX9_doesConfuse_120 (by decide) ?_
        obtain ⟨er, ez0, ez1, ez2, ez3⟩ := rt5_use h
        subst ez0
        subst ez1
        subst ez2
        subst ez3
        exact re_z hx hb hr hlocks hK hP hD hS (Or.inr rfl) er dX9_doesConfuse_124
    · have h := ie_use c1 h
      refine lv_aload_n hx hb dX9_doesConfuse_69 rfl (lv_at hl 0 rfl) ?_
      refine gM_mo_manyA hx hb hts hnX9 hown hK hP hw0 dX9_doesConfuse_70 ?_
      refine lv_aload_n hx hb dX9_doesConfuse_73 rfl (lv_at hl 0 rfl) ?_
      refine gM_mo_manyB hx hb hts hnX9 hown hK hP hw1 dX9_doesConfuse_74 ?_
      refine lv_icmp_ne (tgt := 113) hx hb dX9_doesConfuse_77 (by decide) (fun c3 => ?_) (fun c3 => ?_)
      · have h := ie_use c3 h
        refine lv_iload hx hb dX9_doesConfuse_113 (lv_at hl 1 rfl) ?_
        refine lv_iconst (v := 1) hx hb dX9_doesConfuse_115 (by decide) ?_
        refine lv_icmp_ne (tgt := 123) hx hb dX9_doesConfuse_116 (by decide) (fun c4 => ?_) (fun c4 => ?_)
        · have h := ie_use c4 h
          refine lv_iconst (v := 0) hx hb dX9_doesConfuse_123 (by decide) ?_
          obtain ⟨er, ez0, ez1, ez2, ez3⟩ := rt5_use h
          subst ez0
          subst ez1
          subst ez2
          subst ez3
          exact re_z hx hb hr hlocks hK hP hD hS (Or.inl rfl) er dX9_doesConfuse_124
        · have h := it_use c4 h
          refine lv_iconst (v := 1) hx hb dX9_doesConfuse_119 (by decide) ?_
          refine lv_goto (tgt := 124) hx hb dX9_doesConfuse_120 (by decide) ?_
          obtain ⟨er, ez0, ez1, ez2, ez3⟩ := rt5_use h
          subst ez0
          subst ez1
          subst ez2
          subst ez3
          exact re_z hx hb hr hlocks hK hP hD hS (Or.inr rfl) er dX9_doesConfuse_124
      · have h := it_use c3 h
        refine lv_iload hx hb dX9_doesConfuse_80 (lv_at hl 1 rfl) ?_
        refine lv_aload_n hx hb dX9_doesConfuse_82 rfl (lv_at hl 0 rfl) ?_
        refine gM_mo_rowA hx hb hts hnX9 hown hK hP hw2 dX9_doesConfuse_83 ?_
        refine lv_iload hx hb dX9_doesConfuse_86 (lv_at hl 2 rfl) ?_
        obtain ⟨hiv5, h⟩ := ar_use h
        refine lM_mo_rowA hx hb hK hP hiv5 dX9_doesConfuse_88 ?_
        refine lv_topi (fun v5 ev5 => ?_)
        have h := h v5 ev5
        refine lv_aload_n hx hb dX9_doesConfuse_89 rfl (lv_at hl 0 rfl) ?_
        refine gM_mo_rowB hx hb hts hnX9 hown hK hP hw3 dX9_doesConfuse_90 ?_
        refine lv_iload hx hb dX9_doesConfuse_93 (lv_at hl 2 rfl) ?_
        obtain ⟨hiv6, h⟩ := ar_use h
        refine lM_mo_rowB hx hb hK hP hiv6 dX9_doesConfuse_95 ?_
        refine lv_topi (fun v6 ev6 => ?_)
        have h := h v6 ev6
        refine lv_icmp_ne (tgt := 103) hx hb dX9_doesConfuse_96 (by decide) (fun c7 => ?_) (fun c7 => ?_)
        · have h := ie_use c7 h
          refine lv_iconst (v := 1) hx hb dX9_doesConfuse_103 (by decide) ?_
          refine lv_iadd hx hb dX9_doesConfuse_104 ?_
          refine lv_topi (fun v8 ev8 => ?_)
          have h := nm_use ev8 h
          refine lv_istore (lv' := [(4, .int v8), (0, .ref (a 0)), (5, .int x5)]) hx hb dX9_doesConfuse_105 hl (by decide) rfl (fun ls hl => ?_)
          refine lv_iinc (v := x5 + 1) (lv' := [(5, .int (x5 + 1)), (4, .int v8), (0, .ref (a 0))]) hx hb dX9_doesConfuse_107 hl (k := 2) rfl rfl (by decide) rfl (fun ls hl => ?_)
          refine lv_goto (tgt := 60) hx hb dX9_doesConfuse_110 (by decide) ?_
          exact ih v8 (x5 + 1) _ _ ls h hP hD hS (lv_sub hl [2, 1, 0] rfl)
        · have h := it_use c7 h
          refine lv_iconst (v := 0) hx hb dX9_doesConfuse_99 (by decide) ?_
          refine lv_goto (tgt := 104) hx hb dX9_doesConfuse_100 (by decide) ?_
          refine lv_iadd hx hb dX9_doesConfuse_104 ?_
          refine lv_topi (fun v9 ev9 => ?_)
          have h := nm_use ev9 h
          refine lv_istore (lv' := [(4, .int v9), (0, .ref (a 0)), (5, .int x5)]) hx hb dX9_doesConfuse_105 hl (by decide) rfl (fun ls hl => ?_)
          refine lv_iinc (v := x5 + 1) (lv' := [(5, .int (x5 + 1)), (4, .int v9), (0, .ref (a 0))]) hx hb dX9_doesConfuse_107 hl (k := 2) rfl rfl (by decide) rfl (fun ls hl => ?_)
          refine lv_goto (tgt := 60) hx hb dX9_doesConfuse_110 (by decide) ?_
          exact ih v9 (x5 + 1) _ _ ls h hP hD hS (lv_sub hl [2, 1, 0] rfl)
theorem kX9_doesConfuse_p60 {p : Program} {l : Launch} {e : Env} {s : State} {m : MethodId} {args : Array Value} {below : List Frame} {meth : Method} {c : Code} {A : Nat → Prop} (dC : Nat → ClassId) (dI : Nat → Nat → Nat) (cB cI cJ cZ : ClassId) (a : Nat → Nat) (C0 : cxt cX9_doesConfuse (some .boolean) 6 RX9 wsX9_doesConfuse (dC, dI) (tyz cB cI cJ cZ) E_0 A p s m args meth c) (n : Nat) (m_letters : Nat → Int32) (m_words : Int32) (m_wMany : Nat → Int32) (m_wLetters : Nat → Int32) (m_asks : Int32) (m_aWords : Nat → Int32) (m_dLetters : Nat → Int32) (m_dWords : Int32) (m_dMany : Nat → Int32) (m_dText : Nat → Int32) (m_dAsks : Int32) (m_dAsk : Nat → Int32) (m_tape : Nat → Int32) (m_taped : Int32) (m_pos : Int32) (m_from : Int32) (m_sort : Int32) (m_value : Int32) (m_fault : Int32) (m_wrongAt : Int32) (m_manyA : Int32) (m_rowA : Nat → Int32) (m_manyB : Int32) (m_rowB : Nat → Int32) (m_places : Int32) (m_xs : Nat → Int32) (m_ys : Nat → Int32) (m_heights : Nat → Int32) (m_ridges : Int32) (m_rx : Nat → Int32) (m_rHeight : Nat → Int32) (m_lanes : Nat → Int32) (m_sizes : Nat → Int32) (m_cells : Nat → Int32) (m_left : Nat → Int32) (m_calls : Int32) (m_cDay : Nat → Int32) (m_cHour : Nat → Int32) (m_cFrom : Nat → Int32) (m_cAsk : Nat → Int32) (m_cWord : Nat → Int32) (m_cOf : Nat → Int32) (m_isLie : Nat → Int32) (m_children : Int32) (m_learned : Nat → Int32) (m_group : Nat → Int32)  (x4 : Int32) (x5 : Int32) (r0 : Int32) (z_m_manyA : Int32) (z_m_rowA : Nat → Int32) (z_m_manyB : Int32) (z_m_rowB : Nat → Int32)  (k : Nat) (H : Heap) (locs : List Loc) (ls : Array Slot) : fX9_doesConfuse_p60 n m_manyA m_rowA m_manyB m_rowB k x4 x5 = some (r0, z_m_manyA, z_m_rowA, z_m_manyB, z_m_rowB) → va_P (dC, dI) vwCl (wM cB cI cJ cZ a m_letters m_words m_wMany m_wLetters m_asks m_aWords m_dLetters m_dWords m_dMany m_dText m_dAsks m_dAsk m_tape m_taped m_pos m_from m_sort m_value m_fault m_wrongAt m_manyA m_rowA m_manyB m_rowB m_places m_xs m_ys m_heights m_ridges m_rx m_rHeight m_lanes m_sizes m_cells m_left m_calls m_cDay m_cHour m_cFrom m_cAsk m_cWord m_cOf m_isLie m_children m_learned m_group) H → va_D A (wM cB cI cJ cZ a m_letters m_words m_wMany m_wLetters m_asks m_aWords m_dLetters m_dWords m_dMany m_dText m_dAsks m_dAsk m_tape m_taped m_pos m_from m_sort m_value m_fault m_wrongAt m_manyA m_rowA m_manyB m_rowB m_places m_xs m_ys m_heights m_ridges m_rx m_rHeight m_lanes m_sizes m_cells m_left m_calls m_cDay m_cHour m_cFrom m_cAsk m_cWord m_cOf m_isLie m_children m_learned m_group) → va_S A s.heap H locs → lv_has ls 6 [(0, .ref (a 0)), (4, .int x4), (5, .int x5)] → W p l e { frames := 2, cells := 0, slots := 0, locals := 47 } s m args below meth c H locs 0 0 (MQ below (gI (dC, dI) (tyz cB cI cJ cZ) (wM cB cI cJ cZ a m_letters m_words m_wMany m_wLetters m_asks m_aWords m_dLetters m_dWords m_dMany m_dText m_dAsks m_dAsk m_tape m_taped m_pos m_from m_sort m_value m_fault m_wrongAt z_m_manyA z_m_rowA z_m_manyB z_m_rowB m_places m_xs m_ys m_heights m_ridges m_rx m_rHeight m_lanes m_sizes m_cells m_left m_calls m_cDay m_cHour m_cFrom m_cAsk m_cWord m_cOf m_isLie m_children m_learned m_group) A r0) args s 0 0 A) (F0 m 60 ls []) :=
  kX9_doesConfuse_p60_r dC dI cB cI cJ cZ a C0 n m_letters m_words m_wMany m_wLetters m_asks m_aWords m_dLetters m_dWords m_dMany m_dText m_dAsks m_dAsk m_tape m_taped m_pos m_from m_sort m_value m_fault m_wrongAt m_manyA m_rowA m_manyB m_rowB m_places m_xs m_ys m_heights m_ridges m_rx m_rHeight m_lanes m_sizes m_cells m_left m_calls m_cDay m_cHour m_cFrom m_cAsk m_cWord m_cOf m_isLie m_children m_learned m_group  r0 z_m_manyA z_m_rowA z_m_manyB z_m_rowB  k x4 x5 H locs ls
set_option maxHeartbeats 4000000 in
set_option maxRecDepth 100000 in
theorem kX9_doesConfuse (l : Launch) (n : Nat) (dC : Nat → ClassId) (dI : Nat → Nat → Nat) (cB cI cJ cZ : ClassId) (a : Nat → Nat) (sz : Nat) (m_letters : Nat → Int32) (m_words : Int32) (m_wMany : Nat → Int32) (m_wLetters : Nat → Int32) (m_asks : Int32) (m_aWords : Nat → Int32) (m_dLetters : Nat → Int32) (m_dWords : Int32) (m_dMany : Nat → Int32) (m_dText : Nat → Int32) (m_dAsks : Int32) (m_dAsk : Nat → Int32) (m_tape : Nat → Int32) (m_taped : Int32) (m_pos : Int32) (m_from : Int32) (m_sort : Int32) (m_value : Int32) (m_fault : Int32) (m_wrongAt : Int32) (m_manyA : Int32) (m_rowA : Nat → Int32) (m_manyB : Int32) (m_rowB : Nat → Int32) (m_places : Int32) (m_xs : Nat → Int32) (m_ys : Nat → Int32) (m_heights : Nat → Int32) (m_ridges : Int32) (m_rx : Nat → Int32) (m_rHeight : Nat → Int32) (m_lanes : Nat → Int32) (m_sizes : Nat → Int32) (m_cells : Nat → Int32) (m_left : Nat → Int32) (m_calls : Int32) (m_cDay : Nat → Int32) (m_cHour : Nat → Int32) (m_cFrom : Nat → Int32) (m_cAsk : Nat → Int32) (m_cWord : Nat → Int32) (m_cOf : Nat → Int32) (m_isLie : Nat → Int32) (m_children : Int32) (m_learned : Nat → Int32) (m_group : Nat → Int32) (x1 : Int32) (x2 : Int32) (x3 : Int32) (r0 : Int32) (z_m_manyA : Int32) (z_m_rowA : Nat → Int32) (z_m_manyB : Int32) (z_m_rowB : Nat → Int32) (h : fX9_doesConfuse n m_letters m_wMany m_wLetters m_manyA m_rowA m_manyB m_rowB m_learned x1 x2 x3 = some (r0, z_m_manyA, z_m_rowA, z_m_manyB, z_m_rowB)) : Met l yX9_doesConfuse wsX9_doesConfuse ({ frames := 2, cells := 0, slots := 0, locals := 47 }) (gP (dC, dI) (tyz cB cI cJ cZ) E_0 (wM cB cI cJ cZ a m_letters m_words m_wMany m_wLetters m_asks m_aWords m_dLetters m_dWords m_dMany m_dText m_dAsks m_dAsk m_tape m_taped m_pos m_from m_sort m_value m_fault m_wrongAt m_manyA m_rowA m_manyB m_rowB m_places m_xs m_ys m_heights m_ridges m_rx m_rHeight m_lanes m_sizes m_cells m_left m_calls m_cDay m_cHour m_cFrom m_cAsk m_cWord m_cOf m_isLie m_children m_learned m_group) sz [.ref (a 0), .int x1, .int x2, .int x3]) (gI (dC, dI) (tyz cB cI cJ cZ) (wM cB cI cJ cZ a m_letters m_words m_wMany m_wLetters m_asks m_aWords m_dLetters m_dWords m_dMany m_dText m_dAsks m_dAsk m_tape m_taped m_pos m_from m_sort m_value m_fault m_wrongAt z_m_manyA z_m_rowA z_m_manyB z_m_rowB m_places m_xs m_ys m_heights m_ridges m_rx m_rHeight m_lanes m_sizes m_cells m_left m_calls m_cDay m_cHour m_cFrom m_cAsk m_cWord m_cOf m_isLie m_children m_learned m_group) (va_A (wM cB cI cJ cZ a m_letters m_words m_wMany m_wLetters m_asks m_aWords m_dLetters m_dWords m_dMany m_dText m_dAsks m_dAsk m_tape m_taped m_pos m_from m_sort m_value m_fault m_wrongAt m_manyA m_rowA m_manyB m_rowB m_places m_xs m_ys m_heights m_ridges m_rx m_rHeight m_lanes m_sizes m_cells m_left m_calls m_cDay m_cHour m_cFrom m_cAsk m_cWord m_cOf m_isLie m_children m_learned m_group) sz) r0) 0 0 (va_A (wM cB cI cJ cZ a m_letters m_words m_wMany m_wLetters m_asks m_aWords m_dLetters m_dWords m_dMany m_dText m_dAsks m_dAsk m_tape m_taped m_pos m_from m_sort m_value m_fault m_wrongAt m_manyA m_rowA m_manyB m_rowB m_places m_xs m_ys m_heights m_ridges m_rx m_rHeight m_lanes m_sizes m_cells m_left m_calls m_cDay m_cHour m_cFrom m_cAsk m_cWord m_cOf m_isLie m_children m_learned m_group) sz) := by
  refine Met.ofW (cc := cX9_doesConfuse) (maxL := 6) (ret := (some .boolean)) (by decide) rfl ?_
  intro p e s m args below meth c s₁ B hml hv
  obtain ⟨rfl, hsz, hP, hK, hD0, hE⟩ := hv
  have hx := B.exec
  have hb := B.bytes
  have hr := B.returns
  have hts := atoms_spec (ws := wsX9_doesConfuse) B.pre
  have hown : s.vm.findClass RX9 = some m.cls := findClass_of_methodNamed B.named
  have hlocks := B.notSynchronized
  subst hsz
  have hD := hD0.self (sz := s.heap.size)
  have hA : ∀ q : Nat, s.heap.size ≤ q → va_A (wM cB cI cJ cZ a m_letters m_words m_wMany m_wLetters m_asks m_aWords m_dLetters m_dWords m_dMany m_dText m_dAsks m_dAsk m_tape m_taped m_pos m_from m_sort m_value m_fault m_wrongAt m_manyA m_rowA m_manyB m_rowB m_places m_xs m_ys m_heights m_ridges m_rx m_rHeight m_lanes m_sizes m_cells m_left m_calls m_cDay m_cHour m_cFrom m_cAsk m_cWord m_cOf m_isLie m_children m_learned m_group) s.heap.size q := fun q h => Or.inr h
  generalize va_A (wM cB cI cJ cZ a m_letters m_words m_wMany m_wLetters m_asks m_aWords m_dLetters m_dWords m_dMany m_dText m_dAsks m_dAsk m_tape m_taped m_pos m_from m_sort m_value m_fault m_wrongAt m_manyA m_rowA m_manyB m_rowB m_places m_xs m_ys m_heights m_ridges m_rx m_rHeight m_lanes m_sizes m_cells m_left m_calls m_cDay m_cHour m_cFrom m_cAsk m_cWord m_cOf m_isLie m_children m_learned m_group) s.heap.size = A at hD hA hE ⊢
  have hS : va_S A s.heap s.heap [] := va_S.rf
  have C0 : cxt cX9_doesConfuse (some .boolean) 6 RX9 wsX9_doesConfuse (dC, dI) (tyz cB cI cJ cZ) E_0 A p s m ([.ref (a 0), .int x1, .int x2, .int x3] : List Value).toArray meth c := ⟨hx, hb, hr, hml, hown, hts, hlocks, hK, hA, hE⟩
  have hl := lv_entry ([.ref (a 0), .int x1, .int x2, .int x3]) (n := 6) (Nat.le_of_ble_eq_true rfl)
  rw [lg_entry_eq]
  generalize (lg_sl ([.ref (a 0), .int x1, .int x2, .int x3]) ++ List.replicate (6 - (lg_sl ([.ref (a 0), .int x1, .int x2, .int x3])).length) Slot.unset).toArray = ls at hl ⊢
  have hl : lv_has ls 6 [(0, .ref (a 0)), (1, .int x1), (2, .int x2), (3, .int x3)] := hl
  have hw0 := hts (.fieldLink RX9 92 "WhistledWordsModel" "learned" "[I") (by decide +kernel)
  have hw1 := hts (.fieldLink RX9 37 "WhistledWordsModel" "rowA" "[I") (by decide +kernel)
  have hw2 := hts (.fieldLink RX9 206 "WhistledWordsModel" "manyA" "I") (by decide +kernel)
  have hw3 := hts (.fieldLink RX9 40 "WhistledWordsModel" "rowB" "[I") (by decide +kernel)
  have hw4 := hts (.fieldLink RX9 209 "WhistledWordsModel" "manyB" "I") (by decide +kernel)
  have hnX9 : ∀ w ∈ u_ws RX9 TX9 46, w ∈ wsX9_doesConfuse := fun _ h => List.mem_cons_of_mem _ (List.mem_append_right _ h)
  unfold fX9_doesConfuse at h
  refine lv_iload_n hx hb dX9_doesConfuse_0 rfl (lv_at hl 2 rfl) ?_
  refine lv_iload_n hx hb dX9_doesConfuse_1 rfl (lv_at hl 3 rfl) ?_
  refine lv_icmp_eq (tgt := 24) hx hb dX9_doesConfuse_2 (by decide) (fun c1 => ?_) (fun c1 => ?_)
  · have h := it_use c1 h
    refine lv_iconst (v := 0) hx hb dX9_doesConfuse_24 (by decide) ?_
    obtain ⟨er, ez0, ez1, ez2, ez3⟩ := rt5_use h
    subst ez0
    subst ez1
    subst ez2
    subst ez3
    exact re_z hx hb hr hlocks hK hP hD hS (Or.inl rfl) er dX9_doesConfuse_25
  · have h := ie_use c1 h
    refine lv_aload_n hx hb dX9_doesConfuse_5 rfl (lv_at hl 0 rfl) ?_
    refine gM_mo_learned hx hb hts hnX9 hown hK hP hw0 dX9_doesConfuse_6 ?_
    refine lv_bipush (v := 16) hx hb dX9_doesConfuse_9 (by decide) ?_
    refine lv_iload_n hx hb dX9_doesConfuse_11 rfl (lv_at hl 1 rfl) ?_
    refine lv_imul hx hb dX9_doesConfuse_12 ?_
    refine lv_iload_n hx hb dX9_doesConfuse_13 rfl (lv_at hl 2 rfl) ?_
    refine lv_iadd hx hb dX9_doesConfuse_14 ?_
    obtain ⟨hiv2, h⟩ := ar_use h
    refine lM_mo_learned hx hb hK hP hiv2 dX9_doesConfuse_15 ?_
    refine lv_topi (fun v2 ev2 => ?_)
    have h := h v2 ev2
    refine lv_iload_n hx hb dX9_doesConfuse_16 rfl (lv_at hl 3 rfl) ?_
    refine lv_ishr hx hb dX9_doesConfuse_17 ?_
    refine lv_iconst (v := 1) hx hb dX9_doesConfuse_18 (by decide) ?_
    refine lv_iand hx hb dX9_doesConfuse_19 ?_
    refine lv_iconst (v := 1) hx hb dX9_doesConfuse_20 (by decide) ?_
    refine lv_icmp_ne (tgt := 26) hx hb dX9_doesConfuse_21 (by decide) (fun c3 => ?_) (fun c3 => ?_)
    · have h := ie_use c3 h
      refine lv_aload_n hx hb dX9_doesConfuse_26 rfl (lv_at hl 0 rfl) ?_
      refine lv_aload_n hx hb dX9_doesConfuse_27 rfl (lv_at hl 0 rfl) ?_
      refine lv_iload_n hx hb dX9_doesConfuse_28 rfl (lv_at hl 2 rfl) ?_
      refine lv_iconst (v := 0) hx hb dX9_doesConfuse_29 (by decide) ?_
      refine lv_aload_n hx hb dX9_doesConfuse_30 rfl (lv_at hl 0 rfl) ?_
      refine gM_mo_rowA hx hb hts hnX9 hown hK hP hw1 dX9_doesConfuse_31 ?_
      obtain ⟨v4, f5, hc, h⟩ := bd2_use h
      refine cv_i (As := [.int x2, .int (0 : Int32), .ref (a 10)]) (rest := [.ref (a 0)]) ⟨hx, hb, hml, hown, hts⟩ (kX9_rowOf_rowA l n dC dI cB cI cJ cZ a _ m_letters m_words m_wMany m_wLetters m_asks m_aWords m_dLetters m_dWords m_dMany m_dText m_dAsks m_dAsk m_tape m_taped m_pos m_from m_sort m_value m_fault m_wrongAt m_manyA m_rowA m_manyB m_rowB m_places m_xs m_ys m_heights m_ridges m_rx m_rHeight m_lanes m_sizes m_cells m_left m_calls m_cDay m_cHour m_cFrom m_cAsk m_cWord m_cOf m_isLie m_children m_learned m_group x2 (0 : Int32) v4 f5 hc) (cwV 3 hts gX9_doesConfuse_X9_rowOf rfl rfl rfl (by decide +kernel) ⟨Nat.le_of_ble_eq_true rfl, Nat.le_of_ble_eq_true rfl⟩) EB_0 hE hK hP hD hS hA 0 (ci := 8) rfl rfl rfl rfl hl.1 rfl (Nat.le_of_ble_eq_true rfl) dX9_doesConfuse_34 ⟨Nat.zero_le _, Nat.zero_le _⟩ (fun H locs hP hD hS => ?_)
      refine pM_mo_manyA hx hb hts hnX9 hown hK hP hD hS hw2 dX9_doesConfuse_37 (fun H locs hP hD hS => ?_)
      refine lv_aload_n hx hb dX9_doesConfuse_40 rfl (lv_at hl 0 rfl) ?_
      refine lv_aload_n hx hb dX9_doesConfuse_41 rfl (lv_at hl 0 rfl) ?_
      refine lv_iload_n hx hb dX9_doesConfuse_42 rfl (lv_at hl 3 rfl) ?_
      refine lv_iconst (v := 0) hx hb dX9_doesConfuse_43 (by decide) ?_
      refine lv_aload_n hx hb dX9_doesConfuse_44 rfl (lv_at hl 0 rfl) ?_
      refine gM_mo_rowB hx hb hts hnX9 hown hK hP hw3 dX9_doesConfuse_45 ?_
      obtain ⟨v6, f7, hc, h⟩ := bd2_use h
      refine cv_i (As := [.int x3, .int (0 : Int32), .ref (a 11)]) (rest := [.ref (a 0)]) ⟨hx, hb, hml, hown, hts⟩ (kX9_rowOf_rowB l n dC dI cB cI cJ cZ a _ m_letters m_words m_wMany m_wLetters m_asks m_aWords m_dLetters m_dWords m_dMany m_dText m_dAsks m_dAsk m_tape m_taped m_pos m_from m_sort m_value m_fault m_wrongAt v4 f5 m_manyB m_rowB m_places m_xs m_ys m_heights m_ridges m_rx m_rHeight m_lanes m_sizes m_cells m_left m_calls m_cDay m_cHour m_cFrom m_cAsk m_cWord m_cOf m_isLie m_children m_learned m_group x3 (0 : Int32) v6 f7 hc) (cwV 3 hts gX9_doesConfuse_X9_rowOf rfl rfl rfl (by decide +kernel) ⟨Nat.le_of_ble_eq_true rfl, Nat.le_of_ble_eq_true rfl⟩) EB_0 hE hK hP hD hS hA 0 (ci := 8) rfl rfl rfl rfl hl.1 rfl (Nat.le_of_ble_eq_true rfl) dX9_doesConfuse_48 ⟨Nat.zero_le _, Nat.zero_le _⟩ (fun H locs hP hD hS => ?_)
      refine pM_mo_manyB hx hb hts hnX9 hown hK hP hD hS hw4 dX9_doesConfuse_51 (fun H locs hP hD hS => ?_)
      refine lv_iconst (v := 0) hx hb dX9_doesConfuse_54 (by decide) ?_
      refine lv_istore (lv' := [(4, .int (0 : Int32)), (0, .ref (a 0)), (1, .int x1), (2, .int x2), (3, .int x3)]) hx hb dX9_doesConfuse_55 hl (by decide) rfl (fun ls hl => ?_)
      refine lv_iconst (v := 0) hx hb dX9_doesConfuse_57 (by decide) ?_
      refine lv_istore (lv' := [(5, .int (0 : Int32)), (4, .int (0 : Int32)), (0, .ref (a 0)), (1, .int x1), (2, .int x2), (3, .int x3)]) hx hb dX9_doesConfuse_58 hl (by decide) rfl (fun ls hl => ?_)
      exact kX9_doesConfuse_p60 dC dI cB cI cJ cZ a C0 n m_letters m_words m_wMany m_wLetters m_asks m_aWords m_dLetters m_dWords m_dMany m_dText m_dAsks m_dAsk m_tape m_taped m_pos m_from m_sort m_value m_fault m_wrongAt v4 f5 v6 f7 m_places m_xs m_ys m_heights m_ridges m_rx m_rHeight m_lanes m_sizes m_cells m_left m_calls m_cDay m_cHour m_cFrom m_cAsk m_cWord m_cOf m_isLie m_children m_learned m_group (0 : Int32) (0 : Int32) r0 z_m_manyA z_m_rowA z_m_manyB z_m_rowB  n _ _ ls h hP hD hS (lv_sub hl [2, 1, 0] rfl)
    · have h := it_use c3 h
      refine lv_iconst (v := 0) hx hb dX9_doesConfuse_24 (by decide) ?_
      obtain ⟨er, ez0, ez1, ez2, ez3⟩ := rt5_use h
      subst ez0
      subst ez1
      subst ez2
      subst ez3
      exact re_z hx hb hr hlocks hK hP hD hS (Or.inl rfl) er dX9_doesConfuse_25
set_option maxHeartbeats 4000000 in
set_option maxRecDepth 100000 in
theorem kX9_findGroups_p118_r {p : Program} {l : Launch} {e : Env} {s : State} {m : MethodId} {args : Array Value} {below : List Frame} {meth : Method} {c : Code} {A : Nat → Prop} (dC : Nat → ClassId) (dI : Nat → Nat → Nat) (cB cI cJ cZ : ClassId) (a : Nat → Nat) (C0 : cxt cX9_findGroups none 7 RX9 wsX9_findGroups (dC, dI) (tyz cB cI cJ cZ) E_0 A p s m args meth c) (n : Nat) (m_letters : Nat → Int32) (m_words : Int32) (m_wMany : Nat → Int32) (m_wLetters : Nat → Int32) (m_asks : Int32) (m_aWords : Nat → Int32) (m_dLetters : Nat → Int32) (m_dWords : Int32) (m_dMany : Nat → Int32) (m_dText : Nat → Int32) (m_dAsks : Int32) (m_dAsk : Nat → Int32) (m_tape : Nat → Int32) (m_taped : Int32) (m_pos : Int32) (m_from : Int32) (m_sort : Int32) (m_value : Int32) (m_fault : Int32) (m_wrongAt : Int32) (m_manyA : Int32) (m_rowA : Nat → Int32) (m_manyB : Int32) (m_rowB : Nat → Int32) (m_places : Int32) (m_xs : Nat → Int32) (m_ys : Nat → Int32) (m_heights : Nat → Int32) (m_ridges : Int32) (m_rx : Nat → Int32) (m_rHeight : Nat → Int32) (m_lanes : Nat → Int32) (m_sizes : Nat → Int32) (m_cells : Nat → Int32) (m_left : Nat → Int32) (m_calls : Int32) (m_cDay : Nat → Int32) (m_cHour : Nat → Int32) (m_cFrom : Nat → Int32) (m_cAsk : Nat → Int32) (m_cWord : Nat → Int32) (m_cOf : Nat → Int32) (m_isLie : Nat → Int32) (m_children : Int32) (m_learned : Nat → Int32) (x1 : Int32) (x2 : Int32) (x3 : Int32) (x4 : Int32) (x5 : Int32) (z_m_manyA : Int32) (z_m_rowA : Nat → Int32) (z_m_manyB : Int32) (z_m_rowB : Nat → Int32) (z_m_group : Nat → Int32) (rec25 : Int32 → (Nat → Int32) → Int32 → (Nat → Int32) → (Nat → Int32) → Int32 → Option (Int32 × (Nat → Int32) × Int32 × (Nat → Int32) × (Nat → Int32))) (hrec25 : ∀ (y_m_manyA : Int32) (y_m_rowA : Nat → Int32) (y_m_manyB : Int32) (y_m_rowB : Nat → Int32) (y_m_group : Nat → Int32) (y_x2 : Int32) (H : Heap) (locs : List Loc) (ls : Array Slot), rec25 y_m_manyA y_m_rowA y_m_manyB y_m_rowB y_m_group y_x2 = some (z_m_manyA, z_m_rowA, z_m_manyB, z_m_rowB, z_m_group) → va_P (dC, dI) vwCl (wM cB cI cJ cZ a m_letters m_words m_wMany m_wLetters m_asks m_aWords m_dLetters m_dWords m_dMany m_dText m_dAsks m_dAsk m_tape m_taped m_pos m_from m_sort m_value m_fault m_wrongAt y_m_manyA y_m_rowA y_m_manyB y_m_rowB m_places m_xs m_ys m_heights m_ridges m_rx m_rHeight m_lanes m_sizes m_cells m_left m_calls m_cDay m_cHour m_cFrom m_cAsk m_cWord m_cOf m_isLie m_children m_learned y_m_group) H → va_D A (wM cB cI cJ cZ a m_letters m_words m_wMany m_wLetters m_asks m_aWords m_dLetters m_dWords m_dMany m_dText m_dAsks m_dAsk m_tape m_taped m_pos m_from m_sort m_value m_fault m_wrongAt y_m_manyA y_m_rowA y_m_manyB y_m_rowB m_places m_xs m_ys m_heights m_ridges m_rx m_rHeight m_lanes m_sizes m_cells m_left m_calls m_cDay m_cHour m_cFrom m_cAsk m_cWord m_cOf m_isLie m_children m_learned y_m_group) → va_S A s.heap H locs → lv_has ls 7 [(0, .ref (a 0)), (1, .int x1), (2, .int y_x2)] → W p l e { frames := 3, cells := 0, slots := 0, locals := 72 } s m args below meth c H locs 0 0 (MQ below (gV (dC, dI) (tyz cB cI cJ cZ) (wM cB cI cJ cZ a m_letters m_words m_wMany m_wLetters m_asks m_aWords m_dLetters m_dWords m_dMany m_dText m_dAsks m_dAsk m_tape m_taped m_pos m_from m_sort m_value m_fault m_wrongAt z_m_manyA z_m_rowA z_m_manyB z_m_rowB m_places m_xs m_ys m_heights m_ridges m_rx m_rHeight m_lanes m_sizes m_cells m_left m_calls m_cDay m_cHour m_cFrom m_cAsk m_cWord m_cOf m_isLie m_children m_learned z_m_group) A) args s 0 0 A) (F0 m 25 ls [])) (rec35 : Int32 → (Nat → Int32) → Int32 → (Nat → Int32) → (Nat → Int32) → Int32 → Option (Int32 × (Nat → Int32) × Int32 × (Nat → Int32) × (Nat → Int32))) (hrec35 : ∀ (y_m_manyA : Int32) (y_m_rowA : Nat → Int32) (y_m_manyB : Int32) (y_m_rowB : Nat → Int32) (y_m_group : Nat → Int32) (y_x3 : Int32) (H : Heap) (locs : List Loc) (ls : Array Slot), rec35 y_m_manyA y_m_rowA y_m_manyB y_m_rowB y_m_group y_x3 = some (z_m_manyA, z_m_rowA, z_m_manyB, z_m_rowB, z_m_group) → va_P (dC, dI) vwCl (wM cB cI cJ cZ a m_letters m_words m_wMany m_wLetters m_asks m_aWords m_dLetters m_dWords m_dMany m_dText m_dAsks m_dAsk m_tape m_taped m_pos m_from m_sort m_value m_fault m_wrongAt y_m_manyA y_m_rowA y_m_manyB y_m_rowB m_places m_xs m_ys m_heights m_ridges m_rx m_rHeight m_lanes m_sizes m_cells m_left m_calls m_cDay m_cHour m_cFrom m_cAsk m_cWord m_cOf m_isLie m_children m_learned y_m_group) H → va_D A (wM cB cI cJ cZ a m_letters m_words m_wMany m_wLetters m_asks m_aWords m_dLetters m_dWords m_dMany m_dText m_dAsks m_dAsk m_tape m_taped m_pos m_from m_sort m_value m_fault m_wrongAt y_m_manyA y_m_rowA y_m_manyB y_m_rowB m_places m_xs m_ys m_heights m_ridges m_rx m_rHeight m_lanes m_sizes m_cells m_left m_calls m_cDay m_cHour m_cFrom m_cAsk m_cWord m_cOf m_isLie m_children m_learned y_m_group) → va_S A s.heap H locs → lv_has ls 7 [(0, .ref (a 0)), (1, .int x1), (2, .int x2), (3, .int y_x3)] → W p l e { frames := 3, cells := 0, slots := 0, locals := 72 } s m args below meth c H locs 0 0 (MQ below (gV (dC, dI) (tyz cB cI cJ cZ) (wM cB cI cJ cZ a m_letters m_words m_wMany m_wLetters m_asks m_aWords m_dLetters m_dWords m_dMany m_dText m_dAsks m_dAsk m_tape m_taped m_pos m_from m_sort m_value m_fault m_wrongAt z_m_manyA z_m_rowA z_m_manyB z_m_rowB m_places m_xs m_ys m_heights m_ridges m_rx m_rHeight m_lanes m_sizes m_cells m_left m_calls m_cDay m_cHour m_cFrom m_cAsk m_cWord m_cOf m_isLie m_children m_learned z_m_group) A) args s 0 0 A) (F0 m 35 ls [])) : ∀ (k : Nat) (m_group : Nat → Int32) (x6 : Int32) (H : Heap) (locs : List Loc) (ls : Array Slot), fX9_findGroups_p118 n m_letters m_words m_wMany m_wLetters m_manyA m_rowA m_manyB m_rowB m_learned x1 x2 x3 x4 x5 rec25 rec35 k m_group x6 = some (z_m_manyA, z_m_rowA, z_m_manyB, z_m_rowB, z_m_group) → va_P (dC, dI) vwCl (wM cB cI cJ cZ a m_letters m_words m_wMany m_wLetters m_asks m_aWords m_dLetters m_dWords m_dMany m_dText m_dAsks m_dAsk m_tape m_taped m_pos m_from m_sort m_value m_fault m_wrongAt m_manyA m_rowA m_manyB m_rowB m_places m_xs m_ys m_heights m_ridges m_rx m_rHeight m_lanes m_sizes m_cells m_left m_calls m_cDay m_cHour m_cFrom m_cAsk m_cWord m_cOf m_isLie m_children m_learned m_group) H → va_D A (wM cB cI cJ cZ a m_letters m_words m_wMany m_wLetters m_asks m_aWords m_dLetters m_dWords m_dMany m_dText m_dAsks m_dAsk m_tape m_taped m_pos m_from m_sort m_value m_fault m_wrongAt m_manyA m_rowA m_manyB m_rowB m_places m_xs m_ys m_heights m_ridges m_rx m_rHeight m_lanes m_sizes m_cells m_left m_calls m_cDay m_cHour m_cFrom m_cAsk m_cWord m_cOf m_isLie m_children m_learned m_group) → va_S A s.heap H locs → lv_has ls 7 [(0, .ref (a 0)), (1, .int x1), (2, .int x2), (3, .int x3), (4, .int x4), (5, .int x5), (6, .int x6)] → W p l e { frames := 3, cells := 0, slots := 0, locals := 72 } s m args below meth c H locs 0 0 (MQ below (gV (dC, dI) (tyz cB cI cJ cZ) (wM cB cI cJ cZ a m_letters m_words m_wMany m_wLetters m_asks m_aWords m_dLetters m_dWords m_dMany m_dText m_dAsks m_dAsk m_tape m_taped m_pos m_from m_sort m_value m_fault m_wrongAt z_m_manyA z_m_rowA z_m_manyB z_m_rowB m_places m_xs m_ys m_heights m_ridges m_rx m_rHeight m_lanes m_sizes m_cells m_left m_calls m_cDay m_cHour m_cFrom m_cAsk m_cWord m_cOf m_isLie m_children m_learned z_m_group) A) args s 0 0 A) (F0 m 118 ls []) := by
  obtain ⟨hx, hb, hr, hml, hown, hts, hlocks, hK, hA, hE⟩ := id C0
  have hw0 := hts (.fieldLink RX9 186 "WhistledWordsModel" "words" "I") (by decide +kernel)
  have hw1 := hts (.fieldLink RX9 95 "WhistledWordsModel" "group" "[I") (by decide +kernel)
  have hnX9 : ∀ w ∈ u_ws RX9 TX9 46, w ∈ wsX9_findGroups := fun _ h => List.mem_cons_of_mem _ (List.mem_append_right _ h)
  intro k
  induction k with
  | zero =>
    intro m_group x6 H locs ls h
    cases h
  | succ k ih =>
    intro m_group x6 H locs ls h hP hD hS hl
    rw [fX9_findGroups_p118] at h
    refine lv_iload hx hb dX9_findGroups_118 (lv_at hl 6 rfl) ?_
    refine lv_aload_n hx hb dX9_findGroups_120 rfl (lv_at hl 0 rfl) ?_
    refine gM_mo_words hx hb hts hnX9 hown hK hP hw0 dX9_findGroups_121 ?_
    refine lv_icmp_ge (tgt := 164) hx hb dX9_findGroups_124 (by decide) (fun c1 => ?_) (fun c1 => ?_)
    · have h := it_use c1 h
      refine lv_iinc (v := x3 + 1) (lv' := [(3, .int (x3 + 1)), (0, .ref (a 0)), (1, .int x1), (2, .int x2), (4, .int x4), (5, .int x5), (6, .int x6)]) hx hb dX9_findGroups_164 hl (k := 3) rfl rfl (by decide) rfl (fun ls hl => ?_)
      refine lv_goto (tgt := 35) hx hb dX9_findGroups_167 (by decide) ?_
      exact hrec35 m_manyA m_rowA m_manyB m_rowB m_group (x3 + 1) _ _ ls h hP hD hS (lv_sub hl [1, 2, 3, 0] rfl)
    · have h := ie_use c1 h
      refine lv_aload_n hx hb dX9_findGroups_127 rfl (lv_at hl 0 rfl) ?_
      refine gM_mo_group hx hb hts hnX9 hown hK hP hw1 dX9_findGroups_128 ?_
      refine lv_iload hx hb dX9_findGroups_131 (lv_at hl 6 rfl) ?_
      refine lv_aload_n hx hb dX9_findGroups_133 rfl (lv_at hl 0 rfl) ?_
      refine gM_mo_group hx hb hts hnX9 hown hK hP hw1 dX9_findGroups_134 ?_
      refine lv_iload hx hb dX9_findGroups_137 (lv_at hl 6 rfl) ?_
      obtain ⟨hiv2, h⟩ := ar_use h
      refine lM_mo_group hx hb hK hP hiv2 dX9_findGroups_139 ?_
      refine lv_topi (fun v2 ev2 => ?_)
      have h := h v2 ev2
      refine lv_iload hx hb dX9_findGroups_140 (lv_at hl 5 rfl) ?_
      refine lv_icmp_ne (tgt := 150) hx hb dX9_findGroups_142 (by decide) (fun c3 => ?_) (fun c3 => ?_)
      · have h := ie_use c3 h
        refine lv_aload_n hx hb dX9_findGroups_150 rfl (lv_at hl 0 rfl) ?_
        refine gM_mo_group hx hb hts hnX9 hown hK hP hw1 dX9_findGroups_151 ?_
        refine lv_iload hx hb dX9_findGroups_154 (lv_at hl 6 rfl) ?_
        obtain ⟨hiv4, h⟩ := ar_use h
        refine lM_mo_group hx hb hK hP hiv4 dX9_findGroups_156 ?_
        refine lv_topi (fun v4 ev4 => ?_)
        have h := h v4 ev4
        obtain ⟨hif5, f5, ef5, h⟩ := aw_use h
        refine sM_mo_group hx hb hK hP hD hS hif5 ef5 dX9_findGroups_157 (fun H locs hP hD hS => ?_)
        refine lv_iinc (v := x6 + 1) (lv' := [(6, .int (x6 + 1)), (0, .ref (a 0)), (1, .int x1), (2, .int x2), (3, .int x3), (4, .int x4), (5, .int x5)]) hx hb dX9_findGroups_158 hl (k := 6) rfl rfl (by decide) rfl (fun ls hl => ?_)
        refine lv_goto (tgt := 118) hx hb dX9_findGroups_161 (by decide) ?_
        exact ih f5 (x6 + 1) _ _ ls h hP hD hS (lv_sub hl [1, 2, 3, 4, 5, 6, 0] rfl)
      · have h := it_use c3 h
        refine lv_iload hx hb dX9_findGroups_145 (lv_at hl 4 rfl) ?_
        refine lv_goto (tgt := 157) hx hb dX9_findGroups_147 (by decide) ?_
        obtain ⟨hif6, f6, ef6, h⟩ := aw_use h
        refine sM_mo_group hx hb hK hP hD hS hif6 ef6 dX9_findGroups_157 (fun H locs hP hD hS => ?_)
        refine lv_iinc (v := x6 + 1) (lv' := [(6, .int (x6 + 1)), (0, .ref (a 0)), (1, .int x1), (2, .int x2), (3, .int x3), (4, .int x4), (5, .int x5)]) hx hb dX9_findGroups_158 hl (k := 6) rfl rfl (by decide) rfl (fun ls hl => ?_)
        refine lv_goto (tgt := 118) hx hb dX9_findGroups_161 (by decide) ?_
        exact ih f6 (x6 + 1) _ _ ls h hP hD hS (lv_sub hl [1, 2, 3, 4, 5, 6, 0] rfl)
theorem kX9_findGroups_p118 {p : Program} {l : Launch} {e : Env} {s : State} {m : MethodId} {args : Array Value} {below : List Frame} {meth : Method} {c : Code} {A : Nat → Prop} (dC : Nat → ClassId) (dI : Nat → Nat → Nat) (cB cI cJ cZ : ClassId) (a : Nat → Nat) (C0 : cxt cX9_findGroups none 7 RX9 wsX9_findGroups (dC, dI) (tyz cB cI cJ cZ) E_0 A p s m args meth c) (n : Nat) (m_letters : Nat → Int32) (m_words : Int32) (m_wMany : Nat → Int32) (m_wLetters : Nat → Int32) (m_asks : Int32) (m_aWords : Nat → Int32) (m_dLetters : Nat → Int32) (m_dWords : Int32) (m_dMany : Nat → Int32) (m_dText : Nat → Int32) (m_dAsks : Int32) (m_dAsk : Nat → Int32) (m_tape : Nat → Int32) (m_taped : Int32) (m_pos : Int32) (m_from : Int32) (m_sort : Int32) (m_value : Int32) (m_fault : Int32) (m_wrongAt : Int32) (m_manyA : Int32) (m_rowA : Nat → Int32) (m_manyB : Int32) (m_rowB : Nat → Int32) (m_places : Int32) (m_xs : Nat → Int32) (m_ys : Nat → Int32) (m_heights : Nat → Int32) (m_ridges : Int32) (m_rx : Nat → Int32) (m_rHeight : Nat → Int32) (m_lanes : Nat → Int32) (m_sizes : Nat → Int32) (m_cells : Nat → Int32) (m_left : Nat → Int32) (m_calls : Int32) (m_cDay : Nat → Int32) (m_cHour : Nat → Int32) (m_cFrom : Nat → Int32) (m_cAsk : Nat → Int32) (m_cWord : Nat → Int32) (m_cOf : Nat → Int32) (m_isLie : Nat → Int32) (m_children : Int32) (m_learned : Nat → Int32) (m_group : Nat → Int32)  (x1 : Int32) (x2 : Int32) (x3 : Int32) (x4 : Int32) (x5 : Int32) (x6 : Int32) (z_m_manyA : Int32) (z_m_rowA : Nat → Int32) (z_m_manyB : Int32) (z_m_rowB : Nat → Int32) (z_m_group : Nat → Int32) (rec25 : Int32 → (Nat → Int32) → Int32 → (Nat → Int32) → (Nat → Int32) → Int32 → Option (Int32 × (Nat → Int32) × Int32 × (Nat → Int32) × (Nat → Int32))) (hrec25 : ∀ (y_m_manyA : Int32) (y_m_rowA : Nat → Int32) (y_m_manyB : Int32) (y_m_rowB : Nat → Int32) (y_m_group : Nat → Int32) (y_x2 : Int32) (H : Heap) (locs : List Loc) (ls : Array Slot), rec25 y_m_manyA y_m_rowA y_m_manyB y_m_rowB y_m_group y_x2 = some (z_m_manyA, z_m_rowA, z_m_manyB, z_m_rowB, z_m_group) → va_P (dC, dI) vwCl (wM cB cI cJ cZ a m_letters m_words m_wMany m_wLetters m_asks m_aWords m_dLetters m_dWords m_dMany m_dText m_dAsks m_dAsk m_tape m_taped m_pos m_from m_sort m_value m_fault m_wrongAt y_m_manyA y_m_rowA y_m_manyB y_m_rowB m_places m_xs m_ys m_heights m_ridges m_rx m_rHeight m_lanes m_sizes m_cells m_left m_calls m_cDay m_cHour m_cFrom m_cAsk m_cWord m_cOf m_isLie m_children m_learned y_m_group) H → va_D A (wM cB cI cJ cZ a m_letters m_words m_wMany m_wLetters m_asks m_aWords m_dLetters m_dWords m_dMany m_dText m_dAsks m_dAsk m_tape m_taped m_pos m_from m_sort m_value m_fault m_wrongAt y_m_manyA y_m_rowA y_m_manyB y_m_rowB m_places m_xs m_ys m_heights m_ridges m_rx m_rHeight m_lanes m_sizes m_cells m_left m_calls m_cDay m_cHour m_cFrom m_cAsk m_cWord m_cOf m_isLie m_children m_learned y_m_group) → va_S A s.heap H locs → lv_has ls 7 [(0, .ref (a 0)), (1, .int x1), (2, .int y_x2)] → W p l e { frames := 3, cells := 0, slots := 0, locals := 72 } s m args below meth c H locs 0 0 (MQ below (gV (dC, dI) (tyz cB cI cJ cZ) (wM cB cI cJ cZ a m_letters m_words m_wMany m_wLetters m_asks m_aWords m_dLetters m_dWords m_dMany m_dText m_dAsks m_dAsk m_tape m_taped m_pos m_from m_sort m_value m_fault m_wrongAt z_m_manyA z_m_rowA z_m_manyB z_m_rowB m_places m_xs m_ys m_heights m_ridges m_rx m_rHeight m_lanes m_sizes m_cells m_left m_calls m_cDay m_cHour m_cFrom m_cAsk m_cWord m_cOf m_isLie m_children m_learned z_m_group) A) args s 0 0 A) (F0 m 25 ls [])) (rec35 : Int32 → (Nat → Int32) → Int32 → (Nat → Int32) → (Nat → Int32) → Int32 → Option (Int32 × (Nat → Int32) × Int32 × (Nat → Int32) × (Nat → Int32))) (hrec35 : ∀ (y_m_manyA : Int32) (y_m_rowA : Nat → Int32) (y_m_manyB : Int32) (y_m_rowB : Nat → Int32) (y_m_group : Nat → Int32) (y_x3 : Int32) (H : Heap) (locs : List Loc) (ls : Array Slot), rec35 y_m_manyA y_m_rowA y_m_manyB y_m_rowB y_m_group y_x3 = some (z_m_manyA, z_m_rowA, z_m_manyB, z_m_rowB, z_m_group) → va_P (dC, dI) vwCl (wM cB cI cJ cZ a m_letters m_words m_wMany m_wLetters m_asks m_aWords m_dLetters m_dWords m_dMany m_dText m_dAsks m_dAsk m_tape m_taped m_pos m_from m_sort m_value m_fault m_wrongAt y_m_manyA y_m_rowA y_m_manyB y_m_rowB m_places m_xs m_ys m_heights m_ridges m_rx m_rHeight m_lanes m_sizes m_cells m_left m_calls m_cDay m_cHour m_cFrom m_cAsk m_cWord m_cOf m_isLie m_children m_learned y_m_group) H → va_D A (wM cB cI cJ cZ a m_letters m_words m_wMany m_wLetters m_asks m_aWords m_dLetters m_dWords m_dMany m_dText m_dAsks m_dAsk m_tape m_taped m_pos m_from m_sort m_value m_fault m_wrongAt y_m_manyA y_m_rowA y_m_manyB y_m_rowB m_places m_xs m_ys m_heights m_ridges m_rx m_rHeight m_lanes m_sizes m_cells m_left m_calls m_cDay m_cHour m_cFrom m_cAsk m_cWord m_cOf m_isLie m_children m_learned y_m_group) → va_S A s.heap H locs → lv_has ls 7 [(0, .ref (a 0)), (1, .int x1), (2, .int x2), (3, .int y_x3)] → W p l e { frames := 3, cells := 0, slots := 0, locals := 72 } s m args below meth c H locs 0 0 (MQ below (gV (dC, dI) (tyz cB cI cJ cZ) (wM cB cI cJ cZ a m_letters m_words m_wMany m_wLetters m_asks m_aWords m_dLetters m_dWords m_dMany m_dText m_dAsks m_dAsk m_tape m_taped m_pos m_from m_sort m_value m_fault m_wrongAt z_m_manyA z_m_rowA z_m_manyB z_m_rowB m_places m_xs m_ys m_heights m_ridges m_rx m_rHeight m_lanes m_sizes m_cells m_left m_calls m_cDay m_cHour m_cFrom m_cAsk m_cWord m_cOf m_isLie m_children m_learned z_m_group) A) args s 0 0 A) (F0 m 35 ls [])) (k : Nat) (H : Heap) (locs : List Loc) (ls : Array Slot) : fX9_findGroups_p118 n m_letters m_words m_wMany m_wLetters m_manyA m_rowA m_manyB m_rowB m_learned x1 x2 x3 x4 x5 rec25 rec35 k m_group x6 = some (z_m_manyA, z_m_rowA, z_m_manyB, z_m_rowB, z_m_group) → va_P (dC, dI) vwCl (wM cB cI cJ cZ a m_letters m_words m_wMany m_wLetters m_asks m_aWords m_dLetters m_dWords m_dMany m_dText m_dAsks m_dAsk m_tape m_taped m_pos m_from m_sort m_value m_fault m_wrongAt m_manyA m_rowA m_manyB m_rowB m_places m_xs m_ys m_heights m_ridges m_rx m_rHeight m_lanes m_sizes m_cells m_left m_calls m_cDay m_cHour m_cFrom m_cAsk m_cWord m_cOf m_isLie m_children m_learned m_group) H → va_D A (wM cB cI cJ cZ a m_letters m_words m_wMany m_wLetters m_asks m_aWords m_dLetters m_dWords m_dMany m_dText m_dAsks m_dAsk m_tape m_taped m_pos m_from m_sort m_value m_fault m_wrongAt m_manyA m_rowA m_manyB m_rowB m_places m_xs m_ys m_heights m_ridges m_rx m_rHeight m_lanes m_sizes m_cells m_left m_calls m_cDay m_cHour m_cFrom m_cAsk m_cWord m_cOf m_isLie m_children m_learned m_group) → va_S A s.heap H locs → lv_has ls 7 [(0, .ref (a 0)), (1, .int x1), (2, .int x2), (3, .int x3), (4, .int x4), (5, .int x5), (6, .int x6)] → W p l e { frames := 3, cells := 0, slots := 0, locals := 72 } s m args below meth c H locs 0 0 (MQ below (gV (dC, dI) (tyz cB cI cJ cZ) (wM cB cI cJ cZ a m_letters m_words m_wMany m_wLetters m_asks m_aWords m_dLetters m_dWords m_dMany m_dText m_dAsks m_dAsk m_tape m_taped m_pos m_from m_sort m_value m_fault m_wrongAt z_m_manyA z_m_rowA z_m_manyB z_m_rowB m_places m_xs m_ys m_heights m_ridges m_rx m_rHeight m_lanes m_sizes m_cells m_left m_calls m_cDay m_cHour m_cFrom m_cAsk m_cWord m_cOf m_isLie m_children m_learned z_m_group) A) args s 0 0 A) (F0 m 118 ls []) :=
  kX9_findGroups_p118_r dC dI cB cI cJ cZ a C0 n m_letters m_words m_wMany m_wLetters m_asks m_aWords m_dLetters m_dWords m_dMany m_dText m_dAsks m_dAsk m_tape m_taped m_pos m_from m_sort m_value m_fault m_wrongAt m_manyA m_rowA m_manyB m_rowB m_places m_xs m_ys m_heights m_ridges m_rx m_rHeight m_lanes m_sizes m_cells m_left m_calls m_cDay m_cHour m_cFrom m_cAsk m_cWord m_cOf m_isLie m_children m_learned x1 x2 x3 x4 x5 z_m_manyA z_m_rowA z_m_manyB z_m_rowB z_m_group rec25 hrec25 rec35 hrec35 k m_group x6 H locs ls
set_option maxHeartbeats 4000000 in
set_option maxRecDepth 100000 in
theorem kX9_findGroups_p95 {p : Program} {l : Launch} {e : Env} {s : State} {m : MethodId} {args : Array Value} {below : List Frame} {meth : Method} {c : Code} {A : Nat → Prop} (dC : Nat → ClassId) (dI : Nat → Nat → Nat) (cB cI cJ cZ : ClassId) (a : Nat → Nat) (C0 : cxt cX9_findGroups none 7 RX9 wsX9_findGroups (dC, dI) (tyz cB cI cJ cZ) E_0 A p s m args meth c) (n : Nat) (m_letters : Nat → Int32) (m_words : Int32) (m_wMany : Nat → Int32) (m_wLetters : Nat → Int32) (m_asks : Int32) (m_aWords : Nat → Int32) (m_dLetters : Nat → Int32) (m_dWords : Int32) (m_dMany : Nat → Int32) (m_dText : Nat → Int32) (m_dAsks : Int32) (m_dAsk : Nat → Int32) (m_tape : Nat → Int32) (m_taped : Int32) (m_pos : Int32) (m_from : Int32) (m_sort : Int32) (m_value : Int32) (m_fault : Int32) (m_wrongAt : Int32) (m_manyA : Int32) (m_rowA : Nat → Int32) (m_manyB : Int32) (m_rowB : Nat → Int32) (m_places : Int32) (m_xs : Nat → Int32) (m_ys : Nat → Int32) (m_heights : Nat → Int32) (m_ridges : Int32) (m_rx : Nat → Int32) (m_rHeight : Nat → Int32) (m_lanes : Nat → Int32) (m_sizes : Nat → Int32) (m_cells : Nat → Int32) (m_left : Nat → Int32) (m_calls : Int32) (m_cDay : Nat → Int32) (m_cHour : Nat → Int32) (m_cFrom : Nat → Int32) (m_cAsk : Nat → Int32) (m_cWord : Nat → Int32) (m_cOf : Nat → Int32) (m_isLie : Nat → Int32) (m_children : Int32) (m_learned : Nat → Int32) (m_group : Nat → Int32)  (x1 : Int32) (x2 : Int32) (x3 : Int32) (s0 : Int32) (z_m_manyA : Int32) (z_m_rowA : Nat → Int32) (z_m_manyB : Int32) (z_m_rowB : Nat → Int32) (z_m_group : Nat → Int32) (rec25 : Int32 → (Nat → Int32) → Int32 → (Nat → Int32) → (Nat → Int32) → Int32 → Option (Int32 × (Nat → Int32) × Int32 × (Nat → Int32) × (Nat → Int32))) (hrec25 : ∀ (y_m_manyA : Int32) (y_m_rowA : Nat → Int32) (y_m_manyB : Int32) (y_m_rowB : Nat → Int32) (y_m_group : Nat → Int32) (y_x2 : Int32) (H : Heap) (locs : List Loc) (ls : Array Slot), rec25 y_m_manyA y_m_rowA y_m_manyB y_m_rowB y_m_group y_x2 = some (z_m_manyA, z_m_rowA, z_m_manyB, z_m_rowB, z_m_group) → va_P (dC, dI) vwCl (wM cB cI cJ cZ a m_letters m_words m_wMany m_wLetters m_asks m_aWords m_dLetters m_dWords m_dMany m_dText m_dAsks m_dAsk m_tape m_taped m_pos m_from m_sort m_value m_fault m_wrongAt y_m_manyA y_m_rowA y_m_manyB y_m_rowB m_places m_xs m_ys m_heights m_ridges m_rx m_rHeight m_lanes m_sizes m_cells m_left m_calls m_cDay m_cHour m_cFrom m_cAsk m_cWord m_cOf m_isLie m_children m_learned y_m_group) H → va_D A (wM cB cI cJ cZ a m_letters m_words m_wMany m_wLetters m_asks m_aWords m_dLetters m_dWords m_dMany m_dText m_dAsks m_dAsk m_tape m_taped m_pos m_from m_sort m_value m_fault m_wrongAt y_m_manyA y_m_rowA y_m_manyB y_m_rowB m_places m_xs m_ys m_heights m_ridges m_rx m_rHeight m_lanes m_sizes m_cells m_left m_calls m_cDay m_cHour m_cFrom m_cAsk m_cWord m_cOf m_isLie m_children m_learned y_m_group) → va_S A s.heap H locs → lv_has ls 7 [(0, .ref (a 0)), (1, .int x1), (2, .int y_x2)] → W p l e { frames := 3, cells := 0, slots := 0, locals := 72 } s m args below meth c H locs 0 0 (MQ below (gV (dC, dI) (tyz cB cI cJ cZ) (wM cB cI cJ cZ a m_letters m_words m_wMany m_wLetters m_asks m_aWords m_dLetters m_dWords m_dMany m_dText m_dAsks m_dAsk m_tape m_taped m_pos m_from m_sort m_value m_fault m_wrongAt z_m_manyA z_m_rowA z_m_manyB z_m_rowB m_places m_xs m_ys m_heights m_ridges m_rx m_rHeight m_lanes m_sizes m_cells m_left m_calls m_cDay m_cHour m_cFrom m_cAsk m_cWord m_cOf m_isLie m_children m_learned z_m_group) A) args s 0 0 A) (F0 m 25 ls [])) (rec35 : Int32 → (Nat → Int32) → Int32 → (Nat → Int32) → (Nat → Int32) → Int32 → Option (Int32 × (Nat → Int32) × Int32 × (Nat → Int32) × (Nat → Int32))) (hrec35 : ∀ (y_m_manyA : Int32) (y_m_rowA : Nat → Int32) (y_m_manyB : Int32) (y_m_rowB : Nat → Int32) (y_m_group : Nat → Int32) (y_x3 : Int32) (H : Heap) (locs : List Loc) (ls : Array Slot), rec35 y_m_manyA y_m_rowA y_m_manyB y_m_rowB y_m_group y_x3 = some (z_m_manyA, z_m_rowA, z_m_manyB, z_m_rowB, z_m_group) → va_P (dC, dI) vwCl (wM cB cI cJ cZ a m_letters m_words m_wMany m_wLetters m_asks m_aWords m_dLetters m_dWords m_dMany m_dText m_dAsks m_dAsk m_tape m_taped m_pos m_from m_sort m_value m_fault m_wrongAt y_m_manyA y_m_rowA y_m_manyB y_m_rowB m_places m_xs m_ys m_heights m_ridges m_rx m_rHeight m_lanes m_sizes m_cells m_left m_calls m_cDay m_cHour m_cFrom m_cAsk m_cWord m_cOf m_isLie m_children m_learned y_m_group) H → va_D A (wM cB cI cJ cZ a m_letters m_words m_wMany m_wLetters m_asks m_aWords m_dLetters m_dWords m_dMany m_dText m_dAsks m_dAsk m_tape m_taped m_pos m_from m_sort m_value m_fault m_wrongAt y_m_manyA y_m_rowA y_m_manyB y_m_rowB m_places m_xs m_ys m_heights m_ridges m_rx m_rHeight m_lanes m_sizes m_cells m_left m_calls m_cDay m_cHour m_cFrom m_cAsk m_cWord m_cOf m_isLie m_children m_learned y_m_group) → va_S A s.heap H locs → lv_has ls 7 [(0, .ref (a 0)), (1, .int x1), (2, .int x2), (3, .int y_x3)] → W p l e { frames := 3, cells := 0, slots := 0, locals := 72 } s m args below meth c H locs 0 0 (MQ below (gV (dC, dI) (tyz cB cI cJ cZ) (wM cB cI cJ cZ a m_letters m_words m_wMany m_wLetters m_asks m_aWords m_dLetters m_dWords m_dMany m_dText m_dAsks m_dAsk m_tape m_taped m_pos m_from m_sort m_value m_fault m_wrongAt z_m_manyA z_m_rowA z_m_manyB z_m_rowB m_places m_xs m_ys m_heights m_ridges m_rx m_rHeight m_lanes m_sizes m_cells m_left m_calls m_cDay m_cHour m_cFrom m_cAsk m_cWord m_cOf m_isLie m_children m_learned z_m_group) A) args s 0 0 A) (F0 m 35 ls [])) (H : Heap) (locs : List Loc) (ls : Array Slot) : fX9_findGroups_p95 n m_letters m_words m_wMany m_wLetters m_manyA m_rowA m_manyB m_rowB m_learned m_group x1 x2 x3 s0 rec25 rec35 = some (z_m_manyA, z_m_rowA, z_m_manyB, z_m_rowB, z_m_group) → va_P (dC, dI) vwCl (wM cB cI cJ cZ a m_letters m_words m_wMany m_wLetters m_asks m_aWords m_dLetters m_dWords m_dMany m_dText m_dAsks m_dAsk m_tape m_taped m_pos m_from m_sort m_value m_fault m_wrongAt m_manyA m_rowA m_manyB m_rowB m_places m_xs m_ys m_heights m_ridges m_rx m_rHeight m_lanes m_sizes m_cells m_left m_calls m_cDay m_cHour m_cFrom m_cAsk m_cWord m_cOf m_isLie m_children m_learned m_group) H → va_D A (wM cB cI cJ cZ a m_letters m_words m_wMany m_wLetters m_asks m_aWords m_dLetters m_dWords m_dMany m_dText m_dAsks m_dAsk m_tape m_taped m_pos m_from m_sort m_value m_fault m_wrongAt m_manyA m_rowA m_manyB m_rowB m_places m_xs m_ys m_heights m_ridges m_rx m_rHeight m_lanes m_sizes m_cells m_left m_calls m_cDay m_cHour m_cFrom m_cAsk m_cWord m_cOf m_isLie m_children m_learned m_group) → va_S A s.heap H locs → lv_has ls 7 [(0, .ref (a 0)), (1, .int x1), (2, .int x2), (3, .int x3)] → W p l e { frames := 3, cells := 0, slots := 0, locals := 72 } s m args below meth c H locs 0 0 (MQ below (gV (dC, dI) (tyz cB cI cJ cZ) (wM cB cI cJ cZ a m_letters m_words m_wMany m_wLetters m_asks m_aWords m_dLetters m_dWords m_dMany m_dText m_dAsks m_dAsk m_tape m_taped m_pos m_from m_sort m_value m_fault m_wrongAt z_m_manyA z_m_rowA z_m_manyB z_m_rowB m_places m_xs m_ys m_heights m_ridges m_rx m_rHeight m_lanes m_sizes m_cells m_left m_calls m_cDay m_cHour m_cFrom m_cAsk m_cWord m_cOf m_isLie m_children m_learned z_m_group) A) args s 0 0 A) (F0 m 95 ls [.int s0]) := by
  intro h hP hD hS hl
  obtain ⟨hx, hb, hr, hml, hown, hts, hlocks, hK, hA, hE⟩ := id C0
  have hw0 := hts (.fieldLink RX9 95 "WhistledWordsModel" "group" "[I") (by decide +kernel)
  have hnX9 : ∀ w ∈ u_ws RX9 TX9 46, w ∈ wsX9_findGroups := fun _ h => List.mem_cons_of_mem _ (List.mem_append_right _ h)
  unfold fX9_findGroups_p95 at h
  refine lv_istore (lv' := [(4, .int s0), (0, .ref (a 0)), (1, .int x1), (2, .int x2), (3, .int x3)]) hx hb dX9_findGroups_95 hl (by decide) rfl (fun ls hl => ?_)
  refine lv_aload_n hx hb dX9_findGroups_97 rfl (lv_at hl 1 rfl) ?_
  refine gM_mo_group hx hb hts hnX9 hown hK hP hw0 dX9_findGroups_98 ?_
  refine lv_iload_n hx hb dX9_findGroups_101 rfl (lv_at hl 3 rfl) ?_
  obtain ⟨hiv1, h⟩ := ar_use h
  refine lM_mo_group hx hb hK hP hiv1 dX9_findGroups_102 ?_
  refine lv_topi (fun v1 ev1 => ?_)
  have h := h v1 ev1
  refine lv_aload_n hx hb dX9_findGroups_103 rfl (lv_at hl 1 rfl) ?_
  refine gM_mo_group hx hb hts hnX9 hown hK hP hw0 dX9_findGroups_104 ?_
  refine lv_iload_n hx hb dX9_findGroups_107 rfl (lv_at hl 4 rfl) ?_
  obtain ⟨hiv2, h⟩ := ar_use h
  refine lM_mo_group hx hb hK hP hiv2 dX9_findGroups_108 ?_
  refine lv_topi (fun v2 ev2 => ?_)
  have h := h v2 ev2
  refine lv_iadd hx hb dX9_findGroups_109 ?_
  refine lv_iload hx hb dX9_findGroups_110 (lv_at hl 0 rfl) ?_
  refine lv_isub hx hb dX9_findGroups_112 ?_
  refine lv_topi (fun v3 ev3 => ?_)
  have h := nm_use ev3 h
  refine lv_istore (lv' := [(5, .int v3), (4, .int s0), (0, .ref (a 0)), (1, .int x1), (2, .int x2), (3, .int x3)]) hx hb dX9_findGroups_113 hl (by decide) rfl (fun ls hl => ?_)
  refine lv_iconst (v := 0) hx hb dX9_findGroups_115 (by decide) ?_
  refine lv_istore (lv' := [(6, .int (0 : Int32)), (5, .int v3), (4, .int s0), (0, .ref (a 0)), (1, .int x1), (2, .int x2), (3, .int x3)]) hx hb dX9_findGroups_116 hl (by decide) rfl (fun ls hl => ?_)
  exact kX9_findGroups_p118 dC dI cB cI cJ cZ a C0 n m_letters m_words m_wMany m_wLetters m_asks m_aWords m_dLetters m_dWords m_dMany m_dText m_dAsks m_dAsk m_tape m_taped m_pos m_from m_sort m_value m_fault m_wrongAt m_manyA m_rowA m_manyB m_rowB m_places m_xs m_ys m_heights m_ridges m_rx m_rHeight m_lanes m_sizes m_cells m_left m_calls m_cDay m_cHour m_cFrom m_cAsk m_cWord m_cOf m_isLie m_children m_learned m_group x1 x2 x3 s0 v3 (0 : Int32) z_m_manyA z_m_rowA z_m_manyB z_m_rowB z_m_group (rec25) hrec25 (rec35) hrec35 n _ _ ls h hP hD hS (lv_sub hl [3, 4, 5, 6, 2, 1, 0] rfl)
set_option maxHeartbeats 4000000 in
set_option maxRecDepth 100000 in
theorem kX9_findGroups_p35_r {p : Program} {l : Launch} {e : Env} {s : State} {m : MethodId} {args : Array Value} {below : List Frame} {meth : Method} {c : Code} {A : Nat → Prop} (dC : Nat → ClassId) (dI : Nat → Nat → Nat) (cB cI cJ cZ : ClassId) (a : Nat → Nat) (C0 : cxt cX9_findGroups none 7 RX9 wsX9_findGroups (dC, dI) (tyz cB cI cJ cZ) E_0 A p s m args meth c) (n : Nat) (m_letters : Nat → Int32) (m_words : Int32) (m_wMany : Nat → Int32) (m_wLetters : Nat → Int32) (m_asks : Int32) (m_aWords : Nat → Int32) (m_dLetters : Nat → Int32) (m_dWords : Int32) (m_dMany : Nat → Int32) (m_dText : Nat → Int32) (m_dAsks : Int32) (m_dAsk : Nat → Int32) (m_tape : Nat → Int32) (m_taped : Int32) (m_pos : Int32) (m_from : Int32) (m_sort : Int32) (m_value : Int32) (m_fault : Int32) (m_wrongAt : Int32) (m_places : Int32) (m_xs : Nat → Int32) (m_ys : Nat → Int32) (m_heights : Nat → Int32) (m_ridges : Int32) (m_rx : Nat → Int32) (m_rHeight : Nat → Int32) (m_lanes : Nat → Int32) (m_sizes : Nat → Int32) (m_cells : Nat → Int32) (m_left : Nat → Int32) (m_calls : Int32) (m_cDay : Nat → Int32) (m_cHour : Nat → Int32) (m_cFrom : Nat → Int32) (m_cAsk : Nat → Int32) (m_cWord : Nat → Int32) (m_cOf : Nat → Int32) (m_isLie : Nat → Int32) (m_children : Int32) (m_learned : Nat → Int32) (x1 : Int32) (x2 : Int32) (z_m_manyA : Int32) (z_m_rowA : Nat → Int32) (z_m_manyB : Int32) (z_m_rowB : Nat → Int32) (z_m_group : Nat → Int32) (rec25 : Int32 → (Nat → Int32) → Int32 → (Nat → Int32) → (Nat → Int32) → Int32 → Option (Int32 × (Nat → Int32) × Int32 × (Nat → Int32) × (Nat → Int32))) (hrec25 : ∀ (y_m_manyA : Int32) (y_m_rowA : Nat → Int32) (y_m_manyB : Int32) (y_m_rowB : Nat → Int32) (y_m_group : Nat → Int32) (y_x2 : Int32) (H : Heap) (locs : List Loc) (ls : Array Slot), rec25 y_m_manyA y_m_rowA y_m_manyB y_m_rowB y_m_group y_x2 = some (z_m_manyA, z_m_rowA, z_m_manyB, z_m_rowB, z_m_group) → va_P (dC, dI) vwCl (wM cB cI cJ cZ a m_letters m_words m_wMany m_wLetters m_asks m_aWords m_dLetters m_dWords m_dMany m_dText m_dAsks m_dAsk m_tape m_taped m_pos m_from m_sort m_value m_fault m_wrongAt y_m_manyA y_m_rowA y_m_manyB y_m_rowB m_places m_xs m_ys m_heights m_ridges m_rx m_rHeight m_lanes m_sizes m_cells m_left m_calls m_cDay m_cHour m_cFrom m_cAsk m_cWord m_cOf m_isLie m_children m_learned y_m_group) H → va_D A (wM cB cI cJ cZ a m_letters m_words m_wMany m_wLetters m_asks m_aWords m_dLetters m_dWords m_dMany m_dText m_dAsks m_dAsk m_tape m_taped m_pos m_from m_sort m_value m_fault m_wrongAt y_m_manyA y_m_rowA y_m_manyB y_m_rowB m_places m_xs m_ys m_heights m_ridges m_rx m_rHeight m_lanes m_sizes m_cells m_left m_calls m_cDay m_cHour m_cFrom m_cAsk m_cWord m_cOf m_isLie m_children m_learned y_m_group) → va_S A s.heap H locs → lv_has ls 7 [(0, .ref (a 0)), (1, .int x1), (2, .int y_x2)] → W p l e { frames := 3, cells := 0, slots := 0, locals := 72 } s m args below meth c H locs 0 0 (MQ below (gV (dC, dI) (tyz cB cI cJ cZ) (wM cB cI cJ cZ a m_letters m_words m_wMany m_wLetters m_asks m_aWords m_dLetters m_dWords m_dMany m_dText m_dAsks m_dAsk m_tape m_taped m_pos m_from m_sort m_value m_fault m_wrongAt z_m_manyA z_m_rowA z_m_manyB z_m_rowB m_places m_xs m_ys m_heights m_ridges m_rx m_rHeight m_lanes m_sizes m_cells m_left m_calls m_cDay m_cHour m_cFrom m_cAsk m_cWord m_cOf m_isLie m_children m_learned z_m_group) A) args s 0 0 A) (F0 m 25 ls [])) : ∀ (k : Nat) (m_manyA : Int32) (m_rowA : Nat → Int32) (m_manyB : Int32) (m_rowB : Nat → Int32) (m_group : Nat → Int32) (x3 : Int32) (H : Heap) (locs : List Loc) (ls : Array Slot), fX9_findGroups_p35 n m_letters m_words m_wMany m_wLetters m_learned x1 x2 rec25 k m_manyA m_rowA m_manyB m_rowB m_group x3 = some (z_m_manyA, z_m_rowA, z_m_manyB, z_m_rowB, z_m_group) → va_P (dC, dI) vwCl (wM cB cI cJ cZ a m_letters m_words m_wMany m_wLetters m_asks m_aWords m_dLetters m_dWords m_dMany m_dText m_dAsks m_dAsk m_tape m_taped m_pos m_from m_sort m_value m_fault m_wrongAt m_manyA m_rowA m_manyB m_rowB m_places m_xs m_ys m_heights m_ridges m_rx m_rHeight m_lanes m_sizes m_cells m_left m_calls m_cDay m_cHour m_cFrom m_cAsk m_cWord m_cOf m_isLie m_children m_learned m_group) H → va_D A (wM cB cI cJ cZ a m_letters m_words m_wMany m_wLetters m_asks m_aWords m_dLetters m_dWords m_dMany m_dText m_dAsks m_dAsk m_tape m_taped m_pos m_from m_sort m_value m_fault m_wrongAt m_manyA m_rowA m_manyB m_rowB m_places m_xs m_ys m_heights m_ridges m_rx m_rHeight m_lanes m_sizes m_cells m_left m_calls m_cDay m_cHour m_cFrom m_cAsk m_cWord m_cOf m_isLie m_children m_learned m_group) → va_S A s.heap H locs → lv_has ls 7 [(0, .ref (a 0)), (1, .int x1), (2, .int x2), (3, .int x3)] → W p l e { frames := 3, cells := 0, slots := 0, locals := 72 } s m args below meth c H locs 0 0 (MQ below (gV (dC, dI) (tyz cB cI cJ cZ) (wM cB cI cJ cZ a m_letters m_words m_wMany m_wLetters m_asks m_aWords m_dLetters m_dWords m_dMany m_dText m_dAsks m_dAsk m_tape m_taped m_pos m_from m_sort m_value m_fault m_wrongAt z_m_manyA z_m_rowA z_m_manyB z_m_rowB m_places m_xs m_ys m_heights m_ridges m_rx m_rHeight m_lanes m_sizes m_cells m_left m_calls m_cDay m_cHour m_cFrom m_cAsk m_cWord m_cOf m_isLie m_children m_learned z_m_group) A) args s 0 0 A) (F0 m 35 ls []) := by
  obtain ⟨hx, hb, hr, hml, hown, hts, hlocks, hK, hA, hE⟩ := id C0
  have hw0 := hts (.fieldLink RX9 95 "WhistledWordsModel" "group" "[I") (by decide +kernel)
  have hnX9 : ∀ w ∈ u_ws RX9 TX9 46, w ∈ wsX9_findGroups := fun _ h => List.mem_cons_of_mem _ (List.mem_append_right _ h)
  intro k
  induction k with
  | zero =>
    intro m_manyA m_rowA m_manyB m_rowB m_group x3 H locs ls h
    cases h
  | succ k ih =>
    intro m_manyA m_rowA m_manyB m_rowB m_group x3 H locs ls h hP hD hS hl
    rw [fX9_findGroups_p35] at h
    refine lv_iload_n hx hb dX9_findGroups_35 rfl (lv_at hl 3 rfl) ?_
    refine lv_iload_n hx hb dX9_findGroups_36 rfl (lv_at hl 2 rfl) ?_
    refine lv_icmp_ge (tgt := 170) hx hb dX9_findGroups_37 (by decide) (fun c1 => ?_) (fun c1 => ?_)
    · have h := it_use c1 h
      refine lv_iinc (v := x2 + 1) (lv' := [(2, .int (x2 + 1)), (0, .ref (a 0)), (1, .int x1), (3, .int x3)]) hx hb dX9_findGroups_170 hl (k := 2) rfl rfl (by decide) rfl (fun ls hl => ?_)
      refine lv_goto (tgt := 25) hx hb dX9_findGroups_173 (by decide) ?_
      exact hrec25 m_manyA m_rowA m_manyB m_rowB m_group (x2 + 1) _ _ ls h hP hD hS (lv_sub hl [1, 2, 0] rfl)
    · have h := ie_use c1 h
      refine lv_aload_n hx hb dX9_findGroups_40 rfl (lv_at hl 0 rfl) ?_
      refine lv_iload_n hx hb dX9_findGroups_41 rfl (lv_at hl 1 rfl) ?_
      refine lv_iload_n hx hb dX9_findGroups_42 rfl (lv_at hl 2 rfl) ?_
      refine lv_iload_n hx hb dX9_findGroups_43 rfl (lv_at hl 3 rfl) ?_
      obtain ⟨v2, v3, f4, v5, f6, hc, h⟩ := bd5_use h
      refine cv_i (As := [.int x1, .int x2, .int x3]) (rest := []) ⟨hx, hb, hml, hown, hts⟩ (kX9_doesConfuse l n dC dI cB cI cJ cZ a _ m_letters m_words m_wMany m_wLetters m_asks m_aWords m_dLetters m_dWords m_dMany m_dText m_dAsks m_dAsk m_tape m_taped m_pos m_from m_sort m_value m_fault m_wrongAt m_manyA m_rowA m_manyB m_rowB m_places m_xs m_ys m_heights m_ridges m_rx m_rHeight m_lanes m_sizes m_cells m_left m_calls m_cDay m_cHour m_cFrom m_cAsk m_cWord m_cOf m_isLie m_children m_learned m_group x1 x2 x3 v2 v3 f4 v5 f6 hc) (cwV 3 hts gX9_findGroups_X9_doesConfuse rfl rfl rfl (by decide +kernel) ⟨Nat.le_of_ble_eq_true rfl, Nat.le_of_ble_eq_true rfl⟩) EB_0 hE hK hP hD hS hA 0 (ci := 8) rfl rfl rfl rfl hl.1 rfl (Nat.le_of_ble_eq_true rfl) dX9_findGroups_44 ⟨Nat.zero_le _, Nat.zero_le _⟩ (fun H locs hP hD hS => ?_)
      refine lv_if_eq (tgt := 164) hx hb dX9_findGroups_47 (by decide) (fun c7 => ?_) (fun c7 => ?_)
      · have h := it_use c7 h
        refine lv_iinc (v := x3 + 1) (lv' := [(3, .int (x3 + 1)), (0, .ref (a 0)), (1, .int x1), (2, .int x2)]) hx hb dX9_findGroups_164 hl (k := 3) rfl rfl (by decide) rfl (fun ls hl => ?_)
        refine lv_goto (tgt := 35) hx hb dX9_findGroups_167 (by decide) ?_
        exact ih v3 f4 v5 f6 m_group (x3 + 1) _ _ ls h hP hD hS (lv_sub hl [1, 2, 3, 0] rfl)
      · have h := ie_use c7 h
        refine lv_aload_n hx hb dX9_findGroups_50 rfl (lv_at hl 0 rfl) ?_
        refine gM_mo_group hx hb hts hnX9 hown hK hP hw0 dX9_findGroups_51 ?_
        refine lv_iload_n hx hb dX9_findGroups_54 rfl (lv_at hl 2 rfl) ?_
        obtain ⟨hiv8, h⟩ := ar_use h
        refine lM_mo_group hx hb hK hP hiv8 dX9_findGroups_55 ?_
        refine lv_topi (fun v8 ev8 => ?_)
        have h := h v8 ev8
        refine lv_aload_n hx hb dX9_findGroups_56 rfl (lv_at hl 0 rfl) ?_
        refine gM_mo_group hx hb hts hnX9 hown hK hP hw0 dX9_findGroups_57 ?_
        refine lv_iload_n hx hb dX9_findGroups_60 rfl (lv_at hl 3 rfl) ?_
        obtain ⟨hiv9, h⟩ := ar_use h
        refine lM_mo_group hx hb hK hP hiv9 dX9_findGroups_61 ?_
        refine lv_topi (fun v9 ev9 => ?_)
        have h := h v9 ev9
        refine lv_icmp_eq (tgt := 164) hx hb dX9_findGroups_62 (by decide) (fun c10 => ?_) (fun c10 => ?_)
        · have h := it_use c10 h
          refine lv_iinc (v := x3 + 1) (lv' := [(3, .int (x3 + 1)), (0, .ref (a 0)), (1, .int x1), (2, .int x2)]) hx hb dX9_findGroups_164 hl (k := 3) rfl rfl (by decide) rfl (fun ls hl => ?_)
          refine lv_goto (tgt := 35) hx hb dX9_findGroups_167 (by decide) ?_
          exact ih v3 f4 v5 f6 m_group (x3 + 1) _ _ ls h hP hD hS (lv_sub hl [1, 2, 3, 0] rfl)
        · have h := ie_use c10 h
          refine lv_aload_n hx hb dX9_findGroups_65 rfl (lv_at hl 0 rfl) ?_
          refine gM_mo_group hx hb hts hnX9 hown hK hP hw0 dX9_findGroups_66 ?_
          refine lv_iload_n hx hb dX9_findGroups_69 rfl (lv_at hl 2 rfl) ?_
          obtain ⟨hiv11, h⟩ := ar_use h
          refine lM_mo_group hx hb hK hP hiv11 dX9_findGroups_70 ?_
          refine lv_topi (fun v11 ev11 => ?_)
          have h := h v11 ev11
          refine lv_aload_n hx hb dX9_findGroups_71 rfl (lv_at hl 0 rfl) ?_
          refine gM_mo_group hx hb hts hnX9 hown hK hP hw0 dX9_findGroups_72 ?_
          refine lv_iload_n hx hb dX9_findGroups_75 rfl (lv_at hl 3 rfl) ?_
          obtain ⟨hiv12, h⟩ := ar_use h
          refine lM_mo_group hx hb hK hP hiv12 dX9_findGroups_76 ?_
          refine lv_topi (fun v12 ev12 => ?_)
          have h := h v12 ev12
          refine lv_icmp_ge (tgt := 89) hx hb dX9_findGroups_77 (by decide) (fun c13 => ?_) (fun c13 => ?_)
          · have h := it_use c13 h
            refine lv_aload_n hx hb dX9_findGroups_89 rfl (lv_at hl 0 rfl) ?_
            refine gM_mo_group hx hb hts hnX9 hown hK hP hw0 dX9_findGroups_90 ?_
            refine lv_iload_n hx hb dX9_findGroups_93 rfl (lv_at hl 3 rfl) ?_
            obtain ⟨hiv14, h⟩ := ar_use h
            refine lM_mo_group hx hb hK hP hiv14 dX9_findGroups_94 ?_
            refine lv_topi (fun v14 ev14 => ?_)
            have h := h v14 ev14
            exact kX9_findGroups_p95 dC dI cB cI cJ cZ a C0 n m_letters m_words m_wMany m_wLetters m_asks m_aWords m_dLetters m_dWords m_dMany m_dText m_dAsks m_dAsk m_tape m_taped m_pos m_from m_sort m_value m_fault m_wrongAt v3 f4 v5 f6 m_places m_xs m_ys m_heights m_ridges m_rx m_rHeight m_lanes m_sizes m_cells m_left m_calls m_cDay m_cHour m_cFrom m_cAsk m_cWord m_cOf m_isLie m_children m_learned m_group x1 x2 x3 v14 z_m_manyA z_m_rowA z_m_manyB z_m_rowB z_m_group (rec25) hrec25 (fX9_findGroups_p35 n m_letters m_words m_wMany m_wLetters m_learned x1 x2 rec25 k) ih _ _ ls h hP hD hS (lv_sub hl [0, 1, 2, 3] rfl)
          · have h := ie_use c13 h
            refine lv_aload_n hx hb dX9_findGroups_80 rfl (lv_at hl 0 rfl) ?_
            refine gM_mo_group hx hb hts hnX9 hown hK hP hw0 dX9_findGroups_81 ?_
            refine lv_iload_n hx hb dX9_findGroups_84 rfl (lv_at hl 2 rfl) ?_
            obtain ⟨hiv15, h⟩ := ar_use h
            refine lM_mo_group hx hb hK hP hiv15 dX9_findGroups_85 ?_
            refine lv_topi (fun v15 ev15 => ?_)
            have h := h v15 ev15
            refine lv_goto (tgt := 95) hx hb dX9_findGroups_86 (by decide) ?_
            exact kX9_findGroups_p95 dC dI cB cI cJ cZ a C0 n m_letters m_words m_wMany m_wLetters m_asks m_aWords m_dLetters m_dWords m_dMany m_dText m_dAsks m_dAsk m_tape m_taped m_pos m_from m_sort m_value m_fault m_wrongAt v3 f4 v5 f6 m_places m_xs m_ys m_heights m_ridges m_rx m_rHeight m_lanes m_sizes m_cells m_left m_calls m_cDay m_cHour m_cFrom m_cAsk m_cWord m_cOf m_isLie m_children m_learned m_group x1 x2 x3 v15 z_m_manyA z_m_rowA z_m_manyB z_m_rowB z_m_group (rec25) hrec25 (fX9_findGroups_p35 n m_letters m_words m_wMany m_wLetters m_learned x1 x2 rec25 k) ih _ _ ls h hP hD hS (lv_sub hl [0, 1, 2, 3] rfl)
theorem kX9_findGroups_p35 {p : Program} {l : Launch} {e : Env} {s : State} {m : MethodId} {args : Array Value} {below : List Frame} {meth : Method} {c : Code} {A : Nat → Prop} (dC : Nat → ClassId) (dI : Nat → Nat → Nat) (cB cI cJ cZ : ClassId) (a : Nat → Nat) (C0 : cxt cX9_findGroups none 7 RX9 wsX9_findGroups (dC, dI) (tyz cB cI cJ cZ) E_0 A p s m args meth c) (n : Nat) (m_letters : Nat → Int32) (m_words : Int32) (m_wMany : Nat → Int32) (m_wLetters : Nat → Int32) (m_asks : Int32) (m_aWords : Nat → Int32) (m_dLetters : Nat → Int32) (m_dWords : Int32) (m_dMany : Nat → Int32) (m_dText : Nat → Int32) (m_dAsks : Int32) (m_dAsk : Nat → Int32) (m_tape : Nat → Int32) (m_taped : Int32) (m_pos : Int32) (m_from : Int32) (m_sort : Int32) (m_value : Int32) (m_fault : Int32) (m_wrongAt : Int32) (m_manyA : Int32) (m_rowA : Nat → Int32) (m_manyB : Int32) (m_rowB : Nat → Int32) (m_places : Int32) (m_xs : Nat → Int32) (m_ys : Nat → Int32) (m_heights : Nat → Int32) (m_ridges : Int32) (m_rx : Nat → Int32) (m_rHeight : Nat → Int32) (m_lanes : Nat → Int32) (m_sizes : Nat → Int32) (m_cells : Nat → Int32) (m_left : Nat → Int32) (m_calls : Int32) (m_cDay : Nat → Int32) (m_cHour : Nat → Int32) (m_cFrom : Nat → Int32) (m_cAsk : Nat → Int32) (m_cWord : Nat → Int32) (m_cOf : Nat → Int32) (m_isLie : Nat → Int32) (m_children : Int32) (m_learned : Nat → Int32) (m_group : Nat → Int32)  (x1 : Int32) (x2 : Int32) (x3 : Int32) (z_m_manyA : Int32) (z_m_rowA : Nat → Int32) (z_m_manyB : Int32) (z_m_rowB : Nat → Int32) (z_m_group : Nat → Int32) (rec25 : Int32 → (Nat → Int32) → Int32 → (Nat → Int32) → (Nat → Int32) → Int32 → Option (Int32 × (Nat → Int32) × Int32 × (Nat → Int32) × (Nat → Int32))) (hrec25 : ∀ (y_m_manyA : Int32) (y_m_rowA : Nat → Int32) (y_m_manyB : Int32) (y_m_rowB : Nat → Int32) (y_m_group : Nat → Int32) (y_x2 : Int32) (H : Heap) (locs : List Loc) (ls : Array Slot), rec25 y_m_manyA y_m_rowA y_m_manyB y_m_rowB y_m_group y_x2 = some (z_m_manyA, z_m_rowA, z_m_manyB, z_m_rowB, z_m_group) → va_P (dC, dI) vwCl (wM cB cI cJ cZ a m_letters m_words m_wMany m_wLetters m_asks m_aWords m_dLetters m_dWords m_dMany m_dText m_dAsks m_dAsk m_tape m_taped m_pos m_from m_sort m_value m_fault m_wrongAt y_m_manyA y_m_rowA y_m_manyB y_m_rowB m_places m_xs m_ys m_heights m_ridges m_rx m_rHeight m_lanes m_sizes m_cells m_left m_calls m_cDay m_cHour m_cFrom m_cAsk m_cWord m_cOf m_isLie m_children m_learned y_m_group) H → va_D A (wM cB cI cJ cZ a m_letters m_words m_wMany m_wLetters m_asks m_aWords m_dLetters m_dWords m_dMany m_dText m_dAsks m_dAsk m_tape m_taped m_pos m_from m_sort m_value m_fault m_wrongAt y_m_manyA y_m_rowA y_m_manyB y_m_rowB m_places m_xs m_ys m_heights m_ridges m_rx m_rHeight m_lanes m_sizes m_cells m_left m_calls m_cDay m_cHour m_cFrom m_cAsk m_cWord m_cOf m_isLie m_children m_learned y_m_group) → va_S A s.heap H locs → lv_has ls 7 [(0, .ref (a 0)), (1, .int x1), (2, .int y_x2)] → W p l e { frames := 3, cells := 0, slots := 0, locals := 72 } s m args below meth c H locs 0 0 (MQ below (gV (dC, dI) (tyz cB cI cJ cZ) (wM cB cI cJ cZ a m_letters m_words m_wMany m_wLetters m_asks m_aWords m_dLetters m_dWords m_dMany m_dText m_dAsks m_dAsk m_tape m_taped m_pos m_from m_sort m_value m_fault m_wrongAt z_m_manyA z_m_rowA z_m_manyB z_m_rowB m_places m_xs m_ys m_heights m_ridges m_rx m_rHeight m_lanes m_sizes m_cells m_left m_calls m_cDay m_cHour m_cFrom m_cAsk m_cWord m_cOf m_isLie m_children m_learned z_m_group) A) args s 0 0 A) (F0 m 25 ls [])) (k : Nat) (H : Heap) (locs : List Loc) (ls : Array Slot) : fX9_findGroups_p35 n m_letters m_words m_wMany m_wLetters m_learned x1 x2 rec25 k m_manyA m_rowA m_manyB m_rowB m_group x3 = some (z_m_manyA, z_m_rowA, z_m_manyB, z_m_rowB, z_m_group) → va_P (dC, dI) vwCl (wM cB cI cJ cZ a m_letters m_words m_wMany m_wLetters m_asks m_aWords m_dLetters m_dWords m_dMany m_dText m_dAsks m_dAsk m_tape m_taped m_pos m_from m_sort m_value m_fault m_wrongAt m_manyA m_rowA m_manyB m_rowB m_places m_xs m_ys m_heights m_ridges m_rx m_rHeight m_lanes m_sizes m_cells m_left m_calls m_cDay m_cHour m_cFrom m_cAsk m_cWord m_cOf m_isLie m_children m_learned m_group) H → va_D A (wM cB cI cJ cZ a m_letters m_words m_wMany m_wLetters m_asks m_aWords m_dLetters m_dWords m_dMany m_dText m_dAsks m_dAsk m_tape m_taped m_pos m_from m_sort m_value m_fault m_wrongAt m_manyA m_rowA m_manyB m_rowB m_places m_xs m_ys m_heights m_ridges m_rx m_rHeight m_lanes m_sizes m_cells m_left m_calls m_cDay m_cHour m_cFrom m_cAsk m_cWord m_cOf m_isLie m_children m_learned m_group) → va_S A s.heap H locs → lv_has ls 7 [(0, .ref (a 0)), (1, .int x1), (2, .int x2), (3, .int x3)] → W p l e { frames := 3, cells := 0, slots := 0, locals := 72 } s m args below meth c H locs 0 0 (MQ below (gV (dC, dI) (tyz cB cI cJ cZ) (wM cB cI cJ cZ a m_letters m_words m_wMany m_wLetters m_asks m_aWords m_dLetters m_dWords m_dMany m_dText m_dAsks m_dAsk m_tape m_taped m_pos m_from m_sort m_value m_fault m_wrongAt z_m_manyA z_m_rowA z_m_manyB z_m_rowB m_places m_xs m_ys m_heights m_ridges m_rx m_rHeight m_lanes m_sizes m_cells m_left m_calls m_cDay m_cHour m_cFrom m_cAsk m_cWord m_cOf m_isLie m_children m_learned z_m_group) A) args s 0 0 A) (F0 m 35 ls []) :=
  kX9_findGroups_p35_r dC dI cB cI cJ cZ a C0 n m_letters m_words m_wMany m_wLetters m_asks m_aWords m_dLetters m_dWords m_dMany m_dText m_dAsks m_dAsk m_tape m_taped m_pos m_from m_sort m_value m_fault m_wrongAt m_places m_xs m_ys m_heights m_ridges m_rx m_rHeight m_lanes m_sizes m_cells m_left m_calls m_cDay m_cHour m_cFrom m_cAsk m_cWord m_cOf m_isLie m_children m_learned x1 x2 z_m_manyA z_m_rowA z_m_manyB z_m_rowB z_m_group rec25 hrec25 k m_manyA m_rowA m_manyB m_rowB m_group x3 H locs ls
set_option maxHeartbeats 4000000 in
set_option maxRecDepth 100000 in
theorem kX9_findGroups_p25_r {p : Program} {l : Launch} {e : Env} {s : State} {m : MethodId} {args : Array Value} {below : List Frame} {meth : Method} {c : Code} {A : Nat → Prop} (dC : Nat → ClassId) (dI : Nat → Nat → Nat) (cB cI cJ cZ : ClassId) (a : Nat → Nat) (C0 : cxt cX9_findGroups none 7 RX9 wsX9_findGroups (dC, dI) (tyz cB cI cJ cZ) E_0 A p s m args meth c) (n : Nat) (m_letters : Nat → Int32) (m_words : Int32) (m_wMany : Nat → Int32) (m_wLetters : Nat → Int32) (m_asks : Int32) (m_aWords : Nat → Int32) (m_dLetters : Nat → Int32) (m_dWords : Int32) (m_dMany : Nat → Int32) (m_dText : Nat → Int32) (m_dAsks : Int32) (m_dAsk : Nat → Int32) (m_tape : Nat → Int32) (m_taped : Int32) (m_pos : Int32) (m_from : Int32) (m_sort : Int32) (m_value : Int32) (m_fault : Int32) (m_wrongAt : Int32) (m_places : Int32) (m_xs : Nat → Int32) (m_ys : Nat → Int32) (m_heights : Nat → Int32) (m_ridges : Int32) (m_rx : Nat → Int32) (m_rHeight : Nat → Int32) (m_lanes : Nat → Int32) (m_sizes : Nat → Int32) (m_cells : Nat → Int32) (m_left : Nat → Int32) (m_calls : Int32) (m_cDay : Nat → Int32) (m_cHour : Nat → Int32) (m_cFrom : Nat → Int32) (m_cAsk : Nat → Int32) (m_cWord : Nat → Int32) (m_cOf : Nat → Int32) (m_isLie : Nat → Int32) (m_children : Int32) (m_learned : Nat → Int32) (x1 : Int32) (z_m_manyA : Int32) (z_m_rowA : Nat → Int32) (z_m_manyB : Int32) (z_m_rowB : Nat → Int32) (z_m_group : Nat → Int32)  : ∀ (k : Nat) (m_manyA : Int32) (m_rowA : Nat → Int32) (m_manyB : Int32) (m_rowB : Nat → Int32) (m_group : Nat → Int32) (x2 : Int32) (H : Heap) (locs : List Loc) (ls : Array Slot), fX9_findGroups_p25 n m_letters m_words m_wMany m_wLetters m_learned x1 k m_manyA m_rowA m_manyB m_rowB m_group x2 = some (z_m_manyA, z_m_rowA, z_m_manyB, z_m_rowB, z_m_group) → va_P (dC, dI) vwCl (wM cB cI cJ cZ a m_letters m_words m_wMany m_wLetters m_asks m_aWords m_dLetters m_dWords m_dMany m_dText m_dAsks m_dAsk m_tape m_taped m_pos m_from m_sort m_value m_fault m_wrongAt m_manyA m_rowA m_manyB m_rowB m_places m_xs m_ys m_heights m_ridges m_rx m_rHeight m_lanes m_sizes m_cells m_left m_calls m_cDay m_cHour m_cFrom m_cAsk m_cWord m_cOf m_isLie m_children m_learned m_group) H → va_D A (wM cB cI cJ cZ a m_letters m_words m_wMany m_wLetters m_asks m_aWords m_dLetters m_dWords m_dMany m_dText m_dAsks m_dAsk m_tape m_taped m_pos m_from m_sort m_value m_fault m_wrongAt m_manyA m_rowA m_manyB m_rowB m_places m_xs m_ys m_heights m_ridges m_rx m_rHeight m_lanes m_sizes m_cells m_left m_calls m_cDay m_cHour m_cFrom m_cAsk m_cWord m_cOf m_isLie m_children m_learned m_group) → va_S A s.heap H locs → lv_has ls 7 [(0, .ref (a 0)), (1, .int x1), (2, .int x2)] → W p l e { frames := 3, cells := 0, slots := 0, locals := 72 } s m args below meth c H locs 0 0 (MQ below (gV (dC, dI) (tyz cB cI cJ cZ) (wM cB cI cJ cZ a m_letters m_words m_wMany m_wLetters m_asks m_aWords m_dLetters m_dWords m_dMany m_dText m_dAsks m_dAsk m_tape m_taped m_pos m_from m_sort m_value m_fault m_wrongAt z_m_manyA z_m_rowA z_m_manyB z_m_rowB m_places m_xs m_ys m_heights m_ridges m_rx m_rHeight m_lanes m_sizes m_cells m_left m_calls m_cDay m_cHour m_cFrom m_cAsk m_cWord m_cOf m_isLie m_children m_learned z_m_group) A) args s 0 0 A) (F0 m 25 ls []) := by
  obtain ⟨hx, hb, hr, hml, hown, hts, hlocks, hK, hA, hE⟩ := id C0
  have hw0 := hts (.fieldLink RX9 186 "WhistledWordsModel" "words" "I") (by decide +kernel)
  have hnX9 : ∀ w ∈ u_ws RX9 TX9 46, w ∈ wsX9_findGroups := fun _ h => List.mem_cons_of_mem _ (List.mem_append_right _ h)
  intro k
  induction k with
  | zero =>
    intro m_manyA m_rowA m_manyB m_rowB m_group x2 H locs ls h
    cases h
  | succ k ih =>
    intro m_manyA m_rowA m_manyB m_rowB m_group x2 H locs ls h hP hD hS hl
    rw [fX9_findGroups_p25] at h
    refine lv_iload_n hx hb dX9_findGroups_25 rfl (lv_at hl 2 rfl) ?_
    refine lv_aload_n hx hb dX9_findGroups_26 rfl (lv_at hl 0 rfl) ?_
    refine gM_mo_words hx hb hts hnX9 hown hK hP hw0 dX9_findGroups_27 ?_
    refine lv_icmp_ge (tgt := 176) hx hb dX9_findGroups_30 (by decide) (fun c1 => ?_) (fun c1 => ?_)
    · have h := it_use c1 h
      obtain ⟨ez0, ez1, ez2, ez3, ez4⟩ := rt5_use h
      subst ez0
      subst ez1
      subst ez2
      subst ez3
      subst ez4
      exact re_v hx hb hr hlocks hK hP hD hS dX9_findGroups_176
    · have h := ie_use c1 h
      refine lv_iconst (v := 0) hx hb dX9_findGroups_33 (by decide) ?_
      refine lv_istore_n (lv' := [(3, .int (0 : Int32)), (0, .ref (a 0)), (1, .int x1), (2, .int x2)]) hx hb dX9_findGroups_34 rfl hl (by decide) rfl (fun ls hl => ?_)
      exact kX9_findGroups_p35 dC dI cB cI cJ cZ a C0 n m_letters m_words m_wMany m_wLetters m_asks m_aWords m_dLetters m_dWords m_dMany m_dText m_dAsks m_dAsk m_tape m_taped m_pos m_from m_sort m_value m_fault m_wrongAt m_manyA m_rowA m_manyB m_rowB m_places m_xs m_ys m_heights m_ridges m_rx m_rHeight m_lanes m_sizes m_cells m_left m_calls m_cDay m_cHour m_cFrom m_cAsk m_cWord m_cOf m_isLie m_children m_learned m_group x1 x2 (0 : Int32) z_m_manyA z_m_rowA z_m_manyB z_m_rowB z_m_group (fX9_findGroups_p25 n m_letters m_words m_wMany m_wLetters m_learned x1 k) ih n _ _ ls h hP hD hS (lv_sub hl [1, 2, 3, 0] rfl)
theorem kX9_findGroups_p25 {p : Program} {l : Launch} {e : Env} {s : State} {m : MethodId} {args : Array Value} {below : List Frame} {meth : Method} {c : Code} {A : Nat → Prop} (dC : Nat → ClassId) (dI : Nat → Nat → Nat) (cB cI cJ cZ : ClassId) (a : Nat → Nat) (C0 : cxt cX9_findGroups none 7 RX9 wsX9_findGroups (dC, dI) (tyz cB cI cJ cZ) E_0 A p s m args meth c) (n : Nat) (m_letters : Nat → Int32) (m_words : Int32) (m_wMany : Nat → Int32) (m_wLetters : Nat → Int32) (m_asks : Int32) (m_aWords : Nat → Int32) (m_dLetters : Nat → Int32) (m_dWords : Int32) (m_dMany : Nat → Int32) (m_dText : Nat → Int32) (m_dAsks : Int32) (m_dAsk : Nat → Int32) (m_tape : Nat → Int32) (m_taped : Int32) (m_pos : Int32) (m_from : Int32) (m_sort : Int32) (m_value : Int32) (m_fault : Int32) (m_wrongAt : Int32) (m_manyA : Int32) (m_rowA : Nat → Int32) (m_manyB : Int32) (m_rowB : Nat → Int32) (m_places : Int32) (m_xs : Nat → Int32) (m_ys : Nat → Int32) (m_heights : Nat → Int32) (m_ridges : Int32) (m_rx : Nat → Int32) (m_rHeight : Nat → Int32) (m_lanes : Nat → Int32) (m_sizes : Nat → Int32) (m_cells : Nat → Int32) (m_left : Nat → Int32) (m_calls : Int32) (m_cDay : Nat → Int32) (m_cHour : Nat → Int32) (m_cFrom : Nat → Int32) (m_cAsk : Nat → Int32) (m_cWord : Nat → Int32) (m_cOf : Nat → Int32) (m_isLie : Nat → Int32) (m_children : Int32) (m_learned : Nat → Int32) (m_group : Nat → Int32)  (x1 : Int32) (x2 : Int32) (z_m_manyA : Int32) (z_m_rowA : Nat → Int32) (z_m_manyB : Int32) (z_m_rowB : Nat → Int32) (z_m_group : Nat → Int32)  (k : Nat) (H : Heap) (locs : List Loc) (ls : Array Slot) : fX9_findGroups_p25 n m_letters m_words m_wMany m_wLetters m_learned x1 k m_manyA m_rowA m_manyB m_rowB m_group x2 = some (z_m_manyA, z_m_rowA, z_m_manyB, z_m_rowB, z_m_group) → va_P (dC, dI) vwCl (wM cB cI cJ cZ a m_letters m_words m_wMany m_wLetters m_asks m_aWords m_dLetters m_dWords m_dMany m_dText m_dAsks m_dAsk m_tape m_taped m_pos m_from m_sort m_value m_fault m_wrongAt m_manyA m_rowA m_manyB m_rowB m_places m_xs m_ys m_heights m_ridges m_rx m_rHeight m_lanes m_sizes m_cells m_left m_calls m_cDay m_cHour m_cFrom m_cAsk m_cWord m_cOf m_isLie m_children m_learned m_group) H → va_D A (wM cB cI cJ cZ a m_letters m_words m_wMany m_wLetters m_asks m_aWords m_dLetters m_dWords m_dMany m_dText m_dAsks m_dAsk m_tape m_taped m_pos m_from m_sort m_value m_fault m_wrongAt m_manyA m_rowA m_manyB m_rowB m_places m_xs m_ys m_heights m_ridges m_rx m_rHeight m_lanes m_sizes m_cells m_left m_calls m_cDay m_cHour m_cFrom m_cAsk m_cWord m_cOf m_isLie m_children m_learned m_group) → va_S A s.heap H locs → lv_has ls 7 [(0, .ref (a 0)), (1, .int x1), (2, .int x2)] → W p l e { frames := 3, cells := 0, slots := 0, locals := 72 } s m args below meth c H locs 0 0 (MQ below (gV (dC, dI) (tyz cB cI cJ cZ) (wM cB cI cJ cZ a m_letters m_words m_wMany m_wLetters m_asks m_aWords m_dLetters m_dWords m_dMany m_dText m_dAsks m_dAsk m_tape m_taped m_pos m_from m_sort m_value m_fault m_wrongAt z_m_manyA z_m_rowA z_m_manyB z_m_rowB m_places m_xs m_ys m_heights m_ridges m_rx m_rHeight m_lanes m_sizes m_cells m_left m_calls m_cDay m_cHour m_cFrom m_cAsk m_cWord m_cOf m_isLie m_children m_learned z_m_group) A) args s 0 0 A) (F0 m 25 ls []) :=
  kX9_findGroups_p25_r dC dI cB cI cJ cZ a C0 n m_letters m_words m_wMany m_wLetters m_asks m_aWords m_dLetters m_dWords m_dMany m_dText m_dAsks m_dAsk m_tape m_taped m_pos m_from m_sort m_value m_fault m_wrongAt m_places m_xs m_ys m_heights m_ridges m_rx m_rHeight m_lanes m_sizes m_cells m_left m_calls m_cDay m_cHour m_cFrom m_cAsk m_cWord m_cOf m_isLie m_children m_learned x1 z_m_manyA z_m_rowA z_m_manyB z_m_rowB z_m_group  k m_manyA m_rowA m_manyB m_rowB m_group x2 H locs ls
set_option maxHeartbeats 4000000 in
set_option maxRecDepth 100000 in
theorem kX9_findGroups_p2_r {p : Program} {l : Launch} {e : Env} {s : State} {m : MethodId} {args : Array Value} {below : List Frame} {meth : Method} {c : Code} {A : Nat → Prop} (dC : Nat → ClassId) (dI : Nat → Nat → Nat) (cB cI cJ cZ : ClassId) (a : Nat → Nat) (C0 : cxt cX9_findGroups none 7 RX9 wsX9_findGroups (dC, dI) (tyz cB cI cJ cZ) E_0 A p s m args meth c) (n : Nat) (m_letters : Nat → Int32) (m_words : Int32) (m_wMany : Nat → Int32) (m_wLetters : Nat → Int32) (m_asks : Int32) (m_aWords : Nat → Int32) (m_dLetters : Nat → Int32) (m_dWords : Int32) (m_dMany : Nat → Int32) (m_dText : Nat → Int32) (m_dAsks : Int32) (m_dAsk : Nat → Int32) (m_tape : Nat → Int32) (m_taped : Int32) (m_pos : Int32) (m_from : Int32) (m_sort : Int32) (m_value : Int32) (m_fault : Int32) (m_wrongAt : Int32) (m_manyA : Int32) (m_rowA : Nat → Int32) (m_manyB : Int32) (m_rowB : Nat → Int32) (m_places : Int32) (m_xs : Nat → Int32) (m_ys : Nat → Int32) (m_heights : Nat → Int32) (m_ridges : Int32) (m_rx : Nat → Int32) (m_rHeight : Nat → Int32) (m_lanes : Nat → Int32) (m_sizes : Nat → Int32) (m_cells : Nat → Int32) (m_left : Nat → Int32) (m_calls : Int32) (m_cDay : Nat → Int32) (m_cHour : Nat → Int32) (m_cFrom : Nat → Int32) (m_cAsk : Nat → Int32) (m_cWord : Nat → Int32) (m_cOf : Nat → Int32) (m_isLie : Nat → Int32) (m_children : Int32) (m_learned : Nat → Int32) (x1 : Int32) (z_m_manyA : Int32) (z_m_rowA : Nat → Int32) (z_m_manyB : Int32) (z_m_rowB : Nat → Int32) (z_m_group : Nat → Int32)  : ∀ (k : Nat) (m_group : Nat → Int32) (x2 : Int32) (H : Heap) (locs : List Loc) (ls : Array Slot), fX9_findGroups_p2 n m_letters m_words m_wMany m_wLetters m_manyA m_rowA m_manyB m_rowB m_learned x1 k m_group x2 = some (z_m_manyA, z_m_rowA, z_m_manyB, z_m_rowB, z_m_group) → va_P (dC, dI) vwCl (wM cB cI cJ cZ a m_letters m_words m_wMany m_wLetters m_asks m_aWords m_dLetters m_dWords m_dMany m_dText m_dAsks m_dAsk m_tape m_taped m_pos m_from m_sort m_value m_fault m_wrongAt m_manyA m_rowA m_manyB m_rowB m_places m_xs m_ys m_heights m_ridges m_rx m_rHeight m_lanes m_sizes m_cells m_left m_calls m_cDay m_cHour m_cFrom m_cAsk m_cWord m_cOf m_isLie m_children m_learned m_group) H → va_D A (wM cB cI cJ cZ a m_letters m_words m_wMany m_wLetters m_asks m_aWords m_dLetters m_dWords m_dMany m_dText m_dAsks m_dAsk m_tape m_taped m_pos m_from m_sort m_value m_fault m_wrongAt m_manyA m_rowA m_manyB m_rowB m_places m_xs m_ys m_heights m_ridges m_rx m_rHeight m_lanes m_sizes m_cells m_left m_calls m_cDay m_cHour m_cFrom m_cAsk m_cWord m_cOf m_isLie m_children m_learned m_group) → va_S A s.heap H locs → lv_has ls 7 [(0, .ref (a 0)), (1, .int x1), (2, .int x2)] → W p l e { frames := 3, cells := 0, slots := 0, locals := 72 } s m args below meth c H locs 0 0 (MQ below (gV (dC, dI) (tyz cB cI cJ cZ) (wM cB cI cJ cZ a m_letters m_words m_wMany m_wLetters m_asks m_aWords m_dLetters m_dWords m_dMany m_dText m_dAsks m_dAsk m_tape m_taped m_pos m_from m_sort m_value m_fault m_wrongAt z_m_manyA z_m_rowA z_m_manyB z_m_rowB m_places m_xs m_ys m_heights m_ridges m_rx m_rHeight m_lanes m_sizes m_cells m_left m_calls m_cDay m_cHour m_cFrom m_cAsk m_cWord m_cOf m_isLie m_children m_learned z_m_group) A) args s 0 0 A) (F0 m 2 ls []) := by
  obtain ⟨hx, hb, hr, hml, hown, hts, hlocks, hK, hA, hE⟩ := id C0
  have hw0 := hts (.fieldLink RX9 186 "WhistledWordsModel" "words" "I") (by decide +kernel)
  have hw1 := hts (.fieldLink RX9 95 "WhistledWordsModel" "group" "[I") (by decide +kernel)
  have hnX9 : ∀ w ∈ u_ws RX9 TX9 46, w ∈ wsX9_findGroups := fun _ h => List.mem_cons_of_mem _ (List.mem_append_right _ h)
  intro k
  induction k with
  | zero =>
    intro m_group x2 H locs ls h
    cases h
  | succ k ih =>
    intro m_group x2 H locs ls h hP hD hS hl
    rw [fX9_findGroups_p2] at h
    refine lv_iload_n hx hb dX9_findGroups_2 rfl (lv_at hl 2 rfl) ?_
    refine lv_aload_n hx hb dX9_findGroups_3 rfl (lv_at hl 0 rfl) ?_
    refine gM_mo_words hx hb hts hnX9 hown hK hP hw0 dX9_findGroups_4 ?_
    refine lv_icmp_ge (tgt := 23) hx hb dX9_findGroups_7 (by decide) (fun c1 => ?_) (fun c1 => ?_)
    · have h := it_use c1 h
      refine lv_iconst (v := 0) hx hb dX9_findGroups_23 (by decide) ?_
      refine lv_istore_n (lv' := [(2, .int (0 : Int32)), (0, .ref (a 0)), (1, .int x1)]) hx hb dX9_findGroups_24 rfl hl (by decide) rfl (fun ls hl => ?_)
      exact kX9_findGroups_p25 dC dI cB cI cJ cZ a C0 n m_letters m_words m_wMany m_wLetters m_asks m_aWords m_dLetters m_dWords m_dMany m_dText m_dAsks m_dAsk m_tape m_taped m_pos m_from m_sort m_value m_fault m_wrongAt m_manyA m_rowA m_manyB m_rowB m_places m_xs m_ys m_heights m_ridges m_rx m_rHeight m_lanes m_sizes m_cells m_left m_calls m_cDay m_cHour m_cFrom m_cAsk m_cWord m_cOf m_isLie m_children m_learned m_group x1 (0 : Int32) z_m_manyA z_m_rowA z_m_manyB z_m_rowB z_m_group  n _ _ ls h hP hD hS (lv_sub hl [1, 2, 0] rfl)
    · have h := ie_use c1 h
      refine lv_aload_n hx hb dX9_findGroups_10 rfl (lv_at hl 0 rfl) ?_
      refine gM_mo_group hx hb hts hnX9 hown hK hP hw1 dX9_findGroups_11 ?_
      refine lv_iload_n hx hb dX9_findGroups_14 rfl (lv_at hl 2 rfl) ?_
      refine lv_iload_n hx hb dX9_findGroups_15 rfl (lv_at hl 2 rfl) ?_
      obtain ⟨hif2, f2, ef2, h⟩ := aw_use h
      refine sM_mo_group hx hb hK hP hD hS hif2 ef2 dX9_findGroups_16 (fun H locs hP hD hS => ?_)
      refine lv_iinc (v := x2 + 1) (lv' := [(2, .int (x2 + 1)), (0, .ref (a 0)), (1, .int x1)]) hx hb dX9_findGroups_17 hl (k := 2) rfl rfl (by decide) rfl (fun ls hl => ?_)
      refine lv_goto (tgt := 2) hx hb dX9_findGroups_20 (by decide) ?_
      exact ih f2 (x2 + 1) _ _ ls h hP hD hS (lv_sub hl [1, 2, 0] rfl)
theorem kX9_findGroups_p2 {p : Program} {l : Launch} {e : Env} {s : State} {m : MethodId} {args : Array Value} {below : List Frame} {meth : Method} {c : Code} {A : Nat → Prop} (dC : Nat → ClassId) (dI : Nat → Nat → Nat) (cB cI cJ cZ : ClassId) (a : Nat → Nat) (C0 : cxt cX9_findGroups none 7 RX9 wsX9_findGroups (dC, dI) (tyz cB cI cJ cZ) E_0 A p s m args meth c) (n : Nat) (m_letters : Nat → Int32) (m_words : Int32) (m_wMany : Nat → Int32) (m_wLetters : Nat → Int32) (m_asks : Int32) (m_aWords : Nat → Int32) (m_dLetters : Nat → Int32) (m_dWords : Int32) (m_dMany : Nat → Int32) (m_dText : Nat → Int32) (m_dAsks : Int32) (m_dAsk : Nat → Int32) (m_tape : Nat → Int32) (m_taped : Int32) (m_pos : Int32) (m_from : Int32) (m_sort : Int32) (m_value : Int32) (m_fault : Int32) (m_wrongAt : Int32) (m_manyA : Int32) (m_rowA : Nat → Int32) (m_manyB : Int32) (m_rowB : Nat → Int32) (m_places : Int32) (m_xs : Nat → Int32) (m_ys : Nat → Int32) (m_heights : Nat → Int32) (m_ridges : Int32) (m_rx : Nat → Int32) (m_rHeight : Nat → Int32) (m_lanes : Nat → Int32) (m_sizes : Nat → Int32) (m_cells : Nat → Int32) (m_left : Nat → Int32) (m_calls : Int32) (m_cDay : Nat → Int32) (m_cHour : Nat → Int32) (m_cFrom : Nat → Int32) (m_cAsk : Nat → Int32) (m_cWord : Nat → Int32) (m_cOf : Nat → Int32) (m_isLie : Nat → Int32) (m_children : Int32) (m_learned : Nat → Int32) (m_group : Nat → Int32)  (x1 : Int32) (x2 : Int32) (z_m_manyA : Int32) (z_m_rowA : Nat → Int32) (z_m_manyB : Int32) (z_m_rowB : Nat → Int32) (z_m_group : Nat → Int32)  (k : Nat) (H : Heap) (locs : List Loc) (ls : Array Slot) : fX9_findGroups_p2 n m_letters m_words m_wMany m_wLetters m_manyA m_rowA m_manyB m_rowB m_learned x1 k m_group x2 = some (z_m_manyA, z_m_rowA, z_m_manyB, z_m_rowB, z_m_group) → va_P (dC, dI) vwCl (wM cB cI cJ cZ a m_letters m_words m_wMany m_wLetters m_asks m_aWords m_dLetters m_dWords m_dMany m_dText m_dAsks m_dAsk m_tape m_taped m_pos m_from m_sort m_value m_fault m_wrongAt m_manyA m_rowA m_manyB m_rowB m_places m_xs m_ys m_heights m_ridges m_rx m_rHeight m_lanes m_sizes m_cells m_left m_calls m_cDay m_cHour m_cFrom m_cAsk m_cWord m_cOf m_isLie m_children m_learned m_group) H → va_D A (wM cB cI cJ cZ a m_letters m_words m_wMany m_wLetters m_asks m_aWords m_dLetters m_dWords m_dMany m_dText m_dAsks m_dAsk m_tape m_taped m_pos m_from m_sort m_value m_fault m_wrongAt m_manyA m_rowA m_manyB m_rowB m_places m_xs m_ys m_heights m_ridges m_rx m_rHeight m_lanes m_sizes m_cells m_left m_calls m_cDay m_cHour m_cFrom m_cAsk m_cWord m_cOf m_isLie m_children m_learned m_group) → va_S A s.heap H locs → lv_has ls 7 [(0, .ref (a 0)), (1, .int x1), (2, .int x2)] → W p l e { frames := 3, cells := 0, slots := 0, locals := 72 } s m args below meth c H locs 0 0 (MQ below (gV (dC, dI) (tyz cB cI cJ cZ) (wM cB cI cJ cZ a m_letters m_words m_wMany m_wLetters m_asks m_aWords m_dLetters m_dWords m_dMany m_dText m_dAsks m_dAsk m_tape m_taped m_pos m_from m_sort m_value m_fault m_wrongAt z_m_manyA z_m_rowA z_m_manyB z_m_rowB m_places m_xs m_ys m_heights m_ridges m_rx m_rHeight m_lanes m_sizes m_cells m_left m_calls m_cDay m_cHour m_cFrom m_cAsk m_cWord m_cOf m_isLie m_children m_learned z_m_group) A) args s 0 0 A) (F0 m 2 ls []) :=
  kX9_findGroups_p2_r dC dI cB cI cJ cZ a C0 n m_letters m_words m_wMany m_wLetters m_asks m_aWords m_dLetters m_dWords m_dMany m_dText m_dAsks m_dAsk m_tape m_taped m_pos m_from m_sort m_value m_fault m_wrongAt m_manyA m_rowA m_manyB m_rowB m_places m_xs m_ys m_heights m_ridges m_rx m_rHeight m_lanes m_sizes m_cells m_left m_calls m_cDay m_cHour m_cFrom m_cAsk m_cWord m_cOf m_isLie m_children m_learned x1 z_m_manyA z_m_rowA z_m_manyB z_m_rowB z_m_group  k m_group x2 H locs ls
set_option maxHeartbeats 4000000 in
set_option maxRecDepth 100000 in
theorem kX9_findGroups (l : Launch) (n : Nat) (dC : Nat → ClassId) (dI : Nat → Nat → Nat) (cB cI cJ cZ : ClassId) (a : Nat → Nat) (sz : Nat) (m_letters : Nat → Int32) (m_words : Int32) (m_wMany : Nat → Int32) (m_wLetters : Nat → Int32) (m_asks : Int32) (m_aWords : Nat → Int32) (m_dLetters : Nat → Int32) (m_dWords : Int32) (m_dMany : Nat → Int32) (m_dText : Nat → Int32) (m_dAsks : Int32) (m_dAsk : Nat → Int32) (m_tape : Nat → Int32) (m_taped : Int32) (m_pos : Int32) (m_from : Int32) (m_sort : Int32) (m_value : Int32) (m_fault : Int32) (m_wrongAt : Int32) (m_manyA : Int32) (m_rowA : Nat → Int32) (m_manyB : Int32) (m_rowB : Nat → Int32) (m_places : Int32) (m_xs : Nat → Int32) (m_ys : Nat → Int32) (m_heights : Nat → Int32) (m_ridges : Int32) (m_rx : Nat → Int32) (m_rHeight : Nat → Int32) (m_lanes : Nat → Int32) (m_sizes : Nat → Int32) (m_cells : Nat → Int32) (m_left : Nat → Int32) (m_calls : Int32) (m_cDay : Nat → Int32) (m_cHour : Nat → Int32) (m_cFrom : Nat → Int32) (m_cAsk : Nat → Int32) (m_cWord : Nat → Int32) (m_cOf : Nat → Int32) (m_isLie : Nat → Int32) (m_children : Int32) (m_learned : Nat → Int32) (m_group : Nat → Int32) (x1 : Int32) (z_m_manyA : Int32) (z_m_rowA : Nat → Int32) (z_m_manyB : Int32) (z_m_rowB : Nat → Int32) (z_m_group : Nat → Int32) (h : fX9_findGroups n m_letters m_words m_wMany m_wLetters m_manyA m_rowA m_manyB m_rowB m_learned m_group x1 = some (z_m_manyA, z_m_rowA, z_m_manyB, z_m_rowB, z_m_group)) : Met l yX9_findGroups wsX9_findGroups ({ frames := 3, cells := 0, slots := 0, locals := 72 }) (gP (dC, dI) (tyz cB cI cJ cZ) E_0 (wM cB cI cJ cZ a m_letters m_words m_wMany m_wLetters m_asks m_aWords m_dLetters m_dWords m_dMany m_dText m_dAsks m_dAsk m_tape m_taped m_pos m_from m_sort m_value m_fault m_wrongAt m_manyA m_rowA m_manyB m_rowB m_places m_xs m_ys m_heights m_ridges m_rx m_rHeight m_lanes m_sizes m_cells m_left m_calls m_cDay m_cHour m_cFrom m_cAsk m_cWord m_cOf m_isLie m_children m_learned m_group) sz [.ref (a 0), .int x1]) (gV (dC, dI) (tyz cB cI cJ cZ) (wM cB cI cJ cZ a m_letters m_words m_wMany m_wLetters m_asks m_aWords m_dLetters m_dWords m_dMany m_dText m_dAsks m_dAsk m_tape m_taped m_pos m_from m_sort m_value m_fault m_wrongAt z_m_manyA z_m_rowA z_m_manyB z_m_rowB m_places m_xs m_ys m_heights m_ridges m_rx m_rHeight m_lanes m_sizes m_cells m_left m_calls m_cDay m_cHour m_cFrom m_cAsk m_cWord m_cOf m_isLie m_children m_learned z_m_group) (va_A (wM cB cI cJ cZ a m_letters m_words m_wMany m_wLetters m_asks m_aWords m_dLetters m_dWords m_dMany m_dText m_dAsks m_dAsk m_tape m_taped m_pos m_from m_sort m_value m_fault m_wrongAt m_manyA m_rowA m_manyB m_rowB m_places m_xs m_ys m_heights m_ridges m_rx m_rHeight m_lanes m_sizes m_cells m_left m_calls m_cDay m_cHour m_cFrom m_cAsk m_cWord m_cOf m_isLie m_children m_learned m_group) sz)) 0 0 (va_A (wM cB cI cJ cZ a m_letters m_words m_wMany m_wLetters m_asks m_aWords m_dLetters m_dWords m_dMany m_dText m_dAsks m_dAsk m_tape m_taped m_pos m_from m_sort m_value m_fault m_wrongAt m_manyA m_rowA m_manyB m_rowB m_places m_xs m_ys m_heights m_ridges m_rx m_rHeight m_lanes m_sizes m_cells m_left m_calls m_cDay m_cHour m_cFrom m_cAsk m_cWord m_cOf m_isLie m_children m_learned m_group) sz) := by
  refine Met.ofW (cc := cX9_findGroups) (maxL := 7) (ret := none) (by decide) rfl ?_
  intro p e s m args below meth c s₁ B hml hv
  obtain ⟨rfl, hsz, hP, hK, hD0, hE⟩ := hv
  have hx := B.exec
  have hb := B.bytes
  have hr := B.returns
  have hts := atoms_spec (ws := wsX9_findGroups) B.pre
  have hown : s.vm.findClass RX9 = some m.cls := findClass_of_methodNamed B.named
  have hlocks := B.notSynchronized
  subst hsz
  have hD := hD0.self (sz := s.heap.size)
  have hA : ∀ q : Nat, s.heap.size ≤ q → va_A (wM cB cI cJ cZ a m_letters m_words m_wMany m_wLetters m_asks m_aWords m_dLetters m_dWords m_dMany m_dText m_dAsks m_dAsk m_tape m_taped m_pos m_from m_sort m_value m_fault m_wrongAt m_manyA m_rowA m_manyB m_rowB m_places m_xs m_ys m_heights m_ridges m_rx m_rHeight m_lanes m_sizes m_cells m_left m_calls m_cDay m_cHour m_cFrom m_cAsk m_cWord m_cOf m_isLie m_children m_learned m_group) s.heap.size q := fun q h => Or.inr h
  generalize va_A (wM cB cI cJ cZ a m_letters m_words m_wMany m_wLetters m_asks m_aWords m_dLetters m_dWords m_dMany m_dText m_dAsks m_dAsk m_tape m_taped m_pos m_from m_sort m_value m_fault m_wrongAt m_manyA m_rowA m_manyB m_rowB m_places m_xs m_ys m_heights m_ridges m_rx m_rHeight m_lanes m_sizes m_cells m_left m_calls m_cDay m_cHour m_cFrom m_cAsk m_cWord m_cOf m_isLie m_children m_learned m_group) s.heap.size = A at hD hA hE ⊢
  have hS : va_S A s.heap s.heap [] := va_S.rf
  have C0 : cxt cX9_findGroups none 7 RX9 wsX9_findGroups (dC, dI) (tyz cB cI cJ cZ) E_0 A p s m ([.ref (a 0), .int x1] : List Value).toArray meth c := ⟨hx, hb, hr, hml, hown, hts, hlocks, hK, hA, hE⟩
  have hl := lv_entry ([.ref (a 0), .int x1]) (n := 7) (Nat.le_of_ble_eq_true rfl)
  rw [lg_entry_eq]
  generalize (lg_sl ([.ref (a 0), .int x1]) ++ List.replicate (7 - (lg_sl ([.ref (a 0), .int x1])).length) Slot.unset).toArray = ls at hl ⊢
  have hl : lv_has ls 7 [(0, .ref (a 0)), (1, .int x1)] := hl
  unfold fX9_findGroups at h
  refine lv_iconst (v := 0) hx hb dX9_findGroups_0 (by decide) ?_
  refine lv_istore_n (lv' := [(2, .int (0 : Int32)), (0, .ref (a 0)), (1, .int x1)]) hx hb dX9_findGroups_1 rfl hl (by decide) rfl (fun ls hl => ?_)
  exact kX9_findGroups_p2 dC dI cB cI cJ cZ a C0 n m_letters m_words m_wMany m_wLetters m_asks m_aWords m_dLetters m_dWords m_dMany m_dText m_dAsks m_dAsk m_tape m_taped m_pos m_from m_sort m_value m_fault m_wrongAt m_manyA m_rowA m_manyB m_rowB m_places m_xs m_ys m_heights m_ridges m_rx m_rHeight m_lanes m_sizes m_cells m_left m_calls m_cDay m_cHour m_cFrom m_cAsk m_cWord m_cOf m_isLie m_children m_learned m_group x1 (0 : Int32) z_m_manyA z_m_rowA z_m_manyB z_m_rowB z_m_group  n _ _ ls h hP hD hS (lv_sub hl [1, 2, 0] rfl)

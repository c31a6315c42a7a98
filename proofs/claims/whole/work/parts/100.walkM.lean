set_option maxHeartbeats 4000000 in
set_option maxRecDepth 100000 in
theorem kX9_feed_p19_r {p : Program} {l : Launch} {e : Env} {s : State} {m : MethodId} {args : Array Value} {below : List Frame} {meth : Method} {c : Code} {A : Nat → Prop} (dC : Nat → ClassId) (dI : Nat → Nat → Nat) (cB cI cJ cZ : ClassId) (a : Nat → Nat) (C0 : cxt cX9_feed (some .int) 4 RX9 wsX9_feed (dC, dI) (tyz cB cI cJ cZ) E_0 A p s m args meth c) (n : Nat) (m_letters : Nat → Int32) (m_words : Int32) (m_wMany : Nat → Int32) (m_wLetters : Nat → Int32) (m_asks : Int32) (m_aWords : Nat → Int32) (m_dLetters : Nat → Int32) (m_dWords : Int32) (m_dMany : Nat → Int32) (m_dText : Nat → Int32) (m_dAsks : Int32) (m_dAsk : Nat → Int32) (m_pos : Int32) (m_from : Int32) (m_sort : Int32) (m_value : Int32) (m_fault : Int32) (m_wrongAt : Int32) (m_manyA : Int32) (m_rowA : Nat → Int32) (m_manyB : Int32) (m_rowB : Nat → Int32) (m_places : Int32) (m_xs : Nat → Int32) (m_ys : Nat → Int32) (m_heights : Nat → Int32) (m_ridges : Int32) (m_rx : Nat → Int32) (m_rHeight : Nat → Int32) (m_lanes : Nat → Int32) (m_sizes : Nat → Int32) (m_cells : Nat → Int32) (m_left : Nat → Int32) (m_calls : Int32) (m_cDay : Nat → Int32) (m_cHour : Nat → Int32) (m_cFrom : Nat → Int32) (m_cAsk : Nat → Int32) (m_cWord : Nat → Int32) (m_cOf : Nat → Int32) (m_isLie : Nat → Int32) (m_children : Int32) (m_learned : Nat → Int32) (m_group : Nat → Int32) (x1 : Int64) (r0 : Int32) (z_m_tape : Nat → Int32) (z_m_taped : Int32)  : ∀ (k : Nat) (m_tape : Nat → Int32) (m_taped : Int32) (x3 : Int32) (H : Heap) (locs : List Loc) (ls : Array Slot), fX9_feed_p19 n x1 k m_tape m_taped x3 = some (r0, z_m_tape, z_m_taped) → va_P (dC, dI) vwCl (wM cB cI cJ cZ a m_letters m_words m_wMany m_wLetters m_asks m_aWords m_dLetters m_dWords m_dMany m_dText m_dAsks m_dAsk m_tape m_taped m_pos m_from m_sort m_value m_fault m_wrongAt m_manyA m_rowA m_manyB m_rowB m_places m_xs m_ys m_heights m_ridges m_rx m_rHeight m_lanes m_sizes m_cells m_left m_calls m_cDay m_cHour m_cFrom m_cAsk m_cWord m_cOf m_isLie m_children m_learned m_group) H → va_D A (wM cB cI cJ cZ a m_letters m_words m_wMany m_wLetters m_asks m_aWords m_dLetters m_dWords m_dMany m_dText m_dAsks m_dAsk m_tape m_taped m_pos m_from m_sort m_value m_fault m_wrongAt m_manyA m_rowA m_manyB m_rowB m_places m_xs m_ys m_heights m_ridges m_rx m_rHeight m_lanes m_sizes m_cells m_left m_calls m_cDay m_cHour m_cFrom m_cAsk m_cWord m_cOf m_isLie m_children m_learned m_group) → va_S A s.heap H locs → lv_has ls 4 [(0, .ref (a 0)), (1, .long x1), (3, .int x3)] → W p l e { frames := 0, cells := 0, slots := 0, locals := 0 } s m args below meth c H locs 0 0 (MQ below (gI (dC, dI) (tyz cB cI cJ cZ) (wM cB cI cJ cZ a m_letters m_words m_wMany m_wLetters m_asks m_aWords m_dLetters m_dWords m_dMany m_dText m_dAsks m_dAsk z_m_tape z_m_taped m_pos m_from m_sort m_value m_fault m_wrongAt m_manyA m_rowA m_manyB m_rowB m_places m_xs m_ys m_heights m_ridges m_rx m_rHeight m_lanes m_sizes m_cells m_left m_calls m_cDay m_cHour m_cFrom m_cAsk m_cWord m_cOf m_isLie m_children m_learned m_group) A r0) args s 0 0 A) (F0 m 19 ls []) := by
  obtain ⟨hx, hb, hr, hml, hown, hts, hlocks, hK, hA, hE⟩ := id C0
  have hw0 := hts (.fieldLink RX9 98 "WhistledWordsModel" "taped" "I") (by decide +kernel)
  have hw1 := hts (.fieldLink RX9 34 "WhistledWordsModel" "tape" "[I") (by decide +kernel)
  have hw2 := hts (.constantLong RX9 102 (255)) (by decide +kernel)
  have hnX9 : ∀ w ∈ u_ws RX9 TX9 46, w ∈ wsX9_feed := fun _ h => List.mem_cons_of_mem _ (List.mem_append_right _ h)
  intro k
  induction k with
  | zero =>
    intro m_tape m_taped x3 H locs ls h
    cases h
  | succ k ih =>
    intro m_tape m_taped x3 H locs ls h hP hD hS hl
    rw [fX9_feed_p19] at h
    refine lv_iload_n hx hb dX9_feed_19 rfl (lv_at hl 2 rfl) ?_
    refine lv_if_lt (tgt := 56) hx hb dX9_feed_20 (by decide) (fun c1 => ?_) (fun c1 => ?_)
    · have h := it_use c1 h
      refine lv_aload_n hx hb dX9_feed_56 rfl (lv_at hl 0 rfl) ?_
      refine gM_mo_taped hx hb hts hnX9 hown hK hP hw0 dX9_feed_57 ?_
      obtain ⟨er, ez0, ez1⟩ := rt3_use h
      subst ez0
      subst ez1
      exact re_i hx hb hr hlocks hK hP hD hS er dX9_feed_60
    · have h := ie_use c1 h
      refine lv_aload_n hx hb dX9_feed_23 rfl (lv_at hl 0 rfl) ?_
      refine gM_mo_tape hx hb hts hnX9 hown hK hP hw1 dX9_feed_24 ?_
      refine lv_aload_n hx hb dX9_feed_27 rfl (lv_at hl 0 rfl) ?_
      refine gM_mo_taped hx hb hts hnX9 hown hK hP hw0 dX9_feed_28 ?_
      refine lv_lload_n hx hb dX9_feed_31 rfl (lv_at hl 1 rfl) ?_
      refine lv_iload_n hx hb dX9_feed_32 rfl (lv_at hl 2 rfl) ?_
      refine lv_lshr hx hb dX9_feed_33 rfl ?_
      refine lv_ldc2 hx hb hown hw2 dX9_feed_34 ?_
      refine lv_land hx hb dX9_feed_37 ?_
      refine lv_l2i hx hb dX9_feed_38 rfl ?_
      obtain ⟨hif2, f2, ef2, h⟩ := aw_use h
      refine sM_mo_tape hx hb hK hP hD hS hif2 ef2 dX9_feed_39 (fun H locs hP hD hS => ?_)
      refine lv_aload_n hx hb dX9_feed_40 rfl (lv_at hl 0 rfl) ?_
      refine lv_dup hx hb dX9_feed_41 rfl ?_
      refine gM_mo_taped hx hb hts hnX9 hown hK hP hw0 dX9_feed_42 ?_
      refine lv_iconst (v := 1) hx hb dX9_feed_45 (by decide) ?_
      refine lv_iadd hx hb dX9_feed_46 ?_
      refine lv_topi (fun v3 ev3 => ?_)
      have h := nm_use ev3 h
      refine pM_mo_taped hx hb hts hnX9 hown hK hP hD hS hw0 dX9_feed_47 (fun H locs hP hD hS => ?_)
      refine lv_iinc (v := x3 + (-8)) (lv' := [(3, .int (x3 + (-8))), (0, .ref (a 0)), (1, .long x1)]) hx hb dX9_feed_50 hl (k := 2) rfl rfl (by decide) rfl (fun ls hl => ?_)
      refine lv_goto (tgt := 19) hx hb dX9_feed_53 (by decide) ?_
      exact ih f2 v3 (x3 + (-8)) _ _ ls h hP hD hS (lv_sub hl [1, 2, 0] rfl)
theorem kX9_feed_p19 {p : Program} {l : Launch} {e : Env} {s : State} {m : MethodId} {args : Array Value} {below : List Frame} {meth : Method} {c : Code} {A : Nat → Prop} (dC : Nat → ClassId) (dI : Nat → Nat → Nat) (cB cI cJ cZ : ClassId) (a : Nat → Nat) (C0 : cxt cX9_feed (some .int) 4 RX9 wsX9_feed (dC, dI) (tyz cB cI cJ cZ) E_0 A p s m args meth c) (n : Nat) (m_letters : Nat → Int32) (m_words : Int32) (m_wMany : Nat → Int32) (m_wLetters : Nat → Int32) (m_asks : Int32) (m_aWords : Nat → Int32) (m_dLetters : Nat → Int32) (m_dWords : Int32) (m_dMany : Nat → Int32) (m_dText : Nat → Int32) (m_dAsks : Int32) (m_dAsk : Nat → Int32) (m_tape : Nat → Int32) (m_taped : Int32) (m_pos : Int32) (m_from : Int32) (m_sort : Int32) (m_value : Int32) (m_fault : Int32) (m_wrongAt : Int32) (m_manyA : Int32) (m_rowA : Nat → Int32) (m_manyB : Int32) (m_rowB : Nat → Int32) (m_places : Int32) (m_xs : Nat → Int32) (m_ys : Nat → Int32) (m_heights : Nat → Int32) (m_ridges : Int32) (m_rx : Nat → Int32) (m_rHeight : Nat → Int32) (m_lanes : Nat → Int32) (m_sizes : Nat → Int32) (m_cells : Nat → Int32) (m_left : Nat → Int32) (m_calls : Int32) (m_cDay : Nat → Int32) (m_cHour : Nat → Int32) (m_cFrom : Nat → Int32) (m_cAsk : Nat → Int32) (m_cWord : Nat → Int32) (m_cOf : Nat → Int32) (m_isLie : Nat → Int32) (m_children : Int32) (m_learned : Nat → Int32) (m_group : Nat → Int32)  (x1 : Int64) (x3 : Int32) (r0 : Int32) (z_m_tape : Nat → Int32) (z_m_taped : Int32)  (k : Nat) (H : Heap) (locs : List Loc) (ls : Array Slot) : fX9_feed_p19 n x1 k m_tape m_taped x3 = some (r0, z_m_tape, z_m_taped) → va_P (dC, dI) vwCl (wM cB cI cJ cZ a m_letters m_words m_wMany m_wLetters m_asks m_aWords m_dLetters m_dWords m_dMany m_dText m_dAsks m_dAsk m_tape m_taped m_pos m_from m_sort m_value m_fault m_wrongAt m_manyA m_rowA m_manyB m_rowB m_places m_xs m_ys m_heights m_ridges m_rx m_rHeight m_lanes m_sizes m_cells m_left m_calls m_cDay m_cHour m_cFrom m_cAsk m_cWord m_cOf m_isLie m_children m_learned m_group) H → va_D A (wM cB cI cJ cZ a m_letters m_words m_wMany m_wLetters m_asks m_aWords m_dLetters m_dWords m_dMany m_dText m_dAsks m_dAsk m_tape m_taped m_pos m_from m_sort m_value m_fault m_wrongAt m_manyA m_rowA m_manyB m_rowB m_places m_xs m_ys m_heights m_ridges m_rx m_rHeight m_lanes m_sizes m_cells m_left m_calls m_cDay m_cHour m_cFrom m_cAsk m_cWord m_cOf m_isLie m_children m_learned m_group) → va_S A s.heap H locs → lv_has ls 4 [(0, .ref (a 0)), (1, .long x1), (3, .int x3)] → W p l e { frames := 0, cells := 0, slots := 0, locals := 0 } s m args below meth c H locs 0 0 (MQ below (gI (dC, dI) (tyz cB cI cJ cZ) (wM cB cI cJ cZ a m_letters m_words m_wMany m_wLetters m_asks m_aWords m_dLetters m_dWords m_dMany m_dText m_dAsks m_dAsk z_m_tape z_m_taped m_pos m_from m_sort m_value m_fault m_wrongAt m_manyA m_rowA m_manyB m_rowB m_places m_xs m_ys m_heights m_ridges m_rx m_rHeight m_lanes m_sizes m_cells m_left m_calls m_cDay m_cHour m_cFrom m_cAsk m_cWord m_cOf m_isLie m_children m_learned m_group) A r0) args s 0 0 A) (F0 m 19 ls []) :=
  kX9_feed_p19_r dC dI cB cI cJ cZ a C0 n m_letters m_words m_wMany m_wLetters m_asks m_aWords m_dLetters m_dWords m_dMany m_dText m_dAsks m_dAsk m_pos m_from m_sort m_value m_fault m_wrongAt m_manyA m_rowA m_manyB m_rowB m_places m_xs m_ys m_heights m_ridges m_rx m_rHeight m_lanes m_sizes m_cells m_left m_calls m_cDay m_cHour m_cFrom m_cAsk m_cWord m_cOf m_isLie m_children m_learned m_group x1 r0 z_m_tape z_m_taped  k m_tape m_taped x3 H locs ls
set_option maxHeartbeats 4000000 in
set_option maxRecDepth 100000 in
theorem kX9_feed (l : Launch) (n : Nat) (dC : Nat → ClassId) (dI : Nat → Nat → Nat) (cB cI cJ cZ : ClassId) (a : Nat → Nat) (sz : Nat) (m_letters : Nat → Int32) (m_words : Int32) (m_wMany : Nat → Int32) (m_wLetters : Nat → Int32) (m_asks : Int32) (m_aWords : Nat → Int32) (m_dLetters : Nat → Int32) (m_dWords : Int32) (m_dMany : Nat → Int32) (m_dText : Nat → Int32) (m_dAsks : Int32) (m_dAsk : Nat → Int32) (m_tape : Nat → Int32) (m_taped : Int32) (m_pos : Int32) (m_from : Int32) (m_sort : Int32) (m_value : Int32) (m_fault : Int32) (m_wrongAt : Int32) (m_manyA : Int32) (m_rowA : Nat → Int32) (m_manyB : Int32) (m_rowB : Nat → Int32) (m_places : Int32) (m_xs : Nat → Int32) (m_ys : Nat → Int32) (m_heights : Nat → Int32) (m_ridges : Int32) (m_rx : Nat → Int32) (m_rHeight : Nat → Int32) (m_lanes : Nat → Int32) (m_sizes : Nat → Int32) (m_cells : Nat → Int32) (m_left : Nat → Int32) (m_calls : Int32) (m_cDay : Nat → Int32) (m_cHour : Nat → Int32) (m_cFrom : Nat → Int32) (m_cAsk : Nat → Int32) (m_cWord : Nat → Int32) (m_cOf : Nat → Int32) (m_isLie : Nat → Int32) (m_children : Int32) (m_learned : Nat → Int32) (m_group : Nat → Int32) (x1 : Int64) (r0 : Int32) (z_m_tape : Nat → Int32) (z_m_taped : Int32) (h : fX9_feed n m_tape m_taped x1 = some (r0, z_m_tape, z_m_taped)) : Met l yX9_feed wsX9_feed ({ frames := 0, cells := 0, slots := 0, locals := 0 }) (gP (dC, dI) (tyz cB cI cJ cZ) E_0 (wM cB cI cJ cZ a m_letters m_words m_wMany m_wLetters m_asks m_aWords m_dLetters m_dWords m_dMany m_dText m_dAsks m_dAsk m_tape m_taped m_pos m_from m_sort m_value m_fault m_wrongAt m_manyA m_rowA m_manyB m_rowB m_places m_xs m_ys m_heights m_ridges m_rx m_rHeight m_lanes m_sizes m_cells m_left m_calls m_cDay m_cHour m_cFrom m_cAsk m_cWord m_cOf m_isLie m_children m_learned m_group) sz [.ref (a 0), .long x1]) (gI (dC, dI) (tyz cB cI cJ cZ) (wM cB cI cJ cZ a m_letters m_words m_wMany m_wLetters m_asks m_aWords m_dLetters m_dWords m_dMany m_dText m_dAsks m_dAsk z_m_tape z_m_taped m_pos m_from m_sort m_value m_fault m_wrongAt m_manyA m_rowA m_manyB m_rowB m_places m_xs m_ys m_heights m_ridges m_rx m_rHeight m_lanes m_sizes m_cells m_left m_calls m_cDay m_cHour m_cFrom m_cAsk m_cWord m_cOf m_isLie m_children m_learned m_group) (va_A (wM cB cI cJ cZ a m_letters m_words m_wMany m_wLetters m_asks m_aWords m_dLetters m_dWords m_dMany m_dText m_dAsks m_dAsk m_tape m_taped m_pos m_from m_sort m_value m_fault m_wrongAt m_manyA m_rowA m_manyB m_rowB m_places m_xs m_ys m_heights m_ridges m_rx m_rHeight m_lanes m_sizes m_cells m_left m_calls m_cDay m_cHour m_cFrom m_cAsk m_cWord m_cOf m_isLie m_children m_learned m_group) sz) r0) 0 0 (va_A (wM cB cI cJ cZ a m_letters m_words m_wMany m_wLetters m_asks m_aWords m_dLetters m_dWords m_dMany m_dText m_dAsks m_dAsk m_tape m_taped m_pos m_from m_sort m_value m_fault m_wrongAt m_manyA m_rowA m_manyB m_rowB m_places m_xs m_ys m_heights m_ridges m_rx m_rHeight m_lanes m_sizes m_cells m_left m_calls m_cDay m_cHour m_cFrom m_cAsk m_cWord m_cOf m_isLie m_children m_learned m_group) sz) := by
  refine Met.ofW (cc := cX9_feed) (maxL := 4) (ret := (some .int)) (by decide) rfl ?_
  intro p e s m args below meth c s₁ B hml hv
  obtain ⟨rfl, hsz, hP, hK, hD0, hE⟩ := hv
  have hx := B.exec
  have hb := B.bytes
  have hr := B.returns
  have hts := atoms_spec (ws := wsX9_feed) B.pre
  have hown : s.vm.findClass RX9 = some m.cls := findClass_of_methodNamed B.named
  have hlocks := B.notSynchronized
  subst hsz
  have hD := hD0.self (sz := s.heap.size)
  have hA : ∀ q : Nat, s.heap.size ≤ q → va_A (wM cB cI cJ cZ a m_letters m_words m_wMany m_wLetters m_asks m_aWords m_dLetters m_dWords m_dMany m_dText m_dAsks m_dAsk m_tape m_taped m_pos m_from m_sort m_value m_fault m_wrongAt m_manyA m_rowA m_manyB m_rowB m_places m_xs m_ys m_heights m_ridges m_rx m_rHeight m_lanes m_sizes m_cells m_left m_calls m_cDay m_cHour m_cFrom m_cAsk m_cWord m_cOf m_isLie m_children m_learned m_group) s.heap.size q := fun q h => Or.inr h
  generalize va_A (wM cB cI cJ cZ a m_letters m_words m_wMany m_wLetters m_asks m_aWords m_dLetters m_dWords m_dMany m_dText m_dAsks m_dAsk m_tape m_taped m_pos m_from m_sort m_value m_fault m_wrongAt m_manyA m_rowA m_manyB m_rowB m_places m_xs m_ys m_heights m_ridges m_rx m_rHeight m_lanes m_sizes m_cells m_left m_calls m_cDay m_cHour m_cFrom m_cAsk m_cWord m_cOf m_isLie m_children m_learned m_group) s.heap.size = A at hD hA hE ⊢
  have hS : va_S A s.heap s.heap [] := va_S.rf
  have C0 : cxt cX9_feed (some .int) 4 RX9 wsX9_feed (dC, dI) (tyz cB cI cJ cZ) E_0 A p s m ([.ref (a 0), .long x1] : List Value).toArray meth c := ⟨hx, hb, hr, hml, hown, hts, hlocks, hK, hA, hE⟩
  have hl := lv_entry ([.ref (a 0), .long x1]) (n := 4) (Nat.le_of_ble_eq_true rfl)
  rw [lg_entry_eq]
  generalize (lg_sl ([.ref (a 0), .long x1]) ++ List.replicate (4 - (lg_sl ([.ref (a 0), .long x1])).length) Slot.unset).toArray = ls at hl ⊢
  have hl : lv_has ls 4 [(0, .ref (a 0)), (1, .long x1)] := hl
  have hw0 := hts (.fieldLink RX9 98 "WhistledWordsModel" "taped" "I") (by decide +kernel)
  have hnX9 : ∀ w ∈ u_ws RX9 TX9 46, w ∈ wsX9_feed := fun _ h => List.mem_cons_of_mem _ (List.mem_append_right _ h)
  unfold fX9_feed at h
  refine lv_aload_n hx hb dX9_feed_0 rfl (lv_at hl 0 rfl) ?_
  refine gM_mo_taped hx hb hts hnX9 hown hK hP hw0 dX9_feed_1 ?_
  refine lv_bipush (v := 8) hx hb dX9_feed_4 (by decide) ?_
  refine lv_iadd hx hb dX9_feed_6 ?_
  refine lv_sipush (v := 400) hx hb dX9_feed_7 (by decide) ?_
  refine lv_icmp_le (tgt := 16) hx hb dX9_feed_10 (by decide) (fun c1 => ?_) (fun c1 => ?_)
  · have h := it_use c1 h
    refine lv_bipush (v := 56) hx hb dX9_feed_16 (by decide) ?_
    refine lv_istore_n (lv' := [(3, .int (56 : Int32)), (0, .ref (a 0)), (1, .long x1)]) hx hb dX9_feed_18 rfl hl (by decide) rfl (fun ls hl => ?_)
    exact kX9_feed_p19 dC dI cB cI cJ cZ a C0 n m_letters m_words m_wMany m_wLetters m_asks m_aWords m_dLetters m_dWords m_dMany m_dText m_dAsks m_dAsk m_tape m_taped m_pos m_from m_sort m_value m_fault m_wrongAt m_manyA m_rowA m_manyB m_rowB m_places m_xs m_ys m_heights m_ridges m_rx m_rHeight m_lanes m_sizes m_cells m_left m_calls m_cDay m_cHour m_cFrom m_cAsk m_cWord m_cOf m_isLie m_children m_learned m_group x1 (56 : Int32) r0 z_m_tape z_m_taped  n _ _ ls h hP hD hS (lv_sub hl [1, 2, 0] rfl)
  · have h := ie_use c1 h
    refine lv_bipush (v := -3) hx hb dX9_feed_13 (by decide) ?_
    obtain ⟨er, ez0, ez1⟩ := rt3_use h
    subst ez0
    subst ez1
    exact re_i hx hb hr hlocks hK hP hD hS er dX9_feed_15
set_option maxHeartbeats 4000000 in
set_option maxRecDepth 100000 in
theorem kX9_in (l : Launch) (n : Nat) (x0 : Int64) (x2 : Int64) (x4 : Int64) (r0 : Int32) (h : fX9_in n  x0 x2 x4 = some r0) : Met l yX9_in wsX9_in ({ frames := 0, cells := 0, slots := 0, locals := 0 }) (pP [.long x0, .long x2, .long x4]) (pI r0) 0 0 no_A := by
  refine Met.ofW (cc := cX9_in) (maxL := 6) (ret := (some .boolean)) (by decide) rfl ?_
  intro p e s m args below meth c s₁ B hml hv
  obtain ⟨rfl, -⟩ := hv
  have hx := B.exec
  have hb := B.bytes
  have hr := B.returns
  have hts := atoms_spec (ws := wsX9_in) B.pre
  have hown : s.vm.findClass RX9 = some m.cls := findClass_of_methodNamed B.named
  have hlocks := B.notSynchronized
  have hS : va_S no_A s.heap s.heap [] := va_S.rf
  have C0 : cxp cX9_in (some .boolean) 6 RX9 wsX9_in p s m ([.long x0, .long x2, .long x4] : List Value).toArray meth c := ⟨hx, hb, hr, hml, hown, hts, hlocks⟩
  have hl := lv_entry ([.long x0, .long x2, .long x4]) (n := 6) (Nat.le_of_ble_eq_true rfl)
  rw [lg_entry_eq]
  generalize (lg_sl ([.long x0, .long x2, .long x4]) ++ List.replicate (6 - (lg_sl ([.long x0, .long x2, .long x4])).length) Slot.unset).toArray = ls at hl ⊢
  have hl : lv_has ls 6 [(0, .long x0), (2, .long x2), (4, .long x4)] := hl
  unfold fX9_in at h
  refine lv_lload_n hx hb dX9_in_0 rfl (lv_at hl 0 rfl) ?_
  refine lv_lload_n hx hb dX9_in_1 rfl (lv_at hl 1 rfl) ?_
  refine W.lcmp hx hb dX9_in_2 ?_
  refine lv_if_lt (tgt := 17) hx hb dX9_in_3 (by decide) (fun c1 => ?_) (fun c1 => ?_)
  · have h := it_use c1 h
    refine lv_iconst (v := 0) hx hb dX9_in_17 (by decide) ?_
    obtain er := rt1_use h
    exact rp_z hx hb hr hlocks hS (Or.inl rfl) er dX9_in_18
  · have h := ie_use c1 h
    refine lv_lload_n hx hb dX9_in_6 rfl (lv_at hl 0 rfl) ?_
    refine lv_lload hx hb dX9_in_7 (lv_at hl 2 rfl) ?_
    refine W.lcmp hx hb dX9_in_9 ?_
    refine lv_if_gt (tgt := 17) hx hb dX9_in_10 (by decide) (fun c2 => ?_) (fun c2 => ?_)
    · have h := it_use c2 h
      refine lv_iconst (v := 0) hx hb dX9_in_17 (by decide) ?_
      obtain er := rt1_use h
      exact rp_z hx hb hr hlocks hS (Or.inl rfl) er dX9_in_18
    · have h := ie_use c2 h
      refine lv_iconst (v := 1) hx hb dX9_in_13 (by decide) ?_
      refine lv_goto (tgt := 18) hx hb dX9_in_14 (by decide) ?_
      obtain er := rt1_use h
      exact rp_z hx hb hr hlocks hS (Or.inr rfl) er dX9_in_18
set_option maxHeartbeats 4000000 in
set_option maxRecDepth 100000 in
theorem kX9_end (l : Launch) (n : Nat) (dC : Nat → ClassId) (dI : Nat → Nat → Nat) (cB cI cJ cZ : ClassId) (a : Nat → Nat) (sz : Nat) (m_letters : Nat → Int32) (m_words : Int32) (m_wMany : Nat → Int32) (m_wLetters : Nat → Int32) (m_asks : Int32) (m_aWords : Nat → Int32) (m_dLetters : Nat → Int32) (m_dWords : Int32) (m_dMany : Nat → Int32) (m_dText : Nat → Int32) (m_dAsks : Int32) (m_dAsk : Nat → Int32) (m_tape : Nat → Int32) (m_taped : Int32) (m_pos : Int32) (m_from : Int32) (m_sort : Int32) (m_value : Int32) (m_fault : Int32) (m_wrongAt : Int32) (m_manyA : Int32) (m_rowA : Nat → Int32) (m_manyB : Int32) (m_rowB : Nat → Int32) (m_places : Int32) (m_xs : Nat → Int32) (m_ys : Nat → Int32) (m_heights : Nat → Int32) (m_ridges : Int32) (m_rx : Nat → Int32) (m_rHeight : Nat → Int32) (m_lanes : Nat → Int32) (m_sizes : Nat → Int32) (m_cells : Nat → Int32) (m_left : Nat → Int32) (m_calls : Int32) (m_cDay : Nat → Int32) (m_cHour : Nat → Int32) (m_cFrom : Nat → Int32) (m_cAsk : Nat → Int32) (m_cWord : Nat → Int32) (m_cOf : Nat → Int32) (m_isLie : Nat → Int32) (m_children : Int32) (m_learned : Nat → Int32) (m_group : Nat → Int32) (x1 : Int32) (r0 : Int32) (z_m_taped : Int32) (h : fX9_end n m_taped x1 = some (r0, z_m_taped)) : Met l yX9_end wsX9_end ({ frames := 1, cells := 0, slots := 0, locals := 25 }) (gP (dC, dI) (tyz cB cI cJ cZ) E_0 (wM cB cI cJ cZ a m_letters m_words m_wMany m_wLetters m_asks m_aWords m_dLetters m_dWords m_dMany m_dText m_dAsks m_dAsk m_tape m_taped m_pos m_from m_sort m_value m_fault m_wrongAt m_manyA m_rowA m_manyB m_rowB m_places m_xs m_ys m_heights m_ridges m_rx m_rHeight m_lanes m_sizes m_cells m_left m_calls m_cDay m_cHour m_cFrom m_cAsk m_cWord m_cOf m_isLie m_children m_learned m_group) sz [.ref (a 0), .int x1]) (gI (dC, dI) (tyz cB cI cJ cZ) (wM cB cI cJ cZ a m_letters m_words m_wMany m_wLetters m_asks m_aWords m_dLetters m_dWords m_dMany m_dText m_dAsks m_dAsk m_tape z_m_taped m_pos m_from m_sort m_value m_fault m_wrongAt m_manyA m_rowA m_manyB m_rowB m_places m_xs m_ys m_heights m_ridges m_rx m_rHeight m_lanes m_sizes m_cells m_left m_calls m_cDay m_cHour m_cFrom m_cAsk m_cWord m_cOf m_isLie m_children m_learned m_group) (va_A (wM cB cI cJ cZ a m_letters m_words m_wMany m_wLetters m_asks m_aWords m_dLetters m_dWords m_dMany m_dText m_dAsks m_dAsk m_tape m_taped m_pos m_from m_sort m_value m_fault m_wrongAt m_manyA m_rowA m_manyB m_rowB m_places m_xs m_ys m_heights m_ridges m_rx m_rHeight m_lanes m_sizes m_cells m_left m_calls m_cDay m_cHour m_cFrom m_cAsk m_cWord m_cOf m_isLie m_children m_learned m_group) sz) r0) 0 0 (va_A (wM cB cI cJ cZ a m_letters m_words m_wMany m_wLetters m_asks m_aWords m_dLetters m_dWords m_dMany m_dText m_dAsks m_dAsk m_tape m_taped m_pos m_from m_sort m_value m_fault m_wrongAt m_manyA m_rowA m_manyB m_rowB m_places m_xs m_ys m_heights m_ridges m_rx m_rHeight m_lanes m_sizes m_cells m_left m_calls m_cDay m_cHour m_cFrom m_cAsk m_cWord m_cOf m_isLie m_children m_learned m_group) sz) := by
  refine Met.ofW (cc := cX9_end) (maxL := 3) (ret := (some .int)) (by decide) rfl ?_
  intro p e s m args below meth c s₁ B hml hv
  obtain ⟨rfl, hsz, hP, hK, hD0, hE⟩ := hv
  have hx := B.exec
  have hb := B.bytes
  have hr := B.returns
  have hts := atoms_spec (ws := wsX9_end) B.pre
  have hown : s.vm.findClass RX9 = some m.cls := findClass_of_methodNamed B.named
  have hlocks := B.notSynchronized
  subst hsz
  have hD := hD0.self (sz := s.heap.size)
  have hA : ∀ q : Nat, s.heap.size ≤ q → va_A (wM cB cI cJ cZ a m_letters m_words m_wMany m_wLetters m_asks m_aWords m_dLetters m_dWords m_dMany m_dText m_dAsks m_dAsk m_tape m_taped m_pos m_from m_sort m_value m_fault m_wrongAt m_manyA m_rowA m_manyB m_rowB m_places m_xs m_ys m_heights m_ridges m_rx m_rHeight m_lanes m_sizes m_cells m_left m_calls m_cDay m_cHour m_cFrom m_cAsk m_cWord m_cOf m_isLie m_children m_learned m_group) s.heap.size q := fun q h => Or.inr h
  generalize va_A (wM cB cI cJ cZ a m_letters m_words m_wMany m_wLetters m_asks m_aWords m_dLetters m_dWords m_dMany m_dText m_dAsks m_dAsk m_tape m_taped m_pos m_from m_sort m_value m_fault m_wrongAt m_manyA m_rowA m_manyB m_rowB m_places m_xs m_ys m_heights m_ridges m_rx m_rHeight m_lanes m_sizes m_cells m_left m_calls m_cDay m_cHour m_cFrom m_cAsk m_cWord m_cOf m_isLie m_children m_learned m_group) s.heap.size = A at hD hA hE ⊢
  have hS : va_S A s.heap s.heap [] := va_S.rf
  have C0 : cxt cX9_end (some .int) 3 RX9 wsX9_end (dC, dI) (tyz cB cI cJ cZ) E_0 A p s m ([.ref (a 0), .int x1] : List Value).toArray meth c := ⟨hx, hb, hr, hml, hown, hts, hlocks, hK, hA, hE⟩
  have hl := lv_entry ([.ref (a 0), .int x1]) (n := 3) (Nat.le_of_ble_eq_true rfl)
  rw [lg_entry_eq]
  generalize (lg_sl ([.ref (a 0), .int x1]) ++ List.replicate (3 - (lg_sl ([.ref (a 0), .int x1])).length) Slot.unset).toArray = ls at hl ⊢
  have hl : lv_has ls 3 [(0, .ref (a 0)), (1, .int x1)] := hl
  have hw0 := hts (.fieldLink RX9 98 "WhistledWordsModel" "taped" "I") (by decide +kernel)
  have hnX9 : ∀ w ∈ u_ws RX9 TX9 46, w ∈ wsX9_end := fun _ h => List.mem_cons_of_mem _ (List.mem_append_right _ h)
  unfold fX9_end at h
  refine lv_iload_n hx hb dX9_end_0 rfl (lv_at hl 1 rfl) ?_
  refine lv_i2l hx hb dX9_end_1 rfl ?_
  refine lv_lconst (v := 0) hx hb dX9_end_2 (by decide) ?_
  refine lv_aload_n hx hb dX9_end_3 rfl (lv_at hl 0 rfl) ?_
  refine gM_mo_taped hx hb hts hnX9 hown hK hP hw0 dX9_end_4 ?_
  refine lv_i2l hx hb dX9_end_7 rfl ?_
  obtain ⟨v1, hc, h⟩ := bd1_use h
  refine cs_i (As := [.long x1.toInt64, .long (0 : Int64), .long m_taped.toInt64]) (rest := []) ⟨hx, hb, hml, hown, hts⟩ (kX9_in l n x1.toInt64 (0 : Int64) m_taped.toInt64 v1 hc) (va_cwS 3 hts gX9_end_X9_in rfl rfl rfl (by decide +kernel) ⟨Nat.le_of_ble_eq_true rfl, Nat.le_of_ble_eq_true rfl⟩) hP hS rfl hl.1 rfl (Nat.le_of_ble_eq_true rfl) dX9_end_8 ⟨Nat.zero_le _, Nat.zero_le _⟩ (fun H locs hP hS => ?_)
  refine lv_if_ne (tgt := 16) hx hb dX9_end_11 (by decide) (fun c2 => ?_) (fun c2 => ?_)
  · have h := ie_use c2 h
    refine lv_aload_n hx hb dX9_end_16 rfl (lv_at hl 0 rfl) ?_
    refine gM_mo_taped hx hb hts hnX9 hown hK hP hw0 dX9_end_17 ?_
    refine lv_istore_n (lv' := [(2, .int m_taped), (0, .ref (a 0)), (1, .int x1)]) hx hb dX9_end_20 rfl hl (by decide) rfl (fun ls hl => ?_)
    refine lv_aload_n hx hb dX9_end_21 rfl (lv_at hl 1 rfl) ?_
    refine lv_iload_n hx hb dX9_end_22 rfl (lv_at hl 2 rfl) ?_
    refine pM_mo_taped hx hb hts hnX9 hown hK hP hD hS hw0 dX9_end_23 (fun H locs hP hD hS => ?_)
    refine lv_iload_n hx hb dX9_end_26 rfl (lv_at hl 0 rfl) ?_
    obtain ⟨er, ez0⟩ := rt2_use h
    subst ez0
    exact re_i hx hb hr hlocks hK hP hD hS er dX9_end_27
  · have h := it_use c2 h
    refine lv_iconst (v := -1) hx hb dX9_end_14 (by decide) ?_
    obtain ⟨er, ez0⟩ := rt2_use h
    subst ez0
    exact re_i hx hb hr hlocks hK hP hD hS er dX9_end_15
set_option maxHeartbeats 4000000 in
set_option maxRecDepth 100000 in
theorem kX9_fault (l : Launch) (n : Nat) (dC : Nat → ClassId) (dI : Nat → Nat → Nat) (cB cI cJ cZ : ClassId) (a : Nat → Nat) (sz : Nat) (m_letters : Nat → Int32) (m_words : Int32) (m_wMany : Nat → Int32) (m_wLetters : Nat → Int32) (m_asks : Int32) (m_aWords : Nat → Int32) (m_dLetters : Nat → Int32) (m_dWords : Int32) (m_dMany : Nat → Int32) (m_dText : Nat → Int32) (m_dAsks : Int32) (m_dAsk : Nat → Int32) (m_tape : Nat → Int32) (m_taped : Int32) (m_pos : Int32) (m_from : Int32) (m_sort : Int32) (m_value : Int32) (m_fault : Int32) (m_wrongAt : Int32) (m_manyA : Int32) (m_rowA : Nat → Int32) (m_manyB : Int32) (m_rowB : Nat → Int32) (m_places : Int32) (m_xs : Nat → Int32) (m_ys : Nat → Int32) (m_heights : Nat → Int32) (m_ridges : Int32) (m_rx : Nat → Int32) (m_rHeight : Nat → Int32) (m_lanes : Nat → Int32) (m_sizes : Nat → Int32) (m_cells : Nat → Int32) (m_left : Nat → Int32) (m_calls : Int32) (m_cDay : Nat → Int32) (m_cHour : Nat → Int32) (m_cFrom : Nat → Int32) (m_cAsk : Nat → Int32) (m_cWord : Nat → Int32) (m_cOf : Nat → Int32) (m_isLie : Nat → Int32) (m_children : Int32) (m_learned : Nat → Int32) (m_group : Nat → Int32)  (r0 : Int32) (h : fX9_fault n m_fault = some r0) : Met l yX9_fault wsX9_fault ({ frames := 0, cells := 0, slots := 0, locals := 0 }) (gP (dC, dI) (tyz cB cI cJ cZ) E_0 (wM cB cI cJ cZ a m_letters m_words m_wMany m_wLetters m_asks m_aWords m_dLetters m_dWords m_dMany m_dText m_dAsks m_dAsk m_tape m_taped m_pos m_from m_sort m_value m_fault m_wrongAt m_manyA m_rowA m_manyB m_rowB m_places m_xs m_ys m_heights m_ridges m_rx m_rHeight m_lanes m_sizes m_cells m_left m_calls m_cDay m_cHour m_cFrom m_cAsk m_cWord m_cOf m_isLie m_children m_learned m_group) sz [.ref (a 0)]) (gI (dC, dI) (tyz cB cI cJ cZ) (wM cB cI cJ cZ a m_letters m_words m_wMany m_wLetters m_asks m_aWords m_dLetters m_dWords m_dMany m_dText m_dAsks m_dAsk m_tape m_taped m_pos m_from m_sort m_value m_fault m_wrongAt m_manyA m_rowA m_manyB m_rowB m_places m_xs m_ys m_heights m_ridges m_rx m_rHeight m_lanes m_sizes m_cells m_left m_calls m_cDay m_cHour m_cFrom m_cAsk m_cWord m_cOf m_isLie m_children m_learned m_group) (va_A (wM cB cI cJ cZ a m_letters m_words m_wMany m_wLetters m_asks m_aWords m_dLetters m_dWords m_dMany m_dText m_dAsks m_dAsk m_tape m_taped m_pos m_from m_sort m_value m_fault m_wrongAt m_manyA m_rowA m_manyB m_rowB m_places m_xs m_ys m_heights m_ridges m_rx m_rHeight m_lanes m_sizes m_cells m_left m_calls m_cDay m_cHour m_cFrom m_cAsk m_cWord m_cOf m_isLie m_children m_learned m_group) sz) r0) 0 0 (va_A (wM cB cI cJ cZ a m_letters m_words m_wMany m_wLetters m_asks m_aWords m_dLetters m_dWords m_dMany m_dText m_dAsks m_dAsk m_tape m_taped m_pos m_from m_sort m_value m_fault m_wrongAt m_manyA m_rowA m_manyB m_rowB m_places m_xs m_ys m_heights m_ridges m_rx m_rHeight m_lanes m_sizes m_cells m_left m_calls m_cDay m_cHour m_cFrom m_cAsk m_cWord m_cOf m_isLie m_children m_learned m_group) sz) := by
  refine Met.ofW (cc := cX9_fault) (maxL := 1) (ret := (some .int)) (by decide) rfl ?_
  intro p e s m args below meth c s₁ B hml hv
  obtain ⟨rfl, hsz, hP, hK, hD0, hE⟩ := hv
  have hx := B.exec
  have hb := B.bytes
  have hr := B.returns
  have hts := atoms_spec (ws := wsX9_fault) B.pre
  have hown : s.vm.findClass RX9 = some m.cls := findClass_of_methodNamed B.named
  have hlocks := B.notSynchronized
  subst hsz
  have hD := hD0.self (sz := s.heap.size)
  have hA : ∀ q : Nat, s.heap.size ≤ q → va_A (wM cB cI cJ cZ a m_letters m_words m_wMany m_wLetters m_asks m_aWords m_dLetters m_dWords m_dMany m_dText m_dAsks m_dAsk m_tape m_taped m_pos m_from m_sort m_value m_fault m_wrongAt m_manyA m_rowA m_manyB m_rowB m_places m_xs m_ys m_heights m_ridges m_rx m_rHeight m_lanes m_sizes m_cells m_left m_calls m_cDay m_cHour m_cFrom m_cAsk m_cWord m_cOf m_isLie m_children m_learned m_group) s.heap.size q := fun q h => Or.inr h
  generalize va_A (wM cB cI cJ cZ a m_letters m_words m_wMany m_wLetters m_asks m_aWords m_dLetters m_dWords m_dMany m_dText m_dAsks m_dAsk m_tape m_taped m_pos m_from m_sort m_value m_fault m_wrongAt m_manyA m_rowA m_manyB m_rowB m_places m_xs m_ys m_heights m_ridges m_rx m_rHeight m_lanes m_sizes m_cells m_left m_calls m_cDay m_cHour m_cFrom m_cAsk m_cWord m_cOf m_isLie m_children m_learned m_group) s.heap.size = A at hD hA hE ⊢
  have hS : va_S A s.heap s.heap [] := va_S.rf
  have C0 : cxt cX9_fault (some .int) 1 RX9 wsX9_fault (dC, dI) (tyz cB cI cJ cZ) E_0 A p s m ([.ref (a 0)] : List Value).toArray meth c := ⟨hx, hb, hr, hml, hown, hts, hlocks, hK, hA, hE⟩
  have hl := lv_entry ([.ref (a 0)]) (n := 1) (Nat.le_of_ble_eq_true rfl)
  rw [lg_entry_eq]
  generalize (lg_sl ([.ref (a 0)]) ++ List.replicate (1 - (lg_sl ([.ref (a 0)])).length) Slot.unset).toArray = ls at hl ⊢
  have hl : lv_has ls 1 [(0, .ref (a 0))] := hl
  have hw0 := hts (.fieldLink RX9 108 "WhistledWordsModel" "fault" "I") (by decide +kernel)
  have hnX9 : ∀ w ∈ u_ws RX9 TX9 46, w ∈ wsX9_fault := fun _ h => List.mem_cons_of_mem _ (List.mem_append_right _ h)
  unfold fX9_fault at h
  refine lv_aload_n hx hb dX9_fault_0 rfl (lv_at hl 0 rfl) ?_
  refine gM_mo_fault hx hb hts hnX9 hown hK hP hw0 dX9_fault_1 ?_
  obtain er := rt1_use h
  exact re_i hx hb hr hlocks hK hP hD hS er dX9_fault_4
set_option maxHeartbeats 4000000 in
set_option maxRecDepth 100000 in
theorem kX9_isWord (l : Launch) (n : Nat) (dC : Nat → ClassId) (dI : Nat → Nat → Nat) (cB cI cJ cZ : ClassId) (a : Nat → Nat) (sz : Nat) (m_letters : Nat → Int32) (m_words : Int32) (m_wMany : Nat → Int32) (m_wLetters : Nat → Int32) (m_asks : Int32) (m_aWords : Nat → Int32) (m_dLetters : Nat → Int32) (m_dWords : Int32) (m_dMany : Nat → Int32) (m_dText : Nat → Int32) (m_dAsks : Int32) (m_dAsk : Nat → Int32) (m_tape : Nat → Int32) (m_taped : Int32) (m_pos : Int32) (m_from : Int32) (m_sort : Int32) (m_value : Int32) (m_fault : Int32) (m_wrongAt : Int32) (m_manyA : Int32) (m_rowA : Nat → Int32) (m_manyB : Int32) (m_rowB : Nat → Int32) (m_places : Int32) (m_xs : Nat → Int32) (m_ys : Nat → Int32) (m_heights : Nat → Int32) (m_ridges : Int32) (m_rx : Nat → Int32) (m_rHeight : Nat → Int32) (m_lanes : Nat → Int32) (m_sizes : Nat → Int32) (m_cells : Nat → Int32) (m_left : Nat → Int32) (m_calls : Int32) (m_cDay : Nat → Int32) (m_cHour : Nat → Int32) (m_cFrom : Nat → Int32) (m_cAsk : Nat → Int32) (m_cWord : Nat → Int32) (m_cOf : Nat → Int32) (m_isLie : Nat → Int32) (m_children : Int32) (m_learned : Nat → Int32) (m_group : Nat → Int32) (x1 : Int32) (r0 : Int32) (h : fX9_isWord n m_words x1 = some r0) : Met l yX9_isWord wsX9_isWord ({ frames := 1, cells := 0, slots := 0, locals := 25 }) (gP (dC, dI) (tyz cB cI cJ cZ) E_0 (wM cB cI cJ cZ a m_letters m_words m_wMany m_wLetters m_asks m_aWords m_dLetters m_dWords m_dMany m_dText m_dAsks m_dAsk m_tape m_taped m_pos m_from m_sort m_value m_fault m_wrongAt m_manyA m_rowA m_manyB m_rowB m_places m_xs m_ys m_heights m_ridges m_rx m_rHeight m_lanes m_sizes m_cells m_left m_calls m_cDay m_cHour m_cFrom m_cAsk m_cWord m_cOf m_isLie m_children m_learned m_group) sz [.ref (a 0), .int x1]) (gI (dC, dI) (tyz cB cI cJ cZ) (wM cB cI cJ cZ a m_letters m_words m_wMany m_wLetters m_asks m_aWords m_dLetters m_dWords m_dMany m_dText m_dAsks m_dAsk m_tape m_taped m_pos m_from m_sort m_value m_fault m_wrongAt m_manyA m_rowA m_manyB m_rowB m_places m_xs m_ys m_heights m_ridges m_rx m_rHeight m_lanes m_sizes m_cells m_left m_calls m_cDay m_cHour m_cFrom m_cAsk m_cWord m_cOf m_isLie m_children m_learned m_group) (va_A (wM cB cI cJ cZ a m_letters m_words m_wMany m_wLetters m_asks m_aWords m_dLetters m_dWords m_dMany m_dText m_dAsks m_dAsk m_tape m_taped m_pos m_from m_sort m_value m_fault m_wrongAt m_manyA m_rowA m_manyB m_rowB m_places m_xs m_ys m_heights m_ridges m_rx m_rHeight m_lanes m_sizes m_cells m_left m_calls m_cDay m_cHour m_cFrom m_cAsk m_cWord m_cOf m_isLie m_children m_learned m_group) sz) r0) 0 0 (va_A (wM cB cI cJ cZ a m_letters m_words m_wMany m_wLetters m_asks m_aWords m_dLetters m_dWords m_dMany m_dText m_dAsks m_dAsk m_tape m_taped m_pos m_from m_sort m_value m_fault m_wrongAt m_manyA m_rowA m_manyB m_rowB m_places m_xs m_ys m_heights m_ridges m_rx m_rHeight m_lanes m_sizes m_cells m_left m_calls m_cDay m_cHour m_cFrom m_cAsk m_cWord m_cOf m_isLie m_children m_learned m_group) sz) := by
  refine Met.ofW (cc := cX9_isWord) (maxL := 2) (ret := (some .boolean)) (by decide) rfl ?_
  intro p e s m args below meth c s₁ B hml hv
  obtain ⟨rfl, hsz, hP, hK, hD0, hE⟩ := hv
  have hx := B.exec
  have hb := B.bytes
  have hr := B.returns
  have hts := atoms_spec (ws := wsX9_isWord) B.pre
  have hown : s.vm.findClass RX9 = some m.cls := findClass_of_methodNamed B.named
  have hlocks := B.notSynchronized
  subst hsz
  have hD := hD0.self (sz := s.heap.size)
  have hA : ∀ q : Nat, s.heap.size ≤ q → va_A (wM cB cI cJ cZ a m_letters m_words m_wMany m_wLetters m_asks m_aWords m_dLetters m_dWords m_dMany m_dText m_dAsks m_dAsk m_tape m_taped m_pos m_from m_sort m_value m_fault m_wrongAt m_manyA m_rowA m_manyB m_rowB m_places m_xs m_ys m_heights m_ridges m_rx m_rHeight m_lanes m_sizes m_cells m_left m_calls m_cDay m_cHour m_cFrom m_cAsk m_cWord m_cOf m_isLie m_children m_learned m_group) s.heap.size q := fun q h => Or.inr h
  generalize va_A (wM cB cI cJ cZ a m_letters m_words m_wMany m_wLetters m_asks m_aWords m_dLetters m_dWords m_dMany m_dText m_dAsks m_dAsk m_tape m_taped m_pos m_from m_sort m_value m_fault m_wrongAt m_manyA m_rowA m_manyB m_rowB m_places m_xs m_ys m_heights m_ridges m_rx m_rHeight m_lanes m_sizes m_cells m_left m_calls m_cDay m_cHour m_cFrom m_cAsk m_cWord m_cOf m_isLie m_children m_learned m_group) s.heap.size = A at hD hA hE ⊢
  have hS : va_S A s.heap s.heap [] := va_S.rf
  have C0 : cxt cX9_isWord (some .boolean) 2 RX9 wsX9_isWord (dC, dI) (tyz cB cI cJ cZ) E_0 A p s m ([.ref (a 0), .int x1] : List Value).toArray meth c := ⟨hx, hb, hr, hml, hown, hts, hlocks, hK, hA, hE⟩
  have hl := lv_entry ([.ref (a 0), .int x1]) (n := 2) (Nat.le_of_ble_eq_true rfl)
  rw [lg_entry_eq]
  generalize (lg_sl ([.ref (a 0), .int x1]) ++ List.replicate (2 - (lg_sl ([.ref (a 0), .int x1])).length) Slot.unset).toArray = ls at hl ⊢
  have hl : lv_has ls 2 [(0, .ref (a 0)), (1, .int x1)] := hl
  have hw0 := hts (.fieldLink RX9 186 "WhistledWordsModel" "words" "I") (by decide +kernel)
  have hnX9 : ∀ w ∈ u_ws RX9 TX9 46, w ∈ wsX9_isWord := fun _ h => List.mem_cons_of_mem _ (List.mem_append_right _ h)
  unfold fX9_isWord at h
  refine lv_iload_n hx hb dX9_isWord_0 rfl (lv_at hl 1 rfl) ?_
  refine lv_i2l hx hb dX9_isWord_1 rfl ?_
  refine lv_lconst (v := 0) hx hb dX9_isWord_2 (by decide) ?_
  refine lv_aload_n hx hb dX9_isWord_3 rfl (lv_at hl 0 rfl) ?_
  refine gM_mo_words hx hb hts hnX9 hown hK hP hw0 dX9_isWord_4 ?_
  refine lv_iconst (v := 1) hx hb dX9_isWord_7 (by decide) ?_
  refine lv_isub hx hb dX9_isWord_8 ?_
  refine lv_i2l hx hb dX9_isWord_9 rfl ?_
  obtain ⟨v1, hc, h⟩ := bd1_use h
  refine cs_i (As := [.long x1.toInt64, .long (0 : Int64), .long ((m_words - (1 : Int32)).toInt64)]) (rest := []) ⟨hx, hb, hml, hown, hts⟩ (kX9_in l n x1.toInt64 (0 : Int64) ((m_words - (1 : Int32)).toInt64) v1 hc) (va_cwS 3 hts gX9_isWord_X9_in rfl rfl rfl (by decide +kernel) ⟨Nat.le_of_ble_eq_true rfl, Nat.le_of_ble_eq_true rfl⟩) hP hS rfl hl.1 rfl (Nat.le_of_ble_eq_true rfl) dX9_isWord_10 ⟨Nat.zero_le _, Nat.zero_le _⟩ (fun H locs hP hS => ?_)
  obtain ⟨hzb, h⟩ := rb_use h
  obtain er := rt1_use h
  exact re_z hx hb hr hlocks hK hP hD hS hzb er dX9_isWord_13
set_option maxHeartbeats 4000000 in
set_option maxRecDepth 100000 in
theorem kX9_markAt (l : Launch) (n : Nat) (x0 : Int32) (x1 : Int32) (r0 : Int32) (h : fX9_markAt n  x0 x1 = some r0) : Met l yX9_markAt wsX9_markAt ({ frames := 0, cells := 0, slots := 0, locals := 0 }) (pP [.int x0, .int x1]) (pI r0) 0 0 no_A := by
  refine Met.ofW (cc := cX9_markAt) (maxL := 2) (ret := (some .int)) (by decide) rfl ?_
  intro p e s m args below meth c s₁ B hml hv
  obtain ⟨rfl, -⟩ := hv
  have hx := B.exec
  have hb := B.bytes
  have hr := B.returns
  have hts := atoms_spec (ws := wsX9_markAt) B.pre
  have hown : s.vm.findClass RX9 = some m.cls := findClass_of_methodNamed B.named
  have hlocks := B.notSynchronized
  have hS : va_S no_A s.heap s.heap [] := va_S.rf
  have C0 : cxp cX9_markAt (some .int) 2 RX9 wsX9_markAt p s m ([.int x0, .int x1] : List Value).toArray meth c := ⟨hx, hb, hr, hml, hown, hts, hlocks⟩
  have hl := lv_entry ([.int x0, .int x1]) (n := 2) (Nat.le_of_ble_eq_true rfl)
  rw [lg_entry_eq]
  generalize (lg_sl ([.int x0, .int x1]) ++ List.replicate (2 - (lg_sl ([.int x0, .int x1])).length) Slot.unset).toArray = ls at hl ⊢
  have hl : lv_has ls 2 [(0, .int x0), (1, .int x1)] := hl
  unfold fX9_markAt at h
  refine lv_iload_n hx hb dX9_markAt_0 rfl (lv_at hl 0 rfl) ?_
  refine lv_bipush (v := 16) hx hb dX9_markAt_1 (by decide) ?_
  refine lv_icmp_ge (tgt := 10) hx hb dX9_markAt_3 (by decide) (fun c1 => ?_) (fun c1 => ?_)
  · have h := it_use c1 h
    refine lv_iload_n hx hb dX9_markAt_10 rfl (lv_at hl 0 rfl) ?_
    refine lv_bipush (v := 20) hx hb dX9_markAt_11 (by decide) ?_
    refine lv_icmp_ge (tgt := 37) hx hb dX9_markAt_13 (by decide) (fun c2 => ?_) (fun c2 => ?_)
    · have h := it_use c2 h
      refine lv_iload_n hx hb dX9_markAt_37 rfl (lv_at hl 0 rfl) ?_
      refine lv_bipush (v := 30) hx hb dX9_markAt_38 (by decide) ?_
      refine lv_icmp_ne (tgt := 47) hx hb dX9_markAt_40 (by decide) (fun c3 => ?_) (fun c3 => ?_)
      · have h := ie_use c3 h
        refine lv_iload_n hx hb dX9_markAt_47 rfl (lv_at hl 1 rfl) ?_
        refine lv_iconst (v := 3) hx hb dX9_markAt_48 (by decide) ?_
        refine lv_icmp_ge (tgt := 57) hx hb dX9_markAt_49 (by decide) (fun c4 => ?_) (fun c4 => ?_)
        · have h := it_use c4 h
          refine lv_iload_n hx hb dX9_markAt_57 rfl (lv_at hl 1 rfl) ?_
          refine lv_iconst (v := 3) hx hb dX9_markAt_58 (by decide) ?_
          refine lv_icmp_ne (tgt := 67) hx hb dX9_markAt_59 (by decide) (fun c5 => ?_) (fun c5 => ?_)
          · have h := ie_use c5 h
            refine lv_iconst (v := -1) hx hb dX9_markAt_67 (by decide) ?_
            obtain er := rt1_use h
            exact rp_i hx hb hr hlocks hS er dX9_markAt_68
          · have h := it_use c5 h
            refine lv_bipush (v := 16) hx hb dX9_markAt_62 (by decide) ?_
            refine lv_goto (tgt := 68) hx hb dX9_markAt_64 (by decide) ?_
            obtain er := rt1_use h
            exact rp_i hx hb hr hlocks hS er dX9_markAt_68
        · have h := ie_use c4 h
          refine lv_bipush (v := 20) hx hb dX9_markAt_52 (by decide) ?_
          refine lv_goto (tgt := 68) hx hb dX9_markAt_54 (by decide) ?_
          obtain er := rt1_use h
          exact rp_i hx hb hr hlocks hS er dX9_markAt_68
      · have h := it_use c3 h
        refine lv_iconst (v := -1) hx hb dX9_markAt_43 (by decide) ?_
        refine lv_goto (tgt := 68) hx hb dX9_markAt_44 (by decide) ?_
        obtain er := rt1_use h
        exact rp_i hx hb hr hlocks hS er dX9_markAt_68
    · have h := ie_use c2 h
      refine lv_iload_n hx hb dX9_markAt_16 rfl (lv_at hl 1 rfl) ?_
      refine lv_iconst (v := 2) hx hb dX9_markAt_17 (by decide) ?_
      refine lv_icmp_ge (tgt := 25) hx hb dX9_markAt_18 (by decide) (fun c6 => ?_) (fun c6 => ?_)
      · have h := it_use c6 h
        refine lv_iload_n hx hb dX9_markAt_25 rfl (lv_at hl 1 rfl) ?_
        refine lv_iconst (v := 4) hx hb dX9_markAt_26 (by decide) ?_
        refine lv_icmp_ge (tgt := 35) hx hb dX9_markAt_27 (by decide) (fun c7 => ?_) (fun c7 => ?_)
        · have h := it_use c7 h
          refine lv_iconst (v := -1) hx hb dX9_markAt_35 (by decide) ?_
          obtain er := rt1_use h
          exact rp_i hx hb hr hlocks hS er dX9_markAt_36
        · have h := ie_use c7 h
          refine lv_bipush (v := 16) hx hb dX9_markAt_30 (by decide) ?_
          refine lv_goto (tgt := 36) hx hb dX9_markAt_32 (by decide) ?_
          obtain er := rt1_use h
          exact rp_i hx hb hr hlocks hS er dX9_markAt_36
      · have h := ie_use c6 h
        refine lv_iload_n hx hb dX9_markAt_21 rfl (lv_at hl 0 rfl) ?_
        refine lv_goto (tgt := 36) hx hb dX9_markAt_22 (by decide) ?_
        obtain er := rt1_use h
        exact rp_i hx hb hr hlocks hS er dX9_markAt_36
  · have h := ie_use c1 h
    refine lv_iload_n hx hb dX9_markAt_6 rfl (lv_at hl 0 rfl) ?_
    refine lv_iload_n hx hb dX9_markAt_7 rfl (lv_at hl 1 rfl) ?_
    refine lv_ishr hx hb dX9_markAt_8 ?_
    obtain er := rt1_use h
    exact rp_i hx hb hr hlocks hS er dX9_markAt_9
set_option maxHeartbeats 4000000 in
set_option maxRecDepth 100000 in
theorem kX9_rowOf_rowA_p6_r {p : Program} {l : Launch} {e : Env} {s : State} {m : MethodId} {args : Array Value} {below : List Frame} {meth : Method} {c : Code} {A : Nat → Prop} (dC : Nat → ClassId) (dI : Nat → Nat → Nat) (cB cI cJ cZ : ClassId) (a : Nat → Nat) (C0 : cxt cX9_rowOf (some .int) 7 RX9 wsX9_rowOf (dC, dI) (tyz cB cI cJ cZ) E_0 A p s m args meth c) (n : Nat) (m_letters : Nat → Int32) (m_words : Int32) (m_wMany : Nat → Int32) (m_wLetters : Nat → Int32) (m_asks : Int32) (m_aWords : Nat → Int32) (m_dLetters : Nat → Int32) (m_dWords : Int32) (m_dMany : Nat → Int32) (m_dText : Nat → Int32) (m_dAsks : Int32) (m_dAsk : Nat → Int32) (m_tape : Nat → Int32) (m_taped : Int32) (m_pos : Int32) (m_from : Int32) (m_sort : Int32) (m_value : Int32) (m_fault : Int32) (m_wrongAt : Int32) (m_manyA : Int32) (m_manyB : Int32) (m_rowB : Nat → Int32) (m_places : Int32) (m_xs : Nat → Int32) (m_ys : Nat → Int32) (m_heights : Nat → Int32) (m_ridges : Int32) (m_rx : Nat → Int32) (m_rHeight : Nat → Int32) (m_lanes : Nat → Int32) (m_sizes : Nat → Int32) (m_cells : Nat → Int32) (m_left : Nat → Int32) (m_calls : Int32) (m_cDay : Nat → Int32) (m_cHour : Nat → Int32) (m_cFrom : Nat → Int32) (m_cAsk : Nat → Int32) (m_cWord : Nat → Int32) (m_cOf : Nat → Int32) (m_isLie : Nat → Int32) (m_children : Int32) (m_learned : Nat → Int32) (m_group : Nat → Int32) (x1 : Int32) (x2 : Int32) (r0 : Int32) (z_m_rowA : Nat → Int32)  : ∀ (k : Nat) (m_rowA : Nat → Int32) (x4 : Int32) (x5 : Int32) (H : Heap) (locs : List Loc) (ls : Array Slot), fX9_rowOf_p6 n m_letters m_wMany m_wLetters x1 x2 k m_rowA x4 x5 = some (r0, z_m_rowA) → va_P (dC, dI) vwCl (wM cB cI cJ cZ a m_letters m_words m_wMany m_wLetters m_asks m_aWords m_dLetters m_dWords m_dMany m_dText m_dAsks m_dAsk m_tape m_taped m_pos m_from m_sort m_value m_fault m_wrongAt m_manyA m_rowA m_manyB m_rowB m_places m_xs m_ys m_heights m_ridges m_rx m_rHeight m_lanes m_sizes m_cells m_left m_calls m_cDay m_cHour m_cFrom m_cAsk m_cWord m_cOf m_isLie m_children m_learned m_group) H → va_D A (wM cB cI cJ cZ a m_letters m_words m_wMany m_wLetters m_asks m_aWords m_dLetters m_dWords m_dMany m_dText m_dAsks m_dAsk m_tape m_taped m_pos m_from m_sort m_value m_fault m_wrongAt m_manyA m_rowA m_manyB m_rowB m_places m_xs m_ys m_heights m_ridges m_rx m_rHeight m_lanes m_sizes m_cells m_left m_calls m_cDay m_cHour m_cFrom m_cAsk m_cWord m_cOf m_isLie m_children m_learned m_group) → va_S A s.heap H locs → lv_has ls 7 [(0, .ref (a 0)), (1, .int x1), (2, .int x2), (3, .ref (a 10)), (4, .int x4), (5, .int x5)] → W p l e { frames := 1, cells := 0, slots := 0, locals := 21 } s m args below meth c H locs 0 0 (MQ below (gI (dC, dI) (tyz cB cI cJ cZ) (wM cB cI cJ cZ a m_letters m_words m_wMany m_wLetters m_asks m_aWords m_dLetters m_dWords m_dMany m_dText m_dAsks m_dAsk m_tape m_taped m_pos m_from m_sort m_value m_fault m_wrongAt m_manyA z_m_rowA m_manyB m_rowB m_places m_xs m_ys m_heights m_ridges m_rx m_rHeight m_lanes m_sizes m_cells m_left m_calls m_cDay m_cHour m_cFrom m_cAsk m_cWord m_cOf m_isLie m_children m_learned m_group) A r0) args s 0 0 A) (F0 m 6 ls []) := by
  obtain ⟨hx, hb, hr, hml, hown, hts, hlocks, hK, hA, hE⟩ := id C0
  have hw0 := hts (.fieldLink RX9 13 "WhistledWordsModel" "wMany" "[I") (by decide +kernel)
  have hw1 := hts (.fieldLink RX9 7 "WhistledWordsModel" "letters" "[I") (by decide +kernel)
  have hw2 := hts (.fieldLink RX9 16 "WhistledWordsModel" "wLetters" "[I") (by decide +kernel)
  have hnX9 : ∀ w ∈ u_ws RX9 TX9 46, w ∈ wsX9_rowOf := fun _ h => List.mem_cons_of_mem _ (List.mem_append_right _ h)
  intro k
  induction k with
  | zero =>
    intro m_rowA x4 x5 H locs ls h
    cases h
  | succ k ih =>
    intro m_rowA x4 x5 H locs ls h hP hD hS hl
    rw [fX9_rowOf_p6] at h
    refine lv_iload hx hb dX9_rowOf_6 (lv_at hl 5 rfl) ?_
    refine lv_aload_n hx hb dX9_rowOf_8 rfl (lv_at hl 0 rfl) ?_
    refine gM_mo_wMany hx hb hts hnX9 hown hK hP hw0 dX9_rowOf_9 ?_
    refine lv_iload_n hx hb dX9_rowOf_12 rfl (lv_at hl 1 rfl) ?_
    obtain ⟨hiv1, h⟩ := ar_use h
    refine lM_mo_wMany hx hb hK hP hiv1 dX9_rowOf_13 ?_
    refine lv_topi (fun v1 ev1 => ?_)
    have h := h v1 ev1
    refine lv_icmp_ge (tgt := 81) hx hb dX9_rowOf_14 (by decide) (fun c2 => ?_) (fun c2 => ?_)
    · have h := it_use c2 h
      refine lv_iload hx hb dX9_rowOf_81 (lv_at hl 4 rfl) ?_
      obtain ⟨er, ez0⟩ := rt2_use h
      subst ez0
      exact re_i hx hb hr hlocks hK hP hD hS er dX9_rowOf_83
    · have h := ie_use c2 h
      refine lv_aload_n hx hb dX9_rowOf_17 rfl (lv_at hl 0 rfl) ?_
      refine gM_mo_letters hx hb hts hnX9 hown hK hP hw1 dX9_rowOf_18 ?_
      refine lv_aload_n hx hb dX9_rowOf_21 rfl (lv_at hl 0 rfl) ?_
      refine gM_mo_wLetters hx hb hts hnX9 hown hK hP hw2 dX9_rowOf_22 ?_
      refine lv_bipush (v := 8) hx hb dX9_rowOf_25 (by decide) ?_
      refine lv_iload_n hx hb dX9_rowOf_27 rfl (lv_at hl 1 rfl) ?_
      refine lv_imul hx hb dX9_rowOf_28 ?_
      refine lv_iload hx hb dX9_rowOf_29 (lv_at hl 5 rfl) ?_
      refine lv_iadd hx hb dX9_rowOf_31 ?_
      obtain ⟨hiv3, h⟩ := ar_use h
      refine lM_mo_wLetters hx hb hK hP hiv3 dX9_rowOf_32 ?_
      refine lv_topi (fun v3 ev3 => ?_)
      have h := h v3 ev3
      obtain ⟨hiv4, h⟩ := ar_use h
      refine lM_mo_letters hx hb hK hP hiv4 dX9_rowOf_33 ?_
      refine lv_topi (fun v4 ev4 => ?_)
      have h := h v4 ev4
      refine lv_iload_n hx hb dX9_rowOf_34 rfl (lv_at hl 2 rfl) ?_
      obtain ⟨v5, hc, h⟩ := bd1_use h
      refine cs_i (As := [.int v4, .int x2]) (rest := []) ⟨hx, hb, hml, hown, hts⟩ (kX9_markAt l n v4 x2 v5 hc) (va_cwS 2 hts gX9_rowOf_X9_markAt rfl rfl rfl (by decide +kernel) ⟨Nat.le_of_ble_eq_true rfl, Nat.le_of_ble_eq_true rfl⟩) hP hS rfl hl.1 rfl (Nat.le_of_ble_eq_true rfl) dX9_rowOf_35 ⟨Nat.zero_le _, Nat.zero_le _⟩ (fun H locs hP hS => ?_)
      refine lv_istore (lv' := [(6, .int v5), (0, .ref (a 0)), (1, .int x1), (2, .int x2), (3, .ref (a 10)), (4, .int x4), (5, .int x5)]) hx hb dX9_rowOf_38 hl (by decide) rfl (fun ls hl => ?_)
      refine lv_iload hx hb dX9_rowOf_40 (lv_at hl 0 rfl) ?_
      refine lv_if_lt (tgt := 75) hx hb dX9_rowOf_42 (by decide) (fun c6 => ?_) (fun c6 => ?_)
      · have h := it_use c6 h
        refine lv_iinc (v := x5 + 1) (lv' := [(5, .int (x5 + 1)), (6, .int v5), (0, .ref (a 0)), (1, .int x1), (2, .int x2), (3, .ref (a 10)), (4, .int x4)]) hx hb dX9_rowOf_75 hl (k := 6) rfl rfl (by decide) rfl (fun ls hl => ?_)
        refine lv_goto (tgt := 6) hx hb dX9_rowOf_78 (by decide) ?_
        exact ih m_rowA x4 (x5 + 1) _ _ ls h hP hD hS (lv_sub hl [2, 3, 4, 5, 6, 0] rfl)
      · have h := ie_use c6 h
        refine lv_iload_n hx hb dX9_rowOf_45 rfl (lv_at hl 3 rfl) ?_
        refine lv_iconst (v := 3) hx hb dX9_rowOf_46 (by decide) ?_
        refine lv_icmp_lt (tgt := 66) hx hb dX9_rowOf_47 (by decide) (fun c7 => ?_) (fun c7 => ?_)
        · have h := it_use c7 h
          refine lv_aload_n hx hb dX9_rowOf_66 rfl (lv_at hl 4 rfl) ?_
          refine lv_iload hx hb dX9_rowOf_67 (lv_at hl 5 rfl) ?_
          refine lv_iload hx hb dX9_rowOf_69 (lv_at hl 0 rfl) ?_
          obtain ⟨hif8, f8, ef8, h⟩ := aw_use h
          refine sM_mo_rowA hx hb hK hP hD hS hif8 ef8 dX9_rowOf_71 (fun H locs hP hD hS => ?_)
          refine lv_iinc (v := x4 + 1) (lv' := [(4, .int (x4 + 1)), (6, .int v5), (0, .ref (a 0)), (1, .int x1), (2, .int x2), (3, .ref (a 10)), (5, .int x5)]) hx hb dX9_rowOf_72 hl (k := 5) rfl rfl (by decide) rfl (fun ls hl => ?_)
          refine lv_iinc (v := x5 + 1) (lv' := [(5, .int (x5 + 1)), (4, .int (x4 + 1)), (6, .int v5), (0, .ref (a 0)), (1, .int x1), (2, .int x2), (3, .ref (a 10))]) hx hb dX9_rowOf_75 hl (k := 6) rfl rfl (by decide) rfl (fun ls hl => ?_)
          refine lv_goto (tgt := 6) hx hb dX9_rowOf_78 (by decide) ?_
          exact ih f8 (x4 + 1) (x5 + 1) _ _ ls h hP hD hS (lv_sub hl [3, 4, 5, 6, 1, 0] rfl)
        · have h := ie_use c7 h
          refine lv_iload hx hb dX9_rowOf_50 (lv_at hl 5 rfl) ?_
          refine lv_if_le (tgt := 66) hx hb dX9_rowOf_52 (by decide) (fun c9 => ?_) (fun c9 => ?_)
          · have h := it_use c9 h
            refine lv_aload_n hx hb dX9_rowOf_66 rfl (lv_at hl 4 rfl) ?_
            refine lv_iload hx hb dX9_rowOf_67 (lv_at hl 5 rfl) ?_
            refine lv_iload hx hb dX9_rowOf_69 (lv_at hl 0 rfl) ?_
            obtain ⟨hif10, f10, ef10, h⟩ := aw_use h
            refine sM_mo_rowA hx hb hK hP hD hS hif10 ef10 dX9_rowOf_71 (fun H locs hP hD hS => ?_)
            refine lv_iinc (v := x4 + 1) (lv' := [(4, .int (x4 + 1)), (6, .int v5), (0, .ref (a 0)), (1, .int x1), (2, .int x2), (3, .ref (a 10)), (5, .int x5)]) hx hb dX9_rowOf_72 hl (k := 5) rfl rfl (by decide) rfl (fun ls hl => ?_)
            refine lv_iinc (v := x5 + 1) (lv' := [(5, .int (x5 + 1)), (4, .int (x4 + 1)), (6, .int v5), (0, .ref (a 0)), (1, .int x1), (2, .int x2), (3, .ref (a 10))]) hx hb dX9_rowOf_75 hl (k := 6) rfl rfl (by decide) rfl (fun ls hl => ?_)
            refine lv_goto (tgt := 6) hx hb dX9_rowOf_78 (by decide) ?_
            exact ih f10 (x4 + 1) (x5 + 1) _ _ ls h hP hD hS (lv_sub hl [3, 4, 5, 6, 1, 0] rfl)
          · have h := ie_use c9 h
            refine lv_aload_n hx hb dX9_rowOf_55 rfl (lv_at hl 4 rfl) ?_
            refine lv_iload hx hb dX9_rowOf_56 (lv_at hl 5 rfl) ?_
            refine lv_iconst (v := 1) hx hb dX9_rowOf_58 (by decide) ?_
            refine lv_isub hx hb dX9_rowOf_59 ?_
            obtain ⟨hiv11, h⟩ := ar_use h
            refine lM_mo_rowA hx hb hK hP hiv11 dX9_rowOf_60 ?_
            refine lv_topi (fun v11 ev11 => ?_)
            have h := h v11 ev11
            refine lv_iload hx hb dX9_rowOf_61 (lv_at hl 0 rfl) ?_
            refine lv_icmp_eq (tgt := 75) hx hb dX9_rowOf_63 (by decide) (fun c12 => ?_) (fun c12 => ?_)
            · have h := it_use c12 h
              refine lv_iinc (v := x5 + 1) (lv' := [(5, .int (x5 + 1)), (6, .int v5), (0, .ref (a 0)), (1, .int x1), (2, .int x2), (3, .ref (a 10)), (4, .int x4)]) hx hb dX9_rowOf_75 hl (k := 6) rfl rfl (by decide) rfl (fun ls hl => ?_)
              refine lv_goto (tgt := 6) hx hb dX9_rowOf_78 (by decide) ?_
              exact ih m_rowA x4 (x5 + 1) _ _ ls h hP hD hS (lv_sub hl [2, 3, 4, 5, 6, 0] rfl)
            · have h := ie_use c12 h
              refine lv_aload_n hx hb dX9_rowOf_66 rfl (lv_at hl 4 rfl) ?_
              refine lv_iload hx hb dX9_rowOf_67 (lv_at hl 5 rfl) ?_
              refine lv_iload hx hb dX9_rowOf_69 (lv_at hl 0 rfl) ?_
              obtain ⟨hif13, f13, ef13, h⟩ := aw_use h
              refine sM_mo_rowA hx hb hK hP hD hS hif13 ef13 dX9_rowOf_71 (fun H locs hP hD hS => ?_)
              refine lv_iinc (v := x4 + 1) (lv' := [(4, .int (x4 + 1)), (6, .int v5), (0, .ref (a 0)), (1, .int x1), (2, .int x2), (3, .ref (a 10)), (5, .int x5)]) hx hb dX9_rowOf_72 hl (k := 5) rfl rfl (by decide) rfl (fun ls hl => ?_)
              refine lv_iinc (v := x5 + 1) (lv' := [(5, .int (x5 + 1)), (4, .int (x4 + 1)), (6, .int v5), (0, .ref (a 0)), (1, .int x1), (2, .int x2), (3, .ref (a 10))]) hx hb dX9_rowOf_75 hl (k := 6) rfl rfl (by decide) rfl (fun ls hl => ?_)
              refine lv_goto (tgt := 6) hx hb dX9_rowOf_78 (by decide) ?_
              exact ih f13 (x4 + 1) (x5 + 1) _ _ ls h hP hD hS (lv_sub hl [3, 4, 5, 6, 1, 0] rfl)
theorem kX9_rowOf_rowA_p6 {p : Program} {l : Launch} {e : Env} {s : State} {m : MethodId} {args : Array Value} {below : List Frame} {meth : Method} {c : Code} {A : Nat → Prop} (dC : Nat → ClassId) (dI : Nat → Nat → Nat) (cB cI cJ cZ : ClassId) (a : Nat → Nat) (C0 : cxt cX9_rowOf (some .int) 7 RX9 wsX9_rowOf (dC, dI) (tyz cB cI cJ cZ) E_0 A p s m args meth c) (n : Nat) (m_letters : Nat → Int32) (m_words : Int32) (m_wMany : Nat → Int32) (m_wLetters : Nat → Int32) (m_asks : Int32) (m_aWords : Nat → Int32) (m_dLetters : Nat → Int32) (m_dWords : Int32) (m_dMany : Nat → Int32) (m_dText : Nat → Int32) (m_dAsks : Int32) (m_dAsk : Nat → Int32) (m_tape : Nat → Int32) (m_taped : Int32) (m_pos : Int32) (m_from : Int32) (m_sort : Int32) (m_value : Int32) (m_fault : Int32) (m_wrongAt : Int32) (m_manyA : Int32) (m_rowA : Nat → Int32) (m_manyB : Int32) (m_rowB : Nat → Int32) (m_places : Int32) (m_xs : Nat → Int32) (m_ys : Nat → Int32) (m_heights : Nat → Int32) (m_ridges : Int32) (m_rx : Nat → Int32) (m_rHeight : Nat → Int32) (m_lanes : Nat → Int32) (m_sizes : Nat → Int32) (m_cells : Nat → Int32) (m_left : Nat → Int32) (m_calls : Int32) (m_cDay : Nat → Int32) (m_cHour : Nat → Int32) (m_cFrom : Nat → Int32) (m_cAsk : Nat → Int32) (m_cWord : Nat → Int32) (m_cOf : Nat → Int32) (m_isLie : Nat → Int32) (m_children : Int32) (m_learned : Nat → Int32) (m_group : Nat → Int32)  (x1 : Int32) (x2 : Int32) (x4 : Int32) (x5 : Int32) (r0 : Int32) (z_m_rowA : Nat → Int32)  (k : Nat) (H : Heap) (locs : List Loc) (ls : Array Slot) : fX9_rowOf_p6 n m_letters m_wMany m_wLetters x1 x2 k m_rowA x4 x5 = some (r0, z_m_rowA) → va_P (dC, dI) vwCl (wM cB cI cJ cZ a m_letters m_words m_wMany m_wLetters m_asks m_aWords m_dLetters m_dWords m_dMany m_dText m_dAsks m_dAsk m_tape m_taped m_pos m_from m_sort m_value m_fault m_wrongAt m_manyA m_rowA m_manyB m_rowB m_places m_xs m_ys m_heights m_ridges m_rx m_rHeight m_lanes m_sizes m_cells m_left m_calls m_cDay m_cHour m_cFrom m_cAsk m_cWord m_cOf m_isLie m_children m_learned m_group) H → va_D A (wM cB cI cJ cZ a m_letters m_words m_wMany m_wLetters m_asks m_aWords m_dLetters m_dWords m_dMany m_dText m_dAsks m_dAsk m_tape m_taped m_pos m_from m_sort m_value m_fault m_wrongAt m_manyA m_rowA m_manyB m_rowB m_places m_xs m_ys m_heights m_ridges m_rx m_rHeight m_lanes m_sizes m_cells m_left m_calls m_cDay m_cHour m_cFrom m_cAsk m_cWord m_cOf m_isLie m_children m_learned m_group) → va_S A s.heap H locs → lv_has ls 7 [(0, .ref (a 0)), (1, .int x1), (2, .int x2), (3, .ref (a 10)), (4, .int x4), (5, .int x5)] → W p l e { frames := 1, cells := 0, slots := 0, locals := 21 } s m args below meth c H locs 0 0 (MQ below (gI (dC, dI) (tyz cB cI cJ cZ) (wM cB cI cJ cZ a m_letters m_words m_wMany m_wLetters m_asks m_aWords m_dLetters m_dWords m_dMany m_dText m_dAsks m_dAsk m_tape m_taped m_pos m_from m_sort m_value m_fault m_wrongAt m_manyA z_m_rowA m_manyB m_rowB m_places m_xs m_ys m_heights m_ridges m_rx m_rHeight m_lanes m_sizes m_cells m_left m_calls m_cDay m_cHour m_cFrom m_cAsk m_cWord m_cOf m_isLie m_children m_learned m_group) A r0) args s 0 0 A) (F0 m 6 ls []) :=
  kX9_rowOf_rowA_p6_r dC dI cB cI cJ cZ a C0 n m_letters m_words m_wMany m_wLetters m_asks m_aWords m_dLetters m_dWords m_dMany m_dText m_dAsks m_dAsk m_tape m_taped m_pos m_from m_sort m_value m_fault m_wrongAt m_manyA m_manyB m_rowB m_places m_xs m_ys m_heights m_ridges m_rx m_rHeight m_lanes m_sizes m_cells m_left m_calls m_cDay m_cHour m_cFrom m_cAsk m_cWord m_cOf m_isLie m_children m_learned m_group x1 x2 r0 z_m_rowA  k m_rowA x4 x5 H locs ls
set_option maxHeartbeats 4000000 in
set_option maxRecDepth 100000 in
theorem kX9_rowOf_rowA (l : Launch) (n : Nat) (dC : Nat → ClassId) (dI : Nat → Nat → Nat) (cB cI cJ cZ : ClassId) (a : Nat → Nat) (sz : Nat) (m_letters : Nat → Int32) (m_words : Int32) (m_wMany : Nat → Int32) (m_wLetters : Nat → Int32) (m_asks : Int32) (m_aWords : Nat → Int32) (m_dLetters : Nat → Int32) (m_dWords : Int32) (m_dMany : Nat → Int32) (m_dText : Nat → Int32) (m_dAsks : Int32) (m_dAsk : Nat → Int32) (m_tape : Nat → Int32) (m_taped : Int32) (m_pos : Int32) (m_from : Int32) (m_sort : Int32) (m_value : Int32) (m_fault : Int32) (m_wrongAt : Int32) (m_manyA : Int32) (m_rowA : Nat → Int32) (m_manyB : Int32) (m_rowB : Nat → Int32) (m_places : Int32) (m_xs : Nat → Int32) (m_ys : Nat → Int32) (m_heights : Nat → Int32) (m_ridges : Int32) (m_rx : Nat → Int32) (m_rHeight : Nat → Int32) (m_lanes : Nat → Int32) (m_sizes : Nat → Int32) (m_cells : Nat → Int32) (m_left : Nat → Int32) (m_calls : Int32) (m_cDay : Nat → Int32) (m_cHour : Nat → Int32) (m_cFrom : Nat → Int32) (m_cAsk : Nat → Int32) (m_cWord : Nat → Int32) (m_cOf : Nat → Int32) (m_isLie : Nat → Int32) (m_children : Int32) (m_learned : Nat → Int32) (m_group : Nat → Int32) (x1 : Int32) (x2 : Int32) (r0 : Int32) (z_m_rowA : Nat → Int32) (h : fX9_rowOf n m_letters m_wMany m_wLetters m_rowA x1 x2 = some (r0, z_m_rowA)) : Met l yX9_rowOf wsX9_rowOf ({ frames := 1, cells := 0, slots := 0, locals := 21 }) (gP (dC, dI) (tyz cB cI cJ cZ) E_0 (wM cB cI cJ cZ a m_letters m_words m_wMany m_wLetters m_asks m_aWords m_dLetters m_dWords m_dMany m_dText m_dAsks m_dAsk m_tape m_taped m_pos m_from m_sort m_value m_fault m_wrongAt m_manyA m_rowA m_manyB m_rowB m_places m_xs m_ys m_heights m_ridges m_rx m_rHeight m_lanes m_sizes m_cells m_left m_calls m_cDay m_cHour m_cFrom m_cAsk m_cWord m_cOf m_isLie m_children m_learned m_group) sz [.ref (a 0), .int x1, .int x2, .ref (a 10)]) (gI (dC, dI) (tyz cB cI cJ cZ) (wM cB cI cJ cZ a m_letters m_words m_wMany m_wLetters m_asks m_aWords m_dLetters m_dWords m_dMany m_dText m_dAsks m_dAsk m_tape m_taped m_pos m_from m_sort m_value m_fault m_wrongAt m_manyA z_m_rowA m_manyB m_rowB m_places m_xs m_ys m_heights m_ridges m_rx m_rHeight m_lanes m_sizes m_cells m_left m_calls m_cDay m_cHour m_cFrom m_cAsk m_cWord m_cOf m_isLie m_children m_learned m_group) (va_A (wM cB cI cJ cZ a m_letters m_words m_wMany m_wLetters m_asks m_aWords m_dLetters m_dWords m_dMany m_dText m_dAsks m_dAsk m_tape m_taped m_pos m_from m_sort m_value m_fault m_wrongAt m_manyA m_rowA m_manyB m_rowB m_places m_xs m_ys m_heights m_ridges m_rx m_rHeight m_lanes m_sizes m_cells m_left m_calls m_cDay m_cHour m_cFrom m_cAsk m_cWord m_cOf m_isLie m_children m_learned m_group) sz) r0) 0 0 (va_A (wM cB cI cJ cZ a m_letters m_words m_wMany m_wLetters m_asks m_aWords m_dLetters m_dWords m_dMany m_dText m_dAsks m_dAsk m_tape m_taped m_pos m_from m_sort m_value m_fault m_wrongAt m_manyA m_rowA m_manyB m_rowB m_places m_xs m_ys m_heights m_ridges m_rx m_rHeight m_lanes m_sizes m_cells m_left m_calls m_cDay m_cHour m_cFrom m_cAsk m_cWord m_cOf m_isLie m_children m_learned m_group) sz) := by
  refine Met.ofW (cc := cX9_rowOf) (maxL := 7) (ret := (some .int)) (by decide) rfl ?_
  intro p e s m args below meth c s₁ B hml hv
  obtain ⟨rfl, hsz, hP, hK, hD0, hE⟩ := hv
  have hx := B.exec
  have hb := B.bytes
  have hr := B.returns
  have hts := atoms_spec (ws := wsX9_rowOf) B.pre
  have hown : s.vm.findClass RX9 = some m.cls := findClass_of_methodNamed B.named
  have hlocks := B.notSynchronized
  subst hsz
  have hD := hD0.self (sz := s.heap.size)
  have hA : ∀ q : Nat, s.heap.size ≤ q → va_A (wM cB cI cJ cZ a m_letters m_words m_wMany m_wLetters m_asks m_aWords m_dLetters m_dWords m_dMany m_dText m_dAsks m_dAsk m_tape m_taped m_pos m_from m_sort m_value m_fault m_wrongAt m_manyA m_rowA m_manyB m_rowB m_places m_xs m_ys m_heights m_ridges m_rx m_rHeight m_lanes m_sizes m_cells m_left m_calls m_cDay m_cHour m_cFrom m_cAsk m_cWord m_cOf m_isLie m_children m_learned m_group) s.heap.size q := fun q h => Or.inr h
  generalize va_A (wM cB cI cJ cZ a m_letters m_words m_wMany m_wLetters m_asks m_aWords m_dLetters m_dWords m_dMany m_dText m_dAsks m_dAsk m_tape m_taped m_pos m_from m_sort m_value m_fault m_wrongAt m_manyA m_rowA m_manyB m_rowB m_places m_xs m_ys m_heights m_ridges m_rx m_rHeight m_lanes m_sizes m_cells m_left m_calls m_cDay m_cHour m_cFrom m_cAsk m_cWord m_cOf m_isLie m_children m_learned m_group) s.heap.size = A at hD hA hE ⊢
  have hS : va_S A s.heap s.heap [] := va_S.rf
  have C0 : cxt cX9_rowOf (some .int) 7 RX9 wsX9_rowOf (dC, dI) (tyz cB cI cJ cZ) E_0 A p s m ([.ref (a 0), .int x1, .int x2, .ref (a 10)] : List Value).toArray meth c := ⟨hx, hb, hr, hml, hown, hts, hlocks, hK, hA, hE⟩
  have hl := lv_entry ([.ref (a 0), .int x1, .int x2, .ref (a 10)]) (n := 7) (Nat.le_of_ble_eq_true rfl)
  rw [lg_entry_eq]
  generalize (lg_sl ([.ref (a 0), .int x1, .int x2, .ref (a 10)]) ++ List.replicate (7 - (lg_sl ([.ref (a 0), .int x1, .int x2, .ref (a 10)])).length) Slot.unset).toArray = ls at hl ⊢
  have hl : lv_has ls 7 [(0, .ref (a 0)), (1, .int x1), (2, .int x2), (3, .ref (a 10))] := hl
  unfold fX9_rowOf at h
  refine lv_iconst (v := 0) hx hb dX9_rowOf_0 (by decide) ?_
  refine lv_istore (lv' := [(4, .int (0 : Int32)), (0, .ref (a 0)), (1, .int x1), (2, .int x2), (3, .ref (a 10))]) hx hb dX9_rowOf_1 hl (by decide) rfl (fun ls hl => ?_)
  refine lv_iconst (v := 0) hx hb dX9_rowOf_3 (by decide) ?_
  refine lv_istore (lv' := [(5, .int (0 : Int32)), (4, .int (0 : Int32)), (0, .ref (a 0)), (1, .int x1), (2, .int x2), (3, .ref (a 10))]) hx hb dX9_rowOf_4 hl (by decide) rfl (fun ls hl => ?_)
  exact kX9_rowOf_rowA_p6 dC dI cB cI cJ cZ a C0 n m_letters m_words m_wMany m_wLetters m_asks m_aWords m_dLetters m_dWords m_dMany m_dText m_dAsks m_dAsk m_tape m_taped m_pos m_from m_sort m_value m_fault m_wrongAt m_manyA m_rowA m_manyB m_rowB m_places m_xs m_ys m_heights m_ridges m_rx m_rHeight m_lanes m_sizes m_cells m_left m_calls m_cDay m_cHour m_cFrom m_cAsk m_cWord m_cOf m_isLie m_children m_learned m_group x1 x2 (0 : Int32) (0 : Int32) r0 z_m_rowA  n _ _ ls h hP hD hS (lv_sub hl [2, 3, 4, 5, 1, 0] rfl)
set_option maxHeartbeats 4000000 in
set_option maxRecDepth 100000 in
theorem kX9_word_p130 {p : Program} {l : Launch} {e : Env} {s : State} {m : MethodId} {args : Array Value} {below : List Frame} {meth : Method} {c : Code} {A : Nat → Prop} (dC : Nat → ClassId) (dI : Nat → Nat → Nat) (cB cI cJ cZ : ClassId) (a : Nat → Nat) (C0 : cxt cX9_word (some .int) 6 RX9 wsX9_word (dC, dI) (tyz cB cI cJ cZ) E_0 A p s m args meth c) (n : Nat) (m_letters : Nat → Int32) (m_words : Int32) (m_wMany : Nat → Int32) (m_wLetters : Nat → Int32) (m_asks : Int32) (m_aWords : Nat → Int32) (m_dLetters : Nat → Int32) (m_dWords : Int32) (m_dMany : Nat → Int32) (m_dText : Nat → Int32) (m_dAsks : Int32) (m_dAsk : Nat → Int32) (m_tape : Nat → Int32) (m_taped : Int32) (m_pos : Int32) (m_from : Int32) (m_sort : Int32) (m_value : Int32) (m_fault : Int32) (m_wrongAt : Int32) (m_manyA : Int32) (m_rowA : Nat → Int32) (m_manyB : Int32) (m_rowB : Nat → Int32) (m_places : Int32) (m_xs : Nat → Int32) (m_ys : Nat → Int32) (m_heights : Nat → Int32) (m_ridges : Int32) (m_rx : Nat → Int32) (m_rHeight : Nat → Int32) (m_lanes : Nat → Int32) (m_sizes : Nat → Int32) (m_cells : Nat → Int32) (m_left : Nat → Int32) (m_calls : Int32) (m_cDay : Nat → Int32) (m_cHour : Nat → Int32) (m_cFrom : Nat → Int32) (m_cAsk : Nat → Int32) (m_cWord : Nat → Int32) (m_cOf : Nat → Int32) (m_isLie : Nat → Int32) (m_children : Int32) (m_learned : Nat → Int32) (m_group : Nat → Int32)  (x1 : Int32) (x2 : Int32) (x3 : Int32) (x4 : Int32)  (r0 : Int32) (z_m_manyA : Int32) (z_m_rowA : Nat → Int32)  (H : Heap) (locs : List Loc) (ls : Array Slot) : fX9_word_p130 n m_wMany m_manyA m_rowA x1 x2 x3 x4 = some (r0, z_m_manyA, z_m_rowA) → va_P (dC, dI) vwCl (wM cB cI cJ cZ a m_letters m_words m_wMany m_wLetters m_asks m_aWords m_dLetters m_dWords m_dMany m_dText m_dAsks m_dAsk m_tape m_taped m_pos m_from m_sort m_value m_fault m_wrongAt m_manyA m_rowA m_manyB m_rowB m_places m_xs m_ys m_heights m_ridges m_rx m_rHeight m_lanes m_sizes m_cells m_left m_calls m_cDay m_cHour m_cFrom m_cAsk m_cWord m_cOf m_isLie m_children m_learned m_group) H → va_D A (wM cB cI cJ cZ a m_letters m_words m_wMany m_wLetters m_asks m_aWords m_dLetters m_dWords m_dMany m_dText m_dAsks m_dAsk m_tape m_taped m_pos m_from m_sort m_value m_fault m_wrongAt m_manyA m_rowA m_manyB m_rowB m_places m_xs m_ys m_heights m_ridges m_rx m_rHeight m_lanes m_sizes m_cells m_left m_calls m_cDay m_cHour m_cFrom m_cAsk m_cWord m_cOf m_isLie m_children m_learned m_group) → va_S A s.heap H locs → lv_has ls 6 [(0, .ref (a 0)), (1, .int x1), (2, .int x2), (3, .int x3), (4, .int x4)] → W p l e { frames := 2, cells := 0, slots := 0, locals := 47 } s m args below meth c H locs 0 0 (MQ below (gI (dC, dI) (tyz cB cI cJ cZ) (wM cB cI cJ cZ a m_letters m_words m_wMany m_wLetters m_asks m_aWords m_dLetters m_dWords m_dMany m_dText m_dAsks m_dAsk m_tape m_taped m_pos m_from m_sort m_value m_fault m_wrongAt z_m_manyA z_m_rowA m_manyB m_rowB m_places m_xs m_ys m_heights m_ridges m_rx m_rHeight m_lanes m_sizes m_cells m_left m_calls m_cDay m_cHour m_cFrom m_cAsk m_cWord m_cOf m_isLie m_children m_learned m_group) A r0) args s 0 0 A) (F0 m 130 ls []) := by
  intro h hP hD hS hl
  obtain ⟨hx, hb, hr, hml, hown, hts, hlocks, hK, hA, hE⟩ := id C0
  have hw0 := hts (.fieldLink RX9 206 "WhistledWordsModel" "manyA" "I") (by decide +kernel)
  have hw1 := hts (.fieldLink RX9 13 "WhistledWordsModel" "wMany" "[I") (by decide +kernel)
  have hnX9 : ∀ w ∈ u_ws RX9 TX9 46, w ∈ wsX9_word := fun _ h => List.mem_cons_of_mem _ (List.mem_append_right _ h)
  unfold fX9_word_p130 at h
  refine lv_iload_n hx hb dX9_word_130 rfl (lv_at hl 2 rfl) ?_
  refine lv_if_ne (tgt := 143) hx hb dX9_word_131 (by decide) (fun c1 => ?_) (fun c1 => ?_)
  · have h := ie_use c1 h
    refine lv_iload_n hx hb dX9_word_143 rfl (lv_at hl 2 rfl) ?_
    refine lv_iconst (v := 1) hx hb dX9_word_144 (by decide) ?_
    refine lv_icmp_ne (tgt := 155) hx hb dX9_word_145 (by decide) (fun c2 => ?_) (fun c2 => ?_)
    · have h := ie_use c2 h
      refine lv_iload_n hx hb dX9_word_155 rfl (lv_at hl 2 rfl) ?_
      refine lv_iconst (v := 2) hx hb dX9_word_156 (by decide) ?_
      refine lv_icmp_ne (tgt := 164) hx hb dX9_word_157 (by decide) (fun c3 => ?_) (fun c3 => ?_)
      · have h := ie_use c3 h
        refine lv_iload_n hx hb dX9_word_164 rfl (lv_at hl 2 rfl) ?_
        refine lv_iconst (v := 3) hx hb dX9_word_165 (by decide) ?_
        refine lv_icmp_ne (tgt := 174) hx hb dX9_word_166 (by decide) (fun c4 => ?_) (fun c4 => ?_)
        · have h := ie_use c4 h
          refine lv_iconst (v := -1) hx hb dX9_word_174 (by decide) ?_
          obtain ⟨er, ez0, ez1⟩ := rt3_use h
          subst ez0
          subst ez1
          exact re_i hx hb hr hlocks hK hP hD hS er dX9_word_175
        · have h := it_use c4 h
          refine lv_iload hx hb dX9_word_169 (lv_at hl 4 rfl) ?_
          refine lv_goto (tgt := 175) hx hb dX9_word_171 (by decide) ?_
          obtain ⟨er, ez0, ez1⟩ := rt3_use h
          subst ez0
          subst ez1
          exact re_i hx hb hr hlocks hK hP hD hS er dX9_word_175
      · have h := it_use c3 h
        refine lv_iload_n hx hb dX9_word_160 rfl (lv_at hl 3 rfl) ?_
        refine lv_goto (tgt := 175) hx hb dX9_word_161 (by decide) ?_
        obtain ⟨er, ez0, ez1⟩ := rt3_use h
        subst ez0
        subst ez1
        exact re_i hx hb hr hlocks hK hP hD hS er dX9_word_175
    · have h := it_use c2 h
      refine lv_aload_n hx hb dX9_word_148 rfl (lv_at hl 0 rfl) ?_
      refine gM_mo_manyA hx hb hts hnX9 hown hK hP hw0 dX9_word_149 ?_
      refine lv_goto (tgt := 175) hx hb dX9_word_152 (by decide) ?_
      obtain ⟨er, ez0, ez1⟩ := rt3_use h
      subst ez0
      subst ez1
      exact re_i hx hb hr hlocks hK hP hD hS er dX9_word_175
  · have h := it_use c1 h
    refine lv_aload_n hx hb dX9_word_134 rfl (lv_at hl 0 rfl) ?_
    refine gM_mo_wMany hx hb hts hnX9 hown hK hP hw1 dX9_word_135 ?_
    refine lv_iload_n hx hb dX9_word_138 rfl (lv_at hl 1 rfl) ?_
    obtain ⟨hiv5, h⟩ := ar_use h
    refine lM_mo_wMany hx hb hK hP hiv5 dX9_word_139 ?_
    refine lv_topi (fun v5 ev5 => ?_)
    have h := h v5 ev5
    refine lv_goto (tgt := 175) hx hb dX9_word_140 (by decide) ?_
    obtain ⟨er, ez0, ez1⟩ := rt3_use h
    subst ez0
    subst ez1
    exact re_i hx hb hr hlocks hK hP hD hS er dX9_word_175
set_option maxHeartbeats 4000000 in
set_option maxRecDepth 100000 in
theorem kX9_word_p99_r {p : Program} {l : Launch} {e : Env} {s : State} {m : MethodId} {args : Array Value} {below : List Frame} {meth : Method} {c : Code} {A : Nat → Prop} (dC : Nat → ClassId) (dI : Nat → Nat → Nat) (cB cI cJ cZ : ClassId) (a : Nat → Nat) (C0 : cxt cX9_word (some .int) 6 RX9 wsX9_word (dC, dI) (tyz cB cI cJ cZ) E_0 A p s m args meth c) (n : Nat) (m_letters : Nat → Int32) (m_words : Int32) (m_wMany : Nat → Int32) (m_wLetters : Nat → Int32) (m_asks : Int32) (m_aWords : Nat → Int32) (m_dLetters : Nat → Int32) (m_dWords : Int32) (m_dMany : Nat → Int32) (m_dText : Nat → Int32) (m_dAsks : Int32) (m_dAsk : Nat → Int32) (m_tape : Nat → Int32) (m_taped : Int32) (m_pos : Int32) (m_from : Int32) (m_sort : Int32) (m_value : Int32) (m_fault : Int32) (m_wrongAt : Int32) (m_manyA : Int32) (m_rowA : Nat → Int32) (m_manyB : Int32) (m_rowB : Nat → Int32) (m_places : Int32) (m_xs : Nat → Int32) (m_ys : Nat → Int32) (m_heights : Nat → Int32) (m_ridges : Int32) (m_rx : Nat → Int32) (m_rHeight : Nat → Int32) (m_lanes : Nat → Int32) (m_sizes : Nat → Int32) (m_cells : Nat → Int32) (m_left : Nat → Int32) (m_calls : Int32) (m_cDay : Nat → Int32) (m_cHour : Nat → Int32) (m_cFrom : Nat → Int32) (m_cAsk : Nat → Int32) (m_cWord : Nat → Int32) (m_cOf : Nat → Int32) (m_isLie : Nat → Int32) (m_children : Int32) (m_learned : Nat → Int32) (m_group : Nat → Int32) (x1 : Int32) (x2 : Int32) (x3 : Int32) (r0 : Int32) (z_m_manyA : Int32) (z_m_rowA : Nat → Int32)  : ∀ (k : Nat) (x4 : Int32) (x5 : Int32) (H : Heap) (locs : List Loc) (ls : Array Slot), fX9_word_p99 n m_wMany m_asks m_aWords m_manyA m_rowA x1 x2 x3 k x4 x5 = some (r0, z_m_manyA, z_m_rowA) → va_P (dC, dI) vwCl (wM cB cI cJ cZ a m_letters m_words m_wMany m_wLetters m_asks m_aWords m_dLetters m_dWords m_dMany m_dText m_dAsks m_dAsk m_tape m_taped m_pos m_from m_sort m_value m_fault m_wrongAt m_manyA m_rowA m_manyB m_rowB m_places m_xs m_ys m_heights m_ridges m_rx m_rHeight m_lanes m_sizes m_cells m_left m_calls m_cDay m_cHour m_cFrom m_cAsk m_cWord m_cOf m_isLie m_children m_learned m_group) H → va_D A (wM cB cI cJ cZ a m_letters m_words m_wMany m_wLetters m_asks m_aWords m_dLetters m_dWords m_dMany m_dText m_dAsks m_dAsk m_tape m_taped m_pos m_from m_sort m_value m_fault m_wrongAt m_manyA m_rowA m_manyB m_rowB m_places m_xs m_ys m_heights m_ridges m_rx m_rHeight m_lanes m_sizes m_cells m_left m_calls m_cDay m_cHour m_cFrom m_cAsk m_cWord m_cOf m_isLie m_children m_learned m_group) → va_S A s.heap H locs → lv_has ls 6 [(0, .ref (a 0)), (1, .int x1), (2, .int x2), (3, .int x3), (4, .int x4), (5, .int x5)] → W p l e { frames := 2, cells := 0, slots := 0, locals := 47 } s m args below meth c H locs 0 0 (MQ below (gI (dC, dI) (tyz cB cI cJ cZ) (wM cB cI cJ cZ a m_letters m_words m_wMany m_wLetters m_asks m_aWords m_dLetters m_dWords m_dMany m_dText m_dAsks m_dAsk m_tape m_taped m_pos m_from m_sort m_value m_fault m_wrongAt z_m_manyA z_m_rowA m_manyB m_rowB m_places m_xs m_ys m_heights m_ridges m_rx m_rHeight m_lanes m_sizes m_cells m_left m_calls m_cDay m_cHour m_cFrom m_cAsk m_cWord m_cOf m_isLie m_children m_learned m_group) A r0) args s 0 0 A) (F0 m 99 ls []) := by
  obtain ⟨hx, hb, hr, hml, hown, hts, hlocks, hK, hA, hE⟩ := id C0
  have hw0 := hts (.fieldLink RX9 189 "WhistledWordsModel" "asks" "I") (by decide +kernel)
  have hw1 := hts (.fieldLink RX9 19 "WhistledWordsModel" "aWords" "[I") (by decide +kernel)
  have hnX9 : ∀ w ∈ u_ws RX9 TX9 46, w ∈ wsX9_word := fun _ h => List.mem_cons_of_mem _ (List.mem_append_right _ h)
  intro k
  induction k with
  | zero =>
    intro x4 x5 H locs ls h
    cases h
  | succ k ih =>
    intro x4 x5 H locs ls h hP hD hS hl
    rw [fX9_word_p99] at h
    refine lv_iload hx hb dX9_word_99 (lv_at hl 5 rfl) ?_
    refine lv_aload_n hx hb dX9_word_101 rfl (lv_at hl 0 rfl) ?_
    refine gM_mo_asks hx hb hts hnX9 hown hK hP hw0 dX9_word_102 ?_
    refine lv_icmp_ge (tgt := 130) hx hb dX9_word_105 (by decide) (fun c1 => ?_) (fun c1 => ?_)
    · have h := it_use c1 h
      exact kX9_word_p130 dC dI cB cI cJ cZ a C0 n m_letters m_words m_wMany m_wLetters m_asks m_aWords m_dLetters m_dWords m_dMany m_dText m_dAsks m_dAsk m_tape m_taped m_pos m_from m_sort m_value m_fault m_wrongAt m_manyA m_rowA m_manyB m_rowB m_places m_xs m_ys m_heights m_ridges m_rx m_rHeight m_lanes m_sizes m_cells m_left m_calls m_cDay m_cHour m_cFrom m_cAsk m_cWord m_cOf m_isLie m_children m_learned m_group x1 x2 x3 x4  r0 z_m_manyA z_m_rowA  _ _ ls h hP hD hS (lv_sub hl [0, 1, 2, 3, 4] rfl)
    · have h := ie_use c1 h
      refine lv_iload hx hb dX9_word_108 (lv_at hl 4 rfl) ?_
      refine lv_aload_n hx hb dX9_word_110 rfl (lv_at hl 0 rfl) ?_
      refine gM_mo_aWords hx hb hts hnX9 hown hK hP hw1 dX9_word_111 ?_
      refine lv_iload hx hb dX9_word_114 (lv_at hl 5 rfl) ?_
      obtain ⟨hiv2, h⟩ := ar_use h
      refine lM_mo_aWords hx hb hK hP hiv2 dX9_word_116 ?_
      refine lv_topi (fun v2 ev2 => ?_)
      have h := h v2 ev2
      refine lv_iload_n hx hb dX9_word_117 rfl (lv_at hl 1 rfl) ?_
      refine lv_ishr hx hb dX9_word_118 ?_
      refine lv_iconst (v := 1) hx hb dX9_word_119 (by decide) ?_
      refine lv_iand hx hb dX9_word_120 ?_
      refine lv_iadd hx hb dX9_word_121 ?_
      refine lv_topi (fun v3 ev3 => ?_)
      have h := nm_use ev3 h
      refine lv_istore (lv' := [(4, .int v3), (0, .ref (a 0)), (1, .int x1), (2, .int x2), (3, .int x3), (5, .int x5)]) hx hb dX9_word_122 hl (by decide) rfl (fun ls hl => ?_)
      refine lv_iinc (v := x5 + 1) (lv' := [(5, .int (x5 + 1)), (4, .int v3), (0, .ref (a 0)), (1, .int x1), (2, .int x2), (3, .int x3)]) hx hb dX9_word_124 hl (k := 5) rfl rfl (by decide) rfl (fun ls hl => ?_)
      refine lv_goto (tgt := 99) hx hb dX9_word_127 (by decide) ?_
      exact ih v3 (x5 + 1) _ _ ls h hP hD hS (lv_sub hl [2, 3, 4, 5, 1, 0] rfl)
theorem kX9_word_p99 {p : Program} {l : Launch} {e : Env} {s : State} {m : MethodId} {args : Array Value} {below : List Frame} {meth : Method} {c : Code} {A : Nat → Prop} (dC : Nat → ClassId) (dI : Nat → Nat → Nat) (cB cI cJ cZ : ClassId) (a : Nat → Nat) (C0 : cxt cX9_word (some .int) 6 RX9 wsX9_word (dC, dI) (tyz cB cI cJ cZ) E_0 A p s m args meth c) (n : Nat) (m_letters : Nat → Int32) (m_words : Int32) (m_wMany : Nat → Int32) (m_wLetters : Nat → Int32) (m_asks : Int32) (m_aWords : Nat → Int32) (m_dLetters : Nat → Int32) (m_dWords : Int32) (m_dMany : Nat → Int32) (m_dText : Nat → Int32) (m_dAsks : Int32) (m_dAsk : Nat → Int32) (m_tape : Nat → Int32) (m_taped : Int32) (m_pos : Int32) (m_from : Int32) (m_sort : Int32) (m_value : Int32) (m_fault : Int32) (m_wrongAt : Int32) (m_manyA : Int32) (m_rowA : Nat → Int32) (m_manyB : Int32) (m_rowB : Nat → Int32) (m_places : Int32) (m_xs : Nat → Int32) (m_ys : Nat → Int32) (m_heights : Nat → Int32) (m_ridges : Int32) (m_rx : Nat → Int32) (m_rHeight : Nat → Int32) (m_lanes : Nat → Int32) (m_sizes : Nat → Int32) (m_cells : Nat → Int32) (m_left : Nat → Int32) (m_calls : Int32) (m_cDay : Nat → Int32) (m_cHour : Nat → Int32) (m_cFrom : Nat → Int32) (m_cAsk : Nat → Int32) (m_cWord : Nat → Int32) (m_cOf : Nat → Int32) (m_isLie : Nat → Int32) (m_children : Int32) (m_learned : Nat → Int32) (m_group : Nat → Int32)  (x1 : Int32) (x2 : Int32) (x3 : Int32) (x4 : Int32) (x5 : Int32) (r0 : Int32) (z_m_manyA : Int32) (z_m_rowA : Nat → Int32)  (k : Nat) (H : Heap) (locs : List Loc) (ls : Array Slot) : fX9_word_p99 n m_wMany m_asks m_aWords m_manyA m_rowA x1 x2 x3 k x4 x5 = some (r0, z_m_manyA, z_m_rowA) → va_P (dC, dI) vwCl (wM cB cI cJ cZ a m_letters m_words m_wMany m_wLetters m_asks m_aWords m_dLetters m_dWords m_dMany m_dText m_dAsks m_dAsk m_tape m_taped m_pos m_from m_sort m_value m_fault m_wrongAt m_manyA m_rowA m_manyB m_rowB m_places m_xs m_ys m_heights m_ridges m_rx m_rHeight m_lanes m_sizes m_cells m_left m_calls m_cDay m_cHour m_cFrom m_cAsk m_cWord m_cOf m_isLie m_children m_learned m_group) H → va_D A (wM cB cI cJ cZ a m_letters m_words m_wMany m_wLetters m_asks m_aWords m_dLetters m_dWords m_dMany m_dText m_dAsks m_dAsk m_tape m_taped m_pos m_from m_sort m_value m_fault m_wrongAt m_manyA m_rowA m_manyB m_rowB m_places m_xs m_ys m_heights m_ridges m_rx m_rHeight m_lanes m_sizes m_cells m_left m_calls m_cDay m_cHour m_cFrom m_cAsk m_cWord m_cOf m_isLie m_children m_learned m_group) → va_S A s.heap H locs → lv_has ls 6 [(0, .ref (a 0)), (1, .int x1), (2, .int x2), (3, .int x3), (4, .int x4), (5, .int x5)] → W p l e { frames := 2, cells := 0, slots := 0, locals := 47 } s m args below meth c H locs 0 0 (MQ below (gI (dC, dI) (tyz cB cI cJ cZ) (wM cB cI cJ cZ a m_letters m_words m_wMany m_wLetters m_asks m_aWords m_dLetters m_dWords m_dMany m_dText m_dAsks m_dAsk m_tape m_taped m_pos m_from m_sort m_value m_fault m_wrongAt z_m_manyA z_m_rowA m_manyB m_rowB m_places m_xs m_ys m_heights m_ridges m_rx m_rHeight m_lanes m_sizes m_cells m_left m_calls m_cDay m_cHour m_cFrom m_cAsk m_cWord m_cOf m_isLie m_children m_learned m_group) A r0) args s 0 0 A) (F0 m 99 ls []) :=
  kX9_word_p99_r dC dI cB cI cJ cZ a C0 n m_letters m_words m_wMany m_wLetters m_asks m_aWords m_dLetters m_dWords m_dMany m_dText m_dAsks m_dAsk m_tape m_taped m_pos m_from m_sort m_value m_fault m_wrongAt m_manyA m_rowA m_manyB m_rowB m_places m_xs m_ys m_heights m_ridges m_rx m_rHeight m_lanes m_sizes m_cells m_left m_calls m_cDay m_cHour m_cFrom m_cAsk m_cWord m_cOf m_isLie m_children m_learned m_group x1 x2 x3 r0 z_m_manyA z_m_rowA  k x4 x5 H locs ls
set_option maxHeartbeats 4000000 in
set_option maxRecDepth 100000 in
theorem kX9_word_p58_r {p : Program} {l : Launch} {e : Env} {s : State} {m : MethodId} {args : Array Value} {below : List Frame} {meth : Method} {c : Code} {A : Nat → Prop} (dC : Nat → ClassId) (dI : Nat → Nat → Nat) (cB cI cJ cZ : ClassId) (a : Nat → Nat) (C0 : cxt cX9_word (some .int) 6 RX9 wsX9_word (dC, dI) (tyz cB cI cJ cZ) E_0 A p s m args meth c) (n : Nat) (m_letters : Nat → Int32) (m_words : Int32) (m_wMany : Nat → Int32) (m_wLetters : Nat → Int32) (m_asks : Int32) (m_aWords : Nat → Int32) (m_dLetters : Nat → Int32) (m_dWords : Int32) (m_dMany : Nat → Int32) (m_dText : Nat → Int32) (m_dAsks : Int32) (m_dAsk : Nat → Int32) (m_tape : Nat → Int32) (m_taped : Int32) (m_pos : Int32) (m_from : Int32) (m_sort : Int32) (m_value : Int32) (m_fault : Int32) (m_wrongAt : Int32) (m_manyA : Int32) (m_rowA : Nat → Int32) (m_manyB : Int32) (m_rowB : Nat → Int32) (m_places : Int32) (m_xs : Nat → Int32) (m_ys : Nat → Int32) (m_heights : Nat → Int32) (m_ridges : Int32) (m_rx : Nat → Int32) (m_rHeight : Nat → Int32) (m_lanes : Nat → Int32) (m_sizes : Nat → Int32) (m_cells : Nat → Int32) (m_left : Nat → Int32) (m_calls : Int32) (m_cDay : Nat → Int32) (m_cHour : Nat → Int32) (m_cFrom : Nat → Int32) (m_cAsk : Nat → Int32) (m_cWord : Nat → Int32) (m_cOf : Nat → Int32) (m_isLie : Nat → Int32) (m_children : Int32) (m_learned : Nat → Int32) (m_group : Nat → Int32) (x1 : Int32) (x2 : Int32) (r0 : Int32) (z_m_manyA : Int32) (z_m_rowA : Nat → Int32)  : ∀ (k : Nat) (x3 : Int32) (x4 : Int32) (H : Heap) (locs : List Loc) (ls : Array Slot), fX9_word_p58 n m_wMany m_asks m_aWords m_manyA m_rowA x1 x2 k x3 x4 = some (r0, z_m_manyA, z_m_rowA) → va_P (dC, dI) vwCl (wM cB cI cJ cZ a m_letters m_words m_wMany m_wLetters m_asks m_aWords m_dLetters m_dWords m_dMany m_dText m_dAsks m_dAsk m_tape m_taped m_pos m_from m_sort m_value m_fault m_wrongAt m_manyA m_rowA m_manyB m_rowB m_places m_xs m_ys m_heights m_ridges m_rx m_rHeight m_lanes m_sizes m_cells m_left m_calls m_cDay m_cHour m_cFrom m_cAsk m_cWord m_cOf m_isLie m_children m_learned m_group) H → va_D A (wM cB cI cJ cZ a m_letters m_words m_wMany m_wLetters m_asks m_aWords m_dLetters m_dWords m_dMany m_dText m_dAsks m_dAsk m_tape m_taped m_pos m_from m_sort m_value m_fault m_wrongAt m_manyA m_rowA m_manyB m_rowB m_places m_xs m_ys m_heights m_ridges m_rx m_rHeight m_lanes m_sizes m_cells m_left m_calls m_cDay m_cHour m_cFrom m_cAsk m_cWord m_cOf m_isLie m_children m_learned m_group) → va_S A s.heap H locs → lv_has ls 6 [(0, .ref (a 0)), (1, .int x1), (2, .int x2), (3, .int x3), (4, .int x4)] → W p l e { frames := 2, cells := 0, slots := 0, locals := 47 } s m args below meth c H locs 0 0 (MQ below (gI (dC, dI) (tyz cB cI cJ cZ) (wM cB cI cJ cZ a m_letters m_words m_wMany m_wLetters m_asks m_aWords m_dLetters m_dWords m_dMany m_dText m_dAsks m_dAsk m_tape m_taped m_pos m_from m_sort m_value m_fault m_wrongAt z_m_manyA z_m_rowA m_manyB m_rowB m_places m_xs m_ys m_heights m_ridges m_rx m_rHeight m_lanes m_sizes m_cells m_left m_calls m_cDay m_cHour m_cFrom m_cAsk m_cWord m_cOf m_isLie m_children m_learned m_group) A r0) args s 0 0 A) (F0 m 58 ls []) := by
  obtain ⟨hx, hb, hr, hml, hown, hts, hlocks, hK, hA, hE⟩ := id C0
  have hw0 := hts (.fieldLink RX9 206 "WhistledWordsModel" "manyA" "I") (by decide +kernel)
  have hw1 := hts (.fieldLink RX9 37 "WhistledWordsModel" "rowA" "[I") (by decide +kernel)
  have hnX9 : ∀ w ∈ u_ws RX9 TX9 46, w ∈ wsX9_word := fun _ h => List.mem_cons_of_mem _ (List.mem_append_right _ h)
  intro k
  induction k with
  | zero =>
    intro x3 x4 H locs ls h
    cases h
  | succ k ih =>
    intro x3 x4 H locs ls h hP hD hS hl
    rw [fX9_word_p58] at h
    refine lv_iload hx hb dX9_word_58 (lv_at hl 4 rfl) ?_
    refine lv_aload_n hx hb dX9_word_60 rfl (lv_at hl 0 rfl) ?_
    refine gM_mo_manyA hx hb hts hnX9 hown hK hP hw0 dX9_word_61 ?_
    refine lv_icmp_ge (tgt := 93) hx hb dX9_word_64 (by decide) (fun c1 => ?_) (fun c1 => ?_)
    · have h := it_use c1 h
      refine lv_iconst (v := 0) hx hb dX9_word_93 (by decide) ?_
      refine lv_istore (lv' := [(4, .int (0 : Int32)), (0, .ref (a 0)), (1, .int x1), (2, .int x2), (3, .int x3)]) hx hb dX9_word_94 hl (by decide) rfl (fun ls hl => ?_)
      refine lv_iconst (v := 0) hx hb dX9_word_96 (by decide) ?_
      refine lv_istore (lv' := [(5, .int (0 : Int32)), (4, .int (0 : Int32)), (0, .ref (a 0)), (1, .int x1), (2, .int x2), (3, .int x3)]) hx hb dX9_word_97 hl (by decide) rfl (fun ls hl => ?_)
      exact kX9_word_p99 dC dI cB cI cJ cZ a C0 n m_letters m_words m_wMany m_wLetters m_asks m_aWords m_dLetters m_dWords m_dMany m_dText m_dAsks m_dAsk m_tape m_taped m_pos m_from m_sort m_value m_fault m_wrongAt m_manyA m_rowA m_manyB m_rowB m_places m_xs m_ys m_heights m_ridges m_rx m_rHeight m_lanes m_sizes m_cells m_left m_calls m_cDay m_cHour m_cFrom m_cAsk m_cWord m_cOf m_isLie m_children m_learned m_group x1 x2 x3 (0 : Int32) (0 : Int32) r0 z_m_manyA z_m_rowA  n _ _ ls h hP hD hS (lv_sub hl [2, 3, 4, 5, 1, 0] rfl)
    · have h := ie_use c1 h
      refine lv_iload_n hx hb dX9_word_67 rfl (lv_at hl 3 rfl) ?_
      refine lv_aload_n hx hb dX9_word_68 rfl (lv_at hl 0 rfl) ?_
      refine gM_mo_rowA hx hb hts hnX9 hown hK hP hw1 dX9_word_69 ?_
      refine lv_iload hx hb dX9_word_72 (lv_at hl 4 rfl) ?_
      obtain ⟨hiv2, h⟩ := ar_use h
      refine lM_mo_rowA hx hb hK hP hiv2 dX9_word_74 ?_
      refine lv_topi (fun v2 ev2 => ?_)
      have h := h v2 ev2
      refine lv_bipush (v := 16) hx hb dX9_word_75 (by decide) ?_
      refine lv_icmp_ge (tgt := 84) hx hb dX9_word_77 (by decide) (fun c3 => ?_) (fun c3 => ?_)
      · have h := it_use c3 h
        refine lv_iconst (v := 0) hx hb dX9_word_84 (by decide) ?_
        refine lv_iadd hx hb dX9_word_85 ?_
        refine lv_topi (fun v4 ev4 => ?_)
        have h := nm_use ev4 h
        refine lv_istore_n (lv' := [(3, .int v4), (0, .ref (a 0)), (1, .int x1), (2, .int x2), (4, .int x4)]) hx hb dX9_word_86 rfl hl (by decide) rfl (fun ls hl => ?_)
        refine lv_iinc (v := x4 + 1) (lv' := [(4, .int (x4 + 1)), (3, .int v4), (0, .ref (a 0)), (1, .int x1), (2, .int x2)]) hx hb dX9_word_87 hl (k := 4) rfl rfl (by decide) rfl (fun ls hl => ?_)
        refine lv_goto (tgt := 58) hx hb dX9_word_90 (by decide) ?_
        exact ih v4 (x4 + 1) _ _ ls h hP hD hS (lv_sub hl [2, 3, 4, 1, 0] rfl)
      · have h := ie_use c3 h
        refine lv_iconst (v := 1) hx hb dX9_word_80 (by decide) ?_
        refine lv_goto (tgt := 85) hx hb dX9_word_81 (by decide) ?_
        refine lv_iadd hx hb dX9_word_85 ?_
        refine lv_topi (fun v5 ev5 => ?_)
        have h := nm_use ev5 h
        refine lv_istore_n (lv' := [(3, .int v5), (0, .ref (a 0)), (1, .int x1), (2, .int x2), (4, .int x4)]) hx hb dX9_word_86 rfl hl (by decide) rfl (fun ls hl => ?_)
        refine lv_iinc (v := x4 + 1) (lv' := [(4, .int (x4 + 1)), (3, .int v5), (0, .ref (a 0)), (1, .int x1), (2, .int x2)]) hx hb dX9_word_87 hl (k := 4) rfl rfl (by decide) rfl (fun ls hl => ?_)
        refine lv_goto (tgt := 58) hx hb dX9_word_90 (by decide) ?_
        exact ih v5 (x4 + 1) _ _ ls h hP hD hS (lv_sub hl [2, 3, 4, 1, 0] rfl)
theorem kX9_word_p58 {p : Program} {l : Launch} {e : Env} {s : State} {m : MethodId} {args : Array Value} {below : List Frame} {meth : Method} {c : Code} {A : Nat → Prop} (dC : Nat → ClassId) (dI : Nat → Nat → Nat) (cB cI cJ cZ : ClassId) (a : Nat → Nat) (C0 : cxt cX9_word (some .int) 6 RX9 wsX9_word (dC, dI) (tyz cB cI cJ cZ) E_0 A p s m args meth c) (n : Nat) (m_letters : Nat → Int32) (m_words : Int32) (m_wMany : Nat → Int32) (m_wLetters : Nat → Int32) (m_asks : Int32) (m_aWords : Nat → Int32) (m_dLetters : Nat → Int32) (m_dWords : Int32) (m_dMany : Nat → Int32) (m_dText : Nat → Int32) (m_dAsks : Int32) (m_dAsk : Nat → Int32) (m_tape : Nat → Int32) (m_taped : Int32) (m_pos : Int32) (m_from : Int32) (m_sort : Int32) (m_value : Int32) (m_fault : Int32) (m_wrongAt : Int32) (m_manyA : Int32) (m_rowA : Nat → Int32) (m_manyB : Int32) (m_rowB : Nat → Int32) (m_places : Int32) (m_xs : Nat → Int32) (m_ys : Nat → Int32) (m_heights : Nat → Int32) (m_ridges : Int32) (m_rx : Nat → Int32) (m_rHeight : Nat → Int32) (m_lanes : Nat → Int32) (m_sizes : Nat → Int32) (m_cells : Nat → Int32) (m_left : Nat → Int32) (m_calls : Int32) (m_cDay : Nat → Int32) (m_cHour : Nat → Int32) (m_cFrom : Nat → Int32) (m_cAsk : Nat → Int32) (m_cWord : Nat → Int32) (m_cOf : Nat → Int32) (m_isLie : Nat → Int32) (m_children : Int32) (m_learned : Nat → Int32) (m_group : Nat → Int32)  (x1 : Int32) (x2 : Int32) (x3 : Int32) (x4 : Int32) (r0 : Int32) (z_m_manyA : Int32) (z_m_rowA : Nat → Int32)  (k : Nat) (H : Heap) (locs : List Loc) (ls : Array Slot) : fX9_word_p58 n m_wMany m_asks m_aWords m_manyA m_rowA x1 x2 k x3 x4 = some (r0, z_m_manyA, z_m_rowA) → va_P (dC, dI) vwCl (wM cB cI cJ cZ a m_letters m_words m_wMany m_wLetters m_asks m_aWords m_dLetters m_dWords m_dMany m_dText m_dAsks m_dAsk m_tape m_taped m_pos m_from m_sort m_value m_fault m_wrongAt m_manyA m_rowA m_manyB m_rowB m_places m_xs m_ys m_heights m_ridges m_rx m_rHeight m_lanes m_sizes m_cells m_left m_calls m_cDay m_cHour m_cFrom m_cAsk m_cWord m_cOf m_isLie m_children m_learned m_group) H → va_D A (wM cB cI cJ cZ a m_letters m_words m_wMany m_wLetters m_asks m_aWords m_dLetters m_dWords m_dMany m_dText m_dAsks m_dAsk m_tape m_taped m_pos m_from m_sort m_value m_fault m_wrongAt m_manyA m_rowA m_manyB m_rowB m_places m_xs m_ys m_heights m_ridges m_rx m_rHeight m_lanes m_sizes m_cells m_left m_calls m_cDay m_cHour m_cFrom m_cAsk m_cWord m_cOf m_isLie m_children m_learned m_group) → va_S A s.heap H locs → lv_has ls 6 [(0, .ref (a 0)), (1, .int x1), (2, .int x2), (3, .int x3), (4, .int x4)] → W p l e { frames := 2, cells := 0, slots := 0, locals := 47 } s m args below meth c H locs 0 0 (MQ below (gI (dC, dI) (tyz cB cI cJ cZ) (wM cB cI cJ cZ a m_letters m_words m_wMany m_wLetters m_asks m_aWords m_dLetters m_dWords m_dMany m_dText m_dAsks m_dAsk m_tape m_taped m_pos m_from m_sort m_value m_fault m_wrongAt z_m_manyA z_m_rowA m_manyB m_rowB m_places m_xs m_ys m_heights m_ridges m_rx m_rHeight m_lanes m_sizes m_cells m_left m_calls m_cDay m_cHour m_cFrom m_cAsk m_cWord m_cOf m_isLie m_children m_learned m_group) A r0) args s 0 0 A) (F0 m 58 ls []) :=
  kX9_word_p58_r dC dI cB cI cJ cZ a C0 n m_letters m_words m_wMany m_wLetters m_asks m_aWords m_dLetters m_dWords m_dMany m_dText m_dAsks m_dAsk m_tape m_taped m_pos m_from m_sort m_value m_fault m_wrongAt m_manyA m_rowA m_manyB m_rowB m_places m_xs m_ys m_heights m_ridges m_rx m_rHeight m_lanes m_sizes m_cells m_left m_calls m_cDay m_cHour m_cFrom m_cAsk m_cWord m_cOf m_isLie m_children m_learned m_group x1 x2 r0 z_m_manyA z_m_rowA  k x3 x4 H locs ls
set_option maxHeartbeats 4000000 in
set_option maxRecDepth 100000 in
theorem kX9_word (l : Launch) (n : Nat) (dC : Nat → ClassId) (dI : Nat → Nat → Nat) (cB cI cJ cZ : ClassId) (a : Nat → Nat) (sz : Nat) (m_letters : Nat → Int32) (m_words : Int32) (m_wMany : Nat → Int32) (m_wLetters : Nat → Int32) (m_asks : Int32) (m_aWords : Nat → Int32) (m_dLetters : Nat → Int32) (m_dWords : Int32) (m_dMany : Nat → Int32) (m_dText : Nat → Int32) (m_dAsks : Int32) (m_dAsk : Nat → Int32) (m_tape : Nat → Int32) (m_taped : Int32) (m_pos : Int32) (m_from : Int32) (m_sort : Int32) (m_value : Int32) (m_fault : Int32) (m_wrongAt : Int32) (m_manyA : Int32) (m_rowA : Nat → Int32) (m_manyB : Int32) (m_rowB : Nat → Int32) (m_places : Int32) (m_xs : Nat → Int32) (m_ys : Nat → Int32) (m_heights : Nat → Int32) (m_ridges : Int32) (m_rx : Nat → Int32) (m_rHeight : Nat → Int32) (m_lanes : Nat → Int32) (m_sizes : Nat → Int32) (m_cells : Nat → Int32) (m_left : Nat → Int32) (m_calls : Int32) (m_cDay : Nat → Int32) (m_cHour : Nat → Int32) (m_cFrom : Nat → Int32) (m_cAsk : Nat → Int32) (m_cWord : Nat → Int32) (m_cOf : Nat → Int32) (m_isLie : Nat → Int32) (m_children : Int32) (m_learned : Nat → Int32) (m_group : Nat → Int32) (x1 : Int32) (x2 : Int32) (r0 : Int32) (z_m_manyA : Int32) (z_m_rowA : Nat → Int32) (h : fX9_word n m_letters m_words m_wMany m_wLetters m_asks m_aWords m_manyA m_rowA x1 x2 = some (r0, z_m_manyA, z_m_rowA)) : Met l yX9_word wsX9_word ({ frames := 2, cells := 0, slots := 0, locals := 47 }) (gP (dC, dI) (tyz cB cI cJ cZ) E_0 (wM cB cI cJ cZ a m_letters m_words m_wMany m_wLetters m_asks m_aWords m_dLetters m_dWords m_dMany m_dText m_dAsks m_dAsk m_tape m_taped m_pos m_from m_sort m_value m_fault m_wrongAt m_manyA m_rowA m_manyB m_rowB m_places m_xs m_ys m_heights m_ridges m_rx m_rHeight m_lanes m_sizes m_cells m_left m_calls m_cDay m_cHour m_cFrom m_cAsk m_cWord m_cOf m_isLie m_children m_learned m_group) sz [.ref (a 0), .int x1, .int x2]) (gI (dC, dI) (tyz cB cI cJ cZ) (wM cB cI cJ cZ a m_letters m_words m_wMany m_wLetters m_asks m_aWords m_dLetters m_dWords m_dMany m_dText m_dAsks m_dAsk m_tape m_taped m_pos m_from m_sort m_value m_fault m_wrongAt z_m_manyA z_m_rowA m_manyB m_rowB m_places m_xs m_ys m_heights m_ridges m_rx m_rHeight m_lanes m_sizes m_cells m_left m_calls m_cDay m_cHour m_cFrom m_cAsk m_cWord m_cOf m_isLie m_children m_learned m_group) (va_A (wM cB cI cJ cZ a m_letters m_words m_wMany m_wLetters m_asks m_aWords m_dLetters m_dWords m_dMany m_dText m_dAsks m_dAsk m_tape m_taped m_pos m_from m_sort m_value m_fault m_wrongAt m_manyA m_rowA m_manyB m_rowB m_places m_xs m_ys m_heights m_ridges m_rx m_rHeight m_lanes m_sizes m_cells m_left m_calls m_cDay m_cHour m_cFrom m_cAsk m_cWord m_cOf m_isLie m_children m_learned m_group) sz) r0) 0 0 (va_A (wM cB cI cJ cZ a m_letters m_words m_wMany m_wLetters m_asks m_aWords m_dLetters m_dWords m_dMany m_dText m_dAsks m_dAsk m_tape m_taped m_pos m_from m_sort m_value m_fault m_wrongAt m_manyA m_rowA m_manyB m_rowB m_places m_xs m_ys m_heights m_ridges m_rx m_rHeight m_lanes m_sizes m_cells m_left m_calls m_cDay m_cHour m_cFrom m_cAsk m_cWord m_cOf m_isLie m_children m_learned m_group) sz) := by
  refine Met.ofW (cc := cX9_word) (maxL := 6) (ret := (some .int)) (by decide) rfl ?_
  intro p e s m args below meth c s₁ B hml hv
  obtain ⟨rfl, hsz, hP, hK, hD0, hE⟩ := hv
  have hx := B.exec
  have hb := B.bytes
  have hr := B.returns
  have hts := atoms_spec (ws := wsX9_word) B.pre
  have hown : s.vm.findClass RX9 = some m.cls := findClass_of_methodNamed B.named
  have hlocks := B.notSynchronized
  subst hsz
  have hD := hD0.self (sz := s.heap.size)
  have hA : ∀ q : Nat, s.heap.size ≤ q → va_A (wM cB cI cJ cZ a m_letters m_words m_wMany m_wLetters m_asks m_aWords m_dLetters m_dWords m_dMany m_dText m_dAsks m_dAsk m_tape m_taped m_pos m_from m_sort m_value m_fault m_wrongAt m_manyA m_rowA m_manyB m_rowB m_places m_xs m_ys m_heights m_ridges m_rx m_rHeight m_lanes m_sizes m_cells m_left m_calls m_cDay m_cHour m_cFrom m_cAsk m_cWord m_cOf m_isLie m_children m_learned m_group) s.heap.size q := fun q h => Or.inr h
  generalize va_A (wM cB cI cJ cZ a m_letters m_words m_wMany m_wLetters m_asks m_aWords m_dLetters m_dWords m_dMany m_dText m_dAsks m_dAsk m_tape m_taped m_pos m_from m_sort m_value m_fault m_wrongAt m_manyA m_rowA m_manyB m_rowB m_places m_xs m_ys m_heights m_ridges m_rx m_rHeight m_lanes m_sizes m_cells m_left m_calls m_cDay m_cHour m_cFrom m_cAsk m_cWord m_cOf m_isLie m_children m_learned m_group) s.heap.size = A at hD hA hE ⊢
  have hS : va_S A s.heap s.heap [] := va_S.rf
  have C0 : cxt cX9_word (some .int) 6 RX9 wsX9_word (dC, dI) (tyz cB cI cJ cZ) E_0 A p s m ([.ref (a 0), .int x1, .int x2] : List Value).toArray meth c := ⟨hx, hb, hr, hml, hown, hts, hlocks, hK, hA, hE⟩
  have hl := lv_entry ([.ref (a 0), .int x1, .int x2]) (n := 6) (Nat.le_of_ble_eq_true rfl)
  rw [lg_entry_eq]
  generalize (lg_sl ([.ref (a 0), .int x1, .int x2]) ++ List.replicate (6 - (lg_sl ([.ref (a 0), .int x1, .int x2])).length) Slot.unset).toArray = ls at hl ⊢
  have hl : lv_has ls 6 [(0, .ref (a 0)), (1, .int x1), (2, .int x2)] := hl
  have hw0 := hts (.fieldLink RX9 37 "WhistledWordsModel" "rowA" "[I") (by decide +kernel)
  have hw1 := hts (.fieldLink RX9 206 "WhistledWordsModel" "manyA" "I") (by decide +kernel)
  have hw2 := hts (.constantLong RX9 215 (10)) (by decide +kernel)
  have hnX9 : ∀ w ∈ u_ws RX9 TX9 46, w ∈ wsX9_word := fun _ h => List.mem_cons_of_mem _ (List.mem_append_right _ h)
  unfold fX9_word at h
  refine lv_aload_n hx hb dX9_word_0 rfl (lv_at hl 0 rfl) ?_
  refine lv_iload_n hx hb dX9_word_1 rfl (lv_at hl 1 rfl) ?_
  obtain ⟨v1, hc, h⟩ := bd1_use h
  refine cv_i (As := [.int x1]) (rest := []) ⟨hx, hb, hml, hown, hts⟩ (kX9_isWord l n dC dI cB cI cJ cZ a _ m_letters m_words m_wMany m_wLetters m_asks m_aWords m_dLetters m_dWords m_dMany m_dText m_dAsks m_dAsk m_tape m_taped m_pos m_from m_sort m_value m_fault m_wrongAt m_manyA m_rowA m_manyB m_rowB m_places m_xs m_ys m_heights m_ridges m_rx m_rHeight m_lanes m_sizes m_cells m_left m_calls m_cDay m_cHour m_cFrom m_cAsk m_cWord m_cOf m_isLie m_children m_learned m_group x1 v1 hc) (cwV 1 hts gX9_word_X9_isWord rfl rfl rfl (by decide +kernel) ⟨Nat.le_of_ble_eq_true rfl, Nat.le_of_ble_eq_true rfl⟩) EB_0 hE hK hP hD hS hA 0 (ci := 8) rfl rfl rfl rfl hl.1 rfl (Nat.le_of_ble_eq_true rfl) dX9_word_2 ⟨Nat.zero_le _, Nat.zero_le _⟩ (fun H locs hP hD hS => ?_)
  refine lv_if_ne (tgt := 10) hx hb dX9_word_5 (by decide) (fun c2 => ?_) (fun c2 => ?_)
  · have h := ie_use c2 h
    refine lv_aload_n hx hb dX9_word_10 rfl (lv_at hl 0 rfl) ?_
    refine lv_aload_n hx hb dX9_word_11 rfl (lv_at hl 0 rfl) ?_
    refine lv_iload_n hx hb dX9_word_12 rfl (lv_at hl 1 rfl) ?_
    refine lv_iconst (v := 0) hx hb dX9_word_13 (by decide) ?_
    refine lv_aload_n hx hb dX9_word_14 rfl (lv_at hl 0 rfl) ?_
    refine gM_mo_rowA hx hb hts hnX9 hown hK hP hw0 dX9_word_15 ?_
    obtain ⟨v3, f4, hc, h⟩ := bd2_use h
    refine cv_i (As := [.int x1, .int (0 : Int32), .ref (a 10)]) (rest := [.ref (a 0)]) ⟨hx, hb, hml, hown, hts⟩ (kX9_rowOf_rowA l n dC dI cB cI cJ cZ a _ m_letters m_words m_wMany m_wLetters m_asks m_aWords m_dLetters m_dWords m_dMany m_dText m_dAsks m_dAsk m_tape m_taped m_pos m_from m_sort m_value m_fault m_wrongAt m_manyA m_rowA m_manyB m_rowB m_places m_xs m_ys m_heights m_ridges m_rx m_rHeight m_lanes m_sizes m_cells m_left m_calls m_cDay m_cHour m_cFrom m_cAsk m_cWord m_cOf m_isLie m_children m_learned m_group x1 (0 : Int32) v3 f4 hc) (cwV 3 hts gX9_word_X9_rowOf rfl rfl rfl (by decide +kernel) ⟨Nat.le_of_ble_eq_true rfl, Nat.le_of_ble_eq_true rfl⟩) EB_0 hE hK hP hD hS hA 0 (ci := 8) rfl rfl rfl rfl hl.1 rfl (Nat.le_of_ble_eq_true rfl) dX9_word_18 ⟨Nat.zero_le _, Nat.zero_le _⟩ (fun H locs hP hD hS => ?_)
    refine pM_mo_manyA hx hb hts hnX9 hown hK hP hD hS hw1 dX9_word_21 (fun H locs hP hD hS => ?_)
    refine lv_iload_n hx hb dX9_word_24 rfl (lv_at hl 2 rfl) ?_
    refine lv_i2l hx hb dX9_word_25 rfl ?_
    refine lv_ldc2 hx hb hown hw2 dX9_word_26 ?_
    refine lv_bipush (v := 9) hx hb dX9_word_29 (by decide) ?_
    refine lv_aload_n hx hb dX9_word_31 rfl (lv_at hl 0 rfl) ?_
    refine gM_mo_manyA hx hb hts hnX9 hown hK hP hw1 dX9_word_32 ?_
    refine lv_iadd hx hb dX9_word_35 ?_
    refine lv_i2l hx hb dX9_word_36 rfl ?_
    obtain ⟨v5, hc, h⟩ := bd1_use h
    refine cs_i (As := [.long x2.toInt64, .long (10 : Int64), .long (((9 : Int32) + v3).toInt64)]) (rest := []) ⟨hx, hb, hml, hown, hts⟩ (kX9_in l n x2.toInt64 (10 : Int64) (((9 : Int32) + v3).toInt64) v5 hc) (va_cwS 3 hts gX9_word_X9_in rfl rfl rfl (by decide +kernel) ⟨Nat.le_of_ble_eq_true rfl, Nat.le_of_ble_eq_true rfl⟩) hP hS rfl hl.1 rfl (Nat.le_of_ble_eq_true rfl) dX9_word_37 ⟨Nat.zero_le _, Nat.zero_le _⟩ (fun H locs hP hS => ?_)
    refine lv_if_eq (tgt := 53) hx hb dX9_word_40 (by decide) (fun c6 => ?_) (fun c6 => ?_)
    · have h := it_use c6 h
      refine lv_iconst (v := 0) hx hb dX9_word_53 (by decide) ?_
      refine lv_istore_n (lv' := [(3, .int (0 : Int32)), (0, .ref (a 0)), (1, .int x1), (2, .int x2)]) hx hb dX9_word_54 rfl hl (by decide) rfl (fun ls hl => ?_)
      refine lv_iconst (v := 0) hx hb dX9_word_55 (by decide) ?_
      refine lv_istore (lv' := [(4, .int (0 : Int32)), (3, .int (0 : Int32)), (0, .ref (a 0)), (1, .int x1), (2, .int x2)]) hx hb dX9_word_56 hl (by decide) rfl (fun ls hl => ?_)
      exact kX9_word_p58 dC dI cB cI cJ cZ a C0 n m_letters m_words m_wMany m_wLetters m_asks m_aWords m_dLetters m_dWords m_dMany m_dText m_dAsks m_dAsk m_tape m_taped m_pos m_from m_sort m_value m_fault m_wrongAt v3 f4 m_manyB m_rowB m_places m_xs m_ys m_heights m_ridges m_rx m_rHeight m_lanes m_sizes m_cells m_left m_calls m_cDay m_cHour m_cFrom m_cAsk m_cWord m_cOf m_isLie m_children m_learned m_group x1 x2 (0 : Int32) (0 : Int32) r0 z_m_manyA z_m_rowA  n _ _ ls h hP hD hS (lv_sub hl [2, 3, 4, 1, 0] rfl)
    · have h := ie_use c6 h
      refine lv_aload_n hx hb dX9_word_43 rfl (lv_at hl 0 rfl) ?_
      refine gM_mo_rowA hx hb hts hnX9 hown hK hP hw0 dX9_word_44 ?_
      refine lv_iload_n hx hb dX9_word_47 rfl (lv_at hl 2 rfl) ?_
      refine lv_bipush (v := 10) hx hb dX9_word_48 (by decide) ?_
      refine lv_isub hx hb dX9_word_50 ?_
      obtain ⟨hiv7, h⟩ := ar_use h
      refine lM_mo_rowA hx hb hK hP hiv7 dX9_word_51 ?_
      refine lv_topi (fun v7 ev7 => ?_)
      have h := h v7 ev7
      obtain ⟨er, ez0, ez1⟩ := rt3_use h
      subst ez0
      subst ez1
      exact re_i hx hb hr hlocks hK hP hD hS er dX9_word_52
  · have h := it_use c2 h
    refine lv_iconst (v := -1) hx hb dX9_word_8 (by decide) ?_
    obtain ⟨er, ez0, ez1⟩ := rt3_use h
    subst ez0
    subst ez1
    exact re_i hx hb hr hlocks hK hP hD hS er dX9_word_9
set_option maxHeartbeats 4000000 in
set_option maxRecDepth 100000 in
theorem kX9_isAsk (l : Launch) (n : Nat) (dC : Nat → ClassId) (dI : Nat → Nat → Nat) (cB cI cJ cZ : ClassId) (a : Nat → Nat) (sz : Nat) (m_letters : Nat → Int32) (m_words : Int32) (m_wMany : Nat → Int32) (m_wLetters : Nat → Int32) (m_asks : Int32) (m_aWords : Nat → Int32) (m_dLetters : Nat → Int32) (m_dWords : Int32) (m_dMany : Nat → Int32) (m_dText : Nat → Int32) (m_dAsks : Int32) (m_dAsk : Nat → Int32) (m_tape : Nat → Int32) (m_taped : Int32) (m_pos : Int32) (m_from : Int32) (m_sort : Int32) (m_value : Int32) (m_fault : Int32) (m_wrongAt : Int32) (m_manyA : Int32) (m_rowA : Nat → Int32) (m_manyB : Int32) (m_rowB : Nat → Int32) (m_places : Int32) (m_xs : Nat → Int32) (m_ys : Nat → Int32) (m_heights : Nat → Int32) (m_ridges : Int32) (m_rx : Nat → Int32) (m_rHeight : Nat → Int32) (m_lanes : Nat → Int32) (m_sizes : Nat → Int32) (m_cells : Nat → Int32) (m_left : Nat → Int32) (m_calls : Int32) (m_cDay : Nat → Int32) (m_cHour : Nat → Int32) (m_cFrom : Nat → Int32) (m_cAsk : Nat → Int32) (m_cWord : Nat → Int32) (m_cOf : Nat → Int32) (m_isLie : Nat → Int32) (m_children : Int32) (m_learned : Nat → Int32) (m_group : Nat → Int32) (x1 : Int32) (r0 : Int32) (h : fX9_isAsk n m_asks x1 = some r0) : Met l yX9_isAsk wsX9_isAsk ({ frames := 1, cells := 0, slots := 0, locals := 25 }) (gP (dC, dI) (tyz cB cI cJ cZ) E_0 (wM cB cI cJ cZ a m_letters m_words m_wMany m_wLetters m_asks m_aWords m_dLetters m_dWords m_dMany m_dText m_dAsks m_dAsk m_tape m_taped m_pos m_from m_sort m_value m_fault m_wrongAt m_manyA m_rowA m_manyB m_rowB m_places m_xs m_ys m_heights m_ridges m_rx m_rHeight m_lanes m_sizes m_cells m_left m_calls m_cDay m_cHour m_cFrom m_cAsk m_cWord m_cOf m_isLie m_children m_learned m_group) sz [.ref (a 0), .int x1]) (gI (dC, dI) (tyz cB cI cJ cZ) (wM cB cI cJ cZ a m_letters m_words m_wMany m_wLetters m_asks m_aWords m_dLetters m_dWords m_dMany m_dText m_dAsks m_dAsk m_tape m_taped m_pos m_from m_sort m_value m_fault m_wrongAt m_manyA m_rowA m_manyB m_rowB m_places m_xs m_ys m_heights m_ridges m_rx m_rHeight m_lanes m_sizes m_cells m_left m_calls m_cDay m_cHour m_cFrom m_cAsk m_cWord m_cOf m_isLie m_children m_learned m_group) (va_A (wM cB cI cJ cZ a m_letters m_words m_wMany m_wLetters m_asks m_aWords m_dLetters m_dWords m_dMany m_dText m_dAsks m_dAsk m_tape m_taped m_pos m_from m_sort m_value m_fault m_wrongAt m_manyA m_rowA m_manyB m_rowB m_places m_xs m_ys m_heights m_ridges m_rx m_rHeight m_lanes m_sizes m_cells m_left m_calls m_cDay m_cHour m_cFrom m_cAsk m_cWord m_cOf m_isLie m_children m_learned m_group) sz) r0) 0 0 (va_A (wM cB cI cJ cZ a m_letters m_words m_wMany m_wLetters m_asks m_aWords m_dLetters m_dWords m_dMany m_dText m_dAsks m_dAsk m_tape m_taped m_pos m_from m_sort m_value m_fault m_wrongAt m_manyA m_rowA m_manyB m_rowB m_places m_xs m_ys m_heights m_ridges m_rx m_rHeight m_lanes m_sizes m_cells m_left m_calls m_cDay m_cHour m_cFrom m_cAsk m_cWord m_cOf m_isLie m_children m_learned m_group) sz) := by
  refine Met.ofW (cc := cX9_isAsk) (maxL := 2) (ret := (some .boolean)) (by decide) rfl ?_
  intro p e s m args below meth c s₁ B hml hv
  obtain ⟨rfl, hsz, hP, hK, hD0, hE⟩ := hv
  have hx := B.exec
  have hb := B.bytes
  have hr := B.returns
  have hts := atoms_spec (ws := wsX9_isAsk) B.pre
  have hown : s.vm.findClass RX9 = some m.cls := findClass_of_methodNamed B.named
  have hlocks := B.notSynchronized
  subst hsz
  have hD := hD0.self (sz := s.heap.size)
  have hA : ∀ q : Nat, s.heap.size ≤ q → va_A (wM cB cI cJ cZ a m_letters m_words m_wMany m_wLetters m_asks m_aWords m_dLetters m_dWords m_dMany m_dText m_dAsks m_dAsk m_tape m_taped m_pos m_from m_sort m_value m_fault m_wrongAt m_manyA m_rowA m_manyB m_rowB m_places m_xs m_ys m_heights m_ridges m_rx m_rHeight m_lanes m_sizes m_cells m_left m_calls m_cDay m_cHour m_cFrom m_cAsk m_cWord m_cOf m_isLie m_children m_learned m_group) s.heap.size q := fun q h => Or.inr h
  generalize va_A (wM cB cI cJ cZ a m_letters m_words m_wMany m_wLetters m_asks m_aWords m_dLetters m_dWords m_dMany m_dText m_dAsks m_dAsk m_tape m_taped m_pos m_from m_sort m_value m_fault m_wrongAt m_manyA m_rowA m_manyB m_rowB m_places m_xs m_ys m_heights m_ridges m_rx m_rHeight m_lanes m_sizes m_cells m_left m_calls m_cDay m_cHour m_cFrom m_cAsk m_cWord m_cOf m_isLie m_children m_learned m_group) s.heap.size = A at hD hA hE ⊢
  have hS : va_S A s.heap s.heap [] := va_S.rf
  have C0 : cxt cX9_isAsk (some .boolean) 2 RX9 wsX9_isAsk (dC, dI) (tyz cB cI cJ cZ) E_0 A p s m ([.ref (a 0), .int x1] : List Value).toArray meth c := ⟨hx, hb, hr, hml, hown, hts, hlocks, hK, hA, hE⟩
  have hl := lv_entry ([.ref (a 0), .int x1]) (n := 2) (Nat.le_of_ble_eq_true rfl)
  rw [lg_entry_eq]
  generalize (lg_sl ([.ref (a 0), .int x1]) ++ List.replicate (2 - (lg_sl ([.ref (a 0), .int x1])).length) Slot.unset).toArray = ls at hl ⊢
  have hl : lv_has ls 2 [(0, .ref (a 0)), (1, .int x1)] := hl
  have hw0 := hts (.fieldLink RX9 189 "WhistledWordsModel" "asks" "I") (by decide +kernel)
  have hnX9 : ∀ w ∈ u_ws RX9 TX9 46, w ∈ wsX9_isAsk := fun _ h => List.mem_cons_of_mem _ (List.mem_append_right _ h)
  unfold fX9_isAsk at h
  refine lv_iload_n hx hb dX9_isAsk_0 rfl (lv_at hl 1 rfl) ?_
  refine lv_i2l hx hb dX9_isAsk_1 rfl ?_
  refine lv_lconst (v := 0) hx hb dX9_isAsk_2 (by decide) ?_
  refine lv_aload_n hx hb dX9_isAsk_3 rfl (lv_at hl 0 rfl) ?_
  refine gM_mo_asks hx hb hts hnX9 hown hK hP hw0 dX9_isAsk_4 ?_
  refine lv_iconst (v := 1) hx hb dX9_isAsk_7 (by decide) ?_
  refine lv_isub hx hb dX9_isAsk_8 ?_
  refine lv_i2l hx hb dX9_isAsk_9 rfl ?_
  obtain ⟨v1, hc, h⟩ := bd1_use h
  refine cs_i (As := [.long x1.toInt64, .long (0 : Int64), .long ((m_asks - (1 : Int32)).toInt64)]) (rest := []) ⟨hx, hb, hml, hown, hts⟩ (kX9_in l n x1.toInt64 (0 : Int64) ((m_asks - (1 : Int32)).toInt64) v1 hc) (va_cwS 3 hts gX9_isAsk_X9_in rfl rfl rfl (by decide +kernel) ⟨Nat.le_of_ble_eq_true rfl, Nat.le_of_ble_eq_true rfl⟩) hP hS rfl hl.1 rfl (Nat.le_of_ble_eq_true rfl) dX9_isAsk_10 ⟨Nat.zero_le _, Nat.zero_le _⟩ (fun H locs hP hS => ?_)
  obtain ⟨hzb, h⟩ := rb_use h
  obtain er := rt1_use h
  exact re_z hx hb hr hlocks hK hP hD hS hzb er dX9_isAsk_13
set_option maxHeartbeats 4000000 in
set_option maxRecDepth 100000 in
theorem kX9_bits_p4_r {p : Program} {l : Launch} {e : Env} {s : State} {m : MethodId} {args : Array Value} {below : List Frame} {meth : Method} {c : Code} (C0 : cxp cX9_bits (some .int) 3 RX9 wsX9_bits p s m args meth c) (n : Nat)  (x0 : Int32) (r0 : Int32)  : ∀ (k : Nat) (x1 : Int32) (x2 : Int32) (H : Heap) (locs : List Loc) (ls : Array Slot), fX9_bits_p4 n x0 k x1 x2 = some r0 → va_S no_A s.heap H locs → lv_has ls 3 [(0, .int x0), (1, .int x1), (2, .int x2)] → W p l e { frames := 0, cells := 0, slots := 0, locals := 0 } s m args below meth c H locs 0 0 (MQ below (pI r0) args s 0 0 no_A) (F0 m 4 ls []) := by
  obtain ⟨hx, hb, hr, hml, hown, hts, hlocks⟩ := id C0
  intro k
  induction k with
  | zero =>
    intro x1 x2 H locs ls h
    cases h
  | succ k ih =>
    intro x1 x2 H locs ls h hS hl
    rw [fX9_bits_p4] at h
    refine lv_iload_n hx hb dX9_bits_4 rfl (lv_at hl 2 rfl) ?_
    refine lv_bipush (v := 16) hx hb dX9_bits_5 (by decide) ?_
    refine lv_icmp_ge (tgt := 24) hx hb dX9_bits_7 (by decide) (fun c1 => ?_) (fun c1 => ?_)
    · have h := it_use c1 h
      refine lv_iload_n hx hb dX9_bits_24 rfl (lv_at hl 1 rfl) ?_
      obtain er := rt1_use h
      exact rp_i hx hb hr hlocks hS er dX9_bits_25
    · have h := ie_use c1 h
      refine lv_iload_n hx hb dX9_bits_10 rfl (lv_at hl 1 rfl) ?_
      refine lv_iload_n hx hb dX9_bits_11 rfl (lv_at hl 0 rfl) ?_
      refine lv_iload_n hx hb dX9_bits_12 rfl (lv_at hl 2 rfl) ?_
      refine lv_ishr hx hb dX9_bits_13 ?_
      refine lv_iconst (v := 1) hx hb dX9_bits_14 (by decide) ?_
      refine lv_iand hx hb dX9_bits_15 ?_
      refine lv_iadd hx hb dX9_bits_16 ?_
      refine lv_topi (fun v2 ev2 => ?_)
      have h := nm_use ev2 h
      refine lv_istore_n (lv' := [(1, .int v2), (0, .int x0), (2, .int x2)]) hx hb dX9_bits_17 rfl hl (by decide) rfl (fun ls hl => ?_)
      refine lv_iinc (v := x2 + 1) (lv' := [(2, .int (x2 + 1)), (1, .int v2), (0, .int x0)]) hx hb dX9_bits_18 hl (k := 2) rfl rfl (by decide) rfl (fun ls hl => ?_)
      refine lv_goto (tgt := 4) hx hb dX9_bits_21 (by decide) ?_
      exact ih v2 (x2 + 1) _ _ ls h hS (lv_sub hl [2, 1, 0] rfl)
theorem kX9_bits_p4 {p : Program} {l : Launch} {e : Env} {s : State} {m : MethodId} {args : Array Value} {below : List Frame} {meth : Method} {c : Code} (C0 : cxp cX9_bits (some .int) 3 RX9 wsX9_bits p s m args meth c) (n : Nat)  (x0 : Int32) (x1 : Int32) (x2 : Int32) (r0 : Int32)  (k : Nat) (H : Heap) (locs : List Loc) (ls : Array Slot) : fX9_bits_p4 n x0 k x1 x2 = some r0 → va_S no_A s.heap H locs → lv_has ls 3 [(0, .int x0), (1, .int x1), (2, .int x2)] → W p l e { frames := 0, cells := 0, slots := 0, locals := 0 } s m args below meth c H locs 0 0 (MQ below (pI r0) args s 0 0 no_A) (F0 m 4 ls []) :=
  kX9_bits_p4_r C0 n  x0 r0  k x1 x2 H locs ls
set_option maxHeartbeats 4000000 in
set_option maxRecDepth 100000 in
theorem kX9_bits (l : Launch) (n : Nat) (x0 : Int32) (r0 : Int32) (h : fX9_bits n  x0 = some r0) : Met l yX9_bits wsX9_bits ({ frames := 0, cells := 0, slots := 0, locals := 0 }) (pP [.int x0]) (pI r0) 0 0 no_A := by
  refine Met.ofW (cc := cX9_bits) (maxL := 3) (ret := (some .int)) (by decide) rfl ?_
  intro p e s m args below meth c s₁ B hml hv
  obtain ⟨rfl, -⟩ := hv
  have hx := B.exec
  have hb := B.bytes
  have hr := B.returns
  have hts := atoms_spec (ws := wsX9_bits) B.pre
  have hown : s.vm.findClass RX9 = some m.cls := findClass_of_methodNamed B.named
  have hlocks := B.notSynchronized
  have hS : va_S no_A s.heap s.heap [] := va_S.rf
  have C0 : cxp cX9_bits (some .int) 3 RX9 wsX9_bits p s m ([.int x0] : List Value).toArray meth c := ⟨hx, hb, hr, hml, hown, hts, hlocks⟩
  have hl := lv_entry ([.int x0]) (n := 3) (Nat.le_of_ble_eq_true rfl)
  rw [lg_entry_eq]
  generalize (lg_sl ([.int x0]) ++ List.replicate (3 - (lg_sl ([.int x0])).length) Slot.unset).toArray = ls at hl ⊢
  have hl : lv_has ls 3 [(0, .int x0)] := hl
  unfold fX9_bits at h
  refine lv_iconst (v := 0) hx hb dX9_bits_0 (by decide) ?_
  refine lv_istore_n (lv' := [(1, .int (0 : Int32)), (0, .int x0)]) hx hb dX9_bits_1 rfl hl (by decide) rfl (fun ls hl => ?_)
  refine lv_iconst (v := 0) hx hb dX9_bits_2 (by decide) ?_
  refine lv_istore_n (lv' := [(2, .int (0 : Int32)), (1, .int (0 : Int32)), (0, .int x0)]) hx hb dX9_bits_3 rfl hl (by decide) rfl (fun ls hl => ?_)
  exact kX9_bits_p4 C0 n  x0 (0 : Int32) (0 : Int32) r0  n _ _ ls h hS (lv_sub hl [2, 1, 0] rfl)
set_option maxHeartbeats 4000000 in
set_option maxRecDepth 100000 in
theorem kX9_ask (l : Launch) (n : Nat) (dC : Nat → ClassId) (dI : Nat → Nat → Nat) (cB cI cJ cZ : ClassId) (a : Nat → Nat) (sz : Nat) (m_letters : Nat → Int32) (m_words : Int32) (m_wMany : Nat → Int32) (m_wLetters : Nat → Int32) (m_asks : Int32) (m_aWords : Nat → Int32) (m_dLetters : Nat → Int32) (m_dWords : Int32) (m_dMany : Nat → Int32) (m_dText : Nat → Int32) (m_dAsks : Int32) (m_dAsk : Nat → Int32) (m_tape : Nat → Int32) (m_taped : Int32) (m_pos : Int32) (m_from : Int32) (m_sort : Int32) (m_value : Int32) (m_fault : Int32) (m_wrongAt : Int32) (m_manyA : Int32) (m_rowA : Nat → Int32) (m_manyB : Int32) (m_rowB : Nat → Int32) (m_places : Int32) (m_xs : Nat → Int32) (m_ys : Nat → Int32) (m_heights : Nat → Int32) (m_ridges : Int32) (m_rx : Nat → Int32) (m_rHeight : Nat → Int32) (m_lanes : Nat → Int32) (m_sizes : Nat → Int32) (m_cells : Nat → Int32) (m_left : Nat → Int32) (m_calls : Int32) (m_cDay : Nat → Int32) (m_cHour : Nat → Int32) (m_cFrom : Nat → Int32) (m_cAsk : Nat → Int32) (m_cWord : Nat → Int32) (m_cOf : Nat → Int32) (m_isLie : Nat → Int32) (m_children : Int32) (m_learned : Nat → Int32) (m_group : Nat → Int32) (x1 : Int32) (x2 : Int32) (r0 : Int32) (h : fX9_ask n m_asks m_aWords x1 x2 = some r0) : Met l yX9_ask wsX9_ask ({ frames := 2, cells := 0, slots := 0, locals := 46 }) (gP (dC, dI) (tyz cB cI cJ cZ) E_0 (wM cB cI cJ cZ a m_letters m_words m_wMany m_wLetters m_asks m_aWords m_dLetters m_dWords m_dMany m_dText m_dAsks m_dAsk m_tape m_taped m_pos m_from m_sort m_value m_fault m_wrongAt m_manyA m_rowA m_manyB m_rowB m_places m_xs m_ys m_heights m_ridges m_rx m_rHeight m_lanes m_sizes m_cells m_left m_calls m_cDay m_cHour m_cFrom m_cAsk m_cWord m_cOf m_isLie m_children m_learned m_group) sz [.ref (a 0), .int x1, .int x2]) (gI (dC, dI) (tyz cB cI cJ cZ) (wM cB cI cJ cZ a m_letters m_words m_wMany m_wLetters m_asks m_aWords m_dLetters m_dWords m_dMany m_dText m_dAsks m_dAsk m_tape m_taped m_pos m_from m_sort m_value m_fault m_wrongAt m_manyA m_rowA m_manyB m_rowB m_places m_xs m_ys m_heights m_ridges m_rx m_rHeight m_lanes m_sizes m_cells m_left m_calls m_cDay m_cHour m_cFrom m_cAsk m_cWord m_cOf m_isLie m_children m_learned m_group) (va_A (wM cB cI cJ cZ a m_letters m_words m_wMany m_wLetters m_asks m_aWords m_dLetters m_dWords m_dMany m_dText m_dAsks m_dAsk m_tape m_taped m_pos m_from m_sort m_value m_fault m_wrongAt m_manyA m_rowA m_manyB m_rowB m_places m_xs m_ys m_heights m_ridges m_rx m_rHeight m_lanes m_sizes m_cells m_left m_calls m_cDay m_cHour m_cFrom m_cAsk m_cWord m_cOf m_isLie m_children m_learned m_group) sz) r0) 0 0 (va_A (wM cB cI cJ cZ a m_letters m_words m_wMany m_wLetters m_asks m_aWords m_dLetters m_dWords m_dMany m_dText m_dAsks m_dAsk m_tape m_taped m_pos m_from m_sort m_value m_fault m_wrongAt m_manyA m_rowA m_manyB m_rowB m_places m_xs m_ys m_heights m_ridges m_rx m_rHeight m_lanes m_sizes m_cells m_left m_calls m_cDay m_cHour m_cFrom m_cAsk m_cWord m_cOf m_isLie m_children m_learned m_group) sz) := by
  refine Met.ofW (cc := cX9_ask) (maxL := 3) (ret := (some .int)) (by decide) rfl ?_
  intro p e s m args below meth c s₁ B hml hv
  obtain ⟨rfl, hsz, hP, hK, hD0, hE⟩ := hv
  have hx := B.exec
  have hb := B.bytes
  have hr := B.returns
  have hts := atoms_spec (ws := wsX9_ask) B.pre
  have hown : s.vm.findClass RX9 = some m.cls := findClass_of_methodNamed B.named
  have hlocks := B.notSynchronized
  subst hsz
  have hD := hD0.self (sz := s.heap.size)
  have hA : ∀ q : Nat, s.heap.size ≤ q → va_A (wM cB cI cJ cZ a m_letters m_words m_wMany m_wLetters m_asks m_aWords m_dLetters m_dWords m_dMany m_dText m_dAsks m_dAsk m_tape m_taped m_pos m_from m_sort m_value m_fault m_wrongAt m_manyA m_rowA m_manyB m_rowB m_places m_xs m_ys m_heights m_ridges m_rx m_rHeight m_lanes m_sizes m_cells m_left m_calls m_cDay m_cHour m_cFrom m_cAsk m_cWord m_cOf m_isLie m_children m_learned m_group) s.heap.size q := fun q h => Or.inr h
  generalize va_A (wM cB cI cJ cZ a m_letters m_words m_wMany m_wLetters m_asks m_aWords m_dLetters m_dWords m_dMany m_dText m_dAsks m_dAsk m_tape m_taped m_pos m_from m_sort m_value m_fault m_wrongAt m_manyA m_rowA m_manyB m_rowB m_places m_xs m_ys m_heights m_ridges m_rx m_rHeight m_lanes m_sizes m_cells m_left m_calls m_cDay m_cHour m_cFrom m_cAsk m_cWord m_cOf m_isLie m_children m_learned m_group) s.heap.size = A at hD hA hE ⊢
  have hS : va_S A s.heap s.heap [] := va_S.rf
  have C0 : cxt cX9_ask (some .int) 3 RX9 wsX9_ask (dC, dI) (tyz cB cI cJ cZ) E_0 A p s m ([.ref (a 0), .int x1, .int x2] : List Value).toArray meth c := ⟨hx, hb, hr, hml, hown, hts, hlocks, hK, hA, hE⟩
  have hl := lv_entry ([.ref (a 0), .int x1, .int x2]) (n := 3) (Nat.le_of_ble_eq_true rfl)
  rw [lg_entry_eq]
  generalize (lg_sl ([.ref (a 0), .int x1, .int x2]) ++ List.replicate (3 - (lg_sl ([.ref (a 0), .int x1, .int x2])).length) Slot.unset).toArray = ls at hl ⊢
  have hl : lv_has ls 3 [(0, .ref (a 0)), (1, .int x1), (2, .int x2)] := hl
  have hw0 := hts (.fieldLink RX9 19 "WhistledWordsModel" "aWords" "[I") (by decide +kernel)
  have hnX9 : ∀ w ∈ u_ws RX9 TX9 46, w ∈ wsX9_ask := fun _ h => List.mem_cons_of_mem _ (List.mem_append_right _ h)
  unfold fX9_ask at h
  refine lv_aload_n hx hb dX9_ask_0 rfl (lv_at hl 0 rfl) ?_
  refine lv_iload_n hx hb dX9_ask_1 rfl (lv_at hl 1 rfl) ?_
  obtain ⟨v1, hc, h⟩ := bd1_use h
  refine cv_i (As := [.int x1]) (rest := []) ⟨hx, hb, hml, hown, hts⟩ (kX9_isAsk l n dC dI cB cI cJ cZ a _ m_letters m_words m_wMany m_wLetters m_asks m_aWords m_dLetters m_dWords m_dMany m_dText m_dAsks m_dAsk m_tape m_taped m_pos m_from m_sort m_value m_fault m_wrongAt m_manyA m_rowA m_manyB m_rowB m_places m_xs m_ys m_heights m_ridges m_rx m_rHeight m_lanes m_sizes m_cells m_left m_calls m_cDay m_cHour m_cFrom m_cAsk m_cWord m_cOf m_isLie m_children m_learned m_group x1 v1 hc) (cwV 1 hts gX9_ask_X9_isAsk rfl rfl rfl (by decide +kernel) ⟨Nat.le_of_ble_eq_true rfl, Nat.le_of_ble_eq_true rfl⟩) EB_0 hE hK hP hD hS hA 0 (ci := 8) rfl rfl rfl rfl hl.1 rfl (Nat.le_of_ble_eq_true rfl) dX9_ask_2 ⟨Nat.zero_le _, Nat.zero_le _⟩ (fun H locs hP hD hS => ?_)
  refine lv_if_eq (tgt := 18) hx hb dX9_ask_5 (by decide) (fun c2 => ?_) (fun c2 => ?_)
  · have h := it_use c2 h
    refine lv_iconst (v := -1) hx hb dX9_ask_18 (by decide) ?_
    refine lv_goto (tgt := 44) hx hb dX9_ask_19 (by decide) ?_
    obtain er := rt1_use h
    exact re_i hx hb hr hlocks hK hP hD hS er dX9_ask_44
  · have h := ie_use c2 h
    refine lv_iload_n hx hb dX9_ask_8 rfl (lv_at hl 2 rfl) ?_
    refine lv_i2l hx hb dX9_ask_9 rfl ?_
    refine lv_lconst (v := 0) hx hb dX9_ask_10 (by decide) ?_
    refine lv_lconst (v := 1) hx hb dX9_ask_11 (by decide) ?_
    obtain ⟨v3, hc, h⟩ := bd1_use h
    refine cs_i (As := [.long x2.toInt64, .long (0 : Int64), .long (1 : Int64)]) (rest := []) ⟨hx, hb, hml, hown, hts⟩ (kX9_in l n x2.toInt64 (0 : Int64) (1 : Int64) v3 hc) (va_cwS 3 hts gX9_ask_X9_in rfl rfl rfl (by decide +kernel) ⟨Nat.le_of_ble_eq_true rfl, Nat.le_of_ble_eq_true rfl⟩) hP hS rfl hl.1 rfl (Nat.le_of_ble_eq_true rfl) dX9_ask_12 ⟨Nat.zero_le _, Nat.zero_le _⟩ (fun H locs hP hS => ?_)
    refine lv_if_ne (tgt := 22) hx hb dX9_ask_15 (by decide) (fun c4 => ?_) (fun c4 => ?_)
    · have h := ie_use c4 h
      refine lv_iload_n hx hb dX9_ask_22 rfl (lv_at hl 2 rfl) ?_
      refine lv_if_ne (tgt := 38) hx hb dX9_ask_23 (by decide) (fun c5 => ?_) (fun c5 => ?_)
      · have h := ie_use c5 h
        refine lv_aload_n hx hb dX9_ask_38 rfl (lv_at hl 0 rfl) ?_
        refine gM_mo_aWords hx hb hts hnX9 hown hK hP hw0 dX9_ask_39 ?_
        refine lv_iload_n hx hb dX9_ask_42 rfl (lv_at hl 1 rfl) ?_
        obtain ⟨hiv6, h⟩ := ar_use h
        refine lM_mo_aWords hx hb hK hP hiv6 dX9_ask_43 ?_
        refine lv_topi (fun v6 ev6 => ?_)
        have h := h v6 ev6
        obtain er := rt1_use h
        exact re_i hx hb hr hlocks hK hP hD hS er dX9_ask_44
      · have h := it_use c5 h
        refine lv_aload_n hx hb dX9_ask_26 rfl (lv_at hl 0 rfl) ?_
        refine gM_mo_aWords hx hb hts hnX9 hown hK hP hw0 dX9_ask_27 ?_
        refine lv_iload_n hx hb dX9_ask_30 rfl (lv_at hl 1 rfl) ?_
        obtain ⟨hiv7, h⟩ := ar_use h
        refine lM_mo_aWords hx hb hK hP hiv7 dX9_ask_31 ?_
        refine lv_topi (fun v7 ev7 => ?_)
        have h := h v7 ev7
        obtain ⟨v8, hc, h⟩ := bd1_use h
        refine cs_i (As := [.int v7]) (rest := []) ⟨hx, hb, hml, hown, hts⟩ (kX9_bits l n v7 v8 hc) (va_cwS 1 hts gX9_ask_X9_bits rfl rfl rfl (by decide +kernel) ⟨Nat.le_of_ble_eq_true rfl, Nat.le_of_ble_eq_true rfl⟩) hP hS rfl hl.1 rfl (Nat.le_of_ble_eq_true rfl) dX9_ask_32 ⟨Nat.zero_le _, Nat.zero_le _⟩ (fun H locs hP hS => ?_)
        refine lv_goto (tgt := 44) hx hb dX9_ask_35 (by decide) ?_
        obtain er := rt1_use h
        exact re_i hx hb hr hlocks hK hP hD hS er dX9_ask_44
    · have h := it_use c4 h
      refine lv_iconst (v := -1) hx hb dX9_ask_18 (by decide) ?_
      refine lv_goto (tgt := 44) hx hb dX9_ask_19 (by decide) ?_
      obtain er := rt1_use h
      exact re_i hx hb hr hlocks hK hP hD hS er dX9_ask_44
set_option maxHeartbeats 4000000 in
set_option maxRecDepth 100000 in
theorem kX9_isBlur (l : Launch) (n : Nat) (x0 : Int32) (r0 : Int32) (h : fX9_isBlur n  x0 = some r0) : Met l yX9_isBlur wsX9_isBlur ({ frames := 1, cells := 0, slots := 0, locals := 25 }) (pP [.int x0]) (pI r0) 0 0 no_A := by
  refine Met.ofW (cc := cX9_isBlur) (maxL := 1) (ret := (some .boolean)) (by decide) rfl ?_
  intro p e s m args below meth c s₁ B hml hv
  obtain ⟨rfl, -⟩ := hv
  have hx := B.exec
  have hb := B.bytes
  have hr := B.returns
  have hts := atoms_spec (ws := wsX9_isBlur) B.pre
  have hown : s.vm.findClass RX9 = some m.cls := findClass_of_methodNamed B.named
  have hlocks := B.notSynchronized
  have hS : va_S no_A s.heap s.heap [] := va_S.rf
  have C0 : cxp cX9_isBlur (some .boolean) 1 RX9 wsX9_isBlur p s m ([.int x0] : List Value).toArray meth c := ⟨hx, hb, hr, hml, hown, hts, hlocks⟩
  have hl := lv_entry ([.int x0]) (n := 1) (Nat.le_of_ble_eq_true rfl)
  rw [lg_entry_eq]
  generalize (lg_sl ([.int x0]) ++ List.replicate (1 - (lg_sl ([.int x0])).length) Slot.unset).toArray = ls at hl ⊢
  have hl : lv_has ls 1 [(0, .int x0)] := hl
  have hw0 := hts (.constantLong RX9 192 (5)) (by decide +kernel)
  unfold fX9_isBlur at h
  refine lv_iload_n hx hb dX9_isBlur_0 rfl (lv_at hl 0 rfl) ?_
  refine lv_i2l hx hb dX9_isBlur_1 rfl ?_
  refine lv_lconst (v := 0) hx hb dX9_isBlur_2 (by decide) ?_
  refine lv_ldc2 hx hb hown hw0 dX9_isBlur_3 ?_
  obtain ⟨v1, hc, h⟩ := bd1_use h
  refine cp_i (As := [.long x0.toInt64, .long (0 : Int64), .long (5 : Int64)]) (rest := []) ⟨hx, hb, hml, hown, hts⟩ (kX9_in l n x0.toInt64 (0 : Int64) (5 : Int64) v1 hc) (va_cwS 3 hts gX9_isBlur_X9_in rfl rfl rfl (by decide +kernel) ⟨Nat.le_of_ble_eq_true rfl, Nat.le_of_ble_eq_true rfl⟩) hS rfl hl.1 rfl (Nat.le_of_ble_eq_true rfl) dX9_isBlur_6 ⟨Nat.zero_le _, Nat.zero_le _⟩ (fun H locs hS => ?_)
  obtain ⟨hzb, h⟩ := rb_use h
  obtain er := rt1_use h
  exact rp_z hx hb hr hlocks hS hzb er dX9_isBlur_9
set_option maxHeartbeats 4000000 in
set_option maxRecDepth 100000 in
theorem kX9_blurred (l : Launch) (n : Nat) (dC : Nat → ClassId) (dI : Nat → Nat → Nat) (cB cI cJ cZ : ClassId) (a : Nat → Nat) (sz : Nat) (m_letters : Nat → Int32) (m_words : Int32) (m_wMany : Nat → Int32) (m_wLetters : Nat → Int32) (m_asks : Int32) (m_aWords : Nat → Int32) (m_dLetters : Nat → Int32) (m_dWords : Int32) (m_dMany : Nat → Int32) (m_dText : Nat → Int32) (m_dAsks : Int32) (m_dAsk : Nat → Int32) (m_tape : Nat → Int32) (m_taped : Int32) (m_pos : Int32) (m_from : Int32) (m_sort : Int32) (m_value : Int32) (m_fault : Int32) (m_wrongAt : Int32) (m_manyA : Int32) (m_rowA : Nat → Int32) (m_manyB : Int32) (m_rowB : Nat → Int32) (m_places : Int32) (m_xs : Nat → Int32) (m_ys : Nat → Int32) (m_heights : Nat → Int32) (m_ridges : Int32) (m_rx : Nat → Int32) (m_rHeight : Nat → Int32) (m_lanes : Nat → Int32) (m_sizes : Nat → Int32) (m_cells : Nat → Int32) (m_left : Nat → Int32) (m_calls : Int32) (m_cDay : Nat → Int32) (m_cHour : Nat → Int32) (m_cFrom : Nat → Int32) (m_cAsk : Nat → Int32) (m_cWord : Nat → Int32) (m_cOf : Nat → Int32) (m_isLie : Nat → Int32) (m_children : Int32) (m_learned : Nat → Int32) (m_group : Nat → Int32) (x1 : Int32) (x2 : Int32) (x3 : Int32) (r0 : Int32) (z_m_manyA : Int32) (z_m_rowA : Nat → Int32) (h : fX9_blurred n m_letters m_words m_wMany m_wLetters m_manyA m_rowA x1 x2 x3 = some (r0, z_m_manyA, z_m_rowA)) : Met l yX9_blurred wsX9_blurred ({ frames := 2, cells := 0, slots := 0, locals := 47 }) (gP (dC, dI) (tyz cB cI cJ cZ) E_0 (wM cB cI cJ cZ a m_letters m_words m_wMany m_wLetters m_asks m_aWords m_dLetters m_dWords m_dMany m_dText m_dAsks m_dAsk m_tape m_taped m_pos m_from m_sort m_value m_fault m_wrongAt m_manyA m_rowA m_manyB m_rowB m_places m_xs m_ys m_heights m_ridges m_rx m_rHeight m_lanes m_sizes m_cells m_left m_calls m_cDay m_cHour m_cFrom m_cAsk m_cWord m_cOf m_isLie m_children m_learned m_group) sz [.ref (a 0), .int x1, .int x2, .int x3]) (gI (dC, dI) (tyz cB cI cJ cZ) (wM cB cI cJ cZ a m_letters m_words m_wMany m_wLetters m_asks m_aWords m_dLetters m_dWords m_dMany m_dText m_dAsks m_dAsk m_tape m_taped m_pos m_from m_sort m_value m_fault m_wrongAt z_m_manyA z_m_rowA m_manyB m_rowB m_places m_xs m_ys m_heights m_ridges m_rx m_rHeight m_lanes m_sizes m_cells m_left m_calls m_cDay m_cHour m_cFrom m_cAsk m_cWord m_cOf m_isLie m_children m_learned m_group) (va_A (wM cB cI cJ cZ a m_letters m_words m_wMany m_wLetters m_asks m_aWords m_dLetters m_dWords m_dMany m_dText m_dAsks m_dAsk m_tape m_taped m_pos m_from m_sort m_value m_fault m_wrongAt m_manyA m_rowA m_manyB m_rowB m_places m_xs m_ys m_heights m_ridges m_rx m_rHeight m_lanes m_sizes m_cells m_left m_calls m_cDay m_cHour m_cFrom m_cAsk m_cWord m_cOf m_isLie m_children m_learned m_group) sz) r0) 0 0 (va_A (wM cB cI cJ cZ a m_letters m_words m_wMany m_wLetters m_asks m_aWords m_dLetters m_dWords m_dMany m_dText m_dAsks m_dAsk m_tape m_taped m_pos m_from m_sort m_value m_fault m_wrongAt m_manyA m_rowA m_manyB m_rowB m_places m_xs m_ys m_heights m_ridges m_rx m_rHeight m_lanes m_sizes m_cells m_left m_calls m_cDay m_cHour m_cFrom m_cAsk m_cWord m_cOf m_isLie m_children m_learned m_group) sz) := by
  refine Met.ofW (cc := cX9_blurred) (maxL := 4) (ret := (some .int)) (by decide) rfl ?_
  intro p e s m args below meth c s₁ B hml hv
  obtain ⟨rfl, hsz, hP, hK, hD0, hE⟩ := hv
  have hx := B.exec
  have hb := B.bytes
  have hr := B.returns
  have hts := atoms_spec (ws := wsX9_blurred) B.pre
  have hown : s.vm.findClass RX9 = some m.cls := findClass_of_methodNamed B.named
  have hlocks := B.notSynchronized
  subst hsz
  have hD := hD0.self (sz := s.heap.size)
  have hA : ∀ q : Nat, s.heap.size ≤ q → va_A (wM cB cI cJ cZ a m_letters m_words m_wMany m_wLetters m_asks m_aWords m_dLetters m_dWords m_dMany m_dText m_dAsks m_dAsk m_tape m_taped m_pos m_from m_sort m_value m_fault m_wrongAt m_manyA m_rowA m_manyB m_rowB m_places m_xs m_ys m_heights m_ridges m_rx m_rHeight m_lanes m_sizes m_cells m_left m_calls m_cDay m_cHour m_cFrom m_cAsk m_cWord m_cOf m_isLie m_children m_learned m_group) s.heap.size q := fun q h => Or.inr h
  generalize va_A (wM cB cI cJ cZ a m_letters m_words m_wMany m_wLetters m_asks m_aWords m_dLetters m_dWords m_dMany m_dText m_dAsks m_dAsk m_tape m_taped m_pos m_from m_sort m_value m_fault m_wrongAt m_manyA m_rowA m_manyB m_rowB m_places m_xs m_ys m_heights m_ridges m_rx m_rHeight m_lanes m_sizes m_cells m_left m_calls m_cDay m_cHour m_cFrom m_cAsk m_cWord m_cOf m_isLie m_children m_learned m_group) s.heap.size = A at hD hA hE ⊢
  have hS : va_S A s.heap s.heap [] := va_S.rf
  have C0 : cxt cX9_blurred (some .int) 4 RX9 wsX9_blurred (dC, dI) (tyz cB cI cJ cZ) E_0 A p s m ([.ref (a 0), .int x1, .int x2, .int x3] : List Value).toArray meth c := ⟨hx, hb, hr, hml, hown, hts, hlocks, hK, hA, hE⟩
  have hl := lv_entry ([.ref (a 0), .int x1, .int x2, .int x3]) (n := 4) (Nat.le_of_ble_eq_true rfl)
  rw [lg_entry_eq]
  generalize (lg_sl ([.ref (a 0), .int x1, .int x2, .int x3]) ++ List.replicate (4 - (lg_sl ([.ref (a 0), .int x1, .int x2, .int x3])).length) Slot.unset).toArray = ls at hl ⊢
  have hl : lv_has ls 4 [(0, .ref (a 0)), (1, .int x1), (2, .int x2), (3, .int x3)] := hl
  have hw0 := hts (.fieldLink RX9 37 "WhistledWordsModel" "rowA" "[I") (by decide +kernel)
  have hw1 := hts (.fieldLink RX9 206 "WhistledWordsModel" "manyA" "I") (by decide +kernel)
  have hnX9 : ∀ w ∈ u_ws RX9 TX9 46, w ∈ wsX9_blurred := fun _ h => List.mem_cons_of_mem _ (List.mem_append_right _ h)
  unfold fX9_blurred at h
  refine lv_aload_n hx hb dX9_blurred_0 rfl (lv_at hl 0 rfl) ?_
  refine lv_iload_n hx hb dX9_blurred_1 rfl (lv_at hl 1 rfl) ?_
  obtain ⟨v1, hc, h⟩ := bd1_use h
  refine cv_i (As := [.int x1]) (rest := []) ⟨hx, hb, hml, hown, hts⟩ (kX9_isWord l n dC dI cB cI cJ cZ a _ m_letters m_words m_wMany m_wLetters m_asks m_aWords m_dLetters m_dWords m_dMany m_dText m_dAsks m_dAsk m_tape m_taped m_pos m_from m_sort m_value m_fault m_wrongAt m_manyA m_rowA m_manyB m_rowB m_places m_xs m_ys m_heights m_ridges m_rx m_rHeight m_lanes m_sizes m_cells m_left m_calls m_cDay m_cHour m_cFrom m_cAsk m_cWord m_cOf m_isLie m_children m_learned m_group x1 v1 hc) (cwV 1 hts gX9_blurred_X9_isWord rfl rfl rfl (by decide +kernel) ⟨Nat.le_of_ble_eq_true rfl, Nat.le_of_ble_eq_true rfl⟩) EB_0 hE hK hP hD hS hA 0 (ci := 8) rfl rfl rfl rfl hl.1 rfl (Nat.le_of_ble_eq_true rfl) dX9_blurred_2 ⟨Nat.zero_le _, Nat.zero_le _⟩ (fun H locs hP hD hS => ?_)
  refine lv_if_eq (tgt := 19) hx hb dX9_blurred_5 (by decide) (fun c2 => ?_) (fun c2 => ?_)
  · have h := it_use c2 h
    refine lv_iconst (v := -1) hx hb dX9_blurred_19 (by decide) ?_
    obtain ⟨er, ez0, ez1⟩ := rt3_use h
    subst ez0
    subst ez1
    exact re_i hx hb hr hlocks hK hP hD hS er dX9_blurred_20
  · have h := ie_use c2 h
    refine lv_iload_n hx hb dX9_blurred_8 rfl (lv_at hl 2 rfl) ?_
    obtain ⟨v3, hc, h⟩ := bd1_use h
    refine cs_i (As := [.int x2]) (rest := []) ⟨hx, hb, hml, hown, hts⟩ (kX9_isBlur l n x2 v3 hc) (va_cwS 1 hts gX9_blurred_X9_isBlur rfl rfl rfl (by decide +kernel) ⟨Nat.le_of_ble_eq_true rfl, Nat.le_of_ble_eq_true rfl⟩) hP hS rfl hl.1 rfl (Nat.le_of_ble_eq_true rfl) dX9_blurred_9 ⟨Nat.zero_le _, Nat.zero_le _⟩ (fun H locs hP hS => ?_)
    refine lv_if_eq (tgt := 19) hx hb dX9_blurred_12 (by decide) (fun c4 => ?_) (fun c4 => ?_)
    · have h := it_use c4 h
      refine lv_iconst (v := -1) hx hb dX9_blurred_19 (by decide) ?_
      obtain ⟨er, ez0, ez1⟩ := rt3_use h
      subst ez0
      subst ez1
      exact re_i hx hb hr hlocks hK hP hD hS er dX9_blurred_20
    · have h := ie_use c4 h
      refine lv_iload_n hx hb dX9_blurred_15 rfl (lv_at hl 3 rfl) ?_
      refine lv_if_ge (tgt := 21) hx hb dX9_blurred_16 (by decide) (fun c5 => ?_) (fun c5 => ?_)
      · have h := it_use c5 h
        refine lv_aload_n hx hb dX9_blurred_21 rfl (lv_at hl 0 rfl) ?_
        refine lv_aload_n hx hb dX9_blurred_22 rfl (lv_at hl 0 rfl) ?_
        refine lv_iload_n hx hb dX9_blurred_23 rfl (lv_at hl 1 rfl) ?_
        refine lv_iload_n hx hb dX9_blurred_24 rfl (lv_at hl 2 rfl) ?_
        refine lv_aload_n hx hb dX9_blurred_25 rfl (lv_at hl 0 rfl) ?_
        refine gM_mo_rowA hx hb hts hnX9 hown hK hP hw0 dX9_blurred_26 ?_
        obtain ⟨v6, f7, hc, h⟩ := bd2_use h
        refine cv_i (As := [.int x1, .int x2, .ref (a 10)]) (rest := [.ref (a 0)]) ⟨hx, hb, hml, hown, hts⟩ (kX9_rowOf_rowA l n dC dI cB cI cJ cZ a _ m_letters m_words m_wMany m_wLetters m_asks m_aWords m_dLetters m_dWords m_dMany m_dText m_dAsks m_dAsk m_tape m_taped m_pos m_from m_sort m_value m_fault m_wrongAt m_manyA m_rowA m_manyB m_rowB m_places m_xs m_ys m_heights m_ridges m_rx m_rHeight m_lanes m_sizes m_cells m_left m_calls m_cDay m_cHour m_cFrom m_cAsk m_cWord m_cOf m_isLie m_children m_learned m_group x1 x2 v6 f7 hc) (cwV 3 hts gX9_blurred_X9_rowOf rfl rfl rfl (by decide +kernel) ⟨Nat.le_of_ble_eq_true rfl, Nat.le_of_ble_eq_true rfl⟩) EB_0 hE hK hP hD hS hA 0 (ci := 8) rfl rfl rfl rfl hl.1 rfl (Nat.le_of_ble_eq_true rfl) dX9_blurred_29 ⟨Nat.zero_le _, Nat.zero_le _⟩ (fun H locs hP hD hS => ?_)
        refine pM_mo_manyA hx hb hts hnX9 hown hK hP hD hS hw1 dX9_blurred_32 (fun H locs hP hD hS => ?_)
        refine lv_iload_n hx hb dX9_blurred_35 rfl (lv_at hl 3 rfl) ?_
        refine lv_aload_n hx hb dX9_blurred_36 rfl (lv_at hl 0 rfl) ?_
        refine gM_mo_manyA hx hb hts hnX9 hown hK hP hw1 dX9_blurred_37 ?_
        refine lv_icmp_ge (tgt := 52) hx hb dX9_blurred_40 (by decide) (fun c8 => ?_) (fun c8 => ?_)
        · have h := it_use c8 h
          refine lv_bipush (v := -4) hx hb dX9_blurred_52 (by decide) ?_
          obtain ⟨er, ez0, ez1⟩ := rt3_use h
          subst ez0
          subst ez1
          exact re_i hx hb hr hlocks hK hP hD hS er dX9_blurred_54
        · have h := ie_use c8 h
          refine lv_aload_n hx hb dX9_blurred_43 rfl (lv_at hl 0 rfl) ?_
          refine gM_mo_rowA hx hb hts hnX9 hown hK hP hw0 dX9_blurred_44 ?_
          refine lv_iload_n hx hb dX9_blurred_47 rfl (lv_at hl 3 rfl) ?_
          obtain ⟨hiv9, h⟩ := ar_use h
          refine lM_mo_rowA hx hb hK hP hiv9 dX9_blurred_48 ?_
          refine lv_topi (fun v9 ev9 => ?_)
          have h := h v9 ev9
          refine lv_goto (tgt := 54) hx hb dX9_blurred_49 (by decide) ?_
          obtain ⟨er, ez0, ez1⟩ := rt3_use h
          subst ez0
          subst ez1
          exact re_i hx hb hr hlocks hK hP hD hS er dX9_blurred_54
      · have h := ie_use c5 h
        refine lv_iconst (v := -1) hx hb dX9_blurred_19 (by decide) ?_
        obtain ⟨er, ez0, ez1⟩ := rt3_use h
        subst ez0
        subst ez1
        exact re_i hx hb hr hlocks hK hP hD hS er dX9_blurred_20
set_option maxHeartbeats 4000000 in
set_option maxRecDepth 100000 in
theorem kX9_rowOf_rowB_p6_r {p : Program} {l : Launch} {e : Env} {s : State} {m : MethodId} {args : Array Value} {below : List Frame} {meth : Method} {c : Code} {A : Nat → Prop} (dC : Nat → ClassId) (dI : Nat → Nat → Nat) (cB cI cJ cZ : ClassId) (a : Nat → Nat) (C0 : cxt cX9_rowOf (some .int) 7 RX9 wsX9_rowOf (dC, dI) (tyz cB cI cJ cZ) E_0 A p s m args meth c) (n : Nat) (m_letters : Nat → Int32) (m_words : Int32) (m_wMany : Nat → Int32) (m_wLetters : Nat → Int32) (m_asks : Int32) (m_aWords : Nat → Int32) (m_dLetters : Nat → Int32) (m_dWords : Int32) (m_dMany : Nat → Int32) (m_dText : Nat → Int32) (m_dAsks : Int32) (m_dAsk : Nat → Int32) (m_tape : Nat → Int32) (m_taped : Int32) (m_pos : Int32) (m_from : Int32) (m_sort : Int32) (m_value : Int32) (m_fault : Int32) (m_wrongAt : Int32) (m_manyA : Int32) (m_rowA : Nat → Int32) (m_manyB : Int32) (m_places : Int32) (m_xs : Nat → Int32) (m_ys : Nat → Int32) (m_heights : Nat → Int32) (m_ridges : Int32) (m_rx : Nat → Int32) (m_rHeight : Nat → Int32) (m_lanes : Nat → Int32) (m_sizes : Nat → Int32) (m_cells : Nat → Int32) (m_left : Nat → Int32) (m_calls : Int32) (m_cDay : Nat → Int32) (m_cHour : Nat → Int32) (m_cFrom : Nat → Int32) (m_cAsk : Nat → Int32) (m_cWord : Nat → Int32) (m_cOf : Nat → Int32) (m_isLie : Nat → Int32) (m_children : Int32) (m_learned : Nat → Int32) (m_group : Nat → Int32) (x1 : Int32) (x2 : Int32) (r0 : Int32) (z_m_rowB : Nat → Int32)  : ∀ (k : Nat) (m_rowB : Nat → Int32) (x4 : Int32) (x5 : Int32) (H : Heap) (locs : List Loc) (ls : Array Slot), fX9_rowOf_p6 n m_letters m_wMany m_wLetters x1 x2 k m_rowB x4 x5 = some (r0, z_m_rowB) → va_P (dC, dI) vwCl (wM cB cI cJ cZ a m_letters m_words m_wMany m_wLetters m_asks m_aWords m_dLetters m_dWords m_dMany m_dText m_dAsks m_dAsk m_tape m_taped m_pos m_from m_sort m_value m_fault m_wrongAt m_manyA m_rowA m_manyB m_rowB m_places m_xs m_ys m_heights m_ridges m_rx m_rHeight m_lanes m_sizes m_cells m_left m_calls m_cDay m_cHour m_cFrom m_cAsk m_cWord m_cOf m_isLie m_children m_learned m_group) H → va_D A (wM cB cI cJ cZ a m_letters m_words m_wMany m_wLetters m_asks m_aWords m_dLetters m_dWords m_dMany m_dText m_dAsks m_dAsk m_tape m_taped m_pos m_from m_sort m_value m_fault m_wrongAt m_manyA m_rowA m_manyB m_rowB m_places m_xs m_ys m_heights m_ridges m_rx m_rHeight m_lanes m_sizes m_cells m_left m_calls m_cDay m_cHour m_cFrom m_cAsk m_cWord m_cOf m_isLie m_children m_learned m_group) → va_S A s.heap H locs → lv_has ls 7 [(0, .ref (a 0)), (1, .int x1), (2, .int x2), (3, .ref (a 11)), (4, .int x4), (5, .int x5)] → W p l e { frames := 1, cells := 0, slots := 0, locals := 21 } s m args below meth c H locs 0 0 (MQ below (gI (dC, dI) (tyz cB cI cJ cZ) (wM cB cI cJ cZ a m_letters m_words m_wMany m_wLetters m_asks m_aWords m_dLetters m_dWords m_dMany m_dText m_dAsks m_dAsk m_tape m_taped m_pos m_from m_sort m_value m_fault m_wrongAt m_manyA m_rowA m_manyB z_m_rowB m_places m_xs m_ys m_heights m_ridges m_rx m_rHeight m_lanes m_sizes m_cells m_left m_calls m_cDay m_cHour m_cFrom m_cAsk m_cWord m_cOf m_isLie m_children m_learned m_group) A r0) args s 0 0 A) (F0 m 6 ls []) := by
  obtain ⟨hx, hb, hr, hml, hown, hts, hlocks, hK, hA, hE⟩ := id C0
  have hw0 := hts (.fieldLink RX9 13 "WhistledWordsModel" "wMany" "[I") (by decide +kernel)
  have hw1 := hts (.fieldLink RX9 7 "WhistledWordsModel" "letters" "[I") (by decide +kernel)
  have hw2 := hts (.fieldLink RX9 16 "WhistledWordsModel" "wLetters" "[I") (by decide +kernel)
  have hnX9 : ∀ w ∈ u_ws RX9 TX9 46, w ∈ wsX9_rowOf := fun _ h => List.mem_cons_of_mem _ (List.mem_append_right _ h)
  intro k
  induction k with
  | zero =>
    intro m_rowB x4 x5 H locs ls h
    cases h
  | succ k ih =>
    intro m_rowB x4 x5 H locs ls h hP hD hS hl
    rw [fX9_rowOf_p6] at h
    refine lv_iload hx hb dX9_rowOf_6 (lv_at hl 5 rfl) ?_
    refine lv_aload_n hx hb dX9_rowOf_8 rfl (lv_at hl 0 rfl) ?_
    refine gM_mo_wMany hx hb hts hnX9 hown hK hP hw0 dX9_rowOf_9 ?_
    refine lv_iload_n hx hb dX9_rowOf_12 rfl (lv_at hl 1 rfl) ?_
    obtain ⟨hiv1, h⟩ := ar_use h
    refine lM_mo_wMany hx hb hK hP hiv1 dX9_rowOf_13 ?_
    refine lv_topi (fun v1 ev1 => ?_)
    have h := h v1 ev1
    refine lv_icmp_ge (tgt := 81) hx hb dX9_rowOf_14 (by decide) (fun c2 => ?_) (fun c2 => ?_)
    · have h := it_use c2 h
      refine lv_iload hx hb dX9_rowOf_81 (lv_at hl 4 rfl) ?_
      obtain ⟨er, ez0⟩ := rt2_use h
      subst ez0
      exact re_i hx hb hr hlocks hK hP hD hS er dX9_rowOf_83
    · have h := ie_use c2 h
      refine lv_aload_n hx hb dX9_rowOf_17 rfl (lv_at hl 0 rfl) ?_
      refine gM_mo_letters hx hb hts hnX9 hown hK hP hw1 dX9_rowOf_18 ?_
      refine lv_aload_n hx hb dX9_rowOf_21 rfl (lv_at hl 0 rfl) ?_
      refine gM_mo_wLetters hx hb hts hnX9 hown hK hP hw2 dX9_rowOf_22 ?_
      refine lv_bipush (v := 8) hx hb dX9_rowOf_25 (by decide) ?_
      refine lv_iload_n hx hb dX9_rowOf_27 rfl (lv_at hl 1 rfl) ?_
      refine lv_imul hx hb dX9_rowOf_28 ?_
      refine lv_iload hx hb dX9_rowOf_29 (lv_at hl 5 rfl) ?_
      refine lv_iadd hx hb dX9_rowOf_31 ?_
      obtain ⟨hiv3, h⟩ := ar_use h
      refine lM_mo_wLetters hx hb hK hP hiv3 dX9_rowOf_32 ?_
      refine lv_topi (fun v3 ev3 => ?_)
      have h := h v3 ev3
      obtain ⟨hiv4, h⟩ := ar_use h
      refine lM_mo_letters hx hb hK hP hiv4 dX9_rowOf_33 ?_
      refine lv_topi (fun v4 ev4 => ?_)
      have h := h v4 ev4
      refine lv_iload_n hx hb dX9_rowOf_34 rfl (lv_at hl 2 rfl) ?_
      obtain ⟨v5, hc, h⟩ := bd1_use h
      refine cs_i (As := [.int v4, .int x2]) (rest := []) ⟨hx, hb, hml, hown, hts⟩ (kX9_markAt l n v4 x2 v5 hc) (va_cwS 2 hts gX9_rowOf_X9_markAt rfl rfl rfl (by decide +kernel) ⟨Nat.le_of_ble_eq_true rfl, Nat.le_of_ble_eq_true rfl⟩) hP hS rfl hl.1 rfl (Nat.le_of_ble_eq_true rfl) dX9_rowOf_35 ⟨Nat.zero_le _, Nat.zero_le _⟩ (fun H locs hP hS => ?_)
      refine lv_istore (lv' := [(6, .int v5), (0, .ref (a 0)), (1, .int x1), (2, .int x2), (3, .ref (a 11)), (4, .int x4), (5, .int x5)]) hx hb dX9_rowOf_38 hl (by decide) rfl (fun ls hl => ?_)
      refine lv_iload hx hb dX9_rowOf_40 (lv_at hl 0 rfl) ?_
      refine lv_if_lt (tgt := 75) hx hb dX9_rowOf_42 (by decide) (fun c6 => ?_) (fun c6 => ?_)
      · have h := it_use c6 h
        refine lv_iinc (v := x5 + 1) (lv' := [(5, .int (x5 + 1)), (6, .int v5), (0, .ref (a 0)), (1, .int x1), (2, .int x2), (3, .ref (a 11)), (4, .int x4)]) hx hb dX9_rowOf_75 hl (k := 6) rfl rfl (by decide) rfl (fun ls hl => ?_)
        refine lv_goto (tgt := 6) hx hb dX9_rowOf_78 (by decide) ?_
        exact ih m_rowB x4 (x5 + 1) _ _ ls h hP hD hS (lv_sub hl [2, 3, 4, 5, 6, 0] rfl)
      · have h := ie_use c6 h
        refine lv_iload_n hx hb dX9_rowOf_45 rfl (lv_at hl 3 rfl) ?_
        refine lv_iconst (v := 3) hx hb dX9_rowOf_46 (by decide) ?_
        refine lv_icmp_lt (tgt := 66) hx hb dX9_rowOf_47 (by decide) (fun c7 => ?_) (fun c7 => ?_)
        · have h := it_use c7 h
          refine lv_aload_n hx hb dX9_rowOf_66 rfl (lv_at hl 4 rfl) ?_
          refine lv_iload hx hb dX9_rowOf_67 (lv_at hl 5 rfl) ?_
          refine lv_iload hx hb dX9_rowOf_69 (lv_at hl 0 rfl) ?_
          obtain ⟨hif8, f8, ef8, h⟩ := aw_use h
          refine sM_mo_rowB hx hb hK hP hD hS hif8 ef8 dX9_rowOf_71 (fun H locs hP hD hS => ?_)
          refine lv_iinc (v := x4 + 1) (lv' := [(4, .int (x4 + 1)), (6, .int v5), (0, .ref (a 0)), (1, .int x1), (2, .int x2), (3, .ref (a 11)), (5, .int x5)]) hx hb dX9_rowOf_72 hl (k := 5) rfl rfl (by decide) rfl (fun ls hl => ?_)
          refine lv_iinc (v := x5 + 1) (lv' := [(5, .int (x5 + 1)), (4, .int (x4 + 1)), (6, .int v5), (0, .ref (a 0)), (1, .int x1), (2, .int x2), (3, .ref (a 11))]) hx hb dX9_rowOf_75 hl (k := 6) rfl rfl (by decide) rfl (fun ls hl => ?_)
          refine lv_goto (tgt := 6) hx hb dX9_rowOf_78 (by decide) ?_
          exact ih f8 (x4 + 1) (x5 + 1) _ _ ls h hP hD hS (lv_sub hl [3, 4, 5, 6, 1, 0] rfl)
        · have h := ie_use c7 h
          refine lv_iload hx hb dX9_rowOf_50 (lv_at hl 5 rfl) ?_
          refine lv_if_le (tgt := 66) hx hb dX9_rowOf_52 (by decide) (fun c9 => ?_) (fun c9 => ?_)
          · have h := it_use c9 h
            refine lv_aload_n hx hb dX9_rowOf_66 rfl (lv_at hl 4 rfl) ?_
            refine lv_iload hx hb dX9_rowOf_67 (lv_at hl 5 rfl) ?_
            refine lv_iload hx hb dX9_rowOf_69 (lv_at hl 0 rfl) ?_
            obtain ⟨hif10, f10, ef10, h⟩ := aw_use h
            refine sM_mo_rowB hx hb hK hP hD hS hif10 ef10 dX9_rowOf_71 (fun H locs hP hD hS => ?_)
            refine lv_iinc (v := x4 + 1) (lv' := [(4, .int (x4 + 1)), (6, .int v5), (0, .ref (a 0)), (1, .int x1), (2, .int x2), (3, .ref (a 11)), (5, .int x5)]) hx hb dX9_rowOf_72 hl (k := 5) rfl rfl (by decide) rfl (fun ls hl => ?_)
            refine lv_iinc (v := x5 + 1) (lv' := [(5, .int (x5 + 1)), (4, .int (x4 + 1)), (6, .int v5), (0, .ref (a 0)), (1, .int x1), (2, .int x2), (3, .ref (a 11))]) hx hb dX9_rowOf_75 hl (k := 6) rfl rfl (by decide) rfl (fun ls hl => ?_)
            refine lv_goto (tgt := 6) hx hb dX9_rowOf_78 (by decide) ?_
            exact ih f10 (x4 + 1) (x5 + 1) _ _ ls h hP hD hS (lv_sub hl [3, 4, 5, 6, 1, 0] rfl)
          · have h := ie_use c9 h
            refine lv_aload_n hx hb dX9_rowOf_55 rfl (lv_at hl 4 rfl) ?_
            refine lv_iload hx hb dX9_rowOf_56 (lv_at hl 5 rfl) ?_
            refine lv_iconst (v := 1) hx hb dX9_rowOf_58 (by decide) ?_
            refine lv_isub hx hb dX9_rowOf_59 ?_
            obtain ⟨hiv11, h⟩ := ar_use h
            refine lM_mo_rowB hx hb hK hP hiv11 dX9_rowOf_60 ?_
            refine lv_topi (fun v11 ev11 => ?_)
            have h := h v11 ev11
            refine lv_iload hx hb dX9_rowOf_61 (lv_at hl 0 rfl) ?_
            refine lv_icmp_eq (tgt := 75) hx hb dX9_rowOf_63 (by decide) (fun c12 => ?_) (fun c12 => ?_)
            · have h := it_use c12 h
              refine lv_iinc (v := x5 + 1) (lv' := [(5, .int (x5 + 1)), (6, .int v5), (0, .ref (a 0)), (1, .int x1), (2, .int x2), (3, .ref (a 11)), (4, .int x4)]) hx hb dX9_rowOf_75 hl (k := 6) rfl rfl (by decide) rfl (fun ls hl => ?_)
              refine lv_goto (tgt := 6) hx hb dX9_rowOf_78 (by decide) ?_
              exact ih m_rowB x4 (x5 + 1) _ _ ls h hP hD hS (lv_sub hl [2, 3, 4, 5, 6, 0] rfl)
            · have h := ie_use c12 h
              refine lv_aload_n hx hb dX9_rowOf_66 rfl (lv_at hl 4 rfl) ?_
              refine lv_iload hx hb dX9_rowOf_67 (lv_at hl 5 rfl) ?_
              refine lv_iload hx hb dX9_rowOf_69 (lv_at hl 0 rfl) ?_
              obtain ⟨hif13, f13, ef13, h⟩ := aw_use h
              refine sM_mo_rowB hx hb hK hP hD hS hif13 ef13 dX9_rowOf_71 (fun H locs hP hD hS => ?_)
              refine lv_iinc (v := x4 + 1) (lv' := [(4, .int (x4 + 1)), (6, .int v5), (0, .ref (a 0)), (1, .int x1), (2, .int x2), (3, .ref (a 11)), (5, .int x5)]) hx hb dX9_rowOf_72 hl (k := 5) rfl rfl (by decide) rfl (fun ls hl => ?_)
              refine lv_iinc (v := x5 + 1) (lv' := [(5, .int (x5 + 1)), (4, .int (x4 + 1)), (6, .int v5), (0, .ref (a 0)), (1, .int x1), (2, .int x2), (3, .ref (a 11))]) hx hb dX9_rowOf_75 hl (k := 6) rfl rfl (by decide) rfl (fun ls hl => ?_)
              refine lv_goto (tgt := 6) hx hb dX9_rowOf_78 (by decide) ?_
              exact ih f13 (x4 + 1) (x5 + 1) _ _ ls h hP hD hS (lv_sub hl [3, 4, 5, 6, 1, 0] rfl)
theorem kX9_rowOf_rowB_p6 {p : Program} {l : Launch} {e : Env} {s : State} {m : MethodId} {args : Array Value} {below : List Frame} {meth : Method} {c : Code} {A : Nat → Prop} (dC : Nat → ClassId) (dI : Nat → Nat → Nat) (cB cI cJ cZ : ClassId) (a : Nat → Nat) (C0 : cxt cX9_rowOf (some .int) 7 RX9 wsX9_rowOf (dC, dI) (tyz cB cI cJ cZ) E_0 A p s m args meth c) (n : Nat) (m_letters : Nat → Int32) (m_words : Int32) (m_wMany : Nat → Int32) (m_wLetters : Nat → Int32) (m_asks : Int32) (m_aWords : Nat → Int32) (m_dLetters : Nat → Int32) (m_dWords : Int32) (m_dMany : Nat → Int32) (m_dText : Nat → Int32) (m_dAsks : Int32) (m_dAsk : Nat → Int32) (m_tape : Nat → Int32) (m_taped : Int32) (m_pos : Int32) (m_from : Int32) (m_sort : Int32) (m_value : Int32) (m_fault : Int32) (m_wrongAt : Int32) (m_manyA : Int32) (m_rowA : Nat → Int32) (m_manyB : Int32) (m_rowB : Nat → Int32) (m_places : Int32) (m_xs : Nat → Int32) (m_ys : Nat → Int32) (m_heights : Nat → Int32) (m_ridges : Int32) (m_rx : Nat → Int32) (m_rHeight : Nat → Int32) (m_lanes : Nat → Int32) (m_sizes : Nat → Int32) (m_cells : Nat → Int32) (m_left : Nat → Int32) (m_calls : Int32) (m_cDay : Nat → Int32) (m_cHour : Nat → Int32) (m_cFrom : Nat → Int32) (m_cAsk : Nat → Int32) (m_cWord : Nat → Int32) (m_cOf : Nat → Int32) (m_isLie : Nat → Int32) (m_children : Int32) (m_learned : Nat → Int32) (m_group : Nat → Int32)  (x1 : Int32) (x2 : Int32) (x4 : Int32) (x5 : Int32) (r0 : Int32) (z_m_rowB : Nat → Int32)  (k : Nat) (H : Heap) (locs : List Loc) (ls : Array Slot) : fX9_rowOf_p6 n m_letters m_wMany m_wLetters x1 x2 k m_rowB x4 x5 = some (r0, z_m_rowB) → va_P (dC, dI) vwCl (wM cB cI cJ cZ a m_letters m_words m_wMany m_wLetters m_asks m_aWords m_dLetters m_dWords m_dMany m_dText m_dAsks m_dAsk m_tape m_taped m_pos m_from m_sort m_value m_fault m_wrongAt m_manyA m_rowA m_manyB m_rowB m_places m_xs m_ys m_heights m_ridges m_rx m_rHeight m_lanes m_sizes m_cells m_left m_calls m_cDay m_cHour m_cFrom m_cAsk m_cWord m_cOf m_isLie m_children m_learned m_group) H → va_D A (wM cB cI cJ cZ a m_letters m_words m_wMany m_wLetters m_asks m_aWords m_dLetters m_dWords m_dMany m_dText m_dAsks m_dAsk m_tape m_taped m_pos m_from m_sort m_value m_fault m_wrongAt m_manyA m_rowA m_manyB m_rowB m_places m_xs m_ys m_heights m_ridges m_rx m_rHeight m_lanes m_sizes m_cells m_left m_calls m_cDay m_cHour m_cFrom m_cAsk m_cWord m_cOf m_isLie m_children m_learned m_group) → va_S A s.heap H locs → lv_has ls 7 [(0, .ref (a 0)), (1, .int x1), (2, .int x2), (3, .ref (a 11)), (4, .int x4), (5, .int x5)] → W p l e { frames := 1, cells := 0, slots := 0, locals := 21 } s m args below meth c H locs 0 0 (MQ below (gI (dC, dI) (tyz cB cI cJ cZ) (wM cB cI cJ cZ a m_letters m_words m_wMany m_wLetters m_asks m_aWords m_dLetters m_dWords m_dMany m_dText m_dAsks m_dAsk m_tape m_taped m_pos m_from m_sort m_value m_fault m_wrongAt m_manyA m_rowA m_manyB z_m_rowB m_places m_xs m_ys m_heights m_ridges m_rx m_rHeight m_lanes m_sizes m_cells m_left m_calls m_cDay m_cHour m_cFrom m_cAsk m_cWord m_cOf m_isLie m_children m_learned m_group) A r0) args s 0 0 A) (F0 m 6 ls []) :=
  kX9_rowOf_rowB_p6_r dC dI cB cI cJ cZ a C0 n m_letters m_words m_wMany m_wLetters m_asks m_aWords m_dLetters m_dWords m_dMany m_dText m_dAsks m_dAsk m_tape m_taped m_pos m_from m_sort m_value m_fault m_wrongAt m_manyA m_rowA m_manyB m_places m_xs m_ys m_heights m_ridges m_rx m_rHeight m_lanes m_sizes m_cells m_left m_calls m_cDay m_cHour m_cFrom m_cAsk m_cWord m_cOf m_isLie m_children m_learned m_group x1 x2 r0 z_m_rowB  k m_rowB x4 x5 H locs ls
set_option maxHeartbeats 4000000 in
set_option maxRecDepth 100000 in
theorem kX9_rowOf_rowB (l : Launch) (n : Nat) (dC : Nat → ClassId) (dI : Nat → Nat → Nat) (cB cI cJ cZ : ClassId) (a : Nat → Nat) (sz : Nat) (m_letters : Nat → Int32) (m_words : Int32) (m_wMany : Nat → Int32) (m_wLetters : Nat → Int32) (m_asks : Int32) (m_aWords : Nat → Int32) (m_dLetters : Nat → Int32) (m_dWords : Int32) (m_dMany : Nat → Int32) (m_dText : Nat → Int32) (m_dAsks : Int32) (m_dAsk : Nat → Int32) (m_tape : Nat → Int32) (m_taped : Int32) (m_pos : Int32) (m_from : Int32) (m_sort : Int32) (m_value : Int32) (m_fault : Int32) (m_wrongAt : Int32) (m_manyA : Int32) (m_rowA : Nat → Int32) (m_manyB : Int32) (m_rowB : Nat → Int32) (m_places : Int32) (m_xs : Nat → Int32) (m_ys : Nat → Int32) (m_heights : Nat → Int32) (m_ridges : Int32) (m_rx : Nat → Int32) (m_rHeight : Nat → Int32) (m_lanes : Nat → Int32) (m_sizes : Nat → Int32) (m_cells : Nat → Int32) (m_left : Nat → Int32) (m_calls : Int32) (m_cDay : Nat → Int32) (m_cHour : Nat → Int32) (m_cFrom : Nat → Int32) (m_cAsk : Nat → Int32) (m_cWord : Nat → Int32) (m_cOf : Nat → Int32) (m_isLie : Nat → Int32) (m_children : Int32) (m_learned : Nat → Int32) (m_group : Nat → Int32) (x1 : Int32) (x2 : Int32) (r0 : Int32) (z_m_rowB : Nat → Int32) (h : fX9_rowOf n m_letters m_wMany m_wLetters m_rowB x1 x2 = some (r0, z_m_rowB)) : Met l yX9_rowOf wsX9_rowOf ({ frames := 1, cells := 0, slots := 0, locals := 21 }) (gP (dC, dI) (tyz cB cI cJ cZ) E_0 (wM cB cI cJ cZ a m_letters m_words m_wMany m_wLetters m_asks m_aWords m_dLetters m_dWords m_dMany m_dText m_dAsks m_dAsk m_tape m_taped m_pos m_from m_sort m_value m_fault m_wrongAt m_manyA m_rowA m_manyB m_rowB m_places m_xs m_ys m_heights m_ridges m_rx m_rHeight m_lanes m_sizes m_cells m_left m_calls m_cDay m_cHour m_cFrom m_cAsk m_cWord m_cOf m_isLie m_children m_learned m_group) sz [.ref (a 0), .int x1, .int x2, .ref (a 11)]) (gI (dC, dI) (tyz cB cI cJ cZ) (wM cB cI cJ cZ a m_letters m_words m_wMany m_wLetters m_asks m_aWords m_dLetters m_dWords m_dMany m_dText m_dAsks m_dAsk m_tape m_taped m_pos m_from m_sort m_value m_fault m_wrongAt m_manyA m_rowA m_manyB z_m_rowB m_places m_xs m_ys m_heights m_ridges m_rx m_rHeight m_lanes m_sizes m_cells m_left m_calls m_cDay m_cHour m_cFrom m_cAsk m_cWord m_cOf m_isLie m_children m_learned m_group) (va_A (wM cB cI cJ cZ a m_letters m_words m_wMany m_wLetters m_asks m_aWords m_dLetters m_dWords m_dMany m_dText m_dAsks m_dAsk m_tape m_taped m_pos m_from m_sort m_value m_fault m_wrongAt m_manyA m_rowA m_manyB m_rowB m_places m_xs m_ys m_heights m_ridges m_rx m_rHeight m_lanes m_sizes m_cells m_left m_calls m_cDay m_cHour m_cFrom m_cAsk m_cWord m_cOf m_isLie m_children m_learned m_group) sz) r0) 0 0 (va_A (wM cB cI cJ cZ a m_letters m_words m_wMany m_wLetters m_asks m_aWords m_dLetters m_dWords m_dMany m_dText m_dAsks m_dAsk m_tape m_taped m_pos m_from m_sort m_value m_fault m_wrongAt m_manyA m_rowA m_manyB m_rowB m_places m_xs m_ys m_heights m_ridges m_rx m_rHeight m_lanes m_sizes m_cells m_left m_calls m_cDay m_cHour m_cFrom m_cAsk m_cWord m_cOf m_isLie m_children m_learned m_group) sz) := by
  refine Met.ofW (cc := cX9_rowOf) (maxL := 7) (ret := (some .int)) (by decide) rfl ?_
  intro p e s m args below meth c s₁ B hml hv
  obtain ⟨rfl, hsz, hP, hK, hD0, hE⟩ := hv
  have hx := B.exec
  have hb := B.bytes
  have hr := B.returns
  have hts := atoms_spec (ws := wsX9_rowOf) B.pre
  have hown : s.vm.findClass RX9 = some m.cls := findClass_of_methodNamed B.named
  have hlocks := B.notSynchronized
  subst hsz
  have hD := hD0.self (sz := s.heap.size)
  have hA : ∀ q : Nat, s.heap.size ≤ q → va_A (wM cB cI cJ cZ a m_letters m_words m_wMany m_wLetters m_asks m_aWords m_dLetters m_dWords m_dMany m_dText m_dAsks m_dAsk m_tape m_taped m_pos m_from m_sort m_value m_fault m_wrongAt m_manyA m_rowA m_manyB m_rowB m_places m_xs m_ys m_heights m_ridges m_rx m_rHeight m_lanes m_sizes m_cells m_left m_calls m_cDay m_cHour m_cFrom m_cAsk m_cWord m_cOf m_isLie m_children m_learned m_group) s.heap.size q := fun q h => Or.inr h
  generalize va_A (wM cB cI cJ cZ a m_letters m_words m_wMany m_wLetters m_asks m_aWords m_dLetters m_dWords m_dMany m_dText m_dAsks m_dAsk m_tape m_taped m_pos m_from m_sort m_value m_fault m_wrongAt m_manyA m_rowA m_manyB m_rowB m_places m_xs m_ys m_heights m_ridges m_rx m_rHeight m_lanes m_sizes m_cells m_left m_calls m_cDay m_cHour m_cFrom m_cAsk m_cWord m_cOf m_isLie m_children m_learned m_group) s.heap.size = A at hD hA hE ⊢
  have hS : va_S A s.heap s.heap [] := va_S.rf
  have C0 : cxt cX9_rowOf (some .int) 7 RX9 wsX9_rowOf (dC, dI) (tyz cB cI cJ cZ) E_0 A p s m ([.ref (a 0), .int x1, .int x2, .ref (a 11)] : List Value).toArray meth c := ⟨hx, hb, hr, hml, hown, hts, hlocks, hK, hA, hE⟩
  have hl := lv_entry ([.ref (a 0), .int x1, .int x2, .ref (a 11)]) (n := 7) (Nat.le_of_ble_eq_true rfl)
  rw [lg_entry_eq]
  generalize (lg_sl ([.ref (a 0), .int x1, .int x2, .ref (a 11)]) ++ List.replicate (7 - (lg_sl ([.ref (a 0), .int x1, .int x2, .ref (a 11)])).length) Slot.unset).toArray = ls at hl ⊢
  have hl : lv_has ls 7 [(0, .ref (a 0)), (1, .int x1), (2, .int x2), (3, .ref (a 11))] := hl
  unfold fX9_rowOf at h
  refine lv_iconst (v := 0) hx hb dX9_rowOf_0 (by decide) ?_
  refine lv_istore (lv' := [(4, .int (0 : Int32)), (0, .ref (a 0)), (1, .int x1), (2, .int x2), (3, .ref (a 11))]) hx hb dX9_rowOf_1 hl (by decide) rfl (fun ls hl => ?_)
  refine lv_iconst (v := 0) hx hb dX9_rowOf_3 (by decide) ?_
  refine lv_istore (lv' := [(5, .int (0 : Int32)), (4, .int (0 : Int32)), (0, .ref (a 0)), (1, .int x1), (2, .int x2), (3, .ref (a 11))]) hx hb dX9_rowOf_4 hl (by decide) rfl (fun ls hl => ?_)
  exact kX9_rowOf_rowB_p6 dC dI cB cI cJ cZ a C0 n m_letters m_words m_wMany m_wLetters m_asks m_aWords m_dLetters m_dWords m_dMany m_dText m_dAsks m_dAsk m_tape m_taped m_pos m_from m_sort m_value m_fault m_wrongAt m_manyA m_rowA m_manyB m_rowB m_places m_xs m_ys m_heights m_ridges m_rx m_rHeight m_lanes m_sizes m_cells m_left m_calls m_cDay m_cHour m_cFrom m_cAsk m_cWord m_cOf m_isLie m_children m_learned m_group x1 x2 (0 : Int32) (0 : Int32) r0 z_m_rowB  n _ _ ls h hP hD hS (lv_sub hl [2, 3, 4, 5, 1, 0] rfl)
set_option maxHeartbeats 4000000 in
set_option maxRecDepth 100000 in
theorem kX9_areOne_p49_r {p : Program} {l : Launch} {e : Env} {s : State} {m : MethodId} {args : Array Value} {below : List Frame} {meth : Method} {c : Code} {A : Nat → Prop} (dC : Nat → ClassId) (dI : Nat → Nat → Nat) (cB cI cJ cZ : ClassId) (a : Nat → Nat) (C0 : cxt cX9_areOne (some .boolean) 6 RX9 wsX9_areOne (dC, dI) (tyz cB cI cJ cZ) E_0 A p s m args meth c) (n : Nat) (m_letters : Nat → Int32) (m_words : Int32) (m_wMany : Nat → Int32) (m_wLetters : Nat → Int32) (m_asks : Int32) (m_aWords : Nat → Int32) (m_dLetters : Nat → Int32) (m_dWords : Int32) (m_dMany : Nat → Int32) (m_dText : Nat → Int32) (m_dAsks : Int32) (m_dAsk : Nat → Int32) (m_tape : Nat → Int32) (m_taped : Int32) (m_pos : Int32) (m_from : Int32) (m_sort : Int32) (m_value : Int32) (m_fault : Int32) (m_wrongAt : Int32) (m_manyA : Int32) (m_rowA : Nat → Int32) (m_manyB : Int32) (m_rowB : Nat → Int32) (m_places : Int32) (m_xs : Nat → Int32) (m_ys : Nat → Int32) (m_heights : Nat → Int32) (m_ridges : Int32) (m_rx : Nat → Int32) (m_rHeight : Nat → Int32) (m_lanes : Nat → Int32) (m_sizes : Nat → Int32) (m_cells : Nat → Int32) (m_left : Nat → Int32) (m_calls : Int32) (m_cDay : Nat → Int32) (m_cHour : Nat → Int32) (m_cFrom : Nat → Int32) (m_cAsk : Nat → Int32) (m_cWord : Nat → Int32) (m_cOf : Nat → Int32) (m_isLie : Nat → Int32) (m_children : Int32) (m_learned : Nat → Int32) (m_group : Nat → Int32)  (r0 : Int32) (z_m_manyA : Int32) (z_m_rowA : Nat → Int32) (z_m_manyB : Int32) (z_m_rowB : Nat → Int32)  : ∀ (k : Nat) (x4 : Int32) (x5 : Int32) (H : Heap) (locs : List Loc) (ls : Array Slot), fX9_areOne_p49 n m_manyA m_rowA m_manyB m_rowB k x4 x5 = some (r0, z_m_manyA, z_m_rowA, z_m_manyB, z_m_rowB) → va_P (dC, dI) vwCl (wM cB cI cJ cZ a m_letters m_words m_wMany m_wLetters m_asks m_aWords m_dLetters m_dWords m_dMany m_dText m_dAsks m_dAsk m_tape m_taped m_pos m_from m_sort m_value m_fault m_wrongAt m_manyA m_rowA m_manyB m_rowB m_places m_xs m_ys m_heights m_ridges m_rx m_rHeight m_lanes m_sizes m_cells m_left m_calls m_cDay m_cHour m_cFrom m_cAsk m_cWord m_cOf m_isLie m_children m_learned m_group) H → va_D A (wM cB cI cJ cZ a m_letters m_words m_wMany m_wLetters m_asks m_aWords m_dLetters m_dWords m_dMany m_dText m_dAsks m_dAsk m_tape m_taped m_pos m_from m_sort m_value m_fault m_wrongAt m_manyA m_rowA m_manyB m_rowB m_places m_xs m_ys m_heights m_ridges m_rx m_rHeight m_lanes m_sizes m_cells m_left m_calls m_cDay m_cHour m_cFrom m_cAsk m_cWord m_cOf m_isLie m_children m_learned m_group) → va_S A s.heap H locs → lv_has ls 6 [(0, .ref (a 0)), (4, .int x4), (5, .int x5)] → W p l e { frames := 2, cells := 0, slots := 0, locals := 47 } s m args below meth c H locs 0 0 (MQ below (gI (dC, dI) (tyz cB cI cJ cZ) (wM cB cI cJ cZ a m_letters m_words m_wMany m_wLetters m_asks m_aWords m_dLetters m_dWords m_dMany m_dText m_dAsks m_dAsk m_tape m_taped m_pos m_from m_sort m_value m_fault m_wrongAt z_m_manyA z_m_rowA z_m_manyB z_m_rowB m_places m_xs m_ys m_heights m_ridges m_rx m_rHeight m_lanes m_sizes m_cells m_left m_calls m_cDay m_cHour m_cFrom m_cAsk m_cWord m_cOf m_isLie m_children m_learned m_group) A r0) args s 0 0 A) (F0 m 49 ls []) := by
  obtain ⟨hx, hb, hr, hml, hown, hts, hlocks, hK, hA, hE⟩ := id C0
  have hw0 := hts (.fieldLink RX9 206 "WhistledWordsModel" "manyA" "I") (by decide +kernel)
  have hw1 := hts (.fieldLink RX9 37 "WhistledWordsModel" "rowA" "[I") (by decide +kernel)
  have hw2 := hts (.fieldLink RX9 40 "WhistledWordsModel" "rowB" "[I") (by decide +kernel)
  have hnX9 : ∀ w ∈ u_ws RX9 TX9 46, w ∈ wsX9_areOne := fun _ h => List.mem_cons_of_mem _ (List.mem_append_right _ h)
  intro k
  induction k with
  | zero =>
    intro x4 x5 H locs ls h
    cases h
  | succ k ih =>
    intro x4 x5 H locs ls h hP hD hS hl
    rw [fX9_areOne_p49] at h
    refine lv_iload hx hb dX9_areOne_49 (lv_at hl 2 rfl) ?_
    refine lv_aload_n hx hb dX9_areOne_51 rfl (lv_at hl 0 rfl) ?_
    refine gM_mo_manyA hx hb hts hnX9 hown hK hP hw0 dX9_areOne_52 ?_
    refine lv_icmp_ge (tgt := 93) hx hb dX9_areOne_55 (by decide) (fun c1 => ?_) (fun c1 => ?_)
    · have h := it_use c1 h
      refine lv_iload hx hb dX9_areOne_93 (lv_at hl 1 rfl) ?_
      obtain ⟨hzb, h⟩ := rb_use h
      obtain ⟨er, ez0, ez1, ez2, ez3⟩ := rt5_use h
      subst ez0
      subst ez1
      subst ez2
      subst ez3
      exact re_z hx hb hr hlocks hK hP hD hS hzb er dX9_areOne_95
    · have h := ie_use c1 h
      refine lv_iload hx hb dX9_areOne_58 (lv_at hl 1 rfl) ?_
      refine lv_if_eq (tgt := 93) hx hb dX9_areOne_60 (by decide) (fun c2 => ?_) (fun c2 => ?_)
      · have h := it_use c2 h
        refine lv_iload hx hb dX9_areOne_93 (lv_at hl 1 rfl) ?_
        obtain ⟨hzb, h⟩ := rb_use h
        obtain ⟨er, ez0, ez1, ez2, ez3⟩ := rt5_use h
        subst ez0
        subst ez1
        subst ez2
        subst ez3
        exact re_z hx hb hr hlocks hK hP hD hS hzb er dX9_areOne_95
      · have h := ie_use c2 h
        refine lv_aload_n hx hb dX9_areOne_63 rfl (lv_at hl 0 rfl) ?_
        refine gM_mo_rowA hx hb hts hnX9 hown hK hP hw1 dX9_areOne_64 ?_
        refine lv_iload hx hb dX9_areOne_67 (lv_at hl 2 rfl) ?_
        obtain ⟨hiv3, h⟩ := ar_use h
        refine lM_mo_rowA hx hb hK hP hiv3 dX9_areOne_69 ?_
        refine lv_topi (fun v3 ev3 => ?_)
        have h := h v3 ev3
        refine lv_aload_n hx hb dX9_areOne_70 rfl (lv_at hl 0 rfl) ?_
        refine gM_mo_rowB hx hb hts hnX9 hown hK hP hw2 dX9_areOne_71 ?_
        refine lv_iload hx hb dX9_areOne_74 (lv_at hl 2 rfl) ?_
        obtain ⟨hiv4, h⟩ := ar_use h
        refine lM_mo_rowB hx hb hK hP hiv4 dX9_areOne_76 ?_
        refine lv_topi (fun v4 ev4 => ?_)
        have h := h v4 ev4
        refine lv_icmp_ne (tgt := 84) hx hb dX9_areOne_77 (by decide) (fun c5 => ?_) (fun c5 => ?_)
        · have h := ie_use c5 h
          refine lv_iconst (v := 0) hx hb dX9_areOne_84 (by decide) ?_
          refine lv_istore (lv' := [(4, .int (0 : Int32)), (0, .ref (a 0)), (5, .int x5)]) hx hb dX9_areOne_85 hl (by decide) rfl (fun ls hl => ?_)
          refine lv_iinc (v := x5 + 1) (lv' := [(5, .int (x5 + 1)), (4, .int (0 : Int32)), (0, .ref (a 0))]) hx hb dX9_areOne_87 hl (k := 2) rfl rfl (by decide) rfl (fun ls hl => ?_)
          refine lv_goto (tgt := 49) hx hb dX9_areOne_90 (by decide) ?_
          exact ih (0 : Int32) (x5 + 1) _ _ ls h hP hD hS (lv_sub hl [2, 1, 0] rfl)
        · have h := it_use c5 h
          refine lv_iconst (v := 1) hx hb dX9_areOne_80 (by decide) ?_
          refine lv_goto (tgt := 85) hx hb dX9_areOne_81 (by decide) ?_
          refine lv_istore (lv' := [(4, .int (1 : Int32)), (0, .ref (a 0)), (5, .int x5)]) hx hb dX9_areOne_85 hl (by decide) rfl (fun ls hl => ?_)
          refine lv_iinc (v := x5 + 1) (lv' := [(5, .int (x5 + 1)), (4, .int (1 : Int32)), (0, .ref (a 0))]) hx hb dX9_areOne_87 hl (k := 2) rfl rfl (by decide) rfl (fun ls hl => ?_)
          refine lv_goto (tgt := 49) hx hb dX9_areOne_90 (by decide) ?_
          exact ih (1 : Int32) (x5 + 1) _ _ ls h hP hD hS (lv_sub hl [2, 1, 0] rfl)
theorem kX9_areOne_p49 {p : Program} {l : Launch} {e : Env} {s : State} {m : MethodId} {args : Array Value} {below : List Frame} {meth : Method} {c : Code} {A : Nat → Prop} (dC : Nat → ClassId) (dI : Nat → Nat → Nat) (cB cI cJ cZ : ClassId) (a : Nat → Nat) (C0 : cxt cX9_areOne (some .boolean) 6 RX9 wsX9_areOne (dC, dI) (tyz cB cI cJ cZ) E_0 A p s m args meth c) (n : Nat) (m_letters : Nat → Int32) (m_words : Int32) (m_wMany : Nat → Int32) (m_wLetters : Nat → Int32) (m_asks : Int32) (m_aWords : Nat → Int32) (m_dLetters : Nat → Int32) (m_dWords : Int32) (m_dMany : Nat → Int32) (m_dText : Nat → Int32) (m_dAsks : Int32) (m_dAsk : Nat → Int32) (m_tape : Nat → Int32) (m_taped : Int32) (m_pos : Int32) (m_from : Int32) (m_sort : Int32) (m_value : Int32) (m_fault : Int32) (m_wrongAt : Int32) (m_manyA : Int32) (m_rowA : Nat → Int32) (m_manyB : Int32) (m_rowB : Nat → Int32) (m_places : Int32) (m_xs : Nat → Int32) (m_ys : Nat → Int32) (m_heights : Nat → Int32) (m_ridges : Int32) (m_rx : Nat → Int32) (m_rHeight : Nat → Int32) (m_lanes : Nat → Int32) (m_sizes : Nat → Int32) (m_cells : Nat → Int32) (m_left : Nat → Int32) (m_calls : Int32) (m_cDay : Nat → Int32) (m_cHour : Nat → Int32) (m_cFrom : Nat → Int32) (m_cAsk : Nat → Int32) (m_cWord : Nat → Int32) (m_cOf : Nat → Int32) (m_isLie : Nat → Int32) (m_children : Int32) (m_learned : Nat → Int32) (m_group : Nat → Int32)  (x4 : Int32) (x5 : Int32) (r0 : Int32) (z_m_manyA : Int32) (z_m_rowA : Nat → Int32) (z_m_manyB : Int32) (z_m_rowB : Nat → Int32)  (k : Nat) (H : Heap) (locs : List Loc) (ls : Array Slot) : fX9_areOne_p49 n m_manyA m_rowA m_manyB m_rowB k x4 x5 = some (r0, z_m_manyA, z_m_rowA, z_m_manyB, z_m_rowB) → va_P (dC, dI) vwCl (wM cB cI cJ cZ a m_letters m_words m_wMany m_wLetters m_asks m_aWords m_dLetters m_dWords m_dMany m_dText m_dAsks m_dAsk m_tape m_taped m_pos m_from m_sort m_value m_fault m_wrongAt m_manyA m_rowA m_manyB m_rowB m_places m_xs m_ys m_heights m_ridges m_rx m_rHeight m_lanes m_sizes m_cells m_left m_calls m_cDay m_cHour m_cFrom m_cAsk m_cWord m_cOf m_isLie m_children m_learned m_group) H → va_D A (wM cB cI cJ cZ a m_letters m_words m_wMany m_wLetters m_asks m_aWords m_dLetters m_dWords m_dMany m_dText m_dAsks m_dAsk m_tape m_taped m_pos m_from m_sort m_value m_fault m_wrongAt m_manyA m_rowA m_manyB m_rowB m_places m_xs m_ys m_heights m_ridges m_rx m_rHeight m_lanes m_sizes m_cells m_left m_calls m_cDay m_cHour m_cFrom m_cAsk m_cWord m_cOf m_isLie m_children m_learned m_group) → va_S A s.heap H locs → lv_has ls 6 [(0, .ref (a 0)), (4, .int x4), (5, .int x5)] → W p l e { frames := 2, cells := 0, slots := 0, locals := 47 } s m args below meth c H locs 0 0 (MQ below (gI (dC, dI) (tyz cB cI cJ cZ) (wM cB cI cJ cZ a m_letters m_words m_wMany m_wLetters m_asks m_aWords m_dLetters m_dWords m_dMany m_dText m_dAsks m_dAsk m_tape m_taped m_pos m_from m_sort m_value m_fault m_wrongAt z_m_manyA z_m_rowA z_m_manyB z_m_rowB m_places m_xs m_ys m_heights m_ridges m_rx m_rHeight m_lanes m_sizes m_cells m_left m_calls m_cDay m_cHour m_cFrom m_cAsk m_cWord m_cOf m_isLie m_children m_learned m_group) A r0) args s 0 0 A) (F0 m 49 ls []) :=
  kX9_areOne_p49_r dC dI cB cI cJ cZ a C0 n m_letters m_words m_wMany m_wLetters m_asks m_aWords m_dLetters m_dWords m_dMany m_dText m_dAsks m_dAsk m_tape m_taped m_pos m_from m_sort m_value m_fault m_wrongAt m_manyA m_rowA m_manyB m_rowB m_places m_xs m_ys m_heights m_ridges m_rx m_rHeight m_lanes m_sizes m_cells m_left m_calls m_cDay m_cHour m_cFrom m_cAsk m_cWord m_cOf m_isLie m_children m_learned m_group  r0 z_m_manyA z_m_rowA z_m_manyB z_m_rowB  k x4 x5 H locs ls
set_option maxHeartbeats 4000000 in
set_option maxRecDepth 100000 in
theorem kX9_areOne (l : Launch) (n : Nat) (dC : Nat → ClassId) (dI : Nat → Nat → Nat) (cB cI cJ cZ : ClassId) (a : Nat → Nat) (sz : Nat) (m_letters : Nat → Int32) (m_words : Int32) (m_wMany : Nat → Int32) (m_wLetters : Nat → Int32) (m_asks : Int32) (m_aWords : Nat → Int32) (m_dLetters : Nat → Int32) (m_dWords : Int32) (m_dMany : Nat → Int32) (m_dText : Nat → Int32) (m_dAsks : Int32) (m_dAsk : Nat → Int32) (m_tape : Nat → Int32) (m_taped : Int32) (m_pos : Int32) (m_from : Int32) (m_sort : Int32) (m_value : Int32) (m_fault : Int32) (m_wrongAt : Int32) (m_manyA : Int32) (m_rowA : Nat → Int32) (m_manyB : Int32) (m_rowB : Nat → Int32) (m_places : Int32) (m_xs : Nat → Int32) (m_ys : Nat → Int32) (m_heights : Nat → Int32) (m_ridges : Int32) (m_rx : Nat → Int32) (m_rHeight : Nat → Int32) (m_lanes : Nat → Int32) (m_sizes : Nat → Int32) (m_cells : Nat → Int32) (m_left : Nat → Int32) (m_calls : Int32) (m_cDay : Nat → Int32) (m_cHour : Nat → Int32) (m_cFrom : Nat → Int32) (m_cAsk : Nat → Int32) (m_cWord : Nat → Int32) (m_cOf : Nat → Int32) (m_isLie : Nat → Int32) (m_children : Int32) (m_learned : Nat → Int32) (m_group : Nat → Int32) (x1 : Int32) (x2 : Int32) (x3 : Int32) (r0 : Int32) (z_m_manyA : Int32) (z_m_rowA : Nat → Int32) (z_m_manyB : Int32) (z_m_rowB : Nat → Int32) (h : fX9_areOne n m_letters m_wMany m_wLetters m_manyA m_rowA m_manyB m_rowB x1 x2 x3 = some (r0, z_m_manyA, z_m_rowA, z_m_manyB, z_m_rowB)) : Met l yX9_areOne wsX9_areOne ({ frames := 2, cells := 0, slots := 0, locals := 47 }) (gP (dC, dI) (tyz cB cI cJ cZ) E_0 (wM cB cI cJ cZ a m_letters m_words m_wMany m_wLetters m_asks m_aWords m_dLetters m_dWords m_dMany m_dText m_dAsks m_dAsk m_tape m_taped m_pos m_from m_sort m_value m_fault m_wrongAt m_manyA m_rowA m_manyB m_rowB m_places m_xs m_ys m_heights m_ridges m_rx m_rHeight m_lanes m_sizes m_cells m_left m_calls m_cDay m_cHour m_cFrom m_cAsk m_cWord m_cOf m_isLie m_children m_learned m_group) sz [.ref (a 0), .int x1, .int x2, .int x3]) (gI (dC, dI) (tyz cB cI cJ cZ) (wM cB cI cJ cZ a m_letters m_words m_wMany m_wLetters m_asks m_aWords m_dLetters m_dWords m_dMany m_dText m_dAsks m_dAsk m_tape m_taped m_pos m_from m_sort m_value m_fault m_wrongAt z_m_manyA z_m_rowA z_m_manyB z_m_rowB m_places m_xs m_ys m_heights m_ridges m_rx m_rHeight m_lanes m_sizes m_cells m_left m_calls m_cDay m_cHour m_cFrom m_cAsk m_cWord m_cOf m_isLie m_children m_learned m_group) (va_A (wM cB cI cJ cZ a m_letters m_words m_wMany m_wLetters m_asks m_aWords m_dLetters m_dWords m_dMany m_dText m_dAsks m_dAsk m_tape m_taped m_pos m_from m_sort m_value m_fault m_wrongAt m_manyA m_rowA m_manyB m_rowB m_places m_xs m_ys m_heights m_ridges m_rx m_rHeight m_lanes m_sizes m_cells m_left m_calls m_cDay m_cHour m_cFrom m_cAsk m_cWord m_cOf m_isLie m_children m_learned m_group) sz) r0) 0 0 (va_A (wM cB cI cJ cZ a m_letters m_words m_wMany m_wLetters m_asks m_aWords m_dLetters m_dWords m_dMany m_dText m_dAsks m_dAsk m_tape m_taped m_pos m_from m_sort m_value m_fault m_wrongAt m_manyA m_rowA m_manyB m_rowB m_places m_xs m_ys m_heights m_ridges m_rx m_rHeight m_lanes m_sizes m_cells m_left m_calls m_cDay m_cHour m_cFrom m_cAsk m_cWord m_cOf m_isLie m_children m_learned m_group) sz) := by
  refine Met.ofW (cc := cX9_areOne) (maxL := 6) (ret := (some .boolean)) (by decide) rfl ?_
  intro p e s m args below meth c s₁ B hml hv
  obtain ⟨rfl, hsz, hP, hK, hD0, hE⟩ := hv
  have hx := B.exec
  have hb := B.bytes
  have hr := B.returns
  have hts := atoms_spec (ws := wsX9_areOne) B.pre
  have hown : s.vm.findClass RX9 = some m.cls := findClass_of_methodNamed B.named
  have hlocks := B.notSynchronized
  subst hsz
  have hD := hD0.self (sz := s.heap.size)
  have hA : ∀ q : Nat, s.heap.size ≤ q → va_A (wM cB cI cJ cZ a m_letters m_words m_wMany m_wLetters m_asks m_aWords m_dLetters m_dWords m_dMany m_dText m_dAsks m_dAsk m_tape m_taped m_pos m_from m_sort m_value m_fault m_wrongAt m_manyA m_rowA m_manyB m_rowB m_places m_xs m_ys m_heights m_ridges m_rx m_rHeight m_lanes m_sizes m_cells m_left m_calls m_cDay m_cHour m_cFrom m_cAsk m_cWord m_cOf m_isLie m_children m_learned m_group) s.heap.size q := fun q h => Or.inr h
  generalize va_A (wM cB cI cJ cZ a m_letters m_words m_wMany m_wLetters m_asks m_aWords m_dLetters m_dWords m_dMany m_dText m_dAsks m_dAsk m_tape m_taped m_pos m_from m_sort m_value m_fault m_wrongAt m_manyA m_rowA m_manyB m_rowB m_places m_xs m_ys m_heights m_ridges m_rx m_rHeight m_lanes m_sizes m_cells m_left m_calls m_cDay m_cHour m_cFrom m_cAsk m_cWord m_cOf m_isLie m_children m_learned m_group) s.heap.size = A at hD hA hE ⊢
  have hS : va_S A s.heap s.heap [] := va_S.rf
  have C0 : cxt cX9_areOne (some .boolean) 6 RX9 wsX9_areOne (dC, dI) (tyz cB cI cJ cZ) E_0 A p s m ([.ref (a 0), .int x1, .int x2, .int x3] : List Value).toArray meth c := ⟨hx, hb, hr, hml, hown, hts, hlocks, hK, hA, hE⟩
  have hl := lv_entry ([.ref (a 0), .int x1, .int x2, .int x3]) (n := 6) (Nat.le_of_ble_eq_true rfl)
  rw [lg_entry_eq]
  generalize (lg_sl ([.ref (a 0), .int x1, .int x2, .int x3]) ++ List.replicate (6 - (lg_sl ([.ref (a 0), .int x1, .int x2, .int x3])).length) Slot.unset).toArray = ls at hl ⊢
  have hl : lv_has ls 6 [(0, .ref (a 0)), (1, .int x1), (2, .int x2), (3, .int x3)] := hl
  have hw0 := hts (.fieldLink RX9 37 "WhistledWordsModel" "rowA" "[I") (by decide +kernel)
  have hw1 := hts (.fieldLink RX9 206 "WhistledWordsModel" "manyA" "I") (by decide +kernel)
  have hw2 := hts (.fieldLink RX9 40 "WhistledWordsModel" "rowB" "[I") (by decide +kernel)
  have hw3 := hts (.fieldLink RX9 209 "WhistledWordsModel" "manyB" "I") (by decide +kernel)
  have hnX9 : ∀ w ∈ u_ws RX9 TX9 46, w ∈ wsX9_areOne := fun _ h => List.mem_cons_of_mem _ (List.mem_append_right _ h)
  unfold fX9_areOne at h
  refine lv_aload_n hx hb dX9_areOne_0 rfl (lv_at hl 0 rfl) ?_
  refine lv_aload_n hx hb dX9_areOne_1 rfl (lv_at hl 0 rfl) ?_
  refine lv_iload_n hx hb dX9_areOne_2 rfl (lv_at hl 1 rfl) ?_
  refine lv_iload_n hx hb dX9_areOne_3 rfl (lv_at hl 3 rfl) ?_
  refine lv_aload_n hx hb dX9_areOne_4 rfl (lv_at hl 0 rfl) ?_
  refine gM_mo_rowA hx hb hts hnX9 hown hK hP hw0 dX9_areOne_5 ?_
  obtain ⟨v1, f2, hc, h⟩ := bd2_use h
  refine cv_i (As := [.int x1, .int x3, .ref (a 10)]) (rest := [.ref (a 0)]) ⟨hx, hb, hml, hown, hts⟩ (kX9_rowOf_rowA l n dC dI cB cI cJ cZ a _ m_letters m_words m_wMany m_wLetters m_asks m_aWords m_dLetters m_dWords m_dMany m_dText m_dAsks m_dAsk m_tape m_taped m_pos m_from m_sort m_value m_fault m_wrongAt m_manyA m_rowA m_manyB m_rowB m_places m_xs m_ys m_heights m_ridges m_rx m_rHeight m_lanes m_sizes m_cells m_left m_calls m_cDay m_cHour m_cFrom m_cAsk m_cWord m_cOf m_isLie m_children m_learned m_group x1 x3 v1 f2 hc) (cwV 3 hts gX9_areOne_X9_rowOf rfl rfl rfl (by decide +kernel) ⟨Nat.le_of_ble_eq_true rfl, Nat.le_of_ble_eq_true rfl⟩) EB_0 hE hK hP hD hS hA 0 (ci := 8) rfl rfl rfl rfl hl.1 rfl (Nat.le_of_ble_eq_true rfl) dX9_areOne_8 ⟨Nat.zero_le _, Nat.zero_le _⟩ (fun H locs hP hD hS => ?_)
  refine pM_mo_manyA hx hb hts hnX9 hown hK hP hD hS hw1 dX9_areOne_11 (fun H locs hP hD hS => ?_)
  refine lv_aload_n hx hb dX9_areOne_14 rfl (lv_at hl 0 rfl) ?_
  refine lv_aload_n hx hb dX9_areOne_15 rfl (lv_at hl 0 rfl) ?_
  refine lv_iload_n hx hb dX9_areOne_16 rfl (lv_at hl 2 rfl) ?_
  refine lv_iload_n hx hb dX9_areOne_17 rfl (lv_at hl 3 rfl) ?_
  refine lv_aload_n hx hb dX9_areOne_18 rfl (lv_at hl 0 rfl) ?_
  refine gM_mo_rowB hx hb hts hnX9 hown hK hP hw2 dX9_areOne_19 ?_
  obtain ⟨v3, f4, hc, h⟩ := bd2_use h
  refine cv_i (As := [.int x2, .int x3, .ref (a 11)]) (rest := [.ref (a 0)]) ⟨hx, hb, hml, hown, hts⟩ (kX9_rowOf_rowB l n dC dI cB cI cJ cZ a _ m_letters m_words m_wMany m_wLetters m_asks m_aWords m_dLetters m_dWords m_dMany m_dText m_dAsks m_dAsk m_tape m_taped m_pos m_from m_sort m_value m_fault m_wrongAt v1 f2 m_manyB m_rowB m_places m_xs m_ys m_heights m_ridges m_rx m_rHeight m_lanes m_sizes m_cells m_left m_calls m_cDay m_cHour m_cFrom m_cAsk m_cWord m_cOf m_isLie m_children m_learned m_group x2 x3 v3 f4 hc) (cwV 3 hts gX9_areOne_X9_rowOf rfl rfl rfl (by decide +kernel) ⟨Nat.le_of_ble_eq_true rfl, Nat.le_of_ble_eq_true rfl⟩) EB_0 hE hK hP hD hS hA 0 (ci := 8) rfl rfl rfl rfl hl.1 rfl (Nat.le_of_ble_eq_true rfl) dX9_areOne_22 ⟨Nat.zero_le _, Nat.zero_le _⟩ (fun H locs hP hD hS => ?_)
  refine pM_mo_manyB hx hb hts hnX9 hown hK hP hD hS hw3 dX9_areOne_25 (fun H locs hP hD hS => ?_)
  refine lv_aload_n hx hb dX9_areOne_28 rfl (lv_at hl 0 rfl) ?_
  refine gM_mo_manyA hx hb hts hnX9 hown hK hP hw1 dX9_areOne_29 ?_
  refine lv_aload_n hx hb dX9_areOne_32 rfl (lv_at hl 0 rfl) ?_
  refine gM_mo_manyB hx hb hts hnX9 hown hK hP hw3 dX9_areOne_33 ?_
  refine lv_icmp_ne (tgt := 43) hx hb dX9_areOne_36 (by decide) (fun c5 => ?_) (fun c5 => ?_)
  · have h := ie_use c5 h
    refine lv_iconst (v := 0) hx hb dX9_areOne_43 (by decide) ?_
    refine lv_istore (lv' := [(4, .int (0 : Int32)), (0, .ref (a 0)), (1, .int x1), (2, .int x2), (3, .int x3)]) hx hb dX9_areOne_44 hl (by decide) rfl (fun ls hl => ?_)
    refine lv_iconst (v := 0) hx hb dX9_areOne_46 (by decide) ?_
    refine lv_istore (lv' := [(5, .int (0 : Int32)), (4, .int (0 : Int32)), (0, .ref (a 0)), (1, .int x1), (2, .int x2), (3, .int x3)]) hx hb dX9_areOne_47 hl (by decide) rfl (fun ls hl => ?_)
    exact kX9_areOne_p49 dC dI cB cI cJ cZ a C0 n m_letters m_words m_wMany m_wLetters m_asks m_aWords m_dLetters m_dWords m_dMany m_dText m_dAsks m_dAsk m_tape m_taped m_pos m_from m_sort m_value m_fault m_wrongAt v1 f2 v3 f4 m_places m_xs m_ys m_heights m_ridges m_rx m_rHeight m_lanes m_sizes m_cells m_left m_calls m_cDay m_cHour m_cFrom m_cAsk m_cWord m_cOf m_isLie m_children m_learned m_group (0 : Int32) (0 : Int32) r0 z_m_manyA z_m_rowA z_m_manyB z_m_rowB  n _ _ ls h hP hD hS (lv_sub hl [2, 1, 0] rfl)
  · have h := it_use c5 h
    refine lv_iconst (v := 1) hx hb dX9_areOne_39 (by decide) ?_
    refine lv_goto (tgt := 44) hx hb dX9_areOne_40 (by decide) ?_
    refine lv_istore (lv' := [(4, .int (1 : Int32)), (0, .ref (a 0)), (1, .int x1), (2, .int x2), (3, .int x3)]) hx hb dX9_areOne_44 hl (by decide) rfl (fun ls hl => ?_)
    refine lv_iconst (v := 0) hx hb dX9_areOne_46 (by decide) ?_
    refine lv_istore (lv' := [(5, .int (0 : Int32)), (4, .int (1 : Int32)), (0, .ref (a 0)), (1, .int x1), (2, .int x2), (3, .int x3)]) hx hb dX9_areOne_47 hl (by decide) rfl (fun ls hl => ?_)
    exact kX9_areOne_p49 dC dI cB cI cJ cZ a C0 n m_letters m_words m_wMany m_wLetters m_asks m_aWords m_dLetters m_dWords m_dMany m_dText m_dAsks m_dAsk m_tape m_taped m_pos m_from m_sort m_value m_fault m_wrongAt v1 f2 v3 f4 m_places m_xs m_ys m_heights m_ridges m_rx m_rHeight m_lanes m_sizes m_cells m_left m_calls m_cDay m_cHour m_cFrom m_cAsk m_cWord m_cOf m_isLie m_children m_learned m_group (1 : Int32) (0 : Int32) r0 z_m_manyA z_m_rowA z_m_manyB z_m_rowB  n _ _ ls h hP hD hS (lv_sub hl [2, 1, 0] rfl)
set_option maxHeartbeats 4000000 in
set_option maxRecDepth 100000 in
theorem kX9_apart (l : Launch) (n : Nat) (dC : Nat → ClassId) (dI : Nat → Nat → Nat) (cB cI cJ cZ : ClassId) (a : Nat → Nat) (sz : Nat) (m_letters : Nat → Int32) (m_words : Int32) (m_wMany : Nat → Int32) (m_wLetters : Nat → Int32) (m_asks : Int32) (m_aWords : Nat → Int32) (m_dLetters : Nat → Int32) (m_dWords : Int32) (m_dMany : Nat → Int32) (m_dText : Nat → Int32) (m_dAsks : Int32) (m_dAsk : Nat → Int32) (m_tape : Nat → Int32) (m_taped : Int32) (m_pos : Int32) (m_from : Int32) (m_sort : Int32) (m_value : Int32) (m_fault : Int32) (m_wrongAt : Int32) (m_manyA : Int32) (m_rowA : Nat → Int32) (m_manyB : Int32) (m_rowB : Nat → Int32) (m_places : Int32) (m_xs : Nat → Int32) (m_ys : Nat → Int32) (m_heights : Nat → Int32) (m_ridges : Int32) (m_rx : Nat → Int32) (m_rHeight : Nat → Int32) (m_lanes : Nat → Int32) (m_sizes : Nat → Int32) (m_cells : Nat → Int32) (m_left : Nat → Int32) (m_calls : Int32) (m_cDay : Nat → Int32) (m_cHour : Nat → Int32) (m_cFrom : Nat → Int32) (m_cAsk : Nat → Int32) (m_cWord : Nat → Int32) (m_cOf : Nat → Int32) (m_isLie : Nat → Int32) (m_children : Int32) (m_learned : Nat → Int32) (m_group : Nat → Int32) (x1 : Int32) (x2 : Int32) (x3 : Int32) (r0 : Int32) (z_m_manyA : Int32) (z_m_rowA : Nat → Int32) (z_m_manyB : Int32) (z_m_rowB : Nat → Int32) (h : fX9_apart n m_letters m_words m_wMany m_wLetters m_manyA m_rowA m_manyB m_rowB x1 x2 x3 = some (r0, z_m_manyA, z_m_rowA, z_m_manyB, z_m_rowB)) : Met l yX9_apart wsX9_apart ({ frames := 3, cells := 0, slots := 0, locals := 72 }) (gP (dC, dI) (tyz cB cI cJ cZ) E_0 (wM cB cI cJ cZ a m_letters m_words m_wMany m_wLetters m_asks m_aWords m_dLetters m_dWords m_dMany m_dText m_dAsks m_dAsk m_tape m_taped m_pos m_from m_sort m_value m_fault m_wrongAt m_manyA m_rowA m_manyB m_rowB m_places m_xs m_ys m_heights m_ridges m_rx m_rHeight m_lanes m_sizes m_cells m_left m_calls m_cDay m_cHour m_cFrom m_cAsk m_cWord m_cOf m_isLie m_children m_learned m_group) sz [.ref (a 0), .int x1, .int x2, .int x3]) (gI (dC, dI) (tyz cB cI cJ cZ) (wM cB cI cJ cZ a m_letters m_words m_wMany m_wLetters m_asks m_aWords m_dLetters m_dWords m_dMany m_dText m_dAsks m_dAsk m_tape m_taped m_pos m_from m_sort m_value m_fault m_wrongAt z_m_manyA z_m_rowA z_m_manyB z_m_rowB m_places m_xs m_ys m_heights m_ridges m_rx m_rHeight m_lanes m_sizes m_cells m_left m_calls m_cDay m_cHour m_cFrom m_cAsk m_cWord m_cOf m_isLie m_children m_learned m_group) (va_A (wM cB cI cJ cZ a m_letters m_words m_wMany m_wLetters m_asks m_aWords m_dLetters m_dWords m_dMany m_dText m_dAsks m_dAsk m_tape m_taped m_pos m_from m_sort m_value m_fault m_wrongAt m_manyA m_rowA m_manyB m_rowB m_places m_xs m_ys m_heights m_ridges m_rx m_rHeight m_lanes m_sizes m_cells m_left m_calls m_cDay m_cHour m_cFrom m_cAsk m_cWord m_cOf m_isLie m_children m_learned m_group) sz) r0) 0 0 (va_A (wM cB cI cJ cZ a m_letters m_words m_wMany m_wLetters m_asks m_aWords m_dLetters m_dWords m_dMany m_dText m_dAsks m_dAsk m_tape m_taped m_pos m_from m_sort m_value m_fault m_wrongAt m_manyA m_rowA m_manyB m_rowB m_places m_xs m_ys m_heights m_ridges m_rx m_rHeight m_lanes m_sizes m_cells m_left m_calls m_cDay m_cHour m_cFrom m_cAsk m_cWord m_cOf m_isLie m_children m_learned m_group) sz) := by
  refine Met.ofW (cc := cX9_apart) (maxL := 4) (ret := (some .int)) (by decide) rfl ?_
  intro p e s m args below meth c s₁ B hml hv
  obtain ⟨rfl, hsz, hP, hK, hD0, hE⟩ := hv
  have hx := B.exec
  have hb := B.bytes
  have hr := B.returns
  have hts := atoms_spec (ws := wsX9_apart) B.pre
  have hown : s.vm.findClass RX9 = some m.cls := findClass_of_methodNamed B.named
  have hlocks := B.notSynchronized
  subst hsz
  have hD := hD0.self (sz := s.heap.size)
  have hA : ∀ q : Nat, s.heap.size ≤ q → va_A (wM cB cI cJ cZ a m_letters m_words m_wMany m_wLetters m_asks m_aWords m_dLetters m_dWords m_dMany m_dText m_dAsks m_dAsk m_tape m_taped m_pos m_from m_sort m_value m_fault m_wrongAt m_manyA m_rowA m_manyB m_rowB m_places m_xs m_ys m_heights m_ridges m_rx m_rHeight m_lanes m_sizes m_cells m_left m_calls m_cDay m_cHour m_cFrom m_cAsk m_cWord m_cOf m_isLie m_children m_learned m_group) s.heap.size q := fun q h => Or.inr h
  generalize va_A (wM cB cI cJ cZ a m_letters m_words m_wMany m_wLetters m_asks m_aWords m_dLetters m_dWords m_dMany m_dText m_dAsks m_dAsk m_tape m_taped m_pos m_from m_sort m_value m_fault m_wrongAt m_manyA m_rowA m_manyB m_rowB m_places m_xs m_ys m_heights m_ridges m_rx m_rHeight m_lanes m_sizes m_cells m_left m_calls m_cDay m_cHour m_cFrom m_cAsk m_cWord m_cOf m_isLie m_children m_learned m_group) s.heap.size = A at hD hA hE ⊢
  have hS : va_S A s.heap s.heap [] := va_S.rf
  have C0 : cxt cX9_apart (some .int) 4 RX9 wsX9_apart (dC, dI) (tyz cB cI cJ cZ) E_0 A p s m ([.ref (a 0), .int x1, .int x2, .int x3] : List Value).toArray meth c := ⟨hx, hb, hr, hml, hown, hts, hlocks, hK, hA, hE⟩
  have hl := lv_entry ([.ref (a 0), .int x1, .int x2, .int x3]) (n := 4) (Nat.le_of_ble_eq_true rfl)
  rw [lg_entry_eq]
  generalize (lg_sl ([.ref (a 0), .int x1, .int x2, .int x3]) ++ List.replicate (4 - (lg_sl ([.ref (a 0), .int x1, .int x2, .int x3])).length) Slot.unset).toArray = ls at hl ⊢
  have hl : lv_has ls 4 [(0, .ref (a 0)), (1, .int x1), (2, .int x2), (3, .int x3)] := hl
  unfold fX9_apart at h
  refine lv_aload_n hx hb dX9_apart_0 rfl (lv_at hl 0 rfl) ?_
  refine lv_iload_n hx hb dX9_apart_1 rfl (lv_at hl 1 rfl) ?_
  obtain ⟨v1, hc, h⟩ := bd1_use h
  refine cv_i (As := [.int x1]) (rest := []) ⟨hx, hb, hml, hown, hts⟩ (kX9_isWord l n dC dI cB cI cJ cZ a _ m_letters m_words m_wMany m_wLetters m_asks m_aWords m_dLetters m_dWords m_dMany m_dText m_dAsks m_dAsk m_tape m_taped m_pos m_from m_sort m_value m_fault m_wrongAt m_manyA m_rowA m_manyB m_rowB m_places m_xs m_ys m_heights m_ridges m_rx m_rHeight m_lanes m_sizes m_cells m_left m_calls m_cDay m_cHour m_cFrom m_cAsk m_cWord m_cOf m_isLie m_children m_learned m_group x1 v1 hc) (cwV 1 hts gX9_apart_X9_isWord rfl rfl rfl (by decide +kernel) ⟨Nat.le_of_ble_eq_true rfl, Nat.le_of_ble_eq_true rfl⟩) EB_0 hE hK hP hD hS hA 0 (ci := 8) rfl rfl rfl rfl hl.1 rfl (Nat.le_of_ble_eq_true rfl) dX9_apart_2 ⟨Nat.zero_le _, Nat.zero_le _⟩ (fun H locs hP hD hS => ?_)
  refine lv_if_eq (tgt := 23) hx hb dX9_apart_5 (by decide) (fun c2 => ?_) (fun c2 => ?_)
  · have h := it_use c2 h
    refine lv_iconst (v := -1) hx hb dX9_apart_23 (by decide) ?_
    refine lv_goto (tgt := 42) hx hb dX9_apart_24 (by decide) ?_
    obtain ⟨er, ez0, ez1, ez2, ez3⟩ := rt5_use h
    subst ez0
    subst ez1
    subst ez2
    subst ez3
    exact re_i hx hb hr hlocks hK hP hD hS er dX9_apart_42
  · have h := ie_use c2 h
    refine lv_aload_n hx hb dX9_apart_8 rfl (lv_at hl 0 rfl) ?_
    refine lv_iload_n hx hb dX9_apart_9 rfl (lv_at hl 2 rfl) ?_
    obtain ⟨v3, hc, h⟩ := bd1_use h
    refine cv_i (As := [.int x2]) (rest := []) ⟨hx, hb, hml, hown, hts⟩ (kX9_isWord l n dC dI cB cI cJ cZ a _ m_letters m_words m_wMany m_wLetters m_asks m_aWords m_dLetters m_dWords m_dMany m_dText m_dAsks m_dAsk m_tape m_taped m_pos m_from m_sort m_value m_fault m_wrongAt m_manyA m_rowA m_manyB m_rowB m_places m_xs m_ys m_heights m_ridges m_rx m_rHeight m_lanes m_sizes m_cells m_left m_calls m_cDay m_cHour m_cFrom m_cAsk m_cWord m_cOf m_isLie m_children m_learned m_group x2 v3 hc) (cwV 1 hts gX9_apart_X9_isWord rfl rfl rfl (by decide +kernel) ⟨Nat.le_of_ble_eq_true rfl, Nat.le_of_ble_eq_true rfl⟩) EB_0 hE hK hP hD hS hA 0 (ci := 8) rfl rfl rfl rfl hl.1 rfl (Nat.le_of_ble_eq_true rfl) dX9_apart_10 ⟨Nat.zero_le _, Nat.zero_le _⟩ (fun H locs hP hD hS => ?_)
    refine lv_if_eq (tgt := 23) hx hb dX9_apart_13 (by decide) (fun c4 => ?_) (fun c4 => ?_)
    · have h := it_use c4 h
      refine lv_iconst (v := -1) hx hb dX9_apart_23 (by decide) ?_
      refine lv_goto (tgt := 42) hx hb dX9_apart_24 (by decide) ?_
      obtain ⟨er, ez0, ez1, ez2, ez3⟩ := rt5_use h
      subst ez0
      subst ez1
      subst ez2
      subst ez3
      exact re_i hx hb hr hlocks hK hP hD hS er dX9_apart_42
    · have h := ie_use c4 h
      refine lv_iload_n hx hb dX9_apart_16 rfl (lv_at hl 3 rfl) ?_
      obtain ⟨v5, hc, h⟩ := bd1_use h
      refine cs_i (As := [.int x3]) (rest := []) ⟨hx, hb, hml, hown, hts⟩ (kX9_isBlur l n x3 v5 hc) (va_cwS 1 hts gX9_apart_X9_isBlur rfl rfl rfl (by decide +kernel) ⟨Nat.le_of_ble_eq_true rfl, Nat.le_of_ble_eq_true rfl⟩) hP hS rfl hl.1 rfl (Nat.le_of_ble_eq_true rfl) dX9_apart_17 ⟨Nat.zero_le _, Nat.zero_le _⟩ (fun H locs hP hS => ?_)
      refine lv_if_ne (tgt := 27) hx hb dX9_apart_20 (by decide) (fun c6 => ?_) (fun c6 => ?_)
      · have h := ie_use c6 h
        refine lv_aload_n hx hb dX9_apart_27 rfl (lv_at hl 0 rfl) ?_
        refine lv_iload_n hx hb dX9_apart_28 rfl (lv_at hl 1 rfl) ?_
        refine lv_iload_n hx hb dX9_apart_29 rfl (lv_at hl 2 rfl) ?_
        refine lv_iload_n hx hb dX9_apart_30 rfl (lv_at hl 3 rfl) ?_
        obtain ⟨v7, v8, f9, v10, f11, hc, h⟩ := bd5_use h
        refine cv_i (As := [.int x1, .int x2, .int x3]) (rest := []) ⟨hx, hb, hml, hown, hts⟩ (kX9_areOne l n dC dI cB cI cJ cZ a _ m_letters m_words m_wMany m_wLetters m_asks m_aWords m_dLetters m_dWords m_dMany m_dText m_dAsks m_dAsk m_tape m_taped m_pos m_from m_sort m_value m_fault m_wrongAt m_manyA m_rowA m_manyB m_rowB m_places m_xs m_ys m_heights m_ridges m_rx m_rHeight m_lanes m_sizes m_cells m_left m_calls m_cDay m_cHour m_cFrom m_cAsk m_cWord m_cOf m_isLie m_children m_learned m_group x1 x2 x3 v7 v8 f9 v10 f11 hc) (cwV 3 hts gX9_apart_X9_areOne rfl rfl rfl (by decide +kernel) ⟨Nat.le_of_ble_eq_true rfl, Nat.le_of_ble_eq_true rfl⟩) EB_0 hE hK hP hD hS hA 0 (ci := 8) rfl rfl rfl rfl hl.1 rfl (Nat.le_of_ble_eq_true rfl) dX9_apart_31 ⟨Nat.zero_le _, Nat.zero_le _⟩ (fun H locs hP hD hS => ?_)
        refine lv_if_eq (tgt := 41) hx hb dX9_apart_34 (by decide) (fun c12 => ?_) (fun c12 => ?_)
        · have h := it_use c12 h
          refine lv_iconst (v := 1) hx hb dX9_apart_41 (by decide) ?_
          obtain ⟨er, ez0, ez1, ez2, ez3⟩ := rt5_use h
          subst ez0
          subst ez1
          subst ez2
          subst ez3
          exact re_i hx hb hr hlocks hK hP hD hS er dX9_apart_42
        · have h := ie_use c12 h
          refine lv_iconst (v := 0) hx hb dX9_apart_37 (by decide) ?_
          refine lv_goto (tgt := 42) hx hb dX9_apart_38 (by decide) ?_
          obtain ⟨er, ez0, ez1, ez2, ez3⟩ := rt5_use h
          subst ez0
          subst ez1
          subst ez2
          subst ez3
          exact re_i hx hb hr hlocks hK hP hD hS er dX9_apart_42
      · have h := it_use c6 h
        refine lv_iconst (v := -1) hx hb dX9_apart_23 (by decide) ?_
        refine lv_goto (tgt := 42) hx hb dX9_apart_24 (by decide) ?_
        obtain ⟨er, ez0, ez1, ez2, ez3⟩ := rt5_use h
        subst ez0
        subst ez1
        subst ez2
        subst ez3
        exact re_i hx hb hr hlocks hK hP hD hS er dX9_apart_42
set_option maxHeartbeats 4000000 in
set_option maxRecDepth 100000 in
theorem kX9_until_p20_r {p : Program} {l : Launch} {e : Env} {s : State} {m : MethodId} {args : Array Value} {below : List Frame} {meth : Method} {c : Code} {A : Nat → Prop} (dC : Nat → ClassId) (dI : Nat → Nat → Nat) (cB cI cJ cZ : ClassId) (a : Nat → Nat) (C0 : cxt cX9_until (some .int) 4 RX9 wsX9_until (dC, dI) (tyz cB cI cJ cZ) E_0 A p s m args meth c) (n : Nat) (m_letters : Nat → Int32) (m_words : Int32) (m_wMany : Nat → Int32) (m_wLetters : Nat → Int32) (m_asks : Int32) (m_aWords : Nat → Int32) (m_dLetters : Nat → Int32) (m_dWords : Int32) (m_dMany : Nat → Int32) (m_dText : Nat → Int32) (m_dAsks : Int32) (m_dAsk : Nat → Int32) (m_tape : Nat → Int32) (m_taped : Int32) (m_pos : Int32) (m_from : Int32) (m_sort : Int32) (m_value : Int32) (m_fault : Int32) (m_wrongAt : Int32) (m_places : Int32) (m_xs : Nat → Int32) (m_ys : Nat → Int32) (m_heights : Nat → Int32) (m_ridges : Int32) (m_rx : Nat → Int32) (m_rHeight : Nat → Int32) (m_lanes : Nat → Int32) (m_sizes : Nat → Int32) (m_cells : Nat → Int32) (m_left : Nat → Int32) (m_calls : Int32) (m_cDay : Nat → Int32) (m_cHour : Nat → Int32) (m_cFrom : Nat → Int32) (m_cAsk : Nat → Int32) (m_cWord : Nat → Int32) (m_cOf : Nat → Int32) (m_isLie : Nat → Int32) (m_children : Int32) (m_learned : Nat → Int32) (m_group : Nat → Int32) (x1 : Int32) (x2 : Int32) (r0 : Int32) (z_m_manyA : Int32) (z_m_rowA : Nat → Int32) (z_m_manyB : Int32) (z_m_rowB : Nat → Int32)  : ∀ (k : Nat) (m_manyA : Int32) (m_rowA : Nat → Int32) (m_manyB : Int32) (m_rowB : Nat → Int32) (x3 : Int32) (H : Heap) (locs : List Loc) (ls : Array Slot), fX9_until_p20 n m_letters m_wMany m_wLetters x1 x2 k m_manyA m_rowA m_manyB m_rowB x3 = some (r0, z_m_manyA, z_m_rowA, z_m_manyB, z_m_rowB) → va_P (dC, dI) vwCl (wM cB cI cJ cZ a m_letters m_words m_wMany m_wLetters m_asks m_aWords m_dLetters m_dWords m_dMany m_dText m_dAsks m_dAsk m_tape m_taped m_pos m_from m_sort m_value m_fault m_wrongAt m_manyA m_rowA m_manyB m_rowB m_places m_xs m_ys m_heights m_ridges m_rx m_rHeight m_lanes m_sizes m_cells m_left m_calls m_cDay m_cHour m_cFrom m_cAsk m_cWord m_cOf m_isLie m_children m_learned m_group) H → va_D A (wM cB cI cJ cZ a m_letters m_words m_wMany m_wLetters m_asks m_aWords m_dLetters m_dWords m_dMany m_dText m_dAsks m_dAsk m_tape m_taped m_pos m_from m_sort m_value m_fault m_wrongAt m_manyA m_rowA m_manyB m_rowB m_places m_xs m_ys m_heights m_ridges m_rx m_rHeight m_lanes m_sizes m_cells m_left m_calls m_cDay m_cHour m_cFrom m_cAsk m_cWord m_cOf m_isLie m_children m_learned m_group) → va_S A s.heap H locs → lv_has ls 4 [(0, .ref (a 0)), (1, .int x1), (2, .int x2), (3, .int x3)] → W p l e { frames := 3, cells := 0, slots := 0, locals := 72 } s m args below meth c H locs 0 0 (MQ below (gI (dC, dI) (tyz cB cI cJ cZ) (wM cB cI cJ cZ a m_letters m_words m_wMany m_wLetters m_asks m_aWords m_dLetters m_dWords m_dMany m_dText m_dAsks m_dAsk m_tape m_taped m_pos m_from m_sort m_value m_fault m_wrongAt z_m_manyA z_m_rowA z_m_manyB z_m_rowB m_places m_xs m_ys m_heights m_ridges m_rx m_rHeight m_lanes m_sizes m_cells m_left m_calls m_cDay m_cHour m_cFrom m_cAsk m_cWord m_cOf m_isLie m_children m_learned m_group) A r0) args s 0 0 A) (F0 m 20 ls []) := by
  obtain ⟨hx, hb, hr, hml, hown, hts, hlocks, hK, hA, hE⟩ := id C0
  intro k
  induction k with
  | zero =>
    intro m_manyA m_rowA m_manyB m_rowB x3 H locs ls h
    cases h
  | succ k ih =>
    intro m_manyA m_rowA m_manyB m_rowB x3 H locs ls h hP hD hS hl
    rw [fX9_until_p20] at h
    refine lv_iload_n hx hb dX9_until_20 rfl (lv_at hl 3 rfl) ?_
    refine lv_iconst (v := 5) hx hb dX9_until_21 (by decide) ?_
    refine lv_icmp_gt (tgt := 41) hx hb dX9_until_22 (by decide) (fun c1 => ?_) (fun c1 => ?_)
    · have h := it_use c1 h
      refine lv_iload_n hx hb dX9_until_41 rfl (lv_at hl 3 rfl) ?_
      refine lv_iconst (v := 5) hx hb dX9_until_42 (by decide) ?_
      refine lv_icmp_le (tgt := 51) hx hb dX9_until_43 (by decide) (fun c2 => ?_) (fun c2 => ?_)
      · have h := it_use c2 h
        refine lv_iload_n hx hb dX9_until_51 rfl (lv_at hl 3 rfl) ?_
        obtain ⟨er, ez0, ez1, ez2, ez3⟩ := rt5_use h
        subst ez0
        subst ez1
        subst ez2
        subst ez3
        exact re_i hx hb hr hlocks hK hP hD hS er dX9_until_52
      · have h := ie_use c2 h
        refine lv_bipush (v := -4) hx hb dX9_until_46 (by decide) ?_
        refine lv_goto (tgt := 52) hx hb dX9_until_48 (by decide) ?_
        obtain ⟨er, ez0, ez1, ez2, ez3⟩ := rt5_use h
        subst ez0
        subst ez1
        subst ez2
        subst ez3
        exact re_i hx hb hr hlocks hK hP hD hS er dX9_until_52
    · have h := ie_use c1 h
      refine lv_aload_n hx hb dX9_until_25 rfl (lv_at hl 0 rfl) ?_
      refine lv_iload_n hx hb dX9_until_26 rfl (lv_at hl 1 rfl) ?_
      refine lv_iload_n hx hb dX9_until_27 rfl (lv_at hl 2 rfl) ?_
      refine lv_iload_n hx hb dX9_until_28 rfl (lv_at hl 3 rfl) ?_
      obtain ⟨v3, v4, f5, v6, f7, hc, h⟩ := bd5_use h
      refine cv_i (As := [.int x1, .int x2, .int x3]) (rest := []) ⟨hx, hb, hml, hown, hts⟩ (kX9_areOne l n dC dI cB cI cJ cZ a _ m_letters m_words m_wMany m_wLetters m_asks m_aWords m_dLetters m_dWords m_dMany m_dText m_dAsks m_dAsk m_tape m_taped m_pos m_from m_sort m_value m_fault m_wrongAt m_manyA m_rowA m_manyB m_rowB m_places m_xs m_ys m_heights m_ridges m_rx m_rHeight m_lanes m_sizes m_cells m_left m_calls m_cDay m_cHour m_cFrom m_cAsk m_cWord m_cOf m_isLie m_children m_learned m_group x1 x2 x3 v3 v4 f5 v6 f7 hc) (cwV 3 hts gX9_until_X9_areOne rfl rfl rfl (by decide +kernel) ⟨Nat.le_of_ble_eq_true rfl, Nat.le_of_ble_eq_true rfl⟩) EB_0 hE hK hP hD hS hA 0 (ci := 8) rfl rfl rfl rfl hl.1 rfl (Nat.le_of_ble_eq_true rfl) dX9_until_29 ⟨Nat.zero_le _, Nat.zero_le _⟩ (fun H locs hP hD hS => ?_)
      refine lv_if_ne (tgt := 41) hx hb dX9_until_32 (by decide) (fun c8 => ?_) (fun c8 => ?_)
      · have h := ie_use c8 h
        refine lv_iload_n hx hb dX9_until_41 rfl (lv_at hl 3 rfl) ?_
        refine lv_iconst (v := 5) hx hb dX9_until_42 (by decide) ?_
        refine lv_icmp_le (tgt := 51) hx hb dX9_until_43 (by decide) (fun c9 => ?_) (fun c9 => ?_)
        · have h := it_use c9 h
          refine lv_iload_n hx hb dX9_until_51 rfl (lv_at hl 3 rfl) ?_
          obtain ⟨er, ez0, ez1, ez2, ez3⟩ := rt5_use h
          subst ez0
          subst ez1
          subst ez2
          subst ez3
          exact re_i hx hb hr hlocks hK hP hD hS er dX9_until_52
        · have h := ie_use c9 h
          refine lv_bipush (v := -4) hx hb dX9_until_46 (by decide) ?_
          refine lv_goto (tgt := 52) hx hb dX9_until_48 (by decide) ?_
          obtain ⟨er, ez0, ez1, ez2, ez3⟩ := rt5_use h
          subst ez0
          subst ez1
          subst ez2
          subst ez3
          exact re_i hx hb hr hlocks hK hP hD hS er dX9_until_52
      · have h := it_use c8 h
        refine lv_iinc (v := x3 + 1) (lv' := [(3, .int (x3 + 1)), (0, .ref (a 0)), (1, .int x1), (2, .int x2)]) hx hb dX9_until_35 hl (k := 3) rfl rfl (by decide) rfl (fun ls hl => ?_)
        refine lv_goto (tgt := 20) hx hb dX9_until_38 (by decide) ?_
        exact ih v4 f5 v6 f7 (x3 + 1) _ _ ls h hP hD hS (lv_sub hl [1, 2, 3, 0] rfl)
theorem kX9_until_p20 {p : Program} {l : Launch} {e : Env} {s : State} {m : MethodId} {args : Array Value} {below : List Frame} {meth : Method} {c : Code} {A : Nat → Prop} (dC : Nat → ClassId) (dI : Nat → Nat → Nat) (cB cI cJ cZ : ClassId) (a : Nat → Nat) (C0 : cxt cX9_until (some .int) 4 RX9 wsX9_until (dC, dI) (tyz cB cI cJ cZ) E_0 A p s m args meth c) (n : Nat) (m_letters : Nat → Int32) (m_words : Int32) (m_wMany : Nat → Int32) (m_wLetters : Nat → Int32) (m_asks : Int32) (m_aWords : Nat → Int32) (m_dLetters : Nat → Int32) (m_dWords : Int32) (m_dMany : Nat → Int32) (m_dText : Nat → Int32) (m_dAsks : Int32) (m_dAsk : Nat → Int32) (m_tape : Nat → Int32) (m_taped : Int32) (m_pos : Int32) (m_from : Int32) (m_sort : Int32) (m_value : Int32) (m_fault : Int32) (m_wrongAt : Int32) (m_manyA : Int32) (m_rowA : Nat → Int32) (m_manyB : Int32) (m_rowB : Nat → Int32) (m_places : Int32) (m_xs : Nat → Int32) (m_ys : Nat → Int32) (m_heights : Nat → Int32) (m_ridges : Int32) (m_rx : Nat → Int32) (m_rHeight : Nat → Int32) (m_lanes : Nat → Int32) (m_sizes : Nat → Int32) (m_cells : Nat → Int32) (m_left : Nat → Int32) (m_calls : Int32) (m_cDay : Nat → Int32) (m_cHour : Nat → Int32) (m_cFrom : Nat → Int32) (m_cAsk : Nat → Int32) (m_cWord : Nat → Int32) (m_cOf : Nat → Int32) (m_isLie : Nat → Int32) (m_children : Int32) (m_learned : Nat → Int32) (m_group : Nat → Int32)  (x1 : Int32) (x2 : Int32) (x3 : Int32) (r0 : Int32) (z_m_manyA : Int32) (z_m_rowA : Nat → Int32) (z_m_manyB : Int32) (z_m_rowB : Nat → Int32)  (k : Nat) (H : Heap) (locs : List Loc) (ls : Array Slot) : fX9_until_p20 n m_letters m_wMany m_wLetters x1 x2 k m_manyA m_rowA m_manyB m_rowB x3 = some (r0, z_m_manyA, z_m_rowA, z_m_manyB, z_m_rowB) → va_P (dC, dI) vwCl (wM cB cI cJ cZ a m_letters m_words m_wMany m_wLetters m_asks m_aWords m_dLetters m_dWords m_dMany m_dText m_dAsks m_dAsk m_tape m_taped m_pos m_from m_sort m_value m_fault m_wrongAt m_manyA m_rowA m_manyB m_rowB m_places m_xs m_ys m_heights m_ridges m_rx m_rHeight m_lanes m_sizes m_cells m_left m_calls m_cDay m_cHour m_cFrom m_cAsk m_cWord m_cOf m_isLie m_children m_learned m_group) H → va_D A (wM cB cI cJ cZ a m_letters m_words m_wMany m_wLetters m_asks m_aWords m_dLetters m_dWords m_dMany m_dText m_dAsks m_dAsk m_tape m_taped m_pos m_from m_sort m_value m_fault m_wrongAt m_manyA m_rowA m_manyB m_rowB m_places m_xs m_ys m_heights m_ridges m_rx m_rHeight m_lanes m_sizes m_cells m_left m_calls m_cDay m_cHour m_cFrom m_cAsk m_cWord m_cOf m_isLie m_children m_learned m_group) → va_S A s.heap H locs → lv_has ls 4 [(0, .ref (a 0)), (1, .int x1), (2, .int x2), (3, .int x3)] → W p l e { frames := 3, cells := 0, slots := 0, locals := 72 } s m args below meth c H locs 0 0 (MQ below (gI (dC, dI) (tyz cB cI cJ cZ) (wM cB cI cJ cZ a m_letters m_words m_wMany m_wLetters m_asks m_aWords m_dLetters m_dWords m_dMany m_dText m_dAsks m_dAsk m_tape m_taped m_pos m_from m_sort m_value m_fault m_wrongAt z_m_manyA z_m_rowA z_m_manyB z_m_rowB m_places m_xs m_ys m_heights m_ridges m_rx m_rHeight m_lanes m_sizes m_cells m_left m_calls m_cDay m_cHour m_cFrom m_cAsk m_cWord m_cOf m_isLie m_children m_learned m_group) A r0) args s 0 0 A) (F0 m 20 ls []) :=
  kX9_until_p20_r dC dI cB cI cJ cZ a C0 n m_letters m_words m_wMany m_wLetters m_asks m_aWords m_dLetters m_dWords m_dMany m_dText m_dAsks m_dAsk m_tape m_taped m_pos m_from m_sort m_value m_fault m_wrongAt m_places m_xs m_ys m_heights m_ridges m_rx m_rHeight m_lanes m_sizes m_cells m_left m_calls m_cDay m_cHour m_cFrom m_cAsk m_cWord m_cOf m_isLie m_children m_learned m_group x1 x2 r0 z_m_manyA z_m_rowA z_m_manyB z_m_rowB  k m_manyA m_rowA m_manyB m_rowB x3 H locs ls
set_option maxHeartbeats 4000000 in
set_option maxRecDepth 100000 in
theorem kX9_until (l : Launch) (n : Nat) (dC : Nat → ClassId) (dI : Nat → Nat → Nat) (cB cI cJ cZ : ClassId) (a : Nat → Nat) (sz : Nat) (m_letters : Nat → Int32) (m_words : Int32) (m_wMany : Nat → Int32) (m_wLetters : Nat → Int32) (m_asks : Int32) (m_aWords : Nat → Int32) (m_dLetters : Nat → Int32) (m_dWords : Int32) (m_dMany : Nat → Int32) (m_dText : Nat → Int32) (m_dAsks : Int32) (m_dAsk : Nat → Int32) (m_tape : Nat → Int32) (m_taped : Int32) (m_pos : Int32) (m_from : Int32) (m_sort : Int32) (m_value : Int32) (m_fault : Int32) (m_wrongAt : Int32) (m_manyA : Int32) (m_rowA : Nat → Int32) (m_manyB : Int32) (m_rowB : Nat → Int32) (m_places : Int32) (m_xs : Nat → Int32) (m_ys : Nat → Int32) (m_heights : Nat → Int32) (m_ridges : Int32) (m_rx : Nat → Int32) (m_rHeight : Nat → Int32) (m_lanes : Nat → Int32) (m_sizes : Nat → Int32) (m_cells : Nat → Int32) (m_left : Nat → Int32) (m_calls : Int32) (m_cDay : Nat → Int32) (m_cHour : Nat → Int32) (m_cFrom : Nat → Int32) (m_cAsk : Nat → Int32) (m_cWord : Nat → Int32) (m_cOf : Nat → Int32) (m_isLie : Nat → Int32) (m_children : Int32) (m_learned : Nat → Int32) (m_group : Nat → Int32) (x1 : Int32) (x2 : Int32) (r0 : Int32) (z_m_manyA : Int32) (z_m_rowA : Nat → Int32) (z_m_manyB : Int32) (z_m_rowB : Nat → Int32) (h : fX9_until n m_letters m_words m_wMany m_wLetters m_manyA m_rowA m_manyB m_rowB x1 x2 = some (r0, z_m_manyA, z_m_rowA, z_m_manyB, z_m_rowB)) : Met l yX9_until wsX9_until ({ frames := 3, cells := 0, slots := 0, locals := 72 }) (gP (dC, dI) (tyz cB cI cJ cZ) E_0 (wM cB cI cJ cZ a m_letters m_words m_wMany m_wLetters m_asks m_aWords m_dLetters m_dWords m_dMany m_dText m_dAsks m_dAsk m_tape m_taped m_pos m_from m_sort m_value m_fault m_wrongAt m_manyA m_rowA m_manyB m_rowB m_places m_xs m_ys m_heights m_ridges m_rx m_rHeight m_lanes m_sizes m_cells m_left m_calls m_cDay m_cHour m_cFrom m_cAsk m_cWord m_cOf m_isLie m_children m_learned m_group) sz [.ref (a 0), .int x1, .int x2]) (gI (dC, dI) (tyz cB cI cJ cZ) (wM cB cI cJ cZ a m_letters m_words m_wMany m_wLetters m_asks m_aWords m_dLetters m_dWords m_dMany m_dText m_dAsks m_dAsk m_tape m_taped m_pos m_from m_sort m_value m_fault m_wrongAt z_m_manyA z_m_rowA z_m_manyB z_m_rowB m_places m_xs m_ys m_heights m_ridges m_rx m_rHeight m_lanes m_sizes m_cells m_left m_calls m_cDay m_cHour m_cFrom m_cAsk m_cWord m_cOf m_isLie m_children m_learned m_group) (va_A (wM cB cI cJ cZ a m_letters m_words m_wMany m_wLetters m_asks m_aWords m_dLetters m_dWords m_dMany m_dText m_dAsks m_dAsk m_tape m_taped m_pos m_from m_sort m_value m_fault m_wrongAt m_manyA m_rowA m_manyB m_rowB m_places m_xs m_ys m_heights m_ridges m_rx m_rHeight m_lanes m_sizes m_cells m_left m_calls m_cDay m_cHour m_cFrom m_cAsk m_cWord m_cOf m_isLie m_children m_learned m_group) sz) r0) 0 0 (va_A (wM cB cI cJ cZ a m_letters m_words m_wMany m_wLetters m_asks m_aWords m_dLetters m_dWords m_dMany m_dText m_dAsks m_dAsk m_tape m_taped m_pos m_from m_sort m_value m_fault m_wrongAt m_manyA m_rowA m_manyB m_rowB m_places m_xs m_ys m_heights m_ridges m_rx m_rHeight m_lanes m_sizes m_cells m_left m_calls m_cDay m_cHour m_cFrom m_cAsk m_cWord m_cOf m_isLie m_children m_learned m_group) sz) := by
  refine Met.ofW (cc := cX9_until) (maxL := 4) (ret := (some .int)) (by decide) rfl ?_
  intro p e s m args below meth c s₁ B hml hv
  obtain ⟨rfl, hsz, hP, hK, hD0, hE⟩ := hv
  have hx := B.exec
  have hb := B.bytes
  have hr := B.returns
  have hts := atoms_spec (ws := wsX9_until) B.pre
  have hown : s.vm.findClass RX9 = some m.cls := findClass_of_methodNamed B.named
  have hlocks := B.notSynchronized
  subst hsz
  have hD := hD0.self (sz := s.heap.size)
  have hA : ∀ q : Nat, s.heap.size ≤ q → va_A (wM cB cI cJ cZ a m_letters m_words m_wMany m_wLetters m_asks m_aWords m_dLetters m_dWords m_dMany m_dText m_dAsks m_dAsk m_tape m_taped m_pos m_from m_sort m_value m_fault m_wrongAt m_manyA m_rowA m_manyB m_rowB m_places m_xs m_ys m_heights m_ridges m_rx m_rHeight m_lanes m_sizes m_cells m_left m_calls m_cDay m_cHour m_cFrom m_cAsk m_cWord m_cOf m_isLie m_children m_learned m_group) s.heap.size q := fun q h => Or.inr h
  generalize va_A (wM cB cI cJ cZ a m_letters m_words m_wMany m_wLetters m_asks m_aWords m_dLetters m_dWords m_dMany m_dText m_dAsks m_dAsk m_tape m_taped m_pos m_from m_sort m_value m_fault m_wrongAt m_manyA m_rowA m_manyB m_rowB m_places m_xs m_ys m_heights m_ridges m_rx m_rHeight m_lanes m_sizes m_cells m_left m_calls m_cDay m_cHour m_cFrom m_cAsk m_cWord m_cOf m_isLie m_children m_learned m_group) s.heap.size = A at hD hA hE ⊢
  have hS : va_S A s.heap s.heap [] := va_S.rf
  have C0 : cxt cX9_until (some .int) 4 RX9 wsX9_until (dC, dI) (tyz cB cI cJ cZ) E_0 A p s m ([.ref (a 0), .int x1, .int x2] : List Value).toArray meth c := ⟨hx, hb, hr, hml, hown, hts, hlocks, hK, hA, hE⟩
  have hl := lv_entry ([.ref (a 0), .int x1, .int x2]) (n := 4) (Nat.le_of_ble_eq_true rfl)
  rw [lg_entry_eq]
  generalize (lg_sl ([.ref (a 0), .int x1, .int x2]) ++ List.replicate (4 - (lg_sl ([.ref (a 0), .int x1, .int x2])).length) Slot.unset).toArray = ls at hl ⊢
  have hl : lv_has ls 4 [(0, .ref (a 0)), (1, .int x1), (2, .int x2)] := hl
  unfold fX9_until at h
  refine lv_aload_n hx hb dX9_until_0 rfl (lv_at hl 0 rfl) ?_
  refine lv_iload_n hx hb dX9_until_1 rfl (lv_at hl 1 rfl) ?_
  obtain ⟨v1, hc, h⟩ := bd1_use h
  refine cv_i (As := [.int x1]) (rest := []) ⟨hx, hb, hml, hown, hts⟩ (kX9_isWord l n dC dI cB cI cJ cZ a _ m_letters m_words m_wMany m_wLetters m_asks m_aWords m_dLetters m_dWords m_dMany m_dText m_dAsks m_dAsk m_tape m_taped m_pos m_from m_sort m_value m_fault m_wrongAt m_manyA m_rowA m_manyB m_rowB m_places m_xs m_ys m_heights m_ridges m_rx m_rHeight m_lanes m_sizes m_cells m_left m_calls m_cDay m_cHour m_cFrom m_cAsk m_cWord m_cOf m_isLie m_children m_learned m_group x1 v1 hc) (cwV 1 hts gX9_until_X9_isWord rfl rfl rfl (by decide +kernel) ⟨Nat.le_of_ble_eq_true rfl, Nat.le_of_ble_eq_true rfl⟩) EB_0 hE hK hP hD hS hA 0 (ci := 8) rfl rfl rfl rfl hl.1 rfl (Nat.le_of_ble_eq_true rfl) dX9_until_2 ⟨Nat.zero_le _, Nat.zero_le _⟩ (fun H locs hP hD hS => ?_)
  refine lv_if_eq (tgt := 16) hx hb dX9_until_5 (by decide) (fun c2 => ?_) (fun c2 => ?_)
  · have h := it_use c2 h
    refine lv_iconst (v := -1) hx hb dX9_until_16 (by decide) ?_
    obtain ⟨er, ez0, ez1, ez2, ez3⟩ := rt5_use h
    subst ez0
    subst ez1
    subst ez2
    subst ez3
    exact re_i hx hb hr hlocks hK hP hD hS er dX9_until_17
  · have h := ie_use c2 h
    refine lv_aload_n hx hb dX9_until_8 rfl (lv_at hl 0 rfl) ?_
    refine lv_iload_n hx hb dX9_until_9 rfl (lv_at hl 2 rfl) ?_
    obtain ⟨v3, hc, h⟩ := bd1_use h
    refine cv_i (As := [.int x2]) (rest := []) ⟨hx, hb, hml, hown, hts⟩ (kX9_isWord l n dC dI cB cI cJ cZ a _ m_letters m_words m_wMany m_wLetters m_asks m_aWords m_dLetters m_dWords m_dMany m_dText m_dAsks m_dAsk m_tape m_taped m_pos m_from m_sort m_value m_fault m_wrongAt m_manyA m_rowA m_manyB m_rowB m_places m_xs m_ys m_heights m_ridges m_rx m_rHeight m_lanes m_sizes m_cells m_left m_calls m_cDay m_cHour m_cFrom m_cAsk m_cWord m_cOf m_isLie m_children m_learned m_group x2 v3 hc) (cwV 1 hts gX9_until_X9_isWord rfl rfl rfl (by decide +kernel) ⟨Nat.le_of_ble_eq_true rfl, Nat.le_of_ble_eq_true rfl⟩) EB_0 hE hK hP hD hS hA 0 (ci := 8) rfl rfl rfl rfl hl.1 rfl (Nat.le_of_ble_eq_true rfl) dX9_until_10 ⟨Nat.zero_le _, Nat.zero_le _⟩ (fun H locs hP hD hS => ?_)
    refine lv_if_ne (tgt := 18) hx hb dX9_until_13 (by decide) (fun c4 => ?_) (fun c4 => ?_)
    · have h := ie_use c4 h
      refine lv_iconst (v := 0) hx hb dX9_until_18 (by decide) ?_
      refine lv_istore_n (lv' := [(3, .int (0 : Int32)), (0, .ref (a 0)), (1, .int x1), (2, .int x2)]) hx hb dX9_until_19 rfl hl (by decide) rfl (fun ls hl => ?_)
      exact kX9_until_p20 dC dI cB cI cJ cZ a C0 n m_letters m_words m_wMany m_wLetters m_asks m_aWords m_dLetters m_dWords m_dMany m_dText m_dAsks m_dAsk m_tape m_taped m_pos m_from m_sort m_value m_fault m_wrongAt m_manyA m_rowA m_manyB m_rowB m_places m_xs m_ys m_heights m_ridges m_rx m_rHeight m_lanes m_sizes m_cells m_left m_calls m_cDay m_cHour m_cFrom m_cAsk m_cWord m_cOf m_isLie m_children m_learned m_group x1 x2 (0 : Int32) r0 z_m_manyA z_m_rowA z_m_manyB z_m_rowB  n _ _ ls h hP hD hS (lv_sub hl [1, 2, 3, 0] rfl)
    · have h := it_use c4 h
      refine lv_iconst (v := -1) hx hb dX9_until_16 (by decide) ?_
      obtain ⟨er, ez0, ez1, ez2, ez3⟩ := rt5_use h
      subst ez0
      subst ez1
      subst ez2
      subst ez3
      exact re_i hx hb hr hlocks hK hP hD hS er dX9_until_17
set_option maxHeartbeats 4000000 in
set_option maxRecDepth 100000 in
theorem kX9_cut_p162 {p : Program} {l : Launch} {e : Env} {s : State} {m : MethodId} {args : Array Value} {below : List Frame} {meth : Method} {c : Code} {A : Nat → Prop} (dC : Nat → ClassId) (dI : Nat → Nat → Nat) (cB cI cJ cZ : ClassId) (a : Nat → Nat) (C0 : cxt cX9_cut (some .int) 11 RX9 wsX9_cut (dC, dI) (tyz cB cI cJ cZ) E_0 A p s m args meth c) (n : Nat) (m_letters : Nat → Int32) (m_words : Int32) (m_wMany : Nat → Int32) (m_wLetters : Nat → Int32) (m_asks : Int32) (m_aWords : Nat → Int32) (m_dLetters : Nat → Int32) (m_dWords : Int32) (m_dMany : Nat → Int32) (m_dText : Nat → Int32) (m_dAsks : Int32) (m_dAsk : Nat → Int32) (m_tape : Nat → Int32) (m_taped : Int32) (m_pos : Int32) (m_from : Int32) (m_sort : Int32) (m_value : Int32) (m_fault : Int32) (m_wrongAt : Int32) (m_manyA : Int32) (m_rowA : Nat → Int32) (m_manyB : Int32) (m_rowB : Nat → Int32) (m_places : Int32) (m_xs : Nat → Int32) (m_ys : Nat → Int32) (m_heights : Nat → Int32) (m_ridges : Int32) (m_rx : Nat → Int32) (m_rHeight : Nat → Int32) (m_lanes : Nat → Int32) (m_sizes : Nat → Int32) (m_cells : Nat → Int32) (m_left : Nat → Int32) (m_calls : Int32) (m_cDay : Nat → Int32) (m_cHour : Nat → Int32) (m_cFrom : Nat → Int32) (m_cAsk : Nat → Int32) (m_cWord : Nat → Int32) (m_cOf : Nat → Int32) (m_isLie : Nat → Int32) (m_children : Int32) (m_learned : Nat → Int32) (m_group : Nat → Int32)  (x2 : Int32) (x3 : Int32) (x4 : Int32) (x5 : Int32) (x6 : Int32) (x7 : Int32) (x9 : Int32) (x10 : Int32) (s0 : Int32) (r0 : Int32) (z_m_manyA : Int32) (z_m_rowA : Nat → Int32) (z_m_manyB : Int32) (z_m_rowB : Nat → Int32) (rec69 : Int32 → (Nat → Int32) → Int32 → (Nat → Int32) → Int32 → Int32 → Int32 → Option (Int32 × Int32 × (Nat → Int32) × Int32 × (Nat → Int32))) (hrec69 : ∀ (y_m_manyA : Int32) (y_m_rowA : Nat → Int32) (y_m_manyB : Int32) (y_m_rowB : Nat → Int32) (y_x5 : Int32) (y_x6 : Int32) (y_x7 : Int32) (H : Heap) (locs : List Loc) (ls : Array Slot), rec69 y_m_manyA y_m_rowA y_m_manyB y_m_rowB y_x5 y_x6 y_x7 = some (r0, z_m_manyA, z_m_rowA, z_m_manyB, z_m_rowB) → va_P (dC, dI) vwCl (wM cB cI cJ cZ a m_letters m_words m_wMany m_wLetters m_asks m_aWords m_dLetters m_dWords m_dMany m_dText m_dAsks m_dAsk m_tape m_taped m_pos m_from m_sort m_value m_fault m_wrongAt y_m_manyA y_m_rowA y_m_manyB y_m_rowB m_places m_xs m_ys m_heights m_ridges m_rx m_rHeight m_lanes m_sizes m_cells m_left m_calls m_cDay m_cHour m_cFrom m_cAsk m_cWord m_cOf m_isLie m_children m_learned m_group) H → va_D A (wM cB cI cJ cZ a m_letters m_words m_wMany m_wLetters m_asks m_aWords m_dLetters m_dWords m_dMany m_dText m_dAsks m_dAsk m_tape m_taped m_pos m_from m_sort m_value m_fault m_wrongAt y_m_manyA y_m_rowA y_m_manyB y_m_rowB m_places m_xs m_ys m_heights m_ridges m_rx m_rHeight m_lanes m_sizes m_cells m_left m_calls m_cDay m_cHour m_cFrom m_cAsk m_cWord m_cOf m_isLie m_children m_learned m_group) → va_S A s.heap H locs → lv_has ls 11 [(0, .ref (a 0)), (2, .int x2), (3, .int x3), (4, .int x4), (5, .int y_x5), (6, .int y_x6), (7, .int y_x7)] → W p l e { frames := 3, cells := 0, slots := 0, locals := 72 } s m args below meth c H locs 0 0 (MQ below (gI (dC, dI) (tyz cB cI cJ cZ) (wM cB cI cJ cZ a m_letters m_words m_wMany m_wLetters m_asks m_aWords m_dLetters m_dWords m_dMany m_dText m_dAsks m_dAsk m_tape m_taped m_pos m_from m_sort m_value m_fault m_wrongAt z_m_manyA z_m_rowA z_m_manyB z_m_rowB m_places m_xs m_ys m_heights m_ridges m_rx m_rHeight m_lanes m_sizes m_cells m_left m_calls m_cDay m_cHour m_cFrom m_cAsk m_cWord m_cOf m_isLie m_children m_learned m_group) A r0) args s 0 0 A) (F0 m 69 ls [])) (rec99 : Int32 → (Nat → Int32) → Int32 → (Nat → Int32) → Int32 → Int32 → Int32 → Option (Int32 × Int32 × (Nat → Int32) × Int32 × (Nat → Int32))) (hrec99 : ∀ (y_m_manyA : Int32) (y_m_rowA : Nat → Int32) (y_m_manyB : Int32) (y_m_rowB : Nat → Int32) (y_x6 : Int32) (y_x8 : Int32) (y_x9 : Int32) (H : Heap) (locs : List Loc) (ls : Array Slot), rec99 y_m_manyA y_m_rowA y_m_manyB y_m_rowB y_x6 y_x8 y_x9 = some (r0, z_m_manyA, z_m_rowA, z_m_manyB, z_m_rowB) → va_P (dC, dI) vwCl (wM cB cI cJ cZ a m_letters m_words m_wMany m_wLetters m_asks m_aWords m_dLetters m_dWords m_dMany m_dText m_dAsks m_dAsk m_tape m_taped m_pos m_from m_sort m_value m_fault m_wrongAt y_m_manyA y_m_rowA y_m_manyB y_m_rowB m_places m_xs m_ys m_heights m_ridges m_rx m_rHeight m_lanes m_sizes m_cells m_left m_calls m_cDay m_cHour m_cFrom m_cAsk m_cWord m_cOf m_isLie m_children m_learned m_group) H → va_D A (wM cB cI cJ cZ a m_letters m_words m_wMany m_wLetters m_asks m_aWords m_dLetters m_dWords m_dMany m_dText m_dAsks m_dAsk m_tape m_taped m_pos m_from m_sort m_value m_fault m_wrongAt y_m_manyA y_m_rowA y_m_manyB y_m_rowB m_places m_xs m_ys m_heights m_ridges m_rx m_rHeight m_lanes m_sizes m_cells m_left m_calls m_cDay m_cHour m_cFrom m_cAsk m_cWord m_cOf m_isLie m_children m_learned m_group) → va_S A s.heap H locs → lv_has ls 11 [(0, .ref (a 0)), (2, .int x2), (3, .int x3), (4, .int x4), (5, .int x5), (6, .int y_x6), (7, .int x7), (8, .int y_x8), (9, .int y_x9)] → W p l e { frames := 3, cells := 0, slots := 0, locals := 72 } s m args below meth c H locs 0 0 (MQ below (gI (dC, dI) (tyz cB cI cJ cZ) (wM cB cI cJ cZ a m_letters m_words m_wMany m_wLetters m_asks m_aWords m_dLetters m_dWords m_dMany m_dText m_dAsks m_dAsk m_tape m_taped m_pos m_from m_sort m_value m_fault m_wrongAt z_m_manyA z_m_rowA z_m_manyB z_m_rowB m_places m_xs m_ys m_heights m_ridges m_rx m_rHeight m_lanes m_sizes m_cells m_left m_calls m_cDay m_cHour m_cFrom m_cAsk m_cWord m_cOf m_isLie m_children m_learned m_group) A r0) args s 0 0 A) (F0 m 99 ls [])) (H : Heap) (locs : List Loc) (ls : Array Slot) : fX9_cut_p162 n m_letters m_words m_wMany m_wLetters m_manyA m_rowA m_manyB m_rowB x2 x3 x4 x5 x6 x7 x9 x10 s0 rec69 rec99 = some (r0, z_m_manyA, z_m_rowA, z_m_manyB, z_m_rowB) → va_P (dC, dI) vwCl (wM cB cI cJ cZ a m_letters m_words m_wMany m_wLetters m_asks m_aWords m_dLetters m_dWords m_dMany m_dText m_dAsks m_dAsk m_tape m_taped m_pos m_from m_sort m_value m_fault m_wrongAt m_manyA m_rowA m_manyB m_rowB m_places m_xs m_ys m_heights m_ridges m_rx m_rHeight m_lanes m_sizes m_cells m_left m_calls m_cDay m_cHour m_cFrom m_cAsk m_cWord m_cOf m_isLie m_children m_learned m_group) H → va_D A (wM cB cI cJ cZ a m_letters m_words m_wMany m_wLetters m_asks m_aWords m_dLetters m_dWords m_dMany m_dText m_dAsks m_dAsk m_tape m_taped m_pos m_from m_sort m_value m_fault m_wrongAt m_manyA m_rowA m_manyB m_rowB m_places m_xs m_ys m_heights m_ridges m_rx m_rHeight m_lanes m_sizes m_cells m_left m_calls m_cDay m_cHour m_cFrom m_cAsk m_cWord m_cOf m_isLie m_children m_learned m_group) → va_S A s.heap H locs → lv_has ls 11 [(0, .ref (a 0)), (2, .int x2), (3, .int x3), (4, .int x4), (5, .int x5), (6, .int x6), (7, .int x7), (9, .int x9), (10, .int x10)] → W p l e { frames := 3, cells := 0, slots := 0, locals := 72 } s m args below meth c H locs 0 0 (MQ below (gI (dC, dI) (tyz cB cI cJ cZ) (wM cB cI cJ cZ a m_letters m_words m_wMany m_wLetters m_asks m_aWords m_dLetters m_dWords m_dMany m_dText m_dAsks m_dAsk m_tape m_taped m_pos m_from m_sort m_value m_fault m_wrongAt z_m_manyA z_m_rowA z_m_manyB z_m_rowB m_places m_xs m_ys m_heights m_ridges m_rx m_rHeight m_lanes m_sizes m_cells m_left m_calls m_cDay m_cHour m_cFrom m_cAsk m_cWord m_cOf m_isLie m_children m_learned m_group) A r0) args s 0 0 A) (F0 m 162 ls [.int s0]) := by
  intro h hP hD hS hl
  obtain ⟨hx, hb, hr, hml, hown, hts, hlocks, hK, hA, hE⟩ := id C0
  unfold fX9_cut_p162 at h
  refine lv_istore (lv' := [(8, .int s0), (0, .ref (a 0)), (2, .int x2), (3, .int x3), (4, .int x4), (5, .int x5), (6, .int x6), (7, .int x7), (9, .int x9), (10, .int x10)]) hx hb dX9_cut_162 hl (by decide) rfl (fun ls hl => ?_)
  refine lv_iload hx hb dX9_cut_164 (lv_at hl 6 rfl) ?_
  refine lv_iload hx hb dX9_cut_166 (lv_at hl 9 rfl) ?_
  refine lv_if_eq (tgt := 175) hx hb dX9_cut_168 (by decide) (fun c1 => ?_) (fun c1 => ?_)
  · have h := it_use c1 h
    refine lv_iconst (v := 0) hx hb dX9_cut_175 (by decide) ?_
    refine lv_iadd hx hb dX9_cut_176 ?_
    refine lv_topi (fun v2 ev2 => ?_)
    have h := nm_use ev2 h
    refine lv_istore (lv' := [(6, .int v2), (8, .int s0), (0, .ref (a 0)), (2, .int x2), (3, .int x3), (4, .int x4), (5, .int x5), (7, .int x7), (9, .int x9), (10, .int x10)]) hx hb dX9_cut_177 hl (by decide) rfl (fun ls hl => ?_)
    refine lv_iinc (v := x9 + 1) (lv' := [(9, .int (x9 + 1)), (6, .int v2), (8, .int s0), (0, .ref (a 0)), (2, .int x2), (3, .int x3), (4, .int x4), (5, .int x5), (7, .int x7), (10, .int x10)]) hx hb dX9_cut_179 hl (k := 8) rfl rfl (by decide) rfl (fun ls hl => ?_)
    refine lv_goto (tgt := 99) hx hb dX9_cut_182 (by decide) ?_
    exact hrec99 m_manyA m_rowA m_manyB m_rowB v2 s0 (x9 + 1) _ _ ls h hP hD hS (lv_sub hl [3, 4, 5, 6, 7, 1, 8, 2, 0] rfl)
  · have h := ie_use c1 h
    refine lv_iconst (v := 1) hx hb dX9_cut_171 (by decide) ?_
    refine lv_goto (tgt := 176) hx hb dX9_cut_172 (by decide) ?_
    refine lv_iadd hx hb dX9_cut_176 ?_
    refine lv_topi (fun v3 ev3 => ?_)
    have h := nm_use ev3 h
    refine lv_istore (lv' := [(6, .int v3), (8, .int s0), (0, .ref (a 0)), (2, .int x2), (3, .int x3), (4, .int x4), (5, .int x5), (7, .int x7), (9, .int x9), (10, .int x10)]) hx hb dX9_cut_177 hl (by decide) rfl (fun ls hl => ?_)
    refine lv_iinc (v := x9 + 1) (lv' := [(9, .int (x9 + 1)), (6, .int v3), (8, .int s0), (0, .ref (a 0)), (2, .int x2), (3, .int x3), (4, .int x4), (5, .int x5), (7, .int x7), (10, .int x10)]) hx hb dX9_cut_179 hl (k := 8) rfl rfl (by decide) rfl (fun ls hl => ?_)
    refine lv_goto (tgt := 99) hx hb dX9_cut_182 (by decide) ?_
    exact hrec99 m_manyA m_rowA m_manyB m_rowB v3 s0 (x9 + 1) _ _ ls h hP hD hS (lv_sub hl [3, 4, 5, 6, 7, 1, 8, 2, 0] rfl)
set_option maxHeartbeats 4000000 in
set_option maxRecDepth 100000 in
theorem kX9_cut_p144 {p : Program} {l : Launch} {e : Env} {s : State} {m : MethodId} {args : Array Value} {below : List Frame} {meth : Method} {c : Code} {A : Nat → Prop} (dC : Nat → ClassId) (dI : Nat → Nat → Nat) (cB cI cJ cZ : ClassId) (a : Nat → Nat) (C0 : cxt cX9_cut (some .int) 11 RX9 wsX9_cut (dC, dI) (tyz cB cI cJ cZ) E_0 A p s m args meth c) (n : Nat) (m_letters : Nat → Int32) (m_words : Int32) (m_wMany : Nat → Int32) (m_wLetters : Nat → Int32) (m_asks : Int32) (m_aWords : Nat → Int32) (m_dLetters : Nat → Int32) (m_dWords : Int32) (m_dMany : Nat → Int32) (m_dText : Nat → Int32) (m_dAsks : Int32) (m_dAsk : Nat → Int32) (m_tape : Nat → Int32) (m_taped : Int32) (m_pos : Int32) (m_from : Int32) (m_sort : Int32) (m_value : Int32) (m_fault : Int32) (m_wrongAt : Int32) (m_manyA : Int32) (m_rowA : Nat → Int32) (m_manyB : Int32) (m_rowB : Nat → Int32) (m_places : Int32) (m_xs : Nat → Int32) (m_ys : Nat → Int32) (m_heights : Nat → Int32) (m_ridges : Int32) (m_rx : Nat → Int32) (m_rHeight : Nat → Int32) (m_lanes : Nat → Int32) (m_sizes : Nat → Int32) (m_cells : Nat → Int32) (m_left : Nat → Int32) (m_calls : Int32) (m_cDay : Nat → Int32) (m_cHour : Nat → Int32) (m_cFrom : Nat → Int32) (m_cAsk : Nat → Int32) (m_cWord : Nat → Int32) (m_cOf : Nat → Int32) (m_isLie : Nat → Int32) (m_children : Int32) (m_learned : Nat → Int32) (m_group : Nat → Int32)  (x2 : Int32) (x3 : Int32) (x4 : Int32) (x5 : Int32) (x6 : Int32) (x7 : Int32) (x8 : Int32) (x9 : Int32)  (r0 : Int32) (z_m_manyA : Int32) (z_m_rowA : Nat → Int32) (z_m_manyB : Int32) (z_m_rowB : Nat → Int32) (rec69 : Int32 → (Nat → Int32) → Int32 → (Nat → Int32) → Int32 → Int32 → Int32 → Option (Int32 × Int32 × (Nat → Int32) × Int32 × (Nat → Int32))) (hrec69 : ∀ (y_m_manyA : Int32) (y_m_rowA : Nat → Int32) (y_m_manyB : Int32) (y_m_rowB : Nat → Int32) (y_x5 : Int32) (y_x6 : Int32) (y_x7 : Int32) (H : Heap) (locs : List Loc) (ls : Array Slot), rec69 y_m_manyA y_m_rowA y_m_manyB y_m_rowB y_x5 y_x6 y_x7 = some (r0, z_m_manyA, z_m_rowA, z_m_manyB, z_m_rowB) → va_P (dC, dI) vwCl (wM cB cI cJ cZ a m_letters m_words m_wMany m_wLetters m_asks m_aWords m_dLetters m_dWords m_dMany m_dText m_dAsks m_dAsk m_tape m_taped m_pos m_from m_sort m_value m_fault m_wrongAt y_m_manyA y_m_rowA y_m_manyB y_m_rowB m_places m_xs m_ys m_heights m_ridges m_rx m_rHeight m_lanes m_sizes m_cells m_left m_calls m_cDay m_cHour m_cFrom m_cAsk m_cWord m_cOf m_isLie m_children m_learned m_group) H → va_D A (wM cB cI cJ cZ a m_letters m_words m_wMany m_wLetters m_asks m_aWords m_dLetters m_dWords m_dMany m_dText m_dAsks m_dAsk m_tape m_taped m_pos m_from m_sort m_value m_fault m_wrongAt y_m_manyA y_m_rowA y_m_manyB y_m_rowB m_places m_xs m_ys m_heights m_ridges m_rx m_rHeight m_lanes m_sizes m_cells m_left m_calls m_cDay m_cHour m_cFrom m_cAsk m_cWord m_cOf m_isLie m_children m_learned m_group) → va_S A s.heap H locs → lv_has ls 11 [(0, .ref (a 0)), (2, .int x2), (3, .int x3), (4, .int x4), (5, .int y_x5), (6, .int y_x6), (7, .int y_x7)] → W p l e { frames := 3, cells := 0, slots := 0, locals := 72 } s m args below meth c H locs 0 0 (MQ below (gI (dC, dI) (tyz cB cI cJ cZ) (wM cB cI cJ cZ a m_letters m_words m_wMany m_wLetters m_asks m_aWords m_dLetters m_dWords m_dMany m_dText m_dAsks m_dAsk m_tape m_taped m_pos m_from m_sort m_value m_fault m_wrongAt z_m_manyA z_m_rowA z_m_manyB z_m_rowB m_places m_xs m_ys m_heights m_ridges m_rx m_rHeight m_lanes m_sizes m_cells m_left m_calls m_cDay m_cHour m_cFrom m_cAsk m_cWord m_cOf m_isLie m_children m_learned m_group) A r0) args s 0 0 A) (F0 m 69 ls [])) (rec99 : Int32 → (Nat → Int32) → Int32 → (Nat → Int32) → Int32 → Int32 → Int32 → Option (Int32 × Int32 × (Nat → Int32) × Int32 × (Nat → Int32))) (hrec99 : ∀ (y_m_manyA : Int32) (y_m_rowA : Nat → Int32) (y_m_manyB : Int32) (y_m_rowB : Nat → Int32) (y_x6 : Int32) (y_x8 : Int32) (y_x9 : Int32) (H : Heap) (locs : List Loc) (ls : Array Slot), rec99 y_m_manyA y_m_rowA y_m_manyB y_m_rowB y_x6 y_x8 y_x9 = some (r0, z_m_manyA, z_m_rowA, z_m_manyB, z_m_rowB) → va_P (dC, dI) vwCl (wM cB cI cJ cZ a m_letters m_words m_wMany m_wLetters m_asks m_aWords m_dLetters m_dWords m_dMany m_dText m_dAsks m_dAsk m_tape m_taped m_pos m_from m_sort m_value m_fault m_wrongAt y_m_manyA y_m_rowA y_m_manyB y_m_rowB m_places m_xs m_ys m_heights m_ridges m_rx m_rHeight m_lanes m_sizes m_cells m_left m_calls m_cDay m_cHour m_cFrom m_cAsk m_cWord m_cOf m_isLie m_children m_learned m_group) H → va_D A (wM cB cI cJ cZ a m_letters m_words m_wMany m_wLetters m_asks m_aWords m_dLetters m_dWords m_dMany m_dText m_dAsks m_dAsk m_tape m_taped m_pos m_from m_sort m_value m_fault m_wrongAt y_m_manyA y_m_rowA y_m_manyB y_m_rowB m_places m_xs m_ys m_heights m_ridges m_rx m_rHeight m_lanes m_sizes m_cells m_left m_calls m_cDay m_cHour m_cFrom m_cAsk m_cWord m_cOf m_isLie m_children m_learned m_group) → va_S A s.heap H locs → lv_has ls 11 [(0, .ref (a 0)), (2, .int x2), (3, .int x3), (4, .int x4), (5, .int x5), (6, .int y_x6), (7, .int x7), (8, .int y_x8), (9, .int y_x9)] → W p l e { frames := 3, cells := 0, slots := 0, locals := 72 } s m args below meth c H locs 0 0 (MQ below (gI (dC, dI) (tyz cB cI cJ cZ) (wM cB cI cJ cZ a m_letters m_words m_wMany m_wLetters m_asks m_aWords m_dLetters m_dWords m_dMany m_dText m_dAsks m_dAsk m_tape m_taped m_pos m_from m_sort m_value m_fault m_wrongAt z_m_manyA z_m_rowA z_m_manyB z_m_rowB m_places m_xs m_ys m_heights m_ridges m_rx m_rHeight m_lanes m_sizes m_cells m_left m_calls m_cDay m_cHour m_cFrom m_cAsk m_cWord m_cOf m_isLie m_children m_learned m_group) A r0) args s 0 0 A) (F0 m 99 ls [])) (H : Heap) (locs : List Loc) (ls : Array Slot) : fX9_cut_p144 n m_letters m_words m_wMany m_wLetters m_manyA m_rowA m_manyB m_rowB x2 x3 x4 x5 x6 x7 x8 x9 rec69 rec99 = some (r0, z_m_manyA, z_m_rowA, z_m_manyB, z_m_rowB) → va_P (dC, dI) vwCl (wM cB cI cJ cZ a m_letters m_words m_wMany m_wLetters m_asks m_aWords m_dLetters m_dWords m_dMany m_dText m_dAsks m_dAsk m_tape m_taped m_pos m_from m_sort m_value m_fault m_wrongAt m_manyA m_rowA m_manyB m_rowB m_places m_xs m_ys m_heights m_ridges m_rx m_rHeight m_lanes m_sizes m_cells m_left m_calls m_cDay m_cHour m_cFrom m_cAsk m_cWord m_cOf m_isLie m_children m_learned m_group) H → va_D A (wM cB cI cJ cZ a m_letters m_words m_wMany m_wLetters m_asks m_aWords m_dLetters m_dWords m_dMany m_dText m_dAsks m_dAsk m_tape m_taped m_pos m_from m_sort m_value m_fault m_wrongAt m_manyA m_rowA m_manyB m_rowB m_places m_xs m_ys m_heights m_ridges m_rx m_rHeight m_lanes m_sizes m_cells m_left m_calls m_cDay m_cHour m_cFrom m_cAsk m_cWord m_cOf m_isLie m_children m_learned m_group) → va_S A s.heap H locs → lv_has ls 11 [(0, .ref (a 0)), (2, .int x2), (3, .int x3), (4, .int x4), (5, .int x5), (6, .int x6), (7, .int x7), (8, .int x8), (9, .int x9)] → W p l e { frames := 3, cells := 0, slots := 0, locals := 72 } s m args below meth c H locs 0 0 (MQ below (gI (dC, dI) (tyz cB cI cJ cZ) (wM cB cI cJ cZ a m_letters m_words m_wMany m_wLetters m_asks m_aWords m_dLetters m_dWords m_dMany m_dText m_dAsks m_dAsk m_tape m_taped m_pos m_from m_sort m_value m_fault m_wrongAt z_m_manyA z_m_rowA z_m_manyB z_m_rowB m_places m_xs m_ys m_heights m_ridges m_rx m_rHeight m_lanes m_sizes m_cells m_left m_calls m_cDay m_cHour m_cFrom m_cAsk m_cWord m_cOf m_isLie m_children m_learned m_group) A r0) args s 0 0 A) (F0 m 144 ls []) := by
  intro h hP hD hS hl
  obtain ⟨hx, hb, hr, hml, hown, hts, hlocks, hK, hA, hE⟩ := id C0
  unfold fX9_cut_p144 at h
  refine lv_iconst (v := 0) hx hb dX9_cut_144 (by decide) ?_
  refine lv_istore (lv' := [(10, .int (0 : Int32)), (0, .ref (a 0)), (2, .int x2), (3, .int x3), (4, .int x4), (5, .int x5), (6, .int x6), (7, .int x7), (8, .int x8), (9, .int x9)]) hx hb dX9_cut_145 hl (by decide) rfl (fun ls hl => ?_)
  refine lv_iload hx hb dX9_cut_147 (lv_at hl 8 rfl) ?_
  refine lv_if_eq (tgt := 161) hx hb dX9_cut_149 (by decide) (fun c1 => ?_) (fun c1 => ?_)
  · have h := it_use c1 h
    refine lv_iconst (v := 0) hx hb dX9_cut_161 (by decide) ?_
    exact kX9_cut_p162 dC dI cB cI cJ cZ a C0 n m_letters m_words m_wMany m_wLetters m_asks m_aWords m_dLetters m_dWords m_dMany m_dText m_dAsks m_dAsk m_tape m_taped m_pos m_from m_sort m_value m_fault m_wrongAt m_manyA m_rowA m_manyB m_rowB m_places m_xs m_ys m_heights m_ridges m_rx m_rHeight m_lanes m_sizes m_cells m_left m_calls m_cDay m_cHour m_cFrom m_cAsk m_cWord m_cOf m_isLie m_children m_learned m_group x2 x3 x4 x5 x6 x7 x9 (0 : Int32) (0 : Int32) r0 z_m_manyA z_m_rowA z_m_manyB z_m_rowB (rec69) hrec69 (rec99) hrec99 _ _ ls h hP hD hS (lv_sub hl [1, 2, 3, 4, 5, 6, 7, 9, 0] rfl)
  · have h := ie_use c1 h
    refine lv_iload hx hb dX9_cut_152 (lv_at hl 0 rfl) ?_
    refine lv_if_ne (tgt := 161) hx hb dX9_cut_154 (by decide) (fun c2 => ?_) (fun c2 => ?_)
    · have h := ie_use c2 h
      refine lv_iconst (v := 0) hx hb dX9_cut_161 (by decide) ?_
      exact kX9_cut_p162 dC dI cB cI cJ cZ a C0 n m_letters m_words m_wMany m_wLetters m_asks m_aWords m_dLetters m_dWords m_dMany m_dText m_dAsks m_dAsk m_tape m_taped m_pos m_from m_sort m_value m_fault m_wrongAt m_manyA m_rowA m_manyB m_rowB m_places m_xs m_ys m_heights m_ridges m_rx m_rHeight m_lanes m_sizes m_cells m_left m_calls m_cDay m_cHour m_cFrom m_cAsk m_cWord m_cOf m_isLie m_children m_learned m_group x2 x3 x4 x5 x6 x7 x9 (0 : Int32) (0 : Int32) r0 z_m_manyA z_m_rowA z_m_manyB z_m_rowB (rec69) hrec69 (rec99) hrec99 _ _ ls h hP hD hS (lv_sub hl [1, 2, 3, 4, 5, 6, 7, 9, 0] rfl)
    · have h := it_use c2 h
      refine lv_iconst (v := 1) hx hb dX9_cut_157 (by decide) ?_
      refine lv_goto (tgt := 162) hx hb dX9_cut_158 (by decide) ?_
      exact kX9_cut_p162 dC dI cB cI cJ cZ a C0 n m_letters m_words m_wMany m_wLetters m_asks m_aWords m_dLetters m_dWords m_dMany m_dText m_dAsks m_dAsk m_tape m_taped m_pos m_from m_sort m_value m_fault m_wrongAt m_manyA m_rowA m_manyB m_rowB m_places m_xs m_ys m_heights m_ridges m_rx m_rHeight m_lanes m_sizes m_cells m_left m_calls m_cDay m_cHour m_cFrom m_cAsk m_cWord m_cOf m_isLie m_children m_learned m_group x2 x3 x4 x5 x6 x7 x9 (0 : Int32) (1 : Int32) r0 z_m_manyA z_m_rowA z_m_manyB z_m_rowB (rec69) hrec69 (rec99) hrec99 _ _ ls h hP hD hS (lv_sub hl [1, 2, 3, 4, 5, 6, 7, 9, 0] rfl)
set_option maxHeartbeats 4000000 in
set_option maxRecDepth 100000 in
theorem kX9_cut_p185 {p : Program} {l : Launch} {e : Env} {s : State} {m : MethodId} {args : Array Value} {below : List Frame} {meth : Method} {c : Code} {A : Nat → Prop} (dC : Nat → ClassId) (dI : Nat → Nat → Nat) (cB cI cJ cZ : ClassId) (a : Nat → Nat) (C0 : cxt cX9_cut (some .int) 11 RX9 wsX9_cut (dC, dI) (tyz cB cI cJ cZ) E_0 A p s m args meth c) (n : Nat) (m_letters : Nat → Int32) (m_words : Int32) (m_wMany : Nat → Int32) (m_wLetters : Nat → Int32) (m_asks : Int32) (m_aWords : Nat → Int32) (m_dLetters : Nat → Int32) (m_dWords : Int32) (m_dMany : Nat → Int32) (m_dText : Nat → Int32) (m_dAsks : Int32) (m_dAsk : Nat → Int32) (m_tape : Nat → Int32) (m_taped : Int32) (m_pos : Int32) (m_from : Int32) (m_sort : Int32) (m_value : Int32) (m_fault : Int32) (m_wrongAt : Int32) (m_manyA : Int32) (m_rowA : Nat → Int32) (m_manyB : Int32) (m_rowB : Nat → Int32) (m_places : Int32) (m_xs : Nat → Int32) (m_ys : Nat → Int32) (m_heights : Nat → Int32) (m_ridges : Int32) (m_rx : Nat → Int32) (m_rHeight : Nat → Int32) (m_lanes : Nat → Int32) (m_sizes : Nat → Int32) (m_cells : Nat → Int32) (m_left : Nat → Int32) (m_calls : Int32) (m_cDay : Nat → Int32) (m_cHour : Nat → Int32) (m_cFrom : Nat → Int32) (m_cAsk : Nat → Int32) (m_cWord : Nat → Int32) (m_cOf : Nat → Int32) (m_isLie : Nat → Int32) (m_children : Int32) (m_learned : Nat → Int32) (m_group : Nat → Int32)  (x2 : Int32) (x3 : Int32) (x4 : Int32) (x5 : Int32) (x6 : Int32) (x7 : Int32) (x8 : Int32)  (r0 : Int32) (z_m_manyA : Int32) (z_m_rowA : Nat → Int32) (z_m_manyB : Int32) (z_m_rowB : Nat → Int32) (rec69 : Int32 → (Nat → Int32) → Int32 → (Nat → Int32) → Int32 → Int32 → Int32 → Option (Int32 × Int32 × (Nat → Int32) × Int32 × (Nat → Int32))) (hrec69 : ∀ (y_m_manyA : Int32) (y_m_rowA : Nat → Int32) (y_m_manyB : Int32) (y_m_rowB : Nat → Int32) (y_x5 : Int32) (y_x6 : Int32) (y_x7 : Int32) (H : Heap) (locs : List Loc) (ls : Array Slot), rec69 y_m_manyA y_m_rowA y_m_manyB y_m_rowB y_x5 y_x6 y_x7 = some (r0, z_m_manyA, z_m_rowA, z_m_manyB, z_m_rowB) → va_P (dC, dI) vwCl (wM cB cI cJ cZ a m_letters m_words m_wMany m_wLetters m_asks m_aWords m_dLetters m_dWords m_dMany m_dText m_dAsks m_dAsk m_tape m_taped m_pos m_from m_sort m_value m_fault m_wrongAt y_m_manyA y_m_rowA y_m_manyB y_m_rowB m_places m_xs m_ys m_heights m_ridges m_rx m_rHeight m_lanes m_sizes m_cells m_left m_calls m_cDay m_cHour m_cFrom m_cAsk m_cWord m_cOf m_isLie m_children m_learned m_group) H → va_D A (wM cB cI cJ cZ a m_letters m_words m_wMany m_wLetters m_asks m_aWords m_dLetters m_dWords m_dMany m_dText m_dAsks m_dAsk m_tape m_taped m_pos m_from m_sort m_value m_fault m_wrongAt y_m_manyA y_m_rowA y_m_manyB y_m_rowB m_places m_xs m_ys m_heights m_ridges m_rx m_rHeight m_lanes m_sizes m_cells m_left m_calls m_cDay m_cHour m_cFrom m_cAsk m_cWord m_cOf m_isLie m_children m_learned m_group) → va_S A s.heap H locs → lv_has ls 11 [(0, .ref (a 0)), (2, .int x2), (3, .int x3), (4, .int x4), (5, .int y_x5), (6, .int y_x6), (7, .int y_x7)] → W p l e { frames := 3, cells := 0, slots := 0, locals := 72 } s m args below meth c H locs 0 0 (MQ below (gI (dC, dI) (tyz cB cI cJ cZ) (wM cB cI cJ cZ a m_letters m_words m_wMany m_wLetters m_asks m_aWords m_dLetters m_dWords m_dMany m_dText m_dAsks m_dAsk m_tape m_taped m_pos m_from m_sort m_value m_fault m_wrongAt z_m_manyA z_m_rowA z_m_manyB z_m_rowB m_places m_xs m_ys m_heights m_ridges m_rx m_rHeight m_lanes m_sizes m_cells m_left m_calls m_cDay m_cHour m_cFrom m_cAsk m_cWord m_cOf m_isLie m_children m_learned m_group) A r0) args s 0 0 A) (F0 m 69 ls [])) (H : Heap) (locs : List Loc) (ls : Array Slot) : fX9_cut_p185 n m_letters m_words m_wMany m_wLetters m_manyA m_rowA m_manyB m_rowB x2 x3 x4 x5 x6 x7 x8 rec69 = some (r0, z_m_manyA, z_m_rowA, z_m_manyB, z_m_rowB) → va_P (dC, dI) vwCl (wM cB cI cJ cZ a m_letters m_words m_wMany m_wLetters m_asks m_aWords m_dLetters m_dWords m_dMany m_dText m_dAsks m_dAsk m_tape m_taped m_pos m_from m_sort m_value m_fault m_wrongAt m_manyA m_rowA m_manyB m_rowB m_places m_xs m_ys m_heights m_ridges m_rx m_rHeight m_lanes m_sizes m_cells m_left m_calls m_cDay m_cHour m_cFrom m_cAsk m_cWord m_cOf m_isLie m_children m_learned m_group) H → va_D A (wM cB cI cJ cZ a m_letters m_words m_wMany m_wLetters m_asks m_aWords m_dLetters m_dWords m_dMany m_dText m_dAsks m_dAsk m_tape m_taped m_pos m_from m_sort m_value m_fault m_wrongAt m_manyA m_rowA m_manyB m_rowB m_places m_xs m_ys m_heights m_ridges m_rx m_rHeight m_lanes m_sizes m_cells m_left m_calls m_cDay m_cHour m_cFrom m_cAsk m_cWord m_cOf m_isLie m_children m_learned m_group) → va_S A s.heap H locs → lv_has ls 11 [(0, .ref (a 0)), (2, .int x2), (3, .int x3), (4, .int x4), (5, .int x5), (6, .int x6), (7, .int x7), (8, .int x8)] → W p l e { frames := 3, cells := 0, slots := 0, locals := 72 } s m args below meth c H locs 0 0 (MQ below (gI (dC, dI) (tyz cB cI cJ cZ) (wM cB cI cJ cZ a m_letters m_words m_wMany m_wLetters m_asks m_aWords m_dLetters m_dWords m_dMany m_dText m_dAsks m_dAsk m_tape m_taped m_pos m_from m_sort m_value m_fault m_wrongAt z_m_manyA z_m_rowA z_m_manyB z_m_rowB m_places m_xs m_ys m_heights m_ridges m_rx m_rHeight m_lanes m_sizes m_cells m_left m_calls m_cDay m_cHour m_cFrom m_cAsk m_cWord m_cOf m_isLie m_children m_learned m_group) A r0) args s 0 0 A) (F0 m 185 ls []) := by
  intro h hP hD hS hl
  obtain ⟨hx, hb, hr, hml, hown, hts, hlocks, hK, hA, hE⟩ := id C0
  unfold fX9_cut_p185 at h
  refine lv_iload hx hb dX9_cut_185 (lv_at hl 4 rfl) ?_
  refine lv_iload hx hb dX9_cut_187 (lv_at hl 7 rfl) ?_
  refine lv_if_eq (tgt := 199) hx hb dX9_cut_189 (by decide) (fun c1 => ?_) (fun c1 => ?_)
  · have h := it_use c1 h
    refine lv_iconst (v := 0) hx hb dX9_cut_199 (by decide) ?_
    refine lv_ior hx hb dX9_cut_200 ?_
    refine lv_topi (fun v2 ev2 => ?_)
    have h := nm_use ev2 h
    refine lv_istore (lv' := [(5, .int v2), (0, .ref (a 0)), (2, .int x2), (3, .int x3), (4, .int x4), (6, .int x6), (7, .int x7), (8, .int x8)]) hx hb dX9_cut_201 hl (by decide) rfl (fun ls hl => ?_)
    refine lv_iinc (v := x7 + 1) (lv' := [(7, .int (x7 + 1)), (5, .int v2), (0, .ref (a 0)), (2, .int x2), (3, .int x3), (4, .int x4), (6, .int x6), (8, .int x8)]) hx hb dX9_cut_203 hl (k := 6) rfl rfl (by decide) rfl (fun ls hl => ?_)
    refine lv_goto (tgt := 69) hx hb dX9_cut_206 (by decide) ?_
    exact hrec69 m_manyA m_rowA m_manyB m_rowB v2 x6 (x7 + 1) _ _ ls h hP hD hS (lv_sub hl [2, 3, 4, 5, 1, 6, 0] rfl)
  · have h := ie_use c1 h
    refine lv_iconst (v := 1) hx hb dX9_cut_192 (by decide) ?_
    refine lv_iload hx hb dX9_cut_193 (lv_at hl 6 rfl) ?_
    refine lv_ishl hx hb dX9_cut_195 ?_
    refine lv_goto (tgt := 200) hx hb dX9_cut_196 (by decide) ?_
    refine lv_ior hx hb dX9_cut_200 ?_
    refine lv_topi (fun v3 ev3 => ?_)
    have h := nm_use ev3 h
    refine lv_istore (lv' := [(5, .int v3), (0, .ref (a 0)), (2, .int x2), (3, .int x3), (4, .int x4), (6, .int x6), (7, .int x7), (8, .int x8)]) hx hb dX9_cut_201 hl (by decide) rfl (fun ls hl => ?_)
    refine lv_iinc (v := x7 + 1) (lv' := [(7, .int (x7 + 1)), (5, .int v3), (0, .ref (a 0)), (2, .int x2), (3, .int x3), (4, .int x4), (6, .int x6), (8, .int x8)]) hx hb dX9_cut_203 hl (k := 6) rfl rfl (by decide) rfl (fun ls hl => ?_)
    refine lv_goto (tgt := 69) hx hb dX9_cut_206 (by decide) ?_
    exact hrec69 m_manyA m_rowA m_manyB m_rowB v3 x6 (x7 + 1) _ _ ls h hP hD hS (lv_sub hl [2, 3, 4, 5, 1, 6, 0] rfl)
set_option maxHeartbeats 4000000 in
set_option maxRecDepth 100000 in
theorem kX9_cut_p99_r {p : Program} {l : Launch} {e : Env} {s : State} {m : MethodId} {args : Array Value} {below : List Frame} {meth : Method} {c : Code} {A : Nat → Prop} (dC : Nat → ClassId) (dI : Nat → Nat → Nat) (cB cI cJ cZ : ClassId) (a : Nat → Nat) (C0 : cxt cX9_cut (some .int) 11 RX9 wsX9_cut (dC, dI) (tyz cB cI cJ cZ) E_0 A p s m args meth c) (n : Nat) (m_letters : Nat → Int32) (m_words : Int32) (m_wMany : Nat → Int32) (m_wLetters : Nat → Int32) (m_asks : Int32) (m_aWords : Nat → Int32) (m_dLetters : Nat → Int32) (m_dWords : Int32) (m_dMany : Nat → Int32) (m_dText : Nat → Int32) (m_dAsks : Int32) (m_dAsk : Nat → Int32) (m_tape : Nat → Int32) (m_taped : Int32) (m_pos : Int32) (m_from : Int32) (m_sort : Int32) (m_value : Int32) (m_fault : Int32) (m_wrongAt : Int32) (m_places : Int32) (m_xs : Nat → Int32) (m_ys : Nat → Int32) (m_heights : Nat → Int32) (m_ridges : Int32) (m_rx : Nat → Int32) (m_rHeight : Nat → Int32) (m_lanes : Nat → Int32) (m_sizes : Nat → Int32) (m_cells : Nat → Int32) (m_left : Nat → Int32) (m_calls : Int32) (m_cDay : Nat → Int32) (m_cHour : Nat → Int32) (m_cFrom : Nat → Int32) (m_cAsk : Nat → Int32) (m_cWord : Nat → Int32) (m_cOf : Nat → Int32) (m_isLie : Nat → Int32) (m_children : Int32) (m_learned : Nat → Int32) (m_group : Nat → Int32) (x2 : Int32) (x3 : Int32) (x4 : Int32) (x5 : Int32) (x7 : Int32) (r0 : Int32) (z_m_manyA : Int32) (z_m_rowA : Nat → Int32) (z_m_manyB : Int32) (z_m_rowB : Nat → Int32) (rec69 : Int32 → (Nat → Int32) → Int32 → (Nat → Int32) → Int32 → Int32 → Int32 → Option (Int32 × Int32 × (Nat → Int32) × Int32 × (Nat → Int32))) (hrec69 : ∀ (y_m_manyA : Int32) (y_m_rowA : Nat → Int32) (y_m_manyB : Int32) (y_m_rowB : Nat → Int32) (y_x5 : Int32) (y_x6 : Int32) (y_x7 : Int32) (H : Heap) (locs : List Loc) (ls : Array Slot), rec69 y_m_manyA y_m_rowA y_m_manyB y_m_rowB y_x5 y_x6 y_x7 = some (r0, z_m_manyA, z_m_rowA, z_m_manyB, z_m_rowB) → va_P (dC, dI) vwCl (wM cB cI cJ cZ a m_letters m_words m_wMany m_wLetters m_asks m_aWords m_dLetters m_dWords m_dMany m_dText m_dAsks m_dAsk m_tape m_taped m_pos m_from m_sort m_value m_fault m_wrongAt y_m_manyA y_m_rowA y_m_manyB y_m_rowB m_places m_xs m_ys m_heights m_ridges m_rx m_rHeight m_lanes m_sizes m_cells m_left m_calls m_cDay m_cHour m_cFrom m_cAsk m_cWord m_cOf m_isLie m_children m_learned m_group) H → va_D A (wM cB cI cJ cZ a m_letters m_words m_wMany m_wLetters m_asks m_aWords m_dLetters m_dWords m_dMany m_dText m_dAsks m_dAsk m_tape m_taped m_pos m_from m_sort m_value m_fault m_wrongAt y_m_manyA y_m_rowA y_m_manyB y_m_rowB m_places m_xs m_ys m_heights m_ridges m_rx m_rHeight m_lanes m_sizes m_cells m_left m_calls m_cDay m_cHour m_cFrom m_cAsk m_cWord m_cOf m_isLie m_children m_learned m_group) → va_S A s.heap H locs → lv_has ls 11 [(0, .ref (a 0)), (2, .int x2), (3, .int x3), (4, .int x4), (5, .int y_x5), (6, .int y_x6), (7, .int y_x7)] → W p l e { frames := 3, cells := 0, slots := 0, locals := 72 } s m args below meth c H locs 0 0 (MQ below (gI (dC, dI) (tyz cB cI cJ cZ) (wM cB cI cJ cZ a m_letters m_words m_wMany m_wLetters m_asks m_aWords m_dLetters m_dWords m_dMany m_dText m_dAsks m_dAsk m_tape m_taped m_pos m_from m_sort m_value m_fault m_wrongAt z_m_manyA z_m_rowA z_m_manyB z_m_rowB m_places m_xs m_ys m_heights m_ridges m_rx m_rHeight m_lanes m_sizes m_cells m_left m_calls m_cDay m_cHour m_cFrom m_cAsk m_cWord m_cOf m_isLie m_children m_learned m_group) A r0) args s 0 0 A) (F0 m 69 ls [])) : ∀ (k : Nat) (m_manyA : Int32) (m_rowA : Nat → Int32) (m_manyB : Int32) (m_rowB : Nat → Int32) (x6 : Int32) (x8 : Int32) (x9 : Int32) (H : Heap) (locs : List Loc) (ls : Array Slot), fX9_cut_p99 n m_letters m_words m_wMany m_wLetters x2 x3 x4 x5 x7 rec69 k m_manyA m_rowA m_manyB m_rowB x6 x8 x9 = some (r0, z_m_manyA, z_m_rowA, z_m_manyB, z_m_rowB) → va_P (dC, dI) vwCl (wM cB cI cJ cZ a m_letters m_words m_wMany m_wLetters m_asks m_aWords m_dLetters m_dWords m_dMany m_dText m_dAsks m_dAsk m_tape m_taped m_pos m_from m_sort m_value m_fault m_wrongAt m_manyA m_rowA m_manyB m_rowB m_places m_xs m_ys m_heights m_ridges m_rx m_rHeight m_lanes m_sizes m_cells m_left m_calls m_cDay m_cHour m_cFrom m_cAsk m_cWord m_cOf m_isLie m_children m_learned m_group) H → va_D A (wM cB cI cJ cZ a m_letters m_words m_wMany m_wLetters m_asks m_aWords m_dLetters m_dWords m_dMany m_dText m_dAsks m_dAsk m_tape m_taped m_pos m_from m_sort m_value m_fault m_wrongAt m_manyA m_rowA m_manyB m_rowB m_places m_xs m_ys m_heights m_ridges m_rx m_rHeight m_lanes m_sizes m_cells m_left m_calls m_cDay m_cHour m_cFrom m_cAsk m_cWord m_cOf m_isLie m_children m_learned m_group) → va_S A s.heap H locs → lv_has ls 11 [(0, .ref (a 0)), (2, .int x2), (3, .int x3), (4, .int x4), (5, .int x5), (6, .int x6), (7, .int x7), (8, .int x8), (9, .int x9)] → W p l e { frames := 3, cells := 0, slots := 0, locals := 72 } s m args below meth c H locs 0 0 (MQ below (gI (dC, dI) (tyz cB cI cJ cZ) (wM cB cI cJ cZ a m_letters m_words m_wMany m_wLetters m_asks m_aWords m_dLetters m_dWords m_dMany m_dText m_dAsks m_dAsk m_tape m_taped m_pos m_from m_sort m_value m_fault m_wrongAt z_m_manyA z_m_rowA z_m_manyB z_m_rowB m_places m_xs m_ys m_heights m_ridges m_rx m_rHeight m_lanes m_sizes m_cells m_left m_calls m_cDay m_cHour m_cFrom m_cAsk m_cWord m_cOf m_isLie m_children m_learned m_group) A r0) args s 0 0 A) (F0 m 99 ls []) := by
  obtain ⟨hx, hb, hr, hml, hown, hts, hlocks, hK, hA, hE⟩ := id C0
  intro k
  induction k with
  | zero =>
    intro m_manyA m_rowA m_manyB m_rowB x6 x8 x9 H locs ls h
    cases h
  | succ k ih =>
    intro m_manyA m_rowA m_manyB m_rowB x6 x8 x9 H locs ls h hP hD hS hl
    rw [fX9_cut_p99] at h
    refine lv_iload hx hb dX9_cut_99 (lv_at hl 8 rfl) ?_
    refine lv_iload hx hb dX9_cut_101 (lv_at hl 6 rfl) ?_
    refine lv_icmp_ge (tgt := 185) hx hb dX9_cut_103 (by decide) (fun c1 => ?_) (fun c1 => ?_)
    · have h := it_use c1 h
      exact kX9_cut_p185 dC dI cB cI cJ cZ a C0 n m_letters m_words m_wMany m_wLetters m_asks m_aWords m_dLetters m_dWords m_dMany m_dText m_dAsks m_dAsk m_tape m_taped m_pos m_from m_sort m_value m_fault m_wrongAt m_manyA m_rowA m_manyB m_rowB m_places m_xs m_ys m_heights m_ridges m_rx m_rHeight m_lanes m_sizes m_cells m_left m_calls m_cDay m_cHour m_cFrom m_cAsk m_cWord m_cOf m_isLie m_children m_learned m_group x2 x3 x4 x5 x6 x7 x8  r0 z_m_manyA z_m_rowA z_m_manyB z_m_rowB (rec69) hrec69 _ _ ls h hP hD hS (lv_sub hl [0, 1, 2, 3, 4, 5, 6, 7] rfl)
    · have h := ie_use c1 h
      refine lv_iload hx hb dX9_cut_106 (lv_at hl 3 rfl) ?_
      refine lv_iload hx hb dX9_cut_108 (lv_at hl 6 rfl) ?_
      refine lv_ishr hx hb dX9_cut_110 ?_
      refine lv_iconst (v := 1) hx hb dX9_cut_111 (by decide) ?_
      refine lv_iand hx hb dX9_cut_112 ?_
      refine lv_iconst (v := 1) hx hb dX9_cut_113 (by decide) ?_
      refine lv_icmp_ne (tgt := 185) hx hb dX9_cut_114 (by decide) (fun c2 => ?_) (fun c2 => ?_)
      · have h := ie_use c2 h
        exact kX9_cut_p185 dC dI cB cI cJ cZ a C0 n m_letters m_words m_wMany m_wLetters m_asks m_aWords m_dLetters m_dWords m_dMany m_dText m_dAsks m_dAsk m_tape m_taped m_pos m_from m_sort m_value m_fault m_wrongAt m_manyA m_rowA m_manyB m_rowB m_places m_xs m_ys m_heights m_ridges m_rx m_rHeight m_lanes m_sizes m_cells m_left m_calls m_cDay m_cHour m_cFrom m_cAsk m_cWord m_cOf m_isLie m_children m_learned m_group x2 x3 x4 x5 x6 x7 x8  r0 z_m_manyA z_m_rowA z_m_manyB z_m_rowB (rec69) hrec69 _ _ ls h hP hD hS (lv_sub hl [0, 1, 2, 3, 4, 5, 6, 7] rfl)
      · have h := it_use c2 h
        refine lv_iload hx hb dX9_cut_117 (lv_at hl 3 rfl) ?_
        refine lv_iload hx hb dX9_cut_119 (lv_at hl 8 rfl) ?_
        refine lv_ishr hx hb dX9_cut_121 ?_
        refine lv_iconst (v := 1) hx hb dX9_cut_122 (by decide) ?_
        refine lv_iand hx hb dX9_cut_123 ?_
        refine lv_iconst (v := 1) hx hb dX9_cut_124 (by decide) ?_
        refine lv_icmp_ne (tgt := 144) hx hb dX9_cut_125 (by decide) (fun c3 => ?_) (fun c3 => ?_)
        · have h := ie_use c3 h
          exact kX9_cut_p144 dC dI cB cI cJ cZ a C0 n m_letters m_words m_wMany m_wLetters m_asks m_aWords m_dLetters m_dWords m_dMany m_dText m_dAsks m_dAsk m_tape m_taped m_pos m_from m_sort m_value m_fault m_wrongAt m_manyA m_rowA m_manyB m_rowB m_places m_xs m_ys m_heights m_ridges m_rx m_rHeight m_lanes m_sizes m_cells m_left m_calls m_cDay m_cHour m_cFrom m_cAsk m_cWord m_cOf m_isLie m_children m_learned m_group x2 x3 x4 x5 x6 x7 x8 x9  r0 z_m_manyA z_m_rowA z_m_manyB z_m_rowB (rec69) hrec69 (fX9_cut_p99 n m_letters m_words m_wMany m_wLetters x2 x3 x4 x5 x7 rec69 k) ih _ _ ls h hP hD hS (lv_sub hl [0, 1, 2, 3, 4, 5, 6, 7, 8] rfl)
        · have h := it_use c3 h
          refine lv_aload_n hx hb dX9_cut_128 rfl (lv_at hl 0 rfl) ?_
          refine lv_iload hx hb dX9_cut_129 (lv_at hl 8 rfl) ?_
          refine lv_iload hx hb dX9_cut_131 (lv_at hl 6 rfl) ?_
          refine lv_iload_n hx hb dX9_cut_133 rfl (lv_at hl 1 rfl) ?_
          obtain ⟨v4, v5, f6, v7, f8, hc, h⟩ := bd5_use h
          refine cv_i (As := [.int x9, .int x7, .int x2]) (rest := []) ⟨hx, hb, hml, hown, hts⟩ (kX9_areOne l n dC dI cB cI cJ cZ a _ m_letters m_words m_wMany m_wLetters m_asks m_aWords m_dLetters m_dWords m_dMany m_dText m_dAsks m_dAsk m_tape m_taped m_pos m_from m_sort m_value m_fault m_wrongAt m_manyA m_rowA m_manyB m_rowB m_places m_xs m_ys m_heights m_ridges m_rx m_rHeight m_lanes m_sizes m_cells m_left m_calls m_cDay m_cHour m_cFrom m_cAsk m_cWord m_cOf m_isLie m_children m_learned m_group x9 x7 x2 v4 v5 f6 v7 f8 hc) (cwV 3 hts gX9_cut_X9_areOne rfl rfl rfl (by decide +kernel) ⟨Nat.le_of_ble_eq_true rfl, Nat.le_of_ble_eq_true rfl⟩) EB_0 hE hK hP hD hS hA 0 (ci := 8) rfl rfl rfl rfl hl.1 rfl (Nat.le_of_ble_eq_true rfl) dX9_cut_134 ⟨Nat.zero_le _, Nat.zero_le _⟩ (fun H locs hP hD hS => ?_)
          refine lv_if_eq (tgt := 144) hx hb dX9_cut_137 (by decide) (fun c9 => ?_) (fun c9 => ?_)
          · have h := it_use c9 h
            exact kX9_cut_p144 dC dI cB cI cJ cZ a C0 n m_letters m_words m_wMany m_wLetters m_asks m_aWords m_dLetters m_dWords m_dMany m_dText m_dAsks m_dAsk m_tape m_taped m_pos m_from m_sort m_value m_fault m_wrongAt v5 f6 v7 f8 m_places m_xs m_ys m_heights m_ridges m_rx m_rHeight m_lanes m_sizes m_cells m_left m_calls m_cDay m_cHour m_cFrom m_cAsk m_cWord m_cOf m_isLie m_children m_learned m_group x2 x3 x4 x5 x6 x7 x8 x9  r0 z_m_manyA z_m_rowA z_m_manyB z_m_rowB (rec69) hrec69 (fX9_cut_p99 n m_letters m_words m_wMany m_wLetters x2 x3 x4 x5 x7 rec69 k) ih _ _ ls h hP hD hS (lv_sub hl [0, 1, 2, 3, 4, 5, 6, 7, 8] rfl)
          · have h := ie_use c9 h
            refine lv_iconst (v := 1) hx hb dX9_cut_140 (by decide) ?_
            refine lv_goto (tgt := 145) hx hb dX9_cut_141 (by decide) ?_
            refine lv_istore (lv' := [(10, .int (1 : Int32)), (0, .ref (a 0)), (2, .int x2), (3, .int x3), (4, .int x4), (5, .int x5), (6, .int x6), (7, .int x7), (8, .int x8), (9, .int x9)]) hx hb dX9_cut_145 hl (by decide) rfl (fun ls hl => ?_)
            refine lv_iload hx hb dX9_cut_147 (lv_at hl 8 rfl) ?_
            refine lv_if_eq (tgt := 161) hx hb dX9_cut_149 (by decide) (fun c10 => ?_) (fun c10 => ?_)
            · have h := it_use c10 h
              refine lv_iconst (v := 0) hx hb dX9_cut_161 (by decide) ?_
              exact kX9_cut_p162 dC dI cB cI cJ cZ a C0 n m_letters m_words m_wMany m_wLetters m_asks m_aWords m_dLetters m_dWords m_dMany m_dText m_dAsks m_dAsk m_tape m_taped m_pos m_from m_sort m_value m_fault m_wrongAt v5 f6 v7 f8 m_places m_xs m_ys m_heights m_ridges m_rx m_rHeight m_lanes m_sizes m_cells m_left m_calls m_cDay m_cHour m_cFrom m_cAsk m_cWord m_cOf m_isLie m_children m_learned m_group x2 x3 x4 x5 x6 x7 x9 (1 : Int32) (0 : Int32) r0 z_m_manyA z_m_rowA z_m_manyB z_m_rowB (rec69) hrec69 (fX9_cut_p99 n m_letters m_words m_wMany m_wLetters x2 x3 x4 x5 x7 rec69 k) ih _ _ ls h hP hD hS (lv_sub hl [1, 2, 3, 4, 5, 6, 7, 9, 0] rfl)
            · have h := ie_use c10 h
              refine lv_iload hx hb dX9_cut_152 (lv_at hl 0 rfl) ?_
              refine lv_if_ne (tgt := 161) hx hb dX9_cut_154 (by decide) (fun c11 => ?_) (fun c11 => ?_)
              · have h := ie_use c11 h
                refine lv_iconst (v := 0) hx hb dX9_cut_161 (by decide) ?_
                exact kX9_cut_p162 dC dI cB cI cJ cZ a C0 n m_letters m_words m_wMany m_wLetters m_asks m_aWords m_dLetters m_dWords m_dMany m_dText m_dAsks m_dAsk m_tape m_taped m_pos m_from m_sort m_value m_fault m_wrongAt v5 f6 v7 f8 m_places m_xs m_ys m_heights m_ridges m_rx m_rHeight m_lanes m_sizes m_cells m_left m_calls m_cDay m_cHour m_cFrom m_cAsk m_cWord m_cOf m_isLie m_children m_learned m_group x2 x3 x4 x5 x6 x7 x9 (1 : Int32) (0 : Int32) r0 z_m_manyA z_m_rowA z_m_manyB z_m_rowB (rec69) hrec69 (fX9_cut_p99 n m_letters m_words m_wMany m_wLetters x2 x3 x4 x5 x7 rec69 k) ih _ _ ls h hP hD hS (lv_sub hl [1, 2, 3, 4, 5, 6, 7, 9, 0] rfl)
              · have h := it_use c11 h
                refine lv_iconst (v := 1) hx hb dX9_cut_157 (by decide) ?_
                refine lv_goto (tgt := 162) hx hb dX9_cut_158 (by decide) ?_
                exact kX9_cut_p162 dC dI cB cI cJ cZ a C0 n m_letters m_words m_wMany m_wLetters m_asks m_aWords m_dLetters m_dWords m_dMany m_dText m_dAsks m_dAsk m_tape m_taped m_pos m_from m_sort m_value m_fault m_wrongAt v5 f6 v7 f8 m_places m_xs m_ys m_heights m_ridges m_rx m_rHeight m_lanes m_sizes m_cells m_left m_calls m_cDay m_cHour m_cFrom m_cAsk m_cWord m_cOf m_isLie m_children m_learned m_group x2 x3 x4 x5 x6 x7 x9 (1 : Int32) (1 : Int32) r0 z_m_manyA z_m_rowA z_m_manyB z_m_rowB (rec69) hrec69 (fX9_cut_p99 n m_letters m_words m_wMany m_wLetters x2 x3 x4 x5 x7 rec69 k) ih _ _ ls h hP hD hS (lv_sub hl [1, 2, 3, 4, 5, 6, 7, 9, 0] rfl)
theorem kX9_cut_p99 {p : Program} {l : Launch} {e : Env} {s : State} {m : MethodId} {args : Array Value} {below : List Frame} {meth : Method} {c : Code} {A : Nat → Prop} (dC : Nat → ClassId) (dI : Nat → Nat → Nat) (cB cI cJ cZ : ClassId) (a : Nat → Nat) (C0 : cxt cX9_cut (some .int) 11 RX9 wsX9_cut (dC, dI) (tyz cB cI cJ cZ) E_0 A p s m args meth c) (n : Nat) (m_letters : Nat → Int32) (m_words : Int32) (m_wMany : Nat → Int32) (m_wLetters : Nat → Int32) (m_asks : Int32) (m_aWords : Nat → Int32) (m_dLetters : Nat → Int32) (m_dWords : Int32) (m_dMany : Nat → Int32) (m_dText : Nat → Int32) (m_dAsks : Int32) (m_dAsk : Nat → Int32) (m_tape : Nat → Int32) (m_taped : Int32) (m_pos : Int32) (m_from : Int32) (m_sort : Int32) (m_value : Int32) (m_fault : Int32) (m_wrongAt : Int32) (m_manyA : Int32) (m_rowA : Nat → Int32) (m_manyB : Int32) (m_rowB : Nat → Int32) (m_places : Int32) (m_xs : Nat → Int32) (m_ys : Nat → Int32) (m_heights : Nat → Int32) (m_ridges : Int32) (m_rx : Nat → Int32) (m_rHeight : Nat → Int32) (m_lanes : Nat → Int32) (m_sizes : Nat → Int32) (m_cells : Nat → Int32) (m_left : Nat → Int32) (m_calls : Int32) (m_cDay : Nat → Int32) (m_cHour : Nat → Int32) (m_cFrom : Nat → Int32) (m_cAsk : Nat → Int32) (m_cWord : Nat → Int32) (m_cOf : Nat → Int32) (m_isLie : Nat → Int32) (m_children : Int32) (m_learned : Nat → Int32) (m_group : Nat → Int32)  (x2 : Int32) (x3 : Int32) (x4 : Int32) (x5 : Int32) (x6 : Int32) (x7 : Int32) (x8 : Int32) (x9 : Int32) (r0 : Int32) (z_m_manyA : Int32) (z_m_rowA : Nat → Int32) (z_m_manyB : Int32) (z_m_rowB : Nat → Int32) (rec69 : Int32 → (Nat → Int32) → Int32 → (Nat → Int32) → Int32 → Int32 → Int32 → Option (Int32 × Int32 × (Nat → Int32) × Int32 × (Nat → Int32))) (hrec69 : ∀ (y_m_manyA : Int32) (y_m_rowA : Nat → Int32) (y_m_manyB : Int32) (y_m_rowB : Nat → Int32) (y_x5 : Int32) (y_x6 : Int32) (y_x7 : Int32) (H : Heap) (locs : List Loc) (ls : Array Slot), rec69 y_m_manyA y_m_rowA y_m_manyB y_m_rowB y_x5 y_x6 y_x7 = some (r0, z_m_manyA, z_m_rowA, z_m_manyB, z_m_rowB) → va_P (dC, dI) vwCl (wM cB cI cJ cZ a m_letters m_words m_wMany m_wLetters m_asks m_aWords m_dLetters m_dWords m_dMany m_dText m_dAsks m_dAsk m_tape m_taped m_pos m_from m_sort m_value m_fault m_wrongAt y_m_manyA y_m_rowA y_m_manyB y_m_rowB m_places m_xs m_ys m_heights m_ridges m_rx m_rHeight m_lanes m_sizes m_cells m_left m_calls m_cDay m_cHour m_cFrom m_cAsk m_cWord m_cOf m_isLie m_children m_learned m_group) H → va_D A (wM cB cI cJ cZ a m_letters m_words m_wMany m_wLetters m_asks m_aWords m_dLetters m_dWords m_dMany m_dText m_dAsks m_dAsk m_tape m_taped m_pos m_from m_sort m_value m_fault m_wrongAt y_m_manyA y_m_rowA y_m_manyB y_m_rowB m_places m_xs m_ys m_heights m_ridges m_rx m_rHeight m_lanes m_sizes m_cells m_left m_calls m_cDay m_cHour m_cFrom m_cAsk m_cWord m_cOf m_isLie m_children m_learned m_group) → va_S A s.heap H locs → lv_has ls 11 [(0, .ref (a 0)), (2, .int x2), (3, .int x3), (4, .int x4), (5, .int y_x5), (6, .int y_x6), (7, .int y_x7)] → W p l e { frames := 3, cells := 0, slots := 0, locals := 72 } s m args below meth c H locs 0 0 (MQ below (gI (dC, dI) (tyz cB cI cJ cZ) (wM cB cI cJ cZ a m_letters m_words m_wMany m_wLetters m_asks m_aWords m_dLetters m_dWords m_dMany m_dText m_dAsks m_dAsk m_tape m_taped m_pos m_from m_sort m_value m_fault m_wrongAt z_m_manyA z_m_rowA z_m_manyB z_m_rowB m_places m_xs m_ys m_heights m_ridges m_rx m_rHeight m_lanes m_sizes m_cells m_left m_calls m_cDay m_cHour m_cFrom m_cAsk m_cWord m_cOf m_isLie m_children m_learned m_group) A r0) args s 0 0 A) (F0 m 69 ls [])) (k : Nat) (H : Heap) (locs : List Loc) (ls : Array Slot) : fX9_cut_p99 n m_letters m_words m_wMany m_wLetters x2 x3 x4 x5 x7 rec69 k m_manyA m_rowA m_manyB m_rowB x6 x8 x9 = some (r0, z_m_manyA, z_m_rowA, z_m_manyB, z_m_rowB) → va_P (dC, dI) vwCl (wM cB cI cJ cZ a m_letters m_words m_wMany m_wLetters m_asks m_aWords m_dLetters m_dWords m_dMany m_dText m_dAsks m_dAsk m_tape m_taped m_pos m_from m_sort m_value m_fault m_wrongAt m_manyA m_rowA m_manyB m_rowB m_places m_xs m_ys m_heights m_ridges m_rx m_rHeight m_lanes m_sizes m_cells m_left m_calls m_cDay m_cHour m_cFrom m_cAsk m_cWord m_cOf m_isLie m_children m_learned m_group) H → va_D A (wM cB cI cJ cZ a m_letters m_words m_wMany m_wLetters m_asks m_aWords m_dLetters m_dWords m_dMany m_dText m_dAsks m_dAsk m_tape m_taped m_pos m_from m_sort m_value m_fault m_wrongAt m_manyA m_rowA m_manyB m_rowB m_places m_xs m_ys m_heights m_ridges m_rx m_rHeight m_lanes m_sizes m_cells m_left m_calls m_cDay m_cHour m_cFrom m_cAsk m_cWord m_cOf m_isLie m_children m_learned m_group) → va_S A s.heap H locs → lv_has ls 11 [(0, .ref (a 0)), (2, .int x2), (3, .int x3), (4, .int x4), (5, .int x5), (6, .int x6), (7, .int x7), (8, .int x8), (9, .int x9)] → W p l e { frames := 3, cells := 0, slots := 0, locals := 72 } s m args below meth c H locs 0 0 (MQ below (gI (dC, dI) (tyz cB cI cJ cZ) (wM cB cI cJ cZ a m_letters m_words m_wMany m_wLetters m_asks m_aWords m_dLetters m_dWords m_dMany m_dText m_dAsks m_dAsk m_tape m_taped m_pos m_from m_sort m_value m_fault m_wrongAt z_m_manyA z_m_rowA z_m_manyB z_m_rowB m_places m_xs m_ys m_heights m_ridges m_rx m_rHeight m_lanes m_sizes m_cells m_left m_calls m_cDay m_cHour m_cFrom m_cAsk m_cWord m_cOf m_isLie m_children m_learned m_group) A r0) args s 0 0 A) (F0 m 99 ls []) :=
  kX9_cut_p99_r dC dI cB cI cJ cZ a C0 n m_letters m_words m_wMany m_wLetters m_asks m_aWords m_dLetters m_dWords m_dMany m_dText m_dAsks m_dAsk m_tape m_taped m_pos m_from m_sort m_value m_fault m_wrongAt m_places m_xs m_ys m_heights m_ridges m_rx m_rHeight m_lanes m_sizes m_cells m_left m_calls m_cDay m_cHour m_cFrom m_cAsk m_cWord m_cOf m_isLie m_children m_learned m_group x2 x3 x4 x5 x7 r0 z_m_manyA z_m_rowA z_m_manyB z_m_rowB rec69 hrec69 k m_manyA m_rowA m_manyB m_rowB x6 x8 x9 H locs ls
set_option maxHeartbeats 4000000 in
set_option maxRecDepth 100000 in
theorem kX9_cut_p209 {p : Program} {l : Launch} {e : Env} {s : State} {m : MethodId} {args : Array Value} {below : List Frame} {meth : Method} {c : Code} {A : Nat → Prop} (dC : Nat → ClassId) (dI : Nat → Nat → Nat) (cB cI cJ cZ : ClassId) (a : Nat → Nat) (C0 : cxt cX9_cut (some .int) 11 RX9 wsX9_cut (dC, dI) (tyz cB cI cJ cZ) E_0 A p s m args meth c) (n : Nat) (m_letters : Nat → Int32) (m_words : Int32) (m_wMany : Nat → Int32) (m_wLetters : Nat → Int32) (m_asks : Int32) (m_aWords : Nat → Int32) (m_dLetters : Nat → Int32) (m_dWords : Int32) (m_dMany : Nat → Int32) (m_dText : Nat → Int32) (m_dAsks : Int32) (m_dAsk : Nat → Int32) (m_tape : Nat → Int32) (m_taped : Int32) (m_pos : Int32) (m_from : Int32) (m_sort : Int32) (m_value : Int32) (m_fault : Int32) (m_wrongAt : Int32) (m_manyA : Int32) (m_rowA : Nat → Int32) (m_manyB : Int32) (m_rowB : Nat → Int32) (m_places : Int32) (m_xs : Nat → Int32) (m_ys : Nat → Int32) (m_heights : Nat → Int32) (m_ridges : Int32) (m_rx : Nat → Int32) (m_rHeight : Nat → Int32) (m_lanes : Nat → Int32) (m_sizes : Nat → Int32) (m_cells : Nat → Int32) (m_left : Nat → Int32) (m_calls : Int32) (m_cDay : Nat → Int32) (m_cHour : Nat → Int32) (m_cFrom : Nat → Int32) (m_cAsk : Nat → Int32) (m_cWord : Nat → Int32) (m_cOf : Nat → Int32) (m_isLie : Nat → Int32) (m_children : Int32) (m_learned : Nat → Int32) (m_group : Nat → Int32)  (x3 : Int32) (x5 : Int32) (x6 : Int32)  (r0 : Int32) (z_m_manyA : Int32) (z_m_rowA : Nat → Int32) (z_m_manyB : Int32) (z_m_rowB : Nat → Int32)  (H : Heap) (locs : List Loc) (ls : Array Slot) : fX9_cut_p209 n m_manyA m_rowA m_manyB m_rowB x3 x5 x6 = some (r0, z_m_manyA, z_m_rowA, z_m_manyB, z_m_rowB) → va_P (dC, dI) vwCl (wM cB cI cJ cZ a m_letters m_words m_wMany m_wLetters m_asks m_aWords m_dLetters m_dWords m_dMany m_dText m_dAsks m_dAsk m_tape m_taped m_pos m_from m_sort m_value m_fault m_wrongAt m_manyA m_rowA m_manyB m_rowB m_places m_xs m_ys m_heights m_ridges m_rx m_rHeight m_lanes m_sizes m_cells m_left m_calls m_cDay m_cHour m_cFrom m_cAsk m_cWord m_cOf m_isLie m_children m_learned m_group) H → va_D A (wM cB cI cJ cZ a m_letters m_words m_wMany m_wLetters m_asks m_aWords m_dLetters m_dWords m_dMany m_dText m_dAsks m_dAsk m_tape m_taped m_pos m_from m_sort m_value m_fault m_wrongAt m_manyA m_rowA m_manyB m_rowB m_places m_xs m_ys m_heights m_ridges m_rx m_rHeight m_lanes m_sizes m_cells m_left m_calls m_cDay m_cHour m_cFrom m_cAsk m_cWord m_cOf m_isLie m_children m_learned m_group) → va_S A s.heap H locs → lv_has ls 11 [(0, .ref (a 0)), (3, .int x3), (5, .int x5), (6, .int x6)] → W p l e { frames := 3, cells := 0, slots := 0, locals := 72 } s m args below meth c H locs 0 0 (MQ below (gI (dC, dI) (tyz cB cI cJ cZ) (wM cB cI cJ cZ a m_letters m_words m_wMany m_wLetters m_asks m_aWords m_dLetters m_dWords m_dMany m_dText m_dAsks m_dAsk m_tape m_taped m_pos m_from m_sort m_value m_fault m_wrongAt z_m_manyA z_m_rowA z_m_manyB z_m_rowB m_places m_xs m_ys m_heights m_ridges m_rx m_rHeight m_lanes m_sizes m_cells m_left m_calls m_cDay m_cHour m_cFrom m_cAsk m_cWord m_cOf m_isLie m_children m_learned m_group) A r0) args s 0 0 A) (F0 m 209 ls []) := by
  intro h hP hD hS hl
  obtain ⟨hx, hb, hr, hml, hown, hts, hlocks, hK, hA, hE⟩ := id C0
  unfold fX9_cut_p209 at h
  refine lv_iload_n hx hb dX9_cut_209 rfl (lv_at hl 1 rfl) ?_
  refine lv_if_ne (tgt := 221) hx hb dX9_cut_210 (by decide) (fun c1 => ?_) (fun c1 => ?_)
  · have h := ie_use c1 h
    refine lv_iload_n hx hb dX9_cut_221 rfl (lv_at hl 1 rfl) ?_
    refine lv_iconst (v := 1) hx hb dX9_cut_222 (by decide) ?_
    refine lv_icmp_ne (tgt := 231) hx hb dX9_cut_223 (by decide) (fun c2 => ?_) (fun c2 => ?_)
    · have h := ie_use c2 h
      refine lv_iload hx hb dX9_cut_231 (lv_at hl 3 rfl) ?_
      obtain ⟨er, ez0, ez1, ez2, ez3⟩ := rt5_use h
      subst ez0
      subst ez1
      subst ez2
      subst ez3
      exact re_i hx hb hr hlocks hK hP hD hS er dX9_cut_233
    · have h := it_use c2 h
      refine lv_iload hx hb dX9_cut_226 (lv_at hl 2 rfl) ?_
      refine lv_goto (tgt := 233) hx hb dX9_cut_228 (by decide) ?_
      obtain ⟨er, ez0, ez1, ez2, ez3⟩ := rt5_use h
      subst ez0
      subst ez1
      subst ez2
      subst ez3
      exact re_i hx hb hr hlocks hK hP hD hS er dX9_cut_233
  · have h := it_use c1 h
    refine lv_iload hx hb dX9_cut_213 (lv_at hl 2 rfl) ?_
    obtain ⟨v3, hc, h⟩ := bd1_use h
    refine cs_i (As := [.int x5]) (rest := []) ⟨hx, hb, hml, hown, hts⟩ (kX9_bits l n x5 v3 hc) (va_cwS 1 hts gX9_cut_X9_bits rfl rfl rfl (by decide +kernel) ⟨Nat.le_of_ble_eq_true rfl, Nat.le_of_ble_eq_true rfl⟩) hP hS rfl hl.1 rfl (Nat.le_of_ble_eq_true rfl) dX9_cut_215 ⟨Nat.zero_le _, Nat.zero_le _⟩ (fun H locs hP hS => ?_)
    refine lv_goto (tgt := 233) hx hb dX9_cut_218 (by decide) ?_
    obtain ⟨er, ez0, ez1, ez2, ez3⟩ := rt5_use h
    subst ez0
    subst ez1
    subst ez2
    subst ez3
    exact re_i hx hb hr hlocks hK hP hD hS er dX9_cut_233
set_option maxHeartbeats 4000000 in
set_option maxRecDepth 100000 in
theorem kX9_cut_p69_r {p : Program} {l : Launch} {e : Env} {s : State} {m : MethodId} {args : Array Value} {below : List Frame} {meth : Method} {c : Code} {A : Nat → Prop} (dC : Nat → ClassId) (dI : Nat → Nat → Nat) (cB cI cJ cZ : ClassId) (a : Nat → Nat) (C0 : cxt cX9_cut (some .int) 11 RX9 wsX9_cut (dC, dI) (tyz cB cI cJ cZ) E_0 A p s m args meth c) (n : Nat) (m_letters : Nat → Int32) (m_words : Int32) (m_wMany : Nat → Int32) (m_wLetters : Nat → Int32) (m_asks : Int32) (m_aWords : Nat → Int32) (m_dLetters : Nat → Int32) (m_dWords : Int32) (m_dMany : Nat → Int32) (m_dText : Nat → Int32) (m_dAsks : Int32) (m_dAsk : Nat → Int32) (m_tape : Nat → Int32) (m_taped : Int32) (m_pos : Int32) (m_from : Int32) (m_sort : Int32) (m_value : Int32) (m_fault : Int32) (m_wrongAt : Int32) (m_places : Int32) (m_xs : Nat → Int32) (m_ys : Nat → Int32) (m_heights : Nat → Int32) (m_ridges : Int32) (m_rx : Nat → Int32) (m_rHeight : Nat → Int32) (m_lanes : Nat → Int32) (m_sizes : Nat → Int32) (m_cells : Nat → Int32) (m_left : Nat → Int32) (m_calls : Int32) (m_cDay : Nat → Int32) (m_cHour : Nat → Int32) (m_cFrom : Nat → Int32) (m_cAsk : Nat → Int32) (m_cWord : Nat → Int32) (m_cOf : Nat → Int32) (m_isLie : Nat → Int32) (m_children : Int32) (m_learned : Nat → Int32) (m_group : Nat → Int32) (x2 : Int32) (x3 : Int32) (x4 : Int32) (r0 : Int32) (z_m_manyA : Int32) (z_m_rowA : Nat → Int32) (z_m_manyB : Int32) (z_m_rowB : Nat → Int32)  : ∀ (k : Nat) (m_manyA : Int32) (m_rowA : Nat → Int32) (m_manyB : Int32) (m_rowB : Nat → Int32) (x5 : Int32) (x6 : Int32) (x7 : Int32) (H : Heap) (locs : List Loc) (ls : Array Slot), fX9_cut_p69 n m_letters m_words m_wMany m_wLetters x2 x3 x4 k m_manyA m_rowA m_manyB m_rowB x5 x6 x7 = some (r0, z_m_manyA, z_m_rowA, z_m_manyB, z_m_rowB) → va_P (dC, dI) vwCl (wM cB cI cJ cZ a m_letters m_words m_wMany m_wLetters m_asks m_aWords m_dLetters m_dWords m_dMany m_dText m_dAsks m_dAsk m_tape m_taped m_pos m_from m_sort m_value m_fault m_wrongAt m_manyA m_rowA m_manyB m_rowB m_places m_xs m_ys m_heights m_ridges m_rx m_rHeight m_lanes m_sizes m_cells m_left m_calls m_cDay m_cHour m_cFrom m_cAsk m_cWord m_cOf m_isLie m_children m_learned m_group) H → va_D A (wM cB cI cJ cZ a m_letters m_words m_wMany m_wLetters m_asks m_aWords m_dLetters m_dWords m_dMany m_dText m_dAsks m_dAsk m_tape m_taped m_pos m_from m_sort m_value m_fault m_wrongAt m_manyA m_rowA m_manyB m_rowB m_places m_xs m_ys m_heights m_ridges m_rx m_rHeight m_lanes m_sizes m_cells m_left m_calls m_cDay m_cHour m_cFrom m_cAsk m_cWord m_cOf m_isLie m_children m_learned m_group) → va_S A s.heap H locs → lv_has ls 11 [(0, .ref (a 0)), (2, .int x2), (3, .int x3), (4, .int x4), (5, .int x5), (6, .int x6), (7, .int x7)] → W p l e { frames := 3, cells := 0, slots := 0, locals := 72 } s m args below meth c H locs 0 0 (MQ below (gI (dC, dI) (tyz cB cI cJ cZ) (wM cB cI cJ cZ a m_letters m_words m_wMany m_wLetters m_asks m_aWords m_dLetters m_dWords m_dMany m_dText m_dAsks m_dAsk m_tape m_taped m_pos m_from m_sort m_value m_fault m_wrongAt z_m_manyA z_m_rowA z_m_manyB z_m_rowB m_places m_xs m_ys m_heights m_ridges m_rx m_rHeight m_lanes m_sizes m_cells m_left m_calls m_cDay m_cHour m_cFrom m_cAsk m_cWord m_cOf m_isLie m_children m_learned m_group) A r0) args s 0 0 A) (F0 m 69 ls []) := by
  obtain ⟨hx, hb, hr, hml, hown, hts, hlocks, hK, hA, hE⟩ := id C0
  have hw0 := hts (.fieldLink RX9 186 "WhistledWordsModel" "words" "I") (by decide +kernel)
  have hnX9 : ∀ w ∈ u_ws RX9 TX9 46, w ∈ wsX9_cut := fun _ h => List.mem_cons_of_mem _ (List.mem_append_right _ h)
  intro k
  induction k with
  | zero =>
    intro m_manyA m_rowA m_manyB m_rowB x5 x6 x7 H locs ls h
    cases h
  | succ k ih =>
    intro m_manyA m_rowA m_manyB m_rowB x5 x6 x7 H locs ls h hP hD hS hl
    rw [fX9_cut_p69] at h
    refine lv_iload hx hb dX9_cut_69 (lv_at hl 6 rfl) ?_
    refine lv_aload_n hx hb dX9_cut_71 rfl (lv_at hl 0 rfl) ?_
    refine gM_mo_words hx hb hts hnX9 hown hK hP hw0 dX9_cut_72 ?_
    refine lv_icmp_ge (tgt := 209) hx hb dX9_cut_75 (by decide) (fun c1 => ?_) (fun c1 => ?_)
    · have h := it_use c1 h
      exact kX9_cut_p209 dC dI cB cI cJ cZ a C0 n m_letters m_words m_wMany m_wLetters m_asks m_aWords m_dLetters m_dWords m_dMany m_dText m_dAsks m_dAsk m_tape m_taped m_pos m_from m_sort m_value m_fault m_wrongAt m_manyA m_rowA m_manyB m_rowB m_places m_xs m_ys m_heights m_ridges m_rx m_rHeight m_lanes m_sizes m_cells m_left m_calls m_cDay m_cHour m_cFrom m_cAsk m_cWord m_cOf m_isLie m_children m_learned m_group x3 x5 x6  r0 z_m_manyA z_m_rowA z_m_manyB z_m_rowB  _ _ ls h hP hD hS (lv_sub hl [0, 2, 4, 5] rfl)
    · have h := ie_use c1 h
      refine lv_iload hx hb dX9_cut_78 (lv_at hl 3 rfl) ?_
      refine lv_iload hx hb dX9_cut_80 (lv_at hl 6 rfl) ?_
      refine lv_ishr hx hb dX9_cut_82 ?_
      refine lv_iconst (v := 1) hx hb dX9_cut_83 (by decide) ?_
      refine lv_iand hx hb dX9_cut_84 ?_
      refine lv_iconst (v := 1) hx hb dX9_cut_85 (by decide) ?_
      refine lv_icmp_ne (tgt := 93) hx hb dX9_cut_86 (by decide) (fun c2 => ?_) (fun c2 => ?_)
      · have h := ie_use c2 h
        refine lv_iconst (v := 0) hx hb dX9_cut_93 (by decide) ?_
        refine lv_istore (lv' := [(8, .int (0 : Int32)), (0, .ref (a 0)), (2, .int x2), (3, .int x3), (4, .int x4), (5, .int x5), (6, .int x6), (7, .int x7)]) hx hb dX9_cut_94 hl (by decide) rfl (fun ls hl => ?_)
        refine lv_iconst (v := 0) hx hb dX9_cut_96 (by decide) ?_
        refine lv_istore (lv' := [(9, .int (0 : Int32)), (8, .int (0 : Int32)), (0, .ref (a 0)), (2, .int x2), (3, .int x3), (4, .int x4), (5, .int x5), (6, .int x6), (7, .int x7)]) hx hb dX9_cut_97 hl (by decide) rfl (fun ls hl => ?_)
        exact kX9_cut_p99 dC dI cB cI cJ cZ a C0 n m_letters m_words m_wMany m_wLetters m_asks m_aWords m_dLetters m_dWords m_dMany m_dText m_dAsks m_dAsk m_tape m_taped m_pos m_from m_sort m_value m_fault m_wrongAt m_manyA m_rowA m_manyB m_rowB m_places m_xs m_ys m_heights m_ridges m_rx m_rHeight m_lanes m_sizes m_cells m_left m_calls m_cDay m_cHour m_cFrom m_cAsk m_cWord m_cOf m_isLie m_children m_learned m_group x2 x3 x4 x5 x6 x7 (0 : Int32) (0 : Int32) r0 z_m_manyA z_m_rowA z_m_manyB z_m_rowB (fX9_cut_p69 n m_letters m_words m_wMany m_wLetters x2 x3 x4 k) ih n _ _ ls h hP hD hS (lv_sub hl [2, 3, 4, 5, 6, 7, 8, 1, 0] rfl)
      · have h := it_use c2 h
        refine lv_iconst (v := 1) hx hb dX9_cut_89 (by decide) ?_
        refine lv_goto (tgt := 94) hx hb dX9_cut_90 (by decide) ?_
        refine lv_istore (lv' := [(8, .int (1 : Int32)), (0, .ref (a 0)), (2, .int x2), (3, .int x3), (4, .int x4), (5, .int x5), (6, .int x6), (7, .int x7)]) hx hb dX9_cut_94 hl (by decide) rfl (fun ls hl => ?_)
        refine lv_iconst (v := 0) hx hb dX9_cut_96 (by decide) ?_
        refine lv_istore (lv' := [(9, .int (0 : Int32)), (8, .int (1 : Int32)), (0, .ref (a 0)), (2, .int x2), (3, .int x3), (4, .int x4), (5, .int x5), (6, .int x6), (7, .int x7)]) hx hb dX9_cut_97 hl (by decide) rfl (fun ls hl => ?_)
        exact kX9_cut_p99 dC dI cB cI cJ cZ a C0 n m_letters m_words m_wMany m_wLetters m_asks m_aWords m_dLetters m_dWords m_dMany m_dText m_dAsks m_dAsk m_tape m_taped m_pos m_from m_sort m_value m_fault m_wrongAt m_manyA m_rowA m_manyB m_rowB m_places m_xs m_ys m_heights m_ridges m_rx m_rHeight m_lanes m_sizes m_cells m_left m_calls m_cDay m_cHour m_cFrom m_cAsk m_cWord m_cOf m_isLie m_children m_learned m_group x2 x3 x4 x5 x6 x7 (1 : Int32) (0 : Int32) r0 z_m_manyA z_m_rowA z_m_manyB z_m_rowB (fX9_cut_p69 n m_letters m_words m_wMany m_wLetters x2 x3 x4 k) ih n _ _ ls h hP hD hS (lv_sub hl [2, 3, 4, 5, 6, 7, 8, 1, 0] rfl)
theorem kX9_cut_p69 {p : Program} {l : Launch} {e : Env} {s : State} {m : MethodId} {args : Array Value} {below : List Frame} {meth : Method} {c : Code} {A : Nat → Prop} (dC : Nat → ClassId) (dI : Nat → Nat → Nat) (cB cI cJ cZ : ClassId) (a : Nat → Nat) (C0 : cxt cX9_cut (some .int) 11 RX9 wsX9_cut (dC, dI) (tyz cB cI cJ cZ) E_0 A p s m args meth c) (n : Nat) (m_letters : Nat → Int32) (m_words : Int32) (m_wMany : Nat → Int32) (m_wLetters : Nat → Int32) (m_asks : Int32) (m_aWords : Nat → Int32) (m_dLetters : Nat → Int32) (m_dWords : Int32) (m_dMany : Nat → Int32) (m_dText : Nat → Int32) (m_dAsks : Int32) (m_dAsk : Nat → Int32) (m_tape : Nat → Int32) (m_taped : Int32) (m_pos : Int32) (m_from : Int32) (m_sort : Int32) (m_value : Int32) (m_fault : Int32) (m_wrongAt : Int32) (m_manyA : Int32) (m_rowA : Nat → Int32) (m_manyB : Int32) (m_rowB : Nat → Int32) (m_places : Int32) (m_xs : Nat → Int32) (m_ys : Nat → Int32) (m_heights : Nat → Int32) (m_ridges : Int32) (m_rx : Nat → Int32) (m_rHeight : Nat → Int32) (m_lanes : Nat → Int32) (m_sizes : Nat → Int32) (m_cells : Nat → Int32) (m_left : Nat → Int32) (m_calls : Int32) (m_cDay : Nat → Int32) (m_cHour : Nat → Int32) (m_cFrom : Nat → Int32) (m_cAsk : Nat → Int32) (m_cWord : Nat → Int32) (m_cOf : Nat → Int32) (m_isLie : Nat → Int32) (m_children : Int32) (m_learned : Nat → Int32) (m_group : Nat → Int32)  (x2 : Int32) (x3 : Int32) (x4 : Int32) (x5 : Int32) (x6 : Int32) (x7 : Int32) (r0 : Int32) (z_m_manyA : Int32) (z_m_rowA : Nat → Int32) (z_m_manyB : Int32) (z_m_rowB : Nat → Int32)  (k : Nat) (H : Heap) (locs : List Loc) (ls : Array Slot) : fX9_cut_p69 n m_letters m_words m_wMany m_wLetters x2 x3 x4 k m_manyA m_rowA m_manyB m_rowB x5 x6 x7 = some (r0, z_m_manyA, z_m_rowA, z_m_manyB, z_m_rowB) → va_P (dC, dI) vwCl (wM cB cI cJ cZ a m_letters m_words m_wMany m_wLetters m_asks m_aWords m_dLetters m_dWords m_dMany m_dText m_dAsks m_dAsk m_tape m_taped m_pos m_from m_sort m_value m_fault m_wrongAt m_manyA m_rowA m_manyB m_rowB m_places m_xs m_ys m_heights m_ridges m_rx m_rHeight m_lanes m_sizes m_cells m_left m_calls m_cDay m_cHour m_cFrom m_cAsk m_cWord m_cOf m_isLie m_children m_learned m_group) H → va_D A (wM cB cI cJ cZ a m_letters m_words m_wMany m_wLetters m_asks m_aWords m_dLetters m_dWords m_dMany m_dText m_dAsks m_dAsk m_tape m_taped m_pos m_from m_sort m_value m_fault m_wrongAt m_manyA m_rowA m_manyB m_rowB m_places m_xs m_ys m_heights m_ridges m_rx m_rHeight m_lanes m_sizes m_cells m_left m_calls m_cDay m_cHour m_cFrom m_cAsk m_cWord m_cOf m_isLie m_children m_learned m_group) → va_S A s.heap H locs → lv_has ls 11 [(0, .ref (a 0)), (2, .int x2), (3, .int x3), (4, .int x4), (5, .int x5), (6, .int x6), (7, .int x7)] → W p l e { frames := 3, cells := 0, slots := 0, locals := 72 } s m args below meth c H locs 0 0 (MQ below (gI (dC, dI) (tyz cB cI cJ cZ) (wM cB cI cJ cZ a m_letters m_words m_wMany m_wLetters m_asks m_aWords m_dLetters m_dWords m_dMany m_dText m_dAsks m_dAsk m_tape m_taped m_pos m_from m_sort m_value m_fault m_wrongAt z_m_manyA z_m_rowA z_m_manyB z_m_rowB m_places m_xs m_ys m_heights m_ridges m_rx m_rHeight m_lanes m_sizes m_cells m_left m_calls m_cDay m_cHour m_cFrom m_cAsk m_cWord m_cOf m_isLie m_children m_learned m_group) A r0) args s 0 0 A) (F0 m 69 ls []) :=
  kX9_cut_p69_r dC dI cB cI cJ cZ a C0 n m_letters m_words m_wMany m_wLetters m_asks m_aWords m_dLetters m_dWords m_dMany m_dText m_dAsks m_dAsk m_tape m_taped m_pos m_from m_sort m_value m_fault m_wrongAt m_places m_xs m_ys m_heights m_ridges m_rx m_rHeight m_lanes m_sizes m_cells m_left m_calls m_cDay m_cHour m_cFrom m_cAsk m_cWord m_cOf m_isLie m_children m_learned m_group x2 x3 x4 r0 z_m_manyA z_m_rowA z_m_manyB z_m_rowB  k m_manyA m_rowA m_manyB m_rowB x5 x6 x7 H locs ls
set_option maxHeartbeats 4000000 in
set_option maxRecDepth 100000 in
theorem kX9_cut_p14 {p : Program} {l : Launch} {e : Env} {s : State} {m : MethodId} {args : Array Value} {below : List Frame} {meth : Method} {c : Code} {A : Nat → Prop} (dC : Nat → ClassId) (dI : Nat → Nat → Nat) (cB cI cJ cZ : ClassId) (a : Nat → Nat) (C0 : cxt cX9_cut (some .int) 11 RX9 wsX9_cut (dC, dI) (tyz cB cI cJ cZ) E_0 A p s m args meth c) (n : Nat) (m_letters : Nat → Int32) (m_words : Int32) (m_wMany : Nat → Int32) (m_wLetters : Nat → Int32) (m_asks : Int32) (m_aWords : Nat → Int32) (m_dLetters : Nat → Int32) (m_dWords : Int32) (m_dMany : Nat → Int32) (m_dText : Nat → Int32) (m_dAsks : Int32) (m_dAsk : Nat → Int32) (m_tape : Nat → Int32) (m_taped : Int32) (m_pos : Int32) (m_from : Int32) (m_sort : Int32) (m_value : Int32) (m_fault : Int32) (m_wrongAt : Int32) (m_manyA : Int32) (m_rowA : Nat → Int32) (m_manyB : Int32) (m_rowB : Nat → Int32) (m_places : Int32) (m_xs : Nat → Int32) (m_ys : Nat → Int32) (m_heights : Nat → Int32) (m_ridges : Int32) (m_rx : Nat → Int32) (m_rHeight : Nat → Int32) (m_lanes : Nat → Int32) (m_sizes : Nat → Int32) (m_cells : Nat → Int32) (m_left : Nat → Int32) (m_calls : Int32) (m_cDay : Nat → Int32) (m_cHour : Nat → Int32) (m_cFrom : Nat → Int32) (m_cAsk : Nat → Int32) (m_cWord : Nat → Int32) (m_cOf : Nat → Int32) (m_isLie : Nat → Int32) (m_children : Int32) (m_learned : Nat → Int32) (m_group : Nat → Int32)  (x1 : Int32) (x2 : Int32) (x3 : Int32)  (r0 : Int32) (z_m_manyA : Int32) (z_m_rowA : Nat → Int32) (z_m_manyB : Int32) (z_m_rowB : Nat → Int32)  (H : Heap) (locs : List Loc) (ls : Array Slot) : fX9_cut_p14 n m_letters m_words m_wMany m_wLetters m_aWords m_manyA m_rowA m_manyB m_rowB x1 x2 x3 = some (r0, z_m_manyA, z_m_rowA, z_m_manyB, z_m_rowB) → va_P (dC, dI) vwCl (wM cB cI cJ cZ a m_letters m_words m_wMany m_wLetters m_asks m_aWords m_dLetters m_dWords m_dMany m_dText m_dAsks m_dAsk m_tape m_taped m_pos m_from m_sort m_value m_fault m_wrongAt m_manyA m_rowA m_manyB m_rowB m_places m_xs m_ys m_heights m_ridges m_rx m_rHeight m_lanes m_sizes m_cells m_left m_calls m_cDay m_cHour m_cFrom m_cAsk m_cWord m_cOf m_isLie m_children m_learned m_group) H → va_D A (wM cB cI cJ cZ a m_letters m_words m_wMany m_wLetters m_asks m_aWords m_dLetters m_dWords m_dMany m_dText m_dAsks m_dAsk m_tape m_taped m_pos m_from m_sort m_value m_fault m_wrongAt m_manyA m_rowA m_manyB m_rowB m_places m_xs m_ys m_heights m_ridges m_rx m_rHeight m_lanes m_sizes m_cells m_left m_calls m_cDay m_cHour m_cFrom m_cAsk m_cWord m_cOf m_isLie m_children m_learned m_group) → va_S A s.heap H locs → lv_has ls 11 [(0, .ref (a 0)), (1, .int x1), (2, .int x2), (3, .int x3)] → W p l e { frames := 3, cells := 0, slots := 0, locals := 72 } s m args below meth c H locs 0 0 (MQ below (gI (dC, dI) (tyz cB cI cJ cZ) (wM cB cI cJ cZ a m_letters m_words m_wMany m_wLetters m_asks m_aWords m_dLetters m_dWords m_dMany m_dText m_dAsks m_dAsk m_tape m_taped m_pos m_from m_sort m_value m_fault m_wrongAt z_m_manyA z_m_rowA z_m_manyB z_m_rowB m_places m_xs m_ys m_heights m_ridges m_rx m_rHeight m_lanes m_sizes m_cells m_left m_calls m_cDay m_cHour m_cFrom m_cAsk m_cWord m_cOf m_isLie m_children m_learned m_group) A r0) args s 0 0 A) (F0 m 14 ls []) := by
  intro h hP hD hS hl
  obtain ⟨hx, hb, hr, hml, hown, hts, hlocks, hK, hA, hE⟩ := id C0
  have hw0 := hts (.constantLong RX9 230 (2)) (by decide +kernel)
  have hw1 := hts (.fieldLink RX9 19 "WhistledWordsModel" "aWords" "[I") (by decide +kernel)
  have hw2 := hts (.fieldLink RX9 186 "WhistledWordsModel" "words" "I") (by decide +kernel)
  have hnX9 : ∀ w ∈ u_ws RX9 TX9 46, w ∈ wsX9_cut := fun _ h => List.mem_cons_of_mem _ (List.mem_append_right _ h)
  unfold fX9_cut_p14 at h
  refine lv_iload_n hx hb dX9_cut_14 rfl (lv_at hl 2 rfl) ?_
  obtain ⟨v1, hc, h⟩ := bd1_use h
  refine cs_i (As := [.int x2]) (rest := []) ⟨hx, hb, hml, hown, hts⟩ (kX9_isBlur l n x2 v1 hc) (va_cwS 1 hts gX9_cut_X9_isBlur rfl rfl rfl (by decide +kernel) ⟨Nat.le_of_ble_eq_true rfl, Nat.le_of_ble_eq_true rfl⟩) hP hS rfl hl.1 rfl (Nat.le_of_ble_eq_true rfl) dX9_cut_15 ⟨Nat.zero_le _, Nat.zero_le _⟩ (fun H locs hP hS => ?_)
  refine lv_if_eq (tgt := 33) hx hb dX9_cut_18 (by decide) (fun c2 => ?_) (fun c2 => ?_)
  · have h := it_use c2 h
    refine lv_iconst (v := -1) hx hb dX9_cut_33 (by decide) ?_
    obtain ⟨er, ez0, ez1, ez2, ez3⟩ := rt5_use h
    subst ez0
    subst ez1
    subst ez2
    subst ez3
    exact re_i hx hb hr hlocks hK hP hD hS er dX9_cut_34
  · have h := ie_use c2 h
    refine lv_iload_n hx hb dX9_cut_21 rfl (lv_at hl 3 rfl) ?_
    refine lv_i2l hx hb dX9_cut_22 rfl ?_
    refine lv_lconst (v := 0) hx hb dX9_cut_23 (by decide) ?_
    refine lv_ldc2 hx hb hown hw0 dX9_cut_24 ?_
    obtain ⟨v3, hc, h⟩ := bd1_use h
    refine cs_i (As := [.long x3.toInt64, .long (0 : Int64), .long (2 : Int64)]) (rest := []) ⟨hx, hb, hml, hown, hts⟩ (kX9_in l n x3.toInt64 (0 : Int64) (2 : Int64) v3 hc) (va_cwS 3 hts gX9_cut_X9_in rfl rfl rfl (by decide +kernel) ⟨Nat.le_of_ble_eq_true rfl, Nat.le_of_ble_eq_true rfl⟩) hP hS rfl hl.1 rfl (Nat.le_of_ble_eq_true rfl) dX9_cut_27 ⟨Nat.zero_le _, Nat.zero_le _⟩ (fun H locs hP hS => ?_)
    refine lv_if_ne (tgt := 35) hx hb dX9_cut_30 (by decide) (fun c4 => ?_) (fun c4 => ?_)
    · have h := ie_use c4 h
      refine lv_iload_n hx hb dX9_cut_35 rfl (lv_at hl 1 rfl) ?_
      refine lv_bipush (v := -4) hx hb dX9_cut_36 (by decide) ?_
      refine lv_icmp_ne (tgt := 52) hx hb dX9_cut_38 (by decide) (fun c5 => ?_) (fun c5 => ?_)
      · have h := ie_use c5 h
        refine lv_aload_n hx hb dX9_cut_52 rfl (lv_at hl 0 rfl) ?_
        refine gM_mo_aWords hx hb hts hnX9 hown hK hP hw1 dX9_cut_53 ?_
        refine lv_iload_n hx hb dX9_cut_56 rfl (lv_at hl 1 rfl) ?_
        obtain ⟨hiv6, h⟩ := ar_use h
        refine lM_mo_aWords hx hb hK hP hiv6 dX9_cut_57 ?_
        refine lv_topi (fun v6 ev6 => ?_)
        have h := h v6 ev6
        refine lv_istore (lv' := [(4, .int v6), (0, .ref (a 0)), (1, .int x1), (2, .int x2), (3, .int x3)]) hx hb dX9_cut_58 hl (by decide) rfl (fun ls hl => ?_)
        refine lv_iconst (v := 0) hx hb dX9_cut_60 (by decide) ?_
        refine lv_istore (lv' := [(5, .int (0 : Int32)), (4, .int v6), (0, .ref (a 0)), (1, .int x1), (2, .int x2), (3, .int x3)]) hx hb dX9_cut_61 hl (by decide) rfl (fun ls hl => ?_)
        refine lv_iconst (v := 0) hx hb dX9_cut_63 (by decide) ?_
        refine lv_istore (lv' := [(6, .int (0 : Int32)), (5, .int (0 : Int32)), (4, .int v6), (0, .ref (a 0)), (1, .int x1), (2, .int x2), (3, .int x3)]) hx hb dX9_cut_64 hl (by decide) rfl (fun ls hl => ?_)
        refine lv_iconst (v := 0) hx hb dX9_cut_66 (by decide) ?_
        refine lv_istore (lv' := [(7, .int (0 : Int32)), (6, .int (0 : Int32)), (5, .int (0 : Int32)), (4, .int v6), (0, .ref (a 0)), (1, .int x1), (2, .int x2), (3, .int x3)]) hx hb dX9_cut_67 hl (by decide) rfl (fun ls hl => ?_)
        exact kX9_cut_p69 dC dI cB cI cJ cZ a C0 n m_letters m_words m_wMany m_wLetters m_asks m_aWords m_dLetters m_dWords m_dMany m_dText m_dAsks m_dAsk m_tape m_taped m_pos m_from m_sort m_value m_fault m_wrongAt m_manyA m_rowA m_manyB m_rowB m_places m_xs m_ys m_heights m_ridges m_rx m_rHeight m_lanes m_sizes m_cells m_left m_calls m_cDay m_cHour m_cFrom m_cAsk m_cWord m_cOf m_isLie m_children m_learned m_group x2 x3 v6 (0 : Int32) (0 : Int32) (0 : Int32) r0 z_m_manyA z_m_rowA z_m_manyB z_m_rowB  n _ _ ls h hP hD hS (lv_sub hl [4, 6, 7, 3, 2, 1, 0] rfl)
      · have h := it_use c5 h
        refine lv_iconst (v := 1) hx hb dX9_cut_41 (by decide) ?_
        refine lv_aload_n hx hb dX9_cut_42 rfl (lv_at hl 0 rfl) ?_
        refine gM_mo_words hx hb hts hnX9 hown hK hP hw2 dX9_cut_43 ?_
        refine lv_ishl hx hb dX9_cut_46 ?_
        refine lv_iconst (v := 1) hx hb dX9_cut_47 (by decide) ?_
        refine lv_isub hx hb dX9_cut_48 ?_
        refine lv_goto (tgt := 58) hx hb dX9_cut_49 (by decide) ?_
        refine lv_topi (fun v7 ev7 => ?_)
        have h := nm_use ev7 h
        refine lv_istore (lv' := [(4, .int v7), (0, .ref (a 0)), (1, .int x1), (2, .int x2), (3, .int x3)]) hx hb dX9_cut_58 hl (by decide) rfl (fun ls hl => ?_)
        refine lv_iconst (v := 0) hx hb dX9_cut_60 (by decide) ?_
        refine lv_istore (lv' := [(5, .int (0 : Int32)), (4, .int v7), (0, .ref (a 0)), (1, .int x1), (2, .int x2), (3, .int x3)]) hx hb dX9_cut_61 hl (by decide) rfl (fun ls hl => ?_)
        refine lv_iconst (v := 0) hx hb dX9_cut_63 (by decide) ?_
        refine lv_istore (lv' := [(6, .int (0 : Int32)), (5, .int (0 : Int32)), (4, .int v7), (0, .ref (a 0)), (1, .int x1), (2, .int x2), (3, .int x3)]) hx hb dX9_cut_64 hl (by decide) rfl (fun ls hl => ?_)
        refine lv_iconst (v := 0) hx hb dX9_cut_66 (by decide) ?_
        refine lv_istore (lv' := [(7, .int (0 : Int32)), (6, .int (0 : Int32)), (5, .int (0 : Int32)), (4, .int v7), (0, .ref (a 0)), (1, .int x1), (2, .int x2), (3, .int x3)]) hx hb dX9_cut_67 hl (by decide) rfl (fun ls hl => ?_)
        exact kX9_cut_p69 dC dI cB cI cJ cZ a C0 n m_letters m_words m_wMany m_wLetters m_asks m_aWords m_dLetters m_dWords m_dMany m_dText m_dAsks m_dAsk m_tape m_taped m_pos m_from m_sort m_value m_fault m_wrongAt m_manyA m_rowA m_manyB m_rowB m_places m_xs m_ys m_heights m_ridges m_rx m_rHeight m_lanes m_sizes m_cells m_left m_calls m_cDay m_cHour m_cFrom m_cAsk m_cWord m_cOf m_isLie m_children m_learned m_group x2 x3 v7 (0 : Int32) (0 : Int32) (0 : Int32) r0 z_m_manyA z_m_rowA z_m_manyB z_m_rowB  n _ _ ls h hP hD hS (lv_sub hl [4, 6, 7, 3, 2, 1, 0] rfl)
    · have h := it_use c4 h
      refine lv_iconst (v := -1) hx hb dX9_cut_33 (by decide) ?_
      obtain ⟨er, ez0, ez1, ez2, ez3⟩ := rt5_use h
      subst ez0
      subst ez1
      subst ez2
      subst ez3
      exact re_i hx hb hr hlocks hK hP hD hS er dX9_cut_34
set_option maxHeartbeats 4000000 in
set_option maxRecDepth 100000 in
theorem kX9_cut (l : Launch) (n : Nat) (dC : Nat → ClassId) (dI : Nat → Nat → Nat) (cB cI cJ cZ : ClassId) (a : Nat → Nat) (sz : Nat) (m_letters : Nat → Int32) (m_words : Int32) (m_wMany : Nat → Int32) (m_wLetters : Nat → Int32) (m_asks : Int32) (m_aWords : Nat → Int32) (m_dLetters : Nat → Int32) (m_dWords : Int32) (m_dMany : Nat → Int32) (m_dText : Nat → Int32) (m_dAsks : Int32) (m_dAsk : Nat → Int32) (m_tape : Nat → Int32) (m_taped : Int32) (m_pos : Int32) (m_from : Int32) (m_sort : Int32) (m_value : Int32) (m_fault : Int32) (m_wrongAt : Int32) (m_manyA : Int32) (m_rowA : Nat → Int32) (m_manyB : Int32) (m_rowB : Nat → Int32) (m_places : Int32) (m_xs : Nat → Int32) (m_ys : Nat → Int32) (m_heights : Nat → Int32) (m_ridges : Int32) (m_rx : Nat → Int32) (m_rHeight : Nat → Int32) (m_lanes : Nat → Int32) (m_sizes : Nat → Int32) (m_cells : Nat → Int32) (m_left : Nat → Int32) (m_calls : Int32) (m_cDay : Nat → Int32) (m_cHour : Nat → Int32) (m_cFrom : Nat → Int32) (m_cAsk : Nat → Int32) (m_cWord : Nat → Int32) (m_cOf : Nat → Int32) (m_isLie : Nat → Int32) (m_children : Int32) (m_learned : Nat → Int32) (m_group : Nat → Int32) (x1 : Int32) (x2 : Int32) (x3 : Int32) (r0 : Int32) (z_m_manyA : Int32) (z_m_rowA : Nat → Int32) (z_m_manyB : Int32) (z_m_rowB : Nat → Int32) (h : fX9_cut n m_letters m_words m_wMany m_wLetters m_asks m_aWords m_manyA m_rowA m_manyB m_rowB x1 x2 x3 = some (r0, z_m_manyA, z_m_rowA, z_m_manyB, z_m_rowB)) : Met l yX9_cut wsX9_cut ({ frames := 3, cells := 0, slots := 0, locals := 72 }) (gP (dC, dI) (tyz cB cI cJ cZ) E_0 (wM cB cI cJ cZ a m_letters m_words m_wMany m_wLetters m_asks m_aWords m_dLetters m_dWords m_dMany m_dText m_dAsks m_dAsk m_tape m_taped m_pos m_from m_sort m_value m_fault m_wrongAt m_manyA m_rowA m_manyB m_rowB m_places m_xs m_ys m_heights m_ridges m_rx m_rHeight m_lanes m_sizes m_cells m_left m_calls m_cDay m_cHour m_cFrom m_cAsk m_cWord m_cOf m_isLie m_children m_learned m_group) sz [.ref (a 0), .int x1, .int x2, .int x3]) (gI (dC, dI) (tyz cB cI cJ cZ) (wM cB cI cJ cZ a m_letters m_words m_wMany m_wLetters m_asks m_aWords m_dLetters m_dWords m_dMany m_dText m_dAsks m_dAsk m_tape m_taped m_pos m_from m_sort m_value m_fault m_wrongAt z_m_manyA z_m_rowA z_m_manyB z_m_rowB m_places m_xs m_ys m_heights m_ridges m_rx m_rHeight m_lanes m_sizes m_cells m_left m_calls m_cDay m_cHour m_cFrom m_cAsk m_cWord m_cOf m_isLie m_children m_learned m_group) (va_A (wM cB cI cJ cZ a m_letters m_words m_wMany m_wLetters m_asks m_aWords m_dLetters m_dWords m_dMany m_dText m_dAsks m_dAsk m_tape m_taped m_pos m_from m_sort m_value m_fault m_wrongAt m_manyA m_rowA m_manyB m_rowB m_places m_xs m_ys m_heights m_ridges m_rx m_rHeight m_lanes m_sizes m_cells m_left m_calls m_cDay m_cHour m_cFrom m_cAsk m_cWord m_cOf m_isLie m_children m_learned m_group) sz) r0) 0 0 (va_A (wM cB cI cJ cZ a m_letters m_words m_wMany m_wLetters m_asks m_aWords m_dLetters m_dWords m_dMany m_dText m_dAsks m_dAsk m_tape m_taped m_pos m_from m_sort m_value m_fault m_wrongAt m_manyA m_rowA m_manyB m_rowB m_places m_xs m_ys m_heights m_ridges m_rx m_rHeight m_lanes m_sizes m_cells m_left m_calls m_cDay m_cHour m_cFrom m_cAsk m_cWord m_cOf m_isLie m_children m_learned m_group) sz) := by
  refine Met.ofW (cc := cX9_cut) (maxL := 11) (ret := (some .int)) (by decide) rfl ?_
  intro p e s m args below meth c s₁ B hml hv
  obtain ⟨rfl, hsz, hP, hK, hD0, hE⟩ := hv
  have hx := B.exec
  have hb := B.bytes
  have hr := B.returns
  have hts := atoms_spec (ws := wsX9_cut) B.pre
  have hown : s.vm.findClass RX9 = some m.cls := findClass_of_methodNamed B.named
  have hlocks := B.notSynchronized
  subst hsz
  have hD := hD0.self (sz := s.heap.size)
  have hA : ∀ q : Nat, s.heap.size ≤ q → va_A (wM cB cI cJ cZ a m_letters m_words m_wMany m_wLetters m_asks m_aWords m_dLetters m_dWords m_dMany m_dText m_dAsks m_dAsk m_tape m_taped m_pos m_from m_sort m_value m_fault m_wrongAt m_manyA m_rowA m_manyB m_rowB m_places m_xs m_ys m_heights m_ridges m_rx m_rHeight m_lanes m_sizes m_cells m_left m_calls m_cDay m_cHour m_cFrom m_cAsk m_cWord m_cOf m_isLie m_children m_learned m_group) s.heap.size q := fun q h => Or.inr h
  generalize va_A (wM cB cI cJ cZ a m_letters m_words m_wMany m_wLetters m_asks m_aWords m_dLetters m_dWords m_dMany m_dText m_dAsks m_dAsk m_tape m_taped m_pos m_from m_sort m_value m_fault m_wrongAt m_manyA m_rowA m_manyB m_rowB m_places m_xs m_ys m_heights m_ridges m_rx m_rHeight m_lanes m_sizes m_cells m_left m_calls m_cDay m_cHour m_cFrom m_cAsk m_cWord m_cOf m_isLie m_children m_learned m_group) s.heap.size = A at hD hA hE ⊢
  have hS : va_S A s.heap s.heap [] := va_S.rf
  have C0 : cxt cX9_cut (some .int) 11 RX9 wsX9_cut (dC, dI) (tyz cB cI cJ cZ) E_0 A p s m ([.ref (a 0), .int x1, .int x2, .int x3] : List Value).toArray meth c := ⟨hx, hb, hr, hml, hown, hts, hlocks, hK, hA, hE⟩
  have hl := lv_entry ([.ref (a 0), .int x1, .int x2, .int x3]) (n := 11) (Nat.le_of_ble_eq_true rfl)
  rw [lg_entry_eq]
  generalize (lg_sl ([.ref (a 0), .int x1, .int x2, .int x3]) ++ List.replicate (11 - (lg_sl ([.ref (a 0), .int x1, .int x2, .int x3])).length) Slot.unset).toArray = ls at hl ⊢
  have hl : lv_has ls 11 [(0, .ref (a 0)), (1, .int x1), (2, .int x2), (3, .int x3)] := hl
  unfold fX9_cut at h
  refine lv_iload_n hx hb dX9_cut_0 rfl (lv_at hl 1 rfl) ?_
  refine lv_bipush (v := -4) hx hb dX9_cut_1 (by decide) ?_
  refine lv_icmp_eq (tgt := 14) hx hb dX9_cut_3 (by decide) (fun c1 => ?_) (fun c1 => ?_)
  · have h := it_use c1 h
    exact kX9_cut_p14 dC dI cB cI cJ cZ a C0 n m_letters m_words m_wMany m_wLetters m_asks m_aWords m_dLetters m_dWords m_dMany m_dText m_dAsks m_dAsk m_tape m_taped m_pos m_from m_sort m_value m_fault m_wrongAt m_manyA m_rowA m_manyB m_rowB m_places m_xs m_ys m_heights m_ridges m_rx m_rHeight m_lanes m_sizes m_cells m_left m_calls m_cDay m_cHour m_cFrom m_cAsk m_cWord m_cOf m_isLie m_children m_learned m_group x1 x2 x3  r0 z_m_manyA z_m_rowA z_m_manyB z_m_rowB  _ _ ls h hP hD hS (lv_sub hl [0, 1, 2, 3] rfl)
  · have h := ie_use c1 h
    refine lv_aload_n hx hb dX9_cut_6 rfl (lv_at hl 0 rfl) ?_
    refine lv_iload_n hx hb dX9_cut_7 rfl (lv_at hl 1 rfl) ?_
    obtain ⟨v2, hc, h⟩ := bd1_use h
    refine cv_i (As := [.int x1]) (rest := []) ⟨hx, hb, hml, hown, hts⟩ (kX9_isAsk l n dC dI cB cI cJ cZ a _ m_letters m_words m_wMany m_wLetters m_asks m_aWords m_dLetters m_dWords m_dMany m_dText m_dAsks m_dAsk m_tape m_taped m_pos m_from m_sort m_value m_fault m_wrongAt m_manyA m_rowA m_manyB m_rowB m_places m_xs m_ys m_heights m_ridges m_rx m_rHeight m_lanes m_sizes m_cells m_left m_calls m_cDay m_cHour m_cFrom m_cAsk m_cWord m_cOf m_isLie m_children m_learned m_group x1 v2 hc) (cwV 1 hts gX9_cut_X9_isAsk rfl rfl rfl (by decide +kernel) ⟨Nat.le_of_ble_eq_true rfl, Nat.le_of_ble_eq_true rfl⟩) EB_0 hE hK hP hD hS hA 0 (ci := 8) rfl rfl rfl rfl hl.1 rfl (Nat.le_of_ble_eq_true rfl) dX9_cut_8 ⟨Nat.zero_le _, Nat.zero_le _⟩ (fun H locs hP hD hS => ?_)
    refine lv_if_eq (tgt := 33) hx hb dX9_cut_11 (by decide) (fun c3 => ?_) (fun c3 => ?_)
    · have h := it_use c3 h
      refine lv_iconst (v := -1) hx hb dX9_cut_33 (by decide) ?_
      obtain ⟨er, ez0, ez1, ez2, ez3⟩ := rt5_use h
      subst ez0
      subst ez1
      subst ez2
      subst ez3
      exact re_i hx hb hr hlocks hK hP hD hS er dX9_cut_34
    · have h := ie_use c3 h
      exact kX9_cut_p14 dC dI cB cI cJ cZ a C0 n m_letters m_words m_wMany m_wLetters m_asks m_aWords m_dLetters m_dWords m_dMany m_dText m_dAsks m_dAsk m_tape m_taped m_pos m_from m_sort m_value m_fault m_wrongAt m_manyA m_rowA m_manyB m_rowB m_places m_xs m_ys m_heights m_ridges m_rx m_rHeight m_lanes m_sizes m_cells m_left m_calls m_cDay m_cHour m_cFrom m_cAsk m_cWord m_cOf m_isLie m_children m_learned m_group x1 x2 x3  r0 z_m_manyA z_m_rowA z_m_manyB z_m_rowB  _ _ ls h hP hD hS (lv_sub hl [0, 1, 2, 3] rfl)
